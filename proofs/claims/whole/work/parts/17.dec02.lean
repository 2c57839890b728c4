theorem dX10_forget_38 : decode cX10_forget 38 = .ok (.iload_n 1, 1) := by decide +kernel
theorem dX10_forget_39 : decode cX10_forget 39 = .ok (.ifCond .ne 14, 3) := by decide +kernel
theorem dX10_forget_42 : decode cX10_forget 42 = .ok (.aload_n 0, 1) := by decide +kernel
theorem dX10_forget_43 : decode cX10_forget 43 = .ok (.getfield 12, 3) := by decide +kernel
theorem dX10_forget_46 : decode cX10_forget 46 = .ok (.iconst 0, 1) := by decide +kernel
theorem dX10_forget_47 : decode cX10_forget 47 = .ok (.putfield 203, 3) := by decide +kernel
theorem dX10_forget_50 : decode cX10_forget 50 = .ok (.goto 11, 3) := by decide +kernel
theorem dX10_forget_53 : decode cX10_forget 53 = .ok (.aload_n 0, 1) := by decide +kernel
theorem dX10_forget_54 : decode cX10_forget 54 = .ok (.getfield 12, 3) := by decide +kernel
theorem dX10_forget_57 : decode cX10_forget 57 = .ok (.iconst 0, 1) := by decide +kernel
theorem dX10_forget_58 : decode cX10_forget 58 = .ok (.putfield 206, 3) := by decide +kernel
theorem dX10_forget_61 : decode cX10_forget 61 = .ok (.iload_n 2, 1) := by decide +kernel
theorem dX10_forget_62 : decode cX10_forget 62 = .ok (.ireturn, 1) := by decide +kernel
theorem dX10_is_0 : decode cX10_is 0 = .ok (.aload_n 0, 1) := by decide +kernel
theorem dX10_is_1 : decode cX10_is 1 = .ok (.getfield 12, 3) := by decide +kernel
theorem dX10_is_4 : decode cX10_is 4 = .ok (.iload_n 1, 1) := by decide +kernel
theorem dX10_is_5 : decode cX10_is 5 = .ok (.invokevirtual 132, 3) := by decide +kernel
theorem dX10_is_8 : decode cX10_is 8 = .ok (.ifCond .ne 10, 3) := by decide +kernel
theorem dX10_is_11 : decode cX10_is 11 = .ok (.aload_n 0, 1) := by decide +kernel
theorem dX10_is_12 : decode cX10_is 12 = .ok (.bipush (-2), 2) := by decide +kernel
theorem dX10_is_14 : decode cX10_is 14 = .ok (.invokevirtual 73, 3) := by decide +kernel
theorem dX10_is_17 : decode cX10_is 17 = .ok (.ireturn, 1) := by decide +kernel
theorem dX10_is_18 : decode cX10_is 18 = .ok (.aload_n 0, 1) := by decide +kernel
theorem dX10_is_19 : decode cX10_is 19 = .ok (.iload_n 1, 1) := by decide +kernel
theorem dX10_is_20 : decode cX10_is 20 = .ok (.invokevirtual 209, 3) := by decide +kernel
theorem dX10_is_23 : decode cX10_is 23 = .ok (.ireturn, 1) := by decide +kernel
theorem dX10_look_0 : decode cX10_look 0 = .ok (.aload_n 0, 1) := by decide +kernel
theorem dX10_look_1 : decode cX10_look 1 = .ok (.getfield 12, 3) := by decide +kernel
theorem dX10_look_4 : decode cX10_look 4 = .ok (.iload_n 1, 1) := by decide +kernel
theorem dX10_look_5 : decode cX10_look 5 = .ok (.invokevirtual 132, 3) := by decide +kernel
theorem dX10_look_8 : decode cX10_look 8 = .ok (.ifCond .ne 10, 3) := by decide +kernel
theorem dX10_look_11 : decode cX10_look 11 = .ok (.aload_n 0, 1) := by decide +kernel
theorem dX10_look_12 : decode cX10_look 12 = .ok (.bipush (-2), 2) := by decide +kernel
theorem dX10_look_14 : decode cX10_look 14 = .ok (.invokevirtual 73, 3) := by decide +kernel
theorem dX10_look_17 : decode cX10_look 17 = .ok (.ireturn, 1) := by decide +kernel
theorem dX10_look_18 : decode cX10_look 18 = .ok (.aload_n 0, 1) := by decide +kernel
theorem dX10_look_19 : decode cX10_look 19 = .ok (.iload_n 1, 1) := by decide +kernel
theorem dX10_look_20 : decode cX10_look 20 = .ok (.invokevirtual 209, 3) := by decide +kernel
theorem dX10_look_23 : decode cX10_look 23 = .ok (.istore_n 2, 1) := by decide +kernel
theorem dX10_look_24 : decode cX10_look 24 = .ok (.iload_n 2, 1) := by decide +kernel
theorem dX10_look_25 : decode cX10_look 25 = .ok (.ifCond .ne 7, 3) := by decide +kernel
theorem dX10_look_28 : decode cX10_look 28 = .ok (.iconst (-1), 1) := by decide +kernel
theorem dX10_look_29 : decode cX10_look 29 = .ok (.goto 17, 3) := by decide +kernel
theorem dX10_look_32 : decode cX10_look 32 = .ok (.aload_n 0, 1) := by decide +kernel
theorem dX10_look_33 : decode cX10_look 33 = .ok (.iload_n 2, 1) := by decide +kernel
theorem dX10_look_34 : decode cX10_look 34 = .ok (.aload_n 0, 1) := by decide +kernel
theorem dX10_look_35 : decode cX10_look 35 = .ok (.getfield 12, 3) := by decide +kernel
theorem dX10_look_38 : decode cX10_look 38 = .ok (.getfield 147, 3) := by decide +kernel
theorem dX10_look_41 : decode cX10_look 41 = .ok (.iload_n 1, 1) := by decide +kernel
theorem dX10_look_42 : decode cX10_look 42 = .ok (.iaload, 1) := by decide +kernel
theorem dX10_look_43 : decode cX10_look 43 = .ok (.invokevirtual 212, 3) := by decide +kernel
theorem dX10_look_46 : decode cX10_look 46 = .ok (.ireturn, 1) := by decide +kernel
theorem dX10_had_0 : decode cX10_had 0 = .ok (.aload_n 0, 1) := by decide +kernel
theorem dX10_had_1 : decode cX10_had 1 = .ok (.getfield 12, 3) := by decide +kernel
theorem dX10_had_4 : decode cX10_had 4 = .ok (.iload_n 1, 1) := by decide +kernel
theorem dX10_had_5 : decode cX10_had 5 = .ok (.invokevirtual 132, 3) := by decide +kernel
theorem dX10_had_8 : decode cX10_had 8 = .ok (.ifCond .eq 12, 3) := by decide +kernel
theorem dX10_had_11 : decode cX10_had 11 = .ok (.iload_n 2, 1) := by decide +kernel
theorem dX10_had_12 : decode cX10_had 12 = .ok (.iconst 0, 1) := by decide +kernel
theorem dX10_had_13 : decode cX10_had 13 = .ok (.iconst 1, 1) := by decide +kernel
theorem dX10_had_14 : decode cX10_had 14 = .ok (.invokestatic 69, 3) := by decide +kernel
theorem dX10_had_17 : decode cX10_had 17 = .ok (.ifCond .ne 10, 3) := by decide +kernel
theorem dX10_had_20 : decode cX10_had 20 = .ok (.aload_n 0, 1) := by decide +kernel
theorem dX10_had_21 : decode cX10_had 21 = .ok (.bipush (-2), 2) := by decide +kernel
theorem dX10_had_23 : decode cX10_had 23 = .ok (.invokevirtual 73, 3) := by decide +kernel
theorem dX10_had_26 : decode cX10_had 26 = .ok (.ireturn, 1) := by decide +kernel
theorem dX10_had_27 : decode cX10_had 27 = .ok (.iconst 0, 1) := by decide +kernel
theorem dX10_had_28 : decode cX10_had 28 = .ok (.istore_n 3, 1) := by decide +kernel
theorem dX10_had_29 : decode cX10_had 29 = .ok (.iconst (-1), 1) := by decide +kernel
theorem dX10_had_30 : decode cX10_had 30 = .ok (.istore 4, 2) := by decide +kernel
theorem dX10_had_32 : decode cX10_had 32 = .ok (.iconst 0, 1) := by decide +kernel
theorem dX10_had_33 : decode cX10_had 33 = .ok (.istore 5, 2) := by decide +kernel
theorem dX10_had_35 : decode cX10_had 35 = .ok (.iload 5, 2) := by decide +kernel
theorem dX10_had_37 : decode cX10_had 37 = .ok (.bipush 100, 2) := by decide +kernel
theorem dX10_had_39 : decode cX10_had 39 = .ok (.if_icmp .ge 40, 3) := by decide +kernel
theorem dX10_had_42 : decode cX10_had 42 = .ok (.aload_n 0, 1) := by decide +kernel
theorem dX10_had_43 : decode cX10_had 43 = .ok (.getfield 12, 3) := by decide +kernel
theorem dX10_had_46 : decode cX10_had 46 = .ok (.iload_n 1, 1) := by decide +kernel
theorem dX10_had_47 : decode cX10_had 47 = .ok (.iload 5, 2) := by decide +kernel
theorem dX10_had_49 : decode cX10_had 49 = .ok (.invokevirtual 215, 3) := by decide +kernel
theorem dX10_had_52 : decode cX10_had 52 = .ok (.ifCond .eq 21, 3) := by decide +kernel
theorem dX10_had_55 : decode cX10_had 55 = .ok (.iinc 3 1, 3) := by decide +kernel
theorem dX10_had_58 : decode cX10_had 58 = .ok (.iload 4, 2) := by decide +kernel
theorem dX10_had_60 : decode cX10_had 60 = .ok (.iconst (-1), 1) := by decide +kernel
theorem dX10_had_61 : decode cX10_had 61 = .ok (.if_icmp .ne 8, 3) := by decide +kernel
theorem dX10_had_64 : decode cX10_had 64 = .ok (.iload 5, 2) := by decide +kernel
theorem dX10_had_66 : decode cX10_had 66 = .ok (.goto 5, 3) := by decide +kernel
theorem dX10_had_69 : decode cX10_had 69 = .ok (.iload 4, 2) := by decide +kernel
theorem dX10_had_71 : decode cX10_had 71 = .ok (.istore 4, 2) := by decide +kernel
theorem dX10_had_73 : decode cX10_had 73 = .ok (.iinc 5 1, 3) := by decide +kernel
theorem dX10_had_76 : decode cX10_had 76 = .ok (.goto (-41), 3) := by decide +kernel
theorem dX10_had_79 : decode cX10_had 79 = .ok (.iload_n 2, 1) := by decide +kernel
theorem dX10_had_80 : decode cX10_had 80 = .ok (.ifCond .ne 7, 3) := by decide +kernel
theorem dX10_had_83 : decode cX10_had 83 = .ok (.iload_n 3, 1) := by decide +kernel
theorem dX10_had_84 : decode cX10_had 84 = .ok (.goto 5, 3) := by decide +kernel
theorem dX10_had_87 : decode cX10_had 87 = .ok (.iload 4, 2) := by decide +kernel
theorem dX10_had_89 : decode cX10_had 89 = .ok (.ireturn, 1) := by decide +kernel
theorem dX10_fares_0 : decode cX10_fares 0 = .ok (.aload_n 0, 1) := by decide +kernel
theorem dX10_fares_1 : decode cX10_fares 1 = .ok (.getfield 12, 3) := by decide +kernel
theorem dX10_fares_4 : decode cX10_fares 4 = .ok (.iload_n 1, 1) := by decide +kernel
theorem dX10_fares_5 : decode cX10_fares 5 = .ok (.invokevirtual 132, 3) := by decide +kernel
theorem dX10_fares_8 : decode cX10_fares 8 = .ok (.ifCond .eq 19, 3) := by decide +kernel
theorem dX10_fares_11 : decode cX10_fares 11 = .ok (.aload_n 0, 1) := by decide +kernel
theorem dX10_fares_12 : decode cX10_fares 12 = .ok (.getfield 12, 3) := by decide +kernel
theorem dX10_fares_15 : decode cX10_fares 15 = .ok (.iload_n 2, 1) := by decide +kernel
theorem dX10_fares_16 : decode cX10_fares 16 = .ok (.invokevirtual 132, 3) := by decide +kernel
theorem dX10_fares_19 : decode cX10_fares 19 = .ok (.ifCond .eq 8, 3) := by decide +kernel
theorem dX10_fares_22 : decode cX10_fares 22 = .ok (.iload_n 1, 1) := by decide +kernel
theorem dX10_fares_23 : decode cX10_fares 23 = .ok (.iload_n 2, 1) := by decide +kernel
theorem dX10_fares_24 : decode cX10_fares 24 = .ok (.if_icmp .ne 10, 3) := by decide +kernel
theorem dX10_fares_27 : decode cX10_fares 27 = .ok (.aload_n 0, 1) := by decide +kernel
theorem dX10_fares_28 : decode cX10_fares 28 = .ok (.bipush (-2), 2) := by decide +kernel
theorem dX10_fares_30 : decode cX10_fares 30 = .ok (.invokevirtual 73, 3) := by decide +kernel
theorem dX10_fares_33 : decode cX10_fares 33 = .ok (.ireturn, 1) := by decide +kernel
theorem dX10_fares_34 : decode cX10_fares 34 = .ok (.iconst 0, 1) := by decide +kernel
theorem dX10_fares_35 : decode cX10_fares 35 = .ok (.istore_n 3, 1) := by decide +kernel
theorem dX10_fares_36 : decode cX10_fares 36 = .ok (.iconst 0, 1) := by decide +kernel
theorem dX10_fares_37 : decode cX10_fares 37 = .ok (.istore 4, 2) := by decide +kernel
theorem dX10_fares_39 : decode cX10_fares 39 = .ok (.iload 4, 2) := by decide +kernel
theorem dX10_fares_41 : decode cX10_fares 41 = .ok (.iconst 4, 1) := by decide +kernel
theorem dX10_fares_42 : decode cX10_fares 42 = .ok (.if_icmp .ge 68, 3) := by decide +kernel
theorem dX10_fares_45 : decode cX10_fares 45 = .ok (.iload 4, 2) := by decide +kernel
theorem dX10_fares_47 : decode cX10_fares 47 = .ok (.iconst 1, 1) := by decide +kernel
theorem dX10_fares_48 : decode cX10_fares 48 = .ok (.iand, 1) := by decide +kernel
theorem dX10_fares_49 : decode cX10_fares 49 = .ok (.ifCond .eq 7, 3) := by decide +kernel
theorem dX10_fares_52 : decode cX10_fares 52 = .ok (.iconst 1, 1) := by decide +kernel
theorem dX10_fares_53 : decode cX10_fares 53 = .ok (.goto 4, 3) := by decide +kernel
theorem dX10_fares_56 : decode cX10_fares 56 = .ok (.iconst 0, 1) := by decide +kernel
theorem dX10_fares_57 : decode cX10_fares 57 = .ok (.istore 5, 2) := by decide +kernel
theorem dX10_fares_59 : decode cX10_fares 59 = .ok (.iload 4, 2) := by decide +kernel
theorem dX10_fares_61 : decode cX10_fares 61 = .ok (.iconst 2, 1) := by decide +kernel
theorem dX10_fares_62 : decode cX10_fares 62 = .ok (.iand, 1) := by decide +kernel
theorem dX10_fares_63 : decode cX10_fares 63 = .ok (.ifCond .eq 7, 3) := by decide +kernel
theorem dX10_fares_66 : decode cX10_fares 66 = .ok (.iconst 1, 1) := by decide +kernel
theorem dX10_fares_67 : decode cX10_fares 67 = .ok (.goto 4, 3) := by decide +kernel
theorem dX10_fares_70 : decode cX10_fares 70 = .ok (.iconst 0, 1) := by decide +kernel
theorem dX10_fares_71 : decode cX10_fares 71 = .ok (.istore 6, 2) := by decide +kernel
theorem dX10_fares_73 : decode cX10_fares 73 = .ok (.aload_n 0, 1) := by decide +kernel
theorem dX10_fares_74 : decode cX10_fares 74 = .ok (.iload_n 1, 1) := by decide +kernel
theorem dX10_fares_75 : decode cX10_fares 75 = .ok (.iload 5, 2) := by decide +kernel
theorem dX10_fares_77 : decode cX10_fares 77 = .ok (.iload 6, 2) := by decide +kernel
theorem dX10_fares_79 : decode cX10_fares 79 = .ok (.invokevirtual 219, 3) := by decide +kernel
theorem dX10_fares_82 : decode cX10_fares 82 = .ok (.ifCond .eq 22, 3) := by decide +kernel
theorem dX10_fares_85 : decode cX10_fares 85 = .ok (.aload_n 0, 1) := by decide +kernel
theorem dX10_fares_86 : decode cX10_fares 86 = .ok (.iload_n 2, 1) := by decide +kernel
theorem dX10_fares_87 : decode cX10_fares 87 = .ok (.iload 6, 2) := by decide +kernel
theorem dX10_fares_89 : decode cX10_fares 89 = .ok (.iload 5, 2) := by decide +kernel
theorem dX10_fares_91 : decode cX10_fares 91 = .ok (.invokevirtual 219, 3) := by decide +kernel
theorem dX10_fares_94 : decode cX10_fares 94 = .ok (.ifCond .eq 10, 3) := by decide +kernel
theorem dX10_fares_97 : decode cX10_fares 97 = .ok (.iload_n 3, 1) := by decide +kernel
theorem dX10_fares_98 : decode cX10_fares 98 = .ok (.iconst 1, 1) := by decide +kernel
theorem dX10_fares_99 : decode cX10_fares 99 = .ok (.iload 4, 2) := by decide +kernel
theorem dX10_fares_101 : decode cX10_fares 101 = .ok (.ishl, 1) := by decide +kernel
theorem dX10_fares_102 : decode cX10_fares 102 = .ok (.ior, 1) := by decide +kernel
theorem dX10_fares_103 : decode cX10_fares 103 = .ok (.istore_n 3, 1) := by decide +kernel
theorem dX10_fares_104 : decode cX10_fares 104 = .ok (.iinc 4 1, 3) := by decide +kernel
theorem dX10_fares_107 : decode cX10_fares 107 = .ok (.goto (-68), 3) := by decide +kernel
theorem dX10_fares_110 : decode cX10_fares 110 = .ok (.iload_n 3, 1) := by decide +kernel
theorem dX10_fares_111 : decode cX10_fares 111 = .ok (.ireturn, 1) := by decide +kernel
theorem dX10_starts_0 : decode cX10_starts 0 = .ok (.aload_n 0, 1) := by decide +kernel
theorem dX10_starts_1 : decode cX10_starts 1 = .ok (.getfield 12, 3) := by decide +kernel
theorem dX10_starts_4 : decode cX10_starts 4 = .ok (.iload_n 1, 1) := by decide +kernel
theorem dX10_starts_5 : decode cX10_starts 5 = .ok (.invokevirtual 132, 3) := by decide +kernel
theorem dX10_starts_8 : decode cX10_starts 8 = .ok (.ifCond .eq 23, 3) := by decide +kernel
theorem dX10_starts_11 : decode cX10_starts 11 = .ok (.iload_n 2, 1) := by decide +kernel
theorem dX10_starts_12 : decode cX10_starts 12 = .ok (.iconst 0, 1) := by decide +kernel
theorem dX10_starts_13 : decode cX10_starts 13 = .ok (.bipush 6, 2) := by decide +kernel
theorem dX10_starts_15 : decode cX10_starts 15 = .ok (.invokestatic 69, 3) := by decide +kernel
theorem dX10_starts_18 : decode cX10_starts 18 = .ok (.ifCond .eq 13, 3) := by decide +kernel
theorem dX10_starts_21 : decode cX10_starts 21 = .ok (.iload_n 3, 1) := by decide +kernel
theorem dX10_starts_22 : decode cX10_starts 22 = .ok (.iconst 0, 1) := by decide +kernel
theorem dX10_starts_23 : decode cX10_starts 23 = .ok (.bipush 10, 2) := by decide +kernel
theorem dX10_starts_25 : decode cX10_starts 25 = .ok (.invokestatic 69, 3) := by decide +kernel
theorem dX10_starts_28 : decode cX10_starts 28 = .ok (.ifCond .ne 10, 3) := by decide +kernel
theorem dX10_starts_31 : decode cX10_starts 31 = .ok (.aload_n 0, 1) := by decide +kernel
theorem dX10_starts_32 : decode cX10_starts 32 = .ok (.bipush (-2), 2) := by decide +kernel
theorem dX10_starts_34 : decode cX10_starts 34 = .ok (.invokevirtual 73, 3) := by decide +kernel
theorem dX10_starts_37 : decode cX10_starts 37 = .ok (.ireturn, 1) := by decide +kernel
theorem dX10_starts_38 : decode cX10_starts 38 = .ok (.aload_n 0, 1) := by decide +kernel
theorem dX10_starts_39 : decode cX10_starts 39 = .ok (.getfield 12, 3) := by decide +kernel
theorem dX10_starts_42 : decode cX10_starts 42 = .ok (.iload_n 1, 1) := by decide +kernel
theorem dX10_starts_43 : decode cX10_starts 43 = .ok (.invokevirtual 153, 3) := by decide +kernel
theorem dX10_starts_46 : decode cX10_starts 46 = .ok (.aload_n 0, 1) := by decide +kernel
theorem dX10_starts_47 : decode cX10_starts 47 = .ok (.getfield 12, 3) := by decide +kernel
theorem dX10_starts_50 : decode cX10_starts 50 = .ok (.getfield 141, 3) := by decide +kernel
theorem dX10_starts_53 : decode cX10_starts 53 = .ok (.aload_n 0, 1) := by decide +kernel
theorem dX10_starts_54 : decode cX10_starts 54 = .ok (.getfield 12, 3) := by decide +kernel
theorem dX10_starts_57 : decode cX10_starts 57 = .ok (.getfield 147, 3) := by decide +kernel
theorem dX10_starts_60 : decode cX10_starts 60 = .ok (.iload_n 1, 1) := by decide +kernel
theorem dX10_starts_61 : decode cX10_starts 61 = .ok (.iaload, 1) := by decide +kernel
theorem dX10_starts_62 : decode cX10_starts 62 = .ok (.iload_n 2, 1) := by decide +kernel
theorem dX10_starts_63 : decode cX10_starts 63 = .ok (.iload_n 3, 1) := by decide +kernel
theorem dX10_starts_64 : decode cX10_starts 64 = .ok (.invokestatic 223, 3) := by decide +kernel
theorem dX10_starts_67 : decode cX10_starts 67 = .ok (.lstore 4, 2) := by decide +kernel
theorem dX10_starts_69 : decode cX10_starts 69 = .ok (.aload_n 0, 1) := by decide +kernel
theorem dX10_starts_70 : decode cX10_starts 70 = .ok (.lload 4, 2) := by decide +kernel
theorem dX10_starts_72 : decode cX10_starts 72 = .ok (.iload_n 2, 1) := by decide +kernel
theorem dX10_starts_73 : decode cX10_starts 73 = .ok (.invokestatic 227, 3) := by decide +kernel
theorem dX10_starts_76 : decode cX10_starts 76 = .ok (.invokevirtual 231, 3) := by decide +kernel
theorem dX10_starts_79 : decode cX10_starts 79 = .ok (.iconst 1, 1) := by decide +kernel
theorem dX10_starts_80 : decode cX10_starts 80 = .ok (.ireturn, 1) := by decide +kernel
theorem dX10_years_0 : decode cX10_years 0 = .ok (.iload_n 1, 1) := by decide +kernel
theorem dX10_years_1 : decode cX10_years 1 = .ok (.iconst 0, 1) := by decide +kernel
theorem dX10_years_2 : decode cX10_years 2 = .ok (.ldc 235, 2) := by decide +kernel
theorem dX10_years_4 : decode cX10_years 4 = .ok (.invokestatic 69, 3) := by decide +kernel
theorem dX10_years_7 : decode cX10_years 7 = .ok (.ifCond .eq 13, 3) := by decide +kernel
theorem dX10_years_10 : decode cX10_years 10 = .ok (.iload_n 2, 1) := by decide +kernel
theorem dX10_years_11 : decode cX10_years 11 = .ok (.iconst 0, 1) := by decide +kernel
theorem dX10_years_12 : decode cX10_years 12 = .ok (.bipush 60, 2) := by decide +kernel
theorem dX10_years_14 : decode cX10_years 14 = .ok (.invokestatic 69, 3) := by decide +kernel
theorem dX10_years_17 : decode cX10_years 17 = .ok (.ifCond .ne 10, 3) := by decide +kernel
theorem dX10_years_20 : decode cX10_years 20 = .ok (.aload_n 0, 1) := by decide +kernel
theorem dX10_years_21 : decode cX10_years 21 = .ok (.bipush (-2), 2) := by decide +kernel
theorem dX10_years_23 : decode cX10_years 23 = .ok (.invokevirtual 73, 3) := by decide +kernel
theorem dX10_years_26 : decode cX10_years 26 = .ok (.ireturn, 1) := by decide +kernel
theorem dX10_years_27 : decode cX10_years 27 = .ok (.aload_n 0, 1) := by decide +kernel
theorem dX10_years_28 : decode cX10_years 28 = .ok (.getfield 16, 3) := by decide +kernel
theorem dX10_years_31 : decode cX10_years 31 = .ok (.aload_n 0, 1) := by decide +kernel
theorem dX10_years_32 : decode cX10_years 32 = .ok (.getfield 12, 3) := by decide +kernel
theorem dX10_years_35 : decode cX10_years 35 = .ok (.invokevirtual 121, 3) := by decide +kernel
theorem dX10_years_38 : decode cX10_years 38 = .ok (.iload_n 1, 1) := by decide +kernel
theorem dX10_years_39 : decode cX10_years 39 = .ok (.i2l, 1) := by decide +kernel
theorem dX10_years_40 : decode cX10_years 40 = .ok (.lstore_n 3, 1) := by decide +kernel
theorem dX10_years_41 : decode cX10_years 41 = .ok (.iconst 0, 1) := by decide +kernel
theorem dX10_years_42 : decode cX10_years 42 = .ok (.istore 5, 2) := by decide +kernel
theorem dX10_years_44 : decode cX10_years 44 = .ok (.iconst 0, 1) := by decide +kernel
theorem dX10_years_45 : decode cX10_years 45 = .ok (.istore 6, 2) := by decide +kernel
theorem dX10_years_47 : decode cX10_years 47 = .ok (.iload 6, 2) := by decide +kernel
theorem dX10_years_49 : decode cX10_years 49 = .ok (.iload_n 2, 1) := by decide +kernel
theorem dX10_years_50 : decode cX10_years 50 = .ok (.if_icmp .ge 81, 3) := by decide +kernel
theorem dX10_years_53 : decode cX10_years 53 = .ok (.iconst 0, 1) := by decide +kernel
theorem dX10_years_54 : decode cX10_years 54 = .ok (.istore 7, 2) := by decide +kernel
theorem dX10_years_56 : decode cX10_years 56 = .ok (.iload 7, 2) := by decide +kernel
theorem dX10_years_58 : decode cX10_years 58 = .ok (.aload_n 0, 1) := by decide +kernel
theorem dX10_years_59 : decode cX10_years 59 = .ok (.getfield 16, 3) := by decide +kernel
theorem dX10_years_62 : decode cX10_years 62 = .ok (.getfield 62, 3) := by decide +kernel
theorem dX10_years_65 : decode cX10_years 65 = .ok (.if_icmp .ge 47, 3) := by decide +kernel
theorem dX10_years_68 : decode cX10_years 68 = .ok (.lload_n 3, 1) := by decide +kernel
theorem dX10_years_69 : decode cX10_years 69 = .ok (.ldc2_w 236, 3) := by decide +kernel
theorem dX10_years_72 : decode cX10_years 72 = .ok (.lmul, 1) := by decide +kernel
theorem dX10_years_73 : decode cX10_years 73 = .ok (.ldc2_w 238, 3) := by decide +kernel
theorem dX10_years_76 : decode cX10_years 76 = .ok (.ladd, 1) := by decide +kernel
theorem dX10_years_77 : decode cX10_years 77 = .ok (.ldc2_w 240, 3) := by decide +kernel
theorem dX10_years_80 : decode cX10_years 80 = .ok (.lrem, 1) := by decide +kernel
theorem dX10_years_81 : decode cX10_years 81 = .ok (.lstore_n 3, 1) := by decide +kernel
theorem dX10_years_82 : decode cX10_years 82 = .ok (.iload 5, 2) := by decide +kernel
theorem dX10_years_84 : decode cX10_years 84 = .ok (.aload_n 0, 1) := by decide +kernel
theorem dX10_years_85 : decode cX10_years 85 = .ok (.getfield 16, 3) := by decide +kernel
theorem dX10_years_88 : decode cX10_years 88 = .ok (.iload 7, 2) := by decide +kernel
theorem dX10_years_90 : decode cX10_years 90 = .ok (.lload_n 3, 1) := by decide +kernel
theorem dX10_years_91 : decode cX10_years 91 = .ok (.ldc2_w 242, 3) := by decide +kernel
theorem dX10_years_94 : decode cX10_years 94 = .ok (.ldiv, 1) := by decide +kernel
theorem dX10_years_95 : decode cX10_years 95 = .ok (.ldc2_w 244, 3) := by decide +kernel
theorem dX10_years_98 : decode cX10_years 98 = .ok (.lrem, 1) := by decide +kernel
theorem dX10_years_99 : decode cX10_years 99 = .ok (.l2i, 1) := by decide +kernel
theorem dX10_years_100 : decode cX10_years 100 = .ok (.invokevirtual 246, 3) := by decide +kernel
theorem dX10_years_103 : decode cX10_years 103 = .ok (.iadd, 1) := by decide +kernel
theorem dX10_years_104 : decode cX10_years 104 = .ok (.istore 5, 2) := by decide +kernel
theorem dX10_years_106 : decode cX10_years 106 = .ok (.iinc 7 1, 3) := by decide +kernel
theorem dX10_years_109 : decode cX10_years 109 = .ok (.goto (-53), 3) := by decide +kernel
theorem dX10_years_112 : decode cX10_years 112 = .ok (.aload_n 0, 1) := by decide +kernel
theorem dX10_years_113 : decode cX10_years 113 = .ok (.getfield 16, 3) := by decide +kernel
theorem dX10_years_116 : decode cX10_years 116 = .ok (.dup, 1) := by decide +kernel
theorem dX10_years_117 : decode cX10_years 117 = .ok (.getfield 141, 3) := by decide +kernel
theorem dX10_years_120 : decode cX10_years 120 = .ok (.iconst 1, 1) := by decide +kernel
theorem dX10_years_121 : decode cX10_years 121 = .ok (.iadd, 1) := by decide +kernel
theorem dX10_years_122 : decode cX10_years 122 = .ok (.putfield 141, 3) := by decide +kernel
theorem dX10_years_125 : decode cX10_years 125 = .ok (.iinc 6 1, 3) := by decide +kernel
theorem dX10_years_128 : decode cX10_years 128 = .ok (.goto (-81), 3) := by decide +kernel
theorem dX10_years_131 : decode cX10_years 131 = .ok (.iload 5, 2) := by decide +kernel
theorem dX10_years_133 : decode cX10_years 133 = .ok (.ireturn, 1) := by decide +kernel
theorem dX10_part_0 : decode cX10_part 0 = .ok (.iload_n 1, 1) := by decide +kernel
theorem dX10_part_1 : decode cX10_part 1 = .ok (.iconst 0, 1) := by decide +kernel
theorem dX10_part_2 : decode cX10_part 2 = .ok (.iconst 1, 1) := by decide +kernel
theorem dX10_part_3 : decode cX10_part 3 = .ok (.invokestatic 69, 3) := by decide +kernel
theorem dX10_part_6 : decode cX10_part 6 = .ok (.ifCond .ne 11, 3) := by decide +kernel
theorem dX10_part_9 : decode cX10_part 9 = .ok (.aload_n 0, 1) := by decide +kernel
theorem dX10_part_10 : decode cX10_part 10 = .ok (.bipush (-2), 2) := by decide +kernel
theorem dX10_part_12 : decode cX10_part 12 = .ok (.invokevirtual 73, 3) := by decide +kernel
theorem dX10_part_15 : decode cX10_part 15 = .ok (.i2l, 1) := by decide +kernel
theorem dX10_part_16 : decode cX10_part 16 = .ok (.lreturn, 1) := by decide +kernel
theorem dX10_part_17 : decode cX10_part 17 = .ok (.iload_n 1, 1) := by decide +kernel
theorem dX10_part_18 : decode cX10_part 18 = .ok (.ifCond .ne 10, 3) := by decide +kernel
theorem dX10_part_21 : decode cX10_part 21 = .ok (.aload_n 0, 1) := by decide +kernel
theorem dX10_part_22 : decode cX10_part 22 = .ok (.getfield 55, 3) := by decide +kernel
theorem dX10_part_25 : decode cX10_part 25 = .ok (.goto 7, 3) := by decide +kernel
theorem dX10_part_28 : decode cX10_part 28 = .ok (.aload_n 0, 1) := by decide +kernel
theorem dX10_part_29 : decode cX10_part 29 = .ok (.getfield 59, 3) := by decide +kernel
theorem dX10_part_32 : decode cX10_part 32 = .ok (.lreturn, 1) := by decide +kernel
theorem dX10_image_0 : decode cX10_image 0 = .ok (.iload_n 1, 1) := by decide +kernel
theorem dX10_image_1 : decode cX10_image 1 = .ok (.iconst 0, 1) := by decide +kernel
theorem dX10_image_2 : decode cX10_image 2 = .ok (.iconst 1, 1) := by decide +kernel
theorem dX10_image_3 : decode cX10_image 3 = .ok (.invokestatic 69, 3) := by decide +kernel
theorem dX10_image_6 : decode cX10_image 6 = .ok (.ifCond .ne 10, 3) := by decide +kernel
theorem dX10_image_9 : decode cX10_image 9 = .ok (.aload_n 0, 1) := by decide +kernel
theorem dX10_image_10 : decode cX10_image 10 = .ok (.bipush (-2), 2) := by decide +kernel
theorem dX10_image_12 : decode cX10_image 12 = .ok (.invokevirtual 73, 3) := by decide +kernel
theorem dX10_image_15 : decode cX10_image 15 = .ok (.ireturn, 1) := by decide +kernel
theorem dX10_image_16 : decode cX10_image 16 = .ok (.aload_n 0, 1) := by decide +kernel
theorem dX10_image_17 : decode cX10_image 17 = .ok (.getfield 19, 3) := by decide +kernel
theorem dX10_image_20 : decode cX10_image 20 = .ok (.iload_n 1, 1) := by decide +kernel
theorem dX10_image_21 : decode cX10_image 21 = .ok (.aaload, 1) := by decide +kernel
theorem dX10_image_22 : decode cX10_image 22 = .ok (.aload_n 0, 1) := by decide +kernel
theorem dX10_image_23 : decode cX10_image 23 = .ok (.getfield 12, 3) := by decide +kernel
theorem dX10_image_26 : decode cX10_image 26 = .ok (.invokevirtual 121, 3) := by decide +kernel
theorem dX10_image_29 : decode cX10_image 29 = .ok (.aload_n 0, 1) := by decide +kernel
theorem dX10_image_30 : decode cX10_image 30 = .ok (.getfield 23, 3) := by decide +kernel
theorem dX10_image_33 : decode cX10_image 33 = .ok (.iload_n 1, 1) := by decide +kernel
theorem dX10_image_34 : decode cX10_image 34 = .ok (.iconst 1, 1) := by decide +kernel
theorem dX10_image_35 : decode cX10_image 35 = .ok (.bastore, 1) := by decide +kernel
theorem dX10_image_36 : decode cX10_image 36 = .ok (.iconst 1, 1) := by decide +kernel
theorem dX10_image_37 : decode cX10_image 37 = .ok (.ireturn, 1) := by decide +kernel
theorem dX10_from_0 : decode cX10_from 0 = .ok (.iload_n 1, 1) := by decide +kernel
theorem dX10_from_1 : decode cX10_from 1 = .ok (.iconst 0, 1) := by decide +kernel
theorem dX10_from_2 : decode cX10_from 2 = .ok (.iconst 1, 1) := by decide +kernel
theorem dX10_from_3 : decode cX10_from 3 = .ok (.invokestatic 69, 3) := by decide +kernel
theorem dX10_from_6 : decode cX10_from 6 = .ok (.ifCond .ne 10, 3) := by decide +kernel
theorem dX10_from_9 : decode cX10_from 9 = .ok (.aload_n 0, 1) := by decide +kernel
theorem dX10_from_10 : decode cX10_from 10 = .ok (.bipush (-2), 2) := by decide +kernel
theorem dX10_from_12 : decode cX10_from 12 = .ok (.invokevirtual 73, 3) := by decide +kernel
theorem dX10_from_15 : decode cX10_from 15 = .ok (.ireturn, 1) := by decide +kernel
theorem dX10_from_16 : decode cX10_from 16 = .ok (.aload_n 0, 1) := by decide +kernel
theorem dX10_from_17 : decode cX10_from 17 = .ok (.getfield 23, 3) := by decide +kernel
theorem dX10_from_20 : decode cX10_from 20 = .ok (.iload_n 1, 1) := by decide +kernel
theorem dX10_from_21 : decode cX10_from 21 = .ok (.baload, 1) := by decide +kernel
theorem dX10_from_22 : decode cX10_from 22 = .ok (.ifCond .ne 10, 3) := by decide +kernel
theorem dX10_from_25 : decode cX10_from 25 = .ok (.aload_n 0, 1) := by decide +kernel
theorem dX10_from_26 : decode cX10_from 26 = .ok (.bipush (-3), 2) := by decide +kernel
theorem dX10_from_28 : decode cX10_from 28 = .ok (.invokevirtual 73, 3) := by decide +kernel
theorem dX10_from_31 : decode cX10_from 31 = .ok (.ireturn, 1) := by decide +kernel
theorem dX10_from_32 : decode cX10_from 32 = .ok (.aload_n 0, 1) := by decide +kernel
theorem dX10_from_33 : decode cX10_from 33 = .ok (.getfield 12, 3) := by decide +kernel
theorem dX10_from_36 : decode cX10_from 36 = .ok (.aload_n 0, 1) := by decide +kernel
theorem dX10_from_37 : decode cX10_from 37 = .ok (.getfield 19, 3) := by decide +kernel
theorem dX10_from_40 : decode cX10_from 40 = .ok (.iload_n 1, 1) := by decide +kernel
theorem dX10_from_41 : decode cX10_from 41 = .ok (.aaload, 1) := by decide +kernel
theorem dX10_from_42 : decode cX10_from 42 = .ok (.invokevirtual 121, 3) := by decide +kernel
theorem dX10_from_45 : decode cX10_from 45 = .ok (.iconst 1, 1) := by decide +kernel
theorem dX10_from_46 : decode cX10_from 46 = .ok (.ireturn, 1) := by decide +kernel
theorem dX10_status_0 : decode cX10_status 0 = .ok (.iload_n 1, 1) := by decide +kernel
theorem dX10_status_1 : decode cX10_status 1 = .ok (.iconst 0, 1) := by decide +kernel
theorem dX10_status_2 : decode cX10_status 2 = .ok (.iconst 2, 1) := by decide +kernel
theorem dX10_status_3 : decode cX10_status 3 = .ok (.invokestatic 69, 3) := by decide +kernel
theorem dX10_status_6 : decode cX10_status 6 = .ok (.ifCond .ne 12, 3) := by decide +kernel
theorem dX10_status_9 : decode cX10_status 9 = .ok (.aload_n 0, 1) := by decide +kernel
theorem dX10_status_10 : decode cX10_status 10 = .ok (.bipush (-2), 2) := by decide +kernel
theorem dX10_status_12 : decode cX10_status 12 = .ok (.invokevirtual 73, 3) := by decide +kernel
theorem dX10_status_15 : decode cX10_status 15 = .ok (.pop, 1) := by decide +kernel
theorem dX10_status_16 : decode cX10_status 16 = .ok (.iconst (-1), 1) := by decide +kernel
theorem dX10_status_17 : decode cX10_status 17 = .ok (.ireturn, 1) := by decide +kernel
theorem dX10_status_18 : decode cX10_status 18 = .ok (.aload_n 0, 1) := by decide +kernel
theorem dX10_status_19 : decode cX10_status 19 = .ok (.getfield 52, 3) := by decide +kernel
theorem dX10_status_22 : decode cX10_status 22 = .ok (.iload_n 1, 1) := by decide +kernel
theorem dX10_status_23 : decode cX10_status 23 = .ok (.iaload, 1) := by decide +kernel
theorem dX10_status_24 : decode cX10_status 24 = .ok (.ireturn, 1) := by decide +kernel
theorem dX10_count_0 : decode cX10_count 0 = .ok (.iload_n 1, 1) := by decide +kernel
theorem dX10_count_1 : decode cX10_count 1 = .ok (.tableswitch 125 0 7 #[47, 55, 63, 78, 93, 101, 109, 117], 47) := by decide +kernel
theorem dX10_count_48 : decode cX10_count 48 = .ok (.aload_n 0, 1) := by decide +kernel
theorem dX10_count_49 : decode cX10_count 49 = .ok (.getfield 12, 3) := by decide +kernel
theorem dX10_count_52 : decode cX10_count 52 = .ok (.getfield 62, 3) := by decide +kernel
theorem dX10_count_55 : decode cX10_count 55 = .ok (.ireturn, 1) := by decide +kernel
theorem dX10_count_56 : decode cX10_count 56 = .ok (.aload_n 0, 1) := by decide +kernel
theorem dX10_count_57 : decode cX10_count 57 = .ok (.getfield 12, 3) := by decide +kernel
theorem dX10_count_60 : decode cX10_count 60 = .ok (.getfield 141, 3) := by decide +kernel
theorem dX10_count_63 : decode cX10_count 63 = .ok (.ireturn, 1) := by decide +kernel
theorem dX10_count_64 : decode cX10_count 64 = .ok (.aload_n 0, 1) := by decide +kernel
theorem dX10_count_65 : decode cX10_count 65 = .ok (.getfield 12, 3) := by decide +kernel
theorem dX10_count_68 : decode cX10_count 68 = .ok (.aload_n 0, 1) := by decide +kernel
theorem dX10_count_69 : decode cX10_count 69 = .ok (.getfield 12, 3) := by decide +kernel
theorem dX10_count_72 : decode cX10_count 72 = .ok (.getfield 147, 3) := by decide +kernel
theorem dX10_count_75 : decode cX10_count 75 = .ok (.invokevirtual 249, 3) := by decide +kernel
theorem dX10_count_78 : decode cX10_count 78 = .ok (.ireturn, 1) := by decide +kernel
theorem dX10_count_79 : decode cX10_count 79 = .ok (.aload_n 0, 1) := by decide +kernel
theorem dX10_count_80 : decode cX10_count 80 = .ok (.getfield 12, 3) := by decide +kernel
theorem dX10_count_83 : decode cX10_count 83 = .ok (.aload_n 0, 1) := by decide +kernel
theorem dX10_count_84 : decode cX10_count 84 = .ok (.getfield 12, 3) := by decide +kernel
theorem dX10_count_87 : decode cX10_count 87 = .ok (.getfield 150, 3) := by decide +kernel
theorem dX10_count_90 : decode cX10_count 90 = .ok (.invokevirtual 249, 3) := by decide +kernel
theorem dX10_count_93 : decode cX10_count 93 = .ok (.ireturn, 1) := by decide +kernel
theorem dX10_count_94 : decode cX10_count 94 = .ok (.aload_n 0, 1) := by decide +kernel
theorem dX10_count_95 : decode cX10_count 95 = .ok (.getfield 12, 3) := by decide +kernel
theorem dX10_count_98 : decode cX10_count 98 = .ok (.getfield 203, 3) := by decide +kernel
theorem dX10_count_101 : decode cX10_count 101 = .ok (.ireturn, 1) := by decide +kernel
theorem dX10_count_102 : decode cX10_count 102 = .ok (.aload_n 0, 1) := by decide +kernel
theorem dX10_count_103 : decode cX10_count 103 = .ok (.getfield 12, 3) := by decide +kernel
theorem dX10_count_106 : decode cX10_count 106 = .ok (.getfield 206, 3) := by decide +kernel
theorem dX10_count_109 : decode cX10_count 109 = .ok (.ireturn, 1) := by decide +kernel
theorem dX10_count_110 : decode cX10_count 110 = .ok (.aload_n 0, 1) := by decide +kernel
theorem dX10_count_111 : decode cX10_count 111 = .ok (.getfield 12, 3) := by decide +kernel
theorem dX10_count_114 : decode cX10_count 114 = .ok (.getfield 135, 3) := by decide +kernel
theorem dX10_count_117 : decode cX10_count 117 = .ok (.ireturn, 1) := by decide +kernel
theorem dX10_count_118 : decode cX10_count 118 = .ok (.aload_n 0, 1) := by decide +kernel
theorem dX10_count_119 : decode cX10_count 119 = .ok (.getfield 30, 3) := by decide +kernel
theorem dX10_count_122 : decode cX10_count 122 = .ok (.getfield 87, 3) := by decide +kernel
theorem dX10_count_125 : decode cX10_count 125 = .ok (.ireturn, 1) := by decide +kernel
theorem dX10_count_126 : decode cX10_count 126 = .ok (.aload_n 0, 1) := by decide +kernel
theorem dX10_count_127 : decode cX10_count 127 = .ok (.bipush (-2), 2) := by decide +kernel
theorem dX10_count_129 : decode cX10_count 129 = .ok (.invokevirtual 73, 3) := by decide +kernel
theorem dX10_count_132 : decode cX10_count 132 = .ok (.ireturn, 1) := by decide +kernel
theorem dX10_digest_0 : decode cX10_digest 0 = .ok (.ldc2_w 253, 3) := by decide +kernel
theorem dX10_digest_3 : decode cX10_digest 3 = .ok (.lstore_n 1, 1) := by decide +kernel
theorem dX10_digest_4 : decode cX10_digest 4 = .ok (.iconst 0, 1) := by decide +kernel
theorem dX10_digest_5 : decode cX10_digest 5 = .ok (.istore_n 3, 1) := by decide +kernel
theorem dX10_digest_6 : decode cX10_digest 6 = .ok (.iload_n 3, 1) := by decide +kernel
theorem dX10_digest_7 : decode cX10_digest 7 = .ok (.bipush 8, 2) := by decide +kernel
theorem dX10_digest_9 : decode cX10_digest 9 = .ok (.if_icmp .ge 22, 3) := by decide +kernel
theorem dX10_digest_12 : decode cX10_digest 12 = .ok (.ldc2_w 255, 3) := by decide +kernel
theorem dX10_digest_15 : decode cX10_digest 15 = .ok (.lload_n 1, 1) := by decide +kernel
theorem dX10_digest_16 : decode cX10_digest 16 = .ok (.lmul, 1) := by decide +kernel
theorem dX10_digest_17 : decode cX10_digest 17 = .ok (.aload_n 0, 1) := by decide +kernel
theorem dX10_digest_18 : decode cX10_digest 18 = .ok (.iload_n 3, 1) := by decide +kernel
theorem dX10_digest_19 : decode cX10_digest 19 = .ok (.invokevirtual 257, 3) := by decide +kernel
theorem dX10_digest_22 : decode cX10_digest 22 = .ok (.i2l, 1) := by decide +kernel
theorem dX10_digest_23 : decode cX10_digest 23 = .ok (.ladd, 1) := by decide +kernel
theorem dX10_digest_24 : decode cX10_digest 24 = .ok (.lstore_n 1, 1) := by decide +kernel
theorem dX10_digest_25 : decode cX10_digest 25 = .ok (.iinc 3 1, 3) := by decide +kernel
theorem dX10_digest_28 : decode cX10_digest 28 = .ok (.goto (-22), 3) := by decide +kernel
theorem dX10_digest_31 : decode cX10_digest 31 = .ok (.iconst 0, 1) := by decide +kernel
theorem dX10_digest_32 : decode cX10_digest 32 = .ok (.istore_n 3, 1) := by decide +kernel
theorem dX10_digest_33 : decode cX10_digest 33 = .ok (.iload_n 3, 1) := by decide +kernel
theorem dX10_digest_34 : decode cX10_digest 34 = .ok (.aload_n 0, 1) := by decide +kernel
theorem dX10_digest_35 : decode cX10_digest 35 = .ok (.getfield 12, 3) := by decide +kernel
theorem dX10_digest_38 : decode cX10_digest 38 = .ok (.getfield 62, 3) := by decide +kernel
theorem dX10_digest_41 : decode cX10_digest 41 = .ok (.if_icmp .ge 60, 3) := by decide +kernel
theorem dX10_digest_44 : decode cX10_digest 44 = .ok (.ldc2_w 255, 3) := by decide +kernel
theorem dX10_digest_47 : decode cX10_digest 47 = .ok (.lload_n 1, 1) := by decide +kernel
theorem dX10_digest_48 : decode cX10_digest 48 = .ok (.lmul, 1) := by decide +kernel
theorem dX10_digest_49 : decode cX10_digest 49 = .ok (.aload_n 0, 1) := by decide +kernel
theorem dX10_digest_50 : decode cX10_digest 50 = .ok (.getfield 12, 3) := by decide +kernel
theorem dX10_digest_53 : decode cX10_digest 53 = .ok (.getfield 144, 3) := by decide +kernel
theorem dX10_digest_56 : decode cX10_digest 56 = .ok (.iload_n 3, 1) := by decide +kernel
theorem dX10_digest_57 : decode cX10_digest 57 = .ok (.iaload, 1) := by decide +kernel
theorem dX10_digest_58 : decode cX10_digest 58 = .ok (.i2l, 1) := by decide +kernel
theorem dX10_digest_59 : decode cX10_digest 59 = .ok (.ladd, 1) := by decide +kernel
theorem dX10_digest_60 : decode cX10_digest 60 = .ok (.lstore_n 1, 1) := by decide +kernel
theorem dX10_digest_61 : decode cX10_digest 61 = .ok (.ldc2_w 255, 3) := by decide +kernel
theorem dX10_digest_64 : decode cX10_digest 64 = .ok (.lload_n 1, 1) := by decide +kernel
theorem dX10_digest_65 : decode cX10_digest 65 = .ok (.lmul, 1) := by decide +kernel
theorem dX10_digest_66 : decode cX10_digest 66 = .ok (.aload_n 0, 1) := by decide +kernel
theorem dX10_digest_67 : decode cX10_digest 67 = .ok (.getfield 12, 3) := by decide +kernel
theorem dX10_digest_70 : decode cX10_digest 70 = .ok (.getfield 147, 3) := by decide +kernel
theorem dX10_digest_73 : decode cX10_digest 73 = .ok (.iload_n 3, 1) := by decide +kernel
theorem dX10_digest_74 : decode cX10_digest 74 = .ok (.iaload, 1) := by decide +kernel
theorem dX10_digest_75 : decode cX10_digest 75 = .ok (.i2l, 1) := by decide +kernel
theorem dX10_digest_76 : decode cX10_digest 76 = .ok (.ladd, 1) := by decide +kernel
theorem dX10_digest_77 : decode cX10_digest 77 = .ok (.lstore_n 1, 1) := by decide +kernel
theorem dX10_digest_78 : decode cX10_digest 78 = .ok (.ldc2_w 255, 3) := by decide +kernel
theorem dX10_digest_81 : decode cX10_digest 81 = .ok (.lload_n 1, 1) := by decide +kernel
theorem dX10_digest_82 : decode cX10_digest 82 = .ok (.lmul, 1) := by decide +kernel
theorem dX10_digest_83 : decode cX10_digest 83 = .ok (.aload_n 0, 1) := by decide +kernel
theorem dX10_digest_84 : decode cX10_digest 84 = .ok (.getfield 12, 3) := by decide +kernel
theorem dX10_digest_87 : decode cX10_digest 87 = .ok (.getfield 150, 3) := by decide +kernel
theorem dX10_digest_90 : decode cX10_digest 90 = .ok (.iload_n 3, 1) := by decide +kernel
theorem dX10_digest_91 : decode cX10_digest 91 = .ok (.iaload, 1) := by decide +kernel
theorem dX10_digest_92 : decode cX10_digest 92 = .ok (.i2l, 1) := by decide +kernel
theorem dX10_digest_93 : decode cX10_digest 93 = .ok (.ladd, 1) := by decide +kernel
theorem dX10_digest_94 : decode cX10_digest 94 = .ok (.lstore_n 1, 1) := by decide +kernel
theorem dX10_digest_95 : decode cX10_digest 95 = .ok (.iinc 3 1, 3) := by decide +kernel
theorem dX10_digest_98 : decode cX10_digest 98 = .ok (.goto (-65), 3) := by decide +kernel
theorem dX10_digest_101 : decode cX10_digest 101 = .ok (.iconst 0, 1) := by decide +kernel
theorem dX10_digest_102 : decode cX10_digest 102 = .ok (.istore_n 3, 1) := by decide +kernel
theorem dX10_digest_103 : decode cX10_digest 103 = .ok (.iload_n 3, 1) := by decide +kernel
theorem dX10_digest_104 : decode cX10_digest 104 = .ok (.aload_n 0, 1) := by decide +kernel
theorem dX10_digest_105 : decode cX10_digest 105 = .ok (.getfield 12, 3) := by decide +kernel
theorem dX10_digest_108 : decode cX10_digest 108 = .ok (.getfield 203, 3) := by decide +kernel
theorem dX10_digest_111 : decode cX10_digest 111 = .ok (.bipush 6, 2) := by decide +kernel
theorem dX10_digest_113 : decode cX10_digest 113 = .ok (.imul, 1) := by decide +kernel
theorem dX10_digest_114 : decode cX10_digest 114 = .ok (.if_icmp .ge 38, 3) := by decide +kernel
theorem dX10_digest_117 : decode cX10_digest 117 = .ok (.iload_n 3, 1) := by decide +kernel
theorem dX10_digest_118 : decode cX10_digest 118 = .ok (.aload_n 0, 1) := by decide +kernel
theorem dX10_digest_119 : decode cX10_digest 119 = .ok (.getfield 12, 3) := by decide +kernel
theorem dX10_digest_122 : decode cX10_digest 122 = .ok (.getfield 260, 3) := by decide +kernel
theorem dX10_digest_125 : decode cX10_digest 125 = .ok (.arraylength, 1) := by decide +kernel
theorem dX10_digest_126 : decode cX10_digest 126 = .ok (.if_icmp .ge 26, 3) := by decide +kernel
theorem dX10_digest_129 : decode cX10_digest 129 = .ok (.ldc2_w 255, 3) := by decide +kernel
theorem dX10_digest_132 : decode cX10_digest 132 = .ok (.lload_n 1, 1) := by decide +kernel
theorem dX10_digest_133 : decode cX10_digest 133 = .ok (.lmul, 1) := by decide +kernel
theorem dX10_digest_134 : decode cX10_digest 134 = .ok (.aload_n 0, 1) := by decide +kernel
theorem dX10_digest_135 : decode cX10_digest 135 = .ok (.getfield 12, 3) := by decide +kernel
theorem dX10_digest_138 : decode cX10_digest 138 = .ok (.getfield 260, 3) := by decide +kernel
theorem dX10_digest_141 : decode cX10_digest 141 = .ok (.iload_n 3, 1) := by decide +kernel
theorem dX10_digest_142 : decode cX10_digest 142 = .ok (.iaload, 1) := by decide +kernel
theorem dX10_digest_143 : decode cX10_digest 143 = .ok (.i2l, 1) := by decide +kernel
theorem dX10_digest_144 : decode cX10_digest 144 = .ok (.ladd, 1) := by decide +kernel
theorem dX10_digest_145 : decode cX10_digest 145 = .ok (.lstore_n 1, 1) := by decide +kernel
theorem dX10_digest_146 : decode cX10_digest 146 = .ok (.iinc 3 1, 3) := by decide +kernel
theorem dX10_digest_149 : decode cX10_digest 149 = .ok (.goto (-46), 3) := by decide +kernel
theorem dX10_digest_152 : decode cX10_digest 152 = .ok (.iconst 0, 1) := by decide +kernel
theorem dX10_digest_153 : decode cX10_digest 153 = .ok (.istore_n 3, 1) := by decide +kernel
theorem dX10_digest_154 : decode cX10_digest 154 = .ok (.iload_n 3, 1) := by decide +kernel
theorem dX10_digest_155 : decode cX10_digest 155 = .ok (.aload_n 0, 1) := by decide +kernel
theorem dX10_digest_156 : decode cX10_digest 156 = .ok (.getfield 12, 3) := by decide +kernel
theorem dX10_digest_159 : decode cX10_digest 159 = .ok (.getfield 206, 3) := by decide +kernel
theorem dX10_digest_162 : decode cX10_digest 162 = .ok (.iconst 3, 1) := by decide +kernel
theorem dX10_digest_163 : decode cX10_digest 163 = .ok (.imul, 1) := by decide +kernel
theorem dX10_digest_164 : decode cX10_digest 164 = .ok (.if_icmp .ge 38, 3) := by decide +kernel
theorem dX10_digest_167 : decode cX10_digest 167 = .ok (.iload_n 3, 1) := by decide +kernel
theorem dX10_digest_168 : decode cX10_digest 168 = .ok (.aload_n 0, 1) := by decide +kernel
theorem dX10_digest_169 : decode cX10_digest 169 = .ok (.getfield 12, 3) := by decide +kernel
theorem dX10_digest_172 : decode cX10_digest 172 = .ok (.getfield 263, 3) := by decide +kernel
theorem dX10_digest_175 : decode cX10_digest 175 = .ok (.arraylength, 1) := by decide +kernel
theorem dX10_digest_176 : decode cX10_digest 176 = .ok (.if_icmp .ge 26, 3) := by decide +kernel
theorem dX10_digest_179 : decode cX10_digest 179 = .ok (.ldc2_w 255, 3) := by decide +kernel
theorem dX10_digest_182 : decode cX10_digest 182 = .ok (.lload_n 1, 1) := by decide +kernel
theorem dX10_digest_183 : decode cX10_digest 183 = .ok (.lmul, 1) := by decide +kernel
theorem dX10_digest_184 : decode cX10_digest 184 = .ok (.aload_n 0, 1) := by decide +kernel
theorem dX10_digest_185 : decode cX10_digest 185 = .ok (.getfield 12, 3) := by decide +kernel
theorem dX10_digest_188 : decode cX10_digest 188 = .ok (.getfield 263, 3) := by decide +kernel
theorem dX10_digest_191 : decode cX10_digest 191 = .ok (.iload_n 3, 1) := by decide +kernel
theorem dX10_digest_192 : decode cX10_digest 192 = .ok (.iaload, 1) := by decide +kernel
theorem dX10_digest_193 : decode cX10_digest 193 = .ok (.i2l, 1) := by decide +kernel
theorem dX10_digest_194 : decode cX10_digest 194 = .ok (.ladd, 1) := by decide +kernel
theorem dX10_digest_195 : decode cX10_digest 195 = .ok (.lstore_n 1, 1) := by decide +kernel
theorem dX10_digest_196 : decode cX10_digest 196 = .ok (.iinc 3 1, 3) := by decide +kernel
theorem dX10_digest_199 : decode cX10_digest 199 = .ok (.goto (-45), 3) := by decide +kernel
theorem dX10_digest_202 : decode cX10_digest 202 = .ok (.ldc2_w 255, 3) := by decide +kernel
theorem dX10_digest_205 : decode cX10_digest 205 = .ok (.lload_n 1, 1) := by decide +kernel
theorem dX10_digest_206 : decode cX10_digest 206 = .ok (.lmul, 1) := by decide +kernel
theorem dX10_digest_207 : decode cX10_digest 207 = .ok (.aload_n 0, 1) := by decide +kernel
theorem dX10_digest_208 : decode cX10_digest 208 = .ok (.getfield 55, 3) := by decide +kernel
theorem dX10_digest_211 : decode cX10_digest 211 = .ok (.ladd, 1) := by decide +kernel
theorem dX10_digest_212 : decode cX10_digest 212 = .ok (.lstore_n 1, 1) := by decide +kernel
theorem dX10_digest_213 : decode cX10_digest 213 = .ok (.ldc2_w 255, 3) := by decide +kernel
theorem dX10_digest_216 : decode cX10_digest 216 = .ok (.lload_n 1, 1) := by decide +kernel
theorem dX10_digest_217 : decode cX10_digest 217 = .ok (.lmul, 1) := by decide +kernel
theorem dX10_digest_218 : decode cX10_digest 218 = .ok (.aload_n 0, 1) := by decide +kernel
theorem dX10_digest_219 : decode cX10_digest 219 = .ok (.getfield 59, 3) := by decide +kernel
theorem dX10_digest_222 : decode cX10_digest 222 = .ok (.ladd, 1) := by decide +kernel
theorem dX10_digest_223 : decode cX10_digest 223 = .ok (.lreturn, 1) := by decide +kernel
theorem dX10_refuse_0 : decode cX10_refuse 0 = .ok (.bipush (-2), 2) := by decide +kernel
theorem dX10_refuse_2 : decode cX10_refuse 2 = .ok (.iload_n 1, 1) := by decide +kernel
theorem dX10_refuse_3 : decode cX10_refuse 3 = .ok (.isub, 1) := by decide +kernel
theorem dX10_refuse_4 : decode cX10_refuse 4 = .ok (.istore_n 2, 1) := by decide +kernel
theorem dX10_refuse_5 : decode cX10_refuse 5 = .ok (.iload_n 2, 1) := by decide +kernel
theorem dX10_refuse_6 : decode cX10_refuse 6 = .ok (.ifCond .lt 22, 3) := by decide +kernel
theorem dX10_refuse_9 : decode cX10_refuse 9 = .ok (.iload_n 2, 1) := by decide +kernel
theorem dX10_refuse_10 : decode cX10_refuse 10 = .ok (.aload_n 0, 1) := by decide +kernel
theorem dX10_refuse_11 : decode cX10_refuse 11 = .ok (.getfield 52, 3) := by decide +kernel
theorem dX10_refuse_14 : decode cX10_refuse 14 = .ok (.arraylength, 1) := by decide +kernel
theorem dX10_refuse_15 : decode cX10_refuse 15 = .ok (.if_icmp .ge 13, 3) := by decide +kernel
theorem dX10_refuse_18 : decode cX10_refuse 18 = .ok (.aload_n 0, 1) := by decide +kernel
theorem dX10_refuse_19 : decode cX10_refuse 19 = .ok (.getfield 52, 3) := by decide +kernel
theorem dX10_refuse_22 : decode cX10_refuse 22 = .ok (.iload_n 2, 1) := by decide +kernel
theorem dX10_refuse_23 : decode cX10_refuse 23 = .ok (.dup2, 1) := by decide +kernel
theorem dX10_refuse_24 : decode cX10_refuse 24 = .ok (.iaload, 1) := by decide +kernel
theorem dX10_refuse_25 : decode cX10_refuse 25 = .ok (.iconst 1, 1) := by decide +kernel
theorem dX10_refuse_26 : decode cX10_refuse 26 = .ok (.iadd, 1) := by decide +kernel
theorem dX10_refuse_27 : decode cX10_refuse 27 = .ok (.iastore, 1) := by decide +kernel
theorem dX10_refuse_28 : decode cX10_refuse 28 = .ok (.iload_n 1, 1) := by decide +kernel
theorem dX10_refuse_29 : decode cX10_refuse 29 = .ok (.ireturn, 1) := by decide +kernel
theorem dX10_refuseIfFull_0 : decode cX10_refuseIfFull 0 = .ok (.iload_n 1, 1) := by decide +kernel
theorem dX10_refuseIfFull_1 : decode cX10_refuseIfFull 1 = .ok (.bipush (-4), 2) := by decide +kernel
theorem dX10_refuseIfFull_3 : decode cX10_refuseIfFull 3 = .ok (.if_icmp .ne 12, 3) := by decide +kernel
theorem dX10_refuseIfFull_6 : decode cX10_refuseIfFull 6 = .ok (.aload_n 0, 1) := by decide +kernel
theorem dX10_refuseIfFull_7 : decode cX10_refuseIfFull 7 = .ok (.bipush (-4), 2) := by decide +kernel
theorem dX10_refuseIfFull_9 : decode cX10_refuseIfFull 9 = .ok (.invokevirtual 73, 3) := by decide +kernel
theorem dX10_refuseIfFull_12 : decode cX10_refuseIfFull 12 = .ok (.goto 4, 3) := by decide +kernel
theorem dX10_refuseIfFull_15 : decode cX10_refuseIfFull 15 = .ok (.iload_n 1, 1) := by decide +kernel
theorem dX10_refuseIfFull_16 : decode cX10_refuseIfFull 16 = .ok (.ireturn, 1) := by decide +kernel
theorem dX10_within_0 : decode cX10_within 0 = .ok (.iload_n 0, 1) := by decide +kernel
theorem dX10_within_1 : decode cX10_within 1 = .ok (.iload_n 1, 1) := by decide +kernel
theorem dX10_within_2 : decode cX10_within 2 = .ok (.if_icmp .lt 12, 3) := by decide +kernel
theorem dX10_within_5 : decode cX10_within 5 = .ok (.iload_n 0, 1) := by decide +kernel
theorem dX10_within_6 : decode cX10_within 6 = .ok (.iload_n 2, 1) := by decide +kernel
theorem dX10_within_7 : decode cX10_within 7 = .ok (.if_icmp .gt 7, 3) := by decide +kernel
theorem dX10_within_10 : decode cX10_within 10 = .ok (.iconst 1, 1) := by decide +kernel
theorem dX10_within_11 : decode cX10_within 11 = .ok (.goto 4, 3) := by decide +kernel
theorem dX10_within_14 : decode cX10_within 14 = .ok (.iconst 0, 1) := by decide +kernel
theorem dX10_within_15 : decode cX10_within 15 = .ok (.ireturn, 1) := by decide +kernel
theorem dX10_isChoice_0 : decode cX10_isChoice 0 = .ok (.iload_n 0, 1) := by decide +kernel
theorem dX10_isChoice_1 : decode cX10_isChoice 1 = .ok (.ifCond .lt 12, 3) := by decide +kernel
theorem dX10_isChoice_4 : decode cX10_isChoice 4 = .ok (.iload_n 0, 1) := by decide +kernel
theorem dX10_isChoice_5 : decode cX10_isChoice 5 = .ok (.iconst 2, 1) := by decide +kernel
theorem dX10_isChoice_6 : decode cX10_isChoice 6 = .ok (.if_icmp .gt 7, 3) := by decide +kernel
theorem dX10_isChoice_9 : decode cX10_isChoice 9 = .ok (.iconst 1, 1) := by decide +kernel
theorem dX10_isChoice_10 : decode cX10_isChoice 10 = .ok (.goto 4, 3) := by decide +kernel
theorem dX10_isChoice_13 : decode cX10_isChoice 13 = .ok (.iconst 0, 1) := by decide +kernel
theorem dX10_isChoice_14 : decode cX10_isChoice 14 = .ok (.ireturn, 1) := by decide +kernel
theorem dX10_seasonOf_0 : decode cX10_seasonOf 0 = .ok (.iload_n 0, 1) := by decide +kernel
theorem dX10_seasonOf_1 : decode cX10_seasonOf 1 = .ok (.bipush 20, 2) := by decide +kernel
theorem dX10_seasonOf_3 : decode cX10_seasonOf 3 = .ok (.idiv, 1) := by decide +kernel
theorem dX10_seasonOf_4 : decode cX10_seasonOf 4 = .ok (.iconst 4, 1) := by decide +kernel
theorem dX10_seasonOf_5 : decode cX10_seasonOf 5 = .ok (.irem, 1) := by decide +kernel
theorem dX10_seasonOf_6 : decode cX10_seasonOf 6 = .ok (.ireturn, 1) := by decide +kernel
theorem dX10_kindsThatFit_0 : decode cX10_kindsThatFit 0 = .ok (.iconst 0, 1) := by decide +kernel
theorem dX10_kindsThatFit_1 : decode cX10_kindsThatFit 1 = .ok (.istore_n 2, 1) := by decide +kernel
theorem dX10_kindsThatFit_2 : decode cX10_kindsThatFit 2 = .ok (.iconst 0, 1) := by decide +kernel
theorem dX10_kindsThatFit_3 : decode cX10_kindsThatFit 3 = .ok (.istore_n 3, 1) := by decide +kernel
theorem dX10_kindsThatFit_4 : decode cX10_kindsThatFit 4 = .ok (.iload_n 3, 1) := by decide +kernel
theorem dX10_kindsThatFit_5 : decode cX10_kindsThatFit 5 = .ok (.bipush 6, 2) := by decide +kernel
theorem dX10_kindsThatFit_7 : decode cX10_kindsThatFit 7 = .ok (.if_icmp .ge 35, 3) := by decide +kernel
theorem dX10_kindsThatFit_10 : decode cX10_kindsThatFit 10 = .ok (.aload_n 0, 1) := by decide +kernel
theorem dX10_kindsThatFit_11 : decode cX10_kindsThatFit 11 = .ok (.getfield 12, 3) := by decide +kernel
theorem dX10_kindsThatFit_14 : decode cX10_kindsThatFit 14 = .ok (.iload_n 1, 1) := by decide +kernel
theorem dX10_kindsThatFit_15 : decode cX10_kindsThatFit 15 = .ok (.aload_n 0, 1) := by decide +kernel
theorem dX10_kindsThatFit_16 : decode cX10_kindsThatFit 16 = .ok (.getfield 12, 3) := by decide +kernel
theorem dX10_kindsThatFit_19 : decode cX10_kindsThatFit 19 = .ok (.getfield 266, 3) := by decide +kernel
theorem dX10_kindsThatFit_22 : decode cX10_kindsThatFit 22 = .ok (.iload_n 3, 1) := by decide +kernel
theorem dX10_kindsThatFit_23 : decode cX10_kindsThatFit 23 = .ok (.aaload, 1) := by decide +kernel
theorem dX10_kindsThatFit_24 : decode cX10_kindsThatFit 24 = .ok (.invokevirtual 270, 3) := by decide +kernel
theorem dX10_kindsThatFit_27 : decode cX10_kindsThatFit 27 = .ok (.ifCond .eq 9, 3) := by decide +kernel
theorem dX10_kindsThatFit_30 : decode cX10_kindsThatFit 30 = .ok (.iload_n 2, 1) := by decide +kernel
theorem dX10_kindsThatFit_31 : decode cX10_kindsThatFit 31 = .ok (.iconst 1, 1) := by decide +kernel
theorem dX10_kindsThatFit_32 : decode cX10_kindsThatFit 32 = .ok (.iload_n 3, 1) := by decide +kernel
theorem dX10_kindsThatFit_33 : decode cX10_kindsThatFit 33 = .ok (.ishl, 1) := by decide +kernel
theorem dX10_kindsThatFit_34 : decode cX10_kindsThatFit 34 = .ok (.ior, 1) := by decide +kernel
theorem dX10_kindsThatFit_35 : decode cX10_kindsThatFit 35 = .ok (.istore_n 2, 1) := by decide +kernel
theorem dX10_kindsThatFit_36 : decode cX10_kindsThatFit 36 = .ok (.iinc 3 1, 3) := by decide +kernel
theorem dX10_kindsThatFit_39 : decode cX10_kindsThatFit 39 = .ok (.goto (-35), 3) := by decide +kernel
theorem dX10_kindsThatFit_42 : decode cX10_kindsThatFit 42 = .ok (.iload_n 2, 1) := by decide +kernel
theorem dX10_kindsThatFit_43 : decode cX10_kindsThatFit 43 = .ok (.ireturn, 1) := by decide +kernel
theorem dX10_bestMorning_0 : decode cX10_bestMorning 0 = .ok (.bipush 7, 2) := by decide +kernel
theorem dX10_bestMorning_2 : decode cX10_bestMorning 2 = .ok (.istore_n 3, 1) := by decide +kernel
theorem dX10_bestMorning_3 : decode cX10_bestMorning 3 = .ok (.iconst (-1), 1) := by decide +kernel
theorem dX10_bestMorning_4 : decode cX10_bestMorning 4 = .ok (.istore 4, 2) := by decide +kernel
theorem dX10_bestMorning_6 : decode cX10_bestMorning 6 = .ok (.iconst 0, 1) := by decide +kernel
theorem dX10_bestMorning_7 : decode cX10_bestMorning 7 = .ok (.istore 5, 2) := by decide +kernel
theorem dX10_bestMorning_9 : decode cX10_bestMorning 9 = .ok (.iload 5, 2) := by decide +kernel
theorem dX10_bestMorning_11 : decode cX10_bestMorning 11 = .ok (.iconst 4, 1) := by decide +kernel
theorem dX10_bestMorning_12 : decode cX10_bestMorning 12 = .ok (.if_icmp .ge 55, 3) := by decide +kernel
theorem dX10_bestMorning_15 : decode cX10_bestMorning 15 = .ok (.iconst 0, 1) := by decide +kernel
theorem dX10_bestMorning_16 : decode cX10_bestMorning 16 = .ok (.istore 6, 2) := by decide +kernel
theorem dX10_bestMorning_18 : decode cX10_bestMorning 18 = .ok (.iload 6, 2) := by decide +kernel
theorem dX10_bestMorning_20 : decode cX10_bestMorning 20 = .ok (.iconst 3, 1) := by decide +kernel
theorem dX10_bestMorning_21 : decode cX10_bestMorning 21 = .ok (.if_icmp .ge 40, 3) := by decide +kernel
theorem dX10_bestMorning_24 : decode cX10_bestMorning 24 = .ok (.aload_n 0, 1) := by decide +kernel
theorem dX10_bestMorning_25 : decode cX10_bestMorning 25 = .ok (.iload_n 1, 1) := by decide +kernel
theorem dX10_bestMorning_26 : decode cX10_bestMorning 26 = .ok (.iload 5, 2) := by decide +kernel
theorem dX10_bestMorning_28 : decode cX10_bestMorning 28 = .ok (.iload_n 2, 1) := by decide +kernel
theorem dX10_bestMorning_29 : decode cX10_bestMorning 29 = .ok (.iload 6, 2) := by decide +kernel
theorem dX10_bestMorning_31 : decode cX10_bestMorning 31 = .ok (.invokevirtual 274, 3) := by decide +kernel
theorem dX10_bestMorning_34 : decode cX10_bestMorning 34 = .ok (.istore 7, 2) := by decide +kernel
theorem dX10_bestMorning_36 : decode cX10_bestMorning 36 = .ok (.iload 7, 2) := by decide +kernel
theorem dX10_bestMorning_38 : decode cX10_bestMorning 38 = .ok (.iload_n 3, 1) := by decide +kernel
theorem dX10_bestMorning_39 : decode cX10_bestMorning 39 = .ok (.if_icmp .ge 16, 3) := by decide +kernel
theorem dX10_bestMorning_42 : decode cX10_bestMorning 42 = .ok (.iload 7, 2) := by decide +kernel
theorem dX10_bestMorning_44 : decode cX10_bestMorning 44 = .ok (.istore_n 3, 1) := by decide +kernel
theorem dX10_bestMorning_45 : decode cX10_bestMorning 45 = .ok (.bipush 10, 2) := by decide +kernel
theorem dX10_bestMorning_47 : decode cX10_bestMorning 47 = .ok (.iload 5, 2) := by decide +kernel
theorem dX10_bestMorning_49 : decode cX10_bestMorning 49 = .ok (.imul, 1) := by decide +kernel
theorem dX10_bestMorning_50 : decode cX10_bestMorning 50 = .ok (.iload 6, 2) := by decide +kernel
theorem dX10_bestMorning_52 : decode cX10_bestMorning 52 = .ok (.iadd, 1) := by decide +kernel
theorem dX10_bestMorning_53 : decode cX10_bestMorning 53 = .ok (.istore 4, 2) := by decide +kernel
theorem dX10_bestMorning_55 : decode cX10_bestMorning 55 = .ok (.iinc 6 1, 3) := by decide +kernel
theorem dX10_bestMorning_58 : decode cX10_bestMorning 58 = .ok (.goto (-40), 3) := by decide +kernel
theorem dX10_bestMorning_61 : decode cX10_bestMorning 61 = .ok (.iinc 5 1, 3) := by decide +kernel
theorem dX10_bestMorning_64 : decode cX10_bestMorning 64 = .ok (.goto (-55), 3) := by decide +kernel
theorem dX10_bestMorning_67 : decode cX10_bestMorning 67 = .ok (.iload 4, 2) := by decide +kernel
theorem dX10_bestMorning_69 : decode cX10_bestMorning 69 = .ok (.ireturn, 1) := by decide +kernel
theorem dX10_mostAlike_0 : decode cX10_mostAlike 0 = .ok (.iconst 0, 1) := by decide +kernel
theorem dX10_mostAlike_1 : decode cX10_mostAlike 1 = .ok (.istore 5, 2) := by decide +kernel
theorem dX10_mostAlike_3 : decode cX10_mostAlike 3 = .ok (.iload 5, 2) := by decide +kernel
theorem dX10_mostAlike_5 : decode cX10_mostAlike 5 = .ok (.bipush 6, 2) := by decide +kernel
theorem dX10_mostAlike_7 : decode cX10_mostAlike 7 = .ok (.if_icmp .ge 47, 3) := by decide +kernel
theorem dX10_mostAlike_10 : decode cX10_mostAlike 10 = .ok (.aload_n 0, 1) := by decide +kernel
theorem dX10_mostAlike_11 : decode cX10_mostAlike 11 = .ok (.getfield 12, 3) := by decide +kernel
theorem dX10_mostAlike_14 : decode cX10_mostAlike 14 = .ok (.getfield 266, 3) := by decide +kernel
theorem dX10_mostAlike_17 : decode cX10_mostAlike 17 = .ok (.iload 5, 2) := by decide +kernel
theorem dX10_mostAlike_19 : decode cX10_mostAlike 19 = .ok (.aaload, 1) := by decide +kernel
theorem dX10_mostAlike_20 : decode cX10_mostAlike 20 = .ok (.astore 6, 2) := by decide +kernel
theorem dX10_mostAlike_22 : decode cX10_mostAlike 22 = .ok (.aload_n 0, 1) := by decide +kernel
theorem dX10_mostAlike_23 : decode cX10_mostAlike 23 = .ok (.getfield 48, 3) := by decide +kernel
theorem dX10_mostAlike_26 : decode cX10_mostAlike 26 = .ok (.iload 5, 2) := by decide +kernel
theorem dX10_mostAlike_28 : decode cX10_mostAlike 28 = .ok (.aload 6, 2) := by decide +kernel
theorem dX10_mostAlike_30 : decode cX10_mostAlike 30 = .ok (.iload_n 2, 1) := by decide +kernel
theorem dX10_mostAlike_31 : decode cX10_mostAlike 31 = .ok (.iload_n 3, 1) := by decide +kernel
theorem dX10_mostAlike_32 : decode cX10_mostAlike 32 = .ok (.invokevirtual 160, 3) := by decide +kernel
theorem dX10_mostAlike_35 : decode cX10_mostAlike 35 = .ok (.bipush 100, 2) := by decide +kernel
theorem dX10_mostAlike_37 : decode cX10_mostAlike 37 = .ok (.imul, 1) := by decide +kernel
theorem dX10_mostAlike_38 : decode cX10_mostAlike 38 = .ok (.aload 6, 2) := by decide +kernel
theorem dX10_mostAlike_40 : decode cX10_mostAlike 40 = .ok (.iload 4, 2) := by decide +kernel
theorem dX10_mostAlike_42 : decode cX10_mostAlike 42 = .ok (.iload_n 3, 1) := by decide +kernel
theorem dX10_mostAlike_43 : decode cX10_mostAlike 43 = .ok (.invokevirtual 165, 3) := by decide +kernel
theorem dX10_mostAlike_46 : decode cX10_mostAlike 46 = .ok (.iadd, 1) := by decide +kernel
theorem dX10_mostAlike_47 : decode cX10_mostAlike 47 = .ok (.iastore, 1) := by decide +kernel
theorem dX10_mostAlike_48 : decode cX10_mostAlike 48 = .ok (.iinc 5 1, 3) := by decide +kernel
theorem dX10_mostAlike_51 : decode cX10_mostAlike 51 = .ok (.goto (-48), 3) := by decide +kernel
theorem dX10_mostAlike_54 : decode cX10_mostAlike 54 = .ok (.iconst 0, 1) := by decide +kernel
theorem dX10_mostAlike_55 : decode cX10_mostAlike 55 = .ok (.istore 5, 2) := by decide +kernel
theorem dX10_mostAlike_57 : decode cX10_mostAlike 57 = .ok (.iconst 0, 1) := by decide +kernel
theorem dX10_mostAlike_58 : decode cX10_mostAlike 58 = .ok (.istore 6, 2) := by decide +kernel
theorem dX10_mostAlike_60 : decode cX10_mostAlike 60 = .ok (.iload 6, 2) := by decide +kernel
theorem dX10_mostAlike_62 : decode cX10_mostAlike 62 = .ok (.bipush 6, 2) := by decide +kernel
theorem dX10_mostAlike_64 : decode cX10_mostAlike 64 = .ok (.if_icmp .ge 66, 3) := by decide +kernel
theorem dX10_mostAlike_67 : decode cX10_mostAlike 67 = .ok (.iconst 0, 1) := by decide +kernel
theorem dX10_mostAlike_68 : decode cX10_mostAlike 68 = .ok (.istore 7, 2) := by decide +kernel
theorem dX10_mostAlike_70 : decode cX10_mostAlike 70 = .ok (.iconst 0, 1) := by decide +kernel
theorem dX10_mostAlike_71 : decode cX10_mostAlike 71 = .ok (.istore 8, 2) := by decide +kernel
theorem dX10_mostAlike_73 : decode cX10_mostAlike 73 = .ok (.iload 8, 2) := by decide +kernel
theorem dX10_mostAlike_75 : decode cX10_mostAlike 75 = .ok (.bipush 6, 2) := by decide +kernel
theorem dX10_mostAlike_77 : decode cX10_mostAlike 77 = .ok (.if_icmp .ge 38, 3) := by decide +kernel
theorem dX10_mostAlike_80 : decode cX10_mostAlike 80 = .ok (.iload_n 1, 1) := by decide +kernel
theorem dX10_mostAlike_81 : decode cX10_mostAlike 81 = .ok (.iload 8, 2) := by decide +kernel
theorem dX10_mostAlike_83 : decode cX10_mostAlike 83 = .ok (.ishr, 1) := by decide +kernel
theorem dX10_mostAlike_84 : decode cX10_mostAlike 84 = .ok (.iconst 1, 1) := by decide +kernel
theorem dX10_mostAlike_85 : decode cX10_mostAlike 85 = .ok (.iand, 1) := by decide +kernel
theorem dX10_mostAlike_86 : decode cX10_mostAlike 86 = .ok (.ifCond .eq 23, 3) := by decide +kernel
theorem dX10_mostAlike_89 : decode cX10_mostAlike 89 = .ok (.aload_n 0, 1) := by decide +kernel
theorem dX10_mostAlike_90 : decode cX10_mostAlike 90 = .ok (.getfield 48, 3) := by decide +kernel
theorem dX10_mostAlike_93 : decode cX10_mostAlike 93 = .ok (.iload 8, 2) := by decide +kernel
theorem dX10_mostAlike_95 : decode cX10_mostAlike 95 = .ok (.iaload, 1) := by decide +kernel
theorem dX10_mostAlike_96 : decode cX10_mostAlike 96 = .ok (.aload_n 0, 1) := by decide +kernel
theorem dX10_mostAlike_97 : decode cX10_mostAlike 97 = .ok (.getfield 48, 3) := by decide +kernel
theorem dX10_mostAlike_100 : decode cX10_mostAlike 100 = .ok (.iload 6, 2) := by decide +kernel
theorem dX10_mostAlike_102 : decode cX10_mostAlike 102 = .ok (.iaload, 1) := by decide +kernel
theorem dX10_mostAlike_103 : decode cX10_mostAlike 103 = .ok (.if_icmp .ne 6, 3) := by decide +kernel
theorem dX10_mostAlike_106 : decode cX10_mostAlike 106 = .ok (.iinc 7 1, 3) := by decide +kernel
theorem dX10_mostAlike_109 : decode cX10_mostAlike 109 = .ok (.iinc 8 1, 3) := by decide +kernel
theorem dX10_mostAlike_112 : decode cX10_mostAlike 112 = .ok (.goto (-39), 3) := by decide +kernel
theorem dX10_mostAlike_115 : decode cX10_mostAlike 115 = .ok (.iload 5, 2) := by decide +kernel
theorem dX10_mostAlike_117 : decode cX10_mostAlike 117 = .ok (.iload 7, 2) := by decide +kernel
theorem dX10_mostAlike_119 : decode cX10_mostAlike 119 = .ok (.invokestatic 278, 3) := by decide +kernel
theorem dX10_mostAlike_122 : decode cX10_mostAlike 122 = .ok (.istore 5, 2) := by decide +kernel
theorem dX10_mostAlike_124 : decode cX10_mostAlike 124 = .ok (.iinc 6 1, 3) := by decide +kernel
theorem dX10_mostAlike_127 : decode cX10_mostAlike 127 = .ok (.goto (-67), 3) := by decide +kernel
theorem dX10_mostAlike_130 : decode cX10_mostAlike 130 = .ok (.iload 5, 2) := by decide +kernel
theorem dX10_mostAlike_132 : decode cX10_mostAlike 132 = .ok (.ireturn, 1) := by decide +kernel
theorem dX10_isContent_0 : decode cX10_isContent 0 = .ok (.aload_n 0, 1) := by decide +kernel
theorem dX10_isContent_1 : decode cX10_isContent 1 = .ok (.iload_n 1, 1) := by decide +kernel
theorem dX10_isContent_2 : decode cX10_isContent 2 = .ok (.iload_n 2, 1) := by decide +kernel
theorem dX10_isContent_3 : decode cX10_isContent 3 = .ok (.iload_n 3, 1) := by decide +kernel
theorem dX10_isContent_4 : decode cX10_isContent 4 = .ok (.invokevirtual 283, 3) := by decide +kernel
theorem dX10_isContent_7 : decode cX10_isContent 7 = .ok (.aload_n 0, 1) := by decide +kernel
theorem dX10_isContent_8 : decode cX10_isContent 8 = .ok (.iload_n 1, 1) := by decide +kernel
theorem dX10_isContent_9 : decode cX10_isContent 9 = .ok (.iload_n 2, 1) := by decide +kernel
theorem dX10_isContent_10 : decode cX10_isContent 10 = .ok (.ifCond .ne 7, 3) := by decide +kernel
theorem dX10_isContent_13 : decode cX10_isContent 13 = .ok (.iconst 1, 1) := by decide +kernel
theorem dX10_isContent_14 : decode cX10_isContent 14 = .ok (.goto 4, 3) := by decide +kernel
theorem dX10_isContent_17 : decode cX10_isContent 17 = .ok (.iconst 0, 1) := by decide +kernel
theorem dX10_isContent_18 : decode cX10_isContent 18 = .ok (.iload_n 3, 1) := by decide +kernel
theorem dX10_isContent_19 : decode cX10_isContent 19 = .ok (.invokevirtual 283, 3) := by decide +kernel
theorem dX10_isContent_22 : decode cX10_isContent 22 = .ok (.if_icmp .lt 7, 3) := by decide +kernel
theorem dX10_isContent_25 : decode cX10_isContent 25 = .ok (.iconst 1, 1) := by decide +kernel
theorem dX10_isContent_26 : decode cX10_isContent 26 = .ok (.goto 4, 3) := by decide +kernel
theorem dX10_isContent_29 : decode cX10_isContent 29 = .ok (.iconst 0, 1) := by decide +kernel
theorem dX10_isContent_30 : decode cX10_isContent 30 = .ok (.ireturn, 1) := by decide +kernel
theorem dX10_worthToday_0 : decode cX10_worthToday 0 = .ok (.aload_n 0, 1) := by decide +kernel
theorem dX10_worthToday_1 : decode cX10_worthToday 1 = .ok (.getfield 12, 3) := by decide +kernel
theorem dX10_worthToday_4 : decode cX10_worthToday 4 = .ok (.iload_n 1, 1) := by decide +kernel
theorem dX10_worthToday_5 : decode cX10_worthToday 5 = .ok (.invokevirtual 153, 3) := by decide +kernel
theorem dX10_worthToday_8 : decode cX10_worthToday 8 = .ok (.astore 4, 2) := by decide +kernel
theorem dX10_worthToday_10 : decode cX10_worthToday 10 = .ok (.aload_n 0, 1) := by decide +kernel
theorem dX10_worthToday_11 : decode cX10_worthToday 11 = .ok (.getfield 12, 3) := by decide +kernel
theorem dX10_worthToday_14 : decode cX10_worthToday 14 = .ok (.getfield 147, 3) := by decide +kernel
theorem dX10_worthToday_17 : decode cX10_worthToday 17 = .ok (.iload_n 1, 1) := by decide +kernel
theorem dX10_worthToday_18 : decode cX10_worthToday 18 = .ok (.iaload, 1) := by decide +kernel
theorem dX10_worthToday_19 : decode cX10_worthToday 19 = .ok (.istore 5, 2) := by decide +kernel
theorem dX10_worthToday_21 : decode cX10_worthToday 21 = .ok (.iload_n 2, 1) := by decide +kernel
theorem dX10_worthToday_22 : decode cX10_worthToday 22 = .ok (.ifCond .eq 21, 3) := by decide +kernel
theorem dX10_worthToday_25 : decode cX10_worthToday 25 = .ok (.aload 4, 2) := by decide +kernel
theorem dX10_worthToday_27 : decode cX10_worthToday 27 = .ok (.iconst 2, 1) := by decide +kernel
theorem dX10_worthToday_28 : decode cX10_worthToday 28 = .ok (.iload 5, 2) := by decide +kernel
theorem dX10_worthToday_30 : decode cX10_worthToday 30 = .ok (.invokevirtual 165, 3) := by decide +kernel
theorem dX10_worthToday_33 : decode cX10_worthToday 33 = .ok (.aload 4, 2) := by decide +kernel
theorem dX10_worthToday_35 : decode cX10_worthToday 35 = .ok (.iconst 0, 1) := by decide +kernel
theorem dX10_worthToday_36 : decode cX10_worthToday 36 = .ok (.iload 5, 2) := by decide +kernel
theorem dX10_worthToday_38 : decode cX10_worthToday 38 = .ok (.invokevirtual 165, 3) := by decide +kernel
theorem dX10_worthToday_41 : decode cX10_worthToday 41 = .ok (.isub, 1) := by decide +kernel
theorem dX10_worthToday_42 : decode cX10_worthToday 42 = .ok (.ireturn, 1) := by decide +kernel
theorem dX10_worthToday_43 : decode cX10_worthToday 43 = .ok (.aload 4, 2) := by decide +kernel
theorem dX10_worthToday_45 : decode cX10_worthToday 45 = .ok (.aload_n 0, 1) := by decide +kernel
theorem dX10_worthToday_46 : decode cX10_worthToday 46 = .ok (.getfield 12, 3) := by decide +kernel
theorem dX10_worthToday_49 : decode cX10_worthToday 49 = .ok (.getfield 141, 3) := by decide +kernel
theorem dX10_worthToday_52 : decode cX10_worthToday 52 = .ok (.invokestatic 157, 3) := by decide +kernel
theorem dX10_worthToday_55 : decode cX10_worthToday 55 = .ok (.iload 5, 2) := by decide +kernel
theorem dX10_worthToday_57 : decode cX10_worthToday 57 = .ok (.invokevirtual 160, 3) := by decide +kernel
theorem dX10_worthToday_60 : decode cX10_worthToday 60 = .ok (.istore 6, 2) := by decide +kernel
theorem dX10_worthToday_62 : decode cX10_worthToday 62 = .ok (.iload_n 3, 1) := by decide +kernel
theorem dX10_worthToday_63 : decode cX10_worthToday 63 = .ok (.ifCond .eq 8, 3) := by decide +kernel
theorem dX10_worthToday_66 : decode cX10_worthToday 66 = .ok (.iload 6, 2) := by decide +kernel
theorem dX10_worthToday_68 : decode cX10_worthToday 68 = .ok (.goto 7, 3) := by decide +kernel
theorem dX10_worthToday_71 : decode cX10_worthToday 71 = .ok (.iload 6, 2) := by decide +kernel
theorem dX10_worthToday_73 : decode cX10_worthToday 73 = .ok (.iconst 2, 1) := by decide +kernel
theorem dX10_worthToday_74 : decode cX10_worthToday 74 = .ok (.idiv, 1) := by decide +kernel
theorem dX10_worthToday_75 : decode cX10_worthToday 75 = .ok (.ireturn, 1) := by decide +kernel
theorem dX10_tenfoldMean_0 : decode cX10_tenfoldMean 0 = .ok (.iload_n 3, 1) := by decide +kernel
theorem dX10_tenfoldMean_1 : decode cX10_tenfoldMean 1 = .ok (.ifCond .le 9, 3) := by decide +kernel
theorem dX10_tenfoldMean_4 : decode cX10_tenfoldMean 4 = .ok (.iload_n 3, 1) := by decide +kernel
theorem dX10_tenfoldMean_5 : decode cX10_tenfoldMean 5 = .ok (.bipush 6, 2) := by decide +kernel
theorem dX10_tenfoldMean_7 : decode cX10_tenfoldMean 7 = .ok (.if_icmp .le 5, 3) := by decide +kernel
theorem dX10_tenfoldMean_10 : decode cX10_tenfoldMean 10 = .ok (.lconst 0, 1) := by decide +kernel
theorem dX10_tenfoldMean_11 : decode cX10_tenfoldMean 11 = .ok (.lreturn, 1) := by decide +kernel
theorem dX10_tenfoldMean_12 : decode cX10_tenfoldMean 12 = .ok (.aload_n 0, 1) := by decide +kernel
theorem dX10_tenfoldMean_13 : decode cX10_tenfoldMean 13 = .ok (.iload_n 1, 1) := by decide +kernel
theorem dX10_tenfoldMean_14 : decode cX10_tenfoldMean 14 = .ok (.invokestatic 157, 3) := by decide +kernel
theorem dX10_tenfoldMean_17 : decode cX10_tenfoldMean 17 = .ok (.iload_n 2, 1) := by decide +kernel
theorem dX10_tenfoldMean_18 : decode cX10_tenfoldMean 18 = .ok (.invokevirtual 160, 3) := by decide +kernel
theorem dX10_tenfoldMean_21 : decode cX10_tenfoldMean 21 = .ok (.i2l, 1) := by decide +kernel
theorem dX10_tenfoldMean_22 : decode cX10_tenfoldMean 22 = .ok (.iload_n 3, 1) := by decide +kernel
theorem dX10_tenfoldMean_23 : decode cX10_tenfoldMean 23 = .ok (.iconst 1, 1) := by decide +kernel
theorem dX10_tenfoldMean_24 : decode cX10_tenfoldMean 24 = .ok (.isub, 1) := by decide +kernel
theorem dX10_tenfoldMean_25 : decode cX10_tenfoldMean 25 = .ok (.invokestatic 227, 3) := by decide +kernel
theorem dX10_tenfoldMean_28 : decode cX10_tenfoldMean 28 = .ok (.lmul, 1) := by decide +kernel
theorem dX10_tenfoldMean_29 : decode cX10_tenfoldMean 29 = .ok (.lstore 5, 2) := by decide +kernel
theorem dX10_tenfoldMean_31 : decode cX10_tenfoldMean 31 = .ok (.aload_n 0, 1) := by decide +kernel
theorem dX10_tenfoldMean_32 : decode cX10_tenfoldMean 32 = .ok (.iload_n 1, 1) := by decide +kernel
theorem dX10_tenfoldMean_33 : decode cX10_tenfoldMean 33 = .ok (.iconst 1, 1) := by decide +kernel
theorem dX10_tenfoldMean_34 : decode cX10_tenfoldMean 34 = .ok (.iadd, 1) := by decide +kernel
theorem dX10_tenfoldMean_35 : decode cX10_tenfoldMean 35 = .ok (.aload_n 0, 1) := by decide +kernel
theorem dX10_tenfoldMean_36 : decode cX10_tenfoldMean 36 = .ok (.iconst 0, 1) := by decide +kernel
theorem dX10_tenfoldMean_37 : decode cX10_tenfoldMean 37 = .ok (.iload_n 2, 1) := by decide +kernel
theorem dX10_tenfoldMean_38 : decode cX10_tenfoldMean 38 = .ok (.invokevirtual 165, 3) := by decide +kernel
theorem dX10_tenfoldMean_41 : decode cX10_tenfoldMean 41 = .ok (.iload_n 3, 1) := by decide +kernel
theorem dX10_tenfoldMean_42 : decode cX10_tenfoldMean 42 = .ok (.iconst 1, 1) := by decide +kernel
theorem dX10_tenfoldMean_43 : decode cX10_tenfoldMean 43 = .ok (.isub, 1) := by decide +kernel
theorem dX10_tenfoldMean_44 : decode cX10_tenfoldMean 44 = .ok (.iload 4, 2) := by decide +kernel
theorem dX10_tenfoldMean_46 : decode cX10_tenfoldMean 46 = .ok (.invokestatic 223, 3) := by decide +kernel
theorem dX10_tenfoldMean_49 : decode cX10_tenfoldMean 49 = .ok (.lstore 7, 2) := by decide +kernel
theorem dX10_tenfoldMean_51 : decode cX10_tenfoldMean 51 = .ok (.aload_n 0, 1) := by decide +kernel
theorem dX10_tenfoldMean_52 : decode cX10_tenfoldMean 52 = .ok (.iload_n 1, 1) := by decide +kernel
theorem dX10_tenfoldMean_53 : decode cX10_tenfoldMean 53 = .ok (.iconst 1, 1) := by decide +kernel
theorem dX10_tenfoldMean_54 : decode cX10_tenfoldMean 54 = .ok (.iadd, 1) := by decide +kernel
theorem dX10_tenfoldMean_55 : decode cX10_tenfoldMean 55 = .ok (.aload_n 0, 1) := by decide +kernel
theorem dX10_tenfoldMean_56 : decode cX10_tenfoldMean 56 = .ok (.iconst 2, 1) := by decide +kernel
theorem dX10_tenfoldMean_57 : decode cX10_tenfoldMean 57 = .ok (.iload_n 2, 1) := by decide +kernel
theorem dX10_tenfoldMean_58 : decode cX10_tenfoldMean 58 = .ok (.invokevirtual 165, 3) := by decide +kernel
theorem dX10_tenfoldMean_61 : decode cX10_tenfoldMean 61 = .ok (.iload_n 3, 1) := by decide +kernel
theorem dX10_tenfoldMean_62 : decode cX10_tenfoldMean 62 = .ok (.iconst 1, 1) := by decide +kernel
theorem dX10_tenfoldMean_63 : decode cX10_tenfoldMean 63 = .ok (.isub, 1) := by decide +kernel
theorem dX10_tenfoldMean_64 : decode cX10_tenfoldMean 64 = .ok (.iload 4, 2) := by decide +kernel
theorem dX10_tenfoldMean_66 : decode cX10_tenfoldMean 66 = .ok (.invokestatic 223, 3) := by decide +kernel
theorem dX10_tenfoldMean_69 : decode cX10_tenfoldMean 69 = .ok (.lstore 9, 2) := by decide +kernel
theorem dX10_tenfoldMean_71 : decode cX10_tenfoldMean 71 = .ok (.bipush 10, 2) := by decide +kernel
theorem dX10_tenfoldMean_73 : decode cX10_tenfoldMean 73 = .ok (.iload 4, 2) := by decide +kernel
theorem dX10_tenfoldMean_75 : decode cX10_tenfoldMean 75 = .ok (.isub, 1) := by decide +kernel
theorem dX10_tenfoldMean_76 : decode cX10_tenfoldMean 76 = .ok (.i2l, 1) := by decide +kernel
theorem dX10_tenfoldMean_77 : decode cX10_tenfoldMean 77 = .ok (.lload 5, 2) := by decide +kernel
theorem dX10_tenfoldMean_79 : decode cX10_tenfoldMean 79 = .ok (.lload 7, 2) := by decide +kernel
theorem dX10_tenfoldMean_81 : decode cX10_tenfoldMean 81 = .ok (.ladd, 1) := by decide +kernel
theorem dX10_tenfoldMean_82 : decode cX10_tenfoldMean 82 = .ok (.lmul, 1) := by decide +kernel
theorem dX10_tenfoldMean_83 : decode cX10_tenfoldMean 83 = .ok (.iload 4, 2) := by decide +kernel
theorem dX10_tenfoldMean_85 : decode cX10_tenfoldMean 85 = .ok (.i2l, 1) := by decide +kernel
theorem dX10_tenfoldMean_86 : decode cX10_tenfoldMean 86 = .ok (.lload 9, 2) := by decide +kernel
theorem dX10_tenfoldMean_88 : decode cX10_tenfoldMean 88 = .ok (.lmul, 1) := by decide +kernel
theorem dX10_tenfoldMean_89 : decode cX10_tenfoldMean 89 = .ok (.ladd, 1) := by decide +kernel
theorem dX10_tenfoldMean_90 : decode cX10_tenfoldMean 90 = .ok (.lreturn, 1) := by decide +kernel
theorem dX10_tenTo_0 : decode cX10_tenTo 0 = .ok (.lconst 1, 1) := by decide +kernel
theorem dX10_tenTo_1 : decode cX10_tenTo 1 = .ok (.lstore_n 1, 1) := by decide +kernel
theorem dX10_tenTo_2 : decode cX10_tenTo 2 = .ok (.iconst 0, 1) := by decide +kernel
theorem dX10_tenTo_3 : decode cX10_tenTo 3 = .ok (.istore_n 3, 1) := by decide +kernel
theorem dX10_tenTo_4 : decode cX10_tenTo 4 = .ok (.iload_n 3, 1) := by decide +kernel
theorem dX10_tenTo_5 : decode cX10_tenTo 5 = .ok (.iload_n 0, 1) := by decide +kernel
theorem dX10_tenTo_6 : decode cX10_tenTo 6 = .ok (.if_icmp .ge 21, 3) := by decide +kernel
theorem dX10_tenTo_9 : decode cX10_tenTo 9 = .ok (.iload_n 3, 1) := by decide +kernel
theorem dX10_tenTo_10 : decode cX10_tenTo 10 = .ok (.bipush 6, 2) := by decide +kernel
theorem dX10_tenTo_12 : decode cX10_tenTo 12 = .ok (.if_icmp .ge 15, 3) := by decide +kernel
theorem dX10_tenTo_15 : decode cX10_tenTo 15 = .ok (.lload_n 1, 1) := by decide +kernel
theorem dX10_tenTo_16 : decode cX10_tenTo 16 = .ok (.ldc2_w 287, 3) := by decide +kernel
theorem dX10_tenTo_19 : decode cX10_tenTo 19 = .ok (.lmul, 1) := by decide +kernel
theorem dX10_tenTo_20 : decode cX10_tenTo 20 = .ok (.lstore_n 1, 1) := by decide +kernel
theorem dX10_tenTo_21 : decode cX10_tenTo 21 = .ok (.iinc 3 1, 3) := by decide +kernel
theorem dX10_tenTo_24 : decode cX10_tenTo 24 = .ok (.goto (-20), 3) := by decide +kernel
theorem dX10_tenTo_27 : decode cX10_tenTo 27 = .ok (.lload_n 1, 1) := by decide +kernel
theorem dX10_tenTo_28 : decode cX10_tenTo 28 = .ok (.lreturn, 1) := by decide +kernel
theorem dX10_setFraction_0 : decode cX10_setFraction 0 = .ok (.lload_n 1, 1) := by decide +kernel
theorem dX10_setFraction_1 : decode cX10_setFraction 1 = .ok (.lload_n 3, 1) := by decide +kernel
theorem dX10_setFraction_2 : decode cX10_setFraction 2 = .ok (.invokestatic 289, 3) := by decide +kernel
theorem dX10_setFraction_5 : decode cX10_setFraction 5 = .ok (.lstore 5, 2) := by decide +kernel
theorem dX10_setFraction_7 : decode cX10_setFraction 7 = .ok (.lload 5, 2) := by decide +kernel
theorem dX10_setFraction_9 : decode cX10_setFraction 9 = .ok (.lconst 0, 1) := by decide +kernel
theorem dX10_setFraction_10 : decode cX10_setFraction 10 = .ok (.lcmp, 1) := by decide +kernel
theorem dX10_setFraction_11 : decode cX10_setFraction 11 = .ok (.ifCond .gt 4, 3) := by decide +kernel
theorem dX10_setFraction_14 : decode cX10_setFraction 14 = .ok (.return_, 1) := by decide +kernel
theorem dX10_setFraction_15 : decode cX10_setFraction 15 = .ok (.aload_n 0, 1) := by decide +kernel
theorem dX10_setFraction_16 : decode cX10_setFraction 16 = .ok (.lload_n 1, 1) := by decide +kernel
theorem dX10_setFraction_17 : decode cX10_setFraction 17 = .ok (.lload 5, 2) := by decide +kernel
theorem dX10_setFraction_19 : decode cX10_setFraction 19 = .ok (.ldiv, 1) := by decide +kernel
theorem dX10_setFraction_20 : decode cX10_setFraction 20 = .ok (.putfield 55, 3) := by decide +kernel
theorem dX10_setFraction_23 : decode cX10_setFraction 23 = .ok (.aload_n 0, 1) := by decide +kernel
theorem dX10_setFraction_24 : decode cX10_setFraction 24 = .ok (.lload_n 3, 1) := by decide +kernel
theorem dX10_setFraction_25 : decode cX10_setFraction 25 = .ok (.lload 5, 2) := by decide +kernel
theorem dX10_setFraction_27 : decode cX10_setFraction 27 = .ok (.ldiv, 1) := by decide +kernel
theorem dX10_setFraction_28 : decode cX10_setFraction 28 = .ok (.putfield 59, 3) := by decide +kernel
theorem dX10_setFraction_31 : decode cX10_setFraction 31 = .ok (.return_, 1) := by decide +kernel
theorem dX10_commonDivisor_0 : decode cX10_commonDivisor 0 = .ok (.iconst 0, 1) := by decide +kernel
theorem dX10_commonDivisor_1 : decode cX10_commonDivisor 1 = .ok (.istore 4, 2) := by decide +kernel
theorem dX10_commonDivisor_3 : decode cX10_commonDivisor 3 = .ok (.iload 4, 2) := by decide +kernel
theorem dX10_commonDivisor_5 : decode cX10_commonDivisor 5 = .ok (.sipush 200, 3) := by decide +kernel
theorem dX10_commonDivisor_8 : decode cX10_commonDivisor 8 = .ok (.if_icmp .ge 25, 3) := by decide +kernel
theorem dX10_commonDivisor_11 : decode cX10_commonDivisor 11 = .ok (.lload_n 2, 1) := by decide +kernel
theorem dX10_commonDivisor_12 : decode cX10_commonDivisor 12 = .ok (.lconst 0, 1) := by decide +kernel
theorem dX10_commonDivisor_13 : decode cX10_commonDivisor 13 = .ok (.lcmp, 1) := by decide +kernel
theorem dX10_commonDivisor_14 : decode cX10_commonDivisor 14 = .ok (.ifCond .eq 19, 3) := by decide +kernel
theorem dX10_commonDivisor_17 : decode cX10_commonDivisor 17 = .ok (.lload_n 0, 1) := by decide +kernel
theorem dX10_commonDivisor_18 : decode cX10_commonDivisor 18 = .ok (.lload_n 2, 1) := by decide +kernel
theorem dX10_commonDivisor_19 : decode cX10_commonDivisor 19 = .ok (.lrem, 1) := by decide +kernel
theorem dX10_commonDivisor_20 : decode cX10_commonDivisor 20 = .ok (.lstore 5, 2) := by decide +kernel
theorem dX10_commonDivisor_22 : decode cX10_commonDivisor 22 = .ok (.lload_n 2, 1) := by decide +kernel
theorem dX10_commonDivisor_23 : decode cX10_commonDivisor 23 = .ok (.lstore_n 0, 1) := by decide +kernel
theorem dX10_commonDivisor_24 : decode cX10_commonDivisor 24 = .ok (.lload 5, 2) := by decide +kernel
theorem dX10_commonDivisor_26 : decode cX10_commonDivisor 26 = .ok (.lstore_n 2, 1) := by decide +kernel
theorem dX10_commonDivisor_27 : decode cX10_commonDivisor 27 = .ok (.iinc 4 1, 3) := by decide +kernel
theorem dX10_commonDivisor_30 : decode cX10_commonDivisor 30 = .ok (.goto (-27), 3) := by decide +kernel
theorem dX10_commonDivisor_33 : decode cX10_commonDivisor 33 = .ok (.lload_n 0, 1) := by decide +kernel
theorem dX10_commonDivisor_34 : decode cX10_commonDivisor 34 = .ok (.lreturn, 1) := by decide +kernel
theorem dX11_init_0 : decode cX11_init 0 = .ok (.aload_n 0, 1) := by decide +kernel
theorem dX11_init_1 : decode cX11_init 1 = .ok (.invokespecial 1, 3) := by decide +kernel
theorem dX11_init_4 : decode cX11_init 4 = .ok (.aload_n 0, 1) := by decide +kernel
theorem dX11_init_5 : decode cX11_init 5 = .ok (.sipush 175, 3) := by decide +kernel
theorem dX11_init_8 : decode cX11_init 8 = .ok (.newarray .int, 2) := by decide +kernel
theorem dX11_init_10 : decode cX11_init 10 = .ok (.putfield 7, 3) := by decide +kernel
theorem dX11_init_13 : decode cX11_init 13 = .ok (.aload_n 0, 1) := by decide +kernel
theorem dX11_init_14 : decode cX11_init 14 = .ok (.sipush 350, 3) := by decide +kernel
theorem dX11_init_17 : decode cX11_init 17 = .ok (.newarray .int, 2) := by decide +kernel
theorem dX11_init_19 : decode cX11_init 19 = .ok (.putfield 13, 3) := by decide +kernel
theorem dX11_init_22 : decode cX11_init 22 = .ok (.aload_n 0, 1) := by decide +kernel
theorem dX11_init_23 : decode cX11_init 23 = .ok (.iconst 2, 1) := by decide +kernel
theorem dX11_init_24 : decode cX11_init 24 = .ok (.newarray .boolean, 2) := by decide +kernel
theorem dX11_init_26 : decode cX11_init 26 = .ok (.putfield 16, 3) := by decide +kernel
theorem dX11_init_29 : decode cX11_init 29 = .ok (.aload_n 0, 1) := by decide +kernel
theorem dX11_init_30 : decode cX11_init 30 = .ok (.iconst 3, 1) := by decide +kernel
theorem dX11_init_31 : decode cX11_init 31 = .ok (.newarray .int, 2) := by decide +kernel
theorem dX11_init_33 : decode cX11_init 33 = .ok (.putfield 20, 3) := by decide +kernel
theorem dX11_init_36 : decode cX11_init 36 = .ok (.aload_n 0, 1) := by decide +kernel
theorem dX11_init_37 : decode cX11_init 37 = .ok (.lconst 1, 1) := by decide +kernel
theorem dX11_init_38 : decode cX11_init 38 = .ok (.putfield 23, 3) := by decide +kernel
theorem dX11_init_41 : decode cX11_init 41 = .ok (.aload_n 0, 1) := by decide +kernel
theorem dX11_init_42 : decode cX11_init 42 = .ok (.bipush 6, 2) := by decide +kernel
theorem dX11_init_44 : decode cX11_init 44 = .ok (.newarray .int, 2) := by decide +kernel
theorem dX11_init_46 : decode cX11_init 46 = .ok (.putfield 27, 3) := by decide +kernel
theorem dX11_init_49 : decode cX11_init 49 = .ok (.aload_n 0, 1) := by decide +kernel
theorem dX11_init_50 : decode cX11_init 50 = .ok (.bipush 6, 2) := by decide +kernel
theorem dX11_init_52 : decode cX11_init 52 = .ok (.newarray .int, 2) := by decide +kernel
theorem dX11_init_54 : decode cX11_init 54 = .ok (.putfield 30, 3) := by decide +kernel
theorem dX11_init_57 : decode cX11_init 57 = .ok (.aload_n 0, 1) := by decide +kernel
theorem dX11_init_58 : decode cX11_init 58 = .ok (.bipush 6, 2) := by decide +kernel
theorem dX11_init_60 : decode cX11_init 60 = .ok (.newarray .int, 2) := by decide +kernel
theorem dX11_init_62 : decode cX11_init 62 = .ok (.putfield 33, 3) := by decide +kernel
theorem dX11_init_65 : decode cX11_init 65 = .ok (.aload_n 0, 1) := by decide +kernel
theorem dX11_init_66 : decode cX11_init 66 = .ok (.sipush 150, 3) := by decide +kernel
theorem dX11_init_69 : decode cX11_init 69 = .ok (.newarray .int, 2) := by decide +kernel
theorem dX11_init_71 : decode cX11_init 71 = .ok (.putfield 36, 3) := by decide +kernel
theorem dX11_init_74 : decode cX11_init 74 = .ok (.aload_n 0, 1) := by decide +kernel
theorem dX11_init_75 : decode cX11_init 75 = .ok (.bipush 71, 2) := by decide +kernel
theorem dX11_init_77 : decode cX11_init 77 = .ok (.newarray .int, 2) := by decide +kernel
theorem dX11_init_79 : decode cX11_init 79 = .ok (.putfield 39, 3) := by decide +kernel
theorem dX11_init_82 : decode cX11_init 82 = .ok (.aload_n 0, 1) := by decide +kernel
theorem dX11_init_83 : decode cX11_init 83 = .ok (.iconst 2, 1) := by decide +kernel
theorem dX11_init_84 : decode cX11_init 84 = .ok (.newarray .int, 2) := by decide +kernel
theorem dX11_init_86 : decode cX11_init 86 = .ok (.putfield 42, 3) := by decide +kernel
theorem dX11_init_89 : decode cX11_init 89 = .ok (.aload_n 0, 1) := by decide +kernel
theorem dX11_init_90 : decode cX11_init 90 = .ok (.getfield 7, 3) := by decide +kernel
theorem dX11_init_93 : decode cX11_init 93 = .ok (.invokestatic 45, 3) := by decide +kernel
theorem dX11_init_96 : decode cX11_init 96 = .ok (.return_, 1) := by decide +kernel
theorem dX11_in_0 : decode cX11_in 0 = .ok (.lload_n 0, 1) := by decide +kernel
theorem dX11_in_1 : decode cX11_in 1 = .ok (.lload_n 2, 1) := by decide +kernel
theorem dX11_in_2 : decode cX11_in 2 = .ok (.lcmp, 1) := by decide +kernel
theorem dX11_in_3 : decode cX11_in 3 = .ok (.ifCond .lt 14, 3) := by decide +kernel
theorem dX11_in_6 : decode cX11_in 6 = .ok (.lload_n 0, 1) := by decide +kernel
theorem dX11_in_7 : decode cX11_in 7 = .ok (.lload 4, 2) := by decide +kernel
theorem dX11_in_9 : decode cX11_in 9 = .ok (.lcmp, 1) := by decide +kernel
theorem dX11_in_10 : decode cX11_in 10 = .ok (.ifCond .gt 7, 3) := by decide +kernel
theorem dX11_in_13 : decode cX11_in 13 = .ok (.iconst 1, 1) := by decide +kernel
theorem dX11_in_14 : decode cX11_in 14 = .ok (.goto 4, 3) := by decide +kernel
theorem dX11_in_17 : decode cX11_in 17 = .ok (.iconst 0, 1) := by decide +kernel
theorem dX11_in_18 : decode cX11_in 18 = .ok (.ireturn, 1) := by decide +kernel
theorem dX11_bad_0 : decode cX11_bad 0 = .ok (.aload_n 0, 1) := by decide +kernel
theorem dX11_bad_1 : decode cX11_bad 1 = .ok (.getfield 20, 3) := by decide +kernel
theorem dX11_bad_4 : decode cX11_bad 4 = .ok (.iconst 0, 1) := by decide +kernel
theorem dX11_bad_5 : decode cX11_bad 5 = .ok (.dup2, 1) := by decide +kernel
theorem dX11_bad_6 : decode cX11_bad 6 = .ok (.iaload, 1) := by decide +kernel
theorem dX11_bad_7 : decode cX11_bad 7 = .ok (.iconst 1, 1) := by decide +kernel
theorem dX11_bad_8 : decode cX11_bad 8 = .ok (.iadd, 1) := by decide +kernel
theorem dX11_bad_9 : decode cX11_bad 9 = .ok (.iastore, 1) := by decide +kernel
theorem dX11_bad_10 : decode cX11_bad 10 = .ok (.iload_n 1, 1) := by decide +kernel
theorem dX11_bad_11 : decode cX11_bad 11 = .ok (.ireturn, 1) := by decide +kernel
theorem dX11_no_0 : decode cX11_no 0 = .ok (.aload_n 0, 1) := by decide +kernel
theorem dX11_no_1 : decode cX11_no 1 = .ok (.getfield 20, 3) := by decide +kernel
theorem dX11_no_4 : decode cX11_no 4 = .ok (.iconst 1, 1) := by decide +kernel
theorem dX11_no_5 : decode cX11_no 5 = .ok (.dup2, 1) := by decide +kernel
theorem dX11_no_6 : decode cX11_no 6 = .ok (.iaload, 1) := by decide +kernel
theorem dX11_no_7 : decode cX11_no 7 = .ok (.iconst 1, 1) := by decide +kernel
theorem dX11_no_8 : decode cX11_no 8 = .ok (.iadd, 1) := by decide +kernel
theorem dX11_no_9 : decode cX11_no 9 = .ok (.iastore, 1) := by decide +kernel
theorem dX11_no_10 : decode cX11_no 10 = .ok (.bipush (-3), 2) := by decide +kernel
theorem dX11_no_12 : decode cX11_no 12 = .ok (.ireturn, 1) := by decide +kernel
theorem dX11_full_0 : decode cX11_full 0 = .ok (.aload_n 0, 1) := by decide +kernel
theorem dX11_full_1 : decode cX11_full 1 = .ok (.getfield 20, 3) := by decide +kernel
theorem dX11_full_4 : decode cX11_full 4 = .ok (.iconst 2, 1) := by decide +kernel
theorem dX11_full_5 : decode cX11_full 5 = .ok (.dup2, 1) := by decide +kernel
theorem dX11_full_6 : decode cX11_full 6 = .ok (.iaload, 1) := by decide +kernel
theorem dX11_full_7 : decode cX11_full 7 = .ok (.iconst 1, 1) := by decide +kernel
theorem dX11_full_8 : decode cX11_full 8 = .ok (.iadd, 1) := by decide +kernel
theorem dX11_full_9 : decode cX11_full 9 = .ok (.iastore, 1) := by decide +kernel
theorem dX11_full_10 : decode cX11_full 10 = .ok (.bipush (-4), 2) := by decide +kernel
theorem dX11_full_12 : decode cX11_full 12 = .ok (.ireturn, 1) := by decide +kernel
theorem dX11_has_0 : decode cX11_has 0 = .ok (.iload_n 0, 1) := by decide +kernel
theorem dX11_has_1 : decode cX11_has 1 = .ok (.iload_n 1, 1) := by decide +kernel
theorem dX11_has_2 : decode cX11_has 2 = .ok (.ishr, 1) := by decide +kernel
theorem dX11_has_3 : decode cX11_has 3 = .ok (.iconst 1, 1) := by decide +kernel
theorem dX11_has_4 : decode cX11_has 4 = .ok (.iand, 1) := by decide +kernel
theorem dX11_has_5 : decode cX11_has 5 = .ok (.iconst 1, 1) := by decide +kernel
theorem dX11_has_6 : decode cX11_has 6 = .ok (.if_icmp .ne 7, 3) := by decide +kernel
theorem dX11_has_9 : decode cX11_has 9 = .ok (.iconst 1, 1) := by decide +kernel
theorem dX11_has_10 : decode cX11_has 10 = .ok (.goto 4, 3) := by decide +kernel
theorem dX11_has_13 : decode cX11_has 13 = .ok (.iconst 0, 1) := by decide +kernel
theorem dX11_has_14 : decode cX11_has 14 = .ok (.ireturn, 1) := by decide +kernel
theorem dX11_begin_0 : decode cX11_begin 0 = .ok (.iconst 0, 1) := by decide +kernel
theorem dX11_begin_1 : decode cX11_begin 1 = .ok (.istore_n 1, 1) := by decide +kernel
theorem dX11_begin_2 : decode cX11_begin 2 = .ok (.iload_n 1, 1) := by decide +kernel
theorem dX11_begin_3 : decode cX11_begin 3 = .ok (.bipush 71, 2) := by decide +kernel
theorem dX11_begin_5 : decode cX11_begin 5 = .ok (.if_icmp .ge 13, 3) := by decide +kernel
theorem dX11_begin_8 : decode cX11_begin 8 = .ok (.aload_n 0, 1) := by decide +kernel
theorem dX11_begin_9 : decode cX11_begin 9 = .ok (.iload_n 1, 1) := by decide +kernel
theorem dX11_begin_10 : decode cX11_begin 10 = .ok (.iconst 0, 1) := by decide +kernel
theorem dX11_begin_11 : decode cX11_begin 11 = .ok (.iastore, 1) := by decide +kernel
theorem dX11_begin_12 : decode cX11_begin 12 = .ok (.iinc 1 1, 3) := by decide +kernel
theorem dX11_begin_15 : decode cX11_begin 15 = .ok (.goto (-13), 3) := by decide +kernel
theorem dX11_begin_18 : decode cX11_begin 18 = .ok (.return_, 1) := by decide +kernel
theorem dX11_many_0 : decode cX11_many 0 = .ok (.aload_n 0, 1) := by decide +kernel
theorem dX11_many_1 : decode cX11_many 1 = .ok (.getfield 7, 3) := by decide +kernel
theorem dX11_many_4 : decode cX11_many 4 = .ok (.iconst 0, 1) := by decide +kernel
theorem dX11_many_5 : decode cX11_many 5 = .ok (.iaload, 1) := by decide +kernel
theorem dX11_many_6 : decode cX11_many 6 = .ok (.ireturn, 1) := by decide +kernel
theorem dX11_isDriver_0 : decode cX11_isDriver 0 = .ok (.iload_n 1, 1) := by decide +kernel
theorem dX11_isDriver_1 : decode cX11_isDriver 1 = .ok (.i2l, 1) := by decide +kernel
theorem dX11_isDriver_2 : decode cX11_isDriver 2 = .ok (.lconst 0, 1) := by decide +kernel
theorem dX11_isDriver_3 : decode cX11_isDriver 3 = .ok (.aload_n 0, 1) := by decide +kernel
theorem dX11_isDriver_4 : decode cX11_isDriver 4 = .ok (.invokevirtual 49, 3) := by decide +kernel
theorem dX11_isDriver_7 : decode cX11_isDriver 7 = .ok (.iconst 1, 1) := by decide +kernel
theorem dX11_isDriver_8 : decode cX11_isDriver 8 = .ok (.isub, 1) := by decide +kernel
theorem dX11_isDriver_9 : decode cX11_isDriver 9 = .ok (.i2l, 1) := by decide +kernel
theorem dX11_isDriver_10 : decode cX11_isDriver 10 = .ok (.invokestatic 53, 3) := by decide +kernel
theorem dX11_isDriver_13 : decode cX11_isDriver 13 = .ok (.ireturn, 1) := by decide +kernel
theorem dX11_isChoice_0 : decode cX11_isChoice 0 = .ok (.iload_n 0, 1) := by decide +kernel
theorem dX11_isChoice_1 : decode cX11_isChoice 1 = .ok (.i2l, 1) := by decide +kernel
theorem dX11_isChoice_2 : decode cX11_isChoice 2 = .ok (.lconst 0, 1) := by decide +kernel
theorem dX11_isChoice_3 : decode cX11_isChoice 3 = .ok (.ldc2_w 57, 3) := by decide +kernel
theorem dX11_isChoice_6 : decode cX11_isChoice 6 = .ok (.invokestatic 53, 3) := by decide +kernel
theorem dX11_isChoice_9 : decode cX11_isChoice 9 = .ok (.ireturn, 1) := by decide +kernel
theorem dX11_rank_0 : decode cX11_rank 0 = .ok (.aload_n 0, 1) := by decide +kernel
theorem dX11_rank_1 : decode cX11_rank 1 = .ok (.invokevirtual 49, 3) := by decide +kernel
theorem dX11_rank_4 : decode cX11_rank 4 = .ok (.istore_n 1, 1) := by decide +kernel
theorem dX11_rank_5 : decode cX11_rank 5 = .ok (.aload_n 0, 1) := by decide +kernel
theorem dX11_rank_6 : decode cX11_rank 6 = .ok (.getfield 7, 3) := by decide +kernel
theorem dX11_rank_9 : decode cX11_rank 9 = .ok (.invokestatic 45, 3) := by decide +kernel
theorem dX11_rank_12 : decode cX11_rank 12 = .ok (.iload_n 1, 1) := by decide +kernel
theorem dX11_rank_13 : decode cX11_rank 13 = .ok (.ireturn, 1) := by decide +kernel
theorem dX11_layDriver_0 : decode cX11_layDriver 0 = .ok (.aload_n 0, 1) := by decide +kernel
theorem dX11_layDriver_1 : decode cX11_layDriver 1 = .ok (.iconst 0, 1) := by decide +kernel
theorem dX11_layDriver_2 : decode cX11_layDriver 2 = .ok (.iaload, 1) := by decide +kernel
theorem dX11_layDriver_3 : decode cX11_layDriver 3 = .ok (.istore_n 3, 1) := by decide +kernel
theorem dX11_layDriver_4 : decode cX11_layDriver 4 = .ok (.aload_n 0, 1) := by decide +kernel
theorem dX11_layDriver_5 : decode cX11_layDriver 5 = .ok (.bipush 17, 2) := by decide +kernel
theorem dX11_layDriver_7 : decode cX11_layDriver 7 = .ok (.iload_n 3, 1) := by decide +kernel
theorem dX11_layDriver_8 : decode cX11_layDriver 8 = .ok (.iadd, 1) := by decide +kernel
theorem dX11_layDriver_9 : decode cX11_layDriver 9 = .ok (.iload_n 1, 1) := by decide +kernel
theorem dX11_layDriver_10 : decode cX11_layDriver 10 = .ok (.iastore, 1) := by decide +kernel
theorem dX11_layDriver_11 : decode cX11_layDriver 11 = .ok (.aload_n 0, 1) := by decide +kernel
theorem dX11_layDriver_12 : decode cX11_layDriver 12 = .ok (.iconst 4, 1) := by decide +kernel
theorem dX11_layDriver_13 : decode cX11_layDriver 13 = .ok (.iload_n 3, 1) := by decide +kernel
theorem dX11_layDriver_14 : decode cX11_layDriver 14 = .ok (.iadd, 1) := by decide +kernel
theorem dX11_layDriver_15 : decode cX11_layDriver 15 = .ok (.iload_n 2, 1) := by decide +kernel
theorem dX11_layDriver_16 : decode cX11_layDriver 16 = .ok (.iastore, 1) := by decide +kernel
theorem dX11_layDriver_17 : decode cX11_layDriver 17 = .ok (.aload_n 0, 1) := by decide +kernel
theorem dX11_layDriver_18 : decode cX11_layDriver 18 = .ok (.bipush 10, 2) := by decide +kernel
theorem dX11_layDriver_20 : decode cX11_layDriver 20 = .ok (.iload_n 3, 1) := by decide +kernel
theorem dX11_layDriver_21 : decode cX11_layDriver 21 = .ok (.iadd, 1) := by decide +kernel
theorem dX11_layDriver_22 : decode cX11_layDriver 22 = .ok (.iconst 0, 1) := by decide +kernel
theorem dX11_layDriver_23 : decode cX11_layDriver 23 = .ok (.iastore, 1) := by decide +kernel
theorem dX11_layDriver_24 : decode cX11_layDriver 24 = .ok (.aload_n 0, 1) := by decide +kernel
theorem dX11_layDriver_25 : decode cX11_layDriver 25 = .ok (.iconst 0, 1) := by decide +kernel
theorem dX11_layDriver_26 : decode cX11_layDriver 26 = .ok (.dup2, 1) := by decide +kernel
theorem dX11_layDriver_27 : decode cX11_layDriver 27 = .ok (.iaload, 1) := by decide +kernel
theorem dX11_layDriver_28 : decode cX11_layDriver 28 = .ok (.iconst 1, 1) := by decide +kernel
theorem dX11_layDriver_29 : decode cX11_layDriver 29 = .ok (.iadd, 1) := by decide +kernel
theorem dX11_layDriver_30 : decode cX11_layDriver 30 = .ok (.iastore, 1) := by decide +kernel
theorem dX11_layDriver_31 : decode cX11_layDriver 31 = .ok (.return_, 1) := by decide +kernel
theorem dX11_driver_0 : decode cX11_driver 0 = .ok (.iload_n 1, 1) := by decide +kernel
theorem dX11_driver_1 : decode cX11_driver 1 = .ok (.i2l, 1) := by decide +kernel
theorem dX11_driver_2 : decode cX11_driver 2 = .ok (.lconst 0, 1) := by decide +kernel
theorem dX11_driver_3 : decode cX11_driver 3 = .ok (.ldc2_w 59, 3) := by decide +kernel
theorem dX11_driver_6 : decode cX11_driver 6 = .ok (.invokestatic 53, 3) := by decide +kernel
theorem dX11_driver_9 : decode cX11_driver 9 = .ok (.ifCond .eq 15, 3) := by decide +kernel
theorem dX11_driver_12 : decode cX11_driver 12 = .ok (.iload_n 2, 1) := by decide +kernel
theorem dX11_driver_13 : decode cX11_driver 13 = .ok (.i2l, 1) := by decide +kernel
theorem dX11_driver_14 : decode cX11_driver 14 = .ok (.lconst 0, 1) := by decide +kernel
theorem dX11_driver_15 : decode cX11_driver 15 = .ok (.ldc2_w 61, 3) := by decide +kernel
theorem dX11_driver_18 : decode cX11_driver 18 = .ok (.invokestatic 53, 3) := by decide +kernel
theorem dX11_driver_21 : decode cX11_driver 21 = .ok (.ifCond .ne 10, 3) := by decide +kernel
theorem dX11_driver_24 : decode cX11_driver 24 = .ok (.aload_n 0, 1) := by decide +kernel
theorem dX11_driver_25 : decode cX11_driver 25 = .ok (.bipush (-2), 2) := by decide +kernel
theorem dX11_driver_27 : decode cX11_driver 27 = .ok (.invokevirtual 63, 3) := by decide +kernel
theorem dX11_driver_30 : decode cX11_driver 30 = .ok (.ireturn, 1) := by decide +kernel
theorem dX11_driver_31 : decode cX11_driver 31 = .ok (.aload_n 0, 1) := by decide +kernel
theorem dX11_driver_32 : decode cX11_driver 32 = .ok (.invokevirtual 49, 3) := by decide +kernel
theorem dX11_driver_35 : decode cX11_driver 35 = .ok (.bipush 6, 2) := by decide +kernel
theorem dX11_driver_37 : decode cX11_driver 37 = .ok (.if_icmp .ne 8, 3) := by decide +kernel
theorem dX11_driver_40 : decode cX11_driver 40 = .ok (.aload_n 0, 1) := by decide +kernel
theorem dX11_driver_41 : decode cX11_driver 41 = .ok (.invokevirtual 67, 3) := by decide +kernel
theorem dX11_driver_44 : decode cX11_driver 44 = .ok (.ireturn, 1) := by decide +kernel
theorem dX11_driver_45 : decode cX11_driver 45 = .ok (.aload_n 0, 1) := by decide +kernel
theorem dX11_driver_46 : decode cX11_driver 46 = .ok (.getfield 7, 3) := by decide +kernel
theorem dX11_driver_49 : decode cX11_driver 49 = .ok (.iload_n 1, 1) := by decide +kernel
theorem dX11_driver_50 : decode cX11_driver 50 = .ok (.iload_n 2, 1) := by decide +kernel
theorem dX11_driver_51 : decode cX11_driver 51 = .ok (.invokestatic 70, 3) := by decide +kernel
theorem dX11_driver_54 : decode cX11_driver 54 = .ok (.aload_n 0, 1) := by decide +kernel
theorem dX11_driver_55 : decode cX11_driver 55 = .ok (.getfield 7, 3) := by decide +kernel
theorem dX11_driver_58 : decode cX11_driver 58 = .ok (.iconst 3, 1) := by decide +kernel
theorem dX11_driver_59 : decode cX11_driver 59 = .ok (.iconst 0, 1) := by decide +kernel
theorem dX11_driver_60 : decode cX11_driver 60 = .ok (.iastore, 1) := by decide +kernel
theorem dX11_driver_61 : decode cX11_driver 61 = .ok (.aload_n 0, 1) := by decide +kernel
theorem dX11_driver_62 : decode cX11_driver 62 = .ok (.invokevirtual 49, 3) := by decide +kernel
theorem dX11_driver_65 : decode cX11_driver 65 = .ok (.iconst 1, 1) := by decide +kernel
theorem dX11_driver_66 : decode cX11_driver 66 = .ok (.isub, 1) := by decide +kernel
theorem dX11_driver_67 : decode cX11_driver 67 = .ok (.ireturn, 1) := by decide +kernel
theorem dX11_seasonOf_0 : decode cX11_seasonOf 0 = .ok (.iload_n 0, 1) := by decide +kernel
theorem dX11_seasonOf_1 : decode cX11_seasonOf 1 = .ok (.bipush 20, 2) := by decide +kernel
theorem dX11_seasonOf_3 : decode cX11_seasonOf 3 = .ok (.idiv, 1) := by decide +kernel
theorem dX11_seasonOf_4 : decode cX11_seasonOf 4 = .ok (.iconst 4, 1) := by decide +kernel
theorem dX11_seasonOf_5 : decode cX11_seasonOf 5 = .ok (.irem, 1) := by decide +kernel
theorem dX11_seasonOf_6 : decode cX11_seasonOf 6 = .ok (.ireturn, 1) := by decide +kernel
theorem dX11_runsAs_0 : decode cX11_runsAs 0 = .ok (.iload_n 2, 1) := by decide +kernel
theorem dX11_runsAs_1 : decode cX11_runsAs 1 = .ok (.ifCond .ne 7, 3) := by decide +kernel
theorem dX11_runsAs_4 : decode cX11_runsAs 4 = .ok (.iload_n 1, 1) := by decide +kernel
theorem dX11_runsAs_5 : decode cX11_runsAs 5 = .ok (.goto 6, 3) := by decide +kernel
theorem dX11_runsAs_8 : decode cX11_runsAs 8 = .ok (.iconst 2, 1) := by decide +kernel
theorem dX11_runsAs_9 : decode cX11_runsAs 9 = .ok (.iload_n 1, 1) := by decide +kernel
theorem dX11_runsAs_10 : decode cX11_runsAs 10 = .ok (.imul, 1) := by decide +kernel
theorem dX11_runsAs_11 : decode cX11_runsAs 11 = .ok (.istore_n 3, 1) := by decide +kernel
theorem dX11_runsAs_12 : decode cX11_runsAs 12 = .ok (.iload_n 2, 1) := by decide +kernel
theorem dX11_runsAs_13 : decode cX11_runsAs 13 = .ok (.iconst 1, 1) := by decide +kernel
theorem dX11_runsAs_14 : decode cX11_runsAs 14 = .ok (.if_icmp .ne 7, 3) := by decide +kernel
theorem dX11_runsAs_17 : decode cX11_runsAs 17 = .ok (.iconst 0, 1) := by decide +kernel
theorem dX11_runsAs_18 : decode cX11_runsAs 18 = .ok (.goto 4, 3) := by decide +kernel
theorem dX11_runsAs_21 : decode cX11_runsAs 21 = .ok (.iload_n 3, 1) := by decide +kernel
theorem dX11_runsAs_22 : decode cX11_runsAs 22 = .ok (.istore 4, 2) := by decide +kernel
theorem dX11_runsAs_24 : decode cX11_runsAs 24 = .ok (.iload_n 0, 1) := by decide +kernel
theorem dX11_runsAs_25 : decode cX11_runsAs 25 = .ok (.tableswitch 53 2 5 #[31, 35, 53, 38], 31) := by decide +kernel
theorem dX11_runsAs_56 : decode cX11_runsAs 56 = .ok (.iload_n 3, 1) := by decide +kernel
theorem dX11_runsAs_57 : decode cX11_runsAs 57 = .ok (.iconst 3, 1) := by decide +kernel
theorem dX11_runsAs_58 : decode cX11_runsAs 58 = .ok (.idiv, 1) := by decide +kernel
theorem dX11_runsAs_59 : decode cX11_runsAs 59 = .ok (.ireturn, 1) := by decide +kernel
theorem dX11_runsAs_60 : decode cX11_runsAs 60 = .ok (.iload 4, 2) := by decide +kernel
theorem dX11_runsAs_62 : decode cX11_runsAs 62 = .ok (.ireturn, 1) := by decide +kernel
theorem dX11_runsAs_63 : decode cX11_runsAs 63 = .ok (.iload 4, 2) := by decide +kernel
theorem dX11_runsAs_65 : decode cX11_runsAs 65 = .ok (.bipush 30, 2) := by decide +kernel
theorem dX11_runsAs_67 : decode cX11_runsAs 67 = .ok (.if_icmp .le 8, 3) := by decide +kernel
theorem dX11_runsAs_70 : decode cX11_runsAs 70 = .ok (.bipush 30, 2) := by decide +kernel
theorem dX11_runsAs_72 : decode cX11_runsAs 72 = .ok (.goto 5, 3) := by decide +kernel
theorem dX11_runsAs_75 : decode cX11_runsAs 75 = .ok (.iload 4, 2) := by decide +kernel
theorem dX11_runsAs_77 : decode cX11_runsAs 77 = .ok (.ireturn, 1) := by decide +kernel
theorem dX11_runsAs_78 : decode cX11_runsAs 78 = .ok (.iload_n 3, 1) := by decide +kernel
theorem dX11_runsAs_79 : decode cX11_runsAs 79 = .ok (.ireturn, 1) := by decide +kernel
theorem dX11_droveAs_0 : decode cX11_droveAs 0 = .ok (.iload_n 1, 1) := by decide +kernel
theorem dX11_droveAs_1 : decode cX11_droveAs 1 = .ok (.iconst 1, 1) := by decide +kernel
theorem dX11_droveAs_2 : decode cX11_droveAs 2 = .ok (.isub, 1) := by decide +kernel
theorem dX11_droveAs_3 : decode cX11_droveAs 3 = .ok (.iload_n 1, 1) := by decide +kernel
theorem dX11_droveAs_4 : decode cX11_droveAs 4 = .ok (.bipush 10, 2) := by decide +kernel
theorem dX11_droveAs_6 : decode cX11_droveAs 6 = .ok (.idiv, 1) := by decide +kernel
theorem dX11_droveAs_7 : decode cX11_droveAs 7 = .ok (.isub, 1) := by decide +kernel
theorem dX11_droveAs_8 : decode cX11_droveAs 8 = .ok (.istore_n 2, 1) := by decide +kernel
theorem dX11_droveAs_9 : decode cX11_droveAs 9 = .ok (.iload_n 2, 1) := by decide +kernel
theorem dX11_droveAs_10 : decode cX11_droveAs 10 = .ok (.iconst 1, 1) := by decide +kernel
theorem dX11_droveAs_11 : decode cX11_droveAs 11 = .ok (.iadd, 1) := by decide +kernel
theorem dX11_droveAs_12 : decode cX11_droveAs 12 = .ok (.iload_n 1, 1) := by decide +kernel
theorem dX11_droveAs_13 : decode cX11_droveAs 13 = .ok (.if_icmp .ge 9, 3) := by decide +kernel
theorem dX11_droveAs_16 : decode cX11_droveAs 16 = .ok (.iload_n 2, 1) := by decide +kernel
theorem dX11_droveAs_17 : decode cX11_droveAs 17 = .ok (.iconst 1, 1) := by decide +kernel
theorem dX11_droveAs_18 : decode cX11_droveAs 18 = .ok (.iadd, 1) := by decide +kernel
theorem dX11_droveAs_19 : decode cX11_droveAs 19 = .ok (.goto 4, 3) := by decide +kernel
theorem dX11_droveAs_22 : decode cX11_droveAs 22 = .ok (.iload_n 1, 1) := by decide +kernel
theorem dX11_droveAs_23 : decode cX11_droveAs 23 = .ok (.istore_n 3, 1) := by decide +kernel
theorem dX11_droveAs_24 : decode cX11_droveAs 24 = .ok (.iload_n 0, 1) := by decide +kernel
theorem dX11_droveAs_25 : decode cX11_droveAs 25 = .ok (.iconst 1, 1) := by decide +kernel
theorem dX11_droveAs_26 : decode cX11_droveAs 26 = .ok (.if_icmp .eq 8, 3) := by decide +kernel
theorem dX11_droveAs_29 : decode cX11_droveAs 29 = .ok (.iload_n 0, 1) := by decide +kernel
theorem dX11_droveAs_30 : decode cX11_droveAs 30 = .ok (.iconst 4, 1) := by decide +kernel
theorem dX11_droveAs_31 : decode cX11_droveAs 31 = .ok (.if_icmp .ne 7, 3) := by decide +kernel
theorem dX11_droveAs_34 : decode cX11_droveAs 34 = .ok (.iload_n 3, 1) := by decide +kernel
theorem dX11_droveAs_35 : decode cX11_droveAs 35 = .ok (.goto 4, 3) := by decide +kernel
theorem dX11_droveAs_38 : decode cX11_droveAs 38 = .ok (.iload_n 2, 1) := by decide +kernel
theorem dX11_droveAs_39 : decode cX11_droveAs 39 = .ok (.ireturn, 1) := by decide +kernel
theorem dX11_toldAs_0 : decode cX11_toldAs 0 = .ok (.iload_n 1, 1) := by decide +kernel
theorem dX11_toldAs_1 : decode cX11_toldAs 1 = .ok (.iconst 4, 1) := by decide +kernel
theorem dX11_toldAs_2 : decode cX11_toldAs 2 = .ok (.iadd, 1) := by decide +kernel
theorem dX11_toldAs_3 : decode cX11_toldAs 3 = .ok (.istore_n 2, 1) := by decide +kernel
theorem dX11_toldAs_4 : decode cX11_toldAs 4 = .ok (.iload_n 0, 1) := by decide +kernel
theorem dX11_toldAs_5 : decode cX11_toldAs 5 = .ok (.iconst 2, 1) := by decide +kernel
theorem dX11_toldAs_6 : decode cX11_toldAs 6 = .ok (.if_icmp .ne 9, 3) := by decide +kernel
theorem dX11_toldAs_9 : decode cX11_toldAs 9 = .ok (.iload_n 2, 1) := by decide +kernel
theorem dX11_toldAs_10 : decode cX11_toldAs 10 = .ok (.iconst 2, 1) := by decide +kernel
theorem dX11_toldAs_11 : decode cX11_toldAs 11 = .ok (.idiv, 1) := by decide +kernel
theorem dX11_toldAs_12 : decode cX11_toldAs 12 = .ok (.goto 15, 3) := by decide +kernel
theorem dX11_toldAs_15 : decode cX11_toldAs 15 = .ok (.iload_n 0, 1) := by decide +kernel
theorem dX11_toldAs_16 : decode cX11_toldAs 16 = .ok (.iconst 4, 1) := by decide +kernel
theorem dX11_toldAs_17 : decode cX11_toldAs 17 = .ok (.if_icmp .ne 9, 3) := by decide +kernel
theorem dX11_toldAs_20 : decode cX11_toldAs 20 = .ok (.iload_n 2, 1) := by decide +kernel
theorem dX11_toldAs_21 : decode cX11_toldAs 21 = .ok (.iconst 4, 1) := by decide +kernel
theorem dX11_toldAs_22 : decode cX11_toldAs 22 = .ok (.iadd, 1) := by decide +kernel
theorem dX11_toldAs_23 : decode cX11_toldAs 23 = .ok (.goto 4, 3) := by decide +kernel
theorem dX11_toldAs_26 : decode cX11_toldAs 26 = .ok (.iload_n 2, 1) := by decide +kernel
theorem dX11_toldAs_27 : decode cX11_toldAs 27 = .ok (.ireturn, 1) := by decide +kernel
theorem dX11_restedAs_0 : decode cX11_restedAs 0 = .ok (.iload_n 1, 1) := by decide +kernel
theorem dX11_restedAs_1 : decode cX11_restedAs 1 = .ok (.iconst 1, 1) := by decide +kernel
theorem dX11_restedAs_2 : decode cX11_restedAs 2 = .ok (.isub, 1) := by decide +kernel
theorem dX11_restedAs_3 : decode cX11_restedAs 3 = .ok (.istore_n 2, 1) := by decide +kernel
theorem dX11_restedAs_4 : decode cX11_restedAs 4 = .ok (.iload_n 0, 1) := by decide +kernel
theorem dX11_restedAs_5 : decode cX11_restedAs 5 = .ok (.iconst 5, 1) := by decide +kernel
theorem dX11_restedAs_6 : decode cX11_restedAs 6 = .ok (.if_icmp .ne 7, 3) := by decide +kernel
