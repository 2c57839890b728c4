theorem dX11_kindsOf_31 : decode cX11_kindsOf 31 = .ok (.iload 5, 2) := by decide +kernel
theorem dX11_kindsOf_33 : decode cX11_kindsOf 33 = .ok (.imul, 1) := by decide +kernel
theorem dX11_kindsOf_34 : decode cX11_kindsOf 34 = .ok (.iadd, 1) := by decide +kernel
theorem dX11_kindsOf_35 : decode cX11_kindsOf 35 = .ok (.istore 6, 2) := by decide +kernel
theorem dX11_kindsOf_37 : decode cX11_kindsOf 37 = .ok (.iload_n 3, 1) := by decide +kernel
theorem dX11_kindsOf_38 : decode cX11_kindsOf 38 = .ok (.aload_n 0, 1) := by decide +kernel
theorem dX11_kindsOf_39 : decode cX11_kindsOf 39 = .ok (.getfield 7, 3) := by decide +kernel
theorem dX11_kindsOf_42 : decode cX11_kindsOf 42 = .ok (.iload 6, 2) := by decide +kernel
theorem dX11_kindsOf_44 : decode cX11_kindsOf 44 = .ok (.iconst 1, 1) := by decide +kernel
theorem dX11_kindsOf_45 : decode cX11_kindsOf 45 = .ok (.iadd, 1) := by decide +kernel
theorem dX11_kindsOf_46 : decode cX11_kindsOf 46 = .ok (.iaload, 1) := by decide +kernel
theorem dX11_kindsOf_47 : decode cX11_kindsOf 47 = .ok (.aload_n 0, 1) := by decide +kernel
theorem dX11_kindsOf_48 : decode cX11_kindsOf 48 = .ok (.getfield 7, 3) := by decide +kernel
theorem dX11_kindsOf_51 : decode cX11_kindsOf 51 = .ok (.iload 6, 2) := by decide +kernel
theorem dX11_kindsOf_53 : decode cX11_kindsOf 53 = .ok (.iconst 2, 1) := by decide +kernel
theorem dX11_kindsOf_54 : decode cX11_kindsOf 54 = .ok (.iadd, 1) := by decide +kernel
theorem dX11_kindsOf_55 : decode cX11_kindsOf 55 = .ok (.iaload, 1) := by decide +kernel
theorem dX11_kindsOf_56 : decode cX11_kindsOf 56 = .ok (.invokestatic 94, 3) := by decide +kernel
theorem dX11_kindsOf_59 : decode cX11_kindsOf 59 = .ok (.aload_n 0, 1) := by decide +kernel
theorem dX11_kindsOf_60 : decode cX11_kindsOf 60 = .ok (.getfield 7, 3) := by decide +kernel
theorem dX11_kindsOf_63 : decode cX11_kindsOf 63 = .ok (.iload 6, 2) := by decide +kernel
theorem dX11_kindsOf_65 : decode cX11_kindsOf 65 = .ok (.iconst 3, 1) := by decide +kernel
theorem dX11_kindsOf_66 : decode cX11_kindsOf 66 = .ok (.iadd, 1) := by decide +kernel
theorem dX11_kindsOf_67 : decode cX11_kindsOf 67 = .ok (.iaload, 1) := by decide +kernel
theorem dX11_kindsOf_68 : decode cX11_kindsOf 68 = .ok (.if_icmp .ne 41, 3) := by decide +kernel
theorem dX11_kindsOf_71 : decode cX11_kindsOf 71 = .ok (.iload_n 3, 1) := by decide +kernel
theorem dX11_kindsOf_72 : decode cX11_kindsOf 72 = .ok (.aload_n 0, 1) := by decide +kernel
theorem dX11_kindsOf_73 : decode cX11_kindsOf 73 = .ok (.getfield 7, 3) := by decide +kernel
theorem dX11_kindsOf_76 : decode cX11_kindsOf 76 = .ok (.iload 6, 2) := by decide +kernel
theorem dX11_kindsOf_78 : decode cX11_kindsOf 78 = .ok (.iconst 1, 1) := by decide +kernel
theorem dX11_kindsOf_79 : decode cX11_kindsOf 79 = .ok (.iadd, 1) := by decide +kernel
theorem dX11_kindsOf_80 : decode cX11_kindsOf 80 = .ok (.iaload, 1) := by decide +kernel
theorem dX11_kindsOf_81 : decode cX11_kindsOf 81 = .ok (.aload_n 0, 1) := by decide +kernel
theorem dX11_kindsOf_82 : decode cX11_kindsOf 82 = .ok (.getfield 7, 3) := by decide +kernel
theorem dX11_kindsOf_85 : decode cX11_kindsOf 85 = .ok (.iload 6, 2) := by decide +kernel
theorem dX11_kindsOf_87 : decode cX11_kindsOf 87 = .ok (.iconst 4, 1) := by decide +kernel
theorem dX11_kindsOf_88 : decode cX11_kindsOf 88 = .ok (.iadd, 1) := by decide +kernel
theorem dX11_kindsOf_89 : decode cX11_kindsOf 89 = .ok (.iaload, 1) := by decide +kernel
theorem dX11_kindsOf_90 : decode cX11_kindsOf 90 = .ok (.invokestatic 98, 3) := by decide +kernel
theorem dX11_kindsOf_93 : decode cX11_kindsOf 93 = .ok (.aload_n 0, 1) := by decide +kernel
theorem dX11_kindsOf_94 : decode cX11_kindsOf 94 = .ok (.getfield 7, 3) := by decide +kernel
theorem dX11_kindsOf_97 : decode cX11_kindsOf 97 = .ok (.iload 6, 2) := by decide +kernel
theorem dX11_kindsOf_99 : decode cX11_kindsOf 99 = .ok (.iconst 5, 1) := by decide +kernel
theorem dX11_kindsOf_100 : decode cX11_kindsOf 100 = .ok (.iadd, 1) := by decide +kernel
theorem dX11_kindsOf_101 : decode cX11_kindsOf 101 = .ok (.iaload, 1) := by decide +kernel
theorem dX11_kindsOf_102 : decode cX11_kindsOf 102 = .ok (.if_icmp .ne 7, 3) := by decide +kernel
theorem dX11_kindsOf_105 : decode cX11_kindsOf 105 = .ok (.iconst 1, 1) := by decide +kernel
theorem dX11_kindsOf_106 : decode cX11_kindsOf 106 = .ok (.goto 4, 3) := by decide +kernel
theorem dX11_kindsOf_109 : decode cX11_kindsOf 109 = .ok (.iconst 0, 1) := by decide +kernel
theorem dX11_kindsOf_110 : decode cX11_kindsOf 110 = .ok (.istore 7, 2) := by decide +kernel
theorem dX11_kindsOf_112 : decode cX11_kindsOf 112 = .ok (.iload 4, 2) := by decide +kernel
theorem dX11_kindsOf_114 : decode cX11_kindsOf 114 = .ok (.ifCond .eq 23, 3) := by decide +kernel
theorem dX11_kindsOf_117 : decode cX11_kindsOf 117 = .ok (.aload_n 0, 1) := by decide +kernel
theorem dX11_kindsOf_118 : decode cX11_kindsOf 118 = .ok (.getfield 7, 3) := by decide +kernel
theorem dX11_kindsOf_121 : decode cX11_kindsOf 121 = .ok (.iload 6, 2) := by decide +kernel
theorem dX11_kindsOf_123 : decode cX11_kindsOf 123 = .ok (.iaload, 1) := by decide +kernel
theorem dX11_kindsOf_124 : decode cX11_kindsOf 124 = .ok (.iload_n 1, 1) := by decide +kernel
theorem dX11_kindsOf_125 : decode cX11_kindsOf 125 = .ok (.if_icmp .ne 8, 3) := by decide +kernel
theorem dX11_kindsOf_128 : decode cX11_kindsOf 128 = .ok (.iload 7, 2) := by decide +kernel
theorem dX11_kindsOf_130 : decode cX11_kindsOf 130 = .ok (.ifCond .eq 7, 3) := by decide +kernel
theorem dX11_kindsOf_133 : decode cX11_kindsOf 133 = .ok (.iconst 1, 1) := by decide +kernel
theorem dX11_kindsOf_134 : decode cX11_kindsOf 134 = .ok (.goto 4, 3) := by decide +kernel
theorem dX11_kindsOf_137 : decode cX11_kindsOf 137 = .ok (.iconst 0, 1) := by decide +kernel
theorem dX11_kindsOf_138 : decode cX11_kindsOf 138 = .ok (.istore 4, 2) := by decide +kernel
theorem dX11_kindsOf_140 : decode cX11_kindsOf 140 = .ok (.iinc 5 1, 3) := by decide +kernel
theorem dX11_kindsOf_143 : decode cX11_kindsOf 143 = .ok (.goto (-127), 3) := by decide +kernel
theorem dX11_kindsOf_146 : decode cX11_kindsOf 146 = .ok (.iload_n 2, 1) := by decide +kernel
theorem dX11_kindsOf_147 : decode cX11_kindsOf 147 = .ok (.iload 4, 2) := by decide +kernel
theorem dX11_kindsOf_149 : decode cX11_kindsOf 149 = .ok (.ifCond .eq 9, 3) := by decide +kernel
theorem dX11_kindsOf_152 : decode cX11_kindsOf 152 = .ok (.iconst 1, 1) := by decide +kernel
theorem dX11_kindsOf_153 : decode cX11_kindsOf 153 = .ok (.iload_n 3, 1) := by decide +kernel
theorem dX11_kindsOf_154 : decode cX11_kindsOf 154 = .ok (.ishl, 1) := by decide +kernel
theorem dX11_kindsOf_155 : decode cX11_kindsOf 155 = .ok (.goto 4, 3) := by decide +kernel
theorem dX11_kindsOf_158 : decode cX11_kindsOf 158 = .ok (.iconst 0, 1) := by decide +kernel
theorem dX11_kindsOf_159 : decode cX11_kindsOf 159 = .ok (.ior, 1) := by decide +kernel
theorem dX11_kindsOf_160 : decode cX11_kindsOf 160 = .ok (.istore_n 2, 1) := by decide +kernel
theorem dX11_kindsOf_161 : decode cX11_kindsOf 161 = .ok (.iinc 3 1, 3) := by decide +kernel
theorem dX11_kindsOf_164 : decode cX11_kindsOf 164 = .ok (.goto (-160), 3) := by decide +kernel
theorem dX11_kindsOf_167 : decode cX11_kindsOf 167 = .ok (.iload_n 2, 1) := by decide +kernel
theorem dX11_kindsOf_168 : decode cX11_kindsOf 168 = .ok (.ireturn, 1) := by decide +kernel
theorem dX11_is_0 : decode cX11_is 0 = .ok (.aload_n 0, 1) := by decide +kernel
theorem dX11_is_1 : decode cX11_is 1 = .ok (.iload_n 1, 1) := by decide +kernel
theorem dX11_is_2 : decode cX11_is 2 = .ok (.invokevirtual 116, 3) := by decide +kernel
theorem dX11_is_5 : decode cX11_is 5 = .ok (.ifCond .eq 11, 3) := by decide +kernel
theorem dX11_is_8 : decode cX11_is 8 = .ok (.aload_n 0, 1) := by decide +kernel
theorem dX11_is_9 : decode cX11_is 9 = .ok (.iload_n 1, 1) := by decide +kernel
theorem dX11_is_10 : decode cX11_is 10 = .ok (.invokevirtual 162, 3) := by decide +kernel
theorem dX11_is_13 : decode cX11_is 13 = .ok (.goto 9, 3) := by decide +kernel
theorem dX11_is_16 : decode cX11_is 16 = .ok (.aload_n 0, 1) := by decide +kernel
theorem dX11_is_17 : decode cX11_is 17 = .ok (.bipush (-2), 2) := by decide +kernel
theorem dX11_is_19 : decode cX11_is 19 = .ok (.invokevirtual 63, 3) := by decide +kernel
theorem dX11_is_22 : decode cX11_is 22 = .ok (.ireturn, 1) := by decide +kernel
theorem dX11_areAlike_0 : decode cX11_areAlike 0 = .ok (.iload_n 0, 1) := by decide +kernel
theorem dX11_areAlike_1 : decode cX11_areAlike 1 = .ok (.iload_n 2, 1) := by decide +kernel
theorem dX11_areAlike_2 : decode cX11_areAlike 2 = .ok (.iload_n 3, 1) := by decide +kernel
theorem dX11_areAlike_3 : decode cX11_areAlike 3 = .ok (.invokestatic 94, 3) := by decide +kernel
theorem dX11_areAlike_6 : decode cX11_areAlike 6 = .ok (.iload_n 1, 1) := by decide +kernel
theorem dX11_areAlike_7 : decode cX11_areAlike 7 = .ok (.iload_n 2, 1) := by decide +kernel
theorem dX11_areAlike_8 : decode cX11_areAlike 8 = .ok (.iload_n 3, 1) := by decide +kernel
theorem dX11_areAlike_9 : decode cX11_areAlike 9 = .ok (.invokestatic 94, 3) := by decide +kernel
theorem dX11_areAlike_12 : decode cX11_areAlike 12 = .ok (.if_icmp .ne 24, 3) := by decide +kernel
theorem dX11_areAlike_15 : decode cX11_areAlike 15 = .ok (.iload_n 0, 1) := by decide +kernel
theorem dX11_areAlike_16 : decode cX11_areAlike 16 = .ok (.iload_n 2, 1) := by decide +kernel
theorem dX11_areAlike_17 : decode cX11_areAlike 17 = .ok (.iload 4, 2) := by decide +kernel
theorem dX11_areAlike_19 : decode cX11_areAlike 19 = .ok (.invokestatic 98, 3) := by decide +kernel
theorem dX11_areAlike_22 : decode cX11_areAlike 22 = .ok (.iload_n 1, 1) := by decide +kernel
theorem dX11_areAlike_23 : decode cX11_areAlike 23 = .ok (.iload_n 2, 1) := by decide +kernel
theorem dX11_areAlike_24 : decode cX11_areAlike 24 = .ok (.iload 4, 2) := by decide +kernel
theorem dX11_areAlike_26 : decode cX11_areAlike 26 = .ok (.invokestatic 98, 3) := by decide +kernel
theorem dX11_areAlike_29 : decode cX11_areAlike 29 = .ok (.if_icmp .ne 7, 3) := by decide +kernel
theorem dX11_areAlike_32 : decode cX11_areAlike 32 = .ok (.iconst 1, 1) := by decide +kernel
theorem dX11_areAlike_33 : decode cX11_areAlike 33 = .ok (.goto 4, 3) := by decide +kernel
theorem dX11_areAlike_36 : decode cX11_areAlike 36 = .ok (.iconst 0, 1) := by decide +kernel
theorem dX11_areAlike_37 : decode cX11_areAlike 37 = .ok (.ireturn, 1) := by decide +kernel
theorem dX11_look_0 : decode cX11_look 0 = .ok (.aload_n 0, 1) := by decide +kernel
theorem dX11_look_1 : decode cX11_look 1 = .ok (.iload_n 1, 1) := by decide +kernel
theorem dX11_look_2 : decode cX11_look 2 = .ok (.invokevirtual 116, 3) := by decide +kernel
theorem dX11_look_5 : decode cX11_look 5 = .ok (.ifCond .ne 10, 3) := by decide +kernel
theorem dX11_look_8 : decode cX11_look 8 = .ok (.aload_n 0, 1) := by decide +kernel
theorem dX11_look_9 : decode cX11_look 9 = .ok (.bipush (-2), 2) := by decide +kernel
theorem dX11_look_11 : decode cX11_look 11 = .ok (.invokevirtual 63, 3) := by decide +kernel
theorem dX11_look_14 : decode cX11_look 14 = .ok (.ireturn, 1) := by decide +kernel
theorem dX11_look_15 : decode cX11_look 15 = .ok (.aload_n 0, 1) := by decide +kernel
theorem dX11_look_16 : decode cX11_look 16 = .ok (.iload_n 1, 1) := by decide +kernel
theorem dX11_look_17 : decode cX11_look 17 = .ok (.invokevirtual 162, 3) := by decide +kernel
theorem dX11_look_20 : decode cX11_look 20 = .ok (.istore_n 2, 1) := by decide +kernel
theorem dX11_look_21 : decode cX11_look 21 = .ok (.iconst (-1), 1) := by decide +kernel
theorem dX11_look_22 : decode cX11_look 22 = .ok (.istore_n 3, 1) := by decide +kernel
theorem dX11_look_23 : decode cX11_look 23 = .ok (.ldc 165, 2) := by decide +kernel
theorem dX11_look_25 : decode cX11_look 25 = .ok (.istore 4, 2) := by decide +kernel
theorem dX11_look_27 : decode cX11_look 27 = .ok (.iconst 0, 1) := by decide +kernel
theorem dX11_look_28 : decode cX11_look 28 = .ok (.istore 5, 2) := by decide +kernel
theorem dX11_look_30 : decode cX11_look 30 = .ok (.iload 5, 2) := by decide +kernel
theorem dX11_look_32 : decode cX11_look 32 = .ok (.bipush 33, 2) := by decide +kernel
theorem dX11_look_34 : decode cX11_look 34 = .ok (.if_icmp .ge 174, 3) := by decide +kernel
theorem dX11_look_37 : decode cX11_look 37 = .ok (.iload_n 2, 1) := by decide +kernel
theorem dX11_look_38 : decode cX11_look 38 = .ok (.ifCond .le 170, 3) := by decide +kernel
theorem dX11_look_41 : decode cX11_look 41 = .ok (.iload 5, 2) := by decide +kernel
theorem dX11_look_43 : decode cX11_look 43 = .ok (.bipush 10, 2) := by decide +kernel
theorem dX11_look_45 : decode cX11_look 45 = .ok (.irem, 1) := by decide +kernel
theorem dX11_look_46 : decode cX11_look 46 = .ok (.iconst 3, 1) := by decide +kernel
theorem dX11_look_47 : decode cX11_look 47 = .ok (.if_icmp .ge 7, 3) := by decide +kernel
theorem dX11_look_50 : decode cX11_look 50 = .ok (.iconst 0, 1) := by decide +kernel
theorem dX11_look_51 : decode cX11_look 51 = .ok (.goto 5, 3) := by decide +kernel
theorem dX11_look_54 : decode cX11_look 54 = .ok (.ldc 165, 2) := by decide +kernel
theorem dX11_look_56 : decode cX11_look 56 = .ok (.istore 6, 2) := by decide +kernel
theorem dX11_look_58 : decode cX11_look 58 = .ok (.iconst 0, 1) := by decide +kernel
theorem dX11_look_59 : decode cX11_look 59 = .ok (.istore 7, 2) := by decide +kernel
theorem dX11_look_61 : decode cX11_look 61 = .ok (.iload 7, 2) := by decide +kernel
theorem dX11_look_63 : decode cX11_look 63 = .ok (.bipush 6, 2) := by decide +kernel
theorem dX11_look_65 : decode cX11_look 65 = .ok (.if_icmp .ge 107, 3) := by decide +kernel
theorem dX11_look_68 : decode cX11_look 68 = .ok (.iload 6, 2) := by decide +kernel
theorem dX11_look_70 : decode cX11_look 70 = .ok (.ldc 165, 2) := by decide +kernel
theorem dX11_look_72 : decode cX11_look 72 = .ok (.if_icmp .ge 100, 3) := by decide +kernel
theorem dX11_look_75 : decode cX11_look 75 = .ok (.iconst 0, 1) := by decide +kernel
theorem dX11_look_76 : decode cX11_look 76 = .ok (.istore 8, 2) := by decide +kernel
theorem dX11_look_78 : decode cX11_look 78 = .ok (.iconst 0, 1) := by decide +kernel
theorem dX11_look_79 : decode cX11_look 79 = .ok (.istore 9, 2) := by decide +kernel
theorem dX11_look_81 : decode cX11_look 81 = .ok (.iload 9, 2) := by decide +kernel
theorem dX11_look_83 : decode cX11_look 83 = .ok (.bipush 6, 2) := by decide +kernel
theorem dX11_look_85 : decode cX11_look 85 = .ok (.if_icmp .ge 65, 3) := by decide +kernel
theorem dX11_look_88 : decode cX11_look 88 = .ok (.iload_n 2, 1) := by decide +kernel
theorem dX11_look_89 : decode cX11_look 89 = .ok (.iload 7, 2) := by decide +kernel
theorem dX11_look_91 : decode cX11_look 91 = .ok (.invokestatic 166, 3) := by decide +kernel
theorem dX11_look_94 : decode cX11_look 94 = .ok (.ifCond .eq 56, 3) := by decide +kernel
theorem dX11_look_97 : decode cX11_look 97 = .ok (.iload 8, 2) := by decide +kernel
theorem dX11_look_99 : decode cX11_look 99 = .ok (.iload_n 2, 1) := by decide +kernel
theorem dX11_look_100 : decode cX11_look 100 = .ok (.iload 9, 2) := by decide +kernel
theorem dX11_look_102 : decode cX11_look 102 = .ok (.invokestatic 166, 3) := by decide +kernel
theorem dX11_look_105 : decode cX11_look 105 = .ok (.ifCond .eq 35, 3) := by decide +kernel
theorem dX11_look_108 : decode cX11_look 108 = .ok (.iload 7, 2) := by decide +kernel
theorem dX11_look_110 : decode cX11_look 110 = .ok (.iload 9, 2) := by decide +kernel
theorem dX11_look_112 : decode cX11_look 112 = .ok (.aload_n 0, 1) := by decide +kernel
theorem dX11_look_113 : decode cX11_look 113 = .ok (.getfield 7, 3) := by decide +kernel
theorem dX11_look_116 : decode cX11_look 116 = .ok (.iconst 4, 1) := by decide +kernel
theorem dX11_look_117 : decode cX11_look 117 = .ok (.iload_n 1, 1) := by decide +kernel
theorem dX11_look_118 : decode cX11_look 118 = .ok (.iadd, 1) := by decide +kernel
theorem dX11_look_119 : decode cX11_look 119 = .ok (.iaload, 1) := by decide +kernel
theorem dX11_look_120 : decode cX11_look 120 = .ok (.iload 5, 2) := by decide +kernel
theorem dX11_look_122 : decode cX11_look 122 = .ok (.bipush 10, 2) := by decide +kernel
theorem dX11_look_124 : decode cX11_look 124 = .ok (.idiv, 1) := by decide +kernel
theorem dX11_look_125 : decode cX11_look 125 = .ok (.iload 5, 2) := by decide +kernel
theorem dX11_look_127 : decode cX11_look 127 = .ok (.bipush 10, 2) := by decide +kernel
theorem dX11_look_129 : decode cX11_look 129 = .ok (.irem, 1) := by decide +kernel
theorem dX11_look_130 : decode cX11_look 130 = .ok (.invokestatic 170, 3) := by decide +kernel
theorem dX11_look_133 : decode cX11_look 133 = .ok (.ifCond .eq 7, 3) := by decide +kernel
theorem dX11_look_136 : decode cX11_look 136 = .ok (.iconst 1, 1) := by decide +kernel
theorem dX11_look_137 : decode cX11_look 137 = .ok (.goto 4, 3) := by decide +kernel
theorem dX11_look_140 : decode cX11_look 140 = .ok (.iconst 0, 1) := by decide +kernel
theorem dX11_look_141 : decode cX11_look 141 = .ok (.iadd, 1) := by decide +kernel
theorem dX11_look_142 : decode cX11_look 142 = .ok (.istore 8, 2) := by decide +kernel
theorem dX11_look_144 : decode cX11_look 144 = .ok (.iinc 9 1, 3) := by decide +kernel
theorem dX11_look_147 : decode cX11_look 147 = .ok (.goto (-66), 3) := by decide +kernel
theorem dX11_look_150 : decode cX11_look 150 = .ok (.iload 8, 2) := by decide +kernel
theorem dX11_look_152 : decode cX11_look 152 = .ok (.iload 6, 2) := by decide +kernel
theorem dX11_look_154 : decode cX11_look 154 = .ok (.if_icmp .le 8, 3) := by decide +kernel
theorem dX11_look_157 : decode cX11_look 157 = .ok (.iload 8, 2) := by decide +kernel
theorem dX11_look_159 : decode cX11_look 159 = .ok (.goto 5, 3) := by decide +kernel
theorem dX11_look_162 : decode cX11_look 162 = .ok (.iload 6, 2) := by decide +kernel
theorem dX11_look_164 : decode cX11_look 164 = .ok (.istore 6, 2) := by decide +kernel
theorem dX11_look_166 : decode cX11_look 166 = .ok (.iinc 7 1, 3) := by decide +kernel
theorem dX11_look_169 : decode cX11_look 169 = .ok (.goto (-108), 3) := by decide +kernel
theorem dX11_look_172 : decode cX11_look 172 = .ok (.iload 6, 2) := by decide +kernel
theorem dX11_look_174 : decode cX11_look 174 = .ok (.iload 4, 2) := by decide +kernel
theorem dX11_look_176 : decode cX11_look 176 = .ok (.if_icmp .ge 8, 3) := by decide +kernel
theorem dX11_look_179 : decode cX11_look 179 = .ok (.iload 5, 2) := by decide +kernel
theorem dX11_look_181 : decode cX11_look 181 = .ok (.goto 4, 3) := by decide +kernel
theorem dX11_look_184 : decode cX11_look 184 = .ok (.iload_n 3, 1) := by decide +kernel
theorem dX11_look_185 : decode cX11_look 185 = .ok (.istore_n 3, 1) := by decide +kernel
theorem dX11_look_186 : decode cX11_look 186 = .ok (.iload 6, 2) := by decide +kernel
theorem dX11_look_188 : decode cX11_look 188 = .ok (.iload 4, 2) := by decide +kernel
theorem dX11_look_190 : decode cX11_look 190 = .ok (.if_icmp .ge 8, 3) := by decide +kernel
theorem dX11_look_193 : decode cX11_look 193 = .ok (.iload 6, 2) := by decide +kernel
theorem dX11_look_195 : decode cX11_look 195 = .ok (.goto 5, 3) := by decide +kernel
theorem dX11_look_198 : decode cX11_look 198 = .ok (.iload 4, 2) := by decide +kernel
theorem dX11_look_200 : decode cX11_look 200 = .ok (.istore 4, 2) := by decide +kernel
theorem dX11_look_202 : decode cX11_look 202 = .ok (.iinc 5 1, 3) := by decide +kernel
theorem dX11_look_205 : decode cX11_look 205 = .ok (.goto (-175), 3) := by decide +kernel
theorem dX11_look_208 : decode cX11_look 208 = .ok (.iload_n 3, 1) := by decide +kernel
theorem dX11_look_209 : decode cX11_look 209 = .ok (.ireturn, 1) := by decide +kernel
theorem dX11_fits_0 : decode cX11_fits 0 = .ok (.iconst 1, 1) := by decide +kernel
theorem dX11_fits_1 : decode cX11_fits 1 = .ok (.istore_n 3, 1) := by decide +kernel
theorem dX11_fits_2 : decode cX11_fits 2 = .ok (.iconst 0, 1) := by decide +kernel
theorem dX11_fits_3 : decode cX11_fits 3 = .ok (.istore 4, 2) := by decide +kernel
theorem dX11_fits_5 : decode cX11_fits 5 = .ok (.iload 4, 2) := by decide +kernel
theorem dX11_fits_7 : decode cX11_fits 7 = .ok (.aload_n 0, 1) := by decide +kernel
theorem dX11_fits_8 : decode cX11_fits 8 = .ok (.getfield 7, 3) := by decide +kernel
theorem dX11_fits_11 : decode cX11_fits 11 = .ok (.iconst 2, 1) := by decide +kernel
theorem dX11_fits_12 : decode cX11_fits 12 = .ok (.iaload, 1) := by decide +kernel
theorem dX11_fits_13 : decode cX11_fits 13 = .ok (.if_icmp .ge 100, 3) := by decide +kernel
theorem dX11_fits_16 : decode cX11_fits 16 = .ok (.bipush 59, 2) := by decide +kernel
theorem dX11_fits_18 : decode cX11_fits 18 = .ok (.iconst 3, 1) := by decide +kernel
theorem dX11_fits_19 : decode cX11_fits 19 = .ok (.iload 4, 2) := by decide +kernel
theorem dX11_fits_21 : decode cX11_fits 21 = .ok (.imul, 1) := by decide +kernel
theorem dX11_fits_22 : decode cX11_fits 22 = .ok (.iadd, 1) := by decide +kernel
theorem dX11_fits_23 : decode cX11_fits 23 = .ok (.istore 5, 2) := by decide +kernel
theorem dX11_fits_25 : decode cX11_fits 25 = .ok (.aload_n 0, 1) := by decide +kernel
theorem dX11_fits_26 : decode cX11_fits 26 = .ok (.iload_n 2, 1) := by decide +kernel
theorem dX11_fits_27 : decode cX11_fits 27 = .ok (.putfield 88, 3) := by decide +kernel
theorem dX11_fits_30 : decode cX11_fits 30 = .ok (.aload_n 0, 1) := by decide +kernel
theorem dX11_fits_31 : decode cX11_fits 31 = .ok (.iconst 0, 1) := by decide +kernel
theorem dX11_fits_32 : decode cX11_fits 32 = .ok (.putfield 84, 3) := by decide +kernel
theorem dX11_fits_35 : decode cX11_fits 35 = .ok (.iconst 0, 1) := by decide +kernel
theorem dX11_fits_36 : decode cX11_fits 36 = .ok (.istore 6, 2) := by decide +kernel
theorem dX11_fits_38 : decode cX11_fits 38 = .ok (.iload 6, 2) := by decide +kernel
theorem dX11_fits_40 : decode cX11_fits 40 = .ok (.aload_n 0, 1) := by decide +kernel
theorem dX11_fits_41 : decode cX11_fits 41 = .ok (.getfield 7, 3) := by decide +kernel
theorem dX11_fits_44 : decode cX11_fits 44 = .ok (.iload 5, 2) := by decide +kernel
theorem dX11_fits_46 : decode cX11_fits 46 = .ok (.iconst 1, 1) := by decide +kernel
theorem dX11_fits_47 : decode cX11_fits 47 = .ok (.iadd, 1) := by decide +kernel
theorem dX11_fits_48 : decode cX11_fits 48 = .ok (.iaload, 1) := by decide +kernel
theorem dX11_fits_49 : decode cX11_fits 49 = .ok (.if_icmp .ge 21, 3) := by decide +kernel
theorem dX11_fits_52 : decode cX11_fits 52 = .ok (.aload_n 0, 1) := by decide +kernel
theorem dX11_fits_53 : decode cX11_fits 53 = .ok (.aload_n 0, 1) := by decide +kernel
theorem dX11_fits_54 : decode cX11_fits 54 = .ok (.iload_n 1, 1) := by decide +kernel
theorem dX11_fits_55 : decode cX11_fits 55 = .ok (.invokevirtual 124, 3) := by decide +kernel
theorem dX11_fits_58 : decode cX11_fits 58 = .ok (.iload 6, 2) := by decide +kernel
theorem dX11_fits_60 : decode cX11_fits 60 = .ok (.iconst 0, 1) := by decide +kernel
theorem dX11_fits_61 : decode cX11_fits 61 = .ok (.invokevirtual 101, 3) := by decide +kernel
theorem dX11_fits_64 : decode cX11_fits 64 = .ok (.iinc 6 1, 3) := by decide +kernel
theorem dX11_fits_67 : decode cX11_fits 67 = .ok (.goto (-29), 3) := by decide +kernel
theorem dX11_fits_70 : decode cX11_fits 70 = .ok (.iload_n 3, 1) := by decide +kernel
theorem dX11_fits_71 : decode cX11_fits 71 = .ok (.ifCond .eq 34, 3) := by decide +kernel
theorem dX11_fits_74 : decode cX11_fits 74 = .ok (.aload_n 0, 1) := by decide +kernel
theorem dX11_fits_75 : decode cX11_fits 75 = .ok (.getfield 7, 3) := by decide +kernel
theorem dX11_fits_78 : decode cX11_fits 78 = .ok (.iload 5, 2) := by decide +kernel
theorem dX11_fits_80 : decode cX11_fits 80 = .ok (.iaload, 1) := by decide +kernel
theorem dX11_fits_81 : decode cX11_fits 81 = .ok (.iload_n 1, 1) := by decide +kernel
theorem dX11_fits_82 : decode cX11_fits 82 = .ok (.if_icmp .ne 19, 3) := by decide +kernel
theorem dX11_fits_85 : decode cX11_fits 85 = .ok (.aload_n 0, 1) := by decide +kernel
theorem dX11_fits_86 : decode cX11_fits 86 = .ok (.getfield 84, 3) := by decide +kernel
theorem dX11_fits_89 : decode cX11_fits 89 = .ok (.aload_n 0, 1) := by decide +kernel
theorem dX11_fits_90 : decode cX11_fits 90 = .ok (.getfield 7, 3) := by decide +kernel
theorem dX11_fits_93 : decode cX11_fits 93 = .ok (.iload 5, 2) := by decide +kernel
theorem dX11_fits_95 : decode cX11_fits 95 = .ok (.iconst 2, 1) := by decide +kernel
theorem dX11_fits_96 : decode cX11_fits 96 = .ok (.iadd, 1) := by decide +kernel
theorem dX11_fits_97 : decode cX11_fits 97 = .ok (.iaload, 1) := by decide +kernel
theorem dX11_fits_98 : decode cX11_fits 98 = .ok (.if_icmp .ne 7, 3) := by decide +kernel
theorem dX11_fits_101 : decode cX11_fits 101 = .ok (.iconst 1, 1) := by decide +kernel
theorem dX11_fits_102 : decode cX11_fits 102 = .ok (.goto 4, 3) := by decide +kernel
theorem dX11_fits_105 : decode cX11_fits 105 = .ok (.iconst 0, 1) := by decide +kernel
theorem dX11_fits_106 : decode cX11_fits 106 = .ok (.istore_n 3, 1) := by decide +kernel
theorem dX11_fits_107 : decode cX11_fits 107 = .ok (.iinc 4 1, 3) := by decide +kernel
theorem dX11_fits_110 : decode cX11_fits 110 = .ok (.goto (-105), 3) := by decide +kernel
theorem dX11_fits_113 : decode cX11_fits 113 = .ok (.iload_n 3, 1) := by decide +kernel
theorem dX11_fits_114 : decode cX11_fits 114 = .ok (.ireturn, 1) := by decide +kernel
theorem dX11_had_0 : decode cX11_had 0 = .ok (.aload_n 0, 1) := by decide +kernel
theorem dX11_had_1 : decode cX11_had 1 = .ok (.iload_n 1, 1) := by decide +kernel
theorem dX11_had_2 : decode cX11_had 2 = .ok (.invokevirtual 116, 3) := by decide +kernel
theorem dX11_had_5 : decode cX11_had 5 = .ok (.ifCond .eq 13, 3) := by decide +kernel
theorem dX11_had_8 : decode cX11_had 8 = .ok (.iload_n 2, 1) := by decide +kernel
theorem dX11_had_9 : decode cX11_had 9 = .ok (.i2l, 1) := by decide +kernel
theorem dX11_had_10 : decode cX11_had 10 = .ok (.lconst 0, 1) := by decide +kernel
theorem dX11_had_11 : decode cX11_had 11 = .ok (.lconst 1, 1) := by decide +kernel
theorem dX11_had_12 : decode cX11_had 12 = .ok (.invokestatic 53, 3) := by decide +kernel
theorem dX11_had_15 : decode cX11_had 15 = .ok (.ifCond .ne 10, 3) := by decide +kernel
theorem dX11_had_18 : decode cX11_had 18 = .ok (.aload_n 0, 1) := by decide +kernel
theorem dX11_had_19 : decode cX11_had 19 = .ok (.bipush (-2), 2) := by decide +kernel
theorem dX11_had_21 : decode cX11_had 21 = .ok (.invokevirtual 63, 3) := by decide +kernel
theorem dX11_had_24 : decode cX11_had 24 = .ok (.ireturn, 1) := by decide +kernel
theorem dX11_had_25 : decode cX11_had 25 = .ok (.iconst 0, 1) := by decide +kernel
theorem dX11_had_26 : decode cX11_had 26 = .ok (.istore_n 3, 1) := by decide +kernel
theorem dX11_had_27 : decode cX11_had 27 = .ok (.iconst (-1), 1) := by decide +kernel
theorem dX11_had_28 : decode cX11_had 28 = .ok (.istore 4, 2) := by decide +kernel
theorem dX11_had_30 : decode cX11_had 30 = .ok (.iconst 0, 1) := by decide +kernel
theorem dX11_had_31 : decode cX11_had 31 = .ok (.istore 5, 2) := by decide +kernel
theorem dX11_had_33 : decode cX11_had 33 = .ok (.iload 5, 2) := by decide +kernel
theorem dX11_had_35 : decode cX11_had 35 = .ok (.bipush 99, 2) := by decide +kernel
theorem dX11_had_37 : decode cX11_had 37 = .ok (.if_icmp .gt 35, 3) := by decide +kernel
theorem dX11_had_40 : decode cX11_had 40 = .ok (.aload_n 0, 1) := by decide +kernel
theorem dX11_had_41 : decode cX11_had 41 = .ok (.iload_n 1, 1) := by decide +kernel
theorem dX11_had_42 : decode cX11_had 42 = .ok (.iload 5, 2) := by decide +kernel
theorem dX11_had_44 : decode cX11_had 44 = .ok (.invokevirtual 174, 3) := by decide +kernel
theorem dX11_had_47 : decode cX11_had 47 = .ok (.ifCond .eq 19, 3) := by decide +kernel
theorem dX11_had_50 : decode cX11_had 50 = .ok (.iload_n 3, 1) := by decide +kernel
theorem dX11_had_51 : decode cX11_had 51 = .ok (.ifCond .ne 8, 3) := by decide +kernel
theorem dX11_had_54 : decode cX11_had 54 = .ok (.iload 5, 2) := by decide +kernel
theorem dX11_had_56 : decode cX11_had 56 = .ok (.goto 5, 3) := by decide +kernel
theorem dX11_had_59 : decode cX11_had 59 = .ok (.iload 4, 2) := by decide +kernel
theorem dX11_had_61 : decode cX11_had 61 = .ok (.istore 4, 2) := by decide +kernel
theorem dX11_had_63 : decode cX11_had 63 = .ok (.iinc 3 1, 3) := by decide +kernel
theorem dX11_had_66 : decode cX11_had 66 = .ok (.iinc 5 1, 3) := by decide +kernel
theorem dX11_had_69 : decode cX11_had 69 = .ok (.goto (-36), 3) := by decide +kernel
theorem dX11_had_72 : decode cX11_had 72 = .ok (.iload_n 2, 1) := by decide +kernel
theorem dX11_had_73 : decode cX11_had 73 = .ok (.ifCond .ne 7, 3) := by decide +kernel
theorem dX11_had_76 : decode cX11_had 76 = .ok (.iload_n 3, 1) := by decide +kernel
theorem dX11_had_77 : decode cX11_had 77 = .ok (.goto 5, 3) := by decide +kernel
theorem dX11_had_80 : decode cX11_had 80 = .ok (.iload 4, 2) := by decide +kernel
theorem dX11_had_82 : decode cX11_had 82 = .ok (.ireturn, 1) := by decide +kernel
theorem dX11_getsBy_0 : decode cX11_getsBy 0 = .ok (.aload_n 0, 1) := by decide +kernel
theorem dX11_getsBy_1 : decode cX11_getsBy 1 = .ok (.getfield 7, 3) := by decide +kernel
theorem dX11_getsBy_4 : decode cX11_getsBy 4 = .ok (.iconst 4, 1) := by decide +kernel
theorem dX11_getsBy_5 : decode cX11_getsBy 5 = .ok (.iload_n 1, 1) := by decide +kernel
theorem dX11_getsBy_6 : decode cX11_getsBy 6 = .ok (.iadd, 1) := by decide +kernel
theorem dX11_getsBy_7 : decode cX11_getsBy 7 = .ok (.iaload, 1) := by decide +kernel
theorem dX11_getsBy_8 : decode cX11_getsBy 8 = .ok (.istore 4, 2) := by decide +kernel
theorem dX11_getsBy_10 : decode cX11_getsBy 10 = .ok (.aload_n 0, 1) := by decide +kernel
theorem dX11_getsBy_11 : decode cX11_getsBy 11 = .ok (.iload_n 1, 1) := by decide +kernel
theorem dX11_getsBy_12 : decode cX11_getsBy 12 = .ok (.invokevirtual 124, 3) := by decide +kernel
theorem dX11_getsBy_15 : decode cX11_getsBy 15 = .ok (.iload 4, 2) := by decide +kernel
theorem dX11_getsBy_17 : decode cX11_getsBy 17 = .ok (.aload_n 0, 1) := by decide +kernel
theorem dX11_getsBy_18 : decode cX11_getsBy 18 = .ok (.getfield 7, 3) := by decide +kernel
theorem dX11_getsBy_21 : decode cX11_getsBy 21 = .ok (.bipush 16, 2) := by decide +kernel
theorem dX11_getsBy_23 : decode cX11_getsBy 23 = .ok (.iaload, 1) := by decide +kernel
theorem dX11_getsBy_24 : decode cX11_getsBy 24 = .ok (.invokestatic 91, 3) := by decide +kernel
theorem dX11_getsBy_27 : decode cX11_getsBy 27 = .ok (.invokestatic 94, 3) := by decide +kernel
theorem dX11_getsBy_30 : decode cX11_getsBy 30 = .ok (.istore 5, 2) := by decide +kernel
theorem dX11_getsBy_32 : decode cX11_getsBy 32 = .ok (.iload_n 2, 1) := by decide +kernel
theorem dX11_getsBy_33 : decode cX11_getsBy 33 = .ok (.ifCond .eq 27, 3) := by decide +kernel
theorem dX11_getsBy_36 : decode cX11_getsBy 36 = .ok (.aload_n 0, 1) := by decide +kernel
theorem dX11_getsBy_37 : decode cX11_getsBy 37 = .ok (.iload_n 1, 1) := by decide +kernel
theorem dX11_getsBy_38 : decode cX11_getsBy 38 = .ok (.invokevirtual 124, 3) := by decide +kernel
theorem dX11_getsBy_41 : decode cX11_getsBy 41 = .ok (.iload 4, 2) := by decide +kernel
theorem dX11_getsBy_43 : decode cX11_getsBy 43 = .ok (.iconst 2, 1) := by decide +kernel
theorem dX11_getsBy_44 : decode cX11_getsBy 44 = .ok (.invokestatic 98, 3) := by decide +kernel
theorem dX11_getsBy_47 : decode cX11_getsBy 47 = .ok (.aload_n 0, 1) := by decide +kernel
theorem dX11_getsBy_48 : decode cX11_getsBy 48 = .ok (.iload_n 1, 1) := by decide +kernel
theorem dX11_getsBy_49 : decode cX11_getsBy 49 = .ok (.invokevirtual 124, 3) := by decide +kernel
theorem dX11_getsBy_52 : decode cX11_getsBy 52 = .ok (.iload 4, 2) := by decide +kernel
theorem dX11_getsBy_54 : decode cX11_getsBy 54 = .ok (.iconst 0, 1) := by decide +kernel
theorem dX11_getsBy_55 : decode cX11_getsBy 55 = .ok (.invokestatic 98, 3) := by decide +kernel
theorem dX11_getsBy_58 : decode cX11_getsBy 58 = .ok (.isub, 1) := by decide +kernel
theorem dX11_getsBy_59 : decode cX11_getsBy 59 = .ok (.ireturn, 1) := by decide +kernel
theorem dX11_getsBy_60 : decode cX11_getsBy 60 = .ok (.iload_n 3, 1) := by decide +kernel
theorem dX11_getsBy_61 : decode cX11_getsBy 61 = .ok (.ifCond .eq 8, 3) := by decide +kernel
theorem dX11_getsBy_64 : decode cX11_getsBy 64 = .ok (.iload 5, 2) := by decide +kernel
theorem dX11_getsBy_66 : decode cX11_getsBy 66 = .ok (.goto 7, 3) := by decide +kernel
theorem dX11_getsBy_69 : decode cX11_getsBy 69 = .ok (.iload 5, 2) := by decide +kernel
theorem dX11_getsBy_71 : decode cX11_getsBy 71 = .ok (.iconst 2, 1) := by decide +kernel
theorem dX11_getsBy_72 : decode cX11_getsBy 72 = .ok (.idiv, 1) := by decide +kernel
theorem dX11_getsBy_73 : decode cX11_getsBy 73 = .ok (.ireturn, 1) := by decide +kernel
theorem dX11_fares_0 : decode cX11_fares 0 = .ok (.aload_n 0, 1) := by decide +kernel
theorem dX11_fares_1 : decode cX11_fares 1 = .ok (.iload_n 1, 1) := by decide +kernel
theorem dX11_fares_2 : decode cX11_fares 2 = .ok (.invokevirtual 116, 3) := by decide +kernel
theorem dX11_fares_5 : decode cX11_fares 5 = .ok (.ifCond .eq 16, 3) := by decide +kernel
theorem dX11_fares_8 : decode cX11_fares 8 = .ok (.aload_n 0, 1) := by decide +kernel
theorem dX11_fares_9 : decode cX11_fares 9 = .ok (.iload_n 2, 1) := by decide +kernel
theorem dX11_fares_10 : decode cX11_fares 10 = .ok (.invokevirtual 116, 3) := by decide +kernel
theorem dX11_fares_13 : decode cX11_fares 13 = .ok (.ifCond .eq 8, 3) := by decide +kernel
theorem dX11_fares_16 : decode cX11_fares 16 = .ok (.iload_n 1, 1) := by decide +kernel
theorem dX11_fares_17 : decode cX11_fares 17 = .ok (.iload_n 2, 1) := by decide +kernel
theorem dX11_fares_18 : decode cX11_fares 18 = .ok (.if_icmp .ne 10, 3) := by decide +kernel
theorem dX11_fares_21 : decode cX11_fares 21 = .ok (.aload_n 0, 1) := by decide +kernel
theorem dX11_fares_22 : decode cX11_fares 22 = .ok (.bipush (-2), 2) := by decide +kernel
theorem dX11_fares_24 : decode cX11_fares 24 = .ok (.invokevirtual 63, 3) := by decide +kernel
theorem dX11_fares_27 : decode cX11_fares 27 = .ok (.ireturn, 1) := by decide +kernel
theorem dX11_fares_28 : decode cX11_fares 28 = .ok (.iconst 0, 1) := by decide +kernel
theorem dX11_fares_29 : decode cX11_fares 29 = .ok (.istore_n 3, 1) := by decide +kernel
theorem dX11_fares_30 : decode cX11_fares 30 = .ok (.iconst 0, 1) := by decide +kernel
theorem dX11_fares_31 : decode cX11_fares 31 = .ok (.istore 4, 2) := by decide +kernel
theorem dX11_fares_33 : decode cX11_fares 33 = .ok (.iload 4, 2) := by decide +kernel
theorem dX11_fares_35 : decode cX11_fares 35 = .ok (.iconst 4, 1) := by decide +kernel
theorem dX11_fares_36 : decode cX11_fares 36 = .ok (.if_icmp .ge 106, 3) := by decide +kernel
theorem dX11_fares_39 : decode cX11_fares 39 = .ok (.iload 4, 2) := by decide +kernel
theorem dX11_fares_41 : decode cX11_fares 41 = .ok (.iconst 0, 1) := by decide +kernel
theorem dX11_fares_42 : decode cX11_fares 42 = .ok (.invokestatic 166, 3) := by decide +kernel
theorem dX11_fares_45 : decode cX11_fares 45 = .ok (.istore 5, 2) := by decide +kernel
theorem dX11_fares_47 : decode cX11_fares 47 = .ok (.iload 4, 2) := by decide +kernel
theorem dX11_fares_49 : decode cX11_fares 49 = .ok (.iconst 1, 1) := by decide +kernel
theorem dX11_fares_50 : decode cX11_fares 50 = .ok (.invokestatic 166, 3) := by decide +kernel
theorem dX11_fares_53 : decode cX11_fares 53 = .ok (.istore 6, 2) := by decide +kernel
theorem dX11_fares_55 : decode cX11_fares 55 = .ok (.aload_n 0, 1) := by decide +kernel
theorem dX11_fares_56 : decode cX11_fares 56 = .ok (.iload_n 1, 1) := by decide +kernel
theorem dX11_fares_57 : decode cX11_fares 57 = .ok (.iload 5, 2) := by decide +kernel
theorem dX11_fares_59 : decode cX11_fares 59 = .ok (.iload 6, 2) := by decide +kernel
theorem dX11_fares_61 : decode cX11_fares 61 = .ok (.invokevirtual 177, 3) := by decide +kernel
theorem dX11_fares_64 : decode cX11_fares 64 = .ok (.aload_n 0, 1) := by decide +kernel
theorem dX11_fares_65 : decode cX11_fares 65 = .ok (.iload_n 1, 1) := by decide +kernel
theorem dX11_fares_66 : decode cX11_fares 66 = .ok (.iload 5, 2) := by decide +kernel
theorem dX11_fares_68 : decode cX11_fares 68 = .ok (.ifCond .ne 7, 3) := by decide +kernel
theorem dX11_fares_71 : decode cX11_fares 71 = .ok (.iconst 1, 1) := by decide +kernel
theorem dX11_fares_72 : decode cX11_fares 72 = .ok (.goto 4, 3) := by decide +kernel
theorem dX11_fares_75 : decode cX11_fares 75 = .ok (.iconst 0, 1) := by decide +kernel
theorem dX11_fares_76 : decode cX11_fares 76 = .ok (.iload 6, 2) := by decide +kernel
theorem dX11_fares_78 : decode cX11_fares 78 = .ok (.invokevirtual 177, 3) := by decide +kernel
theorem dX11_fares_81 : decode cX11_fares 81 = .ok (.if_icmp .lt 36, 3) := by decide +kernel
theorem dX11_fares_84 : decode cX11_fares 84 = .ok (.aload_n 0, 1) := by decide +kernel
theorem dX11_fares_85 : decode cX11_fares 85 = .ok (.iload_n 2, 1) := by decide +kernel
theorem dX11_fares_86 : decode cX11_fares 86 = .ok (.iload 6, 2) := by decide +kernel
theorem dX11_fares_88 : decode cX11_fares 88 = .ok (.iload 5, 2) := by decide +kernel
theorem dX11_fares_90 : decode cX11_fares 90 = .ok (.invokevirtual 177, 3) := by decide +kernel
theorem dX11_fares_93 : decode cX11_fares 93 = .ok (.aload_n 0, 1) := by decide +kernel
theorem dX11_fares_94 : decode cX11_fares 94 = .ok (.iload_n 2, 1) := by decide +kernel
theorem dX11_fares_95 : decode cX11_fares 95 = .ok (.iload 6, 2) := by decide +kernel
theorem dX11_fares_97 : decode cX11_fares 97 = .ok (.ifCond .ne 7, 3) := by decide +kernel
theorem dX11_fares_100 : decode cX11_fares 100 = .ok (.iconst 1, 1) := by decide +kernel
theorem dX11_fares_101 : decode cX11_fares 101 = .ok (.goto 4, 3) := by decide +kernel
theorem dX11_fares_104 : decode cX11_fares 104 = .ok (.iconst 0, 1) := by decide +kernel
theorem dX11_fares_105 : decode cX11_fares 105 = .ok (.iload 5, 2) := by decide +kernel
theorem dX11_fares_107 : decode cX11_fares 107 = .ok (.invokevirtual 177, 3) := by decide +kernel
theorem dX11_fares_110 : decode cX11_fares 110 = .ok (.if_icmp .lt 7, 3) := by decide +kernel
theorem dX11_fares_113 : decode cX11_fares 113 = .ok (.iconst 1, 1) := by decide +kernel
theorem dX11_fares_114 : decode cX11_fares 114 = .ok (.goto 4, 3) := by decide +kernel
theorem dX11_fares_117 : decode cX11_fares 117 = .ok (.iconst 0, 1) := by decide +kernel
theorem dX11_fares_118 : decode cX11_fares 118 = .ok (.istore 7, 2) := by decide +kernel
theorem dX11_fares_120 : decode cX11_fares 120 = .ok (.iload_n 3, 1) := by decide +kernel
theorem dX11_fares_121 : decode cX11_fares 121 = .ok (.iload 7, 2) := by decide +kernel
theorem dX11_fares_123 : decode cX11_fares 123 = .ok (.ifCond .eq 10, 3) := by decide +kernel
theorem dX11_fares_126 : decode cX11_fares 126 = .ok (.iconst 1, 1) := by decide +kernel
theorem dX11_fares_127 : decode cX11_fares 127 = .ok (.iload 4, 2) := by decide +kernel
theorem dX11_fares_129 : decode cX11_fares 129 = .ok (.ishl, 1) := by decide +kernel
theorem dX11_fares_130 : decode cX11_fares 130 = .ok (.goto 4, 3) := by decide +kernel
theorem dX11_fares_133 : decode cX11_fares 133 = .ok (.iconst 0, 1) := by decide +kernel
theorem dX11_fares_134 : decode cX11_fares 134 = .ok (.ior, 1) := by decide +kernel
theorem dX11_fares_135 : decode cX11_fares 135 = .ok (.istore_n 3, 1) := by decide +kernel
theorem dX11_fares_136 : decode cX11_fares 136 = .ok (.iinc 4 1, 3) := by decide +kernel
theorem dX11_fares_139 : decode cX11_fares 139 = .ok (.goto (-106), 3) := by decide +kernel
theorem dX11_fares_142 : decode cX11_fares 142 = .ok (.iload_n 3, 1) := by decide +kernel
theorem dX11_fares_143 : decode cX11_fares 143 = .ok (.ireturn, 1) := by decide +kernel
theorem dX11_fraction_0 : decode cX11_fraction 0 = .ok (.lload_n 1, 1) := by decide +kernel
theorem dX11_fraction_1 : decode cX11_fraction 1 = .ok (.lstore 5, 2) := by decide +kernel
theorem dX11_fraction_3 : decode cX11_fraction 3 = .ok (.lload_n 3, 1) := by decide +kernel
theorem dX11_fraction_4 : decode cX11_fraction 4 = .ok (.lstore 7, 2) := by decide +kernel
theorem dX11_fraction_6 : decode cX11_fraction 6 = .ok (.lload 7, 2) := by decide +kernel
theorem dX11_fraction_8 : decode cX11_fraction 8 = .ok (.lconst 0, 1) := by decide +kernel
theorem dX11_fraction_9 : decode cX11_fraction 9 = .ok (.lcmp, 1) := by decide +kernel
theorem dX11_fraction_10 : decode cX11_fraction 10 = .ok (.ifCond .eq 21, 3) := by decide +kernel
theorem dX11_fraction_13 : decode cX11_fraction 13 = .ok (.lload 5, 2) := by decide +kernel
theorem dX11_fraction_15 : decode cX11_fraction 15 = .ok (.lload 7, 2) := by decide +kernel
theorem dX11_fraction_17 : decode cX11_fraction 17 = .ok (.lrem, 1) := by decide +kernel
theorem dX11_fraction_18 : decode cX11_fraction 18 = .ok (.lstore 9, 2) := by decide +kernel
theorem dX11_fraction_20 : decode cX11_fraction 20 = .ok (.lload 7, 2) := by decide +kernel
theorem dX11_fraction_22 : decode cX11_fraction 22 = .ok (.lstore 5, 2) := by decide +kernel
theorem dX11_fraction_24 : decode cX11_fraction 24 = .ok (.lload 9, 2) := by decide +kernel
theorem dX11_fraction_26 : decode cX11_fraction 26 = .ok (.lstore 7, 2) := by decide +kernel
theorem dX11_fraction_28 : decode cX11_fraction 28 = .ok (.goto (-22), 3) := by decide +kernel
theorem dX11_fraction_31 : decode cX11_fraction 31 = .ok (.aload_n 0, 1) := by decide +kernel
theorem dX11_fraction_32 : decode cX11_fraction 32 = .ok (.lload_n 1, 1) := by decide +kernel
theorem dX11_fraction_33 : decode cX11_fraction 33 = .ok (.lload 5, 2) := by decide +kernel
theorem dX11_fraction_35 : decode cX11_fraction 35 = .ok (.ldiv, 1) := by decide +kernel
theorem dX11_fraction_36 : decode cX11_fraction 36 = .ok (.putfield 181, 3) := by decide +kernel
theorem dX11_fraction_39 : decode cX11_fraction 39 = .ok (.aload_n 0, 1) := by decide +kernel
theorem dX11_fraction_40 : decode cX11_fraction 40 = .ok (.lload_n 3, 1) := by decide +kernel
theorem dX11_fraction_41 : decode cX11_fraction 41 = .ok (.lload 5, 2) := by decide +kernel
theorem dX11_fraction_43 : decode cX11_fraction 43 = .ok (.ldiv, 1) := by decide +kernel
theorem dX11_fraction_44 : decode cX11_fraction 44 = .ok (.putfield 23, 3) := by decide +kernel
theorem dX11_fraction_47 : decode cX11_fraction 47 = .ok (.return_, 1) := by decide +kernel
theorem dX11_starts_0 : decode cX11_starts 0 = .ok (.aload_n 0, 1) := by decide +kernel
theorem dX11_starts_1 : decode cX11_starts 1 = .ok (.iload_n 1, 1) := by decide +kernel
theorem dX11_starts_2 : decode cX11_starts 2 = .ok (.invokevirtual 116, 3) := by decide +kernel
theorem dX11_starts_5 : decode cX11_starts 5 = .ok (.ifCond .eq 27, 3) := by decide +kernel
theorem dX11_starts_8 : decode cX11_starts 8 = .ok (.iload_n 2, 1) := by decide +kernel
theorem dX11_starts_9 : decode cX11_starts 9 = .ok (.i2l, 1) := by decide +kernel
theorem dX11_starts_10 : decode cX11_starts 10 = .ok (.lconst 0, 1) := by decide +kernel
theorem dX11_starts_11 : decode cX11_starts 11 = .ok (.ldc2_w 184, 3) := by decide +kernel
theorem dX11_starts_14 : decode cX11_starts 14 = .ok (.invokestatic 53, 3) := by decide +kernel
theorem dX11_starts_17 : decode cX11_starts 17 = .ok (.ifCond .eq 15, 3) := by decide +kernel
theorem dX11_starts_20 : decode cX11_starts 20 = .ok (.iload_n 3, 1) := by decide +kernel
theorem dX11_starts_21 : decode cX11_starts 21 = .ok (.i2l, 1) := by decide +kernel
theorem dX11_starts_22 : decode cX11_starts 22 = .ok (.lconst 0, 1) := by decide +kernel
theorem dX11_starts_23 : decode cX11_starts 23 = .ok (.ldc2_w 186, 3) := by decide +kernel
theorem dX11_starts_26 : decode cX11_starts 26 = .ok (.invokestatic 53, 3) := by decide +kernel
theorem dX11_starts_29 : decode cX11_starts 29 = .ok (.ifCond .ne 10, 3) := by decide +kernel
theorem dX11_starts_32 : decode cX11_starts 32 = .ok (.aload_n 0, 1) := by decide +kernel
theorem dX11_starts_33 : decode cX11_starts 33 = .ok (.bipush (-2), 2) := by decide +kernel
theorem dX11_starts_35 : decode cX11_starts 35 = .ok (.invokevirtual 63, 3) := by decide +kernel
theorem dX11_starts_38 : decode cX11_starts 38 = .ok (.ireturn, 1) := by decide +kernel
theorem dX11_starts_39 : decode cX11_starts 39 = .ok (.lconst 0, 1) := by decide +kernel
theorem dX11_starts_40 : decode cX11_starts 40 = .ok (.lstore 4, 2) := by decide +kernel
theorem dX11_starts_42 : decode cX11_starts 42 = .ok (.lconst 1, 1) := by decide +kernel
theorem dX11_starts_43 : decode cX11_starts 43 = .ok (.lstore 6, 2) := by decide +kernel
theorem dX11_starts_45 : decode cX11_starts 45 = .ok (.iconst 0, 1) := by decide +kernel
theorem dX11_starts_46 : decode cX11_starts 46 = .ok (.istore 8, 2) := by decide +kernel
theorem dX11_starts_48 : decode cX11_starts 48 = .ok (.iload 8, 2) := by decide +kernel
theorem dX11_starts_50 : decode cX11_starts 50 = .ok (.iload_n 2, 1) := by decide +kernel
theorem dX11_starts_51 : decode cX11_starts 51 = .ok (.if_icmp .ge 17, 3) := by decide +kernel
theorem dX11_starts_54 : decode cX11_starts 54 = .ok (.lload 6, 2) := by decide +kernel
theorem dX11_starts_56 : decode cX11_starts 56 = .ok (.ldc2_w 186, 3) := by decide +kernel
theorem dX11_starts_59 : decode cX11_starts 59 = .ok (.lmul, 1) := by decide +kernel
theorem dX11_starts_60 : decode cX11_starts 60 = .ok (.lstore 6, 2) := by decide +kernel
theorem dX11_starts_62 : decode cX11_starts 62 = .ok (.iinc 8 1, 3) := by decide +kernel
theorem dX11_starts_65 : decode cX11_starts 65 = .ok (.goto (-17), 3) := by decide +kernel
theorem dX11_starts_68 : decode cX11_starts 68 = .ok (.iconst 0, 1) := by decide +kernel
theorem dX11_starts_69 : decode cX11_starts 69 = .ok (.istore 8, 2) := by decide +kernel
theorem dX11_starts_71 : decode cX11_starts 71 = .ok (.iload 8, 2) := by decide +kernel
theorem dX11_starts_73 : decode cX11_starts 73 = .ok (.iconst 1, 1) := by decide +kernel
theorem dX11_starts_74 : decode cX11_starts 74 = .ok (.iload_n 2, 1) := by decide +kernel
theorem dX11_starts_75 : decode cX11_starts 75 = .ok (.ishl, 1) := by decide +kernel
theorem dX11_starts_76 : decode cX11_starts 76 = .ok (.if_icmp .ge 104, 3) := by decide +kernel
theorem dX11_starts_79 : decode cX11_starts 79 = .ok (.lconst 1, 1) := by decide +kernel
theorem dX11_starts_80 : decode cX11_starts 80 = .ok (.lstore 9, 2) := by decide +kernel
theorem dX11_starts_82 : decode cX11_starts 82 = .ok (.aload_n 0, 1) := by decide +kernel
theorem dX11_starts_83 : decode cX11_starts 83 = .ok (.iload_n 1, 1) := by decide +kernel
theorem dX11_starts_84 : decode cX11_starts 84 = .ok (.invokevirtual 127, 3) := by decide +kernel
theorem dX11_starts_87 : decode cX11_starts 87 = .ok (.iconst 0, 1) := by decide +kernel
theorem dX11_starts_88 : decode cX11_starts 88 = .ok (.istore 11, 2) := by decide +kernel
theorem dX11_starts_90 : decode cX11_starts 90 = .ok (.iload 11, 2) := by decide +kernel
theorem dX11_starts_92 : decode cX11_starts 92 = .ok (.iload_n 2, 1) := by decide +kernel
theorem dX11_starts_93 : decode cX11_starts 93 = .ok (.if_icmp .ge 68, 3) := by decide +kernel
theorem dX11_starts_96 : decode cX11_starts 96 = .ok (.lload 9, 2) := by decide +kernel
theorem dX11_starts_98 : decode cX11_starts 98 = .ok (.iload 8, 2) := by decide +kernel
theorem dX11_starts_100 : decode cX11_starts 100 = .ok (.iload 11, 2) := by decide +kernel
theorem dX11_starts_102 : decode cX11_starts 102 = .ok (.invokestatic 166, 3) := by decide +kernel
theorem dX11_starts_105 : decode cX11_starts 105 = .ok (.ifCond .eq 8, 3) := by decide +kernel
theorem dX11_starts_108 : decode cX11_starts 108 = .ok (.iload_n 3, 1) := by decide +kernel
theorem dX11_starts_109 : decode cX11_starts 109 = .ok (.i2l, 1) := by decide +kernel
theorem dX11_starts_110 : decode cX11_starts 110 = .ok (.goto 8, 3) := by decide +kernel
theorem dX11_starts_113 : decode cX11_starts 113 = .ok (.bipush 10, 2) := by decide +kernel
theorem dX11_starts_115 : decode cX11_starts 115 = .ok (.iload_n 3, 1) := by decide +kernel
theorem dX11_starts_116 : decode cX11_starts 116 = .ok (.isub, 1) := by decide +kernel
theorem dX11_starts_117 : decode cX11_starts 117 = .ok (.i2l, 1) := by decide +kernel
theorem dX11_starts_118 : decode cX11_starts 118 = .ok (.lmul, 1) := by decide +kernel
theorem dX11_starts_119 : decode cX11_starts 119 = .ok (.lstore 9, 2) := by decide +kernel
theorem dX11_starts_121 : decode cX11_starts 121 = .ok (.aload_n 0, 1) := by decide +kernel
theorem dX11_starts_122 : decode cX11_starts 122 = .ok (.aload_n 0, 1) := by decide +kernel
theorem dX11_starts_123 : decode cX11_starts 123 = .ok (.iload_n 1, 1) := by decide +kernel
theorem dX11_starts_124 : decode cX11_starts 124 = .ok (.invokevirtual 124, 3) := by decide +kernel
theorem dX11_starts_127 : decode cX11_starts 127 = .ok (.aload_n 0, 1) := by decide +kernel
theorem dX11_starts_128 : decode cX11_starts 128 = .ok (.getfield 7, 3) := by decide +kernel
theorem dX11_starts_131 : decode cX11_starts 131 = .ok (.bipush 16, 2) := by decide +kernel
theorem dX11_starts_133 : decode cX11_starts 133 = .ok (.iaload, 1) := by decide +kernel
theorem dX11_starts_134 : decode cX11_starts 134 = .ok (.iload 11, 2) := by decide +kernel
theorem dX11_starts_136 : decode cX11_starts 136 = .ok (.iadd, 1) := by decide +kernel
theorem dX11_starts_137 : decode cX11_starts 137 = .ok (.iload 8, 2) := by decide +kernel
theorem dX11_starts_139 : decode cX11_starts 139 = .ok (.iload 11, 2) := by decide +kernel
theorem dX11_starts_141 : decode cX11_starts 141 = .ok (.invokestatic 166, 3) := by decide +kernel
theorem dX11_starts_144 : decode cX11_starts 144 = .ok (.ifCond .eq 7, 3) := by decide +kernel
theorem dX11_starts_147 : decode cX11_starts 147 = .ok (.iconst 2, 1) := by decide +kernel
theorem dX11_starts_148 : decode cX11_starts 148 = .ok (.goto 4, 3) := by decide +kernel
theorem dX11_starts_151 : decode cX11_starts 151 = .ok (.iconst 0, 1) := by decide +kernel
theorem dX11_starts_152 : decode cX11_starts 152 = .ok (.invokevirtual 101, 3) := by decide +kernel
theorem dX11_starts_155 : decode cX11_starts 155 = .ok (.iinc 11 1, 3) := by decide +kernel
theorem dX11_starts_158 : decode cX11_starts 158 = .ok (.goto (-68), 3) := by decide +kernel
theorem dX11_starts_161 : decode cX11_starts 161 = .ok (.lload 4, 2) := by decide +kernel
theorem dX11_starts_163 : decode cX11_starts 163 = .ok (.lload 9, 2) := by decide +kernel
theorem dX11_starts_165 : decode cX11_starts 165 = .ok (.aload_n 0, 1) := by decide +kernel
theorem dX11_starts_166 : decode cX11_starts 166 = .ok (.getfield 84, 3) := by decide +kernel
theorem dX11_starts_169 : decode cX11_starts 169 = .ok (.i2l, 1) := by decide +kernel
theorem dX11_starts_170 : decode cX11_starts 170 = .ok (.lmul, 1) := by decide +kernel
theorem dX11_starts_171 : decode cX11_starts 171 = .ok (.ladd, 1) := by decide +kernel
theorem dX11_starts_172 : decode cX11_starts 172 = .ok (.lstore 4, 2) := by decide +kernel
theorem dX11_starts_174 : decode cX11_starts 174 = .ok (.iinc 8 1, 3) := by decide +kernel
theorem dX11_starts_177 : decode cX11_starts 177 = .ok (.goto (-106), 3) := by decide +kernel
theorem dX11_starts_180 : decode cX11_starts 180 = .ok (.aload_n 0, 1) := by decide +kernel
theorem dX11_starts_181 : decode cX11_starts 181 = .ok (.lload 4, 2) := by decide +kernel
theorem dX11_starts_183 : decode cX11_starts 183 = .ok (.lload 6, 2) := by decide +kernel
theorem dX11_starts_185 : decode cX11_starts 185 = .ok (.invokevirtual 188, 3) := by decide +kernel
theorem dX11_starts_188 : decode cX11_starts 188 = .ok (.iconst 1, 1) := by decide +kernel
theorem dX11_starts_189 : decode cX11_starts 189 = .ok (.ireturn, 1) := by decide +kernel
theorem dX11_years_0 : decode cX11_years 0 = .ok (.iload_n 1, 1) := by decide +kernel
theorem dX11_years_1 : decode cX11_years 1 = .ok (.i2l, 1) := by decide +kernel
theorem dX11_years_2 : decode cX11_years 2 = .ok (.lconst 0, 1) := by decide +kernel
theorem dX11_years_3 : decode cX11_years 3 = .ok (.ldc2_w 192, 3) := by decide +kernel
theorem dX11_years_6 : decode cX11_years 6 = .ok (.invokestatic 53, 3) := by decide +kernel
theorem dX11_years_9 : decode cX11_years 9 = .ok (.ifCond .eq 15, 3) := by decide +kernel
theorem dX11_years_12 : decode cX11_years 12 = .ok (.iload_n 2, 1) := by decide +kernel
theorem dX11_years_13 : decode cX11_years 13 = .ok (.i2l, 1) := by decide +kernel
theorem dX11_years_14 : decode cX11_years 14 = .ok (.lconst 0, 1) := by decide +kernel
theorem dX11_years_15 : decode cX11_years 15 = .ok (.ldc2_w 194, 3) := by decide +kernel
theorem dX11_years_18 : decode cX11_years 18 = .ok (.invokestatic 53, 3) := by decide +kernel
theorem dX11_years_21 : decode cX11_years 21 = .ok (.ifCond .ne 10, 3) := by decide +kernel
theorem dX11_years_24 : decode cX11_years 24 = .ok (.aload_n 0, 1) := by decide +kernel
theorem dX11_years_25 : decode cX11_years 25 = .ok (.bipush (-2), 2) := by decide +kernel
theorem dX11_years_27 : decode cX11_years 27 = .ok (.invokevirtual 63, 3) := by decide +kernel
theorem dX11_years_30 : decode cX11_years 30 = .ok (.ireturn, 1) := by decide +kernel
theorem dX11_years_31 : decode cX11_years 31 = .ok (.iload_n 1, 1) := by decide +kernel
theorem dX11_years_32 : decode cX11_years 32 = .ok (.i2l, 1) := by decide +kernel
theorem dX11_years_33 : decode cX11_years 33 = .ok (.lstore_n 3, 1) := by decide +kernel
theorem dX11_years_34 : decode cX11_years 34 = .ok (.iconst 0, 1) := by decide +kernel
theorem dX11_years_35 : decode cX11_years 35 = .ok (.istore 5, 2) := by decide +kernel
theorem dX11_years_37 : decode cX11_years 37 = .ok (.iconst 0, 1) := by decide +kernel
theorem dX11_years_38 : decode cX11_years 38 = .ok (.istore 6, 2) := by decide +kernel
theorem dX11_years_40 : decode cX11_years 40 = .ok (.iload 6, 2) := by decide +kernel
theorem dX11_years_42 : decode cX11_years 42 = .ok (.aload_n 0, 1) := by decide +kernel
theorem dX11_years_43 : decode cX11_years 43 = .ok (.invokevirtual 49, 3) := by decide +kernel
theorem dX11_years_46 : decode cX11_years 46 = .ok (.if_icmp .ge 25, 3) := by decide +kernel
theorem dX11_years_49 : decode cX11_years 49 = .ok (.aload_n 0, 1) := by decide +kernel
theorem dX11_years_50 : decode cX11_years 50 = .ok (.getfield 33, 3) := by decide +kernel
theorem dX11_years_53 : decode cX11_years 53 = .ok (.iload 6, 2) := by decide +kernel
theorem dX11_years_55 : decode cX11_years 55 = .ok (.aload_n 0, 1) := by decide +kernel
theorem dX11_years_56 : decode cX11_years 56 = .ok (.getfield 7, 3) := by decide +kernel
theorem dX11_years_59 : decode cX11_years 59 = .ok (.iconst 4, 1) := by decide +kernel
theorem dX11_years_60 : decode cX11_years 60 = .ok (.iload 6, 2) := by decide +kernel
theorem dX11_years_62 : decode cX11_years 62 = .ok (.iadd, 1) := by decide +kernel
theorem dX11_years_63 : decode cX11_years 63 = .ok (.iaload, 1) := by decide +kernel
theorem dX11_years_64 : decode cX11_years 64 = .ok (.iastore, 1) := by decide +kernel
theorem dX11_years_65 : decode cX11_years 65 = .ok (.iinc 6 1, 3) := by decide +kernel
theorem dX11_years_68 : decode cX11_years 68 = .ok (.goto (-28), 3) := by decide +kernel
theorem dX11_years_71 : decode cX11_years 71 = .ok (.iconst 0, 1) := by decide +kernel
theorem dX11_years_72 : decode cX11_years 72 = .ok (.istore 6, 2) := by decide +kernel
theorem dX11_years_74 : decode cX11_years 74 = .ok (.iload 6, 2) := by decide +kernel
theorem dX11_years_76 : decode cX11_years 76 = .ok (.iload_n 2, 1) := by decide +kernel
theorem dX11_years_77 : decode cX11_years 77 = .ok (.if_icmp .ge 107, 3) := by decide +kernel
theorem dX11_years_80 : decode cX11_years 80 = .ok (.iconst 0, 1) := by decide +kernel
theorem dX11_years_81 : decode cX11_years 81 = .ok (.istore 7, 2) := by decide +kernel
theorem dX11_years_83 : decode cX11_years 83 = .ok (.iload 7, 2) := by decide +kernel
theorem dX11_years_85 : decode cX11_years 85 = .ok (.aload_n 0, 1) := by decide +kernel
theorem dX11_years_86 : decode cX11_years 86 = .ok (.invokevirtual 49, 3) := by decide +kernel
theorem dX11_years_89 : decode cX11_years 89 = .ok (.if_icmp .ge 89, 3) := by decide +kernel
theorem dX11_years_92 : decode cX11_years 92 = .ok (.lload_n 3, 1) := by decide +kernel
theorem dX11_years_93 : decode cX11_years 93 = .ok (.ldc2_w 196, 3) := by decide +kernel
theorem dX11_years_96 : decode cX11_years 96 = .ok (.lmul, 1) := by decide +kernel
theorem dX11_years_97 : decode cX11_years 97 = .ok (.ldc2_w 198, 3) := by decide +kernel
theorem dX11_years_100 : decode cX11_years 100 = .ok (.ladd, 1) := by decide +kernel
theorem dX11_years_101 : decode cX11_years 101 = .ok (.ldc2_w 200, 3) := by decide +kernel
theorem dX11_years_104 : decode cX11_years 104 = .ok (.lrem, 1) := by decide +kernel
theorem dX11_years_105 : decode cX11_years 105 = .ok (.lstore_n 3, 1) := by decide +kernel
theorem dX11_years_106 : decode cX11_years 106 = .ok (.aload_n 0, 1) := by decide +kernel
theorem dX11_years_107 : decode cX11_years 107 = .ok (.aload_n 0, 1) := by decide +kernel
theorem dX11_years_108 : decode cX11_years 108 = .ok (.getfield 33, 3) := by decide +kernel
theorem dX11_years_111 : decode cX11_years 111 = .ok (.iload 7, 2) := by decide +kernel
theorem dX11_years_113 : decode cX11_years 113 = .ok (.iaload, 1) := by decide +kernel
theorem dX11_years_114 : decode cX11_years 114 = .ok (.putfield 88, 3) := by decide +kernel
theorem dX11_years_117 : decode cX11_years 117 = .ok (.aload_n 0, 1) := by decide +kernel
theorem dX11_years_118 : decode cX11_years 118 = .ok (.iconst 0, 1) := by decide +kernel
theorem dX11_years_119 : decode cX11_years 119 = .ok (.putfield 84, 3) := by decide +kernel
theorem dX11_years_122 : decode cX11_years 122 = .ok (.aload_n 0, 1) := by decide +kernel
theorem dX11_years_123 : decode cX11_years 123 = .ok (.aload_n 0, 1) := by decide +kernel
theorem dX11_years_124 : decode cX11_years 124 = .ok (.iload 7, 2) := by decide +kernel
theorem dX11_years_126 : decode cX11_years 126 = .ok (.invokevirtual 124, 3) := by decide +kernel
theorem dX11_years_129 : decode cX11_years 129 = .ok (.aload_n 0, 1) := by decide +kernel
theorem dX11_years_130 : decode cX11_years 130 = .ok (.getfield 7, 3) := by decide +kernel
theorem dX11_years_133 : decode cX11_years 133 = .ok (.bipush 16, 2) := by decide +kernel
theorem dX11_years_135 : decode cX11_years 135 = .ok (.iaload, 1) := by decide +kernel
theorem dX11_years_136 : decode cX11_years 136 = .ok (.iload 6, 2) := by decide +kernel
theorem dX11_years_138 : decode cX11_years 138 = .ok (.iadd, 1) := by decide +kernel
theorem dX11_years_139 : decode cX11_years 139 = .ok (.lload_n 3, 1) := by decide +kernel
theorem dX11_years_140 : decode cX11_years 140 = .ok (.ldc2_w 202, 3) := by decide +kernel
theorem dX11_years_143 : decode cX11_years 143 = .ok (.ldiv, 1) := by decide +kernel
theorem dX11_years_144 : decode cX11_years 144 = .ok (.ldc2_w 154, 3) := by decide +kernel
theorem dX11_years_147 : decode cX11_years 147 = .ok (.lrem, 1) := by decide +kernel
theorem dX11_years_148 : decode cX11_years 148 = .ok (.l2i, 1) := by decide +kernel
theorem dX11_years_149 : decode cX11_years 149 = .ok (.invokevirtual 101, 3) := by decide +kernel
theorem dX11_years_152 : decode cX11_years 152 = .ok (.aload_n 0, 1) := by decide +kernel
theorem dX11_years_153 : decode cX11_years 153 = .ok (.getfield 33, 3) := by decide +kernel
theorem dX11_years_156 : decode cX11_years 156 = .ok (.iload 7, 2) := by decide +kernel
theorem dX11_years_158 : decode cX11_years 158 = .ok (.aload_n 0, 1) := by decide +kernel
theorem dX11_years_159 : decode cX11_years 159 = .ok (.getfield 88, 3) := by decide +kernel
theorem dX11_years_162 : decode cX11_years 162 = .ok (.iastore, 1) := by decide +kernel
theorem dX11_years_163 : decode cX11_years 163 = .ok (.iload 5, 2) := by decide +kernel
theorem dX11_years_165 : decode cX11_years 165 = .ok (.aload_n 0, 1) := by decide +kernel
theorem dX11_years_166 : decode cX11_years 166 = .ok (.getfield 84, 3) := by decide +kernel
theorem dX11_years_169 : decode cX11_years 169 = .ok (.iadd, 1) := by decide +kernel
theorem dX11_years_170 : decode cX11_years 170 = .ok (.istore 5, 2) := by decide +kernel
theorem dX11_years_172 : decode cX11_years 172 = .ok (.iinc 7 1, 3) := by decide +kernel
theorem dX11_years_175 : decode cX11_years 175 = .ok (.goto (-92), 3) := by decide +kernel
theorem dX11_years_178 : decode cX11_years 178 = .ok (.iinc 6 1, 3) := by decide +kernel
theorem dX11_years_181 : decode cX11_years 181 = .ok (.goto (-107), 3) := by decide +kernel
theorem dX11_years_184 : decode cX11_years 184 = .ok (.iload 5, 2) := by decide +kernel
theorem dX11_years_186 : decode cX11_years 186 = .ok (.ireturn, 1) := by decide +kernel
theorem dX11_type_0 : decode cX11_type 0 = .ok (.iload_n 1, 1) := by decide +kernel
theorem dX11_type_1 : decode cX11_type 1 = .ok (.i2l, 1) := by decide +kernel
theorem dX11_type_2 : decode cX11_type 2 = .ok (.lconst 0, 1) := by decide +kernel
theorem dX11_type_3 : decode cX11_type 3 = .ok (.ldc2_w 204, 3) := by decide +kernel
theorem dX11_type_6 : decode cX11_type 6 = .ok (.invokestatic 53, 3) := by decide +kernel
theorem dX11_type_9 : decode cX11_type 9 = .ok (.ifCond .ne 10, 3) := by decide +kernel
theorem dX11_type_12 : decode cX11_type 12 = .ok (.aload_n 0, 1) := by decide +kernel
theorem dX11_type_13 : decode cX11_type 13 = .ok (.bipush (-2), 2) := by decide +kernel
theorem dX11_type_15 : decode cX11_type 15 = .ok (.invokevirtual 63, 3) := by decide +kernel
theorem dX11_type_18 : decode cX11_type 18 = .ok (.ireturn, 1) := by decide +kernel
theorem dX11_type_19 : decode cX11_type 19 = .ok (.aload_n 0, 1) := by decide +kernel
theorem dX11_type_20 : decode cX11_type 20 = .ok (.getfield 206, 3) := by decide +kernel
theorem dX11_type_23 : decode cX11_type 23 = .ok (.sipush 150, 3) := by decide +kernel
theorem dX11_type_26 : decode cX11_type 26 = .ok (.if_icmp .ne 8, 3) := by decide +kernel
theorem dX11_type_29 : decode cX11_type 29 = .ok (.aload_n 0, 1) := by decide +kernel
theorem dX11_type_30 : decode cX11_type 30 = .ok (.invokevirtual 67, 3) := by decide +kernel
theorem dX11_type_33 : decode cX11_type 33 = .ok (.ireturn, 1) := by decide +kernel
theorem dX11_type_34 : decode cX11_type 34 = .ok (.aload_n 0, 1) := by decide +kernel
theorem dX11_type_35 : decode cX11_type 35 = .ok (.getfield 36, 3) := by decide +kernel
theorem dX11_type_38 : decode cX11_type 38 = .ok (.aload_n 0, 1) := by decide +kernel
theorem dX11_type_39 : decode cX11_type 39 = .ok (.getfield 206, 3) := by decide +kernel
theorem dX11_type_42 : decode cX11_type 42 = .ok (.iload_n 1, 1) := by decide +kernel
theorem dX11_type_43 : decode cX11_type 43 = .ok (.iastore, 1) := by decide +kernel
theorem dX11_type_44 : decode cX11_type 44 = .ok (.aload_n 0, 1) := by decide +kernel
theorem dX11_type_45 : decode cX11_type 45 = .ok (.dup, 1) := by decide +kernel
theorem dX11_type_46 : decode cX11_type 46 = .ok (.getfield 206, 3) := by decide +kernel
theorem dX11_type_49 : decode cX11_type 49 = .ok (.iconst 1, 1) := by decide +kernel
theorem dX11_type_50 : decode cX11_type 50 = .ok (.iadd, 1) := by decide +kernel
theorem dX11_type_51 : decode cX11_type 51 = .ok (.putfield 206, 3) := by decide +kernel
theorem dX11_type_54 : decode cX11_type 54 = .ok (.aload_n 0, 1) := by decide +kernel
theorem dX11_type_55 : decode cX11_type 55 = .ok (.getfield 206, 3) := by decide +kernel
theorem dX11_type_58 : decode cX11_type 58 = .ok (.ireturn, 1) := by decide +kernel
theorem dX11_clear_0 : decode cX11_clear 0 = .ok (.aload_n 0, 1) := by decide +kernel
theorem dX11_clear_1 : decode cX11_clear 1 = .ok (.getfield 206, 3) := by decide +kernel
theorem dX11_clear_4 : decode cX11_clear 4 = .ok (.istore_n 1, 1) := by decide +kernel
theorem dX11_clear_5 : decode cX11_clear 5 = .ok (.aload_n 0, 1) := by decide +kernel
theorem dX11_clear_6 : decode cX11_clear 6 = .ok (.iconst 0, 1) := by decide +kernel
theorem dX11_clear_7 : decode cX11_clear 7 = .ok (.putfield 206, 3) := by decide +kernel
theorem dX11_clear_10 : decode cX11_clear 10 = .ok (.iload_n 1, 1) := by decide +kernel
theorem dX11_clear_11 : decode cX11_clear 11 = .ok (.ireturn, 1) := by decide +kernel
theorem dX11_isSmall_0 : decode cX11_isSmall 0 = .ok (.iload_n 0, 1) := by decide +kernel
theorem dX11_isSmall_1 : decode cX11_isSmall 1 = .ok (.i2l, 1) := by decide +kernel
theorem dX11_isSmall_2 : decode cX11_isSmall 2 = .ok (.ldc2_w 209, 3) := by decide +kernel
theorem dX11_isSmall_5 : decode cX11_isSmall 5 = .ok (.ldc2_w 211, 3) := by decide +kernel
theorem dX11_isSmall_8 : decode cX11_isSmall 8 = .ok (.invokestatic 53, 3) := by decide +kernel
theorem dX11_isSmall_11 : decode cX11_isSmall 11 = .ok (.ireturn, 1) := by decide +kernel
theorem dX11_isFigure_0 : decode cX11_isFigure 0 = .ok (.iload_n 0, 1) := by decide +kernel
theorem dX11_isFigure_1 : decode cX11_isFigure 1 = .ok (.i2l, 1) := by decide +kernel
theorem dX11_isFigure_2 : decode cX11_isFigure 2 = .ok (.ldc2_w 213, 3) := by decide +kernel
theorem dX11_isFigure_5 : decode cX11_isFigure 5 = .ok (.ldc2_w 215, 3) := by decide +kernel
theorem dX11_isFigure_8 : decode cX11_isFigure 8 = .ok (.invokestatic 53, 3) := by decide +kernel
theorem dX11_isFigure_11 : decode cX11_isFigure 11 = .ok (.ireturn, 1) := by decide +kernel
theorem dX11_lookAt_0 : decode cX11_lookAt 0 = .ok (.aload_n 0, 1) := by decide +kernel
theorem dX11_lookAt_1 : decode cX11_lookAt 1 = .ok (.iload_n 1, 1) := by decide +kernel
theorem dX11_lookAt_2 : decode cX11_lookAt 2 = .ok (.putfield 217, 3) := by decide +kernel
theorem dX11_lookAt_5 : decode cX11_lookAt 5 = .ok (.aload_n 0, 1) := by decide +kernel
theorem dX11_lookAt_6 : decode cX11_lookAt 6 = .ok (.getfield 217, 3) := by decide +kernel
theorem dX11_lookAt_9 : decode cX11_lookAt 9 = .ok (.aload_n 0, 1) := by decide +kernel
theorem dX11_lookAt_10 : decode cX11_lookAt 10 = .ok (.getfield 206, 3) := by decide +kernel
theorem dX11_lookAt_13 : decode cX11_lookAt 13 = .ok (.if_icmp .ge 30, 3) := by decide +kernel
theorem dX11_lookAt_16 : decode cX11_lookAt 16 = .ok (.aload_n 0, 1) := by decide +kernel
theorem dX11_lookAt_17 : decode cX11_lookAt 17 = .ok (.getfield 36, 3) := by decide +kernel
theorem dX11_lookAt_20 : decode cX11_lookAt 20 = .ok (.aload_n 0, 1) := by decide +kernel
theorem dX11_lookAt_21 : decode cX11_lookAt 21 = .ok (.getfield 217, 3) := by decide +kernel
theorem dX11_lookAt_24 : decode cX11_lookAt 24 = .ok (.iaload, 1) := by decide +kernel
theorem dX11_lookAt_25 : decode cX11_lookAt 25 = .ok (.bipush 32, 2) := by decide +kernel
theorem dX11_lookAt_27 : decode cX11_lookAt 27 = .ok (.if_icmp .ne 16, 3) := by decide +kernel
theorem dX11_lookAt_30 : decode cX11_lookAt 30 = .ok (.aload_n 0, 1) := by decide +kernel
theorem dX11_lookAt_31 : decode cX11_lookAt 31 = .ok (.dup, 1) := by decide +kernel
theorem dX11_lookAt_32 : decode cX11_lookAt 32 = .ok (.getfield 217, 3) := by decide +kernel
theorem dX11_lookAt_35 : decode cX11_lookAt 35 = .ok (.iconst 1, 1) := by decide +kernel
theorem dX11_lookAt_36 : decode cX11_lookAt 36 = .ok (.iadd, 1) := by decide +kernel
theorem dX11_lookAt_37 : decode cX11_lookAt 37 = .ok (.putfield 217, 3) := by decide +kernel
theorem dX11_lookAt_40 : decode cX11_lookAt 40 = .ok (.goto (-35), 3) := by decide +kernel
theorem dX11_lookAt_43 : decode cX11_lookAt 43 = .ok (.aload_n 0, 1) := by decide +kernel
theorem dX11_lookAt_44 : decode cX11_lookAt 44 = .ok (.iconst 0, 1) := by decide +kernel
theorem dX11_lookAt_45 : decode cX11_lookAt 45 = .ok (.putfield 220, 3) := by decide +kernel
theorem dX11_lookAt_48 : decode cX11_lookAt 48 = .ok (.aload_n 0, 1) := by decide +kernel
theorem dX11_lookAt_49 : decode cX11_lookAt 49 = .ok (.iconst 0, 1) := by decide +kernel
theorem dX11_lookAt_50 : decode cX11_lookAt 50 = .ok (.putfield 223, 3) := by decide +kernel
theorem dX11_lookAt_53 : decode cX11_lookAt 53 = .ok (.aload_n 0, 1) := by decide +kernel
theorem dX11_lookAt_54 : decode cX11_lookAt 54 = .ok (.iconst 0, 1) := by decide +kernel
theorem dX11_lookAt_55 : decode cX11_lookAt 55 = .ok (.putfield 226, 3) := by decide +kernel
theorem dX11_lookAt_58 : decode cX11_lookAt 58 = .ok (.aload_n 0, 1) := by decide +kernel
theorem dX11_lookAt_59 : decode cX11_lookAt 59 = .ok (.getfield 217, 3) := by decide +kernel
theorem dX11_lookAt_62 : decode cX11_lookAt 62 = .ok (.aload_n 0, 1) := by decide +kernel
theorem dX11_lookAt_63 : decode cX11_lookAt 63 = .ok (.getfield 206, 3) := by decide +kernel
theorem dX11_lookAt_66 : decode cX11_lookAt 66 = .ok (.if_icmp .ne 4, 3) := by decide +kernel
theorem dX11_lookAt_69 : decode cX11_lookAt 69 = .ok (.return_, 1) := by decide +kernel
theorem dX11_lookAt_70 : decode cX11_lookAt 70 = .ok (.aload_n 0, 1) := by decide +kernel
theorem dX11_lookAt_71 : decode cX11_lookAt 71 = .ok (.getfield 36, 3) := by decide +kernel
theorem dX11_lookAt_74 : decode cX11_lookAt 74 = .ok (.aload_n 0, 1) := by decide +kernel
theorem dX11_lookAt_75 : decode cX11_lookAt 75 = .ok (.getfield 217, 3) := by decide +kernel
theorem dX11_lookAt_78 : decode cX11_lookAt 78 = .ok (.iaload, 1) := by decide +kernel
theorem dX11_lookAt_79 : decode cX11_lookAt 79 = .ok (.istore_n 2, 1) := by decide +kernel
theorem dX11_lookAt_80 : decode cX11_lookAt 80 = .ok (.aload_n 0, 1) := by decide +kernel
theorem dX11_lookAt_81 : decode cX11_lookAt 81 = .ok (.iload_n 2, 1) := by decide +kernel
theorem dX11_lookAt_82 : decode cX11_lookAt 82 = .ok (.invokestatic 229, 3) := by decide +kernel
theorem dX11_lookAt_85 : decode cX11_lookAt 85 = .ok (.ifCond .eq 7, 3) := by decide +kernel
theorem dX11_lookAt_88 : decode cX11_lookAt 88 = .ok (.iconst 1, 1) := by decide +kernel
theorem dX11_lookAt_89 : decode cX11_lookAt 89 = .ok (.goto 25, 3) := by decide +kernel
theorem dX11_lookAt_92 : decode cX11_lookAt 92 = .ok (.iload_n 2, 1) := by decide +kernel
theorem dX11_lookAt_93 : decode cX11_lookAt 93 = .ok (.invokestatic 232, 3) := by decide +kernel
theorem dX11_lookAt_96 : decode cX11_lookAt 96 = .ok (.ifCond .eq 7, 3) := by decide +kernel
theorem dX11_lookAt_99 : decode cX11_lookAt 99 = .ok (.iconst 2, 1) := by decide +kernel
theorem dX11_lookAt_100 : decode cX11_lookAt 100 = .ok (.goto 14, 3) := by decide +kernel
theorem dX11_lookAt_103 : decode cX11_lookAt 103 = .ok (.iload_n 2, 1) := by decide +kernel
theorem dX11_lookAt_104 : decode cX11_lookAt 104 = .ok (.bipush 59, 2) := by decide +kernel
theorem dX11_lookAt_106 : decode cX11_lookAt 106 = .ok (.if_icmp .ne 7, 3) := by decide +kernel
theorem dX11_lookAt_109 : decode cX11_lookAt 109 = .ok (.iconst 3, 1) := by decide +kernel
theorem dX11_lookAt_110 : decode cX11_lookAt 110 = .ok (.goto 4, 3) := by decide +kernel
theorem dX11_lookAt_113 : decode cX11_lookAt 113 = .ok (.iconst 4, 1) := by decide +kernel
theorem dX11_lookAt_114 : decode cX11_lookAt 114 = .ok (.putfield 223, 3) := by decide +kernel
theorem dX11_lookAt_117 : decode cX11_lookAt 117 = .ok (.aload_n 0, 1) := by decide +kernel
theorem dX11_lookAt_118 : decode cX11_lookAt 118 = .ok (.iconst 1, 1) := by decide +kernel
theorem dX11_lookAt_119 : decode cX11_lookAt 119 = .ok (.putfield 220, 3) := by decide +kernel
theorem dX11_lookAt_122 : decode cX11_lookAt 122 = .ok (.aload_n 0, 1) := by decide +kernel
theorem dX11_lookAt_123 : decode cX11_lookAt 123 = .ok (.getfield 223, 3) := by decide +kernel
theorem dX11_lookAt_126 : decode cX11_lookAt 126 = .ok (.iconst 3, 1) := by decide +kernel
theorem dX11_lookAt_127 : decode cX11_lookAt 127 = .ok (.if_icmp .ge 7, 3) := by decide +kernel
theorem dX11_lookAt_130 : decode cX11_lookAt 130 = .ok (.iconst 1, 1) := by decide +kernel
theorem dX11_lookAt_131 : decode cX11_lookAt 131 = .ok (.goto 4, 3) := by decide +kernel
theorem dX11_lookAt_134 : decode cX11_lookAt 134 = .ok (.iconst 0, 1) := by decide +kernel
theorem dX11_lookAt_135 : decode cX11_lookAt 135 = .ok (.istore_n 3, 1) := by decide +kernel
theorem dX11_lookAt_136 : decode cX11_lookAt 136 = .ok (.iload_n 3, 1) := by decide +kernel
theorem dX11_lookAt_137 : decode cX11_lookAt 137 = .ok (.ifCond .eq 78, 3) := by decide +kernel
theorem dX11_lookAt_140 : decode cX11_lookAt 140 = .ok (.aload_n 0, 1) := by decide +kernel
theorem dX11_lookAt_141 : decode cX11_lookAt 141 = .ok (.getfield 217, 3) := by decide +kernel
theorem dX11_lookAt_144 : decode cX11_lookAt 144 = .ok (.aload_n 0, 1) := by decide +kernel
theorem dX11_lookAt_145 : decode cX11_lookAt 145 = .ok (.getfield 220, 3) := by decide +kernel
theorem dX11_lookAt_148 : decode cX11_lookAt 148 = .ok (.iadd, 1) := by decide +kernel
theorem dX11_lookAt_149 : decode cX11_lookAt 149 = .ok (.aload_n 0, 1) := by decide +kernel
theorem dX11_lookAt_150 : decode cX11_lookAt 150 = .ok (.getfield 206, 3) := by decide +kernel
theorem dX11_lookAt_153 : decode cX11_lookAt 153 = .ok (.if_icmp .ge 62, 3) := by decide +kernel
theorem dX11_lookAt_156 : decode cX11_lookAt 156 = .ok (.aload_n 0, 1) := by decide +kernel
theorem dX11_lookAt_157 : decode cX11_lookAt 157 = .ok (.getfield 36, 3) := by decide +kernel
theorem dX11_lookAt_160 : decode cX11_lookAt 160 = .ok (.aload_n 0, 1) := by decide +kernel
theorem dX11_lookAt_161 : decode cX11_lookAt 161 = .ok (.getfield 217, 3) := by decide +kernel
theorem dX11_lookAt_164 : decode cX11_lookAt 164 = .ok (.aload_n 0, 1) := by decide +kernel
theorem dX11_lookAt_165 : decode cX11_lookAt 165 = .ok (.getfield 220, 3) := by decide +kernel
theorem dX11_lookAt_168 : decode cX11_lookAt 168 = .ok (.iadd, 1) := by decide +kernel
theorem dX11_lookAt_169 : decode cX11_lookAt 169 = .ok (.iaload, 1) := by decide +kernel
theorem dX11_lookAt_170 : decode cX11_lookAt 170 = .ok (.istore 4, 2) := by decide +kernel
theorem dX11_lookAt_172 : decode cX11_lookAt 172 = .ok (.aload_n 0, 1) := by decide +kernel
theorem dX11_lookAt_173 : decode cX11_lookAt 173 = .ok (.getfield 223, 3) := by decide +kernel
theorem dX11_lookAt_176 : decode cX11_lookAt 176 = .ok (.iconst 1, 1) := by decide +kernel
theorem dX11_lookAt_177 : decode cX11_lookAt 177 = .ok (.if_icmp .ne 11, 3) := by decide +kernel
theorem dX11_lookAt_180 : decode cX11_lookAt 180 = .ok (.iload 4, 2) := by decide +kernel
theorem dX11_lookAt_182 : decode cX11_lookAt 182 = .ok (.invokestatic 229, 3) := by decide +kernel
theorem dX11_lookAt_185 : decode cX11_lookAt 185 = .ok (.goto 8, 3) := by decide +kernel
theorem dX11_lookAt_188 : decode cX11_lookAt 188 = .ok (.iload 4, 2) := by decide +kernel
theorem dX11_lookAt_190 : decode cX11_lookAt 190 = .ok (.invokestatic 232, 3) := by decide +kernel
theorem dX11_lookAt_193 : decode cX11_lookAt 193 = .ok (.istore_n 3, 1) := by decide +kernel
theorem dX11_lookAt_194 : decode cX11_lookAt 194 = .ok (.aload_n 0, 1) := by decide +kernel
theorem dX11_lookAt_195 : decode cX11_lookAt 195 = .ok (.dup, 1) := by decide +kernel
theorem dX11_lookAt_196 : decode cX11_lookAt 196 = .ok (.getfield 220, 3) := by decide +kernel
theorem dX11_lookAt_199 : decode cX11_lookAt 199 = .ok (.iload_n 3, 1) := by decide +kernel
theorem dX11_lookAt_200 : decode cX11_lookAt 200 = .ok (.ifCond .eq 7, 3) := by decide +kernel
theorem dX11_lookAt_203 : decode cX11_lookAt 203 = .ok (.iconst 1, 1) := by decide +kernel
theorem dX11_lookAt_204 : decode cX11_lookAt 204 = .ok (.goto 4, 3) := by decide +kernel
theorem dX11_lookAt_207 : decode cX11_lookAt 207 = .ok (.iconst 0, 1) := by decide +kernel
theorem dX11_lookAt_208 : decode cX11_lookAt 208 = .ok (.iadd, 1) := by decide +kernel
theorem dX11_lookAt_209 : decode cX11_lookAt 209 = .ok (.putfield 220, 3) := by decide +kernel
theorem dX11_lookAt_212 : decode cX11_lookAt 212 = .ok (.goto (-76), 3) := by decide +kernel
theorem dX11_lookAt_215 : decode cX11_lookAt 215 = .ok (.iconst 0, 1) := by decide +kernel
theorem dX11_lookAt_216 : decode cX11_lookAt 216 = .ok (.istore 4, 2) := by decide +kernel
theorem dX11_lookAt_218 : decode cX11_lookAt 218 = .ok (.iload 4, 2) := by decide +kernel
theorem dX11_lookAt_220 : decode cX11_lookAt 220 = .ok (.aload_n 0, 1) := by decide +kernel
theorem dX11_lookAt_221 : decode cX11_lookAt 221 = .ok (.getfield 220, 3) := by decide +kernel
theorem dX11_lookAt_224 : decode cX11_lookAt 224 = .ok (.if_icmp .ge 50, 3) := by decide +kernel
theorem dX11_lookAt_227 : decode cX11_lookAt 227 = .ok (.iload 4, 2) := by decide +kernel
theorem dX11_lookAt_229 : decode cX11_lookAt 229 = .ok (.iconst 2, 1) := by decide +kernel
theorem dX11_lookAt_230 : decode cX11_lookAt 230 = .ok (.if_icmp .ge 44, 3) := by decide +kernel
theorem dX11_lookAt_233 : decode cX11_lookAt 233 = .ok (.aload_n 0, 1) := by decide +kernel
theorem dX11_lookAt_234 : decode cX11_lookAt 234 = .ok (.getfield 223, 3) := by decide +kernel
theorem dX11_lookAt_237 : decode cX11_lookAt 237 = .ok (.iconst 2, 1) := by decide +kernel
theorem dX11_lookAt_238 : decode cX11_lookAt 238 = .ok (.if_icmp .ne 36, 3) := by decide +kernel
theorem dX11_lookAt_241 : decode cX11_lookAt 241 = .ok (.aload_n 0, 1) := by decide +kernel
theorem dX11_lookAt_242 : decode cX11_lookAt 242 = .ok (.bipush 10, 2) := by decide +kernel
theorem dX11_lookAt_244 : decode cX11_lookAt 244 = .ok (.aload_n 0, 1) := by decide +kernel
theorem dX11_lookAt_245 : decode cX11_lookAt 245 = .ok (.getfield 226, 3) := by decide +kernel
theorem dX11_lookAt_248 : decode cX11_lookAt 248 = .ok (.imul, 1) := by decide +kernel
theorem dX11_lookAt_249 : decode cX11_lookAt 249 = .ok (.aload_n 0, 1) := by decide +kernel
theorem dX11_lookAt_250 : decode cX11_lookAt 250 = .ok (.getfield 36, 3) := by decide +kernel
theorem dX11_lookAt_253 : decode cX11_lookAt 253 = .ok (.aload_n 0, 1) := by decide +kernel
theorem dX11_lookAt_254 : decode cX11_lookAt 254 = .ok (.getfield 217, 3) := by decide +kernel
theorem dX11_lookAt_257 : decode cX11_lookAt 257 = .ok (.iload 4, 2) := by decide +kernel
theorem dX11_lookAt_259 : decode cX11_lookAt 259 = .ok (.iadd, 1) := by decide +kernel
theorem dX11_lookAt_260 : decode cX11_lookAt 260 = .ok (.iaload, 1) := by decide +kernel
theorem dX11_lookAt_261 : decode cX11_lookAt 261 = .ok (.iadd, 1) := by decide +kernel
theorem dX11_lookAt_262 : decode cX11_lookAt 262 = .ok (.bipush 48, 2) := by decide +kernel
theorem dX11_lookAt_264 : decode cX11_lookAt 264 = .ok (.isub, 1) := by decide +kernel
theorem dX11_lookAt_265 : decode cX11_lookAt 265 = .ok (.putfield 226, 3) := by decide +kernel
theorem dX11_lookAt_268 : decode cX11_lookAt 268 = .ok (.iinc 4 1, 3) := by decide +kernel
theorem dX11_lookAt_271 : decode cX11_lookAt 271 = .ok (.goto (-53), 3) := by decide +kernel
theorem dX11_lookAt_274 : decode cX11_lookAt 274 = .ok (.aload_n 0, 1) := by decide +kernel
theorem dX11_lookAt_275 : decode cX11_lookAt 275 = .ok (.aload_n 0, 1) := by decide +kernel
theorem dX11_lookAt_276 : decode cX11_lookAt 276 = .ok (.getfield 223, 3) := by decide +kernel
theorem dX11_lookAt_279 : decode cX11_lookAt 279 = .ok (.iconst 2, 1) := by decide +kernel
theorem dX11_lookAt_280 : decode cX11_lookAt 280 = .ok (.if_icmp .ne 15, 3) := by decide +kernel
theorem dX11_lookAt_283 : decode cX11_lookAt 283 = .ok (.aload_n 0, 1) := by decide +kernel
theorem dX11_lookAt_284 : decode cX11_lookAt 284 = .ok (.getfield 220, 3) := by decide +kernel
theorem dX11_lookAt_287 : decode cX11_lookAt 287 = .ok (.iconst 2, 1) := by decide +kernel
theorem dX11_lookAt_288 : decode cX11_lookAt 288 = .ok (.if_icmp .le 7, 3) := by decide +kernel
theorem dX11_lookAt_291 : decode cX11_lookAt 291 = .ok (.iconst 4, 1) := by decide +kernel
theorem dX11_lookAt_292 : decode cX11_lookAt 292 = .ok (.goto 7, 3) := by decide +kernel
theorem dX11_lookAt_295 : decode cX11_lookAt 295 = .ok (.aload_n 0, 1) := by decide +kernel
theorem dX11_lookAt_296 : decode cX11_lookAt 296 = .ok (.getfield 223, 3) := by decide +kernel
theorem dX11_lookAt_299 : decode cX11_lookAt 299 = .ok (.putfield 223, 3) := by decide +kernel
theorem dX11_lookAt_302 : decode cX11_lookAt 302 = .ok (.return_, 1) := by decide +kernel
theorem dX11_goBehind_0 : decode cX11_goBehind 0 = .ok (.aload_n 0, 1) := by decide +kernel
theorem dX11_goBehind_1 : decode cX11_goBehind 1 = .ok (.aload_n 0, 1) := by decide +kernel
theorem dX11_goBehind_2 : decode cX11_goBehind 2 = .ok (.getfield 217, 3) := by decide +kernel
theorem dX11_goBehind_5 : decode cX11_goBehind 5 = .ok (.aload_n 0, 1) := by decide +kernel
theorem dX11_goBehind_6 : decode cX11_goBehind 6 = .ok (.getfield 220, 3) := by decide +kernel
theorem dX11_goBehind_9 : decode cX11_goBehind 9 = .ok (.iadd, 1) := by decide +kernel
theorem dX11_goBehind_10 : decode cX11_goBehind 10 = .ok (.invokevirtual 235, 3) := by decide +kernel
theorem dX11_goBehind_13 : decode cX11_goBehind 13 = .ok (.return_, 1) := by decide +kernel
theorem dX11_spells_0 : decode cX11_spells 0 = .ok (.aload_n 0, 1) := by decide +kernel
theorem dX11_spells_1 : decode cX11_spells 1 = .ok (.getfield 223, 3) := by decide +kernel
theorem dX11_spells_4 : decode cX11_spells 4 = .ok (.iconst 1, 1) := by decide +kernel
theorem dX11_spells_5 : decode cX11_spells 5 = .ok (.if_icmp .ne 15, 3) := by decide +kernel
theorem dX11_spells_8 : decode cX11_spells 8 = .ok (.aload_n 0, 1) := by decide +kernel
theorem dX11_spells_9 : decode cX11_spells 9 = .ok (.getfield 220, 3) := by decide +kernel
theorem dX11_spells_12 : decode cX11_spells 12 = .ok (.iload_n 1, 1) := by decide +kernel
theorem dX11_spells_13 : decode cX11_spells 13 = .ok (.if_icmp .ne 7, 3) := by decide +kernel
theorem dX11_spells_16 : decode cX11_spells 16 = .ok (.iconst 1, 1) := by decide +kernel
theorem dX11_spells_17 : decode cX11_spells 17 = .ok (.goto 4, 3) := by decide +kernel
theorem dX11_spells_20 : decode cX11_spells 20 = .ok (.iconst 0, 1) := by decide +kernel
theorem dX11_spells_21 : decode cX11_spells 21 = .ok (.istore 8, 2) := by decide +kernel
theorem dX11_spells_23 : decode cX11_spells 23 = .ok (.iconst 0, 1) := by decide +kernel
theorem dX11_spells_24 : decode cX11_spells 24 = .ok (.istore 9, 2) := by decide +kernel
theorem dX11_spells_26 : decode cX11_spells 26 = .ok (.iload 9, 2) := by decide +kernel
theorem dX11_spells_28 : decode cX11_spells 28 = .ok (.iload_n 1, 1) := by decide +kernel
theorem dX11_spells_29 : decode cX11_spells 29 = .ok (.if_icmp .ge 90, 3) := by decide +kernel
theorem dX11_spells_32 : decode cX11_spells 32 = .ok (.iload 8, 2) := by decide +kernel
theorem dX11_spells_34 : decode cX11_spells 34 = .ok (.ifCond .eq 85, 3) := by decide +kernel
theorem dX11_spells_37 : decode cX11_spells 37 = .ok (.aload_n 0, 1) := by decide +kernel
theorem dX11_spells_38 : decode cX11_spells 38 = .ok (.getfield 36, 3) := by decide +kernel
theorem dX11_spells_41 : decode cX11_spells 41 = .ok (.aload_n 0, 1) := by decide +kernel
theorem dX11_spells_42 : decode cX11_spells 42 = .ok (.getfield 217, 3) := by decide +kernel
theorem dX11_spells_45 : decode cX11_spells 45 = .ok (.iload 9, 2) := by decide +kernel
theorem dX11_spells_47 : decode cX11_spells 47 = .ok (.iadd, 1) := by decide +kernel
theorem dX11_spells_48 : decode cX11_spells 48 = .ok (.iaload, 1) := by decide +kernel
theorem dX11_spells_49 : decode cX11_spells 49 = .ok (.iload 9, 2) := by decide +kernel
theorem dX11_spells_51 : decode cX11_spells 51 = .ok (.ifCond .ne 7, 3) := by decide +kernel
theorem dX11_spells_54 : decode cX11_spells 54 = .ok (.iload_n 2, 1) := by decide +kernel
theorem dX11_spells_55 : decode cX11_spells 55 = .ok (.goto 48, 3) := by decide +kernel
theorem dX11_spells_58 : decode cX11_spells 58 = .ok (.iload 9, 2) := by decide +kernel
theorem dX11_spells_60 : decode cX11_spells 60 = .ok (.iconst 1, 1) := by decide +kernel
theorem dX11_spells_61 : decode cX11_spells 61 = .ok (.if_icmp .ne 7, 3) := by decide +kernel
theorem dX11_spells_64 : decode cX11_spells 64 = .ok (.iload_n 3, 1) := by decide +kernel
theorem dX11_spells_65 : decode cX11_spells 65 = .ok (.goto 38, 3) := by decide +kernel
theorem dX11_spells_68 : decode cX11_spells 68 = .ok (.iload 9, 2) := by decide +kernel
theorem dX11_spells_70 : decode cX11_spells 70 = .ok (.iconst 2, 1) := by decide +kernel
theorem dX11_spells_71 : decode cX11_spells 71 = .ok (.if_icmp .ne 8, 3) := by decide +kernel
theorem dX11_spells_74 : decode cX11_spells 74 = .ok (.iload 4, 2) := by decide +kernel
theorem dX11_spells_76 : decode cX11_spells 76 = .ok (.goto 27, 3) := by decide +kernel
theorem dX11_spells_79 : decode cX11_spells 79 = .ok (.iload 9, 2) := by decide +kernel
theorem dX11_spells_81 : decode cX11_spells 81 = .ok (.iconst 3, 1) := by decide +kernel
theorem dX11_spells_82 : decode cX11_spells 82 = .ok (.if_icmp .ne 8, 3) := by decide +kernel
theorem dX11_spells_85 : decode cX11_spells 85 = .ok (.iload 5, 2) := by decide +kernel
theorem dX11_spells_87 : decode cX11_spells 87 = .ok (.goto 16, 3) := by decide +kernel
theorem dX11_spells_90 : decode cX11_spells 90 = .ok (.iload 9, 2) := by decide +kernel
theorem dX11_spells_92 : decode cX11_spells 92 = .ok (.iconst 4, 1) := by decide +kernel
theorem dX11_spells_93 : decode cX11_spells 93 = .ok (.if_icmp .ne 8, 3) := by decide +kernel
theorem dX11_spells_96 : decode cX11_spells 96 = .ok (.iload 6, 2) := by decide +kernel
theorem dX11_spells_98 : decode cX11_spells 98 = .ok (.goto 5, 3) := by decide +kernel
theorem dX11_spells_101 : decode cX11_spells 101 = .ok (.iload 7, 2) := by decide +kernel
theorem dX11_spells_103 : decode cX11_spells 103 = .ok (.if_icmp .ne 7, 3) := by decide +kernel
theorem dX11_spells_106 : decode cX11_spells 106 = .ok (.iconst 1, 1) := by decide +kernel
theorem dX11_spells_107 : decode cX11_spells 107 = .ok (.goto 4, 3) := by decide +kernel
theorem dX11_spells_110 : decode cX11_spells 110 = .ok (.iconst 0, 1) := by decide +kernel
theorem dX11_spells_111 : decode cX11_spells 111 = .ok (.istore 8, 2) := by decide +kernel
theorem dX11_spells_113 : decode cX11_spells 113 = .ok (.iinc 9 1, 3) := by decide +kernel
theorem dX11_spells_116 : decode cX11_spells 116 = .ok (.goto (-90), 3) := by decide +kernel
theorem dX11_spells_119 : decode cX11_spells 119 = .ok (.iload 8, 2) := by decide +kernel
theorem dX11_spells_121 : decode cX11_spells 121 = .ok (.ireturn, 1) := by decide +kernel
theorem dX11_takes_0 : decode cX11_takes 0 = .ok (.aload_n 0, 1) := by decide +kernel
theorem dX11_takes_1 : decode cX11_takes 1 = .ok (.getfield 223, 3) := by decide +kernel
theorem dX11_takes_4 : decode cX11_takes 4 = .ok (.iconst 2, 1) := by decide +kernel
theorem dX11_takes_5 : decode cX11_takes 5 = .ok (.if_icmp .ne 18, 3) := by decide +kernel
theorem dX11_takes_8 : decode cX11_takes 8 = .ok (.aload_n 0, 1) := by decide +kernel
theorem dX11_takes_9 : decode cX11_takes 9 = .ok (.getfield 226, 3) := by decide +kernel
theorem dX11_takes_12 : decode cX11_takes 12 = .ok (.i2l, 1) := by decide +kernel
theorem dX11_takes_13 : decode cX11_takes 13 = .ok (.iload_n 2, 1) := by decide +kernel
theorem dX11_takes_14 : decode cX11_takes 14 = .ok (.i2l, 1) := by decide +kernel
theorem dX11_takes_15 : decode cX11_takes 15 = .ok (.iload_n 3, 1) := by decide +kernel
theorem dX11_takes_16 : decode cX11_takes 16 = .ok (.i2l, 1) := by decide +kernel
theorem dX11_takes_17 : decode cX11_takes 17 = .ok (.invokestatic 53, 3) := by decide +kernel
theorem dX11_takes_20 : decode cX11_takes 20 = .ok (.ifCond .ne 5, 3) := by decide +kernel
theorem dX11_takes_23 : decode cX11_takes 23 = .ok (.iconst 0, 1) := by decide +kernel
theorem dX11_takes_24 : decode cX11_takes 24 = .ok (.ireturn, 1) := by decide +kernel
theorem dX11_takes_25 : decode cX11_takes 25 = .ok (.aload_n 0, 1) := by decide +kernel
theorem dX11_takes_26 : decode cX11_takes 26 = .ok (.getfield 42, 3) := by decide +kernel
theorem dX11_takes_29 : decode cX11_takes 29 = .ok (.iload_n 1, 1) := by decide +kernel
theorem dX11_takes_30 : decode cX11_takes 30 = .ok (.aload_n 0, 1) := by decide +kernel
theorem dX11_takes_31 : decode cX11_takes 31 = .ok (.getfield 226, 3) := by decide +kernel
theorem dX11_takes_34 : decode cX11_takes 34 = .ok (.iastore, 1) := by decide +kernel
theorem dX11_takes_35 : decode cX11_takes 35 = .ok (.aload_n 0, 1) := by decide +kernel
theorem dX11_takes_36 : decode cX11_takes 36 = .ok (.invokevirtual 238, 3) := by decide +kernel
theorem dX11_takes_39 : decode cX11_takes 39 = .ok (.iconst 1, 1) := by decide +kernel
theorem dX11_takes_40 : decode cX11_takes 40 = .ok (.ireturn, 1) := by decide +kernel
theorem dX11_takesDriver_0 : decode cX11_takesDriver 0 = .ok (.aload_n 0, 1) := by decide +kernel
theorem dX11_takesDriver_1 : decode cX11_takesDriver 1 = .ok (.getfield 39, 3) := by decide +kernel
theorem dX11_takesDriver_4 : decode cX11_takesDriver 4 = .ok (.iconst 0, 1) := by decide +kernel
theorem dX11_takesDriver_5 : decode cX11_takesDriver 5 = .ok (.iaload, 1) := by decide +kernel
theorem dX11_takesDriver_6 : decode cX11_takesDriver 6 = .ok (.bipush 6, 2) := by decide +kernel
theorem dX11_takesDriver_8 : decode cX11_takesDriver 8 = .ok (.if_icmp .ne 5, 3) := by decide +kernel
theorem dX11_takesDriver_11 : decode cX11_takesDriver 11 = .ok (.iconst 0, 1) := by decide +kernel
theorem dX11_takesDriver_12 : decode cX11_takesDriver 12 = .ok (.ireturn, 1) := by decide +kernel
theorem dX11_takesDriver_13 : decode cX11_takesDriver 13 = .ok (.aload_n 0, 1) := by decide +kernel
theorem dX11_takesDriver_14 : decode cX11_takesDriver 14 = .ok (.invokevirtual 238, 3) := by decide +kernel
theorem dX11_takesDriver_17 : decode cX11_takesDriver 17 = .ok (.aload_n 0, 1) := by decide +kernel
theorem dX11_takesDriver_18 : decode cX11_takesDriver 18 = .ok (.iconst 0, 1) := by decide +kernel
theorem dX11_takesDriver_19 : decode cX11_takesDriver 19 = .ok (.iconst 0, 1) := by decide +kernel
theorem dX11_takesDriver_20 : decode cX11_takesDriver 20 = .ok (.iconst 5, 1) := by decide +kernel
theorem dX11_takesDriver_21 : decode cX11_takesDriver 21 = .ok (.invokevirtual 241, 3) := by decide +kernel
theorem dX11_takesDriver_24 : decode cX11_takesDriver 24 = .ok (.ifCond .eq 14, 3) := by decide +kernel
theorem dX11_takesDriver_27 : decode cX11_takesDriver 27 = .ok (.aload_n 0, 1) := by decide +kernel
theorem dX11_takesDriver_28 : decode cX11_takesDriver 28 = .ok (.iconst 1, 1) := by decide +kernel
theorem dX11_takesDriver_29 : decode cX11_takesDriver 29 = .ok (.iconst 0, 1) := by decide +kernel
theorem dX11_takesDriver_30 : decode cX11_takesDriver 30 = .ok (.bipush 99, 2) := by decide +kernel
theorem dX11_takesDriver_32 : decode cX11_takesDriver 32 = .ok (.invokevirtual 241, 3) := by decide +kernel
theorem dX11_takesDriver_35 : decode cX11_takesDriver 35 = .ok (.ifCond .ne 5, 3) := by decide +kernel
theorem dX11_takesDriver_38 : decode cX11_takesDriver 38 = .ok (.iconst 0, 1) := by decide +kernel
theorem dX11_takesDriver_39 : decode cX11_takesDriver 39 = .ok (.ireturn, 1) := by decide +kernel
theorem dX11_takesDriver_40 : decode cX11_takesDriver 40 = .ok (.aload_n 0, 1) := by decide +kernel
theorem dX11_takesDriver_41 : decode cX11_takesDriver 41 = .ok (.getfield 39, 3) := by decide +kernel
theorem dX11_takesDriver_44 : decode cX11_takesDriver 44 = .ok (.aload_n 0, 1) := by decide +kernel
theorem dX11_takesDriver_45 : decode cX11_takesDriver 45 = .ok (.getfield 42, 3) := by decide +kernel
theorem dX11_takesDriver_48 : decode cX11_takesDriver 48 = .ok (.iconst 0, 1) := by decide +kernel
theorem dX11_takesDriver_49 : decode cX11_takesDriver 49 = .ok (.iaload, 1) := by decide +kernel
theorem dX11_takesDriver_50 : decode cX11_takesDriver 50 = .ok (.aload_n 0, 1) := by decide +kernel
theorem dX11_takesDriver_51 : decode cX11_takesDriver 51 = .ok (.getfield 42, 3) := by decide +kernel
theorem dX11_takesDriver_54 : decode cX11_takesDriver 54 = .ok (.iconst 1, 1) := by decide +kernel
theorem dX11_takesDriver_55 : decode cX11_takesDriver 55 = .ok (.iaload, 1) := by decide +kernel
theorem dX11_takesDriver_56 : decode cX11_takesDriver 56 = .ok (.invokestatic 70, 3) := by decide +kernel
theorem dX11_takesDriver_59 : decode cX11_takesDriver 59 = .ok (.iconst 1, 1) := by decide +kernel
theorem dX11_takesDriver_60 : decode cX11_takesDriver 60 = .ok (.ireturn, 1) := by decide +kernel
theorem dX11_takesDays_0 : decode cX11_takesDays 0 = .ok (.aload_n 0, 1) := by decide +kernel
theorem dX11_takesDays_1 : decode cX11_takesDays 1 = .ok (.invokevirtual 238, 3) := by decide +kernel
theorem dX11_takesDays_4 : decode cX11_takesDays 4 = .ok (.aload_n 0, 1) := by decide +kernel
theorem dX11_takesDays_5 : decode cX11_takesDays 5 = .ok (.iconst 0, 1) := by decide +kernel
theorem dX11_takesDays_6 : decode cX11_takesDays 6 = .ok (.iconst 1, 1) := by decide +kernel
theorem dX11_takesDays_7 : decode cX11_takesDays 7 = .ok (.bipush 99, 2) := by decide +kernel
theorem dX11_takesDays_9 : decode cX11_takesDays 9 = .ok (.invokevirtual 241, 3) := by decide +kernel
theorem dX11_takesDays_12 : decode cX11_takesDays 12 = .ok (.ifCond .eq 13, 3) := by decide +kernel
theorem dX11_takesDays_15 : decode cX11_takesDays 15 = .ok (.aload_n 0, 1) := by decide +kernel
theorem dX11_takesDays_16 : decode cX11_takesDays 16 = .ok (.iconst 1, 1) := by decide +kernel
theorem dX11_takesDays_17 : decode cX11_takesDays 17 = .ok (.iconst 0, 1) := by decide +kernel
theorem dX11_takesDays_18 : decode cX11_takesDays 18 = .ok (.iconst 2, 1) := by decide +kernel
theorem dX11_takesDays_19 : decode cX11_takesDays 19 = .ok (.invokevirtual 241, 3) := by decide +kernel
theorem dX11_takesDays_22 : decode cX11_takesDays 22 = .ok (.ifCond .ne 5, 3) := by decide +kernel
theorem dX11_takesDays_25 : decode cX11_takesDays 25 = .ok (.iconst 0, 1) := by decide +kernel
theorem dX11_takesDays_26 : decode cX11_takesDays 26 = .ok (.ireturn, 1) := by decide +kernel
theorem dX11_takesDays_27 : decode cX11_takesDays 27 = .ok (.iconst 0, 1) := by decide +kernel
theorem dX11_takesDays_28 : decode cX11_takesDays 28 = .ok (.istore_n 1, 1) := by decide +kernel
theorem dX11_takesDays_29 : decode cX11_takesDays 29 = .ok (.iload_n 1, 1) := by decide +kernel
theorem dX11_takesDays_30 : decode cX11_takesDays 30 = .ok (.aload_n 0, 1) := by decide +kernel
theorem dX11_takesDays_31 : decode cX11_takesDays 31 = .ok (.getfield 42, 3) := by decide +kernel
theorem dX11_takesDays_34 : decode cX11_takesDays 34 = .ok (.iconst 0, 1) := by decide +kernel
theorem dX11_takesDays_35 : decode cX11_takesDays 35 = .ok (.iaload, 1) := by decide +kernel
theorem dX11_takesDays_36 : decode cX11_takesDays 36 = .ok (.if_icmp .ge 38, 3) := by decide +kernel
theorem dX11_takesDays_39 : decode cX11_takesDays 39 = .ok (.aload_n 0, 1) := by decide +kernel
theorem dX11_takesDays_40 : decode cX11_takesDays 40 = .ok (.getfield 39, 3) := by decide +kernel
theorem dX11_takesDays_43 : decode cX11_takesDays 43 = .ok (.bipush 16, 2) := by decide +kernel
theorem dX11_takesDays_45 : decode cX11_takesDays 45 = .ok (.iaload, 1) := by decide +kernel
theorem dX11_takesDays_46 : decode cX11_takesDays 46 = .ok (.sipush 9999, 3) := by decide +kernel
theorem dX11_takesDays_49 : decode cX11_takesDays 49 = .ok (.if_icmp .ge 25, 3) := by decide +kernel
theorem dX11_takesDays_52 : decode cX11_takesDays 52 = .ok (.aload_n 0, 1) := by decide +kernel
theorem dX11_takesDays_53 : decode cX11_takesDays 53 = .ok (.aload_n 0, 1) := by decide +kernel
theorem dX11_takesDays_54 : decode cX11_takesDays 54 = .ok (.getfield 39, 3) := by decide +kernel
theorem dX11_takesDays_57 : decode cX11_takesDays 57 = .ok (.iconst (-1), 1) := by decide +kernel
theorem dX11_takesDays_58 : decode cX11_takesDays 58 = .ok (.aload_n 0, 1) := by decide +kernel
theorem dX11_takesDays_59 : decode cX11_takesDays 59 = .ok (.getfield 42, 3) := by decide +kernel
theorem dX11_takesDays_62 : decode cX11_takesDays 62 = .ok (.iconst 1, 1) := by decide +kernel
theorem dX11_takesDays_63 : decode cX11_takesDays 63 = .ok (.iaload, 1) := by decide +kernel
theorem dX11_takesDays_64 : decode cX11_takesDays 64 = .ok (.invokevirtual 112, 3) := by decide +kernel
theorem dX11_takesDays_67 : decode cX11_takesDays 67 = .ok (.istore_n 2, 1) := by decide +kernel
theorem dX11_takesDays_68 : decode cX11_takesDays 68 = .ok (.iinc 1 1, 3) := by decide +kernel
theorem dX11_takesDays_71 : decode cX11_takesDays 71 = .ok (.goto (-42), 3) := by decide +kernel
theorem dX11_takesDays_74 : decode cX11_takesDays 74 = .ok (.iconst 1, 1) := by decide +kernel
theorem dX11_takesDays_75 : decode cX11_takesDays 75 = .ok (.ireturn, 1) := by decide +kernel
theorem dX11_takesItem_0 : decode cX11_takesItem 0 = .ok (.aload_n 0, 1) := by decide +kernel
theorem dX11_takesItem_1 : decode cX11_takesItem 1 = .ok (.bipush 6, 2) := by decide +kernel
theorem dX11_takesItem_3 : decode cX11_takesItem 3 = .ok (.bipush 100, 2) := by decide +kernel
theorem dX11_takesItem_5 : decode cX11_takesItem 5 = .ok (.bipush 114, 2) := by decide +kernel
theorem dX11_takesItem_7 : decode cX11_takesItem 7 = .ok (.bipush 105, 2) := by decide +kernel
theorem dX11_takesItem_9 : decode cX11_takesItem 9 = .ok (.bipush 118, 2) := by decide +kernel
theorem dX11_takesItem_11 : decode cX11_takesItem 11 = .ok (.bipush 101, 2) := by decide +kernel
theorem dX11_takesItem_13 : decode cX11_takesItem 13 = .ok (.bipush 114, 2) := by decide +kernel
theorem dX11_takesItem_15 : decode cX11_takesItem 15 = .ok (.invokevirtual 245, 3) := by decide +kernel
theorem dX11_takesItem_18 : decode cX11_takesItem 18 = .ok (.ifCond .eq 8, 3) := by decide +kernel
theorem dX11_takesItem_21 : decode cX11_takesItem 21 = .ok (.aload_n 0, 1) := by decide +kernel
theorem dX11_takesItem_22 : decode cX11_takesItem 22 = .ok (.invokevirtual 249, 3) := by decide +kernel
theorem dX11_takesItem_25 : decode cX11_takesItem 25 = .ok (.ireturn, 1) := by decide +kernel
theorem dX11_takesItem_26 : decode cX11_takesItem 26 = .ok (.aload_n 0, 1) := by decide +kernel
theorem dX11_takesItem_27 : decode cX11_takesItem 27 = .ok (.iconst 4, 1) := by decide +kernel
theorem dX11_takesItem_28 : decode cX11_takesItem 28 = .ok (.bipush 100, 2) := by decide +kernel
theorem dX11_takesItem_30 : decode cX11_takesItem 30 = .ok (.bipush 97, 2) := by decide +kernel
theorem dX11_takesItem_32 : decode cX11_takesItem 32 = .ok (.bipush 121, 2) := by decide +kernel
theorem dX11_takesItem_34 : decode cX11_takesItem 34 = .ok (.bipush 115, 2) := by decide +kernel
theorem dX11_takesItem_36 : decode cX11_takesItem 36 = .ok (.iconst 0, 1) := by decide +kernel
theorem dX11_takesItem_37 : decode cX11_takesItem 37 = .ok (.iconst 0, 1) := by decide +kernel
theorem dX11_takesItem_38 : decode cX11_takesItem 38 = .ok (.invokevirtual 245, 3) := by decide +kernel
theorem dX11_takesItem_41 : decode cX11_takesItem 41 = .ok (.ifCond .eq 14, 3) := by decide +kernel
theorem dX11_takesItem_44 : decode cX11_takesItem 44 = .ok (.aload_n 0, 1) := by decide +kernel
theorem dX11_takesItem_45 : decode cX11_takesItem 45 = .ok (.invokevirtual 253, 3) := by decide +kernel
theorem dX11_takesItem_48 : decode cX11_takesItem 48 = .ok (.ifCond .eq 7, 3) := by decide +kernel
theorem dX11_takesItem_51 : decode cX11_takesItem 51 = .ok (.iconst 1, 1) := by decide +kernel
theorem dX11_takesItem_52 : decode cX11_takesItem 52 = .ok (.goto 4, 3) := by decide +kernel
theorem dX11_takesItem_55 : decode cX11_takesItem 55 = .ok (.iconst 0, 1) := by decide +kernel
theorem dX11_takesItem_56 : decode cX11_takesItem 56 = .ok (.ireturn, 1) := by decide +kernel
theorem dX11_read_0 : decode cX11_read 0 = .ok (.aload_n 0, 1) := by decide +kernel
theorem dX11_read_1 : decode cX11_read 1 = .ok (.iconst 0, 1) := by decide +kernel
theorem dX11_read_2 : decode cX11_read 2 = .ok (.invokevirtual 235, 3) := by decide +kernel
theorem dX11_read_5 : decode cX11_read 5 = .ok (.aload_n 0, 1) := by decide +kernel
theorem dX11_read_6 : decode cX11_read 6 = .ok (.iconst 4, 1) := by decide +kernel
theorem dX11_read_7 : decode cX11_read 7 = .ok (.bipush 114, 2) := by decide +kernel
theorem dX11_read_9 : decode cX11_read 9 = .ok (.bipush 97, 2) := by decide +kernel
theorem dX11_read_11 : decode cX11_read 11 = .ok (.bipush 110, 2) := by decide +kernel
theorem dX11_read_13 : decode cX11_read 13 = .ok (.bipush 107, 2) := by decide +kernel
theorem dX11_read_15 : decode cX11_read 15 = .ok (.iconst 0, 1) := by decide +kernel
theorem dX11_read_16 : decode cX11_read 16 = .ok (.iconst 0, 1) := by decide +kernel
theorem dX11_read_17 : decode cX11_read 17 = .ok (.invokevirtual 245, 3) := by decide +kernel
theorem dX11_read_20 : decode cX11_read 20 = .ok (.ifCond .ne 11, 3) := by decide +kernel
theorem dX11_read_23 : decode cX11_read 23 = .ok (.bipush (-10), 2) := by decide +kernel
theorem dX11_read_25 : decode cX11_read 25 = .ok (.aload_n 0, 1) := by decide +kernel
theorem dX11_read_26 : decode cX11_read 26 = .ok (.getfield 217, 3) := by decide +kernel
theorem dX11_read_29 : decode cX11_read 29 = .ok (.isub, 1) := by decide +kernel
theorem dX11_read_30 : decode cX11_read 30 = .ok (.ireturn, 1) := by decide +kernel
theorem dX11_read_31 : decode cX11_read 31 = .ok (.aload_n 0, 1) := by decide +kernel
theorem dX11_read_32 : decode cX11_read 32 = .ok (.invokevirtual 238, 3) := by decide +kernel
theorem dX11_read_35 : decode cX11_read 35 = .ok (.aload_n 0, 1) := by decide +kernel
theorem dX11_read_36 : decode cX11_read 36 = .ok (.getfield 223, 3) := by decide +kernel
theorem dX11_read_39 : decode cX11_read 39 = .ok (.iconst 3, 1) := by decide +kernel
theorem dX11_read_40 : decode cX11_read 40 = .ok (.if_icmp .eq 11, 3) := by decide +kernel
theorem dX11_read_43 : decode cX11_read 43 = .ok (.bipush (-10), 2) := by decide +kernel
theorem dX11_read_45 : decode cX11_read 45 = .ok (.aload_n 0, 1) := by decide +kernel
theorem dX11_read_46 : decode cX11_read 46 = .ok (.getfield 217, 3) := by decide +kernel
theorem dX11_read_49 : decode cX11_read 49 = .ok (.isub, 1) := by decide +kernel
theorem dX11_read_50 : decode cX11_read 50 = .ok (.ireturn, 1) := by decide +kernel
theorem dX11_read_51 : decode cX11_read 51 = .ok (.aload_n 0, 1) := by decide +kernel
theorem dX11_read_52 : decode cX11_read 52 = .ok (.invokevirtual 238, 3) := by decide +kernel
theorem dX11_read_55 : decode cX11_read 55 = .ok (.aload_n 0, 1) := by decide +kernel
theorem dX11_read_56 : decode cX11_read 56 = .ok (.getfield 39, 3) := by decide +kernel
theorem dX11_read_59 : decode cX11_read 59 = .ok (.invokestatic 45, 3) := by decide +kernel
theorem dX11_read_62 : decode cX11_read 62 = .ok (.iconst 1, 1) := by decide +kernel
theorem dX11_read_63 : decode cX11_read 63 = .ok (.istore_n 1, 1) := by decide +kernel
theorem dX11_read_64 : decode cX11_read 64 = .ok (.aload_n 0, 1) := by decide +kernel
theorem dX11_read_65 : decode cX11_read 65 = .ok (.getfield 223, 3) := by decide +kernel
theorem dX11_read_68 : decode cX11_read 68 = .ok (.ifCond .eq 36, 3) := by decide +kernel
theorem dX11_read_71 : decode cX11_read 71 = .ok (.aload_n 0, 1) := by decide +kernel
theorem dX11_read_72 : decode cX11_read 72 = .ok (.invokevirtual 256, 3) := by decide +kernel
theorem dX11_read_75 : decode cX11_read 75 = .ok (.ifCond .eq 11, 3) := by decide +kernel
theorem dX11_read_78 : decode cX11_read 78 = .ok (.aload_n 0, 1) := by decide +kernel
theorem dX11_read_79 : decode cX11_read 79 = .ok (.getfield 223, 3) := by decide +kernel
theorem dX11_read_82 : decode cX11_read 82 = .ok (.iconst 3, 1) := by decide +kernel
theorem dX11_read_83 : decode cX11_read 83 = .ok (.if_icmp .eq 11, 3) := by decide +kernel
theorem dX11_read_86 : decode cX11_read 86 = .ok (.bipush (-10), 2) := by decide +kernel
theorem dX11_read_88 : decode cX11_read 88 = .ok (.aload_n 0, 1) := by decide +kernel
theorem dX11_read_89 : decode cX11_read 89 = .ok (.getfield 217, 3) := by decide +kernel
theorem dX11_read_92 : decode cX11_read 92 = .ok (.isub, 1) := by decide +kernel
theorem dX11_read_93 : decode cX11_read 93 = .ok (.ireturn, 1) := by decide +kernel
theorem dX11_read_94 : decode cX11_read 94 = .ok (.aload_n 0, 1) := by decide +kernel
theorem dX11_read_95 : decode cX11_read 95 = .ok (.invokevirtual 238, 3) := by decide +kernel
theorem dX11_read_98 : decode cX11_read 98 = .ok (.iinc 1 1, 3) := by decide +kernel
theorem dX11_read_101 : decode cX11_read 101 = .ok (.goto (-37), 3) := by decide +kernel
theorem dX11_read_104 : decode cX11_read 104 = .ok (.iconst 0, 1) := by decide +kernel
theorem dX11_read_105 : decode cX11_read 105 = .ok (.istore_n 2, 1) := by decide +kernel
theorem dX11_read_106 : decode cX11_read 106 = .ok (.iload_n 2, 1) := by decide +kernel
theorem dX11_read_107 : decode cX11_read 107 = .ok (.bipush 71, 2) := by decide +kernel
theorem dX11_read_109 : decode cX11_read 109 = .ok (.if_icmp .ge 21, 3) := by decide +kernel
theorem dX11_read_112 : decode cX11_read 112 = .ok (.aload_n 0, 1) := by decide +kernel
theorem dX11_read_113 : decode cX11_read 113 = .ok (.getfield 7, 3) := by decide +kernel
theorem dX11_read_116 : decode cX11_read 116 = .ok (.iload_n 2, 1) := by decide +kernel
theorem dX11_read_117 : decode cX11_read 117 = .ok (.aload_n 0, 1) := by decide +kernel
theorem dX11_read_118 : decode cX11_read 118 = .ok (.getfield 39, 3) := by decide +kernel
theorem dX11_read_121 : decode cX11_read 121 = .ok (.iload_n 2, 1) := by decide +kernel
theorem dX11_read_122 : decode cX11_read 122 = .ok (.iaload, 1) := by decide +kernel
theorem dX11_read_123 : decode cX11_read 123 = .ok (.iastore, 1) := by decide +kernel
theorem dX11_read_124 : decode cX11_read 124 = .ok (.iinc 2 1, 3) := by decide +kernel
theorem dX11_read_127 : decode cX11_read 127 = .ok (.goto (-21), 3) := by decide +kernel
theorem dX11_read_130 : decode cX11_read 130 = .ok (.iload_n 1, 1) := by decide +kernel
theorem dX11_read_131 : decode cX11_read 131 = .ok (.ireturn, 1) := by decide +kernel
theorem dX11_part_0 : decode cX11_part 0 = .ok (.iload_n 1, 1) := by decide +kernel
theorem dX11_part_1 : decode cX11_part 1 = .ok (.ifCond .ne 10, 3) := by decide +kernel
theorem dX11_part_4 : decode cX11_part 4 = .ok (.aload_n 0, 1) := by decide +kernel
theorem dX11_part_5 : decode cX11_part 5 = .ok (.getfield 181, 3) := by decide +kernel
theorem dX11_part_8 : decode cX11_part 8 = .ok (.goto 22, 3) := by decide +kernel
theorem dX11_part_11 : decode cX11_part 11 = .ok (.iload_n 1, 1) := by decide +kernel
theorem dX11_part_12 : decode cX11_part 12 = .ok (.iconst 1, 1) := by decide +kernel
theorem dX11_part_13 : decode cX11_part 13 = .ok (.if_icmp .ne 10, 3) := by decide +kernel
theorem dX11_part_16 : decode cX11_part 16 = .ok (.aload_n 0, 1) := by decide +kernel
theorem dX11_part_17 : decode cX11_part 17 = .ok (.getfield 23, 3) := by decide +kernel
theorem dX11_part_20 : decode cX11_part 20 = .ok (.goto 10, 3) := by decide +kernel
theorem dX11_part_23 : decode cX11_part 23 = .ok (.aload_n 0, 1) := by decide +kernel
theorem dX11_part_24 : decode cX11_part 24 = .ok (.bipush (-2), 2) := by decide +kernel
theorem dX11_part_26 : decode cX11_part 26 = .ok (.invokevirtual 63, 3) := by decide +kernel
theorem dX11_part_29 : decode cX11_part 29 = .ok (.i2l, 1) := by decide +kernel
theorem dX11_part_30 : decode cX11_part 30 = .ok (.lreturn, 1) := by decide +kernel
theorem dX11_image_0 : decode cX11_image 0 = .ok (.iload_n 1, 1) := by decide +kernel
theorem dX11_image_1 : decode cX11_image 1 = .ok (.i2l, 1) := by decide +kernel
theorem dX11_image_2 : decode cX11_image 2 = .ok (.lconst 0, 1) := by decide +kernel
theorem dX11_image_3 : decode cX11_image 3 = .ok (.lconst 1, 1) := by decide +kernel
theorem dX11_image_4 : decode cX11_image 4 = .ok (.invokestatic 53, 3) := by decide +kernel
theorem dX11_image_7 : decode cX11_image 7 = .ok (.ifCond .ne 10, 3) := by decide +kernel
theorem dX11_image_10 : decode cX11_image 10 = .ok (.aload_n 0, 1) := by decide +kernel
theorem dX11_image_11 : decode cX11_image 11 = .ok (.bipush (-2), 2) := by decide +kernel
theorem dX11_image_13 : decode cX11_image 13 = .ok (.invokevirtual 63, 3) := by decide +kernel
theorem dX11_image_16 : decode cX11_image 16 = .ok (.ireturn, 1) := by decide +kernel
theorem dX11_image_17 : decode cX11_image 17 = .ok (.iconst 0, 1) := by decide +kernel
theorem dX11_image_18 : decode cX11_image 18 = .ok (.istore_n 2, 1) := by decide +kernel
theorem dX11_image_19 : decode cX11_image 19 = .ok (.iload_n 2, 1) := by decide +kernel
theorem dX11_image_20 : decode cX11_image 20 = .ok (.sipush 175, 3) := by decide +kernel
theorem dX11_image_23 : decode cX11_image 23 = .ok (.if_icmp .ge 27, 3) := by decide +kernel
theorem dX11_image_26 : decode cX11_image 26 = .ok (.aload_n 0, 1) := by decide +kernel
theorem dX11_image_27 : decode cX11_image 27 = .ok (.getfield 13, 3) := by decide +kernel
theorem dX11_image_30 : decode cX11_image 30 = .ok (.sipush 175, 3) := by decide +kernel
