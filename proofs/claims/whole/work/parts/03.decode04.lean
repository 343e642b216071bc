theorem dX11_lampsFor_37 : decode cX11_lampsFor 37 = .ok (.iaload, 1) := by decide +kernel
theorem dX11_lampsFor_38 : decode cX11_lampsFor 38 = .ok (.ishl, 1) := by decide +kernel
theorem dX11_lampsFor_39 : decode cX11_lampsFor 39 = .ok (.if_icmp .ge 63, 3) := by decide +kernel
theorem dX11_lampsFor_42 : decode cX11_lampsFor 42 = .ok (.iload_n 3, 1) := by decide +kernel
theorem dX11_lampsFor_43 : decode cX11_lampsFor 43 = .ok (.ifCond .lt 18, 3) := by decide +kernel
theorem dX11_lampsFor_46 : decode cX11_lampsFor 46 = .ok (.iload 4, 2) := by decide +kernel
theorem dX11_lampsFor_48 : decode cX11_lampsFor 48 = .ok (.invokestatic 361, 3) := by decide +kernel
theorem dX11_lampsFor_51 : decode cX11_lampsFor 51 = .ok (.iload_n 3, 1) := by decide +kernel
theorem dX11_lampsFor_52 : decode cX11_lampsFor 52 = .ok (.invokestatic 361, 3) := by decide +kernel
theorem dX11_lampsFor_55 : decode cX11_lampsFor 55 = .ok (.if_icmp .lt 6, 3) := by decide +kernel
theorem dX11_lampsFor_58 : decode cX11_lampsFor 58 = .ok (.goto 38, 3) := by decide +kernel
theorem dX11_lampsFor_61 : decode cX11_lampsFor 61 = .ok (.aload_n 0, 1) := by decide +kernel
theorem dX11_lampsFor_62 : decode cX11_lampsFor 62 = .ok (.getfield 114, 3) := by decide +kernel
theorem dX11_lampsFor_65 : decode cX11_lampsFor 65 = .ok (.iconst 1, 1) := by decide +kernel
theorem dX11_lampsFor_66 : decode cX11_lampsFor 66 = .ok (.iload 4, 2) := by decide +kernel
theorem dX11_lampsFor_68 : decode cX11_lampsFor 68 = .ok (.iastore, 1) := by decide +kernel
theorem dX11_lampsFor_69 : decode cX11_lampsFor 69 = .ok (.aload_n 0, 1) := by decide +kernel
theorem dX11_lampsFor_70 : decode cX11_lampsFor 70 = .ok (.iconst 1, 1) := by decide +kernel
theorem dX11_lampsFor_71 : decode cX11_lampsFor 71 = .ok (.aload_n 0, 1) := by decide +kernel
theorem dX11_lampsFor_72 : decode cX11_lampsFor 72 = .ok (.getfield 93, 3) := by decide +kernel
theorem dX11_lampsFor_75 : decode cX11_lampsFor 75 = .ok (.iconst 0, 1) := by decide +kernel
theorem dX11_lampsFor_76 : decode cX11_lampsFor 76 = .ok (.iaload, 1) := by decide +kernel
theorem dX11_lampsFor_77 : decode cX11_lampsFor 77 = .ok (.bipush 24, 2) := by decide +kernel
theorem dX11_lampsFor_79 : decode cX11_lampsFor 79 = .ok (.irem, 1) := by decide +kernel
theorem dX11_lampsFor_80 : decode cX11_lampsFor 80 = .ok (.iconst 1, 1) := by decide +kernel
theorem dX11_lampsFor_81 : decode cX11_lampsFor 81 = .ok (.invokevirtual 455, 3) := by decide +kernel
theorem dX11_lampsFor_84 : decode cX11_lampsFor 84 = .ok (.aload_n 0, 1) := by decide +kernel
theorem dX11_lampsFor_85 : decode cX11_lampsFor 85 = .ok (.iload_n 1, 1) := by decide +kernel
theorem dX11_lampsFor_86 : decode cX11_lampsFor 86 = .ok (.iload_n 2, 1) := by decide +kernel
theorem dX11_lampsFor_87 : decode cX11_lampsFor 87 = .ok (.invokevirtual 445, 3) := by decide +kernel
theorem dX11_lampsFor_90 : decode cX11_lampsFor 90 = .ok (.ifCond .eq 6, 3) := by decide +kernel
theorem dX11_lampsFor_93 : decode cX11_lampsFor 93 = .ok (.iload 4, 2) := by decide +kernel
theorem dX11_lampsFor_95 : decode cX11_lampsFor 95 = .ok (.istore_n 3, 1) := by decide +kernel
theorem dX11_lampsFor_96 : decode cX11_lampsFor 96 = .ok (.iinc 4 1, 3) := by decide +kernel
theorem dX11_lampsFor_99 : decode cX11_lampsFor 99 = .ok (.goto (-71), 3) := by decide +kernel
theorem dX11_lampsFor_102 : decode cX11_lampsFor 102 = .ok (.iload_n 3, 1) := by decide +kernel
theorem dX11_lampsFor_103 : decode cX11_lampsFor 103 = .ok (.ireturn, 1) := by decide +kernel
theorem dX11_plan_0 : decode cX11_plan 0 = .ok (.aload_n 0, 1) := by decide +kernel
theorem dX11_plan_1 : decode cX11_plan 1 = .ok (.iconst 0, 1) := by decide +kernel
theorem dX11_plan_2 : decode cX11_plan 2 = .ok (.putfield 163, 3) := by decide +kernel
theorem dX11_plan_5 : decode cX11_plan 5 = .ok (.iload_n 1, 1) := by decide +kernel
theorem dX11_plan_6 : decode cX11_plan 6 = .ok (.ifCond .lt 8, 3) := by decide +kernel
theorem dX11_plan_9 : decode cX11_plan 9 = .ok (.iload_n 1, 1) := by decide +kernel
theorem dX11_plan_10 : decode cX11_plan 10 = .ok (.iconst 4, 1) := by decide +kernel
theorem dX11_plan_11 : decode cX11_plan 11 = .ok (.if_icmp .le 5, 3) := by decide +kernel
theorem dX11_plan_14 : decode cX11_plan 14 = .ok (.iconst (-1), 1) := by decide +kernel
theorem dX11_plan_15 : decode cX11_plan 15 = .ok (.ireturn, 1) := by decide +kernel
theorem dX11_plan_16 : decode cX11_plan 16 = .ok (.aload_n 0, 1) := by decide +kernel
theorem dX11_plan_17 : decode cX11_plan 17 = .ok (.iconst (-1), 1) := by decide +kernel
theorem dX11_plan_18 : decode cX11_plan 18 = .ok (.putfield 506, 3) := by decide +kernel
theorem dX11_plan_21 : decode cX11_plan 21 = .ok (.iconst 0, 1) := by decide +kernel
theorem dX11_plan_22 : decode cX11_plan 22 = .ok (.istore_n 2, 1) := by decide +kernel
theorem dX11_plan_23 : decode cX11_plan 23 = .ok (.iload_n 2, 1) := by decide +kernel
theorem dX11_plan_24 : decode cX11_plan 24 = .ok (.sipush 625, 3) := by decide +kernel
theorem dX11_plan_27 : decode cX11_plan 27 = .ok (.if_icmp .ge 154, 3) := by decide +kernel
theorem dX11_plan_30 : decode cX11_plan 30 = .ok (.aload_n 0, 1) := by decide +kernel
theorem dX11_plan_31 : decode cX11_plan 31 = .ok (.getfield 132, 3) := by decide +kernel
theorem dX11_plan_34 : decode cX11_plan 34 = .ok (.iconst 0, 1) := by decide +kernel
theorem dX11_plan_35 : decode cX11_plan 35 = .ok (.iload_n 2, 1) := by decide +kernel
theorem dX11_plan_36 : decode cX11_plan 36 = .ok (.bipush 125, 2) := by decide +kernel
theorem dX11_plan_38 : decode cX11_plan 38 = .ok (.idiv, 1) := by decide +kernel
theorem dX11_plan_39 : decode cX11_plan 39 = .ok (.iastore, 1) := by decide +kernel
theorem dX11_plan_40 : decode cX11_plan 40 = .ok (.aload_n 0, 1) := by decide +kernel
theorem dX11_plan_41 : decode cX11_plan 41 = .ok (.getfield 132, 3) := by decide +kernel
theorem dX11_plan_44 : decode cX11_plan 44 = .ok (.iconst 1, 1) := by decide +kernel
theorem dX11_plan_45 : decode cX11_plan 45 = .ok (.iload_n 2, 1) := by decide +kernel
theorem dX11_plan_46 : decode cX11_plan 46 = .ok (.bipush 25, 2) := by decide +kernel
theorem dX11_plan_48 : decode cX11_plan 48 = .ok (.idiv, 1) := by decide +kernel
theorem dX11_plan_49 : decode cX11_plan 49 = .ok (.iconst 5, 1) := by decide +kernel
theorem dX11_plan_50 : decode cX11_plan 50 = .ok (.irem, 1) := by decide +kernel
theorem dX11_plan_51 : decode cX11_plan 51 = .ok (.iastore, 1) := by decide +kernel
theorem dX11_plan_52 : decode cX11_plan 52 = .ok (.aload_n 0, 1) := by decide +kernel
theorem dX11_plan_53 : decode cX11_plan 53 = .ok (.getfield 132, 3) := by decide +kernel
theorem dX11_plan_56 : decode cX11_plan 56 = .ok (.iconst 2, 1) := by decide +kernel
theorem dX11_plan_57 : decode cX11_plan 57 = .ok (.iload_n 2, 1) := by decide +kernel
theorem dX11_plan_58 : decode cX11_plan 58 = .ok (.iconst 5, 1) := by decide +kernel
theorem dX11_plan_59 : decode cX11_plan 59 = .ok (.idiv, 1) := by decide +kernel
theorem dX11_plan_60 : decode cX11_plan 60 = .ok (.iconst 5, 1) := by decide +kernel
theorem dX11_plan_61 : decode cX11_plan 61 = .ok (.irem, 1) := by decide +kernel
theorem dX11_plan_62 : decode cX11_plan 62 = .ok (.iastore, 1) := by decide +kernel
theorem dX11_plan_63 : decode cX11_plan 63 = .ok (.aload_n 0, 1) := by decide +kernel
theorem dX11_plan_64 : decode cX11_plan 64 = .ok (.getfield 132, 3) := by decide +kernel
theorem dX11_plan_67 : decode cX11_plan 67 = .ok (.iconst 3, 1) := by decide +kernel
theorem dX11_plan_68 : decode cX11_plan 68 = .ok (.iload_n 2, 1) := by decide +kernel
theorem dX11_plan_69 : decode cX11_plan 69 = .ok (.iconst 5, 1) := by decide +kernel
theorem dX11_plan_70 : decode cX11_plan 70 = .ok (.irem, 1) := by decide +kernel
theorem dX11_plan_71 : decode cX11_plan 71 = .ok (.iastore, 1) := by decide +kernel
theorem dX11_plan_72 : decode cX11_plan 72 = .ok (.aload_n 0, 1) := by decide +kernel
theorem dX11_plan_73 : decode cX11_plan 73 = .ok (.iconst 1, 1) := by decide +kernel
theorem dX11_plan_74 : decode cX11_plan 74 = .ok (.iconst 0, 1) := by decide +kernel
theorem dX11_plan_75 : decode cX11_plan 75 = .ok (.invokevirtual 488, 3) := by decide +kernel
theorem dX11_plan_78 : decode cX11_plan 78 = .ok (.iconst 0, 1) := by decide +kernel
theorem dX11_plan_79 : decode cX11_plan 79 = .ok (.istore_n 3, 1) := by decide +kernel
theorem dX11_plan_80 : decode cX11_plan 80 = .ok (.iload_n 3, 1) := by decide +kernel
theorem dX11_plan_81 : decode cX11_plan 81 = .ok (.iconst 4, 1) := by decide +kernel
theorem dX11_plan_82 : decode cX11_plan 82 = .ok (.if_icmp .ge 36, 3) := by decide +kernel
theorem dX11_plan_85 : decode cX11_plan 85 = .ok (.aload_n 0, 1) := by decide +kernel
theorem dX11_plan_86 : decode cX11_plan 86 = .ok (.getfield 132, 3) := by decide +kernel
theorem dX11_plan_89 : decode cX11_plan 89 = .ok (.iload_n 3, 1) := by decide +kernel
theorem dX11_plan_90 : decode cX11_plan 90 = .ok (.iaload, 1) := by decide +kernel
theorem dX11_plan_91 : decode cX11_plan 91 = .ok (.iconst 4, 1) := by decide +kernel
theorem dX11_plan_92 : decode cX11_plan 92 = .ok (.if_icmp .ge 14, 3) := by decide +kernel
theorem dX11_plan_95 : decode cX11_plan 95 = .ok (.aload_n 0, 1) := by decide +kernel
theorem dX11_plan_96 : decode cX11_plan 96 = .ok (.iconst 1, 1) := by decide +kernel
theorem dX11_plan_97 : decode cX11_plan 97 = .ok (.aload_n 0, 1) := by decide +kernel
theorem dX11_plan_98 : decode cX11_plan 98 = .ok (.getfield 132, 3) := by decide +kernel
theorem dX11_plan_101 : decode cX11_plan 101 = .ok (.iload_n 3, 1) := by decide +kernel
theorem dX11_plan_102 : decode cX11_plan 102 = .ok (.iaload, 1) := by decide +kernel
theorem dX11_plan_103 : decode cX11_plan 103 = .ok (.invokevirtual 452, 3) := by decide +kernel
theorem dX11_plan_106 : decode cX11_plan 106 = .ok (.aload_n 0, 1) := by decide +kernel
theorem dX11_plan_107 : decode cX11_plan 107 = .ok (.iconst 1, 1) := by decide +kernel
theorem dX11_plan_108 : decode cX11_plan 108 = .ok (.iconst 0, 1) := by decide +kernel
theorem dX11_plan_109 : decode cX11_plan 109 = .ok (.invokevirtual 465, 3) := by decide +kernel
theorem dX11_plan_112 : decode cX11_plan 112 = .ok (.iinc 3 1, 3) := by decide +kernel
theorem dX11_plan_115 : decode cX11_plan 115 = .ok (.goto (-35), 3) := by decide +kernel
theorem dX11_plan_118 : decode cX11_plan 118 = .ok (.aload_n 0, 1) := by decide +kernel
theorem dX11_plan_119 : decode cX11_plan 119 = .ok (.iconst 1, 1) := by decide +kernel
theorem dX11_plan_120 : decode cX11_plan 120 = .ok (.invokevirtual 497, 3) := by decide +kernel
theorem dX11_plan_123 : decode cX11_plan 123 = .ok (.aload_n 0, 1) := by decide +kernel
theorem dX11_plan_124 : decode cX11_plan 124 = .ok (.iconst 0, 1) := by decide +kernel
theorem dX11_plan_125 : decode cX11_plan 125 = .ok (.invokevirtual 497, 3) := by decide +kernel
theorem dX11_plan_128 : decode cX11_plan 128 = .ok (.isub, 1) := by decide +kernel
theorem dX11_plan_129 : decode cX11_plan 129 = .ok (.istore_n 3, 1) := by decide +kernel
theorem dX11_plan_130 : decode cX11_plan 130 = .ok (.iload_n 3, 1) := by decide +kernel
theorem dX11_plan_131 : decode cX11_plan 131 = .ok (.aload_n 0, 1) := by decide +kernel
theorem dX11_plan_132 : decode cX11_plan 132 = .ok (.getfield 506, 3) := by decide +kernel
theorem dX11_plan_135 : decode cX11_plan 135 = .ok (.if_icmp .gt 6, 3) := by decide +kernel
theorem dX11_plan_138 : decode cX11_plan 138 = .ok (.goto 37, 3) := by decide +kernel
theorem dX11_plan_141 : decode cX11_plan 141 = .ok (.aload_n 0, 1) := by decide +kernel
theorem dX11_plan_142 : decode cX11_plan 142 = .ok (.iload_n 3, 1) := by decide +kernel
theorem dX11_plan_143 : decode cX11_plan 143 = .ok (.putfield 506, 3) := by decide +kernel
theorem dX11_plan_146 : decode cX11_plan 146 = .ok (.iconst 0, 1) := by decide +kernel
theorem dX11_plan_147 : decode cX11_plan 147 = .ok (.istore 4, 2) := by decide +kernel
theorem dX11_plan_149 : decode cX11_plan 149 = .ok (.iload 4, 2) := by decide +kernel
theorem dX11_plan_151 : decode cX11_plan 151 = .ok (.iconst 4, 1) := by decide +kernel
theorem dX11_plan_152 : decode cX11_plan 152 = .ok (.if_icmp .ge 23, 3) := by decide +kernel
theorem dX11_plan_155 : decode cX11_plan 155 = .ok (.aload_n 0, 1) := by decide +kernel
theorem dX11_plan_156 : decode cX11_plan 156 = .ok (.getfield 135, 3) := by decide +kernel
theorem dX11_plan_159 : decode cX11_plan 159 = .ok (.iload 4, 2) := by decide +kernel
theorem dX11_plan_161 : decode cX11_plan 161 = .ok (.aload_n 0, 1) := by decide +kernel
theorem dX11_plan_162 : decode cX11_plan 162 = .ok (.getfield 132, 3) := by decide +kernel
theorem dX11_plan_165 : decode cX11_plan 165 = .ok (.iload 4, 2) := by decide +kernel
theorem dX11_plan_167 : decode cX11_plan 167 = .ok (.iaload, 1) := by decide +kernel
theorem dX11_plan_168 : decode cX11_plan 168 = .ok (.iastore, 1) := by decide +kernel
theorem dX11_plan_169 : decode cX11_plan 169 = .ok (.iinc 4 1, 3) := by decide +kernel
theorem dX11_plan_172 : decode cX11_plan 172 = .ok (.goto (-23), 3) := by decide +kernel
theorem dX11_plan_175 : decode cX11_plan 175 = .ok (.iinc 2 1, 3) := by decide +kernel
theorem dX11_plan_178 : decode cX11_plan 178 = .ok (.goto (-155), 3) := by decide +kernel
theorem dX11_plan_181 : decode cX11_plan 181 = .ok (.iload_n 1, 1) := by decide +kernel
theorem dX11_plan_182 : decode cX11_plan 182 = .ok (.iconst 4, 1) := by decide +kernel
theorem dX11_plan_183 : decode cX11_plan 183 = .ok (.if_icmp .ne 10, 3) := by decide +kernel
theorem dX11_plan_186 : decode cX11_plan 186 = .ok (.aload_n 0, 1) := by decide +kernel
theorem dX11_plan_187 : decode cX11_plan 187 = .ok (.getfield 506, 3) := by decide +kernel
theorem dX11_plan_190 : decode cX11_plan 190 = .ok (.goto 9, 3) := by decide +kernel
theorem dX11_plan_193 : decode cX11_plan 193 = .ok (.aload_n 0, 1) := by decide +kernel
theorem dX11_plan_194 : decode cX11_plan 194 = .ok (.getfield 135, 3) := by decide +kernel
theorem dX11_plan_197 : decode cX11_plan 197 = .ok (.iload_n 1, 1) := by decide +kernel
theorem dX11_plan_198 : decode cX11_plan 198 = .ok (.iaload, 1) := by decide +kernel
theorem dX11_plan_199 : decode cX11_plan 199 = .ok (.ireturn, 1) := by decide +kernel
theorem dX11_hasOf_0 : decode cX11_hasOf 0 = .ok (.iload_n 3, 1) := by decide +kernel
theorem dX11_hasOf_1 : decode cX11_hasOf 1 = .ok (.ifCond .ne 12, 3) := by decide +kernel
theorem dX11_hasOf_4 : decode cX11_hasOf 4 = .ok (.aload_n 0, 1) := by decide +kernel
theorem dX11_hasOf_5 : decode cX11_hasOf 5 = .ok (.getfield 120, 3) := by decide +kernel
theorem dX11_hasOf_8 : decode cX11_hasOf 8 = .ok (.iload_n 1, 1) := by decide +kernel
theorem dX11_hasOf_9 : decode cX11_hasOf 9 = .ok (.iaload, 1) := by decide +kernel
theorem dX11_hasOf_10 : decode cX11_hasOf 10 = .ok (.goto 9, 3) := by decide +kernel
theorem dX11_hasOf_13 : decode cX11_hasOf 13 = .ok (.aload_n 0, 1) := by decide +kernel
theorem dX11_hasOf_14 : decode cX11_hasOf 14 = .ok (.getfield 123, 3) := by decide +kernel
theorem dX11_hasOf_17 : decode cX11_hasOf 17 = .ok (.iload_n 1, 1) := by decide +kernel
theorem dX11_hasOf_18 : decode cX11_hasOf 18 = .ok (.iaload, 1) := by decide +kernel
theorem dX11_hasOf_19 : decode cX11_hasOf 19 = .ok (.istore 5, 2) := by decide +kernel
theorem dX11_hasOf_21 : decode cX11_hasOf 21 = .ok (.iload_n 3, 1) := by decide +kernel
theorem dX11_hasOf_22 : decode cX11_hasOf 22 = .ok (.iload 4, 2) := by decide +kernel
theorem dX11_hasOf_24 : decode cX11_hasOf 24 = .ok (.if_icmp .eq 8, 3) := by decide +kernel
theorem dX11_hasOf_27 : decode cX11_hasOf 27 = .ok (.iload 5, 2) := by decide +kernel
theorem dX11_hasOf_29 : decode cX11_hasOf 29 = .ok (.goto 28, 3) := by decide +kernel
theorem dX11_hasOf_32 : decode cX11_hasOf 32 = .ok (.iload 5, 2) := by decide +kernel
theorem dX11_hasOf_34 : decode cX11_hasOf 34 = .ok (.iconst 2, 1) := by decide +kernel
theorem dX11_hasOf_35 : decode cX11_hasOf 35 = .ok (.idiv, 1) := by decide +kernel
theorem dX11_hasOf_36 : decode cX11_hasOf 36 = .ok (.aload_n 0, 1) := by decide +kernel
theorem dX11_hasOf_37 : decode cX11_hasOf 37 = .ok (.getfield 126, 3) := by decide +kernel
theorem dX11_hasOf_40 : decode cX11_hasOf 40 = .ok (.iload_n 1, 1) := by decide +kernel
theorem dX11_hasOf_41 : decode cX11_hasOf 41 = .ok (.iaload, 1) := by decide +kernel
theorem dX11_hasOf_42 : decode cX11_hasOf 42 = .ok (.aload_n 0, 1) := by decide +kernel
theorem dX11_hasOf_43 : decode cX11_hasOf 43 = .ok (.getfield 126, 3) := by decide +kernel
theorem dX11_hasOf_46 : decode cX11_hasOf 46 = .ok (.iload_n 2, 1) := by decide +kernel
theorem dX11_hasOf_47 : decode cX11_hasOf 47 = .ok (.iaload, 1) := by decide +kernel
theorem dX11_hasOf_48 : decode cX11_hasOf 48 = .ok (.if_icmp .le 7, 3) := by decide +kernel
theorem dX11_hasOf_51 : decode cX11_hasOf 51 = .ok (.iconst 1, 1) := by decide +kernel
theorem dX11_hasOf_52 : decode cX11_hasOf 52 = .ok (.goto 4, 3) := by decide +kernel
theorem dX11_hasOf_55 : decode cX11_hasOf 55 = .ok (.iconst 0, 1) := by decide +kernel
theorem dX11_hasOf_56 : decode cX11_hasOf 56 = .ok (.iadd, 1) := by decide +kernel
theorem dX11_hasOf_57 : decode cX11_hasOf 57 = .ok (.ireturn, 1) := by decide +kernel
theorem dX11_isRest_0 : decode cX11_isRest 0 = .ok (.iload_n 3, 1) := by decide +kernel
theorem dX11_isRest_1 : decode cX11_isRest 1 = .ok (.iconst 2, 1) := by decide +kernel
theorem dX11_isRest_2 : decode cX11_isRest 2 = .ok (.idiv, 1) := by decide +kernel
theorem dX11_isRest_3 : decode cX11_isRest 3 = .ok (.istore 4, 2) := by decide +kernel
theorem dX11_isRest_5 : decode cX11_isRest 5 = .ok (.iload_n 3, 1) := by decide +kernel
theorem dX11_isRest_6 : decode cX11_isRest 6 = .ok (.iconst 2, 1) := by decide +kernel
theorem dX11_isRest_7 : decode cX11_isRest 7 = .ok (.irem, 1) := by decide +kernel
theorem dX11_isRest_8 : decode cX11_isRest 8 = .ok (.istore 5, 2) := by decide +kernel
theorem dX11_isRest_10 : decode cX11_isRest 10 = .ok (.aload_n 0, 1) := by decide +kernel
theorem dX11_isRest_11 : decode cX11_isRest 11 = .ok (.iload_n 1, 1) := by decide +kernel
theorem dX11_isRest_12 : decode cX11_isRest 12 = .ok (.iload_n 2, 1) := by decide +kernel
theorem dX11_isRest_13 : decode cX11_isRest 13 = .ok (.iconst 1, 1) := by decide +kernel
theorem dX11_isRest_14 : decode cX11_isRest 14 = .ok (.iload 4, 2) := by decide +kernel
theorem dX11_isRest_16 : decode cX11_isRest 16 = .ok (.isub, 1) := by decide +kernel
theorem dX11_isRest_17 : decode cX11_isRest 17 = .ok (.iload 5, 2) := by decide +kernel
theorem dX11_isRest_19 : decode cX11_isRest 19 = .ok (.invokevirtual 509, 3) := by decide +kernel
theorem dX11_isRest_22 : decode cX11_isRest 22 = .ok (.aload_n 0, 1) := by decide +kernel
theorem dX11_isRest_23 : decode cX11_isRest 23 = .ok (.iload_n 1, 1) := by decide +kernel
theorem dX11_isRest_24 : decode cX11_isRest 24 = .ok (.iload_n 2, 1) := by decide +kernel
theorem dX11_isRest_25 : decode cX11_isRest 25 = .ok (.iload 4, 2) := by decide +kernel
theorem dX11_isRest_27 : decode cX11_isRest 27 = .ok (.iload 5, 2) := by decide +kernel
theorem dX11_isRest_29 : decode cX11_isRest 29 = .ok (.invokevirtual 509, 3) := by decide +kernel
theorem dX11_isRest_32 : decode cX11_isRest 32 = .ok (.if_icmp .gt 32, 3) := by decide +kernel
theorem dX11_isRest_35 : decode cX11_isRest 35 = .ok (.aload_n 0, 1) := by decide +kernel
theorem dX11_isRest_36 : decode cX11_isRest 36 = .ok (.iload_n 2, 1) := by decide +kernel
theorem dX11_isRest_37 : decode cX11_isRest 37 = .ok (.iload_n 1, 1) := by decide +kernel
theorem dX11_isRest_38 : decode cX11_isRest 38 = .ok (.iconst 1, 1) := by decide +kernel
theorem dX11_isRest_39 : decode cX11_isRest 39 = .ok (.iload 5, 2) := by decide +kernel
theorem dX11_isRest_41 : decode cX11_isRest 41 = .ok (.isub, 1) := by decide +kernel
theorem dX11_isRest_42 : decode cX11_isRest 42 = .ok (.iload 4, 2) := by decide +kernel
theorem dX11_isRest_44 : decode cX11_isRest 44 = .ok (.invokevirtual 509, 3) := by decide +kernel
theorem dX11_isRest_47 : decode cX11_isRest 47 = .ok (.aload_n 0, 1) := by decide +kernel
theorem dX11_isRest_48 : decode cX11_isRest 48 = .ok (.iload_n 2, 1) := by decide +kernel
theorem dX11_isRest_49 : decode cX11_isRest 49 = .ok (.iload_n 1, 1) := by decide +kernel
theorem dX11_isRest_50 : decode cX11_isRest 50 = .ok (.iload 5, 2) := by decide +kernel
theorem dX11_isRest_52 : decode cX11_isRest 52 = .ok (.iload 4, 2) := by decide +kernel
theorem dX11_isRest_54 : decode cX11_isRest 54 = .ok (.invokevirtual 509, 3) := by decide +kernel
theorem dX11_isRest_57 : decode cX11_isRest 57 = .ok (.if_icmp .gt 7, 3) := by decide +kernel
theorem dX11_isRest_60 : decode cX11_isRest 60 = .ok (.iconst 1, 1) := by decide +kernel
theorem dX11_isRest_61 : decode cX11_isRest 61 = .ok (.goto 4, 3) := by decide +kernel
theorem dX11_isRest_64 : decode cX11_isRest 64 = .ok (.iconst 0, 1) := by decide +kernel
theorem dX11_isRest_65 : decode cX11_isRest 65 = .ok (.ireturn, 1) := by decide +kernel
theorem dX11_restOf_0 : decode cX11_restOf 0 = .ok (.iconst 0, 1) := by decide +kernel
theorem dX11_restOf_1 : decode cX11_restOf 1 = .ok (.istore 4, 2) := by decide +kernel
theorem dX11_restOf_3 : decode cX11_restOf 3 = .ok (.iconst 0, 1) := by decide +kernel
theorem dX11_restOf_4 : decode cX11_restOf 4 = .ok (.istore 5, 2) := by decide +kernel
theorem dX11_restOf_6 : decode cX11_restOf 6 = .ok (.iload 5, 2) := by decide +kernel
theorem dX11_restOf_8 : decode cX11_restOf 8 = .ok (.iconst 4, 1) := by decide +kernel
theorem dX11_restOf_9 : decode cX11_restOf 9 = .ok (.if_icmp .ge 45, 3) := by decide +kernel
theorem dX11_restOf_12 : decode cX11_restOf 12 = .ok (.aload_n 0, 1) := by decide +kernel
theorem dX11_restOf_13 : decode cX11_restOf 13 = .ok (.iload_n 1, 1) := by decide +kernel
theorem dX11_restOf_14 : decode cX11_restOf 14 = .ok (.iload_n 2, 1) := by decide +kernel
theorem dX11_restOf_15 : decode cX11_restOf 15 = .ok (.iload 5, 2) := by decide +kernel
theorem dX11_restOf_17 : decode cX11_restOf 17 = .ok (.invokevirtual 513, 3) := by decide +kernel
theorem dX11_restOf_20 : decode cX11_restOf 20 = .ok (.ifCond .ne 6, 3) := by decide +kernel
theorem dX11_restOf_23 : decode cX11_restOf 23 = .ok (.goto 25, 3) := by decide +kernel
theorem dX11_restOf_26 : decode cX11_restOf 26 = .ok (.iload 4, 2) := by decide +kernel
theorem dX11_restOf_28 : decode cX11_restOf 28 = .ok (.iload_n 3, 1) := by decide +kernel
theorem dX11_restOf_29 : decode cX11_restOf 29 = .ok (.if_icmp .ne 16, 3) := by decide +kernel
theorem dX11_restOf_32 : decode cX11_restOf 32 = .ok (.bipush 10, 2) := by decide +kernel
theorem dX11_restOf_34 : decode cX11_restOf 34 = .ok (.iload 5, 2) := by decide +kernel
theorem dX11_restOf_36 : decode cX11_restOf 36 = .ok (.iconst 2, 1) := by decide +kernel
theorem dX11_restOf_37 : decode cX11_restOf 37 = .ok (.idiv, 1) := by decide +kernel
theorem dX11_restOf_38 : decode cX11_restOf 38 = .ok (.imul, 1) := by decide +kernel
theorem dX11_restOf_39 : decode cX11_restOf 39 = .ok (.iload 5, 2) := by decide +kernel
theorem dX11_restOf_41 : decode cX11_restOf 41 = .ok (.iconst 2, 1) := by decide +kernel
theorem dX11_restOf_42 : decode cX11_restOf 42 = .ok (.irem, 1) := by decide +kernel
theorem dX11_restOf_43 : decode cX11_restOf 43 = .ok (.iadd, 1) := by decide +kernel
theorem dX11_restOf_44 : decode cX11_restOf 44 = .ok (.ireturn, 1) := by decide +kernel
theorem dX11_restOf_45 : decode cX11_restOf 45 = .ok (.iinc 4 1, 3) := by decide +kernel
theorem dX11_restOf_48 : decode cX11_restOf 48 = .ok (.iinc 5 1, 3) := by decide +kernel
theorem dX11_restOf_51 : decode cX11_restOf 51 = .ok (.goto (-45), 3) := by decide +kernel
theorem dX11_restOf_54 : decode cX11_restOf 54 = .ok (.iload_n 3, 1) := by decide +kernel
theorem dX11_restOf_55 : decode cX11_restOf 55 = .ok (.iconst (-1), 1) := by decide +kernel
theorem dX11_restOf_56 : decode cX11_restOf 56 = .ok (.if_icmp .ne 8, 3) := by decide +kernel
theorem dX11_restOf_59 : decode cX11_restOf 59 = .ok (.iload 4, 2) := by decide +kernel
theorem dX11_restOf_61 : decode cX11_restOf 61 = .ok (.goto 5, 3) := by decide +kernel
theorem dX11_restOf_64 : decode cX11_restOf 64 = .ok (.bipush (-2), 2) := by decide +kernel
theorem dX11_restOf_66 : decode cX11_restOf 66 = .ok (.ireturn, 1) := by decide +kernel
theorem dX11_areTwo_0 : decode cX11_areTwo 0 = .ok (.aload_n 0, 1) := by decide +kernel
theorem dX11_areTwo_1 : decode cX11_areTwo 1 = .ok (.iload_n 1, 1) := by decide +kernel
theorem dX11_areTwo_2 : decode cX11_areTwo 2 = .ok (.invokevirtual 475, 3) := by decide +kernel
theorem dX11_areTwo_5 : decode cX11_areTwo 5 = .ok (.ifCond .eq 20, 3) := by decide +kernel
theorem dX11_areTwo_8 : decode cX11_areTwo 8 = .ok (.aload_n 0, 1) := by decide +kernel
theorem dX11_areTwo_9 : decode cX11_areTwo 9 = .ok (.iload_n 2, 1) := by decide +kernel
theorem dX11_areTwo_10 : decode cX11_areTwo 10 = .ok (.invokevirtual 475, 3) := by decide +kernel
theorem dX11_areTwo_13 : decode cX11_areTwo 13 = .ok (.ifCond .eq 12, 3) := by decide +kernel
theorem dX11_areTwo_16 : decode cX11_areTwo 16 = .ok (.iload_n 1, 1) := by decide +kernel
theorem dX11_areTwo_17 : decode cX11_areTwo 17 = .ok (.iload_n 2, 1) := by decide +kernel
theorem dX11_areTwo_18 : decode cX11_areTwo 18 = .ok (.if_icmp .eq 7, 3) := by decide +kernel
theorem dX11_areTwo_21 : decode cX11_areTwo 21 = .ok (.iconst 1, 1) := by decide +kernel
theorem dX11_areTwo_22 : decode cX11_areTwo 22 = .ok (.goto 4, 3) := by decide +kernel
theorem dX11_areTwo_25 : decode cX11_areTwo 25 = .ok (.iconst 0, 1) := by decide +kernel
theorem dX11_areTwo_26 : decode cX11_areTwo 26 = .ok (.ireturn, 1) := by decide +kernel
theorem dX11_rests_0 : decode cX11_rests 0 = .ok (.aload_n 0, 1) := by decide +kernel
theorem dX11_rests_1 : decode cX11_rests 1 = .ok (.iconst 0, 1) := by decide +kernel
theorem dX11_rests_2 : decode cX11_rests 2 = .ok (.putfield 163, 3) := by decide +kernel
theorem dX11_rests_5 : decode cX11_rests 5 = .ok (.aload_n 0, 1) := by decide +kernel
theorem dX11_rests_6 : decode cX11_rests 6 = .ok (.iload_n 1, 1) := by decide +kernel
theorem dX11_rests_7 : decode cX11_rests 7 = .ok (.iload_n 2, 1) := by decide +kernel
theorem dX11_rests_8 : decode cX11_rests 8 = .ok (.invokevirtual 516, 3) := by decide +kernel
theorem dX11_rests_11 : decode cX11_rests 11 = .ok (.ifCond .eq 13, 3) := by decide +kernel
theorem dX11_rests_14 : decode cX11_rests 14 = .ok (.aload_n 0, 1) := by decide +kernel
theorem dX11_rests_15 : decode cX11_rests 15 = .ok (.iload_n 1, 1) := by decide +kernel
theorem dX11_rests_16 : decode cX11_rests 16 = .ok (.iload_n 2, 1) := by decide +kernel
theorem dX11_rests_17 : decode cX11_rests 17 = .ok (.iconst (-1), 1) := by decide +kernel
theorem dX11_rests_18 : decode cX11_rests 18 = .ok (.invokevirtual 519, 3) := by decide +kernel
theorem dX11_rests_21 : decode cX11_rests 21 = .ok (.goto 4, 3) := by decide +kernel
theorem dX11_rests_24 : decode cX11_rests 24 = .ok (.iconst (-1), 1) := by decide +kernel
theorem dX11_rests_25 : decode cX11_rests 25 = .ok (.ireturn, 1) := by decide +kernel
theorem dX11_rest_0 : decode cX11_rest 0 = .ok (.aload_n 0, 1) := by decide +kernel
theorem dX11_rest_1 : decode cX11_rest 1 = .ok (.iconst 0, 1) := by decide +kernel
theorem dX11_rest_2 : decode cX11_rest 2 = .ok (.putfield 163, 3) := by decide +kernel
theorem dX11_rest_5 : decode cX11_rest 5 = .ok (.aload_n 0, 1) := by decide +kernel
theorem dX11_rest_6 : decode cX11_rest 6 = .ok (.iload_n 1, 1) := by decide +kernel
theorem dX11_rest_7 : decode cX11_rest 7 = .ok (.iload_n 2, 1) := by decide +kernel
theorem dX11_rest_8 : decode cX11_rest 8 = .ok (.invokevirtual 516, 3) := by decide +kernel
theorem dX11_rest_11 : decode cX11_rest 11 = .ok (.ifCond .eq 17, 3) := by decide +kernel
theorem dX11_rest_14 : decode cX11_rest 14 = .ok (.iload_n 3, 1) := by decide +kernel
theorem dX11_rest_15 : decode cX11_rest 15 = .ok (.ifCond .lt 13, 3) := by decide +kernel
theorem dX11_rest_18 : decode cX11_rest 18 = .ok (.aload_n 0, 1) := by decide +kernel
theorem dX11_rest_19 : decode cX11_rest 19 = .ok (.iload_n 1, 1) := by decide +kernel
theorem dX11_rest_20 : decode cX11_rest 20 = .ok (.iload_n 2, 1) := by decide +kernel
theorem dX11_rest_21 : decode cX11_rest 21 = .ok (.iload_n 3, 1) := by decide +kernel
theorem dX11_rest_22 : decode cX11_rest 22 = .ok (.invokevirtual 519, 3) := by decide +kernel
theorem dX11_rest_25 : decode cX11_rest 25 = .ok (.goto 4, 3) := by decide +kernel
theorem dX11_rest_28 : decode cX11_rest 28 = .ok (.iconst (-1), 1) := by decide +kernel
theorem dX11_rest_29 : decode cX11_rest 29 = .ok (.ireturn, 1) := by decide +kernel
theorem dX11_common_0 : decode cX11_common 0 = .ok (.lload_n 0, 1) := by decide +kernel
theorem dX11_common_1 : decode cX11_common 1 = .ok (.lstore 4, 2) := by decide +kernel
theorem dX11_common_3 : decode cX11_common 3 = .ok (.lload_n 2, 1) := by decide +kernel
theorem dX11_common_4 : decode cX11_common 4 = .ok (.lstore 6, 2) := by decide +kernel
theorem dX11_common_6 : decode cX11_common 6 = .ok (.lload 6, 2) := by decide +kernel
theorem dX11_common_8 : decode cX11_common 8 = .ok (.lconst 0, 1) := by decide +kernel
theorem dX11_common_9 : decode cX11_common 9 = .ok (.lcmp, 1) := by decide +kernel
theorem dX11_common_10 : decode cX11_common 10 = .ok (.ifCond .eq 21, 3) := by decide +kernel
theorem dX11_common_13 : decode cX11_common 13 = .ok (.lload 4, 2) := by decide +kernel
theorem dX11_common_15 : decode cX11_common 15 = .ok (.lload 6, 2) := by decide +kernel
theorem dX11_common_17 : decode cX11_common 17 = .ok (.lrem, 1) := by decide +kernel
theorem dX11_common_18 : decode cX11_common 18 = .ok (.lstore 8, 2) := by decide +kernel
theorem dX11_common_20 : decode cX11_common 20 = .ok (.lload 6, 2) := by decide +kernel
theorem dX11_common_22 : decode cX11_common 22 = .ok (.lstore 4, 2) := by decide +kernel
theorem dX11_common_24 : decode cX11_common 24 = .ok (.lload 8, 2) := by decide +kernel
theorem dX11_common_26 : decode cX11_common 26 = .ok (.lstore 6, 2) := by decide +kernel
theorem dX11_common_28 : decode cX11_common 28 = .ok (.goto (-22), 3) := by decide +kernel
theorem dX11_common_31 : decode cX11_common 31 = .ok (.lload 4, 2) := by decide +kernel
theorem dX11_common_33 : decode cX11_common 33 = .ok (.lreturn, 1) := by decide +kernel
theorem dX11_clear_0 : decode cX11_clear 0 = .ok (.aload_n 0, 1) := by decide +kernel
theorem dX11_clear_1 : decode cX11_clear 1 = .ok (.iconst 0, 1) := by decide +kernel
theorem dX11_clear_2 : decode cX11_clear 2 = .ok (.putfield 163, 3) := by decide +kernel
theorem dX11_clear_5 : decode cX11_clear 5 = .ok (.iload_n 1, 1) := by decide +kernel
theorem dX11_clear_6 : decode cX11_clear 6 = .ok (.ifCond .lt 18, 3) := by decide +kernel
theorem dX11_clear_9 : decode cX11_clear 9 = .ok (.iload_n 1, 1) := by decide +kernel
theorem dX11_clear_10 : decode cX11_clear 10 = .ok (.bipush 6, 2) := by decide +kernel
theorem dX11_clear_12 : decode cX11_clear 12 = .ok (.if_icmp .gt 12, 3) := by decide +kernel
theorem dX11_clear_15 : decode cX11_clear 15 = .ok (.iload_n 2, 1) := by decide +kernel
theorem dX11_clear_16 : decode cX11_clear 16 = .ok (.ifCond .lt 8, 3) := by decide +kernel
theorem dX11_clear_19 : decode cX11_clear 19 = .ok (.iload_n 2, 1) := by decide +kernel
theorem dX11_clear_20 : decode cX11_clear 20 = .ok (.iconst 1, 1) := by decide +kernel
theorem dX11_clear_21 : decode cX11_clear 21 = .ok (.if_icmp .le 7, 3) := by decide +kernel
theorem dX11_clear_24 : decode cX11_clear 24 = .ok (.ldc2_w 522, 3) := by decide +kernel
theorem dX11_clear_27 : decode cX11_clear 27 = .ok (.lreturn, 1) := by decide +kernel
theorem dX11_clear_28 : decode cX11_clear 28 = .ok (.lconst 1, 1) := by decide +kernel
theorem dX11_clear_29 : decode cX11_clear 29 = .ok (.lstore_n 3, 1) := by decide +kernel
theorem dX11_clear_30 : decode cX11_clear 30 = .ok (.lconst 1, 1) := by decide +kernel
theorem dX11_clear_31 : decode cX11_clear 31 = .ok (.lstore 5, 2) := by decide +kernel
theorem dX11_clear_33 : decode cX11_clear 33 = .ok (.iconst 0, 1) := by decide +kernel
theorem dX11_clear_34 : decode cX11_clear 34 = .ok (.istore 7, 2) := by decide +kernel
theorem dX11_clear_36 : decode cX11_clear 36 = .ok (.iload 7, 2) := by decide +kernel
theorem dX11_clear_38 : decode cX11_clear 38 = .ok (.iload_n 1, 1) := by decide +kernel
theorem dX11_clear_39 : decode cX11_clear 39 = .ok (.if_icmp .ge 32, 3) := by decide +kernel
theorem dX11_clear_42 : decode cX11_clear 42 = .ok (.lload_n 3, 1) := by decide +kernel
theorem dX11_clear_43 : decode cX11_clear 43 = .ok (.ldc2_w 524, 3) := by decide +kernel
theorem dX11_clear_46 : decode cX11_clear 46 = .ok (.aload_n 0, 1) := by decide +kernel
theorem dX11_clear_47 : decode cX11_clear 47 = .ok (.getfield 13, 3) := by decide +kernel
theorem dX11_clear_50 : decode cX11_clear 50 = .ok (.bipush 10, 2) := by decide +kernel
theorem dX11_clear_52 : decode cX11_clear 52 = .ok (.iaload, 1) := by decide +kernel
theorem dX11_clear_53 : decode cX11_clear 53 = .ok (.i2l, 1) := by decide +kernel
theorem dX11_clear_54 : decode cX11_clear 54 = .ok (.lsub, 1) := by decide +kernel
theorem dX11_clear_55 : decode cX11_clear 55 = .ok (.lmul, 1) := by decide +kernel
theorem dX11_clear_56 : decode cX11_clear 56 = .ok (.lstore_n 3, 1) := by decide +kernel
theorem dX11_clear_57 : decode cX11_clear 57 = .ok (.lload 5, 2) := by decide +kernel
theorem dX11_clear_59 : decode cX11_clear 59 = .ok (.ldc2_w 524, 3) := by decide +kernel
theorem dX11_clear_62 : decode cX11_clear 62 = .ok (.lmul, 1) := by decide +kernel
theorem dX11_clear_63 : decode cX11_clear 63 = .ok (.lstore 5, 2) := by decide +kernel
theorem dX11_clear_65 : decode cX11_clear 65 = .ok (.iinc 7 1, 3) := by decide +kernel
theorem dX11_clear_68 : decode cX11_clear 68 = .ok (.goto (-32), 3) := by decide +kernel
theorem dX11_clear_71 : decode cX11_clear 71 = .ok (.lload_n 3, 1) := by decide +kernel
theorem dX11_clear_72 : decode cX11_clear 72 = .ok (.lload 5, 2) := by decide +kernel
theorem dX11_clear_74 : decode cX11_clear 74 = .ok (.invokestatic 526, 3) := by decide +kernel
theorem dX11_clear_77 : decode cX11_clear 77 = .ok (.lstore 7, 2) := by decide +kernel
theorem dX11_clear_79 : decode cX11_clear 79 = .ok (.iload_n 2, 1) := by decide +kernel
theorem dX11_clear_80 : decode cX11_clear 80 = .ok (.ifCond .ne 10, 3) := by decide +kernel
theorem dX11_clear_83 : decode cX11_clear 83 = .ok (.lload_n 3, 1) := by decide +kernel
theorem dX11_clear_84 : decode cX11_clear 84 = .ok (.lload 7, 2) := by decide +kernel
theorem dX11_clear_86 : decode cX11_clear 86 = .ok (.ldiv, 1) := by decide +kernel
theorem dX11_clear_87 : decode cX11_clear 87 = .ok (.goto 8, 3) := by decide +kernel
theorem dX11_clear_90 : decode cX11_clear 90 = .ok (.lload 5, 2) := by decide +kernel
theorem dX11_clear_92 : decode cX11_clear 92 = .ok (.lload 7, 2) := by decide +kernel
theorem dX11_clear_94 : decode cX11_clear 94 = .ok (.ldiv, 1) := by decide +kernel
theorem dX11_clear_95 : decode cX11_clear 95 = .ok (.lreturn, 1) := by decide +kernel
theorem dX11_see_0 : decode cX11_see 0 = .ok (.aload_n 0, 1) := by decide +kernel
theorem dX11_see_1 : decode cX11_see 1 = .ok (.iconst 0, 1) := by decide +kernel
theorem dX11_see_2 : decode cX11_see 2 = .ok (.putfield 163, 3) := by decide +kernel
theorem dX11_see_5 : decode cX11_see 5 = .ok (.iload_n 1, 1) := by decide +kernel
theorem dX11_see_6 : decode cX11_see 6 = .ok (.iconst 1, 1) := by decide +kernel
theorem dX11_see_7 : decode cX11_see 7 = .ok (.if_icmp .lt 37, 3) := by decide +kernel
theorem dX11_see_10 : decode cX11_see 10 = .ok (.iload_n 1, 1) := by decide +kernel
theorem dX11_see_11 : decode cX11_see 11 = .ok (.bipush 40, 2) := by decide +kernel
theorem dX11_see_13 : decode cX11_see 13 = .ok (.if_icmp .gt 31, 3) := by decide +kernel
theorem dX11_see_16 : decode cX11_see 16 = .ok (.iload_n 2, 1) := by decide +kernel
theorem dX11_see_17 : decode cX11_see 17 = .ok (.ifCond .lt 27, 3) := by decide +kernel
theorem dX11_see_20 : decode cX11_see 20 = .ok (.iload_n 2, 1) := by decide +kernel
theorem dX11_see_21 : decode cX11_see 21 = .ok (.iconst 1, 1) := by decide +kernel
theorem dX11_see_22 : decode cX11_see 22 = .ok (.if_icmp .gt 22, 3) := by decide +kernel
theorem dX11_see_25 : decode cX11_see 25 = .ok (.aload_n 0, 1) := by decide +kernel
theorem dX11_see_26 : decode cX11_see 26 = .ok (.iload_n 3, 1) := by decide +kernel
theorem dX11_see_27 : decode cX11_see 27 = .ok (.iload 4, 2) := by decide +kernel
theorem dX11_see_29 : decode cX11_see 29 = .ok (.invokevirtual 399, 3) := by decide +kernel
theorem dX11_see_32 : decode cX11_see 32 = .ok (.ifCond .eq 12, 3) := by decide +kernel
theorem dX11_see_35 : decode cX11_see 35 = .ok (.aload_n 0, 1) := by decide +kernel
theorem dX11_see_36 : decode cX11_see 36 = .ok (.getfield 328, 3) := by decide +kernel
theorem dX11_see_39 : decode cX11_see 39 = .ok (.bipush 24, 2) := by decide +kernel
theorem dX11_see_41 : decode cX11_see 41 = .ok (.if_icmp .ne 5, 3) := by decide +kernel
theorem dX11_see_44 : decode cX11_see 44 = .ok (.iconst (-1), 1) := by decide +kernel
theorem dX11_see_45 : decode cX11_see 45 = .ok (.ireturn, 1) := by decide +kernel
theorem dX11_see_46 : decode cX11_see 46 = .ok (.aload_n 0, 1) := by decide +kernel
theorem dX11_see_47 : decode cX11_see 47 = .ok (.getfield 141, 3) := by decide +kernel
theorem dX11_see_50 : decode cX11_see 50 = .ok (.aload_n 0, 1) := by decide +kernel
theorem dX11_see_51 : decode cX11_see 51 = .ok (.getfield 328, 3) := by decide +kernel
theorem dX11_see_54 : decode cX11_see 54 = .ok (.iload_n 1, 1) := by decide +kernel
theorem dX11_see_55 : decode cX11_see 55 = .ok (.iastore, 1) := by decide +kernel
theorem dX11_see_56 : decode cX11_see 56 = .ok (.aload_n 0, 1) := by decide +kernel
theorem dX11_see_57 : decode cX11_see 57 = .ok (.getfield 144, 3) := by decide +kernel
theorem dX11_see_60 : decode cX11_see 60 = .ok (.aload_n 0, 1) := by decide +kernel
theorem dX11_see_61 : decode cX11_see 61 = .ok (.getfield 328, 3) := by decide +kernel
theorem dX11_see_64 : decode cX11_see 64 = .ok (.iload_n 2, 1) := by decide +kernel
theorem dX11_see_65 : decode cX11_see 65 = .ok (.iastore, 1) := by decide +kernel
theorem dX11_see_66 : decode cX11_see 66 = .ok (.aload_n 0, 1) := by decide +kernel
theorem dX11_see_67 : decode cX11_see 67 = .ok (.getfield 147, 3) := by decide +kernel
theorem dX11_see_70 : decode cX11_see 70 = .ok (.aload_n 0, 1) := by decide +kernel
theorem dX11_see_71 : decode cX11_see 71 = .ok (.getfield 328, 3) := by decide +kernel
theorem dX11_see_74 : decode cX11_see 74 = .ok (.bipush 8, 2) := by decide +kernel
theorem dX11_see_76 : decode cX11_see 76 = .ok (.iload_n 3, 1) := by decide +kernel
theorem dX11_see_77 : decode cX11_see 77 = .ok (.imul, 1) := by decide +kernel
theorem dX11_see_78 : decode cX11_see 78 = .ok (.iload 4, 2) := by decide +kernel
theorem dX11_see_80 : decode cX11_see 80 = .ok (.iadd, 1) := by decide +kernel
theorem dX11_see_81 : decode cX11_see 81 = .ok (.iastore, 1) := by decide +kernel
theorem dX11_see_82 : decode cX11_see 82 = .ok (.aload_n 0, 1) := by decide +kernel
theorem dX11_see_83 : decode cX11_see 83 = .ok (.getfield 150, 3) := by decide +kernel
theorem dX11_see_86 : decode cX11_see 86 = .ok (.aload_n 0, 1) := by decide +kernel
theorem dX11_see_87 : decode cX11_see 87 = .ok (.getfield 328, 3) := by decide +kernel
theorem dX11_see_90 : decode cX11_see 90 = .ok (.iload 5, 2) := by decide +kernel
theorem dX11_see_92 : decode cX11_see 92 = .ok (.bastore, 1) := by decide +kernel
theorem dX11_see_93 : decode cX11_see 93 = .ok (.aload_n 0, 1) := by decide +kernel
theorem dX11_see_94 : decode cX11_see 94 = .ok (.getfield 154, 3) := by decide +kernel
theorem dX11_see_97 : decode cX11_see 97 = .ok (.aload_n 0, 1) := by decide +kernel
theorem dX11_see_98 : decode cX11_see 98 = .ok (.getfield 328, 3) := by decide +kernel
theorem dX11_see_101 : decode cX11_see 101 = .ok (.iconst (-1), 1) := by decide +kernel
theorem dX11_see_102 : decode cX11_see 102 = .ok (.iastore, 1) := by decide +kernel
theorem dX11_see_103 : decode cX11_see 103 = .ok (.aload_n 0, 1) := by decide +kernel
theorem dX11_see_104 : decode cX11_see 104 = .ok (.dup, 1) := by decide +kernel
theorem dX11_see_105 : decode cX11_see 105 = .ok (.getfield 328, 3) := by decide +kernel
theorem dX11_see_108 : decode cX11_see 108 = .ok (.iconst 1, 1) := by decide +kernel
theorem dX11_see_109 : decode cX11_see 109 = .ok (.iadd, 1) := by decide +kernel
theorem dX11_see_110 : decode cX11_see 110 = .ok (.putfield 328, 3) := by decide +kernel
theorem dX11_see_113 : decode cX11_see 113 = .ok (.aload_n 0, 1) := by decide +kernel
theorem dX11_see_114 : decode cX11_see 114 = .ok (.getfield 328, 3) := by decide +kernel
theorem dX11_see_117 : decode cX11_see 117 = .ok (.iconst 1, 1) := by decide +kernel
theorem dX11_see_118 : decode cX11_see 118 = .ok (.isub, 1) := by decide +kernel
theorem dX11_see_119 : decode cX11_see 119 = .ok (.ireturn, 1) := by decide +kernel
theorem dX11_out_0 : decode cX11_out 0 = .ok (.aload_n 0, 1) := by decide +kernel
theorem dX11_out_1 : decode cX11_out 1 = .ok (.iconst 0, 1) := by decide +kernel
theorem dX11_out_2 : decode cX11_out 2 = .ok (.putfield 163, 3) := by decide +kernel
theorem dX11_out_5 : decode cX11_out 5 = .ok (.iload_n 1, 1) := by decide +kernel
theorem dX11_out_6 : decode cX11_out 6 = .ok (.ifCond .lt 20, 3) := by decide +kernel
theorem dX11_out_9 : decode cX11_out 9 = .ok (.iload_n 1, 1) := by decide +kernel
theorem dX11_out_10 : decode cX11_out 10 = .ok (.aload_n 0, 1) := by decide +kernel
theorem dX11_out_11 : decode cX11_out 11 = .ok (.getfield 328, 3) := by decide +kernel
theorem dX11_out_14 : decode cX11_out 14 = .ok (.if_icmp .ge 12, 3) := by decide +kernel
theorem dX11_out_17 : decode cX11_out 17 = .ok (.aload_n 0, 1) := by decide +kernel
theorem dX11_out_18 : decode cX11_out 18 = .ok (.getfield 328, 3) := by decide +kernel
theorem dX11_out_21 : decode cX11_out 21 = .ok (.bipush 24, 2) := by decide +kernel
theorem dX11_out_23 : decode cX11_out 23 = .ok (.if_icmp .ne 5, 3) := by decide +kernel
theorem dX11_out_26 : decode cX11_out 26 = .ok (.iconst (-1), 1) := by decide +kernel
theorem dX11_out_27 : decode cX11_out 27 = .ok (.ireturn, 1) := by decide +kernel
theorem dX11_out_28 : decode cX11_out 28 = .ok (.aload_n 0, 1) := by decide +kernel
theorem dX11_out_29 : decode cX11_out 29 = .ok (.getfield 154, 3) := by decide +kernel
theorem dX11_out_32 : decode cX11_out 32 = .ok (.aload_n 0, 1) := by decide +kernel
theorem dX11_out_33 : decode cX11_out 33 = .ok (.getfield 328, 3) := by decide +kernel
theorem dX11_out_36 : decode cX11_out 36 = .ok (.iload_n 1, 1) := by decide +kernel
theorem dX11_out_37 : decode cX11_out 37 = .ok (.iastore, 1) := by decide +kernel
theorem dX11_out_38 : decode cX11_out 38 = .ok (.aload_n 0, 1) := by decide +kernel
theorem dX11_out_39 : decode cX11_out 39 = .ok (.dup, 1) := by decide +kernel
theorem dX11_out_40 : decode cX11_out 40 = .ok (.getfield 328, 3) := by decide +kernel
theorem dX11_out_43 : decode cX11_out 43 = .ok (.iconst 1, 1) := by decide +kernel
theorem dX11_out_44 : decode cX11_out 44 = .ok (.iadd, 1) := by decide +kernel
theorem dX11_out_45 : decode cX11_out 45 = .ok (.putfield 328, 3) := by decide +kernel
theorem dX11_out_48 : decode cX11_out 48 = .ok (.aload_n 0, 1) := by decide +kernel
theorem dX11_out_49 : decode cX11_out 49 = .ok (.getfield 328, 3) := by decide +kernel
theorem dX11_out_52 : decode cX11_out 52 = .ok (.iconst 1, 1) := by decide +kernel
theorem dX11_out_53 : decode cX11_out 53 = .ok (.isub, 1) := by decide +kernel
theorem dX11_out_54 : decode cX11_out 54 = .ok (.ireturn, 1) := by decide +kernel
theorem dX11_known_0 : decode cX11_known 0 = .ok (.aload_n 0, 1) := by decide +kernel
theorem dX11_known_1 : decode cX11_known 1 = .ok (.iconst 0, 1) := by decide +kernel
theorem dX11_known_2 : decode cX11_known 2 = .ok (.putfield 163, 3) := by decide +kernel
theorem dX11_known_5 : decode cX11_known 5 = .ok (.iload_n 1, 1) := by decide +kernel
theorem dX11_known_6 : decode cX11_known 6 = .ok (.iconst (-1), 1) := by decide +kernel
theorem dX11_known_7 : decode cX11_known 7 = .ok (.if_icmp .lt 11, 3) := by decide +kernel
theorem dX11_known_10 : decode cX11_known 10 = .ok (.iload_n 1, 1) := by decide +kernel
theorem dX11_known_11 : decode cX11_known 11 = .ok (.aload_n 0, 1) := by decide +kernel
theorem dX11_known_12 : decode cX11_known 12 = .ok (.getfield 328, 3) := by decide +kernel
theorem dX11_known_15 : decode cX11_known 15 = .ok (.if_icmp .le 5, 3) := by decide +kernel
theorem dX11_known_18 : decode cX11_known 18 = .ok (.iconst 0, 1) := by decide +kernel
theorem dX11_known_19 : decode cX11_known 19 = .ok (.ireturn, 1) := by decide +kernel
theorem dX11_known_20 : decode cX11_known 20 = .ok (.aload_n 0, 1) := by decide +kernel
theorem dX11_known_21 : decode cX11_known 21 = .ok (.iload_n 1, 1) := by decide +kernel
theorem dX11_known_22 : decode cX11_known 22 = .ok (.putfield 138, 3) := by decide +kernel
theorem dX11_known_25 : decode cX11_known 25 = .ok (.iconst 1, 1) := by decide +kernel
theorem dX11_known_26 : decode cX11_known 26 = .ok (.ireturn, 1) := by decide +kernel
theorem dX11_knownMany_0 : decode cX11_knownMany 0 = .ok (.aload_n 0, 1) := by decide +kernel
theorem dX11_knownMany_1 : decode cX11_knownMany 1 = .ok (.getfield 138, 3) := by decide +kernel
theorem dX11_knownMany_4 : decode cX11_knownMany 4 = .ok (.iconst (-1), 1) := by decide +kernel
theorem dX11_knownMany_5 : decode cX11_knownMany 5 = .ok (.if_icmp .ne 10, 3) := by decide +kernel
theorem dX11_knownMany_8 : decode cX11_knownMany 8 = .ok (.aload_n 0, 1) := by decide +kernel
theorem dX11_knownMany_9 : decode cX11_knownMany 9 = .ok (.getfield 328, 3) := by decide +kernel
theorem dX11_knownMany_12 : decode cX11_knownMany 12 = .ok (.goto 7, 3) := by decide +kernel
theorem dX11_knownMany_15 : decode cX11_knownMany 15 = .ok (.aload_n 0, 1) := by decide +kernel
theorem dX11_knownMany_16 : decode cX11_knownMany 16 = .ok (.getfield 138, 3) := by decide +kernel
theorem dX11_knownMany_19 : decode cX11_knownMany 19 = .ok (.ireturn, 1) := by decide +kernel
theorem dX11_isSo_0 : decode cX11_isSo 0 = .ok (.iconst 0, 1) := by decide +kernel
theorem dX11_isSo_1 : decode cX11_isSo 1 = .ok (.istore_n 2, 1) := by decide +kernel
theorem dX11_isSo_2 : decode cX11_isSo 2 = .ok (.iload_n 2, 1) := by decide +kernel
theorem dX11_isSo_3 : decode cX11_isSo 3 = .ok (.aload_n 0, 1) := by decide +kernel
theorem dX11_isSo_4 : decode cX11_isSo 4 = .ok (.invokevirtual 529, 3) := by decide +kernel
theorem dX11_isSo_7 : decode cX11_isSo 7 = .ok (.if_icmp .ge 108, 3) := by decide +kernel
theorem dX11_isSo_10 : decode cX11_isSo 10 = .ok (.aload_n 0, 1) := by decide +kernel
theorem dX11_isSo_11 : decode cX11_isSo 11 = .ok (.getfield 157, 3) := by decide +kernel
theorem dX11_isSo_14 : decode cX11_isSo 14 = .ok (.iload_n 2, 1) := by decide +kernel
theorem dX11_isSo_15 : decode cX11_isSo 15 = .ok (.baload, 1) := by decide +kernel
theorem dX11_isSo_16 : decode cX11_isSo 16 = .ok (.ifCond .ne 93, 3) := by decide +kernel
theorem dX11_isSo_19 : decode cX11_isSo 19 = .ok (.aload_n 0, 1) := by decide +kernel
theorem dX11_isSo_20 : decode cX11_isSo 20 = .ok (.getfield 154, 3) := by decide +kernel
theorem dX11_isSo_23 : decode cX11_isSo 23 = .ok (.iload_n 2, 1) := by decide +kernel
theorem dX11_isSo_24 : decode cX11_isSo 24 = .ok (.iaload, 1) := by decide +kernel
theorem dX11_isSo_25 : decode cX11_isSo 25 = .ok (.iconst (-1), 1) := by decide +kernel
theorem dX11_isSo_26 : decode cX11_isSo 26 = .ok (.if_icmp .ne 83, 3) := by decide +kernel
theorem dX11_isSo_29 : decode cX11_isSo 29 = .ok (.aload_n 0, 1) := by decide +kernel
theorem dX11_isSo_30 : decode cX11_isSo 30 = .ok (.getfield 141, 3) := by decide +kernel
theorem dX11_isSo_33 : decode cX11_isSo 33 = .ok (.iload_n 2, 1) := by decide +kernel
theorem dX11_isSo_34 : decode cX11_isSo 34 = .ok (.iaload, 1) := by decide +kernel
theorem dX11_isSo_35 : decode cX11_isSo 35 = .ok (.iload_n 1, 1) := by decide +kernel
theorem dX11_isSo_36 : decode cX11_isSo 36 = .ok (.if_icmp .eq 6, 3) := by decide +kernel
theorem dX11_isSo_39 : decode cX11_isSo 39 = .ok (.goto 70, 3) := by decide +kernel
theorem dX11_isSo_42 : decode cX11_isSo 42 = .ok (.aload_n 0, 1) := by decide +kernel
theorem dX11_isSo_43 : decode cX11_isSo 43 = .ok (.getfield 144, 3) := by decide +kernel
theorem dX11_isSo_46 : decode cX11_isSo 46 = .ok (.iload_n 2, 1) := by decide +kernel
theorem dX11_isSo_47 : decode cX11_isSo 47 = .ok (.iaload, 1) := by decide +kernel
theorem dX11_isSo_48 : decode cX11_isSo 48 = .ok (.ifCond .ne 22, 3) := by decide +kernel
theorem dX11_isSo_51 : decode cX11_isSo 51 = .ok (.bipush 8, 2) := by decide +kernel
theorem dX11_isSo_53 : decode cX11_isSo 53 = .ok (.aload_n 0, 1) := by decide +kernel
theorem dX11_isSo_54 : decode cX11_isSo 54 = .ok (.getfield 102, 3) := by decide +kernel
theorem dX11_isSo_57 : decode cX11_isSo 57 = .ok (.iconst 1, 1) := by decide +kernel
theorem dX11_isSo_58 : decode cX11_isSo 58 = .ok (.iaload, 1) := by decide +kernel
theorem dX11_isSo_59 : decode cX11_isSo 59 = .ok (.imul, 1) := by decide +kernel
theorem dX11_isSo_60 : decode cX11_isSo 60 = .ok (.aload_n 0, 1) := by decide +kernel
theorem dX11_isSo_61 : decode cX11_isSo 61 = .ok (.getfield 105, 3) := by decide +kernel
theorem dX11_isSo_64 : decode cX11_isSo 64 = .ok (.iconst 1, 1) := by decide +kernel
theorem dX11_isSo_65 : decode cX11_isSo 65 = .ok (.iaload, 1) := by decide +kernel
theorem dX11_isSo_66 : decode cX11_isSo 66 = .ok (.iadd, 1) := by decide +kernel
theorem dX11_isSo_67 : decode cX11_isSo 67 = .ok (.goto 15, 3) := by decide +kernel
theorem dX11_isSo_70 : decode cX11_isSo 70 = .ok (.bipush 8, 2) := by decide +kernel
theorem dX11_isSo_72 : decode cX11_isSo 72 = .ok (.aload_n 0, 1) := by decide +kernel
theorem dX11_isSo_73 : decode cX11_isSo 73 = .ok (.getfield 387, 3) := by decide +kernel
theorem dX11_isSo_76 : decode cX11_isSo 76 = .ok (.imul, 1) := by decide +kernel
theorem dX11_isSo_77 : decode cX11_isSo 77 = .ok (.aload_n 0, 1) := by decide +kernel
theorem dX11_isSo_78 : decode cX11_isSo 78 = .ok (.getfield 393, 3) := by decide +kernel
theorem dX11_isSo_81 : decode cX11_isSo 81 = .ok (.iadd, 1) := by decide +kernel
theorem dX11_isSo_82 : decode cX11_isSo 82 = .ok (.istore_n 3, 1) := by decide +kernel
theorem dX11_isSo_83 : decode cX11_isSo 83 = .ok (.iload_n 3, 1) := by decide +kernel
theorem dX11_isSo_84 : decode cX11_isSo 84 = .ok (.aload_n 0, 1) := by decide +kernel
theorem dX11_isSo_85 : decode cX11_isSo 85 = .ok (.getfield 147, 3) := by decide +kernel
theorem dX11_isSo_88 : decode cX11_isSo 88 = .ok (.iload_n 2, 1) := by decide +kernel
theorem dX11_isSo_89 : decode cX11_isSo 89 = .ok (.iaload, 1) := by decide +kernel
theorem dX11_isSo_90 : decode cX11_isSo 90 = .ok (.if_icmp .ne 7, 3) := by decide +kernel
theorem dX11_isSo_93 : decode cX11_isSo 93 = .ok (.iconst 1, 1) := by decide +kernel
theorem dX11_isSo_94 : decode cX11_isSo 94 = .ok (.goto 4, 3) := by decide +kernel
theorem dX11_isSo_97 : decode cX11_isSo 97 = .ok (.iconst 0, 1) := by decide +kernel
theorem dX11_isSo_98 : decode cX11_isSo 98 = .ok (.aload_n 0, 1) := by decide +kernel
theorem dX11_isSo_99 : decode cX11_isSo 99 = .ok (.getfield 150, 3) := by decide +kernel
theorem dX11_isSo_102 : decode cX11_isSo 102 = .ok (.iload_n 2, 1) := by decide +kernel
theorem dX11_isSo_103 : decode cX11_isSo 103 = .ok (.baload, 1) := by decide +kernel
theorem dX11_isSo_104 : decode cX11_isSo 104 = .ok (.if_icmp .eq 5, 3) := by decide +kernel
theorem dX11_isSo_107 : decode cX11_isSo 107 = .ok (.iconst 0, 1) := by decide +kernel
theorem dX11_isSo_108 : decode cX11_isSo 108 = .ok (.ireturn, 1) := by decide +kernel
theorem dX11_isSo_109 : decode cX11_isSo 109 = .ok (.iinc 2 1, 3) := by decide +kernel
theorem dX11_isSo_112 : decode cX11_isSo 112 = .ok (.goto (-110), 3) := by decide +kernel
theorem dX11_isSo_115 : decode cX11_isSo 115 = .ok (.iconst 1, 1) := by decide +kernel
theorem dX11_isSo_116 : decode cX11_isSo 116 = .ok (.ireturn, 1) := by decide +kernel
theorem dX11_fitsHome_0 : decode cX11_fitsHome 0 = .ok (.aload_n 0, 1) := by decide +kernel
theorem dX11_fitsHome_1 : decode cX11_fitsHome 1 = .ok (.iconst 1, 1) := by decide +kernel
theorem dX11_fitsHome_2 : decode cX11_fitsHome 2 = .ok (.invokevirtual 358, 3) := by decide +kernel
theorem dX11_fitsHome_5 : decode cX11_fitsHome 5 = .ok (.aload_n 0, 1) := by decide +kernel
theorem dX11_fitsHome_6 : decode cX11_fitsHome 6 = .ok (.getfield 102, 3) := by decide +kernel
theorem dX11_fitsHome_9 : decode cX11_fitsHome 9 = .ok (.iconst 1, 1) := by decide +kernel
theorem dX11_fitsHome_10 : decode cX11_fitsHome 10 = .ok (.iload_n 1, 1) := by decide +kernel
theorem dX11_fitsHome_11 : decode cX11_fitsHome 11 = .ok (.iastore, 1) := by decide +kernel
theorem dX11_fitsHome_12 : decode cX11_fitsHome 12 = .ok (.aload_n 0, 1) := by decide +kernel
theorem dX11_fitsHome_13 : decode cX11_fitsHome 13 = .ok (.getfield 105, 3) := by decide +kernel
theorem dX11_fitsHome_16 : decode cX11_fitsHome 16 = .ok (.iconst 1, 1) := by decide +kernel
theorem dX11_fitsHome_17 : decode cX11_fitsHome 17 = .ok (.iload_n 2, 1) := by decide +kernel
theorem dX11_fitsHome_18 : decode cX11_fitsHome 18 = .ok (.iastore, 1) := by decide +kernel
theorem dX11_fitsHome_19 : decode cX11_fitsHome 19 = .ok (.iconst 1, 1) := by decide +kernel
theorem dX11_fitsHome_20 : decode cX11_fitsHome 20 = .ok (.istore 4, 2) := by decide +kernel
theorem dX11_fitsHome_22 : decode cX11_fitsHome 22 = .ok (.iload 4, 2) := by decide +kernel
theorem dX11_fitsHome_24 : decode cX11_fitsHome 24 = .ok (.iload_n 3, 1) := by decide +kernel
theorem dX11_fitsHome_25 : decode cX11_fitsHome 25 = .ok (.if_icmp .gt 26, 3) := by decide +kernel
theorem dX11_fitsHome_28 : decode cX11_fitsHome 28 = .ok (.aload_n 0, 1) := by decide +kernel
theorem dX11_fitsHome_29 : decode cX11_fitsHome 29 = .ok (.iconst 1, 1) := by decide +kernel
theorem dX11_fitsHome_30 : decode cX11_fitsHome 30 = .ok (.iconst 0, 1) := by decide +kernel
theorem dX11_fitsHome_31 : decode cX11_fitsHome 31 = .ok (.invokevirtual 465, 3) := by decide +kernel
theorem dX11_fitsHome_34 : decode cX11_fitsHome 34 = .ok (.aload_n 0, 1) := by decide +kernel
theorem dX11_fitsHome_35 : decode cX11_fitsHome 35 = .ok (.iload 4, 2) := by decide +kernel
theorem dX11_fitsHome_37 : decode cX11_fitsHome 37 = .ok (.invokevirtual 532, 3) := by decide +kernel
theorem dX11_fitsHome_40 : decode cX11_fitsHome 40 = .ok (.ifCond .ne 5, 3) := by decide +kernel
theorem dX11_fitsHome_43 : decode cX11_fitsHome 43 = .ok (.iconst 0, 1) := by decide +kernel
theorem dX11_fitsHome_44 : decode cX11_fitsHome 44 = .ok (.ireturn, 1) := by decide +kernel
theorem dX11_fitsHome_45 : decode cX11_fitsHome 45 = .ok (.iinc 4 1, 3) := by decide +kernel
theorem dX11_fitsHome_48 : decode cX11_fitsHome 48 = .ok (.goto (-26), 3) := by decide +kernel
theorem dX11_fitsHome_51 : decode cX11_fitsHome 51 = .ok (.iconst 1, 1) := by decide +kernel
theorem dX11_fitsHome_52 : decode cX11_fitsHome 52 = .ok (.ireturn, 1) := by decide +kernel
theorem dX11_homes_0 : decode cX11_homes 0 = .ok (.aload_n 0, 1) := by decide +kernel
theorem dX11_homes_1 : decode cX11_homes 1 = .ok (.iconst 0, 1) := by decide +kernel
theorem dX11_homes_2 : decode cX11_homes 2 = .ok (.putfield 163, 3) := by decide +kernel
theorem dX11_homes_5 : decode cX11_homes 5 = .ok (.iload_n 1, 1) := by decide +kernel
theorem dX11_homes_6 : decode cX11_homes 6 = .ok (.ifCond .lt 8, 3) := by decide +kernel
theorem dX11_homes_9 : decode cX11_homes 9 = .ok (.iload_n 1, 1) := by decide +kernel
theorem dX11_homes_10 : decode cX11_homes 10 = .ok (.iconst 1, 1) := by decide +kernel
theorem dX11_homes_11 : decode cX11_homes 11 = .ok (.if_icmp .le 5, 3) := by decide +kernel
theorem dX11_homes_14 : decode cX11_homes 14 = .ok (.iconst (-1), 1) := by decide +kernel
theorem dX11_homes_15 : decode cX11_homes 15 = .ok (.ireturn, 1) := by decide +kernel
theorem dX11_homes_16 : decode cX11_homes 16 = .ok (.iconst 0, 1) := by decide +kernel
theorem dX11_homes_17 : decode cX11_homes 17 = .ok (.istore_n 2, 1) := by decide +kernel
theorem dX11_homes_18 : decode cX11_homes 18 = .ok (.iconst 0, 1) := by decide +kernel
theorem dX11_homes_19 : decode cX11_homes 19 = .ok (.istore_n 3, 1) := by decide +kernel
theorem dX11_homes_20 : decode cX11_homes 20 = .ok (.iload_n 3, 1) := by decide +kernel
theorem dX11_homes_21 : decode cX11_homes 21 = .ok (.aload_n 0, 1) := by decide +kernel
theorem dX11_homes_22 : decode cX11_homes 22 = .ok (.invokevirtual 529, 3) := by decide +kernel
theorem dX11_homes_25 : decode cX11_homes 25 = .ok (.if_icmp .ge 16, 3) := by decide +kernel
theorem dX11_homes_28 : decode cX11_homes 28 = .ok (.aload_n 0, 1) := by decide +kernel
theorem dX11_homes_29 : decode cX11_homes 29 = .ok (.getfield 157, 3) := by decide +kernel
theorem dX11_homes_32 : decode cX11_homes 32 = .ok (.iload_n 3, 1) := by decide +kernel
theorem dX11_homes_33 : decode cX11_homes 33 = .ok (.iconst 0, 1) := by decide +kernel
theorem dX11_homes_34 : decode cX11_homes 34 = .ok (.bastore, 1) := by decide +kernel
theorem dX11_homes_35 : decode cX11_homes 35 = .ok (.iinc 3 1, 3) := by decide +kernel
theorem dX11_homes_38 : decode cX11_homes 38 = .ok (.goto (-18), 3) := by decide +kernel
theorem dX11_homes_41 : decode cX11_homes 41 = .ok (.aload_n 0, 1) := by decide +kernel
theorem dX11_homes_42 : decode cX11_homes 42 = .ok (.invokevirtual 529, 3) := by decide +kernel
theorem dX11_homes_45 : decode cX11_homes 45 = .ok (.iconst 1, 1) := by decide +kernel
theorem dX11_homes_46 : decode cX11_homes 46 = .ok (.isub, 1) := by decide +kernel
theorem dX11_homes_47 : decode cX11_homes 47 = .ok (.istore_n 3, 1) := by decide +kernel
theorem dX11_homes_48 : decode cX11_homes 48 = .ok (.iload_n 3, 1) := by decide +kernel
theorem dX11_homes_49 : decode cX11_homes 49 = .ok (.ifCond .lt 40, 3) := by decide +kernel
theorem dX11_homes_52 : decode cX11_homes 52 = .ok (.aload_n 0, 1) := by decide +kernel
theorem dX11_homes_53 : decode cX11_homes 53 = .ok (.getfield 157, 3) := by decide +kernel
theorem dX11_homes_56 : decode cX11_homes 56 = .ok (.iload_n 3, 1) := by decide +kernel
theorem dX11_homes_57 : decode cX11_homes 57 = .ok (.baload, 1) := by decide +kernel
theorem dX11_homes_58 : decode cX11_homes 58 = .ok (.ifCond .ne 25, 3) := by decide +kernel
theorem dX11_homes_61 : decode cX11_homes 61 = .ok (.aload_n 0, 1) := by decide +kernel
theorem dX11_homes_62 : decode cX11_homes 62 = .ok (.getfield 154, 3) := by decide +kernel
theorem dX11_homes_65 : decode cX11_homes 65 = .ok (.iload_n 3, 1) := by decide +kernel
theorem dX11_homes_66 : decode cX11_homes 66 = .ok (.iaload, 1) := by decide +kernel
theorem dX11_homes_67 : decode cX11_homes 67 = .ok (.iconst (-1), 1) := by decide +kernel
theorem dX11_homes_68 : decode cX11_homes 68 = .ok (.if_icmp .eq 15, 3) := by decide +kernel
theorem dX11_homes_71 : decode cX11_homes 71 = .ok (.aload_n 0, 1) := by decide +kernel
theorem dX11_homes_72 : decode cX11_homes 72 = .ok (.getfield 157, 3) := by decide +kernel
theorem dX11_homes_75 : decode cX11_homes 75 = .ok (.aload_n 0, 1) := by decide +kernel
theorem dX11_homes_76 : decode cX11_homes 76 = .ok (.getfield 154, 3) := by decide +kernel
theorem dX11_homes_79 : decode cX11_homes 79 = .ok (.iload_n 3, 1) := by decide +kernel
theorem dX11_homes_80 : decode cX11_homes 80 = .ok (.iaload, 1) := by decide +kernel
theorem dX11_homes_81 : decode cX11_homes 81 = .ok (.iconst 1, 1) := by decide +kernel
theorem dX11_homes_82 : decode cX11_homes 82 = .ok (.bastore, 1) := by decide +kernel
theorem dX11_homes_83 : decode cX11_homes 83 = .ok (.iinc 3 (-1), 3) := by decide +kernel
theorem dX11_homes_86 : decode cX11_homes 86 = .ok (.goto (-38), 3) := by decide +kernel
theorem dX11_homes_89 : decode cX11_homes 89 = .ok (.iconst 0, 1) := by decide +kernel
theorem dX11_homes_90 : decode cX11_homes 90 = .ok (.istore_n 3, 1) := by decide +kernel
theorem dX11_homes_91 : decode cX11_homes 91 = .ok (.iload_n 3, 1) := by decide +kernel
theorem dX11_homes_92 : decode cX11_homes 92 = .ok (.aload_n 0, 1) := by decide +kernel
theorem dX11_homes_93 : decode cX11_homes 93 = .ok (.invokevirtual 529, 3) := by decide +kernel
theorem dX11_homes_96 : decode cX11_homes 96 = .ok (.if_icmp .ge 39, 3) := by decide +kernel
theorem dX11_homes_99 : decode cX11_homes 99 = .ok (.aload_n 0, 1) := by decide +kernel
theorem dX11_homes_100 : decode cX11_homes 100 = .ok (.getfield 157, 3) := by decide +kernel
theorem dX11_homes_103 : decode cX11_homes 103 = .ok (.iload_n 3, 1) := by decide +kernel
theorem dX11_homes_104 : decode cX11_homes 104 = .ok (.baload, 1) := by decide +kernel
theorem dX11_homes_105 : decode cX11_homes 105 = .ok (.ifCond .ne 24, 3) := by decide +kernel
theorem dX11_homes_108 : decode cX11_homes 108 = .ok (.aload_n 0, 1) := by decide +kernel
theorem dX11_homes_109 : decode cX11_homes 109 = .ok (.getfield 154, 3) := by decide +kernel
theorem dX11_homes_112 : decode cX11_homes 112 = .ok (.iload_n 3, 1) := by decide +kernel
theorem dX11_homes_113 : decode cX11_homes 113 = .ok (.iaload, 1) := by decide +kernel
theorem dX11_homes_114 : decode cX11_homes 114 = .ok (.iconst (-1), 1) := by decide +kernel
theorem dX11_homes_115 : decode cX11_homes 115 = .ok (.if_icmp .ne 14, 3) := by decide +kernel
theorem dX11_homes_118 : decode cX11_homes 118 = .ok (.iload_n 2, 1) := by decide +kernel
theorem dX11_homes_119 : decode cX11_homes 119 = .ok (.aload_n 0, 1) := by decide +kernel
theorem dX11_homes_120 : decode cX11_homes 120 = .ok (.getfield 141, 3) := by decide +kernel
theorem dX11_homes_123 : decode cX11_homes 123 = .ok (.iload_n 3, 1) := by decide +kernel
theorem dX11_homes_124 : decode cX11_homes 124 = .ok (.iaload, 1) := by decide +kernel
theorem dX11_homes_125 : decode cX11_homes 125 = .ok (.invokestatic 535, 3) := by decide +kernel
theorem dX11_homes_128 : decode cX11_homes 128 = .ok (.istore_n 2, 1) := by decide +kernel
theorem dX11_homes_129 : decode cX11_homes 129 = .ok (.iinc 3 1, 3) := by decide +kernel
theorem dX11_homes_132 : decode cX11_homes 132 = .ok (.goto (-41), 3) := by decide +kernel
theorem dX11_homes_135 : decode cX11_homes 135 = .ok (.iconst 0, 1) := by decide +kernel
theorem dX11_homes_136 : decode cX11_homes 136 = .ok (.istore_n 3, 1) := by decide +kernel
theorem dX11_homes_137 : decode cX11_homes 137 = .ok (.bipush (-2), 2) := by decide +kernel
theorem dX11_homes_139 : decode cX11_homes 139 = .ok (.istore 4, 2) := by decide +kernel
theorem dX11_homes_141 : decode cX11_homes 141 = .ok (.iconst 0, 1) := by decide +kernel
theorem dX11_homes_142 : decode cX11_homes 142 = .ok (.istore 5, 2) := by decide +kernel
theorem dX11_homes_144 : decode cX11_homes 144 = .ok (.iload 5, 2) := by decide +kernel
theorem dX11_homes_146 : decode cX11_homes 146 = .ok (.bipush 64, 2) := by decide +kernel
theorem dX11_homes_148 : decode cX11_homes 148 = .ok (.if_icmp .ge 77, 3) := by decide +kernel
theorem dX11_homes_151 : decode cX11_homes 151 = .ok (.iload 5, 2) := by decide +kernel
theorem dX11_homes_153 : decode cX11_homes 153 = .ok (.bipush 8, 2) := by decide +kernel
theorem dX11_homes_155 : decode cX11_homes 155 = .ok (.idiv, 1) := by decide +kernel
theorem dX11_homes_156 : decode cX11_homes 156 = .ok (.istore 6, 2) := by decide +kernel
theorem dX11_homes_158 : decode cX11_homes 158 = .ok (.iload 5, 2) := by decide +kernel
theorem dX11_homes_160 : decode cX11_homes 160 = .ok (.bipush 8, 2) := by decide +kernel
theorem dX11_homes_162 : decode cX11_homes 162 = .ok (.irem, 1) := by decide +kernel
theorem dX11_homes_163 : decode cX11_homes 163 = .ok (.istore 7, 2) := by decide +kernel
theorem dX11_homes_165 : decode cX11_homes 165 = .ok (.aload_n 0, 1) := by decide +kernel
theorem dX11_homes_166 : decode cX11_homes 166 = .ok (.iload 6, 2) := by decide +kernel
theorem dX11_homes_168 : decode cX11_homes 168 = .ok (.iload 7, 2) := by decide +kernel
theorem dX11_homes_170 : decode cX11_homes 170 = .ok (.invokevirtual 399, 3) := by decide +kernel
theorem dX11_homes_173 : decode cX11_homes 173 = .ok (.ifCond .eq 46, 3) := by decide +kernel
theorem dX11_homes_176 : decode cX11_homes 176 = .ok (.aload_n 0, 1) := by decide +kernel
theorem dX11_homes_177 : decode cX11_homes 177 = .ok (.iload 6, 2) := by decide +kernel
theorem dX11_homes_179 : decode cX11_homes 179 = .ok (.iload 7, 2) := by decide +kernel
theorem dX11_homes_181 : decode cX11_homes 181 = .ok (.invokevirtual 430, 3) := by decide +kernel
theorem dX11_homes_184 : decode cX11_homes 184 = .ok (.ifCond .ne 35, 3) := by decide +kernel
theorem dX11_homes_187 : decode cX11_homes 187 = .ok (.aload_n 0, 1) := by decide +kernel
theorem dX11_homes_188 : decode cX11_homes 188 = .ok (.iload 6, 2) := by decide +kernel
theorem dX11_homes_190 : decode cX11_homes 190 = .ok (.iload 7, 2) := by decide +kernel
theorem dX11_homes_192 : decode cX11_homes 192 = .ok (.iload_n 2, 1) := by decide +kernel
theorem dX11_homes_193 : decode cX11_homes 193 = .ok (.invokevirtual 537, 3) := by decide +kernel
theorem dX11_homes_196 : decode cX11_homes 196 = .ok (.ifCond .ne 6, 3) := by decide +kernel
theorem dX11_homes_199 : decode cX11_homes 199 = .ok (.goto 20, 3) := by decide +kernel
theorem dX11_homes_202 : decode cX11_homes 202 = .ok (.iload_n 3, 1) := by decide +kernel
theorem dX11_homes_203 : decode cX11_homes 203 = .ok (.ifCond .ne 13, 3) := by decide +kernel
theorem dX11_homes_206 : decode cX11_homes 206 = .ok (.bipush 10, 2) := by decide +kernel
theorem dX11_homes_208 : decode cX11_homes 208 = .ok (.iload 6, 2) := by decide +kernel
theorem dX11_homes_210 : decode cX11_homes 210 = .ok (.imul, 1) := by decide +kernel
theorem dX11_homes_211 : decode cX11_homes 211 = .ok (.iload 7, 2) := by decide +kernel
theorem dX11_homes_213 : decode cX11_homes 213 = .ok (.iadd, 1) := by decide +kernel
theorem dX11_homes_214 : decode cX11_homes 214 = .ok (.istore 4, 2) := by decide +kernel
theorem dX11_homes_216 : decode cX11_homes 216 = .ok (.iinc 3 1, 3) := by decide +kernel
theorem dX11_homes_219 : decode cX11_homes 219 = .ok (.iinc 5 1, 3) := by decide +kernel
theorem dX11_homes_222 : decode cX11_homes 222 = .ok (.goto (-78), 3) := by decide +kernel
theorem dX11_homes_225 : decode cX11_homes 225 = .ok (.iload_n 1, 1) := by decide +kernel
theorem dX11_homes_226 : decode cX11_homes 226 = .ok (.ifCond .ne 7, 3) := by decide +kernel
theorem dX11_homes_229 : decode cX11_homes 229 = .ok (.iload_n 3, 1) := by decide +kernel
theorem dX11_homes_230 : decode cX11_homes 230 = .ok (.goto 5, 3) := by decide +kernel
theorem dX11_homes_233 : decode cX11_homes 233 = .ok (.iload 4, 2) := by decide +kernel
theorem dX11_homes_235 : decode cX11_homes 235 = .ok (.ireturn, 1) := by decide +kernel
theorem dX11_chance_0 : decode cX11_chance 0 = .ok (.aload_n 0, 1) := by decide +kernel
theorem dX11_chance_1 : decode cX11_chance 1 = .ok (.iconst 0, 1) := by decide +kernel
theorem dX11_chance_2 : decode cX11_chance 2 = .ok (.putfield 163, 3) := by decide +kernel
theorem dX11_chance_5 : decode cX11_chance 5 = .ok (.iload_n 1, 1) := by decide +kernel
theorem dX11_chance_6 : decode cX11_chance 6 = .ok (.ifCond .lt 24, 3) := by decide +kernel
theorem dX11_chance_9 : decode cX11_chance 9 = .ok (.iload_n 2, 1) := by decide +kernel
theorem dX11_chance_10 : decode cX11_chance 10 = .ok (.iconst 1, 1) := by decide +kernel
theorem dX11_chance_11 : decode cX11_chance 11 = .ok (.if_icmp .lt 19, 3) := by decide +kernel
theorem dX11_chance_14 : decode cX11_chance 14 = .ok (.iload_n 2, 1) := by decide +kernel
theorem dX11_chance_15 : decode cX11_chance 15 = .ok (.bipush 99, 2) := by decide +kernel
theorem dX11_chance_17 : decode cX11_chance 17 = .ok (.if_icmp .gt 13, 3) := by decide +kernel
theorem dX11_chance_20 : decode cX11_chance 20 = .ok (.iload_n 3, 1) := by decide +kernel
theorem dX11_chance_21 : decode cX11_chance 21 = .ok (.ifCond .lt 9, 3) := by decide +kernel
theorem dX11_chance_24 : decode cX11_chance 24 = .ok (.iload_n 3, 1) := by decide +kernel
theorem dX11_chance_25 : decode cX11_chance 25 = .ok (.bipush 8, 2) := by decide +kernel
theorem dX11_chance_27 : decode cX11_chance 27 = .ok (.if_icmp .le 5, 3) := by decide +kernel
theorem dX11_chance_30 : decode cX11_chance 30 = .ok (.iconst (-1), 1) := by decide +kernel
theorem dX11_chance_31 : decode cX11_chance 31 = .ok (.ireturn, 1) := by decide +kernel
theorem dX11_chance_32 : decode cX11_chance 32 = .ok (.iload_n 1, 1) := by decide +kernel
theorem dX11_chance_33 : decode cX11_chance 33 = .ok (.istore 4, 2) := by decide +kernel
theorem dX11_chance_35 : decode cX11_chance 35 = .ok (.iconst 0, 1) := by decide +kernel
theorem dX11_chance_36 : decode cX11_chance 36 = .ok (.istore 5, 2) := by decide +kernel
theorem dX11_chance_38 : decode cX11_chance 38 = .ok (.iconst 0, 1) := by decide +kernel
theorem dX11_chance_39 : decode cX11_chance 39 = .ok (.istore 6, 2) := by decide +kernel
theorem dX11_chance_41 : decode cX11_chance 41 = .ok (.iload 6, 2) := by decide +kernel
theorem dX11_chance_43 : decode cX11_chance 43 = .ok (.bipush 10, 2) := by decide +kernel
theorem dX11_chance_45 : decode cX11_chance 45 = .ok (.if_icmp .ge 75, 3) := by decide +kernel
theorem dX11_chance_48 : decode cX11_chance 48 = .ok (.aload_n 0, 1) := by decide +kernel
theorem dX11_chance_49 : decode cX11_chance 49 = .ok (.iconst 1, 1) := by decide +kernel
theorem dX11_chance_50 : decode cX11_chance 50 = .ok (.iconst 0, 1) := by decide +kernel
theorem dX11_chance_51 : decode cX11_chance 51 = .ok (.invokevirtual 488, 3) := by decide +kernel
theorem dX11_chance_54 : decode cX11_chance 54 = .ok (.aload_n 0, 1) := by decide +kernel
theorem dX11_chance_55 : decode cX11_chance 55 = .ok (.getfield 96, 3) := by decide +kernel
theorem dX11_chance_58 : decode cX11_chance 58 = .ok (.iconst 1, 1) := by decide +kernel
theorem dX11_chance_59 : decode cX11_chance 59 = .ok (.iload 4, 2) := by decide +kernel
theorem dX11_chance_61 : decode cX11_chance 61 = .ok (.iastore, 1) := by decide +kernel
theorem dX11_chance_62 : decode cX11_chance 62 = .ok (.iconst 0, 1) := by decide +kernel
theorem dX11_chance_63 : decode cX11_chance 63 = .ok (.istore 7, 2) := by decide +kernel
theorem dX11_chance_65 : decode cX11_chance 65 = .ok (.iload 7, 2) := by decide +kernel
theorem dX11_chance_67 : decode cX11_chance 67 = .ok (.iload_n 2, 1) := by decide +kernel
theorem dX11_chance_68 : decode cX11_chance 68 = .ok (.if_icmp .ge 15, 3) := by decide +kernel
theorem dX11_chance_71 : decode cX11_chance 71 = .ok (.aload_n 0, 1) := by decide +kernel
theorem dX11_chance_72 : decode cX11_chance 72 = .ok (.iconst 1, 1) := by decide +kernel
theorem dX11_chance_73 : decode cX11_chance 73 = .ok (.iconst 1, 1) := by decide +kernel
theorem dX11_chance_74 : decode cX11_chance 74 = .ok (.invokevirtual 465, 3) := by decide +kernel
theorem dX11_chance_77 : decode cX11_chance 77 = .ok (.iinc 7 1, 3) := by decide +kernel
theorem dX11_chance_80 : decode cX11_chance 80 = .ok (.goto (-15), 3) := by decide +kernel
theorem dX11_chance_83 : decode cX11_chance 83 = .ok (.aload_n 0, 1) := by decide +kernel
theorem dX11_chance_84 : decode cX11_chance 84 = .ok (.getfield 96, 3) := by decide +kernel
theorem dX11_chance_87 : decode cX11_chance 87 = .ok (.iconst 1, 1) := by decide +kernel
theorem dX11_chance_88 : decode cX11_chance 88 = .ok (.iaload, 1) := by decide +kernel
theorem dX11_chance_89 : decode cX11_chance 89 = .ok (.istore 4, 2) := by decide +kernel
theorem dX11_chance_91 : decode cX11_chance 91 = .ok (.iload 5, 2) := by decide +kernel
theorem dX11_chance_93 : decode cX11_chance 93 = .ok (.aload_n 0, 1) := by decide +kernel
theorem dX11_chance_94 : decode cX11_chance 94 = .ok (.getfield 117, 3) := by decide +kernel
theorem dX11_chance_97 : decode cX11_chance 97 = .ok (.iconst 1, 1) := by decide +kernel
theorem dX11_chance_98 : decode cX11_chance 98 = .ok (.iaload, 1) := by decide +kernel
theorem dX11_chance_99 : decode cX11_chance 99 = .ok (.invokestatic 361, 3) := by decide +kernel
theorem dX11_chance_102 : decode cX11_chance 102 = .ok (.iload_n 3, 1) := by decide +kernel
theorem dX11_chance_103 : decode cX11_chance 103 = .ok (.if_icmp .lt 7, 3) := by decide +kernel
theorem dX11_chance_106 : decode cX11_chance 106 = .ok (.iconst 1, 1) := by decide +kernel
theorem dX11_chance_107 : decode cX11_chance 107 = .ok (.goto 4, 3) := by decide +kernel
theorem dX11_chance_110 : decode cX11_chance 110 = .ok (.iconst 0, 1) := by decide +kernel
theorem dX11_chance_111 : decode cX11_chance 111 = .ok (.iadd, 1) := by decide +kernel
theorem dX11_chance_112 : decode cX11_chance 112 = .ok (.istore 5, 2) := by decide +kernel
theorem dX11_chance_114 : decode cX11_chance 114 = .ok (.iinc 6 1, 3) := by decide +kernel
theorem dX11_chance_117 : decode cX11_chance 117 = .ok (.goto (-76), 3) := by decide +kernel
theorem dX11_chance_120 : decode cX11_chance 120 = .ok (.iload 5, 2) := by decide +kernel
theorem dX11_chance_122 : decode cX11_chance 122 = .ok (.ireturn, 1) := by decide +kernel
theorem dX11_tried_0 : decode cX11_tried 0 = .ok (.aload_n 0, 1) := by decide +kernel
theorem dX11_tried_1 : decode cX11_tried 1 = .ok (.iconst 0, 1) := by decide +kernel
theorem dX11_tried_2 : decode cX11_tried 2 = .ok (.putfield 163, 3) := by decide +kernel
theorem dX11_tried_5 : decode cX11_tried 5 = .ok (.iload_n 1, 1) := by decide +kernel
theorem dX11_tried_6 : decode cX11_tried 6 = .ok (.iconst 2, 1) := by decide +kernel
theorem dX11_tried_7 : decode cX11_tried 7 = .ok (.if_icmp .ne 11, 3) := by decide +kernel
theorem dX11_tried_10 : decode cX11_tried 10 = .ok (.aload_n 0, 1) := by decide +kernel
theorem dX11_tried_11 : decode cX11_tried 11 = .ok (.iload_n 2, 1) := by decide +kernel
theorem dX11_tried_12 : decode cX11_tried 12 = .ok (.invokevirtual 481, 3) := by decide +kernel
theorem dX11_tried_15 : decode cX11_tried 15 = .ok (.goto 21, 3) := by decide +kernel
theorem dX11_tried_18 : decode cX11_tried 18 = .ok (.iload_n 1, 1) := by decide +kernel
theorem dX11_tried_19 : decode cX11_tried 19 = .ok (.ifCond .lt 16, 3) := by decide +kernel
theorem dX11_tried_22 : decode cX11_tried 22 = .ok (.iload_n 1, 1) := by decide +kernel
theorem dX11_tried_23 : decode cX11_tried 23 = .ok (.iconst 5, 1) := by decide +kernel
theorem dX11_tried_24 : decode cX11_tried 24 = .ok (.if_icmp .gt 11, 3) := by decide +kernel
theorem dX11_tried_27 : decode cX11_tried 27 = .ok (.iload_n 2, 1) := by decide +kernel
theorem dX11_tried_28 : decode cX11_tried 28 = .ok (.ifCond .ne 7, 3) := by decide +kernel
theorem dX11_tried_31 : decode cX11_tried 31 = .ok (.iconst 1, 1) := by decide +kernel
theorem dX11_tried_32 : decode cX11_tried 32 = .ok (.goto 4, 3) := by decide +kernel
theorem dX11_tried_35 : decode cX11_tried 35 = .ok (.iconst 0, 1) := by decide +kernel
theorem dX11_tried_36 : decode cX11_tried 36 = .ok (.istore 4, 2) := by decide +kernel
theorem dX11_tried_38 : decode cX11_tried 38 = .ok (.iload 4, 2) := by decide +kernel
theorem dX11_tried_40 : decode cX11_tried 40 = .ok (.ifCond .eq 13, 3) := by decide +kernel
theorem dX11_tried_43 : decode cX11_tried 43 = .ok (.iload_n 3, 1) := by decide +kernel
theorem dX11_tried_44 : decode cX11_tried 44 = .ok (.ifCond .lt 9, 3) := by decide +kernel
theorem dX11_tried_47 : decode cX11_tried 47 = .ok (.iload_n 3, 1) := by decide +kernel
theorem dX11_tried_48 : decode cX11_tried 48 = .ok (.bipush 99, 2) := by decide +kernel
theorem dX11_tried_50 : decode cX11_tried 50 = .ok (.if_icmp .le 5, 3) := by decide +kernel
theorem dX11_tried_53 : decode cX11_tried 53 = .ok (.iconst (-1), 1) := by decide +kernel
theorem dX11_tried_54 : decode cX11_tried 54 = .ok (.ireturn, 1) := by decide +kernel
theorem dX11_tried_55 : decode cX11_tried 55 = .ok (.aload_n 0, 1) := by decide +kernel
theorem dX11_tried_56 : decode cX11_tried 56 = .ok (.iconst 1, 1) := by decide +kernel
theorem dX11_tried_57 : decode cX11_tried 57 = .ok (.iconst 0, 1) := by decide +kernel
theorem dX11_tried_58 : decode cX11_tried 58 = .ok (.invokevirtual 488, 3) := by decide +kernel
theorem dX11_tried_61 : decode cX11_tried 61 = .ok (.iload_n 1, 1) := by decide +kernel
theorem dX11_tried_62 : decode cX11_tried 62 = .ok (.iconst 2, 1) := by decide +kernel
theorem dX11_tried_63 : decode cX11_tried 63 = .ok (.if_icmp .ne 17, 3) := by decide +kernel
theorem dX11_tried_66 : decode cX11_tried 66 = .ok (.aload_n 0, 1) := by decide +kernel
theorem dX11_tried_67 : decode cX11_tried 67 = .ok (.getfield 114, 3) := by decide +kernel
theorem dX11_tried_70 : decode cX11_tried 70 = .ok (.iconst 1, 1) := by decide +kernel
theorem dX11_tried_71 : decode cX11_tried 71 = .ok (.dup2, 1) := by decide +kernel
theorem dX11_tried_72 : decode cX11_tried 72 = .ok (.iaload, 1) := by decide +kernel
theorem dX11_tried_73 : decode cX11_tried 73 = .ok (.iconst 1, 1) := by decide +kernel
theorem dX11_tried_74 : decode cX11_tried 74 = .ok (.iload_n 2, 1) := by decide +kernel
theorem dX11_tried_75 : decode cX11_tried 75 = .ok (.ishl, 1) := by decide +kernel
theorem dX11_tried_76 : decode cX11_tried 76 = .ok (.iconst (-1), 1) := by decide +kernel
theorem dX11_tried_77 : decode cX11_tried 77 = .ok (.ixor, 1) := by decide +kernel
theorem dX11_tried_78 : decode cX11_tried 78 = .ok (.iand, 1) := by decide +kernel
theorem dX11_tried_79 : decode cX11_tried 79 = .ok (.iastore, 1) := by decide +kernel
theorem dX11_tried_80 : decode cX11_tried 80 = .ok (.iload_n 1, 1) := by decide +kernel
theorem dX11_tried_81 : decode cX11_tried 81 = .ok (.iconst 4, 1) := by decide +kernel
theorem dX11_tried_82 : decode cX11_tried 82 = .ok (.if_icmp .ne 10, 3) := by decide +kernel
theorem dX11_tried_85 : decode cX11_tried 85 = .ok (.aload_n 0, 1) := by decide +kernel
theorem dX11_tried_86 : decode cX11_tried 86 = .ok (.getfield 108, 3) := by decide +kernel
theorem dX11_tried_89 : decode cX11_tried 89 = .ok (.iconst 1, 1) := by decide +kernel
theorem dX11_tried_90 : decode cX11_tried 90 = .ok (.iconst 0, 1) := by decide +kernel
theorem dX11_tried_91 : decode cX11_tried 91 = .ok (.iastore, 1) := by decide +kernel
theorem dX11_tried_92 : decode cX11_tried 92 = .ok (.aload_n 0, 1) := by decide +kernel
theorem dX11_tried_93 : decode cX11_tried 93 = .ok (.iload_n 1, 1) := by decide +kernel
theorem dX11_tried_94 : decode cX11_tried 94 = .ok (.putfield 409, 3) := by decide +kernel
theorem dX11_tried_97 : decode cX11_tried 97 = .ok (.aload_n 0, 1) := by decide +kernel
theorem dX11_tried_98 : decode cX11_tried 98 = .ok (.iload_n 3, 1) := by decide +kernel
theorem dX11_tried_99 : decode cX11_tried 99 = .ok (.invokevirtual 494, 3) := by decide +kernel
theorem dX11_tried_102 : decode cX11_tried 102 = .ok (.aload_n 0, 1) := by decide +kernel
theorem dX11_tried_103 : decode cX11_tried 103 = .ok (.iconst 0, 1) := by decide +kernel
theorem dX11_tried_104 : decode cX11_tried 104 = .ok (.putfield 409, 3) := by decide +kernel
theorem dX11_tried_107 : decode cX11_tried 107 = .ok (.aload_n 0, 1) := by decide +kernel
theorem dX11_tried_108 : decode cX11_tried 108 = .ok (.iconst 1, 1) := by decide +kernel
theorem dX11_tried_109 : decode cX11_tried 109 = .ok (.invokevirtual 497, 3) := by decide +kernel
theorem dX11_tried_112 : decode cX11_tried 112 = .ok (.aload_n 0, 1) := by decide +kernel
theorem dX11_tried_113 : decode cX11_tried 113 = .ok (.iconst 0, 1) := by decide +kernel
theorem dX11_tried_114 : decode cX11_tried 114 = .ok (.invokevirtual 497, 3) := by decide +kernel
theorem dX11_tried_117 : decode cX11_tried 117 = .ok (.isub, 1) := by decide +kernel
theorem dX11_tried_118 : decode cX11_tried 118 = .ok (.ireturn, 1) := by decide +kernel
theorem dX11_undo_0 : decode cX11_undo 0 = .ok (.aload_n 0, 1) := by decide +kernel
theorem dX11_undo_1 : decode cX11_undo 1 = .ok (.iconst 0, 1) := by decide +kernel
theorem dX11_undo_2 : decode cX11_undo 2 = .ok (.putfield 163, 3) := by decide +kernel
theorem dX11_undo_5 : decode cX11_undo 5 = .ok (.aload_n 0, 1) := by decide +kernel
theorem dX11_undo_6 : decode cX11_undo 6 = .ok (.getfield 335, 3) := by decide +kernel
theorem dX11_undo_9 : decode cX11_undo 9 = .ok (.ifCond .ne 5, 3) := by decide +kernel
theorem dX11_undo_12 : decode cX11_undo 12 = .ok (.iconst (-1), 1) := by decide +kernel
theorem dX11_undo_13 : decode cX11_undo 13 = .ok (.ireturn, 1) := by decide +kernel
theorem dX11_undo_14 : decode cX11_undo 14 = .ok (.aload_n 0, 1) := by decide +kernel
theorem dX11_undo_15 : decode cX11_undo 15 = .ok (.dup, 1) := by decide +kernel
theorem dX11_undo_16 : decode cX11_undo 16 = .ok (.getfield 335, 3) := by decide +kernel
theorem dX11_undo_19 : decode cX11_undo 19 = .ok (.iconst 1, 1) := by decide +kernel
theorem dX11_undo_20 : decode cX11_undo 20 = .ok (.isub, 1) := by decide +kernel
theorem dX11_undo_21 : decode cX11_undo 21 = .ok (.putfield 335, 3) := by decide +kernel
theorem dX11_undo_24 : decode cX11_undo 24 = .ok (.aload_n 0, 1) := by decide +kernel
theorem dX11_undo_25 : decode cX11_undo 25 = .ok (.iconst 0, 1) := by decide +kernel
theorem dX11_undo_26 : decode cX11_undo 26 = .ok (.iconst 3, 1) := by decide +kernel
theorem dX11_undo_27 : decode cX11_undo 27 = .ok (.aload_n 0, 1) := by decide +kernel
theorem dX11_undo_28 : decode cX11_undo 28 = .ok (.getfield 335, 3) := by decide +kernel
theorem dX11_undo_31 : decode cX11_undo 31 = .ok (.iadd, 1) := by decide +kernel
theorem dX11_undo_32 : decode cX11_undo 32 = .ok (.invokevirtual 488, 3) := by decide +kernel
theorem dX11_undo_35 : decode cX11_undo 35 = .ok (.aload_n 0, 1) := by decide +kernel
theorem dX11_undo_36 : decode cX11_undo 36 = .ok (.getfield 335, 3) := by decide +kernel
theorem dX11_undo_39 : decode cX11_undo 39 = .ok (.ireturn, 1) := by decide +kernel
theorem dX11_keep_0 : decode cX11_keep 0 = .ok (.aload_n 0, 1) := by decide +kernel
theorem dX11_keep_1 : decode cX11_keep 1 = .ok (.iconst 0, 1) := by decide +kernel
theorem dX11_keep_2 : decode cX11_keep 2 = .ok (.putfield 163, 3) := by decide +kernel
theorem dX11_keep_5 : decode cX11_keep 5 = .ok (.aload_n 0, 1) := by decide +kernel
theorem dX11_keep_6 : decode cX11_keep 6 = .ok (.iconst 2, 1) := by decide +kernel
theorem dX11_keep_7 : decode cX11_keep 7 = .ok (.iconst 0, 1) := by decide +kernel
theorem dX11_keep_8 : decode cX11_keep 8 = .ok (.invokevirtual 488, 3) := by decide +kernel
theorem dX11_keep_11 : decode cX11_keep 11 = .ok (.aload_n 0, 1) := by decide +kernel
theorem dX11_keep_12 : decode cX11_keep 12 = .ok (.iconst 1, 1) := by decide +kernel
theorem dX11_keep_13 : decode cX11_keep 13 = .ok (.putfield 331, 3) := by decide +kernel
theorem dX11_keep_16 : decode cX11_keep 16 = .ok (.aload_n 0, 1) := by decide +kernel
theorem dX11_keep_17 : decode cX11_keep 17 = .ok (.getfield 93, 3) := by decide +kernel
theorem dX11_keep_20 : decode cX11_keep 20 = .ok (.iconst 0, 1) := by decide +kernel
theorem dX11_keep_21 : decode cX11_keep 21 = .ok (.iaload, 1) := by decide +kernel
theorem dX11_keep_22 : decode cX11_keep 22 = .ok (.ireturn, 1) := by decide +kernel
theorem dX11_back_0 : decode cX11_back 0 = .ok (.aload_n 0, 1) := by decide +kernel
theorem dX11_back_1 : decode cX11_back 1 = .ok (.iconst 0, 1) := by decide +kernel
theorem dX11_back_2 : decode cX11_back 2 = .ok (.putfield 163, 3) := by decide +kernel
theorem dX11_back_5 : decode cX11_back 5 = .ok (.aload_n 0, 1) := by decide +kernel
theorem dX11_back_6 : decode cX11_back 6 = .ok (.getfield 331, 3) := by decide +kernel
theorem dX11_back_9 : decode cX11_back 9 = .ok (.ifCond .ne 5, 3) := by decide +kernel
theorem dX11_back_12 : decode cX11_back 12 = .ok (.iconst (-1), 1) := by decide +kernel
theorem dX11_back_13 : decode cX11_back 13 = .ok (.ireturn, 1) := by decide +kernel
theorem dX11_back_14 : decode cX11_back 14 = .ok (.aload_n 0, 1) := by decide +kernel
theorem dX11_back_15 : decode cX11_back 15 = .ok (.iconst 0, 1) := by decide +kernel
theorem dX11_back_16 : decode cX11_back 16 = .ok (.iconst 2, 1) := by decide +kernel
theorem dX11_back_17 : decode cX11_back 17 = .ok (.invokevirtual 488, 3) := by decide +kernel
theorem dX11_back_20 : decode cX11_back 20 = .ok (.aload_n 0, 1) := by decide +kernel
theorem dX11_back_21 : decode cX11_back 21 = .ok (.iconst 0, 1) := by decide +kernel
theorem dX11_back_22 : decode cX11_back 22 = .ok (.putfield 335, 3) := by decide +kernel
theorem dX11_back_25 : decode cX11_back 25 = .ok (.aload_n 0, 1) := by decide +kernel
theorem dX11_back_26 : decode cX11_back 26 = .ok (.getfield 93, 3) := by decide +kernel
theorem dX11_back_29 : decode cX11_back 29 = .ok (.iconst 0, 1) := by decide +kernel
theorem dX11_back_30 : decode cX11_back 30 = .ok (.iaload, 1) := by decide +kernel
theorem dX11_back_31 : decode cX11_back 31 = .ok (.ireturn, 1) := by decide +kernel
theorem dX11_count_0 : decode cX11_count 0 = .ok (.aload_n 0, 1) := by decide +kernel
theorem dX11_count_1 : decode cX11_count 1 = .ok (.iconst 0, 1) := by decide +kernel
theorem dX11_count_2 : decode cX11_count 2 = .ok (.putfield 163, 3) := by decide +kernel
theorem dX11_count_5 : decode cX11_count 5 = .ok (.iload_n 1, 1) := by decide +kernel
theorem dX11_count_6 : decode cX11_count 6 = .ok (.tableswitch 182 0 14 #[74, 82, 90, 98, 105, 112, 120, 127, 137, 143, 150, 157, 167, 172, 177], 74) := by decide +kernel
theorem dX11_count_80 : decode cX11_count 80 = .ok (.aload_n 0, 1) := by decide +kernel
theorem dX11_count_81 : decode cX11_count 81 = .ok (.getfield 13, 3) := by decide +kernel
theorem dX11_count_84 : decode cX11_count 84 = .ok (.bipush 6, 2) := by decide +kernel
theorem dX11_count_86 : decode cX11_count 86 = .ok (.iaload, 1) := by decide +kernel
theorem dX11_count_87 : decode cX11_count 87 = .ok (.ireturn, 1) := by decide +kernel
theorem dX11_count_88 : decode cX11_count 88 = .ok (.aload_n 0, 1) := by decide +kernel
theorem dX11_count_89 : decode cX11_count 89 = .ok (.getfield 13, 3) := by decide +kernel
theorem dX11_count_92 : decode cX11_count 92 = .ok (.bipush 8, 2) := by decide +kernel
theorem dX11_count_94 : decode cX11_count 94 = .ok (.iaload, 1) := by decide +kernel
theorem dX11_count_95 : decode cX11_count 95 = .ok (.ireturn, 1) := by decide +kernel
theorem dX11_count_96 : decode cX11_count 96 = .ok (.aload_n 0, 1) := by decide +kernel
theorem dX11_count_97 : decode cX11_count 97 = .ok (.getfield 13, 3) := by decide +kernel
theorem dX11_count_100 : decode cX11_count 100 = .ok (.bipush 9, 2) := by decide +kernel
theorem dX11_count_102 : decode cX11_count 102 = .ok (.iaload, 1) := by decide +kernel
theorem dX11_count_103 : decode cX11_count 103 = .ok (.ireturn, 1) := by decide +kernel
theorem dX11_count_104 : decode cX11_count 104 = .ok (.aload_n 0, 1) := by decide +kernel
theorem dX11_count_105 : decode cX11_count 105 = .ok (.getfield 13, 3) := by decide +kernel
theorem dX11_count_108 : decode cX11_count 108 = .ok (.iconst 0, 1) := by decide +kernel
theorem dX11_count_109 : decode cX11_count 109 = .ok (.iaload, 1) := by decide +kernel
theorem dX11_count_110 : decode cX11_count 110 = .ok (.ireturn, 1) := by decide +kernel
theorem dX11_count_111 : decode cX11_count 111 = .ok (.aload_n 0, 1) := by decide +kernel
theorem dX11_count_112 : decode cX11_count 112 = .ok (.getfield 13, 3) := by decide +kernel
theorem dX11_count_115 : decode cX11_count 115 = .ok (.iconst 1, 1) := by decide +kernel
theorem dX11_count_116 : decode cX11_count 116 = .ok (.iaload, 1) := by decide +kernel
theorem dX11_count_117 : decode cX11_count 117 = .ok (.ireturn, 1) := by decide +kernel
theorem dX11_count_118 : decode cX11_count 118 = .ok (.aload_n 0, 1) := by decide +kernel
theorem dX11_count_119 : decode cX11_count 119 = .ok (.getfield 13, 3) := by decide +kernel
theorem dX11_count_122 : decode cX11_count 122 = .ok (.bipush 12, 2) := by decide +kernel
theorem dX11_count_124 : decode cX11_count 124 = .ok (.iaload, 1) := by decide +kernel
theorem dX11_count_125 : decode cX11_count 125 = .ok (.ireturn, 1) := by decide +kernel
theorem dX11_count_126 : decode cX11_count 126 = .ok (.aload_n 0, 1) := by decide +kernel
theorem dX11_count_127 : decode cX11_count 127 = .ok (.getfield 93, 3) := by decide +kernel
theorem dX11_count_130 : decode cX11_count 130 = .ok (.iconst 0, 1) := by decide +kernel
theorem dX11_count_131 : decode cX11_count 131 = .ok (.iaload, 1) := by decide +kernel
theorem dX11_count_132 : decode cX11_count 132 = .ok (.ireturn, 1) := by decide +kernel
theorem dX11_count_133 : decode cX11_count 133 = .ok (.aload_n 0, 1) := by decide +kernel
theorem dX11_count_134 : decode cX11_count 134 = .ok (.getfield 117, 3) := by decide +kernel
theorem dX11_count_137 : decode cX11_count 137 = .ok (.iconst 0, 1) := by decide +kernel
theorem dX11_count_138 : decode cX11_count 138 = .ok (.iaload, 1) := by decide +kernel
theorem dX11_count_139 : decode cX11_count 139 = .ok (.invokestatic 361, 3) := by decide +kernel
theorem dX11_count_142 : decode cX11_count 142 = .ok (.ireturn, 1) := by decide +kernel
theorem dX11_count_143 : decode cX11_count 143 = .ok (.aload_n 0, 1) := by decide +kernel
theorem dX11_count_144 : decode cX11_count 144 = .ok (.iconst 0, 1) := by decide +kernel
theorem dX11_count_145 : decode cX11_count 145 = .ok (.invokevirtual 497, 3) := by decide +kernel
theorem dX11_count_148 : decode cX11_count 148 = .ok (.ireturn, 1) := by decide +kernel
theorem dX11_count_149 : decode cX11_count 149 = .ok (.aload_n 0, 1) := by decide +kernel
theorem dX11_count_150 : decode cX11_count 150 = .ok (.getfield 99, 3) := by decide +kernel
theorem dX11_count_153 : decode cX11_count 153 = .ok (.iconst 0, 1) := by decide +kernel
theorem dX11_count_154 : decode cX11_count 154 = .ok (.iaload, 1) := by decide +kernel
theorem dX11_count_155 : decode cX11_count 155 = .ok (.ireturn, 1) := by decide +kernel
theorem dX11_count_156 : decode cX11_count 156 = .ok (.aload_n 0, 1) := by decide +kernel
theorem dX11_count_157 : decode cX11_count 157 = .ok (.getfield 111, 3) := by decide +kernel
theorem dX11_count_160 : decode cX11_count 160 = .ok (.iconst 0, 1) := by decide +kernel
theorem dX11_count_161 : decode cX11_count 161 = .ok (.iaload, 1) := by decide +kernel
theorem dX11_count_162 : decode cX11_count 162 = .ok (.ireturn, 1) := by decide +kernel
theorem dX11_count_163 : decode cX11_count 163 = .ok (.aload_n 0, 1) := by decide +kernel
theorem dX11_count_164 : decode cX11_count 164 = .ok (.getfield 114, 3) := by decide +kernel
theorem dX11_count_167 : decode cX11_count 167 = .ok (.iconst 0, 1) := by decide +kernel
theorem dX11_count_168 : decode cX11_count 168 = .ok (.iaload, 1) := by decide +kernel
theorem dX11_count_169 : decode cX11_count 169 = .ok (.invokestatic 361, 3) := by decide +kernel
theorem dX11_count_172 : decode cX11_count 172 = .ok (.ireturn, 1) := by decide +kernel
theorem dX11_count_173 : decode cX11_count 173 = .ok (.aload_n 0, 1) := by decide +kernel
theorem dX11_count_174 : decode cX11_count 174 = .ok (.getfield 328, 3) := by decide +kernel
theorem dX11_count_177 : decode cX11_count 177 = .ok (.ireturn, 1) := by decide +kernel
theorem dX11_count_178 : decode cX11_count 178 = .ok (.aload_n 0, 1) := by decide +kernel
theorem dX11_count_179 : decode cX11_count 179 = .ok (.invokevirtual 529, 3) := by decide +kernel
theorem dX11_count_182 : decode cX11_count 182 = .ok (.ireturn, 1) := by decide +kernel
theorem dX11_count_183 : decode cX11_count 183 = .ok (.aload_n 0, 1) := by decide +kernel
theorem dX11_count_184 : decode cX11_count 184 = .ok (.getfield 335, 3) := by decide +kernel
theorem dX11_count_187 : decode cX11_count 187 = .ok (.ireturn, 1) := by decide +kernel
theorem dX11_count_188 : decode cX11_count 188 = .ok (.iconst (-1), 1) := by decide +kernel
theorem dX11_count_189 : decode cX11_count 189 = .ok (.ireturn, 1) := by decide +kernel
theorem dJ6_bitCount_0f7a4_0 : decode cJ6_bitCount_0f7a4 0 = .ok (.iload_n 0, 1) := by decide +kernel
theorem dJ6_bitCount_0f7a4_1 : decode cJ6_bitCount_0f7a4 1 = .ok (.iload_n 0, 1) := by decide +kernel
theorem dJ6_bitCount_0f7a4_2 : decode cJ6_bitCount_0f7a4 2 = .ok (.iconst 1, 1) := by decide +kernel
theorem dJ6_bitCount_0f7a4_3 : decode cJ6_bitCount_0f7a4 3 = .ok (.iushr, 1) := by decide +kernel
theorem dJ6_bitCount_0f7a4_4 : decode cJ6_bitCount_0f7a4 4 = .ok (.ldc_w 265, 3) := by decide +kernel
theorem dJ6_bitCount_0f7a4_7 : decode cJ6_bitCount_0f7a4 7 = .ok (.iand, 1) := by decide +kernel
theorem dJ6_bitCount_0f7a4_8 : decode cJ6_bitCount_0f7a4 8 = .ok (.isub, 1) := by decide +kernel
theorem dJ6_bitCount_0f7a4_9 : decode cJ6_bitCount_0f7a4 9 = .ok (.istore_n 0, 1) := by decide +kernel
theorem dJ6_bitCount_0f7a4_10 : decode cJ6_bitCount_0f7a4 10 = .ok (.iload_n 0, 1) := by decide +kernel
theorem dJ6_bitCount_0f7a4_11 : decode cJ6_bitCount_0f7a4 11 = .ok (.ldc_w 266, 3) := by decide +kernel
theorem dJ6_bitCount_0f7a4_14 : decode cJ6_bitCount_0f7a4 14 = .ok (.iand, 1) := by decide +kernel
theorem dJ6_bitCount_0f7a4_15 : decode cJ6_bitCount_0f7a4 15 = .ok (.iload_n 0, 1) := by decide +kernel
theorem dJ6_bitCount_0f7a4_16 : decode cJ6_bitCount_0f7a4 16 = .ok (.iconst 2, 1) := by decide +kernel
theorem dJ6_bitCount_0f7a4_17 : decode cJ6_bitCount_0f7a4 17 = .ok (.iushr, 1) := by decide +kernel
theorem dJ6_bitCount_0f7a4_18 : decode cJ6_bitCount_0f7a4 18 = .ok (.ldc_w 266, 3) := by decide +kernel
theorem dJ6_bitCount_0f7a4_21 : decode cJ6_bitCount_0f7a4 21 = .ok (.iand, 1) := by decide +kernel
theorem dJ6_bitCount_0f7a4_22 : decode cJ6_bitCount_0f7a4 22 = .ok (.iadd, 1) := by decide +kernel
theorem dJ6_bitCount_0f7a4_23 : decode cJ6_bitCount_0f7a4 23 = .ok (.istore_n 0, 1) := by decide +kernel
theorem dJ6_bitCount_0f7a4_24 : decode cJ6_bitCount_0f7a4 24 = .ok (.iload_n 0, 1) := by decide +kernel
theorem dJ6_bitCount_0f7a4_25 : decode cJ6_bitCount_0f7a4 25 = .ok (.iload_n 0, 1) := by decide +kernel
theorem dJ6_bitCount_0f7a4_26 : decode cJ6_bitCount_0f7a4 26 = .ok (.iconst 4, 1) := by decide +kernel
theorem dJ6_bitCount_0f7a4_27 : decode cJ6_bitCount_0f7a4 27 = .ok (.iushr, 1) := by decide +kernel
theorem dJ6_bitCount_0f7a4_28 : decode cJ6_bitCount_0f7a4 28 = .ok (.iadd, 1) := by decide +kernel
theorem dJ6_bitCount_0f7a4_29 : decode cJ6_bitCount_0f7a4 29 = .ok (.ldc_w 267, 3) := by decide +kernel
theorem dJ6_bitCount_0f7a4_32 : decode cJ6_bitCount_0f7a4 32 = .ok (.iand, 1) := by decide +kernel
theorem dJ6_bitCount_0f7a4_33 : decode cJ6_bitCount_0f7a4 33 = .ok (.istore_n 0, 1) := by decide +kernel
theorem dJ6_bitCount_0f7a4_34 : decode cJ6_bitCount_0f7a4 34 = .ok (.iload_n 0, 1) := by decide +kernel
theorem dJ6_bitCount_0f7a4_35 : decode cJ6_bitCount_0f7a4 35 = .ok (.iload_n 0, 1) := by decide +kernel
theorem dJ6_bitCount_0f7a4_36 : decode cJ6_bitCount_0f7a4 36 = .ok (.bipush 8, 2) := by decide +kernel
theorem dJ6_bitCount_0f7a4_38 : decode cJ6_bitCount_0f7a4 38 = .ok (.iushr, 1) := by decide +kernel
theorem dJ6_bitCount_0f7a4_39 : decode cJ6_bitCount_0f7a4 39 = .ok (.iadd, 1) := by decide +kernel
theorem dJ6_bitCount_0f7a4_40 : decode cJ6_bitCount_0f7a4 40 = .ok (.istore_n 0, 1) := by decide +kernel
theorem dJ6_bitCount_0f7a4_41 : decode cJ6_bitCount_0f7a4 41 = .ok (.iload_n 0, 1) := by decide +kernel
theorem dJ6_bitCount_0f7a4_42 : decode cJ6_bitCount_0f7a4 42 = .ok (.iload_n 0, 1) := by decide +kernel
theorem dJ6_bitCount_0f7a4_43 : decode cJ6_bitCount_0f7a4 43 = .ok (.bipush 16, 2) := by decide +kernel
theorem dJ6_bitCount_0f7a4_45 : decode cJ6_bitCount_0f7a4 45 = .ok (.iushr, 1) := by decide +kernel
theorem dJ6_bitCount_0f7a4_46 : decode cJ6_bitCount_0f7a4 46 = .ok (.iadd, 1) := by decide +kernel
theorem dJ6_bitCount_0f7a4_47 : decode cJ6_bitCount_0f7a4 47 = .ok (.istore_n 0, 1) := by decide +kernel
theorem dJ6_bitCount_0f7a4_48 : decode cJ6_bitCount_0f7a4 48 = .ok (.iload_n 0, 1) := by decide +kernel
theorem dJ6_bitCount_0f7a4_49 : decode cJ6_bitCount_0f7a4 49 = .ok (.bipush 63, 2) := by decide +kernel
theorem dJ6_bitCount_0f7a4_51 : decode cJ6_bitCount_0f7a4 51 = .ok (.iand, 1) := by decide +kernel
theorem dJ6_bitCount_0f7a4_52 : decode cJ6_bitCount_0f7a4 52 = .ok (.ireturn, 1) := by decide +kernel
theorem dJ9_floorMod_7cf53_0 : decode cJ9_floorMod_7cf53 0 = .ok (.iload_n 0, 1) := by decide +kernel
theorem dJ9_floorMod_7cf53_1 : decode cJ9_floorMod_7cf53 1 = .ok (.iload_n 1, 1) := by decide +kernel
theorem dJ9_floorMod_7cf53_2 : decode cJ9_floorMod_7cf53 2 = .ok (.irem, 1) := by decide +kernel
theorem dJ9_floorMod_7cf53_3 : decode cJ9_floorMod_7cf53 3 = .ok (.istore_n 2, 1) := by decide +kernel
theorem dJ9_floorMod_7cf53_4 : decode cJ9_floorMod_7cf53 4 = .ok (.iload_n 0, 1) := by decide +kernel
theorem dJ9_floorMod_7cf53_5 : decode cJ9_floorMod_7cf53 5 = .ok (.iload_n 1, 1) := by decide +kernel
theorem dJ9_floorMod_7cf53_6 : decode cJ9_floorMod_7cf53 6 = .ok (.ixor, 1) := by decide +kernel
theorem dJ9_floorMod_7cf53_7 : decode cJ9_floorMod_7cf53 7 = .ok (.ifCond .ge 11, 3) := by decide +kernel
theorem dJ9_floorMod_7cf53_10 : decode cJ9_floorMod_7cf53 10 = .ok (.iload_n 2, 1) := by decide +kernel
theorem dJ9_floorMod_7cf53_11 : decode cJ9_floorMod_7cf53 11 = .ok (.ifCond .eq 7, 3) := by decide +kernel
theorem dJ9_floorMod_7cf53_14 : decode cJ9_floorMod_7cf53 14 = .ok (.iload_n 2, 1) := by decide +kernel
theorem dJ9_floorMod_7cf53_15 : decode cJ9_floorMod_7cf53 15 = .ok (.iload_n 1, 1) := by decide +kernel
theorem dJ9_floorMod_7cf53_16 : decode cJ9_floorMod_7cf53 16 = .ok (.iadd, 1) := by decide +kernel
theorem dJ9_floorMod_7cf53_17 : decode cJ9_floorMod_7cf53 17 = .ok (.ireturn, 1) := by decide +kernel
theorem dJ9_floorMod_7cf53_18 : decode cJ9_floorMod_7cf53 18 = .ok (.iload_n 2, 1) := by decide +kernel
theorem dJ9_floorMod_7cf53_19 : decode cJ9_floorMod_7cf53 19 = .ok (.ireturn, 1) := by decide +kernel
theorem dJ9_abs_0f7a4_0 : decode cJ9_abs_0f7a4 0 = .ok (.iload_n 0, 1) := by decide +kernel
theorem dJ9_abs_0f7a4_1 : decode cJ9_abs_0f7a4 1 = .ok (.ifCond .ge 8, 3) := by decide +kernel
theorem dJ9_abs_0f7a4_4 : decode cJ9_abs_0f7a4 4 = .ok (.iload_n 0, 1) := by decide +kernel
theorem dJ9_abs_0f7a4_5 : decode cJ9_abs_0f7a4 5 = .ok (.ineg, 1) := by decide +kernel
theorem dJ9_abs_0f7a4_6 : decode cJ9_abs_0f7a4 6 = .ok (.goto 4, 3) := by decide +kernel
theorem dJ9_abs_0f7a4_9 : decode cJ9_abs_0f7a4 9 = .ok (.iload_n 0, 1) := by decide +kernel
theorem dJ9_abs_0f7a4_10 : decode cJ9_abs_0f7a4 10 = .ok (.ireturn, 1) := by decide +kernel
theorem dJ9_abs_067f4_0 : decode cJ9_abs_067f4 0 = .ok (.lload_n 0, 1) := by decide +kernel
theorem dJ9_abs_067f4_1 : decode cJ9_abs_067f4 1 = .ok (.lconst 0, 1) := by decide +kernel
theorem dJ9_abs_067f4_2 : decode cJ9_abs_067f4 2 = .ok (.lcmp, 1) := by decide +kernel
theorem dJ9_abs_067f4_3 : decode cJ9_abs_067f4 3 = .ok (.ifCond .ge 8, 3) := by decide +kernel
theorem dJ9_abs_067f4_6 : decode cJ9_abs_067f4 6 = .ok (.lload_n 0, 1) := by decide +kernel
theorem dJ9_abs_067f4_7 : decode cJ9_abs_067f4 7 = .ok (.lneg, 1) := by decide +kernel
theorem dJ9_abs_067f4_8 : decode cJ9_abs_067f4 8 = .ok (.goto 4, 3) := by decide +kernel
theorem dJ9_abs_067f4_11 : decode cJ9_abs_067f4 11 = .ok (.lload_n 0, 1) := by decide +kernel
theorem dJ9_abs_067f4_12 : decode cJ9_abs_067f4 12 = .ok (.lreturn, 1) := by decide +kernel
theorem dJ9_max_7cf53_0 : decode cJ9_max_7cf53 0 = .ok (.iload_n 0, 1) := by decide +kernel
theorem dJ9_max_7cf53_1 : decode cJ9_max_7cf53 1 = .ok (.iload_n 1, 1) := by decide +kernel
theorem dJ9_max_7cf53_2 : decode cJ9_max_7cf53 2 = .ok (.if_icmp .lt 7, 3) := by decide +kernel
theorem dJ9_max_7cf53_5 : decode cJ9_max_7cf53 5 = .ok (.iload_n 0, 1) := by decide +kernel
theorem dJ9_max_7cf53_6 : decode cJ9_max_7cf53 6 = .ok (.goto 4, 3) := by decide +kernel
theorem dJ9_max_7cf53_9 : decode cJ9_max_7cf53 9 = .ok (.iload_n 1, 1) := by decide +kernel
theorem dJ9_max_7cf53_10 : decode cJ9_max_7cf53 10 = .ok (.ireturn, 1) := by decide +kernel
theorem dJ9_max_f86c9_0 : decode cJ9_max_f86c9 0 = .ok (.lload_n 0, 1) := by decide +kernel
theorem dJ9_max_f86c9_1 : decode cJ9_max_f86c9 1 = .ok (.lload_n 2, 1) := by decide +kernel
theorem dJ9_max_f86c9_2 : decode cJ9_max_f86c9 2 = .ok (.lcmp, 1) := by decide +kernel
theorem dJ9_max_f86c9_3 : decode cJ9_max_f86c9 3 = .ok (.ifCond .lt 7, 3) := by decide +kernel
theorem dJ9_max_f86c9_6 : decode cJ9_max_f86c9 6 = .ok (.lload_n 0, 1) := by decide +kernel
theorem dJ9_max_f86c9_7 : decode cJ9_max_f86c9 7 = .ok (.goto 4, 3) := by decide +kernel
theorem dJ9_max_f86c9_10 : decode cJ9_max_f86c9 10 = .ok (.lload_n 2, 1) := by decide +kernel
theorem dJ9_max_f86c9_11 : decode cJ9_max_f86c9 11 = .ok (.lreturn, 1) := by decide +kernel
theorem dJ9_min_7cf53_0 : decode cJ9_min_7cf53 0 = .ok (.iload_n 0, 1) := by decide +kernel
theorem dJ9_min_7cf53_1 : decode cJ9_min_7cf53 1 = .ok (.iload_n 1, 1) := by decide +kernel
theorem dJ9_min_7cf53_2 : decode cJ9_min_7cf53 2 = .ok (.if_icmp .gt 7, 3) := by decide +kernel
theorem dJ9_min_7cf53_5 : decode cJ9_min_7cf53 5 = .ok (.iload_n 0, 1) := by decide +kernel
theorem dJ9_min_7cf53_6 : decode cJ9_min_7cf53 6 = .ok (.goto 4, 3) := by decide +kernel
theorem dJ9_min_7cf53_9 : decode cJ9_min_7cf53 9 = .ok (.iload_n 1, 1) := by decide +kernel
theorem dJ9_min_7cf53_10 : decode cJ9_min_7cf53 10 = .ok (.ireturn, 1) := by decide +kernel
theorem dJ9_min_f86c9_0 : decode cJ9_min_f86c9 0 = .ok (.lload_n 0, 1) := by decide +kernel
theorem dJ9_min_f86c9_1 : decode cJ9_min_f86c9 1 = .ok (.lload_n 2, 1) := by decide +kernel
theorem dJ9_min_f86c9_2 : decode cJ9_min_f86c9 2 = .ok (.lcmp, 1) := by decide +kernel
theorem dJ9_min_f86c9_3 : decode cJ9_min_f86c9 3 = .ok (.ifCond .gt 7, 3) := by decide +kernel
theorem dJ9_min_f86c9_6 : decode cJ9_min_f86c9 6 = .ok (.lload_n 0, 1) := by decide +kernel
theorem dJ9_min_f86c9_7 : decode cJ9_min_f86c9 7 = .ok (.goto 4, 3) := by decide +kernel
theorem dJ9_min_f86c9_10 : decode cJ9_min_f86c9 10 = .ok (.lload_n 2, 1) := by decide +kernel
theorem dJ9_min_f86c9_11 : decode cJ9_min_f86c9 11 = .ok (.lreturn, 1) := by decide +kernel
theorem dJ0_length_8abf5_0 : decode cJ0_length_8abf5 0 = .ok (.aload_n 0, 1) := by decide +kernel
theorem dJ0_length_8abf5_1 : decode cJ0_length_8abf5 1 = .ok (.getfield 9, 3) := by decide +kernel
theorem dJ0_length_8abf5_4 : decode cJ0_length_8abf5 4 = .ok (.arraylength, 1) := by decide +kernel
theorem dJ0_length_8abf5_5 : decode cJ0_length_8abf5 5 = .ok (.aload_n 0, 1) := by decide +kernel
theorem dJ0_length_8abf5_6 : decode cJ0_length_8abf5 6 = .ok (.invokevirtual 335, 3) := by decide +kernel
theorem dJ0_length_8abf5_9 : decode cJ0_length_8abf5 9 = .ok (.ishr, 1) := by decide +kernel
theorem dJ0_length_8abf5_10 : decode cJ0_length_8abf5 10 = .ok (.ireturn, 1) := by decide +kernel
theorem dJ0_charAt_5068e_0 : decode cJ0_charAt_5068e 0 = .ok (.aload_n 0, 1) := by decide +kernel
theorem dJ0_charAt_5068e_1 : decode cJ0_charAt_5068e 1 = .ok (.invokevirtual 492, 3) := by decide +kernel
theorem dJ0_charAt_5068e_4 : decode cJ0_charAt_5068e 4 = .ok (.ifCond .eq 12, 3) := by decide +kernel
theorem dJ0_charAt_5068e_7 : decode cJ0_charAt_5068e 7 = .ok (.aload_n 0, 1) := by decide +kernel
theorem dJ0_charAt_5068e_8 : decode cJ0_charAt_5068e 8 = .ok (.getfield 9, 3) := by decide +kernel
theorem dJ0_charAt_5068e_11 : decode cJ0_charAt_5068e 11 = .ok (.iload_n 1, 1) := by decide +kernel
theorem dJ0_charAt_5068e_12 : decode cJ0_charAt_5068e 12 = .ok (.invokestatic 495, 3) := by decide +kernel
theorem dJ0_charAt_5068e_15 : decode cJ0_charAt_5068e 15 = .ok (.ireturn, 1) := by decide +kernel
theorem dJ0_charAt_5068e_16 : decode cJ0_charAt_5068e 16 = .ok (.aload_n 0, 1) := by decide +kernel
theorem dJ0_charAt_5068e_17 : decode cJ0_charAt_5068e 17 = .ok (.getfield 9, 3) := by decide +kernel
theorem dJ0_charAt_5068e_20 : decode cJ0_charAt_5068e 20 = .ok (.iload_n 1, 1) := by decide +kernel
theorem dJ0_charAt_5068e_21 : decode cJ0_charAt_5068e 21 = .ok (.invokestatic 498, 3) := by decide +kernel
theorem dJ0_charAt_5068e_24 : decode cJ0_charAt_5068e 24 = .ok (.ireturn, 1) := by decide +kernel
theorem dJ0_coder_7d493_0 : decode cJ0_coder_7d493 0 = .ok (.getstatic 38, 3) := by decide +kernel
theorem dJ0_coder_7d493_3 : decode cJ0_coder_7d493 3 = .ok (.ifCond .eq 10, 3) := by decide +kernel
theorem dJ0_coder_7d493_6 : decode cJ0_coder_7d493 6 = .ok (.aload_n 0, 1) := by decide +kernel
theorem dJ0_coder_7d493_7 : decode cJ0_coder_7d493 7 = .ok (.getfield 15, 3) := by decide +kernel
theorem dJ0_coder_7d493_10 : decode cJ0_coder_7d493 10 = .ok (.goto 4, 3) := by decide +kernel
theorem dJ0_coder_7d493_13 : decode cJ0_coder_7d493 13 = .ok (.iconst 1, 1) := by decide +kernel
theorem dJ0_coder_7d493_14 : decode cJ0_coder_7d493 14 = .ok (.ireturn, 1) := by decide +kernel
theorem dJ0_isLatin1_aae02_0 : decode cJ0_isLatin1_aae02 0 = .ok (.getstatic 38, 3) := by decide +kernel
theorem dJ0_isLatin1_aae02_3 : decode cJ0_isLatin1_aae02 3 = .ok (.ifCond .eq 14, 3) := by decide +kernel
theorem dJ0_isLatin1_aae02_6 : decode cJ0_isLatin1_aae02 6 = .ok (.aload_n 0, 1) := by decide +kernel
theorem dJ0_isLatin1_aae02_7 : decode cJ0_isLatin1_aae02 7 = .ok (.getfield 15, 3) := by decide +kernel
theorem dJ0_isLatin1_aae02_10 : decode cJ0_isLatin1_aae02 10 = .ok (.ifCond .ne 7, 3) := by decide +kernel
theorem dJ0_isLatin1_aae02_13 : decode cJ0_isLatin1_aae02 13 = .ok (.iconst 1, 1) := by decide +kernel
theorem dJ0_isLatin1_aae02_14 : decode cJ0_isLatin1_aae02 14 = .ok (.goto 4, 3) := by decide +kernel
theorem dJ0_isLatin1_aae02_17 : decode cJ0_isLatin1_aae02 17 = .ok (.iconst 0, 1) := by decide +kernel
theorem dJ0_isLatin1_aae02_18 : decode cJ0_isLatin1_aae02 18 = .ok (.ireturn, 1) := by decide +kernel
theorem dJ0_checkIndex_df160_0 : decode cJ0_checkIndex_df160 0 = .ok (.iload_n 0, 1) := by decide +kernel
theorem dJ0_checkIndex_df160_1 : decode cJ0_checkIndex_df160 1 = .ok (.iload_n 1, 1) := by decide +kernel
theorem dJ0_checkIndex_df160_2 : decode cJ0_checkIndex_df160 2 = .ok (.getstatic 1053, 3) := by decide +kernel
theorem dJ0_checkIndex_df160_5 : decode cJ0_checkIndex_df160 5 = .ok (.invokestatic 1059, 3) := by decide +kernel
theorem dJ0_checkIndex_df160_8 : decode cJ0_checkIndex_df160 8 = .ok (.pop, 1) := by decide +kernel
theorem dJ0_checkIndex_df160_9 : decode cJ0_checkIndex_df160 9 = .ok (.return_, 1) := by decide +kernel
theorem dJ1_charAt_3b067_0 : decode cJ1_charAt_3b067 0 = .ok (.iload_n 1, 1) := by decide +kernel
theorem dJ1_charAt_3b067_1 : decode cJ1_charAt_3b067 1 = .ok (.aload_n 0, 1) := by decide +kernel
theorem dJ1_charAt_3b067_2 : decode cJ1_charAt_3b067 2 = .ok (.arraylength, 1) := by decide +kernel
theorem dJ1_charAt_3b067_3 : decode cJ1_charAt_3b067 3 = .ok (.invokestatic 9, 3) := by decide +kernel
theorem dJ1_charAt_3b067_6 : decode cJ1_charAt_3b067 6 = .ok (.aload_n 0, 1) := by decide +kernel
theorem dJ1_charAt_3b067_7 : decode cJ1_charAt_3b067 7 = .ok (.iload_n 1, 1) := by decide +kernel
theorem dJ1_charAt_3b067_8 : decode cJ1_charAt_3b067 8 = .ok (.baload, 1) := by decide +kernel
theorem dJ1_charAt_3b067_9 : decode cJ1_charAt_3b067 9 = .ok (.sipush 255, 3) := by decide +kernel
theorem dJ1_charAt_3b067_12 : decode cJ1_charAt_3b067 12 = .ok (.iand, 1) := by decide +kernel
theorem dJ1_charAt_3b067_13 : decode cJ1_charAt_3b067 13 = .ok (.i2c, 1) := by decide +kernel
theorem dJ1_charAt_3b067_14 : decode cJ1_charAt_3b067 14 = .ok (.ireturn, 1) := by decide +kernel
theorem dJ2_getChar_3b067_0 : decode cJ2_getChar_3b067 0 = .ok (.getstatic 44, 3) := by decide +kernel
theorem dJ2_getChar_3b067_3 : decode cJ2_getChar_3b067 3 = .ok (.ifCond .ne 25, 3) := by decide +kernel
theorem dJ2_getChar_3b067_6 : decode cJ2_getChar_3b067 6 = .ok (.iload_n 1, 1) := by decide +kernel
theorem dJ2_getChar_3b067_7 : decode cJ2_getChar_3b067 7 = .ok (.ifCond .lt 11, 3) := by decide +kernel
theorem dJ2_getChar_3b067_10 : decode cJ2_getChar_3b067 10 = .ok (.iload_n 1, 1) := by decide +kernel
theorem dJ2_getChar_3b067_11 : decode cJ2_getChar_3b067 11 = .ok (.aload_n 0, 1) := by decide +kernel
theorem dJ2_getChar_3b067_12 : decode cJ2_getChar_3b067 12 = .ok (.invokestatic 48, 3) := by decide +kernel
theorem dJ2_getChar_3b067_15 : decode cJ2_getChar_3b067 15 = .ok (.if_icmp .lt 13, 3) := by decide +kernel
theorem dJ2_getChar_3b067_18 : decode cJ2_getChar_3b067 18 = .ok (.new 52, 3) := by decide +kernel
theorem dJ2_getChar_3b067_21 : decode cJ2_getChar_3b067 21 = .ok (.dup, 1) := by decide +kernel
theorem dJ2_getChar_3b067_22 : decode cJ2_getChar_3b067 22 = .ok (.ldc 54, 2) := by decide +kernel
theorem dJ2_getChar_3b067_24 : decode cJ2_getChar_3b067 24 = .ok (.invokespecial 56, 3) := by decide +kernel
theorem dJ2_getChar_3b067_27 : decode cJ2_getChar_3b067 27 = .ok (.athrow, 1) := by decide +kernel
theorem dJ2_getChar_3b067_28 : decode cJ2_getChar_3b067 28 = .ok (.iload_n 1, 1) := by decide +kernel
theorem dJ2_getChar_3b067_29 : decode cJ2_getChar_3b067 29 = .ok (.iconst 1, 1) := by decide +kernel
theorem dJ2_getChar_3b067_30 : decode cJ2_getChar_3b067 30 = .ok (.ishl, 1) := by decide +kernel
theorem dJ2_getChar_3b067_31 : decode cJ2_getChar_3b067 31 = .ok (.istore_n 1, 1) := by decide +kernel
theorem dJ2_getChar_3b067_32 : decode cJ2_getChar_3b067 32 = .ok (.aload_n 0, 1) := by decide +kernel
theorem dJ2_getChar_3b067_33 : decode cJ2_getChar_3b067 33 = .ok (.iload_n 1, 1) := by decide +kernel
theorem dJ2_getChar_3b067_34 : decode cJ2_getChar_3b067 34 = .ok (.iinc 1 1, 3) := by decide +kernel
theorem dJ2_getChar_3b067_37 : decode cJ2_getChar_3b067 37 = .ok (.baload, 1) := by decide +kernel
theorem dJ2_getChar_3b067_38 : decode cJ2_getChar_3b067 38 = .ok (.sipush 255, 3) := by decide +kernel
theorem dJ2_getChar_3b067_41 : decode cJ2_getChar_3b067 41 = .ok (.iand, 1) := by decide +kernel
theorem dJ2_getChar_3b067_42 : decode cJ2_getChar_3b067 42 = .ok (.getstatic 59, 3) := by decide +kernel
theorem dJ2_getChar_3b067_45 : decode cJ2_getChar_3b067 45 = .ok (.ishl, 1) := by decide +kernel
theorem dJ2_getChar_3b067_46 : decode cJ2_getChar_3b067 46 = .ok (.aload_n 0, 1) := by decide +kernel
theorem dJ2_getChar_3b067_47 : decode cJ2_getChar_3b067 47 = .ok (.iload_n 1, 1) := by decide +kernel
theorem dJ2_getChar_3b067_48 : decode cJ2_getChar_3b067 48 = .ok (.baload, 1) := by decide +kernel
theorem dJ2_getChar_3b067_49 : decode cJ2_getChar_3b067 49 = .ok (.sipush 255, 3) := by decide +kernel
theorem dJ2_getChar_3b067_52 : decode cJ2_getChar_3b067 52 = .ok (.iand, 1) := by decide +kernel
theorem dJ2_getChar_3b067_53 : decode cJ2_getChar_3b067 53 = .ok (.getstatic 63, 3) := by decide +kernel
theorem dJ2_getChar_3b067_56 : decode cJ2_getChar_3b067 56 = .ok (.ishl, 1) := by decide +kernel
theorem dJ2_getChar_3b067_57 : decode cJ2_getChar_3b067 57 = .ok (.ior, 1) := by decide +kernel
theorem dJ2_getChar_3b067_58 : decode cJ2_getChar_3b067 58 = .ok (.i2c, 1) := by decide +kernel
theorem dJ2_getChar_3b067_59 : decode cJ2_getChar_3b067 59 = .ok (.ireturn, 1) := by decide +kernel
theorem dJ2_length_9d52b_0 : decode cJ2_length_9d52b 0 = .ok (.aload_n 0, 1) := by decide +kernel
theorem dJ2_length_9d52b_1 : decode cJ2_length_9d52b 1 = .ok (.arraylength, 1) := by decide +kernel
theorem dJ2_length_9d52b_2 : decode cJ2_length_9d52b 2 = .ok (.iconst 1, 1) := by decide +kernel
theorem dJ2_length_9d52b_3 : decode cJ2_length_9d52b 3 = .ok (.ishr, 1) := by decide +kernel
theorem dJ2_length_9d52b_4 : decode cJ2_length_9d52b 4 = .ok (.ireturn, 1) := by decide +kernel
theorem dJ2_charAt_3b067_0 : decode cJ2_charAt_3b067 0 = .ok (.iload_n 1, 1) := by decide +kernel
theorem dJ2_charAt_3b067_1 : decode cJ2_charAt_3b067 1 = .ok (.aload_n 0, 1) := by decide +kernel
theorem dJ2_charAt_3b067_2 : decode cJ2_charAt_3b067 2 = .ok (.invokestatic 67, 3) := by decide +kernel
theorem dJ2_charAt_3b067_5 : decode cJ2_charAt_3b067 5 = .ok (.aload_n 0, 1) := by decide +kernel
theorem dJ2_charAt_3b067_6 : decode cJ2_charAt_3b067 6 = .ok (.iload_n 1, 1) := by decide +kernel
theorem dJ2_charAt_3b067_7 : decode cJ2_charAt_3b067 7 = .ok (.invokestatic 71, 3) := by decide +kernel
theorem dJ2_charAt_3b067_10 : decode cJ2_charAt_3b067 10 = .ok (.ireturn, 1) := by decide +kernel
theorem dJ2_checkIndex_2214a_0 : decode cJ2_checkIndex_2214a 0 = .ok (.iload_n 0, 1) := by decide +kernel
theorem dJ2_checkIndex_2214a_1 : decode cJ2_checkIndex_2214a 1 = .ok (.aload_n 1, 1) := by decide +kernel
theorem dJ2_checkIndex_2214a_2 : decode cJ2_checkIndex_2214a 2 = .ok (.invokestatic 48, 3) := by decide +kernel
theorem dJ2_checkIndex_2214a_5 : decode cJ2_checkIndex_2214a 5 = .ok (.invokestatic 414, 3) := by decide +kernel
theorem dJ2_checkIndex_2214a_8 : decode cJ2_checkIndex_2214a 8 = .ok (.return_, 1) := by decide +kernel
theorem dJ3_checkIndex_8e157_0 : decode cJ3_checkIndex_8e157 0 = .ok (.iload_n 0, 1) := by decide +kernel
theorem dJ3_checkIndex_8e157_1 : decode cJ3_checkIndex_8e157 1 = .ok (.ifCond .lt 8, 3) := by decide +kernel
theorem dJ3_checkIndex_8e157_4 : decode cJ3_checkIndex_8e157 4 = .ok (.iload_n 0, 1) := by decide +kernel
theorem dJ3_checkIndex_8e157_5 : decode cJ3_checkIndex_8e157 5 = .ok (.iload_n 1, 1) := by decide +kernel
theorem dJ3_checkIndex_8e157_6 : decode cJ3_checkIndex_8e157 6 = .ok (.if_icmp .lt 10, 3) := by decide +kernel
theorem dJ3_checkIndex_8e157_9 : decode cJ3_checkIndex_8e157 9 = .ok (.aload_n 2, 1) := by decide +kernel
theorem dJ3_checkIndex_8e157_10 : decode cJ3_checkIndex_8e157 10 = .ok (.iload_n 0, 1) := by decide +kernel
theorem dJ3_checkIndex_8e157_11 : decode cJ3_checkIndex_8e157 11 = .ok (.iload_n 1, 1) := by decide +kernel
theorem dJ3_checkIndex_8e157_12 : decode cJ3_checkIndex_8e157 12 = .ok (.invokestatic 95, 3) := by decide +kernel
theorem dJ3_checkIndex_8e157_15 : decode cJ3_checkIndex_8e157 15 = .ok (.athrow, 1) := by decide +kernel
theorem dJ3_checkIndex_8e157_16 : decode cJ3_checkIndex_8e157 16 = .ok (.iload_n 0, 1) := by decide +kernel
theorem dJ3_checkIndex_8e157_17 : decode cJ3_checkIndex_8e157 17 = .ok (.ireturn, 1) := by decide +kernel
theorem dL_doing_0 : decode cL_doing 0 = .ok (.aload_n 3, 1) := by decide +kernel
theorem dL_doing_1 : decode cL_doing 1 = .ok (.iconst 0, 1) := by decide +kernel
theorem dL_doing_2 : decode cL_doing 2 = .ok (.aload_n 0, 1) := by decide +kernel
theorem dL_doing_3 : decode cL_doing 3 = .ok (.iload_n 1, 1) := by decide +kernel
theorem dL_doing_4 : decode cL_doing 4 = .ok (.iload_n 2, 1) := by decide +kernel
theorem dL_doing_5 : decode cL_doing 5 = .ok (.invokevirtual 7, 3) := by decide +kernel
theorem dL_doing_8 : decode cL_doing 8 = .ok (.i2l, 1) := by decide +kernel
theorem dL_doing_9 : decode cL_doing 9 = .ok (.lastore, 1) := by decide +kernel
theorem dL_doing_10 : decode cL_doing 10 = .ok (.goto 11, 3) := by decide +kernel
theorem dL_doing_13 : decode cL_doing 13 = .ok (.astore 4, 2) := by decide +kernel
theorem dL_doing_15 : decode cL_doing 15 = .ok (.iconst 1, 1) := by decide +kernel
theorem dL_doing_16 : decode cL_doing 16 = .ok (.ireturn, 1) := by decide +kernel
theorem dL_doing_17 : decode cL_doing 17 = .ok (.astore 4, 2) := by decide +kernel
theorem dL_doing_19 : decode cL_doing 19 = .ok (.iconst 2, 1) := by decide +kernel
theorem dL_doing_20 : decode cL_doing 20 = .ok (.ireturn, 1) := by decide +kernel
theorem dL_doing_21 : decode cL_doing 21 = .ok (.iconst 0, 1) := by decide +kernel
theorem dL_doing_22 : decode cL_doing 22 = .ok (.ireturn, 1) := by decide +kernel
theorem dL_law_0 : decode cL_law 0 = .ok (.new 8, 3) := by decide +kernel
theorem dL_law_3 : decode cL_law 3 = .ok (.dup, 1) := by decide +kernel
theorem dL_law_4 : decode cL_law 4 = .ok (.invokespecial 17, 3) := by decide +kernel
theorem dL_law_7 : decode cL_law 7 = .ok (.astore_n 1, 1) := by decide +kernel
theorem dL_law_8 : decode cL_law 8 = .ok (.new 18, 3) := by decide +kernel
theorem dL_law_11 : decode cL_law 11 = .ok (.dup, 1) := by decide +kernel
theorem dL_law_12 : decode cL_law 12 = .ok (.invokespecial 20, 3) := by decide +kernel
theorem dL_law_15 : decode cL_law 15 = .ok (.astore_n 2, 1) := by decide +kernel
theorem dL_law_16 : decode cL_law 16 = .ok (.iconst 1, 1) := by decide +kernel
theorem dL_law_17 : decode cL_law 17 = .ok (.newarray .long, 2) := by decide +kernel
theorem dL_law_19 : decode cL_law 19 = .ok (.astore_n 3, 1) := by decide +kernel
theorem dL_law_20 : decode cL_law 20 = .ok (.iconst 0, 1) := by decide +kernel
theorem dL_law_21 : decode cL_law 21 = .ok (.istore 4, 2) := by decide +kernel
theorem dL_law_23 : decode cL_law 23 = .ok (.iload 4, 2) := by decide +kernel
theorem dL_law_25 : decode cL_law 25 = .ok (.aload_n 0, 1) := by decide +kernel
theorem dL_law_26 : decode cL_law 26 = .ok (.arraylength, 1) := by decide +kernel
theorem dL_law_27 : decode cL_law 27 = .ok (.bipush 6, 2) := by decide +kernel
theorem dL_law_29 : decode cL_law 29 = .ok (.isub, 1) := by decide +kernel
theorem dL_law_30 : decode cL_law 30 = .ok (.if_icmp .gt 1354, 3) := by decide +kernel
theorem dL_law_33 : decode cL_law 33 = .ok (.aload_n 0, 1) := by decide +kernel
theorem dL_law_34 : decode cL_law 34 = .ok (.iload 4, 2) := by decide +kernel
theorem dL_law_36 : decode cL_law 36 = .ok (.iaload, 1) := by decide +kernel
theorem dL_law_37 : decode cL_law 37 = .ok (.bipush 63, 2) := by decide +kernel
theorem dL_law_39 : decode cL_law 39 = .ok (.iand, 1) := by decide +kernel
theorem dL_law_40 : decode cL_law 40 = .ok (.tableswitch 1338 0 32 #[148, 221, 246, 271, 308, 333, 401, 438, 475, 512, 550, 575, 628, 653, 678, 715, 740, 777, 826, 863, 888, 925, 974, 1012, 1101, 1126, 1151, 1176, 1225, 1274, 1287, 1300, 1313], 148) := by decide +kernel
theorem dL_law_188 : decode cL_law 188 = .ok (.aload_n 1, 1) := by decide +kernel
theorem dL_law_189 : decode cL_law 189 = .ok (.aload_n 0, 1) := by decide +kernel
theorem dL_law_190 : decode cL_law 190 = .ok (.iload 4, 2) := by decide +kernel
theorem dL_law_192 : decode cL_law 192 = .ok (.iconst 1, 1) := by decide +kernel
theorem dL_law_193 : decode cL_law 193 = .ok (.iadd, 1) := by decide +kernel
theorem dL_law_194 : decode cL_law 194 = .ok (.iaload, 1) := by decide +kernel
theorem dL_law_195 : decode cL_law 195 = .ok (.aload_n 0, 1) := by decide +kernel
theorem dL_law_196 : decode cL_law 196 = .ok (.iload 4, 2) := by decide +kernel
theorem dL_law_198 : decode cL_law 198 = .ok (.iconst 2, 1) := by decide +kernel
theorem dL_law_199 : decode cL_law 199 = .ok (.iadd, 1) := by decide +kernel
theorem dL_law_200 : decode cL_law 200 = .ok (.iaload, 1) := by decide +kernel
theorem dL_law_201 : decode cL_law 201 = .ok (.aload_n 0, 1) := by decide +kernel
theorem dL_law_202 : decode cL_law 202 = .ok (.iload 4, 2) := by decide +kernel
theorem dL_law_204 : decode cL_law 204 = .ok (.iconst 3, 1) := by decide +kernel
theorem dL_law_205 : decode cL_law 205 = .ok (.iadd, 1) := by decide +kernel
theorem dL_law_206 : decode cL_law 206 = .ok (.iaload, 1) := by decide +kernel
theorem dL_law_207 : decode cL_law 207 = .ok (.aload_n 0, 1) := by decide +kernel
theorem dL_law_208 : decode cL_law 208 = .ok (.iload 4, 2) := by decide +kernel
theorem dL_law_210 : decode cL_law 210 = .ok (.iconst 4, 1) := by decide +kernel
theorem dL_law_211 : decode cL_law 211 = .ok (.iadd, 1) := by decide +kernel
theorem dL_law_212 : decode cL_law 212 = .ok (.iaload, 1) := by decide +kernel
theorem dL_law_213 : decode cL_law 213 = .ok (.aload_n 0, 1) := by decide +kernel
theorem dL_law_214 : decode cL_law 214 = .ok (.iload 4, 2) := by decide +kernel
theorem dL_law_216 : decode cL_law 216 = .ok (.iconst 5, 1) := by decide +kernel
theorem dL_law_217 : decode cL_law 217 = .ok (.iadd, 1) := by decide +kernel
theorem dL_law_218 : decode cL_law 218 = .ok (.iaload, 1) := by decide +kernel
theorem dL_law_219 : decode cL_law 219 = .ok (.invokevirtual 21, 3) := by decide +kernel
theorem dL_law_222 : decode cL_law 222 = .ok (.aload_n 2, 1) := by decide +kernel
theorem dL_law_223 : decode cL_law 223 = .ok (.aload_n 0, 1) := by decide +kernel
theorem dL_law_224 : decode cL_law 224 = .ok (.iload 4, 2) := by decide +kernel
theorem dL_law_226 : decode cL_law 226 = .ok (.iconst 1, 1) := by decide +kernel
theorem dL_law_227 : decode cL_law 227 = .ok (.iadd, 1) := by decide +kernel
theorem dL_law_228 : decode cL_law 228 = .ok (.iaload, 1) := by decide +kernel
theorem dL_law_229 : decode cL_law 229 = .ok (.aload_n 0, 1) := by decide +kernel
theorem dL_law_230 : decode cL_law 230 = .ok (.iload 4, 2) := by decide +kernel
theorem dL_law_232 : decode cL_law 232 = .ok (.iconst 2, 1) := by decide +kernel
theorem dL_law_233 : decode cL_law 233 = .ok (.iadd, 1) := by decide +kernel
theorem dL_law_234 : decode cL_law 234 = .ok (.iaload, 1) := by decide +kernel
theorem dL_law_235 : decode cL_law 235 = .ok (.aload_n 0, 1) := by decide +kernel
theorem dL_law_236 : decode cL_law 236 = .ok (.iload 4, 2) := by decide +kernel
theorem dL_law_238 : decode cL_law 238 = .ok (.iconst 3, 1) := by decide +kernel
theorem dL_law_239 : decode cL_law 239 = .ok (.iadd, 1) := by decide +kernel
theorem dL_law_240 : decode cL_law 240 = .ok (.iaload, 1) := by decide +kernel
theorem dL_law_241 : decode cL_law 241 = .ok (.aload_n 0, 1) := by decide +kernel
theorem dL_law_242 : decode cL_law 242 = .ok (.iload 4, 2) := by decide +kernel
theorem dL_law_244 : decode cL_law 244 = .ok (.iconst 4, 1) := by decide +kernel
theorem dL_law_245 : decode cL_law 245 = .ok (.iadd, 1) := by decide +kernel
theorem dL_law_246 : decode cL_law 246 = .ok (.iaload, 1) := by decide +kernel
theorem dL_law_247 : decode cL_law 247 = .ok (.aload_n 0, 1) := by decide +kernel
theorem dL_law_248 : decode cL_law 248 = .ok (.iload 4, 2) := by decide +kernel
theorem dL_law_250 : decode cL_law 250 = .ok (.iconst 5, 1) := by decide +kernel
theorem dL_law_251 : decode cL_law 251 = .ok (.iadd, 1) := by decide +kernel
theorem dL_law_252 : decode cL_law 252 = .ok (.iaload, 1) := by decide +kernel
theorem dL_law_253 : decode cL_law 253 = .ok (.invokevirtual 25, 3) := by decide +kernel
theorem dL_law_256 : decode cL_law 256 = .ok (.if_icmp .eq 1122, 3) := by decide +kernel
theorem dL_law_259 : decode cL_law 259 = .ok (.iconst 0, 1) := by decide +kernel
theorem dL_law_260 : decode cL_law 260 = .ok (.ireturn, 1) := by decide +kernel
theorem dL_law_261 : decode cL_law 261 = .ok (.aload_n 1, 1) := by decide +kernel
theorem dL_law_262 : decode cL_law 262 = .ok (.aload_n 0, 1) := by decide +kernel
theorem dL_law_263 : decode cL_law 263 = .ok (.iload 4, 2) := by decide +kernel
theorem dL_law_265 : decode cL_law 265 = .ok (.iconst 1, 1) := by decide +kernel
theorem dL_law_266 : decode cL_law 266 = .ok (.iadd, 1) := by decide +kernel
theorem dL_law_267 : decode cL_law 267 = .ok (.iaload, 1) := by decide +kernel
theorem dL_law_268 : decode cL_law 268 = .ok (.invokevirtual 26, 3) := by decide +kernel
theorem dL_law_271 : decode cL_law 271 = .ok (.aload_n 2, 1) := by decide +kernel
theorem dL_law_272 : decode cL_law 272 = .ok (.aload_n 0, 1) := by decide +kernel
theorem dL_law_273 : decode cL_law 273 = .ok (.iload 4, 2) := by decide +kernel
theorem dL_law_275 : decode cL_law 275 = .ok (.iconst 1, 1) := by decide +kernel
theorem dL_law_276 : decode cL_law 276 = .ok (.iadd, 1) := by decide +kernel
theorem dL_law_277 : decode cL_law 277 = .ok (.iaload, 1) := by decide +kernel
theorem dL_law_278 : decode cL_law 278 = .ok (.invokevirtual 30, 3) := by decide +kernel
theorem dL_law_281 : decode cL_law 281 = .ok (.if_icmp .eq 1097, 3) := by decide +kernel
theorem dL_law_284 : decode cL_law 284 = .ok (.iconst 0, 1) := by decide +kernel
theorem dL_law_285 : decode cL_law 285 = .ok (.ireturn, 1) := by decide +kernel
theorem dL_law_286 : decode cL_law 286 = .ok (.aload_n 1, 1) := by decide +kernel
theorem dL_law_287 : decode cL_law 287 = .ok (.aload_n 0, 1) := by decide +kernel
theorem dL_law_288 : decode cL_law 288 = .ok (.iload 4, 2) := by decide +kernel
theorem dL_law_290 : decode cL_law 290 = .ok (.iconst 1, 1) := by decide +kernel
theorem dL_law_291 : decode cL_law 291 = .ok (.iadd, 1) := by decide +kernel
theorem dL_law_292 : decode cL_law 292 = .ok (.iaload, 1) := by decide +kernel
theorem dL_law_293 : decode cL_law 293 = .ok (.invokevirtual 31, 3) := by decide +kernel
theorem dL_law_296 : decode cL_law 296 = .ok (.aload_n 2, 1) := by decide +kernel
theorem dL_law_297 : decode cL_law 297 = .ok (.aload_n 0, 1) := by decide +kernel
theorem dL_law_298 : decode cL_law 298 = .ok (.iload 4, 2) := by decide +kernel
theorem dL_law_300 : decode cL_law 300 = .ok (.iconst 1, 1) := by decide +kernel
theorem dL_law_301 : decode cL_law 301 = .ok (.iadd, 1) := by decide +kernel
theorem dL_law_302 : decode cL_law 302 = .ok (.iaload, 1) := by decide +kernel
theorem dL_law_303 : decode cL_law 303 = .ok (.invokevirtual 34, 3) := by decide +kernel
theorem dL_law_306 : decode cL_law 306 = .ok (.if_icmp .eq 1072, 3) := by decide +kernel
theorem dL_law_309 : decode cL_law 309 = .ok (.iconst 0, 1) := by decide +kernel
theorem dL_law_310 : decode cL_law 310 = .ok (.ireturn, 1) := by decide +kernel
theorem dL_law_311 : decode cL_law 311 = .ok (.aload_n 1, 1) := by decide +kernel
theorem dL_law_312 : decode cL_law 312 = .ok (.aload_n 0, 1) := by decide +kernel
theorem dL_law_313 : decode cL_law 313 = .ok (.iload 4, 2) := by decide +kernel
theorem dL_law_315 : decode cL_law 315 = .ok (.iconst 1, 1) := by decide +kernel
theorem dL_law_316 : decode cL_law 316 = .ok (.iadd, 1) := by decide +kernel
theorem dL_law_317 : decode cL_law 317 = .ok (.iaload, 1) := by decide +kernel
theorem dL_law_318 : decode cL_law 318 = .ok (.aload_n 0, 1) := by decide +kernel
theorem dL_law_319 : decode cL_law 319 = .ok (.iload 4, 2) := by decide +kernel
theorem dL_law_321 : decode cL_law 321 = .ok (.iconst 2, 1) := by decide +kernel
theorem dL_law_322 : decode cL_law 322 = .ok (.iadd, 1) := by decide +kernel
theorem dL_law_323 : decode cL_law 323 = .ok (.iaload, 1) := by decide +kernel
theorem dL_law_324 : decode cL_law 324 = .ok (.invokevirtual 35, 3) := by decide +kernel
theorem dL_law_327 : decode cL_law 327 = .ok (.aload_n 2, 1) := by decide +kernel
theorem dL_law_328 : decode cL_law 328 = .ok (.aload_n 0, 1) := by decide +kernel
theorem dL_law_329 : decode cL_law 329 = .ok (.iload 4, 2) := by decide +kernel
theorem dL_law_331 : decode cL_law 331 = .ok (.iconst 1, 1) := by decide +kernel
theorem dL_law_332 : decode cL_law 332 = .ok (.iadd, 1) := by decide +kernel
theorem dL_law_333 : decode cL_law 333 = .ok (.iaload, 1) := by decide +kernel
theorem dL_law_334 : decode cL_law 334 = .ok (.aload_n 0, 1) := by decide +kernel
theorem dL_law_335 : decode cL_law 335 = .ok (.iload 4, 2) := by decide +kernel
theorem dL_law_337 : decode cL_law 337 = .ok (.iconst 2, 1) := by decide +kernel
theorem dL_law_338 : decode cL_law 338 = .ok (.iadd, 1) := by decide +kernel
theorem dL_law_339 : decode cL_law 339 = .ok (.iaload, 1) := by decide +kernel
theorem dL_law_340 : decode cL_law 340 = .ok (.invokevirtual 38, 3) := by decide +kernel
theorem dL_law_343 : decode cL_law 343 = .ok (.if_icmp .eq 1035, 3) := by decide +kernel
theorem dL_law_346 : decode cL_law 346 = .ok (.iconst 0, 1) := by decide +kernel
theorem dL_law_347 : decode cL_law 347 = .ok (.ireturn, 1) := by decide +kernel
theorem dL_law_348 : decode cL_law 348 = .ok (.aload_n 1, 1) := by decide +kernel
theorem dL_law_349 : decode cL_law 349 = .ok (.aload_n 0, 1) := by decide +kernel
theorem dL_law_350 : decode cL_law 350 = .ok (.iload 4, 2) := by decide +kernel
theorem dL_law_352 : decode cL_law 352 = .ok (.iconst 1, 1) := by decide +kernel
theorem dL_law_353 : decode cL_law 353 = .ok (.iadd, 1) := by decide +kernel
theorem dL_law_354 : decode cL_law 354 = .ok (.iaload, 1) := by decide +kernel
theorem dL_law_355 : decode cL_law 355 = .ok (.invokevirtual 39, 3) := by decide +kernel
theorem dL_law_358 : decode cL_law 358 = .ok (.aload_n 2, 1) := by decide +kernel
theorem dL_law_359 : decode cL_law 359 = .ok (.aload_n 0, 1) := by decide +kernel
theorem dL_law_360 : decode cL_law 360 = .ok (.iload 4, 2) := by decide +kernel
theorem dL_law_362 : decode cL_law 362 = .ok (.iconst 1, 1) := by decide +kernel
theorem dL_law_363 : decode cL_law 363 = .ok (.iadd, 1) := by decide +kernel
theorem dL_law_364 : decode cL_law 364 = .ok (.iaload, 1) := by decide +kernel
theorem dL_law_365 : decode cL_law 365 = .ok (.invokevirtual 42, 3) := by decide +kernel
theorem dL_law_368 : decode cL_law 368 = .ok (.if_icmp .eq 1010, 3) := by decide +kernel
theorem dL_law_371 : decode cL_law 371 = .ok (.iconst 0, 1) := by decide +kernel
theorem dL_law_372 : decode cL_law 372 = .ok (.ireturn, 1) := by decide +kernel
theorem dL_law_373 : decode cL_law 373 = .ok (.aload_n 1, 1) := by decide +kernel
theorem dL_law_374 : decode cL_law 374 = .ok (.aload_n 0, 1) := by decide +kernel
theorem dL_law_375 : decode cL_law 375 = .ok (.iload 4, 2) := by decide +kernel
theorem dL_law_377 : decode cL_law 377 = .ok (.iconst 1, 1) := by decide +kernel
theorem dL_law_378 : decode cL_law 378 = .ok (.iadd, 1) := by decide +kernel
theorem dL_law_379 : decode cL_law 379 = .ok (.iaload, 1) := by decide +kernel
theorem dL_law_380 : decode cL_law 380 = .ok (.aload_n 0, 1) := by decide +kernel
theorem dL_law_381 : decode cL_law 381 = .ok (.iload 4, 2) := by decide +kernel
theorem dL_law_383 : decode cL_law 383 = .ok (.iconst 2, 1) := by decide +kernel
theorem dL_law_384 : decode cL_law 384 = .ok (.iadd, 1) := by decide +kernel
theorem dL_law_385 : decode cL_law 385 = .ok (.iaload, 1) := by decide +kernel
theorem dL_law_386 : decode cL_law 386 = .ok (.aload_n 3, 1) := by decide +kernel
theorem dL_law_387 : decode cL_law 387 = .ok (.invokestatic 43, 3) := by decide +kernel
theorem dL_law_390 : decode cL_law 390 = .ok (.istore 5, 2) := by decide +kernel
theorem dL_law_392 : decode cL_law 392 = .ok (.aload_n 2, 1) := by decide +kernel
theorem dL_law_393 : decode cL_law 393 = .ok (.aload_n 0, 1) := by decide +kernel
theorem dL_law_394 : decode cL_law 394 = .ok (.iload 4, 2) := by decide +kernel
theorem dL_law_396 : decode cL_law 396 = .ok (.iconst 1, 1) := by decide +kernel
theorem dL_law_397 : decode cL_law 397 = .ok (.iadd, 1) := by decide +kernel
theorem dL_law_398 : decode cL_law 398 = .ok (.iaload, 1) := by decide +kernel
theorem dL_law_399 : decode cL_law 399 = .ok (.aload_n 0, 1) := by decide +kernel
theorem dL_law_400 : decode cL_law 400 = .ok (.iload 4, 2) := by decide +kernel
theorem dL_law_402 : decode cL_law 402 = .ok (.iconst 2, 1) := by decide +kernel
theorem dL_law_403 : decode cL_law 403 = .ok (.iadd, 1) := by decide +kernel
theorem dL_law_404 : decode cL_law 404 = .ok (.iaload, 1) := by decide +kernel
theorem dL_law_405 : decode cL_law 405 = .ok (.invokevirtual 48, 3) := by decide +kernel
theorem dL_law_408 : decode cL_law 408 = .ok (.istore 6, 2) := by decide +kernel
theorem dL_law_410 : decode cL_law 410 = .ok (.aload_n 2, 1) := by decide +kernel
theorem dL_law_411 : decode cL_law 411 = .ok (.invokevirtual 49, 3) := by decide +kernel
theorem dL_law_414 : decode cL_law 414 = .ok (.iload 5, 2) := by decide +kernel
theorem dL_law_416 : decode cL_law 416 = .ok (.if_icmp .eq 5, 3) := by decide +kernel
theorem dL_law_419 : decode cL_law 419 = .ok (.iconst 0, 1) := by decide +kernel
theorem dL_law_420 : decode cL_law 420 = .ok (.ireturn, 1) := by decide +kernel
theorem dL_law_421 : decode cL_law 421 = .ok (.iload 5, 2) := by decide +kernel
theorem dL_law_423 : decode cL_law 423 = .ok (.ifCond .ne 15, 3) := by decide +kernel
theorem dL_law_426 : decode cL_law 426 = .ok (.aload_n 3, 1) := by decide +kernel
theorem dL_law_427 : decode cL_law 427 = .ok (.iconst 0, 1) := by decide +kernel
theorem dL_law_428 : decode cL_law 428 = .ok (.laload, 1) := by decide +kernel
theorem dL_law_429 : decode cL_law 429 = .ok (.iload 6, 2) := by decide +kernel
theorem dL_law_431 : decode cL_law 431 = .ok (.i2l, 1) := by decide +kernel
theorem dL_law_432 : decode cL_law 432 = .ok (.lcmp, 1) := by decide +kernel
theorem dL_law_433 : decode cL_law 433 = .ok (.ifCond .eq 5, 3) := by decide +kernel
theorem dL_law_436 : decode cL_law 436 = .ok (.iconst 0, 1) := by decide +kernel
theorem dL_law_437 : decode cL_law 437 = .ok (.ireturn, 1) := by decide +kernel
theorem dL_law_438 : decode cL_law 438 = .ok (.goto 940, 3) := by decide +kernel
theorem dL_law_441 : decode cL_law 441 = .ok (.aload_n 1, 1) := by decide +kernel
theorem dL_law_442 : decode cL_law 442 = .ok (.aload_n 0, 1) := by decide +kernel
theorem dL_law_443 : decode cL_law 443 = .ok (.iload 4, 2) := by decide +kernel
theorem dL_law_445 : decode cL_law 445 = .ok (.iconst 1, 1) := by decide +kernel
theorem dL_law_446 : decode cL_law 446 = .ok (.iadd, 1) := by decide +kernel
theorem dL_law_447 : decode cL_law 447 = .ok (.iaload, 1) := by decide +kernel
theorem dL_law_448 : decode cL_law 448 = .ok (.aload_n 0, 1) := by decide +kernel
theorem dL_law_449 : decode cL_law 449 = .ok (.iload 4, 2) := by decide +kernel
theorem dL_law_451 : decode cL_law 451 = .ok (.iconst 2, 1) := by decide +kernel
theorem dL_law_452 : decode cL_law 452 = .ok (.iadd, 1) := by decide +kernel
theorem dL_law_453 : decode cL_law 453 = .ok (.iaload, 1) := by decide +kernel
theorem dL_law_454 : decode cL_law 454 = .ok (.invokevirtual 53, 3) := by decide +kernel
theorem dL_law_457 : decode cL_law 457 = .ok (.aload_n 2, 1) := by decide +kernel
theorem dL_law_458 : decode cL_law 458 = .ok (.aload_n 0, 1) := by decide +kernel
theorem dL_law_459 : decode cL_law 459 = .ok (.iload 4, 2) := by decide +kernel
theorem dL_law_461 : decode cL_law 461 = .ok (.iconst 1, 1) := by decide +kernel
theorem dL_law_462 : decode cL_law 462 = .ok (.iadd, 1) := by decide +kernel
theorem dL_law_463 : decode cL_law 463 = .ok (.iaload, 1) := by decide +kernel
theorem dL_law_464 : decode cL_law 464 = .ok (.aload_n 0, 1) := by decide +kernel
theorem dL_law_465 : decode cL_law 465 = .ok (.iload 4, 2) := by decide +kernel
theorem dL_law_467 : decode cL_law 467 = .ok (.iconst 2, 1) := by decide +kernel
theorem dL_law_468 : decode cL_law 468 = .ok (.iadd, 1) := by decide +kernel
theorem dL_law_469 : decode cL_law 469 = .ok (.iaload, 1) := by decide +kernel
theorem dL_law_470 : decode cL_law 470 = .ok (.invokevirtual 56, 3) := by decide +kernel
theorem dL_law_473 : decode cL_law 473 = .ok (.if_icmp .eq 905, 3) := by decide +kernel
theorem dL_law_476 : decode cL_law 476 = .ok (.iconst 0, 1) := by decide +kernel
theorem dL_law_477 : decode cL_law 477 = .ok (.ireturn, 1) := by decide +kernel
theorem dL_law_478 : decode cL_law 478 = .ok (.aload_n 1, 1) := by decide +kernel
theorem dL_law_479 : decode cL_law 479 = .ok (.aload_n 0, 1) := by decide +kernel
theorem dL_law_480 : decode cL_law 480 = .ok (.iload 4, 2) := by decide +kernel
theorem dL_law_482 : decode cL_law 482 = .ok (.iconst 1, 1) := by decide +kernel
theorem dL_law_483 : decode cL_law 483 = .ok (.iadd, 1) := by decide +kernel
theorem dL_law_484 : decode cL_law 484 = .ok (.iaload, 1) := by decide +kernel
theorem dL_law_485 : decode cL_law 485 = .ok (.aload_n 0, 1) := by decide +kernel
theorem dL_law_486 : decode cL_law 486 = .ok (.iload 4, 2) := by decide +kernel
theorem dL_law_488 : decode cL_law 488 = .ok (.iconst 2, 1) := by decide +kernel
theorem dL_law_489 : decode cL_law 489 = .ok (.iadd, 1) := by decide +kernel
theorem dL_law_490 : decode cL_law 490 = .ok (.iaload, 1) := by decide +kernel
theorem dL_law_491 : decode cL_law 491 = .ok (.invokevirtual 57, 3) := by decide +kernel
theorem dL_law_494 : decode cL_law 494 = .ok (.aload_n 2, 1) := by decide +kernel
theorem dL_law_495 : decode cL_law 495 = .ok (.aload_n 0, 1) := by decide +kernel
theorem dL_law_496 : decode cL_law 496 = .ok (.iload 4, 2) := by decide +kernel
theorem dL_law_498 : decode cL_law 498 = .ok (.iconst 1, 1) := by decide +kernel
theorem dL_law_499 : decode cL_law 499 = .ok (.iadd, 1) := by decide +kernel
theorem dL_law_500 : decode cL_law 500 = .ok (.iaload, 1) := by decide +kernel
theorem dL_law_501 : decode cL_law 501 = .ok (.aload_n 0, 1) := by decide +kernel
theorem dL_law_502 : decode cL_law 502 = .ok (.iload 4, 2) := by decide +kernel
theorem dL_law_504 : decode cL_law 504 = .ok (.iconst 2, 1) := by decide +kernel
theorem dL_law_505 : decode cL_law 505 = .ok (.iadd, 1) := by decide +kernel
theorem dL_law_506 : decode cL_law 506 = .ok (.iaload, 1) := by decide +kernel
theorem dL_law_507 : decode cL_law 507 = .ok (.invokevirtual 60, 3) := by decide +kernel
theorem dL_law_510 : decode cL_law 510 = .ok (.if_icmp .eq 868, 3) := by decide +kernel
theorem dL_law_513 : decode cL_law 513 = .ok (.iconst 0, 1) := by decide +kernel
theorem dL_law_514 : decode cL_law 514 = .ok (.ireturn, 1) := by decide +kernel
theorem dL_law_515 : decode cL_law 515 = .ok (.aload_n 1, 1) := by decide +kernel
theorem dL_law_516 : decode cL_law 516 = .ok (.aload_n 0, 1) := by decide +kernel
theorem dL_law_517 : decode cL_law 517 = .ok (.iload 4, 2) := by decide +kernel
theorem dL_law_519 : decode cL_law 519 = .ok (.iconst 1, 1) := by decide +kernel
theorem dL_law_520 : decode cL_law 520 = .ok (.iadd, 1) := by decide +kernel
theorem dL_law_521 : decode cL_law 521 = .ok (.iaload, 1) := by decide +kernel
theorem dL_law_522 : decode cL_law 522 = .ok (.aload_n 0, 1) := by decide +kernel
theorem dL_law_523 : decode cL_law 523 = .ok (.iload 4, 2) := by decide +kernel
theorem dL_law_525 : decode cL_law 525 = .ok (.iconst 2, 1) := by decide +kernel
theorem dL_law_526 : decode cL_law 526 = .ok (.iadd, 1) := by decide +kernel
theorem dL_law_527 : decode cL_law 527 = .ok (.iaload, 1) := by decide +kernel
theorem dL_law_528 : decode cL_law 528 = .ok (.invokevirtual 61, 3) := by decide +kernel
theorem dL_law_531 : decode cL_law 531 = .ok (.aload_n 2, 1) := by decide +kernel
theorem dL_law_532 : decode cL_law 532 = .ok (.aload_n 0, 1) := by decide +kernel
theorem dL_law_533 : decode cL_law 533 = .ok (.iload 4, 2) := by decide +kernel
theorem dL_law_535 : decode cL_law 535 = .ok (.iconst 1, 1) := by decide +kernel
theorem dL_law_536 : decode cL_law 536 = .ok (.iadd, 1) := by decide +kernel
theorem dL_law_537 : decode cL_law 537 = .ok (.iaload, 1) := by decide +kernel
theorem dL_law_538 : decode cL_law 538 = .ok (.aload_n 0, 1) := by decide +kernel
theorem dL_law_539 : decode cL_law 539 = .ok (.iload 4, 2) := by decide +kernel
theorem dL_law_541 : decode cL_law 541 = .ok (.iconst 2, 1) := by decide +kernel
theorem dL_law_542 : decode cL_law 542 = .ok (.iadd, 1) := by decide +kernel
theorem dL_law_543 : decode cL_law 543 = .ok (.iaload, 1) := by decide +kernel
theorem dL_law_544 : decode cL_law 544 = .ok (.invokevirtual 64, 3) := by decide +kernel
theorem dL_law_547 : decode cL_law 547 = .ok (.if_icmp .eq 831, 3) := by decide +kernel
theorem dL_law_550 : decode cL_law 550 = .ok (.iconst 0, 1) := by decide +kernel
theorem dL_law_551 : decode cL_law 551 = .ok (.ireturn, 1) := by decide +kernel
theorem dL_law_552 : decode cL_law 552 = .ok (.aload_n 1, 1) := by decide +kernel
theorem dL_law_553 : decode cL_law 553 = .ok (.aload_n 0, 1) := by decide +kernel
theorem dL_law_554 : decode cL_law 554 = .ok (.iload 4, 2) := by decide +kernel
theorem dL_law_556 : decode cL_law 556 = .ok (.iconst 1, 1) := by decide +kernel
theorem dL_law_557 : decode cL_law 557 = .ok (.iadd, 1) := by decide +kernel
theorem dL_law_558 : decode cL_law 558 = .ok (.iaload, 1) := by decide +kernel
theorem dL_law_559 : decode cL_law 559 = .ok (.aload_n 0, 1) := by decide +kernel
theorem dL_law_560 : decode cL_law 560 = .ok (.iload 4, 2) := by decide +kernel
theorem dL_law_562 : decode cL_law 562 = .ok (.iconst 2, 1) := by decide +kernel
theorem dL_law_563 : decode cL_law 563 = .ok (.iadd, 1) := by decide +kernel
theorem dL_law_564 : decode cL_law 564 = .ok (.iaload, 1) := by decide +kernel
theorem dL_law_565 : decode cL_law 565 = .ok (.invokevirtual 65, 3) := by decide +kernel
theorem dL_law_568 : decode cL_law 568 = .ok (.aload_n 2, 1) := by decide +kernel
theorem dL_law_569 : decode cL_law 569 = .ok (.aload_n 0, 1) := by decide +kernel
theorem dL_law_570 : decode cL_law 570 = .ok (.iload 4, 2) := by decide +kernel
theorem dL_law_572 : decode cL_law 572 = .ok (.iconst 1, 1) := by decide +kernel
theorem dL_law_573 : decode cL_law 573 = .ok (.iadd, 1) := by decide +kernel
theorem dL_law_574 : decode cL_law 574 = .ok (.iaload, 1) := by decide +kernel
theorem dL_law_575 : decode cL_law 575 = .ok (.aload_n 0, 1) := by decide +kernel
theorem dL_law_576 : decode cL_law 576 = .ok (.iload 4, 2) := by decide +kernel
theorem dL_law_578 : decode cL_law 578 = .ok (.iconst 2, 1) := by decide +kernel
theorem dL_law_579 : decode cL_law 579 = .ok (.iadd, 1) := by decide +kernel
theorem dL_law_580 : decode cL_law 580 = .ok (.iaload, 1) := by decide +kernel
theorem dL_law_581 : decode cL_law 581 = .ok (.invokevirtual 69, 3) := by decide +kernel
theorem dL_law_584 : decode cL_law 584 = .ok (.lcmp, 1) := by decide +kernel
theorem dL_law_585 : decode cL_law 585 = .ok (.ifCond .eq 793, 3) := by decide +kernel
theorem dL_law_588 : decode cL_law 588 = .ok (.iconst 0, 1) := by decide +kernel
theorem dL_law_589 : decode cL_law 589 = .ok (.ireturn, 1) := by decide +kernel
theorem dL_law_590 : decode cL_law 590 = .ok (.aload_n 1, 1) := by decide +kernel
theorem dL_law_591 : decode cL_law 591 = .ok (.aload_n 0, 1) := by decide +kernel
theorem dL_law_592 : decode cL_law 592 = .ok (.iload 4, 2) := by decide +kernel
theorem dL_law_594 : decode cL_law 594 = .ok (.iconst 1, 1) := by decide +kernel
theorem dL_law_595 : decode cL_law 595 = .ok (.iadd, 1) := by decide +kernel
theorem dL_law_596 : decode cL_law 596 = .ok (.iaload, 1) := by decide +kernel
theorem dL_law_597 : decode cL_law 597 = .ok (.invokevirtual 70, 3) := by decide +kernel
theorem dL_law_600 : decode cL_law 600 = .ok (.aload_n 2, 1) := by decide +kernel
theorem dL_law_601 : decode cL_law 601 = .ok (.aload_n 0, 1) := by decide +kernel
theorem dL_law_602 : decode cL_law 602 = .ok (.iload 4, 2) := by decide +kernel
theorem dL_law_604 : decode cL_law 604 = .ok (.iconst 1, 1) := by decide +kernel
theorem dL_law_605 : decode cL_law 605 = .ok (.iadd, 1) := by decide +kernel
theorem dL_law_606 : decode cL_law 606 = .ok (.iaload, 1) := by decide +kernel
theorem dL_law_607 : decode cL_law 607 = .ok (.invokevirtual 73, 3) := by decide +kernel
theorem dL_law_610 : decode cL_law 610 = .ok (.if_icmp .eq 768, 3) := by decide +kernel
theorem dL_law_613 : decode cL_law 613 = .ok (.iconst 0, 1) := by decide +kernel
theorem dL_law_614 : decode cL_law 614 = .ok (.ireturn, 1) := by decide +kernel
theorem dL_law_615 : decode cL_law 615 = .ok (.aload_n 1, 1) := by decide +kernel
theorem dL_law_616 : decode cL_law 616 = .ok (.aload_n 0, 1) := by decide +kernel
theorem dL_law_617 : decode cL_law 617 = .ok (.iload 4, 2) := by decide +kernel
theorem dL_law_619 : decode cL_law 619 = .ok (.iconst 1, 1) := by decide +kernel
theorem dL_law_620 : decode cL_law 620 = .ok (.iadd, 1) := by decide +kernel
theorem dL_law_621 : decode cL_law 621 = .ok (.iaload, 1) := by decide +kernel
theorem dL_law_622 : decode cL_law 622 = .ok (.aload_n 0, 1) := by decide +kernel
theorem dL_law_623 : decode cL_law 623 = .ok (.iload 4, 2) := by decide +kernel
theorem dL_law_625 : decode cL_law 625 = .ok (.iconst 2, 1) := by decide +kernel
theorem dL_law_626 : decode cL_law 626 = .ok (.iadd, 1) := by decide +kernel
theorem dL_law_627 : decode cL_law 627 = .ok (.iaload, 1) := by decide +kernel
theorem dL_law_628 : decode cL_law 628 = .ok (.ifCond .eq 7, 3) := by decide +kernel
theorem dL_law_631 : decode cL_law 631 = .ok (.iconst 1, 1) := by decide +kernel
theorem dL_law_632 : decode cL_law 632 = .ok (.goto 4, 3) := by decide +kernel
theorem dL_law_635 : decode cL_law 635 = .ok (.iconst 0, 1) := by decide +kernel
theorem dL_law_636 : decode cL_law 636 = .ok (.invokevirtual 74, 3) := by decide +kernel
theorem dL_law_639 : decode cL_law 639 = .ok (.aload_n 2, 1) := by decide +kernel
theorem dL_law_640 : decode cL_law 640 = .ok (.aload_n 0, 1) := by decide +kernel
theorem dL_law_641 : decode cL_law 641 = .ok (.iload 4, 2) := by decide +kernel
theorem dL_law_643 : decode cL_law 643 = .ok (.iconst 1, 1) := by decide +kernel
theorem dL_law_644 : decode cL_law 644 = .ok (.iadd, 1) := by decide +kernel
theorem dL_law_645 : decode cL_law 645 = .ok (.iaload, 1) := by decide +kernel
theorem dL_law_646 : decode cL_law 646 = .ok (.aload_n 0, 1) := by decide +kernel
theorem dL_law_647 : decode cL_law 647 = .ok (.iload 4, 2) := by decide +kernel
theorem dL_law_649 : decode cL_law 649 = .ok (.iconst 2, 1) := by decide +kernel
theorem dL_law_650 : decode cL_law 650 = .ok (.iadd, 1) := by decide +kernel
theorem dL_law_651 : decode cL_law 651 = .ok (.iaload, 1) := by decide +kernel
theorem dL_law_652 : decode cL_law 652 = .ok (.ifCond .eq 7, 3) := by decide +kernel
theorem dL_law_655 : decode cL_law 655 = .ok (.iconst 1, 1) := by decide +kernel
theorem dL_law_656 : decode cL_law 656 = .ok (.goto 4, 3) := by decide +kernel
theorem dL_law_659 : decode cL_law 659 = .ok (.iconst 0, 1) := by decide +kernel
theorem dL_law_660 : decode cL_law 660 = .ok (.invokevirtual 78, 3) := by decide +kernel
theorem dL_law_663 : decode cL_law 663 = .ok (.if_icmp .eq 715, 3) := by decide +kernel
theorem dL_law_666 : decode cL_law 666 = .ok (.iconst 0, 1) := by decide +kernel
theorem dL_law_667 : decode cL_law 667 = .ok (.ireturn, 1) := by decide +kernel
theorem dL_law_668 : decode cL_law 668 = .ok (.aload_n 1, 1) := by decide +kernel
theorem dL_law_669 : decode cL_law 669 = .ok (.aload_n 0, 1) := by decide +kernel
theorem dL_law_670 : decode cL_law 670 = .ok (.iload 4, 2) := by decide +kernel
theorem dL_law_672 : decode cL_law 672 = .ok (.iconst 1, 1) := by decide +kernel
theorem dL_law_673 : decode cL_law 673 = .ok (.iadd, 1) := by decide +kernel
theorem dL_law_674 : decode cL_law 674 = .ok (.iaload, 1) := by decide +kernel
theorem dL_law_675 : decode cL_law 675 = .ok (.invokevirtual 79, 3) := by decide +kernel
theorem dL_law_678 : decode cL_law 678 = .ok (.aload_n 2, 1) := by decide +kernel
theorem dL_law_679 : decode cL_law 679 = .ok (.aload_n 0, 1) := by decide +kernel
theorem dL_law_680 : decode cL_law 680 = .ok (.iload 4, 2) := by decide +kernel
theorem dL_law_682 : decode cL_law 682 = .ok (.iconst 1, 1) := by decide +kernel
theorem dL_law_683 : decode cL_law 683 = .ok (.iadd, 1) := by decide +kernel
theorem dL_law_684 : decode cL_law 684 = .ok (.iaload, 1) := by decide +kernel
theorem dL_law_685 : decode cL_law 685 = .ok (.invokevirtual 83, 3) := by decide +kernel
theorem dL_law_688 : decode cL_law 688 = .ok (.if_icmp .eq 690, 3) := by decide +kernel
theorem dL_law_691 : decode cL_law 691 = .ok (.iconst 0, 1) := by decide +kernel
theorem dL_law_692 : decode cL_law 692 = .ok (.ireturn, 1) := by decide +kernel
theorem dL_law_693 : decode cL_law 693 = .ok (.aload_n 1, 1) := by decide +kernel
theorem dL_law_694 : decode cL_law 694 = .ok (.aload_n 0, 1) := by decide +kernel
theorem dL_law_695 : decode cL_law 695 = .ok (.iload 4, 2) := by decide +kernel
theorem dL_law_697 : decode cL_law 697 = .ok (.iconst 1, 1) := by decide +kernel
theorem dL_law_698 : decode cL_law 698 = .ok (.iadd, 1) := by decide +kernel
theorem dL_law_699 : decode cL_law 699 = .ok (.iaload, 1) := by decide +kernel
theorem dL_law_700 : decode cL_law 700 = .ok (.invokevirtual 84, 3) := by decide +kernel
theorem dL_law_703 : decode cL_law 703 = .ok (.aload_n 2, 1) := by decide +kernel
theorem dL_law_704 : decode cL_law 704 = .ok (.aload_n 0, 1) := by decide +kernel
theorem dL_law_705 : decode cL_law 705 = .ok (.iload 4, 2) := by decide +kernel
theorem dL_law_707 : decode cL_law 707 = .ok (.iconst 1, 1) := by decide +kernel
theorem dL_law_708 : decode cL_law 708 = .ok (.iadd, 1) := by decide +kernel
theorem dL_law_709 : decode cL_law 709 = .ok (.iaload, 1) := by decide +kernel
theorem dL_law_710 : decode cL_law 710 = .ok (.invokevirtual 87, 3) := by decide +kernel
theorem dL_law_713 : decode cL_law 713 = .ok (.if_icmp .eq 665, 3) := by decide +kernel
theorem dL_law_716 : decode cL_law 716 = .ok (.iconst 0, 1) := by decide +kernel
theorem dL_law_717 : decode cL_law 717 = .ok (.ireturn, 1) := by decide +kernel
theorem dL_law_718 : decode cL_law 718 = .ok (.aload_n 1, 1) := by decide +kernel
theorem dL_law_719 : decode cL_law 719 = .ok (.aload_n 0, 1) := by decide +kernel
theorem dL_law_720 : decode cL_law 720 = .ok (.iload 4, 2) := by decide +kernel
theorem dL_law_722 : decode cL_law 722 = .ok (.iconst 1, 1) := by decide +kernel
theorem dL_law_723 : decode cL_law 723 = .ok (.iadd, 1) := by decide +kernel
theorem dL_law_724 : decode cL_law 724 = .ok (.iaload, 1) := by decide +kernel
theorem dL_law_725 : decode cL_law 725 = .ok (.aload_n 0, 1) := by decide +kernel
theorem dL_law_726 : decode cL_law 726 = .ok (.iload 4, 2) := by decide +kernel
theorem dL_law_728 : decode cL_law 728 = .ok (.iconst 2, 1) := by decide +kernel
theorem dL_law_729 : decode cL_law 729 = .ok (.iadd, 1) := by decide +kernel
theorem dL_law_730 : decode cL_law 730 = .ok (.iaload, 1) := by decide +kernel
theorem dL_law_731 : decode cL_law 731 = .ok (.invokevirtual 88, 3) := by decide +kernel
theorem dL_law_734 : decode cL_law 734 = .ok (.aload_n 2, 1) := by decide +kernel
theorem dL_law_735 : decode cL_law 735 = .ok (.aload_n 0, 1) := by decide +kernel
theorem dL_law_736 : decode cL_law 736 = .ok (.iload 4, 2) := by decide +kernel
theorem dL_law_738 : decode cL_law 738 = .ok (.iconst 1, 1) := by decide +kernel
theorem dL_law_739 : decode cL_law 739 = .ok (.iadd, 1) := by decide +kernel
theorem dL_law_740 : decode cL_law 740 = .ok (.iaload, 1) := by decide +kernel
theorem dL_law_741 : decode cL_law 741 = .ok (.aload_n 0, 1) := by decide +kernel
theorem dL_law_742 : decode cL_law 742 = .ok (.iload 4, 2) := by decide +kernel
theorem dL_law_744 : decode cL_law 744 = .ok (.iconst 2, 1) := by decide +kernel
theorem dL_law_745 : decode cL_law 745 = .ok (.iadd, 1) := by decide +kernel
theorem dL_law_746 : decode cL_law 746 = .ok (.iaload, 1) := by decide +kernel
theorem dL_law_747 : decode cL_law 747 = .ok (.invokevirtual 91, 3) := by decide +kernel
theorem dL_law_750 : decode cL_law 750 = .ok (.if_icmp .eq 628, 3) := by decide +kernel
theorem dL_law_753 : decode cL_law 753 = .ok (.iconst 0, 1) := by decide +kernel
theorem dL_law_754 : decode cL_law 754 = .ok (.ireturn, 1) := by decide +kernel
theorem dL_law_755 : decode cL_law 755 = .ok (.aload_n 1, 1) := by decide +kernel
theorem dL_law_756 : decode cL_law 756 = .ok (.aload_n 0, 1) := by decide +kernel
theorem dL_law_757 : decode cL_law 757 = .ok (.iload 4, 2) := by decide +kernel
theorem dL_law_759 : decode cL_law 759 = .ok (.iconst 1, 1) := by decide +kernel
theorem dL_law_760 : decode cL_law 760 = .ok (.iadd, 1) := by decide +kernel
theorem dL_law_761 : decode cL_law 761 = .ok (.iaload, 1) := by decide +kernel
theorem dL_law_762 : decode cL_law 762 = .ok (.invokevirtual 92, 3) := by decide +kernel
theorem dL_law_765 : decode cL_law 765 = .ok (.aload_n 2, 1) := by decide +kernel
theorem dL_law_766 : decode cL_law 766 = .ok (.aload_n 0, 1) := by decide +kernel
theorem dL_law_767 : decode cL_law 767 = .ok (.iload 4, 2) := by decide +kernel
theorem dL_law_769 : decode cL_law 769 = .ok (.iconst 1, 1) := by decide +kernel
theorem dL_law_770 : decode cL_law 770 = .ok (.iadd, 1) := by decide +kernel
theorem dL_law_771 : decode cL_law 771 = .ok (.iaload, 1) := by decide +kernel
theorem dL_law_772 : decode cL_law 772 = .ok (.invokevirtual 95, 3) := by decide +kernel
theorem dL_law_775 : decode cL_law 775 = .ok (.if_icmp .eq 603, 3) := by decide +kernel
theorem dL_law_778 : decode cL_law 778 = .ok (.iconst 0, 1) := by decide +kernel
theorem dL_law_779 : decode cL_law 779 = .ok (.ireturn, 1) := by decide +kernel
theorem dL_law_780 : decode cL_law 780 = .ok (.aload_n 1, 1) := by decide +kernel
theorem dL_law_781 : decode cL_law 781 = .ok (.aload_n 0, 1) := by decide +kernel
theorem dL_law_782 : decode cL_law 782 = .ok (.iload 4, 2) := by decide +kernel
theorem dL_law_784 : decode cL_law 784 = .ok (.iconst 1, 1) := by decide +kernel
theorem dL_law_785 : decode cL_law 785 = .ok (.iadd, 1) := by decide +kernel
theorem dL_law_786 : decode cL_law 786 = .ok (.iaload, 1) := by decide +kernel
theorem dL_law_787 : decode cL_law 787 = .ok (.aload_n 0, 1) := by decide +kernel
theorem dL_law_788 : decode cL_law 788 = .ok (.iload 4, 2) := by decide +kernel
theorem dL_law_790 : decode cL_law 790 = .ok (.iconst 2, 1) := by decide +kernel
theorem dL_law_791 : decode cL_law 791 = .ok (.iadd, 1) := by decide +kernel
theorem dL_law_792 : decode cL_law 792 = .ok (.iaload, 1) := by decide +kernel
theorem dL_law_793 : decode cL_law 793 = .ok (.invokevirtual 96, 3) := by decide +kernel
theorem dL_law_796 : decode cL_law 796 = .ok (.aload_n 2, 1) := by decide +kernel
theorem dL_law_797 : decode cL_law 797 = .ok (.aload_n 0, 1) := by decide +kernel
theorem dL_law_798 : decode cL_law 798 = .ok (.iload 4, 2) := by decide +kernel
theorem dL_law_800 : decode cL_law 800 = .ok (.iconst 1, 1) := by decide +kernel
theorem dL_law_801 : decode cL_law 801 = .ok (.iadd, 1) := by decide +kernel
theorem dL_law_802 : decode cL_law 802 = .ok (.iaload, 1) := by decide +kernel
theorem dL_law_803 : decode cL_law 803 = .ok (.aload_n 0, 1) := by decide +kernel
theorem dL_law_804 : decode cL_law 804 = .ok (.iload 4, 2) := by decide +kernel
theorem dL_law_806 : decode cL_law 806 = .ok (.iconst 2, 1) := by decide +kernel
theorem dL_law_807 : decode cL_law 807 = .ok (.iadd, 1) := by decide +kernel
theorem dL_law_808 : decode cL_law 808 = .ok (.iaload, 1) := by decide +kernel
theorem dL_law_809 : decode cL_law 809 = .ok (.invokevirtual 99, 3) := by decide +kernel
theorem dL_law_812 : decode cL_law 812 = .ok (.if_icmp .eq 566, 3) := by decide +kernel
theorem dL_law_815 : decode cL_law 815 = .ok (.iconst 0, 1) := by decide +kernel
theorem dL_law_816 : decode cL_law 816 = .ok (.ireturn, 1) := by decide +kernel
theorem dL_law_817 : decode cL_law 817 = .ok (.aload_n 1, 1) := by decide +kernel
theorem dL_law_818 : decode cL_law 818 = .ok (.aload_n 0, 1) := by decide +kernel
theorem dL_law_819 : decode cL_law 819 = .ok (.iload 4, 2) := by decide +kernel
theorem dL_law_821 : decode cL_law 821 = .ok (.iconst 1, 1) := by decide +kernel
theorem dL_law_822 : decode cL_law 822 = .ok (.iadd, 1) := by decide +kernel
theorem dL_law_823 : decode cL_law 823 = .ok (.iaload, 1) := by decide +kernel
theorem dL_law_824 : decode cL_law 824 = .ok (.aload_n 0, 1) := by decide +kernel
theorem dL_law_825 : decode cL_law 825 = .ok (.iload 4, 2) := by decide +kernel
theorem dL_law_827 : decode cL_law 827 = .ok (.iconst 2, 1) := by decide +kernel
theorem dL_law_828 : decode cL_law 828 = .ok (.iadd, 1) := by decide +kernel
theorem dL_law_829 : decode cL_law 829 = .ok (.iaload, 1) := by decide +kernel
theorem dL_law_830 : decode cL_law 830 = .ok (.aload_n 0, 1) := by decide +kernel
theorem dL_law_831 : decode cL_law 831 = .ok (.iload 4, 2) := by decide +kernel
theorem dL_law_833 : decode cL_law 833 = .ok (.iconst 3, 1) := by decide +kernel
theorem dL_law_834 : decode cL_law 834 = .ok (.iadd, 1) := by decide +kernel
theorem dL_law_835 : decode cL_law 835 = .ok (.iaload, 1) := by decide +kernel
theorem dL_law_836 : decode cL_law 836 = .ok (.invokevirtual 100, 3) := by decide +kernel
theorem dL_law_839 : decode cL_law 839 = .ok (.aload_n 2, 1) := by decide +kernel
theorem dL_law_840 : decode cL_law 840 = .ok (.aload_n 0, 1) := by decide +kernel
theorem dL_law_841 : decode cL_law 841 = .ok (.iload 4, 2) := by decide +kernel
theorem dL_law_843 : decode cL_law 843 = .ok (.iconst 1, 1) := by decide +kernel
theorem dL_law_844 : decode cL_law 844 = .ok (.iadd, 1) := by decide +kernel
theorem dL_law_845 : decode cL_law 845 = .ok (.iaload, 1) := by decide +kernel
theorem dL_law_846 : decode cL_law 846 = .ok (.aload_n 0, 1) := by decide +kernel
theorem dL_law_847 : decode cL_law 847 = .ok (.iload 4, 2) := by decide +kernel
theorem dL_law_849 : decode cL_law 849 = .ok (.iconst 2, 1) := by decide +kernel
theorem dL_law_850 : decode cL_law 850 = .ok (.iadd, 1) := by decide +kernel
theorem dL_law_851 : decode cL_law 851 = .ok (.iaload, 1) := by decide +kernel
theorem dL_law_852 : decode cL_law 852 = .ok (.aload_n 0, 1) := by decide +kernel
theorem dL_law_853 : decode cL_law 853 = .ok (.iload 4, 2) := by decide +kernel
theorem dL_law_855 : decode cL_law 855 = .ok (.iconst 3, 1) := by decide +kernel
theorem dL_law_856 : decode cL_law 856 = .ok (.iadd, 1) := by decide +kernel
theorem dL_law_857 : decode cL_law 857 = .ok (.iaload, 1) := by decide +kernel
theorem dL_law_858 : decode cL_law 858 = .ok (.invokevirtual 104, 3) := by decide +kernel
theorem dL_law_861 : decode cL_law 861 = .ok (.if_icmp .eq 517, 3) := by decide +kernel
theorem dL_law_864 : decode cL_law 864 = .ok (.iconst 0, 1) := by decide +kernel
theorem dL_law_865 : decode cL_law 865 = .ok (.ireturn, 1) := by decide +kernel
theorem dL_law_866 : decode cL_law 866 = .ok (.aload_n 1, 1) := by decide +kernel
theorem dL_law_867 : decode cL_law 867 = .ok (.aload_n 0, 1) := by decide +kernel
theorem dL_law_868 : decode cL_law 868 = .ok (.iload 4, 2) := by decide +kernel
theorem dL_law_870 : decode cL_law 870 = .ok (.iconst 1, 1) := by decide +kernel
theorem dL_law_871 : decode cL_law 871 = .ok (.iadd, 1) := by decide +kernel
theorem dL_law_872 : decode cL_law 872 = .ok (.iaload, 1) := by decide +kernel
theorem dL_law_873 : decode cL_law 873 = .ok (.aload_n 0, 1) := by decide +kernel
theorem dL_law_874 : decode cL_law 874 = .ok (.iload 4, 2) := by decide +kernel
theorem dL_law_876 : decode cL_law 876 = .ok (.iconst 2, 1) := by decide +kernel
theorem dL_law_877 : decode cL_law 877 = .ok (.iadd, 1) := by decide +kernel
theorem dL_law_878 : decode cL_law 878 = .ok (.iaload, 1) := by decide +kernel
theorem dL_law_879 : decode cL_law 879 = .ok (.invokevirtual 105, 3) := by decide +kernel
theorem dL_law_882 : decode cL_law 882 = .ok (.aload_n 2, 1) := by decide +kernel
theorem dL_law_883 : decode cL_law 883 = .ok (.aload_n 0, 1) := by decide +kernel
theorem dL_law_884 : decode cL_law 884 = .ok (.iload 4, 2) := by decide +kernel
theorem dL_law_886 : decode cL_law 886 = .ok (.iconst 1, 1) := by decide +kernel
theorem dL_law_887 : decode cL_law 887 = .ok (.iadd, 1) := by decide +kernel
theorem dL_law_888 : decode cL_law 888 = .ok (.iaload, 1) := by decide +kernel
theorem dL_law_889 : decode cL_law 889 = .ok (.aload_n 0, 1) := by decide +kernel
theorem dL_law_890 : decode cL_law 890 = .ok (.iload 4, 2) := by decide +kernel
theorem dL_law_892 : decode cL_law 892 = .ok (.iconst 2, 1) := by decide +kernel
theorem dL_law_893 : decode cL_law 893 = .ok (.iadd, 1) := by decide +kernel
theorem dL_law_894 : decode cL_law 894 = .ok (.iaload, 1) := by decide +kernel
theorem dL_law_895 : decode cL_law 895 = .ok (.invokevirtual 108, 3) := by decide +kernel
theorem dL_law_898 : decode cL_law 898 = .ok (.if_icmp .eq 480, 3) := by decide +kernel
theorem dL_law_901 : decode cL_law 901 = .ok (.iconst 0, 1) := by decide +kernel
theorem dL_law_902 : decode cL_law 902 = .ok (.ireturn, 1) := by decide +kernel
theorem dL_law_903 : decode cL_law 903 = .ok (.aload_n 1, 1) := by decide +kernel
theorem dL_law_904 : decode cL_law 904 = .ok (.aload_n 0, 1) := by decide +kernel
theorem dL_law_905 : decode cL_law 905 = .ok (.iload 4, 2) := by decide +kernel
theorem dL_law_907 : decode cL_law 907 = .ok (.iconst 1, 1) := by decide +kernel
theorem dL_law_908 : decode cL_law 908 = .ok (.iadd, 1) := by decide +kernel
theorem dL_law_909 : decode cL_law 909 = .ok (.iaload, 1) := by decide +kernel
theorem dL_law_910 : decode cL_law 910 = .ok (.invokevirtual 109, 3) := by decide +kernel
theorem dL_law_913 : decode cL_law 913 = .ok (.aload_n 2, 1) := by decide +kernel
theorem dL_law_914 : decode cL_law 914 = .ok (.aload_n 0, 1) := by decide +kernel
theorem dL_law_915 : decode cL_law 915 = .ok (.iload 4, 2) := by decide +kernel
theorem dL_law_917 : decode cL_law 917 = .ok (.iconst 1, 1) := by decide +kernel
theorem dL_law_918 : decode cL_law 918 = .ok (.iadd, 1) := by decide +kernel
theorem dL_law_919 : decode cL_law 919 = .ok (.iaload, 1) := by decide +kernel
theorem dL_law_920 : decode cL_law 920 = .ok (.invokevirtual 112, 3) := by decide +kernel
theorem dL_law_923 : decode cL_law 923 = .ok (.if_icmp .eq 455, 3) := by decide +kernel
theorem dL_law_926 : decode cL_law 926 = .ok (.iconst 0, 1) := by decide +kernel
theorem dL_law_927 : decode cL_law 927 = .ok (.ireturn, 1) := by decide +kernel
theorem dL_law_928 : decode cL_law 928 = .ok (.aload_n 1, 1) := by decide +kernel
theorem dL_law_929 : decode cL_law 929 = .ok (.aload_n 0, 1) := by decide +kernel
theorem dL_law_930 : decode cL_law 930 = .ok (.iload 4, 2) := by decide +kernel
theorem dL_law_932 : decode cL_law 932 = .ok (.iconst 1, 1) := by decide +kernel
theorem dL_law_933 : decode cL_law 933 = .ok (.iadd, 1) := by decide +kernel
theorem dL_law_934 : decode cL_law 934 = .ok (.iaload, 1) := by decide +kernel
theorem dL_law_935 : decode cL_law 935 = .ok (.aload_n 0, 1) := by decide +kernel
theorem dL_law_936 : decode cL_law 936 = .ok (.iload 4, 2) := by decide +kernel
theorem dL_law_938 : decode cL_law 938 = .ok (.iconst 2, 1) := by decide +kernel
theorem dL_law_939 : decode cL_law 939 = .ok (.iadd, 1) := by decide +kernel
theorem dL_law_940 : decode cL_law 940 = .ok (.iaload, 1) := by decide +kernel
theorem dL_law_941 : decode cL_law 941 = .ok (.invokevirtual 113, 3) := by decide +kernel
theorem dL_law_944 : decode cL_law 944 = .ok (.aload_n 2, 1) := by decide +kernel
theorem dL_law_945 : decode cL_law 945 = .ok (.aload_n 0, 1) := by decide +kernel
theorem dL_law_946 : decode cL_law 946 = .ok (.iload 4, 2) := by decide +kernel
theorem dL_law_948 : decode cL_law 948 = .ok (.iconst 1, 1) := by decide +kernel
theorem dL_law_949 : decode cL_law 949 = .ok (.iadd, 1) := by decide +kernel
theorem dL_law_950 : decode cL_law 950 = .ok (.iaload, 1) := by decide +kernel
theorem dL_law_951 : decode cL_law 951 = .ok (.aload_n 0, 1) := by decide +kernel
theorem dL_law_952 : decode cL_law 952 = .ok (.iload 4, 2) := by decide +kernel
theorem dL_law_954 : decode cL_law 954 = .ok (.iconst 2, 1) := by decide +kernel
theorem dL_law_955 : decode cL_law 955 = .ok (.iadd, 1) := by decide +kernel
theorem dL_law_956 : decode cL_law 956 = .ok (.iaload, 1) := by decide +kernel
theorem dL_law_957 : decode cL_law 957 = .ok (.invokevirtual 116, 3) := by decide +kernel
theorem dL_law_960 : decode cL_law 960 = .ok (.if_icmp .eq 418, 3) := by decide +kernel
theorem dL_law_963 : decode cL_law 963 = .ok (.iconst 0, 1) := by decide +kernel
theorem dL_law_964 : decode cL_law 964 = .ok (.ireturn, 1) := by decide +kernel
theorem dL_law_965 : decode cL_law 965 = .ok (.aload_n 1, 1) := by decide +kernel
theorem dL_law_966 : decode cL_law 966 = .ok (.aload_n 0, 1) := by decide +kernel
theorem dL_law_967 : decode cL_law 967 = .ok (.iload 4, 2) := by decide +kernel
theorem dL_law_969 : decode cL_law 969 = .ok (.iconst 1, 1) := by decide +kernel
theorem dL_law_970 : decode cL_law 970 = .ok (.iadd, 1) := by decide +kernel
theorem dL_law_971 : decode cL_law 971 = .ok (.iaload, 1) := by decide +kernel
theorem dL_law_972 : decode cL_law 972 = .ok (.aload_n 0, 1) := by decide +kernel
theorem dL_law_973 : decode cL_law 973 = .ok (.iload 4, 2) := by decide +kernel
theorem dL_law_975 : decode cL_law 975 = .ok (.iconst 2, 1) := by decide +kernel
theorem dL_law_976 : decode cL_law 976 = .ok (.iadd, 1) := by decide +kernel
theorem dL_law_977 : decode cL_law 977 = .ok (.iaload, 1) := by decide +kernel
theorem dL_law_978 : decode cL_law 978 = .ok (.aload_n 0, 1) := by decide +kernel
theorem dL_law_979 : decode cL_law 979 = .ok (.iload 4, 2) := by decide +kernel
theorem dL_law_981 : decode cL_law 981 = .ok (.iconst 3, 1) := by decide +kernel
theorem dL_law_982 : decode cL_law 982 = .ok (.iadd, 1) := by decide +kernel
theorem dL_law_983 : decode cL_law 983 = .ok (.iaload, 1) := by decide +kernel
theorem dL_law_984 : decode cL_law 984 = .ok (.invokevirtual 117, 3) := by decide +kernel
theorem dL_law_987 : decode cL_law 987 = .ok (.aload_n 2, 1) := by decide +kernel
theorem dL_law_988 : decode cL_law 988 = .ok (.aload_n 0, 1) := by decide +kernel
theorem dL_law_989 : decode cL_law 989 = .ok (.iload 4, 2) := by decide +kernel
theorem dL_law_991 : decode cL_law 991 = .ok (.iconst 1, 1) := by decide +kernel
theorem dL_law_992 : decode cL_law 992 = .ok (.iadd, 1) := by decide +kernel
theorem dL_law_993 : decode cL_law 993 = .ok (.iaload, 1) := by decide +kernel
theorem dL_law_994 : decode cL_law 994 = .ok (.aload_n 0, 1) := by decide +kernel
theorem dL_law_995 : decode cL_law 995 = .ok (.iload 4, 2) := by decide +kernel
theorem dL_law_997 : decode cL_law 997 = .ok (.iconst 2, 1) := by decide +kernel
theorem dL_law_998 : decode cL_law 998 = .ok (.iadd, 1) := by decide +kernel
theorem dL_law_999 : decode cL_law 999 = .ok (.iaload, 1) := by decide +kernel
theorem dL_law_1000 : decode cL_law 1000 = .ok (.aload_n 0, 1) := by decide +kernel
theorem dL_law_1001 : decode cL_law 1001 = .ok (.iload 4, 2) := by decide +kernel
theorem dL_law_1003 : decode cL_law 1003 = .ok (.iconst 3, 1) := by decide +kernel
theorem dL_law_1004 : decode cL_law 1004 = .ok (.iadd, 1) := by decide +kernel
theorem dL_law_1005 : decode cL_law 1005 = .ok (.iaload, 1) := by decide +kernel
theorem dL_law_1006 : decode cL_law 1006 = .ok (.invokevirtual 120, 3) := by decide +kernel
theorem dL_law_1009 : decode cL_law 1009 = .ok (.if_icmp .eq 369, 3) := by decide +kernel
theorem dL_law_1012 : decode cL_law 1012 = .ok (.iconst 0, 1) := by decide +kernel
theorem dL_law_1013 : decode cL_law 1013 = .ok (.ireturn, 1) := by decide +kernel
theorem dL_law_1014 : decode cL_law 1014 = .ok (.aload_n 1, 1) := by decide +kernel
theorem dL_law_1015 : decode cL_law 1015 = .ok (.aload_n 0, 1) := by decide +kernel
theorem dL_law_1016 : decode cL_law 1016 = .ok (.iload 4, 2) := by decide +kernel
theorem dL_law_1018 : decode cL_law 1018 = .ok (.iconst 1, 1) := by decide +kernel
theorem dL_law_1019 : decode cL_law 1019 = .ok (.iadd, 1) := by decide +kernel
theorem dL_law_1020 : decode cL_law 1020 = .ok (.iaload, 1) := by decide +kernel
theorem dL_law_1021 : decode cL_law 1021 = .ok (.aload_n 0, 1) := by decide +kernel
theorem dL_law_1022 : decode cL_law 1022 = .ok (.iload 4, 2) := by decide +kernel
theorem dL_law_1024 : decode cL_law 1024 = .ok (.iconst 2, 1) := by decide +kernel
theorem dL_law_1025 : decode cL_law 1025 = .ok (.iadd, 1) := by decide +kernel
theorem dL_law_1026 : decode cL_law 1026 = .ok (.iaload, 1) := by decide +kernel
theorem dL_law_1027 : decode cL_law 1027 = .ok (.invokevirtual 121, 3) := by decide +kernel
theorem dL_law_1030 : decode cL_law 1030 = .ok (.aload_n 2, 1) := by decide +kernel
theorem dL_law_1031 : decode cL_law 1031 = .ok (.aload_n 0, 1) := by decide +kernel
theorem dL_law_1032 : decode cL_law 1032 = .ok (.iload 4, 2) := by decide +kernel
theorem dL_law_1034 : decode cL_law 1034 = .ok (.iconst 1, 1) := by decide +kernel
theorem dL_law_1035 : decode cL_law 1035 = .ok (.iadd, 1) := by decide +kernel
theorem dL_law_1036 : decode cL_law 1036 = .ok (.iaload, 1) := by decide +kernel
theorem dL_law_1037 : decode cL_law 1037 = .ok (.aload_n 0, 1) := by decide +kernel
theorem dL_law_1038 : decode cL_law 1038 = .ok (.iload 4, 2) := by decide +kernel
theorem dL_law_1040 : decode cL_law 1040 = .ok (.iconst 2, 1) := by decide +kernel
theorem dL_law_1041 : decode cL_law 1041 = .ok (.iadd, 1) := by decide +kernel
theorem dL_law_1042 : decode cL_law 1042 = .ok (.iaload, 1) := by decide +kernel
theorem dL_law_1043 : decode cL_law 1043 = .ok (.invokevirtual 124, 3) := by decide +kernel
theorem dL_law_1046 : decode cL_law 1046 = .ok (.lcmp, 1) := by decide +kernel
theorem dL_law_1047 : decode cL_law 1047 = .ok (.ifCond .eq 331, 3) := by decide +kernel
theorem dL_law_1050 : decode cL_law 1050 = .ok (.iconst 0, 1) := by decide +kernel
theorem dL_law_1051 : decode cL_law 1051 = .ok (.ireturn, 1) := by decide +kernel
theorem dL_law_1052 : decode cL_law 1052 = .ok (.aload_n 1, 1) := by decide +kernel
theorem dL_law_1053 : decode cL_law 1053 = .ok (.aload_n 0, 1) := by decide +kernel
theorem dL_law_1054 : decode cL_law 1054 = .ok (.iload 4, 2) := by decide +kernel
theorem dL_law_1056 : decode cL_law 1056 = .ok (.iconst 1, 1) := by decide +kernel
theorem dL_law_1057 : decode cL_law 1057 = .ok (.iadd, 1) := by decide +kernel
theorem dL_law_1058 : decode cL_law 1058 = .ok (.iaload, 1) := by decide +kernel
theorem dL_law_1059 : decode cL_law 1059 = .ok (.aload_n 0, 1) := by decide +kernel
theorem dL_law_1060 : decode cL_law 1060 = .ok (.iload 4, 2) := by decide +kernel
theorem dL_law_1062 : decode cL_law 1062 = .ok (.iconst 2, 1) := by decide +kernel
theorem dL_law_1063 : decode cL_law 1063 = .ok (.iadd, 1) := by decide +kernel
theorem dL_law_1064 : decode cL_law 1064 = .ok (.iaload, 1) := by decide +kernel
theorem dL_law_1065 : decode cL_law 1065 = .ok (.aload_n 0, 1) := by decide +kernel
theorem dL_law_1066 : decode cL_law 1066 = .ok (.iload 4, 2) := by decide +kernel
theorem dL_law_1068 : decode cL_law 1068 = .ok (.iconst 3, 1) := by decide +kernel
theorem dL_law_1069 : decode cL_law 1069 = .ok (.iadd, 1) := by decide +kernel
theorem dL_law_1070 : decode cL_law 1070 = .ok (.iaload, 1) := by decide +kernel
theorem dL_law_1071 : decode cL_law 1071 = .ok (.aload_n 0, 1) := by decide +kernel
theorem dL_law_1072 : decode cL_law 1072 = .ok (.iload 4, 2) := by decide +kernel
theorem dL_law_1074 : decode cL_law 1074 = .ok (.iconst 4, 1) := by decide +kernel
theorem dL_law_1075 : decode cL_law 1075 = .ok (.iadd, 1) := by decide +kernel
theorem dL_law_1076 : decode cL_law 1076 = .ok (.iaload, 1) := by decide +kernel
theorem dL_law_1077 : decode cL_law 1077 = .ok (.aload_n 0, 1) := by decide +kernel
theorem dL_law_1078 : decode cL_law 1078 = .ok (.iload 4, 2) := by decide +kernel
theorem dL_law_1080 : decode cL_law 1080 = .ok (.iconst 5, 1) := by decide +kernel
theorem dL_law_1081 : decode cL_law 1081 = .ok (.iadd, 1) := by decide +kernel
theorem dL_law_1082 : decode cL_law 1082 = .ok (.iaload, 1) := by decide +kernel
theorem dL_law_1083 : decode cL_law 1083 = .ok (.ifCond .eq 7, 3) := by decide +kernel
theorem dL_law_1086 : decode cL_law 1086 = .ok (.iconst 1, 1) := by decide +kernel
theorem dL_law_1087 : decode cL_law 1087 = .ok (.goto 4, 3) := by decide +kernel
theorem dL_law_1090 : decode cL_law 1090 = .ok (.iconst 0, 1) := by decide +kernel
theorem dL_law_1091 : decode cL_law 1091 = .ok (.invokevirtual 125, 3) := by decide +kernel
theorem dL_law_1094 : decode cL_law 1094 = .ok (.aload_n 2, 1) := by decide +kernel
theorem dL_law_1095 : decode cL_law 1095 = .ok (.aload_n 0, 1) := by decide +kernel
theorem dL_law_1096 : decode cL_law 1096 = .ok (.iload 4, 2) := by decide +kernel
theorem dL_law_1098 : decode cL_law 1098 = .ok (.iconst 1, 1) := by decide +kernel
theorem dL_law_1099 : decode cL_law 1099 = .ok (.iadd, 1) := by decide +kernel
theorem dL_law_1100 : decode cL_law 1100 = .ok (.iaload, 1) := by decide +kernel
theorem dL_law_1101 : decode cL_law 1101 = .ok (.aload_n 0, 1) := by decide +kernel
theorem dL_law_1102 : decode cL_law 1102 = .ok (.iload 4, 2) := by decide +kernel
theorem dL_law_1104 : decode cL_law 1104 = .ok (.iconst 2, 1) := by decide +kernel
theorem dL_law_1105 : decode cL_law 1105 = .ok (.iadd, 1) := by decide +kernel
theorem dL_law_1106 : decode cL_law 1106 = .ok (.iaload, 1) := by decide +kernel
theorem dL_law_1107 : decode cL_law 1107 = .ok (.aload_n 0, 1) := by decide +kernel
theorem dL_law_1108 : decode cL_law 1108 = .ok (.iload 4, 2) := by decide +kernel
theorem dL_law_1110 : decode cL_law 1110 = .ok (.iconst 3, 1) := by decide +kernel
theorem dL_law_1111 : decode cL_law 1111 = .ok (.iadd, 1) := by decide +kernel
theorem dL_law_1112 : decode cL_law 1112 = .ok (.iaload, 1) := by decide +kernel
theorem dL_law_1113 : decode cL_law 1113 = .ok (.aload_n 0, 1) := by decide +kernel
theorem dL_law_1114 : decode cL_law 1114 = .ok (.iload 4, 2) := by decide +kernel
theorem dL_law_1116 : decode cL_law 1116 = .ok (.iconst 4, 1) := by decide +kernel
theorem dL_law_1117 : decode cL_law 1117 = .ok (.iadd, 1) := by decide +kernel
theorem dL_law_1118 : decode cL_law 1118 = .ok (.iaload, 1) := by decide +kernel
theorem dL_law_1119 : decode cL_law 1119 = .ok (.aload_n 0, 1) := by decide +kernel
theorem dL_law_1120 : decode cL_law 1120 = .ok (.iload 4, 2) := by decide +kernel
theorem dL_law_1122 : decode cL_law 1122 = .ok (.iconst 5, 1) := by decide +kernel
theorem dL_law_1123 : decode cL_law 1123 = .ok (.iadd, 1) := by decide +kernel
theorem dL_law_1124 : decode cL_law 1124 = .ok (.iaload, 1) := by decide +kernel
theorem dL_law_1125 : decode cL_law 1125 = .ok (.ifCond .eq 7, 3) := by decide +kernel
theorem dL_law_1128 : decode cL_law 1128 = .ok (.iconst 1, 1) := by decide +kernel
theorem dL_law_1129 : decode cL_law 1129 = .ok (.goto 4, 3) := by decide +kernel
theorem dL_law_1132 : decode cL_law 1132 = .ok (.iconst 0, 1) := by decide +kernel
theorem dL_law_1133 : decode cL_law 1133 = .ok (.invokevirtual 129, 3) := by decide +kernel
theorem dL_law_1136 : decode cL_law 1136 = .ok (.if_icmp .eq 242, 3) := by decide +kernel
theorem dL_law_1139 : decode cL_law 1139 = .ok (.iconst 0, 1) := by decide +kernel
theorem dL_law_1140 : decode cL_law 1140 = .ok (.ireturn, 1) := by decide +kernel
theorem dL_law_1141 : decode cL_law 1141 = .ok (.aload_n 1, 1) := by decide +kernel
theorem dL_law_1142 : decode cL_law 1142 = .ok (.aload_n 0, 1) := by decide +kernel
theorem dL_law_1143 : decode cL_law 1143 = .ok (.iload 4, 2) := by decide +kernel
theorem dL_law_1145 : decode cL_law 1145 = .ok (.iconst 1, 1) := by decide +kernel
theorem dL_law_1146 : decode cL_law 1146 = .ok (.iadd, 1) := by decide +kernel
theorem dL_law_1147 : decode cL_law 1147 = .ok (.iaload, 1) := by decide +kernel
theorem dL_law_1148 : decode cL_law 1148 = .ok (.invokevirtual 130, 3) := by decide +kernel
theorem dL_law_1151 : decode cL_law 1151 = .ok (.aload_n 2, 1) := by decide +kernel
theorem dL_law_1152 : decode cL_law 1152 = .ok (.aload_n 0, 1) := by decide +kernel
theorem dL_law_1153 : decode cL_law 1153 = .ok (.iload 4, 2) := by decide +kernel
theorem dL_law_1155 : decode cL_law 1155 = .ok (.iconst 1, 1) := by decide +kernel
theorem dL_law_1156 : decode cL_law 1156 = .ok (.iadd, 1) := by decide +kernel
theorem dL_law_1157 : decode cL_law 1157 = .ok (.iaload, 1) := by decide +kernel
theorem dL_law_1158 : decode cL_law 1158 = .ok (.invokevirtual 133, 3) := by decide +kernel
theorem dL_law_1161 : decode cL_law 1161 = .ok (.if_icmp .eq 217, 3) := by decide +kernel
theorem dL_law_1164 : decode cL_law 1164 = .ok (.iconst 0, 1) := by decide +kernel
theorem dL_law_1165 : decode cL_law 1165 = .ok (.ireturn, 1) := by decide +kernel
theorem dL_law_1166 : decode cL_law 1166 = .ok (.aload_n 1, 1) := by decide +kernel
theorem dL_law_1167 : decode cL_law 1167 = .ok (.aload_n 0, 1) := by decide +kernel
theorem dL_law_1168 : decode cL_law 1168 = .ok (.iload 4, 2) := by decide +kernel
theorem dL_law_1170 : decode cL_law 1170 = .ok (.iconst 1, 1) := by decide +kernel
theorem dL_law_1171 : decode cL_law 1171 = .ok (.iadd, 1) := by decide +kernel
theorem dL_law_1172 : decode cL_law 1172 = .ok (.iaload, 1) := by decide +kernel
theorem dL_law_1173 : decode cL_law 1173 = .ok (.invokevirtual 134, 3) := by decide +kernel
theorem dL_law_1176 : decode cL_law 1176 = .ok (.aload_n 2, 1) := by decide +kernel
theorem dL_law_1177 : decode cL_law 1177 = .ok (.aload_n 0, 1) := by decide +kernel
theorem dL_law_1178 : decode cL_law 1178 = .ok (.iload 4, 2) := by decide +kernel
theorem dL_law_1180 : decode cL_law 1180 = .ok (.iconst 1, 1) := by decide +kernel
theorem dL_law_1181 : decode cL_law 1181 = .ok (.iadd, 1) := by decide +kernel
theorem dL_law_1182 : decode cL_law 1182 = .ok (.iaload, 1) := by decide +kernel
theorem dL_law_1183 : decode cL_law 1183 = .ok (.invokevirtual 137, 3) := by decide +kernel
theorem dL_law_1186 : decode cL_law 1186 = .ok (.if_icmp .eq 192, 3) := by decide +kernel
theorem dL_law_1189 : decode cL_law 1189 = .ok (.iconst 0, 1) := by decide +kernel
theorem dL_law_1190 : decode cL_law 1190 = .ok (.ireturn, 1) := by decide +kernel
theorem dL_law_1191 : decode cL_law 1191 = .ok (.aload_n 1, 1) := by decide +kernel
theorem dL_law_1192 : decode cL_law 1192 = .ok (.aload_n 0, 1) := by decide +kernel
theorem dL_law_1193 : decode cL_law 1193 = .ok (.iload 4, 2) := by decide +kernel
theorem dL_law_1195 : decode cL_law 1195 = .ok (.iconst 1, 1) := by decide +kernel
theorem dL_law_1196 : decode cL_law 1196 = .ok (.iadd, 1) := by decide +kernel
theorem dL_law_1197 : decode cL_law 1197 = .ok (.iaload, 1) := by decide +kernel
theorem dL_law_1198 : decode cL_law 1198 = .ok (.invokevirtual 138, 3) := by decide +kernel
theorem dL_law_1201 : decode cL_law 1201 = .ok (.aload_n 2, 1) := by decide +kernel
theorem dL_law_1202 : decode cL_law 1202 = .ok (.aload_n 0, 1) := by decide +kernel
theorem dL_law_1203 : decode cL_law 1203 = .ok (.iload 4, 2) := by decide +kernel
theorem dL_law_1205 : decode cL_law 1205 = .ok (.iconst 1, 1) := by decide +kernel
theorem dL_law_1206 : decode cL_law 1206 = .ok (.iadd, 1) := by decide +kernel
theorem dL_law_1207 : decode cL_law 1207 = .ok (.iaload, 1) := by decide +kernel
theorem dL_law_1208 : decode cL_law 1208 = .ok (.invokevirtual 141, 3) := by decide +kernel
theorem dL_law_1211 : decode cL_law 1211 = .ok (.if_icmp .eq 167, 3) := by decide +kernel
theorem dL_law_1214 : decode cL_law 1214 = .ok (.iconst 0, 1) := by decide +kernel
theorem dL_law_1215 : decode cL_law 1215 = .ok (.ireturn, 1) := by decide +kernel
theorem dL_law_1216 : decode cL_law 1216 = .ok (.aload_n 1, 1) := by decide +kernel
theorem dL_law_1217 : decode cL_law 1217 = .ok (.aload_n 0, 1) := by decide +kernel
theorem dL_law_1218 : decode cL_law 1218 = .ok (.iload 4, 2) := by decide +kernel
theorem dL_law_1220 : decode cL_law 1220 = .ok (.iconst 1, 1) := by decide +kernel
theorem dL_law_1221 : decode cL_law 1221 = .ok (.iadd, 1) := by decide +kernel
theorem dL_law_1222 : decode cL_law 1222 = .ok (.iaload, 1) := by decide +kernel
theorem dL_law_1223 : decode cL_law 1223 = .ok (.aload_n 0, 1) := by decide +kernel
theorem dL_law_1224 : decode cL_law 1224 = .ok (.iload 4, 2) := by decide +kernel
theorem dL_law_1226 : decode cL_law 1226 = .ok (.iconst 2, 1) := by decide +kernel
theorem dL_law_1227 : decode cL_law 1227 = .ok (.iadd, 1) := by decide +kernel
theorem dL_law_1228 : decode cL_law 1228 = .ok (.iaload, 1) := by decide +kernel
theorem dL_law_1229 : decode cL_law 1229 = .ok (.aload_n 0, 1) := by decide +kernel
theorem dL_law_1230 : decode cL_law 1230 = .ok (.iload 4, 2) := by decide +kernel
theorem dL_law_1232 : decode cL_law 1232 = .ok (.iconst 3, 1) := by decide +kernel
theorem dL_law_1233 : decode cL_law 1233 = .ok (.iadd, 1) := by decide +kernel
theorem dL_law_1234 : decode cL_law 1234 = .ok (.iaload, 1) := by decide +kernel
theorem dL_law_1235 : decode cL_law 1235 = .ok (.invokevirtual 142, 3) := by decide +kernel
theorem dL_law_1238 : decode cL_law 1238 = .ok (.aload_n 2, 1) := by decide +kernel
theorem dL_law_1239 : decode cL_law 1239 = .ok (.aload_n 0, 1) := by decide +kernel
theorem dL_law_1240 : decode cL_law 1240 = .ok (.iload 4, 2) := by decide +kernel
theorem dL_law_1242 : decode cL_law 1242 = .ok (.iconst 1, 1) := by decide +kernel
theorem dL_law_1243 : decode cL_law 1243 = .ok (.iadd, 1) := by decide +kernel
theorem dL_law_1244 : decode cL_law 1244 = .ok (.iaload, 1) := by decide +kernel
theorem dL_law_1245 : decode cL_law 1245 = .ok (.aload_n 0, 1) := by decide +kernel
theorem dL_law_1246 : decode cL_law 1246 = .ok (.iload 4, 2) := by decide +kernel
theorem dL_law_1248 : decode cL_law 1248 = .ok (.iconst 2, 1) := by decide +kernel
theorem dL_law_1249 : decode cL_law 1249 = .ok (.iadd, 1) := by decide +kernel
theorem dL_law_1250 : decode cL_law 1250 = .ok (.iaload, 1) := by decide +kernel
theorem dL_law_1251 : decode cL_law 1251 = .ok (.aload_n 0, 1) := by decide +kernel
theorem dL_law_1252 : decode cL_law 1252 = .ok (.iload 4, 2) := by decide +kernel
theorem dL_law_1254 : decode cL_law 1254 = .ok (.iconst 3, 1) := by decide +kernel
theorem dL_law_1255 : decode cL_law 1255 = .ok (.iadd, 1) := by decide +kernel
theorem dL_law_1256 : decode cL_law 1256 = .ok (.iaload, 1) := by decide +kernel
theorem dL_law_1257 : decode cL_law 1257 = .ok (.invokevirtual 145, 3) := by decide +kernel
theorem dL_law_1260 : decode cL_law 1260 = .ok (.if_icmp .eq 118, 3) := by decide +kernel
theorem dL_law_1263 : decode cL_law 1263 = .ok (.iconst 0, 1) := by decide +kernel
theorem dL_law_1264 : decode cL_law 1264 = .ok (.ireturn, 1) := by decide +kernel
theorem dL_law_1265 : decode cL_law 1265 = .ok (.aload_n 1, 1) := by decide +kernel
theorem dL_law_1266 : decode cL_law 1266 = .ok (.aload_n 0, 1) := by decide +kernel
theorem dL_law_1267 : decode cL_law 1267 = .ok (.iload 4, 2) := by decide +kernel
theorem dL_law_1269 : decode cL_law 1269 = .ok (.iconst 1, 1) := by decide +kernel
theorem dL_law_1270 : decode cL_law 1270 = .ok (.iadd, 1) := by decide +kernel
theorem dL_law_1271 : decode cL_law 1271 = .ok (.iaload, 1) := by decide +kernel
theorem dL_law_1272 : decode cL_law 1272 = .ok (.aload_n 0, 1) := by decide +kernel
theorem dL_law_1273 : decode cL_law 1273 = .ok (.iload 4, 2) := by decide +kernel
theorem dL_law_1275 : decode cL_law 1275 = .ok (.iconst 2, 1) := by decide +kernel
theorem dL_law_1276 : decode cL_law 1276 = .ok (.iadd, 1) := by decide +kernel
theorem dL_law_1277 : decode cL_law 1277 = .ok (.iaload, 1) := by decide +kernel
theorem dL_law_1278 : decode cL_law 1278 = .ok (.aload_n 0, 1) := by decide +kernel
theorem dL_law_1279 : decode cL_law 1279 = .ok (.iload 4, 2) := by decide +kernel
theorem dL_law_1281 : decode cL_law 1281 = .ok (.iconst 3, 1) := by decide +kernel
theorem dL_law_1282 : decode cL_law 1282 = .ok (.iadd, 1) := by decide +kernel
theorem dL_law_1283 : decode cL_law 1283 = .ok (.iaload, 1) := by decide +kernel
theorem dL_law_1284 : decode cL_law 1284 = .ok (.invokevirtual 146, 3) := by decide +kernel
theorem dL_law_1287 : decode cL_law 1287 = .ok (.aload_n 2, 1) := by decide +kernel
theorem dL_law_1288 : decode cL_law 1288 = .ok (.aload_n 0, 1) := by decide +kernel
theorem dL_law_1289 : decode cL_law 1289 = .ok (.iload 4, 2) := by decide +kernel
theorem dL_law_1291 : decode cL_law 1291 = .ok (.iconst 1, 1) := by decide +kernel
theorem dL_law_1292 : decode cL_law 1292 = .ok (.iadd, 1) := by decide +kernel
theorem dL_law_1293 : decode cL_law 1293 = .ok (.iaload, 1) := by decide +kernel
theorem dL_law_1294 : decode cL_law 1294 = .ok (.aload_n 0, 1) := by decide +kernel
theorem dL_law_1295 : decode cL_law 1295 = .ok (.iload 4, 2) := by decide +kernel
theorem dL_law_1297 : decode cL_law 1297 = .ok (.iconst 2, 1) := by decide +kernel
theorem dL_law_1298 : decode cL_law 1298 = .ok (.iadd, 1) := by decide +kernel
theorem dL_law_1299 : decode cL_law 1299 = .ok (.iaload, 1) := by decide +kernel
theorem dL_law_1300 : decode cL_law 1300 = .ok (.aload_n 0, 1) := by decide +kernel
theorem dL_law_1301 : decode cL_law 1301 = .ok (.iload 4, 2) := by decide +kernel
theorem dL_law_1303 : decode cL_law 1303 = .ok (.iconst 3, 1) := by decide +kernel
theorem dL_law_1304 : decode cL_law 1304 = .ok (.iadd, 1) := by decide +kernel
theorem dL_law_1305 : decode cL_law 1305 = .ok (.iaload, 1) := by decide +kernel
theorem dL_law_1306 : decode cL_law 1306 = .ok (.invokevirtual 149, 3) := by decide +kernel
theorem dL_law_1309 : decode cL_law 1309 = .ok (.if_icmp .eq 69, 3) := by decide +kernel
theorem dL_law_1312 : decode cL_law 1312 = .ok (.iconst 0, 1) := by decide +kernel
theorem dL_law_1313 : decode cL_law 1313 = .ok (.ireturn, 1) := by decide +kernel
theorem dL_law_1314 : decode cL_law 1314 = .ok (.aload_n 1, 1) := by decide +kernel
theorem dL_law_1315 : decode cL_law 1315 = .ok (.invokevirtual 150, 3) := by decide +kernel
theorem dL_law_1318 : decode cL_law 1318 = .ok (.aload_n 2, 1) := by decide +kernel
theorem dL_law_1319 : decode cL_law 1319 = .ok (.invokevirtual 153, 3) := by decide +kernel
theorem dL_law_1322 : decode cL_law 1322 = .ok (.if_icmp .eq 56, 3) := by decide +kernel
theorem dL_law_1325 : decode cL_law 1325 = .ok (.iconst 0, 1) := by decide +kernel
theorem dL_law_1326 : decode cL_law 1326 = .ok (.ireturn, 1) := by decide +kernel
theorem dL_law_1327 : decode cL_law 1327 = .ok (.aload_n 1, 1) := by decide +kernel
theorem dL_law_1328 : decode cL_law 1328 = .ok (.invokevirtual 154, 3) := by decide +kernel
theorem dL_law_1331 : decode cL_law 1331 = .ok (.aload_n 2, 1) := by decide +kernel
theorem dL_law_1332 : decode cL_law 1332 = .ok (.invokevirtual 157, 3) := by decide +kernel
theorem dL_law_1335 : decode cL_law 1335 = .ok (.if_icmp .eq 43, 3) := by decide +kernel
theorem dL_law_1338 : decode cL_law 1338 = .ok (.iconst 0, 1) := by decide +kernel
theorem dL_law_1339 : decode cL_law 1339 = .ok (.ireturn, 1) := by decide +kernel
theorem dL_law_1340 : decode cL_law 1340 = .ok (.aload_n 1, 1) := by decide +kernel
theorem dL_law_1341 : decode cL_law 1341 = .ok (.invokevirtual 158, 3) := by decide +kernel
theorem dL_law_1344 : decode cL_law 1344 = .ok (.aload_n 2, 1) := by decide +kernel
theorem dL_law_1345 : decode cL_law 1345 = .ok (.invokevirtual 161, 3) := by decide +kernel
theorem dL_law_1348 : decode cL_law 1348 = .ok (.if_icmp .eq 30, 3) := by decide +kernel
theorem dL_law_1351 : decode cL_law 1351 = .ok (.iconst 0, 1) := by decide +kernel
theorem dL_law_1352 : decode cL_law 1352 = .ok (.ireturn, 1) := by decide +kernel
theorem dL_law_1353 : decode cL_law 1353 = .ok (.aload_n 1, 1) := by decide +kernel
theorem dL_law_1354 : decode cL_law 1354 = .ok (.aload_n 0, 1) := by decide +kernel
theorem dL_law_1355 : decode cL_law 1355 = .ok (.iload 4, 2) := by decide +kernel
theorem dL_law_1357 : decode cL_law 1357 = .ok (.iconst 1, 1) := by decide +kernel
theorem dL_law_1358 : decode cL_law 1358 = .ok (.iadd, 1) := by decide +kernel
theorem dL_law_1359 : decode cL_law 1359 = .ok (.iaload, 1) := by decide +kernel
theorem dL_law_1360 : decode cL_law 1360 = .ok (.invokevirtual 162, 3) := by decide +kernel
theorem dL_law_1363 : decode cL_law 1363 = .ok (.aload_n 2, 1) := by decide +kernel
theorem dL_law_1364 : decode cL_law 1364 = .ok (.aload_n 0, 1) := by decide +kernel
theorem dL_law_1365 : decode cL_law 1365 = .ok (.iload 4, 2) := by decide +kernel
theorem dL_law_1367 : decode cL_law 1367 = .ok (.iconst 1, 1) := by decide +kernel
theorem dL_law_1368 : decode cL_law 1368 = .ok (.iadd, 1) := by decide +kernel
theorem dL_law_1369 : decode cL_law 1369 = .ok (.iaload, 1) := by decide +kernel
theorem dL_law_1370 : decode cL_law 1370 = .ok (.invokevirtual 165, 3) := by decide +kernel
theorem dL_law_1373 : decode cL_law 1373 = .ok (.if_icmp .eq 5, 3) := by decide +kernel
theorem dL_law_1376 : decode cL_law 1376 = .ok (.iconst 0, 1) := by decide +kernel
theorem dL_law_1377 : decode cL_law 1377 = .ok (.ireturn, 1) := by decide +kernel
theorem dL_law_1378 : decode cL_law 1378 = .ok (.iinc 4 6, 3) := by decide +kernel
theorem dL_law_1381 : decode cL_law 1381 = .ok (.goto (-1358), 3) := by decide +kernel
theorem dL_law_1384 : decode cL_law 1384 = .ok (.iconst 1, 1) := by decide +kernel
theorem dL_law_1385 : decode cL_law 1385 = .ok (.ireturn, 1) := by decide +kernel
