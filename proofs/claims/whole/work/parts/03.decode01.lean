theorem dX5_countKnot_21 : decode cX5_countKnot 21 = .ok (.goto 16, 3) := by decide +kernel
theorem dX5_countKnot_24 : decode cX5_countKnot 24 = .ok (.aload_n 0, 1) := by decide +kernel
theorem dX5_countKnot_25 : decode cX5_countKnot 25 = .ok (.getfield 24, 3) := by decide +kernel
theorem dX5_countKnot_28 : decode cX5_countKnot 28 = .ok (.dup, 1) := by decide +kernel
theorem dX5_countKnot_29 : decode cX5_countKnot 29 = .ok (.getfield 258, 3) := by decide +kernel
theorem dX5_countKnot_32 : decode cX5_countKnot 32 = .ok (.iconst 1, 1) := by decide +kernel
theorem dX5_countKnot_33 : decode cX5_countKnot 33 = .ok (.iadd, 1) := by decide +kernel
theorem dX5_countKnot_34 : decode cX5_countKnot 34 = .ok (.putfield 258, 3) := by decide +kernel
theorem dX5_countKnot_37 : decode cX5_countKnot 37 = .ok (.return_, 1) := by decide +kernel
theorem dX5_next_0 : decode cX5_next 0 = .ok (.aload_n 0, 1) := by decide +kernel
theorem dX5_next_1 : decode cX5_next 1 = .ok (.aload_n 0, 1) := by decide +kernel
theorem dX5_next_2 : decode cX5_next 2 = .ok (.getfield 62, 3) := by decide +kernel
theorem dX5_next_5 : decode cX5_next 5 = .ok (.putfield 163, 3) := by decide +kernel
theorem dX5_next_8 : decode cX5_next 8 = .ok (.aload_n 0, 1) := by decide +kernel
theorem dX5_next_9 : decode cX5_next 9 = .ok (.getfield 59, 3) := by decide +kernel
theorem dX5_next_12 : decode cX5_next 12 = .ok (.aload_n 0, 1) := by decide +kernel
theorem dX5_next_13 : decode cX5_next 13 = .ok (.getfield 56, 3) := by decide +kernel
theorem dX5_next_16 : decode cX5_next 16 = .ok (.if_icmp .ge 44, 3) := by decide +kernel
theorem dX5_next_19 : decode cX5_next 19 = .ok (.aload_n 0, 1) := by decide +kernel
theorem dX5_next_20 : decode cX5_next 20 = .ok (.getfield 20, 3) := by decide +kernel
theorem dX5_next_23 : decode cX5_next 23 = .ok (.aload_n 0, 1) := by decide +kernel
theorem dX5_next_24 : decode cX5_next 24 = .ok (.getfield 59, 3) := by decide +kernel
theorem dX5_next_27 : decode cX5_next 27 = .ok (.baload, 1) := by decide +kernel
theorem dX5_next_28 : decode cX5_next 28 = .ok (.bipush 32, 2) := by decide +kernel
theorem dX5_next_30 : decode cX5_next 30 = .ok (.if_icmp .eq 17, 3) := by decide +kernel
theorem dX5_next_33 : decode cX5_next 33 = .ok (.aload_n 0, 1) := by decide +kernel
theorem dX5_next_34 : decode cX5_next 34 = .ok (.getfield 20, 3) := by decide +kernel
theorem dX5_next_37 : decode cX5_next 37 = .ok (.aload_n 0, 1) := by decide +kernel
theorem dX5_next_38 : decode cX5_next 38 = .ok (.getfield 59, 3) := by decide +kernel
theorem dX5_next_41 : decode cX5_next 41 = .ok (.baload, 1) := by decide +kernel
theorem dX5_next_42 : decode cX5_next 42 = .ok (.bipush 10, 2) := by decide +kernel
theorem dX5_next_44 : decode cX5_next 44 = .ok (.if_icmp .ne 16, 3) := by decide +kernel
theorem dX5_next_47 : decode cX5_next 47 = .ok (.aload_n 0, 1) := by decide +kernel
theorem dX5_next_48 : decode cX5_next 48 = .ok (.dup, 1) := by decide +kernel
theorem dX5_next_49 : decode cX5_next 49 = .ok (.getfield 59, 3) := by decide +kernel
theorem dX5_next_52 : decode cX5_next 52 = .ok (.iconst 1, 1) := by decide +kernel
theorem dX5_next_53 : decode cX5_next 53 = .ok (.iadd, 1) := by decide +kernel
theorem dX5_next_54 : decode cX5_next 54 = .ok (.putfield 59, 3) := by decide +kernel
theorem dX5_next_57 : decode cX5_next 57 = .ok (.goto (-49), 3) := by decide +kernel
theorem dX5_next_60 : decode cX5_next 60 = .ok (.aload_n 0, 1) := by decide +kernel
theorem dX5_next_61 : decode cX5_next 61 = .ok (.aload_n 0, 1) := by decide +kernel
theorem dX5_next_62 : decode cX5_next 62 = .ok (.getfield 59, 3) := by decide +kernel
theorem dX5_next_65 : decode cX5_next 65 = .ok (.putfield 62, 3) := by decide +kernel
theorem dX5_next_68 : decode cX5_next 68 = .ok (.aload_n 0, 1) := by decide +kernel
theorem dX5_next_69 : decode cX5_next 69 = .ok (.iconst 0, 1) := by decide +kernel
theorem dX5_next_70 : decode cX5_next 70 = .ok (.putfield 217, 3) := by decide +kernel
theorem dX5_next_73 : decode cX5_next 73 = .ok (.aload_n 0, 1) := by decide +kernel
theorem dX5_next_74 : decode cX5_next 74 = .ok (.getfield 59, 3) := by decide +kernel
theorem dX5_next_77 : decode cX5_next 77 = .ok (.aload_n 0, 1) := by decide +kernel
theorem dX5_next_78 : decode cX5_next 78 = .ok (.getfield 56, 3) := by decide +kernel
theorem dX5_next_81 : decode cX5_next 81 = .ok (.if_icmp .lt 11, 3) := by decide +kernel
theorem dX5_next_84 : decode cX5_next 84 = .ok (.aload_n 0, 1) := by decide +kernel
theorem dX5_next_85 : decode cX5_next 85 = .ok (.iconst 0, 1) := by decide +kernel
theorem dX5_next_86 : decode cX5_next 86 = .ok (.putfield 90, 3) := by decide +kernel
theorem dX5_next_89 : decode cX5_next 89 = .ok (.goto 51, 3) := by decide +kernel
theorem dX5_next_92 : decode cX5_next 92 = .ok (.aload_n 0, 1) := by decide +kernel
theorem dX5_next_93 : decode cX5_next 93 = .ok (.getfield 20, 3) := by decide +kernel
theorem dX5_next_96 : decode cX5_next 96 = .ok (.aload_n 0, 1) := by decide +kernel
theorem dX5_next_97 : decode cX5_next 97 = .ok (.getfield 59, 3) := by decide +kernel
theorem dX5_next_100 : decode cX5_next 100 = .ok (.baload, 1) := by decide +kernel
theorem dX5_next_101 : decode cX5_next 101 = .ok (.invokestatic 261, 3) := by decide +kernel
theorem dX5_next_104 : decode cX5_next 104 = .ok (.ifCond .eq 10, 3) := by decide +kernel
theorem dX5_next_107 : decode cX5_next 107 = .ok (.aload_n 0, 1) := by decide +kernel
theorem dX5_next_108 : decode cX5_next 108 = .ok (.invokevirtual 265, 3) := by decide +kernel
theorem dX5_next_111 : decode cX5_next 111 = .ok (.goto 29, 3) := by decide +kernel
theorem dX5_next_114 : decode cX5_next 114 = .ok (.aload_n 0, 1) := by decide +kernel
theorem dX5_next_115 : decode cX5_next 115 = .ok (.getfield 20, 3) := by decide +kernel
theorem dX5_next_118 : decode cX5_next 118 = .ok (.aload_n 0, 1) := by decide +kernel
theorem dX5_next_119 : decode cX5_next 119 = .ok (.getfield 59, 3) := by decide +kernel
theorem dX5_next_122 : decode cX5_next 122 = .ok (.baload, 1) := by decide +kernel
theorem dX5_next_123 : decode cX5_next 123 = .ok (.invokestatic 268, 3) := by decide +kernel
theorem dX5_next_126 : decode cX5_next 126 = .ok (.ifCond .eq 10, 3) := by decide +kernel
theorem dX5_next_129 : decode cX5_next 129 = .ok (.aload_n 0, 1) := by decide +kernel
theorem dX5_next_130 : decode cX5_next 130 = .ok (.invokevirtual 271, 3) := by decide +kernel
theorem dX5_next_133 : decode cX5_next 133 = .ok (.goto 7, 3) := by decide +kernel
theorem dX5_next_136 : decode cX5_next 136 = .ok (.aload_n 0, 1) := by decide +kernel
theorem dX5_next_137 : decode cX5_next 137 = .ok (.invokevirtual 274, 3) := by decide +kernel
theorem dX5_next_140 : decode cX5_next 140 = .ok (.return_, 1) := by decide +kernel
theorem dX5_isLetter_0 : decode cX5_isLetter 0 = .ok (.iload_n 0, 1) := by decide +kernel
theorem dX5_isLetter_1 : decode cX5_isLetter 1 = .ok (.bipush 97, 2) := by decide +kernel
theorem dX5_isLetter_3 : decode cX5_isLetter 3 = .ok (.if_icmp .lt 13, 3) := by decide +kernel
theorem dX5_isLetter_6 : decode cX5_isLetter 6 = .ok (.iload_n 0, 1) := by decide +kernel
theorem dX5_isLetter_7 : decode cX5_isLetter 7 = .ok (.bipush 122, 2) := by decide +kernel
theorem dX5_isLetter_9 : decode cX5_isLetter 9 = .ok (.if_icmp .gt 7, 3) := by decide +kernel
theorem dX5_isLetter_12 : decode cX5_isLetter 12 = .ok (.iconst 1, 1) := by decide +kernel
theorem dX5_isLetter_13 : decode cX5_isLetter 13 = .ok (.goto 4, 3) := by decide +kernel
theorem dX5_isLetter_16 : decode cX5_isLetter 16 = .ok (.iconst 0, 1) := by decide +kernel
theorem dX5_isLetter_17 : decode cX5_isLetter 17 = .ok (.ireturn, 1) := by decide +kernel
theorem dX5_isDigit_0 : decode cX5_isDigit 0 = .ok (.iload_n 0, 1) := by decide +kernel
theorem dX5_isDigit_1 : decode cX5_isDigit 1 = .ok (.bipush 48, 2) := by decide +kernel
theorem dX5_isDigit_3 : decode cX5_isDigit 3 = .ok (.if_icmp .lt 13, 3) := by decide +kernel
theorem dX5_isDigit_6 : decode cX5_isDigit 6 = .ok (.iload_n 0, 1) := by decide +kernel
theorem dX5_isDigit_7 : decode cX5_isDigit 7 = .ok (.bipush 57, 2) := by decide +kernel
theorem dX5_isDigit_9 : decode cX5_isDigit 9 = .ok (.if_icmp .gt 7, 3) := by decide +kernel
theorem dX5_isDigit_12 : decode cX5_isDigit 12 = .ok (.iconst 1, 1) := by decide +kernel
theorem dX5_isDigit_13 : decode cX5_isDigit 13 = .ok (.goto 4, 3) := by decide +kernel
theorem dX5_isDigit_16 : decode cX5_isDigit 16 = .ok (.iconst 0, 1) := by decide +kernel
theorem dX5_isDigit_17 : decode cX5_isDigit 17 = .ok (.ireturn, 1) := by decide +kernel
theorem dX5_scanWord_0 : decode cX5_scanWord 0 = .ok (.iconst 0, 1) := by decide +kernel
theorem dX5_scanWord_1 : decode cX5_scanWord 1 = .ok (.istore_n 1, 1) := by decide +kernel
theorem dX5_scanWord_2 : decode cX5_scanWord 2 = .ok (.aload_n 0, 1) := by decide +kernel
theorem dX5_scanWord_3 : decode cX5_scanWord 3 = .ok (.getfield 59, 3) := by decide +kernel
theorem dX5_scanWord_6 : decode cX5_scanWord 6 = .ok (.aload_n 0, 1) := by decide +kernel
theorem dX5_scanWord_7 : decode cX5_scanWord 7 = .ok (.getfield 56, 3) := by decide +kernel
theorem dX5_scanWord_10 : decode cX5_scanWord 10 = .ok (.if_icmp .ge 70, 3) := by decide +kernel
theorem dX5_scanWord_13 : decode cX5_scanWord 13 = .ok (.aload_n 0, 1) := by decide +kernel
theorem dX5_scanWord_14 : decode cX5_scanWord 14 = .ok (.getfield 20, 3) := by decide +kernel
theorem dX5_scanWord_17 : decode cX5_scanWord 17 = .ok (.aload_n 0, 1) := by decide +kernel
theorem dX5_scanWord_18 : decode cX5_scanWord 18 = .ok (.getfield 59, 3) := by decide +kernel
theorem dX5_scanWord_21 : decode cX5_scanWord 21 = .ok (.baload, 1) := by decide +kernel
theorem dX5_scanWord_22 : decode cX5_scanWord 22 = .ok (.invokestatic 261, 3) := by decide +kernel
theorem dX5_scanWord_25 : decode cX5_scanWord 25 = .ok (.ifCond .eq 55, 3) := by decide +kernel
theorem dX5_scanWord_28 : decode cX5_scanWord 28 = .ok (.iload_n 1, 1) := by decide +kernel
theorem dX5_scanWord_29 : decode cX5_scanWord 29 = .ok (.bipush 6, 2) := by decide +kernel
theorem dX5_scanWord_31 : decode cX5_scanWord 31 = .ok (.if_icmp .ge 33, 3) := by decide +kernel
theorem dX5_scanWord_34 : decode cX5_scanWord 34 = .ok (.aload_n 0, 1) := by decide +kernel
theorem dX5_scanWord_35 : decode cX5_scanWord 35 = .ok (.dup, 1) := by decide +kernel
theorem dX5_scanWord_36 : decode cX5_scanWord 36 = .ok (.getfield 217, 3) := by decide +kernel
theorem dX5_scanWord_39 : decode cX5_scanWord 39 = .ok (.aload_n 0, 1) := by decide +kernel
theorem dX5_scanWord_40 : decode cX5_scanWord 40 = .ok (.getfield 20, 3) := by decide +kernel
theorem dX5_scanWord_43 : decode cX5_scanWord 43 = .ok (.aload_n 0, 1) := by decide +kernel
theorem dX5_scanWord_44 : decode cX5_scanWord 44 = .ok (.getfield 59, 3) := by decide +kernel
theorem dX5_scanWord_47 : decode cX5_scanWord 47 = .ok (.baload, 1) := by decide +kernel
theorem dX5_scanWord_48 : decode cX5_scanWord 48 = .ok (.bipush 97, 2) := by decide +kernel
theorem dX5_scanWord_50 : decode cX5_scanWord 50 = .ok (.isub, 1) := by decide +kernel
theorem dX5_scanWord_51 : decode cX5_scanWord 51 = .ok (.iconst 1, 1) := by decide +kernel
theorem dX5_scanWord_52 : decode cX5_scanWord 52 = .ok (.iadd, 1) := by decide +kernel
theorem dX5_scanWord_53 : decode cX5_scanWord 53 = .ok (.bipush 25, 2) := by decide +kernel
theorem dX5_scanWord_55 : decode cX5_scanWord 55 = .ok (.iconst 5, 1) := by decide +kernel
theorem dX5_scanWord_56 : decode cX5_scanWord 56 = .ok (.iload_n 1, 1) := by decide +kernel
theorem dX5_scanWord_57 : decode cX5_scanWord 57 = .ok (.imul, 1) := by decide +kernel
theorem dX5_scanWord_58 : decode cX5_scanWord 58 = .ok (.isub, 1) := by decide +kernel
theorem dX5_scanWord_59 : decode cX5_scanWord 59 = .ok (.ishl, 1) := by decide +kernel
theorem dX5_scanWord_60 : decode cX5_scanWord 60 = .ok (.ior, 1) := by decide +kernel
theorem dX5_scanWord_61 : decode cX5_scanWord 61 = .ok (.putfield 217, 3) := by decide +kernel
theorem dX5_scanWord_64 : decode cX5_scanWord 64 = .ok (.iinc 1 1, 3) := by decide +kernel
theorem dX5_scanWord_67 : decode cX5_scanWord 67 = .ok (.aload_n 0, 1) := by decide +kernel
theorem dX5_scanWord_68 : decode cX5_scanWord 68 = .ok (.dup, 1) := by decide +kernel
theorem dX5_scanWord_69 : decode cX5_scanWord 69 = .ok (.getfield 59, 3) := by decide +kernel
theorem dX5_scanWord_72 : decode cX5_scanWord 72 = .ok (.iconst 1, 1) := by decide +kernel
theorem dX5_scanWord_73 : decode cX5_scanWord 73 = .ok (.iadd, 1) := by decide +kernel
theorem dX5_scanWord_74 : decode cX5_scanWord 74 = .ok (.putfield 59, 3) := by decide +kernel
theorem dX5_scanWord_77 : decode cX5_scanWord 77 = .ok (.goto (-75), 3) := by decide +kernel
theorem dX5_scanWord_80 : decode cX5_scanWord 80 = .ok (.aload_n 0, 1) := by decide +kernel
theorem dX5_scanWord_81 : decode cX5_scanWord 81 = .ok (.iload_n 1, 1) := by decide +kernel
theorem dX5_scanWord_82 : decode cX5_scanWord 82 = .ok (.bipush 6, 2) := by decide +kernel
theorem dX5_scanWord_84 : decode cX5_scanWord 84 = .ok (.if_icmp .le 7, 3) := by decide +kernel
theorem dX5_scanWord_87 : decode cX5_scanWord 87 = .ok (.iconst 1, 1) := by decide +kernel
theorem dX5_scanWord_88 : decode cX5_scanWord 88 = .ok (.goto 4, 3) := by decide +kernel
theorem dX5_scanWord_91 : decode cX5_scanWord 91 = .ok (.iconst 2, 1) := by decide +kernel
theorem dX5_scanWord_92 : decode cX5_scanWord 92 = .ok (.putfield 90, 3) := by decide +kernel
theorem dX5_scanWord_95 : decode cX5_scanWord 95 = .ok (.iconst 0, 1) := by decide +kernel
theorem dX5_scanWord_96 : decode cX5_scanWord 96 = .ok (.istore_n 2, 1) := by decide +kernel
theorem dX5_scanWord_97 : decode cX5_scanWord 97 = .ok (.iload_n 2, 1) := by decide +kernel
theorem dX5_scanWord_98 : decode cX5_scanWord 98 = .ok (.bipush 24, 2) := by decide +kernel
theorem dX5_scanWord_100 : decode cX5_scanWord 100 = .ok (.if_icmp .ge 38, 3) := by decide +kernel
theorem dX5_scanWord_103 : decode cX5_scanWord 103 = .ok (.aload_n 0, 1) := by decide +kernel
theorem dX5_scanWord_104 : decode cX5_scanWord 104 = .ok (.getfield 90, 3) := by decide +kernel
theorem dX5_scanWord_107 : decode cX5_scanWord 107 = .ok (.iconst 2, 1) := by decide +kernel
theorem dX5_scanWord_108 : decode cX5_scanWord 108 = .ok (.if_icmp .ne 30, 3) := by decide +kernel
theorem dX5_scanWord_111 : decode cX5_scanWord 111 = .ok (.aload_n 0, 1) := by decide +kernel
theorem dX5_scanWord_112 : decode cX5_scanWord 112 = .ok (.getfield 13, 3) := by decide +kernel
theorem dX5_scanWord_115 : decode cX5_scanWord 115 = .ok (.iload_n 2, 1) := by decide +kernel
theorem dX5_scanWord_116 : decode cX5_scanWord 116 = .ok (.iaload, 1) := by decide +kernel
theorem dX5_scanWord_117 : decode cX5_scanWord 117 = .ok (.aload_n 0, 1) := by decide +kernel
theorem dX5_scanWord_118 : decode cX5_scanWord 118 = .ok (.getfield 217, 3) := by decide +kernel
theorem dX5_scanWord_121 : decode cX5_scanWord 121 = .ok (.if_icmp .ne 11, 3) := by decide +kernel
theorem dX5_scanWord_124 : decode cX5_scanWord 124 = .ok (.aload_n 0, 1) := by decide +kernel
theorem dX5_scanWord_125 : decode cX5_scanWord 125 = .ok (.bipush 20, 2) := by decide +kernel
theorem dX5_scanWord_127 : decode cX5_scanWord 127 = .ok (.iload_n 2, 1) := by decide +kernel
theorem dX5_scanWord_128 : decode cX5_scanWord 128 = .ok (.iadd, 1) := by decide +kernel
theorem dX5_scanWord_129 : decode cX5_scanWord 129 = .ok (.putfield 90, 3) := by decide +kernel
theorem dX5_scanWord_132 : decode cX5_scanWord 132 = .ok (.iinc 2 1, 3) := by decide +kernel
theorem dX5_scanWord_135 : decode cX5_scanWord 135 = .ok (.goto (-38), 3) := by decide +kernel
theorem dX5_scanWord_138 : decode cX5_scanWord 138 = .ok (.return_, 1) := by decide +kernel
theorem dX5_scanNumber_0 : decode cX5_scanNumber 0 = .ok (.aload_n 0, 1) := by decide +kernel
theorem dX5_scanNumber_1 : decode cX5_scanNumber 1 = .ok (.iconst 3, 1) := by decide +kernel
theorem dX5_scanNumber_2 : decode cX5_scanNumber 2 = .ok (.putfield 90, 3) := by decide +kernel
theorem dX5_scanNumber_5 : decode cX5_scanNumber 5 = .ok (.aload_n 0, 1) := by decide +kernel
theorem dX5_scanNumber_6 : decode cX5_scanNumber 6 = .ok (.getfield 59, 3) := by decide +kernel
theorem dX5_scanNumber_9 : decode cX5_scanNumber 9 = .ok (.aload_n 0, 1) := by decide +kernel
theorem dX5_scanNumber_10 : decode cX5_scanNumber 10 = .ok (.getfield 56, 3) := by decide +kernel
theorem dX5_scanNumber_13 : decode cX5_scanNumber 13 = .ok (.if_icmp .ge 61, 3) := by decide +kernel
theorem dX5_scanNumber_16 : decode cX5_scanNumber 16 = .ok (.aload_n 0, 1) := by decide +kernel
theorem dX5_scanNumber_17 : decode cX5_scanNumber 17 = .ok (.getfield 20, 3) := by decide +kernel
theorem dX5_scanNumber_20 : decode cX5_scanNumber 20 = .ok (.aload_n 0, 1) := by decide +kernel
theorem dX5_scanNumber_21 : decode cX5_scanNumber 21 = .ok (.getfield 59, 3) := by decide +kernel
theorem dX5_scanNumber_24 : decode cX5_scanNumber 24 = .ok (.baload, 1) := by decide +kernel
theorem dX5_scanNumber_25 : decode cX5_scanNumber 25 = .ok (.invokestatic 268, 3) := by decide +kernel
theorem dX5_scanNumber_28 : decode cX5_scanNumber 28 = .ok (.ifCond .eq 46, 3) := by decide +kernel
theorem dX5_scanNumber_31 : decode cX5_scanNumber 31 = .ok (.aload_n 0, 1) := by decide +kernel
theorem dX5_scanNumber_32 : decode cX5_scanNumber 32 = .ok (.ldc_w 277, 3) := by decide +kernel
theorem dX5_scanNumber_35 : decode cX5_scanNumber 35 = .ok (.aload_n 0, 1) := by decide +kernel
theorem dX5_scanNumber_36 : decode cX5_scanNumber 36 = .ok (.getfield 217, 3) := by decide +kernel
theorem dX5_scanNumber_39 : decode cX5_scanNumber 39 = .ok (.bipush 10, 2) := by decide +kernel
theorem dX5_scanNumber_41 : decode cX5_scanNumber 41 = .ok (.imul, 1) := by decide +kernel
theorem dX5_scanNumber_42 : decode cX5_scanNumber 42 = .ok (.aload_n 0, 1) := by decide +kernel
theorem dX5_scanNumber_43 : decode cX5_scanNumber 43 = .ok (.getfield 20, 3) := by decide +kernel
theorem dX5_scanNumber_46 : decode cX5_scanNumber 46 = .ok (.aload_n 0, 1) := by decide +kernel
theorem dX5_scanNumber_47 : decode cX5_scanNumber 47 = .ok (.getfield 59, 3) := by decide +kernel
theorem dX5_scanNumber_50 : decode cX5_scanNumber 50 = .ok (.baload, 1) := by decide +kernel
theorem dX5_scanNumber_51 : decode cX5_scanNumber 51 = .ok (.iadd, 1) := by decide +kernel
theorem dX5_scanNumber_52 : decode cX5_scanNumber 52 = .ok (.bipush 48, 2) := by decide +kernel
theorem dX5_scanNumber_54 : decode cX5_scanNumber 54 = .ok (.isub, 1) := by decide +kernel
theorem dX5_scanNumber_55 : decode cX5_scanNumber 55 = .ok (.invokestatic 50, 3) := by decide +kernel
theorem dX5_scanNumber_58 : decode cX5_scanNumber 58 = .ok (.putfield 217, 3) := by decide +kernel
theorem dX5_scanNumber_61 : decode cX5_scanNumber 61 = .ok (.aload_n 0, 1) := by decide +kernel
theorem dX5_scanNumber_62 : decode cX5_scanNumber 62 = .ok (.dup, 1) := by decide +kernel
theorem dX5_scanNumber_63 : decode cX5_scanNumber 63 = .ok (.getfield 59, 3) := by decide +kernel
theorem dX5_scanNumber_66 : decode cX5_scanNumber 66 = .ok (.iconst 1, 1) := by decide +kernel
theorem dX5_scanNumber_67 : decode cX5_scanNumber 67 = .ok (.iadd, 1) := by decide +kernel
theorem dX5_scanNumber_68 : decode cX5_scanNumber 68 = .ok (.putfield 59, 3) := by decide +kernel
theorem dX5_scanNumber_71 : decode cX5_scanNumber 71 = .ok (.goto (-66), 3) := by decide +kernel
theorem dX5_scanNumber_74 : decode cX5_scanNumber 74 = .ok (.return_, 1) := by decide +kernel
theorem dX5_scanSign_0 : decode cX5_scanSign 0 = .ok (.aload_n 0, 1) := by decide +kernel
theorem dX5_scanSign_1 : decode cX5_scanSign 1 = .ok (.getfield 20, 3) := by decide +kernel
theorem dX5_scanSign_4 : decode cX5_scanSign 4 = .ok (.aload_n 0, 1) := by decide +kernel
theorem dX5_scanSign_5 : decode cX5_scanSign 5 = .ok (.getfield 59, 3) := by decide +kernel
theorem dX5_scanSign_8 : decode cX5_scanSign 8 = .ok (.baload, 1) := by decide +kernel
theorem dX5_scanSign_9 : decode cX5_scanSign 9 = .ok (.istore_n 1, 1) := by decide +kernel
theorem dX5_scanSign_10 : decode cX5_scanSign 10 = .ok (.aload_n 0, 1) := by decide +kernel
theorem dX5_scanSign_11 : decode cX5_scanSign 11 = .ok (.dup, 1) := by decide +kernel
theorem dX5_scanSign_12 : decode cX5_scanSign 12 = .ok (.getfield 59, 3) := by decide +kernel
theorem dX5_scanSign_15 : decode cX5_scanSign 15 = .ok (.iconst 1, 1) := by decide +kernel
theorem dX5_scanSign_16 : decode cX5_scanSign 16 = .ok (.iadd, 1) := by decide +kernel
theorem dX5_scanSign_17 : decode cX5_scanSign 17 = .ok (.putfield 59, 3) := by decide +kernel
theorem dX5_scanSign_20 : decode cX5_scanSign 20 = .ok (.aload_n 0, 1) := by decide +kernel
theorem dX5_scanSign_21 : decode cX5_scanSign 21 = .ok (.getfield 59, 3) := by decide +kernel
theorem dX5_scanSign_24 : decode cX5_scanSign 24 = .ok (.aload_n 0, 1) := by decide +kernel
theorem dX5_scanSign_25 : decode cX5_scanSign 25 = .ok (.getfield 56, 3) := by decide +kernel
theorem dX5_scanSign_28 : decode cX5_scanSign 28 = .ok (.if_icmp .ge 15, 3) := by decide +kernel
theorem dX5_scanSign_31 : decode cX5_scanSign 31 = .ok (.aload_n 0, 1) := by decide +kernel
theorem dX5_scanSign_32 : decode cX5_scanSign 32 = .ok (.getfield 20, 3) := by decide +kernel
theorem dX5_scanSign_35 : decode cX5_scanSign 35 = .ok (.aload_n 0, 1) := by decide +kernel
theorem dX5_scanSign_36 : decode cX5_scanSign 36 = .ok (.getfield 59, 3) := by decide +kernel
theorem dX5_scanSign_39 : decode cX5_scanSign 39 = .ok (.baload, 1) := by decide +kernel
theorem dX5_scanSign_40 : decode cX5_scanSign 40 = .ok (.goto 4, 3) := by decide +kernel
theorem dX5_scanSign_43 : decode cX5_scanSign 43 = .ok (.iconst 0, 1) := by decide +kernel
theorem dX5_scanSign_44 : decode cX5_scanSign 44 = .ok (.istore_n 2, 1) := by decide +kernel
theorem dX5_scanSign_45 : decode cX5_scanSign 45 = .ok (.iload_n 1, 1) := by decide +kernel
theorem dX5_scanSign_46 : decode cX5_scanSign 46 = .ok (.tableswitch 227 40 62 #[114, 122, 149, 131, 227, 140, 227, 158, 227, 227, 227, 227, 227, 227, 227, 227, 227, 227, 227, 106, 167, 198, 207], 106) := by decide +kernel
theorem dX5_scanSign_152 : decode cX5_scanSign 152 = .ok (.aload_n 0, 1) := by decide +kernel
theorem dX5_scanSign_153 : decode cX5_scanSign 153 = .ok (.iconst 4, 1) := by decide +kernel
theorem dX5_scanSign_154 : decode cX5_scanSign 154 = .ok (.putfield 90, 3) := by decide +kernel
theorem dX5_scanSign_157 : decode cX5_scanSign 157 = .ok (.goto 121, 3) := by decide +kernel
theorem dX5_scanSign_160 : decode cX5_scanSign 160 = .ok (.aload_n 0, 1) := by decide +kernel
theorem dX5_scanSign_161 : decode cX5_scanSign 161 = .ok (.iconst 5, 1) := by decide +kernel
theorem dX5_scanSign_162 : decode cX5_scanSign 162 = .ok (.putfield 90, 3) := by decide +kernel
theorem dX5_scanSign_165 : decode cX5_scanSign 165 = .ok (.goto 113, 3) := by decide +kernel
theorem dX5_scanSign_168 : decode cX5_scanSign 168 = .ok (.aload_n 0, 1) := by decide +kernel
theorem dX5_scanSign_169 : decode cX5_scanSign 169 = .ok (.bipush 6, 2) := by decide +kernel
theorem dX5_scanSign_171 : decode cX5_scanSign 171 = .ok (.putfield 90, 3) := by decide +kernel
theorem dX5_scanSign_174 : decode cX5_scanSign 174 = .ok (.goto 104, 3) := by decide +kernel
theorem dX5_scanSign_177 : decode cX5_scanSign 177 = .ok (.aload_n 0, 1) := by decide +kernel
theorem dX5_scanSign_178 : decode cX5_scanSign 178 = .ok (.bipush 7, 2) := by decide +kernel
theorem dX5_scanSign_180 : decode cX5_scanSign 180 = .ok (.putfield 90, 3) := by decide +kernel
theorem dX5_scanSign_183 : decode cX5_scanSign 183 = .ok (.goto 95, 3) := by decide +kernel
theorem dX5_scanSign_186 : decode cX5_scanSign 186 = .ok (.aload_n 0, 1) := by decide +kernel
theorem dX5_scanSign_187 : decode cX5_scanSign 187 = .ok (.bipush 8, 2) := by decide +kernel
theorem dX5_scanSign_189 : decode cX5_scanSign 189 = .ok (.putfield 90, 3) := by decide +kernel
theorem dX5_scanSign_192 : decode cX5_scanSign 192 = .ok (.goto 86, 3) := by decide +kernel
theorem dX5_scanSign_195 : decode cX5_scanSign 195 = .ok (.aload_n 0, 1) := by decide +kernel
theorem dX5_scanSign_196 : decode cX5_scanSign 196 = .ok (.bipush 9, 2) := by decide +kernel
theorem dX5_scanSign_198 : decode cX5_scanSign 198 = .ok (.putfield 90, 3) := by decide +kernel
theorem dX5_scanSign_201 : decode cX5_scanSign 201 = .ok (.goto 77, 3) := by decide +kernel
theorem dX5_scanSign_204 : decode cX5_scanSign 204 = .ok (.aload_n 0, 1) := by decide +kernel
theorem dX5_scanSign_205 : decode cX5_scanSign 205 = .ok (.bipush 10, 2) := by decide +kernel
theorem dX5_scanSign_207 : decode cX5_scanSign 207 = .ok (.putfield 90, 3) := by decide +kernel
theorem dX5_scanSign_210 : decode cX5_scanSign 210 = .ok (.goto 68, 3) := by decide +kernel
theorem dX5_scanSign_213 : decode cX5_scanSign 213 = .ok (.aload_n 0, 1) := by decide +kernel
theorem dX5_scanSign_214 : decode cX5_scanSign 214 = .ok (.iload_n 2, 1) := by decide +kernel
theorem dX5_scanSign_215 : decode cX5_scanSign 215 = .ok (.bipush 61, 2) := by decide +kernel
theorem dX5_scanSign_217 : decode cX5_scanSign 217 = .ok (.if_icmp .ne 8, 3) := by decide +kernel
theorem dX5_scanSign_220 : decode cX5_scanSign 220 = .ok (.bipush 12, 2) := by decide +kernel
theorem dX5_scanSign_222 : decode cX5_scanSign 222 = .ok (.goto 16, 3) := by decide +kernel
theorem dX5_scanSign_225 : decode cX5_scanSign 225 = .ok (.iload_n 2, 1) := by decide +kernel
theorem dX5_scanSign_226 : decode cX5_scanSign 226 = .ok (.bipush 62, 2) := by decide +kernel
theorem dX5_scanSign_228 : decode cX5_scanSign 228 = .ok (.if_icmp .ne 8, 3) := by decide +kernel
theorem dX5_scanSign_231 : decode cX5_scanSign 231 = .ok (.bipush 14, 2) := by decide +kernel
theorem dX5_scanSign_233 : decode cX5_scanSign 233 = .ok (.goto 5, 3) := by decide +kernel
theorem dX5_scanSign_236 : decode cX5_scanSign 236 = .ok (.bipush 11, 2) := by decide +kernel
theorem dX5_scanSign_238 : decode cX5_scanSign 238 = .ok (.putfield 90, 3) := by decide +kernel
theorem dX5_scanSign_241 : decode cX5_scanSign 241 = .ok (.goto 37, 3) := by decide +kernel
theorem dX5_scanSign_244 : decode cX5_scanSign 244 = .ok (.aload_n 0, 1) := by decide +kernel
theorem dX5_scanSign_245 : decode cX5_scanSign 245 = .ok (.bipush 13, 2) := by decide +kernel
theorem dX5_scanSign_247 : decode cX5_scanSign 247 = .ok (.putfield 90, 3) := by decide +kernel
theorem dX5_scanSign_250 : decode cX5_scanSign 250 = .ok (.goto 28, 3) := by decide +kernel
theorem dX5_scanSign_253 : decode cX5_scanSign 253 = .ok (.aload_n 0, 1) := by decide +kernel
theorem dX5_scanSign_254 : decode cX5_scanSign 254 = .ok (.iload_n 2, 1) := by decide +kernel
theorem dX5_scanSign_255 : decode cX5_scanSign 255 = .ok (.bipush 61, 2) := by decide +kernel
theorem dX5_scanSign_257 : decode cX5_scanSign 257 = .ok (.if_icmp .ne 8, 3) := by decide +kernel
theorem dX5_scanSign_260 : decode cX5_scanSign 260 = .ok (.bipush 15, 2) := by decide +kernel
theorem dX5_scanSign_262 : decode cX5_scanSign 262 = .ok (.goto 5, 3) := by decide +kernel
theorem dX5_scanSign_265 : decode cX5_scanSign 265 = .ok (.bipush 16, 2) := by decide +kernel
theorem dX5_scanSign_267 : decode cX5_scanSign 267 = .ok (.putfield 90, 3) := by decide +kernel
theorem dX5_scanSign_270 : decode cX5_scanSign 270 = .ok (.goto 8, 3) := by decide +kernel
theorem dX5_scanSign_273 : decode cX5_scanSign 273 = .ok (.aload_n 0, 1) := by decide +kernel
theorem dX5_scanSign_274 : decode cX5_scanSign 274 = .ok (.iconst 1, 1) := by decide +kernel
theorem dX5_scanSign_275 : decode cX5_scanSign 275 = .ok (.putfield 90, 3) := by decide +kernel
theorem dX5_scanSign_278 : decode cX5_scanSign 278 = .ok (.aload_n 0, 1) := by decide +kernel
theorem dX5_scanSign_279 : decode cX5_scanSign 279 = .ok (.getfield 90, 3) := by decide +kernel
theorem dX5_scanSign_282 : decode cX5_scanSign 282 = .ok (.bipush 12, 2) := by decide +kernel
theorem dX5_scanSign_284 : decode cX5_scanSign 284 = .ok (.if_icmp .eq 21, 3) := by decide +kernel
theorem dX5_scanSign_287 : decode cX5_scanSign 287 = .ok (.aload_n 0, 1) := by decide +kernel
theorem dX5_scanSign_288 : decode cX5_scanSign 288 = .ok (.getfield 90, 3) := by decide +kernel
theorem dX5_scanSign_291 : decode cX5_scanSign 291 = .ok (.bipush 14, 2) := by decide +kernel
theorem dX5_scanSign_293 : decode cX5_scanSign 293 = .ok (.if_icmp .eq 12, 3) := by decide +kernel
theorem dX5_scanSign_296 : decode cX5_scanSign 296 = .ok (.aload_n 0, 1) := by decide +kernel
theorem dX5_scanSign_297 : decode cX5_scanSign 297 = .ok (.getfield 90, 3) := by decide +kernel
theorem dX5_scanSign_300 : decode cX5_scanSign 300 = .ok (.bipush 15, 2) := by decide +kernel
theorem dX5_scanSign_302 : decode cX5_scanSign 302 = .ok (.if_icmp .ne 13, 3) := by decide +kernel
theorem dX5_scanSign_305 : decode cX5_scanSign 305 = .ok (.aload_n 0, 1) := by decide +kernel
theorem dX5_scanSign_306 : decode cX5_scanSign 306 = .ok (.dup, 1) := by decide +kernel
theorem dX5_scanSign_307 : decode cX5_scanSign 307 = .ok (.getfield 59, 3) := by decide +kernel
theorem dX5_scanSign_310 : decode cX5_scanSign 310 = .ok (.iconst 1, 1) := by decide +kernel
theorem dX5_scanSign_311 : decode cX5_scanSign 311 = .ok (.iadd, 1) := by decide +kernel
theorem dX5_scanSign_312 : decode cX5_scanSign 312 = .ok (.putfield 59, 3) := by decide +kernel
theorem dX5_scanSign_315 : decode cX5_scanSign 315 = .ok (.return_, 1) := by decide +kernel
theorem dX6_init_0 : decode cX6_init 0 = .ok (.aload_n 0, 1) := by decide +kernel
theorem dX6_init_1 : decode cX6_init 1 = .ok (.invokespecial 3, 3) := by decide +kernel
theorem dX6_init_4 : decode cX6_init 4 = .ok (.aload_n 0, 1) := by decide +kernel
theorem dX6_init_5 : decode cX6_init 5 = .ok (.new 9, 3) := by decide +kernel
theorem dX6_init_8 : decode cX6_init 8 = .ok (.dup, 1) := by decide +kernel
theorem dX6_init_9 : decode cX6_init 9 = .ok (.bipush 24, 2) := by decide +kernel
theorem dX6_init_11 : decode cX6_init 11 = .ok (.iconst 5, 1) := by decide +kernel
theorem dX6_init_12 : decode cX6_init 12 = .ok (.invokespecial 11, 3) := by decide +kernel
theorem dX6_init_15 : decode cX6_init 15 = .ok (.putfield 14, 3) := by decide +kernel
theorem dX6_init_18 : decode cX6_init 18 = .ok (.aload_n 0, 1) := by decide +kernel
theorem dX6_init_19 : decode cX6_init 19 = .ok (.bipush 24, 2) := by decide +kernel
theorem dX6_init_21 : decode cX6_init 21 = .ok (.newarray .boolean, 2) := by decide +kernel
theorem dX6_init_23 : decode cX6_init 23 = .ok (.putfield 20, 3) := by decide +kernel
theorem dX6_init_26 : decode cX6_init 26 = .ok (.return_, 1) := by decide +kernel
theorem dX6_forget_0 : decode cX6_forget 0 = .ok (.aload_n 0, 1) := by decide +kernel
theorem dX6_forget_1 : decode cX6_forget 1 = .ok (.getfield 14, 3) := by decide +kernel
theorem dX6_forget_4 : decode cX6_forget 4 = .ok (.invokevirtual 24, 3) := by decide +kernel
theorem dX6_forget_7 : decode cX6_forget 7 = .ok (.aload_n 0, 1) := by decide +kernel
theorem dX6_forget_8 : decode cX6_forget 8 = .ok (.iconst (-1), 1) := by decide +kernel
theorem dX6_forget_9 : decode cX6_forget 9 = .ok (.putfield 27, 3) := by decide +kernel
theorem dX6_forget_12 : decode cX6_forget 12 = .ok (.return_, 1) := by decide +kernel
theorem dX6_size_0 : decode cX6_size 0 = .ok (.aload_n 0, 1) := by decide +kernel
theorem dX6_size_1 : decode cX6_size 1 = .ok (.getfield 14, 3) := by decide +kernel
theorem dX6_size_4 : decode cX6_size 4 = .ok (.invokevirtual 31, 3) := by decide +kernel
theorem dX6_size_7 : decode cX6_size 7 = .ok (.ireturn, 1) := by decide +kernel
theorem dX6_reach_0 : decode cX6_reach 0 = .ok (.aload_n 0, 1) := by decide +kernel
theorem dX6_reach_1 : decode cX6_reach 1 = .ok (.getfield 27, 3) := by decide +kernel
theorem dX6_reach_4 : decode cX6_reach 4 = .ok (.iconst (-1), 1) := by decide +kernel
theorem dX6_reach_5 : decode cX6_reach 5 = .ok (.if_icmp .ne 13, 3) := by decide +kernel
theorem dX6_reach_8 : decode cX6_reach 8 = .ok (.aload_n 0, 1) := by decide +kernel
theorem dX6_reach_9 : decode cX6_reach 9 = .ok (.getfield 14, 3) := by decide +kernel
theorem dX6_reach_12 : decode cX6_reach 12 = .ok (.invokevirtual 31, 3) := by decide +kernel
theorem dX6_reach_15 : decode cX6_reach 15 = .ok (.goto 7, 3) := by decide +kernel
theorem dX6_reach_18 : decode cX6_reach 18 = .ok (.aload_n 0, 1) := by decide +kernel
theorem dX6_reach_19 : decode cX6_reach 19 = .ok (.getfield 27, 3) := by decide +kernel
theorem dX6_reach_22 : decode cX6_reach 22 = .ok (.ireturn, 1) := by decide +kernel
theorem dX6_add_0 : decode cX6_add 0 = .ok (.aload_n 0, 1) := by decide +kernel
theorem dX6_add_1 : decode cX6_add 1 = .ok (.getfield 14, 3) := by decide +kernel
theorem dX6_add_4 : decode cX6_add 4 = .ok (.invokevirtual 35, 3) := by decide +kernel
theorem dX6_add_7 : decode cX6_add 7 = .ok (.ifCond .eq 5, 3) := by decide +kernel
theorem dX6_add_10 : decode cX6_add 10 = .ok (.iconst (-1), 1) := by decide +kernel
theorem dX6_add_11 : decode cX6_add 11 = .ok (.ireturn, 1) := by decide +kernel
theorem dX6_add_12 : decode cX6_add 12 = .ok (.aload_n 0, 1) := by decide +kernel
theorem dX6_add_13 : decode cX6_add 13 = .ok (.getfield 14, 3) := by decide +kernel
theorem dX6_add_16 : decode cX6_add 16 = .ok (.iconst 0, 1) := by decide +kernel
theorem dX6_add_17 : decode cX6_add 17 = .ok (.iload_n 1, 1) := by decide +kernel
theorem dX6_add_18 : decode cX6_add 18 = .ok (.invokevirtual 39, 3) := by decide +kernel
theorem dX6_add_21 : decode cX6_add 21 = .ok (.aload_n 0, 1) := by decide +kernel
theorem dX6_add_22 : decode cX6_add 22 = .ok (.getfield 14, 3) := by decide +kernel
theorem dX6_add_25 : decode cX6_add 25 = .ok (.iconst 1, 1) := by decide +kernel
theorem dX6_add_26 : decode cX6_add 26 = .ok (.iload_n 2, 1) := by decide +kernel
theorem dX6_add_27 : decode cX6_add 27 = .ok (.invokevirtual 39, 3) := by decide +kernel
theorem dX6_add_30 : decode cX6_add 30 = .ok (.aload_n 0, 1) := by decide +kernel
theorem dX6_add_31 : decode cX6_add 31 = .ok (.getfield 14, 3) := by decide +kernel
theorem dX6_add_34 : decode cX6_add 34 = .ok (.iconst 2, 1) := by decide +kernel
theorem dX6_add_35 : decode cX6_add 35 = .ok (.iload_n 3, 1) := by decide +kernel
theorem dX6_add_36 : decode cX6_add 36 = .ok (.invokevirtual 39, 3) := by decide +kernel
theorem dX6_add_39 : decode cX6_add 39 = .ok (.aload_n 0, 1) := by decide +kernel
theorem dX6_add_40 : decode cX6_add 40 = .ok (.getfield 14, 3) := by decide +kernel
theorem dX6_add_43 : decode cX6_add 43 = .ok (.iconst 3, 1) := by decide +kernel
theorem dX6_add_44 : decode cX6_add 44 = .ok (.iload 4, 2) := by decide +kernel
theorem dX6_add_46 : decode cX6_add 46 = .ok (.invokevirtual 39, 3) := by decide +kernel
theorem dX6_add_49 : decode cX6_add 49 = .ok (.aload_n 0, 1) := by decide +kernel
theorem dX6_add_50 : decode cX6_add 50 = .ok (.getfield 14, 3) := by decide +kernel
theorem dX6_add_53 : decode cX6_add 53 = .ok (.iconst 4, 1) := by decide +kernel
theorem dX6_add_54 : decode cX6_add 54 = .ok (.iload 5, 2) := by decide +kernel
theorem dX6_add_56 : decode cX6_add 56 = .ok (.ifCond .eq 7, 3) := by decide +kernel
theorem dX6_add_59 : decode cX6_add 59 = .ok (.iconst 1, 1) := by decide +kernel
theorem dX6_add_60 : decode cX6_add 60 = .ok (.goto 4, 3) := by decide +kernel
theorem dX6_add_63 : decode cX6_add 63 = .ok (.iconst 0, 1) := by decide +kernel
theorem dX6_add_64 : decode cX6_add 64 = .ok (.invokevirtual 39, 3) := by decide +kernel
theorem dX6_add_67 : decode cX6_add 67 = .ok (.aload_n 0, 1) := by decide +kernel
theorem dX6_add_68 : decode cX6_add 68 = .ok (.getfield 14, 3) := by decide +kernel
theorem dX6_add_71 : decode cX6_add 71 = .ok (.invokevirtual 42, 3) := by decide +kernel
theorem dX6_add_74 : decode cX6_add 74 = .ok (.aload_n 0, 1) := by decide +kernel
theorem dX6_add_75 : decode cX6_add 75 = .ok (.getfield 14, 3) := by decide +kernel
theorem dX6_add_78 : decode cX6_add 78 = .ok (.invokevirtual 31, 3) := by decide +kernel
theorem dX6_add_81 : decode cX6_add 81 = .ok (.iconst 1, 1) := by decide +kernel
theorem dX6_add_82 : decode cX6_add 82 = .ok (.isub, 1) := by decide +kernel
theorem dX6_add_83 : decode cX6_add 83 = .ok (.ireturn, 1) := by decide +kernel
theorem dX6_strike_0 : decode cX6_strike 0 = .ok (.aload_n 0, 1) := by decide +kernel
theorem dX6_strike_1 : decode cX6_strike 1 = .ok (.getfield 14, 3) := by decide +kernel
theorem dX6_strike_4 : decode cX6_strike 4 = .ok (.iload_n 1, 1) := by decide +kernel
theorem dX6_strike_5 : decode cX6_strike 5 = .ok (.invokevirtual 45, 3) := by decide +kernel
theorem dX6_strike_8 : decode cX6_strike 8 = .ok (.ifCond .eq 15, 3) := by decide +kernel
theorem dX6_strike_11 : decode cX6_strike 11 = .ok (.aload_n 0, 1) := by decide +kernel
theorem dX6_strike_12 : decode cX6_strike 12 = .ok (.iconst 0, 1) := by decide +kernel
theorem dX6_strike_13 : decode cX6_strike 13 = .ok (.iconst 2, 1) := by decide +kernel
theorem dX6_strike_14 : decode cX6_strike 14 = .ok (.iload_n 1, 1) := by decide +kernel
theorem dX6_strike_15 : decode cX6_strike 15 = .ok (.iconst 0, 1) := by decide +kernel
theorem dX6_strike_16 : decode cX6_strike 16 = .ok (.iconst 1, 1) := by decide +kernel
theorem dX6_strike_17 : decode cX6_strike 17 = .ok (.invokevirtual 49, 3) := by decide +kernel
theorem dX6_strike_20 : decode cX6_strike 20 = .ok (.goto 4, 3) := by decide +kernel
theorem dX6_strike_23 : decode cX6_strike 23 = .ok (.iconst (-1), 1) := by decide +kernel
theorem dX6_strike_24 : decode cX6_strike 24 = .ok (.ireturn, 1) := by decide +kernel
theorem dX6_settle_0 : decode cX6_settle 0 = .ok (.iconst 0, 1) := by decide +kernel
theorem dX6_settle_1 : decode cX6_settle 1 = .ok (.istore_n 1, 1) := by decide +kernel
theorem dX6_settle_2 : decode cX6_settle 2 = .ok (.iload_n 1, 1) := by decide +kernel
theorem dX6_settle_3 : decode cX6_settle 3 = .ok (.bipush 24, 2) := by decide +kernel
theorem dX6_settle_5 : decode cX6_settle 5 = .ok (.if_icmp .ge 16, 3) := by decide +kernel
theorem dX6_settle_8 : decode cX6_settle 8 = .ok (.aload_n 0, 1) := by decide +kernel
theorem dX6_settle_9 : decode cX6_settle 9 = .ok (.getfield 20, 3) := by decide +kernel
theorem dX6_settle_12 : decode cX6_settle 12 = .ok (.iload_n 1, 1) := by decide +kernel
theorem dX6_settle_13 : decode cX6_settle 13 = .ok (.iconst 0, 1) := by decide +kernel
theorem dX6_settle_14 : decode cX6_settle 14 = .ok (.bastore, 1) := by decide +kernel
theorem dX6_settle_15 : decode cX6_settle 15 = .ok (.iinc 1 1, 3) := by decide +kernel
theorem dX6_settle_18 : decode cX6_settle 18 = .ok (.goto (-16), 3) := by decide +kernel
theorem dX6_settle_21 : decode cX6_settle 21 = .ok (.aload_n 0, 1) := by decide +kernel
theorem dX6_settle_22 : decode cX6_settle 22 = .ok (.invokevirtual 53, 3) := by decide +kernel
theorem dX6_settle_25 : decode cX6_settle 25 = .ok (.bipush 24, 2) := by decide +kernel
theorem dX6_settle_27 : decode cX6_settle 27 = .ok (.invokestatic 56, 3) := by decide +kernel
theorem dX6_settle_30 : decode cX6_settle 30 = .ok (.iconst 1, 1) := by decide +kernel
theorem dX6_settle_31 : decode cX6_settle 31 = .ok (.isub, 1) := by decide +kernel
theorem dX6_settle_32 : decode cX6_settle 32 = .ok (.istore_n 1, 1) := by decide +kernel
theorem dX6_settle_33 : decode cX6_settle 33 = .ok (.iload_n 1, 1) := by decide +kernel
theorem dX6_settle_34 : decode cX6_settle 34 = .ok (.ifCond .lt 57, 3) := by decide +kernel
theorem dX6_settle_37 : decode cX6_settle 37 = .ok (.aload_n 0, 1) := by decide +kernel
theorem dX6_settle_38 : decode cX6_settle 38 = .ok (.getfield 14, 3) := by decide +kernel
theorem dX6_settle_41 : decode cX6_settle 41 = .ok (.iload_n 1, 1) := by decide +kernel
theorem dX6_settle_42 : decode cX6_settle 42 = .ok (.iconst 2, 1) := by decide +kernel
theorem dX6_settle_43 : decode cX6_settle 43 = .ok (.invokevirtual 62, 3) := by decide +kernel
theorem dX6_settle_46 : decode cX6_settle 46 = .ok (.istore_n 2, 1) := by decide +kernel
theorem dX6_settle_47 : decode cX6_settle 47 = .ok (.aload_n 0, 1) := by decide +kernel
theorem dX6_settle_48 : decode cX6_settle 48 = .ok (.getfield 14, 3) := by decide +kernel
theorem dX6_settle_51 : decode cX6_settle 51 = .ok (.iload_n 1, 1) := by decide +kernel
theorem dX6_settle_52 : decode cX6_settle 52 = .ok (.iconst 1, 1) := by decide +kernel
theorem dX6_settle_53 : decode cX6_settle 53 = .ok (.invokevirtual 62, 3) := by decide +kernel
theorem dX6_settle_56 : decode cX6_settle 56 = .ok (.iconst 2, 1) := by decide +kernel
theorem dX6_settle_57 : decode cX6_settle 57 = .ok (.if_icmp .ne 28, 3) := by decide +kernel
theorem dX6_settle_60 : decode cX6_settle 60 = .ok (.aload_n 0, 1) := by decide +kernel
theorem dX6_settle_61 : decode cX6_settle 61 = .ok (.getfield 20, 3) := by decide +kernel
theorem dX6_settle_64 : decode cX6_settle 64 = .ok (.iload_n 1, 1) := by decide +kernel
theorem dX6_settle_65 : decode cX6_settle 65 = .ok (.baload, 1) := by decide +kernel
theorem dX6_settle_66 : decode cX6_settle 66 = .ok (.ifCond .ne 19, 3) := by decide +kernel
theorem dX6_settle_69 : decode cX6_settle 69 = .ok (.iload_n 2, 1) := by decide +kernel
theorem dX6_settle_70 : decode cX6_settle 70 = .ok (.ifCond .lt 15, 3) := by decide +kernel
theorem dX6_settle_73 : decode cX6_settle 73 = .ok (.iload_n 2, 1) := by decide +kernel
theorem dX6_settle_74 : decode cX6_settle 74 = .ok (.iload_n 1, 1) := by decide +kernel
theorem dX6_settle_75 : decode cX6_settle 75 = .ok (.if_icmp .ge 10, 3) := by decide +kernel
theorem dX6_settle_78 : decode cX6_settle 78 = .ok (.aload_n 0, 1) := by decide +kernel
theorem dX6_settle_79 : decode cX6_settle 79 = .ok (.getfield 20, 3) := by decide +kernel
theorem dX6_settle_82 : decode cX6_settle 82 = .ok (.iload_n 2, 1) := by decide +kernel
theorem dX6_settle_83 : decode cX6_settle 83 = .ok (.iconst 1, 1) := by decide +kernel
theorem dX6_settle_84 : decode cX6_settle 84 = .ok (.bastore, 1) := by decide +kernel
theorem dX6_settle_85 : decode cX6_settle 85 = .ok (.iinc 1 (-1), 3) := by decide +kernel
theorem dX6_settle_88 : decode cX6_settle 88 = .ok (.goto (-55), 3) := by decide +kernel
theorem dX6_settle_91 : decode cX6_settle 91 = .ok (.return_, 1) := by decide +kernel
theorem dX6_isKnown_0 : decode cX6_isKnown 0 = .ok (.iload_n 1, 1) := by decide +kernel
theorem dX6_isKnown_1 : decode cX6_isKnown 1 = .ok (.bipush 24, 2) := by decide +kernel
theorem dX6_isKnown_3 : decode cX6_isKnown 3 = .ok (.if_icmp .ge 29, 3) := by decide +kernel
theorem dX6_isKnown_6 : decode cX6_isKnown 6 = .ok (.aload_n 0, 1) := by decide +kernel
theorem dX6_isKnown_7 : decode cX6_isKnown 7 = .ok (.getfield 20, 3) := by decide +kernel
theorem dX6_isKnown_10 : decode cX6_isKnown 10 = .ok (.iload_n 1, 1) := by decide +kernel
theorem dX6_isKnown_11 : decode cX6_isKnown 11 = .ok (.baload, 1) := by decide +kernel
theorem dX6_isKnown_12 : decode cX6_isKnown 12 = .ok (.ifCond .ne 20, 3) := by decide +kernel
theorem dX6_isKnown_15 : decode cX6_isKnown 15 = .ok (.aload_n 0, 1) := by decide +kernel
theorem dX6_isKnown_16 : decode cX6_isKnown 16 = .ok (.getfield 14, 3) := by decide +kernel
theorem dX6_isKnown_19 : decode cX6_isKnown 19 = .ok (.iload_n 1, 1) := by decide +kernel
theorem dX6_isKnown_20 : decode cX6_isKnown 20 = .ok (.iconst 1, 1) := by decide +kernel
theorem dX6_isKnown_21 : decode cX6_isKnown 21 = .ok (.invokevirtual 62, 3) := by decide +kernel
theorem dX6_isKnown_24 : decode cX6_isKnown 24 = .ok (.iconst 2, 1) := by decide +kernel
theorem dX6_isKnown_25 : decode cX6_isKnown 25 = .ok (.if_icmp .eq 7, 3) := by decide +kernel
theorem dX6_isKnown_28 : decode cX6_isKnown 28 = .ok (.iconst 1, 1) := by decide +kernel
theorem dX6_isKnown_29 : decode cX6_isKnown 29 = .ok (.goto 4, 3) := by decide +kernel
theorem dX6_isKnown_32 : decode cX6_isKnown 32 = .ok (.iconst 0, 1) := by decide +kernel
theorem dX6_isKnown_33 : decode cX6_isKnown 33 = .ok (.ireturn, 1) := by decide +kernel
theorem dX6_lastHour_0 : decode cX6_lastHour 0 = .ok (.iconst 0, 1) := by decide +kernel
theorem dX6_lastHour_1 : decode cX6_lastHour 1 = .ok (.istore_n 1, 1) := by decide +kernel
theorem dX6_lastHour_2 : decode cX6_lastHour 2 = .ok (.iconst 0, 1) := by decide +kernel
theorem dX6_lastHour_3 : decode cX6_lastHour 3 = .ok (.istore_n 2, 1) := by decide +kernel
theorem dX6_lastHour_4 : decode cX6_lastHour 4 = .ok (.iload_n 2, 1) := by decide +kernel
theorem dX6_lastHour_5 : decode cX6_lastHour 5 = .ok (.aload_n 0, 1) := by decide +kernel
theorem dX6_lastHour_6 : decode cX6_lastHour 6 = .ok (.invokevirtual 53, 3) := by decide +kernel
theorem dX6_lastHour_9 : decode cX6_lastHour 9 = .ok (.if_icmp .ge 31, 3) := by decide +kernel
theorem dX6_lastHour_12 : decode cX6_lastHour 12 = .ok (.aload_n 0, 1) := by decide +kernel
theorem dX6_lastHour_13 : decode cX6_lastHour 13 = .ok (.iload_n 2, 1) := by decide +kernel
theorem dX6_lastHour_14 : decode cX6_lastHour 14 = .ok (.invokevirtual 65, 3) := by decide +kernel
theorem dX6_lastHour_17 : decode cX6_lastHour 17 = .ok (.ifCond .eq 17, 3) := by decide +kernel
theorem dX6_lastHour_20 : decode cX6_lastHour 20 = .ok (.iload_n 1, 1) := by decide +kernel
theorem dX6_lastHour_21 : decode cX6_lastHour 21 = .ok (.aload_n 0, 1) := by decide +kernel
theorem dX6_lastHour_22 : decode cX6_lastHour 22 = .ok (.getfield 14, 3) := by decide +kernel
theorem dX6_lastHour_25 : decode cX6_lastHour 25 = .ok (.iload_n 2, 1) := by decide +kernel
theorem dX6_lastHour_26 : decode cX6_lastHour 26 = .ok (.iconst 0, 1) := by decide +kernel
theorem dX6_lastHour_27 : decode cX6_lastHour 27 = .ok (.invokevirtual 62, 3) := by decide +kernel
theorem dX6_lastHour_30 : decode cX6_lastHour 30 = .ok (.invokestatic 68, 3) := by decide +kernel
theorem dX6_lastHour_33 : decode cX6_lastHour 33 = .ok (.istore_n 1, 1) := by decide +kernel
theorem dX6_lastHour_34 : decode cX6_lastHour 34 = .ok (.iinc 2 1, 3) := by decide +kernel
theorem dX6_lastHour_37 : decode cX6_lastHour 37 = .ok (.goto (-33), 3) := by decide +kernel
theorem dX6_lastHour_40 : decode cX6_lastHour 40 = .ok (.iload_n 1, 1) := by decide +kernel
theorem dX6_lastHour_41 : decode cX6_lastHour 41 = .ok (.ireturn, 1) := by decide +kernel
theorem dX6_agrees_0 : decode cX6_agrees 0 = .ok (.iconst 0, 1) := by decide +kernel
theorem dX6_agrees_1 : decode cX6_agrees 1 = .ok (.istore_n 3, 1) := by decide +kernel
theorem dX6_agrees_2 : decode cX6_agrees 2 = .ok (.iload_n 3, 1) := by decide +kernel
theorem dX6_agrees_3 : decode cX6_agrees 3 = .ok (.aload_n 0, 1) := by decide +kernel
theorem dX6_agrees_4 : decode cX6_agrees 4 = .ok (.invokevirtual 53, 3) := by decide +kernel
theorem dX6_agrees_7 : decode cX6_agrees 7 = .ok (.if_icmp .ge 145, 3) := by decide +kernel
theorem dX6_agrees_10 : decode cX6_agrees 10 = .ok (.aload_n 0, 1) := by decide +kernel
theorem dX6_agrees_11 : decode cX6_agrees 11 = .ok (.iload_n 3, 1) := by decide +kernel
theorem dX6_agrees_12 : decode cX6_agrees 12 = .ok (.invokevirtual 65, 3) := by decide +kernel
theorem dX6_agrees_15 : decode cX6_agrees 15 = .ok (.ifCond .eq 131, 3) := by decide +kernel
theorem dX6_agrees_18 : decode cX6_agrees 18 = .ok (.aload_n 0, 1) := by decide +kernel
theorem dX6_agrees_19 : decode cX6_agrees 19 = .ok (.getfield 14, 3) := by decide +kernel
theorem dX6_agrees_22 : decode cX6_agrees 22 = .ok (.iload_n 3, 1) := by decide +kernel
theorem dX6_agrees_23 : decode cX6_agrees 23 = .ok (.iconst 0, 1) := by decide +kernel
theorem dX6_agrees_24 : decode cX6_agrees 24 = .ok (.invokevirtual 62, 3) := by decide +kernel
theorem dX6_agrees_27 : decode cX6_agrees 27 = .ok (.iload_n 1, 1) := by decide +kernel
theorem dX6_agrees_28 : decode cX6_agrees 28 = .ok (.if_icmp .ne 118, 3) := by decide +kernel
theorem dX6_agrees_31 : decode cX6_agrees 31 = .ok (.aload_n 0, 1) := by decide +kernel
theorem dX6_agrees_32 : decode cX6_agrees 32 = .ok (.getfield 14, 3) := by decide +kernel
theorem dX6_agrees_35 : decode cX6_agrees 35 = .ok (.iload_n 3, 1) := by decide +kernel
theorem dX6_agrees_36 : decode cX6_agrees 36 = .ok (.iconst 1, 1) := by decide +kernel
theorem dX6_agrees_37 : decode cX6_agrees 37 = .ok (.invokevirtual 62, 3) := by decide +kernel
theorem dX6_agrees_40 : decode cX6_agrees 40 = .ok (.ifCond .ne 7, 3) := by decide +kernel
theorem dX6_agrees_43 : decode cX6_agrees 43 = .ok (.iconst 1, 1) := by decide +kernel
theorem dX6_agrees_44 : decode cX6_agrees 44 = .ok (.goto 4, 3) := by decide +kernel
theorem dX6_agrees_47 : decode cX6_agrees 47 = .ok (.iconst 0, 1) := by decide +kernel
theorem dX6_agrees_48 : decode cX6_agrees 48 = .ok (.istore 4, 2) := by decide +kernel
theorem dX6_agrees_50 : decode cX6_agrees 50 = .ok (.iload 4, 2) := by decide +kernel
theorem dX6_agrees_52 : decode cX6_agrees 52 = .ok (.ifCond .eq 10, 3) := by decide +kernel
theorem dX6_agrees_55 : decode cX6_agrees 55 = .ok (.aload_n 2, 1) := by decide +kernel
theorem dX6_agrees_56 : decode cX6_agrees 56 = .ok (.getfield 71, 3) := by decide +kernel
theorem dX6_agrees_59 : decode cX6_agrees 59 = .ok (.goto 7, 3) := by decide +kernel
theorem dX6_agrees_62 : decode cX6_agrees 62 = .ok (.aload_n 2, 1) := by decide +kernel
theorem dX6_agrees_63 : decode cX6_agrees 63 = .ok (.getfield 76, 3) := by decide +kernel
theorem dX6_agrees_66 : decode cX6_agrees 66 = .ok (.istore 5, 2) := by decide +kernel
theorem dX6_agrees_68 : decode cX6_agrees 68 = .ok (.iload 4, 2) := by decide +kernel
theorem dX6_agrees_70 : decode cX6_agrees 70 = .ok (.ifCond .eq 10, 3) := by decide +kernel
theorem dX6_agrees_73 : decode cX6_agrees 73 = .ok (.aload_n 2, 1) := by decide +kernel
theorem dX6_agrees_74 : decode cX6_agrees 74 = .ok (.getfield 79, 3) := by decide +kernel
theorem dX6_agrees_77 : decode cX6_agrees 77 = .ok (.goto 7, 3) := by decide +kernel
theorem dX6_agrees_80 : decode cX6_agrees 80 = .ok (.aload_n 2, 1) := by decide +kernel
theorem dX6_agrees_81 : decode cX6_agrees 81 = .ok (.getfield 82, 3) := by decide +kernel
theorem dX6_agrees_84 : decode cX6_agrees 84 = .ok (.istore 6, 2) := by decide +kernel
theorem dX6_agrees_86 : decode cX6_agrees 86 = .ok (.iload 5, 2) := by decide +kernel
theorem dX6_agrees_88 : decode cX6_agrees 88 = .ok (.aload_n 0, 1) := by decide +kernel
theorem dX6_agrees_89 : decode cX6_agrees 89 = .ok (.getfield 14, 3) := by decide +kernel
theorem dX6_agrees_92 : decode cX6_agrees 92 = .ok (.iload_n 3, 1) := by decide +kernel
theorem dX6_agrees_93 : decode cX6_agrees 93 = .ok (.iconst 2, 1) := by decide +kernel
theorem dX6_agrees_94 : decode cX6_agrees 94 = .ok (.invokevirtual 62, 3) := by decide +kernel
theorem dX6_agrees_97 : decode cX6_agrees 97 = .ok (.if_icmp .ne 21, 3) := by decide +kernel
theorem dX6_agrees_100 : decode cX6_agrees 100 = .ok (.iload 6, 2) := by decide +kernel
theorem dX6_agrees_102 : decode cX6_agrees 102 = .ok (.aload_n 0, 1) := by decide +kernel
theorem dX6_agrees_103 : decode cX6_agrees 103 = .ok (.getfield 14, 3) := by decide +kernel
theorem dX6_agrees_106 : decode cX6_agrees 106 = .ok (.iload_n 3, 1) := by decide +kernel
theorem dX6_agrees_107 : decode cX6_agrees 107 = .ok (.iconst 3, 1) := by decide +kernel
theorem dX6_agrees_108 : decode cX6_agrees 108 = .ok (.invokevirtual 62, 3) := by decide +kernel
theorem dX6_agrees_111 : decode cX6_agrees 111 = .ok (.if_icmp .ne 7, 3) := by decide +kernel
theorem dX6_agrees_114 : decode cX6_agrees 114 = .ok (.iconst 1, 1) := by decide +kernel
theorem dX6_agrees_115 : decode cX6_agrees 115 = .ok (.goto 4, 3) := by decide +kernel
theorem dX6_agrees_118 : decode cX6_agrees 118 = .ok (.iconst 0, 1) := by decide +kernel
theorem dX6_agrees_119 : decode cX6_agrees 119 = .ok (.istore 7, 2) := by decide +kernel
theorem dX6_agrees_121 : decode cX6_agrees 121 = .ok (.iload 7, 2) := by decide +kernel
theorem dX6_agrees_123 : decode cX6_agrees 123 = .ok (.aload_n 0, 1) := by decide +kernel
theorem dX6_agrees_124 : decode cX6_agrees 124 = .ok (.getfield 14, 3) := by decide +kernel
theorem dX6_agrees_127 : decode cX6_agrees 127 = .ok (.iload_n 3, 1) := by decide +kernel
theorem dX6_agrees_128 : decode cX6_agrees 128 = .ok (.iconst 4, 1) := by decide +kernel
theorem dX6_agrees_129 : decode cX6_agrees 129 = .ok (.invokevirtual 62, 3) := by decide +kernel
theorem dX6_agrees_132 : decode cX6_agrees 132 = .ok (.iconst 1, 1) := by decide +kernel
theorem dX6_agrees_133 : decode cX6_agrees 133 = .ok (.if_icmp .ne 7, 3) := by decide +kernel
theorem dX6_agrees_136 : decode cX6_agrees 136 = .ok (.iconst 1, 1) := by decide +kernel
theorem dX6_agrees_137 : decode cX6_agrees 137 = .ok (.goto 4, 3) := by decide +kernel
theorem dX6_agrees_140 : decode cX6_agrees 140 = .ok (.iconst 0, 1) := by decide +kernel
theorem dX6_agrees_141 : decode cX6_agrees 141 = .ok (.if_icmp .eq 5, 3) := by decide +kernel
theorem dX6_agrees_144 : decode cX6_agrees 144 = .ok (.iconst 0, 1) := by decide +kernel
theorem dX6_agrees_145 : decode cX6_agrees 145 = .ok (.ireturn, 1) := by decide +kernel
theorem dX6_agrees_146 : decode cX6_agrees 146 = .ok (.iinc 3 1, 3) := by decide +kernel
theorem dX6_agrees_149 : decode cX6_agrees 149 = .ok (.goto (-147), 3) := by decide +kernel
theorem dX6_agrees_152 : decode cX6_agrees 152 = .ok (.iconst 1, 1) := by decide +kernel
theorem dX6_agrees_153 : decode cX6_agrees 153 = .ok (.ireturn, 1) := by decide +kernel
theorem dX7_init_0 : decode cX7_init 0 = .ok (.aload_n 0, 1) := by decide +kernel
theorem dX7_init_1 : decode cX7_init 1 = .ok (.invokespecial 3, 3) := by decide +kernel
theorem dX7_init_4 : decode cX7_init 4 = .ok (.aload_n 0, 1) := by decide +kernel
theorem dX7_init_5 : decode cX7_init 5 = .ok (.iload_n 1, 1) := by decide +kernel
theorem dX7_init_6 : decode cX7_init 6 = .ok (.iload_n 2, 1) := by decide +kernel
theorem dX7_init_7 : decode cX7_init 7 = .ok (.imul, 1) := by decide +kernel
theorem dX7_init_8 : decode cX7_init 8 = .ok (.newarray .int, 2) := by decide +kernel
theorem dX7_init_10 : decode cX7_init 10 = .ok (.putfield 9, 3) := by decide +kernel
theorem dX7_init_13 : decode cX7_init 13 = .ok (.aload_n 0, 1) := by decide +kernel
theorem dX7_init_14 : decode cX7_init 14 = .ok (.iload_n 1, 1) := by decide +kernel
theorem dX7_init_15 : decode cX7_init 15 = .ok (.putfield 15, 3) := by decide +kernel
theorem dX7_init_18 : decode cX7_init 18 = .ok (.aload_n 0, 1) := by decide +kernel
theorem dX7_init_19 : decode cX7_init 19 = .ok (.iload_n 2, 1) := by decide +kernel
theorem dX7_init_20 : decode cX7_init 20 = .ok (.putfield 19, 3) := by decide +kernel
theorem dX7_init_23 : decode cX7_init 23 = .ok (.return_, 1) := by decide +kernel
theorem dX7_empty_0 : decode cX7_empty 0 = .ok (.aload_n 0, 1) := by decide +kernel
theorem dX7_empty_1 : decode cX7_empty 1 = .ok (.iconst 0, 1) := by decide +kernel
theorem dX7_empty_2 : decode cX7_empty 2 = .ok (.putfield 22, 3) := by decide +kernel
theorem dX7_empty_5 : decode cX7_empty 5 = .ok (.return_, 1) := by decide +kernel
theorem dX7_size_0 : decode cX7_size 0 = .ok (.aload_n 0, 1) := by decide +kernel
theorem dX7_size_1 : decode cX7_size 1 = .ok (.getfield 22, 3) := by decide +kernel
theorem dX7_size_4 : decode cX7_size 4 = .ok (.ireturn, 1) := by decide +kernel
theorem dX7_isFull_0 : decode cX7_isFull 0 = .ok (.aload_n 0, 1) := by decide +kernel
theorem dX7_isFull_1 : decode cX7_isFull 1 = .ok (.getfield 22, 3) := by decide +kernel
theorem dX7_isFull_4 : decode cX7_isFull 4 = .ok (.aload_n 0, 1) := by decide +kernel
theorem dX7_isFull_5 : decode cX7_isFull 5 = .ok (.getfield 15, 3) := by decide +kernel
theorem dX7_isFull_8 : decode cX7_isFull 8 = .ok (.if_icmp .lt 7, 3) := by decide +kernel
theorem dX7_isFull_11 : decode cX7_isFull 11 = .ok (.iconst 1, 1) := by decide +kernel
theorem dX7_isFull_12 : decode cX7_isFull 12 = .ok (.goto 4, 3) := by decide +kernel
theorem dX7_isFull_15 : decode cX7_isFull 15 = .ok (.iconst 0, 1) := by decide +kernel
theorem dX7_isFull_16 : decode cX7_isFull 16 = .ok (.ireturn, 1) := by decide +kernel
theorem dX7_has_0 : decode cX7_has 0 = .ok (.iload_n 1, 1) := by decide +kernel
theorem dX7_has_1 : decode cX7_has 1 = .ok (.ifCond .lt 15, 3) := by decide +kernel
theorem dX7_has_4 : decode cX7_has 4 = .ok (.iload_n 1, 1) := by decide +kernel
theorem dX7_has_5 : decode cX7_has 5 = .ok (.aload_n 0, 1) := by decide +kernel
theorem dX7_has_6 : decode cX7_has 6 = .ok (.getfield 22, 3) := by decide +kernel
theorem dX7_has_9 : decode cX7_has 9 = .ok (.if_icmp .ge 7, 3) := by decide +kernel
theorem dX7_has_12 : decode cX7_has 12 = .ok (.iconst 1, 1) := by decide +kernel
theorem dX7_has_13 : decode cX7_has 13 = .ok (.goto 4, 3) := by decide +kernel
theorem dX7_has_16 : decode cX7_has 16 = .ok (.iconst 0, 1) := by decide +kernel
theorem dX7_has_17 : decode cX7_has 17 = .ok (.ireturn, 1) := by decide +kernel
theorem dX7_put_0 : decode cX7_put 0 = .ok (.aload_n 0, 1) := by decide +kernel
theorem dX7_put_1 : decode cX7_put 1 = .ok (.getfield 22, 3) := by decide +kernel
theorem dX7_put_4 : decode cX7_put 4 = .ok (.aload_n 0, 1) := by decide +kernel
theorem dX7_put_5 : decode cX7_put 5 = .ok (.getfield 15, 3) := by decide +kernel
theorem dX7_put_8 : decode cX7_put 8 = .ok (.if_icmp .ge 32, 3) := by decide +kernel
theorem dX7_put_11 : decode cX7_put 11 = .ok (.iload_n 1, 1) := by decide +kernel
theorem dX7_put_12 : decode cX7_put 12 = .ok (.ifCond .lt 28, 3) := by decide +kernel
theorem dX7_put_15 : decode cX7_put 15 = .ok (.iload_n 1, 1) := by decide +kernel
theorem dX7_put_16 : decode cX7_put 16 = .ok (.aload_n 0, 1) := by decide +kernel
theorem dX7_put_17 : decode cX7_put 17 = .ok (.getfield 19, 3) := by decide +kernel
theorem dX7_put_20 : decode cX7_put 20 = .ok (.if_icmp .ge 20, 3) := by decide +kernel
theorem dX7_put_23 : decode cX7_put 23 = .ok (.aload_n 0, 1) := by decide +kernel
theorem dX7_put_24 : decode cX7_put 24 = .ok (.getfield 9, 3) := by decide +kernel
theorem dX7_put_27 : decode cX7_put 27 = .ok (.aload_n 0, 1) := by decide +kernel
theorem dX7_put_28 : decode cX7_put 28 = .ok (.getfield 22, 3) := by decide +kernel
theorem dX7_put_31 : decode cX7_put 31 = .ok (.aload_n 0, 1) := by decide +kernel
theorem dX7_put_32 : decode cX7_put 32 = .ok (.getfield 19, 3) := by decide +kernel
theorem dX7_put_35 : decode cX7_put 35 = .ok (.imul, 1) := by decide +kernel
theorem dX7_put_36 : decode cX7_put 36 = .ok (.iload_n 1, 1) := by decide +kernel
theorem dX7_put_37 : decode cX7_put 37 = .ok (.iadd, 1) := by decide +kernel
theorem dX7_put_38 : decode cX7_put 38 = .ok (.iload_n 2, 1) := by decide +kernel
theorem dX7_put_39 : decode cX7_put 39 = .ok (.iastore, 1) := by decide +kernel
theorem dX7_put_40 : decode cX7_put 40 = .ok (.return_, 1) := by decide +kernel
theorem dX7_close_0 : decode cX7_close 0 = .ok (.aload_n 0, 1) := by decide +kernel
theorem dX7_close_1 : decode cX7_close 1 = .ok (.getfield 22, 3) := by decide +kernel
theorem dX7_close_4 : decode cX7_close 4 = .ok (.aload_n 0, 1) := by decide +kernel
theorem dX7_close_5 : decode cX7_close 5 = .ok (.getfield 15, 3) := by decide +kernel
theorem dX7_close_8 : decode cX7_close 8 = .ok (.if_icmp .ge 13, 3) := by decide +kernel
theorem dX7_close_11 : decode cX7_close 11 = .ok (.aload_n 0, 1) := by decide +kernel
theorem dX7_close_12 : decode cX7_close 12 = .ok (.dup, 1) := by decide +kernel
theorem dX7_close_13 : decode cX7_close 13 = .ok (.getfield 22, 3) := by decide +kernel
theorem dX7_close_16 : decode cX7_close 16 = .ok (.iconst 1, 1) := by decide +kernel
theorem dX7_close_17 : decode cX7_close 17 = .ok (.iadd, 1) := by decide +kernel
theorem dX7_close_18 : decode cX7_close 18 = .ok (.putfield 22, 3) := by decide +kernel
theorem dX7_close_21 : decode cX7_close 21 = .ok (.return_, 1) := by decide +kernel
theorem dX7_get_0 : decode cX7_get 0 = .ok (.iload_n 1, 1) := by decide +kernel
theorem dX7_get_1 : decode cX7_get 1 = .ok (.ifCond .lt 27, 3) := by decide +kernel
theorem dX7_get_4 : decode cX7_get 4 = .ok (.iload_n 1, 1) := by decide +kernel
theorem dX7_get_5 : decode cX7_get 5 = .ok (.aload_n 0, 1) := by decide +kernel
theorem dX7_get_6 : decode cX7_get 6 = .ok (.getfield 22, 3) := by decide +kernel
theorem dX7_get_9 : decode cX7_get 9 = .ok (.if_icmp .ge 19, 3) := by decide +kernel
theorem dX7_get_12 : decode cX7_get 12 = .ok (.iload_n 2, 1) := by decide +kernel
theorem dX7_get_13 : decode cX7_get 13 = .ok (.ifCond .lt 15, 3) := by decide +kernel
theorem dX7_get_16 : decode cX7_get 16 = .ok (.iload_n 2, 1) := by decide +kernel
theorem dX7_get_17 : decode cX7_get 17 = .ok (.aload_n 0, 1) := by decide +kernel
theorem dX7_get_18 : decode cX7_get 18 = .ok (.getfield 19, 3) := by decide +kernel
theorem dX7_get_21 : decode cX7_get 21 = .ok (.if_icmp .ge 7, 3) := by decide +kernel
theorem dX7_get_24 : decode cX7_get 24 = .ok (.iconst 1, 1) := by decide +kernel
theorem dX7_get_25 : decode cX7_get 25 = .ok (.goto 4, 3) := by decide +kernel
theorem dX7_get_28 : decode cX7_get 28 = .ok (.iconst 0, 1) := by decide +kernel
theorem dX7_get_29 : decode cX7_get 29 = .ok (.istore_n 3, 1) := by decide +kernel
theorem dX7_get_30 : decode cX7_get 30 = .ok (.iload_n 3, 1) := by decide +kernel
theorem dX7_get_31 : decode cX7_get 31 = .ok (.ifCond .eq 19, 3) := by decide +kernel
theorem dX7_get_34 : decode cX7_get 34 = .ok (.aload_n 0, 1) := by decide +kernel
theorem dX7_get_35 : decode cX7_get 35 = .ok (.getfield 9, 3) := by decide +kernel
theorem dX7_get_38 : decode cX7_get 38 = .ok (.iload_n 1, 1) := by decide +kernel
theorem dX7_get_39 : decode cX7_get 39 = .ok (.aload_n 0, 1) := by decide +kernel
theorem dX7_get_40 : decode cX7_get 40 = .ok (.getfield 19, 3) := by decide +kernel
theorem dX7_get_43 : decode cX7_get 43 = .ok (.imul, 1) := by decide +kernel
theorem dX7_get_44 : decode cX7_get 44 = .ok (.iload_n 2, 1) := by decide +kernel
theorem dX7_get_45 : decode cX7_get 45 = .ok (.iadd, 1) := by decide +kernel
theorem dX7_get_46 : decode cX7_get 46 = .ok (.iaload, 1) := by decide +kernel
theorem dX7_get_47 : decode cX7_get 47 = .ok (.goto 4, 3) := by decide +kernel
theorem dX7_get_50 : decode cX7_get 50 = .ok (.iconst (-1), 1) := by decide +kernel
theorem dX7_get_51 : decode cX7_get 51 = .ok (.ireturn, 1) := by decide +kernel
theorem dX7_find_0 : decode cX7_find 0 = .ok (.iconst 0, 1) := by decide +kernel
theorem dX7_find_1 : decode cX7_find 1 = .ok (.istore_n 3, 1) := by decide +kernel
theorem dX7_find_2 : decode cX7_find 2 = .ok (.iload_n 3, 1) := by decide +kernel
theorem dX7_find_3 : decode cX7_find 3 = .ok (.aload_n 0, 1) := by decide +kernel
theorem dX7_find_4 : decode cX7_find 4 = .ok (.getfield 22, 3) := by decide +kernel
theorem dX7_find_7 : decode cX7_find 7 = .ok (.if_icmp .ge 21, 3) := by decide +kernel
theorem dX7_find_10 : decode cX7_find 10 = .ok (.aload_n 0, 1) := by decide +kernel
theorem dX7_find_11 : decode cX7_find 11 = .ok (.iload_n 3, 1) := by decide +kernel
theorem dX7_find_12 : decode cX7_find 12 = .ok (.iload_n 1, 1) := by decide +kernel
theorem dX7_find_13 : decode cX7_find 13 = .ok (.invokevirtual 25, 3) := by decide +kernel
theorem dX7_find_16 : decode cX7_find 16 = .ok (.iload_n 2, 1) := by decide +kernel
theorem dX7_find_17 : decode cX7_find 17 = .ok (.if_icmp .ne 5, 3) := by decide +kernel
theorem dX7_find_20 : decode cX7_find 20 = .ok (.iload_n 3, 1) := by decide +kernel
theorem dX7_find_21 : decode cX7_find 21 = .ok (.ireturn, 1) := by decide +kernel
theorem dX7_find_22 : decode cX7_find 22 = .ok (.iinc 3 1, 3) := by decide +kernel
theorem dX7_find_25 : decode cX7_find 25 = .ok (.goto (-23), 3) := by decide +kernel
theorem dX7_find_28 : decode cX7_find 28 = .ok (.iconst (-1), 1) := by decide +kernel
theorem dX7_find_29 : decode cX7_find 29 = .ok (.ireturn, 1) := by decide +kernel
theorem dX8_init_0 : decode cX8_init 0 = .ok (.aload_n 0, 1) := by decide +kernel
theorem dX8_init_1 : decode cX8_init 1 = .ok (.invokespecial 3, 3) := by decide +kernel
theorem dX8_init_4 : decode cX8_init 4 = .ok (.aload_n 0, 1) := by decide +kernel
theorem dX8_init_5 : decode cX8_init 5 = .ok (.bipush 64, 2) := by decide +kernel
theorem dX8_init_7 : decode cX8_init 7 = .ok (.newarray .boolean, 2) := by decide +kernel
theorem dX8_init_9 : decode cX8_init 9 = .ok (.putfield 9, 3) := by decide +kernel
theorem dX8_init_12 : decode cX8_init 12 = .ok (.aload_n 0, 1) := by decide +kernel
theorem dX8_init_13 : decode cX8_init 13 = .ok (.bipush 24, 2) := by decide +kernel
theorem dX8_init_15 : decode cX8_init 15 = .ok (.newarray .int, 2) := by decide +kernel
theorem dX8_init_17 : decode cX8_init 17 = .ok (.putfield 15, 3) := by decide +kernel
theorem dX8_init_20 : decode cX8_init 20 = .ok (.aload_n 0, 1) := by decide +kernel
theorem dX8_init_21 : decode cX8_init 21 = .ok (.new 19, 3) := by decide +kernel
theorem dX8_init_24 : decode cX8_init 24 = .ok (.dup, 1) := by decide +kernel
theorem dX8_init_25 : decode cX8_init 25 = .ok (.bipush 6, 2) := by decide +kernel
theorem dX8_init_27 : decode cX8_init 27 = .ok (.iconst 3, 1) := by decide +kernel
theorem dX8_init_28 : decode cX8_init 28 = .ok (.invokespecial 21, 3) := by decide +kernel
theorem dX8_init_31 : decode cX8_init 31 = .ok (.putfield 24, 3) := by decide +kernel
theorem dX8_init_34 : decode cX8_init 34 = .ok (.aload_n 0, 1) := by decide +kernel
theorem dX8_init_35 : decode cX8_init 35 = .ok (.new 19, 3) := by decide +kernel
theorem dX8_init_38 : decode cX8_init 38 = .ok (.dup, 1) := by decide +kernel
theorem dX8_init_39 : decode cX8_init 39 = .ok (.iconst 4, 1) := by decide +kernel
theorem dX8_init_40 : decode cX8_init 40 = .ok (.iconst 4, 1) := by decide +kernel
theorem dX8_init_41 : decode cX8_init 41 = .ok (.invokespecial 21, 3) := by decide +kernel
theorem dX8_init_44 : decode cX8_init 44 = .ok (.putfield 28, 3) := by decide +kernel
theorem dX8_init_47 : decode cX8_init 47 = .ok (.aload_n 0, 1) := by decide +kernel
theorem dX8_init_48 : decode cX8_init 48 = .ok (.new 19, 3) := by decide +kernel
theorem dX8_init_51 : decode cX8_init 51 = .ok (.dup, 1) := by decide +kernel
theorem dX8_init_52 : decode cX8_init 52 = .ok (.bipush 12, 2) := by decide +kernel
theorem dX8_init_54 : decode cX8_init 54 = .ok (.iconst 2, 1) := by decide +kernel
theorem dX8_init_55 : decode cX8_init 55 = .ok (.invokespecial 21, 3) := by decide +kernel
theorem dX8_init_58 : decode cX8_init 58 = .ok (.putfield 31, 3) := by decide +kernel
theorem dX8_init_61 : decode cX8_init 61 = .ok (.aload_n 0, 1) := by decide +kernel
theorem dX8_init_62 : decode cX8_init 62 = .ok (.new 19, 3) := by decide +kernel
theorem dX8_init_65 : decode cX8_init 65 = .ok (.dup, 1) := by decide +kernel
theorem dX8_init_66 : decode cX8_init 66 = .ok (.bipush 8, 2) := by decide +kernel
theorem dX8_init_68 : decode cX8_init 68 = .ok (.iconst 5, 1) := by decide +kernel
theorem dX8_init_69 : decode cX8_init 69 = .ok (.invokespecial 21, 3) := by decide +kernel
theorem dX8_init_72 : decode cX8_init 72 = .ok (.putfield 34, 3) := by decide +kernel
theorem dX8_init_75 : decode cX8_init 75 = .ok (.aload_n 0, 1) := by decide +kernel
theorem dX8_init_76 : decode cX8_init 76 = .ok (.new 19, 3) := by decide +kernel
theorem dX8_init_79 : decode cX8_init 79 = .ok (.dup, 1) := by decide +kernel
theorem dX8_init_80 : decode cX8_init 80 = .ok (.iconst 4, 1) := by decide +kernel
theorem dX8_init_81 : decode cX8_init 81 = .ok (.iconst 3, 1) := by decide +kernel
theorem dX8_init_82 : decode cX8_init 82 = .ok (.invokespecial 21, 3) := by decide +kernel
theorem dX8_init_85 : decode cX8_init 85 = .ok (.putfield 37, 3) := by decide +kernel
theorem dX8_init_88 : decode cX8_init 88 = .ok (.aload_n 0, 1) := by decide +kernel
theorem dX8_init_89 : decode cX8_init 89 = .ok (.iconst 3, 1) := by decide +kernel
theorem dX8_init_90 : decode cX8_init 90 = .ok (.anewarray 40, 3) := by decide +kernel
theorem dX8_init_93 : decode cX8_init 93 = .ok (.dup, 1) := by decide +kernel
theorem dX8_init_94 : decode cX8_init 94 = .ok (.iconst 0, 1) := by decide +kernel
theorem dX8_init_95 : decode cX8_init 95 = .ok (.new 40, 3) := by decide +kernel
theorem dX8_init_98 : decode cX8_init 98 = .ok (.dup, 1) := by decide +kernel
theorem dX8_init_99 : decode cX8_init 99 = .ok (.invokespecial 42, 3) := by decide +kernel
theorem dX8_init_102 : decode cX8_init 102 = .ok (.aastore, 1) := by decide +kernel
theorem dX8_init_103 : decode cX8_init 103 = .ok (.dup, 1) := by decide +kernel
theorem dX8_init_104 : decode cX8_init 104 = .ok (.iconst 1, 1) := by decide +kernel
theorem dX8_init_105 : decode cX8_init 105 = .ok (.new 40, 3) := by decide +kernel
theorem dX8_init_108 : decode cX8_init 108 = .ok (.dup, 1) := by decide +kernel
theorem dX8_init_109 : decode cX8_init 109 = .ok (.invokespecial 42, 3) := by decide +kernel
theorem dX8_init_112 : decode cX8_init 112 = .ok (.aastore, 1) := by decide +kernel
theorem dX8_init_113 : decode cX8_init 113 = .ok (.dup, 1) := by decide +kernel
theorem dX8_init_114 : decode cX8_init 114 = .ok (.iconst 2, 1) := by decide +kernel
theorem dX8_init_115 : decode cX8_init 115 = .ok (.new 40, 3) := by decide +kernel
theorem dX8_init_118 : decode cX8_init 118 = .ok (.dup, 1) := by decide +kernel
theorem dX8_init_119 : decode cX8_init 119 = .ok (.invokespecial 42, 3) := by decide +kernel
theorem dX8_init_122 : decode cX8_init 122 = .ok (.aastore, 1) := by decide +kernel
theorem dX8_init_123 : decode cX8_init 123 = .ok (.putfield 43, 3) := by decide +kernel
theorem dX8_init_126 : decode cX8_init 126 = .ok (.return_, 1) := by decide +kernel
theorem dX8_clean_0 : decode cX8_clean 0 = .ok (.iconst 0, 1) := by decide +kernel
theorem dX8_clean_1 : decode cX8_clean 1 = .ok (.istore_n 1, 1) := by decide +kernel
theorem dX8_clean_2 : decode cX8_clean 2 = .ok (.iload_n 1, 1) := by decide +kernel
theorem dX8_clean_3 : decode cX8_clean 3 = .ok (.bipush 64, 2) := by decide +kernel
theorem dX8_clean_5 : decode cX8_clean 5 = .ok (.if_icmp .ge 16, 3) := by decide +kernel
theorem dX8_clean_8 : decode cX8_clean 8 = .ok (.aload_n 0, 1) := by decide +kernel
theorem dX8_clean_9 : decode cX8_clean 9 = .ok (.getfield 9, 3) := by decide +kernel
theorem dX8_clean_12 : decode cX8_clean 12 = .ok (.iload_n 1, 1) := by decide +kernel
theorem dX8_clean_13 : decode cX8_clean 13 = .ok (.iconst 0, 1) := by decide +kernel
theorem dX8_clean_14 : decode cX8_clean 14 = .ok (.bastore, 1) := by decide +kernel
theorem dX8_clean_15 : decode cX8_clean 15 = .ok (.iinc 1 1, 3) := by decide +kernel
theorem dX8_clean_18 : decode cX8_clean 18 = .ok (.goto (-16), 3) := by decide +kernel
theorem dX8_clean_21 : decode cX8_clean 21 = .ok (.aload_n 0, 1) := by decide +kernel
theorem dX8_clean_22 : decode cX8_clean 22 = .ok (.getfield 24, 3) := by decide +kernel
theorem dX8_clean_25 : decode cX8_clean 25 = .ok (.invokevirtual 47, 3) := by decide +kernel
theorem dX8_clean_28 : decode cX8_clean 28 = .ok (.aload_n 0, 1) := by decide +kernel
theorem dX8_clean_29 : decode cX8_clean 29 = .ok (.getfield 28, 3) := by decide +kernel
theorem dX8_clean_32 : decode cX8_clean 32 = .ok (.invokevirtual 47, 3) := by decide +kernel
theorem dX8_clean_35 : decode cX8_clean 35 = .ok (.aload_n 0, 1) := by decide +kernel
theorem dX8_clean_36 : decode cX8_clean 36 = .ok (.getfield 31, 3) := by decide +kernel
theorem dX8_clean_39 : decode cX8_clean 39 = .ok (.invokevirtual 47, 3) := by decide +kernel
theorem dX8_clean_42 : decode cX8_clean 42 = .ok (.aload_n 0, 1) := by decide +kernel
theorem dX8_clean_43 : decode cX8_clean 43 = .ok (.getfield 34, 3) := by decide +kernel
theorem dX8_clean_46 : decode cX8_clean 46 = .ok (.invokevirtual 47, 3) := by decide +kernel
theorem dX8_clean_49 : decode cX8_clean 49 = .ok (.aload_n 0, 1) := by decide +kernel
theorem dX8_clean_50 : decode cX8_clean 50 = .ok (.getfield 37, 3) := by decide +kernel
theorem dX8_clean_53 : decode cX8_clean 53 = .ok (.invokevirtual 47, 3) := by decide +kernel
theorem dX8_clean_56 : decode cX8_clean 56 = .ok (.iconst 0, 1) := by decide +kernel
theorem dX8_clean_57 : decode cX8_clean 57 = .ok (.istore_n 1, 1) := by decide +kernel
theorem dX8_clean_58 : decode cX8_clean 58 = .ok (.iload_n 1, 1) := by decide +kernel
theorem dX8_clean_59 : decode cX8_clean 59 = .ok (.iconst 3, 1) := by decide +kernel
theorem dX8_clean_60 : decode cX8_clean 60 = .ok (.if_icmp .ge 18, 3) := by decide +kernel
theorem dX8_clean_63 : decode cX8_clean 63 = .ok (.aload_n 0, 1) := by decide +kernel
theorem dX8_clean_64 : decode cX8_clean 64 = .ok (.getfield 43, 3) := by decide +kernel
theorem dX8_clean_67 : decode cX8_clean 67 = .ok (.iload_n 1, 1) := by decide +kernel
theorem dX8_clean_68 : decode cX8_clean 68 = .ok (.aaload, 1) := by decide +kernel
theorem dX8_clean_69 : decode cX8_clean 69 = .ok (.invokevirtual 50, 3) := by decide +kernel
theorem dX8_clean_72 : decode cX8_clean 72 = .ok (.iinc 1 1, 3) := by decide +kernel
theorem dX8_clean_75 : decode cX8_clean 75 = .ok (.goto (-17), 3) := by decide +kernel
theorem dX8_clean_78 : decode cX8_clean 78 = .ok (.aload_n 0, 1) := by decide +kernel
theorem dX8_clean_79 : decode cX8_clean 79 = .ok (.iconst 5, 1) := by decide +kernel
theorem dX8_clean_80 : decode cX8_clean 80 = .ok (.putfield 51, 3) := by decide +kernel
theorem dX8_clean_83 : decode cX8_clean 83 = .ok (.aload_n 0, 1) := by decide +kernel
theorem dX8_clean_84 : decode cX8_clean 84 = .ok (.iconst 5, 1) := by decide +kernel
theorem dX8_clean_85 : decode cX8_clean 85 = .ok (.putfield 55, 3) := by decide +kernel
theorem dX8_clean_88 : decode cX8_clean 88 = .ok (.aload_n 0, 1) := by decide +kernel
theorem dX8_clean_89 : decode cX8_clean 89 = .ok (.iconst 0, 1) := by decide +kernel
theorem dX8_clean_90 : decode cX8_clean 90 = .ok (.putfield 58, 3) := by decide +kernel
theorem dX8_clean_93 : decode cX8_clean 93 = .ok (.aload_n 0, 1) := by decide +kernel
theorem dX8_clean_94 : decode cX8_clean 94 = .ok (.iconst 0, 1) := by decide +kernel
theorem dX8_clean_95 : decode cX8_clean 95 = .ok (.putfield 61, 3) := by decide +kernel
theorem dX8_clean_98 : decode cX8_clean 98 = .ok (.aload_n 0, 1) := by decide +kernel
theorem dX8_clean_99 : decode cX8_clean 99 = .ok (.iconst 0, 1) := by decide +kernel
theorem dX8_clean_100 : decode cX8_clean 100 = .ok (.putfield 64, 3) := by decide +kernel
theorem dX8_clean_103 : decode cX8_clean 103 = .ok (.aload_n 0, 1) := by decide +kernel
theorem dX8_clean_104 : decode cX8_clean 104 = .ok (.iconst 0, 1) := by decide +kernel
theorem dX8_clean_105 : decode cX8_clean 105 = .ok (.putfield 67, 3) := by decide +kernel
theorem dX8_clean_108 : decode cX8_clean 108 = .ok (.aload_n 0, 1) := by decide +kernel
theorem dX8_clean_109 : decode cX8_clean 109 = .ok (.iconst 0, 1) := by decide +kernel
theorem dX8_clean_110 : decode cX8_clean 110 = .ok (.putfield 70, 3) := by decide +kernel
theorem dX8_clean_113 : decode cX8_clean 113 = .ok (.aload_n 0, 1) := by decide +kernel
theorem dX8_clean_114 : decode cX8_clean 114 = .ok (.iconst 0, 1) := by decide +kernel
theorem dX8_clean_115 : decode cX8_clean 115 = .ok (.putfield 73, 3) := by decide +kernel
theorem dX8_clean_118 : decode cX8_clean 118 = .ok (.return_, 1) := by decide +kernel
theorem dX8_settleSuns_0 : decode cX8_settleSuns 0 = .ok (.iconst 0, 1) := by decide +kernel
theorem dX8_settleSuns_1 : decode cX8_settleSuns 1 = .ok (.istore_n 1, 1) := by decide +kernel
theorem dX8_settleSuns_2 : decode cX8_settleSuns 2 = .ok (.iload_n 1, 1) := by decide +kernel
theorem dX8_settleSuns_3 : decode cX8_settleSuns 3 = .ok (.bipush 24, 2) := by decide +kernel
theorem dX8_settleSuns_5 : decode cX8_settleSuns 5 = .ok (.if_icmp .ge 73, 3) := by decide +kernel
theorem dX8_settleSuns_8 : decode cX8_settleSuns 8 = .ok (.iconst (-1), 1) := by decide +kernel
theorem dX8_settleSuns_9 : decode cX8_settleSuns 9 = .ok (.istore_n 2, 1) := by decide +kernel
theorem dX8_settleSuns_10 : decode cX8_settleSuns 10 = .ok (.bipush 24, 2) := by decide +kernel
theorem dX8_settleSuns_12 : decode cX8_settleSuns 12 = .ok (.istore_n 3, 1) := by decide +kernel
theorem dX8_settleSuns_13 : decode cX8_settleSuns 13 = .ok (.iconst 0, 1) := by decide +kernel
theorem dX8_settleSuns_14 : decode cX8_settleSuns 14 = .ok (.istore 4, 2) := by decide +kernel
theorem dX8_settleSuns_16 : decode cX8_settleSuns 16 = .ok (.iload 4, 2) := by decide +kernel
theorem dX8_settleSuns_18 : decode cX8_settleSuns 18 = .ok (.aload_n 0, 1) := by decide +kernel
theorem dX8_settleSuns_19 : decode cX8_settleSuns 19 = .ok (.getfield 24, 3) := by decide +kernel
theorem dX8_settleSuns_22 : decode cX8_settleSuns 22 = .ok (.invokevirtual 76, 3) := by decide +kernel
theorem dX8_settleSuns_25 : decode cX8_settleSuns 25 = .ok (.if_icmp .ge 40, 3) := by decide +kernel
theorem dX8_settleSuns_28 : decode cX8_settleSuns 28 = .ok (.iload_n 1, 1) := by decide +kernel
theorem dX8_settleSuns_29 : decode cX8_settleSuns 29 = .ok (.aload_n 0, 1) := by decide +kernel
theorem dX8_settleSuns_30 : decode cX8_settleSuns 30 = .ok (.getfield 24, 3) := by decide +kernel
theorem dX8_settleSuns_33 : decode cX8_settleSuns 33 = .ok (.iload 4, 2) := by decide +kernel
theorem dX8_settleSuns_35 : decode cX8_settleSuns 35 = .ok (.iconst 0, 1) := by decide +kernel
theorem dX8_settleSuns_36 : decode cX8_settleSuns 36 = .ok (.invokevirtual 80, 3) := by decide +kernel
theorem dX8_settleSuns_39 : decode cX8_settleSuns 39 = .ok (.isub, 1) := by decide +kernel
theorem dX8_settleSuns_40 : decode cX8_settleSuns 40 = .ok (.bipush 24, 2) := by decide +kernel
theorem dX8_settleSuns_42 : decode cX8_settleSuns 42 = .ok (.invokestatic 84, 3) := by decide +kernel
theorem dX8_settleSuns_45 : decode cX8_settleSuns 45 = .ok (.istore 5, 2) := by decide +kernel
theorem dX8_settleSuns_47 : decode cX8_settleSuns 47 = .ok (.iload 5, 2) := by decide +kernel
theorem dX8_settleSuns_49 : decode cX8_settleSuns 49 = .ok (.iload_n 3, 1) := by decide +kernel
theorem dX8_settleSuns_50 : decode cX8_settleSuns 50 = .ok (.if_icmp .ge 9, 3) := by decide +kernel
theorem dX8_settleSuns_53 : decode cX8_settleSuns 53 = .ok (.iload 5, 2) := by decide +kernel
theorem dX8_settleSuns_55 : decode cX8_settleSuns 55 = .ok (.istore_n 3, 1) := by decide +kernel
theorem dX8_settleSuns_56 : decode cX8_settleSuns 56 = .ok (.iload 4, 2) := by decide +kernel
theorem dX8_settleSuns_58 : decode cX8_settleSuns 58 = .ok (.istore_n 2, 1) := by decide +kernel
theorem dX8_settleSuns_59 : decode cX8_settleSuns 59 = .ok (.iinc 4 1, 3) := by decide +kernel
theorem dX8_settleSuns_62 : decode cX8_settleSuns 62 = .ok (.goto (-46), 3) := by decide +kernel
theorem dX8_settleSuns_65 : decode cX8_settleSuns 65 = .ok (.aload_n 0, 1) := by decide +kernel
theorem dX8_settleSuns_66 : decode cX8_settleSuns 66 = .ok (.getfield 15, 3) := by decide +kernel
theorem dX8_settleSuns_69 : decode cX8_settleSuns 69 = .ok (.iload_n 1, 1) := by decide +kernel
theorem dX8_settleSuns_70 : decode cX8_settleSuns 70 = .ok (.iload_n 2, 1) := by decide +kernel
theorem dX8_settleSuns_71 : decode cX8_settleSuns 71 = .ok (.iastore, 1) := by decide +kernel
theorem dX8_settleSuns_72 : decode cX8_settleSuns 72 = .ok (.iinc 1 1, 3) := by decide +kernel
theorem dX8_settleSuns_75 : decode cX8_settleSuns 75 = .ok (.goto (-73), 3) := by decide +kernel
theorem dX8_settleSuns_78 : decode cX8_settleSuns 78 = .ok (.return_, 1) := by decide +kernel
theorem dX8_sunOf_0 : decode cX8_sunOf 0 = .ok (.aload_n 0, 1) := by decide +kernel
theorem dX8_sunOf_1 : decode cX8_sunOf 1 = .ok (.getfield 15, 3) := by decide +kernel
theorem dX8_sunOf_4 : decode cX8_sunOf 4 = .ok (.iload_n 1, 1) := by decide +kernel
theorem dX8_sunOf_5 : decode cX8_sunOf 5 = .ok (.bipush 24, 2) := by decide +kernel
theorem dX8_sunOf_7 : decode cX8_sunOf 7 = .ok (.invokestatic 84, 3) := by decide +kernel
theorem dX8_sunOf_10 : decode cX8_sunOf 10 = .ok (.iaload, 1) := by decide +kernel
theorem dX8_sunOf_11 : decode cX8_sunOf 11 = .ok (.ireturn, 1) := by decide +kernel
theorem dX8_isCell_0 : decode cX8_isCell 0 = .ok (.iload_n 1, 1) := by decide +kernel
theorem dX8_isCell_1 : decode cX8_isCell 1 = .ok (.ifCond .lt 27, 3) := by decide +kernel
theorem dX8_isCell_4 : decode cX8_isCell 4 = .ok (.iload_n 1, 1) := by decide +kernel
theorem dX8_isCell_5 : decode cX8_isCell 5 = .ok (.aload_n 0, 1) := by decide +kernel
theorem dX8_isCell_6 : decode cX8_isCell 6 = .ok (.getfield 51, 3) := by decide +kernel
theorem dX8_isCell_9 : decode cX8_isCell 9 = .ok (.if_icmp .ge 19, 3) := by decide +kernel
theorem dX8_isCell_12 : decode cX8_isCell 12 = .ok (.iload_n 2, 1) := by decide +kernel
theorem dX8_isCell_13 : decode cX8_isCell 13 = .ok (.ifCond .lt 15, 3) := by decide +kernel
theorem dX8_isCell_16 : decode cX8_isCell 16 = .ok (.iload_n 2, 1) := by decide +kernel
theorem dX8_isCell_17 : decode cX8_isCell 17 = .ok (.aload_n 0, 1) := by decide +kernel
theorem dX8_isCell_18 : decode cX8_isCell 18 = .ok (.getfield 55, 3) := by decide +kernel
theorem dX8_isCell_21 : decode cX8_isCell 21 = .ok (.if_icmp .ge 7, 3) := by decide +kernel
theorem dX8_isCell_24 : decode cX8_isCell 24 = .ok (.iconst 1, 1) := by decide +kernel
theorem dX8_isCell_25 : decode cX8_isCell 25 = .ok (.goto 4, 3) := by decide +kernel
theorem dX8_isCell_28 : decode cX8_isCell 28 = .ok (.iconst 0, 1) := by decide +kernel
theorem dX8_isCell_29 : decode cX8_isCell 29 = .ok (.ireturn, 1) := by decide +kernel
theorem dX8_isWall_0 : decode cX8_isWall 0 = .ok (.aload_n 0, 1) := by decide +kernel
theorem dX8_isWall_1 : decode cX8_isWall 1 = .ok (.iload_n 1, 1) := by decide +kernel
theorem dX8_isWall_2 : decode cX8_isWall 2 = .ok (.iload_n 2, 1) := by decide +kernel
theorem dX8_isWall_3 : decode cX8_isWall 3 = .ok (.invokevirtual 89, 3) := by decide +kernel
theorem dX8_isWall_6 : decode cX8_isWall 6 = .ok (.ifCond .eq 21, 3) := by decide +kernel
theorem dX8_isWall_9 : decode cX8_isWall 9 = .ok (.aload_n 0, 1) := by decide +kernel
theorem dX8_isWall_10 : decode cX8_isWall 10 = .ok (.getfield 9, 3) := by decide +kernel
theorem dX8_isWall_13 : decode cX8_isWall 13 = .ok (.iload_n 1, 1) := by decide +kernel
theorem dX8_isWall_14 : decode cX8_isWall 14 = .ok (.bipush 8, 2) := by decide +kernel
theorem dX8_isWall_16 : decode cX8_isWall 16 = .ok (.imul, 1) := by decide +kernel
theorem dX8_isWall_17 : decode cX8_isWall 17 = .ok (.iload_n 2, 1) := by decide +kernel
theorem dX8_isWall_18 : decode cX8_isWall 18 = .ok (.iadd, 1) := by decide +kernel
theorem dX8_isWall_19 : decode cX8_isWall 19 = .ok (.baload, 1) := by decide +kernel
theorem dX8_isWall_20 : decode cX8_isWall 20 = .ok (.ifCond .eq 7, 3) := by decide +kernel
theorem dX8_isWall_23 : decode cX8_isWall 23 = .ok (.iconst 1, 1) := by decide +kernel
theorem dX8_isWall_24 : decode cX8_isWall 24 = .ok (.goto 4, 3) := by decide +kernel
theorem dX8_isWall_27 : decode cX8_isWall 27 = .ok (.iconst 0, 1) := by decide +kernel
theorem dX8_isWall_28 : decode cX8_isWall 28 = .ok (.ireturn, 1) := by decide +kernel
theorem dX8_setWall_0 : decode cX8_setWall 0 = .ok (.aload_n 0, 1) := by decide +kernel
theorem dX8_setWall_1 : decode cX8_setWall 1 = .ok (.iload_n 1, 1) := by decide +kernel
theorem dX8_setWall_2 : decode cX8_setWall 2 = .ok (.iload_n 2, 1) := by decide +kernel
theorem dX8_setWall_3 : decode cX8_setWall 3 = .ok (.invokevirtual 89, 3) := by decide +kernel
theorem dX8_setWall_6 : decode cX8_setWall 6 = .ok (.ifCond .eq 25, 3) := by decide +kernel
theorem dX8_setWall_9 : decode cX8_setWall 9 = .ok (.aload_n 0, 1) := by decide +kernel
theorem dX8_setWall_10 : decode cX8_setWall 10 = .ok (.getfield 9, 3) := by decide +kernel
theorem dX8_setWall_13 : decode cX8_setWall 13 = .ok (.iload_n 1, 1) := by decide +kernel
theorem dX8_setWall_14 : decode cX8_setWall 14 = .ok (.bipush 8, 2) := by decide +kernel
theorem dX8_setWall_16 : decode cX8_setWall 16 = .ok (.imul, 1) := by decide +kernel
theorem dX8_setWall_17 : decode cX8_setWall 17 = .ok (.iload_n 2, 1) := by decide +kernel
theorem dX8_setWall_18 : decode cX8_setWall 18 = .ok (.iadd, 1) := by decide +kernel
theorem dX8_setWall_19 : decode cX8_setWall 19 = .ok (.iconst 1, 1) := by decide +kernel
theorem dX8_setWall_20 : decode cX8_setWall 20 = .ok (.bastore, 1) := by decide +kernel
theorem dX8_setWall_21 : decode cX8_setWall 21 = .ok (.aload_n 0, 1) := by decide +kernel
theorem dX8_setWall_22 : decode cX8_setWall 22 = .ok (.dup, 1) := by decide +kernel
theorem dX8_setWall_23 : decode cX8_setWall 23 = .ok (.getfield 64, 3) := by decide +kernel
theorem dX8_setWall_26 : decode cX8_setWall 26 = .ok (.iconst 1, 1) := by decide +kernel
theorem dX8_setWall_27 : decode cX8_setWall 27 = .ok (.iadd, 1) := by decide +kernel
theorem dX8_setWall_28 : decode cX8_setWall 28 = .ok (.putfield 64, 3) := by decide +kernel
theorem dX8_setWall_31 : decode cX8_setWall 31 = .ok (.return_, 1) := by decide +kernel
theorem dX8_worthOf_0 : decode cX8_worthOf 0 = .ok (.iconst 0, 1) := by decide +kernel
theorem dX8_worthOf_1 : decode cX8_worthOf 1 = .ok (.istore_n 2, 1) := by decide +kernel
theorem dX8_worthOf_2 : decode cX8_worthOf 2 = .ok (.iconst 0, 1) := by decide +kernel
theorem dX8_worthOf_3 : decode cX8_worthOf 3 = .ok (.istore_n 3, 1) := by decide +kernel
theorem dX8_worthOf_4 : decode cX8_worthOf 4 = .ok (.iload_n 3, 1) := by decide +kernel
theorem dX8_worthOf_5 : decode cX8_worthOf 5 = .ok (.aload_n 0, 1) := by decide +kernel
theorem dX8_worthOf_6 : decode cX8_worthOf 6 = .ok (.getfield 34, 3) := by decide +kernel
theorem dX8_worthOf_9 : decode cX8_worthOf 9 = .ok (.invokevirtual 76, 3) := by decide +kernel
theorem dX8_worthOf_12 : decode cX8_worthOf 12 = .ok (.if_icmp .ge 30, 3) := by decide +kernel
theorem dX8_worthOf_15 : decode cX8_worthOf 15 = .ok (.iload_n 1, 1) := by decide +kernel
theorem dX8_worthOf_16 : decode cX8_worthOf 16 = .ok (.iload_n 3, 1) := by decide +kernel
theorem dX8_worthOf_17 : decode cX8_worthOf 17 = .ok (.ishr, 1) := by decide +kernel
theorem dX8_worthOf_18 : decode cX8_worthOf 18 = .ok (.iconst 1, 1) := by decide +kernel
theorem dX8_worthOf_19 : decode cX8_worthOf 19 = .ok (.iand, 1) := by decide +kernel
theorem dX8_worthOf_20 : decode cX8_worthOf 20 = .ok (.iconst 1, 1) := by decide +kernel
theorem dX8_worthOf_21 : decode cX8_worthOf 21 = .ok (.if_icmp .ne 15, 3) := by decide +kernel
theorem dX8_worthOf_24 : decode cX8_worthOf 24 = .ok (.iload_n 2, 1) := by decide +kernel
theorem dX8_worthOf_25 : decode cX8_worthOf 25 = .ok (.aload_n 0, 1) := by decide +kernel
theorem dX8_worthOf_26 : decode cX8_worthOf 26 = .ok (.getfield 34, 3) := by decide +kernel
theorem dX8_worthOf_29 : decode cX8_worthOf 29 = .ok (.iload_n 3, 1) := by decide +kernel
theorem dX8_worthOf_30 : decode cX8_worthOf 30 = .ok (.iconst 4, 1) := by decide +kernel
theorem dX8_worthOf_31 : decode cX8_worthOf 31 = .ok (.invokevirtual 80, 3) := by decide +kernel
theorem dX8_worthOf_34 : decode cX8_worthOf 34 = .ok (.iadd, 1) := by decide +kernel
theorem dX8_worthOf_35 : decode cX8_worthOf 35 = .ok (.istore_n 2, 1) := by decide +kernel
theorem dX8_worthOf_36 : decode cX8_worthOf 36 = .ok (.iinc 3 1, 3) := by decide +kernel
theorem dX8_worthOf_39 : decode cX8_worthOf 39 = .ok (.goto (-35), 3) := by decide +kernel
theorem dX8_worthOf_42 : decode cX8_worthOf 42 = .ok (.iload_n 2, 1) := by decide +kernel
theorem dX8_worthOf_43 : decode cX8_worthOf 43 = .ok (.ireturn, 1) := by decide +kernel
theorem dX9_init_0 : decode cX9_init 0 = .ok (.aload_n 0, 1) := by decide +kernel
theorem dX9_init_1 : decode cX9_init 1 = .ok (.invokespecial 3, 3) := by decide +kernel
theorem dX9_init_4 : decode cX9_init 4 = .ok (.aload_n 0, 1) := by decide +kernel
theorem dX9_init_5 : decode cX9_init 5 = .ok (.iconst 4, 1) := by decide +kernel
theorem dX9_init_6 : decode cX9_init 6 = .ok (.newarray .int, 2) := by decide +kernel
theorem dX9_init_8 : decode cX9_init 8 = .ok (.putfield 9, 3) := by decide +kernel
theorem dX9_init_11 : decode cX9_init 11 = .ok (.aload_n 0, 1) := by decide +kernel
theorem dX9_init_12 : decode cX9_init 12 = .ok (.iconst 4, 1) := by decide +kernel
theorem dX9_init_13 : decode cX9_init 13 = .ok (.newarray .int, 2) := by decide +kernel
theorem dX9_init_15 : decode cX9_init 15 = .ok (.putfield 15, 3) := by decide +kernel
theorem dX9_init_18 : decode cX9_init 18 = .ok (.aload_n 0, 1) := by decide +kernel
theorem dX9_init_19 : decode cX9_init 19 = .ok (.iconst 4, 1) := by decide +kernel
theorem dX9_init_20 : decode cX9_init 20 = .ok (.newarray .int, 2) := by decide +kernel
theorem dX9_init_22 : decode cX9_init 22 = .ok (.putfield 18, 3) := by decide +kernel
theorem dX9_init_25 : decode cX9_init 25 = .ok (.return_, 1) := by decide +kernel
theorem dX9_begin_0 : decode cX9_begin 0 = .ok (.aload_n 0, 1) := by decide +kernel
theorem dX9_begin_1 : decode cX9_begin 1 = .ok (.iconst 0, 1) := by decide +kernel
theorem dX9_begin_2 : decode cX9_begin 2 = .ok (.putfield 21, 3) := by decide +kernel
theorem dX9_begin_5 : decode cX9_begin 5 = .ok (.aload_n 0, 1) := by decide +kernel
theorem dX9_begin_6 : decode cX9_begin 6 = .ok (.iload_n 2, 1) := by decide +kernel
theorem dX9_begin_7 : decode cX9_begin 7 = .ok (.putfield 25, 3) := by decide +kernel
theorem dX9_begin_10 : decode cX9_begin 10 = .ok (.aload_n 0, 1) := by decide +kernel
theorem dX9_begin_11 : decode cX9_begin 11 = .ok (.iload_n 3, 1) := by decide +kernel
theorem dX9_begin_12 : decode cX9_begin 12 = .ok (.putfield 28, 3) := by decide +kernel
theorem dX9_begin_15 : decode cX9_begin 15 = .ok (.aload_n 0, 1) := by decide +kernel
theorem dX9_begin_16 : decode cX9_begin 16 = .ok (.iconst 0, 1) := by decide +kernel
theorem dX9_begin_17 : decode cX9_begin 17 = .ok (.putfield 31, 3) := by decide +kernel
theorem dX9_begin_20 : decode cX9_begin 20 = .ok (.aload_n 0, 1) := by decide +kernel
theorem dX9_begin_21 : decode cX9_begin 21 = .ok (.iconst 1, 1) := by decide +kernel
theorem dX9_begin_22 : decode cX9_begin 22 = .ok (.aload_n 1, 1) := by decide +kernel
theorem dX9_begin_23 : decode cX9_begin 23 = .ok (.getfield 34, 3) := by decide +kernel
theorem dX9_begin_26 : decode cX9_begin 26 = .ok (.invokevirtual 40, 3) := by decide +kernel
theorem dX9_begin_29 : decode cX9_begin 29 = .ok (.ishl, 1) := by decide +kernel
theorem dX9_begin_30 : decode cX9_begin 30 = .ok (.iconst 1, 1) := by decide +kernel
theorem dX9_begin_31 : decode cX9_begin 31 = .ok (.isub, 1) := by decide +kernel
theorem dX9_begin_32 : decode cX9_begin 32 = .ok (.putfield 46, 3) := by decide +kernel
theorem dX9_begin_35 : decode cX9_begin 35 = .ok (.aload_n 0, 1) := by decide +kernel
theorem dX9_begin_36 : decode cX9_begin 36 = .ok (.iconst 0, 1) := by decide +kernel
theorem dX9_begin_37 : decode cX9_begin 37 = .ok (.putfield 49, 3) := by decide +kernel
theorem dX9_begin_40 : decode cX9_begin 40 = .ok (.aload_n 0, 1) := by decide +kernel
theorem dX9_begin_41 : decode cX9_begin 41 = .ok (.iconst 0, 1) := by decide +kernel
theorem dX9_begin_42 : decode cX9_begin 42 = .ok (.putfield 52, 3) := by decide +kernel
theorem dX9_begin_45 : decode cX9_begin 45 = .ok (.aload_n 0, 1) := by decide +kernel
theorem dX9_begin_46 : decode cX9_begin 46 = .ok (.iconst 0, 1) := by decide +kernel
theorem dX9_begin_47 : decode cX9_begin 47 = .ok (.putfield 55, 3) := by decide +kernel
theorem dX9_begin_50 : decode cX9_begin 50 = .ok (.aload_n 0, 1) := by decide +kernel
theorem dX9_begin_51 : decode cX9_begin 51 = .ok (.aload_n 1, 1) := by decide +kernel
theorem dX9_begin_52 : decode cX9_begin 52 = .ok (.getfield 58, 3) := by decide +kernel
theorem dX9_begin_55 : decode cX9_begin 55 = .ok (.putfield 61, 3) := by decide +kernel
theorem dX9_begin_58 : decode cX9_begin 58 = .ok (.iconst 0, 1) := by decide +kernel
theorem dX9_begin_59 : decode cX9_begin 59 = .ok (.istore 4, 2) := by decide +kernel
theorem dX9_begin_61 : decode cX9_begin 61 = .ok (.iload 4, 2) := by decide +kernel
theorem dX9_begin_63 : decode cX9_begin 63 = .ok (.iconst 4, 1) := by decide +kernel
theorem dX9_begin_64 : decode cX9_begin 64 = .ok (.if_icmp .ge 33, 3) := by decide +kernel
theorem dX9_begin_67 : decode cX9_begin 67 = .ok (.aload_n 0, 1) := by decide +kernel
theorem dX9_begin_68 : decode cX9_begin 68 = .ok (.getfield 9, 3) := by decide +kernel
theorem dX9_begin_71 : decode cX9_begin 71 = .ok (.iload 4, 2) := by decide +kernel
theorem dX9_begin_73 : decode cX9_begin 73 = .ok (.iconst 0, 1) := by decide +kernel
theorem dX9_begin_74 : decode cX9_begin 74 = .ok (.iastore, 1) := by decide +kernel
theorem dX9_begin_75 : decode cX9_begin 75 = .ok (.aload_n 0, 1) := by decide +kernel
theorem dX9_begin_76 : decode cX9_begin 76 = .ok (.getfield 15, 3) := by decide +kernel
theorem dX9_begin_79 : decode cX9_begin 79 = .ok (.iload 4, 2) := by decide +kernel
theorem dX9_begin_81 : decode cX9_begin 81 = .ok (.iconst 0, 1) := by decide +kernel
theorem dX9_begin_82 : decode cX9_begin 82 = .ok (.iastore, 1) := by decide +kernel
theorem dX9_begin_83 : decode cX9_begin 83 = .ok (.aload_n 0, 1) := by decide +kernel
theorem dX9_begin_84 : decode cX9_begin 84 = .ok (.getfield 18, 3) := by decide +kernel
theorem dX9_begin_87 : decode cX9_begin 87 = .ok (.iload 4, 2) := by decide +kernel
theorem dX9_begin_89 : decode cX9_begin 89 = .ok (.iconst 0, 1) := by decide +kernel
theorem dX9_begin_90 : decode cX9_begin 90 = .ok (.iastore, 1) := by decide +kernel
theorem dX9_begin_91 : decode cX9_begin 91 = .ok (.iinc 4 1, 3) := by decide +kernel
theorem dX9_begin_94 : decode cX9_begin 94 = .ok (.goto (-33), 3) := by decide +kernel
theorem dX9_begin_97 : decode cX9_begin 97 = .ok (.return_, 1) := by decide +kernel
theorem dX9_become_0 : decode cX9_become 0 = .ok (.aload_n 0, 1) := by decide +kernel
theorem dX9_become_1 : decode cX9_become 1 = .ok (.aload_n 1, 1) := by decide +kernel
theorem dX9_become_2 : decode cX9_become 2 = .ok (.getfield 21, 3) := by decide +kernel
theorem dX9_become_5 : decode cX9_become 5 = .ok (.putfield 21, 3) := by decide +kernel
theorem dX9_become_8 : decode cX9_become 8 = .ok (.aload_n 0, 1) := by decide +kernel
theorem dX9_become_9 : decode cX9_become 9 = .ok (.aload_n 1, 1) := by decide +kernel
theorem dX9_become_10 : decode cX9_become 10 = .ok (.getfield 25, 3) := by decide +kernel
theorem dX9_become_13 : decode cX9_become 13 = .ok (.putfield 25, 3) := by decide +kernel
theorem dX9_become_16 : decode cX9_become 16 = .ok (.aload_n 0, 1) := by decide +kernel
theorem dX9_become_17 : decode cX9_become 17 = .ok (.aload_n 1, 1) := by decide +kernel
theorem dX9_become_18 : decode cX9_become 18 = .ok (.getfield 28, 3) := by decide +kernel
theorem dX9_become_21 : decode cX9_become 21 = .ok (.putfield 28, 3) := by decide +kernel
theorem dX9_become_24 : decode cX9_become 24 = .ok (.aload_n 0, 1) := by decide +kernel
theorem dX9_become_25 : decode cX9_become 25 = .ok (.aload_n 1, 1) := by decide +kernel
theorem dX9_become_26 : decode cX9_become 26 = .ok (.getfield 31, 3) := by decide +kernel
theorem dX9_become_29 : decode cX9_become 29 = .ok (.putfield 31, 3) := by decide +kernel
theorem dX9_become_32 : decode cX9_become 32 = .ok (.aload_n 0, 1) := by decide +kernel
theorem dX9_become_33 : decode cX9_become 33 = .ok (.aload_n 1, 1) := by decide +kernel
theorem dX9_become_34 : decode cX9_become 34 = .ok (.getfield 46, 3) := by decide +kernel
theorem dX9_become_37 : decode cX9_become 37 = .ok (.putfield 46, 3) := by decide +kernel
theorem dX9_become_40 : decode cX9_become 40 = .ok (.aload_n 0, 1) := by decide +kernel
theorem dX9_become_41 : decode cX9_become 41 = .ok (.aload_n 1, 1) := by decide +kernel
theorem dX9_become_42 : decode cX9_become 42 = .ok (.getfield 49, 3) := by decide +kernel
theorem dX9_become_45 : decode cX9_become 45 = .ok (.putfield 49, 3) := by decide +kernel
theorem dX9_become_48 : decode cX9_become 48 = .ok (.aload_n 0, 1) := by decide +kernel
theorem dX9_become_49 : decode cX9_become 49 = .ok (.aload_n 1, 1) := by decide +kernel
theorem dX9_become_50 : decode cX9_become 50 = .ok (.getfield 52, 3) := by decide +kernel
theorem dX9_become_53 : decode cX9_become 53 = .ok (.putfield 52, 3) := by decide +kernel
theorem dX9_become_56 : decode cX9_become 56 = .ok (.aload_n 0, 1) := by decide +kernel
theorem dX9_become_57 : decode cX9_become 57 = .ok (.aload_n 1, 1) := by decide +kernel
theorem dX9_become_58 : decode cX9_become 58 = .ok (.getfield 55, 3) := by decide +kernel
theorem dX9_become_61 : decode cX9_become 61 = .ok (.putfield 55, 3) := by decide +kernel
theorem dX9_become_64 : decode cX9_become 64 = .ok (.aload_n 0, 1) := by decide +kernel
theorem dX9_become_65 : decode cX9_become 65 = .ok (.aload_n 1, 1) := by decide +kernel
theorem dX9_become_66 : decode cX9_become 66 = .ok (.getfield 61, 3) := by decide +kernel
theorem dX9_become_69 : decode cX9_become 69 = .ok (.putfield 61, 3) := by decide +kernel
theorem dX9_become_72 : decode cX9_become 72 = .ok (.iconst 0, 1) := by decide +kernel
theorem dX9_become_73 : decode cX9_become 73 = .ok (.istore_n 2, 1) := by decide +kernel
theorem dX9_become_74 : decode cX9_become 74 = .ok (.iload_n 2, 1) := by decide +kernel
theorem dX9_become_75 : decode cX9_become 75 = .ok (.iconst 4, 1) := by decide +kernel
theorem dX9_become_76 : decode cX9_become 76 = .ok (.if_icmp .ge 45, 3) := by decide +kernel
theorem dX9_become_79 : decode cX9_become 79 = .ok (.aload_n 0, 1) := by decide +kernel
theorem dX9_become_80 : decode cX9_become 80 = .ok (.getfield 9, 3) := by decide +kernel
theorem dX9_become_83 : decode cX9_become 83 = .ok (.iload_n 2, 1) := by decide +kernel
theorem dX9_become_84 : decode cX9_become 84 = .ok (.aload_n 1, 1) := by decide +kernel
theorem dX9_become_85 : decode cX9_become 85 = .ok (.getfield 9, 3) := by decide +kernel
theorem dX9_become_88 : decode cX9_become 88 = .ok (.iload_n 2, 1) := by decide +kernel
theorem dX9_become_89 : decode cX9_become 89 = .ok (.iaload, 1) := by decide +kernel
theorem dX9_become_90 : decode cX9_become 90 = .ok (.iastore, 1) := by decide +kernel
theorem dX9_become_91 : decode cX9_become 91 = .ok (.aload_n 0, 1) := by decide +kernel
theorem dX9_become_92 : decode cX9_become 92 = .ok (.getfield 15, 3) := by decide +kernel
theorem dX9_become_95 : decode cX9_become 95 = .ok (.iload_n 2, 1) := by decide +kernel
theorem dX9_become_96 : decode cX9_become 96 = .ok (.aload_n 1, 1) := by decide +kernel
theorem dX9_become_97 : decode cX9_become 97 = .ok (.getfield 15, 3) := by decide +kernel
theorem dX9_become_100 : decode cX9_become 100 = .ok (.iload_n 2, 1) := by decide +kernel
theorem dX9_become_101 : decode cX9_become 101 = .ok (.iaload, 1) := by decide +kernel
theorem dX9_become_102 : decode cX9_become 102 = .ok (.iastore, 1) := by decide +kernel
theorem dX9_become_103 : decode cX9_become 103 = .ok (.aload_n 0, 1) := by decide +kernel
theorem dX9_become_104 : decode cX9_become 104 = .ok (.getfield 18, 3) := by decide +kernel
theorem dX9_become_107 : decode cX9_become 107 = .ok (.iload_n 2, 1) := by decide +kernel
theorem dX9_become_108 : decode cX9_become 108 = .ok (.aload_n 1, 1) := by decide +kernel
theorem dX9_become_109 : decode cX9_become 109 = .ok (.getfield 18, 3) := by decide +kernel
theorem dX9_become_112 : decode cX9_become 112 = .ok (.iload_n 2, 1) := by decide +kernel
theorem dX9_become_113 : decode cX9_become 113 = .ok (.iaload, 1) := by decide +kernel
theorem dX9_become_114 : decode cX9_become 114 = .ok (.iastore, 1) := by decide +kernel
theorem dX9_become_115 : decode cX9_become 115 = .ok (.iinc 2 1, 3) := by decide +kernel
theorem dX9_become_118 : decode cX9_become 118 = .ok (.goto (-44), 3) := by decide +kernel
theorem dX9_become_121 : decode cX9_become 121 = .ok (.return_, 1) := by decide +kernel
theorem dX9_onceMore_0 : decode cX9_onceMore 0 = .ok (.sipush 999, 3) := by decide +kernel
theorem dX9_onceMore_3 : decode cX9_onceMore 3 = .ok (.iload_n 0, 1) := by decide +kernel
theorem dX9_onceMore_4 : decode cX9_onceMore 4 = .ok (.iconst 1, 1) := by decide +kernel
theorem dX9_onceMore_5 : decode cX9_onceMore 5 = .ok (.iadd, 1) := by decide +kernel
theorem dX9_onceMore_6 : decode cX9_onceMore 6 = .ok (.invokestatic 64, 3) := by decide +kernel
theorem dX9_onceMore_9 : decode cX9_onceMore 9 = .ok (.ireturn, 1) := by decide +kernel
theorem dX9_tireBy_0 : decode cX9_tireBy 0 = .ok (.aload_n 0, 1) := by decide +kernel
theorem dX9_tireBy_1 : decode cX9_tireBy 1 = .ok (.bipush 99, 2) := by decide +kernel
theorem dX9_tireBy_3 : decode cX9_tireBy 3 = .ok (.aload_n 0, 1) := by decide +kernel
theorem dX9_tireBy_4 : decode cX9_tireBy 4 = .ok (.getfield 31, 3) := by decide +kernel
theorem dX9_tireBy_7 : decode cX9_tireBy 7 = .ok (.iload_n 1, 1) := by decide +kernel
theorem dX9_tireBy_8 : decode cX9_tireBy 8 = .ok (.iadd, 1) := by decide +kernel
theorem dX9_tireBy_9 : decode cX9_tireBy 9 = .ok (.invokestatic 64, 3) := by decide +kernel
theorem dX9_tireBy_12 : decode cX9_tireBy 12 = .ok (.putfield 31, 3) := by decide +kernel
theorem dX9_tireBy_15 : decode cX9_tireBy 15 = .ok (.return_, 1) := by decide +kernel
theorem dX9_please_0 : decode cX9_please 0 = .ok (.aload_n 0, 1) := by decide +kernel
theorem dX9_please_1 : decode cX9_please 1 = .ok (.getfield 18, 3) := by decide +kernel
theorem dX9_please_4 : decode cX9_please 4 = .ok (.iload_n 1, 1) := by decide +kernel
theorem dX9_please_5 : decode cX9_please 5 = .ok (.sipush 999, 3) := by decide +kernel
theorem dX9_please_8 : decode cX9_please 8 = .ok (.aload_n 0, 1) := by decide +kernel
theorem dX9_please_9 : decode cX9_please 9 = .ok (.getfield 18, 3) := by decide +kernel
theorem dX9_please_12 : decode cX9_please 12 = .ok (.iload_n 1, 1) := by decide +kernel
theorem dX9_please_13 : decode cX9_please 13 = .ok (.iaload, 1) := by decide +kernel
theorem dX9_please_14 : decode cX9_please 14 = .ok (.iload_n 2, 1) := by decide +kernel
theorem dX9_please_15 : decode cX9_please 15 = .ok (.iadd, 1) := by decide +kernel
theorem dX9_please_16 : decode cX9_please 16 = .ok (.invokestatic 64, 3) := by decide +kernel
theorem dX9_please_19 : decode cX9_please 19 = .ok (.iastore, 1) := by decide +kernel
theorem dX9_please_20 : decode cX9_please 20 = .ok (.return_, 1) := by decide +kernel
theorem dX9_fondInAll_0 : decode cX9_fondInAll 0 = .ok (.iconst 0, 1) := by decide +kernel
theorem dX9_fondInAll_1 : decode cX9_fondInAll 1 = .ok (.istore_n 1, 1) := by decide +kernel
theorem dX9_fondInAll_2 : decode cX9_fondInAll 2 = .ok (.iconst 0, 1) := by decide +kernel
theorem dX9_fondInAll_3 : decode cX9_fondInAll 3 = .ok (.istore_n 2, 1) := by decide +kernel
theorem dX9_fondInAll_4 : decode cX9_fondInAll 4 = .ok (.iload_n 2, 1) := by decide +kernel
theorem dX9_fondInAll_5 : decode cX9_fondInAll 5 = .ok (.iconst 4, 1) := by decide +kernel
theorem dX9_fondInAll_6 : decode cX9_fondInAll 6 = .ok (.if_icmp .ge 18, 3) := by decide +kernel
theorem dX9_fondInAll_9 : decode cX9_fondInAll 9 = .ok (.iload_n 1, 1) := by decide +kernel
theorem dX9_fondInAll_10 : decode cX9_fondInAll 10 = .ok (.aload_n 0, 1) := by decide +kernel
theorem dX9_fondInAll_11 : decode cX9_fondInAll 11 = .ok (.getfield 18, 3) := by decide +kernel
theorem dX9_fondInAll_14 : decode cX9_fondInAll 14 = .ok (.iload_n 2, 1) := by decide +kernel
theorem dX9_fondInAll_15 : decode cX9_fondInAll 15 = .ok (.iaload, 1) := by decide +kernel
theorem dX9_fondInAll_16 : decode cX9_fondInAll 16 = .ok (.iadd, 1) := by decide +kernel
theorem dX9_fondInAll_17 : decode cX9_fondInAll 17 = .ok (.istore_n 1, 1) := by decide +kernel
theorem dX9_fondInAll_18 : decode cX9_fondInAll 18 = .ok (.iinc 2 1, 3) := by decide +kernel
theorem dX9_fondInAll_21 : decode cX9_fondInAll 21 = .ok (.goto (-17), 3) := by decide +kernel
theorem dX9_fondInAll_24 : decode cX9_fondInAll 24 = .ok (.iload_n 1, 1) := by decide +kernel
theorem dX9_fondInAll_25 : decode cX9_fondInAll 25 = .ok (.ireturn, 1) := by decide +kernel
theorem dX9_isSheAt_0 : decode cX9_isSheAt 0 = .ok (.aload_n 0, 1) := by decide +kernel
theorem dX9_isSheAt_1 : decode cX9_isSheAt 1 = .ok (.getfield 25, 3) := by decide +kernel
theorem dX9_isSheAt_4 : decode cX9_isSheAt 4 = .ok (.iload_n 1, 1) := by decide +kernel
theorem dX9_isSheAt_5 : decode cX9_isSheAt 5 = .ok (.if_icmp .ne 15, 3) := by decide +kernel
theorem dX9_isSheAt_8 : decode cX9_isSheAt 8 = .ok (.aload_n 0, 1) := by decide +kernel
theorem dX9_isSheAt_9 : decode cX9_isSheAt 9 = .ok (.getfield 28, 3) := by decide +kernel
theorem dX9_isSheAt_12 : decode cX9_isSheAt 12 = .ok (.iload_n 2, 1) := by decide +kernel
theorem dX9_isSheAt_13 : decode cX9_isSheAt 13 = .ok (.if_icmp .ne 7, 3) := by decide +kernel
theorem dX9_isSheAt_16 : decode cX9_isSheAt 16 = .ok (.iconst 1, 1) := by decide +kernel
theorem dX9_isSheAt_17 : decode cX9_isSheAt 17 = .ok (.goto 4, 3) := by decide +kernel
theorem dX9_isSheAt_20 : decode cX9_isSheAt 20 = .ok (.iconst 0, 1) := by decide +kernel
theorem dX9_isSheAt_21 : decode cX9_isSheAt 21 = .ok (.ireturn, 1) := by decide +kernel
theorem dX9_isItApartAt_0 : decode cX9_isItApartAt 0 = .ok (.aload_n 0, 1) := by decide +kernel
theorem dX9_isItApartAt_1 : decode cX9_isItApartAt 1 = .ok (.getfield 70, 3) := by decide +kernel
theorem dX9_isItApartAt_4 : decode cX9_isItApartAt 4 = .ok (.ifCond .ne 23, 3) := by decide +kernel
theorem dX9_isItApartAt_7 : decode cX9_isItApartAt 7 = .ok (.aload_n 0, 1) := by decide +kernel
theorem dX9_isItApartAt_8 : decode cX9_isItApartAt 8 = .ok (.getfield 74, 3) := by decide +kernel
theorem dX9_isItApartAt_11 : decode cX9_isItApartAt 11 = .ok (.iload_n 1, 1) := by decide +kernel
theorem dX9_isItApartAt_12 : decode cX9_isItApartAt 12 = .ok (.if_icmp .ne 15, 3) := by decide +kernel
theorem dX9_isItApartAt_15 : decode cX9_isItApartAt 15 = .ok (.aload_n 0, 1) := by decide +kernel
theorem dX9_isItApartAt_16 : decode cX9_isItApartAt 16 = .ok (.getfield 77, 3) := by decide +kernel
theorem dX9_isItApartAt_19 : decode cX9_isItApartAt 19 = .ok (.iload_n 2, 1) := by decide +kernel
theorem dX9_isItApartAt_20 : decode cX9_isItApartAt 20 = .ok (.if_icmp .ne 7, 3) := by decide +kernel
theorem dX9_isItApartAt_23 : decode cX9_isItApartAt 23 = .ok (.iconst 1, 1) := by decide +kernel
theorem dX9_isItApartAt_24 : decode cX9_isItApartAt 24 = .ok (.goto 4, 3) := by decide +kernel
theorem dX9_isItApartAt_27 : decode cX9_isItApartAt 27 = .ok (.iconst 0, 1) := by decide +kernel
theorem dX9_isItApartAt_28 : decode cX9_isItApartAt 28 = .ok (.ireturn, 1) := by decide +kernel
theorem dX10_init_0 : decode cX10_init 0 = .ok (.aload_n 0, 1) := by decide +kernel
theorem dX10_init_1 : decode cX10_init 1 = .ok (.invokespecial 1, 3) := by decide +kernel
theorem dX10_init_4 : decode cX10_init 4 = .ok (.aload_n 0, 1) := by decide +kernel
theorem dX10_init_5 : decode cX10_init 5 = .ok (.sipush 700, 3) := by decide +kernel
theorem dX10_init_8 : decode cX10_init 8 = .ok (.newarray .byte, 2) := by decide +kernel
theorem dX10_init_10 : decode cX10_init 10 = .ok (.putfield 9, 3) := by decide +kernel
theorem dX10_init_13 : decode cX10_init 13 = .ok (.aload_n 0, 1) := by decide +kernel
theorem dX10_init_14 : decode cX10_init 14 = .ok (.new 13, 3) := by decide +kernel
theorem dX10_init_17 : decode cX10_init 17 = .ok (.dup, 1) := by decide +kernel
theorem dX10_init_18 : decode cX10_init 18 = .ok (.invokespecial 15, 3) := by decide +kernel
theorem dX10_init_21 : decode cX10_init 21 = .ok (.putfield 16, 3) := by decide +kernel
theorem dX10_init_24 : decode cX10_init 24 = .ok (.aload_n 0, 1) := by decide +kernel
theorem dX10_init_25 : decode cX10_init 25 = .ok (.new 13, 3) := by decide +kernel
theorem dX10_init_28 : decode cX10_init 28 = .ok (.dup, 1) := by decide +kernel
theorem dX10_init_29 : decode cX10_init 29 = .ok (.invokespecial 15, 3) := by decide +kernel
theorem dX10_init_32 : decode cX10_init 32 = .ok (.putfield 20, 3) := by decide +kernel
theorem dX10_init_35 : decode cX10_init 35 = .ok (.aload_n 0, 1) := by decide +kernel
theorem dX10_init_36 : decode cX10_init 36 = .ok (.new 23, 3) := by decide +kernel
theorem dX10_init_39 : decode cX10_init 39 = .ok (.dup, 1) := by decide +kernel
theorem dX10_init_40 : decode cX10_init 40 = .ok (.aload_n 0, 1) := by decide +kernel
theorem dX10_init_41 : decode cX10_init 41 = .ok (.getfield 20, 3) := by decide +kernel
theorem dX10_init_44 : decode cX10_init 44 = .ok (.invokespecial 25, 3) := by decide +kernel
theorem dX10_init_47 : decode cX10_init 47 = .ok (.putfield 28, 3) := by decide +kernel
theorem dX10_init_50 : decode cX10_init 50 = .ok (.aload_n 0, 1) := by decide +kernel
theorem dX10_init_51 : decode cX10_init 51 = .ok (.new 32, 3) := by decide +kernel
theorem dX10_init_54 : decode cX10_init 54 = .ok (.dup, 1) := by decide +kernel
theorem dX10_init_55 : decode cX10_init 55 = .ok (.aload_n 0, 1) := by decide +kernel
theorem dX10_init_56 : decode cX10_init 56 = .ok (.getfield 16, 3) := by decide +kernel
theorem dX10_init_59 : decode cX10_init 59 = .ok (.invokespecial 34, 3) := by decide +kernel
theorem dX10_init_62 : decode cX10_init 62 = .ok (.putfield 35, 3) := by decide +kernel
theorem dX10_init_65 : decode cX10_init 65 = .ok (.aload_n 0, 1) := by decide +kernel
theorem dX10_init_66 : decode cX10_init 66 = .ok (.new 39, 3) := by decide +kernel
theorem dX10_init_69 : decode cX10_init 69 = .ok (.dup, 1) := by decide +kernel
theorem dX10_init_70 : decode cX10_init 70 = .ok (.aload_n 0, 1) := by decide +kernel
theorem dX10_init_71 : decode cX10_init 71 = .ok (.getfield 35, 3) := by decide +kernel
theorem dX10_init_74 : decode cX10_init 74 = .ok (.invokespecial 41, 3) := by decide +kernel
theorem dX10_init_77 : decode cX10_init 77 = .ok (.putfield 44, 3) := by decide +kernel
theorem dX10_init_80 : decode cX10_init 80 = .ok (.aload_n 0, 1) := by decide +kernel
theorem dX10_init_81 : decode cX10_init 81 = .ok (.new 48, 3) := by decide +kernel
theorem dX10_init_84 : decode cX10_init 84 = .ok (.dup, 1) := by decide +kernel
theorem dX10_init_85 : decode cX10_init 85 = .ok (.invokespecial 50, 3) := by decide +kernel
theorem dX10_init_88 : decode cX10_init 88 = .ok (.putfield 51, 3) := by decide +kernel
theorem dX10_init_91 : decode cX10_init 91 = .ok (.aload_n 0, 1) := by decide +kernel
theorem dX10_init_92 : decode cX10_init 92 = .ok (.new 55, 3) := by decide +kernel
theorem dX10_init_95 : decode cX10_init 95 = .ok (.dup, 1) := by decide +kernel
theorem dX10_init_96 : decode cX10_init 96 = .ok (.invokespecial 57, 3) := by decide +kernel
theorem dX10_init_99 : decode cX10_init 99 = .ok (.putfield 58, 3) := by decide +kernel
theorem dX10_init_102 : decode cX10_init 102 = .ok (.aload_n 0, 1) := by decide +kernel
theorem dX10_init_103 : decode cX10_init 103 = .ok (.new 62, 3) := by decide +kernel
theorem dX10_init_106 : decode cX10_init 106 = .ok (.dup, 1) := by decide +kernel
theorem dX10_init_107 : decode cX10_init 107 = .ok (.invokespecial 64, 3) := by decide +kernel
theorem dX10_init_110 : decode cX10_init 110 = .ok (.putfield 65, 3) := by decide +kernel
theorem dX10_init_113 : decode cX10_init 113 = .ok (.aload_n 0, 1) := by decide +kernel
theorem dX10_init_114 : decode cX10_init 114 = .ok (.new 69, 3) := by decide +kernel
theorem dX10_init_117 : decode cX10_init 117 = .ok (.dup, 1) := by decide +kernel
theorem dX10_init_118 : decode cX10_init 118 = .ok (.invokespecial 71, 3) := by decide +kernel
theorem dX10_init_121 : decode cX10_init 121 = .ok (.putfield 72, 3) := by decide +kernel
theorem dX10_init_124 : decode cX10_init 124 = .ok (.aload_n 0, 1) := by decide +kernel
theorem dX10_init_125 : decode cX10_init 125 = .ok (.new 69, 3) := by decide +kernel
theorem dX10_init_128 : decode cX10_init 128 = .ok (.dup, 1) := by decide +kernel
theorem dX10_init_129 : decode cX10_init 129 = .ok (.invokespecial 71, 3) := by decide +kernel
theorem dX10_init_132 : decode cX10_init 132 = .ok (.putfield 76, 3) := by decide +kernel
theorem dX10_init_135 : decode cX10_init 135 = .ok (.aload_n 0, 1) := by decide +kernel
theorem dX10_init_136 : decode cX10_init 136 = .ok (.new 69, 3) := by decide +kernel
theorem dX10_init_139 : decode cX10_init 139 = .ok (.dup, 1) := by decide +kernel
theorem dX10_init_140 : decode cX10_init 140 = .ok (.invokespecial 71, 3) := by decide +kernel
theorem dX10_init_143 : decode cX10_init 143 = .ok (.putfield 79, 3) := by decide +kernel
theorem dX10_init_146 : decode cX10_init 146 = .ok (.aload_n 0, 1) := by decide +kernel
theorem dX10_init_147 : decode cX10_init 147 = .ok (.iconst (-1), 1) := by decide +kernel
theorem dX10_init_148 : decode cX10_init 148 = .ok (.putfield 82, 3) := by decide +kernel
theorem dX10_init_151 : decode cX10_init 151 = .ok (.aload_n 0, 1) := by decide +kernel
theorem dX10_init_152 : decode cX10_init 152 = .ok (.getfield 16, 3) := by decide +kernel
theorem dX10_init_155 : decode cX10_init 155 = .ok (.invokevirtual 86, 3) := by decide +kernel
theorem dX10_init_158 : decode cX10_init 158 = .ok (.aload_n 0, 1) := by decide +kernel
theorem dX10_init_159 : decode cX10_init 159 = .ok (.invokevirtual 89, 3) := by decide +kernel
theorem dX10_init_162 : decode cX10_init 162 = .ok (.return_, 1) := by decide +kernel
theorem dX10_downBy_0 : decode cX10_downBy 0 = .ok (.iload_n 0, 1) := by decide +kernel
theorem dX10_downBy_1 : decode cX10_downBy 1 = .ok (.ifCond .ne 7, 3) := by decide +kernel
theorem dX10_downBy_4 : decode cX10_downBy 4 = .ok (.iconst (-1), 1) := by decide +kernel
theorem dX10_downBy_5 : decode cX10_downBy 5 = .ok (.goto 13, 3) := by decide +kernel
theorem dX10_downBy_8 : decode cX10_downBy 8 = .ok (.iload_n 0, 1) := by decide +kernel
theorem dX10_downBy_9 : decode cX10_downBy 9 = .ok (.iconst 2, 1) := by decide +kernel
theorem dX10_downBy_10 : decode cX10_downBy 10 = .ok (.if_icmp .ne 7, 3) := by decide +kernel
theorem dX10_downBy_13 : decode cX10_downBy 13 = .ok (.iconst 1, 1) := by decide +kernel
theorem dX10_downBy_14 : decode cX10_downBy 14 = .ok (.goto 4, 3) := by decide +kernel
theorem dX10_downBy_17 : decode cX10_downBy 17 = .ok (.iconst 0, 1) := by decide +kernel
theorem dX10_downBy_18 : decode cX10_downBy 18 = .ok (.ireturn, 1) := by decide +kernel
theorem dX10_rightBy_0 : decode cX10_rightBy 0 = .ok (.iload_n 0, 1) := by decide +kernel
theorem dX10_rightBy_1 : decode cX10_rightBy 1 = .ok (.iconst 1, 1) := by decide +kernel
theorem dX10_rightBy_2 : decode cX10_rightBy 2 = .ok (.if_icmp .ne 7, 3) := by decide +kernel
theorem dX10_rightBy_5 : decode cX10_rightBy 5 = .ok (.iconst 1, 1) := by decide +kernel
theorem dX10_rightBy_6 : decode cX10_rightBy 6 = .ok (.goto 13, 3) := by decide +kernel
theorem dX10_rightBy_9 : decode cX10_rightBy 9 = .ok (.iload_n 0, 1) := by decide +kernel
theorem dX10_rightBy_10 : decode cX10_rightBy 10 = .ok (.iconst 3, 1) := by decide +kernel
theorem dX10_rightBy_11 : decode cX10_rightBy 11 = .ok (.if_icmp .ne 7, 3) := by decide +kernel
theorem dX10_rightBy_14 : decode cX10_rightBy 14 = .ok (.iconst (-1), 1) := by decide +kernel
theorem dX10_rightBy_15 : decode cX10_rightBy 15 = .ok (.goto 4, 3) := by decide +kernel
theorem dX10_rightBy_18 : decode cX10_rightBy 18 = .ok (.iconst 0, 1) := by decide +kernel
theorem dX10_rightBy_19 : decode cX10_rightBy 19 = .ok (.ireturn, 1) := by decide +kernel
theorem dX10_feed_0 : decode cX10_feed 0 = .ok (.aload_n 0, 1) := by decide +kernel
theorem dX10_feed_1 : decode cX10_feed 1 = .ok (.getfield 92, 3) := by decide +kernel
theorem dX10_feed_4 : decode cX10_feed 4 = .ok (.bipush 20, 2) := by decide +kernel
theorem dX10_feed_6 : decode cX10_feed 6 = .ok (.iadd, 1) := by decide +kernel
theorem dX10_feed_7 : decode cX10_feed 7 = .ok (.sipush 700, 3) := by decide +kernel
theorem dX10_feed_10 : decode cX10_feed 10 = .ok (.if_icmp .le 5, 3) := by decide +kernel
theorem dX10_feed_13 : decode cX10_feed 13 = .ok (.iconst (-1), 1) := by decide +kernel
theorem dX10_feed_14 : decode cX10_feed 14 = .ok (.ireturn, 1) := by decide +kernel
theorem dX10_feed_15 : decode cX10_feed 15 = .ok (.aload_n 0, 1) := by decide +kernel
theorem dX10_feed_16 : decode cX10_feed 16 = .ok (.iload_n 1, 1) := by decide +kernel
theorem dX10_feed_17 : decode cX10_feed 17 = .ok (.invokevirtual 95, 3) := by decide +kernel
theorem dX10_feed_20 : decode cX10_feed 20 = .ok (.aload_n 0, 1) := by decide +kernel
theorem dX10_feed_21 : decode cX10_feed 21 = .ok (.iload_n 2, 1) := by decide +kernel
theorem dX10_feed_22 : decode cX10_feed 22 = .ok (.invokevirtual 95, 3) := by decide +kernel
theorem dX10_feed_25 : decode cX10_feed 25 = .ok (.aload_n 0, 1) := by decide +kernel
theorem dX10_feed_26 : decode cX10_feed 26 = .ok (.iload_n 3, 1) := by decide +kernel
theorem dX10_feed_27 : decode cX10_feed 27 = .ok (.invokevirtual 95, 3) := by decide +kernel
theorem dX10_feed_30 : decode cX10_feed 30 = .ok (.aload_n 0, 1) := by decide +kernel
theorem dX10_feed_31 : decode cX10_feed 31 = .ok (.iload 4, 2) := by decide +kernel
theorem dX10_feed_33 : decode cX10_feed 33 = .ok (.invokevirtual 95, 3) := by decide +kernel
theorem dX10_feed_36 : decode cX10_feed 36 = .ok (.aload_n 0, 1) := by decide +kernel
theorem dX10_feed_37 : decode cX10_feed 37 = .ok (.iload 5, 2) := by decide +kernel
theorem dX10_feed_39 : decode cX10_feed 39 = .ok (.invokevirtual 95, 3) := by decide +kernel
theorem dX10_feed_42 : decode cX10_feed 42 = .ok (.aload_n 0, 1) := by decide +kernel
theorem dX10_feed_43 : decode cX10_feed 43 = .ok (.getfield 92, 3) := by decide +kernel
theorem dX10_feed_46 : decode cX10_feed 46 = .ok (.ireturn, 1) := by decide +kernel
theorem dX10_putBytes_0 : decode cX10_putBytes 0 = .ok (.bipush 24, 2) := by decide +kernel
theorem dX10_putBytes_2 : decode cX10_putBytes 2 = .ok (.istore_n 2, 1) := by decide +kernel
theorem dX10_putBytes_3 : decode cX10_putBytes 3 = .ok (.iload_n 2, 1) := by decide +kernel
theorem dX10_putBytes_4 : decode cX10_putBytes 4 = .ok (.ifCond .lt 42, 3) := by decide +kernel
theorem dX10_putBytes_7 : decode cX10_putBytes 7 = .ok (.aload_n 0, 1) := by decide +kernel
theorem dX10_putBytes_8 : decode cX10_putBytes 8 = .ok (.getfield 92, 3) := by decide +kernel
theorem dX10_putBytes_11 : decode cX10_putBytes 11 = .ok (.sipush 700, 3) := by decide +kernel
theorem dX10_putBytes_14 : decode cX10_putBytes 14 = .ok (.if_icmp .ge 26, 3) := by decide +kernel
theorem dX10_putBytes_17 : decode cX10_putBytes 17 = .ok (.aload_n 0, 1) := by decide +kernel
theorem dX10_putBytes_18 : decode cX10_putBytes 18 = .ok (.getfield 9, 3) := by decide +kernel
theorem dX10_putBytes_21 : decode cX10_putBytes 21 = .ok (.aload_n 0, 1) := by decide +kernel
theorem dX10_putBytes_22 : decode cX10_putBytes 22 = .ok (.getfield 92, 3) := by decide +kernel
theorem dX10_putBytes_25 : decode cX10_putBytes 25 = .ok (.iload_n 1, 1) := by decide +kernel
theorem dX10_putBytes_26 : decode cX10_putBytes 26 = .ok (.iload_n 2, 1) := by decide +kernel
theorem dX10_putBytes_27 : decode cX10_putBytes 27 = .ok (.ishr, 1) := by decide +kernel
theorem dX10_putBytes_28 : decode cX10_putBytes 28 = .ok (.i2b, 1) := by decide +kernel
theorem dX10_putBytes_29 : decode cX10_putBytes 29 = .ok (.bastore, 1) := by decide +kernel
theorem dX10_putBytes_30 : decode cX10_putBytes 30 = .ok (.aload_n 0, 1) := by decide +kernel
theorem dX10_putBytes_31 : decode cX10_putBytes 31 = .ok (.dup, 1) := by decide +kernel
theorem dX10_putBytes_32 : decode cX10_putBytes 32 = .ok (.getfield 92, 3) := by decide +kernel
theorem dX10_putBytes_35 : decode cX10_putBytes 35 = .ok (.iconst 1, 1) := by decide +kernel
theorem dX10_putBytes_36 : decode cX10_putBytes 36 = .ok (.iadd, 1) := by decide +kernel
theorem dX10_putBytes_37 : decode cX10_putBytes 37 = .ok (.putfield 92, 3) := by decide +kernel
theorem dX10_putBytes_40 : decode cX10_putBytes 40 = .ok (.iinc 2 (-8), 3) := by decide +kernel
theorem dX10_putBytes_43 : decode cX10_putBytes 43 = .ok (.goto (-40), 3) := by decide +kernel
theorem dX10_putBytes_46 : decode cX10_putBytes 46 = .ok (.return_, 1) := by decide +kernel
theorem dX10_text_0 : decode cX10_text 0 = .ok (.iload_n 1, 1) := by decide +kernel
theorem dX10_text_1 : decode cX10_text 1 = .ok (.ifCond .lt 11, 3) := by decide +kernel
theorem dX10_text_4 : decode cX10_text 4 = .ok (.iload_n 1, 1) := by decide +kernel
theorem dX10_text_5 : decode cX10_text 5 = .ok (.aload_n 0, 1) := by decide +kernel
theorem dX10_text_6 : decode cX10_text 6 = .ok (.getfield 92, 3) := by decide +kernel
theorem dX10_text_9 : decode cX10_text 9 = .ok (.if_icmp .le 6, 3) := by decide +kernel
theorem dX10_text_12 : decode cX10_text 12 = .ok (.bipush (-2), 2) := by decide +kernel
theorem dX10_text_14 : decode cX10_text 14 = .ok (.ireturn, 1) := by decide +kernel
theorem dX10_text_15 : decode cX10_text 15 = .ok (.aload_n 0, 1) := by decide +kernel
theorem dX10_text_16 : decode cX10_text 16 = .ok (.iconst 0, 1) := by decide +kernel
theorem dX10_text_17 : decode cX10_text 17 = .ok (.putfield 92, 3) := by decide +kernel
theorem dX10_text_20 : decode cX10_text 20 = .ok (.aload_n 0, 1) := by decide +kernel
theorem dX10_text_21 : decode cX10_text 21 = .ok (.getfield 28, 3) := by decide +kernel
theorem dX10_text_24 : decode cX10_text 24 = .ok (.aload_n 0, 1) := by decide +kernel
theorem dX10_text_25 : decode cX10_text 25 = .ok (.getfield 9, 3) := by decide +kernel
theorem dX10_text_28 : decode cX10_text 28 = .ok (.iload_n 1, 1) := by decide +kernel
theorem dX10_text_29 : decode cX10_text 29 = .ok (.aload_n 0, 1) := by decide +kernel
theorem dX10_text_30 : decode cX10_text 30 = .ok (.getfield 20, 3) := by decide +kernel
theorem dX10_text_33 : decode cX10_text 33 = .ok (.invokevirtual 99, 3) := by decide +kernel
theorem dX10_text_36 : decode cX10_text 36 = .ok (.iconst 0, 1) := by decide +kernel
theorem dX10_text_37 : decode cX10_text 37 = .ok (.istore_n 2, 1) := by decide +kernel
theorem dX10_text_38 : decode cX10_text 38 = .ok (.iload_n 2, 1) := by decide +kernel
theorem dX10_text_39 : decode cX10_text 39 = .ok (.iload_n 1, 1) := by decide +kernel
theorem dX10_text_40 : decode cX10_text 40 = .ok (.if_icmp .ge 26, 3) := by decide +kernel
theorem dX10_text_43 : decode cX10_text 43 = .ok (.aload_n 0, 1) := by decide +kernel
theorem dX10_text_44 : decode cX10_text 44 = .ok (.getfield 28, 3) := by decide +kernel
theorem dX10_text_47 : decode cX10_text 47 = .ok (.invokevirtual 103, 3) := by decide +kernel
theorem dX10_text_50 : decode cX10_text 50 = .ok (.ifCond .eq 16, 3) := by decide +kernel
theorem dX10_text_53 : decode cX10_text 53 = .ok (.aload_n 0, 1) := by decide +kernel
theorem dX10_text_54 : decode cX10_text 54 = .ok (.getfield 28, 3) := by decide +kernel
theorem dX10_text_57 : decode cX10_text 57 = .ok (.invokevirtual 107, 3) := by decide +kernel
theorem dX10_text_60 : decode cX10_text 60 = .ok (.iinc 2 1, 3) := by decide +kernel
theorem dX10_text_63 : decode cX10_text 63 = .ok (.goto (-25), 3) := by decide +kernel
theorem dX10_text_66 : decode cX10_text 66 = .ok (.aload_n 0, 1) := by decide +kernel
theorem dX10_text_67 : decode cX10_text 67 = .ok (.aload_n 0, 1) := by decide +kernel
theorem dX10_text_68 : decode cX10_text 68 = .ok (.getfield 28, 3) := by decide +kernel
theorem dX10_text_71 : decode cX10_text 71 = .ok (.getfield 110, 3) := by decide +kernel
theorem dX10_text_74 : decode cX10_text 74 = .ok (.putfield 113, 3) := by decide +kernel
theorem dX10_text_77 : decode cX10_text 77 = .ok (.aload_n 0, 1) := by decide +kernel
theorem dX10_text_78 : decode cX10_text 78 = .ok (.aload_n 0, 1) := by decide +kernel
theorem dX10_text_79 : decode cX10_text 79 = .ok (.getfield 28, 3) := by decide +kernel
theorem dX10_text_82 : decode cX10_text 82 = .ok (.getfield 116, 3) := by decide +kernel
theorem dX10_text_85 : decode cX10_text 85 = .ok (.putfield 82, 3) := by decide +kernel
theorem dX10_text_88 : decode cX10_text 88 = .ok (.aload_n 0, 1) := by decide +kernel
theorem dX10_text_89 : decode cX10_text 89 = .ok (.getfield 113, 3) := by decide +kernel
theorem dX10_text_92 : decode cX10_text 92 = .ok (.ifCond .eq 5, 3) := by decide +kernel
theorem dX10_text_95 : decode cX10_text 95 = .ok (.iconst (-1), 1) := by decide +kernel
theorem dX10_text_96 : decode cX10_text 96 = .ok (.ireturn, 1) := by decide +kernel
theorem dX10_text_97 : decode cX10_text 97 = .ok (.aload_n 0, 1) := by decide +kernel
theorem dX10_text_98 : decode cX10_text 98 = .ok (.getfield 16, 3) := by decide +kernel
theorem dX10_text_101 : decode cX10_text 101 = .ok (.astore_n 2, 1) := by decide +kernel
theorem dX10_text_102 : decode cX10_text 102 = .ok (.aload_n 0, 1) := by decide +kernel
theorem dX10_text_103 : decode cX10_text 103 = .ok (.aload_n 0, 1) := by decide +kernel
theorem dX10_text_104 : decode cX10_text 104 = .ok (.getfield 20, 3) := by decide +kernel
theorem dX10_text_107 : decode cX10_text 107 = .ok (.putfield 16, 3) := by decide +kernel
theorem dX10_text_110 : decode cX10_text 110 = .ok (.aload_n 0, 1) := by decide +kernel
theorem dX10_text_111 : decode cX10_text 111 = .ok (.aload_n 2, 1) := by decide +kernel
theorem dX10_text_112 : decode cX10_text 112 = .ok (.putfield 20, 3) := by decide +kernel
theorem dX10_text_115 : decode cX10_text 115 = .ok (.aload_n 0, 1) := by decide +kernel
theorem dX10_text_116 : decode cX10_text 116 = .ok (.invokevirtual 89, 3) := by decide +kernel
theorem dX10_text_119 : decode cX10_text 119 = .ok (.aload_n 0, 1) := by decide +kernel
theorem dX10_text_120 : decode cX10_text 120 = .ok (.getfield 28, 3) := by decide +kernel
theorem dX10_text_123 : decode cX10_text 123 = .ok (.getfield 117, 3) := by decide +kernel
theorem dX10_text_126 : decode cX10_text 126 = .ok (.ireturn, 1) := by decide +kernel
theorem dX10_startAnew_0 : decode cX10_startAnew 0 = .ok (.aload_n 0, 1) := by decide +kernel
theorem dX10_startAnew_1 : decode cX10_startAnew 1 = .ok (.getfield 16, 3) := by decide +kernel
theorem dX10_startAnew_4 : decode cX10_startAnew 4 = .ok (.invokevirtual 120, 3) := by decide +kernel
theorem dX10_startAnew_7 : decode cX10_startAnew 7 = .ok (.aload_n 0, 1) := by decide +kernel
theorem dX10_startAnew_8 : decode cX10_startAnew 8 = .ok (.getfield 35, 3) := by decide +kernel
theorem dX10_startAnew_11 : decode cX10_startAnew 11 = .ok (.aload_n 0, 1) := by decide +kernel
theorem dX10_startAnew_12 : decode cX10_startAnew 12 = .ok (.getfield 16, 3) := by decide +kernel
theorem dX10_startAnew_15 : decode cX10_startAnew 15 = .ok (.putfield 123, 3) := by decide +kernel
theorem dX10_startAnew_18 : decode cX10_startAnew 18 = .ok (.aload_n 0, 1) := by decide +kernel
theorem dX10_startAnew_19 : decode cX10_startAnew 19 = .ok (.getfield 72, 3) := by decide +kernel
theorem dX10_startAnew_22 : decode cX10_startAnew 22 = .ok (.aload_n 0, 1) := by decide +kernel
theorem dX10_startAnew_23 : decode cX10_startAnew 23 = .ok (.getfield 16, 3) := by decide +kernel
theorem dX10_startAnew_26 : decode cX10_startAnew 26 = .ok (.aload_n 0, 1) := by decide +kernel
theorem dX10_startAnew_27 : decode cX10_startAnew 27 = .ok (.getfield 16, 3) := by decide +kernel
theorem dX10_startAnew_30 : decode cX10_startAnew 30 = .ok (.getfield 124, 3) := by decide +kernel
theorem dX10_startAnew_33 : decode cX10_startAnew 33 = .ok (.aload_n 0, 1) := by decide +kernel
theorem dX10_startAnew_34 : decode cX10_startAnew 34 = .ok (.getfield 16, 3) := by decide +kernel
theorem dX10_startAnew_37 : decode cX10_startAnew 37 = .ok (.getfield 127, 3) := by decide +kernel
theorem dX10_startAnew_40 : decode cX10_startAnew 40 = .ok (.invokevirtual 130, 3) := by decide +kernel
theorem dX10_startAnew_43 : decode cX10_startAnew 43 = .ok (.aload_n 0, 1) := by decide +kernel
theorem dX10_startAnew_44 : decode cX10_startAnew 44 = .ok (.iconst 0, 1) := by decide +kernel
theorem dX10_startAnew_45 : decode cX10_startAnew 45 = .ok (.putfield 133, 3) := by decide +kernel
theorem dX10_startAnew_48 : decode cX10_startAnew 48 = .ok (.aload_n 0, 1) := by decide +kernel
theorem dX10_startAnew_49 : decode cX10_startAnew 49 = .ok (.getfield 58, 3) := by decide +kernel
theorem dX10_startAnew_52 : decode cX10_startAnew 52 = .ok (.invokevirtual 137, 3) := by decide +kernel
theorem dX10_startAnew_55 : decode cX10_startAnew 55 = .ok (.aload_n 0, 1) := by decide +kernel
theorem dX10_startAnew_56 : decode cX10_startAnew 56 = .ok (.getfield 65, 3) := by decide +kernel
theorem dX10_startAnew_59 : decode cX10_startAnew 59 = .ok (.invokevirtual 140, 3) := by decide +kernel
theorem dX10_startAnew_62 : decode cX10_startAnew 62 = .ok (.return_, 1) := by decide +kernel
theorem dX10_fault_0 : decode cX10_fault 0 = .ok (.iload_n 1, 1) := by decide +kernel
theorem dX10_fault_1 : decode cX10_fault 1 = .ok (.ifCond .ne 8, 3) := by decide +kernel
theorem dX10_fault_4 : decode cX10_fault 4 = .ok (.aload_n 0, 1) := by decide +kernel
theorem dX10_fault_5 : decode cX10_fault 5 = .ok (.getfield 113, 3) := by decide +kernel
theorem dX10_fault_8 : decode cX10_fault 8 = .ok (.ireturn, 1) := by decide +kernel
theorem dX10_fault_9 : decode cX10_fault 9 = .ok (.iload_n 1, 1) := by decide +kernel
theorem dX10_fault_10 : decode cX10_fault 10 = .ok (.iconst 1, 1) := by decide +kernel
theorem dX10_fault_11 : decode cX10_fault 11 = .ok (.if_icmp .ne 10, 3) := by decide +kernel
theorem dX10_fault_14 : decode cX10_fault 14 = .ok (.aload_n 0, 1) := by decide +kernel
theorem dX10_fault_15 : decode cX10_fault 15 = .ok (.getfield 82, 3) := by decide +kernel
theorem dX10_fault_18 : decode cX10_fault 18 = .ok (.goto 4, 3) := by decide +kernel
theorem dX10_fault_21 : decode cX10_fault 21 = .ok (.iconst (-1), 1) := by decide +kernel
theorem dX10_fault_22 : decode cX10_fault 22 = .ok (.ireturn, 1) := by decide +kernel
theorem dX10_named_0 : decode cX10_named 0 = .ok (.iload_n 1, 1) := by decide +kernel
theorem dX10_named_1 : decode cX10_named 1 = .ok (.tableswitch 66 0 2 #[27, 40, 53], 27) := by decide +kernel
theorem dX10_named_28 : decode cX10_named 28 = .ok (.aload_n 0, 1) := by decide +kernel
theorem dX10_named_29 : decode cX10_named 29 = .ok (.getfield 16, 3) := by decide +kernel
theorem dX10_named_32 : decode cX10_named 32 = .ok (.getfield 141, 3) := by decide +kernel
theorem dX10_named_35 : decode cX10_named 35 = .ok (.iconst 0, 1) := by decide +kernel
theorem dX10_named_36 : decode cX10_named 36 = .ok (.iload_n 2, 1) := by decide +kernel
theorem dX10_named_37 : decode cX10_named 37 = .ok (.invokevirtual 145, 3) := by decide +kernel
theorem dX10_named_40 : decode cX10_named 40 = .ok (.ireturn, 1) := by decide +kernel
theorem dX10_named_41 : decode cX10_named 41 = .ok (.aload_n 0, 1) := by decide +kernel
theorem dX10_named_42 : decode cX10_named 42 = .ok (.getfield 16, 3) := by decide +kernel
theorem dX10_named_45 : decode cX10_named 45 = .ok (.getfield 151, 3) := by decide +kernel
theorem dX10_named_48 : decode cX10_named 48 = .ok (.iconst 0, 1) := by decide +kernel
theorem dX10_named_49 : decode cX10_named 49 = .ok (.iload_n 2, 1) := by decide +kernel
theorem dX10_named_50 : decode cX10_named 50 = .ok (.invokevirtual 145, 3) := by decide +kernel
theorem dX10_named_53 : decode cX10_named 53 = .ok (.ireturn, 1) := by decide +kernel
theorem dX10_named_54 : decode cX10_named 54 = .ok (.aload_n 0, 1) := by decide +kernel
theorem dX10_named_55 : decode cX10_named 55 = .ok (.getfield 16, 3) := by decide +kernel
theorem dX10_named_58 : decode cX10_named 58 = .ok (.getfield 154, 3) := by decide +kernel
theorem dX10_named_61 : decode cX10_named 61 = .ok (.iconst 0, 1) := by decide +kernel
theorem dX10_named_62 : decode cX10_named 62 = .ok (.iload_n 2, 1) := by decide +kernel
theorem dX10_named_63 : decode cX10_named 63 = .ok (.invokevirtual 145, 3) := by decide +kernel
theorem dX10_named_66 : decode cX10_named 66 = .ok (.ireturn, 1) := by decide +kernel
theorem dX10_named_67 : decode cX10_named 67 = .ok (.iconst (-1), 1) := by decide +kernel
theorem dX10_named_68 : decode cX10_named 68 = .ok (.ireturn, 1) := by decide +kernel
theorem dX10_where_0 : decode cX10_where 0 = .ok (.aload_n 0, 1) := by decide +kernel
theorem dX10_where_1 : decode cX10_where 1 = .ok (.getfield 35, 3) := by decide +kernel
theorem dX10_where_4 : decode cX10_where 4 = .ok (.aload_n 0, 1) := by decide +kernel
theorem dX10_where_5 : decode cX10_where 5 = .ok (.getfield 72, 3) := by decide +kernel
theorem dX10_where_8 : decode cX10_where 8 = .ok (.invokevirtual 157, 3) := by decide +kernel
theorem dX10_where_11 : decode cX10_where 11 = .ok (.iload_n 1, 1) := by decide +kernel
theorem dX10_where_12 : decode cX10_where 12 = .ok (.tableswitch 96 0 5 #[40, 48, 56, 64, 72, 88], 40) := by decide +kernel
theorem dX10_where_52 : decode cX10_where 52 = .ok (.aload_n 0, 1) := by decide +kernel
theorem dX10_where_53 : decode cX10_where 53 = .ok (.getfield 72, 3) := by decide +kernel
theorem dX10_where_56 : decode cX10_where 56 = .ok (.getfield 161, 3) := by decide +kernel
theorem dX10_where_59 : decode cX10_where 59 = .ok (.ireturn, 1) := by decide +kernel
theorem dX10_where_60 : decode cX10_where 60 = .ok (.aload_n 0, 1) := by decide +kernel
theorem dX10_where_61 : decode cX10_where 61 = .ok (.getfield 72, 3) := by decide +kernel
theorem dX10_where_64 : decode cX10_where 64 = .ok (.getfield 164, 3) := by decide +kernel
theorem dX10_where_67 : decode cX10_where 67 = .ok (.ireturn, 1) := by decide +kernel
theorem dX10_where_68 : decode cX10_where 68 = .ok (.aload_n 0, 1) := by decide +kernel
theorem dX10_where_69 : decode cX10_where 69 = .ok (.getfield 72, 3) := by decide +kernel
theorem dX10_where_72 : decode cX10_where 72 = .ok (.getfield 167, 3) := by decide +kernel
theorem dX10_where_75 : decode cX10_where 75 = .ok (.ireturn, 1) := by decide +kernel
theorem dX10_where_76 : decode cX10_where 76 = .ok (.aload_n 0, 1) := by decide +kernel
theorem dX10_where_77 : decode cX10_where 77 = .ok (.getfield 72, 3) := by decide +kernel
theorem dX10_where_80 : decode cX10_where 80 = .ok (.getfield 170, 3) := by decide +kernel
theorem dX10_where_83 : decode cX10_where 83 = .ok (.ireturn, 1) := by decide +kernel
theorem dX10_where_84 : decode cX10_where 84 = .ok (.aload_n 0, 1) := by decide +kernel
theorem dX10_where_85 : decode cX10_where 85 = .ok (.getfield 72, 3) := by decide +kernel
theorem dX10_where_88 : decode cX10_where 88 = .ok (.getfield 173, 3) := by decide +kernel
theorem dX10_where_91 : decode cX10_where 91 = .ok (.ifCond .eq 7, 3) := by decide +kernel
theorem dX10_where_94 : decode cX10_where 94 = .ok (.iconst 1, 1) := by decide +kernel
theorem dX10_where_95 : decode cX10_where 95 = .ok (.goto 4, 3) := by decide +kernel
theorem dX10_where_98 : decode cX10_where 98 = .ok (.iconst 0, 1) := by decide +kernel
theorem dX10_where_99 : decode cX10_where 99 = .ok (.ireturn, 1) := by decide +kernel
theorem dX10_where_100 : decode cX10_where 100 = .ok (.aload_n 0, 1) := by decide +kernel
theorem dX10_where_101 : decode cX10_where 101 = .ok (.getfield 72, 3) := by decide +kernel
theorem dX10_where_104 : decode cX10_where 104 = .ok (.getfield 176, 3) := by decide +kernel
theorem dX10_where_107 : decode cX10_where 107 = .ok (.ireturn, 1) := by decide +kernel
theorem dX10_where_108 : decode cX10_where 108 = .ok (.iconst (-1), 1) := by decide +kernel
theorem dX10_where_109 : decode cX10_where 109 = .ok (.ireturn, 1) := by decide +kernel
theorem dX10_doing_0 : decode cX10_doing 0 = .ok (.aload_n 0, 1) := by decide +kernel
theorem dX10_doing_1 : decode cX10_doing 1 = .ok (.getfield 16, 3) := by decide +kernel
theorem dX10_doing_4 : decode cX10_doing 4 = .ok (.getfield 151, 3) := by decide +kernel
theorem dX10_doing_7 : decode cX10_doing 7 = .ok (.iload_n 1, 1) := by decide +kernel
theorem dX10_doing_8 : decode cX10_doing 8 = .ok (.invokevirtual 179, 3) := by decide +kernel
theorem dX10_doing_11 : decode cX10_doing 11 = .ok (.ifCond .ne 13, 3) := by decide +kernel
theorem dX10_doing_14 : decode cX10_doing 14 = .ok (.new 183, 3) := by decide +kernel
theorem dX10_doing_17 : decode cX10_doing 17 = .ok (.dup, 1) := by decide +kernel
theorem dX10_doing_18 : decode cX10_doing 18 = .ok (.ldc 185, 2) := by decide +kernel
theorem dX10_doing_20 : decode cX10_doing 20 = .ok (.invokespecial 187, 3) := by decide +kernel
theorem dX10_doing_23 : decode cX10_doing 23 = .ok (.athrow, 1) := by decide +kernel
theorem dX10_doing_24 : decode cX10_doing 24 = .ok (.iload_n 2, 1) := by decide +kernel
theorem dX10_doing_25 : decode cX10_doing 25 = .ok (.ifCond .lt 8, 3) := by decide +kernel
theorem dX10_doing_28 : decode cX10_doing 28 = .ok (.iload_n 2, 1) := by decide +kernel
theorem dX10_doing_29 : decode cX10_doing 29 = .ok (.iconst 4, 1) := by decide +kernel
theorem dX10_doing_30 : decode cX10_doing 30 = .ok (.if_icmp .le 13, 3) := by decide +kernel
theorem dX10_doing_33 : decode cX10_doing 33 = .ok (.new 190, 3) := by decide +kernel
theorem dX10_doing_36 : decode cX10_doing 36 = .ok (.dup, 1) := by decide +kernel
theorem dX10_doing_37 : decode cX10_doing 37 = .ok (.ldc 192, 2) := by decide +kernel
theorem dX10_doing_39 : decode cX10_doing 39 = .ok (.invokespecial 194, 3) := by decide +kernel
theorem dX10_doing_42 : decode cX10_doing 42 = .ok (.athrow, 1) := by decide +kernel
theorem dX10_doing_43 : decode cX10_doing 43 = .ok (.iload_n 2, 1) := by decide +kernel
theorem dX10_doing_44 : decode cX10_doing 44 = .ok (.iconst 4, 1) := by decide +kernel
theorem dX10_doing_45 : decode cX10_doing 45 = .ok (.if_icmp .ne 15, 3) := by decide +kernel
theorem dX10_doing_48 : decode cX10_doing 48 = .ok (.aload_n 0, 1) := by decide +kernel
theorem dX10_doing_49 : decode cX10_doing 49 = .ok (.getfield 72, 3) := by decide +kernel
theorem dX10_doing_52 : decode cX10_doing 52 = .ok (.getfield 195, 3) := by decide +kernel
theorem dX10_doing_55 : decode cX10_doing 55 = .ok (.iload_n 1, 1) := by decide +kernel
theorem dX10_doing_56 : decode cX10_doing 56 = .ok (.ishr, 1) := by decide +kernel
theorem dX10_doing_57 : decode cX10_doing 57 = .ok (.iconst 1, 1) := by decide +kernel
theorem dX10_doing_58 : decode cX10_doing 58 = .ok (.iand, 1) := by decide +kernel
theorem dX10_doing_59 : decode cX10_doing 59 = .ok (.ireturn, 1) := by decide +kernel
theorem dX10_doing_60 : decode cX10_doing 60 = .ok (.aload_n 0, 1) := by decide +kernel
theorem dX10_doing_61 : decode cX10_doing 61 = .ok (.getfield 16, 3) := by decide +kernel
theorem dX10_doing_64 : decode cX10_doing 64 = .ok (.getfield 151, 3) := by decide +kernel
theorem dX10_doing_67 : decode cX10_doing 67 = .ok (.iload_n 1, 1) := by decide +kernel
theorem dX10_doing_68 : decode cX10_doing 68 = .ok (.iconst 1, 1) := by decide +kernel
theorem dX10_doing_69 : decode cX10_doing 69 = .ok (.iload_n 2, 1) := by decide +kernel
theorem dX10_doing_70 : decode cX10_doing 70 = .ok (.iadd, 1) := by decide +kernel
theorem dX10_doing_71 : decode cX10_doing 71 = .ok (.invokevirtual 198, 3) := by decide +kernel
theorem dX10_doing_74 : decode cX10_doing 74 = .ok (.ireturn, 1) := by decide +kernel
theorem dX10_man_0 : decode cX10_man 0 = .ok (.aload_n 0, 1) := by decide +kernel
theorem dX10_man_1 : decode cX10_man 1 = .ok (.iload_n 1, 1) := by decide +kernel
theorem dX10_man_2 : decode cX10_man 2 = .ok (.invokevirtual 201, 3) := by decide +kernel
theorem dX10_man_5 : decode cX10_man 5 = .ok (.ifCond .ne 5, 3) := by decide +kernel
theorem dX10_man_8 : decode cX10_man 8 = .ok (.iconst (-1), 1) := by decide +kernel
theorem dX10_man_9 : decode cX10_man 9 = .ok (.ireturn, 1) := by decide +kernel
theorem dX10_man_10 : decode cX10_man 10 = .ok (.iload_n 2, 1) := by decide +kernel
theorem dX10_man_11 : decode cX10_man 11 = .ok (.tableswitch 99 0 5 #[37, 50, 63, 73, 83, 93], 37) := by decide +kernel
theorem dX10_man_48 : decode cX10_man 48 = .ok (.aload_n 0, 1) := by decide +kernel
theorem dX10_man_49 : decode cX10_man 49 = .ok (.getfield 16, 3) := by decide +kernel
theorem dX10_man_52 : decode cX10_man 52 = .ok (.getfield 154, 3) := by decide +kernel
theorem dX10_man_55 : decode cX10_man 55 = .ok (.iload_n 1, 1) := by decide +kernel
theorem dX10_man_56 : decode cX10_man 56 = .ok (.iconst 1, 1) := by decide +kernel
theorem dX10_man_57 : decode cX10_man 57 = .ok (.invokevirtual 198, 3) := by decide +kernel
theorem dX10_man_60 : decode cX10_man 60 = .ok (.ireturn, 1) := by decide +kernel
theorem dX10_man_61 : decode cX10_man 61 = .ok (.aload_n 0, 1) := by decide +kernel
theorem dX10_man_62 : decode cX10_man 62 = .ok (.getfield 16, 3) := by decide +kernel
theorem dX10_man_65 : decode cX10_man 65 = .ok (.getfield 154, 3) := by decide +kernel
theorem dX10_man_68 : decode cX10_man 68 = .ok (.iload_n 1, 1) := by decide +kernel
theorem dX10_man_69 : decode cX10_man 69 = .ok (.iconst 2, 1) := by decide +kernel
theorem dX10_man_70 : decode cX10_man 70 = .ok (.invokevirtual 198, 3) := by decide +kernel
theorem dX10_man_73 : decode cX10_man 73 = .ok (.ireturn, 1) := by decide +kernel
theorem dX10_man_74 : decode cX10_man 74 = .ok (.aload_n 0, 1) := by decide +kernel
theorem dX10_man_75 : decode cX10_man 75 = .ok (.getfield 72, 3) := by decide +kernel
theorem dX10_man_78 : decode cX10_man 78 = .ok (.getfield 204, 3) := by decide +kernel
theorem dX10_man_81 : decode cX10_man 81 = .ok (.iload_n 1, 1) := by decide +kernel
theorem dX10_man_82 : decode cX10_man 82 = .ok (.iaload, 1) := by decide +kernel
theorem dX10_man_83 : decode cX10_man 83 = .ok (.ireturn, 1) := by decide +kernel
theorem dX10_man_84 : decode cX10_man 84 = .ok (.aload_n 0, 1) := by decide +kernel
theorem dX10_man_85 : decode cX10_man 85 = .ok (.getfield 72, 3) := by decide +kernel
theorem dX10_man_88 : decode cX10_man 88 = .ok (.getfield 208, 3) := by decide +kernel
theorem dX10_man_91 : decode cX10_man 91 = .ok (.iload_n 1, 1) := by decide +kernel
theorem dX10_man_92 : decode cX10_man 92 = .ok (.iaload, 1) := by decide +kernel
theorem dX10_man_93 : decode cX10_man 93 = .ok (.ireturn, 1) := by decide +kernel
theorem dX10_man_94 : decode cX10_man 94 = .ok (.aload_n 0, 1) := by decide +kernel
theorem dX10_man_95 : decode cX10_man 95 = .ok (.getfield 72, 3) := by decide +kernel
theorem dX10_man_98 : decode cX10_man 98 = .ok (.getfield 211, 3) := by decide +kernel
theorem dX10_man_101 : decode cX10_man 101 = .ok (.iload_n 1, 1) := by decide +kernel
theorem dX10_man_102 : decode cX10_man 102 = .ok (.iaload, 1) := by decide +kernel
theorem dX10_man_103 : decode cX10_man 103 = .ok (.ireturn, 1) := by decide +kernel
theorem dX10_man_104 : decode cX10_man 104 = .ok (.aload_n 0, 1) := by decide +kernel
theorem dX10_man_105 : decode cX10_man 105 = .ok (.iload_n 1, 1) := by decide +kernel
theorem dX10_man_106 : decode cX10_man 106 = .ok (.invokevirtual 214, 3) := by decide +kernel
theorem dX10_man_109 : decode cX10_man 109 = .ok (.ireturn, 1) := by decide +kernel
theorem dX10_man_110 : decode cX10_man 110 = .ok (.iconst (-1), 1) := by decide +kernel
theorem dX10_man_111 : decode cX10_man 111 = .ok (.ireturn, 1) := by decide +kernel
theorem dX10_isMan_0 : decode cX10_isMan 0 = .ok (.iload_n 1, 1) := by decide +kernel
theorem dX10_isMan_1 : decode cX10_isMan 1 = .ok (.iconst 4, 1) := by decide +kernel
theorem dX10_isMan_2 : decode cX10_isMan 2 = .ok (.if_icmp .ge 21, 3) := by decide +kernel
theorem dX10_isMan_5 : decode cX10_isMan 5 = .ok (.aload_n 0, 1) := by decide +kernel
theorem dX10_isMan_6 : decode cX10_isMan 6 = .ok (.getfield 16, 3) := by decide +kernel
theorem dX10_isMan_9 : decode cX10_isMan 9 = .ok (.getfield 154, 3) := by decide +kernel
theorem dX10_isMan_12 : decode cX10_isMan 12 = .ok (.iload_n 1, 1) := by decide +kernel
theorem dX10_isMan_13 : decode cX10_isMan 13 = .ok (.invokevirtual 179, 3) := by decide +kernel
theorem dX10_isMan_16 : decode cX10_isMan 16 = .ok (.ifCond .eq 7, 3) := by decide +kernel
theorem dX10_isMan_19 : decode cX10_isMan 19 = .ok (.iconst 1, 1) := by decide +kernel
theorem dX10_isMan_20 : decode cX10_isMan 20 = .ok (.goto 4, 3) := by decide +kernel
theorem dX10_isMan_23 : decode cX10_isMan 23 = .ok (.iconst 0, 1) := by decide +kernel
theorem dX10_isMan_24 : decode cX10_isMan 24 = .ok (.ireturn, 1) := by decide +kernel
theorem dX10_engagedTo_0 : decode cX10_engagedTo 0 = .ok (.aload_n 0, 1) := by decide +kernel
theorem dX10_engagedTo_1 : decode cX10_engagedTo 1 = .ok (.getfield 72, 3) := by decide +kernel
theorem dX10_engagedTo_4 : decode cX10_engagedTo 4 = .ok (.getfield 204, 3) := by decide +kernel
theorem dX10_engagedTo_7 : decode cX10_engagedTo 7 = .ok (.iload_n 1, 1) := by decide +kernel
theorem dX10_engagedTo_8 : decode cX10_engagedTo 8 = .ok (.iaload, 1) := by decide +kernel
theorem dX10_engagedTo_9 : decode cX10_engagedTo 9 = .ok (.aload_n 0, 1) := by decide +kernel
theorem dX10_engagedTo_10 : decode cX10_engagedTo 10 = .ok (.getfield 72, 3) := by decide +kernel
theorem dX10_engagedTo_13 : decode cX10_engagedTo 13 = .ok (.getfield 208, 3) := by decide +kernel
theorem dX10_engagedTo_16 : decode cX10_engagedTo 16 = .ok (.iload_n 1, 1) := by decide +kernel
theorem dX10_engagedTo_17 : decode cX10_engagedTo 17 = .ok (.iaload, 1) := by decide +kernel
theorem dX10_engagedTo_18 : decode cX10_engagedTo 18 = .ok (.if_icmp .ne 6, 3) := by decide +kernel
theorem dX10_engagedTo_21 : decode cX10_engagedTo 21 = .ok (.bipush (-2), 2) := by decide +kernel
theorem dX10_engagedTo_23 : decode cX10_engagedTo 23 = .ok (.ireturn, 1) := by decide +kernel
theorem dX10_engagedTo_24 : decode cX10_engagedTo 24 = .ok (.aload_n 0, 1) := by decide +kernel
theorem dX10_engagedTo_25 : decode cX10_engagedTo 25 = .ok (.getfield 72, 3) := by decide +kernel
theorem dX10_engagedTo_28 : decode cX10_engagedTo 28 = .ok (.getfield 204, 3) := by decide +kernel
theorem dX10_engagedTo_31 : decode cX10_engagedTo 31 = .ok (.iload_n 1, 1) := by decide +kernel
theorem dX10_engagedTo_32 : decode cX10_engagedTo 32 = .ok (.iaload, 1) := by decide +kernel
theorem dX10_engagedTo_33 : decode cX10_engagedTo 33 = .ok (.aload_n 0, 1) := by decide +kernel
theorem dX10_engagedTo_34 : decode cX10_engagedTo 34 = .ok (.getfield 72, 3) := by decide +kernel
theorem dX10_engagedTo_37 : decode cX10_engagedTo 37 = .ok (.getfield 208, 3) := by decide +kernel
theorem dX10_engagedTo_40 : decode cX10_engagedTo 40 = .ok (.iload_n 1, 1) := by decide +kernel
theorem dX10_engagedTo_41 : decode cX10_engagedTo 41 = .ok (.iaload, 1) := by decide +kernel
theorem dX10_engagedTo_42 : decode cX10_engagedTo 42 = .ok (.if_icmp .le 7, 3) := by decide +kernel
theorem dX10_engagedTo_45 : decode cX10_engagedTo 45 = .ok (.iconst 0, 1) := by decide +kernel
theorem dX10_engagedTo_46 : decode cX10_engagedTo 46 = .ok (.goto 4, 3) := by decide +kernel
theorem dX10_engagedTo_49 : decode cX10_engagedTo 49 = .ok (.iconst 1, 1) := by decide +kernel
theorem dX10_engagedTo_50 : decode cX10_engagedTo 50 = .ok (.ireturn, 1) := by decide +kernel
theorem dX10_lamp_0 : decode cX10_lamp 0 = .ok (.aload_n 0, 1) := by decide +kernel
theorem dX10_lamp_1 : decode cX10_lamp 1 = .ok (.getfield 16, 3) := by decide +kernel
theorem dX10_lamp_4 : decode cX10_lamp 4 = .ok (.getfield 141, 3) := by decide +kernel
theorem dX10_lamp_7 : decode cX10_lamp 7 = .ok (.iload_n 1, 1) := by decide +kernel
theorem dX10_lamp_8 : decode cX10_lamp 8 = .ok (.invokevirtual 179, 3) := by decide +kernel
theorem dX10_lamp_11 : decode cX10_lamp 11 = .ok (.ifCond .eq 12, 3) := by decide +kernel
theorem dX10_lamp_14 : decode cX10_lamp 14 = .ok (.iload_n 2, 1) := by decide +kernel
theorem dX10_lamp_15 : decode cX10_lamp 15 = .ok (.ifCond .lt 8, 3) := by decide +kernel
theorem dX10_lamp_18 : decode cX10_lamp 18 = .ok (.iload_n 2, 1) := by decide +kernel
theorem dX10_lamp_19 : decode cX10_lamp 19 = .ok (.iconst 3, 1) := by decide +kernel
theorem dX10_lamp_20 : decode cX10_lamp 20 = .ok (.if_icmp .le 5, 3) := by decide +kernel
theorem dX10_lamp_23 : decode cX10_lamp 23 = .ok (.iconst (-1), 1) := by decide +kernel
theorem dX10_lamp_24 : decode cX10_lamp 24 = .ok (.ireturn, 1) := by decide +kernel
theorem dX10_lamp_25 : decode cX10_lamp 25 = .ok (.iload_n 2, 1) := by decide +kernel
theorem dX10_lamp_26 : decode cX10_lamp 26 = .ok (.iconst 3, 1) := by decide +kernel
theorem dX10_lamp_27 : decode cX10_lamp 27 = .ok (.if_icmp .ne 15, 3) := by decide +kernel
theorem dX10_lamp_30 : decode cX10_lamp 30 = .ok (.aload_n 0, 1) := by decide +kernel
theorem dX10_lamp_31 : decode cX10_lamp 31 = .ok (.getfield 72, 3) := by decide +kernel
theorem dX10_lamp_34 : decode cX10_lamp 34 = .ok (.getfield 218, 3) := by decide +kernel
theorem dX10_lamp_37 : decode cX10_lamp 37 = .ok (.iload_n 1, 1) := by decide +kernel
theorem dX10_lamp_38 : decode cX10_lamp 38 = .ok (.ishr, 1) := by decide +kernel
theorem dX10_lamp_39 : decode cX10_lamp 39 = .ok (.iconst 1, 1) := by decide +kernel
theorem dX10_lamp_40 : decode cX10_lamp 40 = .ok (.iand, 1) := by decide +kernel
theorem dX10_lamp_41 : decode cX10_lamp 41 = .ok (.ireturn, 1) := by decide +kernel
theorem dX10_lamp_42 : decode cX10_lamp 42 = .ok (.aload_n 0, 1) := by decide +kernel
theorem dX10_lamp_43 : decode cX10_lamp 43 = .ok (.getfield 16, 3) := by decide +kernel
theorem dX10_lamp_46 : decode cX10_lamp 46 = .ok (.getfield 141, 3) := by decide +kernel
theorem dX10_lamp_49 : decode cX10_lamp 49 = .ok (.iload_n 1, 1) := by decide +kernel
theorem dX10_lamp_50 : decode cX10_lamp 50 = .ok (.iconst 1, 1) := by decide +kernel
theorem dX10_lamp_51 : decode cX10_lamp 51 = .ok (.iload_n 2, 1) := by decide +kernel
theorem dX10_lamp_52 : decode cX10_lamp 52 = .ok (.iadd, 1) := by decide +kernel
theorem dX10_lamp_53 : decode cX10_lamp 53 = .ok (.invokevirtual 198, 3) := by decide +kernel
theorem dX10_lamp_56 : decode cX10_lamp 56 = .ok (.ireturn, 1) := by decide +kernel
theorem dX10_wall_0 : decode cX10_wall 0 = .ok (.aload_n 0, 1) := by decide +kernel
theorem dX10_wall_1 : decode cX10_wall 1 = .ok (.getfield 16, 3) := by decide +kernel
theorem dX10_wall_4 : decode cX10_wall 4 = .ok (.iload_n 1, 1) := by decide +kernel
theorem dX10_wall_5 : decode cX10_wall 5 = .ok (.iload_n 2, 1) := by decide +kernel
theorem dX10_wall_6 : decode cX10_wall 6 = .ok (.invokevirtual 221, 3) := by decide +kernel
theorem dX10_wall_9 : decode cX10_wall 9 = .ok (.ifCond .ne 5, 3) := by decide +kernel
theorem dX10_wall_12 : decode cX10_wall 12 = .ok (.iconst (-1), 1) := by decide +kernel
theorem dX10_wall_13 : decode cX10_wall 13 = .ok (.ireturn, 1) := by decide +kernel
theorem dX10_wall_14 : decode cX10_wall 14 = .ok (.aload_n 0, 1) := by decide +kernel
theorem dX10_wall_15 : decode cX10_wall 15 = .ok (.getfield 16, 3) := by decide +kernel
theorem dX10_wall_18 : decode cX10_wall 18 = .ok (.iload_n 1, 1) := by decide +kernel
theorem dX10_wall_19 : decode cX10_wall 19 = .ok (.iload_n 2, 1) := by decide +kernel
theorem dX10_wall_20 : decode cX10_wall 20 = .ok (.invokevirtual 225, 3) := by decide +kernel
theorem dX10_wall_23 : decode cX10_wall 23 = .ok (.ifCond .eq 7, 3) := by decide +kernel
theorem dX10_wall_26 : decode cX10_wall 26 = .ok (.iconst 1, 1) := by decide +kernel
theorem dX10_wall_27 : decode cX10_wall 27 = .ok (.goto 4, 3) := by decide +kernel
theorem dX10_wall_30 : decode cX10_wall 30 = .ok (.iconst 0, 1) := by decide +kernel
theorem dX10_wall_31 : decode cX10_wall 31 = .ok (.ireturn, 1) := by decide +kernel
theorem dX10_law_0 : decode cX10_law 0 = .ok (.iload_n 1, 1) := by decide +kernel
theorem dX10_law_1 : decode cX10_law 1 = .ok (.tableswitch 144 0 2 #[27, 67, 121], 27) := by decide +kernel
theorem dX10_law_28 : decode cX10_law 28 = .ok (.aload_n 0, 1) := by decide +kernel
theorem dX10_law_29 : decode cX10_law 29 = .ok (.getfield 35, 3) := by decide +kernel
theorem dX10_law_32 : decode cX10_law 32 = .ok (.aload_n 0, 1) := by decide +kernel
theorem dX10_law_33 : decode cX10_law 33 = .ok (.getfield 72, 3) := by decide +kernel
theorem dX10_law_36 : decode cX10_law 36 = .ok (.invokevirtual 157, 3) := by decide +kernel
theorem dX10_law_39 : decode cX10_law 39 = .ok (.aload_n 0, 1) := by decide +kernel
theorem dX10_law_40 : decode cX10_law 40 = .ok (.getfield 35, 3) := by decide +kernel
theorem dX10_law_43 : decode cX10_law 43 = .ok (.aload_n 0, 1) := by decide +kernel
theorem dX10_law_44 : decode cX10_law 44 = .ok (.getfield 72, 3) := by decide +kernel
theorem dX10_law_47 : decode cX10_law 47 = .ok (.aload_n 0, 1) := by decide +kernel
theorem dX10_law_48 : decode cX10_law 48 = .ok (.getfield 72, 3) := by decide +kernel
theorem dX10_law_51 : decode cX10_law 51 = .ok (.getfield 228, 3) := by decide +kernel
theorem dX10_law_54 : decode cX10_law 54 = .ok (.iconst 0, 1) := by decide +kernel
theorem dX10_law_55 : decode cX10_law 55 = .ok (.iconst 0, 1) := by decide +kernel
theorem dX10_law_56 : decode cX10_law 56 = .ok (.invokevirtual 231, 3) := by decide +kernel
theorem dX10_law_59 : decode cX10_law 59 = .ok (.aload_n 0, 1) := by decide +kernel
theorem dX10_law_60 : decode cX10_law 60 = .ok (.getfield 35, 3) := by decide +kernel
theorem dX10_law_63 : decode cX10_law 63 = .ok (.iconst 0, 1) := by decide +kernel
theorem dX10_law_64 : decode cX10_law 64 = .ok (.invokevirtual 235, 3) := by decide +kernel
theorem dX10_law_67 : decode cX10_law 67 = .ok (.lreturn, 1) := by decide +kernel
theorem dX10_law_68 : decode cX10_law 68 = .ok (.aload_n 0, 1) := by decide +kernel
theorem dX10_law_69 : decode cX10_law 69 = .ok (.iload_n 2, 1) := by decide +kernel
theorem dX10_law_70 : decode cX10_law 70 = .ok (.invokevirtual 201, 3) := by decide +kernel
theorem dX10_law_73 : decode cX10_law 73 = .ok (.ifCond .ne 7, 3) := by decide +kernel
theorem dX10_law_76 : decode cX10_law 76 = .ok (.ldc2_w 239, 3) := by decide +kernel
theorem dX10_law_79 : decode cX10_law 79 = .ok (.lreturn, 1) := by decide +kernel
theorem dX10_law_80 : decode cX10_law 80 = .ok (.aload_n 0, 1) := by decide +kernel
theorem dX10_law_81 : decode cX10_law 81 = .ok (.getfield 35, 3) := by decide +kernel
theorem dX10_law_84 : decode cX10_law 84 = .ok (.aload_n 0, 1) := by decide +kernel
theorem dX10_law_85 : decode cX10_law 85 = .ok (.getfield 72, 3) := by decide +kernel
theorem dX10_law_88 : decode cX10_law 88 = .ok (.iconst 0, 1) := by decide +kernel
theorem dX10_law_89 : decode cX10_law 89 = .ok (.aload_n 0, 1) := by decide +kernel
theorem dX10_law_90 : decode cX10_law 90 = .ok (.getfield 72, 3) := by decide +kernel
theorem dX10_law_93 : decode cX10_law 93 = .ok (.getfield 204, 3) := by decide +kernel
theorem dX10_law_96 : decode cX10_law 96 = .ok (.iload_n 2, 1) := by decide +kernel
theorem dX10_law_97 : decode cX10_law 97 = .ok (.iaload, 1) := by decide +kernel
theorem dX10_law_98 : decode cX10_law 98 = .ok (.aload_n 0, 1) := by decide +kernel
theorem dX10_law_99 : decode cX10_law 99 = .ok (.getfield 72, 3) := by decide +kernel
theorem dX10_law_102 : decode cX10_law 102 = .ok (.getfield 208, 3) := by decide +kernel
theorem dX10_law_105 : decode cX10_law 105 = .ok (.iload_n 2, 1) := by decide +kernel
theorem dX10_law_106 : decode cX10_law 106 = .ok (.iaload, 1) := by decide +kernel
theorem dX10_law_107 : decode cX10_law 107 = .ok (.invokestatic 241, 3) := by decide +kernel
theorem dX10_law_110 : decode cX10_law 110 = .ok (.invokevirtual 231, 3) := by decide +kernel
theorem dX10_law_113 : decode cX10_law 113 = .ok (.aload_n 0, 1) := by decide +kernel
theorem dX10_law_114 : decode cX10_law 114 = .ok (.getfield 35, 3) := by decide +kernel
theorem dX10_law_117 : decode cX10_law 117 = .ok (.iconst 1, 1) := by decide +kernel
theorem dX10_law_118 : decode cX10_law 118 = .ok (.invokevirtual 235, 3) := by decide +kernel
theorem dX10_law_121 : decode cX10_law 121 = .ok (.lreturn, 1) := by decide +kernel
theorem dX10_law_122 : decode cX10_law 122 = .ok (.aload_n 0, 1) := by decide +kernel
theorem dX10_law_123 : decode cX10_law 123 = .ok (.getfield 35, 3) := by decide +kernel
theorem dX10_law_126 : decode cX10_law 126 = .ok (.aload_n 0, 1) := by decide +kernel
theorem dX10_law_127 : decode cX10_law 127 = .ok (.getfield 72, 3) := by decide +kernel
theorem dX10_law_130 : decode cX10_law 130 = .ok (.iconst 0, 1) := by decide +kernel
theorem dX10_law_131 : decode cX10_law 131 = .ok (.iconst 0, 1) := by decide +kernel
theorem dX10_law_132 : decode cX10_law 132 = .ok (.iconst 0, 1) := by decide +kernel
theorem dX10_law_133 : decode cX10_law 133 = .ok (.invokevirtual 231, 3) := by decide +kernel
theorem dX10_law_136 : decode cX10_law 136 = .ok (.aload_n 0, 1) := by decide +kernel
theorem dX10_law_137 : decode cX10_law 137 = .ok (.getfield 35, 3) := by decide +kernel
theorem dX10_law_140 : decode cX10_law 140 = .ok (.iconst 2, 1) := by decide +kernel
theorem dX10_law_141 : decode cX10_law 141 = .ok (.invokevirtual 235, 3) := by decide +kernel
theorem dX10_law_144 : decode cX10_law 144 = .ok (.lreturn, 1) := by decide +kernel
theorem dX10_law_145 : decode cX10_law 145 = .ok (.ldc2_w 239, 3) := by decide +kernel
theorem dX10_law_148 : decode cX10_law 148 = .ok (.lreturn, 1) := by decide +kernel
theorem dX10_step_0 : decode cX10_step 0 = .ok (.iload_n 1, 1) := by decide +kernel
theorem dX10_step_1 : decode cX10_step 1 = .ok (.ifCond .lt 8, 3) := by decide +kernel
theorem dX10_step_4 : decode cX10_step 4 = .ok (.iload_n 1, 1) := by decide +kernel
theorem dX10_step_5 : decode cX10_step 5 = .ok (.iconst 4, 1) := by decide +kernel
theorem dX10_step_6 : decode cX10_step 6 = .ok (.if_icmp .lt 5, 3) := by decide +kernel
theorem dX10_step_9 : decode cX10_step 9 = .ok (.iconst (-1), 1) := by decide +kernel
theorem dX10_step_10 : decode cX10_step 10 = .ok (.ireturn, 1) := by decide +kernel
theorem dX10_step_11 : decode cX10_step 11 = .ok (.aload_n 0, 1) := by decide +kernel
theorem dX10_step_12 : decode cX10_step 12 = .ok (.getfield 35, 3) := by decide +kernel
theorem dX10_step_15 : decode cX10_step 15 = .ok (.aload_n 0, 1) := by decide +kernel
theorem dX10_step_16 : decode cX10_step 16 = .ok (.getfield 72, 3) := by decide +kernel
theorem dX10_step_19 : decode cX10_step 19 = .ok (.iload_n 1, 1) := by decide +kernel
theorem dX10_step_20 : decode cX10_step 20 = .ok (.iconst 0, 1) := by decide +kernel
theorem dX10_step_21 : decode cX10_step 21 = .ok (.invokevirtual 244, 3) := by decide +kernel
theorem dX10_step_24 : decode cX10_step 24 = .ok (.ifCond .ne 6, 3) := by decide +kernel
theorem dX10_step_27 : decode cX10_step 27 = .ok (.bipush (-2), 2) := by decide +kernel
theorem dX10_step_29 : decode cX10_step 29 = .ok (.ireturn, 1) := by decide +kernel
theorem dX10_step_30 : decode cX10_step 30 = .ok (.aload_n 0, 1) := by decide +kernel
theorem dX10_step_31 : decode cX10_step 31 = .ok (.getfield 58, 3) := by decide +kernel
theorem dX10_step_34 : decode cX10_step 34 = .ok (.aload_n 0, 1) := by decide +kernel
theorem dX10_step_35 : decode cX10_step 35 = .ok (.getfield 72, 3) := by decide +kernel
theorem dX10_step_38 : decode cX10_step 38 = .ok (.invokevirtual 248, 3) := by decide +kernel
theorem dX10_step_41 : decode cX10_step 41 = .ok (.aload_n 0, 1) := by decide +kernel
theorem dX10_step_42 : decode cX10_step 42 = .ok (.getfield 35, 3) := by decide +kernel
theorem dX10_step_45 : decode cX10_step 45 = .ok (.aload_n 0, 1) := by decide +kernel
theorem dX10_step_46 : decode cX10_step 46 = .ok (.getfield 72, 3) := by decide +kernel
theorem dX10_step_49 : decode cX10_step 49 = .ok (.iload_n 1, 1) := by decide +kernel
theorem dX10_step_50 : decode cX10_step 50 = .ok (.iconst 0, 1) := by decide +kernel
theorem dX10_step_51 : decode cX10_step 51 = .ok (.invokevirtual 251, 3) := by decide +kernel
theorem dX10_step_54 : decode cX10_step 54 = .ok (.aload_n 0, 1) := by decide +kernel
theorem dX10_step_55 : decode cX10_step 55 = .ok (.getfield 72, 3) := by decide +kernel
theorem dX10_step_58 : decode cX10_step 58 = .ok (.getfield 176, 3) := by decide +kernel
theorem dX10_step_61 : decode cX10_step 61 = .ok (.ireturn, 1) := by decide +kernel
theorem dX10_light_0 : decode cX10_light 0 = .ok (.aload_n 0, 1) := by decide +kernel
theorem dX10_light_1 : decode cX10_light 1 = .ok (.getfield 16, 3) := by decide +kernel
theorem dX10_light_4 : decode cX10_light 4 = .ok (.getfield 141, 3) := by decide +kernel
theorem dX10_light_7 : decode cX10_light 7 = .ok (.iload_n 1, 1) := by decide +kernel
theorem dX10_light_8 : decode cX10_light 8 = .ok (.invokevirtual 179, 3) := by decide +kernel
theorem dX10_light_11 : decode cX10_light 11 = .ok (.ifCond .eq 26, 3) := by decide +kernel
theorem dX10_light_14 : decode cX10_light 14 = .ok (.aload_n 0, 1) := by decide +kernel
theorem dX10_light_15 : decode cX10_light 15 = .ok (.getfield 72, 3) := by decide +kernel
theorem dX10_light_18 : decode cX10_light 18 = .ok (.getfield 218, 3) := by decide +kernel
theorem dX10_light_21 : decode cX10_light 21 = .ok (.iload_n 1, 1) := by decide +kernel
theorem dX10_light_22 : decode cX10_light 22 = .ok (.ishr, 1) := by decide +kernel
theorem dX10_light_23 : decode cX10_light 23 = .ok (.iconst 1, 1) := by decide +kernel
theorem dX10_light_24 : decode cX10_light 24 = .ok (.iand, 1) := by decide +kernel
theorem dX10_light_25 : decode cX10_light 25 = .ok (.iload_n 2, 1) := by decide +kernel
theorem dX10_light_26 : decode cX10_light 26 = .ok (.ifCond .eq 7, 3) := by decide +kernel
theorem dX10_light_29 : decode cX10_light 29 = .ok (.iconst 1, 1) := by decide +kernel
theorem dX10_light_30 : decode cX10_light 30 = .ok (.goto 4, 3) := by decide +kernel
theorem dX10_light_33 : decode cX10_light 33 = .ok (.iconst 0, 1) := by decide +kernel
theorem dX10_light_34 : decode cX10_light 34 = .ok (.if_icmp .ne 5, 3) := by decide +kernel
theorem dX10_light_37 : decode cX10_light 37 = .ok (.iconst 0, 1) := by decide +kernel
theorem dX10_light_38 : decode cX10_light 38 = .ok (.ireturn, 1) := by decide +kernel
theorem dX10_light_39 : decode cX10_light 39 = .ok (.aload_n 0, 1) := by decide +kernel
theorem dX10_light_40 : decode cX10_light 40 = .ok (.getfield 58, 3) := by decide +kernel
theorem dX10_light_43 : decode cX10_light 43 = .ok (.aload_n 0, 1) := by decide +kernel
theorem dX10_light_44 : decode cX10_light 44 = .ok (.getfield 72, 3) := by decide +kernel
theorem dX10_light_47 : decode cX10_light 47 = .ok (.invokevirtual 248, 3) := by decide +kernel
theorem dX10_light_50 : decode cX10_light 50 = .ok (.aload_n 0, 1) := by decide +kernel
theorem dX10_light_51 : decode cX10_light 51 = .ok (.getfield 72, 3) := by decide +kernel
theorem dX10_light_54 : decode cX10_light 54 = .ok (.dup, 1) := by decide +kernel
theorem dX10_light_55 : decode cX10_light 55 = .ok (.getfield 218, 3) := by decide +kernel
theorem dX10_light_58 : decode cX10_light 58 = .ok (.iconst 1, 1) := by decide +kernel
theorem dX10_light_59 : decode cX10_light 59 = .ok (.iload_n 1, 1) := by decide +kernel
theorem dX10_light_60 : decode cX10_light 60 = .ok (.ishl, 1) := by decide +kernel
theorem dX10_light_61 : decode cX10_light 61 = .ok (.ixor, 1) := by decide +kernel
theorem dX10_light_62 : decode cX10_light 62 = .ok (.putfield 218, 3) := by decide +kernel
theorem dX10_light_65 : decode cX10_light 65 = .ok (.iconst 1, 1) := by decide +kernel
theorem dX10_light_66 : decode cX10_light 66 = .ok (.ireturn, 1) := by decide +kernel
theorem dX10_again_0 : decode cX10_again 0 = .ok (.aload_n 0, 1) := by decide +kernel
theorem dX10_again_1 : decode cX10_again 1 = .ok (.getfield 16, 3) := by decide +kernel
theorem dX10_again_4 : decode cX10_again 4 = .ok (.getfield 151, 3) := by decide +kernel
theorem dX10_again_7 : decode cX10_again 7 = .ok (.iload_n 1, 1) := by decide +kernel
theorem dX10_again_8 : decode cX10_again 8 = .ok (.invokevirtual 179, 3) := by decide +kernel
theorem dX10_again_11 : decode cX10_again 11 = .ok (.ifCond .eq 17, 3) := by decide +kernel
theorem dX10_again_14 : decode cX10_again 14 = .ok (.aload_n 0, 1) := by decide +kernel
theorem dX10_again_15 : decode cX10_again 15 = .ok (.getfield 72, 3) := by decide +kernel
theorem dX10_again_18 : decode cX10_again 18 = .ok (.getfield 195, 3) := by decide +kernel
theorem dX10_again_21 : decode cX10_again 21 = .ok (.iload_n 1, 1) := by decide +kernel
theorem dX10_again_22 : decode cX10_again 22 = .ok (.ishr, 1) := by decide +kernel
theorem dX10_again_23 : decode cX10_again 23 = .ok (.iconst 1, 1) := by decide +kernel
theorem dX10_again_24 : decode cX10_again 24 = .ok (.iand, 1) := by decide +kernel
theorem dX10_again_25 : decode cX10_again 25 = .ok (.ifCond .ne 5, 3) := by decide +kernel
theorem dX10_again_28 : decode cX10_again 28 = .ok (.iconst 0, 1) := by decide +kernel
theorem dX10_again_29 : decode cX10_again 29 = .ok (.ireturn, 1) := by decide +kernel
theorem dX10_again_30 : decode cX10_again 30 = .ok (.aload_n 0, 1) := by decide +kernel
theorem dX10_again_31 : decode cX10_again 31 = .ok (.getfield 58, 3) := by decide +kernel
theorem dX10_again_34 : decode cX10_again 34 = .ok (.aload_n 0, 1) := by decide +kernel
theorem dX10_again_35 : decode cX10_again 35 = .ok (.getfield 72, 3) := by decide +kernel
theorem dX10_again_38 : decode cX10_again 38 = .ok (.invokevirtual 248, 3) := by decide +kernel
theorem dX10_again_41 : decode cX10_again 41 = .ok (.aload_n 0, 1) := by decide +kernel
theorem dX10_again_42 : decode cX10_again 42 = .ok (.getfield 72, 3) := by decide +kernel
theorem dX10_again_45 : decode cX10_again 45 = .ok (.dup, 1) := by decide +kernel
theorem dX10_again_46 : decode cX10_again 46 = .ok (.getfield 195, 3) := by decide +kernel
theorem dX10_again_49 : decode cX10_again 49 = .ok (.iconst 1, 1) := by decide +kernel
theorem dX10_again_50 : decode cX10_again 50 = .ok (.iload_n 1, 1) := by decide +kernel
theorem dX10_again_51 : decode cX10_again 51 = .ok (.ishl, 1) := by decide +kernel
theorem dX10_again_52 : decode cX10_again 52 = .ok (.ixor, 1) := by decide +kernel
theorem dX10_again_53 : decode cX10_again 53 = .ok (.putfield 195, 3) := by decide +kernel
theorem dX10_again_56 : decode cX10_again 56 = .ok (.iconst 1, 1) := by decide +kernel
theorem dX10_again_57 : decode cX10_again 57 = .ok (.ireturn, 1) := by decide +kernel
theorem dX10_go_0 : decode cX10_go 0 = .ok (.iload_n 1, 1) := by decide +kernel
theorem dX10_go_1 : decode cX10_go 1 = .ok (.invokestatic 255, 3) := by decide +kernel
theorem dX10_go_4 : decode cX10_go 4 = .ok (.ifCond .eq 18, 3) := by decide +kernel
theorem dX10_go_7 : decode cX10_go 7 = .ok (.aload_n 0, 1) := by decide +kernel
theorem dX10_go_8 : decode cX10_go 8 = .ok (.getfield 72, 3) := by decide +kernel
theorem dX10_go_11 : decode cX10_go 11 = .ok (.getfield 258, 3) := by decide +kernel
theorem dX10_go_14 : decode cX10_go 14 = .ok (.iload_n 1, 1) := by decide +kernel
theorem dX10_go_15 : decode cX10_go 15 = .ok (.iadd, 1) := by decide +kernel
theorem dX10_go_16 : decode cX10_go 16 = .ok (.sipush 9900, 3) := by decide +kernel
theorem dX10_go_19 : decode cX10_go 19 = .ok (.if_icmp .le 5, 3) := by decide +kernel
theorem dX10_go_22 : decode cX10_go 22 = .ok (.iconst (-1), 1) := by decide +kernel
theorem dX10_go_23 : decode cX10_go 23 = .ok (.ireturn, 1) := by decide +kernel
theorem dX10_go_24 : decode cX10_go 24 = .ok (.iload_n 1, 1) := by decide +kernel
theorem dX10_go_25 : decode cX10_go 25 = .ok (.ifCond .le 10, 3) := by decide +kernel
theorem dX10_go_28 : decode cX10_go 28 = .ok (.aload_n 0, 1) := by decide +kernel
theorem dX10_go_29 : decode cX10_go 29 = .ok (.getfield 58, 3) := by decide +kernel
theorem dX10_go_32 : decode cX10_go 32 = .ok (.invokevirtual 137, 3) := by decide +kernel
theorem dX10_go_35 : decode cX10_go 35 = .ok (.aload_n 0, 1) := by decide +kernel
theorem dX10_go_36 : decode cX10_go 36 = .ok (.getfield 35, 3) := by decide +kernel
theorem dX10_go_39 : decode cX10_go 39 = .ok (.aload_n 0, 1) := by decide +kernel
theorem dX10_go_40 : decode cX10_go 40 = .ok (.getfield 72, 3) := by decide +kernel
theorem dX10_go_43 : decode cX10_go 43 = .ok (.iload_n 1, 1) := by decide +kernel
theorem dX10_go_44 : decode cX10_go 44 = .ok (.iconst 1, 1) := by decide +kernel
theorem dX10_go_45 : decode cX10_go 45 = .ok (.invokevirtual 261, 3) := by decide +kernel
theorem dX10_go_48 : decode cX10_go 48 = .ok (.aload_n 0, 1) := by decide +kernel
theorem dX10_go_49 : decode cX10_go 49 = .ok (.getfield 72, 3) := by decide +kernel
theorem dX10_go_52 : decode cX10_go 52 = .ok (.getfield 258, 3) := by decide +kernel
theorem dX10_go_55 : decode cX10_go 55 = .ok (.ireturn, 1) := by decide +kernel
theorem dX10_areHours_0 : decode cX10_areHours 0 = .ok (.iload_n 0, 1) := by decide +kernel
theorem dX10_areHours_1 : decode cX10_areHours 1 = .ok (.ifCond .lt 13, 3) := by decide +kernel
theorem dX10_areHours_4 : decode cX10_areHours 4 = .ok (.iload_n 0, 1) := by decide +kernel
theorem dX10_areHours_5 : decode cX10_areHours 5 = .ok (.bipush 99, 2) := by decide +kernel
theorem dX10_areHours_7 : decode cX10_areHours 7 = .ok (.if_icmp .gt 7, 3) := by decide +kernel
theorem dX10_areHours_10 : decode cX10_areHours 10 = .ok (.iconst 1, 1) := by decide +kernel
theorem dX10_areHours_11 : decode cX10_areHours 11 = .ok (.goto 4, 3) := by decide +kernel
theorem dX10_areHours_14 : decode cX10_areHours 14 = .ok (.iconst 0, 1) := by decide +kernel
theorem dX10_areHours_15 : decode cX10_areHours 15 = .ok (.ireturn, 1) := by decide +kernel
theorem dX10_ahead_0 : decode cX10_ahead 0 = .ok (.iload_n 1, 1) := by decide +kernel
theorem dX10_ahead_1 : decode cX10_ahead 1 = .ok (.invokestatic 255, 3) := by decide +kernel
theorem dX10_ahead_4 : decode cX10_ahead 4 = .ok (.ifCond .eq 12, 3) := by decide +kernel
theorem dX10_ahead_7 : decode cX10_ahead 7 = .ok (.iload_n 2, 1) := by decide +kernel
theorem dX10_ahead_8 : decode cX10_ahead 8 = .ok (.ifCond .lt 8, 3) := by decide +kernel
theorem dX10_ahead_11 : decode cX10_ahead 11 = .ok (.iload_n 2, 1) := by decide +kernel
theorem dX10_ahead_12 : decode cX10_ahead 12 = .ok (.iconst 4, 1) := by decide +kernel
theorem dX10_ahead_13 : decode cX10_ahead 13 = .ok (.if_icmp .le 5, 3) := by decide +kernel
theorem dX10_ahead_16 : decode cX10_ahead 16 = .ok (.iconst (-1), 1) := by decide +kernel
theorem dX10_ahead_17 : decode cX10_ahead 17 = .ok (.ireturn, 1) := by decide +kernel
theorem dX10_ahead_18 : decode cX10_ahead 18 = .ok (.aload_n 0, 1) := by decide +kernel
theorem dX10_ahead_19 : decode cX10_ahead 19 = .ok (.getfield 79, 3) := by decide +kernel
theorem dX10_ahead_22 : decode cX10_ahead 22 = .ok (.aload_n 0, 1) := by decide +kernel
theorem dX10_ahead_23 : decode cX10_ahead 23 = .ok (.getfield 72, 3) := by decide +kernel
theorem dX10_ahead_26 : decode cX10_ahead 26 = .ok (.invokevirtual 264, 3) := by decide +kernel
theorem dX10_ahead_29 : decode cX10_ahead 29 = .ok (.aload_n 0, 1) := by decide +kernel
theorem dX10_ahead_30 : decode cX10_ahead 30 = .ok (.getfield 35, 3) := by decide +kernel
theorem dX10_ahead_33 : decode cX10_ahead 33 = .ok (.aload_n 0, 1) := by decide +kernel
theorem dX10_ahead_34 : decode cX10_ahead 34 = .ok (.getfield 79, 3) := by decide +kernel
theorem dX10_ahead_37 : decode cX10_ahead 37 = .ok (.iload_n 1, 1) := by decide +kernel
theorem dX10_ahead_38 : decode cX10_ahead 38 = .ok (.iconst 0, 1) := by decide +kernel
theorem dX10_ahead_39 : decode cX10_ahead 39 = .ok (.invokevirtual 261, 3) := by decide +kernel
theorem dX10_ahead_42 : decode cX10_ahead 42 = .ok (.iload_n 2, 1) := by decide +kernel
theorem dX10_ahead_43 : decode cX10_ahead 43 = .ok (.tableswitch 113 0 3 #[29, 51, 81, 97], 29) := by decide +kernel
theorem dX10_ahead_72 : decode cX10_ahead 72 = .ok (.aload_n 0, 1) := by decide +kernel
theorem dX10_ahead_73 : decode cX10_ahead 73 = .ok (.getfield 79, 3) := by decide +kernel
theorem dX10_ahead_76 : decode cX10_ahead 76 = .ok (.getfield 195, 3) := by decide +kernel
theorem dX10_ahead_79 : decode cX10_ahead 79 = .ok (.invokestatic 267, 3) := by decide +kernel
theorem dX10_ahead_82 : decode cX10_ahead 82 = .ok (.aload_n 0, 1) := by decide +kernel
theorem dX10_ahead_83 : decode cX10_ahead 83 = .ok (.getfield 72, 3) := by decide +kernel
theorem dX10_ahead_86 : decode cX10_ahead 86 = .ok (.getfield 195, 3) := by decide +kernel
theorem dX10_ahead_89 : decode cX10_ahead 89 = .ok (.invokestatic 267, 3) := by decide +kernel
theorem dX10_ahead_92 : decode cX10_ahead 92 = .ok (.isub, 1) := by decide +kernel
theorem dX10_ahead_93 : decode cX10_ahead 93 = .ok (.ireturn, 1) := by decide +kernel
theorem dX10_ahead_94 : decode cX10_ahead 94 = .ok (.aload_n 0, 1) := by decide +kernel
theorem dX10_ahead_95 : decode cX10_ahead 95 = .ok (.getfield 16, 3) := by decide +kernel
theorem dX10_ahead_98 : decode cX10_ahead 98 = .ok (.aload_n 0, 1) := by decide +kernel
theorem dX10_ahead_99 : decode cX10_ahead 99 = .ok (.getfield 79, 3) := by decide +kernel
theorem dX10_ahead_102 : decode cX10_ahead 102 = .ok (.getfield 195, 3) := by decide +kernel
theorem dX10_ahead_105 : decode cX10_ahead 105 = .ok (.invokevirtual 272, 3) := by decide +kernel
theorem dX10_ahead_108 : decode cX10_ahead 108 = .ok (.aload_n 0, 1) := by decide +kernel
theorem dX10_ahead_109 : decode cX10_ahead 109 = .ok (.getfield 16, 3) := by decide +kernel
theorem dX10_ahead_112 : decode cX10_ahead 112 = .ok (.aload_n 0, 1) := by decide +kernel
theorem dX10_ahead_113 : decode cX10_ahead 113 = .ok (.getfield 72, 3) := by decide +kernel
theorem dX10_ahead_116 : decode cX10_ahead 116 = .ok (.getfield 195, 3) := by decide +kernel
theorem dX10_ahead_119 : decode cX10_ahead 119 = .ok (.invokevirtual 272, 3) := by decide +kernel
theorem dX10_ahead_122 : decode cX10_ahead 122 = .ok (.isub, 1) := by decide +kernel
theorem dX10_ahead_123 : decode cX10_ahead 123 = .ok (.ireturn, 1) := by decide +kernel
theorem dX10_ahead_124 : decode cX10_ahead 124 = .ok (.aload_n 0, 1) := by decide +kernel
theorem dX10_ahead_125 : decode cX10_ahead 125 = .ok (.getfield 79, 3) := by decide +kernel
theorem dX10_ahead_128 : decode cX10_ahead 128 = .ok (.getfield 275, 3) := by decide +kernel
theorem dX10_ahead_131 : decode cX10_ahead 131 = .ok (.aload_n 0, 1) := by decide +kernel
theorem dX10_ahead_132 : decode cX10_ahead 132 = .ok (.getfield 72, 3) := by decide +kernel
theorem dX10_ahead_135 : decode cX10_ahead 135 = .ok (.getfield 275, 3) := by decide +kernel
theorem dX10_ahead_138 : decode cX10_ahead 138 = .ok (.isub, 1) := by decide +kernel
theorem dX10_ahead_139 : decode cX10_ahead 139 = .ok (.ireturn, 1) := by decide +kernel
theorem dX10_ahead_140 : decode cX10_ahead 140 = .ok (.aload_n 0, 1) := by decide +kernel
theorem dX10_ahead_141 : decode cX10_ahead 141 = .ok (.getfield 79, 3) := by decide +kernel
theorem dX10_ahead_144 : decode cX10_ahead 144 = .ok (.invokevirtual 278, 3) := by decide +kernel
theorem dX10_ahead_147 : decode cX10_ahead 147 = .ok (.aload_n 0, 1) := by decide +kernel
theorem dX10_ahead_148 : decode cX10_ahead 148 = .ok (.getfield 72, 3) := by decide +kernel
theorem dX10_ahead_151 : decode cX10_ahead 151 = .ok (.invokevirtual 278, 3) := by decide +kernel
theorem dX10_ahead_154 : decode cX10_ahead 154 = .ok (.isub, 1) := by decide +kernel
theorem dX10_ahead_155 : decode cX10_ahead 155 = .ok (.ireturn, 1) := by decide +kernel
theorem dX10_ahead_156 : decode cX10_ahead 156 = .ok (.aload_n 0, 1) := by decide +kernel
theorem dX10_ahead_157 : decode cX10_ahead 157 = .ok (.getfield 79, 3) := by decide +kernel
theorem dX10_ahead_160 : decode cX10_ahead 160 = .ok (.getfield 282, 3) := by decide +kernel
theorem dX10_ahead_163 : decode cX10_ahead 163 = .ok (.aload_n 0, 1) := by decide +kernel
theorem dX10_ahead_164 : decode cX10_ahead 164 = .ok (.getfield 72, 3) := by decide +kernel
theorem dX10_ahead_167 : decode cX10_ahead 167 = .ok (.getfield 282, 3) := by decide +kernel
theorem dX10_ahead_170 : decode cX10_ahead 170 = .ok (.isub, 1) := by decide +kernel
theorem dX10_ahead_171 : decode cX10_ahead 171 = .ok (.ireturn, 1) := by decide +kernel
theorem dX10_when_0 : decode cX10_when 0 = .ok (.aload_n 0, 1) := by decide +kernel
theorem dX10_when_1 : decode cX10_when 1 = .ok (.getfield 16, 3) := by decide +kernel
theorem dX10_when_4 : decode cX10_when 4 = .ok (.getfield 151, 3) := by decide +kernel
theorem dX10_when_7 : decode cX10_when 7 = .ok (.iload_n 1, 1) := by decide +kernel
theorem dX10_when_8 : decode cX10_when 8 = .ok (.invokevirtual 179, 3) := by decide +kernel
theorem dX10_when_11 : decode cX10_when 11 = .ok (.ifCond .ne 5, 3) := by decide +kernel
theorem dX10_when_14 : decode cX10_when 14 = .ok (.iconst (-1), 1) := by decide +kernel
theorem dX10_when_15 : decode cX10_when 15 = .ok (.ireturn, 1) := by decide +kernel
theorem dX10_when_16 : decode cX10_when 16 = .ok (.aload_n 0, 1) := by decide +kernel
theorem dX10_when_17 : decode cX10_when 17 = .ok (.getfield 79, 3) := by decide +kernel
theorem dX10_when_20 : decode cX10_when 20 = .ok (.aload_n 0, 1) := by decide +kernel
theorem dX10_when_21 : decode cX10_when 21 = .ok (.getfield 72, 3) := by decide +kernel
theorem dX10_when_24 : decode cX10_when 24 = .ok (.invokevirtual 264, 3) := by decide +kernel
theorem dX10_when_27 : decode cX10_when 27 = .ok (.iconst 0, 1) := by decide +kernel
theorem dX10_when_28 : decode cX10_when 28 = .ok (.istore_n 2, 1) := by decide +kernel
theorem dX10_when_29 : decode cX10_when 29 = .ok (.iload_n 2, 1) := by decide +kernel
theorem dX10_when_30 : decode cX10_when 30 = .ok (.bipush 99, 2) := by decide +kernel
theorem dX10_when_32 : decode cX10_when 32 = .ok (.if_icmp .gt 38, 3) := by decide +kernel
theorem dX10_when_35 : decode cX10_when 35 = .ok (.aload_n 0, 1) := by decide +kernel
theorem dX10_when_36 : decode cX10_when 36 = .ok (.getfield 79, 3) := by decide +kernel
theorem dX10_when_39 : decode cX10_when 39 = .ok (.getfield 195, 3) := by decide +kernel
theorem dX10_when_42 : decode cX10_when 42 = .ok (.iload_n 1, 1) := by decide +kernel
theorem dX10_when_43 : decode cX10_when 43 = .ok (.ishr, 1) := by decide +kernel
theorem dX10_when_44 : decode cX10_when 44 = .ok (.iconst 1, 1) := by decide +kernel
theorem dX10_when_45 : decode cX10_when 45 = .ok (.iand, 1) := by decide +kernel
theorem dX10_when_46 : decode cX10_when 46 = .ok (.iconst 1, 1) := by decide +kernel
theorem dX10_when_47 : decode cX10_when 47 = .ok (.if_icmp .ne 5, 3) := by decide +kernel
theorem dX10_when_50 : decode cX10_when 50 = .ok (.iload_n 2, 1) := by decide +kernel
theorem dX10_when_51 : decode cX10_when 51 = .ok (.ireturn, 1) := by decide +kernel
theorem dX10_when_52 : decode cX10_when 52 = .ok (.aload_n 0, 1) := by decide +kernel
theorem dX10_when_53 : decode cX10_when 53 = .ok (.getfield 35, 3) := by decide +kernel
theorem dX10_when_56 : decode cX10_when 56 = .ok (.aload_n 0, 1) := by decide +kernel
theorem dX10_when_57 : decode cX10_when 57 = .ok (.getfield 79, 3) := by decide +kernel
theorem dX10_when_60 : decode cX10_when 60 = .ok (.iconst 0, 1) := by decide +kernel
theorem dX10_when_61 : decode cX10_when 61 = .ok (.invokevirtual 285, 3) := by decide +kernel
theorem dX10_when_64 : decode cX10_when 64 = .ok (.iinc 2 1, 3) := by decide +kernel
theorem dX10_when_67 : decode cX10_when 67 = .ok (.goto (-38), 3) := by decide +kernel
theorem dX10_when_70 : decode cX10_when 70 = .ok (.bipush (-2), 2) := by decide +kernel
theorem dX10_when_72 : decode cX10_when 72 = .ok (.ireturn, 1) := by decide +kernel
theorem dX10_way_0 : decode cX10_way 0 = .ok (.aload_n 0, 1) := by decide +kernel
theorem dX10_way_1 : decode cX10_way 1 = .ok (.getfield 16, 3) := by decide +kernel
theorem dX10_way_4 : decode cX10_way 4 = .ok (.iload_n 1, 1) := by decide +kernel
theorem dX10_way_5 : decode cX10_way 5 = .ok (.iload_n 2, 1) := by decide +kernel
theorem dX10_way_6 : decode cX10_way 6 = .ok (.invokevirtual 221, 3) := by decide +kernel
theorem dX10_way_9 : decode cX10_way 9 = .ok (.ifCond .ne 5, 3) := by decide +kernel
theorem dX10_way_12 : decode cX10_way 12 = .ok (.iconst (-1), 1) := by decide +kernel
theorem dX10_way_13 : decode cX10_way 13 = .ok (.ireturn, 1) := by decide +kernel
theorem dX10_way_14 : decode cX10_way 14 = .ok (.aload_n 0, 1) := by decide +kernel
theorem dX10_way_15 : decode cX10_way 15 = .ok (.getfield 51, 3) := by decide +kernel
theorem dX10_way_18 : decode cX10_way 18 = .ok (.aload_n 0, 1) := by decide +kernel
theorem dX10_way_19 : decode cX10_way 19 = .ok (.getfield 16, 3) := by decide +kernel
theorem dX10_way_22 : decode cX10_way 22 = .ok (.aload_n 0, 1) := by decide +kernel
theorem dX10_way_23 : decode cX10_way 23 = .ok (.getfield 72, 3) := by decide +kernel
theorem dX10_way_26 : decode cX10_way 26 = .ok (.getfield 161, 3) := by decide +kernel
theorem dX10_way_29 : decode cX10_way 29 = .ok (.bipush 8, 2) := by decide +kernel
theorem dX10_way_31 : decode cX10_way 31 = .ok (.imul, 1) := by decide +kernel
theorem dX10_way_32 : decode cX10_way 32 = .ok (.aload_n 0, 1) := by decide +kernel
theorem dX10_way_33 : decode cX10_way 33 = .ok (.getfield 72, 3) := by decide +kernel
theorem dX10_way_36 : decode cX10_way 36 = .ok (.getfield 164, 3) := by decide +kernel
theorem dX10_way_39 : decode cX10_way 39 = .ok (.iadd, 1) := by decide +kernel
theorem dX10_way_40 : decode cX10_way 40 = .ok (.iload_n 1, 1) := by decide +kernel
theorem dX10_way_41 : decode cX10_way 41 = .ok (.bipush 8, 2) := by decide +kernel
theorem dX10_way_43 : decode cX10_way 43 = .ok (.imul, 1) := by decide +kernel
theorem dX10_way_44 : decode cX10_way 44 = .ok (.iload_n 2, 1) := by decide +kernel
theorem dX10_way_45 : decode cX10_way 45 = .ok (.iadd, 1) := by decide +kernel
theorem dX10_way_46 : decode cX10_way 46 = .ok (.invokevirtual 289, 3) := by decide +kernel
theorem dX10_way_49 : decode cX10_way 49 = .ok (.istore_n 3, 1) := by decide +kernel
theorem dX10_way_50 : decode cX10_way 50 = .ok (.iload_n 3, 1) := by decide +kernel
theorem dX10_way_51 : decode cX10_way 51 = .ok (.iconst (-1), 1) := by decide +kernel
theorem dX10_way_52 : decode cX10_way 52 = .ok (.if_icmp .ne 8, 3) := by decide +kernel
theorem dX10_way_55 : decode cX10_way 55 = .ok (.bipush (-2), 2) := by decide +kernel
theorem dX10_way_57 : decode cX10_way 57 = .ok (.goto 4, 3) := by decide +kernel
theorem dX10_way_60 : decode cX10_way 60 = .ok (.iload_n 3, 1) := by decide +kernel
theorem dX10_way_61 : decode cX10_way 61 = .ok (.ireturn, 1) := by decide +kernel
theorem dX10_cast_0 : decode cX10_cast 0 = .ok (.aload_n 0, 1) := by decide +kernel
theorem dX10_cast_1 : decode cX10_cast 1 = .ok (.getfield 16, 3) := by decide +kernel
theorem dX10_cast_4 : decode cX10_cast 4 = .ok (.iload_n 1, 1) := by decide +kernel
theorem dX10_cast_5 : decode cX10_cast 5 = .ok (.iload_n 2, 1) := by decide +kernel
theorem dX10_cast_6 : decode cX10_cast 6 = .ok (.invokevirtual 221, 3) := by decide +kernel
theorem dX10_cast_9 : decode cX10_cast 9 = .ok (.ifCond .eq 13, 3) := by decide +kernel
theorem dX10_cast_12 : decode cX10_cast 12 = .ok (.iload_n 3, 1) := by decide +kernel
theorem dX10_cast_13 : decode cX10_cast 13 = .ok (.ifCond .lt 9, 3) := by decide +kernel
theorem dX10_cast_16 : decode cX10_cast 16 = .ok (.iload_n 3, 1) := by decide +kernel
theorem dX10_cast_17 : decode cX10_cast 17 = .ok (.bipush 24, 2) := by decide +kernel
theorem dX10_cast_19 : decode cX10_cast 19 = .ok (.if_icmp .lt 5, 3) := by decide +kernel
theorem dX10_cast_22 : decode cX10_cast 22 = .ok (.iconst (-1), 1) := by decide +kernel
theorem dX10_cast_23 : decode cX10_cast 23 = .ok (.ireturn, 1) := by decide +kernel
theorem dX10_cast_24 : decode cX10_cast 24 = .ok (.aload_n 0, 1) := by decide +kernel
theorem dX10_cast_25 : decode cX10_cast 25 = .ok (.getfield 79, 3) := by decide +kernel
theorem dX10_cast_28 : decode cX10_cast 28 = .ok (.aload_n 0, 1) := by decide +kernel
theorem dX10_cast_29 : decode cX10_cast 29 = .ok (.getfield 72, 3) := by decide +kernel
theorem dX10_cast_32 : decode cX10_cast 32 = .ok (.invokevirtual 264, 3) := by decide +kernel
theorem dX10_cast_35 : decode cX10_cast 35 = .ok (.aload_n 0, 1) := by decide +kernel
theorem dX10_cast_36 : decode cX10_cast 36 = .ok (.getfield 79, 3) := by decide +kernel
theorem dX10_cast_39 : decode cX10_cast 39 = .ok (.iload_n 3, 1) := by decide +kernel
theorem dX10_cast_40 : decode cX10_cast 40 = .ok (.putfield 258, 3) := by decide +kernel
theorem dX10_cast_43 : decode cX10_cast 43 = .ok (.iconst 0, 1) := by decide +kernel
theorem dX10_cast_44 : decode cX10_cast 44 = .ok (.istore 4, 2) := by decide +kernel
theorem dX10_cast_46 : decode cX10_cast 46 = .ok (.iconst 0, 1) := by decide +kernel
theorem dX10_cast_47 : decode cX10_cast 47 = .ok (.istore 5, 2) := by decide +kernel
theorem dX10_cast_49 : decode cX10_cast 49 = .ok (.iload 5, 2) := by decide +kernel
theorem dX10_cast_51 : decode cX10_cast 51 = .ok (.aload_n 0, 1) := by decide +kernel
theorem dX10_cast_52 : decode cX10_cast 52 = .ok (.getfield 16, 3) := by decide +kernel
theorem dX10_cast_55 : decode cX10_cast 55 = .ok (.getfield 293, 3) := by decide +kernel
theorem dX10_cast_58 : decode cX10_cast 58 = .ok (.if_icmp .ge 75, 3) := by decide +kernel
theorem dX10_cast_61 : decode cX10_cast 61 = .ok (.iconst 0, 1) := by decide +kernel
theorem dX10_cast_62 : decode cX10_cast 62 = .ok (.istore 6, 2) := by decide +kernel
theorem dX10_cast_64 : decode cX10_cast 64 = .ok (.iload 6, 2) := by decide +kernel
theorem dX10_cast_66 : decode cX10_cast 66 = .ok (.aload_n 0, 1) := by decide +kernel
theorem dX10_cast_67 : decode cX10_cast 67 = .ok (.getfield 16, 3) := by decide +kernel
theorem dX10_cast_70 : decode cX10_cast 70 = .ok (.getfield 296, 3) := by decide +kernel
theorem dX10_cast_73 : decode cX10_cast 73 = .ok (.if_icmp .ge 54, 3) := by decide +kernel
theorem dX10_cast_76 : decode cX10_cast 76 = .ok (.aload_n 0, 1) := by decide +kernel
theorem dX10_cast_77 : decode cX10_cast 77 = .ok (.getfield 79, 3) := by decide +kernel
theorem dX10_cast_80 : decode cX10_cast 80 = .ok (.iload 5, 2) := by decide +kernel
theorem dX10_cast_82 : decode cX10_cast 82 = .ok (.putfield 161, 3) := by decide +kernel
theorem dX10_cast_85 : decode cX10_cast 85 = .ok (.aload_n 0, 1) := by decide +kernel
theorem dX10_cast_86 : decode cX10_cast 86 = .ok (.getfield 79, 3) := by decide +kernel
theorem dX10_cast_89 : decode cX10_cast 89 = .ok (.iload 6, 2) := by decide +kernel
theorem dX10_cast_91 : decode cX10_cast 91 = .ok (.putfield 164, 3) := by decide +kernel
theorem dX10_cast_94 : decode cX10_cast 94 = .ok (.aload_n 0, 1) := by decide +kernel
theorem dX10_cast_95 : decode cX10_cast 95 = .ok (.getfield 16, 3) := by decide +kernel
theorem dX10_cast_98 : decode cX10_cast 98 = .ok (.iload 5, 2) := by decide +kernel
theorem dX10_cast_100 : decode cX10_cast 100 = .ok (.iload 6, 2) := by decide +kernel
theorem dX10_cast_102 : decode cX10_cast 102 = .ok (.invokevirtual 225, 3) := by decide +kernel
theorem dX10_cast_105 : decode cX10_cast 105 = .ok (.ifCond .ne 16, 3) := by decide +kernel
theorem dX10_cast_108 : decode cX10_cast 108 = .ok (.aload_n 0, 1) := by decide +kernel
theorem dX10_cast_109 : decode cX10_cast 109 = .ok (.iload_n 1, 1) := by decide +kernel
theorem dX10_cast_110 : decode cX10_cast 110 = .ok (.iload_n 2, 1) := by decide +kernel
theorem dX10_cast_111 : decode cX10_cast 111 = .ok (.iconst 0, 1) := by decide +kernel
theorem dX10_cast_112 : decode cX10_cast 112 = .ok (.invokevirtual 299, 3) := by decide +kernel
theorem dX10_cast_115 : decode cX10_cast 115 = .ok (.ifCond .eq 6, 3) := by decide +kernel
theorem dX10_cast_118 : decode cX10_cast 118 = .ok (.iinc 4 1, 3) := by decide +kernel
theorem dX10_cast_121 : decode cX10_cast 121 = .ok (.iinc 6 1, 3) := by decide +kernel
theorem dX10_cast_124 : decode cX10_cast 124 = .ok (.goto (-60), 3) := by decide +kernel
theorem dX10_cast_127 : decode cX10_cast 127 = .ok (.iinc 5 1, 3) := by decide +kernel
theorem dX10_cast_130 : decode cX10_cast 130 = .ok (.goto (-81), 3) := by decide +kernel
theorem dX10_cast_133 : decode cX10_cast 133 = .ok (.iload 4, 2) := by decide +kernel
theorem dX10_cast_135 : decode cX10_cast 135 = .ok (.ireturn, 1) := by decide +kernel
theorem dX10_fallsOn_0 : decode cX10_fallsOn 0 = .ok (.aload_n 0, 1) := by decide +kernel
theorem dX10_fallsOn_1 : decode cX10_fallsOn 1 = .ok (.getfield 35, 3) := by decide +kernel
theorem dX10_fallsOn_4 : decode cX10_fallsOn 4 = .ok (.aload_n 0, 1) := by decide +kernel
theorem dX10_fallsOn_5 : decode cX10_fallsOn 5 = .ok (.getfield 79, 3) := by decide +kernel
theorem dX10_fallsOn_8 : decode cX10_fallsOn 8 = .ok (.iconst 0, 1) := by decide +kernel
theorem dX10_fallsOn_9 : decode cX10_fallsOn 9 = .ok (.iload_n 3, 1) := by decide +kernel
theorem dX10_fallsOn_10 : decode cX10_fallsOn 10 = .ok (.invokevirtual 303, 3) := by decide +kernel
theorem dX10_fallsOn_13 : decode cX10_fallsOn 13 = .ok (.aload_n 0, 1) := by decide +kernel
theorem dX10_fallsOn_14 : decode cX10_fallsOn 14 = .ok (.getfield 79, 3) := by decide +kernel
theorem dX10_fallsOn_17 : decode cX10_fallsOn 17 = .ok (.getfield 173, 3) := by decide +kernel
theorem dX10_fallsOn_20 : decode cX10_fallsOn 20 = .ok (.ifCond .ne 29, 3) := by decide +kernel
theorem dX10_fallsOn_23 : decode cX10_fallsOn 23 = .ok (.aload_n 0, 1) := by decide +kernel
theorem dX10_fallsOn_24 : decode cX10_fallsOn 24 = .ok (.getfield 79, 3) := by decide +kernel
theorem dX10_fallsOn_27 : decode cX10_fallsOn 27 = .ok (.getfield 167, 3) := by decide +kernel
theorem dX10_fallsOn_30 : decode cX10_fallsOn 30 = .ok (.iload_n 1, 1) := by decide +kernel
theorem dX10_fallsOn_31 : decode cX10_fallsOn 31 = .ok (.if_icmp .ne 18, 3) := by decide +kernel
theorem dX10_fallsOn_34 : decode cX10_fallsOn 34 = .ok (.aload_n 0, 1) := by decide +kernel
theorem dX10_fallsOn_35 : decode cX10_fallsOn 35 = .ok (.getfield 79, 3) := by decide +kernel
theorem dX10_fallsOn_38 : decode cX10_fallsOn 38 = .ok (.getfield 170, 3) := by decide +kernel
theorem dX10_fallsOn_41 : decode cX10_fallsOn 41 = .ok (.iload_n 2, 1) := by decide +kernel
theorem dX10_fallsOn_42 : decode cX10_fallsOn 42 = .ok (.if_icmp .ne 7, 3) := by decide +kernel
theorem dX10_fallsOn_45 : decode cX10_fallsOn 45 = .ok (.iconst 1, 1) := by decide +kernel
theorem dX10_fallsOn_46 : decode cX10_fallsOn 46 = .ok (.goto 4, 3) := by decide +kernel
theorem dX10_fallsOn_49 : decode cX10_fallsOn 49 = .ok (.iconst 0, 1) := by decide +kernel
theorem dX10_fallsOn_50 : decode cX10_fallsOn 50 = .ok (.ireturn, 1) := by decide +kernel
theorem dX10_lampsFor_0 : decode cX10_lampsFor 0 = .ok (.aload_n 0, 1) := by decide +kernel
theorem dX10_lampsFor_1 : decode cX10_lampsFor 1 = .ok (.getfield 16, 3) := by decide +kernel
theorem dX10_lampsFor_4 : decode cX10_lampsFor 4 = .ok (.iload_n 1, 1) := by decide +kernel
theorem dX10_lampsFor_5 : decode cX10_lampsFor 5 = .ok (.iload_n 2, 1) := by decide +kernel
theorem dX10_lampsFor_6 : decode cX10_lampsFor 6 = .ok (.invokevirtual 221, 3) := by decide +kernel
theorem dX10_lampsFor_9 : decode cX10_lampsFor 9 = .ok (.ifCond .ne 5, 3) := by decide +kernel
theorem dX10_lampsFor_12 : decode cX10_lampsFor 12 = .ok (.iconst (-1), 1) := by decide +kernel
theorem dX10_lampsFor_13 : decode cX10_lampsFor 13 = .ok (.ireturn, 1) := by decide +kernel
theorem dX10_lampsFor_14 : decode cX10_lampsFor 14 = .ok (.aload_n 0, 1) := by decide +kernel
theorem dX10_lampsFor_15 : decode cX10_lampsFor 15 = .ok (.getfield 79, 3) := by decide +kernel
theorem dX10_lampsFor_18 : decode cX10_lampsFor 18 = .ok (.aload_n 0, 1) := by decide +kernel
theorem dX10_lampsFor_19 : decode cX10_lampsFor 19 = .ok (.getfield 72, 3) := by decide +kernel
theorem dX10_lampsFor_22 : decode cX10_lampsFor 22 = .ok (.invokevirtual 264, 3) := by decide +kernel
theorem dX10_lampsFor_25 : decode cX10_lampsFor 25 = .ok (.bipush (-2), 2) := by decide +kernel
theorem dX10_lampsFor_27 : decode cX10_lampsFor 27 = .ok (.istore_n 3, 1) := by decide +kernel
theorem dX10_lampsFor_28 : decode cX10_lampsFor 28 = .ok (.iconst 5, 1) := by decide +kernel
theorem dX10_lampsFor_29 : decode cX10_lampsFor 29 = .ok (.istore 4, 2) := by decide +kernel
theorem dX10_lampsFor_31 : decode cX10_lampsFor 31 = .ok (.iconst 1, 1) := by decide +kernel
theorem dX10_lampsFor_32 : decode cX10_lampsFor 32 = .ok (.aload_n 0, 1) := by decide +kernel
theorem dX10_lampsFor_33 : decode cX10_lampsFor 33 = .ok (.getfield 16, 3) := by decide +kernel
theorem dX10_lampsFor_36 : decode cX10_lampsFor 36 = .ok (.getfield 141, 3) := by decide +kernel
theorem dX10_lampsFor_39 : decode cX10_lampsFor 39 = .ok (.invokevirtual 307, 3) := by decide +kernel
theorem dX10_lampsFor_42 : decode cX10_lampsFor 42 = .ok (.ishl, 1) := by decide +kernel
theorem dX10_lampsFor_43 : decode cX10_lampsFor 43 = .ok (.istore 5, 2) := by decide +kernel
theorem dX10_lampsFor_45 : decode cX10_lampsFor 45 = .ok (.iconst 0, 1) := by decide +kernel
theorem dX10_lampsFor_46 : decode cX10_lampsFor 46 = .ok (.istore 6, 2) := by decide +kernel
theorem dX10_lampsFor_48 : decode cX10_lampsFor 48 = .ok (.iload 6, 2) := by decide +kernel
theorem dX10_lampsFor_50 : decode cX10_lampsFor 50 = .ok (.iload 5, 2) := by decide +kernel
theorem dX10_lampsFor_52 : decode cX10_lampsFor 52 = .ok (.if_icmp .ge 49, 3) := by decide +kernel
theorem dX10_lampsFor_55 : decode cX10_lampsFor 55 = .ok (.aload_n 0, 1) := by decide +kernel
theorem dX10_lampsFor_56 : decode cX10_lampsFor 56 = .ok (.getfield 79, 3) := by decide +kernel
theorem dX10_lampsFor_59 : decode cX10_lampsFor 59 = .ok (.iload 6, 2) := by decide +kernel
theorem dX10_lampsFor_61 : decode cX10_lampsFor 61 = .ok (.putfield 218, 3) := by decide +kernel
theorem dX10_lampsFor_64 : decode cX10_lampsFor 64 = .ok (.iload 6, 2) := by decide +kernel
theorem dX10_lampsFor_66 : decode cX10_lampsFor 66 = .ok (.invokestatic 267, 3) := by decide +kernel
theorem dX10_lampsFor_69 : decode cX10_lampsFor 69 = .ok (.iload 4, 2) := by decide +kernel
theorem dX10_lampsFor_71 : decode cX10_lampsFor 71 = .ok (.if_icmp .ge 24, 3) := by decide +kernel
theorem dX10_lampsFor_74 : decode cX10_lampsFor 74 = .ok (.aload_n 0, 1) := by decide +kernel
theorem dX10_lampsFor_75 : decode cX10_lampsFor 75 = .ok (.iload_n 1, 1) := by decide +kernel
theorem dX10_lampsFor_76 : decode cX10_lampsFor 76 = .ok (.iload_n 2, 1) := by decide +kernel
theorem dX10_lampsFor_77 : decode cX10_lampsFor 77 = .ok (.bipush 16, 2) := by decide +kernel
theorem dX10_lampsFor_79 : decode cX10_lampsFor 79 = .ok (.invokevirtual 299, 3) := by decide +kernel
theorem dX10_lampsFor_82 : decode cX10_lampsFor 82 = .ok (.ifCond .eq 13, 3) := by decide +kernel
theorem dX10_lampsFor_85 : decode cX10_lampsFor 85 = .ok (.iload 6, 2) := by decide +kernel
theorem dX10_lampsFor_87 : decode cX10_lampsFor 87 = .ok (.istore_n 3, 1) := by decide +kernel
theorem dX10_lampsFor_88 : decode cX10_lampsFor 88 = .ok (.iload 6, 2) := by decide +kernel
theorem dX10_lampsFor_90 : decode cX10_lampsFor 90 = .ok (.invokestatic 267, 3) := by decide +kernel
theorem dX10_lampsFor_93 : decode cX10_lampsFor 93 = .ok (.istore 4, 2) := by decide +kernel
theorem dX10_lampsFor_95 : decode cX10_lampsFor 95 = .ok (.iinc 6 1, 3) := by decide +kernel
theorem dX10_lampsFor_98 : decode cX10_lampsFor 98 = .ok (.goto (-50), 3) := by decide +kernel
theorem dX10_lampsFor_101 : decode cX10_lampsFor 101 = .ok (.iload_n 3, 1) := by decide +kernel
theorem dX10_lampsFor_102 : decode cX10_lampsFor 102 = .ok (.ireturn, 1) := by decide +kernel
theorem dX10_plan_0 : decode cX10_plan 0 = .ok (.iload_n 1, 1) := by decide +kernel
theorem dX10_plan_1 : decode cX10_plan 1 = .ok (.ifCond .lt 8, 3) := by decide +kernel
theorem dX10_plan_4 : decode cX10_plan 4 = .ok (.iload_n 1, 1) := by decide +kernel
theorem dX10_plan_5 : decode cX10_plan 5 = .ok (.iconst 4, 1) := by decide +kernel
theorem dX10_plan_6 : decode cX10_plan 6 = .ok (.if_icmp .le 5, 3) := by decide +kernel
theorem dX10_plan_9 : decode cX10_plan 9 = .ok (.iconst (-1), 1) := by decide +kernel
theorem dX10_plan_10 : decode cX10_plan 10 = .ok (.ireturn, 1) := by decide +kernel
theorem dX10_plan_11 : decode cX10_plan 11 = .ok (.aload_n 0, 1) := by decide +kernel
theorem dX10_plan_12 : decode cX10_plan 12 = .ok (.getfield 44, 3) := by decide +kernel
theorem dX10_plan_15 : decode cX10_plan 15 = .ok (.aload_n 0, 1) := by decide +kernel
theorem dX10_plan_16 : decode cX10_plan 16 = .ok (.getfield 72, 3) := by decide +kernel
theorem dX10_plan_19 : decode cX10_plan 19 = .ok (.invokevirtual 310, 3) := by decide +kernel
theorem dX10_plan_22 : decode cX10_plan 22 = .ok (.iload_n 1, 1) := by decide +kernel
theorem dX10_plan_23 : decode cX10_plan 23 = .ok (.iconst 4, 1) := by decide +kernel
theorem dX10_plan_24 : decode cX10_plan 24 = .ok (.if_icmp .ne 13, 3) := by decide +kernel
theorem dX10_plan_27 : decode cX10_plan 27 = .ok (.aload_n 0, 1) := by decide +kernel
theorem dX10_plan_28 : decode cX10_plan 28 = .ok (.getfield 44, 3) := by decide +kernel
theorem dX10_plan_31 : decode cX10_plan 31 = .ok (.getfield 313, 3) := by decide +kernel
theorem dX10_plan_34 : decode cX10_plan 34 = .ok (.goto 12, 3) := by decide +kernel
theorem dX10_plan_37 : decode cX10_plan 37 = .ok (.aload_n 0, 1) := by decide +kernel
theorem dX10_plan_38 : decode cX10_plan 38 = .ok (.getfield 44, 3) := by decide +kernel
theorem dX10_plan_41 : decode cX10_plan 41 = .ok (.getfield 316, 3) := by decide +kernel
theorem dX10_plan_44 : decode cX10_plan 44 = .ok (.iload_n 1, 1) := by decide +kernel
theorem dX10_plan_45 : decode cX10_plan 45 = .ok (.iaload, 1) := by decide +kernel
theorem dX10_plan_46 : decode cX10_plan 46 = .ok (.ireturn, 1) := by decide +kernel
theorem dX10_rests_0 : decode cX10_rests 0 = .ok (.aload_n 0, 1) := by decide +kernel
theorem dX10_rests_1 : decode cX10_rests 1 = .ok (.iload_n 1, 1) := by decide +kernel
theorem dX10_rests_2 : decode cX10_rests 2 = .ok (.invokevirtual 201, 3) := by decide +kernel
theorem dX10_rests_5 : decode cX10_rests 5 = .ok (.ifCond .eq 16, 3) := by decide +kernel
theorem dX10_rests_8 : decode cX10_rests 8 = .ok (.aload_n 0, 1) := by decide +kernel
theorem dX10_rests_9 : decode cX10_rests 9 = .ok (.iload_n 2, 1) := by decide +kernel
theorem dX10_rests_10 : decode cX10_rests 10 = .ok (.invokevirtual 201, 3) := by decide +kernel
theorem dX10_rests_13 : decode cX10_rests 13 = .ok (.ifCond .eq 8, 3) := by decide +kernel
theorem dX10_rests_16 : decode cX10_rests 16 = .ok (.iload_n 1, 1) := by decide +kernel
theorem dX10_rests_17 : decode cX10_rests 17 = .ok (.iload_n 2, 1) := by decide +kernel
theorem dX10_rests_18 : decode cX10_rests 18 = .ok (.if_icmp .ne 5, 3) := by decide +kernel
theorem dX10_rests_21 : decode cX10_rests 21 = .ok (.iconst (-1), 1) := by decide +kernel
theorem dX10_rests_22 : decode cX10_rests 22 = .ok (.ireturn, 1) := by decide +kernel
theorem dX10_rests_23 : decode cX10_rests 23 = .ok (.iconst 0, 1) := by decide +kernel
theorem dX10_rests_24 : decode cX10_rests 24 = .ok (.istore_n 3, 1) := by decide +kernel
theorem dX10_rests_25 : decode cX10_rests 25 = .ok (.iconst 0, 1) := by decide +kernel
theorem dX10_rests_26 : decode cX10_rests 26 = .ok (.istore 4, 2) := by decide +kernel
theorem dX10_rests_28 : decode cX10_rests 28 = .ok (.iload 4, 2) := by decide +kernel
theorem dX10_rests_30 : decode cX10_rests 30 = .ok (.iconst 4, 1) := by decide +kernel
theorem dX10_rests_31 : decode cX10_rests 31 = .ok (.if_icmp .ge 23, 3) := by decide +kernel
theorem dX10_rests_34 : decode cX10_rests 34 = .ok (.aload_n 0, 1) := by decide +kernel
theorem dX10_rests_35 : decode cX10_rests 35 = .ok (.iload_n 1, 1) := by decide +kernel
theorem dX10_rests_36 : decode cX10_rests 36 = .ok (.iload_n 2, 1) := by decide +kernel
theorem dX10_rests_37 : decode cX10_rests 37 = .ok (.iload 4, 2) := by decide +kernel
theorem dX10_rests_39 : decode cX10_rests 39 = .ok (.invokevirtual 319, 3) := by decide +kernel
theorem dX10_rests_42 : decode cX10_rests 42 = .ok (.ifCond .eq 6, 3) := by decide +kernel
theorem dX10_rests_45 : decode cX10_rests 45 = .ok (.iinc 3 1, 3) := by decide +kernel
theorem dX10_rests_48 : decode cX10_rests 48 = .ok (.iinc 4 1, 3) := by decide +kernel
theorem dX10_rests_51 : decode cX10_rests 51 = .ok (.goto (-23), 3) := by decide +kernel
theorem dX10_rests_54 : decode cX10_rests 54 = .ok (.iload_n 3, 1) := by decide +kernel
theorem dX10_rests_55 : decode cX10_rests 55 = .ok (.ireturn, 1) := by decide +kernel
theorem dX10_rest_0 : decode cX10_rest 0 = .ok (.aload_n 0, 1) := by decide +kernel
theorem dX10_rest_1 : decode cX10_rest 1 = .ok (.iload_n 1, 1) := by decide +kernel
theorem dX10_rest_2 : decode cX10_rest 2 = .ok (.invokevirtual 201, 3) := by decide +kernel
theorem dX10_rest_5 : decode cX10_rest 5 = .ok (.ifCond .eq 20, 3) := by decide +kernel
theorem dX10_rest_8 : decode cX10_rest 8 = .ok (.aload_n 0, 1) := by decide +kernel
theorem dX10_rest_9 : decode cX10_rest 9 = .ok (.iload_n 2, 1) := by decide +kernel
theorem dX10_rest_10 : decode cX10_rest 10 = .ok (.invokevirtual 201, 3) := by decide +kernel
theorem dX10_rest_13 : decode cX10_rest 13 = .ok (.ifCond .eq 12, 3) := by decide +kernel
theorem dX10_rest_16 : decode cX10_rest 16 = .ok (.iload_n 1, 1) := by decide +kernel
theorem dX10_rest_17 : decode cX10_rest 17 = .ok (.iload_n 2, 1) := by decide +kernel
theorem dX10_rest_18 : decode cX10_rest 18 = .ok (.if_icmp .eq 7, 3) := by decide +kernel
theorem dX10_rest_21 : decode cX10_rest 21 = .ok (.iload_n 3, 1) := by decide +kernel
theorem dX10_rest_22 : decode cX10_rest 22 = .ok (.ifCond .ge 5, 3) := by decide +kernel
theorem dX10_rest_25 : decode cX10_rest 25 = .ok (.iconst (-1), 1) := by decide +kernel
theorem dX10_rest_26 : decode cX10_rest 26 = .ok (.ireturn, 1) := by decide +kernel
theorem dX10_rest_27 : decode cX10_rest 27 = .ok (.iconst 0, 1) := by decide +kernel
theorem dX10_rest_28 : decode cX10_rest 28 = .ok (.istore 4, 2) := by decide +kernel
theorem dX10_rest_30 : decode cX10_rest 30 = .ok (.iconst 0, 1) := by decide +kernel
theorem dX10_rest_31 : decode cX10_rest 31 = .ok (.istore 5, 2) := by decide +kernel
theorem dX10_rest_33 : decode cX10_rest 33 = .ok (.iload 5, 2) := by decide +kernel
theorem dX10_rest_35 : decode cX10_rest 35 = .ok (.iconst 4, 1) := by decide +kernel
theorem dX10_rest_36 : decode cX10_rest 36 = .ok (.if_icmp .ge 42, 3) := by decide +kernel
theorem dX10_rest_39 : decode cX10_rest 39 = .ok (.aload_n 0, 1) := by decide +kernel
theorem dX10_rest_40 : decode cX10_rest 40 = .ok (.iload_n 1, 1) := by decide +kernel
theorem dX10_rest_41 : decode cX10_rest 41 = .ok (.iload_n 2, 1) := by decide +kernel
theorem dX10_rest_42 : decode cX10_rest 42 = .ok (.iload 5, 2) := by decide +kernel
theorem dX10_rest_44 : decode cX10_rest 44 = .ok (.invokevirtual 319, 3) := by decide +kernel
theorem dX10_rest_47 : decode cX10_rest 47 = .ok (.ifCond .eq 25, 3) := by decide +kernel
theorem dX10_rest_50 : decode cX10_rest 50 = .ok (.iload 4, 2) := by decide +kernel
theorem dX10_rest_52 : decode cX10_rest 52 = .ok (.iload_n 3, 1) := by decide +kernel
theorem dX10_rest_53 : decode cX10_rest 53 = .ok (.if_icmp .ne 16, 3) := by decide +kernel
theorem dX10_rest_56 : decode cX10_rest 56 = .ok (.iload 5, 2) := by decide +kernel
theorem dX10_rest_58 : decode cX10_rest 58 = .ok (.iconst 2, 1) := by decide +kernel
theorem dX10_rest_59 : decode cX10_rest 59 = .ok (.idiv, 1) := by decide +kernel
theorem dX10_rest_60 : decode cX10_rest 60 = .ok (.bipush 10, 2) := by decide +kernel
theorem dX10_rest_62 : decode cX10_rest 62 = .ok (.imul, 1) := by decide +kernel
theorem dX10_rest_63 : decode cX10_rest 63 = .ok (.iload 5, 2) := by decide +kernel
theorem dX10_rest_65 : decode cX10_rest 65 = .ok (.iconst 2, 1) := by decide +kernel
theorem dX10_rest_66 : decode cX10_rest 66 = .ok (.irem, 1) := by decide +kernel
theorem dX10_rest_67 : decode cX10_rest 67 = .ok (.iadd, 1) := by decide +kernel
theorem dX10_rest_68 : decode cX10_rest 68 = .ok (.ireturn, 1) := by decide +kernel
theorem dX10_rest_69 : decode cX10_rest 69 = .ok (.iinc 4 1, 3) := by decide +kernel
theorem dX10_rest_72 : decode cX10_rest 72 = .ok (.iinc 5 1, 3) := by decide +kernel
theorem dX10_rest_75 : decode cX10_rest 75 = .ok (.goto (-42), 3) := by decide +kernel
theorem dX10_rest_78 : decode cX10_rest 78 = .ok (.bipush (-2), 2) := by decide +kernel
theorem dX10_rest_80 : decode cX10_rest 80 = .ok (.ireturn, 1) := by decide +kernel
theorem dX10_isRest_0 : decode cX10_isRest 0 = .ok (.iload_n 3, 1) := by decide +kernel
theorem dX10_isRest_1 : decode cX10_isRest 1 = .ok (.iconst 2, 1) := by decide +kernel
theorem dX10_isRest_2 : decode cX10_isRest 2 = .ok (.idiv, 1) := by decide +kernel
theorem dX10_isRest_3 : decode cX10_isRest 3 = .ok (.istore 4, 2) := by decide +kernel
theorem dX10_isRest_5 : decode cX10_isRest 5 = .ok (.iload_n 3, 1) := by decide +kernel
theorem dX10_isRest_6 : decode cX10_isRest 6 = .ok (.iconst 2, 1) := by decide +kernel
theorem dX10_isRest_7 : decode cX10_isRest 7 = .ok (.irem, 1) := by decide +kernel
theorem dX10_isRest_8 : decode cX10_isRest 8 = .ok (.istore 5, 2) := by decide +kernel
theorem dX10_isRest_10 : decode cX10_isRest 10 = .ok (.aload_n 0, 1) := by decide +kernel
theorem dX10_isRest_11 : decode cX10_isRest 11 = .ok (.iload_n 1, 1) := by decide +kernel
theorem dX10_isRest_12 : decode cX10_isRest 12 = .ok (.iload_n 2, 1) := by decide +kernel
theorem dX10_isRest_13 : decode cX10_isRest 13 = .ok (.iload 4, 2) := by decide +kernel
theorem dX10_isRest_15 : decode cX10_isRest 15 = .ok (.iload 5, 2) := by decide +kernel
theorem dX10_isRest_17 : decode cX10_isRest 17 = .ok (.invokevirtual 322, 3) := by decide +kernel
theorem dX10_isRest_20 : decode cX10_isRest 20 = .ok (.aload_n 0, 1) := by decide +kernel
theorem dX10_isRest_21 : decode cX10_isRest 21 = .ok (.iload_n 1, 1) := by decide +kernel
theorem dX10_isRest_22 : decode cX10_isRest 22 = .ok (.iload_n 2, 1) := by decide +kernel
theorem dX10_isRest_23 : decode cX10_isRest 23 = .ok (.iconst 1, 1) := by decide +kernel
theorem dX10_isRest_24 : decode cX10_isRest 24 = .ok (.iload 4, 2) := by decide +kernel
theorem dX10_isRest_26 : decode cX10_isRest 26 = .ok (.isub, 1) := by decide +kernel
theorem dX10_isRest_27 : decode cX10_isRest 27 = .ok (.iload 5, 2) := by decide +kernel
theorem dX10_isRest_29 : decode cX10_isRest 29 = .ok (.invokevirtual 322, 3) := by decide +kernel
theorem dX10_isRest_32 : decode cX10_isRest 32 = .ok (.if_icmp .lt 32, 3) := by decide +kernel
theorem dX10_isRest_35 : decode cX10_isRest 35 = .ok (.aload_n 0, 1) := by decide +kernel
theorem dX10_isRest_36 : decode cX10_isRest 36 = .ok (.iload_n 2, 1) := by decide +kernel
theorem dX10_isRest_37 : decode cX10_isRest 37 = .ok (.iload_n 1, 1) := by decide +kernel
theorem dX10_isRest_38 : decode cX10_isRest 38 = .ok (.iload 5, 2) := by decide +kernel
theorem dX10_isRest_40 : decode cX10_isRest 40 = .ok (.iload 4, 2) := by decide +kernel
theorem dX10_isRest_42 : decode cX10_isRest 42 = .ok (.invokevirtual 322, 3) := by decide +kernel
theorem dX10_isRest_45 : decode cX10_isRest 45 = .ok (.aload_n 0, 1) := by decide +kernel
theorem dX10_isRest_46 : decode cX10_isRest 46 = .ok (.iload_n 2, 1) := by decide +kernel
theorem dX10_isRest_47 : decode cX10_isRest 47 = .ok (.iload_n 1, 1) := by decide +kernel
theorem dX10_isRest_48 : decode cX10_isRest 48 = .ok (.iconst 1, 1) := by decide +kernel
theorem dX10_isRest_49 : decode cX10_isRest 49 = .ok (.iload 5, 2) := by decide +kernel
theorem dX10_isRest_51 : decode cX10_isRest 51 = .ok (.isub, 1) := by decide +kernel
theorem dX10_isRest_52 : decode cX10_isRest 52 = .ok (.iload 4, 2) := by decide +kernel
theorem dX10_isRest_54 : decode cX10_isRest 54 = .ok (.invokevirtual 322, 3) := by decide +kernel
theorem dX10_isRest_57 : decode cX10_isRest 57 = .ok (.if_icmp .lt 7, 3) := by decide +kernel
theorem dX10_isRest_60 : decode cX10_isRest 60 = .ok (.iconst 1, 1) := by decide +kernel
theorem dX10_isRest_61 : decode cX10_isRest 61 = .ok (.goto 4, 3) := by decide +kernel
theorem dX10_isRest_64 : decode cX10_isRest 64 = .ok (.iconst 0, 1) := by decide +kernel
theorem dX10_isRest_65 : decode cX10_isRest 65 = .ok (.ireturn, 1) := by decide +kernel
theorem dX10_shareOf_0 : decode cX10_shareOf 0 = .ok (.iload_n 3, 1) := by decide +kernel
theorem dX10_shareOf_1 : decode cX10_shareOf 1 = .ok (.ifCond .ne 15, 3) := by decide +kernel
theorem dX10_shareOf_4 : decode cX10_shareOf 4 = .ok (.aload_n 0, 1) := by decide +kernel
theorem dX10_shareOf_5 : decode cX10_shareOf 5 = .ok (.getfield 72, 3) := by decide +kernel
theorem dX10_shareOf_8 : decode cX10_shareOf 8 = .ok (.getfield 204, 3) := by decide +kernel
theorem dX10_shareOf_11 : decode cX10_shareOf 11 = .ok (.iload_n 1, 1) := by decide +kernel
theorem dX10_shareOf_12 : decode cX10_shareOf 12 = .ok (.iaload, 1) := by decide +kernel
theorem dX10_shareOf_13 : decode cX10_shareOf 13 = .ok (.goto 12, 3) := by decide +kernel
theorem dX10_shareOf_16 : decode cX10_shareOf 16 = .ok (.aload_n 0, 1) := by decide +kernel
theorem dX10_shareOf_17 : decode cX10_shareOf 17 = .ok (.getfield 72, 3) := by decide +kernel
theorem dX10_shareOf_20 : decode cX10_shareOf 20 = .ok (.getfield 208, 3) := by decide +kernel
theorem dX10_shareOf_23 : decode cX10_shareOf 23 = .ok (.iload_n 1, 1) := by decide +kernel
theorem dX10_shareOf_24 : decode cX10_shareOf 24 = .ok (.iaload, 1) := by decide +kernel
theorem dX10_shareOf_25 : decode cX10_shareOf 25 = .ok (.istore 5, 2) := by decide +kernel
theorem dX10_shareOf_27 : decode cX10_shareOf 27 = .ok (.iload_n 3, 1) := by decide +kernel
theorem dX10_shareOf_28 : decode cX10_shareOf 28 = .ok (.iload 4, 2) := by decide +kernel
theorem dX10_shareOf_30 : decode cX10_shareOf 30 = .ok (.if_icmp .eq 6, 3) := by decide +kernel
theorem dX10_shareOf_33 : decode cX10_shareOf 33 = .ok (.iload 5, 2) := by decide +kernel
theorem dX10_shareOf_35 : decode cX10_shareOf 35 = .ok (.ireturn, 1) := by decide +kernel
theorem dX10_shareOf_36 : decode cX10_shareOf 36 = .ok (.iload 5, 2) := by decide +kernel
theorem dX10_shareOf_38 : decode cX10_shareOf 38 = .ok (.iconst 2, 1) := by decide +kernel
theorem dX10_shareOf_39 : decode cX10_shareOf 39 = .ok (.idiv, 1) := by decide +kernel
theorem dX10_shareOf_40 : decode cX10_shareOf 40 = .ok (.aload_n 0, 1) := by decide +kernel
theorem dX10_shareOf_41 : decode cX10_shareOf 41 = .ok (.getfield 72, 3) := by decide +kernel
theorem dX10_shareOf_44 : decode cX10_shareOf 44 = .ok (.getfield 211, 3) := by decide +kernel
theorem dX10_shareOf_47 : decode cX10_shareOf 47 = .ok (.iload_n 1, 1) := by decide +kernel
theorem dX10_shareOf_48 : decode cX10_shareOf 48 = .ok (.iaload, 1) := by decide +kernel
theorem dX10_shareOf_49 : decode cX10_shareOf 49 = .ok (.aload_n 0, 1) := by decide +kernel
theorem dX10_shareOf_50 : decode cX10_shareOf 50 = .ok (.getfield 72, 3) := by decide +kernel
theorem dX10_shareOf_53 : decode cX10_shareOf 53 = .ok (.getfield 211, 3) := by decide +kernel
theorem dX10_shareOf_56 : decode cX10_shareOf 56 = .ok (.iload_n 2, 1) := by decide +kernel
theorem dX10_shareOf_57 : decode cX10_shareOf 57 = .ok (.iaload, 1) := by decide +kernel
theorem dX10_shareOf_58 : decode cX10_shareOf 58 = .ok (.if_icmp .le 7, 3) := by decide +kernel
theorem dX10_shareOf_61 : decode cX10_shareOf 61 = .ok (.iconst 1, 1) := by decide +kernel
theorem dX10_shareOf_62 : decode cX10_shareOf 62 = .ok (.goto 4, 3) := by decide +kernel
theorem dX10_shareOf_65 : decode cX10_shareOf 65 = .ok (.iconst 0, 1) := by decide +kernel
theorem dX10_shareOf_66 : decode cX10_shareOf 66 = .ok (.iadd, 1) := by decide +kernel
theorem dX10_shareOf_67 : decode cX10_shareOf 67 = .ok (.ireturn, 1) := by decide +kernel
theorem dX10_clear_0 : decode cX10_clear 0 = .ok (.iload_n 1, 1) := by decide +kernel
theorem dX10_clear_1 : decode cX10_clear 1 = .ok (.ifCond .lt 18, 3) := by decide +kernel
theorem dX10_clear_4 : decode cX10_clear 4 = .ok (.iload_n 1, 1) := by decide +kernel
theorem dX10_clear_5 : decode cX10_clear 5 = .ok (.bipush 6, 2) := by decide +kernel
theorem dX10_clear_7 : decode cX10_clear 7 = .ok (.if_icmp .gt 12, 3) := by decide +kernel
theorem dX10_clear_10 : decode cX10_clear 10 = .ok (.iload_n 2, 1) := by decide +kernel
theorem dX10_clear_11 : decode cX10_clear 11 = .ok (.ifCond .lt 8, 3) := by decide +kernel
theorem dX10_clear_14 : decode cX10_clear 14 = .ok (.iload_n 2, 1) := by decide +kernel
theorem dX10_clear_15 : decode cX10_clear 15 = .ok (.iconst 1, 1) := by decide +kernel
theorem dX10_clear_16 : decode cX10_clear 16 = .ok (.if_icmp .le 7, 3) := by decide +kernel
theorem dX10_clear_19 : decode cX10_clear 19 = .ok (.ldc2_w 326, 3) := by decide +kernel
theorem dX10_clear_22 : decode cX10_clear 22 = .ok (.lreturn, 1) := by decide +kernel
theorem dX10_clear_23 : decode cX10_clear 23 = .ok (.bipush 100, 2) := by decide +kernel
theorem dX10_clear_25 : decode cX10_clear 25 = .ok (.bipush 100, 2) := by decide +kernel
theorem dX10_clear_27 : decode cX10_clear 27 = .ok (.aload_n 0, 1) := by decide +kernel
theorem dX10_clear_28 : decode cX10_clear 28 = .ok (.getfield 16, 3) := by decide +kernel
theorem dX10_clear_31 : decode cX10_clear 31 = .ok (.getfield 328, 3) := by decide +kernel
theorem dX10_clear_34 : decode cX10_clear 34 = .ok (.isub, 1) := by decide +kernel
theorem dX10_clear_35 : decode cX10_clear 35 = .ok (.invokestatic 331, 3) := by decide +kernel
theorem dX10_clear_38 : decode cX10_clear 38 = .ok (.istore_n 3, 1) := by decide +kernel
theorem dX10_clear_39 : decode cX10_clear 39 = .ok (.iload_n 2, 1) := by decide +kernel
theorem dX10_clear_40 : decode cX10_clear 40 = .ok (.ifCond .ne 16, 3) := by decide +kernel
theorem dX10_clear_43 : decode cX10_clear 43 = .ok (.bipush 100, 2) := by decide +kernel
theorem dX10_clear_45 : decode cX10_clear 45 = .ok (.aload_n 0, 1) := by decide +kernel
theorem dX10_clear_46 : decode cX10_clear 46 = .ok (.getfield 16, 3) := by decide +kernel
theorem dX10_clear_49 : decode cX10_clear 49 = .ok (.getfield 328, 3) := by decide +kernel
theorem dX10_clear_52 : decode cX10_clear 52 = .ok (.isub, 1) := by decide +kernel
theorem dX10_clear_53 : decode cX10_clear 53 = .ok (.goto 5, 3) := by decide +kernel
theorem dX10_clear_56 : decode cX10_clear 56 = .ok (.bipush 100, 2) := by decide +kernel
theorem dX10_clear_58 : decode cX10_clear 58 = .ok (.iload_n 3, 1) := by decide +kernel
theorem dX10_clear_59 : decode cX10_clear 59 = .ok (.idiv, 1) := by decide +kernel
theorem dX10_clear_60 : decode cX10_clear 60 = .ok (.i2l, 1) := by decide +kernel
theorem dX10_clear_61 : decode cX10_clear 61 = .ok (.lstore 4, 2) := by decide +kernel
theorem dX10_clear_63 : decode cX10_clear 63 = .ok (.lconst 1, 1) := by decide +kernel
theorem dX10_clear_64 : decode cX10_clear 64 = .ok (.lstore 6, 2) := by decide +kernel
theorem dX10_clear_66 : decode cX10_clear 66 = .ok (.iconst 0, 1) := by decide +kernel
theorem dX10_clear_67 : decode cX10_clear 67 = .ok (.istore 8, 2) := by decide +kernel
theorem dX10_clear_69 : decode cX10_clear 69 = .ok (.iload 8, 2) := by decide +kernel
theorem dX10_clear_71 : decode cX10_clear 71 = .ok (.iload_n 1, 1) := by decide +kernel
