theorem dX0_init_0 : decode cX0_init 0 = .ok (.aload_n 0, 1) := by decide +kernel
theorem dX0_init_1 : decode cX0_init 1 = .ok (.invokespecial 3, 3) := by decide +kernel
theorem dX0_init_4 : decode cX0_init 4 = .ok (.aload_n 0, 1) := by decide +kernel
theorem dX0_init_5 : decode cX0_init 5 = .ok (.bipush 7, 2) := by decide +kernel
theorem dX0_init_7 : decode cX0_init 7 = .ok (.newarray .int, 2) := by decide +kernel
theorem dX0_init_9 : decode cX0_init 9 = .ok (.putfield 11, 3) := by decide +kernel
theorem dX0_init_12 : decode cX0_init 12 = .ok (.aload_n 0, 1) := by decide +kernel
theorem dX0_init_13 : decode cX0_init 13 = .ok (.aload_n 1, 1) := by decide +kernel
theorem dX0_init_14 : decode cX0_init 14 = .ok (.putfield 15, 3) := by decide +kernel
theorem dX0_init_17 : decode cX0_init 17 = .ok (.return_, 1) := by decide +kernel
theorem dX0_passAll_0 : decode cX0_passAll 0 = .ok (.iconst 0, 1) := by decide +kernel
theorem dX0_passAll_1 : decode cX0_passAll 1 = .ok (.istore 4, 2) := by decide +kernel
theorem dX0_passAll_3 : decode cX0_passAll 3 = .ok (.iload 4, 2) := by decide +kernel
theorem dX0_passAll_5 : decode cX0_passAll 5 = .ok (.iload_n 2, 1) := by decide +kernel
theorem dX0_passAll_6 : decode cX0_passAll 6 = .ok (.if_icmp .ge 15, 3) := by decide +kernel
theorem dX0_passAll_9 : decode cX0_passAll 9 = .ok (.aload_n 0, 1) := by decide +kernel
theorem dX0_passAll_10 : decode cX0_passAll 10 = .ok (.aload_n 1, 1) := by decide +kernel
theorem dX0_passAll_11 : decode cX0_passAll 11 = .ok (.iload_n 3, 1) := by decide +kernel
theorem dX0_passAll_12 : decode cX0_passAll 12 = .ok (.invokevirtual 19, 3) := by decide +kernel
theorem dX0_passAll_15 : decode cX0_passAll 15 = .ok (.iinc 4 1, 3) := by decide +kernel
theorem dX0_passAll_18 : decode cX0_passAll 18 = .ok (.goto (-15), 3) := by decide +kernel
theorem dX0_passAll_21 : decode cX0_passAll 21 = .ok (.return_, 1) := by decide +kernel
theorem dX0_pass_0 : decode cX0_pass 0 = .ok (.aload_n 0, 1) := by decide +kernel
theorem dX0_pass_1 : decode cX0_pass 1 = .ok (.aload_n 1, 1) := by decide +kernel
theorem dX0_pass_2 : decode cX0_pass 2 = .ok (.iload_n 2, 1) := by decide +kernel
theorem dX0_pass_3 : decode cX0_pass 3 = .ok (.invokevirtual 23, 3) := by decide +kernel
theorem dX0_pass_6 : decode cX0_pass 6 = .ok (.istore_n 3, 1) := by decide +kernel
theorem dX0_pass_7 : decode cX0_pass 7 = .ok (.aload_n 0, 1) := by decide +kernel
theorem dX0_pass_8 : decode cX0_pass 8 = .ok (.getfield 15, 3) := by decide +kernel
theorem dX0_pass_11 : decode cX0_pass 11 = .ok (.getfield 27, 3) := by decide +kernel
theorem dX0_pass_14 : decode cX0_pass 14 = .ok (.astore 4, 2) := by decide +kernel
theorem dX0_pass_16 : decode cX0_pass 16 = .ok (.iconst 0, 1) := by decide +kernel
theorem dX0_pass_17 : decode cX0_pass 17 = .ok (.istore 5, 2) := by decide +kernel
theorem dX0_pass_19 : decode cX0_pass 19 = .ok (.iload 5, 2) := by decide +kernel
theorem dX0_pass_21 : decode cX0_pass 21 = .ok (.aload 4, 2) := by decide +kernel
theorem dX0_pass_23 : decode cX0_pass 23 = .ok (.invokevirtual 33, 3) := by decide +kernel
theorem dX0_pass_26 : decode cX0_pass 26 = .ok (.if_icmp .ge 38, 3) := by decide +kernel
theorem dX0_pass_29 : decode cX0_pass 29 = .ok (.aload 4, 2) := by decide +kernel
theorem dX0_pass_31 : decode cX0_pass 31 = .ok (.iload 5, 2) := by decide +kernel
theorem dX0_pass_33 : decode cX0_pass 33 = .ok (.iconst 0, 1) := by decide +kernel
theorem dX0_pass_34 : decode cX0_pass 34 = .ok (.invokevirtual 39, 3) := by decide +kernel
theorem dX0_pass_37 : decode cX0_pass 37 = .ok (.aload_n 1, 1) := by decide +kernel
theorem dX0_pass_38 : decode cX0_pass 38 = .ok (.getfield 43, 3) := by decide +kernel
theorem dX0_pass_41 : decode cX0_pass 41 = .ok (.if_icmp .ne 17, 3) := by decide +kernel
theorem dX0_pass_44 : decode cX0_pass 44 = .ok (.aload_n 0, 1) := by decide +kernel
theorem dX0_pass_45 : decode cX0_pass 45 = .ok (.aload_n 1, 1) := by decide +kernel
theorem dX0_pass_46 : decode cX0_pass 46 = .ok (.aload 4, 2) := by decide +kernel
theorem dX0_pass_48 : decode cX0_pass 48 = .ok (.iload 5, 2) := by decide +kernel
theorem dX0_pass_50 : decode cX0_pass 50 = .ok (.iconst 1, 1) := by decide +kernel
theorem dX0_pass_51 : decode cX0_pass 51 = .ok (.invokevirtual 39, 3) := by decide +kernel
theorem dX0_pass_54 : decode cX0_pass 54 = .ok (.iload_n 2, 1) := by decide +kernel
theorem dX0_pass_55 : decode cX0_pass 55 = .ok (.invokevirtual 49, 3) := by decide +kernel
theorem dX0_pass_58 : decode cX0_pass 58 = .ok (.iinc 5 1, 3) := by decide +kernel
theorem dX0_pass_61 : decode cX0_pass 61 = .ok (.goto (-42), 3) := by decide +kernel
theorem dX0_pass_64 : decode cX0_pass 64 = .ok (.aload_n 0, 1) := by decide +kernel
theorem dX0_pass_65 : decode cX0_pass 65 = .ok (.aload_n 1, 1) := by decide +kernel
theorem dX0_pass_66 : decode cX0_pass 66 = .ok (.iload_n 3, 1) := by decide +kernel
theorem dX0_pass_67 : decode cX0_pass 67 = .ok (.iload_n 2, 1) := by decide +kernel
theorem dX0_pass_68 : decode cX0_pass 68 = .ok (.invokevirtual 53, 3) := by decide +kernel
theorem dX0_pass_71 : decode cX0_pass 71 = .ok (.aload_n 1, 1) := by decide +kernel
theorem dX0_pass_72 : decode cX0_pass 72 = .ok (.getfield 57, 3) := by decide +kernel
theorem dX0_pass_75 : decode cX0_pass 75 = .ok (.ifCond .eq 13, 3) := by decide +kernel
theorem dX0_pass_78 : decode cX0_pass 78 = .ok (.aload_n 1, 1) := by decide +kernel
theorem dX0_pass_79 : decode cX0_pass 79 = .ok (.dup, 1) := by decide +kernel
theorem dX0_pass_80 : decode cX0_pass 80 = .ok (.getfield 61, 3) := by decide +kernel
theorem dX0_pass_83 : decode cX0_pass 83 = .ok (.iconst 1, 1) := by decide +kernel
theorem dX0_pass_84 : decode cX0_pass 84 = .ok (.iadd, 1) := by decide +kernel
theorem dX0_pass_85 : decode cX0_pass 85 = .ok (.putfield 61, 3) := by decide +kernel
theorem dX0_pass_88 : decode cX0_pass 88 = .ok (.aload_n 0, 1) := by decide +kernel
theorem dX0_pass_89 : decode cX0_pass 89 = .ok (.aload_n 1, 1) := by decide +kernel
theorem dX0_pass_90 : decode cX0_pass 90 = .ok (.invokevirtual 64, 3) := by decide +kernel
theorem dX0_pass_93 : decode cX0_pass 93 = .ok (.aload_n 0, 1) := by decide +kernel
theorem dX0_pass_94 : decode cX0_pass 94 = .ok (.aload_n 1, 1) := by decide +kernel
theorem dX0_pass_95 : decode cX0_pass 95 = .ok (.invokevirtual 68, 3) := by decide +kernel
theorem dX0_pass_98 : decode cX0_pass 98 = .ok (.aload_n 1, 1) := by decide +kernel
theorem dX0_pass_99 : decode cX0_pass 99 = .ok (.getfield 43, 3) := by decide +kernel
theorem dX0_pass_102 : decode cX0_pass 102 = .ok (.bipush 24, 2) := by decide +kernel
theorem dX0_pass_104 : decode cX0_pass 104 = .ok (.irem, 1) := by decide +kernel
theorem dX0_pass_105 : decode cX0_pass 105 = .ok (.bipush 23, 2) := by decide +kernel
theorem dX0_pass_107 : decode cX0_pass 107 = .ok (.if_icmp .ne 8, 3) := by decide +kernel
theorem dX0_pass_110 : decode cX0_pass 110 = .ok (.aload_n 1, 1) := by decide +kernel
theorem dX0_pass_111 : decode cX0_pass 111 = .ok (.iconst 0, 1) := by decide +kernel
theorem dX0_pass_112 : decode cX0_pass 112 = .ok (.putfield 71, 3) := by decide +kernel
theorem dX0_pass_115 : decode cX0_pass 115 = .ok (.aload_n 1, 1) := by decide +kernel
theorem dX0_pass_116 : decode cX0_pass 116 = .ok (.dup, 1) := by decide +kernel
theorem dX0_pass_117 : decode cX0_pass 117 = .ok (.getfield 43, 3) := by decide +kernel
theorem dX0_pass_120 : decode cX0_pass 120 = .ok (.iconst 1, 1) := by decide +kernel
theorem dX0_pass_121 : decode cX0_pass 121 = .ok (.iadd, 1) := by decide +kernel
theorem dX0_pass_122 : decode cX0_pass 122 = .ok (.putfield 43, 3) := by decide +kernel
theorem dX0_pass_125 : decode cX0_pass 125 = .ok (.return_, 1) := by decide +kernel
theorem dX0_areClouds_0 : decode cX0_areClouds 0 = .ok (.iload_n 2, 1) := by decide +kernel
theorem dX0_areClouds_1 : decode cX0_areClouds 1 = .ok (.iconst 2, 1) := by decide +kernel
theorem dX0_areClouds_2 : decode cX0_areClouds 2 = .ok (.iand, 1) := by decide +kernel
theorem dX0_areClouds_3 : decode cX0_areClouds 3 = .ok (.ifCond .eq 5, 3) := by decide +kernel
theorem dX0_areClouds_6 : decode cX0_areClouds 6 = .ok (.iconst 0, 1) := by decide +kernel
theorem dX0_areClouds_7 : decode cX0_areClouds 7 = .ok (.ireturn, 1) := by decide +kernel
theorem dX0_areClouds_8 : decode cX0_areClouds 8 = .ok (.iload_n 2, 1) := by decide +kernel
theorem dX0_areClouds_9 : decode cX0_areClouds 9 = .ok (.iconst 1, 1) := by decide +kernel
theorem dX0_areClouds_10 : decode cX0_areClouds 10 = .ok (.iand, 1) := by decide +kernel
theorem dX0_areClouds_11 : decode cX0_areClouds 11 = .ok (.ifCond .ne 21, 3) := by decide +kernel
theorem dX0_areClouds_14 : decode cX0_areClouds 14 = .ok (.aload_n 0, 1) := by decide +kernel
theorem dX0_areClouds_15 : decode cX0_areClouds 15 = .ok (.getfield 15, 3) := by decide +kernel
theorem dX0_areClouds_18 : decode cX0_areClouds 18 = .ok (.getfield 74, 3) := by decide +kernel
theorem dX0_areClouds_21 : decode cX0_areClouds 21 = .ok (.bipush 50, 2) := by decide +kernel
theorem dX0_areClouds_23 : decode cX0_areClouds 23 = .ok (.if_icmp .lt 7, 3) := by decide +kernel
theorem dX0_areClouds_26 : decode cX0_areClouds 26 = .ok (.iconst 1, 1) := by decide +kernel
theorem dX0_areClouds_27 : decode cX0_areClouds 27 = .ok (.goto 4, 3) := by decide +kernel
theorem dX0_areClouds_30 : decode cX0_areClouds 30 = .ok (.iconst 0, 1) := by decide +kernel
theorem dX0_areClouds_31 : decode cX0_areClouds 31 = .ok (.ireturn, 1) := by decide +kernel
theorem dX0_areClouds_32 : decode cX0_areClouds 32 = .ok (.aload_n 0, 1) := by decide +kernel
theorem dX0_areClouds_33 : decode cX0_areClouds 33 = .ok (.getfield 15, 3) := by decide +kernel
theorem dX0_areClouds_36 : decode cX0_areClouds 36 = .ok (.getfield 74, 3) := by decide +kernel
theorem dX0_areClouds_39 : decode cX0_areClouds 39 = .ok (.ifCond .eq 28, 3) := by decide +kernel
theorem dX0_areClouds_42 : decode cX0_areClouds 42 = .ok (.aload_n 0, 1) := by decide +kernel
theorem dX0_areClouds_43 : decode cX0_areClouds 43 = .ok (.getfield 15, 3) := by decide +kernel
theorem dX0_areClouds_46 : decode cX0_areClouds 46 = .ok (.getfield 74, 3) := by decide +kernel
theorem dX0_areClouds_49 : decode cX0_areClouds 49 = .ok (.bipush 100, 2) := by decide +kernel
theorem dX0_areClouds_51 : decode cX0_areClouds 51 = .ok (.if_icmp .eq 16, 3) := by decide +kernel
theorem dX0_areClouds_54 : decode cX0_areClouds 54 = .ok (.aload_n 0, 1) := by decide +kernel
theorem dX0_areClouds_55 : decode cX0_areClouds 55 = .ok (.getfield 15, 3) := by decide +kernel
theorem dX0_areClouds_58 : decode cX0_areClouds 58 = .ok (.getfield 77, 3) := by decide +kernel
theorem dX0_areClouds_61 : decode cX0_areClouds 61 = .ok (.invokevirtual 33, 3) := by decide +kernel
theorem dX0_areClouds_64 : decode cX0_areClouds 64 = .ok (.ifCond .ne 21, 3) := by decide +kernel
theorem dX0_areClouds_67 : decode cX0_areClouds 67 = .ok (.aload_n 0, 1) := by decide +kernel
theorem dX0_areClouds_68 : decode cX0_areClouds 68 = .ok (.getfield 15, 3) := by decide +kernel
theorem dX0_areClouds_71 : decode cX0_areClouds 71 = .ok (.getfield 74, 3) := by decide +kernel
theorem dX0_areClouds_74 : decode cX0_areClouds 74 = .ok (.bipush 100, 2) := by decide +kernel
theorem dX0_areClouds_76 : decode cX0_areClouds 76 = .ok (.if_icmp .ne 7, 3) := by decide +kernel
theorem dX0_areClouds_79 : decode cX0_areClouds 79 = .ok (.iconst 1, 1) := by decide +kernel
theorem dX0_areClouds_80 : decode cX0_areClouds 80 = .ok (.goto 4, 3) := by decide +kernel
theorem dX0_areClouds_83 : decode cX0_areClouds 83 = .ok (.iconst 0, 1) := by decide +kernel
theorem dX0_areClouds_84 : decode cX0_areClouds 84 = .ok (.ireturn, 1) := by decide +kernel
theorem dX0_areClouds_85 : decode cX0_areClouds 85 = .ok (.aload_n 1, 1) := by decide +kernel
theorem dX0_areClouds_86 : decode cX0_areClouds 86 = .ok (.aload_n 1, 1) := by decide +kernel
theorem dX0_areClouds_87 : decode cX0_areClouds 87 = .ok (.getfield 80, 3) := by decide +kernel
theorem dX0_areClouds_90 : decode cX0_areClouds 90 = .ok (.i2l, 1) := by decide +kernel
theorem dX0_areClouds_91 : decode cX0_areClouds 91 = .ok (.ldc2_w 83, 3) := by decide +kernel
theorem dX0_areClouds_94 : decode cX0_areClouds 94 = .ok (.lmul, 1) := by decide +kernel
theorem dX0_areClouds_95 : decode cX0_areClouds 95 = .ok (.ldc2_w 85, 3) := by decide +kernel
theorem dX0_areClouds_98 : decode cX0_areClouds 98 = .ok (.ladd, 1) := by decide +kernel
theorem dX0_areClouds_99 : decode cX0_areClouds 99 = .ok (.ldc2_w 87, 3) := by decide +kernel
theorem dX0_areClouds_102 : decode cX0_areClouds 102 = .ok (.land, 1) := by decide +kernel
theorem dX0_areClouds_103 : decode cX0_areClouds 103 = .ok (.l2i, 1) := by decide +kernel
theorem dX0_areClouds_104 : decode cX0_areClouds 104 = .ok (.putfield 80, 3) := by decide +kernel
theorem dX0_areClouds_107 : decode cX0_areClouds 107 = .ok (.aload_n 1, 1) := by decide +kernel
theorem dX0_areClouds_108 : decode cX0_areClouds 108 = .ok (.getfield 80, 3) := by decide +kernel
theorem dX0_areClouds_111 : decode cX0_areClouds 111 = .ok (.ldc 89, 2) := by decide +kernel
theorem dX0_areClouds_113 : decode cX0_areClouds 113 = .ok (.idiv, 1) := by decide +kernel
theorem dX0_areClouds_114 : decode cX0_areClouds 114 = .ok (.bipush 100, 2) := by decide +kernel
theorem dX0_areClouds_116 : decode cX0_areClouds 116 = .ok (.irem, 1) := by decide +kernel
theorem dX0_areClouds_117 : decode cX0_areClouds 117 = .ok (.aload_n 0, 1) := by decide +kernel
theorem dX0_areClouds_118 : decode cX0_areClouds 118 = .ok (.getfield 15, 3) := by decide +kernel
theorem dX0_areClouds_121 : decode cX0_areClouds 121 = .ok (.getfield 74, 3) := by decide +kernel
theorem dX0_areClouds_124 : decode cX0_areClouds 124 = .ok (.if_icmp .ge 7, 3) := by decide +kernel
theorem dX0_areClouds_127 : decode cX0_areClouds 127 = .ok (.iconst 1, 1) := by decide +kernel
theorem dX0_areClouds_128 : decode cX0_areClouds 128 = .ok (.goto 4, 3) := by decide +kernel
theorem dX0_areClouds_131 : decode cX0_areClouds 131 = .ok (.iconst 0, 1) := by decide +kernel
theorem dX0_areClouds_132 : decode cX0_areClouds 132 = .ok (.ireturn, 1) := by decide +kernel
theorem dX0_attempt_0 : decode cX0_attempt 0 = .ok (.aload_n 0, 1) := by decide +kernel
theorem dX0_attempt_1 : decode cX0_attempt 1 = .ok (.aload_n 1, 1) := by decide +kernel
theorem dX0_attempt_2 : decode cX0_attempt 2 = .ok (.iload_n 2, 1) := by decide +kernel
theorem dX0_attempt_3 : decode cX0_attempt 3 = .ok (.iload_n 3, 1) := by decide +kernel
theorem dX0_attempt_4 : decode cX0_attempt 4 = .ok (.invokevirtual 90, 3) := by decide +kernel
theorem dX0_attempt_7 : decode cX0_attempt 7 = .ok (.ifCond .ne 14, 3) := by decide +kernel
theorem dX0_attempt_10 : decode cX0_attempt 10 = .ok (.aload_n 1, 1) := by decide +kernel
theorem dX0_attempt_11 : decode cX0_attempt 11 = .ok (.dup, 1) := by decide +kernel
theorem dX0_attempt_12 : decode cX0_attempt 12 = .ok (.getfield 94, 3) := by decide +kernel
theorem dX0_attempt_15 : decode cX0_attempt 15 = .ok (.iconst 1, 1) := by decide +kernel
theorem dX0_attempt_16 : decode cX0_attempt 16 = .ok (.iadd, 1) := by decide +kernel
theorem dX0_attempt_17 : decode cX0_attempt 17 = .ok (.putfield 94, 3) := by decide +kernel
theorem dX0_attempt_20 : decode cX0_attempt 20 = .ok (.return_, 1) := by decide +kernel
theorem dX0_attempt_21 : decode cX0_attempt 21 = .ok (.aload_n 1, 1) := by decide +kernel
theorem dX0_attempt_22 : decode cX0_attempt 22 = .ok (.dup, 1) := by decide +kernel
theorem dX0_attempt_23 : decode cX0_attempt 23 = .ok (.getfield 97, 3) := by decide +kernel
theorem dX0_attempt_26 : decode cX0_attempt 26 = .ok (.iload_n 2, 1) := by decide +kernel
theorem dX0_attempt_27 : decode cX0_attempt 27 = .ok (.invokestatic 100, 3) := by decide +kernel
theorem dX0_attempt_30 : decode cX0_attempt 30 = .ok (.iadd, 1) := by decide +kernel
theorem dX0_attempt_31 : decode cX0_attempt 31 = .ok (.putfield 97, 3) := by decide +kernel
theorem dX0_attempt_34 : decode cX0_attempt 34 = .ok (.aload_n 1, 1) := by decide +kernel
theorem dX0_attempt_35 : decode cX0_attempt 35 = .ok (.dup, 1) := by decide +kernel
theorem dX0_attempt_36 : decode cX0_attempt 36 = .ok (.getfield 104, 3) := by decide +kernel
theorem dX0_attempt_39 : decode cX0_attempt 39 = .ok (.iload_n 2, 1) := by decide +kernel
theorem dX0_attempt_40 : decode cX0_attempt 40 = .ok (.invokestatic 107, 3) := by decide +kernel
theorem dX0_attempt_43 : decode cX0_attempt 43 = .ok (.iadd, 1) := by decide +kernel
theorem dX0_attempt_44 : decode cX0_attempt 44 = .ok (.putfield 104, 3) := by decide +kernel
theorem dX0_attempt_47 : decode cX0_attempt 47 = .ok (.iload_n 3, 1) := by decide +kernel
theorem dX0_attempt_48 : decode cX0_attempt 48 = .ok (.bipush 8, 2) := by decide +kernel
theorem dX0_attempt_50 : decode cX0_attempt 50 = .ok (.iand, 1) := by decide +kernel
theorem dX0_attempt_51 : decode cX0_attempt 51 = .ok (.ifCond .ne 23, 3) := by decide +kernel
theorem dX0_attempt_54 : decode cX0_attempt 54 = .ok (.aload_n 0, 1) := by decide +kernel
theorem dX0_attempt_55 : decode cX0_attempt 55 = .ok (.aload_n 1, 1) := by decide +kernel
theorem dX0_attempt_56 : decode cX0_attempt 56 = .ok (.iconst 0, 1) := by decide +kernel
theorem dX0_attempt_57 : decode cX0_attempt 57 = .ok (.iconst 0, 1) := by decide +kernel
theorem dX0_attempt_58 : decode cX0_attempt 58 = .ok (.iconst 0, 1) := by decide +kernel
theorem dX0_attempt_59 : decode cX0_attempt 59 = .ok (.invokevirtual 110, 3) := by decide +kernel
theorem dX0_attempt_62 : decode cX0_attempt 62 = .ok (.aload_n 1, 1) := by decide +kernel
theorem dX0_attempt_63 : decode cX0_attempt 63 = .ok (.aload_n 0, 1) := by decide +kernel
theorem dX0_attempt_64 : decode cX0_attempt 64 = .ok (.iconst 2, 1) := by decide +kernel
theorem dX0_attempt_65 : decode cX0_attempt 65 = .ok (.bipush 9, 2) := by decide +kernel
theorem dX0_attempt_67 : decode cX0_attempt 67 = .ok (.iconst 1, 1) := by decide +kernel
theorem dX0_attempt_68 : decode cX0_attempt 68 = .ok (.invokevirtual 114, 3) := by decide +kernel
theorem dX0_attempt_71 : decode cX0_attempt 71 = .ok (.invokevirtual 118, 3) := by decide +kernel
theorem dX0_attempt_74 : decode cX0_attempt 74 = .ok (.return_, 1) := by decide +kernel
theorem dX0_isOpen_0 : decode cX0_isOpen 0 = .ok (.aload_n 1, 1) := by decide +kernel
theorem dX0_isOpen_1 : decode cX0_isOpen 1 = .ok (.getfield 97, 3) := by decide +kernel
theorem dX0_isOpen_4 : decode cX0_isOpen 4 = .ok (.iload_n 2, 1) := by decide +kernel
theorem dX0_isOpen_5 : decode cX0_isOpen 5 = .ok (.invokestatic 100, 3) := by decide +kernel
theorem dX0_isOpen_8 : decode cX0_isOpen 8 = .ok (.iadd, 1) := by decide +kernel
theorem dX0_isOpen_9 : decode cX0_isOpen 9 = .ok (.istore 4, 2) := by decide +kernel
theorem dX0_isOpen_11 : decode cX0_isOpen 11 = .ok (.aload_n 1, 1) := by decide +kernel
theorem dX0_isOpen_12 : decode cX0_isOpen 12 = .ok (.getfield 104, 3) := by decide +kernel
theorem dX0_isOpen_15 : decode cX0_isOpen 15 = .ok (.iload_n 2, 1) := by decide +kernel
theorem dX0_isOpen_16 : decode cX0_isOpen 16 = .ok (.invokestatic 107, 3) := by decide +kernel
theorem dX0_isOpen_19 : decode cX0_isOpen 19 = .ok (.iadd, 1) := by decide +kernel
theorem dX0_isOpen_20 : decode cX0_isOpen 20 = .ok (.istore 5, 2) := by decide +kernel
theorem dX0_isOpen_22 : decode cX0_isOpen 22 = .ok (.iload_n 3, 1) := by decide +kernel
theorem dX0_isOpen_23 : decode cX0_isOpen 23 = .ok (.iconst 4, 1) := by decide +kernel
theorem dX0_isOpen_24 : decode cX0_isOpen 24 = .ok (.iand, 1) := by decide +kernel
theorem dX0_isOpen_25 : decode cX0_isOpen 25 = .ok (.ifCond .ne 17, 3) := by decide +kernel
theorem dX0_isOpen_28 : decode cX0_isOpen 28 = .ok (.aload_n 0, 1) := by decide +kernel
theorem dX0_isOpen_29 : decode cX0_isOpen 29 = .ok (.getfield 15, 3) := by decide +kernel
theorem dX0_isOpen_32 : decode cX0_isOpen 32 = .ok (.iload 4, 2) := by decide +kernel
theorem dX0_isOpen_34 : decode cX0_isOpen 34 = .ok (.iload 5, 2) := by decide +kernel
theorem dX0_isOpen_36 : decode cX0_isOpen 36 = .ok (.invokevirtual 122, 3) := by decide +kernel
theorem dX0_isOpen_39 : decode cX0_isOpen 39 = .ok (.ifCond .ne 7, 3) := by decide +kernel
theorem dX0_isOpen_42 : decode cX0_isOpen 42 = .ok (.iconst 1, 1) := by decide +kernel
theorem dX0_isOpen_43 : decode cX0_isOpen 43 = .ok (.goto 4, 3) := by decide +kernel
theorem dX0_isOpen_46 : decode cX0_isOpen 46 = .ok (.iconst 0, 1) := by decide +kernel
theorem dX0_isOpen_47 : decode cX0_isOpen 47 = .ok (.istore 6, 2) := by decide +kernel
theorem dX0_isOpen_49 : decode cX0_isOpen 49 = .ok (.aload_n 0, 1) := by decide +kernel
theorem dX0_isOpen_50 : decode cX0_isOpen 50 = .ok (.getfield 15, 3) := by decide +kernel
theorem dX0_isOpen_53 : decode cX0_isOpen 53 = .ok (.iload 4, 2) := by decide +kernel
theorem dX0_isOpen_55 : decode cX0_isOpen 55 = .ok (.iload 5, 2) := by decide +kernel
theorem dX0_isOpen_57 : decode cX0_isOpen 57 = .ok (.invokevirtual 126, 3) := by decide +kernel
theorem dX0_isOpen_60 : decode cX0_isOpen 60 = .ok (.ifCond .eq 21, 3) := by decide +kernel
theorem dX0_isOpen_63 : decode cX0_isOpen 63 = .ok (.iload 6, 2) := by decide +kernel
theorem dX0_isOpen_65 : decode cX0_isOpen 65 = .ok (.ifCond .eq 16, 3) := by decide +kernel
theorem dX0_isOpen_68 : decode cX0_isOpen 68 = .ok (.aload_n 1, 1) := by decide +kernel
theorem dX0_isOpen_69 : decode cX0_isOpen 69 = .ok (.getfield 71, 3) := by decide +kernel
theorem dX0_isOpen_72 : decode cX0_isOpen 72 = .ok (.bipush 9, 2) := by decide +kernel
theorem dX0_isOpen_74 : decode cX0_isOpen 74 = .ok (.if_icmp .ge 7, 3) := by decide +kernel
theorem dX0_isOpen_77 : decode cX0_isOpen 77 = .ok (.iconst 1, 1) := by decide +kernel
theorem dX0_isOpen_78 : decode cX0_isOpen 78 = .ok (.goto 4, 3) := by decide +kernel
theorem dX0_isOpen_81 : decode cX0_isOpen 81 = .ok (.iconst 0, 1) := by decide +kernel
theorem dX0_isOpen_82 : decode cX0_isOpen 82 = .ok (.ireturn, 1) := by decide +kernel
theorem dX0_fallNow_0 : decode cX0_fallNow 0 = .ok (.aload_n 0, 1) := by decide +kernel
theorem dX0_fallNow_1 : decode cX0_fallNow 1 = .ok (.aload_n 1, 1) := by decide +kernel
theorem dX0_fallNow_2 : decode cX0_fallNow 2 = .ok (.aload_n 0, 1) := by decide +kernel
theorem dX0_fallNow_3 : decode cX0_fallNow 3 = .ok (.getfield 15, 3) := by decide +kernel
theorem dX0_fallNow_6 : decode cX0_fallNow 6 = .ok (.getfield 74, 3) := by decide +kernel
theorem dX0_fallNow_9 : decode cX0_fallNow 9 = .ok (.bipush 50, 2) := by decide +kernel
theorem dX0_fallNow_11 : decode cX0_fallNow 11 = .ok (.if_icmp .lt 7, 3) := by decide +kernel
theorem dX0_fallNow_14 : decode cX0_fallNow 14 = .ok (.iconst 1, 1) := by decide +kernel
theorem dX0_fallNow_15 : decode cX0_fallNow 15 = .ok (.goto 4, 3) := by decide +kernel
theorem dX0_fallNow_18 : decode cX0_fallNow 18 = .ok (.iconst 0, 1) := by decide +kernel
theorem dX0_fallNow_19 : decode cX0_fallNow 19 = .ok (.iconst 0, 1) := by decide +kernel
theorem dX0_fallNow_20 : decode cX0_fallNow 20 = .ok (.invokevirtual 53, 3) := by decide +kernel
theorem dX0_fallNow_23 : decode cX0_fallNow 23 = .ok (.return_, 1) := by decide +kernel
theorem dX0_fall_0 : decode cX0_fall 0 = .ok (.iload_n 2, 1) := by decide +kernel
theorem dX0_fall_1 : decode cX0_fall 1 = .ok (.ifCond .ne 10, 3) := by decide +kernel
theorem dX0_fall_4 : decode cX0_fall 4 = .ok (.iload_n 3, 1) := by decide +kernel
theorem dX0_fall_5 : decode cX0_fall 5 = .ok (.bipush 16, 2) := by decide +kernel
theorem dX0_fall_7 : decode cX0_fall 7 = .ok (.iand, 1) := by decide +kernel
theorem dX0_fall_8 : decode cX0_fall 8 = .ok (.ifCond .eq 7, 3) := by decide +kernel
theorem dX0_fall_11 : decode cX0_fall 11 = .ok (.iconst (-1), 1) := by decide +kernel
theorem dX0_fall_12 : decode cX0_fall 12 = .ok (.goto 14, 3) := by decide +kernel
theorem dX0_fall_15 : decode cX0_fall 15 = .ok (.aload_n 0, 1) := by decide +kernel
theorem dX0_fall_16 : decode cX0_fall 16 = .ok (.getfield 15, 3) := by decide +kernel
theorem dX0_fall_19 : decode cX0_fall 19 = .ok (.aload_n 1, 1) := by decide +kernel
theorem dX0_fall_20 : decode cX0_fall 20 = .ok (.getfield 43, 3) := by decide +kernel
theorem dX0_fall_23 : decode cX0_fall 23 = .ok (.invokevirtual 129, 3) := by decide +kernel
theorem dX0_fall_26 : decode cX0_fall 26 = .ok (.istore 4, 2) := by decide +kernel
theorem dX0_fall_28 : decode cX0_fall 28 = .ok (.aload_n 1, 1) := by decide +kernel
theorem dX0_fall_29 : decode cX0_fall 29 = .ok (.aload_n 0, 1) := by decide +kernel
theorem dX0_fall_30 : decode cX0_fall 30 = .ok (.getfield 15, 3) := by decide +kernel
theorem dX0_fall_33 : decode cX0_fall 33 = .ok (.getfield 77, 3) := by decide +kernel
theorem dX0_fall_36 : decode cX0_fall 36 = .ok (.iload 4, 2) := by decide +kernel
theorem dX0_fall_38 : decode cX0_fall 38 = .ok (.iconst 2, 1) := by decide +kernel
theorem dX0_fall_39 : decode cX0_fall 39 = .ok (.invokevirtual 39, 3) := by decide +kernel
theorem dX0_fall_42 : decode cX0_fall 42 = .ok (.putfield 132, 3) := by decide +kernel
theorem dX0_fall_45 : decode cX0_fall 45 = .ok (.aload_n 1, 1) := by decide +kernel
theorem dX0_fall_46 : decode cX0_fall 46 = .ok (.getfield 132, 3) := by decide +kernel
theorem dX0_fall_49 : decode cX0_fall 49 = .ok (.ifCond .le 21, 3) := by decide +kernel
theorem dX0_fall_52 : decode cX0_fall 52 = .ok (.aload_n 0, 1) := by decide +kernel
theorem dX0_fall_53 : decode cX0_fall 53 = .ok (.getfield 15, 3) := by decide +kernel
theorem dX0_fall_56 : decode cX0_fall 56 = .ok (.getfield 77, 3) := by decide +kernel
theorem dX0_fall_59 : decode cX0_fall 59 = .ok (.iload 4, 2) := by decide +kernel
theorem dX0_fall_61 : decode cX0_fall 61 = .ok (.iconst 1, 1) := by decide +kernel
theorem dX0_fall_62 : decode cX0_fall 62 = .ok (.invokevirtual 39, 3) := by decide +kernel
theorem dX0_fall_65 : decode cX0_fall 65 = .ok (.istore 5, 2) := by decide +kernel
theorem dX0_fall_67 : decode cX0_fall 67 = .ok (.goto 40, 3) := by decide +kernel
theorem dX0_fall_70 : decode cX0_fall 70 = .ok (.aload_n 0, 1) := by decide +kernel
theorem dX0_fall_71 : decode cX0_fall 71 = .ok (.aload_n 1, 1) := by decide +kernel
theorem dX0_fall_72 : decode cX0_fall 72 = .ok (.invokevirtual 135, 3) := by decide +kernel
theorem dX0_fall_75 : decode cX0_fall 75 = .ok (.istore 6, 2) := by decide +kernel
theorem dX0_fall_77 : decode cX0_fall 77 = .ok (.aload_n 0, 1) := by decide +kernel
theorem dX0_fall_78 : decode cX0_fall 78 = .ok (.aload_n 1, 1) := by decide +kernel
theorem dX0_fall_79 : decode cX0_fall 79 = .ok (.iload 6, 2) := by decide +kernel
theorem dX0_fall_81 : decode cX0_fall 81 = .ok (.invokevirtual 139, 3) := by decide +kernel
theorem dX0_fall_84 : decode cX0_fall 84 = .ok (.istore 5, 2) := by decide +kernel
theorem dX0_fall_86 : decode cX0_fall 86 = .ok (.aload_n 1, 1) := by decide +kernel
theorem dX0_fall_87 : decode cX0_fall 87 = .ok (.iload 6, 2) := by decide +kernel
theorem dX0_fall_89 : decode cX0_fall 89 = .ok (.iconst (-1), 1) := by decide +kernel
theorem dX0_fall_90 : decode cX0_fall 90 = .ok (.if_icmp .ne 7, 3) := by decide +kernel
theorem dX0_fall_93 : decode cX0_fall 93 = .ok (.iconst 0, 1) := by decide +kernel
theorem dX0_fall_94 : decode cX0_fall 94 = .ok (.goto 10, 3) := by decide +kernel
theorem dX0_fall_97 : decode cX0_fall 97 = .ok (.aload_n 0, 1) := by decide +kernel
theorem dX0_fall_98 : decode cX0_fall 98 = .ok (.aload_n 1, 1) := by decide +kernel
theorem dX0_fall_99 : decode cX0_fall 99 = .ok (.iload 6, 2) := by decide +kernel
theorem dX0_fall_101 : decode cX0_fall 101 = .ok (.invokevirtual 143, 3) := by decide +kernel
theorem dX0_fall_104 : decode cX0_fall 104 = .ok (.putfield 132, 3) := by decide +kernel
theorem dX0_fall_107 : decode cX0_fall 107 = .ok (.aload_n 0, 1) := by decide +kernel
theorem dX0_fall_108 : decode cX0_fall 108 = .ok (.aload_n 1, 1) := by decide +kernel
theorem dX0_fall_109 : decode cX0_fall 109 = .ok (.aload_n 1, 1) := by decide +kernel
theorem dX0_fall_110 : decode cX0_fall 110 = .ok (.getfield 132, 3) := by decide +kernel
theorem dX0_fall_113 : decode cX0_fall 113 = .ok (.iconst 0, 1) := by decide +kernel
theorem dX0_fall_114 : decode cX0_fall 114 = .ok (.iconst 0, 1) := by decide +kernel
theorem dX0_fall_115 : decode cX0_fall 115 = .ok (.invokevirtual 110, 3) := by decide +kernel
theorem dX0_fall_118 : decode cX0_fall 118 = .ok (.aload_n 1, 1) := by decide +kernel
theorem dX0_fall_119 : decode cX0_fall 119 = .ok (.getfield 132, 3) := by decide +kernel
theorem dX0_fall_122 : decode cX0_fall 122 = .ok (.ifCond .ne 7, 3) := by decide +kernel
theorem dX0_fall_125 : decode cX0_fall 125 = .ok (.iconst 0, 1) := by decide +kernel
theorem dX0_fall_126 : decode cX0_fall 126 = .ok (.goto 14, 3) := by decide +kernel
theorem dX0_fall_129 : decode cX0_fall 129 = .ok (.aload_n 0, 1) := by decide +kernel
theorem dX0_fall_130 : decode cX0_fall 130 = .ok (.iconst 0, 1) := by decide +kernel
theorem dX0_fall_131 : decode cX0_fall 131 = .ok (.bipush 7, 2) := by decide +kernel
theorem dX0_fall_133 : decode cX0_fall 133 = .ok (.aload_n 1, 1) := by decide +kernel
theorem dX0_fall_134 : decode cX0_fall 134 = .ok (.getfield 132, 3) := by decide +kernel
theorem dX0_fall_137 : decode cX0_fall 137 = .ok (.invokevirtual 114, 3) := by decide +kernel
theorem dX0_fall_140 : decode cX0_fall 140 = .ok (.istore 6, 2) := by decide +kernel
theorem dX0_fall_142 : decode cX0_fall 142 = .ok (.aload_n 1, 1) := by decide +kernel
theorem dX0_fall_143 : decode cX0_fall 143 = .ok (.iconst 0, 1) := by decide +kernel
theorem dX0_fall_144 : decode cX0_fall 144 = .ok (.aload_n 0, 1) := by decide +kernel
theorem dX0_fall_145 : decode cX0_fall 145 = .ok (.getfield 15, 3) := by decide +kernel
theorem dX0_fall_148 : decode cX0_fall 148 = .ok (.getfield 146, 3) := by decide +kernel
theorem dX0_fall_151 : decode cX0_fall 151 = .ok (.iconst 1, 1) := by decide +kernel
theorem dX0_fall_152 : decode cX0_fall 152 = .ok (.isub, 1) := by decide +kernel
theorem dX0_fall_153 : decode cX0_fall 153 = .ok (.aload_n 1, 1) := by decide +kernel
theorem dX0_fall_154 : decode cX0_fall 154 = .ok (.getfield 97, 3) := by decide +kernel
theorem dX0_fall_157 : decode cX0_fall 157 = .ok (.iload 6, 2) := by decide +kernel
theorem dX0_fall_159 : decode cX0_fall 159 = .ok (.iload 5, 2) := by decide +kernel
theorem dX0_fall_161 : decode cX0_fall 161 = .ok (.invokestatic 100, 3) := by decide +kernel
theorem dX0_fall_164 : decode cX0_fall 164 = .ok (.imul, 1) := by decide +kernel
theorem dX0_fall_165 : decode cX0_fall 165 = .ok (.iadd, 1) := by decide +kernel
theorem dX0_fall_166 : decode cX0_fall 166 = .ok (.invokestatic 149, 3) := by decide +kernel
theorem dX0_fall_169 : decode cX0_fall 169 = .ok (.invokestatic 154, 3) := by decide +kernel
theorem dX0_fall_172 : decode cX0_fall 172 = .ok (.putfield 157, 3) := by decide +kernel
theorem dX0_fall_175 : decode cX0_fall 175 = .ok (.aload_n 1, 1) := by decide +kernel
theorem dX0_fall_176 : decode cX0_fall 176 = .ok (.iconst 0, 1) := by decide +kernel
theorem dX0_fall_177 : decode cX0_fall 177 = .ok (.aload_n 0, 1) := by decide +kernel
theorem dX0_fall_178 : decode cX0_fall 178 = .ok (.getfield 15, 3) := by decide +kernel
theorem dX0_fall_181 : decode cX0_fall 181 = .ok (.getfield 160, 3) := by decide +kernel
theorem dX0_fall_184 : decode cX0_fall 184 = .ok (.iconst 1, 1) := by decide +kernel
theorem dX0_fall_185 : decode cX0_fall 185 = .ok (.isub, 1) := by decide +kernel
theorem dX0_fall_186 : decode cX0_fall 186 = .ok (.aload_n 1, 1) := by decide +kernel
theorem dX0_fall_187 : decode cX0_fall 187 = .ok (.getfield 104, 3) := by decide +kernel
theorem dX0_fall_190 : decode cX0_fall 190 = .ok (.iload 6, 2) := by decide +kernel
theorem dX0_fall_192 : decode cX0_fall 192 = .ok (.iload 5, 2) := by decide +kernel
theorem dX0_fall_194 : decode cX0_fall 194 = .ok (.invokestatic 107, 3) := by decide +kernel
theorem dX0_fall_197 : decode cX0_fall 197 = .ok (.imul, 1) := by decide +kernel
theorem dX0_fall_198 : decode cX0_fall 198 = .ok (.iadd, 1) := by decide +kernel
theorem dX0_fall_199 : decode cX0_fall 199 = .ok (.invokestatic 149, 3) := by decide +kernel
theorem dX0_fall_202 : decode cX0_fall 202 = .ok (.invokestatic 154, 3) := by decide +kernel
theorem dX0_fall_205 : decode cX0_fall 205 = .ok (.putfield 163, 3) := by decide +kernel
theorem dX0_fall_208 : decode cX0_fall 208 = .ok (.aload_n 1, 1) := by decide +kernel
theorem dX0_fall_209 : decode cX0_fall 209 = .ok (.aload_n 1, 1) := by decide +kernel
theorem dX0_fall_210 : decode cX0_fall 210 = .ok (.aload_n 1, 1) := by decide +kernel
theorem dX0_fall_211 : decode cX0_fall 211 = .ok (.getfield 157, 3) := by decide +kernel
theorem dX0_fall_214 : decode cX0_fall 214 = .ok (.aload_n 1, 1) := by decide +kernel
theorem dX0_fall_215 : decode cX0_fall 215 = .ok (.getfield 163, 3) := by decide +kernel
theorem dX0_fall_218 : decode cX0_fall 218 = .ok (.invokevirtual 166, 3) := by decide +kernel
theorem dX0_fall_221 : decode cX0_fall 221 = .ok (.putfield 57, 3) := by decide +kernel
theorem dX0_fall_224 : decode cX0_fall 224 = .ok (.return_, 1) := by decide +kernel
theorem dX0_nearestLamp_0 : decode cX0_nearestLamp 0 = .ok (.iconst (-1), 1) := by decide +kernel
theorem dX0_nearestLamp_1 : decode cX0_nearestLamp 1 = .ok (.istore_n 2, 1) := by decide +kernel
theorem dX0_nearestLamp_2 : decode cX0_nearestLamp 2 = .ok (.iconst 0, 1) := by decide +kernel
theorem dX0_nearestLamp_3 : decode cX0_nearestLamp 3 = .ok (.istore_n 3, 1) := by decide +kernel
theorem dX0_nearestLamp_4 : decode cX0_nearestLamp 4 = .ok (.iconst 0, 1) := by decide +kernel
theorem dX0_nearestLamp_5 : decode cX0_nearestLamp 5 = .ok (.istore 4, 2) := by decide +kernel
theorem dX0_nearestLamp_7 : decode cX0_nearestLamp 7 = .ok (.iload 4, 2) := by decide +kernel
theorem dX0_nearestLamp_9 : decode cX0_nearestLamp 9 = .ok (.aload_n 0, 1) := by decide +kernel
theorem dX0_nearestLamp_10 : decode cX0_nearestLamp 10 = .ok (.getfield 15, 3) := by decide +kernel
theorem dX0_nearestLamp_13 : decode cX0_nearestLamp 13 = .ok (.getfield 169, 3) := by decide +kernel
theorem dX0_nearestLamp_16 : decode cX0_nearestLamp 16 = .ok (.invokevirtual 33, 3) := by decide +kernel
theorem dX0_nearestLamp_19 : decode cX0_nearestLamp 19 = .ok (.if_icmp .ge 78, 3) := by decide +kernel
theorem dX0_nearestLamp_22 : decode cX0_nearestLamp 22 = .ok (.aload_n 0, 1) := by decide +kernel
theorem dX0_nearestLamp_23 : decode cX0_nearestLamp 23 = .ok (.aload_n 1, 1) := by decide +kernel
theorem dX0_nearestLamp_24 : decode cX0_nearestLamp 24 = .ok (.iload 4, 2) := by decide +kernel
theorem dX0_nearestLamp_26 : decode cX0_nearestLamp 26 = .ok (.invokevirtual 143, 3) := by decide +kernel
theorem dX0_nearestLamp_29 : decode cX0_nearestLamp 29 = .ok (.istore 5, 2) := by decide +kernel
theorem dX0_nearestLamp_31 : decode cX0_nearestLamp 31 = .ok (.aload_n 1, 1) := by decide +kernel
theorem dX0_nearestLamp_32 : decode cX0_nearestLamp 32 = .ok (.getfield 172, 3) := by decide +kernel
theorem dX0_nearestLamp_35 : decode cX0_nearestLamp 35 = .ok (.iload 4, 2) := by decide +kernel
theorem dX0_nearestLamp_37 : decode cX0_nearestLamp 37 = .ok (.ishr, 1) := by decide +kernel
theorem dX0_nearestLamp_38 : decode cX0_nearestLamp 38 = .ok (.iconst 1, 1) := by decide +kernel
theorem dX0_nearestLamp_39 : decode cX0_nearestLamp 39 = .ok (.iand, 1) := by decide +kernel
theorem dX0_nearestLamp_40 : decode cX0_nearestLamp 40 = .ok (.iconst 1, 1) := by decide +kernel
theorem dX0_nearestLamp_41 : decode cX0_nearestLamp 41 = .ok (.if_icmp .ne 25, 3) := by decide +kernel
theorem dX0_nearestLamp_44 : decode cX0_nearestLamp 44 = .ok (.iload 5, 2) := by decide +kernel
theorem dX0_nearestLamp_46 : decode cX0_nearestLamp 46 = .ok (.aload_n 0, 1) := by decide +kernel
theorem dX0_nearestLamp_47 : decode cX0_nearestLamp 47 = .ok (.getfield 15, 3) := by decide +kernel
theorem dX0_nearestLamp_50 : decode cX0_nearestLamp 50 = .ok (.getfield 169, 3) := by decide +kernel
theorem dX0_nearestLamp_53 : decode cX0_nearestLamp 53 = .ok (.iload 4, 2) := by decide +kernel
theorem dX0_nearestLamp_55 : decode cX0_nearestLamp 55 = .ok (.iconst 3, 1) := by decide +kernel
theorem dX0_nearestLamp_56 : decode cX0_nearestLamp 56 = .ok (.invokevirtual 39, 3) := by decide +kernel
theorem dX0_nearestLamp_59 : decode cX0_nearestLamp 59 = .ok (.if_icmp .gt 7, 3) := by decide +kernel
theorem dX0_nearestLamp_62 : decode cX0_nearestLamp 62 = .ok (.iconst 1, 1) := by decide +kernel
theorem dX0_nearestLamp_63 : decode cX0_nearestLamp 63 = .ok (.goto 4, 3) := by decide +kernel
theorem dX0_nearestLamp_66 : decode cX0_nearestLamp 66 = .ok (.iconst 0, 1) := by decide +kernel
theorem dX0_nearestLamp_67 : decode cX0_nearestLamp 67 = .ok (.istore 6, 2) := by decide +kernel
theorem dX0_nearestLamp_69 : decode cX0_nearestLamp 69 = .ok (.iload 6, 2) := by decide +kernel
theorem dX0_nearestLamp_71 : decode cX0_nearestLamp 71 = .ok (.ifCond .eq 20, 3) := by decide +kernel
theorem dX0_nearestLamp_74 : decode cX0_nearestLamp 74 = .ok (.iload_n 2, 1) := by decide +kernel
theorem dX0_nearestLamp_75 : decode cX0_nearestLamp 75 = .ok (.iconst (-1), 1) := by decide +kernel
theorem dX0_nearestLamp_76 : decode cX0_nearestLamp 76 = .ok (.if_icmp .eq 9, 3) := by decide +kernel
theorem dX0_nearestLamp_79 : decode cX0_nearestLamp 79 = .ok (.iload 5, 2) := by decide +kernel
theorem dX0_nearestLamp_81 : decode cX0_nearestLamp 81 = .ok (.iload_n 3, 1) := by decide +kernel
theorem dX0_nearestLamp_82 : decode cX0_nearestLamp 82 = .ok (.if_icmp .ge 9, 3) := by decide +kernel
theorem dX0_nearestLamp_85 : decode cX0_nearestLamp 85 = .ok (.iload 4, 2) := by decide +kernel
theorem dX0_nearestLamp_87 : decode cX0_nearestLamp 87 = .ok (.istore_n 2, 1) := by decide +kernel
theorem dX0_nearestLamp_88 : decode cX0_nearestLamp 88 = .ok (.iload 5, 2) := by decide +kernel
theorem dX0_nearestLamp_90 : decode cX0_nearestLamp 90 = .ok (.istore_n 3, 1) := by decide +kernel
theorem dX0_nearestLamp_91 : decode cX0_nearestLamp 91 = .ok (.iinc 4 1, 3) := by decide +kernel
theorem dX0_nearestLamp_94 : decode cX0_nearestLamp 94 = .ok (.goto (-87), 3) := by decide +kernel
theorem dX0_nearestLamp_97 : decode cX0_nearestLamp 97 = .ok (.iload_n 2, 1) := by decide +kernel
theorem dX0_nearestLamp_98 : decode cX0_nearestLamp 98 = .ok (.ireturn, 1) := by decide +kernel
theorem dX0_distance_0 : decode cX0_distance 0 = .ok (.aload_n 1, 1) := by decide +kernel
theorem dX0_distance_1 : decode cX0_distance 1 = .ok (.getfield 97, 3) := by decide +kernel
theorem dX0_distance_4 : decode cX0_distance 4 = .ok (.aload_n 0, 1) := by decide +kernel
theorem dX0_distance_5 : decode cX0_distance 5 = .ok (.getfield 15, 3) := by decide +kernel
theorem dX0_distance_8 : decode cX0_distance 8 = .ok (.getfield 169, 3) := by decide +kernel
theorem dX0_distance_11 : decode cX0_distance 11 = .ok (.iload_n 2, 1) := by decide +kernel
theorem dX0_distance_12 : decode cX0_distance 12 = .ok (.iconst 1, 1) := by decide +kernel
theorem dX0_distance_13 : decode cX0_distance 13 = .ok (.invokevirtual 39, 3) := by decide +kernel
theorem dX0_distance_16 : decode cX0_distance 16 = .ok (.isub, 1) := by decide +kernel
theorem dX0_distance_17 : decode cX0_distance 17 = .ok (.invokestatic 175, 3) := by decide +kernel
theorem dX0_distance_20 : decode cX0_distance 20 = .ok (.aload_n 1, 1) := by decide +kernel
theorem dX0_distance_21 : decode cX0_distance 21 = .ok (.getfield 104, 3) := by decide +kernel
theorem dX0_distance_24 : decode cX0_distance 24 = .ok (.aload_n 0, 1) := by decide +kernel
theorem dX0_distance_25 : decode cX0_distance 25 = .ok (.getfield 15, 3) := by decide +kernel
theorem dX0_distance_28 : decode cX0_distance 28 = .ok (.getfield 169, 3) := by decide +kernel
theorem dX0_distance_31 : decode cX0_distance 31 = .ok (.iload_n 2, 1) := by decide +kernel
theorem dX0_distance_32 : decode cX0_distance 32 = .ok (.iconst 2, 1) := by decide +kernel
theorem dX0_distance_33 : decode cX0_distance 33 = .ok (.invokevirtual 39, 3) := by decide +kernel
theorem dX0_distance_36 : decode cX0_distance 36 = .ok (.isub, 1) := by decide +kernel
theorem dX0_distance_37 : decode cX0_distance 37 = .ok (.invokestatic 175, 3) := by decide +kernel
theorem dX0_distance_40 : decode cX0_distance 40 = .ok (.iadd, 1) := by decide +kernel
theorem dX0_distance_41 : decode cX0_distance 41 = .ok (.ireturn, 1) := by decide +kernel
theorem dX0_wayFrom_0 : decode cX0_wayFrom 0 = .ok (.aload_n 1, 1) := by decide +kernel
theorem dX0_wayFrom_1 : decode cX0_wayFrom 1 = .ok (.getfield 97, 3) := by decide +kernel
theorem dX0_wayFrom_4 : decode cX0_wayFrom 4 = .ok (.aload_n 0, 1) := by decide +kernel
theorem dX0_wayFrom_5 : decode cX0_wayFrom 5 = .ok (.getfield 15, 3) := by decide +kernel
theorem dX0_wayFrom_8 : decode cX0_wayFrom 8 = .ok (.getfield 169, 3) := by decide +kernel
theorem dX0_wayFrom_11 : decode cX0_wayFrom 11 = .ok (.iload_n 2, 1) := by decide +kernel
theorem dX0_wayFrom_12 : decode cX0_wayFrom 12 = .ok (.iconst 1, 1) := by decide +kernel
theorem dX0_wayFrom_13 : decode cX0_wayFrom 13 = .ok (.invokevirtual 39, 3) := by decide +kernel
theorem dX0_wayFrom_16 : decode cX0_wayFrom 16 = .ok (.isub, 1) := by decide +kernel
theorem dX0_wayFrom_17 : decode cX0_wayFrom 17 = .ok (.istore_n 3, 1) := by decide +kernel
theorem dX0_wayFrom_18 : decode cX0_wayFrom 18 = .ok (.aload_n 1, 1) := by decide +kernel
theorem dX0_wayFrom_19 : decode cX0_wayFrom 19 = .ok (.getfield 104, 3) := by decide +kernel
theorem dX0_wayFrom_22 : decode cX0_wayFrom 22 = .ok (.aload_n 0, 1) := by decide +kernel
theorem dX0_wayFrom_23 : decode cX0_wayFrom 23 = .ok (.getfield 15, 3) := by decide +kernel
theorem dX0_wayFrom_26 : decode cX0_wayFrom 26 = .ok (.getfield 169, 3) := by decide +kernel
theorem dX0_wayFrom_29 : decode cX0_wayFrom 29 = .ok (.iload_n 2, 1) := by decide +kernel
theorem dX0_wayFrom_30 : decode cX0_wayFrom 30 = .ok (.iconst 2, 1) := by decide +kernel
theorem dX0_wayFrom_31 : decode cX0_wayFrom 31 = .ok (.invokevirtual 39, 3) := by decide +kernel
theorem dX0_wayFrom_34 : decode cX0_wayFrom 34 = .ok (.isub, 1) := by decide +kernel
theorem dX0_wayFrom_35 : decode cX0_wayFrom 35 = .ok (.istore 4, 2) := by decide +kernel
theorem dX0_wayFrom_37 : decode cX0_wayFrom 37 = .ok (.iload_n 3, 1) := by decide +kernel
theorem dX0_wayFrom_38 : decode cX0_wayFrom 38 = .ok (.invokestatic 175, 3) := by decide +kernel
theorem dX0_wayFrom_41 : decode cX0_wayFrom 41 = .ok (.iload 4, 2) := by decide +kernel
theorem dX0_wayFrom_43 : decode cX0_wayFrom 43 = .ok (.invokestatic 175, 3) := by decide +kernel
theorem dX0_wayFrom_46 : decode cX0_wayFrom 46 = .ok (.if_icmp .lt 13, 3) := by decide +kernel
theorem dX0_wayFrom_49 : decode cX0_wayFrom 49 = .ok (.iload_n 3, 1) := by decide +kernel
theorem dX0_wayFrom_50 : decode cX0_wayFrom 50 = .ok (.ifCond .ge 7, 3) := by decide +kernel
theorem dX0_wayFrom_53 : decode cX0_wayFrom 53 = .ok (.iconst 0, 1) := by decide +kernel
theorem dX0_wayFrom_54 : decode cX0_wayFrom 54 = .ok (.goto 4, 3) := by decide +kernel
theorem dX0_wayFrom_57 : decode cX0_wayFrom 57 = .ok (.iconst 2, 1) := by decide +kernel
theorem dX0_wayFrom_58 : decode cX0_wayFrom 58 = .ok (.ireturn, 1) := by decide +kernel
theorem dX0_wayFrom_59 : decode cX0_wayFrom 59 = .ok (.iload 4, 2) := by decide +kernel
theorem dX0_wayFrom_61 : decode cX0_wayFrom 61 = .ok (.ifCond .ge 7, 3) := by decide +kernel
theorem dX0_wayFrom_64 : decode cX0_wayFrom 64 = .ok (.iconst 3, 1) := by decide +kernel
theorem dX0_wayFrom_65 : decode cX0_wayFrom 65 = .ok (.goto 4, 3) := by decide +kernel
theorem dX0_wayFrom_68 : decode cX0_wayFrom 68 = .ok (.iconst 1, 1) := by decide +kernel
theorem dX0_wayFrom_69 : decode cX0_wayFrom 69 = .ok (.ireturn, 1) := by decide +kernel
theorem dX0_finishDoings_0 : decode cX0_finishDoings 0 = .ok (.aload_n 0, 1) := by decide +kernel
theorem dX0_finishDoings_1 : decode cX0_finishDoings 1 = .ok (.getfield 15, 3) := by decide +kernel
theorem dX0_finishDoings_4 : decode cX0_finishDoings 4 = .ok (.getfield 178, 3) := by decide +kernel
theorem dX0_finishDoings_7 : decode cX0_finishDoings 7 = .ok (.astore_n 2, 1) := by decide +kernel
theorem dX0_finishDoings_8 : decode cX0_finishDoings 8 = .ok (.iconst 0, 1) := by decide +kernel
theorem dX0_finishDoings_9 : decode cX0_finishDoings 9 = .ok (.istore_n 3, 1) := by decide +kernel
theorem dX0_finishDoings_10 : decode cX0_finishDoings 10 = .ok (.iload_n 3, 1) := by decide +kernel
theorem dX0_finishDoings_11 : decode cX0_finishDoings 11 = .ok (.aload_n 2, 1) := by decide +kernel
theorem dX0_finishDoings_12 : decode cX0_finishDoings 12 = .ok (.invokevirtual 33, 3) := by decide +kernel
theorem dX0_finishDoings_15 : decode cX0_finishDoings 15 = .ok (.if_icmp .ge 83, 3) := by decide +kernel
theorem dX0_finishDoings_18 : decode cX0_finishDoings 18 = .ok (.aload_n 2, 1) := by decide +kernel
theorem dX0_finishDoings_19 : decode cX0_finishDoings 19 = .ok (.iload_n 3, 1) := by decide +kernel
theorem dX0_finishDoings_20 : decode cX0_finishDoings 20 = .ok (.iconst 2, 1) := by decide +kernel
theorem dX0_finishDoings_21 : decode cX0_finishDoings 21 = .ok (.invokevirtual 39, 3) := by decide +kernel
theorem dX0_finishDoings_24 : decode cX0_finishDoings 24 = .ok (.istore 4, 2) := by decide +kernel
theorem dX0_finishDoings_26 : decode cX0_finishDoings 26 = .ok (.aload_n 2, 1) := by decide +kernel
theorem dX0_finishDoings_27 : decode cX0_finishDoings 27 = .ok (.iload_n 3, 1) := by decide +kernel
theorem dX0_finishDoings_28 : decode cX0_finishDoings 28 = .ok (.iconst 3, 1) := by decide +kernel
theorem dX0_finishDoings_29 : decode cX0_finishDoings 29 = .ok (.invokevirtual 39, 3) := by decide +kernel
theorem dX0_finishDoings_32 : decode cX0_finishDoings 32 = .ok (.istore 5, 2) := by decide +kernel
theorem dX0_finishDoings_34 : decode cX0_finishDoings 34 = .ok (.aload_n 2, 1) := by decide +kernel
theorem dX0_finishDoings_35 : decode cX0_finishDoings 35 = .ok (.iload_n 3, 1) := by decide +kernel
theorem dX0_finishDoings_36 : decode cX0_finishDoings 36 = .ok (.iconst 1, 1) := by decide +kernel
theorem dX0_finishDoings_37 : decode cX0_finishDoings 37 = .ok (.invokevirtual 39, 3) := by decide +kernel
theorem dX0_finishDoings_40 : decode cX0_finishDoings 40 = .ok (.ifCond .ne 7, 3) := by decide +kernel
theorem dX0_finishDoings_43 : decode cX0_finishDoings 43 = .ok (.iconst 1, 1) := by decide +kernel
theorem dX0_finishDoings_44 : decode cX0_finishDoings 44 = .ok (.goto 4, 3) := by decide +kernel
theorem dX0_finishDoings_47 : decode cX0_finishDoings 47 = .ok (.iconst 0, 1) := by decide +kernel
theorem dX0_finishDoings_48 : decode cX0_finishDoings 48 = .ok (.istore 6, 2) := by decide +kernel
theorem dX0_finishDoings_50 : decode cX0_finishDoings 50 = .ok (.iload 6, 2) := by decide +kernel
theorem dX0_finishDoings_52 : decode cX0_finishDoings 52 = .ok (.ifCond .eq 17, 3) := by decide +kernel
theorem dX0_finishDoings_55 : decode cX0_finishDoings 55 = .ok (.aload_n 1, 1) := by decide +kernel
theorem dX0_finishDoings_56 : decode cX0_finishDoings 56 = .ok (.iload 4, 2) := by decide +kernel
theorem dX0_finishDoings_58 : decode cX0_finishDoings 58 = .ok (.iload 5, 2) := by decide +kernel
theorem dX0_finishDoings_60 : decode cX0_finishDoings 60 = .ok (.invokevirtual 166, 3) := by decide +kernel
theorem dX0_finishDoings_63 : decode cX0_finishDoings 63 = .ok (.ifCond .eq 29, 3) := by decide +kernel
theorem dX0_finishDoings_66 : decode cX0_finishDoings 66 = .ok (.goto 14, 3) := by decide +kernel
theorem dX0_finishDoings_69 : decode cX0_finishDoings 69 = .ok (.aload_n 1, 1) := by decide +kernel
theorem dX0_finishDoings_70 : decode cX0_finishDoings 70 = .ok (.iload 4, 2) := by decide +kernel
theorem dX0_finishDoings_72 : decode cX0_finishDoings 72 = .ok (.iload 5, 2) := by decide +kernel
theorem dX0_finishDoings_74 : decode cX0_finishDoings 74 = .ok (.invokevirtual 181, 3) := by decide +kernel
theorem dX0_finishDoings_77 : decode cX0_finishDoings 77 = .ok (.ifCond .eq 15, 3) := by decide +kernel
theorem dX0_finishDoings_80 : decode cX0_finishDoings 80 = .ok (.aload_n 1, 1) := by decide +kernel
theorem dX0_finishDoings_81 : decode cX0_finishDoings 81 = .ok (.dup, 1) := by decide +kernel
theorem dX0_finishDoings_82 : decode cX0_finishDoings 82 = .ok (.getfield 184, 3) := by decide +kernel
theorem dX0_finishDoings_85 : decode cX0_finishDoings 85 = .ok (.iconst 1, 1) := by decide +kernel
theorem dX0_finishDoings_86 : decode cX0_finishDoings 86 = .ok (.iload_n 3, 1) := by decide +kernel
theorem dX0_finishDoings_87 : decode cX0_finishDoings 87 = .ok (.ishl, 1) := by decide +kernel
theorem dX0_finishDoings_88 : decode cX0_finishDoings 88 = .ok (.ior, 1) := by decide +kernel
theorem dX0_finishDoings_89 : decode cX0_finishDoings 89 = .ok (.putfield 184, 3) := by decide +kernel
theorem dX0_finishDoings_92 : decode cX0_finishDoings 92 = .ok (.iinc 3 1, 3) := by decide +kernel
theorem dX0_finishDoings_95 : decode cX0_finishDoings 95 = .ok (.goto (-85), 3) := by decide +kernel
theorem dX0_finishDoings_98 : decode cX0_finishDoings 98 = .ok (.return_, 1) := by decide +kernel
theorem dX0_meetMen_0 : decode cX0_meetMen 0 = .ok (.iconst 0, 1) := by decide +kernel
theorem dX0_meetMen_1 : decode cX0_meetMen 1 = .ok (.istore_n 2, 1) := by decide +kernel
theorem dX0_meetMen_2 : decode cX0_meetMen 2 = .ok (.iload_n 2, 1) := by decide +kernel
theorem dX0_meetMen_3 : decode cX0_meetMen 3 = .ok (.aload_n 0, 1) := by decide +kernel
theorem dX0_meetMen_4 : decode cX0_meetMen 4 = .ok (.getfield 15, 3) := by decide +kernel
theorem dX0_meetMen_7 : decode cX0_meetMen 7 = .ok (.getfield 187, 3) := by decide +kernel
theorem dX0_meetMen_10 : decode cX0_meetMen 10 = .ok (.invokevirtual 33, 3) := by decide +kernel
theorem dX0_meetMen_13 : decode cX0_meetMen 13 = .ok (.if_icmp .ge 125, 3) := by decide +kernel
theorem dX0_meetMen_16 : decode cX0_meetMen 16 = .ok (.iload_n 2, 1) := by decide +kernel
theorem dX0_meetMen_17 : decode cX0_meetMen 17 = .ok (.iconst 4, 1) := by decide +kernel
theorem dX0_meetMen_18 : decode cX0_meetMen 18 = .ok (.if_icmp .ge 120, 3) := by decide +kernel
theorem dX0_meetMen_21 : decode cX0_meetMen 21 = .ok (.aload_n 0, 1) := by decide +kernel
theorem dX0_meetMen_22 : decode cX0_meetMen 22 = .ok (.getfield 15, 3) := by decide +kernel
theorem dX0_meetMen_25 : decode cX0_meetMen 25 = .ok (.getfield 187, 3) := by decide +kernel
theorem dX0_meetMen_28 : decode cX0_meetMen 28 = .ok (.iload_n 2, 1) := by decide +kernel
theorem dX0_meetMen_29 : decode cX0_meetMen 29 = .ok (.iconst 1, 1) := by decide +kernel
theorem dX0_meetMen_30 : decode cX0_meetMen 30 = .ok (.invokevirtual 39, 3) := by decide +kernel
theorem dX0_meetMen_33 : decode cX0_meetMen 33 = .ok (.istore_n 3, 1) := by decide +kernel
theorem dX0_meetMen_34 : decode cX0_meetMen 34 = .ok (.aload_n 0, 1) := by decide +kernel
theorem dX0_meetMen_35 : decode cX0_meetMen 35 = .ok (.getfield 15, 3) := by decide +kernel
theorem dX0_meetMen_38 : decode cX0_meetMen 38 = .ok (.getfield 187, 3) := by decide +kernel
theorem dX0_meetMen_41 : decode cX0_meetMen 41 = .ok (.iload_n 2, 1) := by decide +kernel
theorem dX0_meetMen_42 : decode cX0_meetMen 42 = .ok (.iconst 2, 1) := by decide +kernel
theorem dX0_meetMen_43 : decode cX0_meetMen 43 = .ok (.invokevirtual 39, 3) := by decide +kernel
theorem dX0_meetMen_46 : decode cX0_meetMen 46 = .ok (.istore 4, 2) := by decide +kernel
theorem dX0_meetMen_48 : decode cX0_meetMen 48 = .ok (.aload_n 1, 1) := by decide +kernel
theorem dX0_meetMen_49 : decode cX0_meetMen 49 = .ok (.iload_n 3, 1) := by decide +kernel
theorem dX0_meetMen_50 : decode cX0_meetMen 50 = .ok (.iload 4, 2) := by decide +kernel
theorem dX0_meetMen_52 : decode cX0_meetMen 52 = .ok (.invokevirtual 166, 3) := by decide +kernel
theorem dX0_meetMen_55 : decode cX0_meetMen 55 = .ok (.ifCond .eq 21, 3) := by decide +kernel
theorem dX0_meetMen_58 : decode cX0_meetMen 58 = .ok (.aload_n 1, 1) := by decide +kernel
theorem dX0_meetMen_59 : decode cX0_meetMen 59 = .ok (.getfield 190, 3) := by decide +kernel
theorem dX0_meetMen_62 : decode cX0_meetMen 62 = .ok (.iload_n 2, 1) := by decide +kernel
theorem dX0_meetMen_63 : decode cX0_meetMen 63 = .ok (.aload_n 1, 1) := by decide +kernel
theorem dX0_meetMen_64 : decode cX0_meetMen 64 = .ok (.getfield 190, 3) := by decide +kernel
theorem dX0_meetMen_67 : decode cX0_meetMen 67 = .ok (.iload_n 2, 1) := by decide +kernel
theorem dX0_meetMen_68 : decode cX0_meetMen 68 = .ok (.iaload, 1) := by decide +kernel
theorem dX0_meetMen_69 : decode cX0_meetMen 69 = .ok (.invokestatic 193, 3) := by decide +kernel
theorem dX0_meetMen_72 : decode cX0_meetMen 72 = .ok (.iastore, 1) := by decide +kernel
theorem dX0_meetMen_73 : decode cX0_meetMen 73 = .ok (.goto 59, 3) := by decide +kernel
theorem dX0_meetMen_76 : decode cX0_meetMen 76 = .ok (.aload_n 1, 1) := by decide +kernel
theorem dX0_meetMen_77 : decode cX0_meetMen 77 = .ok (.iload_n 3, 1) := by decide +kernel
theorem dX0_meetMen_78 : decode cX0_meetMen 78 = .ok (.iload 4, 2) := by decide +kernel
theorem dX0_meetMen_80 : decode cX0_meetMen 80 = .ok (.invokevirtual 181, 3) := by decide +kernel
theorem dX0_meetMen_83 : decode cX0_meetMen 83 = .ok (.ifCond .eq 49, 3) := by decide +kernel
theorem dX0_meetMen_86 : decode cX0_meetMen 86 = .ok (.aload_n 1, 1) := by decide +kernel
theorem dX0_meetMen_87 : decode cX0_meetMen 87 = .ok (.getfield 196, 3) := by decide +kernel
theorem dX0_meetMen_90 : decode cX0_meetMen 90 = .ok (.iload_n 2, 1) := by decide +kernel
theorem dX0_meetMen_91 : decode cX0_meetMen 91 = .ok (.aload_n 1, 1) := by decide +kernel
theorem dX0_meetMen_92 : decode cX0_meetMen 92 = .ok (.getfield 196, 3) := by decide +kernel
theorem dX0_meetMen_95 : decode cX0_meetMen 95 = .ok (.iload_n 2, 1) := by decide +kernel
theorem dX0_meetMen_96 : decode cX0_meetMen 96 = .ok (.iaload, 1) := by decide +kernel
theorem dX0_meetMen_97 : decode cX0_meetMen 97 = .ok (.invokestatic 193, 3) := by decide +kernel
theorem dX0_meetMen_100 : decode cX0_meetMen 100 = .ok (.iastore, 1) := by decide +kernel
theorem dX0_meetMen_101 : decode cX0_meetMen 101 = .ok (.aload_n 0, 1) := by decide +kernel
theorem dX0_meetMen_102 : decode cX0_meetMen 102 = .ok (.aload_n 1, 1) := by decide +kernel
theorem dX0_meetMen_103 : decode cX0_meetMen 103 = .ok (.iconst 0, 1) := by decide +kernel
theorem dX0_meetMen_104 : decode cX0_meetMen 104 = .ok (.aload_n 1, 1) := by decide +kernel
theorem dX0_meetMen_105 : decode cX0_meetMen 105 = .ok (.getfield 190, 3) := by decide +kernel
theorem dX0_meetMen_108 : decode cX0_meetMen 108 = .ok (.iload_n 2, 1) := by decide +kernel
theorem dX0_meetMen_109 : decode cX0_meetMen 109 = .ok (.iaload, 1) := by decide +kernel
theorem dX0_meetMen_110 : decode cX0_meetMen 110 = .ok (.aload_n 1, 1) := by decide +kernel
theorem dX0_meetMen_111 : decode cX0_meetMen 111 = .ok (.getfield 196, 3) := by decide +kernel
theorem dX0_meetMen_114 : decode cX0_meetMen 114 = .ok (.iload_n 2, 1) := by decide +kernel
theorem dX0_meetMen_115 : decode cX0_meetMen 115 = .ok (.iaload, 1) := by decide +kernel
theorem dX0_meetMen_116 : decode cX0_meetMen 116 = .ok (.invokevirtual 110, 3) := by decide +kernel
theorem dX0_meetMen_119 : decode cX0_meetMen 119 = .ok (.aload_n 1, 1) := by decide +kernel
theorem dX0_meetMen_120 : decode cX0_meetMen 120 = .ok (.iload_n 2, 1) := by decide +kernel
theorem dX0_meetMen_121 : decode cX0_meetMen 121 = .ok (.aload_n 0, 1) := by decide +kernel
theorem dX0_meetMen_122 : decode cX0_meetMen 122 = .ok (.iconst 1, 1) := by decide +kernel
theorem dX0_meetMen_123 : decode cX0_meetMen 123 = .ok (.bipush 99, 2) := by decide +kernel
theorem dX0_meetMen_125 : decode cX0_meetMen 125 = .ok (.iconst 1, 1) := by decide +kernel
theorem dX0_meetMen_126 : decode cX0_meetMen 126 = .ok (.invokevirtual 114, 3) := by decide +kernel
theorem dX0_meetMen_129 : decode cX0_meetMen 129 = .ok (.invokevirtual 199, 3) := by decide +kernel
theorem dX0_meetMen_132 : decode cX0_meetMen 132 = .ok (.iinc 2 1, 3) := by decide +kernel
theorem dX0_meetMen_135 : decode cX0_meetMen 135 = .ok (.goto (-133), 3) := by decide +kernel
theorem dX0_meetMen_138 : decode cX0_meetMen 138 = .ok (.return_, 1) := by decide +kernel
theorem dX0_tell_0 : decode cX0_tell 0 = .ok (.aload_n 0, 1) := by decide +kernel
theorem dX0_tell_1 : decode cX0_tell 1 = .ok (.getfield 11, 3) := by decide +kernel
theorem dX0_tell_4 : decode cX0_tell 4 = .ok (.iconst 0, 1) := by decide +kernel
theorem dX0_tell_5 : decode cX0_tell 5 = .ok (.iload_n 2, 1) := by decide +kernel
theorem dX0_tell_6 : decode cX0_tell 6 = .ok (.iastore, 1) := by decide +kernel
theorem dX0_tell_7 : decode cX0_tell 7 = .ok (.aload_n 0, 1) := by decide +kernel
theorem dX0_tell_8 : decode cX0_tell 8 = .ok (.getfield 11, 3) := by decide +kernel
theorem dX0_tell_11 : decode cX0_tell 11 = .ok (.iconst 1, 1) := by decide +kernel
theorem dX0_tell_12 : decode cX0_tell 12 = .ok (.iload_n 3, 1) := by decide +kernel
theorem dX0_tell_13 : decode cX0_tell 13 = .ok (.iastore, 1) := by decide +kernel
theorem dX0_tell_14 : decode cX0_tell 14 = .ok (.aload_n 0, 1) := by decide +kernel
theorem dX0_tell_15 : decode cX0_tell 15 = .ok (.getfield 11, 3) := by decide +kernel
theorem dX0_tell_18 : decode cX0_tell 18 = .ok (.iconst 2, 1) := by decide +kernel
theorem dX0_tell_19 : decode cX0_tell 19 = .ok (.iload 4, 2) := by decide +kernel
theorem dX0_tell_21 : decode cX0_tell 21 = .ok (.iastore, 1) := by decide +kernel
theorem dX0_tell_22 : decode cX0_tell 22 = .ok (.aload_n 0, 1) := by decide +kernel
theorem dX0_tell_23 : decode cX0_tell 23 = .ok (.getfield 11, 3) := by decide +kernel
theorem dX0_tell_26 : decode cX0_tell 26 = .ok (.iconst 3, 1) := by decide +kernel
theorem dX0_tell_27 : decode cX0_tell 27 = .ok (.aload_n 1, 1) := by decide +kernel
theorem dX0_tell_28 : decode cX0_tell 28 = .ok (.getfield 184, 3) := by decide +kernel
theorem dX0_tell_31 : decode cX0_tell 31 = .ok (.invokestatic 203, 3) := by decide +kernel
theorem dX0_tell_34 : decode cX0_tell 34 = .ok (.iastore, 1) := by decide +kernel
theorem dX0_tell_35 : decode cX0_tell 35 = .ok (.aload_n 0, 1) := by decide +kernel
theorem dX0_tell_36 : decode cX0_tell 36 = .ok (.getfield 11, 3) := by decide +kernel
theorem dX0_tell_39 : decode cX0_tell 39 = .ok (.iconst 4, 1) := by decide +kernel
theorem dX0_tell_40 : decode cX0_tell 40 = .ok (.aload_n 1, 1) := by decide +kernel
theorem dX0_tell_41 : decode cX0_tell 41 = .ok (.getfield 71, 3) := by decide +kernel
theorem dX0_tell_44 : decode cX0_tell 44 = .ok (.iastore, 1) := by decide +kernel
theorem dX0_tell_45 : decode cX0_tell 45 = .ok (.aload_n 0, 1) := by decide +kernel
theorem dX0_tell_46 : decode cX0_tell 46 = .ok (.getfield 11, 3) := by decide +kernel
theorem dX0_tell_49 : decode cX0_tell 49 = .ok (.iconst 5, 1) := by decide +kernel
theorem dX0_tell_50 : decode cX0_tell 50 = .ok (.aload_n 1, 1) := by decide +kernel
theorem dX0_tell_51 : decode cX0_tell 51 = .ok (.getfield 172, 3) := by decide +kernel
theorem dX0_tell_54 : decode cX0_tell 54 = .ok (.invokestatic 203, 3) := by decide +kernel
theorem dX0_tell_57 : decode cX0_tell 57 = .ok (.iastore, 1) := by decide +kernel
theorem dX0_tell_58 : decode cX0_tell 58 = .ok (.aload_n 0, 1) := by decide +kernel
theorem dX0_tell_59 : decode cX0_tell 59 = .ok (.getfield 11, 3) := by decide +kernel
theorem dX0_tell_62 : decode cX0_tell 62 = .ok (.bipush 6, 2) := by decide +kernel
theorem dX0_tell_64 : decode cX0_tell 64 = .ok (.aload_n 1, 1) := by decide +kernel
theorem dX0_tell_65 : decode cX0_tell 65 = .ok (.getfield 43, 3) := by decide +kernel
theorem dX0_tell_68 : decode cX0_tell 68 = .ok (.bipush 24, 2) := by decide +kernel
theorem dX0_tell_70 : decode cX0_tell 70 = .ok (.irem, 1) := by decide +kernel
theorem dX0_tell_71 : decode cX0_tell 71 = .ok (.iastore, 1) := by decide +kernel
theorem dX0_tell_72 : decode cX0_tell 72 = .ok (.return_, 1) := by decide +kernel
theorem dX0_workOut_0 : decode cX0_workOut 0 = .ok (.aload_n 0, 1) := by decide +kernel
theorem dX0_workOut_1 : decode cX0_workOut 1 = .ok (.getfield 15, 3) := by decide +kernel
theorem dX0_workOut_4 : decode cX0_workOut 4 = .ok (.getfield 208, 3) := by decide +kernel
theorem dX0_workOut_7 : decode cX0_workOut 7 = .ok (.iload_n 1, 1) := by decide +kernel
theorem dX0_workOut_8 : decode cX0_workOut 8 = .ok (.aaload, 1) := by decide +kernel
theorem dX0_workOut_9 : decode cX0_workOut 9 = .ok (.aload_n 0, 1) := by decide +kernel
theorem dX0_workOut_10 : decode cX0_workOut 10 = .ok (.getfield 11, 3) := by decide +kernel
theorem dX0_workOut_13 : decode cX0_workOut 13 = .ok (.invokevirtual 212, 3) := by decide +kernel
theorem dX0_workOut_16 : decode cX0_workOut 16 = .ok (.lreturn, 1) := by decide +kernel
theorem dX0_within_0 : decode cX0_within 0 = .ok (.aload_n 0, 1) := by decide +kernel
theorem dX0_within_1 : decode cX0_within 1 = .ok (.getfield 15, 3) := by decide +kernel
theorem dX0_within_4 : decode cX0_within 4 = .ok (.getfield 208, 3) := by decide +kernel
theorem dX0_within_7 : decode cX0_within 7 = .ok (.iload_n 1, 1) := by decide +kernel
theorem dX0_within_8 : decode cX0_within 8 = .ok (.aaload, 1) := by decide +kernel
theorem dX0_within_9 : decode cX0_within 9 = .ok (.aload_n 0, 1) := by decide +kernel
theorem dX0_within_10 : decode cX0_within 10 = .ok (.getfield 11, 3) := by decide +kernel
theorem dX0_within_13 : decode cX0_within 13 = .ok (.invokevirtual 212, 3) := by decide +kernel
theorem dX0_within_16 : decode cX0_within 16 = .ok (.lstore 4, 2) := by decide +kernel
theorem dX0_within_18 : decode cX0_within 18 = .ok (.lload 4, 2) := by decide +kernel
theorem dX0_within_20 : decode cX0_within 20 = .ok (.ldc2_w 218, 3) := by decide +kernel
theorem dX0_within_23 : decode cX0_within 23 = .ok (.lcmp, 1) := by decide +kernel
theorem dX0_within_24 : decode cX0_within 24 = .ok (.ifCond .ne 7, 3) := by decide +kernel
theorem dX0_within_27 : decode cX0_within 27 = .ok (.iload_n 3, 1) := by decide +kernel
theorem dX0_within_28 : decode cX0_within 28 = .ok (.goto 15, 3) := by decide +kernel
theorem dX0_within_31 : decode cX0_within 31 = .ok (.lconst 0, 1) := by decide +kernel
theorem dX0_within_32 : decode cX0_within 32 = .ok (.iload_n 2, 1) := by decide +kernel
theorem dX0_within_33 : decode cX0_within 33 = .ok (.i2l, 1) := by decide +kernel
theorem dX0_within_34 : decode cX0_within 34 = .ok (.lload 4, 2) := by decide +kernel
theorem dX0_within_36 : decode cX0_within 36 = .ok (.invokestatic 220, 3) := by decide +kernel
theorem dX0_within_39 : decode cX0_within 39 = .ok (.invokestatic 223, 3) := by decide +kernel
theorem dX0_within_42 : decode cX0_within 42 = .ok (.l2i, 1) := by decide +kernel
theorem dX0_within_43 : decode cX0_within 43 = .ok (.ireturn, 1) := by decide +kernel
theorem dX1_init_0 : decode cX1_init 0 = .ok (.aload_n 0, 1) := by decide +kernel
theorem dX1_init_1 : decode cX1_init 1 = .ok (.invokespecial 3, 3) := by decide +kernel
theorem dX1_init_4 : decode cX1_init 4 = .ok (.aload_n 0, 1) := by decide +kernel
theorem dX1_init_5 : decode cX1_init 5 = .ok (.bipush 64, 2) := by decide +kernel
theorem dX1_init_7 : decode cX1_init 7 = .ok (.newarray .int, 2) := by decide +kernel
theorem dX1_init_9 : decode cX1_init 9 = .ok (.putfield 11, 3) := by decide +kernel
theorem dX1_init_12 : decode cX1_init 12 = .ok (.aload_n 0, 1) := by decide +kernel
theorem dX1_init_13 : decode cX1_init 13 = .ok (.bipush 64, 2) := by decide +kernel
theorem dX1_init_15 : decode cX1_init 15 = .ok (.newarray .long, 2) := by decide +kernel
theorem dX1_init_17 : decode cX1_init 17 = .ok (.putfield 15, 3) := by decide +kernel
theorem dX1_init_20 : decode cX1_init 20 = .ok (.return_, 1) := by decide +kernel
theorem dX1_empty_0 : decode cX1_empty 0 = .ok (.aload_n 0, 1) := by decide +kernel
theorem dX1_empty_1 : decode cX1_empty 1 = .ok (.iconst 0, 1) := by decide +kernel
theorem dX1_empty_2 : decode cX1_empty 2 = .ok (.putfield 19, 3) := by decide +kernel
theorem dX1_empty_5 : decode cX1_empty 5 = .ok (.return_, 1) := by decide +kernel
theorem dX1_isTold_0 : decode cX1_isTold 0 = .ok (.aload_n 0, 1) := by decide +kernel
theorem dX1_isTold_1 : decode cX1_isTold 1 = .ok (.getfield 19, 3) := by decide +kernel
theorem dX1_isTold_4 : decode cX1_isTold 4 = .ok (.ifCond .le 7, 3) := by decide +kernel
theorem dX1_isTold_7 : decode cX1_isTold 7 = .ok (.iconst 1, 1) := by decide +kernel
theorem dX1_isTold_8 : decode cX1_isTold 8 = .ok (.goto 4, 3) := by decide +kernel
theorem dX1_isTold_11 : decode cX1_isTold 11 = .ok (.iconst 0, 1) := by decide +kernel
theorem dX1_isTold_12 : decode cX1_isTold 12 = .ok (.ireturn, 1) := by decide +kernel
theorem dX1_add_0 : decode cX1_add 0 = .ok (.aload_n 0, 1) := by decide +kernel
theorem dX1_add_1 : decode cX1_add 1 = .ok (.getfield 19, 3) := by decide +kernel
theorem dX1_add_4 : decode cX1_add 4 = .ok (.bipush 64, 2) := by decide +kernel
theorem dX1_add_6 : decode cX1_add 6 = .ok (.if_icmp .ge 23, 3) := by decide +kernel
theorem dX1_add_9 : decode cX1_add 9 = .ok (.aload_n 0, 1) := by decide +kernel
theorem dX1_add_10 : decode cX1_add 10 = .ok (.getfield 11, 3) := by decide +kernel
theorem dX1_add_13 : decode cX1_add 13 = .ok (.aload_n 0, 1) := by decide +kernel
theorem dX1_add_14 : decode cX1_add 14 = .ok (.getfield 19, 3) := by decide +kernel
theorem dX1_add_17 : decode cX1_add 17 = .ok (.iload_n 1, 1) := by decide +kernel
theorem dX1_add_18 : decode cX1_add 18 = .ok (.iastore, 1) := by decide +kernel
theorem dX1_add_19 : decode cX1_add 19 = .ok (.aload_n 0, 1) := by decide +kernel
theorem dX1_add_20 : decode cX1_add 20 = .ok (.dup, 1) := by decide +kernel
theorem dX1_add_21 : decode cX1_add 21 = .ok (.getfield 19, 3) := by decide +kernel
theorem dX1_add_24 : decode cX1_add 24 = .ok (.iconst 1, 1) := by decide +kernel
theorem dX1_add_25 : decode cX1_add 25 = .ok (.iadd, 1) := by decide +kernel
theorem dX1_add_26 : decode cX1_add 26 = .ok (.putfield 19, 3) := by decide +kernel
theorem dX1_add_29 : decode cX1_add 29 = .ok (.return_, 1) := by decide +kernel
theorem dX1_workOut_0 : decode cX1_workOut 0 = .ok (.iconst 0, 1) := by decide +kernel
theorem dX1_workOut_1 : decode cX1_workOut 1 = .ok (.istore_n 2, 1) := by decide +kernel
theorem dX1_workOut_2 : decode cX1_workOut 2 = .ok (.iconst 0, 1) := by decide +kernel
theorem dX1_workOut_3 : decode cX1_workOut 3 = .ok (.istore_n 3, 1) := by decide +kernel
theorem dX1_workOut_4 : decode cX1_workOut 4 = .ok (.iload_n 3, 1) := by decide +kernel
theorem dX1_workOut_5 : decode cX1_workOut 5 = .ok (.aload_n 0, 1) := by decide +kernel
theorem dX1_workOut_6 : decode cX1_workOut 6 = .ok (.getfield 19, 3) := by decide +kernel
theorem dX1_workOut_9 : decode cX1_workOut 9 = .ok (.if_icmp .ge 200, 3) := by decide +kernel
theorem dX1_workOut_12 : decode cX1_workOut 12 = .ok (.aload_n 0, 1) := by decide +kernel
theorem dX1_workOut_13 : decode cX1_workOut 13 = .ok (.getfield 11, 3) := by decide +kernel
theorem dX1_workOut_16 : decode cX1_workOut 16 = .ok (.iload_n 3, 1) := by decide +kernel
theorem dX1_workOut_17 : decode cX1_workOut 17 = .ok (.iaload, 1) := by decide +kernel
theorem dX1_workOut_18 : decode cX1_workOut 18 = .ok (.ineg, 1) := by decide +kernel
theorem dX1_workOut_19 : decode cX1_workOut 19 = .ok (.istore 4, 2) := by decide +kernel
theorem dX1_workOut_21 : decode cX1_workOut 21 = .ok (.iload 4, 2) := by decide +kernel
theorem dX1_workOut_23 : decode cX1_workOut 23 = .ok (.ifCond .le 11, 3) := by decide +kernel
theorem dX1_workOut_26 : decode cX1_workOut 26 = .ok (.iload 4, 2) := by decide +kernel
theorem dX1_workOut_28 : decode cX1_workOut 28 = .ok (.invokestatic 23, 3) := by decide +kernel
theorem dX1_workOut_31 : decode cX1_workOut 31 = .ok (.ifCond .eq 7, 3) := by decide +kernel
theorem dX1_workOut_34 : decode cX1_workOut 34 = .ok (.iconst 1, 1) := by decide +kernel
theorem dX1_workOut_35 : decode cX1_workOut 35 = .ok (.goto 4, 3) := by decide +kernel
theorem dX1_workOut_38 : decode cX1_workOut 38 = .ok (.iconst 0, 1) := by decide +kernel
theorem dX1_workOut_39 : decode cX1_workOut 39 = .ok (.istore 5, 2) := by decide +kernel
theorem dX1_workOut_41 : decode cX1_workOut 41 = .ok (.iload 5, 2) := by decide +kernel
theorem dX1_workOut_43 : decode cX1_workOut 43 = .ok (.ifCond .eq 7, 3) := by decide +kernel
theorem dX1_workOut_46 : decode cX1_workOut 46 = .ok (.iconst 0, 1) := by decide +kernel
theorem dX1_workOut_47 : decode cX1_workOut 47 = .ok (.goto 15, 3) := by decide +kernel
theorem dX1_workOut_50 : decode cX1_workOut 50 = .ok (.iload 4, 2) := by decide +kernel
theorem dX1_workOut_52 : decode cX1_workOut 52 = .ok (.bipush 36, 2) := by decide +kernel
theorem dX1_workOut_54 : decode cX1_workOut 54 = .ok (.if_icmp .ne 7, 3) := by decide +kernel
theorem dX1_workOut_57 : decode cX1_workOut 57 = .ok (.iconst 1, 1) := by decide +kernel
theorem dX1_workOut_58 : decode cX1_workOut 58 = .ok (.goto 4, 3) := by decide +kernel
theorem dX1_workOut_61 : decode cX1_workOut 61 = .ok (.iconst 2, 1) := by decide +kernel
theorem dX1_workOut_62 : decode cX1_workOut 62 = .ok (.istore 6, 2) := by decide +kernel
theorem dX1_workOut_64 : decode cX1_workOut 64 = .ok (.iload_n 2, 1) := by decide +kernel
theorem dX1_workOut_65 : decode cX1_workOut 65 = .ok (.iload 6, 2) := by decide +kernel
theorem dX1_workOut_67 : decode cX1_workOut 67 = .ok (.isub, 1) := by decide +kernel
theorem dX1_workOut_68 : decode cX1_workOut 68 = .ok (.istore 7, 2) := by decide +kernel
theorem dX1_workOut_70 : decode cX1_workOut 70 = .ok (.iload 7, 2) := by decide +kernel
theorem dX1_workOut_72 : decode cX1_workOut 72 = .ok (.ifCond .lt 10, 3) := by decide +kernel
theorem dX1_workOut_75 : decode cX1_workOut 75 = .ok (.iload 7, 2) := by decide +kernel
theorem dX1_workOut_77 : decode cX1_workOut 77 = .ok (.bipush 64, 2) := by decide +kernel
theorem dX1_workOut_79 : decode cX1_workOut 79 = .ok (.if_icmp .lt 7, 3) := by decide +kernel
theorem dX1_workOut_82 : decode cX1_workOut 82 = .ok (.ldc2_w 29, 3) := by decide +kernel
theorem dX1_workOut_85 : decode cX1_workOut 85 = .ok (.lreturn, 1) := by decide +kernel
theorem dX1_workOut_86 : decode cX1_workOut 86 = .ok (.iload 5, 2) := by decide +kernel
theorem dX1_workOut_88 : decode cX1_workOut 88 = .ok (.ifCond .eq 28, 3) := by decide +kernel
theorem dX1_workOut_91 : decode cX1_workOut 91 = .ok (.iload 4, 2) := by decide +kernel
theorem dX1_workOut_93 : decode cX1_workOut 93 = .ok (.ifCond .gt 10, 3) := by decide +kernel
theorem dX1_workOut_96 : decode cX1_workOut 96 = .ok (.iload 4, 2) := by decide +kernel
theorem dX1_workOut_98 : decode cX1_workOut 98 = .ok (.ineg, 1) := by decide +kernel
theorem dX1_workOut_99 : decode cX1_workOut 99 = .ok (.i2l, 1) := by decide +kernel
theorem dX1_workOut_100 : decode cX1_workOut 100 = .ok (.goto 11, 3) := by decide +kernel
theorem dX1_workOut_103 : decode cX1_workOut 103 = .ok (.aload_n 1, 1) := by decide +kernel
theorem dX1_workOut_104 : decode cX1_workOut 104 = .ok (.iload 4, 2) := by decide +kernel
theorem dX1_workOut_106 : decode cX1_workOut 106 = .ok (.bipush 37, 2) := by decide +kernel
theorem dX1_workOut_108 : decode cX1_workOut 108 = .ok (.isub, 1) := by decide +kernel
theorem dX1_workOut_109 : decode cX1_workOut 109 = .ok (.iaload, 1) := by decide +kernel
theorem dX1_workOut_110 : decode cX1_workOut 110 = .ok (.i2l, 1) := by decide +kernel
theorem dX1_workOut_111 : decode cX1_workOut 111 = .ok (.lstore 8, 2) := by decide +kernel
theorem dX1_workOut_113 : decode cX1_workOut 113 = .ok (.goto 54, 3) := by decide +kernel
theorem dX1_workOut_116 : decode cX1_workOut 116 = .ok (.iload 6, 2) := by decide +kernel
theorem dX1_workOut_118 : decode cX1_workOut 118 = .ok (.iconst 1, 1) := by decide +kernel
theorem dX1_workOut_119 : decode cX1_workOut 119 = .ok (.if_icmp .ne 25, 3) := by decide +kernel
theorem dX1_workOut_122 : decode cX1_workOut 122 = .ok (.aload_n 0, 1) := by decide +kernel
theorem dX1_workOut_123 : decode cX1_workOut 123 = .ok (.getfield 15, 3) := by decide +kernel
theorem dX1_workOut_126 : decode cX1_workOut 126 = .ok (.iload 7, 2) := by decide +kernel
theorem dX1_workOut_128 : decode cX1_workOut 128 = .ok (.laload, 1) := by decide +kernel
theorem dX1_workOut_129 : decode cX1_workOut 129 = .ok (.lconst 0, 1) := by decide +kernel
theorem dX1_workOut_130 : decode cX1_workOut 130 = .ok (.lcmp, 1) := by decide +kernel
theorem dX1_workOut_131 : decode cX1_workOut 131 = .ok (.ifCond .ne 7, 3) := by decide +kernel
theorem dX1_workOut_134 : decode cX1_workOut 134 = .ok (.lconst 1, 1) := by decide +kernel
theorem dX1_workOut_135 : decode cX1_workOut 135 = .ok (.goto 4, 3) := by decide +kernel
theorem dX1_workOut_138 : decode cX1_workOut 138 = .ok (.lconst 0, 1) := by decide +kernel
theorem dX1_workOut_139 : decode cX1_workOut 139 = .ok (.lstore 8, 2) := by decide +kernel
theorem dX1_workOut_141 : decode cX1_workOut 141 = .ok (.goto 26, 3) := by decide +kernel
theorem dX1_workOut_144 : decode cX1_workOut 144 = .ok (.iload 4, 2) := by decide +kernel
theorem dX1_workOut_146 : decode cX1_workOut 146 = .ok (.aload_n 0, 1) := by decide +kernel
theorem dX1_workOut_147 : decode cX1_workOut 147 = .ok (.getfield 15, 3) := by decide +kernel
theorem dX1_workOut_150 : decode cX1_workOut 150 = .ok (.iload 7, 2) := by decide +kernel
theorem dX1_workOut_152 : decode cX1_workOut 152 = .ok (.laload, 1) := by decide +kernel
theorem dX1_workOut_153 : decode cX1_workOut 153 = .ok (.aload_n 0, 1) := by decide +kernel
theorem dX1_workOut_154 : decode cX1_workOut 154 = .ok (.getfield 15, 3) := by decide +kernel
theorem dX1_workOut_157 : decode cX1_workOut 157 = .ok (.iload 7, 2) := by decide +kernel
theorem dX1_workOut_159 : decode cX1_workOut 159 = .ok (.iconst 1, 1) := by decide +kernel
theorem dX1_workOut_160 : decode cX1_workOut 160 = .ok (.iadd, 1) := by decide +kernel
theorem dX1_workOut_161 : decode cX1_workOut 161 = .ok (.laload, 1) := by decide +kernel
theorem dX1_workOut_162 : decode cX1_workOut 162 = .ok (.invokestatic 31, 3) := by decide +kernel
theorem dX1_workOut_165 : decode cX1_workOut 165 = .ok (.lstore 8, 2) := by decide +kernel
theorem dX1_workOut_167 : decode cX1_workOut 167 = .ok (.lload 8, 2) := by decide +kernel
theorem dX1_workOut_169 : decode cX1_workOut 169 = .ok (.ldc2_w 35, 3) := by decide +kernel
theorem dX1_workOut_172 : decode cX1_workOut 172 = .ok (.lcmp, 1) := by decide +kernel
theorem dX1_workOut_173 : decode cX1_workOut 173 = .ok (.ifCond .gt 12, 3) := by decide +kernel
theorem dX1_workOut_176 : decode cX1_workOut 176 = .ok (.lload 8, 2) := by decide +kernel
theorem dX1_workOut_178 : decode cX1_workOut 178 = .ok (.ldc2_w 37, 3) := by decide +kernel
theorem dX1_workOut_181 : decode cX1_workOut 181 = .ok (.lcmp, 1) := by decide +kernel
theorem dX1_workOut_182 : decode cX1_workOut 182 = .ok (.ifCond .ge 7, 3) := by decide +kernel
theorem dX1_workOut_185 : decode cX1_workOut 185 = .ok (.ldc2_w 29, 3) := by decide +kernel
theorem dX1_workOut_188 : decode cX1_workOut 188 = .ok (.lreturn, 1) := by decide +kernel
theorem dX1_workOut_189 : decode cX1_workOut 189 = .ok (.aload_n 0, 1) := by decide +kernel
theorem dX1_workOut_190 : decode cX1_workOut 190 = .ok (.getfield 15, 3) := by decide +kernel
theorem dX1_workOut_193 : decode cX1_workOut 193 = .ok (.iload 7, 2) := by decide +kernel
theorem dX1_workOut_195 : decode cX1_workOut 195 = .ok (.lload 8, 2) := by decide +kernel
theorem dX1_workOut_197 : decode cX1_workOut 197 = .ok (.lastore, 1) := by decide +kernel
theorem dX1_workOut_198 : decode cX1_workOut 198 = .ok (.iload 7, 2) := by decide +kernel
theorem dX1_workOut_200 : decode cX1_workOut 200 = .ok (.iconst 1, 1) := by decide +kernel
theorem dX1_workOut_201 : decode cX1_workOut 201 = .ok (.iadd, 1) := by decide +kernel
theorem dX1_workOut_202 : decode cX1_workOut 202 = .ok (.istore_n 2, 1) := by decide +kernel
theorem dX1_workOut_203 : decode cX1_workOut 203 = .ok (.iinc 3 1, 3) := by decide +kernel
theorem dX1_workOut_206 : decode cX1_workOut 206 = .ok (.goto (-202), 3) := by decide +kernel
theorem dX1_workOut_209 : decode cX1_workOut 209 = .ok (.iload_n 2, 1) := by decide +kernel
theorem dX1_workOut_210 : decode cX1_workOut 210 = .ok (.iconst 1, 1) := by decide +kernel
theorem dX1_workOut_211 : decode cX1_workOut 211 = .ok (.if_icmp .ne 12, 3) := by decide +kernel
theorem dX1_workOut_214 : decode cX1_workOut 214 = .ok (.aload_n 0, 1) := by decide +kernel
theorem dX1_workOut_215 : decode cX1_workOut 215 = .ok (.getfield 15, 3) := by decide +kernel
theorem dX1_workOut_218 : decode cX1_workOut 218 = .ok (.iconst 0, 1) := by decide +kernel
theorem dX1_workOut_219 : decode cX1_workOut 219 = .ok (.laload, 1) := by decide +kernel
theorem dX1_workOut_220 : decode cX1_workOut 220 = .ok (.goto 6, 3) := by decide +kernel
theorem dX1_workOut_223 : decode cX1_workOut 223 = .ok (.ldc2_w 29, 3) := by decide +kernel
theorem dX1_workOut_226 : decode cX1_workOut 226 = .ok (.lreturn, 1) := by decide +kernel
theorem dX1_join_0 : decode cX1_join 0 = .ok (.iload_n 0, 1) := by decide +kernel
theorem dX1_join_1 : decode cX1_join 1 = .ok (.tableswitch 311 7 35 #[131, 135, 139, 187, 203, 215, 227, 239, 251, 263, 311, 311, 311, 311, 311, 311, 311, 311, 311, 311, 311, 311, 311, 311, 311, 311, 311, 293, 275], 131) := by decide +kernel
theorem dX1_join_132 : decode cX1_join 132 = .ok (.lload_n 1, 1) := by decide +kernel
theorem dX1_join_133 : decode cX1_join 133 = .ok (.lload_n 3, 1) := by decide +kernel
theorem dX1_join_134 : decode cX1_join 134 = .ok (.ladd, 1) := by decide +kernel
theorem dX1_join_135 : decode cX1_join 135 = .ok (.lreturn, 1) := by decide +kernel
theorem dX1_join_136 : decode cX1_join 136 = .ok (.lload_n 1, 1) := by decide +kernel
theorem dX1_join_137 : decode cX1_join 137 = .ok (.lload_n 3, 1) := by decide +kernel
theorem dX1_join_138 : decode cX1_join 138 = .ok (.lsub, 1) := by decide +kernel
theorem dX1_join_139 : decode cX1_join 139 = .ok (.lreturn, 1) := by decide +kernel
theorem dX1_join_140 : decode cX1_join 140 = .ok (.lload_n 1, 1) := by decide +kernel
theorem dX1_join_141 : decode cX1_join 141 = .ok (.lconst 0, 1) := by decide +kernel
theorem dX1_join_142 : decode cX1_join 142 = .ok (.lcmp, 1) := by decide +kernel
theorem dX1_join_143 : decode cX1_join 143 = .ok (.ifCond .eq 41, 3) := by decide +kernel
theorem dX1_join_146 : decode cX1_join 146 = .ok (.lload_n 3, 1) := by decide +kernel
theorem dX1_join_147 : decode cX1_join 147 = .ok (.lconst 0, 1) := by decide +kernel
theorem dX1_join_148 : decode cX1_join 148 = .ok (.lcmp, 1) := by decide +kernel
theorem dX1_join_149 : decode cX1_join 149 = .ok (.ifCond .ge 8, 3) := by decide +kernel
theorem dX1_join_152 : decode cX1_join 152 = .ok (.lload_n 3, 1) := by decide +kernel
theorem dX1_join_153 : decode cX1_join 153 = .ok (.lneg, 1) := by decide +kernel
theorem dX1_join_154 : decode cX1_join 154 = .ok (.goto 4, 3) := by decide +kernel
theorem dX1_join_157 : decode cX1_join 157 = .ok (.lload_n 3, 1) := by decide +kernel
theorem dX1_join_158 : decode cX1_join 158 = .ok (.ldc2_w 35, 3) := by decide +kernel
theorem dX1_join_161 : decode cX1_join 161 = .ok (.lload_n 1, 1) := by decide +kernel
theorem dX1_join_162 : decode cX1_join 162 = .ok (.lconst 0, 1) := by decide +kernel
theorem dX1_join_163 : decode cX1_join 163 = .ok (.lcmp, 1) := by decide +kernel
theorem dX1_join_164 : decode cX1_join 164 = .ok (.ifCond .ge 8, 3) := by decide +kernel
theorem dX1_join_167 : decode cX1_join 167 = .ok (.lload_n 1, 1) := by decide +kernel
theorem dX1_join_168 : decode cX1_join 168 = .ok (.lneg, 1) := by decide +kernel
theorem dX1_join_169 : decode cX1_join 169 = .ok (.goto 4, 3) := by decide +kernel
theorem dX1_join_172 : decode cX1_join 172 = .ok (.lload_n 1, 1) := by decide +kernel
theorem dX1_join_173 : decode cX1_join 173 = .ok (.ldiv, 1) := by decide +kernel
theorem dX1_join_174 : decode cX1_join 174 = .ok (.lcmp, 1) := by decide +kernel
theorem dX1_join_175 : decode cX1_join 175 = .ok (.ifCond .le 9, 3) := by decide +kernel
theorem dX1_join_178 : decode cX1_join 178 = .ok (.ldc2_w 29, 3) := by decide +kernel
theorem dX1_join_181 : decode cX1_join 181 = .ok (.goto 6, 3) := by decide +kernel
theorem dX1_join_184 : decode cX1_join 184 = .ok (.lload_n 1, 1) := by decide +kernel
theorem dX1_join_185 : decode cX1_join 185 = .ok (.lload_n 3, 1) := by decide +kernel
theorem dX1_join_186 : decode cX1_join 186 = .ok (.lmul, 1) := by decide +kernel
theorem dX1_join_187 : decode cX1_join 187 = .ok (.lreturn, 1) := by decide +kernel
theorem dX1_join_188 : decode cX1_join 188 = .ok (.lload_n 3, 1) := by decide +kernel
theorem dX1_join_189 : decode cX1_join 189 = .ok (.lconst 0, 1) := by decide +kernel
theorem dX1_join_190 : decode cX1_join 190 = .ok (.lcmp, 1) := by decide +kernel
theorem dX1_join_191 : decode cX1_join 191 = .ok (.ifCond .ne 9, 3) := by decide +kernel
theorem dX1_join_194 : decode cX1_join 194 = .ok (.ldc2_w 29, 3) := by decide +kernel
theorem dX1_join_197 : decode cX1_join 197 = .ok (.goto 6, 3) := by decide +kernel
theorem dX1_join_200 : decode cX1_join 200 = .ok (.lload_n 1, 1) := by decide +kernel
theorem dX1_join_201 : decode cX1_join 201 = .ok (.lload_n 3, 1) := by decide +kernel
theorem dX1_join_202 : decode cX1_join 202 = .ok (.ldiv, 1) := by decide +kernel
theorem dX1_join_203 : decode cX1_join 203 = .ok (.lreturn, 1) := by decide +kernel
theorem dX1_join_204 : decode cX1_join 204 = .ok (.lload_n 1, 1) := by decide +kernel
theorem dX1_join_205 : decode cX1_join 205 = .ok (.lload_n 3, 1) := by decide +kernel
theorem dX1_join_206 : decode cX1_join 206 = .ok (.lcmp, 1) := by decide +kernel
theorem dX1_join_207 : decode cX1_join 207 = .ok (.ifCond .ge 7, 3) := by decide +kernel
theorem dX1_join_210 : decode cX1_join 210 = .ok (.lconst 1, 1) := by decide +kernel
theorem dX1_join_211 : decode cX1_join 211 = .ok (.goto 4, 3) := by decide +kernel
theorem dX1_join_214 : decode cX1_join 214 = .ok (.lconst 0, 1) := by decide +kernel
theorem dX1_join_215 : decode cX1_join 215 = .ok (.lreturn, 1) := by decide +kernel
theorem dX1_join_216 : decode cX1_join 216 = .ok (.lload_n 1, 1) := by decide +kernel
theorem dX1_join_217 : decode cX1_join 217 = .ok (.lload_n 3, 1) := by decide +kernel
theorem dX1_join_218 : decode cX1_join 218 = .ok (.lcmp, 1) := by decide +kernel
theorem dX1_join_219 : decode cX1_join 219 = .ok (.ifCond .gt 7, 3) := by decide +kernel
theorem dX1_join_222 : decode cX1_join 222 = .ok (.lconst 1, 1) := by decide +kernel
theorem dX1_join_223 : decode cX1_join 223 = .ok (.goto 4, 3) := by decide +kernel
theorem dX1_join_226 : decode cX1_join 226 = .ok (.lconst 0, 1) := by decide +kernel
theorem dX1_join_227 : decode cX1_join 227 = .ok (.lreturn, 1) := by decide +kernel
theorem dX1_join_228 : decode cX1_join 228 = .ok (.lload_n 1, 1) := by decide +kernel
theorem dX1_join_229 : decode cX1_join 229 = .ok (.lload_n 3, 1) := by decide +kernel
theorem dX1_join_230 : decode cX1_join 230 = .ok (.lcmp, 1) := by decide +kernel
theorem dX1_join_231 : decode cX1_join 231 = .ok (.ifCond .ne 7, 3) := by decide +kernel
theorem dX1_join_234 : decode cX1_join 234 = .ok (.lconst 1, 1) := by decide +kernel
theorem dX1_join_235 : decode cX1_join 235 = .ok (.goto 4, 3) := by decide +kernel
theorem dX1_join_238 : decode cX1_join 238 = .ok (.lconst 0, 1) := by decide +kernel
theorem dX1_join_239 : decode cX1_join 239 = .ok (.lreturn, 1) := by decide +kernel
theorem dX1_join_240 : decode cX1_join 240 = .ok (.lload_n 1, 1) := by decide +kernel
theorem dX1_join_241 : decode cX1_join 241 = .ok (.lload_n 3, 1) := by decide +kernel
theorem dX1_join_242 : decode cX1_join 242 = .ok (.lcmp, 1) := by decide +kernel
theorem dX1_join_243 : decode cX1_join 243 = .ok (.ifCond .eq 7, 3) := by decide +kernel
theorem dX1_join_246 : decode cX1_join 246 = .ok (.lconst 1, 1) := by decide +kernel
theorem dX1_join_247 : decode cX1_join 247 = .ok (.goto 4, 3) := by decide +kernel
theorem dX1_join_250 : decode cX1_join 250 = .ok (.lconst 0, 1) := by decide +kernel
theorem dX1_join_251 : decode cX1_join 251 = .ok (.lreturn, 1) := by decide +kernel
theorem dX1_join_252 : decode cX1_join 252 = .ok (.lload_n 1, 1) := by decide +kernel
theorem dX1_join_253 : decode cX1_join 253 = .ok (.lload_n 3, 1) := by decide +kernel
theorem dX1_join_254 : decode cX1_join 254 = .ok (.lcmp, 1) := by decide +kernel
theorem dX1_join_255 : decode cX1_join 255 = .ok (.ifCond .lt 7, 3) := by decide +kernel
theorem dX1_join_258 : decode cX1_join 258 = .ok (.lconst 1, 1) := by decide +kernel
theorem dX1_join_259 : decode cX1_join 259 = .ok (.goto 4, 3) := by decide +kernel
theorem dX1_join_262 : decode cX1_join 262 = .ok (.lconst 0, 1) := by decide +kernel
theorem dX1_join_263 : decode cX1_join 263 = .ok (.lreturn, 1) := by decide +kernel
theorem dX1_join_264 : decode cX1_join 264 = .ok (.lload_n 1, 1) := by decide +kernel
theorem dX1_join_265 : decode cX1_join 265 = .ok (.lload_n 3, 1) := by decide +kernel
theorem dX1_join_266 : decode cX1_join 266 = .ok (.lcmp, 1) := by decide +kernel
theorem dX1_join_267 : decode cX1_join 267 = .ok (.ifCond .le 7, 3) := by decide +kernel
theorem dX1_join_270 : decode cX1_join 270 = .ok (.lconst 1, 1) := by decide +kernel
theorem dX1_join_271 : decode cX1_join 271 = .ok (.goto 4, 3) := by decide +kernel
theorem dX1_join_274 : decode cX1_join 274 = .ok (.lconst 0, 1) := by decide +kernel
theorem dX1_join_275 : decode cX1_join 275 = .ok (.lreturn, 1) := by decide +kernel
theorem dX1_join_276 : decode cX1_join 276 = .ok (.lload_n 1, 1) := by decide +kernel
theorem dX1_join_277 : decode cX1_join 277 = .ok (.lconst 0, 1) := by decide +kernel
theorem dX1_join_278 : decode cX1_join 278 = .ok (.lcmp, 1) := by decide +kernel
theorem dX1_join_279 : decode cX1_join 279 = .ok (.ifCond .eq 13, 3) := by decide +kernel
theorem dX1_join_282 : decode cX1_join 282 = .ok (.lload_n 3, 1) := by decide +kernel
theorem dX1_join_283 : decode cX1_join 283 = .ok (.lconst 0, 1) := by decide +kernel
theorem dX1_join_284 : decode cX1_join 284 = .ok (.lcmp, 1) := by decide +kernel
theorem dX1_join_285 : decode cX1_join 285 = .ok (.ifCond .eq 7, 3) := by decide +kernel
theorem dX1_join_288 : decode cX1_join 288 = .ok (.lconst 1, 1) := by decide +kernel
theorem dX1_join_289 : decode cX1_join 289 = .ok (.goto 4, 3) := by decide +kernel
theorem dX1_join_292 : decode cX1_join 292 = .ok (.lconst 0, 1) := by decide +kernel
theorem dX1_join_293 : decode cX1_join 293 = .ok (.lreturn, 1) := by decide +kernel
theorem dX1_join_294 : decode cX1_join 294 = .ok (.lload_n 1, 1) := by decide +kernel
theorem dX1_join_295 : decode cX1_join 295 = .ok (.lconst 0, 1) := by decide +kernel
theorem dX1_join_296 : decode cX1_join 296 = .ok (.lcmp, 1) := by decide +kernel
theorem dX1_join_297 : decode cX1_join 297 = .ok (.ifCond .ne 9, 3) := by decide +kernel
theorem dX1_join_300 : decode cX1_join 300 = .ok (.lload_n 3, 1) := by decide +kernel
theorem dX1_join_301 : decode cX1_join 301 = .ok (.lconst 0, 1) := by decide +kernel
theorem dX1_join_302 : decode cX1_join 302 = .ok (.lcmp, 1) := by decide +kernel
theorem dX1_join_303 : decode cX1_join 303 = .ok (.ifCond .eq 7, 3) := by decide +kernel
theorem dX1_join_306 : decode cX1_join 306 = .ok (.lconst 1, 1) := by decide +kernel
theorem dX1_join_307 : decode cX1_join 307 = .ok (.goto 4, 3) := by decide +kernel
theorem dX1_join_310 : decode cX1_join 310 = .ok (.lconst 0, 1) := by decide +kernel
theorem dX1_join_311 : decode cX1_join 311 = .ok (.lreturn, 1) := by decide +kernel
theorem dX1_join_312 : decode cX1_join 312 = .ok (.ldc2_w 29, 3) := by decide +kernel
theorem dX1_join_315 : decode cX1_join 315 = .ok (.lreturn, 1) := by decide +kernel
theorem dX2_init_0 : decode cX2_init 0 = .ok (.aload_n 0, 1) := by decide +kernel
theorem dX2_init_1 : decode cX2_init 1 = .ok (.invokespecial 3, 3) := by decide +kernel
theorem dX2_init_4 : decode cX2_init 4 = .ok (.aload_n 0, 1) := by decide +kernel
theorem dX2_init_5 : decode cX2_init 5 = .ok (.bipush 100, 2) := by decide +kernel
theorem dX2_init_7 : decode cX2_init 7 = .ok (.newarray .int, 2) := by decide +kernel
theorem dX2_init_9 : decode cX2_init 9 = .ok (.putfield 11, 3) := by decide +kernel
theorem dX2_init_12 : decode cX2_init 12 = .ok (.return_, 1) := by decide +kernel
theorem dX2_forget_0 : decode cX2_forget 0 = .ok (.aload_n 0, 1) := by decide +kernel
theorem dX2_forget_1 : decode cX2_forget 1 = .ok (.iconst 0, 1) := by decide +kernel
theorem dX2_forget_2 : decode cX2_forget 2 = .ok (.putfield 15, 3) := by decide +kernel
theorem dX2_forget_5 : decode cX2_forget 5 = .ok (.return_, 1) := by decide +kernel
theorem dX2_note_0 : decode cX2_note 0 = .ok (.aload_n 0, 1) := by decide +kernel
theorem dX2_note_1 : decode cX2_note 1 = .ok (.getfield 15, 3) := by decide +kernel
theorem dX2_note_4 : decode cX2_note 4 = .ok (.bipush 20, 2) := by decide +kernel
theorem dX2_note_6 : decode cX2_note 6 = .ok (.if_icmp .lt 7, 3) := by decide +kernel
theorem dX2_note_9 : decode cX2_note 9 = .ok (.aload_n 0, 1) := by decide +kernel
theorem dX2_note_10 : decode cX2_note 10 = .ok (.invokevirtual 19, 3) := by decide +kernel
theorem dX2_note_13 : decode cX2_note 13 = .ok (.aload_n 0, 1) := by decide +kernel
theorem dX2_note_14 : decode cX2_note 14 = .ok (.getfield 15, 3) := by decide +kernel
theorem dX2_note_17 : decode cX2_note 17 = .ok (.iconst 5, 1) := by decide +kernel
theorem dX2_note_18 : decode cX2_note 18 = .ok (.imul, 1) := by decide +kernel
theorem dX2_note_19 : decode cX2_note 19 = .ok (.istore_n 2, 1) := by decide +kernel
theorem dX2_note_20 : decode cX2_note 20 = .ok (.aload_n 0, 1) := by decide +kernel
theorem dX2_note_21 : decode cX2_note 21 = .ok (.getfield 11, 3) := by decide +kernel
theorem dX2_note_24 : decode cX2_note 24 = .ok (.iload_n 2, 1) := by decide +kernel
theorem dX2_note_25 : decode cX2_note 25 = .ok (.aload_n 1, 1) := by decide +kernel
theorem dX2_note_26 : decode cX2_note 26 = .ok (.getfield 22, 3) := by decide +kernel
theorem dX2_note_29 : decode cX2_note 29 = .ok (.iastore, 1) := by decide +kernel
theorem dX2_note_30 : decode cX2_note 30 = .ok (.aload_n 0, 1) := by decide +kernel
theorem dX2_note_31 : decode cX2_note 31 = .ok (.getfield 11, 3) := by decide +kernel
theorem dX2_note_34 : decode cX2_note 34 = .ok (.iload_n 2, 1) := by decide +kernel
theorem dX2_note_35 : decode cX2_note 35 = .ok (.iconst 1, 1) := by decide +kernel
theorem dX2_note_36 : decode cX2_note 36 = .ok (.iadd, 1) := by decide +kernel
theorem dX2_note_37 : decode cX2_note 37 = .ok (.aload_n 1, 1) := by decide +kernel
theorem dX2_note_38 : decode cX2_note 38 = .ok (.getfield 27, 3) := by decide +kernel
theorem dX2_note_41 : decode cX2_note 41 = .ok (.iastore, 1) := by decide +kernel
theorem dX2_note_42 : decode cX2_note 42 = .ok (.aload_n 0, 1) := by decide +kernel
theorem dX2_note_43 : decode cX2_note 43 = .ok (.getfield 11, 3) := by decide +kernel
theorem dX2_note_46 : decode cX2_note 46 = .ok (.iload_n 2, 1) := by decide +kernel
theorem dX2_note_47 : decode cX2_note 47 = .ok (.iconst 2, 1) := by decide +kernel
theorem dX2_note_48 : decode cX2_note 48 = .ok (.iadd, 1) := by decide +kernel
theorem dX2_note_49 : decode cX2_note 49 = .ok (.aload_n 1, 1) := by decide +kernel
theorem dX2_note_50 : decode cX2_note 50 = .ok (.getfield 30, 3) := by decide +kernel
theorem dX2_note_53 : decode cX2_note 53 = .ok (.iastore, 1) := by decide +kernel
theorem dX2_note_54 : decode cX2_note 54 = .ok (.aload_n 0, 1) := by decide +kernel
theorem dX2_note_55 : decode cX2_note 55 = .ok (.getfield 11, 3) := by decide +kernel
theorem dX2_note_58 : decode cX2_note 58 = .ok (.iload_n 2, 1) := by decide +kernel
theorem dX2_note_59 : decode cX2_note 59 = .ok (.iconst 3, 1) := by decide +kernel
theorem dX2_note_60 : decode cX2_note 60 = .ok (.iadd, 1) := by decide +kernel
theorem dX2_note_61 : decode cX2_note 61 = .ok (.aload_n 1, 1) := by decide +kernel
theorem dX2_note_62 : decode cX2_note 62 = .ok (.getfield 33, 3) := by decide +kernel
theorem dX2_note_65 : decode cX2_note 65 = .ok (.iastore, 1) := by decide +kernel
theorem dX2_note_66 : decode cX2_note 66 = .ok (.aload_n 0, 1) := by decide +kernel
theorem dX2_note_67 : decode cX2_note 67 = .ok (.getfield 11, 3) := by decide +kernel
theorem dX2_note_70 : decode cX2_note 70 = .ok (.iload_n 2, 1) := by decide +kernel
theorem dX2_note_71 : decode cX2_note 71 = .ok (.iconst 4, 1) := by decide +kernel
theorem dX2_note_72 : decode cX2_note 72 = .ok (.iadd, 1) := by decide +kernel
theorem dX2_note_73 : decode cX2_note 73 = .ok (.aload_n 1, 1) := by decide +kernel
theorem dX2_note_74 : decode cX2_note 74 = .ok (.getfield 36, 3) := by decide +kernel
theorem dX2_note_77 : decode cX2_note 77 = .ok (.iastore, 1) := by decide +kernel
theorem dX2_note_78 : decode cX2_note 78 = .ok (.aload_n 0, 1) := by decide +kernel
theorem dX2_note_79 : decode cX2_note 79 = .ok (.dup, 1) := by decide +kernel
theorem dX2_note_80 : decode cX2_note 80 = .ok (.getfield 15, 3) := by decide +kernel
theorem dX2_note_83 : decode cX2_note 83 = .ok (.iconst 1, 1) := by decide +kernel
theorem dX2_note_84 : decode cX2_note 84 = .ok (.iadd, 1) := by decide +kernel
theorem dX2_note_85 : decode cX2_note 85 = .ok (.putfield 15, 3) := by decide +kernel
theorem dX2_note_88 : decode cX2_note 88 = .ok (.return_, 1) := by decide +kernel
theorem dX2_dropOldest_0 : decode cX2_dropOldest 0 = .ok (.iconst 5, 1) := by decide +kernel
theorem dX2_dropOldest_1 : decode cX2_dropOldest 1 = .ok (.istore_n 1, 1) := by decide +kernel
theorem dX2_dropOldest_2 : decode cX2_dropOldest 2 = .ok (.iload_n 1, 1) := by decide +kernel
theorem dX2_dropOldest_3 : decode cX2_dropOldest 3 = .ok (.bipush 100, 2) := by decide +kernel
theorem dX2_dropOldest_5 : decode cX2_dropOldest 5 = .ok (.if_icmp .ge 23, 3) := by decide +kernel
theorem dX2_dropOldest_8 : decode cX2_dropOldest 8 = .ok (.aload_n 0, 1) := by decide +kernel
theorem dX2_dropOldest_9 : decode cX2_dropOldest 9 = .ok (.getfield 11, 3) := by decide +kernel
theorem dX2_dropOldest_12 : decode cX2_dropOldest 12 = .ok (.iload_n 1, 1) := by decide +kernel
theorem dX2_dropOldest_13 : decode cX2_dropOldest 13 = .ok (.iconst 5, 1) := by decide +kernel
theorem dX2_dropOldest_14 : decode cX2_dropOldest 14 = .ok (.isub, 1) := by decide +kernel
theorem dX2_dropOldest_15 : decode cX2_dropOldest 15 = .ok (.aload_n 0, 1) := by decide +kernel
theorem dX2_dropOldest_16 : decode cX2_dropOldest 16 = .ok (.getfield 11, 3) := by decide +kernel
theorem dX2_dropOldest_19 : decode cX2_dropOldest 19 = .ok (.iload_n 1, 1) := by decide +kernel
theorem dX2_dropOldest_20 : decode cX2_dropOldest 20 = .ok (.iaload, 1) := by decide +kernel
theorem dX2_dropOldest_21 : decode cX2_dropOldest 21 = .ok (.iastore, 1) := by decide +kernel
theorem dX2_dropOldest_22 : decode cX2_dropOldest 22 = .ok (.iinc 1 1, 3) := by decide +kernel
theorem dX2_dropOldest_25 : decode cX2_dropOldest 25 = .ok (.goto (-23), 3) := by decide +kernel
theorem dX2_dropOldest_28 : decode cX2_dropOldest 28 = .ok (.aload_n 0, 1) := by decide +kernel
theorem dX2_dropOldest_29 : decode cX2_dropOldest 29 = .ok (.bipush 19, 2) := by decide +kernel
theorem dX2_dropOldest_31 : decode cX2_dropOldest 31 = .ok (.putfield 15, 3) := by decide +kernel
theorem dX2_dropOldest_34 : decode cX2_dropOldest 34 = .ok (.return_, 1) := by decide +kernel
theorem dX2_takeBack_0 : decode cX2_takeBack 0 = .ok (.aload_n 0, 1) := by decide +kernel
theorem dX2_takeBack_1 : decode cX2_takeBack 1 = .ok (.getfield 15, 3) := by decide +kernel
theorem dX2_takeBack_4 : decode cX2_takeBack 4 = .ok (.ifCond .gt 5, 3) := by decide +kernel
theorem dX2_takeBack_7 : decode cX2_takeBack 7 = .ok (.iconst (-1), 1) := by decide +kernel
theorem dX2_takeBack_8 : decode cX2_takeBack 8 = .ok (.ireturn, 1) := by decide +kernel
theorem dX2_takeBack_9 : decode cX2_takeBack 9 = .ok (.aload_n 0, 1) := by decide +kernel
theorem dX2_takeBack_10 : decode cX2_takeBack 10 = .ok (.dup, 1) := by decide +kernel
theorem dX2_takeBack_11 : decode cX2_takeBack 11 = .ok (.getfield 15, 3) := by decide +kernel
theorem dX2_takeBack_14 : decode cX2_takeBack 14 = .ok (.iconst 1, 1) := by decide +kernel
theorem dX2_takeBack_15 : decode cX2_takeBack 15 = .ok (.isub, 1) := by decide +kernel
theorem dX2_takeBack_16 : decode cX2_takeBack 16 = .ok (.putfield 15, 3) := by decide +kernel
theorem dX2_takeBack_19 : decode cX2_takeBack 19 = .ok (.aload_n 0, 1) := by decide +kernel
theorem dX2_takeBack_20 : decode cX2_takeBack 20 = .ok (.getfield 15, 3) := by decide +kernel
theorem dX2_takeBack_23 : decode cX2_takeBack 23 = .ok (.iconst 5, 1) := by decide +kernel
theorem dX2_takeBack_24 : decode cX2_takeBack 24 = .ok (.imul, 1) := by decide +kernel
theorem dX2_takeBack_25 : decode cX2_takeBack 25 = .ok (.istore_n 2, 1) := by decide +kernel
theorem dX2_takeBack_26 : decode cX2_takeBack 26 = .ok (.aload_n 1, 1) := by decide +kernel
theorem dX2_takeBack_27 : decode cX2_takeBack 27 = .ok (.aload_n 0, 1) := by decide +kernel
theorem dX2_takeBack_28 : decode cX2_takeBack 28 = .ok (.getfield 11, 3) := by decide +kernel
theorem dX2_takeBack_31 : decode cX2_takeBack 31 = .ok (.iload_n 2, 1) := by decide +kernel
theorem dX2_takeBack_32 : decode cX2_takeBack 32 = .ok (.iaload, 1) := by decide +kernel
theorem dX2_takeBack_33 : decode cX2_takeBack 33 = .ok (.putfield 22, 3) := by decide +kernel
theorem dX2_takeBack_36 : decode cX2_takeBack 36 = .ok (.aload_n 1, 1) := by decide +kernel
theorem dX2_takeBack_37 : decode cX2_takeBack 37 = .ok (.aload_n 0, 1) := by decide +kernel
theorem dX2_takeBack_38 : decode cX2_takeBack 38 = .ok (.getfield 11, 3) := by decide +kernel
theorem dX2_takeBack_41 : decode cX2_takeBack 41 = .ok (.iload_n 2, 1) := by decide +kernel
theorem dX2_takeBack_42 : decode cX2_takeBack 42 = .ok (.iconst 1, 1) := by decide +kernel
theorem dX2_takeBack_43 : decode cX2_takeBack 43 = .ok (.iadd, 1) := by decide +kernel
theorem dX2_takeBack_44 : decode cX2_takeBack 44 = .ok (.iaload, 1) := by decide +kernel
theorem dX2_takeBack_45 : decode cX2_takeBack 45 = .ok (.putfield 27, 3) := by decide +kernel
theorem dX2_takeBack_48 : decode cX2_takeBack 48 = .ok (.aload_n 1, 1) := by decide +kernel
theorem dX2_takeBack_49 : decode cX2_takeBack 49 = .ok (.aload_n 0, 1) := by decide +kernel
theorem dX2_takeBack_50 : decode cX2_takeBack 50 = .ok (.getfield 11, 3) := by decide +kernel
theorem dX2_takeBack_53 : decode cX2_takeBack 53 = .ok (.iload_n 2, 1) := by decide +kernel
theorem dX2_takeBack_54 : decode cX2_takeBack 54 = .ok (.iconst 2, 1) := by decide +kernel
theorem dX2_takeBack_55 : decode cX2_takeBack 55 = .ok (.iadd, 1) := by decide +kernel
theorem dX2_takeBack_56 : decode cX2_takeBack 56 = .ok (.iaload, 1) := by decide +kernel
theorem dX2_takeBack_57 : decode cX2_takeBack 57 = .ok (.putfield 30, 3) := by decide +kernel
theorem dX2_takeBack_60 : decode cX2_takeBack 60 = .ok (.aload_n 1, 1) := by decide +kernel
theorem dX2_takeBack_61 : decode cX2_takeBack 61 = .ok (.aload_n 0, 1) := by decide +kernel
theorem dX2_takeBack_62 : decode cX2_takeBack 62 = .ok (.getfield 11, 3) := by decide +kernel
theorem dX2_takeBack_65 : decode cX2_takeBack 65 = .ok (.iload_n 2, 1) := by decide +kernel
theorem dX2_takeBack_66 : decode cX2_takeBack 66 = .ok (.iconst 3, 1) := by decide +kernel
theorem dX2_takeBack_67 : decode cX2_takeBack 67 = .ok (.iadd, 1) := by decide +kernel
theorem dX2_takeBack_68 : decode cX2_takeBack 68 = .ok (.iaload, 1) := by decide +kernel
theorem dX2_takeBack_69 : decode cX2_takeBack 69 = .ok (.putfield 33, 3) := by decide +kernel
theorem dX2_takeBack_72 : decode cX2_takeBack 72 = .ok (.aload_n 1, 1) := by decide +kernel
theorem dX2_takeBack_73 : decode cX2_takeBack 73 = .ok (.aload_n 0, 1) := by decide +kernel
theorem dX2_takeBack_74 : decode cX2_takeBack 74 = .ok (.getfield 11, 3) := by decide +kernel
theorem dX2_takeBack_77 : decode cX2_takeBack 77 = .ok (.iload_n 2, 1) := by decide +kernel
theorem dX2_takeBack_78 : decode cX2_takeBack 78 = .ok (.iconst 4, 1) := by decide +kernel
theorem dX2_takeBack_79 : decode cX2_takeBack 79 = .ok (.iadd, 1) := by decide +kernel
theorem dX2_takeBack_80 : decode cX2_takeBack 80 = .ok (.iaload, 1) := by decide +kernel
theorem dX2_takeBack_81 : decode cX2_takeBack 81 = .ok (.putfield 36, 3) := by decide +kernel
theorem dX2_takeBack_84 : decode cX2_takeBack 84 = .ok (.aload_n 0, 1) := by decide +kernel
theorem dX2_takeBack_85 : decode cX2_takeBack 85 = .ok (.getfield 15, 3) := by decide +kernel
theorem dX2_takeBack_88 : decode cX2_takeBack 88 = .ok (.ireturn, 1) := by decide +kernel
theorem dX3_init_0 : decode cX3_init 0 = .ok (.aload_n 0, 1) := by decide +kernel
theorem dX3_init_1 : decode cX3_init 1 = .ok (.invokespecial 3, 3) := by decide +kernel
theorem dX3_init_4 : decode cX3_init 4 = .ok (.aload_n 0, 1) := by decide +kernel
theorem dX3_init_5 : decode cX3_init 5 = .ok (.bipush 64, 2) := by decide +kernel
theorem dX3_init_7 : decode cX3_init 7 = .ok (.newarray .int, 2) := by decide +kernel
theorem dX3_init_9 : decode cX3_init 9 = .ok (.putfield 9, 3) := by decide +kernel
theorem dX3_init_12 : decode cX3_init 12 = .ok (.aload_n 0, 1) := by decide +kernel
theorem dX3_init_13 : decode cX3_init 13 = .ok (.bipush 64, 2) := by decide +kernel
theorem dX3_init_15 : decode cX3_init 15 = .ok (.newarray .int, 2) := by decide +kernel
theorem dX3_init_17 : decode cX3_init 17 = .ok (.putfield 15, 3) := by decide +kernel
theorem dX3_init_20 : decode cX3_init 20 = .ok (.return_, 1) := by decide +kernel
theorem dX3_fewest_0 : decode cX3_fewest 0 = .ok (.iconst 0, 1) := by decide +kernel
theorem dX3_fewest_1 : decode cX3_fewest 1 = .ok (.istore 4, 2) := by decide +kernel
theorem dX3_fewest_3 : decode cX3_fewest 3 = .ok (.iload 4, 2) := by decide +kernel
theorem dX3_fewest_5 : decode cX3_fewest 5 = .ok (.bipush 64, 2) := by decide +kernel
theorem dX3_fewest_7 : decode cX3_fewest 7 = .ok (.if_icmp .ge 17, 3) := by decide +kernel
theorem dX3_fewest_10 : decode cX3_fewest 10 = .ok (.aload_n 0, 1) := by decide +kernel
theorem dX3_fewest_11 : decode cX3_fewest 11 = .ok (.getfield 9, 3) := by decide +kernel
theorem dX3_fewest_14 : decode cX3_fewest 14 = .ok (.iload 4, 2) := by decide +kernel
theorem dX3_fewest_16 : decode cX3_fewest 16 = .ok (.iconst (-1), 1) := by decide +kernel
theorem dX3_fewest_17 : decode cX3_fewest 17 = .ok (.iastore, 1) := by decide +kernel
theorem dX3_fewest_18 : decode cX3_fewest 18 = .ok (.iinc 4 1, 3) := by decide +kernel
theorem dX3_fewest_21 : decode cX3_fewest 21 = .ok (.goto (-18), 3) := by decide +kernel
theorem dX3_fewest_24 : decode cX3_fewest 24 = .ok (.aload_n 0, 1) := by decide +kernel
theorem dX3_fewest_25 : decode cX3_fewest 25 = .ok (.iconst 0, 1) := by decide +kernel
theorem dX3_fewest_26 : decode cX3_fewest 26 = .ok (.putfield 18, 3) := by decide +kernel
theorem dX3_fewest_29 : decode cX3_fewest 29 = .ok (.aload_n 0, 1) := by decide +kernel
theorem dX3_fewest_30 : decode cX3_fewest 30 = .ok (.iload_n 2, 1) := by decide +kernel
theorem dX3_fewest_31 : decode cX3_fewest 31 = .ok (.iconst 0, 1) := by decide +kernel
theorem dX3_fewest_32 : decode cX3_fewest 32 = .ok (.invokevirtual 22, 3) := by decide +kernel
theorem dX3_fewest_35 : decode cX3_fewest 35 = .ok (.iconst 0, 1) := by decide +kernel
theorem dX3_fewest_36 : decode cX3_fewest 36 = .ok (.istore 4, 2) := by decide +kernel
theorem dX3_fewest_38 : decode cX3_fewest 38 = .ok (.iload 4, 2) := by decide +kernel
theorem dX3_fewest_40 : decode cX3_fewest 40 = .ok (.bipush 64, 2) := by decide +kernel
theorem dX3_fewest_42 : decode cX3_fewest 42 = .ok (.if_icmp .ge 125, 3) := by decide +kernel
theorem dX3_fewest_45 : decode cX3_fewest 45 = .ok (.iload 4, 2) := by decide +kernel
theorem dX3_fewest_47 : decode cX3_fewest 47 = .ok (.aload_n 0, 1) := by decide +kernel
theorem dX3_fewest_48 : decode cX3_fewest 48 = .ok (.getfield 18, 3) := by decide +kernel
theorem dX3_fewest_51 : decode cX3_fewest 51 = .ok (.if_icmp .ge 116, 3) := by decide +kernel
theorem dX3_fewest_54 : decode cX3_fewest 54 = .ok (.aload_n 0, 1) := by decide +kernel
theorem dX3_fewest_55 : decode cX3_fewest 55 = .ok (.getfield 15, 3) := by decide +kernel
theorem dX3_fewest_58 : decode cX3_fewest 58 = .ok (.iload 4, 2) := by decide +kernel
theorem dX3_fewest_60 : decode cX3_fewest 60 = .ok (.iaload, 1) := by decide +kernel
theorem dX3_fewest_61 : decode cX3_fewest 61 = .ok (.bipush 8, 2) := by decide +kernel
theorem dX3_fewest_63 : decode cX3_fewest 63 = .ok (.idiv, 1) := by decide +kernel
theorem dX3_fewest_64 : decode cX3_fewest 64 = .ok (.istore 5, 2) := by decide +kernel
theorem dX3_fewest_66 : decode cX3_fewest 66 = .ok (.aload_n 0, 1) := by decide +kernel
theorem dX3_fewest_67 : decode cX3_fewest 67 = .ok (.getfield 15, 3) := by decide +kernel
theorem dX3_fewest_70 : decode cX3_fewest 70 = .ok (.iload 4, 2) := by decide +kernel
theorem dX3_fewest_72 : decode cX3_fewest 72 = .ok (.iaload, 1) := by decide +kernel
theorem dX3_fewest_73 : decode cX3_fewest 73 = .ok (.bipush 8, 2) := by decide +kernel
theorem dX3_fewest_75 : decode cX3_fewest 75 = .ok (.irem, 1) := by decide +kernel
theorem dX3_fewest_76 : decode cX3_fewest 76 = .ok (.istore 6, 2) := by decide +kernel
theorem dX3_fewest_78 : decode cX3_fewest 78 = .ok (.iconst 0, 1) := by decide +kernel
theorem dX3_fewest_79 : decode cX3_fewest 79 = .ok (.istore 7, 2) := by decide +kernel
theorem dX3_fewest_81 : decode cX3_fewest 81 = .ok (.iload 7, 2) := by decide +kernel
theorem dX3_fewest_83 : decode cX3_fewest 83 = .ok (.iconst 4, 1) := by decide +kernel
theorem dX3_fewest_84 : decode cX3_fewest 84 = .ok (.if_icmp .ge 77, 3) := by decide +kernel
theorem dX3_fewest_87 : decode cX3_fewest 87 = .ok (.iload 5, 2) := by decide +kernel
theorem dX3_fewest_89 : decode cX3_fewest 89 = .ok (.iload 7, 2) := by decide +kernel
theorem dX3_fewest_91 : decode cX3_fewest 91 = .ok (.invokestatic 26, 3) := by decide +kernel
theorem dX3_fewest_94 : decode cX3_fewest 94 = .ok (.iadd, 1) := by decide +kernel
theorem dX3_fewest_95 : decode cX3_fewest 95 = .ok (.istore 8, 2) := by decide +kernel
theorem dX3_fewest_97 : decode cX3_fewest 97 = .ok (.iload 6, 2) := by decide +kernel
theorem dX3_fewest_99 : decode cX3_fewest 99 = .ok (.iload 7, 2) := by decide +kernel
theorem dX3_fewest_101 : decode cX3_fewest 101 = .ok (.invokestatic 30, 3) := by decide +kernel
theorem dX3_fewest_104 : decode cX3_fewest 104 = .ok (.iadd, 1) := by decide +kernel
theorem dX3_fewest_105 : decode cX3_fewest 105 = .ok (.istore 9, 2) := by decide +kernel
theorem dX3_fewest_107 : decode cX3_fewest 107 = .ok (.aload_n 1, 1) := by decide +kernel
theorem dX3_fewest_108 : decode cX3_fewest 108 = .ok (.iload 8, 2) := by decide +kernel
theorem dX3_fewest_110 : decode cX3_fewest 110 = .ok (.iload 9, 2) := by decide +kernel
theorem dX3_fewest_112 : decode cX3_fewest 112 = .ok (.invokevirtual 33, 3) := by decide +kernel
theorem dX3_fewest_115 : decode cX3_fewest 115 = .ok (.ifCond .eq 40, 3) := by decide +kernel
theorem dX3_fewest_118 : decode cX3_fewest 118 = .ok (.aload_n 1, 1) := by decide +kernel
theorem dX3_fewest_119 : decode cX3_fewest 119 = .ok (.iload 8, 2) := by decide +kernel
theorem dX3_fewest_121 : decode cX3_fewest 121 = .ok (.iload 9, 2) := by decide +kernel
theorem dX3_fewest_123 : decode cX3_fewest 123 = .ok (.invokevirtual 39, 3) := by decide +kernel
theorem dX3_fewest_126 : decode cX3_fewest 126 = .ok (.ifCond .ne 29, 3) := by decide +kernel
theorem dX3_fewest_129 : decode cX3_fewest 129 = .ok (.aload_n 0, 1) := by decide +kernel
theorem dX3_fewest_130 : decode cX3_fewest 130 = .ok (.iload 8, 2) := by decide +kernel
theorem dX3_fewest_132 : decode cX3_fewest 132 = .ok (.bipush 8, 2) := by decide +kernel
theorem dX3_fewest_134 : decode cX3_fewest 134 = .ok (.imul, 1) := by decide +kernel
theorem dX3_fewest_135 : decode cX3_fewest 135 = .ok (.iload 9, 2) := by decide +kernel
theorem dX3_fewest_137 : decode cX3_fewest 137 = .ok (.iadd, 1) := by decide +kernel
theorem dX3_fewest_138 : decode cX3_fewest 138 = .ok (.aload_n 0, 1) := by decide +kernel
theorem dX3_fewest_139 : decode cX3_fewest 139 = .ok (.getfield 9, 3) := by decide +kernel
theorem dX3_fewest_142 : decode cX3_fewest 142 = .ok (.aload_n 0, 1) := by decide +kernel
theorem dX3_fewest_143 : decode cX3_fewest 143 = .ok (.getfield 15, 3) := by decide +kernel
theorem dX3_fewest_146 : decode cX3_fewest 146 = .ok (.iload 4, 2) := by decide +kernel
theorem dX3_fewest_148 : decode cX3_fewest 148 = .ok (.iaload, 1) := by decide +kernel
theorem dX3_fewest_149 : decode cX3_fewest 149 = .ok (.iaload, 1) := by decide +kernel
theorem dX3_fewest_150 : decode cX3_fewest 150 = .ok (.iconst 1, 1) := by decide +kernel
theorem dX3_fewest_151 : decode cX3_fewest 151 = .ok (.iadd, 1) := by decide +kernel
theorem dX3_fewest_152 : decode cX3_fewest 152 = .ok (.invokevirtual 22, 3) := by decide +kernel
theorem dX3_fewest_155 : decode cX3_fewest 155 = .ok (.iinc 7 1, 3) := by decide +kernel
theorem dX3_fewest_158 : decode cX3_fewest 158 = .ok (.goto (-77), 3) := by decide +kernel
theorem dX3_fewest_161 : decode cX3_fewest 161 = .ok (.iinc 4 1, 3) := by decide +kernel
theorem dX3_fewest_164 : decode cX3_fewest 164 = .ok (.goto (-126), 3) := by decide +kernel
theorem dX3_fewest_167 : decode cX3_fewest 167 = .ok (.iload_n 3, 1) := by decide +kernel
theorem dX3_fewest_168 : decode cX3_fewest 168 = .ok (.ifCond .lt 18, 3) := by decide +kernel
theorem dX3_fewest_171 : decode cX3_fewest 171 = .ok (.iload_n 3, 1) := by decide +kernel
theorem dX3_fewest_172 : decode cX3_fewest 172 = .ok (.bipush 64, 2) := by decide +kernel
theorem dX3_fewest_174 : decode cX3_fewest 174 = .ok (.if_icmp .ge 12, 3) := by decide +kernel
theorem dX3_fewest_177 : decode cX3_fewest 177 = .ok (.aload_n 0, 1) := by decide +kernel
theorem dX3_fewest_178 : decode cX3_fewest 178 = .ok (.getfield 9, 3) := by decide +kernel
theorem dX3_fewest_181 : decode cX3_fewest 181 = .ok (.iload_n 3, 1) := by decide +kernel
theorem dX3_fewest_182 : decode cX3_fewest 182 = .ok (.iaload, 1) := by decide +kernel
theorem dX3_fewest_183 : decode cX3_fewest 183 = .ok (.goto 4, 3) := by decide +kernel
theorem dX3_fewest_186 : decode cX3_fewest 186 = .ok (.iconst (-1), 1) := by decide +kernel
theorem dX3_fewest_187 : decode cX3_fewest 187 = .ok (.ireturn, 1) := by decide +kernel
theorem dX3_reach_0 : decode cX3_reach 0 = .ok (.iload_n 1, 1) := by decide +kernel
theorem dX3_reach_1 : decode cX3_reach 1 = .ok (.ifCond .lt 55, 3) := by decide +kernel
theorem dX3_reach_4 : decode cX3_reach 4 = .ok (.iload_n 1, 1) := by decide +kernel
theorem dX3_reach_5 : decode cX3_reach 5 = .ok (.bipush 64, 2) := by decide +kernel
theorem dX3_reach_7 : decode cX3_reach 7 = .ok (.if_icmp .ge 49, 3) := by decide +kernel
theorem dX3_reach_10 : decode cX3_reach 10 = .ok (.aload_n 0, 1) := by decide +kernel
theorem dX3_reach_11 : decode cX3_reach 11 = .ok (.getfield 9, 3) := by decide +kernel
theorem dX3_reach_14 : decode cX3_reach 14 = .ok (.iload_n 1, 1) := by decide +kernel
theorem dX3_reach_15 : decode cX3_reach 15 = .ok (.iaload, 1) := by decide +kernel
theorem dX3_reach_16 : decode cX3_reach 16 = .ok (.iconst (-1), 1) := by decide +kernel
theorem dX3_reach_17 : decode cX3_reach 17 = .ok (.if_icmp .ne 39, 3) := by decide +kernel
theorem dX3_reach_20 : decode cX3_reach 20 = .ok (.aload_n 0, 1) := by decide +kernel
theorem dX3_reach_21 : decode cX3_reach 21 = .ok (.getfield 18, 3) := by decide +kernel
theorem dX3_reach_24 : decode cX3_reach 24 = .ok (.bipush 64, 2) := by decide +kernel
theorem dX3_reach_26 : decode cX3_reach 26 = .ok (.if_icmp .ge 30, 3) := by decide +kernel
theorem dX3_reach_29 : decode cX3_reach 29 = .ok (.aload_n 0, 1) := by decide +kernel
theorem dX3_reach_30 : decode cX3_reach 30 = .ok (.getfield 9, 3) := by decide +kernel
theorem dX3_reach_33 : decode cX3_reach 33 = .ok (.iload_n 1, 1) := by decide +kernel
theorem dX3_reach_34 : decode cX3_reach 34 = .ok (.iload_n 2, 1) := by decide +kernel
theorem dX3_reach_35 : decode cX3_reach 35 = .ok (.iastore, 1) := by decide +kernel
theorem dX3_reach_36 : decode cX3_reach 36 = .ok (.aload_n 0, 1) := by decide +kernel
theorem dX3_reach_37 : decode cX3_reach 37 = .ok (.getfield 15, 3) := by decide +kernel
theorem dX3_reach_40 : decode cX3_reach 40 = .ok (.aload_n 0, 1) := by decide +kernel
theorem dX3_reach_41 : decode cX3_reach 41 = .ok (.getfield 18, 3) := by decide +kernel
theorem dX3_reach_44 : decode cX3_reach 44 = .ok (.iload_n 1, 1) := by decide +kernel
theorem dX3_reach_45 : decode cX3_reach 45 = .ok (.iastore, 1) := by decide +kernel
theorem dX3_reach_46 : decode cX3_reach 46 = .ok (.aload_n 0, 1) := by decide +kernel
theorem dX3_reach_47 : decode cX3_reach 47 = .ok (.dup, 1) := by decide +kernel
theorem dX3_reach_48 : decode cX3_reach 48 = .ok (.getfield 18, 3) := by decide +kernel
theorem dX3_reach_51 : decode cX3_reach 51 = .ok (.iconst 1, 1) := by decide +kernel
theorem dX3_reach_52 : decode cX3_reach 52 = .ok (.iadd, 1) := by decide +kernel
theorem dX3_reach_53 : decode cX3_reach 53 = .ok (.putfield 18, 3) := by decide +kernel
theorem dX3_reach_56 : decode cX3_reach 56 = .ok (.return_, 1) := by decide +kernel
theorem dX4_init_0 : decode cX4_init 0 = .ok (.aload_n 0, 1) := by decide +kernel
theorem dX4_init_1 : decode cX4_init 1 = .ok (.invokespecial 3, 3) := by decide +kernel
theorem dX4_init_4 : decode cX4_init 4 = .ok (.aload_n 0, 1) := by decide +kernel
theorem dX4_init_5 : decode cX4_init 5 = .ok (.iconst 4, 1) := by decide +kernel
theorem dX4_init_6 : decode cX4_init 6 = .ok (.newarray .int, 2) := by decide +kernel
theorem dX4_init_8 : decode cX4_init 8 = .ok (.putfield 9, 3) := by decide +kernel
theorem dX4_init_11 : decode cX4_init 11 = .ok (.aload_n 0, 1) := by decide +kernel
theorem dX4_init_12 : decode cX4_init 12 = .ok (.iconst 4, 1) := by decide +kernel
theorem dX4_init_13 : decode cX4_init 13 = .ok (.newarray .int, 2) := by decide +kernel
theorem dX4_init_15 : decode cX4_init 15 = .ok (.putfield 15, 3) := by decide +kernel
theorem dX4_init_18 : decode cX4_init 18 = .ok (.aload_n 0, 1) := by decide +kernel
theorem dX4_init_19 : decode cX4_init 19 = .ok (.iconst 5, 1) := by decide +kernel
theorem dX4_init_20 : decode cX4_init 20 = .ok (.anewarray 18, 3) := by decide +kernel
theorem dX4_init_23 : decode cX4_init 23 = .ok (.dup, 1) := by decide +kernel
theorem dX4_init_24 : decode cX4_init 24 = .ok (.iconst 0, 1) := by decide +kernel
theorem dX4_init_25 : decode cX4_init 25 = .ok (.new 18, 3) := by decide +kernel
theorem dX4_init_28 : decode cX4_init 28 = .ok (.dup, 1) := by decide +kernel
theorem dX4_init_29 : decode cX4_init 29 = .ok (.invokespecial 20, 3) := by decide +kernel
theorem dX4_init_32 : decode cX4_init 32 = .ok (.aastore, 1) := by decide +kernel
theorem dX4_init_33 : decode cX4_init 33 = .ok (.dup, 1) := by decide +kernel
theorem dX4_init_34 : decode cX4_init 34 = .ok (.iconst 1, 1) := by decide +kernel
theorem dX4_init_35 : decode cX4_init 35 = .ok (.new 18, 3) := by decide +kernel
theorem dX4_init_38 : decode cX4_init 38 = .ok (.dup, 1) := by decide +kernel
theorem dX4_init_39 : decode cX4_init 39 = .ok (.invokespecial 20, 3) := by decide +kernel
theorem dX4_init_42 : decode cX4_init 42 = .ok (.aastore, 1) := by decide +kernel
theorem dX4_init_43 : decode cX4_init 43 = .ok (.dup, 1) := by decide +kernel
theorem dX4_init_44 : decode cX4_init 44 = .ok (.iconst 2, 1) := by decide +kernel
theorem dX4_init_45 : decode cX4_init 45 = .ok (.new 18, 3) := by decide +kernel
theorem dX4_init_48 : decode cX4_init 48 = .ok (.dup, 1) := by decide +kernel
theorem dX4_init_49 : decode cX4_init 49 = .ok (.invokespecial 20, 3) := by decide +kernel
theorem dX4_init_52 : decode cX4_init 52 = .ok (.aastore, 1) := by decide +kernel
theorem dX4_init_53 : decode cX4_init 53 = .ok (.dup, 1) := by decide +kernel
theorem dX4_init_54 : decode cX4_init 54 = .ok (.iconst 3, 1) := by decide +kernel
theorem dX4_init_55 : decode cX4_init 55 = .ok (.new 18, 3) := by decide +kernel
theorem dX4_init_58 : decode cX4_init 58 = .ok (.dup, 1) := by decide +kernel
theorem dX4_init_59 : decode cX4_init 59 = .ok (.invokespecial 20, 3) := by decide +kernel
theorem dX4_init_62 : decode cX4_init 62 = .ok (.aastore, 1) := by decide +kernel
theorem dX4_init_63 : decode cX4_init 63 = .ok (.dup, 1) := by decide +kernel
theorem dX4_init_64 : decode cX4_init 64 = .ok (.iconst 4, 1) := by decide +kernel
theorem dX4_init_65 : decode cX4_init 65 = .ok (.new 18, 3) := by decide +kernel
theorem dX4_init_68 : decode cX4_init 68 = .ok (.dup, 1) := by decide +kernel
theorem dX4_init_69 : decode cX4_init 69 = .ok (.invokespecial 20, 3) := by decide +kernel
theorem dX4_init_72 : decode cX4_init 72 = .ok (.aastore, 1) := by decide +kernel
theorem dX4_init_73 : decode cX4_init 73 = .ok (.putfield 21, 3) := by decide +kernel
theorem dX4_init_76 : decode cX4_init 76 = .ok (.aload_n 0, 1) := by decide +kernel
theorem dX4_init_77 : decode cX4_init 77 = .ok (.aload_n 1, 1) := by decide +kernel
theorem dX4_init_78 : decode cX4_init 78 = .ok (.putfield 25, 3) := by decide +kernel
theorem dX4_init_81 : decode cX4_init 81 = .ok (.return_, 1) := by decide +kernel
theorem dX4_search_0 : decode cX4_search 0 = .ok (.aload_n 0, 1) := by decide +kernel
theorem dX4_search_1 : decode cX4_search 1 = .ok (.iconst (-1), 1) := by decide +kernel
theorem dX4_search_2 : decode cX4_search 2 = .ok (.putfield 29, 3) := by decide +kernel
theorem dX4_search_5 : decode cX4_search 5 = .ok (.aload_n 0, 1) := by decide +kernel
theorem dX4_search_6 : decode cX4_search 6 = .ok (.aload_n 0, 1) := by decide +kernel
theorem dX4_search_7 : decode cX4_search 7 = .ok (.getfield 25, 3) := by decide +kernel
theorem dX4_search_10 : decode cX4_search 10 = .ok (.getfield 33, 3) := by decide +kernel
theorem dX4_search_13 : decode cX4_search 13 = .ok (.aload_n 1, 1) := by decide +kernel
theorem dX4_search_14 : decode cX4_search 14 = .ok (.getfield 39, 3) := by decide +kernel
theorem dX4_search_17 : decode cX4_search 17 = .ok (.iconst (-1), 1) := by decide +kernel
theorem dX4_search_18 : decode cX4_search 18 = .ok (.ixor, 1) := by decide +kernel
theorem dX4_search_19 : decode cX4_search 19 = .ok (.invokevirtual 42, 3) := by decide +kernel
theorem dX4_search_22 : decode cX4_search 22 = .ok (.putfield 48, 3) := by decide +kernel
theorem dX4_search_25 : decode cX4_search 25 = .ok (.aload_n 0, 1) := by decide +kernel
theorem dX4_search_26 : decode cX4_search 26 = .ok (.getfield 21, 3) := by decide +kernel
theorem dX4_search_29 : decode cX4_search 29 = .ok (.iconst 0, 1) := by decide +kernel
theorem dX4_search_30 : decode cX4_search 30 = .ok (.aaload, 1) := by decide +kernel
theorem dX4_search_31 : decode cX4_search 31 = .ok (.aload_n 1, 1) := by decide +kernel
theorem dX4_search_32 : decode cX4_search 32 = .ok (.invokevirtual 51, 3) := by decide +kernel
theorem dX4_search_35 : decode cX4_search 35 = .ok (.aload_n 0, 1) := by decide +kernel
theorem dX4_search_36 : decode cX4_search 36 = .ok (.iconst 0, 1) := by decide +kernel
theorem dX4_search_37 : decode cX4_search 37 = .ok (.invokevirtual 55, 3) := by decide +kernel
theorem dX4_search_40 : decode cX4_search 40 = .ok (.return_, 1) := by decide +kernel
theorem dX4_lay_0 : decode cX4_lay 0 = .ok (.iload_n 1, 1) := by decide +kernel
theorem dX4_lay_1 : decode cX4_lay 1 = .ok (.ifCond .lt 8, 3) := by decide +kernel
theorem dX4_lay_4 : decode cX4_lay 4 = .ok (.iload_n 1, 1) := by decide +kernel
theorem dX4_lay_5 : decode cX4_lay 5 = .ok (.iconst 4, 1) := by decide +kernel
theorem dX4_lay_6 : decode cX4_lay 6 = .ok (.if_icmp .lt 8, 3) := by decide +kernel
theorem dX4_lay_9 : decode cX4_lay 9 = .ok (.aload_n 0, 1) := by decide +kernel
theorem dX4_lay_10 : decode cX4_lay 10 = .ok (.invokevirtual 59, 3) := by decide +kernel
theorem dX4_lay_13 : decode cX4_lay 13 = .ok (.return_, 1) := by decide +kernel
theorem dX4_lay_14 : decode cX4_lay 14 = .ok (.aload_n 0, 1) := by decide +kernel
theorem dX4_lay_15 : decode cX4_lay 15 = .ok (.getfield 21, 3) := by decide +kernel
theorem dX4_lay_18 : decode cX4_lay 18 = .ok (.iload_n 1, 1) := by decide +kernel
theorem dX4_lay_19 : decode cX4_lay 19 = .ok (.iconst 1, 1) := by decide +kernel
theorem dX4_lay_20 : decode cX4_lay 20 = .ok (.iadd, 1) := by decide +kernel
theorem dX4_lay_21 : decode cX4_lay 21 = .ok (.aaload, 1) := by decide +kernel
theorem dX4_lay_22 : decode cX4_lay 22 = .ok (.astore_n 2, 1) := by decide +kernel
theorem dX4_lay_23 : decode cX4_lay 23 = .ok (.iconst 0, 1) := by decide +kernel
theorem dX4_lay_24 : decode cX4_lay 24 = .ok (.istore_n 3, 1) := by decide +kernel
theorem dX4_lay_25 : decode cX4_lay 25 = .ok (.iload_n 3, 1) := by decide +kernel
theorem dX4_lay_26 : decode cX4_lay 26 = .ok (.iconst 4, 1) := by decide +kernel
theorem dX4_lay_27 : decode cX4_lay 27 = .ok (.if_icmp .gt 68, 3) := by decide +kernel
theorem dX4_lay_30 : decode cX4_lay 30 = .ok (.aload_n 0, 1) := by decide +kernel
theorem dX4_lay_31 : decode cX4_lay 31 = .ok (.getfield 29, 3) := by decide +kernel
theorem dX4_lay_34 : decode cX4_lay 34 = .ok (.aload_n 0, 1) := by decide +kernel
theorem dX4_lay_35 : decode cX4_lay 35 = .ok (.getfield 48, 3) := by decide +kernel
theorem dX4_lay_38 : decode cX4_lay 38 = .ok (.if_icmp .ge 57, 3) := by decide +kernel
theorem dX4_lay_41 : decode cX4_lay 41 = .ok (.aload_n 0, 1) := by decide +kernel
theorem dX4_lay_42 : decode cX4_lay 42 = .ok (.getfield 15, 3) := by decide +kernel
theorem dX4_lay_45 : decode cX4_lay 45 = .ok (.iload_n 1, 1) := by decide +kernel
theorem dX4_lay_46 : decode cX4_lay 46 = .ok (.iload_n 3, 1) := by decide +kernel
theorem dX4_lay_47 : decode cX4_lay 47 = .ok (.iastore, 1) := by decide +kernel
theorem dX4_lay_48 : decode cX4_lay 48 = .ok (.aload_n 2, 1) := by decide +kernel
theorem dX4_lay_49 : decode cX4_lay 49 = .ok (.aload_n 0, 1) := by decide +kernel
theorem dX4_lay_50 : decode cX4_lay 50 = .ok (.getfield 21, 3) := by decide +kernel
theorem dX4_lay_53 : decode cX4_lay 53 = .ok (.iload_n 1, 1) := by decide +kernel
theorem dX4_lay_54 : decode cX4_lay 54 = .ok (.aaload, 1) := by decide +kernel
theorem dX4_lay_55 : decode cX4_lay 55 = .ok (.invokevirtual 51, 3) := by decide +kernel
theorem dX4_lay_58 : decode cX4_lay 58 = .ok (.iload_n 3, 1) := by decide +kernel
theorem dX4_lay_59 : decode cX4_lay 59 = .ok (.iconst 4, 1) := by decide +kernel
theorem dX4_lay_60 : decode cX4_lay 60 = .ok (.if_icmp .ge 13, 3) := by decide +kernel
theorem dX4_lay_63 : decode cX4_lay 63 = .ok (.aload_n 0, 1) := by decide +kernel
theorem dX4_lay_64 : decode cX4_lay 64 = .ok (.getfield 25, 3) := by decide +kernel
theorem dX4_lay_67 : decode cX4_lay 67 = .ok (.aload_n 2, 1) := by decide +kernel
theorem dX4_lay_68 : decode cX4_lay 68 = .ok (.iload_n 3, 1) := by decide +kernel
theorem dX4_lay_69 : decode cX4_lay 69 = .ok (.iconst 0, 1) := by decide +kernel
theorem dX4_lay_70 : decode cX4_lay 70 = .ok (.invokevirtual 62, 3) := by decide +kernel
theorem dX4_lay_73 : decode cX4_lay 73 = .ok (.aload_n 0, 1) := by decide +kernel
theorem dX4_lay_74 : decode cX4_lay 74 = .ok (.getfield 25, 3) := by decide +kernel
theorem dX4_lay_77 : decode cX4_lay 77 = .ok (.aload_n 2, 1) := by decide +kernel
theorem dX4_lay_78 : decode cX4_lay 78 = .ok (.iconst 0, 1) := by decide +kernel
theorem dX4_lay_79 : decode cX4_lay 79 = .ok (.invokevirtual 66, 3) := by decide +kernel
theorem dX4_lay_82 : decode cX4_lay 82 = .ok (.aload_n 0, 1) := by decide +kernel
theorem dX4_lay_83 : decode cX4_lay 83 = .ok (.iload_n 1, 1) := by decide +kernel
theorem dX4_lay_84 : decode cX4_lay 84 = .ok (.iconst 1, 1) := by decide +kernel
theorem dX4_lay_85 : decode cX4_lay 85 = .ok (.iadd, 1) := by decide +kernel
theorem dX4_lay_86 : decode cX4_lay 86 = .ok (.invokevirtual 55, 3) := by decide +kernel
theorem dX4_lay_89 : decode cX4_lay 89 = .ok (.iinc 3 1, 3) := by decide +kernel
theorem dX4_lay_92 : decode cX4_lay 92 = .ok (.goto (-67), 3) := by decide +kernel
theorem dX4_lay_95 : decode cX4_lay 95 = .ok (.return_, 1) := by decide +kernel
theorem dX4_weigh_0 : decode cX4_weigh 0 = .ok (.aload_n 0, 1) := by decide +kernel
theorem dX4_weigh_1 : decode cX4_weigh 1 = .ok (.getfield 48, 3) := by decide +kernel
theorem dX4_weigh_4 : decode cX4_weigh 4 = .ok (.aload_n 0, 1) := by decide +kernel
theorem dX4_weigh_5 : decode cX4_weigh 5 = .ok (.getfield 25, 3) := by decide +kernel
theorem dX4_weigh_8 : decode cX4_weigh 8 = .ok (.getfield 33, 3) := by decide +kernel
theorem dX4_weigh_11 : decode cX4_weigh 11 = .ok (.aload_n 0, 1) := by decide +kernel
theorem dX4_weigh_12 : decode cX4_weigh 12 = .ok (.getfield 21, 3) := by decide +kernel
theorem dX4_weigh_15 : decode cX4_weigh 15 = .ok (.iconst 4, 1) := by decide +kernel
theorem dX4_weigh_16 : decode cX4_weigh 16 = .ok (.aaload, 1) := by decide +kernel
theorem dX4_weigh_17 : decode cX4_weigh 17 = .ok (.getfield 39, 3) := by decide +kernel
theorem dX4_weigh_20 : decode cX4_weigh 20 = .ok (.iconst (-1), 1) := by decide +kernel
theorem dX4_weigh_21 : decode cX4_weigh 21 = .ok (.ixor, 1) := by decide +kernel
theorem dX4_weigh_22 : decode cX4_weigh 22 = .ok (.invokevirtual 42, 3) := by decide +kernel
theorem dX4_weigh_25 : decode cX4_weigh 25 = .ok (.isub, 1) := by decide +kernel
theorem dX4_weigh_26 : decode cX4_weigh 26 = .ok (.istore_n 1, 1) := by decide +kernel
theorem dX4_weigh_27 : decode cX4_weigh 27 = .ok (.iload_n 1, 1) := by decide +kernel
theorem dX4_weigh_28 : decode cX4_weigh 28 = .ok (.aload_n 0, 1) := by decide +kernel
theorem dX4_weigh_29 : decode cX4_weigh 29 = .ok (.getfield 29, 3) := by decide +kernel
theorem dX4_weigh_32 : decode cX4_weigh 32 = .ok (.if_icmp .le 33, 3) := by decide +kernel
theorem dX4_weigh_35 : decode cX4_weigh 35 = .ok (.aload_n 0, 1) := by decide +kernel
theorem dX4_weigh_36 : decode cX4_weigh 36 = .ok (.iload_n 1, 1) := by decide +kernel
theorem dX4_weigh_37 : decode cX4_weigh 37 = .ok (.putfield 29, 3) := by decide +kernel
theorem dX4_weigh_40 : decode cX4_weigh 40 = .ok (.iconst 0, 1) := by decide +kernel
theorem dX4_weigh_41 : decode cX4_weigh 41 = .ok (.istore_n 2, 1) := by decide +kernel
theorem dX4_weigh_42 : decode cX4_weigh 42 = .ok (.iload_n 2, 1) := by decide +kernel
theorem dX4_weigh_43 : decode cX4_weigh 43 = .ok (.iconst 4, 1) := by decide +kernel
theorem dX4_weigh_44 : decode cX4_weigh 44 = .ok (.if_icmp .ge 21, 3) := by decide +kernel
theorem dX4_weigh_47 : decode cX4_weigh 47 = .ok (.aload_n 0, 1) := by decide +kernel
theorem dX4_weigh_48 : decode cX4_weigh 48 = .ok (.getfield 9, 3) := by decide +kernel
theorem dX4_weigh_51 : decode cX4_weigh 51 = .ok (.iload_n 2, 1) := by decide +kernel
theorem dX4_weigh_52 : decode cX4_weigh 52 = .ok (.aload_n 0, 1) := by decide +kernel
theorem dX4_weigh_53 : decode cX4_weigh 53 = .ok (.getfield 15, 3) := by decide +kernel
theorem dX4_weigh_56 : decode cX4_weigh 56 = .ok (.iload_n 2, 1) := by decide +kernel
theorem dX4_weigh_57 : decode cX4_weigh 57 = .ok (.iaload, 1) := by decide +kernel
theorem dX4_weigh_58 : decode cX4_weigh 58 = .ok (.iastore, 1) := by decide +kernel
theorem dX4_weigh_59 : decode cX4_weigh 59 = .ok (.iinc 2 1, 3) := by decide +kernel
theorem dX4_weigh_62 : decode cX4_weigh 62 = .ok (.goto (-20), 3) := by decide +kernel
theorem dX4_weigh_65 : decode cX4_weigh 65 = .ok (.return_, 1) := by decide +kernel
theorem dX5_init_0 : decode cX5_init 0 = .ok (.aload_n 0, 1) := by decide +kernel
theorem dX5_init_1 : decode cX5_init 1 = .ok (.invokespecial 7, 3) := by decide +kernel
theorem dX5_init_4 : decode cX5_init 4 = .ok (.aload_n 0, 1) := by decide +kernel
theorem dX5_init_5 : decode cX5_init 5 = .ok (.bipush 24, 2) := by decide +kernel
theorem dX5_init_7 : decode cX5_init 7 = .ok (.newarray .int, 2) := by decide +kernel
theorem dX5_init_9 : decode cX5_init 9 = .ok (.putfield 13, 3) := by decide +kernel
theorem dX5_init_12 : decode cX5_init 12 = .ok (.aload_n 0, 1) := by decide +kernel
theorem dX5_init_13 : decode cX5_init 13 = .ok (.bipush 72, 2) := by decide +kernel
theorem dX5_init_15 : decode cX5_init 15 = .ok (.newarray .int, 2) := by decide +kernel
theorem dX5_init_17 : decode cX5_init 17 = .ok (.putfield 17, 3) := by decide +kernel
theorem dX5_init_20 : decode cX5_init 20 = .ok (.aload_n 0, 1) := by decide +kernel
theorem dX5_init_21 : decode cX5_init 21 = .ok (.iconst 0, 1) := by decide +kernel
theorem dX5_init_22 : decode cX5_init 22 = .ok (.newarray .byte, 2) := by decide +kernel
theorem dX5_init_24 : decode cX5_init 24 = .ok (.putfield 20, 3) := by decide +kernel
theorem dX5_init_27 : decode cX5_init 27 = .ok (.aload_n 0, 1) := by decide +kernel
theorem dX5_init_28 : decode cX5_init 28 = .ok (.aload_n 1, 1) := by decide +kernel
theorem dX5_init_29 : decode cX5_init 29 = .ok (.putfield 24, 3) := by decide +kernel
theorem dX5_init_32 : decode cX5_init 32 = .ok (.aload_n 0, 1) := by decide +kernel
theorem dX5_init_33 : decode cX5_init 33 = .ok (.aload_n 1, 1) := by decide +kernel
theorem dX5_init_34 : decode cX5_init 34 = .ok (.getfield 28, 3) := by decide +kernel
theorem dX5_init_37 : decode cX5_init 37 = .ok (.iconst 0, 1) := by decide +kernel
theorem dX5_init_38 : decode cX5_init 38 = .ok (.aaload, 1) := by decide +kernel
theorem dX5_init_39 : decode cX5_init 39 = .ok (.putfield 34, 3) := by decide +kernel
theorem dX5_init_42 : decode cX5_init 42 = .ok (.iconst 0, 1) := by decide +kernel
theorem dX5_init_43 : decode cX5_init 43 = .ok (.istore_n 2, 1) := by decide +kernel
theorem dX5_init_44 : decode cX5_init 44 = .ok (.iconst 0, 1) := by decide +kernel
theorem dX5_init_45 : decode cX5_init 45 = .ok (.istore_n 3, 1) := by decide +kernel
theorem dX5_init_46 : decode cX5_init 46 = .ok (.bipush 25, 2) := by decide +kernel
theorem dX5_init_48 : decode cX5_init 48 = .ok (.istore 4, 2) := by decide +kernel
theorem dX5_init_50 : decode cX5_init 50 = .ok (.iconst 0, 1) := by decide +kernel
theorem dX5_init_51 : decode cX5_init 51 = .ok (.istore 5, 2) := by decide +kernel
theorem dX5_init_53 : decode cX5_init 53 = .ok (.iload 5, 2) := by decide +kernel
theorem dX5_init_55 : decode cX5_init 55 = .ok (.ldc 38, 2) := by decide +kernel
theorem dX5_init_57 : decode cX5_init 57 = .ok (.invokevirtual 40, 3) := by decide +kernel
theorem dX5_init_60 : decode cX5_init 60 = .ok (.if_icmp .ge 66, 3) := by decide +kernel
theorem dX5_init_63 : decode cX5_init 63 = .ok (.iload_n 2, 1) := by decide +kernel
theorem dX5_init_64 : decode cX5_init 64 = .ok (.bipush 24, 2) := by decide +kernel
theorem dX5_init_66 : decode cX5_init 66 = .ok (.if_icmp .ge 60, 3) := by decide +kernel
theorem dX5_init_69 : decode cX5_init 69 = .ok (.ldc 38, 2) := by decide +kernel
theorem dX5_init_71 : decode cX5_init 71 = .ok (.iload 5, 2) := by decide +kernel
theorem dX5_init_73 : decode cX5_init 73 = .ok (.invokevirtual 46, 3) := by decide +kernel
theorem dX5_init_76 : decode cX5_init 76 = .ok (.istore 6, 2) := by decide +kernel
theorem dX5_init_78 : decode cX5_init 78 = .ok (.iload 6, 2) := by decide +kernel
theorem dX5_init_80 : decode cX5_init 80 = .ok (.bipush 32, 2) := by decide +kernel
theorem dX5_init_82 : decode cX5_init 82 = .ok (.if_icmp .ne 22, 3) := by decide +kernel
theorem dX5_init_85 : decode cX5_init 85 = .ok (.aload_n 0, 1) := by decide +kernel
theorem dX5_init_86 : decode cX5_init 86 = .ok (.getfield 13, 3) := by decide +kernel
theorem dX5_init_89 : decode cX5_init 89 = .ok (.iload_n 2, 1) := by decide +kernel
theorem dX5_init_90 : decode cX5_init 90 = .ok (.iload_n 3, 1) := by decide +kernel
theorem dX5_init_91 : decode cX5_init 91 = .ok (.iastore, 1) := by decide +kernel
theorem dX5_init_92 : decode cX5_init 92 = .ok (.iinc 2 1, 3) := by decide +kernel
theorem dX5_init_95 : decode cX5_init 95 = .ok (.iconst 0, 1) := by decide +kernel
theorem dX5_init_96 : decode cX5_init 96 = .ok (.istore_n 3, 1) := by decide +kernel
theorem dX5_init_97 : decode cX5_init 97 = .ok (.bipush 25, 2) := by decide +kernel
theorem dX5_init_99 : decode cX5_init 99 = .ok (.istore 4, 2) := by decide +kernel
theorem dX5_init_101 : decode cX5_init 101 = .ok (.goto 19, 3) := by decide +kernel
theorem dX5_init_104 : decode cX5_init 104 = .ok (.iload_n 3, 1) := by decide +kernel
theorem dX5_init_105 : decode cX5_init 105 = .ok (.iload 6, 2) := by decide +kernel
theorem dX5_init_107 : decode cX5_init 107 = .ok (.bipush 97, 2) := by decide +kernel
theorem dX5_init_109 : decode cX5_init 109 = .ok (.isub, 1) := by decide +kernel
theorem dX5_init_110 : decode cX5_init 110 = .ok (.iconst 1, 1) := by decide +kernel
theorem dX5_init_111 : decode cX5_init 111 = .ok (.iadd, 1) := by decide +kernel
theorem dX5_init_112 : decode cX5_init 112 = .ok (.iload 4, 2) := by decide +kernel
theorem dX5_init_114 : decode cX5_init 114 = .ok (.ishl, 1) := by decide +kernel
theorem dX5_init_115 : decode cX5_init 115 = .ok (.ior, 1) := by decide +kernel
theorem dX5_init_116 : decode cX5_init 116 = .ok (.istore_n 3, 1) := by decide +kernel
theorem dX5_init_117 : decode cX5_init 117 = .ok (.iinc 4 (-5), 3) := by decide +kernel
theorem dX5_init_120 : decode cX5_init 120 = .ok (.iinc 5 1, 3) := by decide +kernel
theorem dX5_init_123 : decode cX5_init 123 = .ok (.goto (-70), 3) := by decide +kernel
theorem dX5_init_126 : decode cX5_init 126 = .ok (.return_, 1) := by decide +kernel
theorem dX5_isName_0 : decode cX5_isName 0 = .ok (.iload_n 0, 1) := by decide +kernel
theorem dX5_isName_1 : decode cX5_isName 1 = .ok (.bipush 37, 2) := by decide +kernel
theorem dX5_isName_3 : decode cX5_isName 3 = .ok (.if_icmp .lt 13, 3) := by decide +kernel
theorem dX5_isName_6 : decode cX5_isName 6 = .ok (.iload_n 0, 1) := by decide +kernel
theorem dX5_isName_7 : decode cX5_isName 7 = .ok (.bipush 43, 2) := by decide +kernel
theorem dX5_isName_9 : decode cX5_isName 9 = .ok (.if_icmp .gt 7, 3) := by decide +kernel
theorem dX5_isName_12 : decode cX5_isName 12 = .ok (.iconst 1, 1) := by decide +kernel
theorem dX5_isName_13 : decode cX5_isName 13 = .ok (.goto 4, 3) := by decide +kernel
theorem dX5_isName_16 : decode cX5_isName 16 = .ok (.iconst 0, 1) := by decide +kernel
theorem dX5_isName_17 : decode cX5_isName 17 = .ok (.ireturn, 1) := by decide +kernel
theorem dX5_begin_0 : decode cX5_begin 0 = .ok (.aload_n 0, 1) := by decide +kernel
theorem dX5_begin_1 : decode cX5_begin 1 = .ok (.aload_n 1, 1) := by decide +kernel
theorem dX5_begin_2 : decode cX5_begin 2 = .ok (.putfield 20, 3) := by decide +kernel
theorem dX5_begin_5 : decode cX5_begin 5 = .ok (.aload_n 0, 1) := by decide +kernel
theorem dX5_begin_6 : decode cX5_begin 6 = .ok (.iload_n 2, 1) := by decide +kernel
theorem dX5_begin_7 : decode cX5_begin 7 = .ok (.aload_n 1, 1) := by decide +kernel
theorem dX5_begin_8 : decode cX5_begin 8 = .ok (.arraylength, 1) := by decide +kernel
theorem dX5_begin_9 : decode cX5_begin 9 = .ok (.invokestatic 50, 3) := by decide +kernel
theorem dX5_begin_12 : decode cX5_begin 12 = .ok (.putfield 56, 3) := by decide +kernel
theorem dX5_begin_15 : decode cX5_begin 15 = .ok (.aload_n 0, 1) := by decide +kernel
theorem dX5_begin_16 : decode cX5_begin 16 = .ok (.iconst 0, 1) := by decide +kernel
theorem dX5_begin_17 : decode cX5_begin 17 = .ok (.putfield 59, 3) := by decide +kernel
theorem dX5_begin_20 : decode cX5_begin 20 = .ok (.aload_n 0, 1) := by decide +kernel
theorem dX5_begin_21 : decode cX5_begin 21 = .ok (.iconst 0, 1) := by decide +kernel
theorem dX5_begin_22 : decode cX5_begin 22 = .ok (.putfield 62, 3) := by decide +kernel
theorem dX5_begin_25 : decode cX5_begin 25 = .ok (.aload_n 0, 1) := by decide +kernel
theorem dX5_begin_26 : decode cX5_begin 26 = .ok (.aload_n 3, 1) := by decide +kernel
theorem dX5_begin_27 : decode cX5_begin 27 = .ok (.putfield 24, 3) := by decide +kernel
theorem dX5_begin_30 : decode cX5_begin 30 = .ok (.aload_n 0, 1) := by decide +kernel
theorem dX5_begin_31 : decode cX5_begin 31 = .ok (.getfield 24, 3) := by decide +kernel
theorem dX5_begin_34 : decode cX5_begin 34 = .ok (.invokevirtual 65, 3) := by decide +kernel
theorem dX5_begin_37 : decode cX5_begin 37 = .ok (.aload_n 0, 1) := by decide +kernel
theorem dX5_begin_38 : decode cX5_begin 38 = .ok (.iconst 0, 1) := by decide +kernel
theorem dX5_begin_39 : decode cX5_begin 39 = .ok (.putfield 68, 3) := by decide +kernel
theorem dX5_begin_42 : decode cX5_begin 42 = .ok (.aload_n 0, 1) := by decide +kernel
theorem dX5_begin_43 : decode cX5_begin 43 = .ok (.iconst 0, 1) := by decide +kernel
theorem dX5_begin_44 : decode cX5_begin 44 = .ok (.putfield 72, 3) := by decide +kernel
theorem dX5_begin_47 : decode cX5_begin 47 = .ok (.aload_n 0, 1) := by decide +kernel
theorem dX5_begin_48 : decode cX5_begin 48 = .ok (.iconst 0, 1) := by decide +kernel
theorem dX5_begin_49 : decode cX5_begin 49 = .ok (.putfield 75, 3) := by decide +kernel
theorem dX5_begin_52 : decode cX5_begin 52 = .ok (.aload_n 0, 1) := by decide +kernel
theorem dX5_begin_53 : decode cX5_begin 53 = .ok (.iconst 0, 1) := by decide +kernel
theorem dX5_begin_54 : decode cX5_begin 54 = .ok (.putfield 78, 3) := by decide +kernel
theorem dX5_begin_57 : decode cX5_begin 57 = .ok (.aload_n 0, 1) := by decide +kernel
theorem dX5_begin_58 : decode cX5_begin 58 = .ok (.iconst (-1), 1) := by decide +kernel
theorem dX5_begin_59 : decode cX5_begin 59 = .ok (.putfield 81, 3) := by decide +kernel
theorem dX5_begin_62 : decode cX5_begin 62 = .ok (.aload_n 0, 1) := by decide +kernel
theorem dX5_begin_63 : decode cX5_begin 63 = .ok (.iconst 0, 1) := by decide +kernel
theorem dX5_begin_64 : decode cX5_begin 64 = .ok (.putfield 84, 3) := by decide +kernel
theorem dX5_begin_67 : decode cX5_begin 67 = .ok (.aload_n 0, 1) := by decide +kernel
theorem dX5_begin_68 : decode cX5_begin 68 = .ok (.invokevirtual 87, 3) := by decide +kernel
theorem dX5_begin_71 : decode cX5_begin 71 = .ok (.return_, 1) := by decide +kernel
theorem dX5_hasMore_0 : decode cX5_hasMore 0 = .ok (.aload_n 0, 1) := by decide +kernel
theorem dX5_hasMore_1 : decode cX5_hasMore 1 = .ok (.getfield 90, 3) := by decide +kernel
theorem dX5_hasMore_4 : decode cX5_hasMore 4 = .ok (.ifCond .eq 7, 3) := by decide +kernel
theorem dX5_hasMore_7 : decode cX5_hasMore 7 = .ok (.iconst 1, 1) := by decide +kernel
theorem dX5_hasMore_8 : decode cX5_hasMore 8 = .ok (.goto 4, 3) := by decide +kernel
theorem dX5_hasMore_11 : decode cX5_hasMore 11 = .ok (.iconst 0, 1) := by decide +kernel
theorem dX5_hasMore_12 : decode cX5_hasMore 12 = .ok (.ireturn, 1) := by decide +kernel
theorem dX5_fail_0 : decode cX5_fail 0 = .ok (.aload_n 0, 1) := by decide +kernel
theorem dX5_fail_1 : decode cX5_fail 1 = .ok (.getfield 78, 3) := by decide +kernel
theorem dX5_fail_4 : decode cX5_fail 4 = .ok (.ifCond .ne 13, 3) := by decide +kernel
theorem dX5_fail_7 : decode cX5_fail 7 = .ok (.aload_n 0, 1) := by decide +kernel
theorem dX5_fail_8 : decode cX5_fail 8 = .ok (.iload_n 1, 1) := by decide +kernel
theorem dX5_fail_9 : decode cX5_fail 9 = .ok (.putfield 78, 3) := by decide +kernel
theorem dX5_fail_12 : decode cX5_fail 12 = .ok (.aload_n 0, 1) := by decide +kernel
theorem dX5_fail_13 : decode cX5_fail 13 = .ok (.iload_n 2, 1) := by decide +kernel
theorem dX5_fail_14 : decode cX5_fail 14 = .ok (.putfield 81, 3) := by decide +kernel
theorem dX5_fail_17 : decode cX5_fail 17 = .ok (.aload_n 0, 1) := by decide +kernel
theorem dX5_fail_18 : decode cX5_fail 18 = .ok (.iconst 0, 1) := by decide +kernel
theorem dX5_fail_19 : decode cX5_fail 19 = .ok (.putfield 90, 3) := by decide +kernel
theorem dX5_fail_22 : decode cX5_fail 22 = .ok (.aload_n 0, 1) := by decide +kernel
theorem dX5_fail_23 : decode cX5_fail 23 = .ok (.aload_n 0, 1) := by decide +kernel
theorem dX5_fail_24 : decode cX5_fail 24 = .ok (.getfield 56, 3) := by decide +kernel
theorem dX5_fail_27 : decode cX5_fail 27 = .ok (.putfield 59, 3) := by decide +kernel
theorem dX5_fail_30 : decode cX5_fail 30 = .ok (.return_, 1) := by decide +kernel
theorem dX5_expect_0 : decode cX5_expect 0 = .ok (.aload_n 0, 1) := by decide +kernel
theorem dX5_expect_1 : decode cX5_expect 1 = .ok (.getfield 90, 3) := by decide +kernel
theorem dX5_expect_4 : decode cX5_expect 4 = .ok (.iload_n 1, 1) := by decide +kernel
theorem dX5_expect_5 : decode cX5_expect 5 = .ok (.if_icmp .ne 10, 3) := by decide +kernel
theorem dX5_expect_8 : decode cX5_expect 8 = .ok (.aload_n 0, 1) := by decide +kernel
theorem dX5_expect_9 : decode cX5_expect 9 = .ok (.invokevirtual 87, 3) := by decide +kernel
theorem dX5_expect_12 : decode cX5_expect 12 = .ok (.goto 12, 3) := by decide +kernel
theorem dX5_expect_15 : decode cX5_expect 15 = .ok (.aload_n 0, 1) := by decide +kernel
theorem dX5_expect_16 : decode cX5_expect 16 = .ok (.iconst 1, 1) := by decide +kernel
theorem dX5_expect_17 : decode cX5_expect 17 = .ok (.aload_n 0, 1) := by decide +kernel
theorem dX5_expect_18 : decode cX5_expect 18 = .ok (.getfield 62, 3) := by decide +kernel
theorem dX5_expect_21 : decode cX5_expect 21 = .ok (.invokevirtual 93, 3) := by decide +kernel
theorem dX5_expect_24 : decode cX5_expect 24 = .ok (.return_, 1) := by decide +kernel
theorem dX5_readLine_0 : decode cX5_readLine 0 = .ok (.aload_n 0, 1) := by decide +kernel
theorem dX5_readLine_1 : decode cX5_readLine 1 = .ok (.getfield 90, 3) := by decide +kernel
theorem dX5_readLine_4 : decode cX5_readLine 4 = .ok (.tableswitch 137 20 30 #[60, 67, 74, 81, 88, 95, 102, 109, 116, 123, 130], 60) := by decide +kernel
theorem dX5_readLine_64 : decode cX5_readLine 64 = .ok (.aload_n 0, 1) := by decide +kernel
theorem dX5_readLine_65 : decode cX5_readLine 65 = .ok (.invokevirtual 97, 3) := by decide +kernel
theorem dX5_readLine_68 : decode cX5_readLine 68 = .ok (.goto 82, 3) := by decide +kernel
theorem dX5_readLine_71 : decode cX5_readLine 71 = .ok (.aload_n 0, 1) := by decide +kernel
theorem dX5_readLine_72 : decode cX5_readLine 72 = .ok (.invokevirtual 100, 3) := by decide +kernel
theorem dX5_readLine_75 : decode cX5_readLine 75 = .ok (.goto 75, 3) := by decide +kernel
theorem dX5_readLine_78 : decode cX5_readLine 78 = .ok (.aload_n 0, 1) := by decide +kernel
theorem dX5_readLine_79 : decode cX5_readLine 79 = .ok (.invokevirtual 103, 3) := by decide +kernel
theorem dX5_readLine_82 : decode cX5_readLine 82 = .ok (.goto 68, 3) := by decide +kernel
theorem dX5_readLine_85 : decode cX5_readLine 85 = .ok (.aload_n 0, 1) := by decide +kernel
theorem dX5_readLine_86 : decode cX5_readLine 86 = .ok (.invokevirtual 106, 3) := by decide +kernel
theorem dX5_readLine_89 : decode cX5_readLine 89 = .ok (.goto 61, 3) := by decide +kernel
theorem dX5_readLine_92 : decode cX5_readLine 92 = .ok (.aload_n 0, 1) := by decide +kernel
theorem dX5_readLine_93 : decode cX5_readLine 93 = .ok (.invokevirtual 109, 3) := by decide +kernel
theorem dX5_readLine_96 : decode cX5_readLine 96 = .ok (.goto 54, 3) := by decide +kernel
theorem dX5_readLine_99 : decode cX5_readLine 99 = .ok (.aload_n 0, 1) := by decide +kernel
theorem dX5_readLine_100 : decode cX5_readLine 100 = .ok (.invokevirtual 112, 3) := by decide +kernel
theorem dX5_readLine_103 : decode cX5_readLine 103 = .ok (.goto 47, 3) := by decide +kernel
theorem dX5_readLine_106 : decode cX5_readLine 106 = .ok (.aload_n 0, 1) := by decide +kernel
theorem dX5_readLine_107 : decode cX5_readLine 107 = .ok (.invokevirtual 115, 3) := by decide +kernel
theorem dX5_readLine_110 : decode cX5_readLine 110 = .ok (.goto 40, 3) := by decide +kernel
theorem dX5_readLine_113 : decode cX5_readLine 113 = .ok (.aload_n 0, 1) := by decide +kernel
theorem dX5_readLine_114 : decode cX5_readLine 114 = .ok (.invokevirtual 118, 3) := by decide +kernel
theorem dX5_readLine_117 : decode cX5_readLine 117 = .ok (.goto 33, 3) := by decide +kernel
theorem dX5_readLine_120 : decode cX5_readLine 120 = .ok (.aload_n 0, 1) := by decide +kernel
theorem dX5_readLine_121 : decode cX5_readLine 121 = .ok (.invokevirtual 121, 3) := by decide +kernel
theorem dX5_readLine_124 : decode cX5_readLine 124 = .ok (.goto 26, 3) := by decide +kernel
theorem dX5_readLine_127 : decode cX5_readLine 127 = .ok (.aload_n 0, 1) := by decide +kernel
theorem dX5_readLine_128 : decode cX5_readLine 128 = .ok (.invokevirtual 124, 3) := by decide +kernel
theorem dX5_readLine_131 : decode cX5_readLine 131 = .ok (.goto 19, 3) := by decide +kernel
theorem dX5_readLine_134 : decode cX5_readLine 134 = .ok (.aload_n 0, 1) := by decide +kernel
theorem dX5_readLine_135 : decode cX5_readLine 135 = .ok (.invokevirtual 127, 3) := by decide +kernel
theorem dX5_readLine_138 : decode cX5_readLine 138 = .ok (.goto 12, 3) := by decide +kernel
theorem dX5_readLine_141 : decode cX5_readLine 141 = .ok (.aload_n 0, 1) := by decide +kernel
theorem dX5_readLine_142 : decode cX5_readLine 142 = .ok (.iconst 1, 1) := by decide +kernel
theorem dX5_readLine_143 : decode cX5_readLine 143 = .ok (.aload_n 0, 1) := by decide +kernel
theorem dX5_readLine_144 : decode cX5_readLine 144 = .ok (.getfield 62, 3) := by decide +kernel
theorem dX5_readLine_147 : decode cX5_readLine 147 = .ok (.invokevirtual 93, 3) := by decide +kernel
theorem dX5_readLine_150 : decode cX5_readLine 150 = .ok (.aload_n 0, 1) := by decide +kernel
theorem dX5_readLine_151 : decode cX5_readLine 151 = .ok (.iconst 4, 1) := by decide +kernel
theorem dX5_readLine_152 : decode cX5_readLine 152 = .ok (.invokevirtual 130, 3) := by decide +kernel
theorem dX5_readLine_155 : decode cX5_readLine 155 = .ok (.aload_n 0, 1) := by decide +kernel
theorem dX5_readLine_156 : decode cX5_readLine 156 = .ok (.dup, 1) := by decide +kernel
theorem dX5_readLine_157 : decode cX5_readLine 157 = .ok (.getfield 84, 3) := by decide +kernel
theorem dX5_readLine_160 : decode cX5_readLine 160 = .ok (.iconst 1, 1) := by decide +kernel
theorem dX5_readLine_161 : decode cX5_readLine 161 = .ok (.iadd, 1) := by decide +kernel
theorem dX5_readLine_162 : decode cX5_readLine 162 = .ok (.putfield 84, 3) := by decide +kernel
theorem dX5_readLine_165 : decode cX5_readLine 165 = .ok (.return_, 1) := by decide +kernel
theorem dX5_readRoom_0 : decode cX5_readRoom 0 = .ok (.aload_n 0, 1) := by decide +kernel
theorem dX5_readRoom_1 : decode cX5_readRoom 1 = .ok (.getfield 84, 3) := by decide +kernel
theorem dX5_readRoom_4 : decode cX5_readRoom 4 = .ok (.ifCond .le 12, 3) := by decide +kernel
theorem dX5_readRoom_7 : decode cX5_readRoom 7 = .ok (.aload_n 0, 1) := by decide +kernel
theorem dX5_readRoom_8 : decode cX5_readRoom 8 = .ok (.iconst 1, 1) := by decide +kernel
theorem dX5_readRoom_9 : decode cX5_readRoom 9 = .ok (.aload_n 0, 1) := by decide +kernel
theorem dX5_readRoom_10 : decode cX5_readRoom 10 = .ok (.getfield 62, 3) := by decide +kernel
theorem dX5_readRoom_13 : decode cX5_readRoom 13 = .ok (.invokevirtual 93, 3) := by decide +kernel
theorem dX5_readRoom_16 : decode cX5_readRoom 16 = .ok (.aload_n 0, 1) := by decide +kernel
theorem dX5_readRoom_17 : decode cX5_readRoom 17 = .ok (.invokevirtual 87, 3) := by decide +kernel
theorem dX5_readRoom_20 : decode cX5_readRoom 20 = .ok (.aload_n 0, 1) := by decide +kernel
theorem dX5_readRoom_21 : decode cX5_readRoom 21 = .ok (.getfield 24, 3) := by decide +kernel
theorem dX5_readRoom_24 : decode cX5_readRoom 24 = .ok (.aload_n 0, 1) := by decide +kernel
theorem dX5_readRoom_25 : decode cX5_readRoom 25 = .ok (.iconst 1, 1) := by decide +kernel
theorem dX5_readRoom_26 : decode cX5_readRoom 26 = .ok (.bipush 8, 2) := by decide +kernel
theorem dX5_readRoom_28 : decode cX5_readRoom 28 = .ok (.invokevirtual 134, 3) := by decide +kernel
theorem dX5_readRoom_31 : decode cX5_readRoom 31 = .ok (.putfield 137, 3) := by decide +kernel
theorem dX5_readRoom_34 : decode cX5_readRoom 34 = .ok (.aload_n 0, 1) := by decide +kernel
theorem dX5_readRoom_35 : decode cX5_readRoom 35 = .ok (.getfield 24, 3) := by decide +kernel
theorem dX5_readRoom_38 : decode cX5_readRoom 38 = .ok (.aload_n 0, 1) := by decide +kernel
theorem dX5_readRoom_39 : decode cX5_readRoom 39 = .ok (.iconst 1, 1) := by decide +kernel
theorem dX5_readRoom_40 : decode cX5_readRoom 40 = .ok (.bipush 8, 2) := by decide +kernel
theorem dX5_readRoom_42 : decode cX5_readRoom 42 = .ok (.invokevirtual 134, 3) := by decide +kernel
theorem dX5_readRoom_45 : decode cX5_readRoom 45 = .ok (.putfield 140, 3) := by decide +kernel
theorem dX5_readRoom_48 : decode cX5_readRoom 48 = .ok (.return_, 1) := by decide +kernel
theorem dX5_readHer_0 : decode cX5_readHer 0 = .ok (.aload_n 0, 1) := by decide +kernel
theorem dX5_readHer_1 : decode cX5_readHer 1 = .ok (.getfield 24, 3) := by decide +kernel
theorem dX5_readHer_4 : decode cX5_readHer 4 = .ok (.getfield 143, 3) := by decide +kernel
theorem dX5_readHer_7 : decode cX5_readHer 7 = .ok (.ifCond .le 12, 3) := by decide +kernel
theorem dX5_readHer_10 : decode cX5_readHer 10 = .ok (.aload_n 0, 1) := by decide +kernel
theorem dX5_readHer_11 : decode cX5_readHer 11 = .ok (.iconst 1, 1) := by decide +kernel
theorem dX5_readHer_12 : decode cX5_readHer 12 = .ok (.aload_n 0, 1) := by decide +kernel
theorem dX5_readHer_13 : decode cX5_readHer 13 = .ok (.getfield 62, 3) := by decide +kernel
theorem dX5_readHer_16 : decode cX5_readHer 16 = .ok (.invokevirtual 93, 3) := by decide +kernel
theorem dX5_readHer_19 : decode cX5_readHer 19 = .ok (.aload_n 0, 1) := by decide +kernel
theorem dX5_readHer_20 : decode cX5_readHer 20 = .ok (.aload_n 0, 1) := by decide +kernel
theorem dX5_readHer_21 : decode cX5_readHer 21 = .ok (.getfield 68, 3) := by decide +kernel
theorem dX5_readHer_24 : decode cX5_readHer 24 = .ok (.invokevirtual 146, 3) := by decide +kernel
theorem dX5_readHer_27 : decode cX5_readHer 27 = .ok (.aload_n 0, 1) := by decide +kernel
theorem dX5_readHer_28 : decode cX5_readHer 28 = .ok (.iconst 1, 1) := by decide +kernel
theorem dX5_readHer_29 : decode cX5_readHer 29 = .ok (.putfield 68, 3) := by decide +kernel
theorem dX5_readHer_32 : decode cX5_readHer 32 = .ok (.aload_n 0, 1) := by decide +kernel
theorem dX5_readHer_33 : decode cX5_readHer 33 = .ok (.getfield 24, 3) := by decide +kernel
theorem dX5_readHer_36 : decode cX5_readHer 36 = .ok (.aload_n 0, 1) := by decide +kernel
theorem dX5_readHer_37 : decode cX5_readHer 37 = .ok (.iconst 0, 1) := by decide +kernel
theorem dX5_readHer_38 : decode cX5_readHer 38 = .ok (.aload_n 0, 1) := by decide +kernel
theorem dX5_readHer_39 : decode cX5_readHer 39 = .ok (.getfield 24, 3) := by decide +kernel
theorem dX5_readHer_42 : decode cX5_readHer 42 = .ok (.getfield 137, 3) := by decide +kernel
theorem dX5_readHer_45 : decode cX5_readHer 45 = .ok (.iconst 1, 1) := by decide +kernel
theorem dX5_readHer_46 : decode cX5_readHer 46 = .ok (.isub, 1) := by decide +kernel
theorem dX5_readHer_47 : decode cX5_readHer 47 = .ok (.invokevirtual 134, 3) := by decide +kernel
theorem dX5_readHer_50 : decode cX5_readHer 50 = .ok (.putfield 150, 3) := by decide +kernel
theorem dX5_readHer_53 : decode cX5_readHer 53 = .ok (.aload_n 0, 1) := by decide +kernel
theorem dX5_readHer_54 : decode cX5_readHer 54 = .ok (.getfield 24, 3) := by decide +kernel
theorem dX5_readHer_57 : decode cX5_readHer 57 = .ok (.aload_n 0, 1) := by decide +kernel
theorem dX5_readHer_58 : decode cX5_readHer 58 = .ok (.iconst 0, 1) := by decide +kernel
theorem dX5_readHer_59 : decode cX5_readHer 59 = .ok (.aload_n 0, 1) := by decide +kernel
theorem dX5_readHer_60 : decode cX5_readHer 60 = .ok (.getfield 24, 3) := by decide +kernel
theorem dX5_readHer_63 : decode cX5_readHer 63 = .ok (.getfield 140, 3) := by decide +kernel
theorem dX5_readHer_66 : decode cX5_readHer 66 = .ok (.iconst 1, 1) := by decide +kernel
theorem dX5_readHer_67 : decode cX5_readHer 67 = .ok (.isub, 1) := by decide +kernel
theorem dX5_readHer_68 : decode cX5_readHer 68 = .ok (.invokevirtual 134, 3) := by decide +kernel
theorem dX5_readHer_71 : decode cX5_readHer 71 = .ok (.putfield 153, 3) := by decide +kernel
theorem dX5_readHer_74 : decode cX5_readHer 74 = .ok (.return_, 1) := by decide +kernel
theorem dX5_readWall_0 : decode cX5_readWall 0 = .ok (.aload_n 0, 1) := by decide +kernel
theorem dX5_readWall_1 : decode cX5_readWall 1 = .ok (.aload_n 0, 1) := by decide +kernel
theorem dX5_readWall_2 : decode cX5_readWall 2 = .ok (.getfield 24, 3) := by decide +kernel
theorem dX5_readWall_5 : decode cX5_readWall 5 = .ok (.getfield 143, 3) := by decide +kernel
theorem dX5_readWall_8 : decode cX5_readWall 8 = .ok (.bipush 8, 2) := by decide +kernel
theorem dX5_readWall_10 : decode cX5_readWall 10 = .ok (.if_icmp .lt 7, 3) := by decide +kernel
theorem dX5_readWall_13 : decode cX5_readWall 13 = .ok (.iconst 1, 1) := by decide +kernel
theorem dX5_readWall_14 : decode cX5_readWall 14 = .ok (.goto 4, 3) := by decide +kernel
theorem dX5_readWall_17 : decode cX5_readWall 17 = .ok (.iconst 0, 1) := by decide +kernel
theorem dX5_readWall_18 : decode cX5_readWall 18 = .ok (.invokevirtual 156, 3) := by decide +kernel
theorem dX5_readWall_21 : decode cX5_readWall 21 = .ok (.aload_n 0, 1) := by decide +kernel
theorem dX5_readWall_22 : decode cX5_readWall 22 = .ok (.iconst 0, 1) := by decide +kernel
theorem dX5_readWall_23 : decode cX5_readWall 23 = .ok (.aload_n 0, 1) := by decide +kernel
theorem dX5_readWall_24 : decode cX5_readWall 24 = .ok (.getfield 24, 3) := by decide +kernel
theorem dX5_readWall_27 : decode cX5_readWall 27 = .ok (.getfield 137, 3) := by decide +kernel
theorem dX5_readWall_30 : decode cX5_readWall 30 = .ok (.iconst 1, 1) := by decide +kernel
theorem dX5_readWall_31 : decode cX5_readWall 31 = .ok (.isub, 1) := by decide +kernel
theorem dX5_readWall_32 : decode cX5_readWall 32 = .ok (.invokevirtual 134, 3) := by decide +kernel
theorem dX5_readWall_35 : decode cX5_readWall 35 = .ok (.istore_n 1, 1) := by decide +kernel
theorem dX5_readWall_36 : decode cX5_readWall 36 = .ok (.aload_n 0, 1) := by decide +kernel
theorem dX5_readWall_37 : decode cX5_readWall 37 = .ok (.iconst 0, 1) := by decide +kernel
theorem dX5_readWall_38 : decode cX5_readWall 38 = .ok (.aload_n 0, 1) := by decide +kernel
theorem dX5_readWall_39 : decode cX5_readWall 39 = .ok (.getfield 24, 3) := by decide +kernel
theorem dX5_readWall_42 : decode cX5_readWall 42 = .ok (.getfield 140, 3) := by decide +kernel
theorem dX5_readWall_45 : decode cX5_readWall 45 = .ok (.iconst 1, 1) := by decide +kernel
theorem dX5_readWall_46 : decode cX5_readWall 46 = .ok (.isub, 1) := by decide +kernel
theorem dX5_readWall_47 : decode cX5_readWall 47 = .ok (.invokevirtual 134, 3) := by decide +kernel
theorem dX5_readWall_50 : decode cX5_readWall 50 = .ok (.istore_n 2, 1) := by decide +kernel
theorem dX5_readWall_51 : decode cX5_readWall 51 = .ok (.aload_n 0, 1) := by decide +kernel
theorem dX5_readWall_52 : decode cX5_readWall 52 = .ok (.getfield 24, 3) := by decide +kernel
theorem dX5_readWall_55 : decode cX5_readWall 55 = .ok (.iload_n 1, 1) := by decide +kernel
theorem dX5_readWall_56 : decode cX5_readWall 56 = .ok (.iload_n 2, 1) := by decide +kernel
theorem dX5_readWall_57 : decode cX5_readWall 57 = .ok (.invokevirtual 159, 3) := by decide +kernel
theorem dX5_readWall_60 : decode cX5_readWall 60 = .ok (.ifCond .ne 25, 3) := by decide +kernel
theorem dX5_readWall_63 : decode cX5_readWall 63 = .ok (.iload_n 1, 1) := by decide +kernel
theorem dX5_readWall_64 : decode cX5_readWall 64 = .ok (.aload_n 0, 1) := by decide +kernel
theorem dX5_readWall_65 : decode cX5_readWall 65 = .ok (.getfield 24, 3) := by decide +kernel
theorem dX5_readWall_68 : decode cX5_readWall 68 = .ok (.getfield 150, 3) := by decide +kernel
theorem dX5_readWall_71 : decode cX5_readWall 71 = .ok (.if_icmp .ne 23, 3) := by decide +kernel
theorem dX5_readWall_74 : decode cX5_readWall 74 = .ok (.iload_n 2, 1) := by decide +kernel
theorem dX5_readWall_75 : decode cX5_readWall 75 = .ok (.aload_n 0, 1) := by decide +kernel
theorem dX5_readWall_76 : decode cX5_readWall 76 = .ok (.getfield 24, 3) := by decide +kernel
theorem dX5_readWall_79 : decode cX5_readWall 79 = .ok (.getfield 153, 3) := by decide +kernel
theorem dX5_readWall_82 : decode cX5_readWall 82 = .ok (.if_icmp .ne 12, 3) := by decide +kernel
theorem dX5_readWall_85 : decode cX5_readWall 85 = .ok (.aload_n 0, 1) := by decide +kernel
theorem dX5_readWall_86 : decode cX5_readWall 86 = .ok (.iconst 5, 1) := by decide +kernel
theorem dX5_readWall_87 : decode cX5_readWall 87 = .ok (.aload_n 0, 1) := by decide +kernel
theorem dX5_readWall_88 : decode cX5_readWall 88 = .ok (.getfield 163, 3) := by decide +kernel
theorem dX5_readWall_91 : decode cX5_readWall 91 = .ok (.invokevirtual 93, 3) := by decide +kernel
theorem dX5_readWall_94 : decode cX5_readWall 94 = .ok (.aload_n 0, 1) := by decide +kernel
theorem dX5_readWall_95 : decode cX5_readWall 95 = .ok (.getfield 24, 3) := by decide +kernel
theorem dX5_readWall_98 : decode cX5_readWall 98 = .ok (.iload_n 1, 1) := by decide +kernel
theorem dX5_readWall_99 : decode cX5_readWall 99 = .ok (.iload_n 2, 1) := by decide +kernel
theorem dX5_readWall_100 : decode cX5_readWall 100 = .ok (.invokevirtual 166, 3) := by decide +kernel
theorem dX5_readWall_103 : decode cX5_readWall 103 = .ok (.return_, 1) := by decide +kernel
theorem dX5_readSun_0 : decode cX5_readSun 0 = .ok (.aload_n 0, 1) := by decide +kernel
theorem dX5_readSun_1 : decode cX5_readSun 1 = .ok (.getfield 24, 3) := by decide +kernel
theorem dX5_readSun_4 : decode cX5_readSun 4 = .ok (.getfield 169, 3) := by decide +kernel
theorem dX5_readSun_7 : decode cX5_readSun 7 = .ok (.astore_n 1, 1) := by decide +kernel
theorem dX5_readSun_8 : decode cX5_readSun 8 = .ok (.aload_n 0, 1) := by decide +kernel
theorem dX5_readSun_9 : decode cX5_readSun 9 = .ok (.aload_n 1, 1) := by decide +kernel
theorem dX5_readSun_10 : decode cX5_readSun 10 = .ok (.invokevirtual 173, 3) := by decide +kernel
theorem dX5_readSun_13 : decode cX5_readSun 13 = .ok (.invokevirtual 156, 3) := by decide +kernel
theorem dX5_readSun_16 : decode cX5_readSun 16 = .ok (.aload_n 0, 1) := by decide +kernel
theorem dX5_readSun_17 : decode cX5_readSun 17 = .ok (.iconst 0, 1) := by decide +kernel
theorem dX5_readSun_18 : decode cX5_readSun 18 = .ok (.bipush 23, 2) := by decide +kernel
theorem dX5_readSun_20 : decode cX5_readSun 20 = .ok (.invokevirtual 134, 3) := by decide +kernel
theorem dX5_readSun_23 : decode cX5_readSun 23 = .ok (.istore_n 2, 1) := by decide +kernel
theorem dX5_readSun_24 : decode cX5_readSun 24 = .ok (.aload_n 1, 1) := by decide +kernel
theorem dX5_readSun_25 : decode cX5_readSun 25 = .ok (.iconst 0, 1) := by decide +kernel
theorem dX5_readSun_26 : decode cX5_readSun 26 = .ok (.iload_n 2, 1) := by decide +kernel
theorem dX5_readSun_27 : decode cX5_readSun 27 = .ok (.invokevirtual 179, 3) := by decide +kernel
theorem dX5_readSun_30 : decode cX5_readSun 30 = .ok (.iconst (-1), 1) := by decide +kernel
theorem dX5_readSun_31 : decode cX5_readSun 31 = .ok (.if_icmp .eq 12, 3) := by decide +kernel
theorem dX5_readSun_34 : decode cX5_readSun 34 = .ok (.aload_n 0, 1) := by decide +kernel
theorem dX5_readSun_35 : decode cX5_readSun 35 = .ok (.iconst 3, 1) := by decide +kernel
theorem dX5_readSun_36 : decode cX5_readSun 36 = .ok (.aload_n 0, 1) := by decide +kernel
theorem dX5_readSun_37 : decode cX5_readSun 37 = .ok (.getfield 163, 3) := by decide +kernel
theorem dX5_readSun_40 : decode cX5_readSun 40 = .ok (.invokevirtual 93, 3) := by decide +kernel
theorem dX5_readSun_43 : decode cX5_readSun 43 = .ok (.aload_n 1, 1) := by decide +kernel
theorem dX5_readSun_44 : decode cX5_readSun 44 = .ok (.iconst 0, 1) := by decide +kernel
theorem dX5_readSun_45 : decode cX5_readSun 45 = .ok (.iload_n 2, 1) := by decide +kernel
theorem dX5_readSun_46 : decode cX5_readSun 46 = .ok (.invokevirtual 182, 3) := by decide +kernel
theorem dX5_readSun_49 : decode cX5_readSun 49 = .ok (.aload_n 1, 1) := by decide +kernel
theorem dX5_readSun_50 : decode cX5_readSun 50 = .ok (.iconst 1, 1) := by decide +kernel
theorem dX5_readSun_51 : decode cX5_readSun 51 = .ok (.aload_n 0, 1) := by decide +kernel
theorem dX5_readSun_52 : decode cX5_readSun 52 = .ok (.iconst 0, 1) := by decide +kernel
theorem dX5_readSun_53 : decode cX5_readSun 53 = .ok (.iconst 3, 1) := by decide +kernel
theorem dX5_readSun_54 : decode cX5_readSun 54 = .ok (.invokevirtual 134, 3) := by decide +kernel
theorem dX5_readSun_57 : decode cX5_readSun 57 = .ok (.invokevirtual 182, 3) := by decide +kernel
theorem dX5_readSun_60 : decode cX5_readSun 60 = .ok (.aload_n 1, 1) := by decide +kernel
theorem dX5_readSun_61 : decode cX5_readSun 61 = .ok (.iconst 2, 1) := by decide +kernel
theorem dX5_readSun_62 : decode cX5_readSun 62 = .ok (.aload_n 0, 1) := by decide +kernel
theorem dX5_readSun_63 : decode cX5_readSun 63 = .ok (.iconst 0, 1) := by decide +kernel
theorem dX5_readSun_64 : decode cX5_readSun 64 = .ok (.bipush 7, 2) := by decide +kernel
theorem dX5_readSun_66 : decode cX5_readSun 66 = .ok (.invokevirtual 134, 3) := by decide +kernel
theorem dX5_readSun_69 : decode cX5_readSun 69 = .ok (.invokevirtual 182, 3) := by decide +kernel
theorem dX5_readSun_72 : decode cX5_readSun 72 = .ok (.aload_n 1, 1) := by decide +kernel
theorem dX5_readSun_73 : decode cX5_readSun 73 = .ok (.invokevirtual 185, 3) := by decide +kernel
theorem dX5_readSun_76 : decode cX5_readSun 76 = .ok (.return_, 1) := by decide +kernel
theorem dX5_readLamp_0 : decode cX5_readLamp 0 = .ok (.aload_n 0, 1) := by decide +kernel
theorem dX5_readLamp_1 : decode cX5_readLamp 1 = .ok (.getfield 24, 3) := by decide +kernel
theorem dX5_readLamp_4 : decode cX5_readLamp 4 = .ok (.getfield 188, 3) := by decide +kernel
theorem dX5_readLamp_7 : decode cX5_readLamp 7 = .ok (.astore_n 1, 1) := by decide +kernel
theorem dX5_readLamp_8 : decode cX5_readLamp 8 = .ok (.aload_n 0, 1) := by decide +kernel
theorem dX5_readLamp_9 : decode cX5_readLamp 9 = .ok (.aload_n 1, 1) := by decide +kernel
theorem dX5_readLamp_10 : decode cX5_readLamp 10 = .ok (.invokevirtual 173, 3) := by decide +kernel
theorem dX5_readLamp_13 : decode cX5_readLamp 13 = .ok (.invokevirtual 156, 3) := by decide +kernel
theorem dX5_readLamp_16 : decode cX5_readLamp 16 = .ok (.aload_n 0, 1) := by decide +kernel
theorem dX5_readLamp_17 : decode cX5_readLamp 17 = .ok (.aload_n 1, 1) := by decide +kernel
theorem dX5_readLamp_18 : decode cX5_readLamp 18 = .ok (.invokevirtual 191, 3) := by decide +kernel
theorem dX5_readLamp_21 : decode cX5_readLamp 21 = .ok (.aload_n 1, 1) := by decide +kernel
theorem dX5_readLamp_22 : decode cX5_readLamp 22 = .ok (.iconst 1, 1) := by decide +kernel
theorem dX5_readLamp_23 : decode cX5_readLamp 23 = .ok (.aload_n 0, 1) := by decide +kernel
theorem dX5_readLamp_24 : decode cX5_readLamp 24 = .ok (.iconst 0, 1) := by decide +kernel
theorem dX5_readLamp_25 : decode cX5_readLamp 25 = .ok (.aload_n 0, 1) := by decide +kernel
theorem dX5_readLamp_26 : decode cX5_readLamp 26 = .ok (.getfield 24, 3) := by decide +kernel
theorem dX5_readLamp_29 : decode cX5_readLamp 29 = .ok (.getfield 137, 3) := by decide +kernel
theorem dX5_readLamp_32 : decode cX5_readLamp 32 = .ok (.iconst 1, 1) := by decide +kernel
theorem dX5_readLamp_33 : decode cX5_readLamp 33 = .ok (.isub, 1) := by decide +kernel
theorem dX5_readLamp_34 : decode cX5_readLamp 34 = .ok (.invokevirtual 134, 3) := by decide +kernel
theorem dX5_readLamp_37 : decode cX5_readLamp 37 = .ok (.invokevirtual 182, 3) := by decide +kernel
theorem dX5_readLamp_40 : decode cX5_readLamp 40 = .ok (.aload_n 1, 1) := by decide +kernel
theorem dX5_readLamp_41 : decode cX5_readLamp 41 = .ok (.iconst 2, 1) := by decide +kernel
theorem dX5_readLamp_42 : decode cX5_readLamp 42 = .ok (.aload_n 0, 1) := by decide +kernel
theorem dX5_readLamp_43 : decode cX5_readLamp 43 = .ok (.iconst 0, 1) := by decide +kernel
theorem dX5_readLamp_44 : decode cX5_readLamp 44 = .ok (.aload_n 0, 1) := by decide +kernel
theorem dX5_readLamp_45 : decode cX5_readLamp 45 = .ok (.getfield 24, 3) := by decide +kernel
theorem dX5_readLamp_48 : decode cX5_readLamp 48 = .ok (.getfield 140, 3) := by decide +kernel
theorem dX5_readLamp_51 : decode cX5_readLamp 51 = .ok (.iconst 1, 1) := by decide +kernel
theorem dX5_readLamp_52 : decode cX5_readLamp 52 = .ok (.isub, 1) := by decide +kernel
theorem dX5_readLamp_53 : decode cX5_readLamp 53 = .ok (.invokevirtual 134, 3) := by decide +kernel
theorem dX5_readLamp_56 : decode cX5_readLamp 56 = .ok (.invokevirtual 182, 3) := by decide +kernel
theorem dX5_readLamp_59 : decode cX5_readLamp 59 = .ok (.aload_n 1, 1) := by decide +kernel
theorem dX5_readLamp_60 : decode cX5_readLamp 60 = .ok (.iconst 3, 1) := by decide +kernel
theorem dX5_readLamp_61 : decode cX5_readLamp 61 = .ok (.aload_n 0, 1) := by decide +kernel
theorem dX5_readLamp_62 : decode cX5_readLamp 62 = .ok (.iconst 1, 1) := by decide +kernel
theorem dX5_readLamp_63 : decode cX5_readLamp 63 = .ok (.bipush 9, 2) := by decide +kernel
theorem dX5_readLamp_65 : decode cX5_readLamp 65 = .ok (.invokevirtual 134, 3) := by decide +kernel
theorem dX5_readLamp_68 : decode cX5_readLamp 68 = .ok (.invokevirtual 182, 3) := by decide +kernel
theorem dX5_readLamp_71 : decode cX5_readLamp 71 = .ok (.aload_n 1, 1) := by decide +kernel
theorem dX5_readLamp_72 : decode cX5_readLamp 72 = .ok (.invokevirtual 185, 3) := by decide +kernel
theorem dX5_readLamp_75 : decode cX5_readLamp 75 = .ok (.return_, 1) := by decide +kernel
theorem dX5_readStep_0 : decode cX5_readStep 0 = .ok (.aload_n 0, 1) := by decide +kernel
theorem dX5_readStep_1 : decode cX5_readStep 1 = .ok (.getfield 24, 3) := by decide +kernel
theorem dX5_readStep_4 : decode cX5_readStep 4 = .ok (.getfield 195, 3) := by decide +kernel
theorem dX5_readStep_7 : decode cX5_readStep 7 = .ok (.astore_n 1, 1) := by decide +kernel
theorem dX5_readStep_8 : decode cX5_readStep 8 = .ok (.aload_n 0, 1) := by decide +kernel
theorem dX5_readStep_9 : decode cX5_readStep 9 = .ok (.aload_n 1, 1) := by decide +kernel
theorem dX5_readStep_10 : decode cX5_readStep 10 = .ok (.invokevirtual 173, 3) := by decide +kernel
theorem dX5_readStep_13 : decode cX5_readStep 13 = .ok (.invokevirtual 156, 3) := by decide +kernel
theorem dX5_readStep_16 : decode cX5_readStep 16 = .ok (.aload_n 1, 1) := by decide +kernel
theorem dX5_readStep_17 : decode cX5_readStep 17 = .ok (.iconst 0, 1) := by decide +kernel
theorem dX5_readStep_18 : decode cX5_readStep 18 = .ok (.aload_n 0, 1) := by decide +kernel
theorem dX5_readStep_19 : decode cX5_readStep 19 = .ok (.iconst 0, 1) := by decide +kernel
theorem dX5_readStep_20 : decode cX5_readStep 20 = .ok (.bipush 99, 2) := by decide +kernel
theorem dX5_readStep_22 : decode cX5_readStep 22 = .ok (.invokevirtual 134, 3) := by decide +kernel
theorem dX5_readStep_25 : decode cX5_readStep 25 = .ok (.invokevirtual 182, 3) := by decide +kernel
theorem dX5_readStep_28 : decode cX5_readStep 28 = .ok (.aload_n 1, 1) := by decide +kernel
theorem dX5_readStep_29 : decode cX5_readStep 29 = .ok (.iconst 1, 1) := by decide +kernel
theorem dX5_readStep_30 : decode cX5_readStep 30 = .ok (.aload_n 0, 1) := by decide +kernel
theorem dX5_readStep_31 : decode cX5_readStep 31 = .ok (.iconst 0, 1) := by decide +kernel
theorem dX5_readStep_32 : decode cX5_readStep 32 = .ok (.iconst 3, 1) := by decide +kernel
theorem dX5_readStep_33 : decode cX5_readStep 33 = .ok (.invokevirtual 134, 3) := by decide +kernel
theorem dX5_readStep_36 : decode cX5_readStep 36 = .ok (.invokevirtual 182, 3) := by decide +kernel
theorem dX5_readStep_39 : decode cX5_readStep 39 = .ok (.aload_n 1, 1) := by decide +kernel
theorem dX5_readStep_40 : decode cX5_readStep 40 = .ok (.invokevirtual 185, 3) := by decide +kernel
theorem dX5_readStep_43 : decode cX5_readStep 43 = .ok (.return_, 1) := by decide +kernel
theorem dX5_readDoing_0 : decode cX5_readDoing 0 = .ok (.aload_n 0, 1) := by decide +kernel
theorem dX5_readDoing_1 : decode cX5_readDoing 1 = .ok (.getfield 24, 3) := by decide +kernel
theorem dX5_readDoing_4 : decode cX5_readDoing 4 = .ok (.getfield 198, 3) := by decide +kernel
theorem dX5_readDoing_7 : decode cX5_readDoing 7 = .ok (.astore_n 1, 1) := by decide +kernel
theorem dX5_readDoing_8 : decode cX5_readDoing 8 = .ok (.aload_n 0, 1) := by decide +kernel
theorem dX5_readDoing_9 : decode cX5_readDoing 9 = .ok (.aload_n 1, 1) := by decide +kernel
theorem dX5_readDoing_10 : decode cX5_readDoing 10 = .ok (.invokevirtual 173, 3) := by decide +kernel
theorem dX5_readDoing_13 : decode cX5_readDoing 13 = .ok (.invokevirtual 156, 3) := by decide +kernel
theorem dX5_readDoing_16 : decode cX5_readDoing 16 = .ok (.aload_n 0, 1) := by decide +kernel
theorem dX5_readDoing_17 : decode cX5_readDoing 17 = .ok (.aload_n 1, 1) := by decide +kernel
theorem dX5_readDoing_18 : decode cX5_readDoing 18 = .ok (.invokevirtual 191, 3) := by decide +kernel
theorem dX5_readDoing_21 : decode cX5_readDoing 21 = .ok (.aload_n 1, 1) := by decide +kernel
theorem dX5_readDoing_22 : decode cX5_readDoing 22 = .ok (.iconst 1, 1) := by decide +kernel
theorem dX5_readDoing_23 : decode cX5_readDoing 23 = .ok (.aload_n 0, 1) := by decide +kernel
theorem dX5_readDoing_24 : decode cX5_readDoing 24 = .ok (.iconst 0, 1) := by decide +kernel
theorem dX5_readDoing_25 : decode cX5_readDoing 25 = .ok (.iconst 1, 1) := by decide +kernel
theorem dX5_readDoing_26 : decode cX5_readDoing 26 = .ok (.invokevirtual 134, 3) := by decide +kernel
theorem dX5_readDoing_29 : decode cX5_readDoing 29 = .ok (.invokevirtual 182, 3) := by decide +kernel
theorem dX5_readDoing_32 : decode cX5_readDoing 32 = .ok (.aload_n 1, 1) := by decide +kernel
theorem dX5_readDoing_33 : decode cX5_readDoing 33 = .ok (.iconst 2, 1) := by decide +kernel
theorem dX5_readDoing_34 : decode cX5_readDoing 34 = .ok (.aload_n 0, 1) := by decide +kernel
theorem dX5_readDoing_35 : decode cX5_readDoing 35 = .ok (.iconst 0, 1) := by decide +kernel
theorem dX5_readDoing_36 : decode cX5_readDoing 36 = .ok (.aload_n 0, 1) := by decide +kernel
theorem dX5_readDoing_37 : decode cX5_readDoing 37 = .ok (.getfield 24, 3) := by decide +kernel
theorem dX5_readDoing_40 : decode cX5_readDoing 40 = .ok (.getfield 137, 3) := by decide +kernel
theorem dX5_readDoing_43 : decode cX5_readDoing 43 = .ok (.iconst 1, 1) := by decide +kernel
theorem dX5_readDoing_44 : decode cX5_readDoing 44 = .ok (.isub, 1) := by decide +kernel
theorem dX5_readDoing_45 : decode cX5_readDoing 45 = .ok (.invokevirtual 134, 3) := by decide +kernel
theorem dX5_readDoing_48 : decode cX5_readDoing 48 = .ok (.invokevirtual 182, 3) := by decide +kernel
theorem dX5_readDoing_51 : decode cX5_readDoing 51 = .ok (.aload_n 1, 1) := by decide +kernel
theorem dX5_readDoing_52 : decode cX5_readDoing 52 = .ok (.iconst 3, 1) := by decide +kernel
theorem dX5_readDoing_53 : decode cX5_readDoing 53 = .ok (.aload_n 0, 1) := by decide +kernel
theorem dX5_readDoing_54 : decode cX5_readDoing 54 = .ok (.iconst 0, 1) := by decide +kernel
theorem dX5_readDoing_55 : decode cX5_readDoing 55 = .ok (.aload_n 0, 1) := by decide +kernel
theorem dX5_readDoing_56 : decode cX5_readDoing 56 = .ok (.getfield 24, 3) := by decide +kernel
theorem dX5_readDoing_59 : decode cX5_readDoing 59 = .ok (.getfield 140, 3) := by decide +kernel
theorem dX5_readDoing_62 : decode cX5_readDoing 62 = .ok (.iconst 1, 1) := by decide +kernel
theorem dX5_readDoing_63 : decode cX5_readDoing 63 = .ok (.isub, 1) := by decide +kernel
theorem dX5_readDoing_64 : decode cX5_readDoing 64 = .ok (.invokevirtual 134, 3) := by decide +kernel
theorem dX5_readDoing_67 : decode cX5_readDoing 67 = .ok (.invokevirtual 182, 3) := by decide +kernel
theorem dX5_readDoing_70 : decode cX5_readDoing 70 = .ok (.aload_n 1, 1) := by decide +kernel
theorem dX5_readDoing_71 : decode cX5_readDoing 71 = .ok (.iconst 4, 1) := by decide +kernel
theorem dX5_readDoing_72 : decode cX5_readDoing 72 = .ok (.aload_n 0, 1) := by decide +kernel
theorem dX5_readDoing_73 : decode cX5_readDoing 73 = .ok (.iconst 1, 1) := by decide +kernel
theorem dX5_readDoing_74 : decode cX5_readDoing 74 = .ok (.bipush 99, 2) := by decide +kernel
theorem dX5_readDoing_76 : decode cX5_readDoing 76 = .ok (.invokevirtual 134, 3) := by decide +kernel
theorem dX5_readDoing_79 : decode cX5_readDoing 79 = .ok (.invokevirtual 182, 3) := by decide +kernel
theorem dX5_readDoing_82 : decode cX5_readDoing 82 = .ok (.aload_n 1, 1) := by decide +kernel
theorem dX5_readDoing_83 : decode cX5_readDoing 83 = .ok (.invokevirtual 185, 3) := by decide +kernel
theorem dX5_readDoing_86 : decode cX5_readDoing 86 = .ok (.return_, 1) := by decide +kernel
theorem dX5_readMan_0 : decode cX5_readMan 0 = .ok (.aload_n 0, 1) := by decide +kernel
theorem dX5_readMan_1 : decode cX5_readMan 1 = .ok (.getfield 24, 3) := by decide +kernel
theorem dX5_readMan_4 : decode cX5_readMan 4 = .ok (.getfield 201, 3) := by decide +kernel
theorem dX5_readMan_7 : decode cX5_readMan 7 = .ok (.astore_n 1, 1) := by decide +kernel
theorem dX5_readMan_8 : decode cX5_readMan 8 = .ok (.aload_n 0, 1) := by decide +kernel
theorem dX5_readMan_9 : decode cX5_readMan 9 = .ok (.aload_n 1, 1) := by decide +kernel
theorem dX5_readMan_10 : decode cX5_readMan 10 = .ok (.invokevirtual 173, 3) := by decide +kernel
theorem dX5_readMan_13 : decode cX5_readMan 13 = .ok (.invokevirtual 156, 3) := by decide +kernel
theorem dX5_readMan_16 : decode cX5_readMan 16 = .ok (.aload_n 0, 1) := by decide +kernel
theorem dX5_readMan_17 : decode cX5_readMan 17 = .ok (.aload_n 1, 1) := by decide +kernel
theorem dX5_readMan_18 : decode cX5_readMan 18 = .ok (.invokevirtual 191, 3) := by decide +kernel
theorem dX5_readMan_21 : decode cX5_readMan 21 = .ok (.aload_n 1, 1) := by decide +kernel
theorem dX5_readMan_22 : decode cX5_readMan 22 = .ok (.iconst 1, 1) := by decide +kernel
theorem dX5_readMan_23 : decode cX5_readMan 23 = .ok (.aload_n 0, 1) := by decide +kernel
theorem dX5_readMan_24 : decode cX5_readMan 24 = .ok (.iconst 0, 1) := by decide +kernel
theorem dX5_readMan_25 : decode cX5_readMan 25 = .ok (.aload_n 0, 1) := by decide +kernel
theorem dX5_readMan_26 : decode cX5_readMan 26 = .ok (.getfield 24, 3) := by decide +kernel
theorem dX5_readMan_29 : decode cX5_readMan 29 = .ok (.getfield 137, 3) := by decide +kernel
theorem dX5_readMan_32 : decode cX5_readMan 32 = .ok (.iconst 1, 1) := by decide +kernel
theorem dX5_readMan_33 : decode cX5_readMan 33 = .ok (.isub, 1) := by decide +kernel
theorem dX5_readMan_34 : decode cX5_readMan 34 = .ok (.invokevirtual 134, 3) := by decide +kernel
theorem dX5_readMan_37 : decode cX5_readMan 37 = .ok (.invokevirtual 182, 3) := by decide +kernel
theorem dX5_readMan_40 : decode cX5_readMan 40 = .ok (.aload_n 1, 1) := by decide +kernel
theorem dX5_readMan_41 : decode cX5_readMan 41 = .ok (.iconst 2, 1) := by decide +kernel
theorem dX5_readMan_42 : decode cX5_readMan 42 = .ok (.aload_n 0, 1) := by decide +kernel
theorem dX5_readMan_43 : decode cX5_readMan 43 = .ok (.iconst 0, 1) := by decide +kernel
theorem dX5_readMan_44 : decode cX5_readMan 44 = .ok (.aload_n 0, 1) := by decide +kernel
theorem dX5_readMan_45 : decode cX5_readMan 45 = .ok (.getfield 24, 3) := by decide +kernel
theorem dX5_readMan_48 : decode cX5_readMan 48 = .ok (.getfield 140, 3) := by decide +kernel
theorem dX5_readMan_51 : decode cX5_readMan 51 = .ok (.iconst 1, 1) := by decide +kernel
theorem dX5_readMan_52 : decode cX5_readMan 52 = .ok (.isub, 1) := by decide +kernel
theorem dX5_readMan_53 : decode cX5_readMan 53 = .ok (.invokevirtual 134, 3) := by decide +kernel
theorem dX5_readMan_56 : decode cX5_readMan 56 = .ok (.invokevirtual 182, 3) := by decide +kernel
theorem dX5_readMan_59 : decode cX5_readMan 59 = .ok (.aload_n 1, 1) := by decide +kernel
theorem dX5_readMan_60 : decode cX5_readMan 60 = .ok (.invokevirtual 185, 3) := by decide +kernel
theorem dX5_readMan_63 : decode cX5_readMan 63 = .ok (.return_, 1) := by decide +kernel
theorem dX5_readCloud_0 : decode cX5_readCloud 0 = .ok (.aload_n 0, 1) := by decide +kernel
theorem dX5_readCloud_1 : decode cX5_readCloud 1 = .ok (.aload_n 0, 1) := by decide +kernel
theorem dX5_readCloud_2 : decode cX5_readCloud 2 = .ok (.getfield 72, 3) := by decide +kernel
theorem dX5_readCloud_5 : decode cX5_readCloud 5 = .ok (.invokevirtual 146, 3) := by decide +kernel
theorem dX5_readCloud_8 : decode cX5_readCloud 8 = .ok (.aload_n 0, 1) := by decide +kernel
theorem dX5_readCloud_9 : decode cX5_readCloud 9 = .ok (.iconst 1, 1) := by decide +kernel
theorem dX5_readCloud_10 : decode cX5_readCloud 10 = .ok (.putfield 72, 3) := by decide +kernel
theorem dX5_readCloud_13 : decode cX5_readCloud 13 = .ok (.aload_n 0, 1) := by decide +kernel
theorem dX5_readCloud_14 : decode cX5_readCloud 14 = .ok (.getfield 24, 3) := by decide +kernel
theorem dX5_readCloud_17 : decode cX5_readCloud 17 = .ok (.aload_n 0, 1) := by decide +kernel
theorem dX5_readCloud_18 : decode cX5_readCloud 18 = .ok (.iconst 0, 1) := by decide +kernel
theorem dX5_readCloud_19 : decode cX5_readCloud 19 = .ok (.bipush 100, 2) := by decide +kernel
theorem dX5_readCloud_21 : decode cX5_readCloud 21 = .ok (.invokevirtual 134, 3) := by decide +kernel
theorem dX5_readCloud_24 : decode cX5_readCloud 24 = .ok (.putfield 204, 3) := by decide +kernel
theorem dX5_readCloud_27 : decode cX5_readCloud 27 = .ok (.return_, 1) := by decide +kernel
theorem dX5_readSeed_0 : decode cX5_readSeed 0 = .ok (.aload_n 0, 1) := by decide +kernel
theorem dX5_readSeed_1 : decode cX5_readSeed 1 = .ok (.aload_n 0, 1) := by decide +kernel
theorem dX5_readSeed_2 : decode cX5_readSeed 2 = .ok (.getfield 75, 3) := by decide +kernel
theorem dX5_readSeed_5 : decode cX5_readSeed 5 = .ok (.invokevirtual 146, 3) := by decide +kernel
theorem dX5_readSeed_8 : decode cX5_readSeed 8 = .ok (.aload_n 0, 1) := by decide +kernel
theorem dX5_readSeed_9 : decode cX5_readSeed 9 = .ok (.iconst 1, 1) := by decide +kernel
theorem dX5_readSeed_10 : decode cX5_readSeed 10 = .ok (.putfield 75, 3) := by decide +kernel
theorem dX5_readSeed_13 : decode cX5_readSeed 13 = .ok (.aload_n 0, 1) := by decide +kernel
theorem dX5_readSeed_14 : decode cX5_readSeed 14 = .ok (.getfield 24, 3) := by decide +kernel
theorem dX5_readSeed_17 : decode cX5_readSeed 17 = .ok (.aload_n 0, 1) := by decide +kernel
theorem dX5_readSeed_18 : decode cX5_readSeed 18 = .ok (.iconst 0, 1) := by decide +kernel
theorem dX5_readSeed_19 : decode cX5_readSeed 19 = .ok (.ldc 207, 2) := by decide +kernel
theorem dX5_readSeed_21 : decode cX5_readSeed 21 = .ok (.invokevirtual 134, 3) := by decide +kernel
theorem dX5_readSeed_24 : decode cX5_readSeed 24 = .ok (.putfield 208, 3) := by decide +kernel
theorem dX5_readSeed_27 : decode cX5_readSeed 27 = .ok (.return_, 1) := by decide +kernel
theorem dX5_readLaw_0 : decode cX5_readLaw 0 = .ok (.aload_n 0, 1) := by decide +kernel
theorem dX5_readLaw_1 : decode cX5_readLaw 1 = .ok (.invokevirtual 87, 3) := by decide +kernel
theorem dX5_readLaw_4 : decode cX5_readLaw 4 = .ok (.aload_n 0, 1) := by decide +kernel
theorem dX5_readLaw_5 : decode cX5_readLaw 5 = .ok (.getfield 90, 3) := by decide +kernel
theorem dX5_readLaw_8 : decode cX5_readLaw 8 = .ok (.bipush 31, 2) := by decide +kernel
theorem dX5_readLaw_10 : decode cX5_readLaw 10 = .ok (.if_icmp .lt 12, 3) := by decide +kernel
theorem dX5_readLaw_13 : decode cX5_readLaw 13 = .ok (.aload_n 0, 1) := by decide +kernel
theorem dX5_readLaw_14 : decode cX5_readLaw 14 = .ok (.getfield 90, 3) := by decide +kernel
theorem dX5_readLaw_17 : decode cX5_readLaw 17 = .ok (.bipush 33, 2) := by decide +kernel
theorem dX5_readLaw_19 : decode cX5_readLaw 19 = .ok (.if_icmp .le 13, 3) := by decide +kernel
theorem dX5_readLaw_22 : decode cX5_readLaw 22 = .ok (.aload_n 0, 1) := by decide +kernel
theorem dX5_readLaw_23 : decode cX5_readLaw 23 = .ok (.iconst 1, 1) := by decide +kernel
theorem dX5_readLaw_24 : decode cX5_readLaw 24 = .ok (.aload_n 0, 1) := by decide +kernel
theorem dX5_readLaw_25 : decode cX5_readLaw 25 = .ok (.getfield 62, 3) := by decide +kernel
theorem dX5_readLaw_28 : decode cX5_readLaw 28 = .ok (.invokevirtual 93, 3) := by decide +kernel
theorem dX5_readLaw_31 : decode cX5_readLaw 31 = .ok (.return_, 1) := by decide +kernel
theorem dX5_readLaw_32 : decode cX5_readLaw 32 = .ok (.aload_n 0, 1) := by decide +kernel
theorem dX5_readLaw_33 : decode cX5_readLaw 33 = .ok (.aload_n 0, 1) := by decide +kernel
theorem dX5_readLaw_34 : decode cX5_readLaw 34 = .ok (.getfield 24, 3) := by decide +kernel
theorem dX5_readLaw_37 : decode cX5_readLaw 37 = .ok (.getfield 28, 3) := by decide +kernel
theorem dX5_readLaw_40 : decode cX5_readLaw 40 = .ok (.aload_n 0, 1) := by decide +kernel
theorem dX5_readLaw_41 : decode cX5_readLaw 41 = .ok (.getfield 90, 3) := by decide +kernel
theorem dX5_readLaw_44 : decode cX5_readLaw 44 = .ok (.bipush 31, 2) := by decide +kernel
theorem dX5_readLaw_46 : decode cX5_readLaw 46 = .ok (.isub, 1) := by decide +kernel
theorem dX5_readLaw_47 : decode cX5_readLaw 47 = .ok (.aaload, 1) := by decide +kernel
theorem dX5_readLaw_48 : decode cX5_readLaw 48 = .ok (.putfield 34, 3) := by decide +kernel
theorem dX5_readLaw_51 : decode cX5_readLaw 51 = .ok (.aload_n 0, 1) := by decide +kernel
theorem dX5_readLaw_52 : decode cX5_readLaw 52 = .ok (.aload_n 0, 1) := by decide +kernel
theorem dX5_readLaw_53 : decode cX5_readLaw 53 = .ok (.getfield 34, 3) := by decide +kernel
theorem dX5_readLaw_56 : decode cX5_readLaw 56 = .ok (.invokevirtual 211, 3) := by decide +kernel
theorem dX5_readLaw_59 : decode cX5_readLaw 59 = .ok (.invokevirtual 146, 3) := by decide +kernel
theorem dX5_readLaw_62 : decode cX5_readLaw 62 = .ok (.aload_n 0, 1) := by decide +kernel
theorem dX5_readLaw_63 : decode cX5_readLaw 63 = .ok (.invokevirtual 214, 3) := by decide +kernel
theorem dX5_readLaw_66 : decode cX5_readLaw 66 = .ok (.return_, 1) := by decide +kernel
theorem dX5_once_0 : decode cX5_once 0 = .ok (.iload_n 1, 1) := by decide +kernel
theorem dX5_once_1 : decode cX5_once 1 = .ok (.ifCond .eq 12, 3) := by decide +kernel
theorem dX5_once_4 : decode cX5_once 4 = .ok (.aload_n 0, 1) := by decide +kernel
theorem dX5_once_5 : decode cX5_once 5 = .ok (.iconst 3, 1) := by decide +kernel
theorem dX5_once_6 : decode cX5_once 6 = .ok (.aload_n 0, 1) := by decide +kernel
theorem dX5_once_7 : decode cX5_once 7 = .ok (.getfield 62, 3) := by decide +kernel
theorem dX5_once_10 : decode cX5_once 10 = .ok (.invokevirtual 93, 3) := by decide +kernel
theorem dX5_once_13 : decode cX5_once 13 = .ok (.aload_n 0, 1) := by decide +kernel
theorem dX5_once_14 : decode cX5_once 14 = .ok (.invokevirtual 87, 3) := by decide +kernel
theorem dX5_once_17 : decode cX5_once 17 = .ok (.return_, 1) := by decide +kernel
theorem dX5_takeWord_0 : decode cX5_takeWord 0 = .ok (.iload_n 1, 1) := by decide +kernel
theorem dX5_takeWord_1 : decode cX5_takeWord 1 = .ok (.ifCond .eq 12, 3) := by decide +kernel
theorem dX5_takeWord_4 : decode cX5_takeWord 4 = .ok (.aload_n 0, 1) := by decide +kernel
theorem dX5_takeWord_5 : decode cX5_takeWord 5 = .ok (.iconst 2, 1) := by decide +kernel
theorem dX5_takeWord_6 : decode cX5_takeWord 6 = .ok (.aload_n 0, 1) := by decide +kernel
theorem dX5_takeWord_7 : decode cX5_takeWord 7 = .ok (.getfield 62, 3) := by decide +kernel
theorem dX5_takeWord_10 : decode cX5_takeWord 10 = .ok (.invokevirtual 93, 3) := by decide +kernel
theorem dX5_takeWord_13 : decode cX5_takeWord 13 = .ok (.aload_n 0, 1) := by decide +kernel
theorem dX5_takeWord_14 : decode cX5_takeWord 14 = .ok (.invokevirtual 87, 3) := by decide +kernel
theorem dX5_takeWord_17 : decode cX5_takeWord 17 = .ok (.return_, 1) := by decide +kernel
theorem dX5_takeName_0 : decode cX5_takeName 0 = .ok (.aload_n 0, 1) := by decide +kernel
theorem dX5_takeName_1 : decode cX5_takeName 1 = .ok (.getfield 90, 3) := by decide +kernel
theorem dX5_takeName_4 : decode cX5_takeName 4 = .ok (.iconst 2, 1) := by decide +kernel
theorem dX5_takeName_5 : decode cX5_takeName 5 = .ok (.if_icmp .eq 15, 3) := by decide +kernel
theorem dX5_takeName_8 : decode cX5_takeName 8 = .ok (.aload_n 0, 1) := by decide +kernel
theorem dX5_takeName_9 : decode cX5_takeName 9 = .ok (.iconst 1, 1) := by decide +kernel
theorem dX5_takeName_10 : decode cX5_takeName 10 = .ok (.aload_n 0, 1) := by decide +kernel
theorem dX5_takeName_11 : decode cX5_takeName 11 = .ok (.getfield 62, 3) := by decide +kernel
theorem dX5_takeName_14 : decode cX5_takeName 14 = .ok (.invokevirtual 93, 3) := by decide +kernel
theorem dX5_takeName_17 : decode cX5_takeName 17 = .ok (.goto 25, 3) := by decide +kernel
theorem dX5_takeName_20 : decode cX5_takeName 20 = .ok (.aload_n 1, 1) := by decide +kernel
theorem dX5_takeName_21 : decode cX5_takeName 21 = .ok (.iconst 0, 1) := by decide +kernel
theorem dX5_takeName_22 : decode cX5_takeName 22 = .ok (.aload_n 0, 1) := by decide +kernel
theorem dX5_takeName_23 : decode cX5_takeName 23 = .ok (.getfield 217, 3) := by decide +kernel
theorem dX5_takeName_26 : decode cX5_takeName 26 = .ok (.invokevirtual 179, 3) := by decide +kernel
theorem dX5_takeName_29 : decode cX5_takeName 29 = .ok (.iconst (-1), 1) := by decide +kernel
theorem dX5_takeName_30 : decode cX5_takeName 30 = .ok (.if_icmp .eq 12, 3) := by decide +kernel
theorem dX5_takeName_33 : decode cX5_takeName 33 = .ok (.aload_n 0, 1) := by decide +kernel
theorem dX5_takeName_34 : decode cX5_takeName 34 = .ok (.iconst 3, 1) := by decide +kernel
theorem dX5_takeName_35 : decode cX5_takeName 35 = .ok (.aload_n 0, 1) := by decide +kernel
theorem dX5_takeName_36 : decode cX5_takeName 36 = .ok (.getfield 62, 3) := by decide +kernel
theorem dX5_takeName_39 : decode cX5_takeName 39 = .ok (.invokevirtual 93, 3) := by decide +kernel
theorem dX5_takeName_42 : decode cX5_takeName 42 = .ok (.aload_n 1, 1) := by decide +kernel
theorem dX5_takeName_43 : decode cX5_takeName 43 = .ok (.iconst 0, 1) := by decide +kernel
theorem dX5_takeName_44 : decode cX5_takeName 44 = .ok (.aload_n 0, 1) := by decide +kernel
theorem dX5_takeName_45 : decode cX5_takeName 45 = .ok (.getfield 217, 3) := by decide +kernel
theorem dX5_takeName_48 : decode cX5_takeName 48 = .ok (.invokevirtual 182, 3) := by decide +kernel
theorem dX5_takeName_51 : decode cX5_takeName 51 = .ok (.aload_n 0, 1) := by decide +kernel
theorem dX5_takeName_52 : decode cX5_takeName 52 = .ok (.invokevirtual 87, 3) := by decide +kernel
theorem dX5_takeName_55 : decode cX5_takeName 55 = .ok (.return_, 1) := by decide +kernel
theorem dX5_number_0 : decode cX5_number 0 = .ok (.aload_n 0, 1) := by decide +kernel
theorem dX5_number_1 : decode cX5_number 1 = .ok (.getfield 217, 3) := by decide +kernel
theorem dX5_number_4 : decode cX5_number 4 = .ok (.istore_n 3, 1) := by decide +kernel
theorem dX5_number_5 : decode cX5_number 5 = .ok (.aload_n 0, 1) := by decide +kernel
theorem dX5_number_6 : decode cX5_number 6 = .ok (.getfield 90, 3) := by decide +kernel
theorem dX5_number_9 : decode cX5_number 9 = .ok (.iconst 3, 1) := by decide +kernel
theorem dX5_number_10 : decode cX5_number 10 = .ok (.if_icmp .eq 14, 3) := by decide +kernel
theorem dX5_number_13 : decode cX5_number 13 = .ok (.aload_n 0, 1) := by decide +kernel
theorem dX5_number_14 : decode cX5_number 14 = .ok (.iconst 1, 1) := by decide +kernel
theorem dX5_number_15 : decode cX5_number 15 = .ok (.aload_n 0, 1) := by decide +kernel
theorem dX5_number_16 : decode cX5_number 16 = .ok (.getfield 62, 3) := by decide +kernel
theorem dX5_number_19 : decode cX5_number 19 = .ok (.invokevirtual 93, 3) := by decide +kernel
theorem dX5_number_22 : decode cX5_number 22 = .ok (.iload_n 1, 1) := by decide +kernel
theorem dX5_number_23 : decode cX5_number 23 = .ok (.ireturn, 1) := by decide +kernel
theorem dX5_number_24 : decode cX5_number 24 = .ok (.iload_n 3, 1) := by decide +kernel
theorem dX5_number_25 : decode cX5_number 25 = .ok (.iload_n 1, 1) := by decide +kernel
theorem dX5_number_26 : decode cX5_number 26 = .ok (.if_icmp .lt 8, 3) := by decide +kernel
theorem dX5_number_29 : decode cX5_number 29 = .ok (.iload_n 3, 1) := by decide +kernel
theorem dX5_number_30 : decode cX5_number 30 = .ok (.iload_n 2, 1) := by decide +kernel
theorem dX5_number_31 : decode cX5_number 31 = .ok (.if_icmp .le 14, 3) := by decide +kernel
theorem dX5_number_34 : decode cX5_number 34 = .ok (.aload_n 0, 1) := by decide +kernel
theorem dX5_number_35 : decode cX5_number 35 = .ok (.iconst 2, 1) := by decide +kernel
theorem dX5_number_36 : decode cX5_number 36 = .ok (.aload_n 0, 1) := by decide +kernel
theorem dX5_number_37 : decode cX5_number 37 = .ok (.getfield 62, 3) := by decide +kernel
theorem dX5_number_40 : decode cX5_number 40 = .ok (.invokevirtual 93, 3) := by decide +kernel
theorem dX5_number_43 : decode cX5_number 43 = .ok (.iload_n 1, 1) := by decide +kernel
theorem dX5_number_44 : decode cX5_number 44 = .ok (.ireturn, 1) := by decide +kernel
theorem dX5_number_45 : decode cX5_number 45 = .ok (.aload_n 0, 1) := by decide +kernel
theorem dX5_number_46 : decode cX5_number 46 = .ok (.invokevirtual 87, 3) := by decide +kernel
theorem dX5_number_49 : decode cX5_number 49 = .ok (.iload_n 3, 1) := by decide +kernel
theorem dX5_number_50 : decode cX5_number 50 = .ok (.ireturn, 1) := by decide +kernel
theorem dX5_readE_0 : decode cX5_readE 0 = .ok (.aload_n 0, 1) := by decide +kernel
theorem dX5_readE_1 : decode cX5_readE 1 = .ok (.iconst 0, 1) := by decide +kernel
theorem dX5_readE_2 : decode cX5_readE 2 = .ok (.putfield 220, 3) := by decide +kernel
theorem dX5_readE_5 : decode cX5_readE 5 = .ok (.aload_n 0, 1) := by decide +kernel
theorem dX5_readE_6 : decode cX5_readE 6 = .ok (.iconst 0, 1) := by decide +kernel
theorem dX5_readE_7 : decode cX5_readE 7 = .ok (.putfield 223, 3) := by decide +kernel
theorem dX5_readE_10 : decode cX5_readE 10 = .ok (.iconst 1, 1) := by decide +kernel
theorem dX5_readE_11 : decode cX5_readE 11 = .ok (.istore_n 1, 1) := by decide +kernel
theorem dX5_readE_12 : decode cX5_readE 12 = .ok (.iconst 0, 1) := by decide +kernel
theorem dX5_readE_13 : decode cX5_readE 13 = .ok (.istore_n 2, 1) := by decide +kernel
theorem dX5_readE_14 : decode cX5_readE 14 = .ok (.iload_n 2, 1) := by decide +kernel
theorem dX5_readE_15 : decode cX5_readE 15 = .ok (.sipush 700, 3) := by decide +kernel
theorem dX5_readE_18 : decode cX5_readE 18 = .ok (.if_icmp .ge 76, 3) := by decide +kernel
theorem dX5_readE_21 : decode cX5_readE 21 = .ok (.aload_n 0, 1) := by decide +kernel
theorem dX5_readE_22 : decode cX5_readE 22 = .ok (.getfield 78, 3) := by decide +kernel
theorem dX5_readE_25 : decode cX5_readE 25 = .ok (.ifCond .ne 69, 3) := by decide +kernel
theorem dX5_readE_28 : decode cX5_readE 28 = .ok (.iload_n 1, 1) := by decide +kernel
theorem dX5_readE_29 : decode cX5_readE 29 = .ok (.ifCond .eq 11, 3) := by decide +kernel
theorem dX5_readE_32 : decode cX5_readE 32 = .ok (.aload_n 0, 1) := by decide +kernel
theorem dX5_readE_33 : decode cX5_readE 33 = .ok (.invokevirtual 226, 3) := by decide +kernel
theorem dX5_readE_36 : decode cX5_readE 36 = .ok (.istore_n 1, 1) := by decide +kernel
theorem dX5_readE_37 : decode cX5_readE 37 = .ok (.goto 51, 3) := by decide +kernel
theorem dX5_readE_40 : decode cX5_readE 40 = .ok (.aload_n 0, 1) := by decide +kernel
theorem dX5_readE_41 : decode cX5_readE 41 = .ok (.getfield 90, 3) := by decide +kernel
theorem dX5_readE_44 : decode cX5_readE 44 = .ok (.bipush 6, 2) := by decide +kernel
theorem dX5_readE_46 : decode cX5_readE 46 = .ok (.if_icmp .ne 17, 3) := by decide +kernel
theorem dX5_readE_49 : decode cX5_readE 49 = .ok (.aload_n 0, 1) := by decide +kernel
theorem dX5_readE_50 : decode cX5_readE 50 = .ok (.getfield 223, 3) := by decide +kernel
theorem dX5_readE_53 : decode cX5_readE 53 = .ok (.ifCond .le 10, 3) := by decide +kernel
theorem dX5_readE_56 : decode cX5_readE 56 = .ok (.aload_n 0, 1) := by decide +kernel
theorem dX5_readE_57 : decode cX5_readE 57 = .ok (.invokevirtual 229, 3) := by decide +kernel
theorem dX5_readE_60 : decode cX5_readE 60 = .ok (.goto 28, 3) := by decide +kernel
theorem dX5_readE_63 : decode cX5_readE 63 = .ok (.aload_n 0, 1) := by decide +kernel
theorem dX5_readE_64 : decode cX5_readE 64 = .ok (.getfield 90, 3) := by decide +kernel
theorem dX5_readE_67 : decode cX5_readE 67 = .ok (.invokestatic 232, 3) := by decide +kernel
theorem dX5_readE_70 : decode cX5_readE 70 = .ok (.ifCond .le 24, 3) := by decide +kernel
theorem dX5_readE_73 : decode cX5_readE 73 = .ok (.aload_n 0, 1) := by decide +kernel
theorem dX5_readE_74 : decode cX5_readE 74 = .ok (.getfield 90, 3) := by decide +kernel
theorem dX5_readE_77 : decode cX5_readE 77 = .ok (.bipush 36, 2) := by decide +kernel
theorem dX5_readE_79 : decode cX5_readE 79 = .ok (.if_icmp .eq 15, 3) := by decide +kernel
theorem dX5_readE_82 : decode cX5_readE 82 = .ok (.aload_n 0, 1) := by decide +kernel
theorem dX5_readE_83 : decode cX5_readE 83 = .ok (.invokevirtual 236, 3) := by decide +kernel
theorem dX5_readE_86 : decode cX5_readE 86 = .ok (.iconst 1, 1) := by decide +kernel
theorem dX5_readE_87 : decode cX5_readE 87 = .ok (.istore_n 1, 1) := by decide +kernel
theorem dX5_readE_88 : decode cX5_readE 88 = .ok (.iinc 2 1, 3) := by decide +kernel
theorem dX5_readE_91 : decode cX5_readE 91 = .ok (.goto (-77), 3) := by decide +kernel
theorem dX5_readE_94 : decode cX5_readE 94 = .ok (.aload_n 0, 1) := by decide +kernel
theorem dX5_readE_95 : decode cX5_readE 95 = .ok (.iconst 1, 1) := by decide +kernel
theorem dX5_readE_96 : decode cX5_readE 96 = .ok (.invokevirtual 239, 3) := by decide +kernel
theorem dX5_readE_99 : decode cX5_readE 99 = .ok (.aload_n 0, 1) := by decide +kernel
theorem dX5_readE_100 : decode cX5_readE 100 = .ok (.getfield 223, 3) := by decide +kernel
theorem dX5_readE_103 : decode cX5_readE 103 = .ok (.ifCond .le 12, 3) := by decide +kernel
theorem dX5_readE_106 : decode cX5_readE 106 = .ok (.aload_n 0, 1) := by decide +kernel
theorem dX5_readE_107 : decode cX5_readE 107 = .ok (.iconst 1, 1) := by decide +kernel
theorem dX5_readE_108 : decode cX5_readE 108 = .ok (.aload_n 0, 1) := by decide +kernel
theorem dX5_readE_109 : decode cX5_readE 109 = .ok (.getfield 62, 3) := by decide +kernel
theorem dX5_readE_112 : decode cX5_readE 112 = .ok (.invokevirtual 93, 3) := by decide +kernel
theorem dX5_readE_115 : decode cX5_readE 115 = .ok (.return_, 1) := by decide +kernel
theorem dX5_takePart_0 : decode cX5_takePart 0 = .ok (.aload_n 0, 1) := by decide +kernel
theorem dX5_takePart_1 : decode cX5_takePart 1 = .ok (.getfield 90, 3) := by decide +kernel
theorem dX5_takePart_4 : decode cX5_takePart 4 = .ok (.iconst 3, 1) := by decide +kernel
theorem dX5_takePart_5 : decode cX5_takePart 5 = .ok (.if_icmp .ne 13, 3) := by decide +kernel
theorem dX5_takePart_8 : decode cX5_takePart 8 = .ok (.aload_n 0, 1) := by decide +kernel
theorem dX5_takePart_9 : decode cX5_takePart 9 = .ok (.getfield 217, 3) := by decide +kernel
theorem dX5_takePart_12 : decode cX5_takePart 12 = .ok (.sipush 9999, 3) := by decide +kernel
theorem dX5_takePart_15 : decode cX5_takePart 15 = .ok (.if_icmp .gt 20, 3) := by decide +kernel
theorem dX5_takePart_18 : decode cX5_takePart 18 = .ok (.aload_n 0, 1) := by decide +kernel
theorem dX5_takePart_19 : decode cX5_takePart 19 = .ok (.getfield 90, 3) := by decide +kernel
theorem dX5_takePart_22 : decode cX5_takePart 22 = .ok (.iconst 5, 1) := by decide +kernel
theorem dX5_takePart_23 : decode cX5_takePart 23 = .ok (.if_icmp .ne 24, 3) := by decide +kernel
theorem dX5_takePart_26 : decode cX5_takePart 26 = .ok (.aload_n 0, 1) := by decide +kernel
theorem dX5_takePart_27 : decode cX5_takePart 27 = .ok (.getfield 223, 3) := by decide +kernel
theorem dX5_takePart_30 : decode cX5_takePart 30 = .ok (.bipush 8, 2) := by decide +kernel
theorem dX5_takePart_32 : decode cX5_takePart 32 = .ok (.if_icmp .lt 15, 3) := by decide +kernel
theorem dX5_takePart_35 : decode cX5_takePart 35 = .ok (.aload_n 0, 1) := by decide +kernel
theorem dX5_takePart_36 : decode cX5_takePart 36 = .ok (.iconst 2, 1) := by decide +kernel
theorem dX5_takePart_37 : decode cX5_takePart 37 = .ok (.aload_n 0, 1) := by decide +kernel
theorem dX5_takePart_38 : decode cX5_takePart 38 = .ok (.getfield 62, 3) := by decide +kernel
theorem dX5_takePart_41 : decode cX5_takePart 41 = .ok (.invokevirtual 93, 3) := by decide +kernel
theorem dX5_takePart_44 : decode cX5_takePart 44 = .ok (.goto 134, 3) := by decide +kernel
theorem dX5_takePart_47 : decode cX5_takePart 47 = .ok (.aload_n 0, 1) := by decide +kernel
theorem dX5_takePart_48 : decode cX5_takePart 48 = .ok (.getfield 90, 3) := by decide +kernel
theorem dX5_takePart_51 : decode cX5_takePart 51 = .ok (.iconst 3, 1) := by decide +kernel
theorem dX5_takePart_52 : decode cX5_takePart 52 = .ok (.if_icmp .eq 13, 3) := by decide +kernel
theorem dX5_takePart_55 : decode cX5_takePart 55 = .ok (.aload_n 0, 1) := by decide +kernel
theorem dX5_takePart_56 : decode cX5_takePart 56 = .ok (.getfield 90, 3) := by decide +kernel
theorem dX5_takePart_59 : decode cX5_takePart 59 = .ok (.invokestatic 242, 3) := by decide +kernel
theorem dX5_takePart_62 : decode cX5_takePart 62 = .ok (.ifCond .eq 40, 3) := by decide +kernel
theorem dX5_takePart_65 : decode cX5_takePart 65 = .ok (.aload_n 0, 1) := by decide +kernel
theorem dX5_takePart_66 : decode cX5_takePart 66 = .ok (.getfield 34, 3) := by decide +kernel
theorem dX5_takePart_69 : decode cX5_takePart 69 = .ok (.aload_n 0, 1) := by decide +kernel
theorem dX5_takePart_70 : decode cX5_takePart 70 = .ok (.getfield 90, 3) := by decide +kernel
theorem dX5_takePart_73 : decode cX5_takePart 73 = .ok (.iconst 3, 1) := by decide +kernel
theorem dX5_takePart_74 : decode cX5_takePart 74 = .ok (.if_icmp .ne 10, 3) := by decide +kernel
theorem dX5_takePart_77 : decode cX5_takePart 77 = .ok (.aload_n 0, 1) := by decide +kernel
theorem dX5_takePart_78 : decode cX5_takePart 78 = .ok (.getfield 217, 3) := by decide +kernel
theorem dX5_takePart_81 : decode cX5_takePart 81 = .ok (.goto 8, 3) := by decide +kernel
theorem dX5_takePart_84 : decode cX5_takePart 84 = .ok (.aload_n 0, 1) := by decide +kernel
theorem dX5_takePart_85 : decode cX5_takePart 85 = .ok (.getfield 90, 3) := by decide +kernel
theorem dX5_takePart_88 : decode cX5_takePart 88 = .ok (.ineg, 1) := by decide +kernel
theorem dX5_takePart_89 : decode cX5_takePart 89 = .ok (.invokevirtual 246, 3) := by decide +kernel
theorem dX5_takePart_92 : decode cX5_takePart 92 = .ok (.aload_n 0, 1) := by decide +kernel
theorem dX5_takePart_93 : decode cX5_takePart 93 = .ok (.invokevirtual 249, 3) := by decide +kernel
theorem dX5_takePart_96 : decode cX5_takePart 96 = .ok (.aload_n 0, 1) := by decide +kernel
theorem dX5_takePart_97 : decode cX5_takePart 97 = .ok (.invokevirtual 87, 3) := by decide +kernel
theorem dX5_takePart_100 : decode cX5_takePart 100 = .ok (.iconst 0, 1) := by decide +kernel
theorem dX5_takePart_101 : decode cX5_takePart 101 = .ok (.ireturn, 1) := by decide +kernel
theorem dX5_takePart_102 : decode cX5_takePart 102 = .ok (.aload_n 0, 1) := by decide +kernel
theorem dX5_takePart_103 : decode cX5_takePart 103 = .ok (.getfield 90, 3) := by decide +kernel
theorem dX5_takePart_106 : decode cX5_takePart 106 = .ok (.iconst 5, 1) := by decide +kernel
theorem dX5_takePart_107 : decode cX5_takePart 107 = .ok (.if_icmp .ne 25, 3) := by decide +kernel
theorem dX5_takePart_110 : decode cX5_takePart 110 = .ok (.aload_n 0, 1) := by decide +kernel
theorem dX5_takePart_111 : decode cX5_takePart 111 = .ok (.iconst 5, 1) := by decide +kernel
theorem dX5_takePart_112 : decode cX5_takePart 112 = .ok (.invokevirtual 252, 3) := by decide +kernel
theorem dX5_takePart_115 : decode cX5_takePart 115 = .ok (.aload_n 0, 1) := by decide +kernel
theorem dX5_takePart_116 : decode cX5_takePart 116 = .ok (.dup, 1) := by decide +kernel
theorem dX5_takePart_117 : decode cX5_takePart 117 = .ok (.getfield 223, 3) := by decide +kernel
theorem dX5_takePart_120 : decode cX5_takePart 120 = .ok (.iconst 1, 1) := by decide +kernel
theorem dX5_takePart_121 : decode cX5_takePart 121 = .ok (.iadd, 1) := by decide +kernel
theorem dX5_takePart_122 : decode cX5_takePart 122 = .ok (.putfield 223, 3) := by decide +kernel
theorem dX5_takePart_125 : decode cX5_takePart 125 = .ok (.aload_n 0, 1) := by decide +kernel
theorem dX5_takePart_126 : decode cX5_takePart 126 = .ok (.invokevirtual 87, 3) := by decide +kernel
theorem dX5_takePart_129 : decode cX5_takePart 129 = .ok (.goto 49, 3) := by decide +kernel
theorem dX5_takePart_132 : decode cX5_takePart 132 = .ok (.aload_n 0, 1) := by decide +kernel
theorem dX5_takePart_133 : decode cX5_takePart 133 = .ok (.getfield 90, 3) := by decide +kernel
theorem dX5_takePart_136 : decode cX5_takePart 136 = .ok (.bipush 36, 2) := by decide +kernel
theorem dX5_takePart_138 : decode cX5_takePart 138 = .ok (.if_icmp .ne 31, 3) := by decide +kernel
theorem dX5_takePart_141 : decode cX5_takePart 141 = .ok (.aload_n 0, 1) := by decide +kernel
theorem dX5_takePart_142 : decode cX5_takePart 142 = .ok (.invokevirtual 255, 3) := by decide +kernel
theorem dX5_takePart_145 : decode cX5_takePart 145 = .ok (.invokestatic 232, 3) := by decide +kernel
theorem dX5_takePart_148 : decode cX5_takePart 148 = .ok (.iconst 3, 1) := by decide +kernel
theorem dX5_takePart_149 : decode cX5_takePart 149 = .ok (.if_icmp .gt 20, 3) := by decide +kernel
theorem dX5_takePart_152 : decode cX5_takePart 152 = .ok (.aload_n 0, 1) := by decide +kernel
theorem dX5_takePart_153 : decode cX5_takePart 153 = .ok (.bipush 36, 2) := by decide +kernel
theorem dX5_takePart_155 : decode cX5_takePart 155 = .ok (.invokevirtual 252, 3) := by decide +kernel
theorem dX5_takePart_158 : decode cX5_takePart 158 = .ok (.aload_n 0, 1) := by decide +kernel
theorem dX5_takePart_159 : decode cX5_takePart 159 = .ok (.invokevirtual 249, 3) := by decide +kernel
theorem dX5_takePart_162 : decode cX5_takePart 162 = .ok (.aload_n 0, 1) := by decide +kernel
theorem dX5_takePart_163 : decode cX5_takePart 163 = .ok (.invokevirtual 87, 3) := by decide +kernel
theorem dX5_takePart_166 : decode cX5_takePart 166 = .ok (.goto 12, 3) := by decide +kernel
theorem dX5_takePart_169 : decode cX5_takePart 169 = .ok (.aload_n 0, 1) := by decide +kernel
theorem dX5_takePart_170 : decode cX5_takePart 170 = .ok (.iconst 1, 1) := by decide +kernel
theorem dX5_takePart_171 : decode cX5_takePart 171 = .ok (.aload_n 0, 1) := by decide +kernel
theorem dX5_takePart_172 : decode cX5_takePart 172 = .ok (.getfield 62, 3) := by decide +kernel
theorem dX5_takePart_175 : decode cX5_takePart 175 = .ok (.invokevirtual 93, 3) := by decide +kernel
theorem dX5_takePart_178 : decode cX5_takePart 178 = .ok (.iconst 1, 1) := by decide +kernel
theorem dX5_takePart_179 : decode cX5_takePart 179 = .ok (.ireturn, 1) := by decide +kernel
theorem dX5_takeClose_0 : decode cX5_takeClose 0 = .ok (.aload_n 0, 1) := by decide +kernel
theorem dX5_takeClose_1 : decode cX5_takeClose 1 = .ok (.iconst 1, 1) := by decide +kernel
theorem dX5_takeClose_2 : decode cX5_takeClose 2 = .ok (.invokevirtual 239, 3) := by decide +kernel
theorem dX5_takeClose_5 : decode cX5_takeClose 5 = .ok (.aload_n 0, 1) := by decide +kernel
theorem dX5_takeClose_6 : decode cX5_takeClose 6 = .ok (.dup, 1) := by decide +kernel
theorem dX5_takeClose_7 : decode cX5_takeClose 7 = .ok (.getfield 220, 3) := by decide +kernel
theorem dX5_takeClose_10 : decode cX5_takeClose 10 = .ok (.iconst 1, 1) := by decide +kernel
theorem dX5_takeClose_11 : decode cX5_takeClose 11 = .ok (.isub, 1) := by decide +kernel
theorem dX5_takeClose_12 : decode cX5_takeClose 12 = .ok (.putfield 220, 3) := by decide +kernel
theorem dX5_takeClose_15 : decode cX5_takeClose 15 = .ok (.aload_n 0, 1) := by decide +kernel
theorem dX5_takeClose_16 : decode cX5_takeClose 16 = .ok (.dup, 1) := by decide +kernel
theorem dX5_takeClose_17 : decode cX5_takeClose 17 = .ok (.getfield 223, 3) := by decide +kernel
theorem dX5_takeClose_20 : decode cX5_takeClose 20 = .ok (.iconst 1, 1) := by decide +kernel
theorem dX5_takeClose_21 : decode cX5_takeClose 21 = .ok (.isub, 1) := by decide +kernel
theorem dX5_takeClose_22 : decode cX5_takeClose 22 = .ok (.putfield 223, 3) := by decide +kernel
theorem dX5_takeClose_25 : decode cX5_takeClose 25 = .ok (.aload_n 0, 1) := by decide +kernel
theorem dX5_takeClose_26 : decode cX5_takeClose 26 = .ok (.invokevirtual 87, 3) := by decide +kernel
theorem dX5_takeClose_29 : decode cX5_takeClose 29 = .ok (.return_, 1) := by decide +kernel
theorem dX5_takeSign_0 : decode cX5_takeSign 0 = .ok (.aload_n 0, 1) := by decide +kernel
theorem dX5_takeSign_1 : decode cX5_takeSign 1 = .ok (.getfield 90, 3) := by decide +kernel
theorem dX5_takeSign_4 : decode cX5_takeSign 4 = .ok (.invokestatic 232, 3) := by decide +kernel
theorem dX5_takeSign_7 : decode cX5_takeSign 7 = .ok (.istore_n 1, 1) := by decide +kernel
theorem dX5_takeSign_8 : decode cX5_takeSign 8 = .ok (.iload_n 1, 1) := by decide +kernel
theorem dX5_takeSign_9 : decode cX5_takeSign 9 = .ok (.iconst 4, 1) := by decide +kernel
theorem dX5_takeSign_10 : decode cX5_takeSign 10 = .ok (.if_icmp .ne 7, 3) := by decide +kernel
theorem dX5_takeSign_13 : decode cX5_takeSign 13 = .ok (.iconst 1, 1) := by decide +kernel
theorem dX5_takeSign_14 : decode cX5_takeSign 14 = .ok (.goto 4, 3) := by decide +kernel
theorem dX5_takeSign_17 : decode cX5_takeSign 17 = .ok (.iconst 0, 1) := by decide +kernel
theorem dX5_takeSign_18 : decode cX5_takeSign 18 = .ok (.istore_n 2, 1) := by decide +kernel
theorem dX5_takeSign_19 : decode cX5_takeSign 19 = .ok (.aload_n 0, 1) := by decide +kernel
theorem dX5_takeSign_20 : decode cX5_takeSign 20 = .ok (.iload_n 2, 1) := by decide +kernel
theorem dX5_takeSign_21 : decode cX5_takeSign 21 = .ok (.ifCond .eq 9, 3) := by decide +kernel
theorem dX5_takeSign_24 : decode cX5_takeSign 24 = .ok (.iload_n 1, 1) := by decide +kernel
theorem dX5_takeSign_25 : decode cX5_takeSign 25 = .ok (.iconst 1, 1) := by decide +kernel
theorem dX5_takeSign_26 : decode cX5_takeSign 26 = .ok (.iadd, 1) := by decide +kernel
theorem dX5_takeSign_27 : decode cX5_takeSign 27 = .ok (.goto 4, 3) := by decide +kernel
theorem dX5_takeSign_30 : decode cX5_takeSign 30 = .ok (.iload_n 1, 1) := by decide +kernel
theorem dX5_takeSign_31 : decode cX5_takeSign 31 = .ok (.invokevirtual 239, 3) := by decide +kernel
theorem dX5_takeSign_34 : decode cX5_takeSign 34 = .ok (.iload_n 2, 1) := by decide +kernel
theorem dX5_takeSign_35 : decode cX5_takeSign 35 = .ok (.ifCond .eq 24, 3) := by decide +kernel
theorem dX5_takeSign_38 : decode cX5_takeSign 38 = .ok (.aload_n 0, 1) := by decide +kernel
theorem dX5_takeSign_39 : decode cX5_takeSign 39 = .ok (.invokevirtual 255, 3) := by decide +kernel
theorem dX5_takeSign_42 : decode cX5_takeSign 42 = .ok (.invokestatic 232, 3) := by decide +kernel
theorem dX5_takeSign_45 : decode cX5_takeSign 45 = .ok (.iload_n 1, 1) := by decide +kernel
theorem dX5_takeSign_46 : decode cX5_takeSign 46 = .ok (.if_icmp .ne 13, 3) := by decide +kernel
theorem dX5_takeSign_49 : decode cX5_takeSign 49 = .ok (.aload_n 0, 1) := by decide +kernel
theorem dX5_takeSign_50 : decode cX5_takeSign 50 = .ok (.iconst 1, 1) := by decide +kernel
theorem dX5_takeSign_51 : decode cX5_takeSign 51 = .ok (.aload_n 0, 1) := by decide +kernel
theorem dX5_takeSign_52 : decode cX5_takeSign 52 = .ok (.getfield 62, 3) := by decide +kernel
theorem dX5_takeSign_55 : decode cX5_takeSign 55 = .ok (.invokevirtual 93, 3) := by decide +kernel
theorem dX5_takeSign_58 : decode cX5_takeSign 58 = .ok (.return_, 1) := by decide +kernel
theorem dX5_takeSign_59 : decode cX5_takeSign 59 = .ok (.aload_n 0, 1) := by decide +kernel
theorem dX5_takeSign_60 : decode cX5_takeSign 60 = .ok (.aload_n 0, 1) := by decide +kernel
theorem dX5_takeSign_61 : decode cX5_takeSign 61 = .ok (.getfield 90, 3) := by decide +kernel
theorem dX5_takeSign_64 : decode cX5_takeSign 64 = .ok (.invokevirtual 252, 3) := by decide +kernel
theorem dX5_takeSign_67 : decode cX5_takeSign 67 = .ok (.aload_n 0, 1) := by decide +kernel
theorem dX5_takeSign_68 : decode cX5_takeSign 68 = .ok (.invokevirtual 249, 3) := by decide +kernel
theorem dX5_takeSign_71 : decode cX5_takeSign 71 = .ok (.aload_n 0, 1) := by decide +kernel
theorem dX5_takeSign_72 : decode cX5_takeSign 72 = .ok (.invokevirtual 87, 3) := by decide +kernel
theorem dX5_takeSign_75 : decode cX5_takeSign 75 = .ok (.return_, 1) := by decide +kernel
theorem dX5_rankOf_0 : decode cX5_rankOf 0 = .ok (.iload_n 0, 1) := by decide +kernel
theorem dX5_rankOf_1 : decode cX5_rankOf 1 = .ok (.lookupswitch 78 #[(7, 73), (8, 73), (9, 75), (10, 75), (34, 67), (35, 69), (36, 71)], 67) := by decide +kernel
theorem dX5_rankOf_68 : decode cX5_rankOf 68 = .ok (.iconst 1, 1) := by decide +kernel
theorem dX5_rankOf_69 : decode cX5_rankOf 69 = .ok (.ireturn, 1) := by decide +kernel
theorem dX5_rankOf_70 : decode cX5_rankOf 70 = .ok (.iconst 2, 1) := by decide +kernel
theorem dX5_rankOf_71 : decode cX5_rankOf 71 = .ok (.ireturn, 1) := by decide +kernel
theorem dX5_rankOf_72 : decode cX5_rankOf 72 = .ok (.iconst 3, 1) := by decide +kernel
theorem dX5_rankOf_73 : decode cX5_rankOf 73 = .ok (.ireturn, 1) := by decide +kernel
theorem dX5_rankOf_74 : decode cX5_rankOf 74 = .ok (.iconst 5, 1) := by decide +kernel
theorem dX5_rankOf_75 : decode cX5_rankOf 75 = .ok (.ireturn, 1) := by decide +kernel
theorem dX5_rankOf_76 : decode cX5_rankOf 76 = .ok (.bipush 6, 2) := by decide +kernel
theorem dX5_rankOf_78 : decode cX5_rankOf 78 = .ok (.ireturn, 1) := by decide +kernel
theorem dX5_rankOf_79 : decode cX5_rankOf 79 = .ok (.iload_n 0, 1) := by decide +kernel
theorem dX5_rankOf_80 : decode cX5_rankOf 80 = .ok (.bipush 11, 2) := by decide +kernel
theorem dX5_rankOf_82 : decode cX5_rankOf 82 = .ok (.if_icmp .lt 13, 3) := by decide +kernel
theorem dX5_rankOf_85 : decode cX5_rankOf 85 = .ok (.iload_n 0, 1) := by decide +kernel
theorem dX5_rankOf_86 : decode cX5_rankOf 86 = .ok (.bipush 16, 2) := by decide +kernel
theorem dX5_rankOf_88 : decode cX5_rankOf 88 = .ok (.if_icmp .gt 7, 3) := by decide +kernel
theorem dX5_rankOf_91 : decode cX5_rankOf 91 = .ok (.iconst 4, 1) := by decide +kernel
theorem dX5_rankOf_92 : decode cX5_rankOf 92 = .ok (.goto 4, 3) := by decide +kernel
theorem dX5_rankOf_95 : decode cX5_rankOf 95 = .ok (.iconst 0, 1) := by decide +kernel
theorem dX5_rankOf_96 : decode cX5_rankOf 96 = .ok (.ireturn, 1) := by decide +kernel
theorem dX5_lastWaiting_0 : decode cX5_lastWaiting 0 = .ok (.aload_n 0, 1) := by decide +kernel
theorem dX5_lastWaiting_1 : decode cX5_lastWaiting 1 = .ok (.getfield 220, 3) := by decide +kernel
theorem dX5_lastWaiting_4 : decode cX5_lastWaiting 4 = .ok (.ifCond .le 26, 3) := by decide +kernel
theorem dX5_lastWaiting_7 : decode cX5_lastWaiting 7 = .ok (.aload_n 0, 1) := by decide +kernel
theorem dX5_lastWaiting_8 : decode cX5_lastWaiting 8 = .ok (.getfield 220, 3) := by decide +kernel
theorem dX5_lastWaiting_11 : decode cX5_lastWaiting 11 = .ok (.bipush 72, 2) := by decide +kernel
theorem dX5_lastWaiting_13 : decode cX5_lastWaiting 13 = .ok (.if_icmp .gt 17, 3) := by decide +kernel
theorem dX5_lastWaiting_16 : decode cX5_lastWaiting 16 = .ok (.aload_n 0, 1) := by decide +kernel
theorem dX5_lastWaiting_17 : decode cX5_lastWaiting 17 = .ok (.getfield 17, 3) := by decide +kernel
theorem dX5_lastWaiting_20 : decode cX5_lastWaiting 20 = .ok (.aload_n 0, 1) := by decide +kernel
theorem dX5_lastWaiting_21 : decode cX5_lastWaiting 21 = .ok (.getfield 220, 3) := by decide +kernel
theorem dX5_lastWaiting_24 : decode cX5_lastWaiting 24 = .ok (.iconst 1, 1) := by decide +kernel
theorem dX5_lastWaiting_25 : decode cX5_lastWaiting 25 = .ok (.isub, 1) := by decide +kernel
theorem dX5_lastWaiting_26 : decode cX5_lastWaiting 26 = .ok (.iaload, 1) := by decide +kernel
theorem dX5_lastWaiting_27 : decode cX5_lastWaiting 27 = .ok (.goto 4, 3) := by decide +kernel
theorem dX5_lastWaiting_30 : decode cX5_lastWaiting 30 = .ok (.iconst 0, 1) := by decide +kernel
theorem dX5_lastWaiting_31 : decode cX5_lastWaiting 31 = .ok (.ireturn, 1) := by decide +kernel
theorem dX5_hold_0 : decode cX5_hold 0 = .ok (.aload_n 0, 1) := by decide +kernel
theorem dX5_hold_1 : decode cX5_hold 1 = .ok (.getfield 220, 3) := by decide +kernel
theorem dX5_hold_4 : decode cX5_hold 4 = .ok (.bipush 72, 2) := by decide +kernel
theorem dX5_hold_6 : decode cX5_hold 6 = .ok (.if_icmp .ge 23, 3) := by decide +kernel
theorem dX5_hold_9 : decode cX5_hold 9 = .ok (.aload_n 0, 1) := by decide +kernel
theorem dX5_hold_10 : decode cX5_hold 10 = .ok (.getfield 17, 3) := by decide +kernel
theorem dX5_hold_13 : decode cX5_hold 13 = .ok (.aload_n 0, 1) := by decide +kernel
theorem dX5_hold_14 : decode cX5_hold 14 = .ok (.getfield 220, 3) := by decide +kernel
theorem dX5_hold_17 : decode cX5_hold 17 = .ok (.iload_n 1, 1) := by decide +kernel
theorem dX5_hold_18 : decode cX5_hold 18 = .ok (.iastore, 1) := by decide +kernel
theorem dX5_hold_19 : decode cX5_hold 19 = .ok (.aload_n 0, 1) := by decide +kernel
theorem dX5_hold_20 : decode cX5_hold 20 = .ok (.dup, 1) := by decide +kernel
theorem dX5_hold_21 : decode cX5_hold 21 = .ok (.getfield 220, 3) := by decide +kernel
theorem dX5_hold_24 : decode cX5_hold 24 = .ok (.iconst 1, 1) := by decide +kernel
theorem dX5_hold_25 : decode cX5_hold 25 = .ok (.iadd, 1) := by decide +kernel
theorem dX5_hold_26 : decode cX5_hold 26 = .ok (.putfield 220, 3) := by decide +kernel
theorem dX5_hold_29 : decode cX5_hold 29 = .ok (.return_, 1) := by decide +kernel
theorem dX5_release_0 : decode cX5_release 0 = .ok (.iconst 0, 1) := by decide +kernel
theorem dX5_release_1 : decode cX5_release 1 = .ok (.istore_n 2, 1) := by decide +kernel
theorem dX5_release_2 : decode cX5_release 2 = .ok (.iload_n 2, 1) := by decide +kernel
theorem dX5_release_3 : decode cX5_release 3 = .ok (.bipush 72, 2) := by decide +kernel
theorem dX5_release_5 : decode cX5_release 5 = .ok (.if_icmp .ge 42, 3) := by decide +kernel
theorem dX5_release_8 : decode cX5_release 8 = .ok (.aload_n 0, 1) := by decide +kernel
theorem dX5_release_9 : decode cX5_release 9 = .ok (.invokevirtual 255, 3) := by decide +kernel
theorem dX5_release_12 : decode cX5_release 12 = .ok (.invokestatic 232, 3) := by decide +kernel
theorem dX5_release_15 : decode cX5_release 15 = .ok (.iload_n 1, 1) := by decide +kernel
theorem dX5_release_16 : decode cX5_release 16 = .ok (.if_icmp .lt 31, 3) := by decide +kernel
theorem dX5_release_19 : decode cX5_release 19 = .ok (.aload_n 0, 1) := by decide +kernel
theorem dX5_release_20 : decode cX5_release 20 = .ok (.getfield 34, 3) := by decide +kernel
theorem dX5_release_23 : decode cX5_release 23 = .ok (.aload_n 0, 1) := by decide +kernel
theorem dX5_release_24 : decode cX5_release 24 = .ok (.invokevirtual 255, 3) := by decide +kernel
theorem dX5_release_27 : decode cX5_release 27 = .ok (.ineg, 1) := by decide +kernel
theorem dX5_release_28 : decode cX5_release 28 = .ok (.invokevirtual 246, 3) := by decide +kernel
theorem dX5_release_31 : decode cX5_release 31 = .ok (.aload_n 0, 1) := by decide +kernel
theorem dX5_release_32 : decode cX5_release 32 = .ok (.dup, 1) := by decide +kernel
theorem dX5_release_33 : decode cX5_release 33 = .ok (.getfield 220, 3) := by decide +kernel
theorem dX5_release_36 : decode cX5_release 36 = .ok (.iconst 1, 1) := by decide +kernel
theorem dX5_release_37 : decode cX5_release 37 = .ok (.isub, 1) := by decide +kernel
theorem dX5_release_38 : decode cX5_release 38 = .ok (.putfield 220, 3) := by decide +kernel
theorem dX5_release_41 : decode cX5_release 41 = .ok (.iinc 2 1, 3) := by decide +kernel
theorem dX5_release_44 : decode cX5_release 44 = .ok (.goto (-42), 3) := by decide +kernel
theorem dX5_release_47 : decode cX5_release 47 = .ok (.return_, 1) := by decide +kernel
theorem dX5_countKnot_0 : decode cX5_countKnot 0 = .ok (.aload_n 0, 1) := by decide +kernel
theorem dX5_countKnot_1 : decode cX5_countKnot 1 = .ok (.getfield 24, 3) := by decide +kernel
theorem dX5_countKnot_4 : decode cX5_countKnot 4 = .ok (.getfield 258, 3) := by decide +kernel
theorem dX5_countKnot_7 : decode cX5_countKnot 7 = .ok (.bipush 64, 2) := by decide +kernel
theorem dX5_countKnot_9 : decode cX5_countKnot 9 = .ok (.if_icmp .lt 15, 3) := by decide +kernel
theorem dX5_countKnot_12 : decode cX5_countKnot 12 = .ok (.aload_n 0, 1) := by decide +kernel
theorem dX5_countKnot_13 : decode cX5_countKnot 13 = .ok (.iconst 2, 1) := by decide +kernel
theorem dX5_countKnot_14 : decode cX5_countKnot 14 = .ok (.aload_n 0, 1) := by decide +kernel
theorem dX5_countKnot_15 : decode cX5_countKnot 15 = .ok (.getfield 62, 3) := by decide +kernel
theorem dX5_countKnot_18 : decode cX5_countKnot 18 = .ok (.invokevirtual 93, 3) := by decide +kernel
