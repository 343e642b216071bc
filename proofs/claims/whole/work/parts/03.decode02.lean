theorem dX10_clear_72 : decode cX10_clear 72 = .ok (.if_icmp .ge 16, 3) := by decide +kernel
theorem dX10_clear_75 : decode cX10_clear 75 = .ok (.lload 6, 2) := by decide +kernel
theorem dX10_clear_77 : decode cX10_clear 77 = .ok (.lload 4, 2) := by decide +kernel
theorem dX10_clear_79 : decode cX10_clear 79 = .ok (.lmul, 1) := by decide +kernel
theorem dX10_clear_80 : decode cX10_clear 80 = .ok (.lstore 6, 2) := by decide +kernel
theorem dX10_clear_82 : decode cX10_clear 82 = .ok (.iinc 8 1, 3) := by decide +kernel
theorem dX10_clear_85 : decode cX10_clear 85 = .ok (.goto (-16), 3) := by decide +kernel
theorem dX10_clear_88 : decode cX10_clear 88 = .ok (.lload 6, 2) := by decide +kernel
theorem dX10_clear_90 : decode cX10_clear 90 = .ok (.lreturn, 1) := by decide +kernel
theorem dX10_commonDivisor_0 : decode cX10_commonDivisor 0 = .ok (.iload_n 0, 1) := by decide +kernel
theorem dX10_commonDivisor_1 : decode cX10_commonDivisor 1 = .ok (.istore_n 2, 1) := by decide +kernel
theorem dX10_commonDivisor_2 : decode cX10_commonDivisor 2 = .ok (.iload_n 2, 1) := by decide +kernel
theorem dX10_commonDivisor_3 : decode cX10_commonDivisor 3 = .ok (.iconst 1, 1) := by decide +kernel
theorem dX10_commonDivisor_4 : decode cX10_commonDivisor 4 = .ok (.if_icmp .le 23, 3) := by decide +kernel
theorem dX10_commonDivisor_7 : decode cX10_commonDivisor 7 = .ok (.iload_n 0, 1) := by decide +kernel
theorem dX10_commonDivisor_8 : decode cX10_commonDivisor 8 = .ok (.iload_n 2, 1) := by decide +kernel
theorem dX10_commonDivisor_9 : decode cX10_commonDivisor 9 = .ok (.irem, 1) := by decide +kernel
theorem dX10_commonDivisor_10 : decode cX10_commonDivisor 10 = .ok (.ifCond .ne 11, 3) := by decide +kernel
theorem dX10_commonDivisor_13 : decode cX10_commonDivisor 13 = .ok (.iload_n 1, 1) := by decide +kernel
theorem dX10_commonDivisor_14 : decode cX10_commonDivisor 14 = .ok (.iload_n 2, 1) := by decide +kernel
theorem dX10_commonDivisor_15 : decode cX10_commonDivisor 15 = .ok (.irem, 1) := by decide +kernel
theorem dX10_commonDivisor_16 : decode cX10_commonDivisor 16 = .ok (.ifCond .ne 5, 3) := by decide +kernel
theorem dX10_commonDivisor_19 : decode cX10_commonDivisor 19 = .ok (.iload_n 2, 1) := by decide +kernel
theorem dX10_commonDivisor_20 : decode cX10_commonDivisor 20 = .ok (.ireturn, 1) := by decide +kernel
theorem dX10_commonDivisor_21 : decode cX10_commonDivisor 21 = .ok (.iinc 2 (-1), 3) := by decide +kernel
theorem dX10_commonDivisor_24 : decode cX10_commonDivisor 24 = .ok (.goto (-22), 3) := by decide +kernel
theorem dX10_commonDivisor_27 : decode cX10_commonDivisor 27 = .ok (.iconst 1, 1) := by decide +kernel
theorem dX10_commonDivisor_28 : decode cX10_commonDivisor 28 = .ok (.ireturn, 1) := by decide +kernel
theorem dX10_see_0 : decode cX10_see 0 = .ok (.iload_n 1, 1) := by decide +kernel
theorem dX10_see_1 : decode cX10_see 1 = .ok (.iconst 1, 1) := by decide +kernel
theorem dX10_see_2 : decode cX10_see 2 = .ok (.if_icmp .lt 31, 3) := by decide +kernel
theorem dX10_see_5 : decode cX10_see 5 = .ok (.iload_n 1, 1) := by decide +kernel
theorem dX10_see_6 : decode cX10_see 6 = .ok (.bipush 40, 2) := by decide +kernel
theorem dX10_see_8 : decode cX10_see 8 = .ok (.if_icmp .gt 25, 3) := by decide +kernel
theorem dX10_see_11 : decode cX10_see 11 = .ok (.iload_n 2, 1) := by decide +kernel
theorem dX10_see_12 : decode cX10_see 12 = .ok (.ifCond .lt 21, 3) := by decide +kernel
theorem dX10_see_15 : decode cX10_see 15 = .ok (.iload_n 2, 1) := by decide +kernel
theorem dX10_see_16 : decode cX10_see 16 = .ok (.iconst 1, 1) := by decide +kernel
theorem dX10_see_17 : decode cX10_see 17 = .ok (.if_icmp .gt 16, 3) := by decide +kernel
theorem dX10_see_20 : decode cX10_see 20 = .ok (.aload_n 0, 1) := by decide +kernel
theorem dX10_see_21 : decode cX10_see 21 = .ok (.getfield 16, 3) := by decide +kernel
theorem dX10_see_24 : decode cX10_see 24 = .ok (.iload_n 3, 1) := by decide +kernel
theorem dX10_see_25 : decode cX10_see 25 = .ok (.iload 4, 2) := by decide +kernel
theorem dX10_see_27 : decode cX10_see 27 = .ok (.invokevirtual 221, 3) := by decide +kernel
theorem dX10_see_30 : decode cX10_see 30 = .ok (.ifCond .ne 5, 3) := by decide +kernel
theorem dX10_see_33 : decode cX10_see 33 = .ok (.iconst (-1), 1) := by decide +kernel
theorem dX10_see_34 : decode cX10_see 34 = .ok (.ireturn, 1) := by decide +kernel
theorem dX10_see_35 : decode cX10_see 35 = .ok (.aload_n 0, 1) := by decide +kernel
theorem dX10_see_36 : decode cX10_see 36 = .ok (.getfield 65, 3) := by decide +kernel
theorem dX10_see_39 : decode cX10_see 39 = .ok (.iload_n 1, 1) := by decide +kernel
theorem dX10_see_40 : decode cX10_see 40 = .ok (.iload_n 2, 1) := by decide +kernel
theorem dX10_see_41 : decode cX10_see 41 = .ok (.iload_n 3, 1) := by decide +kernel
theorem dX10_see_42 : decode cX10_see 42 = .ok (.iload 4, 2) := by decide +kernel
theorem dX10_see_44 : decode cX10_see 44 = .ok (.iload 5, 2) := by decide +kernel
theorem dX10_see_46 : decode cX10_see 46 = .ok (.invokevirtual 334, 3) := by decide +kernel
theorem dX10_see_49 : decode cX10_see 49 = .ok (.ireturn, 1) := by decide +kernel
theorem dX10_out_0 : decode cX10_out 0 = .ok (.aload_n 0, 1) := by decide +kernel
theorem dX10_out_1 : decode cX10_out 1 = .ok (.getfield 65, 3) := by decide +kernel
theorem dX10_out_4 : decode cX10_out 4 = .ok (.iload_n 1, 1) := by decide +kernel
theorem dX10_out_5 : decode cX10_out 5 = .ok (.invokevirtual 338, 3) := by decide +kernel
theorem dX10_out_8 : decode cX10_out 8 = .ok (.ireturn, 1) := by decide +kernel
theorem dX10_known_0 : decode cX10_known 0 = .ok (.iload_n 1, 1) := by decide +kernel
theorem dX10_known_1 : decode cX10_known 1 = .ok (.iconst (-1), 1) := by decide +kernel
theorem dX10_known_2 : decode cX10_known 2 = .ok (.if_icmp .lt 14, 3) := by decide +kernel
theorem dX10_known_5 : decode cX10_known 5 = .ok (.iload_n 1, 1) := by decide +kernel
theorem dX10_known_6 : decode cX10_known 6 = .ok (.aload_n 0, 1) := by decide +kernel
theorem dX10_known_7 : decode cX10_known 7 = .ok (.getfield 65, 3) := by decide +kernel
theorem dX10_known_10 : decode cX10_known 10 = .ok (.invokevirtual 341, 3) := by decide +kernel
theorem dX10_known_13 : decode cX10_known 13 = .ok (.if_icmp .le 5, 3) := by decide +kernel
theorem dX10_known_16 : decode cX10_known 16 = .ok (.iconst 0, 1) := by decide +kernel
theorem dX10_known_17 : decode cX10_known 17 = .ok (.ireturn, 1) := by decide +kernel
theorem dX10_known_18 : decode cX10_known 18 = .ok (.aload_n 0, 1) := by decide +kernel
theorem dX10_known_19 : decode cX10_known 19 = .ok (.getfield 65, 3) := by decide +kernel
theorem dX10_known_22 : decode cX10_known 22 = .ok (.iload_n 1, 1) := by decide +kernel
theorem dX10_known_23 : decode cX10_known 23 = .ok (.putfield 342, 3) := by decide +kernel
theorem dX10_known_26 : decode cX10_known 26 = .ok (.iconst 1, 1) := by decide +kernel
theorem dX10_known_27 : decode cX10_known 27 = .ok (.ireturn, 1) := by decide +kernel
theorem dX10_homes_0 : decode cX10_homes 0 = .ok (.iload_n 1, 1) := by decide +kernel
theorem dX10_homes_1 : decode cX10_homes 1 = .ok (.ifCond .lt 8, 3) := by decide +kernel
theorem dX10_homes_4 : decode cX10_homes 4 = .ok (.iload_n 1, 1) := by decide +kernel
theorem dX10_homes_5 : decode cX10_homes 5 = .ok (.iconst 1, 1) := by decide +kernel
theorem dX10_homes_6 : decode cX10_homes 6 = .ok (.if_icmp .le 5, 3) := by decide +kernel
theorem dX10_homes_9 : decode cX10_homes 9 = .ok (.iconst (-1), 1) := by decide +kernel
theorem dX10_homes_10 : decode cX10_homes 10 = .ok (.ireturn, 1) := by decide +kernel
theorem dX10_homes_11 : decode cX10_homes 11 = .ok (.aload_n 0, 1) := by decide +kernel
theorem dX10_homes_12 : decode cX10_homes 12 = .ok (.getfield 65, 3) := by decide +kernel
theorem dX10_homes_15 : decode cX10_homes 15 = .ok (.invokevirtual 345, 3) := by decide +kernel
theorem dX10_homes_18 : decode cX10_homes 18 = .ok (.iconst 0, 1) := by decide +kernel
theorem dX10_homes_19 : decode cX10_homes 19 = .ok (.istore_n 2, 1) := by decide +kernel
theorem dX10_homes_20 : decode cX10_homes 20 = .ok (.iconst 0, 1) := by decide +kernel
theorem dX10_homes_21 : decode cX10_homes 21 = .ok (.istore_n 3, 1) := by decide +kernel
theorem dX10_homes_22 : decode cX10_homes 22 = .ok (.iload_n 3, 1) := by decide +kernel
theorem dX10_homes_23 : decode cX10_homes 23 = .ok (.aload_n 0, 1) := by decide +kernel
theorem dX10_homes_24 : decode cX10_homes 24 = .ok (.getfield 16, 3) := by decide +kernel
theorem dX10_homes_27 : decode cX10_homes 27 = .ok (.getfield 293, 3) := by decide +kernel
theorem dX10_homes_30 : decode cX10_homes 30 = .ok (.if_icmp .ge 69, 3) := by decide +kernel
theorem dX10_homes_33 : decode cX10_homes 33 = .ok (.iconst 0, 1) := by decide +kernel
theorem dX10_homes_34 : decode cX10_homes 34 = .ok (.istore 4, 2) := by decide +kernel
theorem dX10_homes_36 : decode cX10_homes 36 = .ok (.iload 4, 2) := by decide +kernel
theorem dX10_homes_38 : decode cX10_homes 38 = .ok (.aload_n 0, 1) := by decide +kernel
theorem dX10_homes_39 : decode cX10_homes 39 = .ok (.getfield 16, 3) := by decide +kernel
theorem dX10_homes_42 : decode cX10_homes 42 = .ok (.getfield 296, 3) := by decide +kernel
theorem dX10_homes_45 : decode cX10_homes 45 = .ok (.if_icmp .ge 48, 3) := by decide +kernel
theorem dX10_homes_48 : decode cX10_homes 48 = .ok (.aload_n 0, 1) := by decide +kernel
theorem dX10_homes_49 : decode cX10_homes 49 = .ok (.getfield 16, 3) := by decide +kernel
theorem dX10_homes_52 : decode cX10_homes 52 = .ok (.iload_n 3, 1) := by decide +kernel
theorem dX10_homes_53 : decode cX10_homes 53 = .ok (.iload 4, 2) := by decide +kernel
theorem dX10_homes_55 : decode cX10_homes 55 = .ok (.invokevirtual 225, 3) := by decide +kernel
theorem dX10_homes_58 : decode cX10_homes 58 = .ok (.ifCond .ne 29, 3) := by decide +kernel
theorem dX10_homes_61 : decode cX10_homes 61 = .ok (.aload_n 0, 1) := by decide +kernel
theorem dX10_homes_62 : decode cX10_homes 62 = .ok (.iload_n 3, 1) := by decide +kernel
theorem dX10_homes_63 : decode cX10_homes 63 = .ok (.iload 4, 2) := by decide +kernel
theorem dX10_homes_65 : decode cX10_homes 65 = .ok (.invokevirtual 348, 3) := by decide +kernel
theorem dX10_homes_68 : decode cX10_homes 68 = .ok (.ifCond .eq 19, 3) := by decide +kernel
theorem dX10_homes_71 : decode cX10_homes 71 = .ok (.iload_n 1, 1) := by decide +kernel
theorem dX10_homes_72 : decode cX10_homes 72 = .ok (.iconst 1, 1) := by decide +kernel
theorem dX10_homes_73 : decode cX10_homes 73 = .ok (.if_icmp .ne 11, 3) := by decide +kernel
theorem dX10_homes_76 : decode cX10_homes 76 = .ok (.bipush 10, 2) := by decide +kernel
theorem dX10_homes_78 : decode cX10_homes 78 = .ok (.iload_n 3, 1) := by decide +kernel
theorem dX10_homes_79 : decode cX10_homes 79 = .ok (.imul, 1) := by decide +kernel
theorem dX10_homes_80 : decode cX10_homes 80 = .ok (.iload 4, 2) := by decide +kernel
theorem dX10_homes_82 : decode cX10_homes 82 = .ok (.iadd, 1) := by decide +kernel
theorem dX10_homes_83 : decode cX10_homes 83 = .ok (.ireturn, 1) := by decide +kernel
theorem dX10_homes_84 : decode cX10_homes 84 = .ok (.iinc 2 1, 3) := by decide +kernel
theorem dX10_homes_87 : decode cX10_homes 87 = .ok (.iinc 4 1, 3) := by decide +kernel
theorem dX10_homes_90 : decode cX10_homes 90 = .ok (.goto (-54), 3) := by decide +kernel
theorem dX10_homes_93 : decode cX10_homes 93 = .ok (.iinc 3 1, 3) := by decide +kernel
theorem dX10_homes_96 : decode cX10_homes 96 = .ok (.goto (-74), 3) := by decide +kernel
theorem dX10_homes_99 : decode cX10_homes 99 = .ok (.iload_n 1, 1) := by decide +kernel
theorem dX10_homes_100 : decode cX10_homes 100 = .ok (.ifCond .ne 7, 3) := by decide +kernel
theorem dX10_homes_103 : decode cX10_homes 103 = .ok (.iload_n 2, 1) := by decide +kernel
theorem dX10_homes_104 : decode cX10_homes 104 = .ok (.goto 5, 3) := by decide +kernel
theorem dX10_homes_107 : decode cX10_homes 107 = .ok (.bipush (-2), 2) := by decide +kernel
theorem dX10_homes_109 : decode cX10_homes 109 = .ok (.ireturn, 1) := by decide +kernel
theorem dX10_isHome_0 : decode cX10_isHome 0 = .ok (.aload_n 0, 1) := by decide +kernel
theorem dX10_isHome_1 : decode cX10_isHome 1 = .ok (.getfield 79, 3) := by decide +kernel
theorem dX10_isHome_4 : decode cX10_isHome 4 = .ok (.aload_n 0, 1) := by decide +kernel
theorem dX10_isHome_5 : decode cX10_isHome 5 = .ok (.getfield 16, 3) := by decide +kernel
theorem dX10_isHome_8 : decode cX10_isHome 8 = .ok (.iload_n 1, 1) := by decide +kernel
theorem dX10_isHome_9 : decode cX10_isHome 9 = .ok (.iload_n 2, 1) := by decide +kernel
theorem dX10_isHome_10 : decode cX10_isHome 10 = .ok (.invokevirtual 130, 3) := by decide +kernel
theorem dX10_isHome_13 : decode cX10_isHome 13 = .ok (.aload_n 0, 1) := by decide +kernel
theorem dX10_isHome_14 : decode cX10_isHome 14 = .ok (.getfield 65, 3) := by decide +kernel
theorem dX10_isHome_17 : decode cX10_isHome 17 = .ok (.invokevirtual 351, 3) := by decide +kernel
theorem dX10_isHome_20 : decode cX10_isHome 20 = .ok (.istore_n 3, 1) := by decide +kernel
theorem dX10_isHome_21 : decode cX10_isHome 21 = .ok (.iconst 1, 1) := by decide +kernel
theorem dX10_isHome_22 : decode cX10_isHome 22 = .ok (.istore 4, 2) := by decide +kernel
theorem dX10_isHome_24 : decode cX10_isHome 24 = .ok (.iload 4, 2) := by decide +kernel
theorem dX10_isHome_26 : decode cX10_isHome 26 = .ok (.iload_n 3, 1) := by decide +kernel
theorem dX10_isHome_27 : decode cX10_isHome 27 = .ok (.if_icmp .gt 39, 3) := by decide +kernel
theorem dX10_isHome_30 : decode cX10_isHome 30 = .ok (.aload_n 0, 1) := by decide +kernel
theorem dX10_isHome_31 : decode cX10_isHome 31 = .ok (.getfield 35, 3) := by decide +kernel
theorem dX10_isHome_34 : decode cX10_isHome 34 = .ok (.aload_n 0, 1) := by decide +kernel
theorem dX10_isHome_35 : decode cX10_isHome 35 = .ok (.getfield 79, 3) := by decide +kernel
theorem dX10_isHome_38 : decode cX10_isHome 38 = .ok (.iconst 0, 1) := by decide +kernel
theorem dX10_isHome_39 : decode cX10_isHome 39 = .ok (.invokevirtual 285, 3) := by decide +kernel
theorem dX10_isHome_42 : decode cX10_isHome 42 = .ok (.aload_n 0, 1) := by decide +kernel
theorem dX10_isHome_43 : decode cX10_isHome 43 = .ok (.getfield 65, 3) := by decide +kernel
theorem dX10_isHome_46 : decode cX10_isHome 46 = .ok (.iload 4, 2) := by decide +kernel
theorem dX10_isHome_48 : decode cX10_isHome 48 = .ok (.aload_n 0, 1) := by decide +kernel
theorem dX10_isHome_49 : decode cX10_isHome 49 = .ok (.getfield 79, 3) := by decide +kernel
theorem dX10_isHome_52 : decode cX10_isHome 52 = .ok (.invokevirtual 354, 3) := by decide +kernel
theorem dX10_isHome_55 : decode cX10_isHome 55 = .ok (.ifCond .ne 5, 3) := by decide +kernel
theorem dX10_isHome_58 : decode cX10_isHome 58 = .ok (.iconst 0, 1) := by decide +kernel
theorem dX10_isHome_59 : decode cX10_isHome 59 = .ok (.ireturn, 1) := by decide +kernel
theorem dX10_isHome_60 : decode cX10_isHome 60 = .ok (.iinc 4 1, 3) := by decide +kernel
theorem dX10_isHome_63 : decode cX10_isHome 63 = .ok (.goto (-39), 3) := by decide +kernel
theorem dX10_isHome_66 : decode cX10_isHome 66 = .ok (.iconst 1, 1) := by decide +kernel
theorem dX10_isHome_67 : decode cX10_isHome 67 = .ok (.ireturn, 1) := by decide +kernel
theorem dX10_chance_0 : decode cX10_chance 0 = .ok (.iload_n 1, 1) := by decide +kernel
theorem dX10_chance_1 : decode cX10_chance 1 = .ok (.ifCond .lt 24, 3) := by decide +kernel
theorem dX10_chance_4 : decode cX10_chance 4 = .ok (.iload_n 2, 1) := by decide +kernel
theorem dX10_chance_5 : decode cX10_chance 5 = .ok (.iconst 1, 1) := by decide +kernel
theorem dX10_chance_6 : decode cX10_chance 6 = .ok (.if_icmp .lt 19, 3) := by decide +kernel
theorem dX10_chance_9 : decode cX10_chance 9 = .ok (.iload_n 2, 1) := by decide +kernel
theorem dX10_chance_10 : decode cX10_chance 10 = .ok (.bipush 99, 2) := by decide +kernel
theorem dX10_chance_12 : decode cX10_chance 12 = .ok (.if_icmp .gt 13, 3) := by decide +kernel
theorem dX10_chance_15 : decode cX10_chance 15 = .ok (.iload_n 3, 1) := by decide +kernel
theorem dX10_chance_16 : decode cX10_chance 16 = .ok (.ifCond .lt 9, 3) := by decide +kernel
theorem dX10_chance_19 : decode cX10_chance 19 = .ok (.iload_n 3, 1) := by decide +kernel
theorem dX10_chance_20 : decode cX10_chance 20 = .ok (.bipush 8, 2) := by decide +kernel
theorem dX10_chance_22 : decode cX10_chance 22 = .ok (.if_icmp .le 5, 3) := by decide +kernel
theorem dX10_chance_25 : decode cX10_chance 25 = .ok (.iconst (-1), 1) := by decide +kernel
theorem dX10_chance_26 : decode cX10_chance 26 = .ok (.ireturn, 1) := by decide +kernel
theorem dX10_chance_27 : decode cX10_chance 27 = .ok (.iconst 0, 1) := by decide +kernel
theorem dX10_chance_28 : decode cX10_chance 28 = .ok (.istore 4, 2) := by decide +kernel
theorem dX10_chance_30 : decode cX10_chance 30 = .ok (.iload_n 1, 1) := by decide +kernel
theorem dX10_chance_31 : decode cX10_chance 31 = .ok (.istore 5, 2) := by decide +kernel
theorem dX10_chance_33 : decode cX10_chance 33 = .ok (.iconst 0, 1) := by decide +kernel
theorem dX10_chance_34 : decode cX10_chance 34 = .ok (.istore 6, 2) := by decide +kernel
theorem dX10_chance_36 : decode cX10_chance 36 = .ok (.iload 6, 2) := by decide +kernel
theorem dX10_chance_38 : decode cX10_chance 38 = .ok (.bipush 10, 2) := by decide +kernel
theorem dX10_chance_40 : decode cX10_chance 40 = .ok (.if_icmp .ge 68, 3) := by decide +kernel
theorem dX10_chance_43 : decode cX10_chance 43 = .ok (.aload_n 0, 1) := by decide +kernel
theorem dX10_chance_44 : decode cX10_chance 44 = .ok (.getfield 79, 3) := by decide +kernel
theorem dX10_chance_47 : decode cX10_chance 47 = .ok (.aload_n 0, 1) := by decide +kernel
theorem dX10_chance_48 : decode cX10_chance 48 = .ok (.getfield 72, 3) := by decide +kernel
theorem dX10_chance_51 : decode cX10_chance 51 = .ok (.invokevirtual 264, 3) := by decide +kernel
theorem dX10_chance_54 : decode cX10_chance 54 = .ok (.aload_n 0, 1) := by decide +kernel
theorem dX10_chance_55 : decode cX10_chance 55 = .ok (.getfield 79, 3) := by decide +kernel
theorem dX10_chance_58 : decode cX10_chance 58 = .ok (.iload 5, 2) := by decide +kernel
theorem dX10_chance_60 : decode cX10_chance 60 = .ok (.putfield 358, 3) := by decide +kernel
theorem dX10_chance_63 : decode cX10_chance 63 = .ok (.aload_n 0, 1) := by decide +kernel
theorem dX10_chance_64 : decode cX10_chance 64 = .ok (.getfield 35, 3) := by decide +kernel
theorem dX10_chance_67 : decode cX10_chance 67 = .ok (.aload_n 0, 1) := by decide +kernel
theorem dX10_chance_68 : decode cX10_chance 68 = .ok (.getfield 79, 3) := by decide +kernel
theorem dX10_chance_71 : decode cX10_chance 71 = .ok (.iload_n 2, 1) := by decide +kernel
theorem dX10_chance_72 : decode cX10_chance 72 = .ok (.iconst 1, 1) := by decide +kernel
theorem dX10_chance_73 : decode cX10_chance 73 = .ok (.invokevirtual 261, 3) := by decide +kernel
theorem dX10_chance_76 : decode cX10_chance 76 = .ok (.aload_n 0, 1) := by decide +kernel
theorem dX10_chance_77 : decode cX10_chance 77 = .ok (.getfield 79, 3) := by decide +kernel
theorem dX10_chance_80 : decode cX10_chance 80 = .ok (.getfield 358, 3) := by decide +kernel
theorem dX10_chance_83 : decode cX10_chance 83 = .ok (.istore 5, 2) := by decide +kernel
theorem dX10_chance_85 : decode cX10_chance 85 = .ok (.aload_n 0, 1) := by decide +kernel
theorem dX10_chance_86 : decode cX10_chance 86 = .ok (.getfield 79, 3) := by decide +kernel
theorem dX10_chance_89 : decode cX10_chance 89 = .ok (.getfield 195, 3) := by decide +kernel
theorem dX10_chance_92 : decode cX10_chance 92 = .ok (.invokestatic 267, 3) := by decide +kernel
theorem dX10_chance_95 : decode cX10_chance 95 = .ok (.iload_n 3, 1) := by decide +kernel
theorem dX10_chance_96 : decode cX10_chance 96 = .ok (.if_icmp .lt 6, 3) := by decide +kernel
theorem dX10_chance_99 : decode cX10_chance 99 = .ok (.iinc 4 1, 3) := by decide +kernel
theorem dX10_chance_102 : decode cX10_chance 102 = .ok (.iinc 6 1, 3) := by decide +kernel
theorem dX10_chance_105 : decode cX10_chance 105 = .ok (.goto (-69), 3) := by decide +kernel
theorem dX10_chance_108 : decode cX10_chance 108 = .ok (.iload 4, 2) := by decide +kernel
theorem dX10_chance_110 : decode cX10_chance 110 = .ok (.ireturn, 1) := by decide +kernel
theorem dX10_tried_0 : decode cX10_tried 0 = .ok (.iload_n 1, 1) := by decide +kernel
theorem dX10_tried_1 : decode cX10_tried 1 = .ok (.ifCond .lt 41, 3) := by decide +kernel
theorem dX10_tried_4 : decode cX10_tried 4 = .ok (.iload_n 1, 1) := by decide +kernel
theorem dX10_tried_5 : decode cX10_tried 5 = .ok (.iconst 5, 1) := by decide +kernel
theorem dX10_tried_6 : decode cX10_tried 6 = .ok (.if_icmp .gt 36, 3) := by decide +kernel
theorem dX10_tried_9 : decode cX10_tried 9 = .ok (.iload_n 3, 1) := by decide +kernel
theorem dX10_tried_10 : decode cX10_tried 10 = .ok (.invokestatic 255, 3) := by decide +kernel
theorem dX10_tried_13 : decode cX10_tried 13 = .ok (.ifCond .eq 29, 3) := by decide +kernel
theorem dX10_tried_16 : decode cX10_tried 16 = .ok (.iload_n 1, 1) := by decide +kernel
theorem dX10_tried_17 : decode cX10_tried 17 = .ok (.iconst 2, 1) := by decide +kernel
theorem dX10_tried_18 : decode cX10_tried 18 = .ok (.if_icmp .ne 20, 3) := by decide +kernel
theorem dX10_tried_21 : decode cX10_tried 21 = .ok (.aload_n 0, 1) := by decide +kernel
theorem dX10_tried_22 : decode cX10_tried 22 = .ok (.getfield 16, 3) := by decide +kernel
theorem dX10_tried_25 : decode cX10_tried 25 = .ok (.getfield 141, 3) := by decide +kernel
theorem dX10_tried_28 : decode cX10_tried 28 = .ok (.iload_n 2, 1) := by decide +kernel
theorem dX10_tried_29 : decode cX10_tried 29 = .ok (.invokevirtual 179, 3) := by decide +kernel
theorem dX10_tried_32 : decode cX10_tried 32 = .ok (.ifCond .eq 10, 3) := by decide +kernel
theorem dX10_tried_35 : decode cX10_tried 35 = .ok (.goto 9, 3) := by decide +kernel
theorem dX10_tried_38 : decode cX10_tried 38 = .ok (.iload_n 2, 1) := by decide +kernel
theorem dX10_tried_39 : decode cX10_tried 39 = .ok (.ifCond .eq 5, 3) := by decide +kernel
theorem dX10_tried_42 : decode cX10_tried 42 = .ok (.iconst (-1), 1) := by decide +kernel
theorem dX10_tried_43 : decode cX10_tried 43 = .ok (.ireturn, 1) := by decide +kernel
theorem dX10_tried_44 : decode cX10_tried 44 = .ok (.aload_n 0, 1) := by decide +kernel
theorem dX10_tried_45 : decode cX10_tried 45 = .ok (.getfield 79, 3) := by decide +kernel
theorem dX10_tried_48 : decode cX10_tried 48 = .ok (.aload_n 0, 1) := by decide +kernel
theorem dX10_tried_49 : decode cX10_tried 49 = .ok (.getfield 72, 3) := by decide +kernel
theorem dX10_tried_52 : decode cX10_tried 52 = .ok (.invokevirtual 264, 3) := by decide +kernel
theorem dX10_tried_55 : decode cX10_tried 55 = .ok (.iconst 0, 1) := by decide +kernel
theorem dX10_tried_56 : decode cX10_tried 56 = .ok (.istore 4, 2) := by decide +kernel
theorem dX10_tried_58 : decode cX10_tried 58 = .ok (.iload_n 1, 1) := by decide +kernel
theorem dX10_tried_59 : decode cX10_tried 59 = .ok (.tableswitch 87 1 5 #[33, 39, 59, 65, 80], 33) := by decide +kernel
theorem dX10_tried_92 : decode cX10_tried 92 = .ok (.iconst 2, 1) := by decide +kernel
theorem dX10_tried_93 : decode cX10_tried 93 = .ok (.istore 4, 2) := by decide +kernel
theorem dX10_tried_95 : decode cX10_tried 95 = .ok (.goto 51, 3) := by decide +kernel
theorem dX10_tried_98 : decode cX10_tried 98 = .ok (.aload_n 0, 1) := by decide +kernel
theorem dX10_tried_99 : decode cX10_tried 99 = .ok (.getfield 79, 3) := by decide +kernel
theorem dX10_tried_102 : decode cX10_tried 102 = .ok (.dup, 1) := by decide +kernel
theorem dX10_tried_103 : decode cX10_tried 103 = .ok (.getfield 218, 3) := by decide +kernel
theorem dX10_tried_106 : decode cX10_tried 106 = .ok (.iconst 1, 1) := by decide +kernel
theorem dX10_tried_107 : decode cX10_tried 107 = .ok (.iload_n 2, 1) := by decide +kernel
theorem dX10_tried_108 : decode cX10_tried 108 = .ok (.ishl, 1) := by decide +kernel
theorem dX10_tried_109 : decode cX10_tried 109 = .ok (.iconst (-1), 1) := by decide +kernel
theorem dX10_tried_110 : decode cX10_tried 110 = .ok (.ixor, 1) := by decide +kernel
theorem dX10_tried_111 : decode cX10_tried 111 = .ok (.iand, 1) := by decide +kernel
theorem dX10_tried_112 : decode cX10_tried 112 = .ok (.putfield 218, 3) := by decide +kernel
theorem dX10_tried_115 : decode cX10_tried 115 = .ok (.goto 31, 3) := by decide +kernel
theorem dX10_tried_118 : decode cX10_tried 118 = .ok (.iconst 4, 1) := by decide +kernel
theorem dX10_tried_119 : decode cX10_tried 119 = .ok (.istore 4, 2) := by decide +kernel
theorem dX10_tried_121 : decode cX10_tried 121 = .ok (.goto 25, 3) := by decide +kernel
theorem dX10_tried_124 : decode cX10_tried 124 = .ok (.bipush 8, 2) := by decide +kernel
theorem dX10_tried_126 : decode cX10_tried 126 = .ok (.istore 4, 2) := by decide +kernel
theorem dX10_tried_128 : decode cX10_tried 128 = .ok (.aload_n 0, 1) := by decide +kernel
theorem dX10_tried_129 : decode cX10_tried 129 = .ok (.getfield 79, 3) := by decide +kernel
theorem dX10_tried_132 : decode cX10_tried 132 = .ok (.iconst 0, 1) := by decide +kernel
theorem dX10_tried_133 : decode cX10_tried 133 = .ok (.putfield 176, 3) := by decide +kernel
theorem dX10_tried_136 : decode cX10_tried 136 = .ok (.goto 10, 3) := by decide +kernel
theorem dX10_tried_139 : decode cX10_tried 139 = .ok (.bipush 16, 2) := by decide +kernel
theorem dX10_tried_141 : decode cX10_tried 141 = .ok (.istore 4, 2) := by decide +kernel
theorem dX10_tried_143 : decode cX10_tried 143 = .ok (.goto 3, 3) := by decide +kernel
theorem dX10_tried_146 : decode cX10_tried 146 = .ok (.aload_n 0, 1) := by decide +kernel
theorem dX10_tried_147 : decode cX10_tried 147 = .ok (.getfield 35, 3) := by decide +kernel
theorem dX10_tried_150 : decode cX10_tried 150 = .ok (.aload_n 0, 1) := by decide +kernel
theorem dX10_tried_151 : decode cX10_tried 151 = .ok (.getfield 79, 3) := by decide +kernel
theorem dX10_tried_154 : decode cX10_tried 154 = .ok (.iload_n 3, 1) := by decide +kernel
theorem dX10_tried_155 : decode cX10_tried 155 = .ok (.iload 4, 2) := by decide +kernel
theorem dX10_tried_157 : decode cX10_tried 157 = .ok (.invokevirtual 261, 3) := by decide +kernel
theorem dX10_tried_160 : decode cX10_tried 160 = .ok (.aload_n 0, 1) := by decide +kernel
theorem dX10_tried_161 : decode cX10_tried 161 = .ok (.getfield 16, 3) := by decide +kernel
theorem dX10_tried_164 : decode cX10_tried 164 = .ok (.aload_n 0, 1) := by decide +kernel
theorem dX10_tried_165 : decode cX10_tried 165 = .ok (.getfield 79, 3) := by decide +kernel
theorem dX10_tried_168 : decode cX10_tried 168 = .ok (.getfield 195, 3) := by decide +kernel
theorem dX10_tried_171 : decode cX10_tried 171 = .ok (.invokevirtual 272, 3) := by decide +kernel
theorem dX10_tried_174 : decode cX10_tried 174 = .ok (.aload_n 0, 1) := by decide +kernel
theorem dX10_tried_175 : decode cX10_tried 175 = .ok (.getfield 16, 3) := by decide +kernel
theorem dX10_tried_178 : decode cX10_tried 178 = .ok (.aload_n 0, 1) := by decide +kernel
theorem dX10_tried_179 : decode cX10_tried 179 = .ok (.getfield 72, 3) := by decide +kernel
theorem dX10_tried_182 : decode cX10_tried 182 = .ok (.getfield 195, 3) := by decide +kernel
theorem dX10_tried_185 : decode cX10_tried 185 = .ok (.invokevirtual 272, 3) := by decide +kernel
theorem dX10_tried_188 : decode cX10_tried 188 = .ok (.isub, 1) := by decide +kernel
theorem dX10_tried_189 : decode cX10_tried 189 = .ok (.ireturn, 1) := by decide +kernel
theorem dX10_undo_0 : decode cX10_undo 0 = .ok (.aload_n 0, 1) := by decide +kernel
theorem dX10_undo_1 : decode cX10_undo 1 = .ok (.getfield 58, 3) := by decide +kernel
theorem dX10_undo_4 : decode cX10_undo 4 = .ok (.aload_n 0, 1) := by decide +kernel
theorem dX10_undo_5 : decode cX10_undo 5 = .ok (.getfield 72, 3) := by decide +kernel
theorem dX10_undo_8 : decode cX10_undo 8 = .ok (.invokevirtual 361, 3) := by decide +kernel
theorem dX10_undo_11 : decode cX10_undo 11 = .ok (.ireturn, 1) := by decide +kernel
theorem dX10_keep_0 : decode cX10_keep 0 = .ok (.aload_n 0, 1) := by decide +kernel
theorem dX10_keep_1 : decode cX10_keep 1 = .ok (.getfield 76, 3) := by decide +kernel
theorem dX10_keep_4 : decode cX10_keep 4 = .ok (.aload_n 0, 1) := by decide +kernel
theorem dX10_keep_5 : decode cX10_keep 5 = .ok (.getfield 72, 3) := by decide +kernel
theorem dX10_keep_8 : decode cX10_keep 8 = .ok (.invokevirtual 264, 3) := by decide +kernel
theorem dX10_keep_11 : decode cX10_keep 11 = .ok (.aload_n 0, 1) := by decide +kernel
theorem dX10_keep_12 : decode cX10_keep 12 = .ok (.iconst 1, 1) := by decide +kernel
theorem dX10_keep_13 : decode cX10_keep 13 = .ok (.putfield 133, 3) := by decide +kernel
theorem dX10_keep_16 : decode cX10_keep 16 = .ok (.aload_n 0, 1) := by decide +kernel
theorem dX10_keep_17 : decode cX10_keep 17 = .ok (.getfield 72, 3) := by decide +kernel
theorem dX10_keep_20 : decode cX10_keep 20 = .ok (.getfield 258, 3) := by decide +kernel
theorem dX10_keep_23 : decode cX10_keep 23 = .ok (.ireturn, 1) := by decide +kernel
theorem dX10_back_0 : decode cX10_back 0 = .ok (.aload_n 0, 1) := by decide +kernel
theorem dX10_back_1 : decode cX10_back 1 = .ok (.getfield 133, 3) := by decide +kernel
theorem dX10_back_4 : decode cX10_back 4 = .ok (.ifCond .ne 5, 3) := by decide +kernel
theorem dX10_back_7 : decode cX10_back 7 = .ok (.iconst (-1), 1) := by decide +kernel
theorem dX10_back_8 : decode cX10_back 8 = .ok (.ireturn, 1) := by decide +kernel
theorem dX10_back_9 : decode cX10_back 9 = .ok (.aload_n 0, 1) := by decide +kernel
theorem dX10_back_10 : decode cX10_back 10 = .ok (.getfield 72, 3) := by decide +kernel
theorem dX10_back_13 : decode cX10_back 13 = .ok (.aload_n 0, 1) := by decide +kernel
theorem dX10_back_14 : decode cX10_back 14 = .ok (.getfield 76, 3) := by decide +kernel
theorem dX10_back_17 : decode cX10_back 17 = .ok (.invokevirtual 264, 3) := by decide +kernel
theorem dX10_back_20 : decode cX10_back 20 = .ok (.aload_n 0, 1) := by decide +kernel
theorem dX10_back_21 : decode cX10_back 21 = .ok (.getfield 58, 3) := by decide +kernel
theorem dX10_back_24 : decode cX10_back 24 = .ok (.invokevirtual 137, 3) := by decide +kernel
theorem dX10_back_27 : decode cX10_back 27 = .ok (.aload_n 0, 1) := by decide +kernel
theorem dX10_back_28 : decode cX10_back 28 = .ok (.getfield 72, 3) := by decide +kernel
theorem dX10_back_31 : decode cX10_back 31 = .ok (.getfield 258, 3) := by decide +kernel
theorem dX10_back_34 : decode cX10_back 34 = .ok (.ireturn, 1) := by decide +kernel
theorem dX10_count_0 : decode cX10_count 0 = .ok (.iload_n 1, 1) := by decide +kernel
theorem dX10_count_1 : decode cX10_count 1 = .ok (.tableswitch 217 0 14 #[75, 86, 97, 108, 116, 124, 132, 140, 151, 166, 174, 182, 193, 201, 209], 75) := by decide +kernel
theorem dX10_count_76 : decode cX10_count 76 = .ok (.aload_n 0, 1) := by decide +kernel
theorem dX10_count_77 : decode cX10_count 77 = .ok (.getfield 16, 3) := by decide +kernel
theorem dX10_count_80 : decode cX10_count 80 = .ok (.getfield 141, 3) := by decide +kernel
theorem dX10_count_83 : decode cX10_count 83 = .ok (.invokevirtual 307, 3) := by decide +kernel
theorem dX10_count_86 : decode cX10_count 86 = .ok (.ireturn, 1) := by decide +kernel
theorem dX10_count_87 : decode cX10_count 87 = .ok (.aload_n 0, 1) := by decide +kernel
theorem dX10_count_88 : decode cX10_count 88 = .ok (.getfield 16, 3) := by decide +kernel
theorem dX10_count_91 : decode cX10_count 91 = .ok (.getfield 151, 3) := by decide +kernel
theorem dX10_count_94 : decode cX10_count 94 = .ok (.invokevirtual 307, 3) := by decide +kernel
theorem dX10_count_97 : decode cX10_count 97 = .ok (.ireturn, 1) := by decide +kernel
theorem dX10_count_98 : decode cX10_count 98 = .ok (.aload_n 0, 1) := by decide +kernel
theorem dX10_count_99 : decode cX10_count 99 = .ok (.getfield 16, 3) := by decide +kernel
theorem dX10_count_102 : decode cX10_count 102 = .ok (.getfield 154, 3) := by decide +kernel
theorem dX10_count_105 : decode cX10_count 105 = .ok (.invokevirtual 307, 3) := by decide +kernel
theorem dX10_count_108 : decode cX10_count 108 = .ok (.ireturn, 1) := by decide +kernel
theorem dX10_count_109 : decode cX10_count 109 = .ok (.aload_n 0, 1) := by decide +kernel
theorem dX10_count_110 : decode cX10_count 110 = .ok (.getfield 16, 3) := by decide +kernel
theorem dX10_count_113 : decode cX10_count 113 = .ok (.getfield 293, 3) := by decide +kernel
theorem dX10_count_116 : decode cX10_count 116 = .ok (.ireturn, 1) := by decide +kernel
theorem dX10_count_117 : decode cX10_count 117 = .ok (.aload_n 0, 1) := by decide +kernel
theorem dX10_count_118 : decode cX10_count 118 = .ok (.getfield 16, 3) := by decide +kernel
theorem dX10_count_121 : decode cX10_count 121 = .ok (.getfield 296, 3) := by decide +kernel
theorem dX10_count_124 : decode cX10_count 124 = .ok (.ireturn, 1) := by decide +kernel
theorem dX10_count_125 : decode cX10_count 125 = .ok (.aload_n 0, 1) := by decide +kernel
theorem dX10_count_126 : decode cX10_count 126 = .ok (.getfield 16, 3) := by decide +kernel
theorem dX10_count_129 : decode cX10_count 129 = .ok (.getfield 365, 3) := by decide +kernel
theorem dX10_count_132 : decode cX10_count 132 = .ok (.ireturn, 1) := by decide +kernel
theorem dX10_count_133 : decode cX10_count 133 = .ok (.aload_n 0, 1) := by decide +kernel
theorem dX10_count_134 : decode cX10_count 134 = .ok (.getfield 72, 3) := by decide +kernel
theorem dX10_count_137 : decode cX10_count 137 = .ok (.getfield 258, 3) := by decide +kernel
theorem dX10_count_140 : decode cX10_count 140 = .ok (.ireturn, 1) := by decide +kernel
theorem dX10_count_141 : decode cX10_count 141 = .ok (.aload_n 0, 1) := by decide +kernel
theorem dX10_count_142 : decode cX10_count 142 = .ok (.getfield 72, 3) := by decide +kernel
theorem dX10_count_145 : decode cX10_count 145 = .ok (.getfield 195, 3) := by decide +kernel
theorem dX10_count_148 : decode cX10_count 148 = .ok (.invokestatic 267, 3) := by decide +kernel
theorem dX10_count_151 : decode cX10_count 151 = .ok (.ireturn, 1) := by decide +kernel
theorem dX10_count_152 : decode cX10_count 152 = .ok (.aload_n 0, 1) := by decide +kernel
theorem dX10_count_153 : decode cX10_count 153 = .ok (.getfield 16, 3) := by decide +kernel
theorem dX10_count_156 : decode cX10_count 156 = .ok (.aload_n 0, 1) := by decide +kernel
theorem dX10_count_157 : decode cX10_count 157 = .ok (.getfield 72, 3) := by decide +kernel
theorem dX10_count_160 : decode cX10_count 160 = .ok (.getfield 195, 3) := by decide +kernel
theorem dX10_count_163 : decode cX10_count 163 = .ok (.invokevirtual 272, 3) := by decide +kernel
theorem dX10_count_166 : decode cX10_count 166 = .ok (.ireturn, 1) := by decide +kernel
theorem dX10_count_167 : decode cX10_count 167 = .ok (.aload_n 0, 1) := by decide +kernel
theorem dX10_count_168 : decode cX10_count 168 = .ok (.getfield 72, 3) := by decide +kernel
theorem dX10_count_171 : decode cX10_count 171 = .ok (.getfield 275, 3) := by decide +kernel
theorem dX10_count_174 : decode cX10_count 174 = .ok (.ireturn, 1) := by decide +kernel
theorem dX10_count_175 : decode cX10_count 175 = .ok (.aload_n 0, 1) := by decide +kernel
theorem dX10_count_176 : decode cX10_count 176 = .ok (.getfield 72, 3) := by decide +kernel
theorem dX10_count_179 : decode cX10_count 179 = .ok (.getfield 282, 3) := by decide +kernel
theorem dX10_count_182 : decode cX10_count 182 = .ok (.ireturn, 1) := by decide +kernel
theorem dX10_count_183 : decode cX10_count 183 = .ok (.aload_n 0, 1) := by decide +kernel
theorem dX10_count_184 : decode cX10_count 184 = .ok (.getfield 72, 3) := by decide +kernel
theorem dX10_count_187 : decode cX10_count 187 = .ok (.getfield 218, 3) := by decide +kernel
theorem dX10_count_190 : decode cX10_count 190 = .ok (.invokestatic 267, 3) := by decide +kernel
theorem dX10_count_193 : decode cX10_count 193 = .ok (.ireturn, 1) := by decide +kernel
theorem dX10_count_194 : decode cX10_count 194 = .ok (.aload_n 0, 1) := by decide +kernel
theorem dX10_count_195 : decode cX10_count 195 = .ok (.getfield 65, 3) := by decide +kernel
theorem dX10_count_198 : decode cX10_count 198 = .ok (.invokevirtual 341, 3) := by decide +kernel
theorem dX10_count_201 : decode cX10_count 201 = .ok (.ireturn, 1) := by decide +kernel
theorem dX10_count_202 : decode cX10_count 202 = .ok (.aload_n 0, 1) := by decide +kernel
theorem dX10_count_203 : decode cX10_count 203 = .ok (.getfield 65, 3) := by decide +kernel
theorem dX10_count_206 : decode cX10_count 206 = .ok (.invokevirtual 368, 3) := by decide +kernel
theorem dX10_count_209 : decode cX10_count 209 = .ok (.ireturn, 1) := by decide +kernel
theorem dX10_count_210 : decode cX10_count 210 = .ok (.aload_n 0, 1) := by decide +kernel
theorem dX10_count_211 : decode cX10_count 211 = .ok (.getfield 58, 3) := by decide +kernel
theorem dX10_count_214 : decode cX10_count 214 = .ok (.getfield 371, 3) := by decide +kernel
theorem dX10_count_217 : decode cX10_count 217 = .ok (.ireturn, 1) := by decide +kernel
theorem dX10_count_218 : decode cX10_count 218 = .ok (.iconst (-1), 1) := by decide +kernel
theorem dX10_count_219 : decode cX10_count 219 = .ok (.ireturn, 1) := by decide +kernel
theorem dX11_init_0 : decode cX11_init 0 = .ok (.aload_n 0, 1) := by decide +kernel
theorem dX11_init_1 : decode cX11_init 1 = .ok (.invokespecial 1, 3) := by decide +kernel
theorem dX11_init_4 : decode cX11_init 4 = .ok (.aload_n 0, 1) := by decide +kernel
theorem dX11_init_5 : decode cX11_init 5 = .ok (.sipush 700, 3) := by decide +kernel
theorem dX11_init_8 : decode cX11_init 8 = .ok (.newarray .int, 2) := by decide +kernel
theorem dX11_init_10 : decode cX11_init 10 = .ok (.putfield 7, 3) := by decide +kernel
theorem dX11_init_13 : decode cX11_init 13 = .ok (.aload_n 0, 1) := by decide +kernel
theorem dX11_init_14 : decode cX11_init 14 = .ok (.bipush 26, 2) := by decide +kernel
theorem dX11_init_16 : decode cX11_init 16 = .ok (.newarray .int, 2) := by decide +kernel
theorem dX11_init_18 : decode cX11_init 18 = .ok (.dup, 1) := by decide +kernel
theorem dX11_init_19 : decode cX11_init 19 = .ok (.iconst 0, 1) := by decide +kernel
theorem dX11_init_20 : decode cX11_init 20 = .ok (.iconst 5, 1) := by decide +kernel
theorem dX11_init_21 : decode cX11_init 21 = .ok (.iastore, 1) := by decide +kernel
theorem dX11_init_22 : decode cX11_init 22 = .ok (.dup, 1) := by decide +kernel
theorem dX11_init_23 : decode cX11_init 23 = .ok (.iconst 1, 1) := by decide +kernel
theorem dX11_init_24 : decode cX11_init 24 = .ok (.iconst 5, 1) := by decide +kernel
theorem dX11_init_25 : decode cX11_init 25 = .ok (.iastore, 1) := by decide +kernel
theorem dX11_init_26 : decode cX11_init 26 = .ok (.dup, 1) := by decide +kernel
theorem dX11_init_27 : decode cX11_init 27 = .ok (.iconst 2, 1) := by decide +kernel
theorem dX11_init_28 : decode cX11_init 28 = .ok (.iconst 0, 1) := by decide +kernel
theorem dX11_init_29 : decode cX11_init 29 = .ok (.iastore, 1) := by decide +kernel
theorem dX11_init_30 : decode cX11_init 30 = .ok (.dup, 1) := by decide +kernel
theorem dX11_init_31 : decode cX11_init 31 = .ok (.iconst 3, 1) := by decide +kernel
theorem dX11_init_32 : decode cX11_init 32 = .ok (.iconst 0, 1) := by decide +kernel
theorem dX11_init_33 : decode cX11_init 33 = .ok (.iastore, 1) := by decide +kernel
theorem dX11_init_34 : decode cX11_init 34 = .ok (.dup, 1) := by decide +kernel
theorem dX11_init_35 : decode cX11_init 35 = .ok (.iconst 4, 1) := by decide +kernel
theorem dX11_init_36 : decode cX11_init 36 = .ok (.iconst 0, 1) := by decide +kernel
theorem dX11_init_37 : decode cX11_init 37 = .ok (.iastore, 1) := by decide +kernel
theorem dX11_init_38 : decode cX11_init 38 = .ok (.dup, 1) := by decide +kernel
theorem dX11_init_39 : decode cX11_init 39 = .ok (.iconst 5, 1) := by decide +kernel
theorem dX11_init_40 : decode cX11_init 40 = .ok (.iconst 0, 1) := by decide +kernel
theorem dX11_init_41 : decode cX11_init 41 = .ok (.iastore, 1) := by decide +kernel
theorem dX11_init_42 : decode cX11_init 42 = .ok (.dup, 1) := by decide +kernel
theorem dX11_init_43 : decode cX11_init 43 = .ok (.bipush 6, 2) := by decide +kernel
theorem dX11_init_45 : decode cX11_init 45 = .ok (.iconst 0, 1) := by decide +kernel
theorem dX11_init_46 : decode cX11_init 46 = .ok (.iastore, 1) := by decide +kernel
theorem dX11_init_47 : decode cX11_init 47 = .ok (.dup, 1) := by decide +kernel
theorem dX11_init_48 : decode cX11_init 48 = .ok (.bipush 7, 2) := by decide +kernel
theorem dX11_init_50 : decode cX11_init 50 = .ok (.iconst 0, 1) := by decide +kernel
theorem dX11_init_51 : decode cX11_init 51 = .ok (.iastore, 1) := by decide +kernel
theorem dX11_init_52 : decode cX11_init 52 = .ok (.dup, 1) := by decide +kernel
theorem dX11_init_53 : decode cX11_init 53 = .ok (.bipush 8, 2) := by decide +kernel
theorem dX11_init_55 : decode cX11_init 55 = .ok (.iconst 0, 1) := by decide +kernel
theorem dX11_init_56 : decode cX11_init 56 = .ok (.iastore, 1) := by decide +kernel
theorem dX11_init_57 : decode cX11_init 57 = .ok (.dup, 1) := by decide +kernel
theorem dX11_init_58 : decode cX11_init 58 = .ok (.bipush 9, 2) := by decide +kernel
theorem dX11_init_60 : decode cX11_init 60 = .ok (.iconst 0, 1) := by decide +kernel
theorem dX11_init_61 : decode cX11_init 61 = .ok (.iastore, 1) := by decide +kernel
theorem dX11_init_62 : decode cX11_init 62 = .ok (.dup, 1) := by decide +kernel
theorem dX11_init_63 : decode cX11_init 63 = .ok (.bipush 10, 2) := by decide +kernel
theorem dX11_init_65 : decode cX11_init 65 = .ok (.iconst 0, 1) := by decide +kernel
theorem dX11_init_66 : decode cX11_init 66 = .ok (.iastore, 1) := by decide +kernel
theorem dX11_init_67 : decode cX11_init 67 = .ok (.dup, 1) := by decide +kernel
theorem dX11_init_68 : decode cX11_init 68 = .ok (.bipush 11, 2) := by decide +kernel
theorem dX11_init_70 : decode cX11_init 70 = .ok (.iconst 0, 1) := by decide +kernel
theorem dX11_init_71 : decode cX11_init 71 = .ok (.iastore, 1) := by decide +kernel
theorem dX11_init_72 : decode cX11_init 72 = .ok (.dup, 1) := by decide +kernel
theorem dX11_init_73 : decode cX11_init 73 = .ok (.bipush 12, 2) := by decide +kernel
theorem dX11_init_75 : decode cX11_init 75 = .ok (.iconst 0, 1) := by decide +kernel
theorem dX11_init_76 : decode cX11_init 76 = .ok (.iastore, 1) := by decide +kernel
theorem dX11_init_77 : decode cX11_init 77 = .ok (.dup, 1) := by decide +kernel
theorem dX11_init_78 : decode cX11_init 78 = .ok (.bipush 13, 2) := by decide +kernel
theorem dX11_init_80 : decode cX11_init 80 = .ok (.iconst 5, 1) := by decide +kernel
theorem dX11_init_81 : decode cX11_init 81 = .ok (.iastore, 1) := by decide +kernel
theorem dX11_init_82 : decode cX11_init 82 = .ok (.dup, 1) := by decide +kernel
theorem dX11_init_83 : decode cX11_init 83 = .ok (.bipush 14, 2) := by decide +kernel
theorem dX11_init_85 : decode cX11_init 85 = .ok (.iconst 5, 1) := by decide +kernel
theorem dX11_init_86 : decode cX11_init 86 = .ok (.iastore, 1) := by decide +kernel
theorem dX11_init_87 : decode cX11_init 87 = .ok (.dup, 1) := by decide +kernel
theorem dX11_init_88 : decode cX11_init 88 = .ok (.bipush 15, 2) := by decide +kernel
theorem dX11_init_90 : decode cX11_init 90 = .ok (.iconst 0, 1) := by decide +kernel
theorem dX11_init_91 : decode cX11_init 91 = .ok (.iastore, 1) := by decide +kernel
theorem dX11_init_92 : decode cX11_init 92 = .ok (.dup, 1) := by decide +kernel
theorem dX11_init_93 : decode cX11_init 93 = .ok (.bipush 16, 2) := by decide +kernel
theorem dX11_init_95 : decode cX11_init 95 = .ok (.iconst 0, 1) := by decide +kernel
theorem dX11_init_96 : decode cX11_init 96 = .ok (.iastore, 1) := by decide +kernel
theorem dX11_init_97 : decode cX11_init 97 = .ok (.dup, 1) := by decide +kernel
theorem dX11_init_98 : decode cX11_init 98 = .ok (.bipush 17, 2) := by decide +kernel
theorem dX11_init_100 : decode cX11_init 100 = .ok (.iconst 0, 1) := by decide +kernel
theorem dX11_init_101 : decode cX11_init 101 = .ok (.iastore, 1) := by decide +kernel
theorem dX11_init_102 : decode cX11_init 102 = .ok (.dup, 1) := by decide +kernel
theorem dX11_init_103 : decode cX11_init 103 = .ok (.bipush 18, 2) := by decide +kernel
theorem dX11_init_105 : decode cX11_init 105 = .ok (.iconst 0, 1) := by decide +kernel
theorem dX11_init_106 : decode cX11_init 106 = .ok (.iastore, 1) := by decide +kernel
theorem dX11_init_107 : decode cX11_init 107 = .ok (.dup, 1) := by decide +kernel
theorem dX11_init_108 : decode cX11_init 108 = .ok (.bipush 19, 2) := by decide +kernel
theorem dX11_init_110 : decode cX11_init 110 = .ok (.iconst 0, 1) := by decide +kernel
theorem dX11_init_111 : decode cX11_init 111 = .ok (.iastore, 1) := by decide +kernel
theorem dX11_init_112 : decode cX11_init 112 = .ok (.dup, 1) := by decide +kernel
theorem dX11_init_113 : decode cX11_init 113 = .ok (.bipush 20, 2) := by decide +kernel
theorem dX11_init_115 : decode cX11_init 115 = .ok (.iconst 0, 1) := by decide +kernel
theorem dX11_init_116 : decode cX11_init 116 = .ok (.iastore, 1) := by decide +kernel
theorem dX11_init_117 : decode cX11_init 117 = .ok (.dup, 1) := by decide +kernel
theorem dX11_init_118 : decode cX11_init 118 = .ok (.bipush 21, 2) := by decide +kernel
theorem dX11_init_120 : decode cX11_init 120 = .ok (.iconst 0, 1) := by decide +kernel
theorem dX11_init_121 : decode cX11_init 121 = .ok (.iastore, 1) := by decide +kernel
theorem dX11_init_122 : decode cX11_init 122 = .ok (.dup, 1) := by decide +kernel
theorem dX11_init_123 : decode cX11_init 123 = .ok (.bipush 22, 2) := by decide +kernel
theorem dX11_init_125 : decode cX11_init 125 = .ok (.iconst 0, 1) := by decide +kernel
theorem dX11_init_126 : decode cX11_init 126 = .ok (.iastore, 1) := by decide +kernel
theorem dX11_init_127 : decode cX11_init 127 = .ok (.dup, 1) := by decide +kernel
theorem dX11_init_128 : decode cX11_init 128 = .ok (.bipush 23, 2) := by decide +kernel
theorem dX11_init_130 : decode cX11_init 130 = .ok (.iconst 0, 1) := by decide +kernel
theorem dX11_init_131 : decode cX11_init 131 = .ok (.iastore, 1) := by decide +kernel
theorem dX11_init_132 : decode cX11_init 132 = .ok (.dup, 1) := by decide +kernel
theorem dX11_init_133 : decode cX11_init 133 = .ok (.bipush 24, 2) := by decide +kernel
theorem dX11_init_135 : decode cX11_init 135 = .ok (.iconst 0, 1) := by decide +kernel
theorem dX11_init_136 : decode cX11_init 136 = .ok (.iastore, 1) := by decide +kernel
theorem dX11_init_137 : decode cX11_init 137 = .ok (.dup, 1) := by decide +kernel
theorem dX11_init_138 : decode cX11_init 138 = .ok (.bipush 25, 2) := by decide +kernel
theorem dX11_init_140 : decode cX11_init 140 = .ok (.iconst 0, 1) := by decide +kernel
theorem dX11_init_141 : decode cX11_init 141 = .ok (.iastore, 1) := by decide +kernel
theorem dX11_init_142 : decode cX11_init 142 = .ok (.putfield 13, 3) := by decide +kernel
theorem dX11_init_145 : decode cX11_init 145 = .ok (.aload_n 0, 1) := by decide +kernel
theorem dX11_init_146 : decode cX11_init 146 = .ok (.bipush 16, 2) := by decide +kernel
theorem dX11_init_148 : decode cX11_init 148 = .ok (.newarray .int, 2) := by decide +kernel
theorem dX11_init_150 : decode cX11_init 150 = .ok (.putfield 16, 3) := by decide +kernel
theorem dX11_init_153 : decode cX11_init 153 = .ok (.aload_n 0, 1) := by decide +kernel
theorem dX11_init_154 : decode cX11_init 154 = .ok (.bipush 12, 2) := by decide +kernel
theorem dX11_init_156 : decode cX11_init 156 = .ok (.newarray .int, 2) := by decide +kernel
theorem dX11_init_158 : decode cX11_init 158 = .ok (.putfield 19, 3) := by decide +kernel
theorem dX11_init_161 : decode cX11_init 161 = .ok (.aload_n 0, 1) := by decide +kernel
theorem dX11_init_162 : decode cX11_init 162 = .ok (.bipush 12, 2) := by decide +kernel
theorem dX11_init_164 : decode cX11_init 164 = .ok (.newarray .int, 2) := by decide +kernel
theorem dX11_init_166 : decode cX11_init 166 = .ok (.putfield 22, 3) := by decide +kernel
theorem dX11_init_169 : decode cX11_init 169 = .ok (.aload_n 0, 1) := by decide +kernel
theorem dX11_init_170 : decode cX11_init 170 = .ok (.bipush 12, 2) := by decide +kernel
theorem dX11_init_172 : decode cX11_init 172 = .ok (.newarray .int, 2) := by decide +kernel
theorem dX11_init_174 : decode cX11_init 174 = .ok (.putfield 25, 3) := by decide +kernel
theorem dX11_init_177 : decode cX11_init 177 = .ok (.aload_n 0, 1) := by decide +kernel
theorem dX11_init_178 : decode cX11_init 178 = .ok (.bipush 8, 2) := by decide +kernel
theorem dX11_init_180 : decode cX11_init 180 = .ok (.newarray .int, 2) := by decide +kernel
theorem dX11_init_182 : decode cX11_init 182 = .ok (.putfield 28, 3) := by decide +kernel
theorem dX11_init_185 : decode cX11_init 185 = .ok (.aload_n 0, 1) := by decide +kernel
theorem dX11_init_186 : decode cX11_init 186 = .ok (.bipush 8, 2) := by decide +kernel
theorem dX11_init_188 : decode cX11_init 188 = .ok (.newarray .int, 2) := by decide +kernel
theorem dX11_init_190 : decode cX11_init 190 = .ok (.putfield 31, 3) := by decide +kernel
theorem dX11_init_193 : decode cX11_init 193 = .ok (.aload_n 0, 1) := by decide +kernel
theorem dX11_init_194 : decode cX11_init 194 = .ok (.bipush 8, 2) := by decide +kernel
theorem dX11_init_196 : decode cX11_init 196 = .ok (.newarray .int, 2) := by decide +kernel
theorem dX11_init_198 : decode cX11_init 198 = .ok (.putfield 34, 3) := by decide +kernel
theorem dX11_init_201 : decode cX11_init 201 = .ok (.aload_n 0, 1) := by decide +kernel
theorem dX11_init_202 : decode cX11_init 202 = .ok (.bipush 8, 2) := by decide +kernel
theorem dX11_init_204 : decode cX11_init 204 = .ok (.newarray .int, 2) := by decide +kernel
theorem dX11_init_206 : decode cX11_init 206 = .ok (.putfield 37, 3) := by decide +kernel
theorem dX11_init_209 : decode cX11_init 209 = .ok (.aload_n 0, 1) := by decide +kernel
theorem dX11_init_210 : decode cX11_init 210 = .ok (.bipush 24, 2) := by decide +kernel
theorem dX11_init_212 : decode cX11_init 212 = .ok (.newarray .int, 2) := by decide +kernel
theorem dX11_init_214 : decode cX11_init 214 = .ok (.putfield 40, 3) := by decide +kernel
theorem dX11_init_217 : decode cX11_init 217 = .ok (.aload_n 0, 1) := by decide +kernel
theorem dX11_init_218 : decode cX11_init 218 = .ok (.bipush 24, 2) := by decide +kernel
theorem dX11_init_220 : decode cX11_init 220 = .ok (.newarray .int, 2) := by decide +kernel
theorem dX11_init_222 : decode cX11_init 222 = .ok (.putfield 43, 3) := by decide +kernel
theorem dX11_init_225 : decode cX11_init 225 = .ok (.aload_n 0, 1) := by decide +kernel
theorem dX11_init_226 : decode cX11_init 226 = .ok (.bipush 16, 2) := by decide +kernel
theorem dX11_init_228 : decode cX11_init 228 = .ok (.newarray .int, 2) := by decide +kernel
theorem dX11_init_230 : decode cX11_init 230 = .ok (.putfield 46, 3) := by decide +kernel
theorem dX11_init_233 : decode cX11_init 233 = .ok (.aload_n 0, 1) := by decide +kernel
theorem dX11_init_234 : decode cX11_init 234 = .ok (.bipush 16, 2) := by decide +kernel
theorem dX11_init_236 : decode cX11_init 236 = .ok (.newarray .int, 2) := by decide +kernel
theorem dX11_init_238 : decode cX11_init 238 = .ok (.putfield 49, 3) := by decide +kernel
theorem dX11_init_241 : decode cX11_init 241 = .ok (.aload_n 0, 1) := by decide +kernel
theorem dX11_init_242 : decode cX11_init 242 = .ok (.bipush 16, 2) := by decide +kernel
theorem dX11_init_244 : decode cX11_init 244 = .ok (.newarray .int, 2) := by decide +kernel
theorem dX11_init_246 : decode cX11_init 246 = .ok (.putfield 52, 3) := by decide +kernel
theorem dX11_init_249 : decode cX11_init 249 = .ok (.aload_n 0, 1) := by decide +kernel
theorem dX11_init_250 : decode cX11_init 250 = .ok (.bipush 16, 2) := by decide +kernel
theorem dX11_init_252 : decode cX11_init 252 = .ok (.newarray .int, 2) := by decide +kernel
theorem dX11_init_254 : decode cX11_init 254 = .ok (.putfield 55, 3) := by decide +kernel
theorem dX11_init_257 : decode cX11_init 257 = .ok (.aload_n 0, 1) := by decide +kernel
theorem dX11_init_258 : decode cX11_init 258 = .ok (.bipush 16, 2) := by decide +kernel
theorem dX11_init_260 : decode cX11_init 260 = .ok (.newarray .int, 2) := by decide +kernel
theorem dX11_init_262 : decode cX11_init 262 = .ok (.putfield 58, 3) := by decide +kernel
theorem dX11_init_265 : decode cX11_init 265 = .ok (.aload_n 0, 1) := by decide +kernel
theorem dX11_init_266 : decode cX11_init 266 = .ok (.bipush 8, 2) := by decide +kernel
theorem dX11_init_268 : decode cX11_init 268 = .ok (.newarray .int, 2) := by decide +kernel
theorem dX11_init_270 : decode cX11_init 270 = .ok (.putfield 61, 3) := by decide +kernel
theorem dX11_init_273 : decode cX11_init 273 = .ok (.aload_n 0, 1) := by decide +kernel
theorem dX11_init_274 : decode cX11_init 274 = .ok (.bipush 8, 2) := by decide +kernel
theorem dX11_init_276 : decode cX11_init 276 = .ok (.newarray .int, 2) := by decide +kernel
theorem dX11_init_278 : decode cX11_init 278 = .ok (.putfield 64, 3) := by decide +kernel
theorem dX11_init_281 : decode cX11_init 281 = .ok (.aload_n 0, 1) := by decide +kernel
theorem dX11_init_282 : decode cX11_init 282 = .ok (.bipush 8, 2) := by decide +kernel
theorem dX11_init_284 : decode cX11_init 284 = .ok (.newarray .int, 2) := by decide +kernel
theorem dX11_init_286 : decode cX11_init 286 = .ok (.putfield 67, 3) := by decide +kernel
theorem dX11_init_289 : decode cX11_init 289 = .ok (.aload_n 0, 1) := by decide +kernel
theorem dX11_init_290 : decode cX11_init 290 = .ok (.bipush 6, 2) := by decide +kernel
theorem dX11_init_292 : decode cX11_init 292 = .ok (.newarray .int, 2) := by decide +kernel
theorem dX11_init_294 : decode cX11_init 294 = .ok (.putfield 70, 3) := by decide +kernel
theorem dX11_init_297 : decode cX11_init 297 = .ok (.aload_n 0, 1) := by decide +kernel
theorem dX11_init_298 : decode cX11_init 298 = .ok (.bipush 6, 2) := by decide +kernel
theorem dX11_init_300 : decode cX11_init 300 = .ok (.newarray .int, 2) := by decide +kernel
theorem dX11_init_302 : decode cX11_init 302 = .ok (.putfield 73, 3) := by decide +kernel
theorem dX11_init_305 : decode cX11_init 305 = .ok (.aload_n 0, 1) := by decide +kernel
theorem dX11_init_306 : decode cX11_init 306 = .ok (.sipush 128, 3) := by decide +kernel
theorem dX11_init_309 : decode cX11_init 309 = .ok (.newarray .int, 2) := by decide +kernel
theorem dX11_init_311 : decode cX11_init 311 = .ok (.putfield 76, 3) := by decide +kernel
theorem dX11_init_314 : decode cX11_init 314 = .ok (.aload_n 0, 1) := by decide +kernel
theorem dX11_init_315 : decode cX11_init 315 = .ok (.sipush 128, 3) := by decide +kernel
theorem dX11_init_318 : decode cX11_init 318 = .ok (.newarray .int, 2) := by decide +kernel
theorem dX11_init_320 : decode cX11_init 320 = .ok (.putfield 79, 3) := by decide +kernel
theorem dX11_init_323 : decode cX11_init 323 = .ok (.aload_n 0, 1) := by decide +kernel
theorem dX11_init_324 : decode cX11_init 324 = .ok (.iconst (-1), 1) := by decide +kernel
theorem dX11_init_325 : decode cX11_init 325 = .ok (.putfield 82, 3) := by decide +kernel
theorem dX11_init_328 : decode cX11_init 328 = .ok (.aload_n 0, 1) := by decide +kernel
theorem dX11_init_329 : decode cX11_init 329 = .ok (.bipush 7, 2) := by decide +kernel
theorem dX11_init_331 : decode cX11_init 331 = .ok (.newarray .long, 2) := by decide +kernel
theorem dX11_init_333 : decode cX11_init 333 = .ok (.putfield 86, 3) := by decide +kernel
theorem dX11_init_336 : decode cX11_init 336 = .ok (.aload_n 0, 1) := by decide +kernel
theorem dX11_init_337 : decode cX11_init 337 = .ok (.bipush 64, 2) := by decide +kernel
theorem dX11_init_339 : decode cX11_init 339 = .ok (.newarray .long, 2) := by decide +kernel
theorem dX11_init_341 : decode cX11_init 341 = .ok (.putfield 90, 3) := by decide +kernel
theorem dX11_init_344 : decode cX11_init 344 = .ok (.aload_n 0, 1) := by decide +kernel
theorem dX11_init_345 : decode cX11_init 345 = .ok (.bipush 23, 2) := by decide +kernel
theorem dX11_init_347 : decode cX11_init 347 = .ok (.newarray .int, 2) := by decide +kernel
theorem dX11_init_349 : decode cX11_init 349 = .ok (.putfield 93, 3) := by decide +kernel
theorem dX11_init_352 : decode cX11_init 352 = .ok (.aload_n 0, 1) := by decide +kernel
theorem dX11_init_353 : decode cX11_init 353 = .ok (.bipush 23, 2) := by decide +kernel
theorem dX11_init_355 : decode cX11_init 355 = .ok (.newarray .int, 2) := by decide +kernel
theorem dX11_init_357 : decode cX11_init 357 = .ok (.putfield 96, 3) := by decide +kernel
theorem dX11_init_360 : decode cX11_init 360 = .ok (.aload_n 0, 1) := by decide +kernel
theorem dX11_init_361 : decode cX11_init 361 = .ok (.bipush 23, 2) := by decide +kernel
theorem dX11_init_363 : decode cX11_init 363 = .ok (.newarray .int, 2) := by decide +kernel
theorem dX11_init_365 : decode cX11_init 365 = .ok (.putfield 99, 3) := by decide +kernel
theorem dX11_init_368 : decode cX11_init 368 = .ok (.aload_n 0, 1) := by decide +kernel
theorem dX11_init_369 : decode cX11_init 369 = .ok (.bipush 23, 2) := by decide +kernel
theorem dX11_init_371 : decode cX11_init 371 = .ok (.newarray .int, 2) := by decide +kernel
theorem dX11_init_373 : decode cX11_init 373 = .ok (.putfield 102, 3) := by decide +kernel
theorem dX11_init_376 : decode cX11_init 376 = .ok (.aload_n 0, 1) := by decide +kernel
theorem dX11_init_377 : decode cX11_init 377 = .ok (.bipush 23, 2) := by decide +kernel
theorem dX11_init_379 : decode cX11_init 379 = .ok (.newarray .int, 2) := by decide +kernel
theorem dX11_init_381 : decode cX11_init 381 = .ok (.putfield 105, 3) := by decide +kernel
theorem dX11_init_384 : decode cX11_init 384 = .ok (.aload_n 0, 1) := by decide +kernel
theorem dX11_init_385 : decode cX11_init 385 = .ok (.bipush 23, 2) := by decide +kernel
theorem dX11_init_387 : decode cX11_init 387 = .ok (.newarray .int, 2) := by decide +kernel
theorem dX11_init_389 : decode cX11_init 389 = .ok (.putfield 108, 3) := by decide +kernel
theorem dX11_init_392 : decode cX11_init 392 = .ok (.aload_n 0, 1) := by decide +kernel
theorem dX11_init_393 : decode cX11_init 393 = .ok (.bipush 23, 2) := by decide +kernel
theorem dX11_init_395 : decode cX11_init 395 = .ok (.newarray .int, 2) := by decide +kernel
theorem dX11_init_397 : decode cX11_init 397 = .ok (.putfield 111, 3) := by decide +kernel
theorem dX11_init_400 : decode cX11_init 400 = .ok (.aload_n 0, 1) := by decide +kernel
theorem dX11_init_401 : decode cX11_init 401 = .ok (.bipush 23, 2) := by decide +kernel
theorem dX11_init_403 : decode cX11_init 403 = .ok (.newarray .int, 2) := by decide +kernel
theorem dX11_init_405 : decode cX11_init 405 = .ok (.putfield 114, 3) := by decide +kernel
theorem dX11_init_408 : decode cX11_init 408 = .ok (.aload_n 0, 1) := by decide +kernel
theorem dX11_init_409 : decode cX11_init 409 = .ok (.bipush 23, 2) := by decide +kernel
theorem dX11_init_411 : decode cX11_init 411 = .ok (.newarray .int, 2) := by decide +kernel
theorem dX11_init_413 : decode cX11_init 413 = .ok (.putfield 117, 3) := by decide +kernel
theorem dX11_init_416 : decode cX11_init 416 = .ok (.aload_n 0, 1) := by decide +kernel
theorem dX11_init_417 : decode cX11_init 417 = .ok (.bipush 92, 2) := by decide +kernel
theorem dX11_init_419 : decode cX11_init 419 = .ok (.newarray .int, 2) := by decide +kernel
theorem dX11_init_421 : decode cX11_init 421 = .ok (.putfield 120, 3) := by decide +kernel
theorem dX11_init_424 : decode cX11_init 424 = .ok (.aload_n 0, 1) := by decide +kernel
theorem dX11_init_425 : decode cX11_init 425 = .ok (.bipush 92, 2) := by decide +kernel
theorem dX11_init_427 : decode cX11_init 427 = .ok (.newarray .int, 2) := by decide +kernel
theorem dX11_init_429 : decode cX11_init 429 = .ok (.putfield 123, 3) := by decide +kernel
theorem dX11_init_432 : decode cX11_init 432 = .ok (.aload_n 0, 1) := by decide +kernel
theorem dX11_init_433 : decode cX11_init 433 = .ok (.bipush 92, 2) := by decide +kernel
theorem dX11_init_435 : decode cX11_init 435 = .ok (.newarray .int, 2) := by decide +kernel
theorem dX11_init_437 : decode cX11_init 437 = .ok (.putfield 126, 3) := by decide +kernel
theorem dX11_init_440 : decode cX11_init 440 = .ok (.aload_n 0, 1) := by decide +kernel
theorem dX11_init_441 : decode cX11_init 441 = .ok (.bipush 64, 2) := by decide +kernel
theorem dX11_init_443 : decode cX11_init 443 = .ok (.newarray .int, 2) := by decide +kernel
theorem dX11_init_445 : decode cX11_init 445 = .ok (.putfield 129, 3) := by decide +kernel
theorem dX11_init_448 : decode cX11_init 448 = .ok (.aload_n 0, 1) := by decide +kernel
theorem dX11_init_449 : decode cX11_init 449 = .ok (.iconst 4, 1) := by decide +kernel
theorem dX11_init_450 : decode cX11_init 450 = .ok (.newarray .int, 2) := by decide +kernel
theorem dX11_init_452 : decode cX11_init 452 = .ok (.putfield 132, 3) := by decide +kernel
theorem dX11_init_455 : decode cX11_init 455 = .ok (.aload_n 0, 1) := by decide +kernel
theorem dX11_init_456 : decode cX11_init 456 = .ok (.iconst 4, 1) := by decide +kernel
theorem dX11_init_457 : decode cX11_init 457 = .ok (.newarray .int, 2) := by decide +kernel
theorem dX11_init_459 : decode cX11_init 459 = .ok (.putfield 135, 3) := by decide +kernel
theorem dX11_init_462 : decode cX11_init 462 = .ok (.aload_n 0, 1) := by decide +kernel
theorem dX11_init_463 : decode cX11_init 463 = .ok (.iconst (-1), 1) := by decide +kernel
theorem dX11_init_464 : decode cX11_init 464 = .ok (.putfield 138, 3) := by decide +kernel
theorem dX11_init_467 : decode cX11_init 467 = .ok (.aload_n 0, 1) := by decide +kernel
theorem dX11_init_468 : decode cX11_init 468 = .ok (.bipush 24, 2) := by decide +kernel
theorem dX11_init_470 : decode cX11_init 470 = .ok (.newarray .int, 2) := by decide +kernel
theorem dX11_init_472 : decode cX11_init 472 = .ok (.putfield 141, 3) := by decide +kernel
theorem dX11_init_475 : decode cX11_init 475 = .ok (.aload_n 0, 1) := by decide +kernel
theorem dX11_init_476 : decode cX11_init 476 = .ok (.bipush 24, 2) := by decide +kernel
theorem dX11_init_478 : decode cX11_init 478 = .ok (.newarray .int, 2) := by decide +kernel
theorem dX11_init_480 : decode cX11_init 480 = .ok (.putfield 144, 3) := by decide +kernel
theorem dX11_init_483 : decode cX11_init 483 = .ok (.aload_n 0, 1) := by decide +kernel
theorem dX11_init_484 : decode cX11_init 484 = .ok (.bipush 24, 2) := by decide +kernel
theorem dX11_init_486 : decode cX11_init 486 = .ok (.newarray .int, 2) := by decide +kernel
theorem dX11_init_488 : decode cX11_init 488 = .ok (.putfield 147, 3) := by decide +kernel
theorem dX11_init_491 : decode cX11_init 491 = .ok (.aload_n 0, 1) := by decide +kernel
theorem dX11_init_492 : decode cX11_init 492 = .ok (.bipush 24, 2) := by decide +kernel
theorem dX11_init_494 : decode cX11_init 494 = .ok (.newarray .boolean, 2) := by decide +kernel
theorem dX11_init_496 : decode cX11_init 496 = .ok (.putfield 150, 3) := by decide +kernel
theorem dX11_init_499 : decode cX11_init 499 = .ok (.aload_n 0, 1) := by decide +kernel
theorem dX11_init_500 : decode cX11_init 500 = .ok (.bipush 24, 2) := by decide +kernel
theorem dX11_init_502 : decode cX11_init 502 = .ok (.newarray .int, 2) := by decide +kernel
theorem dX11_init_504 : decode cX11_init 504 = .ok (.putfield 154, 3) := by decide +kernel
theorem dX11_init_507 : decode cX11_init 507 = .ok (.aload_n 0, 1) := by decide +kernel
theorem dX11_init_508 : decode cX11_init 508 = .ok (.bipush 24, 2) := by decide +kernel
theorem dX11_init_510 : decode cX11_init 510 = .ok (.newarray .boolean, 2) := by decide +kernel
theorem dX11_init_512 : decode cX11_init 512 = .ok (.putfield 157, 3) := by decide +kernel
theorem dX11_init_515 : decode cX11_init 515 = .ok (.aload_n 0, 1) := by decide +kernel
theorem dX11_init_516 : decode cX11_init 516 = .ok (.invokevirtual 160, 3) := by decide +kernel
theorem dX11_init_519 : decode cX11_init 519 = .ok (.return_, 1) := by decide +kernel
theorem dX11_thrown_0 : decode cX11_thrown 0 = .ok (.aload_n 0, 1) := by decide +kernel
theorem dX11_thrown_1 : decode cX11_thrown 1 = .ok (.getfield 163, 3) := by decide +kernel
theorem dX11_thrown_4 : decode cX11_thrown 4 = .ok (.ireturn, 1) := by decide +kernel
theorem dX11_feed_0 : decode cX11_feed 0 = .ok (.aload_n 0, 1) := by decide +kernel
theorem dX11_feed_1 : decode cX11_feed 1 = .ok (.iconst 0, 1) := by decide +kernel
theorem dX11_feed_2 : decode cX11_feed 2 = .ok (.putfield 163, 3) := by decide +kernel
theorem dX11_feed_5 : decode cX11_feed 5 = .ok (.aload_n 0, 1) := by decide +kernel
theorem dX11_feed_6 : decode cX11_feed 6 = .ok (.getfield 166, 3) := by decide +kernel
theorem dX11_feed_9 : decode cX11_feed 9 = .ok (.sipush 680, 3) := by decide +kernel
theorem dX11_feed_12 : decode cX11_feed 12 = .ok (.if_icmp .le 5, 3) := by decide +kernel
theorem dX11_feed_15 : decode cX11_feed 15 = .ok (.iconst (-1), 1) := by decide +kernel
theorem dX11_feed_16 : decode cX11_feed 16 = .ok (.ireturn, 1) := by decide +kernel
theorem dX11_feed_17 : decode cX11_feed 17 = .ok (.iconst 0, 1) := by decide +kernel
theorem dX11_feed_18 : decode cX11_feed 18 = .ok (.istore 6, 2) := by decide +kernel
theorem dX11_feed_20 : decode cX11_feed 20 = .ok (.iload 6, 2) := by decide +kernel
theorem dX11_feed_22 : decode cX11_feed 22 = .ok (.bipush 20, 2) := by decide +kernel
theorem dX11_feed_24 : decode cX11_feed 24 = .ok (.if_icmp .ge 86, 3) := by decide +kernel
theorem dX11_feed_27 : decode cX11_feed 27 = .ok (.iload 6, 2) := by decide +kernel
theorem dX11_feed_29 : decode cX11_feed 29 = .ok (.iconst 4, 1) := by decide +kernel
theorem dX11_feed_30 : decode cX11_feed 30 = .ok (.if_icmp .ge 7, 3) := by decide +kernel
theorem dX11_feed_33 : decode cX11_feed 33 = .ok (.iload_n 1, 1) := by decide +kernel
theorem dX11_feed_34 : decode cX11_feed 34 = .ok (.goto 39, 3) := by decide +kernel
theorem dX11_feed_37 : decode cX11_feed 37 = .ok (.iload 6, 2) := by decide +kernel
theorem dX11_feed_39 : decode cX11_feed 39 = .ok (.bipush 8, 2) := by decide +kernel
theorem dX11_feed_41 : decode cX11_feed 41 = .ok (.if_icmp .ge 7, 3) := by decide +kernel
theorem dX11_feed_44 : decode cX11_feed 44 = .ok (.iload_n 2, 1) := by decide +kernel
theorem dX11_feed_45 : decode cX11_feed 45 = .ok (.goto 28, 3) := by decide +kernel
theorem dX11_feed_48 : decode cX11_feed 48 = .ok (.iload 6, 2) := by decide +kernel
theorem dX11_feed_50 : decode cX11_feed 50 = .ok (.bipush 12, 2) := by decide +kernel
theorem dX11_feed_52 : decode cX11_feed 52 = .ok (.if_icmp .ge 7, 3) := by decide +kernel
theorem dX11_feed_55 : decode cX11_feed 55 = .ok (.iload_n 3, 1) := by decide +kernel
theorem dX11_feed_56 : decode cX11_feed 56 = .ok (.goto 17, 3) := by decide +kernel
theorem dX11_feed_59 : decode cX11_feed 59 = .ok (.iload 6, 2) := by decide +kernel
theorem dX11_feed_61 : decode cX11_feed 61 = .ok (.bipush 16, 2) := by decide +kernel
theorem dX11_feed_63 : decode cX11_feed 63 = .ok (.if_icmp .ge 8, 3) := by decide +kernel
theorem dX11_feed_66 : decode cX11_feed 66 = .ok (.iload 4, 2) := by decide +kernel
theorem dX11_feed_68 : decode cX11_feed 68 = .ok (.goto 5, 3) := by decide +kernel
theorem dX11_feed_71 : decode cX11_feed 71 = .ok (.iload 5, 2) := by decide +kernel
theorem dX11_feed_73 : decode cX11_feed 73 = .ok (.istore 7, 2) := by decide +kernel
theorem dX11_feed_75 : decode cX11_feed 75 = .ok (.aload_n 0, 1) := by decide +kernel
theorem dX11_feed_76 : decode cX11_feed 76 = .ok (.getfield 7, 3) := by decide +kernel
theorem dX11_feed_79 : decode cX11_feed 79 = .ok (.aload_n 0, 1) := by decide +kernel
theorem dX11_feed_80 : decode cX11_feed 80 = .ok (.getfield 166, 3) := by decide +kernel
theorem dX11_feed_83 : decode cX11_feed 83 = .ok (.iload 6, 2) := by decide +kernel
theorem dX11_feed_85 : decode cX11_feed 85 = .ok (.iadd, 1) := by decide +kernel
theorem dX11_feed_86 : decode cX11_feed 86 = .ok (.iload 7, 2) := by decide +kernel
theorem dX11_feed_88 : decode cX11_feed 88 = .ok (.bipush 24, 2) := by decide +kernel
theorem dX11_feed_90 : decode cX11_feed 90 = .ok (.bipush 8, 2) := by decide +kernel
theorem dX11_feed_92 : decode cX11_feed 92 = .ok (.iload 6, 2) := by decide +kernel
theorem dX11_feed_94 : decode cX11_feed 94 = .ok (.iconst 4, 1) := by decide +kernel
theorem dX11_feed_95 : decode cX11_feed 95 = .ok (.irem, 1) := by decide +kernel
theorem dX11_feed_96 : decode cX11_feed 96 = .ok (.imul, 1) := by decide +kernel
theorem dX11_feed_97 : decode cX11_feed 97 = .ok (.isub, 1) := by decide +kernel
theorem dX11_feed_98 : decode cX11_feed 98 = .ok (.ishr, 1) := by decide +kernel
theorem dX11_feed_99 : decode cX11_feed 99 = .ok (.sipush 255, 3) := by decide +kernel
theorem dX11_feed_102 : decode cX11_feed 102 = .ok (.iand, 1) := by decide +kernel
theorem dX11_feed_103 : decode cX11_feed 103 = .ok (.iastore, 1) := by decide +kernel
theorem dX11_feed_104 : decode cX11_feed 104 = .ok (.iinc 6 1, 3) := by decide +kernel
theorem dX11_feed_107 : decode cX11_feed 107 = .ok (.goto (-87), 3) := by decide +kernel
theorem dX11_feed_110 : decode cX11_feed 110 = .ok (.aload_n 0, 1) := by decide +kernel
theorem dX11_feed_111 : decode cX11_feed 111 = .ok (.dup, 1) := by decide +kernel
theorem dX11_feed_112 : decode cX11_feed 112 = .ok (.getfield 166, 3) := by decide +kernel
theorem dX11_feed_115 : decode cX11_feed 115 = .ok (.bipush 20, 2) := by decide +kernel
theorem dX11_feed_117 : decode cX11_feed 117 = .ok (.iadd, 1) := by decide +kernel
theorem dX11_feed_118 : decode cX11_feed 118 = .ok (.putfield 166, 3) := by decide +kernel
theorem dX11_feed_121 : decode cX11_feed 121 = .ok (.aload_n 0, 1) := by decide +kernel
theorem dX11_feed_122 : decode cX11_feed 122 = .ok (.getfield 166, 3) := by decide +kernel
theorem dX11_feed_125 : decode cX11_feed 125 = .ok (.ireturn, 1) := by decide +kernel
theorem dX11_here_0 : decode cX11_here 0 = .ok (.aload_n 0, 1) := by decide +kernel
theorem dX11_here_1 : decode cX11_here 1 = .ok (.getfield 169, 3) := by decide +kernel
theorem dX11_here_4 : decode cX11_here 4 = .ok (.aload_n 0, 1) := by decide +kernel
theorem dX11_here_5 : decode cX11_here 5 = .ok (.getfield 172, 3) := by decide +kernel
theorem dX11_here_8 : decode cX11_here 8 = .ok (.if_icmp .ge 15, 3) := by decide +kernel
theorem dX11_here_11 : decode cX11_here 11 = .ok (.aload_n 0, 1) := by decide +kernel
theorem dX11_here_12 : decode cX11_here 12 = .ok (.getfield 7, 3) := by decide +kernel
theorem dX11_here_15 : decode cX11_here 15 = .ok (.aload_n 0, 1) := by decide +kernel
theorem dX11_here_16 : decode cX11_here 16 = .ok (.getfield 169, 3) := by decide +kernel
theorem dX11_here_19 : decode cX11_here 19 = .ok (.iaload, 1) := by decide +kernel
theorem dX11_here_20 : decode cX11_here 20 = .ok (.goto 4, 3) := by decide +kernel
theorem dX11_here_23 : decode cX11_here 23 = .ok (.iconst (-1), 1) := by decide +kernel
theorem dX11_here_24 : decode cX11_here 24 = .ok (.ireturn, 1) := by decide +kernel
theorem dX11_isSmall_0 : decode cX11_isSmall 0 = .ok (.iload_n 0, 1) := by decide +kernel
theorem dX11_isSmall_1 : decode cX11_isSmall 1 = .ok (.bipush 97, 2) := by decide +kernel
theorem dX11_isSmall_3 : decode cX11_isSmall 3 = .ok (.if_icmp .lt 13, 3) := by decide +kernel
theorem dX11_isSmall_6 : decode cX11_isSmall 6 = .ok (.iload_n 0, 1) := by decide +kernel
theorem dX11_isSmall_7 : decode cX11_isSmall 7 = .ok (.bipush 122, 2) := by decide +kernel
theorem dX11_isSmall_9 : decode cX11_isSmall 9 = .ok (.if_icmp .gt 7, 3) := by decide +kernel
theorem dX11_isSmall_12 : decode cX11_isSmall 12 = .ok (.iconst 1, 1) := by decide +kernel
theorem dX11_isSmall_13 : decode cX11_isSmall 13 = .ok (.goto 4, 3) := by decide +kernel
theorem dX11_isSmall_16 : decode cX11_isSmall 16 = .ok (.iconst 0, 1) := by decide +kernel
theorem dX11_isSmall_17 : decode cX11_isSmall 17 = .ok (.ireturn, 1) := by decide +kernel
theorem dX11_isDigit_0 : decode cX11_isDigit 0 = .ok (.iload_n 0, 1) := by decide +kernel
theorem dX11_isDigit_1 : decode cX11_isDigit 1 = .ok (.bipush 48, 2) := by decide +kernel
theorem dX11_isDigit_3 : decode cX11_isDigit 3 = .ok (.if_icmp .lt 13, 3) := by decide +kernel
theorem dX11_isDigit_6 : decode cX11_isDigit 6 = .ok (.iload_n 0, 1) := by decide +kernel
theorem dX11_isDigit_7 : decode cX11_isDigit 7 = .ok (.bipush 57, 2) := by decide +kernel
theorem dX11_isDigit_9 : decode cX11_isDigit 9 = .ok (.if_icmp .gt 7, 3) := by decide +kernel
theorem dX11_isDigit_12 : decode cX11_isDigit 12 = .ok (.iconst 1, 1) := by decide +kernel
theorem dX11_isDigit_13 : decode cX11_isDigit 13 = .ok (.goto 4, 3) := by decide +kernel
theorem dX11_isDigit_16 : decode cX11_isDigit 16 = .ok (.iconst 0, 1) := by decide +kernel
theorem dX11_isDigit_17 : decode cX11_isDigit 17 = .ok (.ireturn, 1) := by decide +kernel
theorem dX11_token_0 : decode cX11_token 0 = .ok (.aload_n 0, 1) := by decide +kernel
theorem dX11_token_1 : decode cX11_token 1 = .ok (.invokevirtual 175, 3) := by decide +kernel
theorem dX11_token_4 : decode cX11_token 4 = .ok (.bipush 10, 2) := by decide +kernel
theorem dX11_token_6 : decode cX11_token 6 = .ok (.if_icmp .eq 12, 3) := by decide +kernel
theorem dX11_token_9 : decode cX11_token 9 = .ok (.aload_n 0, 1) := by decide +kernel
theorem dX11_token_10 : decode cX11_token 10 = .ok (.invokevirtual 175, 3) := by decide +kernel
theorem dX11_token_13 : decode cX11_token 13 = .ok (.bipush 32, 2) := by decide +kernel
theorem dX11_token_15 : decode cX11_token 15 = .ok (.if_icmp .ne 16, 3) := by decide +kernel
theorem dX11_token_18 : decode cX11_token 18 = .ok (.aload_n 0, 1) := by decide +kernel
theorem dX11_token_19 : decode cX11_token 19 = .ok (.dup, 1) := by decide +kernel
theorem dX11_token_20 : decode cX11_token 20 = .ok (.getfield 169, 3) := by decide +kernel
theorem dX11_token_23 : decode cX11_token 23 = .ok (.iconst 1, 1) := by decide +kernel
theorem dX11_token_24 : decode cX11_token 24 = .ok (.iadd, 1) := by decide +kernel
theorem dX11_token_25 : decode cX11_token 25 = .ok (.putfield 169, 3) := by decide +kernel
theorem dX11_token_28 : decode cX11_token 28 = .ok (.goto (-28), 3) := by decide +kernel
theorem dX11_token_31 : decode cX11_token 31 = .ok (.aload_n 0, 1) := by decide +kernel
theorem dX11_token_32 : decode cX11_token 32 = .ok (.aload_n 0, 1) := by decide +kernel
theorem dX11_token_33 : decode cX11_token 33 = .ok (.getfield 169, 3) := by decide +kernel
theorem dX11_token_36 : decode cX11_token 36 = .ok (.putfield 179, 3) := by decide +kernel
theorem dX11_token_39 : decode cX11_token 39 = .ok (.aload_n 0, 1) := by decide +kernel
theorem dX11_token_40 : decode cX11_token 40 = .ok (.invokevirtual 175, 3) := by decide +kernel
theorem dX11_token_43 : decode cX11_token 43 = .ok (.istore_n 1, 1) := by decide +kernel
theorem dX11_token_44 : decode cX11_token 44 = .ok (.iload_n 1, 1) := by decide +kernel
theorem dX11_token_45 : decode cX11_token 45 = .ok (.iconst (-1), 1) := by decide +kernel
theorem dX11_token_46 : decode cX11_token 46 = .ok (.if_icmp .ne 11, 3) := by decide +kernel
theorem dX11_token_49 : decode cX11_token 49 = .ok (.aload_n 0, 1) := by decide +kernel
theorem dX11_token_50 : decode cX11_token 50 = .ok (.iconst 4, 1) := by decide +kernel
theorem dX11_token_51 : decode cX11_token 51 = .ok (.putfield 182, 3) := by decide +kernel
theorem dX11_token_54 : decode cX11_token 54 = .ok (.goto 171, 3) := by decide +kernel
theorem dX11_token_57 : decode cX11_token 57 = .ok (.iload_n 1, 1) := by decide +kernel
theorem dX11_token_58 : decode cX11_token 58 = .ok (.invokestatic 185, 3) := by decide +kernel
theorem dX11_token_61 : decode cX11_token 61 = .ok (.ifCond .eq 84, 3) := by decide +kernel
theorem dX11_token_64 : decode cX11_token 64 = .ok (.aload_n 0, 1) := by decide +kernel
theorem dX11_token_65 : decode cX11_token 65 = .ok (.invokevirtual 175, 3) := by decide +kernel
theorem dX11_token_68 : decode cX11_token 68 = .ok (.invokestatic 185, 3) := by decide +kernel
theorem dX11_token_71 : decode cX11_token 71 = .ok (.ifCond .eq 16, 3) := by decide +kernel
theorem dX11_token_74 : decode cX11_token 74 = .ok (.aload_n 0, 1) := by decide +kernel
theorem dX11_token_75 : decode cX11_token 75 = .ok (.dup, 1) := by decide +kernel
theorem dX11_token_76 : decode cX11_token 76 = .ok (.getfield 169, 3) := by decide +kernel
theorem dX11_token_79 : decode cX11_token 79 = .ok (.iconst 1, 1) := by decide +kernel
theorem dX11_token_80 : decode cX11_token 80 = .ok (.iadd, 1) := by decide +kernel
theorem dX11_token_81 : decode cX11_token 81 = .ok (.putfield 169, 3) := by decide +kernel
theorem dX11_token_84 : decode cX11_token 84 = .ok (.goto (-20), 3) := by decide +kernel
theorem dX11_token_87 : decode cX11_token 87 = .ok (.aload_n 0, 1) := by decide +kernel
theorem dX11_token_88 : decode cX11_token 88 = .ok (.aload_n 0, 1) := by decide +kernel
theorem dX11_token_89 : decode cX11_token 89 = .ok (.invokevirtual 189, 3) := by decide +kernel
theorem dX11_token_92 : decode cX11_token 92 = .ok (.putfield 192, 3) := by decide +kernel
theorem dX11_token_95 : decode cX11_token 95 = .ok (.aload_n 0, 1) := by decide +kernel
theorem dX11_token_96 : decode cX11_token 96 = .ok (.aload_n 0, 1) := by decide +kernel
theorem dX11_token_97 : decode cX11_token 97 = .ok (.getfield 192, 3) := by decide +kernel
theorem dX11_token_100 : decode cX11_token 100 = .ok (.iconst (-1), 1) := by decide +kernel
theorem dX11_token_101 : decode cX11_token 101 = .ok (.if_icmp .eq 7, 3) := by decide +kernel
theorem dX11_token_104 : decode cX11_token 104 = .ok (.iconst 0, 1) := by decide +kernel
theorem dX11_token_105 : decode cX11_token 105 = .ok (.goto 22, 3) := by decide +kernel
theorem dX11_token_108 : decode cX11_token 108 = .ok (.aload_n 0, 1) := by decide +kernel
theorem dX11_token_109 : decode cX11_token 109 = .ok (.getfield 169, 3) := by decide +kernel
theorem dX11_token_112 : decode cX11_token 112 = .ok (.aload_n 0, 1) := by decide +kernel
theorem dX11_token_113 : decode cX11_token 113 = .ok (.getfield 179, 3) := by decide +kernel
theorem dX11_token_116 : decode cX11_token 116 = .ok (.isub, 1) := by decide +kernel
theorem dX11_token_117 : decode cX11_token 117 = .ok (.bipush 6, 2) := by decide +kernel
theorem dX11_token_119 : decode cX11_token 119 = .ok (.if_icmp .le 7, 3) := by decide +kernel
theorem dX11_token_122 : decode cX11_token 122 = .ok (.iconst 5, 1) := by decide +kernel
theorem dX11_token_123 : decode cX11_token 123 = .ok (.goto 4, 3) := by decide +kernel
theorem dX11_token_126 : decode cX11_token 126 = .ok (.iconst 1, 1) := by decide +kernel
theorem dX11_token_127 : decode cX11_token 127 = .ok (.putfield 182, 3) := by decide +kernel
theorem dX11_token_130 : decode cX11_token 130 = .ok (.aload_n 0, 1) := by decide +kernel
theorem dX11_token_131 : decode cX11_token 131 = .ok (.getfield 182, 3) := by decide +kernel
theorem dX11_token_134 : decode cX11_token 134 = .ok (.iconst 1, 1) := by decide +kernel
theorem dX11_token_135 : decode cX11_token 135 = .ok (.if_icmp .ne 90, 3) := by decide +kernel
theorem dX11_token_138 : decode cX11_token 138 = .ok (.aload_n 0, 1) := by decide +kernel
theorem dX11_token_139 : decode cX11_token 139 = .ok (.invokevirtual 195, 3) := by decide +kernel
theorem dX11_token_142 : decode cX11_token 142 = .ok (.goto 83, 3) := by decide +kernel
theorem dX11_token_145 : decode cX11_token 145 = .ok (.iload_n 1, 1) := by decide +kernel
theorem dX11_token_146 : decode cX11_token 146 = .ok (.invokestatic 198, 3) := by decide +kernel
theorem dX11_token_149 : decode cX11_token 149 = .ok (.ifCond .eq 71, 3) := by decide +kernel
theorem dX11_token_152 : decode cX11_token 152 = .ok (.aload_n 0, 1) := by decide +kernel
theorem dX11_token_153 : decode cX11_token 153 = .ok (.iconst 2, 1) := by decide +kernel
theorem dX11_token_154 : decode cX11_token 154 = .ok (.putfield 182, 3) := by decide +kernel
theorem dX11_token_157 : decode cX11_token 157 = .ok (.aload_n 0, 1) := by decide +kernel
theorem dX11_token_158 : decode cX11_token 158 = .ok (.iconst 0, 1) := by decide +kernel
theorem dX11_token_159 : decode cX11_token 159 = .ok (.putfield 192, 3) := by decide +kernel
theorem dX11_token_162 : decode cX11_token 162 = .ok (.aload_n 0, 1) := by decide +kernel
theorem dX11_token_163 : decode cX11_token 163 = .ok (.invokevirtual 175, 3) := by decide +kernel
theorem dX11_token_166 : decode cX11_token 166 = .ok (.invokestatic 198, 3) := by decide +kernel
theorem dX11_token_169 : decode cX11_token 169 = .ok (.ifCond .eq 56, 3) := by decide +kernel
theorem dX11_token_172 : decode cX11_token 172 = .ok (.aload_n 0, 1) := by decide +kernel
theorem dX11_token_173 : decode cX11_token 173 = .ok (.aload_n 0, 1) := by decide +kernel
theorem dX11_token_174 : decode cX11_token 174 = .ok (.getfield 192, 3) := by decide +kernel
theorem dX11_token_177 : decode cX11_token 177 = .ok (.ldc 201, 2) := by decide +kernel
theorem dX11_token_179 : decode cX11_token 179 = .ok (.if_icmp .le 10, 3) := by decide +kernel
theorem dX11_token_182 : decode cX11_token 182 = .ok (.aload_n 0, 1) := by decide +kernel
theorem dX11_token_183 : decode cX11_token 183 = .ok (.getfield 192, 3) := by decide +kernel
theorem dX11_token_186 : decode cX11_token 186 = .ok (.goto 18, 3) := by decide +kernel
theorem dX11_token_189 : decode cX11_token 189 = .ok (.bipush 10, 2) := by decide +kernel
theorem dX11_token_191 : decode cX11_token 191 = .ok (.aload_n 0, 1) := by decide +kernel
theorem dX11_token_192 : decode cX11_token 192 = .ok (.getfield 192, 3) := by decide +kernel
theorem dX11_token_195 : decode cX11_token 195 = .ok (.imul, 1) := by decide +kernel
theorem dX11_token_196 : decode cX11_token 196 = .ok (.aload_n 0, 1) := by decide +kernel
theorem dX11_token_197 : decode cX11_token 197 = .ok (.invokevirtual 175, 3) := by decide +kernel
theorem dX11_token_200 : decode cX11_token 200 = .ok (.iadd, 1) := by decide +kernel
theorem dX11_token_201 : decode cX11_token 201 = .ok (.bipush 48, 2) := by decide +kernel
theorem dX11_token_203 : decode cX11_token 203 = .ok (.isub, 1) := by decide +kernel
theorem dX11_token_204 : decode cX11_token 204 = .ok (.putfield 192, 3) := by decide +kernel
theorem dX11_token_207 : decode cX11_token 207 = .ok (.aload_n 0, 1) := by decide +kernel
theorem dX11_token_208 : decode cX11_token 208 = .ok (.dup, 1) := by decide +kernel
theorem dX11_token_209 : decode cX11_token 209 = .ok (.getfield 169, 3) := by decide +kernel
theorem dX11_token_212 : decode cX11_token 212 = .ok (.iconst 1, 1) := by decide +kernel
theorem dX11_token_213 : decode cX11_token 213 = .ok (.iadd, 1) := by decide +kernel
theorem dX11_token_214 : decode cX11_token 214 = .ok (.putfield 169, 3) := by decide +kernel
theorem dX11_token_217 : decode cX11_token 217 = .ok (.goto (-55), 3) := by decide +kernel
theorem dX11_token_220 : decode cX11_token 220 = .ok (.aload_n 0, 1) := by decide +kernel
theorem dX11_token_221 : decode cX11_token 221 = .ok (.iload_n 1, 1) := by decide +kernel
theorem dX11_token_222 : decode cX11_token 222 = .ok (.invokevirtual 202, 3) := by decide +kernel
theorem dX11_token_225 : decode cX11_token 225 = .ok (.return_, 1) := by decide +kernel
theorem dX11_sign_0 : decode cX11_sign 0 = .ok (.aload_n 0, 1) := by decide +kernel
theorem dX11_sign_1 : decode cX11_sign 1 = .ok (.dup, 1) := by decide +kernel
theorem dX11_sign_2 : decode cX11_sign 2 = .ok (.getfield 169, 3) := by decide +kernel
theorem dX11_sign_5 : decode cX11_sign 5 = .ok (.iconst 1, 1) := by decide +kernel
theorem dX11_sign_6 : decode cX11_sign 6 = .ok (.iadd, 1) := by decide +kernel
theorem dX11_sign_7 : decode cX11_sign 7 = .ok (.putfield 169, 3) := by decide +kernel
theorem dX11_sign_10 : decode cX11_sign 10 = .ok (.aload_n 0, 1) := by decide +kernel
theorem dX11_sign_11 : decode cX11_sign 11 = .ok (.iload_n 1, 1) := by decide +kernel
theorem dX11_sign_12 : decode cX11_sign 12 = .ok (.bipush 59, 2) := by decide +kernel
theorem dX11_sign_14 : decode cX11_sign 14 = .ok (.if_icmp .eq 57, 3) := by decide +kernel
theorem dX11_sign_17 : decode cX11_sign 17 = .ok (.iload_n 1, 1) := by decide +kernel
theorem dX11_sign_18 : decode cX11_sign 18 = .ok (.bipush 40, 2) := by decide +kernel
theorem dX11_sign_20 : decode cX11_sign 20 = .ok (.if_icmp .eq 51, 3) := by decide +kernel
theorem dX11_sign_23 : decode cX11_sign 23 = .ok (.iload_n 1, 1) := by decide +kernel
theorem dX11_sign_24 : decode cX11_sign 24 = .ok (.bipush 41, 2) := by decide +kernel
theorem dX11_sign_26 : decode cX11_sign 26 = .ok (.if_icmp .eq 45, 3) := by decide +kernel
theorem dX11_sign_29 : decode cX11_sign 29 = .ok (.iload_n 1, 1) := by decide +kernel
theorem dX11_sign_30 : decode cX11_sign 30 = .ok (.bipush 43, 2) := by decide +kernel
theorem dX11_sign_32 : decode cX11_sign 32 = .ok (.if_icmp .eq 39, 3) := by decide +kernel
theorem dX11_sign_35 : decode cX11_sign 35 = .ok (.iload_n 1, 1) := by decide +kernel
theorem dX11_sign_36 : decode cX11_sign 36 = .ok (.bipush 45, 2) := by decide +kernel
theorem dX11_sign_38 : decode cX11_sign 38 = .ok (.if_icmp .eq 33, 3) := by decide +kernel
theorem dX11_sign_41 : decode cX11_sign 41 = .ok (.iload_n 1, 1) := by decide +kernel
theorem dX11_sign_42 : decode cX11_sign 42 = .ok (.bipush 42, 2) := by decide +kernel
theorem dX11_sign_44 : decode cX11_sign 44 = .ok (.if_icmp .eq 27, 3) := by decide +kernel
theorem dX11_sign_47 : decode cX11_sign 47 = .ok (.iload_n 1, 1) := by decide +kernel
theorem dX11_sign_48 : decode cX11_sign 48 = .ok (.bipush 47, 2) := by decide +kernel
theorem dX11_sign_50 : decode cX11_sign 50 = .ok (.if_icmp .eq 21, 3) := by decide +kernel
theorem dX11_sign_53 : decode cX11_sign 53 = .ok (.iload_n 1, 1) := by decide +kernel
theorem dX11_sign_54 : decode cX11_sign 54 = .ok (.bipush 60, 2) := by decide +kernel
theorem dX11_sign_56 : decode cX11_sign 56 = .ok (.if_icmp .eq 15, 3) := by decide +kernel
theorem dX11_sign_59 : decode cX11_sign 59 = .ok (.iload_n 1, 1) := by decide +kernel
theorem dX11_sign_60 : decode cX11_sign 60 = .ok (.bipush 61, 2) := by decide +kernel
theorem dX11_sign_62 : decode cX11_sign 62 = .ok (.if_icmp .eq 9, 3) := by decide +kernel
theorem dX11_sign_65 : decode cX11_sign 65 = .ok (.iload_n 1, 1) := by decide +kernel
theorem dX11_sign_66 : decode cX11_sign 66 = .ok (.bipush 62, 2) := by decide +kernel
theorem dX11_sign_68 : decode cX11_sign 68 = .ok (.if_icmp .ne 7, 3) := by decide +kernel
theorem dX11_sign_71 : decode cX11_sign 71 = .ok (.iconst 3, 1) := by decide +kernel
theorem dX11_sign_72 : decode cX11_sign 72 = .ok (.goto 4, 3) := by decide +kernel
theorem dX11_sign_75 : decode cX11_sign 75 = .ok (.iconst 5, 1) := by decide +kernel
theorem dX11_sign_76 : decode cX11_sign 76 = .ok (.putfield 182, 3) := by decide +kernel
theorem dX11_sign_79 : decode cX11_sign 79 = .ok (.aload_n 0, 1) := by decide +kernel
theorem dX11_sign_80 : decode cX11_sign 80 = .ok (.iload_n 1, 1) := by decide +kernel
theorem dX11_sign_81 : decode cX11_sign 81 = .ok (.putfield 192, 3) := by decide +kernel
theorem dX11_sign_84 : decode cX11_sign 84 = .ok (.iload_n 1, 1) := by decide +kernel
theorem dX11_sign_85 : decode cX11_sign 85 = .ok (.bipush 60, 2) := by decide +kernel
theorem dX11_sign_87 : decode cX11_sign 87 = .ok (.if_icmp .ne 19, 3) := by decide +kernel
theorem dX11_sign_90 : decode cX11_sign 90 = .ok (.aload_n 0, 1) := by decide +kernel
theorem dX11_sign_91 : decode cX11_sign 91 = .ok (.invokevirtual 175, 3) := by decide +kernel
theorem dX11_sign_94 : decode cX11_sign 94 = .ok (.bipush 61, 2) := by decide +kernel
theorem dX11_sign_96 : decode cX11_sign 96 = .ok (.if_icmp .ne 10, 3) := by decide +kernel
theorem dX11_sign_99 : decode cX11_sign 99 = .ok (.aload_n 0, 1) := by decide +kernel
theorem dX11_sign_100 : decode cX11_sign 100 = .ok (.sipush 256, 3) := by decide +kernel
theorem dX11_sign_103 : decode cX11_sign 103 = .ok (.putfield 192, 3) := by decide +kernel
theorem dX11_sign_106 : decode cX11_sign 106 = .ok (.iload_n 1, 1) := by decide +kernel
theorem dX11_sign_107 : decode cX11_sign 107 = .ok (.bipush 60, 2) := by decide +kernel
theorem dX11_sign_109 : decode cX11_sign 109 = .ok (.if_icmp .ne 19, 3) := by decide +kernel
theorem dX11_sign_112 : decode cX11_sign 112 = .ok (.aload_n 0, 1) := by decide +kernel
theorem dX11_sign_113 : decode cX11_sign 113 = .ok (.invokevirtual 175, 3) := by decide +kernel
theorem dX11_sign_116 : decode cX11_sign 116 = .ok (.bipush 62, 2) := by decide +kernel
theorem dX11_sign_118 : decode cX11_sign 118 = .ok (.if_icmp .ne 10, 3) := by decide +kernel
theorem dX11_sign_121 : decode cX11_sign 121 = .ok (.aload_n 0, 1) := by decide +kernel
theorem dX11_sign_122 : decode cX11_sign 122 = .ok (.sipush 257, 3) := by decide +kernel
theorem dX11_sign_125 : decode cX11_sign 125 = .ok (.putfield 192, 3) := by decide +kernel
theorem dX11_sign_128 : decode cX11_sign 128 = .ok (.iload_n 1, 1) := by decide +kernel
theorem dX11_sign_129 : decode cX11_sign 129 = .ok (.bipush 62, 2) := by decide +kernel
theorem dX11_sign_131 : decode cX11_sign 131 = .ok (.if_icmp .ne 19, 3) := by decide +kernel
theorem dX11_sign_134 : decode cX11_sign 134 = .ok (.aload_n 0, 1) := by decide +kernel
theorem dX11_sign_135 : decode cX11_sign 135 = .ok (.invokevirtual 175, 3) := by decide +kernel
theorem dX11_sign_138 : decode cX11_sign 138 = .ok (.bipush 61, 2) := by decide +kernel
theorem dX11_sign_140 : decode cX11_sign 140 = .ok (.if_icmp .ne 10, 3) := by decide +kernel
theorem dX11_sign_143 : decode cX11_sign 143 = .ok (.aload_n 0, 1) := by decide +kernel
theorem dX11_sign_144 : decode cX11_sign 144 = .ok (.sipush 258, 3) := by decide +kernel
theorem dX11_sign_147 : decode cX11_sign 147 = .ok (.putfield 192, 3) := by decide +kernel
theorem dX11_sign_150 : decode cX11_sign 150 = .ok (.aload_n 0, 1) := by decide +kernel
theorem dX11_sign_151 : decode cX11_sign 151 = .ok (.getfield 192, 3) := by decide +kernel
theorem dX11_sign_154 : decode cX11_sign 154 = .ok (.sipush 256, 3) := by decide +kernel
theorem dX11_sign_157 : decode cX11_sign 157 = .ok (.if_icmp .lt 13, 3) := by decide +kernel
theorem dX11_sign_160 : decode cX11_sign 160 = .ok (.aload_n 0, 1) := by decide +kernel
theorem dX11_sign_161 : decode cX11_sign 161 = .ok (.dup, 1) := by decide +kernel
theorem dX11_sign_162 : decode cX11_sign 162 = .ok (.getfield 169, 3) := by decide +kernel
theorem dX11_sign_165 : decode cX11_sign 165 = .ok (.iconst 1, 1) := by decide +kernel
theorem dX11_sign_166 : decode cX11_sign 166 = .ok (.iadd, 1) := by decide +kernel
theorem dX11_sign_167 : decode cX11_sign 167 = .ok (.putfield 169, 3) := by decide +kernel
theorem dX11_sign_170 : decode cX11_sign 170 = .ok (.return_, 1) := by decide +kernel
theorem dX11_word_0 : decode cX11_word 0 = .ok (.iconst 0, 1) := by decide +kernel
theorem dX11_word_1 : decode cX11_word 1 = .ok (.istore_n 1, 1) := by decide +kernel
theorem dX11_word_2 : decode cX11_word 2 = .ok (.iconst 0, 1) := by decide +kernel
theorem dX11_word_3 : decode cX11_word 3 = .ok (.istore_n 2, 1) := by decide +kernel
theorem dX11_word_4 : decode cX11_word 4 = .ok (.iload_n 2, 1) := by decide +kernel
theorem dX11_word_5 : decode cX11_word 5 = .ok (.ldc 206, 2) := by decide +kernel
theorem dX11_word_7 : decode cX11_word 7 = .ok (.invokevirtual 208, 3) := by decide +kernel
theorem dX11_word_10 : decode cX11_word 10 = .ok (.if_icmp .ge 113, 3) := by decide +kernel
theorem dX11_word_13 : decode cX11_word 13 = .ok (.iconst 0, 1) := by decide +kernel
theorem dX11_word_14 : decode cX11_word 14 = .ok (.istore_n 3, 1) := by decide +kernel
theorem dX11_word_15 : decode cX11_word 15 = .ok (.ldc 206, 2) := by decide +kernel
theorem dX11_word_17 : decode cX11_word 17 = .ok (.iload_n 2, 1) := by decide +kernel
theorem dX11_word_18 : decode cX11_word 18 = .ok (.iload_n 3, 1) := by decide +kernel
theorem dX11_word_19 : decode cX11_word 19 = .ok (.iadd, 1) := by decide +kernel
theorem dX11_word_20 : decode cX11_word 20 = .ok (.invokevirtual 213, 3) := by decide +kernel
theorem dX11_word_23 : decode cX11_word 23 = .ok (.bipush 32, 2) := by decide +kernel
theorem dX11_word_25 : decode cX11_word 25 = .ok (.if_icmp .eq 44, 3) := by decide +kernel
theorem dX11_word_28 : decode cX11_word 28 = .ok (.aload_n 0, 1) := by decide +kernel
theorem dX11_word_29 : decode cX11_word 29 = .ok (.getfield 179, 3) := by decide +kernel
theorem dX11_word_32 : decode cX11_word 32 = .ok (.iload_n 3, 1) := by decide +kernel
theorem dX11_word_33 : decode cX11_word 33 = .ok (.iadd, 1) := by decide +kernel
theorem dX11_word_34 : decode cX11_word 34 = .ok (.aload_n 0, 1) := by decide +kernel
theorem dX11_word_35 : decode cX11_word 35 = .ok (.getfield 169, 3) := by decide +kernel
theorem dX11_word_38 : decode cX11_word 38 = .ok (.if_icmp .ge 31, 3) := by decide +kernel
theorem dX11_word_41 : decode cX11_word 41 = .ok (.aload_n 0, 1) := by decide +kernel
theorem dX11_word_42 : decode cX11_word 42 = .ok (.getfield 7, 3) := by decide +kernel
theorem dX11_word_45 : decode cX11_word 45 = .ok (.aload_n 0, 1) := by decide +kernel
theorem dX11_word_46 : decode cX11_word 46 = .ok (.getfield 179, 3) := by decide +kernel
theorem dX11_word_49 : decode cX11_word 49 = .ok (.iload_n 3, 1) := by decide +kernel
theorem dX11_word_50 : decode cX11_word 50 = .ok (.iadd, 1) := by decide +kernel
theorem dX11_word_51 : decode cX11_word 51 = .ok (.iaload, 1) := by decide +kernel
theorem dX11_word_52 : decode cX11_word 52 = .ok (.ldc 206, 2) := by decide +kernel
theorem dX11_word_54 : decode cX11_word 54 = .ok (.iload_n 2, 1) := by decide +kernel
theorem dX11_word_55 : decode cX11_word 55 = .ok (.iload_n 3, 1) := by decide +kernel
theorem dX11_word_56 : decode cX11_word 56 = .ok (.iadd, 1) := by decide +kernel
theorem dX11_word_57 : decode cX11_word 57 = .ok (.invokevirtual 213, 3) := by decide +kernel
theorem dX11_word_60 : decode cX11_word 60 = .ok (.if_icmp .ne 9, 3) := by decide +kernel
theorem dX11_word_63 : decode cX11_word 63 = .ok (.iinc 3 1, 3) := by decide +kernel
theorem dX11_word_66 : decode cX11_word 66 = .ok (.goto (-51), 3) := by decide +kernel
theorem dX11_word_69 : decode cX11_word 69 = .ok (.ldc 206, 2) := by decide +kernel
theorem dX11_word_71 : decode cX11_word 71 = .ok (.iload_n 2, 1) := by decide +kernel
theorem dX11_word_72 : decode cX11_word 72 = .ok (.iload_n 3, 1) := by decide +kernel
theorem dX11_word_73 : decode cX11_word 73 = .ok (.iadd, 1) := by decide +kernel
theorem dX11_word_74 : decode cX11_word 74 = .ok (.invokevirtual 213, 3) := by decide +kernel
theorem dX11_word_77 : decode cX11_word 77 = .ok (.bipush 32, 2) := by decide +kernel
theorem dX11_word_79 : decode cX11_word 79 = .ok (.if_icmp .ne 18, 3) := by decide +kernel
theorem dX11_word_82 : decode cX11_word 82 = .ok (.aload_n 0, 1) := by decide +kernel
theorem dX11_word_83 : decode cX11_word 83 = .ok (.getfield 179, 3) := by decide +kernel
theorem dX11_word_86 : decode cX11_word 86 = .ok (.iload_n 3, 1) := by decide +kernel
theorem dX11_word_87 : decode cX11_word 87 = .ok (.iadd, 1) := by decide +kernel
theorem dX11_word_88 : decode cX11_word 88 = .ok (.aload_n 0, 1) := by decide +kernel
theorem dX11_word_89 : decode cX11_word 89 = .ok (.getfield 169, 3) := by decide +kernel
theorem dX11_word_92 : decode cX11_word 92 = .ok (.if_icmp .ne 5, 3) := by decide +kernel
theorem dX11_word_95 : decode cX11_word 95 = .ok (.iload_n 1, 1) := by decide +kernel
theorem dX11_word_96 : decode cX11_word 96 = .ok (.ireturn, 1) := by decide +kernel
theorem dX11_word_97 : decode cX11_word 97 = .ok (.ldc 206, 2) := by decide +kernel
theorem dX11_word_99 : decode cX11_word 99 = .ok (.iload_n 2, 1) := by decide +kernel
theorem dX11_word_100 : decode cX11_word 100 = .ok (.invokevirtual 213, 3) := by decide +kernel
theorem dX11_word_103 : decode cX11_word 103 = .ok (.bipush 32, 2) := by decide +kernel
theorem dX11_word_105 : decode cX11_word 105 = .ok (.if_icmp .eq 9, 3) := by decide +kernel
theorem dX11_word_108 : decode cX11_word 108 = .ok (.iinc 2 1, 3) := by decide +kernel
theorem dX11_word_111 : decode cX11_word 111 = .ok (.goto (-14), 3) := by decide +kernel
theorem dX11_word_114 : decode cX11_word 114 = .ok (.iinc 2 1, 3) := by decide +kernel
theorem dX11_word_117 : decode cX11_word 117 = .ok (.iinc 1 1, 3) := by decide +kernel
theorem dX11_word_120 : decode cX11_word 120 = .ok (.goto (-116), 3) := by decide +kernel
theorem dX11_word_123 : decode cX11_word 123 = .ok (.iconst (-1), 1) := by decide +kernel
theorem dX11_word_124 : decode cX11_word 124 = .ok (.ireturn, 1) := by decide +kernel
theorem dX11_name_0 : decode cX11_name 0 = .ok (.aload_n 0, 1) := by decide +kernel
theorem dX11_name_1 : decode cX11_name 1 = .ok (.iconst 0, 1) := by decide +kernel
theorem dX11_name_2 : decode cX11_name 2 = .ok (.putfield 192, 3) := by decide +kernel
theorem dX11_name_5 : decode cX11_name 5 = .ok (.iconst 0, 1) := by decide +kernel
theorem dX11_name_6 : decode cX11_name 6 = .ok (.istore_n 1, 1) := by decide +kernel
theorem dX11_name_7 : decode cX11_name 7 = .ok (.iload_n 1, 1) := by decide +kernel
theorem dX11_name_8 : decode cX11_name 8 = .ok (.bipush 6, 2) := by decide +kernel
theorem dX11_name_10 : decode cX11_name 10 = .ok (.if_icmp .ge 53, 3) := by decide +kernel
theorem dX11_name_13 : decode cX11_name 13 = .ok (.aload_n 0, 1) := by decide +kernel
theorem dX11_name_14 : decode cX11_name 14 = .ok (.aload_n 0, 1) := by decide +kernel
theorem dX11_name_15 : decode cX11_name 15 = .ok (.getfield 192, 3) := by decide +kernel
theorem dX11_name_18 : decode cX11_name 18 = .ok (.iconst 5, 1) := by decide +kernel
theorem dX11_name_19 : decode cX11_name 19 = .ok (.ishl, 1) := by decide +kernel
theorem dX11_name_20 : decode cX11_name 20 = .ok (.aload_n 0, 1) := by decide +kernel
theorem dX11_name_21 : decode cX11_name 21 = .ok (.getfield 179, 3) := by decide +kernel
theorem dX11_name_24 : decode cX11_name 24 = .ok (.iload_n 1, 1) := by decide +kernel
theorem dX11_name_25 : decode cX11_name 25 = .ok (.iadd, 1) := by decide +kernel
theorem dX11_name_26 : decode cX11_name 26 = .ok (.aload_n 0, 1) := by decide +kernel
theorem dX11_name_27 : decode cX11_name 27 = .ok (.getfield 169, 3) := by decide +kernel
theorem dX11_name_30 : decode cX11_name 30 = .ok (.if_icmp .ge 22, 3) := by decide +kernel
theorem dX11_name_33 : decode cX11_name 33 = .ok (.aload_n 0, 1) := by decide +kernel
theorem dX11_name_34 : decode cX11_name 34 = .ok (.getfield 7, 3) := by decide +kernel
theorem dX11_name_37 : decode cX11_name 37 = .ok (.aload_n 0, 1) := by decide +kernel
theorem dX11_name_38 : decode cX11_name 38 = .ok (.getfield 179, 3) := by decide +kernel
theorem dX11_name_41 : decode cX11_name 41 = .ok (.iload_n 1, 1) := by decide +kernel
theorem dX11_name_42 : decode cX11_name 42 = .ok (.iadd, 1) := by decide +kernel
theorem dX11_name_43 : decode cX11_name 43 = .ok (.iaload, 1) := by decide +kernel
theorem dX11_name_44 : decode cX11_name 44 = .ok (.bipush 97, 2) := by decide +kernel
theorem dX11_name_46 : decode cX11_name 46 = .ok (.isub, 1) := by decide +kernel
theorem dX11_name_47 : decode cX11_name 47 = .ok (.iconst 1, 1) := by decide +kernel
theorem dX11_name_48 : decode cX11_name 48 = .ok (.iadd, 1) := by decide +kernel
theorem dX11_name_49 : decode cX11_name 49 = .ok (.goto 4, 3) := by decide +kernel
theorem dX11_name_52 : decode cX11_name 52 = .ok (.iconst 0, 1) := by decide +kernel
theorem dX11_name_53 : decode cX11_name 53 = .ok (.ior, 1) := by decide +kernel
theorem dX11_name_54 : decode cX11_name 54 = .ok (.putfield 192, 3) := by decide +kernel
theorem dX11_name_57 : decode cX11_name 57 = .ok (.iinc 1 1, 3) := by decide +kernel
theorem dX11_name_60 : decode cX11_name 60 = .ok (.goto (-53), 3) := by decide +kernel
theorem dX11_name_63 : decode cX11_name 63 = .ok (.return_, 1) := by decide +kernel
theorem dX11_wrong_0 : decode cX11_wrong 0 = .ok (.aload_n 0, 1) := by decide +kernel
theorem dX11_wrong_1 : decode cX11_wrong 1 = .ok (.getfield 217, 3) := by decide +kernel
theorem dX11_wrong_4 : decode cX11_wrong 4 = .ok (.ifCond .eq 4, 3) := by decide +kernel
theorem dX11_wrong_7 : decode cX11_wrong 7 = .ok (.return_, 1) := by decide +kernel
theorem dX11_wrong_8 : decode cX11_wrong 8 = .ok (.aload_n 0, 1) := by decide +kernel
theorem dX11_wrong_9 : decode cX11_wrong 9 = .ok (.iload_n 1, 1) := by decide +kernel
theorem dX11_wrong_10 : decode cX11_wrong 10 = .ok (.putfield 217, 3) := by decide +kernel
theorem dX11_wrong_13 : decode cX11_wrong 13 = .ok (.aload_n 0, 1) := by decide +kernel
theorem dX11_wrong_14 : decode cX11_wrong 14 = .ok (.aload_n 0, 1) := by decide +kernel
theorem dX11_wrong_15 : decode cX11_wrong 15 = .ok (.getfield 179, 3) := by decide +kernel
theorem dX11_wrong_18 : decode cX11_wrong 18 = .ok (.putfield 220, 3) := by decide +kernel
theorem dX11_wrong_21 : decode cX11_wrong 21 = .ok (.return_, 1) := by decide +kernel
theorem dX11_isWord_0 : decode cX11_isWord 0 = .ok (.aload_n 0, 1) := by decide +kernel
theorem dX11_isWord_1 : decode cX11_isWord 1 = .ok (.getfield 217, 3) := by decide +kernel
theorem dX11_isWord_4 : decode cX11_isWord 4 = .ok (.ifCond .ne 22, 3) := by decide +kernel
theorem dX11_isWord_7 : decode cX11_isWord 7 = .ok (.aload_n 0, 1) := by decide +kernel
theorem dX11_isWord_8 : decode cX11_isWord 8 = .ok (.getfield 182, 3) := by decide +kernel
theorem dX11_isWord_11 : decode cX11_isWord 11 = .ok (.ifCond .ne 15, 3) := by decide +kernel
theorem dX11_isWord_14 : decode cX11_isWord 14 = .ok (.aload_n 0, 1) := by decide +kernel
theorem dX11_isWord_15 : decode cX11_isWord 15 = .ok (.getfield 192, 3) := by decide +kernel
theorem dX11_isWord_18 : decode cX11_isWord 18 = .ok (.iload_n 1, 1) := by decide +kernel
theorem dX11_isWord_19 : decode cX11_isWord 19 = .ok (.if_icmp .ne 7, 3) := by decide +kernel
theorem dX11_isWord_22 : decode cX11_isWord 22 = .ok (.iconst 1, 1) := by decide +kernel
theorem dX11_isWord_23 : decode cX11_isWord 23 = .ok (.goto 4, 3) := by decide +kernel
theorem dX11_isWord_26 : decode cX11_isWord 26 = .ok (.iconst 0, 1) := by decide +kernel
theorem dX11_isWord_27 : decode cX11_isWord 27 = .ok (.ireturn, 1) := by decide +kernel
theorem dX11_isSign_0 : decode cX11_isSign 0 = .ok (.aload_n 0, 1) := by decide +kernel
theorem dX11_isSign_1 : decode cX11_isSign 1 = .ok (.getfield 217, 3) := by decide +kernel
theorem dX11_isSign_4 : decode cX11_isSign 4 = .ok (.ifCond .ne 23, 3) := by decide +kernel
theorem dX11_isSign_7 : decode cX11_isSign 7 = .ok (.aload_n 0, 1) := by decide +kernel
theorem dX11_isSign_8 : decode cX11_isSign 8 = .ok (.getfield 182, 3) := by decide +kernel
theorem dX11_isSign_11 : decode cX11_isSign 11 = .ok (.iconst 3, 1) := by decide +kernel
theorem dX11_isSign_12 : decode cX11_isSign 12 = .ok (.if_icmp .ne 15, 3) := by decide +kernel
theorem dX11_isSign_15 : decode cX11_isSign 15 = .ok (.aload_n 0, 1) := by decide +kernel
theorem dX11_isSign_16 : decode cX11_isSign 16 = .ok (.getfield 192, 3) := by decide +kernel
theorem dX11_isSign_19 : decode cX11_isSign 19 = .ok (.iload_n 1, 1) := by decide +kernel
theorem dX11_isSign_20 : decode cX11_isSign 20 = .ok (.if_icmp .ne 7, 3) := by decide +kernel
theorem dX11_isSign_23 : decode cX11_isSign 23 = .ok (.iconst 1, 1) := by decide +kernel
theorem dX11_isSign_24 : decode cX11_isSign 24 = .ok (.goto 4, 3) := by decide +kernel
theorem dX11_isSign_27 : decode cX11_isSign 27 = .ok (.iconst 0, 1) := by decide +kernel
theorem dX11_isSign_28 : decode cX11_isSign 28 = .ok (.ireturn, 1) := by decide +kernel
theorem dX11_goOn_0 : decode cX11_goOn 0 = .ok (.aload_n 0, 1) := by decide +kernel
theorem dX11_goOn_1 : decode cX11_goOn 1 = .ok (.getfield 217, 3) := by decide +kernel
theorem dX11_goOn_4 : decode cX11_goOn 4 = .ok (.ifCond .ne 7, 3) := by decide +kernel
theorem dX11_goOn_7 : decode cX11_goOn 7 = .ok (.aload_n 0, 1) := by decide +kernel
theorem dX11_goOn_8 : decode cX11_goOn 8 = .ok (.invokevirtual 223, 3) := by decide +kernel
theorem dX11_goOn_11 : decode cX11_goOn 11 = .ok (.return_, 1) := by decide +kernel
theorem dX11_numeral_0 : decode cX11_numeral 0 = .ok (.aload_n 0, 1) := by decide +kernel
theorem dX11_numeral_1 : decode cX11_numeral 1 = .ok (.getfield 217, 3) := by decide +kernel
theorem dX11_numeral_4 : decode cX11_numeral 4 = .ok (.ifCond .eq 5, 3) := by decide +kernel
theorem dX11_numeral_7 : decode cX11_numeral 7 = .ok (.iload_n 1, 1) := by decide +kernel
theorem dX11_numeral_8 : decode cX11_numeral 8 = .ok (.ireturn, 1) := by decide +kernel
theorem dX11_numeral_9 : decode cX11_numeral 9 = .ok (.aload_n 0, 1) := by decide +kernel
theorem dX11_numeral_10 : decode cX11_numeral 10 = .ok (.getfield 182, 3) := by decide +kernel
theorem dX11_numeral_13 : decode cX11_numeral 13 = .ok (.iconst 2, 1) := by decide +kernel
theorem dX11_numeral_14 : decode cX11_numeral 14 = .ok (.if_icmp .eq 11, 3) := by decide +kernel
theorem dX11_numeral_17 : decode cX11_numeral 17 = .ok (.aload_n 0, 1) := by decide +kernel
theorem dX11_numeral_18 : decode cX11_numeral 18 = .ok (.iconst 1, 1) := by decide +kernel
theorem dX11_numeral_19 : decode cX11_numeral 19 = .ok (.invokevirtual 226, 3) := by decide +kernel
theorem dX11_numeral_22 : decode cX11_numeral 22 = .ok (.goto 24, 3) := by decide +kernel
theorem dX11_numeral_25 : decode cX11_numeral 25 = .ok (.aload_n 0, 1) := by decide +kernel
theorem dX11_numeral_26 : decode cX11_numeral 26 = .ok (.getfield 192, 3) := by decide +kernel
theorem dX11_numeral_29 : decode cX11_numeral 29 = .ok (.iload_n 1, 1) := by decide +kernel
theorem dX11_numeral_30 : decode cX11_numeral 30 = .ok (.if_icmp .lt 11, 3) := by decide +kernel
theorem dX11_numeral_33 : decode cX11_numeral 33 = .ok (.aload_n 0, 1) := by decide +kernel
theorem dX11_numeral_34 : decode cX11_numeral 34 = .ok (.getfield 192, 3) := by decide +kernel
theorem dX11_numeral_37 : decode cX11_numeral 37 = .ok (.iload_n 2, 1) := by decide +kernel
theorem dX11_numeral_38 : decode cX11_numeral 38 = .ok (.if_icmp .le 8, 3) := by decide +kernel
theorem dX11_numeral_41 : decode cX11_numeral 41 = .ok (.aload_n 0, 1) := by decide +kernel
theorem dX11_numeral_42 : decode cX11_numeral 42 = .ok (.iconst 2, 1) := by decide +kernel
theorem dX11_numeral_43 : decode cX11_numeral 43 = .ok (.invokevirtual 226, 3) := by decide +kernel
theorem dX11_numeral_46 : decode cX11_numeral 46 = .ok (.aload_n 0, 1) := by decide +kernel
theorem dX11_numeral_47 : decode cX11_numeral 47 = .ok (.getfield 217, 3) := by decide +kernel
theorem dX11_numeral_50 : decode cX11_numeral 50 = .ok (.ifCond .eq 5, 3) := by decide +kernel
theorem dX11_numeral_53 : decode cX11_numeral 53 = .ok (.iload_n 1, 1) := by decide +kernel
theorem dX11_numeral_54 : decode cX11_numeral 54 = .ok (.ireturn, 1) := by decide +kernel
theorem dX11_numeral_55 : decode cX11_numeral 55 = .ok (.aload_n 0, 1) := by decide +kernel
theorem dX11_numeral_56 : decode cX11_numeral 56 = .ok (.getfield 192, 3) := by decide +kernel
theorem dX11_numeral_59 : decode cX11_numeral 59 = .ok (.istore_n 3, 1) := by decide +kernel
theorem dX11_numeral_60 : decode cX11_numeral 60 = .ok (.aload_n 0, 1) := by decide +kernel
theorem dX11_numeral_61 : decode cX11_numeral 61 = .ok (.invokevirtual 223, 3) := by decide +kernel
theorem dX11_numeral_64 : decode cX11_numeral 64 = .ok (.iload_n 3, 1) := by decide +kernel
theorem dX11_numeral_65 : decode cX11_numeral 65 = .ok (.ireturn, 1) := by decide +kernel
theorem dX11_found_0 : decode cX11_found 0 = .ok (.iconst 0, 1) := by decide +kernel
theorem dX11_found_1 : decode cX11_found 1 = .ok (.istore 4, 2) := by decide +kernel
theorem dX11_found_3 : decode cX11_found 3 = .ok (.iload 4, 2) := by decide +kernel
theorem dX11_found_5 : decode cX11_found 5 = .ok (.iload_n 2, 1) := by decide +kernel
theorem dX11_found_6 : decode cX11_found 6 = .ok (.if_icmp .ge 22, 3) := by decide +kernel
theorem dX11_found_9 : decode cX11_found 9 = .ok (.aload_n 0, 1) := by decide +kernel
theorem dX11_found_10 : decode cX11_found 10 = .ok (.iload_n 1, 1) := by decide +kernel
theorem dX11_found_11 : decode cX11_found 11 = .ok (.iload 4, 2) := by decide +kernel
theorem dX11_found_13 : decode cX11_found 13 = .ok (.iadd, 1) := by decide +kernel
theorem dX11_found_14 : decode cX11_found 14 = .ok (.iaload, 1) := by decide +kernel
theorem dX11_found_15 : decode cX11_found 15 = .ok (.iload_n 3, 1) := by decide +kernel
theorem dX11_found_16 : decode cX11_found 16 = .ok (.if_icmp .ne 6, 3) := by decide +kernel
theorem dX11_found_19 : decode cX11_found 19 = .ok (.iload 4, 2) := by decide +kernel
theorem dX11_found_21 : decode cX11_found 21 = .ok (.ireturn, 1) := by decide +kernel
theorem dX11_found_22 : decode cX11_found 22 = .ok (.iinc 4 1, 3) := by decide +kernel
theorem dX11_found_25 : decode cX11_found 25 = .ok (.goto (-22), 3) := by decide +kernel
theorem dX11_found_28 : decode cX11_found 28 = .ok (.iconst (-1), 1) := by decide +kernel
theorem dX11_found_29 : decode cX11_found 29 = .ok (.ireturn, 1) := by decide +kernel
theorem dX11_fresh_0 : decode cX11_fresh 0 = .ok (.aload_n 0, 1) := by decide +kernel
theorem dX11_fresh_1 : decode cX11_fresh 1 = .ok (.getfield 217, 3) := by decide +kernel
theorem dX11_fresh_4 : decode cX11_fresh 4 = .ok (.ifCond .eq 5, 3) := by decide +kernel
theorem dX11_fresh_7 : decode cX11_fresh 7 = .ok (.iconst 0, 1) := by decide +kernel
theorem dX11_fresh_8 : decode cX11_fresh 8 = .ok (.ireturn, 1) := by decide +kernel
theorem dX11_fresh_9 : decode cX11_fresh 9 = .ok (.aload_n 0, 1) := by decide +kernel
theorem dX11_fresh_10 : decode cX11_fresh 10 = .ok (.getfield 182, 3) := by decide +kernel
theorem dX11_fresh_13 : decode cX11_fresh 13 = .ok (.iconst 1, 1) := by decide +kernel
theorem dX11_fresh_14 : decode cX11_fresh 14 = .ok (.if_icmp .eq 11, 3) := by decide +kernel
theorem dX11_fresh_17 : decode cX11_fresh 17 = .ok (.aload_n 0, 1) := by decide +kernel
theorem dX11_fresh_18 : decode cX11_fresh 18 = .ok (.iconst 1, 1) := by decide +kernel
theorem dX11_fresh_19 : decode cX11_fresh 19 = .ok (.invokevirtual 226, 3) := by decide +kernel
theorem dX11_fresh_22 : decode cX11_fresh 22 = .ok (.goto 22, 3) := by decide +kernel
theorem dX11_fresh_25 : decode cX11_fresh 25 = .ok (.aload_n 1, 1) := by decide +kernel
theorem dX11_fresh_26 : decode cX11_fresh 26 = .ok (.iload_n 2, 1) := by decide +kernel
theorem dX11_fresh_27 : decode cX11_fresh 27 = .ok (.iload_n 3, 1) := by decide +kernel
theorem dX11_fresh_28 : decode cX11_fresh 28 = .ok (.aload_n 0, 1) := by decide +kernel
theorem dX11_fresh_29 : decode cX11_fresh 29 = .ok (.getfield 192, 3) := by decide +kernel
theorem dX11_fresh_32 : decode cX11_fresh 32 = .ok (.invokestatic 229, 3) := by decide +kernel
theorem dX11_fresh_35 : decode cX11_fresh 35 = .ok (.iconst (-1), 1) := by decide +kernel
theorem dX11_fresh_36 : decode cX11_fresh 36 = .ok (.if_icmp .eq 8, 3) := by decide +kernel
theorem dX11_fresh_39 : decode cX11_fresh 39 = .ok (.aload_n 0, 1) := by decide +kernel
theorem dX11_fresh_40 : decode cX11_fresh 40 = .ok (.iconst 3, 1) := by decide +kernel
theorem dX11_fresh_41 : decode cX11_fresh 41 = .ok (.invokevirtual 226, 3) := by decide +kernel
theorem dX11_fresh_44 : decode cX11_fresh 44 = .ok (.aload_n 0, 1) := by decide +kernel
theorem dX11_fresh_45 : decode cX11_fresh 45 = .ok (.getfield 217, 3) := by decide +kernel
theorem dX11_fresh_48 : decode cX11_fresh 48 = .ok (.ifCond .eq 5, 3) := by decide +kernel
theorem dX11_fresh_51 : decode cX11_fresh 51 = .ok (.iconst 0, 1) := by decide +kernel
theorem dX11_fresh_52 : decode cX11_fresh 52 = .ok (.ireturn, 1) := by decide +kernel
theorem dX11_fresh_53 : decode cX11_fresh 53 = .ok (.aload_n 0, 1) := by decide +kernel
theorem dX11_fresh_54 : decode cX11_fresh 54 = .ok (.getfield 192, 3) := by decide +kernel
theorem dX11_fresh_57 : decode cX11_fresh 57 = .ok (.istore 4, 2) := by decide +kernel
theorem dX11_fresh_59 : decode cX11_fresh 59 = .ok (.aload_n 0, 1) := by decide +kernel
theorem dX11_fresh_60 : decode cX11_fresh 60 = .ok (.invokevirtual 223, 3) := by decide +kernel
theorem dX11_fresh_63 : decode cX11_fresh 63 = .ok (.iload 4, 2) := by decide +kernel
theorem dX11_fresh_65 : decode cX11_fresh 65 = .ok (.ireturn, 1) := by decide +kernel
theorem dX11_fresher_0 : decode cX11_fresher 0 = .ok (.aload_n 0, 1) := by decide +kernel
theorem dX11_fresher_1 : decode cX11_fresher 1 = .ok (.getfield 13, 3) := by decide +kernel
theorem dX11_fresher_4 : decode cX11_fresher 4 = .ok (.bipush 13, 2) := by decide +kernel
theorem dX11_fresher_6 : decode cX11_fresher 6 = .ok (.iload_n 1, 1) := by decide +kernel
theorem dX11_fresher_7 : decode cX11_fresher 7 = .ok (.iadd, 1) := by decide +kernel
theorem dX11_fresher_8 : decode cX11_fresher 8 = .ok (.iaload, 1) := by decide +kernel
theorem dX11_fresher_9 : decode cX11_fresher 9 = .ok (.ireturn, 1) := by decide +kernel
theorem dX11_reads_0 : decode cX11_reads 0 = .ok (.aload_n 0, 1) := by decide +kernel
theorem dX11_reads_1 : decode cX11_reads 1 = .ok (.getfield 13, 3) := by decide +kernel
theorem dX11_reads_4 : decode cX11_reads 4 = .ok (.bipush 13, 2) := by decide +kernel
theorem dX11_reads_6 : decode cX11_reads 6 = .ok (.iload_n 1, 1) := by decide +kernel
theorem dX11_reads_7 : decode cX11_reads 7 = .ok (.iadd, 1) := by decide +kernel
theorem dX11_reads_8 : decode cX11_reads 8 = .ok (.iload_n 2, 1) := by decide +kernel
theorem dX11_reads_9 : decode cX11_reads 9 = .ok (.iastore, 1) := by decide +kernel
theorem dX11_reads_10 : decode cX11_reads 10 = .ok (.return_, 1) := by decide +kernel
theorem dX11_isFull_0 : decode cX11_isFull 0 = .ok (.iload_n 1, 1) := by decide +kernel
theorem dX11_isFull_1 : decode cX11_isFull 1 = .ok (.tableswitch 137 2 7 #[39, 55, 71, 87, 104, 121], 39) := by decide +kernel
theorem dX11_isFull_40 : decode cX11_isFull 40 = .ok (.aload_n 0, 1) := by decide +kernel
theorem dX11_isFull_41 : decode cX11_isFull 41 = .ok (.iconst 4, 1) := by decide +kernel
theorem dX11_isFull_42 : decode cX11_isFull 42 = .ok (.invokevirtual 233, 3) := by decide +kernel
theorem dX11_isFull_45 : decode cX11_isFull 45 = .ok (.bipush 8, 2) := by decide +kernel
theorem dX11_isFull_47 : decode cX11_isFull 47 = .ok (.if_icmp .ne 7, 3) := by decide +kernel
theorem dX11_isFull_50 : decode cX11_isFull 50 = .ok (.iconst 1, 1) := by decide +kernel
theorem dX11_isFull_51 : decode cX11_isFull 51 = .ok (.goto 4, 3) := by decide +kernel
theorem dX11_isFull_54 : decode cX11_isFull 54 = .ok (.iconst 0, 1) := by decide +kernel
theorem dX11_isFull_55 : decode cX11_isFull 55 = .ok (.ireturn, 1) := by decide +kernel
theorem dX11_isFull_56 : decode cX11_isFull 56 = .ok (.aload_n 0, 1) := by decide +kernel
theorem dX11_isFull_57 : decode cX11_isFull 57 = .ok (.iconst 5, 1) := by decide +kernel
theorem dX11_isFull_58 : decode cX11_isFull 58 = .ok (.invokevirtual 233, 3) := by decide +kernel
theorem dX11_isFull_61 : decode cX11_isFull 61 = .ok (.bipush 6, 2) := by decide +kernel
theorem dX11_isFull_63 : decode cX11_isFull 63 = .ok (.if_icmp .ne 7, 3) := by decide +kernel
theorem dX11_isFull_66 : decode cX11_isFull 66 = .ok (.iconst 1, 1) := by decide +kernel
theorem dX11_isFull_67 : decode cX11_isFull 67 = .ok (.goto 4, 3) := by decide +kernel
theorem dX11_isFull_70 : decode cX11_isFull 70 = .ok (.iconst 0, 1) := by decide +kernel
theorem dX11_isFull_71 : decode cX11_isFull 71 = .ok (.ireturn, 1) := by decide +kernel
theorem dX11_isFull_72 : decode cX11_isFull 72 = .ok (.aload_n 0, 1) := by decide +kernel
theorem dX11_isFull_73 : decode cX11_isFull 73 = .ok (.bipush 6, 2) := by decide +kernel
theorem dX11_isFull_75 : decode cX11_isFull 75 = .ok (.invokevirtual 233, 3) := by decide +kernel
theorem dX11_isFull_78 : decode cX11_isFull 78 = .ok (.iconst 4, 1) := by decide +kernel
theorem dX11_isFull_79 : decode cX11_isFull 79 = .ok (.if_icmp .ne 7, 3) := by decide +kernel
theorem dX11_isFull_82 : decode cX11_isFull 82 = .ok (.iconst 1, 1) := by decide +kernel
theorem dX11_isFull_83 : decode cX11_isFull 83 = .ok (.goto 4, 3) := by decide +kernel
theorem dX11_isFull_86 : decode cX11_isFull 86 = .ok (.iconst 0, 1) := by decide +kernel
theorem dX11_isFull_87 : decode cX11_isFull 87 = .ok (.ireturn, 1) := by decide +kernel
theorem dX11_isFull_88 : decode cX11_isFull 88 = .ok (.aload_n 0, 1) := by decide +kernel
theorem dX11_isFull_89 : decode cX11_isFull 89 = .ok (.bipush 7, 2) := by decide +kernel
theorem dX11_isFull_91 : decode cX11_isFull 91 = .ok (.invokevirtual 233, 3) := by decide +kernel
theorem dX11_isFull_94 : decode cX11_isFull 94 = .ok (.bipush 12, 2) := by decide +kernel
theorem dX11_isFull_96 : decode cX11_isFull 96 = .ok (.if_icmp .ne 7, 3) := by decide +kernel
theorem dX11_isFull_99 : decode cX11_isFull 99 = .ok (.iconst 1, 1) := by decide +kernel
theorem dX11_isFull_100 : decode cX11_isFull 100 = .ok (.goto 4, 3) := by decide +kernel
theorem dX11_isFull_103 : decode cX11_isFull 103 = .ok (.iconst 0, 1) := by decide +kernel
theorem dX11_isFull_104 : decode cX11_isFull 104 = .ok (.ireturn, 1) := by decide +kernel
theorem dX11_isFull_105 : decode cX11_isFull 105 = .ok (.aload_n 0, 1) := by decide +kernel
theorem dX11_isFull_106 : decode cX11_isFull 106 = .ok (.bipush 8, 2) := by decide +kernel
theorem dX11_isFull_108 : decode cX11_isFull 108 = .ok (.invokevirtual 233, 3) := by decide +kernel
theorem dX11_isFull_111 : decode cX11_isFull 111 = .ok (.bipush 8, 2) := by decide +kernel
theorem dX11_isFull_113 : decode cX11_isFull 113 = .ok (.if_icmp .ne 7, 3) := by decide +kernel
theorem dX11_isFull_116 : decode cX11_isFull 116 = .ok (.iconst 1, 1) := by decide +kernel
theorem dX11_isFull_117 : decode cX11_isFull 117 = .ok (.goto 4, 3) := by decide +kernel
theorem dX11_isFull_120 : decode cX11_isFull 120 = .ok (.iconst 0, 1) := by decide +kernel
theorem dX11_isFull_121 : decode cX11_isFull 121 = .ok (.ireturn, 1) := by decide +kernel
theorem dX11_isFull_122 : decode cX11_isFull 122 = .ok (.aload_n 0, 1) := by decide +kernel
theorem dX11_isFull_123 : decode cX11_isFull 123 = .ok (.bipush 9, 2) := by decide +kernel
theorem dX11_isFull_125 : decode cX11_isFull 125 = .ok (.invokevirtual 233, 3) := by decide +kernel
theorem dX11_isFull_128 : decode cX11_isFull 128 = .ok (.iconst 4, 1) := by decide +kernel
theorem dX11_isFull_129 : decode cX11_isFull 129 = .ok (.if_icmp .ne 7, 3) := by decide +kernel
theorem dX11_isFull_132 : decode cX11_isFull 132 = .ok (.iconst 1, 1) := by decide +kernel
theorem dX11_isFull_133 : decode cX11_isFull 133 = .ok (.goto 4, 3) := by decide +kernel
theorem dX11_isFull_136 : decode cX11_isFull 136 = .ok (.iconst 0, 1) := by decide +kernel
theorem dX11_isFull_137 : decode cX11_isFull 137 = .ok (.ireturn, 1) := by decide +kernel
theorem dX11_isFull_138 : decode cX11_isFull 138 = .ok (.iconst 0, 1) := by decide +kernel
theorem dX11_isFull_139 : decode cX11_isFull 139 = .ok (.ireturn, 1) := by decide +kernel
theorem dX11_isOnce_0 : decode cX11_isOnce 0 = .ok (.iload_n 0, 1) := by decide +kernel
theorem dX11_isOnce_1 : decode cX11_isOnce 1 = .ok (.iconst 1, 1) := by decide +kernel
theorem dX11_isOnce_2 : decode cX11_isOnce 2 = .ok (.if_icmp .eq 15, 3) := by decide +kernel
theorem dX11_isOnce_5 : decode cX11_isOnce 5 = .ok (.iload_n 0, 1) := by decide +kernel
theorem dX11_isOnce_6 : decode cX11_isOnce 6 = .ok (.bipush 8, 2) := by decide +kernel
theorem dX11_isOnce_8 : decode cX11_isOnce 8 = .ok (.if_icmp .eq 9, 3) := by decide +kernel
theorem dX11_isOnce_11 : decode cX11_isOnce 11 = .ok (.iload_n 0, 1) := by decide +kernel
theorem dX11_isOnce_12 : decode cX11_isOnce 12 = .ok (.bipush 9, 2) := by decide +kernel
theorem dX11_isOnce_14 : decode cX11_isOnce 14 = .ok (.if_icmp .ne 7, 3) := by decide +kernel
theorem dX11_isOnce_17 : decode cX11_isOnce 17 = .ok (.iconst 1, 1) := by decide +kernel
theorem dX11_isOnce_18 : decode cX11_isOnce 18 = .ok (.goto 4, 3) := by decide +kernel
theorem dX11_isOnce_21 : decode cX11_isOnce 21 = .ok (.iconst 0, 1) := by decide +kernel
theorem dX11_isOnce_22 : decode cX11_isOnce 22 = .ok (.ireturn, 1) := by decide +kernel
theorem dX11_line_0 : decode cX11_line 0 = .ok (.aload_n 0, 1) := by decide +kernel
theorem dX11_line_1 : decode cX11_line 1 = .ok (.getfield 182, 3) := by decide +kernel
theorem dX11_line_4 : decode cX11_line 4 = .ok (.ifCond .ne 37, 3) := by decide +kernel
theorem dX11_line_7 : decode cX11_line 7 = .ok (.aload_n 0, 1) := by decide +kernel
theorem dX11_line_8 : decode cX11_line 8 = .ok (.getfield 192, 3) := by decide +kernel
theorem dX11_line_11 : decode cX11_line 11 = .ok (.ifCond .ne 10, 3) := by decide +kernel
theorem dX11_line_14 : decode cX11_line 14 = .ok (.aload_n 0, 1) := by decide +kernel
theorem dX11_line_15 : decode cX11_line 15 = .ok (.getfield 237, 3) := by decide +kernel
theorem dX11_line_18 : decode cX11_line 18 = .ok (.ifCond .gt 19, 3) := by decide +kernel
theorem dX11_line_21 : decode cX11_line 21 = .ok (.aload_n 0, 1) := by decide +kernel
theorem dX11_line_22 : decode cX11_line 22 = .ok (.getfield 192, 3) := by decide +kernel
theorem dX11_line_25 : decode cX11_line 25 = .ok (.iconst 1, 1) := by decide +kernel
theorem dX11_line_26 : decode cX11_line 26 = .ok (.if_icmp .ne 15, 3) := by decide +kernel
theorem dX11_line_29 : decode cX11_line 29 = .ok (.aload_n 0, 1) := by decide +kernel
theorem dX11_line_30 : decode cX11_line 30 = .ok (.iconst 4, 1) := by decide +kernel
theorem dX11_line_31 : decode cX11_line 31 = .ok (.invokevirtual 233, 3) := by decide +kernel
theorem dX11_line_34 : decode cX11_line 34 = .ok (.ifCond .le 7, 3) := by decide +kernel
theorem dX11_line_37 : decode cX11_line 37 = .ok (.iconst 1, 1) := by decide +kernel
theorem dX11_line_38 : decode cX11_line 38 = .ok (.goto 4, 3) := by decide +kernel
theorem dX11_line_41 : decode cX11_line 41 = .ok (.iconst 0, 1) := by decide +kernel
theorem dX11_line_42 : decode cX11_line 42 = .ok (.istore_n 1, 1) := by decide +kernel
theorem dX11_line_43 : decode cX11_line 43 = .ok (.aload_n 0, 1) := by decide +kernel
theorem dX11_line_44 : decode cX11_line 44 = .ok (.getfield 182, 3) := by decide +kernel
theorem dX11_line_47 : decode cX11_line 47 = .ok (.ifCond .ne 16, 3) := by decide +kernel
theorem dX11_line_50 : decode cX11_line 50 = .ok (.aload_n 0, 1) := by decide +kernel
theorem dX11_line_51 : decode cX11_line 51 = .ok (.getfield 192, 3) := by decide +kernel
theorem dX11_line_54 : decode cX11_line 54 = .ok (.bipush 10, 2) := by decide +kernel
theorem dX11_line_56 : decode cX11_line 56 = .ok (.if_icmp .gt 7, 3) := by decide +kernel
theorem dX11_line_59 : decode cX11_line 59 = .ok (.iload_n 1, 1) := by decide +kernel
theorem dX11_line_60 : decode cX11_line 60 = .ok (.ifCond .eq 9, 3) := by decide +kernel
theorem dX11_line_63 : decode cX11_line 63 = .ok (.aload_n 0, 1) := by decide +kernel
theorem dX11_line_64 : decode cX11_line 64 = .ok (.iconst 1, 1) := by decide +kernel
theorem dX11_line_65 : decode cX11_line 65 = .ok (.invokevirtual 226, 3) := by decide +kernel
theorem dX11_line_68 : decode cX11_line 68 = .ok (.return_, 1) := by decide +kernel
theorem dX11_line_69 : decode cX11_line 69 = .ok (.aload_n 0, 1) := by decide +kernel
theorem dX11_line_70 : decode cX11_line 70 = .ok (.getfield 192, 3) := by decide +kernel
theorem dX11_line_73 : decode cX11_line 73 = .ok (.istore_n 2, 1) := by decide +kernel
theorem dX11_line_74 : decode cX11_line 74 = .ok (.aload_n 0, 1) := by decide +kernel
theorem dX11_line_75 : decode cX11_line 75 = .ok (.iload_n 2, 1) := by decide +kernel
theorem dX11_line_76 : decode cX11_line 76 = .ok (.invokevirtual 240, 3) := by decide +kernel
theorem dX11_line_79 : decode cX11_line 79 = .ok (.ifCond .eq 11, 3) := by decide +kernel
theorem dX11_line_82 : decode cX11_line 82 = .ok (.aload_n 0, 1) := by decide +kernel
theorem dX11_line_83 : decode cX11_line 83 = .ok (.iconst 2, 1) := by decide +kernel
theorem dX11_line_84 : decode cX11_line 84 = .ok (.invokevirtual 226, 3) := by decide +kernel
theorem dX11_line_87 : decode cX11_line 87 = .ok (.goto 27, 3) := by decide +kernel
theorem dX11_line_90 : decode cX11_line 90 = .ok (.iload_n 2, 1) := by decide +kernel
theorem dX11_line_91 : decode cX11_line 91 = .ok (.invokestatic 243, 3) := by decide +kernel
theorem dX11_line_94 : decode cX11_line 94 = .ok (.ifCond .eq 20, 3) := by decide +kernel
theorem dX11_line_97 : decode cX11_line 97 = .ok (.aload_n 0, 1) := by decide +kernel
theorem dX11_line_98 : decode cX11_line 98 = .ok (.getfield 246, 3) := by decide +kernel
theorem dX11_line_101 : decode cX11_line 101 = .ok (.iload_n 2, 1) := by decide +kernel
theorem dX11_line_102 : decode cX11_line 102 = .ok (.ishr, 1) := by decide +kernel
theorem dX11_line_103 : decode cX11_line 103 = .ok (.iconst 1, 1) := by decide +kernel
theorem dX11_line_104 : decode cX11_line 104 = .ok (.iand, 1) := by decide +kernel
theorem dX11_line_105 : decode cX11_line 105 = .ok (.iconst 1, 1) := by decide +kernel
theorem dX11_line_106 : decode cX11_line 106 = .ok (.if_icmp .ne 8, 3) := by decide +kernel
theorem dX11_line_109 : decode cX11_line 109 = .ok (.aload_n 0, 1) := by decide +kernel
theorem dX11_line_110 : decode cX11_line 110 = .ok (.iconst 3, 1) := by decide +kernel
theorem dX11_line_111 : decode cX11_line 111 = .ok (.invokevirtual 226, 3) := by decide +kernel
theorem dX11_line_114 : decode cX11_line 114 = .ok (.aload_n 0, 1) := by decide +kernel
theorem dX11_line_115 : decode cX11_line 115 = .ok (.getfield 217, 3) := by decide +kernel
theorem dX11_line_118 : decode cX11_line 118 = .ok (.ifCond .eq 4, 3) := by decide +kernel
theorem dX11_line_121 : decode cX11_line 121 = .ok (.return_, 1) := by decide +kernel
theorem dX11_line_122 : decode cX11_line 122 = .ok (.aload_n 0, 1) := by decide +kernel
theorem dX11_line_123 : decode cX11_line 123 = .ok (.dup, 1) := by decide +kernel
theorem dX11_line_124 : decode cX11_line 124 = .ok (.getfield 246, 3) := by decide +kernel
theorem dX11_line_127 : decode cX11_line 127 = .ok (.iconst 1, 1) := by decide +kernel
theorem dX11_line_128 : decode cX11_line 128 = .ok (.iload_n 2, 1) := by decide +kernel
theorem dX11_line_129 : decode cX11_line 129 = .ok (.ishl, 1) := by decide +kernel
theorem dX11_line_130 : decode cX11_line 130 = .ok (.ior, 1) := by decide +kernel
theorem dX11_line_131 : decode cX11_line 131 = .ok (.putfield 246, 3) := by decide +kernel
theorem dX11_line_134 : decode cX11_line 134 = .ok (.aload_n 0, 1) := by decide +kernel
theorem dX11_line_135 : decode cX11_line 135 = .ok (.invokevirtual 223, 3) := by decide +kernel
theorem dX11_line_138 : decode cX11_line 138 = .ok (.iload_n 2, 1) := by decide +kernel
theorem dX11_line_139 : decode cX11_line 139 = .ok (.tableswitch 453 0 9 #[53, 80, 101, 108, 115, 195, 250, 350, 421, 437], 53) := by decide +kernel
theorem dX11_line_192 : decode cX11_line 192 = .ok (.aload_n 0, 1) := by decide +kernel
theorem dX11_line_193 : decode cX11_line 193 = .ok (.iconst 0, 1) := by decide +kernel
theorem dX11_line_194 : decode cX11_line 194 = .ok (.aload_n 0, 1) := by decide +kernel
theorem dX11_line_195 : decode cX11_line 195 = .ok (.iconst 1, 1) := by decide +kernel
theorem dX11_line_196 : decode cX11_line 196 = .ok (.bipush 8, 2) := by decide +kernel
theorem dX11_line_198 : decode cX11_line 198 = .ok (.invokevirtual 249, 3) := by decide +kernel
theorem dX11_line_201 : decode cX11_line 201 = .ok (.invokevirtual 253, 3) := by decide +kernel
theorem dX11_line_204 : decode cX11_line 204 = .ok (.aload_n 0, 1) := by decide +kernel
theorem dX11_line_205 : decode cX11_line 205 = .ok (.iconst 1, 1) := by decide +kernel
theorem dX11_line_206 : decode cX11_line 206 = .ok (.aload_n 0, 1) := by decide +kernel
theorem dX11_line_207 : decode cX11_line 207 = .ok (.iconst 1, 1) := by decide +kernel
theorem dX11_line_208 : decode cX11_line 208 = .ok (.bipush 8, 2) := by decide +kernel
theorem dX11_line_210 : decode cX11_line 210 = .ok (.invokevirtual 249, 3) := by decide +kernel
theorem dX11_line_213 : decode cX11_line 213 = .ok (.invokevirtual 253, 3) := by decide +kernel
theorem dX11_line_216 : decode cX11_line 216 = .ok (.goto 380, 3) := by decide +kernel
theorem dX11_line_219 : decode cX11_line 219 = .ok (.aload_n 0, 1) := by decide +kernel
theorem dX11_line_220 : decode cX11_line 220 = .ok (.iconst 2, 1) := by decide +kernel
theorem dX11_line_221 : decode cX11_line 221 = .ok (.aload_n 0, 1) := by decide +kernel
theorem dX11_line_222 : decode cX11_line 222 = .ok (.invokevirtual 257, 3) := by decide +kernel
theorem dX11_line_225 : decode cX11_line 225 = .ok (.invokevirtual 253, 3) := by decide +kernel
theorem dX11_line_228 : decode cX11_line 228 = .ok (.aload_n 0, 1) := by decide +kernel
theorem dX11_line_229 : decode cX11_line 229 = .ok (.iconst 3, 1) := by decide +kernel
theorem dX11_line_230 : decode cX11_line 230 = .ok (.aload_n 0, 1) := by decide +kernel
theorem dX11_line_231 : decode cX11_line 231 = .ok (.invokevirtual 260, 3) := by decide +kernel
theorem dX11_line_234 : decode cX11_line 234 = .ok (.invokevirtual 253, 3) := by decide +kernel
theorem dX11_line_237 : decode cX11_line 237 = .ok (.goto 359, 3) := by decide +kernel
theorem dX11_line_240 : decode cX11_line 240 = .ok (.aload_n 0, 1) := by decide +kernel
theorem dX11_line_241 : decode cX11_line 241 = .ok (.invokevirtual 263, 3) := by decide +kernel
theorem dX11_line_244 : decode cX11_line 244 = .ok (.goto 352, 3) := by decide +kernel
theorem dX11_line_247 : decode cX11_line 247 = .ok (.aload_n 0, 1) := by decide +kernel
theorem dX11_line_248 : decode cX11_line 248 = .ok (.invokevirtual 266, 3) := by decide +kernel
theorem dX11_line_251 : decode cX11_line 251 = .ok (.goto 345, 3) := by decide +kernel
theorem dX11_line_254 : decode cX11_line 254 = .ok (.iconst 4, 1) := by decide +kernel
theorem dX11_line_255 : decode cX11_line 255 = .ok (.aload_n 0, 1) := by decide +kernel
theorem dX11_line_256 : decode cX11_line 256 = .ok (.bipush 6, 2) := by decide +kernel
theorem dX11_line_258 : decode cX11_line 258 = .ok (.invokevirtual 233, 3) := by decide +kernel
theorem dX11_line_261 : decode cX11_line 261 = .ok (.iadd, 1) := by decide +kernel
theorem dX11_line_262 : decode cX11_line 262 = .ok (.istore_n 3, 1) := by decide +kernel
theorem dX11_line_263 : decode cX11_line 263 = .ok (.aload_n 0, 1) := by decide +kernel
theorem dX11_line_264 : decode cX11_line 264 = .ok (.getfield 28, 3) := by decide +kernel
theorem dX11_line_267 : decode cX11_line 267 = .ok (.iload_n 3, 1) := by decide +kernel
theorem dX11_line_268 : decode cX11_line 268 = .ok (.aload_n 0, 1) := by decide +kernel
theorem dX11_line_269 : decode cX11_line 269 = .ok (.aload_n 0, 1) := by decide +kernel
theorem dX11_line_270 : decode cX11_line 270 = .ok (.getfield 28, 3) := by decide +kernel
theorem dX11_line_273 : decode cX11_line 273 = .ok (.iconst 4, 1) := by decide +kernel
theorem dX11_line_274 : decode cX11_line 274 = .ok (.aload_n 0, 1) := by decide +kernel
theorem dX11_line_275 : decode cX11_line 275 = .ok (.bipush 6, 2) := by decide +kernel
theorem dX11_line_277 : decode cX11_line 277 = .ok (.invokevirtual 233, 3) := by decide +kernel
theorem dX11_line_280 : decode cX11_line 280 = .ok (.invokevirtual 269, 3) := by decide +kernel
theorem dX11_line_283 : decode cX11_line 283 = .ok (.iastore, 1) := by decide +kernel
theorem dX11_line_284 : decode cX11_line 284 = .ok (.aload_n 0, 1) := by decide +kernel
theorem dX11_line_285 : decode cX11_line 285 = .ok (.getfield 31, 3) := by decide +kernel
theorem dX11_line_288 : decode cX11_line 288 = .ok (.iload_n 3, 1) := by decide +kernel
theorem dX11_line_289 : decode cX11_line 289 = .ok (.aload_n 0, 1) := by decide +kernel
theorem dX11_line_290 : decode cX11_line 290 = .ok (.invokevirtual 257, 3) := by decide +kernel
theorem dX11_line_293 : decode cX11_line 293 = .ok (.iastore, 1) := by decide +kernel
theorem dX11_line_294 : decode cX11_line 294 = .ok (.aload_n 0, 1) := by decide +kernel
theorem dX11_line_295 : decode cX11_line 295 = .ok (.getfield 34, 3) := by decide +kernel
theorem dX11_line_298 : decode cX11_line 298 = .ok (.iload_n 3, 1) := by decide +kernel
theorem dX11_line_299 : decode cX11_line 299 = .ok (.aload_n 0, 1) := by decide +kernel
theorem dX11_line_300 : decode cX11_line 300 = .ok (.invokevirtual 260, 3) := by decide +kernel
theorem dX11_line_303 : decode cX11_line 303 = .ok (.iastore, 1) := by decide +kernel
theorem dX11_line_304 : decode cX11_line 304 = .ok (.aload_n 0, 1) := by decide +kernel
theorem dX11_line_305 : decode cX11_line 305 = .ok (.getfield 37, 3) := by decide +kernel
theorem dX11_line_308 : decode cX11_line 308 = .ok (.iload_n 3, 1) := by decide +kernel
theorem dX11_line_309 : decode cX11_line 309 = .ok (.aload_n 0, 1) := by decide +kernel
theorem dX11_line_310 : decode cX11_line 310 = .ok (.iconst 1, 1) := by decide +kernel
theorem dX11_line_311 : decode cX11_line 311 = .ok (.bipush 9, 2) := by decide +kernel
theorem dX11_line_313 : decode cX11_line 313 = .ok (.invokevirtual 249, 3) := by decide +kernel
theorem dX11_line_316 : decode cX11_line 316 = .ok (.iastore, 1) := by decide +kernel
theorem dX11_line_317 : decode cX11_line 317 = .ok (.aload_n 0, 1) := by decide +kernel
theorem dX11_line_318 : decode cX11_line 318 = .ok (.bipush 6, 2) := by decide +kernel
theorem dX11_line_320 : decode cX11_line 320 = .ok (.aload_n 0, 1) := by decide +kernel
theorem dX11_line_321 : decode cX11_line 321 = .ok (.bipush 6, 2) := by decide +kernel
theorem dX11_line_323 : decode cX11_line 323 = .ok (.invokevirtual 233, 3) := by decide +kernel
theorem dX11_line_326 : decode cX11_line 326 = .ok (.iconst 1, 1) := by decide +kernel
theorem dX11_line_327 : decode cX11_line 327 = .ok (.iadd, 1) := by decide +kernel
theorem dX11_line_328 : decode cX11_line 328 = .ok (.invokevirtual 253, 3) := by decide +kernel
theorem dX11_line_331 : decode cX11_line 331 = .ok (.goto 265, 3) := by decide +kernel
theorem dX11_line_334 : decode cX11_line 334 = .ok (.bipush 12, 2) := by decide +kernel
theorem dX11_line_336 : decode cX11_line 336 = .ok (.aload_n 0, 1) := by decide +kernel
theorem dX11_line_337 : decode cX11_line 337 = .ok (.bipush 7, 2) := by decide +kernel
theorem dX11_line_339 : decode cX11_line 339 = .ok (.invokevirtual 233, 3) := by decide +kernel
theorem dX11_line_342 : decode cX11_line 342 = .ok (.iadd, 1) := by decide +kernel
theorem dX11_line_343 : decode cX11_line 343 = .ok (.istore 4, 2) := by decide +kernel
theorem dX11_line_345 : decode cX11_line 345 = .ok (.aload_n 0, 1) := by decide +kernel
theorem dX11_line_346 : decode cX11_line 346 = .ok (.getfield 40, 3) := by decide +kernel
theorem dX11_line_349 : decode cX11_line 349 = .ok (.iload 4, 2) := by decide +kernel
theorem dX11_line_351 : decode cX11_line 351 = .ok (.aload_n 0, 1) := by decide +kernel
theorem dX11_line_352 : decode cX11_line 352 = .ok (.iconst 0, 1) := by decide +kernel
theorem dX11_line_353 : decode cX11_line 353 = .ok (.bipush 99, 2) := by decide +kernel
theorem dX11_line_355 : decode cX11_line 355 = .ok (.invokevirtual 249, 3) := by decide +kernel
theorem dX11_line_358 : decode cX11_line 358 = .ok (.iastore, 1) := by decide +kernel
theorem dX11_line_359 : decode cX11_line 359 = .ok (.aload_n 0, 1) := by decide +kernel
theorem dX11_line_360 : decode cX11_line 360 = .ok (.getfield 43, 3) := by decide +kernel
theorem dX11_line_363 : decode cX11_line 363 = .ok (.iload 4, 2) := by decide +kernel
theorem dX11_line_365 : decode cX11_line 365 = .ok (.aload_n 0, 1) := by decide +kernel
theorem dX11_line_366 : decode cX11_line 366 = .ok (.iconst 0, 1) := by decide +kernel
theorem dX11_line_367 : decode cX11_line 367 = .ok (.iconst 3, 1) := by decide +kernel
theorem dX11_line_368 : decode cX11_line 368 = .ok (.invokevirtual 249, 3) := by decide +kernel
theorem dX11_line_371 : decode cX11_line 371 = .ok (.iastore, 1) := by decide +kernel
theorem dX11_line_372 : decode cX11_line 372 = .ok (.aload_n 0, 1) := by decide +kernel
theorem dX11_line_373 : decode cX11_line 373 = .ok (.bipush 7, 2) := by decide +kernel
theorem dX11_line_375 : decode cX11_line 375 = .ok (.aload_n 0, 1) := by decide +kernel
theorem dX11_line_376 : decode cX11_line 376 = .ok (.bipush 7, 2) := by decide +kernel
theorem dX11_line_378 : decode cX11_line 378 = .ok (.invokevirtual 233, 3) := by decide +kernel
theorem dX11_line_381 : decode cX11_line 381 = .ok (.iconst 1, 1) := by decide +kernel
theorem dX11_line_382 : decode cX11_line 382 = .ok (.iadd, 1) := by decide +kernel
theorem dX11_line_383 : decode cX11_line 383 = .ok (.invokevirtual 253, 3) := by decide +kernel
theorem dX11_line_386 : decode cX11_line 386 = .ok (.goto 210, 3) := by decide +kernel
theorem dX11_line_389 : decode cX11_line 389 = .ok (.bipush 8, 2) := by decide +kernel
theorem dX11_line_391 : decode cX11_line 391 = .ok (.aload_n 0, 1) := by decide +kernel
theorem dX11_line_392 : decode cX11_line 392 = .ok (.bipush 8, 2) := by decide +kernel
theorem dX11_line_394 : decode cX11_line 394 = .ok (.invokevirtual 233, 3) := by decide +kernel
theorem dX11_line_397 : decode cX11_line 397 = .ok (.iadd, 1) := by decide +kernel
theorem dX11_line_398 : decode cX11_line 398 = .ok (.istore 5, 2) := by decide +kernel
theorem dX11_line_400 : decode cX11_line 400 = .ok (.aload_n 0, 1) := by decide +kernel
theorem dX11_line_401 : decode cX11_line 401 = .ok (.getfield 46, 3) := by decide +kernel
theorem dX11_line_404 : decode cX11_line 404 = .ok (.iload 5, 2) := by decide +kernel
theorem dX11_line_406 : decode cX11_line 406 = .ok (.aload_n 0, 1) := by decide +kernel
theorem dX11_line_407 : decode cX11_line 407 = .ok (.aload_n 0, 1) := by decide +kernel
theorem dX11_line_408 : decode cX11_line 408 = .ok (.getfield 46, 3) := by decide +kernel
theorem dX11_line_411 : decode cX11_line 411 = .ok (.bipush 8, 2) := by decide +kernel
theorem dX11_line_413 : decode cX11_line 413 = .ok (.aload_n 0, 1) := by decide +kernel
theorem dX11_line_414 : decode cX11_line 414 = .ok (.bipush 8, 2) := by decide +kernel
theorem dX11_line_416 : decode cX11_line 416 = .ok (.invokevirtual 233, 3) := by decide +kernel
theorem dX11_line_419 : decode cX11_line 419 = .ok (.invokevirtual 269, 3) := by decide +kernel
theorem dX11_line_422 : decode cX11_line 422 = .ok (.iastore, 1) := by decide +kernel
theorem dX11_line_423 : decode cX11_line 423 = .ok (.aload_n 0, 1) := by decide +kernel
theorem dX11_line_424 : decode cX11_line 424 = .ok (.getfield 49, 3) := by decide +kernel
theorem dX11_line_427 : decode cX11_line 427 = .ok (.iload 5, 2) := by decide +kernel
theorem dX11_line_429 : decode cX11_line 429 = .ok (.aload_n 0, 1) := by decide +kernel
theorem dX11_line_430 : decode cX11_line 430 = .ok (.iconst 0, 1) := by decide +kernel
theorem dX11_line_431 : decode cX11_line 431 = .ok (.iconst 1, 1) := by decide +kernel
theorem dX11_line_432 : decode cX11_line 432 = .ok (.invokevirtual 249, 3) := by decide +kernel
theorem dX11_line_435 : decode cX11_line 435 = .ok (.iastore, 1) := by decide +kernel
theorem dX11_line_436 : decode cX11_line 436 = .ok (.aload_n 0, 1) := by decide +kernel
theorem dX11_line_437 : decode cX11_line 437 = .ok (.getfield 52, 3) := by decide +kernel
theorem dX11_line_440 : decode cX11_line 440 = .ok (.iload 5, 2) := by decide +kernel
theorem dX11_line_442 : decode cX11_line 442 = .ok (.aload_n 0, 1) := by decide +kernel
theorem dX11_line_443 : decode cX11_line 443 = .ok (.invokevirtual 257, 3) := by decide +kernel
theorem dX11_line_446 : decode cX11_line 446 = .ok (.iastore, 1) := by decide +kernel
theorem dX11_line_447 : decode cX11_line 447 = .ok (.aload_n 0, 1) := by decide +kernel
theorem dX11_line_448 : decode cX11_line 448 = .ok (.getfield 55, 3) := by decide +kernel
theorem dX11_line_451 : decode cX11_line 451 = .ok (.iload 5, 2) := by decide +kernel
theorem dX11_line_453 : decode cX11_line 453 = .ok (.aload_n 0, 1) := by decide +kernel
theorem dX11_line_454 : decode cX11_line 454 = .ok (.invokevirtual 260, 3) := by decide +kernel
theorem dX11_line_457 : decode cX11_line 457 = .ok (.iastore, 1) := by decide +kernel
theorem dX11_line_458 : decode cX11_line 458 = .ok (.aload_n 0, 1) := by decide +kernel
theorem dX11_line_459 : decode cX11_line 459 = .ok (.getfield 58, 3) := by decide +kernel
theorem dX11_line_462 : decode cX11_line 462 = .ok (.iload 5, 2) := by decide +kernel
theorem dX11_line_464 : decode cX11_line 464 = .ok (.aload_n 0, 1) := by decide +kernel
theorem dX11_line_465 : decode cX11_line 465 = .ok (.iconst 1, 1) := by decide +kernel
theorem dX11_line_466 : decode cX11_line 466 = .ok (.bipush 99, 2) := by decide +kernel
theorem dX11_line_468 : decode cX11_line 468 = .ok (.invokevirtual 249, 3) := by decide +kernel
theorem dX11_line_471 : decode cX11_line 471 = .ok (.iastore, 1) := by decide +kernel
theorem dX11_line_472 : decode cX11_line 472 = .ok (.aload_n 0, 1) := by decide +kernel
theorem dX11_line_473 : decode cX11_line 473 = .ok (.bipush 8, 2) := by decide +kernel
theorem dX11_line_475 : decode cX11_line 475 = .ok (.aload_n 0, 1) := by decide +kernel
theorem dX11_line_476 : decode cX11_line 476 = .ok (.bipush 8, 2) := by decide +kernel
theorem dX11_line_478 : decode cX11_line 478 = .ok (.invokevirtual 233, 3) := by decide +kernel
theorem dX11_line_481 : decode cX11_line 481 = .ok (.iconst 1, 1) := by decide +kernel
theorem dX11_line_482 : decode cX11_line 482 = .ok (.iadd, 1) := by decide +kernel
theorem dX11_line_483 : decode cX11_line 483 = .ok (.invokevirtual 253, 3) := by decide +kernel
theorem dX11_line_486 : decode cX11_line 486 = .ok (.goto 110, 3) := by decide +kernel
theorem dX11_line_489 : decode cX11_line 489 = .ok (.iconst 4, 1) := by decide +kernel
theorem dX11_line_490 : decode cX11_line 490 = .ok (.aload_n 0, 1) := by decide +kernel
theorem dX11_line_491 : decode cX11_line 491 = .ok (.bipush 9, 2) := by decide +kernel
theorem dX11_line_493 : decode cX11_line 493 = .ok (.invokevirtual 233, 3) := by decide +kernel
theorem dX11_line_496 : decode cX11_line 496 = .ok (.iadd, 1) := by decide +kernel
theorem dX11_line_497 : decode cX11_line 497 = .ok (.istore 6, 2) := by decide +kernel
theorem dX11_line_499 : decode cX11_line 499 = .ok (.aload_n 0, 1) := by decide +kernel
theorem dX11_line_500 : decode cX11_line 500 = .ok (.getfield 61, 3) := by decide +kernel
theorem dX11_line_503 : decode cX11_line 503 = .ok (.iload 6, 2) := by decide +kernel
theorem dX11_line_505 : decode cX11_line 505 = .ok (.aload_n 0, 1) := by decide +kernel
theorem dX11_line_506 : decode cX11_line 506 = .ok (.aload_n 0, 1) := by decide +kernel
theorem dX11_line_507 : decode cX11_line 507 = .ok (.getfield 61, 3) := by decide +kernel
theorem dX11_line_510 : decode cX11_line 510 = .ok (.iconst 4, 1) := by decide +kernel
theorem dX11_line_511 : decode cX11_line 511 = .ok (.aload_n 0, 1) := by decide +kernel
theorem dX11_line_512 : decode cX11_line 512 = .ok (.bipush 9, 2) := by decide +kernel
theorem dX11_line_514 : decode cX11_line 514 = .ok (.invokevirtual 233, 3) := by decide +kernel
theorem dX11_line_517 : decode cX11_line 517 = .ok (.invokevirtual 269, 3) := by decide +kernel
theorem dX11_line_520 : decode cX11_line 520 = .ok (.iastore, 1) := by decide +kernel
theorem dX11_line_521 : decode cX11_line 521 = .ok (.aload_n 0, 1) := by decide +kernel
theorem dX11_line_522 : decode cX11_line 522 = .ok (.getfield 64, 3) := by decide +kernel
theorem dX11_line_525 : decode cX11_line 525 = .ok (.iload 6, 2) := by decide +kernel
theorem dX11_line_527 : decode cX11_line 527 = .ok (.aload_n 0, 1) := by decide +kernel
theorem dX11_line_528 : decode cX11_line 528 = .ok (.invokevirtual 257, 3) := by decide +kernel
theorem dX11_line_531 : decode cX11_line 531 = .ok (.iastore, 1) := by decide +kernel
theorem dX11_line_532 : decode cX11_line 532 = .ok (.aload_n 0, 1) := by decide +kernel
theorem dX11_line_533 : decode cX11_line 533 = .ok (.getfield 67, 3) := by decide +kernel
theorem dX11_line_536 : decode cX11_line 536 = .ok (.iload 6, 2) := by decide +kernel
theorem dX11_line_538 : decode cX11_line 538 = .ok (.aload_n 0, 1) := by decide +kernel
theorem dX11_line_539 : decode cX11_line 539 = .ok (.invokevirtual 260, 3) := by decide +kernel
theorem dX11_line_542 : decode cX11_line 542 = .ok (.iastore, 1) := by decide +kernel
theorem dX11_line_543 : decode cX11_line 543 = .ok (.aload_n 0, 1) := by decide +kernel
theorem dX11_line_544 : decode cX11_line 544 = .ok (.bipush 9, 2) := by decide +kernel
theorem dX11_line_546 : decode cX11_line 546 = .ok (.aload_n 0, 1) := by decide +kernel
theorem dX11_line_547 : decode cX11_line 547 = .ok (.bipush 9, 2) := by decide +kernel
theorem dX11_line_549 : decode cX11_line 549 = .ok (.invokevirtual 233, 3) := by decide +kernel
theorem dX11_line_552 : decode cX11_line 552 = .ok (.iconst 1, 1) := by decide +kernel
theorem dX11_line_553 : decode cX11_line 553 = .ok (.iadd, 1) := by decide +kernel
theorem dX11_line_554 : decode cX11_line 554 = .ok (.invokevirtual 253, 3) := by decide +kernel
theorem dX11_line_557 : decode cX11_line 557 = .ok (.goto 39, 3) := by decide +kernel
theorem dX11_line_560 : decode cX11_line 560 = .ok (.aload_n 0, 1) := by decide +kernel
theorem dX11_line_561 : decode cX11_line 561 = .ok (.bipush 10, 2) := by decide +kernel
theorem dX11_line_563 : decode cX11_line 563 = .ok (.aload_n 0, 1) := by decide +kernel
theorem dX11_line_564 : decode cX11_line 564 = .ok (.iconst 0, 1) := by decide +kernel
theorem dX11_line_565 : decode cX11_line 565 = .ok (.bipush 100, 2) := by decide +kernel
theorem dX11_line_567 : decode cX11_line 567 = .ok (.invokevirtual 249, 3) := by decide +kernel
theorem dX11_line_570 : decode cX11_line 570 = .ok (.invokevirtual 253, 3) := by decide +kernel
theorem dX11_line_573 : decode cX11_line 573 = .ok (.goto 23, 3) := by decide +kernel
theorem dX11_line_576 : decode cX11_line 576 = .ok (.aload_n 0, 1) := by decide +kernel
theorem dX11_line_577 : decode cX11_line 577 = .ok (.bipush 11, 2) := by decide +kernel
theorem dX11_line_579 : decode cX11_line 579 = .ok (.aload_n 0, 1) := by decide +kernel
theorem dX11_line_580 : decode cX11_line 580 = .ok (.iconst 0, 1) := by decide +kernel
theorem dX11_line_581 : decode cX11_line 581 = .ok (.ldc 201, 2) := by decide +kernel
theorem dX11_line_583 : decode cX11_line 583 = .ok (.invokevirtual 249, 3) := by decide +kernel
theorem dX11_line_586 : decode cX11_line 586 = .ok (.invokevirtual 253, 3) := by decide +kernel
theorem dX11_line_589 : decode cX11_line 589 = .ok (.goto 7, 3) := by decide +kernel
theorem dX11_line_592 : decode cX11_line 592 = .ok (.aload_n 0, 1) := by decide +kernel
theorem dX11_line_593 : decode cX11_line 593 = .ok (.invokevirtual 273, 3) := by decide +kernel
theorem dX11_line_596 : decode cX11_line 596 = .ok (.aload_n 0, 1) := by decide +kernel
theorem dX11_line_597 : decode cX11_line 597 = .ok (.getfield 217, 3) := by decide +kernel
theorem dX11_line_600 : decode cX11_line 600 = .ok (.ifCond .eq 4, 3) := by decide +kernel
theorem dX11_line_603 : decode cX11_line 603 = .ok (.return_, 1) := by decide +kernel
theorem dX11_line_604 : decode cX11_line 604 = .ok (.aload_n 0, 1) := by decide +kernel
theorem dX11_line_605 : decode cX11_line 605 = .ok (.bipush 59, 2) := by decide +kernel
theorem dX11_line_607 : decode cX11_line 607 = .ok (.invokevirtual 276, 3) := by decide +kernel
theorem dX11_line_610 : decode cX11_line 610 = .ok (.ifCond .ne 11, 3) := by decide +kernel
theorem dX11_line_613 : decode cX11_line 613 = .ok (.aload_n 0, 1) := by decide +kernel
theorem dX11_line_614 : decode cX11_line 614 = .ok (.iconst 1, 1) := by decide +kernel
theorem dX11_line_615 : decode cX11_line 615 = .ok (.invokevirtual 226, 3) := by decide +kernel
theorem dX11_line_618 : decode cX11_line 618 = .ok (.goto 7, 3) := by decide +kernel
theorem dX11_line_621 : decode cX11_line 621 = .ok (.aload_n 0, 1) := by decide +kernel
theorem dX11_line_622 : decode cX11_line 622 = .ok (.invokevirtual 223, 3) := by decide +kernel
theorem dX11_line_625 : decode cX11_line 625 = .ok (.aload_n 0, 1) := by decide +kernel
theorem dX11_line_626 : decode cX11_line 626 = .ok (.dup, 1) := by decide +kernel
theorem dX11_line_627 : decode cX11_line 627 = .ok (.getfield 237, 3) := by decide +kernel
theorem dX11_line_630 : decode cX11_line 630 = .ok (.iconst 1, 1) := by decide +kernel
theorem dX11_line_631 : decode cX11_line 631 = .ok (.iadd, 1) := by decide +kernel
theorem dX11_line_632 : decode cX11_line 632 = .ok (.putfield 237, 3) := by decide +kernel
theorem dX11_line_635 : decode cX11_line 635 = .ok (.return_, 1) := by decide +kernel
theorem dX11_rowToken_0 : decode cX11_rowToken 0 = .ok (.aload_n 0, 1) := by decide +kernel
theorem dX11_rowToken_1 : decode cX11_rowToken 1 = .ok (.iconst 0, 1) := by decide +kernel
theorem dX11_rowToken_2 : decode cX11_rowToken 2 = .ok (.aload_n 0, 1) := by decide +kernel
theorem dX11_rowToken_3 : decode cX11_rowToken 3 = .ok (.iconst 0, 1) := by decide +kernel
theorem dX11_rowToken_4 : decode cX11_rowToken 4 = .ok (.invokevirtual 233, 3) := by decide +kernel
theorem dX11_rowToken_7 : decode cX11_rowToken 7 = .ok (.iconst 1, 1) := by decide +kernel
theorem dX11_rowToken_8 : decode cX11_rowToken 8 = .ok (.isub, 1) := by decide +kernel
theorem dX11_rowToken_9 : decode cX11_rowToken 9 = .ok (.invokevirtual 249, 3) := by decide +kernel
theorem dX11_rowToken_12 : decode cX11_rowToken 12 = .ok (.ireturn, 1) := by decide +kernel
theorem dX11_columnToken_0 : decode cX11_columnToken 0 = .ok (.aload_n 0, 1) := by decide +kernel
theorem dX11_columnToken_1 : decode cX11_columnToken 1 = .ok (.iconst 0, 1) := by decide +kernel
theorem dX11_columnToken_2 : decode cX11_columnToken 2 = .ok (.aload_n 0, 1) := by decide +kernel
theorem dX11_columnToken_3 : decode cX11_columnToken 3 = .ok (.iconst 1, 1) := by decide +kernel
theorem dX11_columnToken_4 : decode cX11_columnToken 4 = .ok (.invokevirtual 233, 3) := by decide +kernel
theorem dX11_columnToken_7 : decode cX11_columnToken 7 = .ok (.iconst 1, 1) := by decide +kernel
theorem dX11_columnToken_8 : decode cX11_columnToken 8 = .ok (.isub, 1) := by decide +kernel
theorem dX11_columnToken_9 : decode cX11_columnToken 9 = .ok (.invokevirtual 249, 3) := by decide +kernel
theorem dX11_columnToken_12 : decode cX11_columnToken 12 = .ok (.ireturn, 1) := by decide +kernel
theorem dX11_wallLine_0 : decode cX11_wallLine 0 = .ok (.aload_n 0, 1) := by decide +kernel
theorem dX11_wallLine_1 : decode cX11_wallLine 1 = .ok (.invokevirtual 257, 3) := by decide +kernel
theorem dX11_wallLine_4 : decode cX11_wallLine 4 = .ok (.istore_n 1, 1) := by decide +kernel
theorem dX11_wallLine_5 : decode cX11_wallLine 5 = .ok (.aload_n 0, 1) := by decide +kernel
theorem dX11_wallLine_6 : decode cX11_wallLine 6 = .ok (.getfield 217, 3) := by decide +kernel
theorem dX11_wallLine_9 : decode cX11_wallLine 9 = .ok (.ifCond .ne 84, 3) := by decide +kernel
theorem dX11_wallLine_12 : decode cX11_wallLine 12 = .ok (.aload_n 0, 1) := by decide +kernel
theorem dX11_wallLine_13 : decode cX11_wallLine 13 = .ok (.getfield 182, 3) := by decide +kernel
theorem dX11_wallLine_16 : decode cX11_wallLine 16 = .ok (.iconst 2, 1) := by decide +kernel
theorem dX11_wallLine_17 : decode cX11_wallLine 17 = .ok (.if_icmp .ne 76, 3) := by decide +kernel
theorem dX11_wallLine_20 : decode cX11_wallLine 20 = .ok (.aload_n 0, 1) := by decide +kernel
theorem dX11_wallLine_21 : decode cX11_wallLine 21 = .ok (.getfield 192, 3) := by decide +kernel
theorem dX11_wallLine_24 : decode cX11_wallLine 24 = .ok (.aload_n 0, 1) := by decide +kernel
theorem dX11_wallLine_25 : decode cX11_wallLine 25 = .ok (.iconst 1, 1) := by decide +kernel
theorem dX11_wallLine_26 : decode cX11_wallLine 26 = .ok (.invokevirtual 233, 3) := by decide +kernel
theorem dX11_wallLine_29 : decode cX11_wallLine 29 = .ok (.if_icmp .ge 64, 3) := by decide +kernel
theorem dX11_wallLine_32 : decode cX11_wallLine 32 = .ok (.iload_n 1, 1) := by decide +kernel
theorem dX11_wallLine_33 : decode cX11_wallLine 33 = .ok (.aload_n 0, 1) := by decide +kernel
theorem dX11_wallLine_34 : decode cX11_wallLine 34 = .ok (.iconst 2, 1) := by decide +kernel
theorem dX11_wallLine_35 : decode cX11_wallLine 35 = .ok (.invokevirtual 233, 3) := by decide +kernel
theorem dX11_wallLine_38 : decode cX11_wallLine 38 = .ok (.if_icmp .ne 23, 3) := by decide +kernel
theorem dX11_wallLine_41 : decode cX11_wallLine 41 = .ok (.aload_n 0, 1) := by decide +kernel
theorem dX11_wallLine_42 : decode cX11_wallLine 42 = .ok (.getfield 192, 3) := by decide +kernel
theorem dX11_wallLine_45 : decode cX11_wallLine 45 = .ok (.aload_n 0, 1) := by decide +kernel
theorem dX11_wallLine_46 : decode cX11_wallLine 46 = .ok (.iconst 3, 1) := by decide +kernel
theorem dX11_wallLine_47 : decode cX11_wallLine 47 = .ok (.invokevirtual 233, 3) := by decide +kernel
theorem dX11_wallLine_50 : decode cX11_wallLine 50 = .ok (.if_icmp .ne 11, 3) := by decide +kernel
theorem dX11_wallLine_53 : decode cX11_wallLine 53 = .ok (.aload_n 0, 1) := by decide +kernel
theorem dX11_wallLine_54 : decode cX11_wallLine 54 = .ok (.iconst 5, 1) := by decide +kernel
theorem dX11_wallLine_55 : decode cX11_wallLine 55 = .ok (.invokevirtual 226, 3) := by decide +kernel
theorem dX11_wallLine_58 : decode cX11_wallLine 58 = .ok (.goto 35, 3) := by decide +kernel
theorem dX11_wallLine_61 : decode cX11_wallLine 61 = .ok (.aload_n 0, 1) := by decide +kernel
theorem dX11_wallLine_62 : decode cX11_wallLine 62 = .ok (.getfield 16, 3) := by decide +kernel
theorem dX11_wallLine_65 : decode cX11_wallLine 65 = .ok (.bipush 8, 2) := by decide +kernel
theorem dX11_wallLine_67 : decode cX11_wallLine 67 = .ok (.aload_n 0, 1) := by decide +kernel
theorem dX11_wallLine_68 : decode cX11_wallLine 68 = .ok (.iconst 4, 1) := by decide +kernel
theorem dX11_wallLine_69 : decode cX11_wallLine 69 = .ok (.invokevirtual 233, 3) := by decide +kernel
theorem dX11_wallLine_72 : decode cX11_wallLine 72 = .ok (.bipush 8, 2) := by decide +kernel
theorem dX11_wallLine_74 : decode cX11_wallLine 74 = .ok (.iload_n 1, 1) := by decide +kernel
theorem dX11_wallLine_75 : decode cX11_wallLine 75 = .ok (.imul, 1) := by decide +kernel
theorem dX11_wallLine_76 : decode cX11_wallLine 76 = .ok (.aload_n 0, 1) := by decide +kernel
theorem dX11_wallLine_77 : decode cX11_wallLine 77 = .ok (.getfield 192, 3) := by decide +kernel
theorem dX11_wallLine_80 : decode cX11_wallLine 80 = .ok (.iadd, 1) := by decide +kernel
theorem dX11_wallLine_81 : decode cX11_wallLine 81 = .ok (.invokestatic 229, 3) := by decide +kernel
theorem dX11_wallLine_84 : decode cX11_wallLine 84 = .ok (.iconst (-1), 1) := by decide +kernel
theorem dX11_wallLine_85 : decode cX11_wallLine 85 = .ok (.if_icmp .eq 8, 3) := by decide +kernel
theorem dX11_wallLine_88 : decode cX11_wallLine 88 = .ok (.aload_n 0, 1) := by decide +kernel
theorem dX11_wallLine_89 : decode cX11_wallLine 89 = .ok (.iconst 5, 1) := by decide +kernel
theorem dX11_wallLine_90 : decode cX11_wallLine 90 = .ok (.invokevirtual 226, 3) := by decide +kernel
theorem dX11_wallLine_93 : decode cX11_wallLine 93 = .ok (.aload_n 0, 1) := by decide +kernel
theorem dX11_wallLine_94 : decode cX11_wallLine 94 = .ok (.getfield 16, 3) := by decide +kernel
theorem dX11_wallLine_97 : decode cX11_wallLine 97 = .ok (.bipush 8, 2) := by decide +kernel
theorem dX11_wallLine_99 : decode cX11_wallLine 99 = .ok (.aload_n 0, 1) := by decide +kernel
theorem dX11_wallLine_100 : decode cX11_wallLine 100 = .ok (.iconst 4, 1) := by decide +kernel
theorem dX11_wallLine_101 : decode cX11_wallLine 101 = .ok (.invokevirtual 233, 3) := by decide +kernel
theorem dX11_wallLine_104 : decode cX11_wallLine 104 = .ok (.iadd, 1) := by decide +kernel
theorem dX11_wallLine_105 : decode cX11_wallLine 105 = .ok (.bipush 8, 2) := by decide +kernel
theorem dX11_wallLine_107 : decode cX11_wallLine 107 = .ok (.iload_n 1, 1) := by decide +kernel
theorem dX11_wallLine_108 : decode cX11_wallLine 108 = .ok (.imul, 1) := by decide +kernel
theorem dX11_wallLine_109 : decode cX11_wallLine 109 = .ok (.aload_n 0, 1) := by decide +kernel
theorem dX11_wallLine_110 : decode cX11_wallLine 110 = .ok (.invokevirtual 260, 3) := by decide +kernel
theorem dX11_wallLine_113 : decode cX11_wallLine 113 = .ok (.iadd, 1) := by decide +kernel
theorem dX11_wallLine_114 : decode cX11_wallLine 114 = .ok (.iastore, 1) := by decide +kernel
theorem dX11_wallLine_115 : decode cX11_wallLine 115 = .ok (.aload_n 0, 1) := by decide +kernel
theorem dX11_wallLine_116 : decode cX11_wallLine 116 = .ok (.iconst 4, 1) := by decide +kernel
theorem dX11_wallLine_117 : decode cX11_wallLine 117 = .ok (.aload_n 0, 1) := by decide +kernel
theorem dX11_wallLine_118 : decode cX11_wallLine 118 = .ok (.iconst 4, 1) := by decide +kernel
theorem dX11_wallLine_119 : decode cX11_wallLine 119 = .ok (.invokevirtual 233, 3) := by decide +kernel
theorem dX11_wallLine_122 : decode cX11_wallLine 122 = .ok (.iconst 1, 1) := by decide +kernel
theorem dX11_wallLine_123 : decode cX11_wallLine 123 = .ok (.iadd, 1) := by decide +kernel
theorem dX11_wallLine_124 : decode cX11_wallLine 124 = .ok (.invokevirtual 253, 3) := by decide +kernel
theorem dX11_wallLine_127 : decode cX11_wallLine 127 = .ok (.return_, 1) := by decide +kernel
theorem dX11_sunLine_0 : decode cX11_sunLine 0 = .ok (.bipush 6, 2) := by decide +kernel
theorem dX11_sunLine_2 : decode cX11_sunLine 2 = .ok (.aload_n 0, 1) := by decide +kernel
theorem dX11_sunLine_3 : decode cX11_sunLine 3 = .ok (.iconst 5, 1) := by decide +kernel
theorem dX11_sunLine_4 : decode cX11_sunLine 4 = .ok (.invokevirtual 233, 3) := by decide +kernel
theorem dX11_sunLine_7 : decode cX11_sunLine 7 = .ok (.iadd, 1) := by decide +kernel
theorem dX11_sunLine_8 : decode cX11_sunLine 8 = .ok (.istore_n 1, 1) := by decide +kernel
theorem dX11_sunLine_9 : decode cX11_sunLine 9 = .ok (.aload_n 0, 1) := by decide +kernel
theorem dX11_sunLine_10 : decode cX11_sunLine 10 = .ok (.getfield 182, 3) := by decide +kernel
theorem dX11_sunLine_13 : decode cX11_sunLine 13 = .ok (.iconst 2, 1) := by decide +kernel
theorem dX11_sunLine_14 : decode cX11_sunLine 14 = .ok (.if_icmp .ne 32, 3) := by decide +kernel
theorem dX11_sunLine_17 : decode cX11_sunLine 17 = .ok (.aload_n 0, 1) := by decide +kernel
theorem dX11_sunLine_18 : decode cX11_sunLine 18 = .ok (.getfield 192, 3) := by decide +kernel
theorem dX11_sunLine_21 : decode cX11_sunLine 21 = .ok (.bipush 24, 2) := by decide +kernel
theorem dX11_sunLine_23 : decode cX11_sunLine 23 = .ok (.if_icmp .ge 23, 3) := by decide +kernel
theorem dX11_sunLine_26 : decode cX11_sunLine 26 = .ok (.aload_n 0, 1) := by decide +kernel
theorem dX11_sunLine_27 : decode cX11_sunLine 27 = .ok (.getfield 279, 3) := by decide +kernel
theorem dX11_sunLine_30 : decode cX11_sunLine 30 = .ok (.aload_n 0, 1) := by decide +kernel
theorem dX11_sunLine_31 : decode cX11_sunLine 31 = .ok (.getfield 192, 3) := by decide +kernel
theorem dX11_sunLine_34 : decode cX11_sunLine 34 = .ok (.ishr, 1) := by decide +kernel
theorem dX11_sunLine_35 : decode cX11_sunLine 35 = .ok (.iconst 1, 1) := by decide +kernel
theorem dX11_sunLine_36 : decode cX11_sunLine 36 = .ok (.iand, 1) := by decide +kernel
theorem dX11_sunLine_37 : decode cX11_sunLine 37 = .ok (.iconst 1, 1) := by decide +kernel
theorem dX11_sunLine_38 : decode cX11_sunLine 38 = .ok (.if_icmp .ne 8, 3) := by decide +kernel
theorem dX11_sunLine_41 : decode cX11_sunLine 41 = .ok (.aload_n 0, 1) := by decide +kernel
theorem dX11_sunLine_42 : decode cX11_sunLine 42 = .ok (.iconst 3, 1) := by decide +kernel
theorem dX11_sunLine_43 : decode cX11_sunLine 43 = .ok (.invokevirtual 226, 3) := by decide +kernel
theorem dX11_sunLine_46 : decode cX11_sunLine 46 = .ok (.aload_n 0, 1) := by decide +kernel
theorem dX11_sunLine_47 : decode cX11_sunLine 47 = .ok (.getfield 19, 3) := by decide +kernel
theorem dX11_sunLine_50 : decode cX11_sunLine 50 = .ok (.iload_n 1, 1) := by decide +kernel
theorem dX11_sunLine_51 : decode cX11_sunLine 51 = .ok (.aload_n 0, 1) := by decide +kernel
theorem dX11_sunLine_52 : decode cX11_sunLine 52 = .ok (.iconst 0, 1) := by decide +kernel
theorem dX11_sunLine_53 : decode cX11_sunLine 53 = .ok (.bipush 23, 2) := by decide +kernel
theorem dX11_sunLine_55 : decode cX11_sunLine 55 = .ok (.invokevirtual 249, 3) := by decide +kernel
theorem dX11_sunLine_58 : decode cX11_sunLine 58 = .ok (.iastore, 1) := by decide +kernel
theorem dX11_sunLine_59 : decode cX11_sunLine 59 = .ok (.aload_n 0, 1) := by decide +kernel
theorem dX11_sunLine_60 : decode cX11_sunLine 60 = .ok (.dup, 1) := by decide +kernel
theorem dX11_sunLine_61 : decode cX11_sunLine 61 = .ok (.getfield 279, 3) := by decide +kernel
theorem dX11_sunLine_64 : decode cX11_sunLine 64 = .ok (.iconst 1, 1) := by decide +kernel
theorem dX11_sunLine_65 : decode cX11_sunLine 65 = .ok (.aload_n 0, 1) := by decide +kernel
theorem dX11_sunLine_66 : decode cX11_sunLine 66 = .ok (.getfield 19, 3) := by decide +kernel
theorem dX11_sunLine_69 : decode cX11_sunLine 69 = .ok (.iload_n 1, 1) := by decide +kernel
theorem dX11_sunLine_70 : decode cX11_sunLine 70 = .ok (.iaload, 1) := by decide +kernel
theorem dX11_sunLine_71 : decode cX11_sunLine 71 = .ok (.ishl, 1) := by decide +kernel
theorem dX11_sunLine_72 : decode cX11_sunLine 72 = .ok (.ior, 1) := by decide +kernel
theorem dX11_sunLine_73 : decode cX11_sunLine 73 = .ok (.putfield 279, 3) := by decide +kernel
theorem dX11_sunLine_76 : decode cX11_sunLine 76 = .ok (.aload_n 0, 1) := by decide +kernel
theorem dX11_sunLine_77 : decode cX11_sunLine 77 = .ok (.getfield 22, 3) := by decide +kernel
theorem dX11_sunLine_80 : decode cX11_sunLine 80 = .ok (.iload_n 1, 1) := by decide +kernel
theorem dX11_sunLine_81 : decode cX11_sunLine 81 = .ok (.aload_n 0, 1) := by decide +kernel
theorem dX11_sunLine_82 : decode cX11_sunLine 82 = .ok (.iconst 0, 1) := by decide +kernel
theorem dX11_sunLine_83 : decode cX11_sunLine 83 = .ok (.iconst 3, 1) := by decide +kernel
theorem dX11_sunLine_84 : decode cX11_sunLine 84 = .ok (.invokevirtual 249, 3) := by decide +kernel
theorem dX11_sunLine_87 : decode cX11_sunLine 87 = .ok (.iastore, 1) := by decide +kernel
theorem dX11_sunLine_88 : decode cX11_sunLine 88 = .ok (.aload_n 0, 1) := by decide +kernel
theorem dX11_sunLine_89 : decode cX11_sunLine 89 = .ok (.getfield 25, 3) := by decide +kernel
theorem dX11_sunLine_92 : decode cX11_sunLine 92 = .ok (.iload_n 1, 1) := by decide +kernel
theorem dX11_sunLine_93 : decode cX11_sunLine 93 = .ok (.aload_n 0, 1) := by decide +kernel
theorem dX11_sunLine_94 : decode cX11_sunLine 94 = .ok (.iconst 0, 1) := by decide +kernel
theorem dX11_sunLine_95 : decode cX11_sunLine 95 = .ok (.bipush 7, 2) := by decide +kernel
theorem dX11_sunLine_97 : decode cX11_sunLine 97 = .ok (.invokevirtual 249, 3) := by decide +kernel
theorem dX11_sunLine_100 : decode cX11_sunLine 100 = .ok (.iastore, 1) := by decide +kernel
theorem dX11_sunLine_101 : decode cX11_sunLine 101 = .ok (.aload_n 0, 1) := by decide +kernel
theorem dX11_sunLine_102 : decode cX11_sunLine 102 = .ok (.iconst 5, 1) := by decide +kernel
theorem dX11_sunLine_103 : decode cX11_sunLine 103 = .ok (.aload_n 0, 1) := by decide +kernel
theorem dX11_sunLine_104 : decode cX11_sunLine 104 = .ok (.iconst 5, 1) := by decide +kernel
theorem dX11_sunLine_105 : decode cX11_sunLine 105 = .ok (.invokevirtual 233, 3) := by decide +kernel
theorem dX11_sunLine_108 : decode cX11_sunLine 108 = .ok (.iconst 1, 1) := by decide +kernel
theorem dX11_sunLine_109 : decode cX11_sunLine 109 = .ok (.iadd, 1) := by decide +kernel
theorem dX11_sunLine_110 : decode cX11_sunLine 110 = .ok (.invokevirtual 253, 3) := by decide +kernel
theorem dX11_sunLine_113 : decode cX11_sunLine 113 = .ok (.return_, 1) := by decide +kernel
theorem dX11_lawLine_0 : decode cX11_lawLine 0 = .ok (.aload_n 0, 1) := by decide +kernel
theorem dX11_lawLine_1 : decode cX11_lawLine 1 = .ok (.getfield 182, 3) := by decide +kernel
theorem dX11_lawLine_4 : decode cX11_lawLine 4 = .ok (.ifCond .ne 21, 3) := by decide +kernel
theorem dX11_lawLine_7 : decode cX11_lawLine 7 = .ok (.aload_n 0, 1) := by decide +kernel
theorem dX11_lawLine_8 : decode cX11_lawLine 8 = .ok (.getfield 192, 3) := by decide +kernel
theorem dX11_lawLine_11 : decode cX11_lawLine 11 = .ok (.bipush 11, 2) := by decide +kernel
theorem dX11_lawLine_13 : decode cX11_lawLine 13 = .ok (.if_icmp .lt 12, 3) := by decide +kernel
theorem dX11_lawLine_16 : decode cX11_lawLine 16 = .ok (.aload_n 0, 1) := by decide +kernel
theorem dX11_lawLine_17 : decode cX11_lawLine 17 = .ok (.getfield 192, 3) := by decide +kernel
theorem dX11_lawLine_20 : decode cX11_lawLine 20 = .ok (.bipush 13, 2) := by decide +kernel
theorem dX11_lawLine_22 : decode cX11_lawLine 22 = .ok (.if_icmp .le 8, 3) := by decide +kernel
theorem dX11_lawLine_25 : decode cX11_lawLine 25 = .ok (.aload_n 0, 1) := by decide +kernel
theorem dX11_lawLine_26 : decode cX11_lawLine 26 = .ok (.iconst 1, 1) := by decide +kernel
theorem dX11_lawLine_27 : decode cX11_lawLine 27 = .ok (.invokevirtual 226, 3) := by decide +kernel
theorem dX11_lawLine_30 : decode cX11_lawLine 30 = .ok (.aload_n 0, 1) := by decide +kernel
theorem dX11_lawLine_31 : decode cX11_lawLine 31 = .ok (.getfield 192, 3) := by decide +kernel
theorem dX11_lawLine_34 : decode cX11_lawLine 34 = .ok (.bipush 11, 2) := by decide +kernel
theorem dX11_lawLine_36 : decode cX11_lawLine 36 = .ok (.isub, 1) := by decide +kernel
theorem dX11_lawLine_37 : decode cX11_lawLine 37 = .ok (.istore_n 1, 1) := by decide +kernel
theorem dX11_lawLine_38 : decode cX11_lawLine 38 = .ok (.aload_n 0, 1) := by decide +kernel
theorem dX11_lawLine_39 : decode cX11_lawLine 39 = .ok (.getfield 217, 3) := by decide +kernel
theorem dX11_lawLine_42 : decode cX11_lawLine 42 = .ok (.ifCond .ne 23, 3) := by decide +kernel
theorem dX11_lawLine_45 : decode cX11_lawLine 45 = .ok (.aload_n 0, 1) := by decide +kernel
theorem dX11_lawLine_46 : decode cX11_lawLine 46 = .ok (.getfield 246, 3) := by decide +kernel
theorem dX11_lawLine_49 : decode cX11_lawLine 49 = .ok (.bipush 16, 2) := by decide +kernel
theorem dX11_lawLine_51 : decode cX11_lawLine 51 = .ok (.iload_n 1, 1) := by decide +kernel
theorem dX11_lawLine_52 : decode cX11_lawLine 52 = .ok (.iadd, 1) := by decide +kernel
theorem dX11_lawLine_53 : decode cX11_lawLine 53 = .ok (.ishr, 1) := by decide +kernel
theorem dX11_lawLine_54 : decode cX11_lawLine 54 = .ok (.iconst 1, 1) := by decide +kernel
theorem dX11_lawLine_55 : decode cX11_lawLine 55 = .ok (.iand, 1) := by decide +kernel
theorem dX11_lawLine_56 : decode cX11_lawLine 56 = .ok (.iconst 1, 1) := by decide +kernel
theorem dX11_lawLine_57 : decode cX11_lawLine 57 = .ok (.if_icmp .ne 8, 3) := by decide +kernel
theorem dX11_lawLine_60 : decode cX11_lawLine 60 = .ok (.aload_n 0, 1) := by decide +kernel
theorem dX11_lawLine_61 : decode cX11_lawLine 61 = .ok (.iconst 3, 1) := by decide +kernel
theorem dX11_lawLine_62 : decode cX11_lawLine 62 = .ok (.invokevirtual 226, 3) := by decide +kernel
theorem dX11_lawLine_65 : decode cX11_lawLine 65 = .ok (.aload_n 0, 1) := by decide +kernel
theorem dX11_lawLine_66 : decode cX11_lawLine 66 = .ok (.getfield 217, 3) := by decide +kernel
theorem dX11_lawLine_69 : decode cX11_lawLine 69 = .ok (.ifCond .eq 4, 3) := by decide +kernel
theorem dX11_lawLine_72 : decode cX11_lawLine 72 = .ok (.return_, 1) := by decide +kernel
theorem dX11_lawLine_73 : decode cX11_lawLine 73 = .ok (.aload_n 0, 1) := by decide +kernel
theorem dX11_lawLine_74 : decode cX11_lawLine 74 = .ok (.dup, 1) := by decide +kernel
theorem dX11_lawLine_75 : decode cX11_lawLine 75 = .ok (.getfield 246, 3) := by decide +kernel
theorem dX11_lawLine_78 : decode cX11_lawLine 78 = .ok (.iconst 1, 1) := by decide +kernel
theorem dX11_lawLine_79 : decode cX11_lawLine 79 = .ok (.bipush 16, 2) := by decide +kernel
theorem dX11_lawLine_81 : decode cX11_lawLine 81 = .ok (.iload_n 1, 1) := by decide +kernel
theorem dX11_lawLine_82 : decode cX11_lawLine 82 = .ok (.iadd, 1) := by decide +kernel
theorem dX11_lawLine_83 : decode cX11_lawLine 83 = .ok (.ishl, 1) := by decide +kernel
theorem dX11_lawLine_84 : decode cX11_lawLine 84 = .ok (.ior, 1) := by decide +kernel
theorem dX11_lawLine_85 : decode cX11_lawLine 85 = .ok (.putfield 246, 3) := by decide +kernel
theorem dX11_lawLine_88 : decode cX11_lawLine 88 = .ok (.aload_n 0, 1) := by decide +kernel
theorem dX11_lawLine_89 : decode cX11_lawLine 89 = .ok (.invokevirtual 223, 3) := by decide +kernel
theorem dX11_lawLine_92 : decode cX11_lawLine 92 = .ok (.aload_n 0, 1) := by decide +kernel
theorem dX11_lawLine_93 : decode cX11_lawLine 93 = .ok (.getfield 70, 3) := by decide +kernel
theorem dX11_lawLine_96 : decode cX11_lawLine 96 = .ok (.iconst 3, 1) := by decide +kernel
theorem dX11_lawLine_97 : decode cX11_lawLine 97 = .ok (.iload_n 1, 1) := by decide +kernel
theorem dX11_lawLine_98 : decode cX11_lawLine 98 = .ok (.iadd, 1) := by decide +kernel
theorem dX11_lawLine_99 : decode cX11_lawLine 99 = .ok (.aload_n 0, 1) := by decide +kernel
theorem dX11_lawLine_100 : decode cX11_lawLine 100 = .ok (.bipush 12, 2) := by decide +kernel
theorem dX11_lawLine_102 : decode cX11_lawLine 102 = .ok (.invokevirtual 233, 3) := by decide +kernel
theorem dX11_lawLine_105 : decode cX11_lawLine 105 = .ok (.iastore, 1) := by decide +kernel
theorem dX11_lawLine_106 : decode cX11_lawLine 106 = .ok (.aload_n 0, 1) := by decide +kernel
theorem dX11_lawLine_107 : decode cX11_lawLine 107 = .ok (.invokevirtual 282, 3) := by decide +kernel
theorem dX11_lawLine_110 : decode cX11_lawLine 110 = .ok (.aload_n 0, 1) := by decide +kernel
theorem dX11_lawLine_111 : decode cX11_lawLine 111 = .ok (.getfield 73, 3) := by decide +kernel
theorem dX11_lawLine_114 : decode cX11_lawLine 114 = .ok (.iconst 3, 1) := by decide +kernel
theorem dX11_lawLine_115 : decode cX11_lawLine 115 = .ok (.iload_n 1, 1) := by decide +kernel
theorem dX11_lawLine_116 : decode cX11_lawLine 116 = .ok (.iadd, 1) := by decide +kernel
theorem dX11_lawLine_117 : decode cX11_lawLine 117 = .ok (.aload_n 0, 1) := by decide +kernel
theorem dX11_lawLine_118 : decode cX11_lawLine 118 = .ok (.bipush 12, 2) := by decide +kernel
theorem dX11_lawLine_120 : decode cX11_lawLine 120 = .ok (.invokevirtual 233, 3) := by decide +kernel
theorem dX11_lawLine_123 : decode cX11_lawLine 123 = .ok (.iastore, 1) := by decide +kernel
theorem dX11_lawLine_124 : decode cX11_lawLine 124 = .ok (.return_, 1) := by decide +kernel
theorem dX11_puts_0 : decode cX11_puts 0 = .ok (.aload_n 0, 1) := by decide +kernel
theorem dX11_puts_1 : decode cX11_puts 1 = .ok (.getfield 217, 3) := by decide +kernel
theorem dX11_puts_4 : decode cX11_puts 4 = .ok (.ifCond .eq 4, 3) := by decide +kernel
theorem dX11_puts_7 : decode cX11_puts 7 = .ok (.return_, 1) := by decide +kernel
theorem dX11_puts_8 : decode cX11_puts 8 = .ok (.aload_n 0, 1) := by decide +kernel
theorem dX11_puts_9 : decode cX11_puts 9 = .ok (.getfield 76, 3) := by decide +kernel
theorem dX11_puts_12 : decode cX11_puts 12 = .ok (.bipush 64, 2) := by decide +kernel
theorem dX11_puts_14 : decode cX11_puts 14 = .ok (.aload_n 0, 1) := by decide +kernel
theorem dX11_puts_15 : decode cX11_puts 15 = .ok (.bipush 12, 2) := by decide +kernel
theorem dX11_puts_17 : decode cX11_puts 17 = .ok (.invokevirtual 233, 3) := by decide +kernel
theorem dX11_puts_20 : decode cX11_puts 20 = .ok (.iadd, 1) := by decide +kernel
theorem dX11_puts_21 : decode cX11_puts 21 = .ok (.iload_n 1, 1) := by decide +kernel
theorem dX11_puts_22 : decode cX11_puts 22 = .ok (.iastore, 1) := by decide +kernel
theorem dX11_puts_23 : decode cX11_puts 23 = .ok (.aload_n 0, 1) := by decide +kernel
theorem dX11_puts_24 : decode cX11_puts 24 = .ok (.getfield 79, 3) := by decide +kernel
theorem dX11_puts_27 : decode cX11_puts 27 = .ok (.bipush 64, 2) := by decide +kernel
theorem dX11_puts_29 : decode cX11_puts 29 = .ok (.aload_n 0, 1) := by decide +kernel
theorem dX11_puts_30 : decode cX11_puts 30 = .ok (.bipush 12, 2) := by decide +kernel
theorem dX11_puts_32 : decode cX11_puts 32 = .ok (.invokevirtual 233, 3) := by decide +kernel
theorem dX11_puts_35 : decode cX11_puts 35 = .ok (.iadd, 1) := by decide +kernel
theorem dX11_puts_36 : decode cX11_puts 36 = .ok (.iload_n 2, 1) := by decide +kernel
theorem dX11_puts_37 : decode cX11_puts 37 = .ok (.iastore, 1) := by decide +kernel
theorem dX11_puts_38 : decode cX11_puts 38 = .ok (.aload_n 0, 1) := by decide +kernel
theorem dX11_puts_39 : decode cX11_puts 39 = .ok (.bipush 12, 2) := by decide +kernel
theorem dX11_puts_41 : decode cX11_puts 41 = .ok (.aload_n 0, 1) := by decide +kernel
theorem dX11_puts_42 : decode cX11_puts 42 = .ok (.bipush 12, 2) := by decide +kernel
theorem dX11_puts_44 : decode cX11_puts 44 = .ok (.invokevirtual 233, 3) := by decide +kernel
theorem dX11_puts_47 : decode cX11_puts 47 = .ok (.iconst 1, 1) := by decide +kernel
theorem dX11_puts_48 : decode cX11_puts 48 = .ok (.iadd, 1) := by decide +kernel
theorem dX11_puts_49 : decode cX11_puts 49 = .ok (.invokevirtual 253, 3) := by decide +kernel
theorem dX11_puts_52 : decode cX11_puts 52 = .ok (.return_, 1) := by decide +kernel
theorem dX11_knot_0 : decode cX11_knot 0 = .ok (.aload_n 0, 1) := by decide +kernel
theorem dX11_knot_1 : decode cX11_knot 1 = .ok (.getfield 217, 3) := by decide +kernel
theorem dX11_knot_4 : decode cX11_knot 4 = .ok (.ifCond .eq 4, 3) := by decide +kernel
theorem dX11_knot_7 : decode cX11_knot 7 = .ok (.return_, 1) := by decide +kernel
theorem dX11_knot_8 : decode cX11_knot 8 = .ok (.aload_n 0, 1) := by decide +kernel
theorem dX11_knot_9 : decode cX11_knot 9 = .ok (.getfield 285, 3) := by decide +kernel
theorem dX11_knot_12 : decode cX11_knot 12 = .ok (.bipush 64, 2) := by decide +kernel
theorem dX11_knot_14 : decode cX11_knot 14 = .ok (.if_icmp .ne 11, 3) := by decide +kernel
theorem dX11_knot_17 : decode cX11_knot 17 = .ok (.aload_n 0, 1) := by decide +kernel
theorem dX11_knot_18 : decode cX11_knot 18 = .ok (.iconst 2, 1) := by decide +kernel
theorem dX11_knot_19 : decode cX11_knot 19 = .ok (.invokevirtual 226, 3) := by decide +kernel
theorem dX11_knot_22 : decode cX11_knot 22 = .ok (.goto 13, 3) := by decide +kernel
theorem dX11_knot_25 : decode cX11_knot 25 = .ok (.aload_n 0, 1) := by decide +kernel
theorem dX11_knot_26 : decode cX11_knot 26 = .ok (.dup, 1) := by decide +kernel
theorem dX11_knot_27 : decode cX11_knot 27 = .ok (.getfield 285, 3) := by decide +kernel
theorem dX11_knot_30 : decode cX11_knot 30 = .ok (.iconst 1, 1) := by decide +kernel
theorem dX11_knot_31 : decode cX11_knot 31 = .ok (.iadd, 1) := by decide +kernel
theorem dX11_knot_32 : decode cX11_knot 32 = .ok (.putfield 285, 3) := by decide +kernel
theorem dX11_knot_35 : decode cX11_knot 35 = .ok (.return_, 1) := by decide +kernel
theorem dX11_expression_0 : decode cX11_expression 0 = .ok (.aload_n 0, 1) := by decide +kernel
theorem dX11_expression_1 : decode cX11_expression 1 = .ok (.invokevirtual 288, 3) := by decide +kernel
theorem dX11_expression_4 : decode cX11_expression 4 = .ok (.aload_n 0, 1) := by decide +kernel
theorem dX11_expression_5 : decode cX11_expression 5 = .ok (.bipush 14, 2) := by decide +kernel
theorem dX11_expression_7 : decode cX11_expression 7 = .ok (.invokevirtual 291, 3) := by decide +kernel
theorem dX11_expression_10 : decode cX11_expression 10 = .ok (.ifCond .eq 26, 3) := by decide +kernel
theorem dX11_expression_13 : decode cX11_expression 13 = .ok (.aload_n 0, 1) := by decide +kernel
theorem dX11_expression_14 : decode cX11_expression 14 = .ok (.invokevirtual 294, 3) := by decide +kernel
theorem dX11_expression_17 : decode cX11_expression 17 = .ok (.aload_n 0, 1) := by decide +kernel
theorem dX11_expression_18 : decode cX11_expression 18 = .ok (.invokevirtual 297, 3) := by decide +kernel
theorem dX11_expression_21 : decode cX11_expression 21 = .ok (.aload_n 0, 1) := by decide +kernel
theorem dX11_expression_22 : decode cX11_expression 22 = .ok (.invokevirtual 288, 3) := by decide +kernel
theorem dX11_expression_25 : decode cX11_expression 25 = .ok (.aload_n 0, 1) := by decide +kernel
theorem dX11_expression_26 : decode cX11_expression 26 = .ok (.iconst 2, 1) := by decide +kernel
theorem dX11_expression_27 : decode cX11_expression 27 = .ok (.sipush 262, 3) := by decide +kernel
theorem dX11_expression_30 : decode cX11_expression 30 = .ok (.invokevirtual 300, 3) := by decide +kernel
theorem dX11_expression_33 : decode cX11_expression 33 = .ok (.goto (-29), 3) := by decide +kernel
theorem dX11_expression_36 : decode cX11_expression 36 = .ok (.return_, 1) := by decide +kernel
theorem dX11_conjunction_0 : decode cX11_conjunction 0 = .ok (.aload_n 0, 1) := by decide +kernel
theorem dX11_conjunction_1 : decode cX11_conjunction 1 = .ok (.invokevirtual 303, 3) := by decide +kernel
theorem dX11_conjunction_4 : decode cX11_conjunction 4 = .ok (.aload_n 0, 1) := by decide +kernel
theorem dX11_conjunction_5 : decode cX11_conjunction 5 = .ok (.bipush 15, 2) := by decide +kernel
theorem dX11_conjunction_7 : decode cX11_conjunction 7 = .ok (.invokevirtual 291, 3) := by decide +kernel
theorem dX11_conjunction_10 : decode cX11_conjunction 10 = .ok (.ifCond .eq 26, 3) := by decide +kernel
theorem dX11_conjunction_13 : decode cX11_conjunction 13 = .ok (.aload_n 0, 1) := by decide +kernel
theorem dX11_conjunction_14 : decode cX11_conjunction 14 = .ok (.invokevirtual 294, 3) := by decide +kernel
theorem dX11_conjunction_17 : decode cX11_conjunction 17 = .ok (.aload_n 0, 1) := by decide +kernel
theorem dX11_conjunction_18 : decode cX11_conjunction 18 = .ok (.invokevirtual 297, 3) := by decide +kernel
theorem dX11_conjunction_21 : decode cX11_conjunction 21 = .ok (.aload_n 0, 1) := by decide +kernel
theorem dX11_conjunction_22 : decode cX11_conjunction 22 = .ok (.invokevirtual 303, 3) := by decide +kernel
theorem dX11_conjunction_25 : decode cX11_conjunction 25 = .ok (.aload_n 0, 1) := by decide +kernel
theorem dX11_conjunction_26 : decode cX11_conjunction 26 = .ok (.iconst 2, 1) := by decide +kernel
theorem dX11_conjunction_27 : decode cX11_conjunction 27 = .ok (.sipush 261, 3) := by decide +kernel
theorem dX11_conjunction_30 : decode cX11_conjunction 30 = .ok (.invokevirtual 300, 3) := by decide +kernel
theorem dX11_conjunction_33 : decode cX11_conjunction 33 = .ok (.goto (-29), 3) := by decide +kernel
theorem dX11_conjunction_36 : decode cX11_conjunction 36 = .ok (.return_, 1) := by decide +kernel
theorem dX11_negation_0 : decode cX11_negation 0 = .ok (.aload_n 0, 1) := by decide +kernel
theorem dX11_negation_1 : decode cX11_negation 1 = .ok (.bipush 16, 2) := by decide +kernel
theorem dX11_negation_3 : decode cX11_negation 3 = .ok (.invokevirtual 291, 3) := by decide +kernel
theorem dX11_negation_6 : decode cX11_negation 6 = .ok (.ifCond .eq 24, 3) := by decide +kernel
theorem dX11_negation_9 : decode cX11_negation 9 = .ok (.aload_n 0, 1) := by decide +kernel
theorem dX11_negation_10 : decode cX11_negation 10 = .ok (.invokevirtual 294, 3) := by decide +kernel
theorem dX11_negation_13 : decode cX11_negation 13 = .ok (.aload_n 0, 1) := by decide +kernel
theorem dX11_negation_14 : decode cX11_negation 14 = .ok (.invokevirtual 297, 3) := by decide +kernel
theorem dX11_negation_17 : decode cX11_negation 17 = .ok (.aload_n 0, 1) := by decide +kernel
theorem dX11_negation_18 : decode cX11_negation 18 = .ok (.invokevirtual 303, 3) := by decide +kernel
theorem dX11_negation_21 : decode cX11_negation 21 = .ok (.aload_n 0, 1) := by decide +kernel
theorem dX11_negation_22 : decode cX11_negation 22 = .ok (.iconst 2, 1) := by decide +kernel
theorem dX11_negation_23 : decode cX11_negation 23 = .ok (.sipush 260, 3) := by decide +kernel
theorem dX11_negation_26 : decode cX11_negation 26 = .ok (.invokevirtual 300, 3) := by decide +kernel
theorem dX11_negation_29 : decode cX11_negation 29 = .ok (.return_, 1) := by decide +kernel
theorem dX11_negation_30 : decode cX11_negation 30 = .ok (.aload_n 0, 1) := by decide +kernel
theorem dX11_negation_31 : decode cX11_negation 31 = .ok (.invokevirtual 306, 3) := by decide +kernel
theorem dX11_negation_34 : decode cX11_negation 34 = .ok (.aload_n 0, 1) := by decide +kernel
theorem dX11_negation_35 : decode cX11_negation 35 = .ok (.getfield 217, 3) := by decide +kernel
theorem dX11_negation_38 : decode cX11_negation 38 = .ok (.ifCond .ne 48, 3) := by decide +kernel
theorem dX11_negation_41 : decode cX11_negation 41 = .ok (.aload_n 0, 1) := by decide +kernel
theorem dX11_negation_42 : decode cX11_negation 42 = .ok (.getfield 182, 3) := by decide +kernel
theorem dX11_negation_45 : decode cX11_negation 45 = .ok (.iconst 3, 1) := by decide +kernel
theorem dX11_negation_46 : decode cX11_negation 46 = .ok (.if_icmp .ne 40, 3) := by decide +kernel
theorem dX11_negation_49 : decode cX11_negation 49 = .ok (.aload_n 0, 1) := by decide +kernel
theorem dX11_negation_50 : decode cX11_negation 50 = .ok (.getfield 192, 3) := by decide +kernel
theorem dX11_negation_53 : decode cX11_negation 53 = .ok (.bipush 60, 2) := by decide +kernel
theorem dX11_negation_55 : decode cX11_negation 55 = .ok (.if_icmp .eq 32, 3) := by decide +kernel
theorem dX11_negation_58 : decode cX11_negation 58 = .ok (.aload_n 0, 1) := by decide +kernel
theorem dX11_negation_59 : decode cX11_negation 59 = .ok (.getfield 192, 3) := by decide +kernel
theorem dX11_negation_62 : decode cX11_negation 62 = .ok (.bipush 62, 2) := by decide +kernel
theorem dX11_negation_64 : decode cX11_negation 64 = .ok (.if_icmp .eq 23, 3) := by decide +kernel
theorem dX11_negation_67 : decode cX11_negation 67 = .ok (.aload_n 0, 1) := by decide +kernel
theorem dX11_negation_68 : decode cX11_negation 68 = .ok (.getfield 192, 3) := by decide +kernel
theorem dX11_negation_71 : decode cX11_negation 71 = .ok (.bipush 61, 2) := by decide +kernel
theorem dX11_negation_73 : decode cX11_negation 73 = .ok (.if_icmp .eq 14, 3) := by decide +kernel
theorem dX11_negation_76 : decode cX11_negation 76 = .ok (.aload_n 0, 1) := by decide +kernel
theorem dX11_negation_77 : decode cX11_negation 77 = .ok (.getfield 192, 3) := by decide +kernel
theorem dX11_negation_80 : decode cX11_negation 80 = .ok (.sipush 256, 3) := by decide +kernel
theorem dX11_negation_83 : decode cX11_negation 83 = .ok (.if_icmp .ge 4, 3) := by decide +kernel
theorem dX11_negation_86 : decode cX11_negation 86 = .ok (.return_, 1) := by decide +kernel
theorem dX11_negation_87 : decode cX11_negation 87 = .ok (.aload_n 0, 1) := by decide +kernel
theorem dX11_negation_88 : decode cX11_negation 88 = .ok (.getfield 192, 3) := by decide +kernel
theorem dX11_negation_91 : decode cX11_negation 91 = .ok (.istore_n 1, 1) := by decide +kernel
theorem dX11_negation_92 : decode cX11_negation 92 = .ok (.aload_n 0, 1) := by decide +kernel
theorem dX11_negation_93 : decode cX11_negation 93 = .ok (.invokevirtual 294, 3) := by decide +kernel
theorem dX11_negation_96 : decode cX11_negation 96 = .ok (.aload_n 0, 1) := by decide +kernel
theorem dX11_negation_97 : decode cX11_negation 97 = .ok (.invokevirtual 297, 3) := by decide +kernel
theorem dX11_negation_100 : decode cX11_negation 100 = .ok (.aload_n 0, 1) := by decide +kernel
theorem dX11_negation_101 : decode cX11_negation 101 = .ok (.invokevirtual 306, 3) := by decide +kernel
theorem dX11_negation_104 : decode cX11_negation 104 = .ok (.aload_n 0, 1) := by decide +kernel
theorem dX11_negation_105 : decode cX11_negation 105 = .ok (.iconst 2, 1) := by decide +kernel
theorem dX11_negation_106 : decode cX11_negation 106 = .ok (.iload_n 1, 1) := by decide +kernel
theorem dX11_negation_107 : decode cX11_negation 107 = .ok (.invokevirtual 300, 3) := by decide +kernel
theorem dX11_negation_110 : decode cX11_negation 110 = .ok (.return_, 1) := by decide +kernel
theorem dX11_sum_0 : decode cX11_sum 0 = .ok (.aload_n 0, 1) := by decide +kernel
theorem dX11_sum_1 : decode cX11_sum 1 = .ok (.invokevirtual 309, 3) := by decide +kernel
theorem dX11_sum_4 : decode cX11_sum 4 = .ok (.aload_n 0, 1) := by decide +kernel
theorem dX11_sum_5 : decode cX11_sum 5 = .ok (.bipush 43, 2) := by decide +kernel
theorem dX11_sum_7 : decode cX11_sum 7 = .ok (.invokevirtual 276, 3) := by decide +kernel
theorem dX11_sum_10 : decode cX11_sum 10 = .ok (.ifCond .ne 12, 3) := by decide +kernel
theorem dX11_sum_13 : decode cX11_sum 13 = .ok (.aload_n 0, 1) := by decide +kernel
theorem dX11_sum_14 : decode cX11_sum 14 = .ok (.bipush 45, 2) := by decide +kernel
theorem dX11_sum_16 : decode cX11_sum 16 = .ok (.invokevirtual 276, 3) := by decide +kernel
theorem dX11_sum_19 : decode cX11_sum 19 = .ok (.ifCond .eq 29, 3) := by decide +kernel
theorem dX11_sum_22 : decode cX11_sum 22 = .ok (.aload_n 0, 1) := by decide +kernel
theorem dX11_sum_23 : decode cX11_sum 23 = .ok (.getfield 192, 3) := by decide +kernel
theorem dX11_sum_26 : decode cX11_sum 26 = .ok (.istore_n 1, 1) := by decide +kernel
theorem dX11_sum_27 : decode cX11_sum 27 = .ok (.aload_n 0, 1) := by decide +kernel
theorem dX11_sum_28 : decode cX11_sum 28 = .ok (.invokevirtual 294, 3) := by decide +kernel
theorem dX11_sum_31 : decode cX11_sum 31 = .ok (.aload_n 0, 1) := by decide +kernel
theorem dX11_sum_32 : decode cX11_sum 32 = .ok (.invokevirtual 297, 3) := by decide +kernel
theorem dX11_sum_35 : decode cX11_sum 35 = .ok (.aload_n 0, 1) := by decide +kernel
theorem dX11_sum_36 : decode cX11_sum 36 = .ok (.invokevirtual 309, 3) := by decide +kernel
theorem dX11_sum_39 : decode cX11_sum 39 = .ok (.aload_n 0, 1) := by decide +kernel
theorem dX11_sum_40 : decode cX11_sum 40 = .ok (.iconst 2, 1) := by decide +kernel
theorem dX11_sum_41 : decode cX11_sum 41 = .ok (.iload_n 1, 1) := by decide +kernel
theorem dX11_sum_42 : decode cX11_sum 42 = .ok (.invokevirtual 300, 3) := by decide +kernel
theorem dX11_sum_45 : decode cX11_sum 45 = .ok (.goto (-41), 3) := by decide +kernel
theorem dX11_sum_48 : decode cX11_sum 48 = .ok (.return_, 1) := by decide +kernel
theorem dX11_product_0 : decode cX11_product 0 = .ok (.aload_n 0, 1) := by decide +kernel
theorem dX11_product_1 : decode cX11_product 1 = .ok (.invokevirtual 312, 3) := by decide +kernel
theorem dX11_product_4 : decode cX11_product 4 = .ok (.aload_n 0, 1) := by decide +kernel
theorem dX11_product_5 : decode cX11_product 5 = .ok (.bipush 42, 2) := by decide +kernel
theorem dX11_product_7 : decode cX11_product 7 = .ok (.invokevirtual 276, 3) := by decide +kernel
theorem dX11_product_10 : decode cX11_product 10 = .ok (.ifCond .ne 12, 3) := by decide +kernel
theorem dX11_product_13 : decode cX11_product 13 = .ok (.aload_n 0, 1) := by decide +kernel
theorem dX11_product_14 : decode cX11_product 14 = .ok (.bipush 47, 2) := by decide +kernel
theorem dX11_product_16 : decode cX11_product 16 = .ok (.invokevirtual 276, 3) := by decide +kernel
theorem dX11_product_19 : decode cX11_product 19 = .ok (.ifCond .eq 29, 3) := by decide +kernel
theorem dX11_product_22 : decode cX11_product 22 = .ok (.aload_n 0, 1) := by decide +kernel
theorem dX11_product_23 : decode cX11_product 23 = .ok (.getfield 192, 3) := by decide +kernel
theorem dX11_product_26 : decode cX11_product 26 = .ok (.istore_n 1, 1) := by decide +kernel
theorem dX11_product_27 : decode cX11_product 27 = .ok (.aload_n 0, 1) := by decide +kernel
theorem dX11_product_28 : decode cX11_product 28 = .ok (.invokevirtual 294, 3) := by decide +kernel
theorem dX11_product_31 : decode cX11_product 31 = .ok (.aload_n 0, 1) := by decide +kernel
theorem dX11_product_32 : decode cX11_product 32 = .ok (.invokevirtual 297, 3) := by decide +kernel
theorem dX11_product_35 : decode cX11_product 35 = .ok (.aload_n 0, 1) := by decide +kernel
theorem dX11_product_36 : decode cX11_product 36 = .ok (.invokevirtual 312, 3) := by decide +kernel
theorem dX11_product_39 : decode cX11_product 39 = .ok (.aload_n 0, 1) := by decide +kernel
theorem dX11_product_40 : decode cX11_product 40 = .ok (.iconst 2, 1) := by decide +kernel
theorem dX11_product_41 : decode cX11_product 41 = .ok (.iload_n 1, 1) := by decide +kernel
theorem dX11_product_42 : decode cX11_product 42 = .ok (.invokevirtual 300, 3) := by decide +kernel
theorem dX11_product_45 : decode cX11_product 45 = .ok (.goto (-41), 3) := by decide +kernel
theorem dX11_product_48 : decode cX11_product 48 = .ok (.return_, 1) := by decide +kernel
theorem dX11_primary_0 : decode cX11_primary 0 = .ok (.aload_n 0, 1) := by decide +kernel
theorem dX11_primary_1 : decode cX11_primary 1 = .ok (.getfield 217, 3) := by decide +kernel
theorem dX11_primary_4 : decode cX11_primary 4 = .ok (.ifCond .eq 4, 3) := by decide +kernel
theorem dX11_primary_7 : decode cX11_primary 7 = .ok (.return_, 1) := by decide +kernel
theorem dX11_primary_8 : decode cX11_primary 8 = .ok (.aload_n 0, 1) := by decide +kernel
theorem dX11_primary_9 : decode cX11_primary 9 = .ok (.bipush 40, 2) := by decide +kernel
theorem dX11_primary_11 : decode cX11_primary 11 = .ok (.invokevirtual 276, 3) := by decide +kernel
theorem dX11_primary_14 : decode cX11_primary 14 = .ok (.ifCond .eq 87, 3) := by decide +kernel
theorem dX11_primary_17 : decode cX11_primary 17 = .ok (.aload_n 0, 1) := by decide +kernel
theorem dX11_primary_18 : decode cX11_primary 18 = .ok (.getfield 315, 3) := by decide +kernel
theorem dX11_primary_21 : decode cX11_primary 21 = .ok (.bipush 8, 2) := by decide +kernel
theorem dX11_primary_23 : decode cX11_primary 23 = .ok (.if_icmp .ne 8, 3) := by decide +kernel
theorem dX11_primary_26 : decode cX11_primary 26 = .ok (.aload_n 0, 1) := by decide +kernel
theorem dX11_primary_27 : decode cX11_primary 27 = .ok (.iconst 2, 1) := by decide +kernel
theorem dX11_primary_28 : decode cX11_primary 28 = .ok (.invokevirtual 226, 3) := by decide +kernel
theorem dX11_primary_31 : decode cX11_primary 31 = .ok (.aload_n 0, 1) := by decide +kernel
theorem dX11_primary_32 : decode cX11_primary 32 = .ok (.getfield 217, 3) := by decide +kernel
theorem dX11_primary_35 : decode cX11_primary 35 = .ok (.ifCond .eq 4, 3) := by decide +kernel
theorem dX11_primary_38 : decode cX11_primary 38 = .ok (.return_, 1) := by decide +kernel
theorem dX11_primary_39 : decode cX11_primary 39 = .ok (.aload_n 0, 1) := by decide +kernel
theorem dX11_primary_40 : decode cX11_primary 40 = .ok (.dup, 1) := by decide +kernel
theorem dX11_primary_41 : decode cX11_primary 41 = .ok (.getfield 315, 3) := by decide +kernel
theorem dX11_primary_44 : decode cX11_primary 44 = .ok (.iconst 1, 1) := by decide +kernel
theorem dX11_primary_45 : decode cX11_primary 45 = .ok (.iadd, 1) := by decide +kernel
theorem dX11_primary_46 : decode cX11_primary 46 = .ok (.putfield 315, 3) := by decide +kernel
theorem dX11_primary_49 : decode cX11_primary 49 = .ok (.aload_n 0, 1) := by decide +kernel
theorem dX11_primary_50 : decode cX11_primary 50 = .ok (.invokevirtual 223, 3) := by decide +kernel
theorem dX11_primary_53 : decode cX11_primary 53 = .ok (.aload_n 0, 1) := by decide +kernel
theorem dX11_primary_54 : decode cX11_primary 54 = .ok (.invokevirtual 282, 3) := by decide +kernel
theorem dX11_primary_57 : decode cX11_primary 57 = .ok (.aload_n 0, 1) := by decide +kernel
theorem dX11_primary_58 : decode cX11_primary 58 = .ok (.getfield 217, 3) := by decide +kernel
theorem dX11_primary_61 : decode cX11_primary 61 = .ok (.ifCond .ne 17, 3) := by decide +kernel
theorem dX11_primary_64 : decode cX11_primary 64 = .ok (.aload_n 0, 1) := by decide +kernel
theorem dX11_primary_65 : decode cX11_primary 65 = .ok (.bipush 41, 2) := by decide +kernel
theorem dX11_primary_67 : decode cX11_primary 67 = .ok (.invokevirtual 276, 3) := by decide +kernel
theorem dX11_primary_70 : decode cX11_primary 70 = .ok (.ifCond .ne 8, 3) := by decide +kernel
theorem dX11_primary_73 : decode cX11_primary 73 = .ok (.aload_n 0, 1) := by decide +kernel
theorem dX11_primary_74 : decode cX11_primary 74 = .ok (.iconst 1, 1) := by decide +kernel
theorem dX11_primary_75 : decode cX11_primary 75 = .ok (.invokevirtual 226, 3) := by decide +kernel
theorem dX11_primary_78 : decode cX11_primary 78 = .ok (.aload_n 0, 1) := by decide +kernel
theorem dX11_primary_79 : decode cX11_primary 79 = .ok (.getfield 217, 3) := by decide +kernel
theorem dX11_primary_82 : decode cX11_primary 82 = .ok (.ifCond .eq 4, 3) := by decide +kernel
theorem dX11_primary_85 : decode cX11_primary 85 = .ok (.return_, 1) := by decide +kernel
theorem dX11_primary_86 : decode cX11_primary 86 = .ok (.aload_n 0, 1) := by decide +kernel
theorem dX11_primary_87 : decode cX11_primary 87 = .ok (.dup, 1) := by decide +kernel
theorem dX11_primary_88 : decode cX11_primary 88 = .ok (.getfield 315, 3) := by decide +kernel
theorem dX11_primary_91 : decode cX11_primary 91 = .ok (.iconst 1, 1) := by decide +kernel
theorem dX11_primary_92 : decode cX11_primary 92 = .ok (.isub, 1) := by decide +kernel
theorem dX11_primary_93 : decode cX11_primary 93 = .ok (.putfield 315, 3) := by decide +kernel
theorem dX11_primary_96 : decode cX11_primary 96 = .ok (.aload_n 0, 1) := by decide +kernel
theorem dX11_primary_97 : decode cX11_primary 97 = .ok (.invokevirtual 223, 3) := by decide +kernel
theorem dX11_primary_100 : decode cX11_primary 100 = .ok (.return_, 1) := by decide +kernel
theorem dX11_primary_101 : decode cX11_primary 101 = .ok (.aload_n 0, 1) := by decide +kernel
theorem dX11_primary_102 : decode cX11_primary 102 = .ok (.getfield 182, 3) := by decide +kernel
theorem dX11_primary_105 : decode cX11_primary 105 = .ok (.iconst 2, 1) := by decide +kernel
theorem dX11_primary_106 : decode cX11_primary 106 = .ok (.if_icmp .ne 7, 3) := by decide +kernel
theorem dX11_primary_109 : decode cX11_primary 109 = .ok (.iconst 1, 1) := by decide +kernel
theorem dX11_primary_110 : decode cX11_primary 110 = .ok (.goto 4, 3) := by decide +kernel
theorem dX11_primary_113 : decode cX11_primary 113 = .ok (.iconst 0, 1) := by decide +kernel
theorem dX11_primary_114 : decode cX11_primary 114 = .ok (.istore_n 1, 1) := by decide +kernel
theorem dX11_primary_115 : decode cX11_primary 115 = .ok (.iload_n 1, 1) := by decide +kernel
theorem dX11_primary_116 : decode cX11_primary 116 = .ok (.ifCond .eq 21, 3) := by decide +kernel
theorem dX11_primary_119 : decode cX11_primary 119 = .ok (.aload_n 0, 1) := by decide +kernel
theorem dX11_primary_120 : decode cX11_primary 120 = .ok (.getfield 192, 3) := by decide +kernel
theorem dX11_primary_123 : decode cX11_primary 123 = .ok (.sipush 9999, 3) := by decide +kernel
theorem dX11_primary_126 : decode cX11_primary 126 = .ok (.if_icmp .le 11, 3) := by decide +kernel
theorem dX11_primary_129 : decode cX11_primary 129 = .ok (.aload_n 0, 1) := by decide +kernel
theorem dX11_primary_130 : decode cX11_primary 130 = .ok (.iconst 2, 1) := by decide +kernel
theorem dX11_primary_131 : decode cX11_primary 131 = .ok (.invokevirtual 226, 3) := by decide +kernel
theorem dX11_primary_134 : decode cX11_primary 134 = .ok (.goto 28, 3) := by decide +kernel
theorem dX11_primary_137 : decode cX11_primary 137 = .ok (.iload_n 1, 1) := by decide +kernel
theorem dX11_primary_138 : decode cX11_primary 138 = .ok (.ifCond .ne 24, 3) := by decide +kernel
theorem dX11_primary_141 : decode cX11_primary 141 = .ok (.aload_n 0, 1) := by decide +kernel
theorem dX11_primary_142 : decode cX11_primary 142 = .ok (.getfield 182, 3) := by decide +kernel
theorem dX11_primary_145 : decode cX11_primary 145 = .ok (.ifCond .ne 12, 3) := by decide +kernel
theorem dX11_primary_148 : decode cX11_primary 148 = .ok (.aload_n 0, 1) := by decide +kernel
theorem dX11_primary_149 : decode cX11_primary 149 = .ok (.getfield 192, 3) := by decide +kernel
theorem dX11_primary_152 : decode cX11_primary 152 = .ok (.bipush 17, 2) := by decide +kernel
theorem dX11_primary_154 : decode cX11_primary 154 = .ok (.if_icmp .ge 8, 3) := by decide +kernel
theorem dX11_primary_157 : decode cX11_primary 157 = .ok (.aload_n 0, 1) := by decide +kernel
theorem dX11_primary_158 : decode cX11_primary 158 = .ok (.iconst 1, 1) := by decide +kernel
theorem dX11_primary_159 : decode cX11_primary 159 = .ok (.invokevirtual 226, 3) := by decide +kernel
theorem dX11_primary_162 : decode cX11_primary 162 = .ok (.aload_n 0, 1) := by decide +kernel
theorem dX11_primary_163 : decode cX11_primary 163 = .ok (.invokevirtual 294, 3) := by decide +kernel
theorem dX11_primary_166 : decode cX11_primary 166 = .ok (.aload_n 0, 1) := by decide +kernel
theorem dX11_primary_167 : decode cX11_primary 167 = .ok (.iload_n 1, 1) := by decide +kernel
theorem dX11_primary_168 : decode cX11_primary 168 = .ok (.ifCond .eq 7, 3) := by decide +kernel
theorem dX11_primary_171 : decode cX11_primary 171 = .ok (.iconst 0, 1) := by decide +kernel
theorem dX11_primary_172 : decode cX11_primary 172 = .ok (.goto 4, 3) := by decide +kernel
theorem dX11_primary_175 : decode cX11_primary 175 = .ok (.iconst 1, 1) := by decide +kernel
theorem dX11_primary_176 : decode cX11_primary 176 = .ok (.iload_n 1, 1) := by decide +kernel
theorem dX11_primary_177 : decode cX11_primary 177 = .ok (.ifCond .eq 10, 3) := by decide +kernel
theorem dX11_primary_180 : decode cX11_primary 180 = .ok (.aload_n 0, 1) := by decide +kernel
theorem dX11_primary_181 : decode cX11_primary 181 = .ok (.getfield 192, 3) := by decide +kernel
theorem dX11_primary_184 : decode cX11_primary 184 = .ok (.goto 10, 3) := by decide +kernel
theorem dX11_primary_187 : decode cX11_primary 187 = .ok (.aload_n 0, 1) := by decide +kernel
theorem dX11_primary_188 : decode cX11_primary 188 = .ok (.getfield 192, 3) := by decide +kernel
theorem dX11_primary_191 : decode cX11_primary 191 = .ok (.bipush 17, 2) := by decide +kernel
theorem dX11_primary_193 : decode cX11_primary 193 = .ok (.isub, 1) := by decide +kernel
theorem dX11_primary_194 : decode cX11_primary 194 = .ok (.invokevirtual 300, 3) := by decide +kernel
theorem dX11_primary_197 : decode cX11_primary 197 = .ok (.aload_n 0, 1) := by decide +kernel
theorem dX11_primary_198 : decode cX11_primary 198 = .ok (.invokevirtual 297, 3) := by decide +kernel
theorem dX11_primary_201 : decode cX11_primary 201 = .ok (.return_, 1) := by decide +kernel
theorem dX11_half_0 : decode cX11_half 0 = .ok (.aload_n 0, 1) := by decide +kernel
theorem dX11_half_1 : decode cX11_half 1 = .ok (.arraylength, 1) := by decide +kernel
theorem dX11_half_2 : decode cX11_half 2 = .ok (.iconst 2, 1) := by decide +kernel
theorem dX11_half_3 : decode cX11_half 3 = .ok (.idiv, 1) := by decide +kernel
theorem dX11_half_4 : decode cX11_half 4 = .ok (.istore_n 1, 1) := by decide +kernel
theorem dX11_half_5 : decode cX11_half 5 = .ok (.iconst 0, 1) := by decide +kernel
theorem dX11_half_6 : decode cX11_half 6 = .ok (.istore_n 2, 1) := by decide +kernel
theorem dX11_half_7 : decode cX11_half 7 = .ok (.iload_n 2, 1) := by decide +kernel
theorem dX11_half_8 : decode cX11_half 8 = .ok (.iload_n 1, 1) := by decide +kernel
theorem dX11_half_9 : decode cX11_half 9 = .ok (.if_icmp .ge 17, 3) := by decide +kernel
theorem dX11_half_12 : decode cX11_half 12 = .ok (.aload_n 0, 1) := by decide +kernel
theorem dX11_half_13 : decode cX11_half 13 = .ok (.iload_n 2, 1) := by decide +kernel
theorem dX11_half_14 : decode cX11_half 14 = .ok (.aload_n 0, 1) := by decide +kernel
theorem dX11_half_15 : decode cX11_half 15 = .ok (.iload_n 1, 1) := by decide +kernel
theorem dX11_half_16 : decode cX11_half 16 = .ok (.iload_n 2, 1) := by decide +kernel
theorem dX11_half_17 : decode cX11_half 17 = .ok (.iadd, 1) := by decide +kernel
theorem dX11_half_18 : decode cX11_half 18 = .ok (.iaload, 1) := by decide +kernel
theorem dX11_half_19 : decode cX11_half 19 = .ok (.iastore, 1) := by decide +kernel
theorem dX11_half_20 : decode cX11_half 20 = .ok (.iinc 2 1, 3) := by decide +kernel
theorem dX11_half_23 : decode cX11_half 23 = .ok (.goto (-16), 3) := by decide +kernel
theorem dX11_half_26 : decode cX11_half 26 = .ok (.return_, 1) := by decide +kernel
theorem dX11_text_0 : decode cX11_text 0 = .ok (.aload_n 0, 1) := by decide +kernel
theorem dX11_text_1 : decode cX11_text 1 = .ok (.iconst 0, 1) := by decide +kernel
theorem dX11_text_2 : decode cX11_text 2 = .ok (.putfield 163, 3) := by decide +kernel
theorem dX11_text_5 : decode cX11_text 5 = .ok (.iload_n 1, 1) := by decide +kernel
theorem dX11_text_6 : decode cX11_text 6 = .ok (.ifCond .lt 11, 3) := by decide +kernel
theorem dX11_text_9 : decode cX11_text 9 = .ok (.iload_n 1, 1) := by decide +kernel
theorem dX11_text_10 : decode cX11_text 10 = .ok (.aload_n 0, 1) := by decide +kernel
theorem dX11_text_11 : decode cX11_text 11 = .ok (.getfield 166, 3) := by decide +kernel
theorem dX11_text_14 : decode cX11_text 14 = .ok (.if_icmp .le 6, 3) := by decide +kernel
theorem dX11_text_17 : decode cX11_text 17 = .ok (.bipush (-2), 2) := by decide +kernel
theorem dX11_text_19 : decode cX11_text 19 = .ok (.ireturn, 1) := by decide +kernel
theorem dX11_text_20 : decode cX11_text 20 = .ok (.aload_n 0, 1) := by decide +kernel
theorem dX11_text_21 : decode cX11_text 21 = .ok (.iload_n 1, 1) := by decide +kernel
theorem dX11_text_22 : decode cX11_text 22 = .ok (.putfield 172, 3) := by decide +kernel
theorem dX11_text_25 : decode cX11_text 25 = .ok (.aload_n 0, 1) := by decide +kernel
theorem dX11_text_26 : decode cX11_text 26 = .ok (.iconst 0, 1) := by decide +kernel
theorem dX11_text_27 : decode cX11_text 27 = .ok (.putfield 166, 3) := by decide +kernel
theorem dX11_text_30 : decode cX11_text 30 = .ok (.aload_n 0, 1) := by decide +kernel
theorem dX11_text_31 : decode cX11_text 31 = .ok (.iconst 0, 1) := by decide +kernel
theorem dX11_text_32 : decode cX11_text 32 = .ok (.putfield 169, 3) := by decide +kernel
theorem dX11_text_35 : decode cX11_text 35 = .ok (.aload_n 0, 1) := by decide +kernel
theorem dX11_text_36 : decode cX11_text 36 = .ok (.iconst 0, 1) := by decide +kernel
theorem dX11_text_37 : decode cX11_text 37 = .ok (.putfield 217, 3) := by decide +kernel
theorem dX11_text_40 : decode cX11_text 40 = .ok (.aload_n 0, 1) := by decide +kernel
theorem dX11_text_41 : decode cX11_text 41 = .ok (.iconst (-1), 1) := by decide +kernel
theorem dX11_text_42 : decode cX11_text 42 = .ok (.putfield 220, 3) := by decide +kernel
theorem dX11_text_45 : decode cX11_text 45 = .ok (.iconst 0, 1) := by decide +kernel
theorem dX11_text_46 : decode cX11_text 46 = .ok (.istore_n 2, 1) := by decide +kernel
theorem dX11_text_47 : decode cX11_text 47 = .ok (.iload_n 2, 1) := by decide +kernel
theorem dX11_text_48 : decode cX11_text 48 = .ok (.bipush 13, 2) := by decide +kernel
theorem dX11_text_50 : decode cX11_text 50 = .ok (.if_icmp .ge 24, 3) := by decide +kernel
theorem dX11_text_53 : decode cX11_text 53 = .ok (.aload_n 0, 1) := by decide +kernel
theorem dX11_text_54 : decode cX11_text 54 = .ok (.iload_n 2, 1) := by decide +kernel
theorem dX11_text_55 : decode cX11_text 55 = .ok (.iload_n 2, 1) := by decide +kernel
theorem dX11_text_56 : decode cX11_text 56 = .ok (.iconst 1, 1) := by decide +kernel
theorem dX11_text_57 : decode cX11_text 57 = .ok (.if_icmp .gt 7, 3) := by decide +kernel
theorem dX11_text_60 : decode cX11_text 60 = .ok (.iconst 5, 1) := by decide +kernel
theorem dX11_text_61 : decode cX11_text 61 = .ok (.goto 4, 3) := by decide +kernel
theorem dX11_text_64 : decode cX11_text 64 = .ok (.iconst 0, 1) := by decide +kernel
theorem dX11_text_65 : decode cX11_text 65 = .ok (.invokevirtual 253, 3) := by decide +kernel
theorem dX11_text_68 : decode cX11_text 68 = .ok (.iinc 2 1, 3) := by decide +kernel
theorem dX11_text_71 : decode cX11_text 71 = .ok (.goto (-24), 3) := by decide +kernel
theorem dX11_text_74 : decode cX11_text 74 = .ok (.iconst 3, 1) := by decide +kernel
theorem dX11_text_75 : decode cX11_text 75 = .ok (.istore_n 2, 1) := by decide +kernel
theorem dX11_text_76 : decode cX11_text 76 = .ok (.iload_n 2, 1) := by decide +kernel
theorem dX11_text_77 : decode cX11_text 77 = .ok (.bipush 6, 2) := by decide +kernel
theorem dX11_text_79 : decode cX11_text 79 = .ok (.if_icmp .ge 23, 3) := by decide +kernel
theorem dX11_text_82 : decode cX11_text 82 = .ok (.aload_n 0, 1) := by decide +kernel
theorem dX11_text_83 : decode cX11_text 83 = .ok (.getfield 70, 3) := by decide +kernel
theorem dX11_text_86 : decode cX11_text 86 = .ok (.iload_n 2, 1) := by decide +kernel
theorem dX11_text_87 : decode cX11_text 87 = .ok (.iconst 0, 1) := by decide +kernel
theorem dX11_text_88 : decode cX11_text 88 = .ok (.iastore, 1) := by decide +kernel
theorem dX11_text_89 : decode cX11_text 89 = .ok (.aload_n 0, 1) := by decide +kernel
theorem dX11_text_90 : decode cX11_text 90 = .ok (.getfield 73, 3) := by decide +kernel
theorem dX11_text_93 : decode cX11_text 93 = .ok (.iload_n 2, 1) := by decide +kernel
theorem dX11_text_94 : decode cX11_text 94 = .ok (.iconst 0, 1) := by decide +kernel
theorem dX11_text_95 : decode cX11_text 95 = .ok (.iastore, 1) := by decide +kernel
theorem dX11_text_96 : decode cX11_text 96 = .ok (.iinc 2 1, 3) := by decide +kernel
theorem dX11_text_99 : decode cX11_text 99 = .ok (.goto (-23), 3) := by decide +kernel
theorem dX11_text_102 : decode cX11_text 102 = .ok (.aload_n 0, 1) := by decide +kernel
theorem dX11_text_103 : decode cX11_text 103 = .ok (.iconst 0, 1) := by decide +kernel
theorem dX11_text_104 : decode cX11_text 104 = .ok (.putfield 246, 3) := by decide +kernel
theorem dX11_text_107 : decode cX11_text 107 = .ok (.aload_n 0, 1) := by decide +kernel
theorem dX11_text_108 : decode cX11_text 108 = .ok (.iconst 0, 1) := by decide +kernel
theorem dX11_text_109 : decode cX11_text 109 = .ok (.putfield 279, 3) := by decide +kernel
theorem dX11_text_112 : decode cX11_text 112 = .ok (.aload_n 0, 1) := by decide +kernel
theorem dX11_text_113 : decode cX11_text 113 = .ok (.iconst 0, 1) := by decide +kernel
theorem dX11_text_114 : decode cX11_text 114 = .ok (.putfield 237, 3) := by decide +kernel
theorem dX11_text_117 : decode cX11_text 117 = .ok (.aload_n 0, 1) := by decide +kernel
theorem dX11_text_118 : decode cX11_text 118 = .ok (.iconst 0, 1) := by decide +kernel
theorem dX11_text_119 : decode cX11_text 119 = .ok (.putfield 315, 3) := by decide +kernel
theorem dX11_text_122 : decode cX11_text 122 = .ok (.aload_n 0, 1) := by decide +kernel
theorem dX11_text_123 : decode cX11_text 123 = .ok (.iconst 0, 1) := by decide +kernel
theorem dX11_text_124 : decode cX11_text 124 = .ok (.putfield 285, 3) := by decide +kernel
theorem dX11_text_127 : decode cX11_text 127 = .ok (.aload_n 0, 1) := by decide +kernel
theorem dX11_text_128 : decode cX11_text 128 = .ok (.invokevirtual 223, 3) := by decide +kernel
theorem dX11_text_131 : decode cX11_text 131 = .ok (.aload_n 0, 1) := by decide +kernel
theorem dX11_text_132 : decode cX11_text 132 = .ok (.getfield 217, 3) := by decide +kernel
theorem dX11_text_135 : decode cX11_text 135 = .ok (.ifCond .ne 18, 3) := by decide +kernel
theorem dX11_text_138 : decode cX11_text 138 = .ok (.aload_n 0, 1) := by decide +kernel
theorem dX11_text_139 : decode cX11_text 139 = .ok (.getfield 182, 3) := by decide +kernel
theorem dX11_text_142 : decode cX11_text 142 = .ok (.iconst 4, 1) := by decide +kernel
theorem dX11_text_143 : decode cX11_text 143 = .ok (.if_icmp .eq 10, 3) := by decide +kernel
theorem dX11_text_146 : decode cX11_text 146 = .ok (.aload_n 0, 1) := by decide +kernel
theorem dX11_text_147 : decode cX11_text 147 = .ok (.invokevirtual 318, 3) := by decide +kernel
theorem dX11_text_150 : decode cX11_text 150 = .ok (.goto (-19), 3) := by decide +kernel
theorem dX11_text_153 : decode cX11_text 153 = .ok (.aload_n 0, 1) := by decide +kernel
theorem dX11_text_154 : decode cX11_text 154 = .ok (.aload_n 0, 1) := by decide +kernel
theorem dX11_text_155 : decode cX11_text 155 = .ok (.getfield 217, 3) := by decide +kernel
theorem dX11_text_158 : decode cX11_text 158 = .ok (.putfield 321, 3) := by decide +kernel
theorem dX11_text_161 : decode cX11_text 161 = .ok (.aload_n 0, 1) := by decide +kernel
theorem dX11_text_162 : decode cX11_text 162 = .ok (.aload_n 0, 1) := by decide +kernel
theorem dX11_text_163 : decode cX11_text 163 = .ok (.getfield 220, 3) := by decide +kernel
theorem dX11_text_166 : decode cX11_text 166 = .ok (.putfield 82, 3) := by decide +kernel
theorem dX11_text_169 : decode cX11_text 169 = .ok (.aload_n 0, 1) := by decide +kernel
theorem dX11_text_170 : decode cX11_text 170 = .ok (.getfield 217, 3) := by decide +kernel
theorem dX11_text_173 : decode cX11_text 173 = .ok (.ifCond .eq 5, 3) := by decide +kernel
theorem dX11_text_176 : decode cX11_text 176 = .ok (.iconst (-1), 1) := by decide +kernel
theorem dX11_text_177 : decode cX11_text 177 = .ok (.ireturn, 1) := by decide +kernel
theorem dX11_text_178 : decode cX11_text 178 = .ok (.aload_n 0, 1) := by decide +kernel
theorem dX11_text_179 : decode cX11_text 179 = .ok (.getfield 13, 3) := by decide +kernel
theorem dX11_text_182 : decode cX11_text 182 = .ok (.invokestatic 324, 3) := by decide +kernel
theorem dX11_text_185 : decode cX11_text 185 = .ok (.aload_n 0, 1) := by decide +kernel
theorem dX11_text_186 : decode cX11_text 186 = .ok (.getfield 16, 3) := by decide +kernel
theorem dX11_text_189 : decode cX11_text 189 = .ok (.invokestatic 324, 3) := by decide +kernel
theorem dX11_text_192 : decode cX11_text 192 = .ok (.aload_n 0, 1) := by decide +kernel
theorem dX11_text_193 : decode cX11_text 193 = .ok (.getfield 19, 3) := by decide +kernel
theorem dX11_text_196 : decode cX11_text 196 = .ok (.invokestatic 324, 3) := by decide +kernel
theorem dX11_text_199 : decode cX11_text 199 = .ok (.aload_n 0, 1) := by decide +kernel
theorem dX11_text_200 : decode cX11_text 200 = .ok (.getfield 22, 3) := by decide +kernel
theorem dX11_text_203 : decode cX11_text 203 = .ok (.invokestatic 324, 3) := by decide +kernel
theorem dX11_text_206 : decode cX11_text 206 = .ok (.aload_n 0, 1) := by decide +kernel
theorem dX11_text_207 : decode cX11_text 207 = .ok (.getfield 25, 3) := by decide +kernel
theorem dX11_text_210 : decode cX11_text 210 = .ok (.invokestatic 324, 3) := by decide +kernel
theorem dX11_text_213 : decode cX11_text 213 = .ok (.aload_n 0, 1) := by decide +kernel
theorem dX11_text_214 : decode cX11_text 214 = .ok (.getfield 28, 3) := by decide +kernel
theorem dX11_text_217 : decode cX11_text 217 = .ok (.invokestatic 324, 3) := by decide +kernel
theorem dX11_text_220 : decode cX11_text 220 = .ok (.aload_n 0, 1) := by decide +kernel
theorem dX11_text_221 : decode cX11_text 221 = .ok (.getfield 31, 3) := by decide +kernel
theorem dX11_text_224 : decode cX11_text 224 = .ok (.invokestatic 324, 3) := by decide +kernel
theorem dX11_text_227 : decode cX11_text 227 = .ok (.aload_n 0, 1) := by decide +kernel
theorem dX11_text_228 : decode cX11_text 228 = .ok (.getfield 34, 3) := by decide +kernel
theorem dX11_text_231 : decode cX11_text 231 = .ok (.invokestatic 324, 3) := by decide +kernel
theorem dX11_text_234 : decode cX11_text 234 = .ok (.aload_n 0, 1) := by decide +kernel
theorem dX11_text_235 : decode cX11_text 235 = .ok (.getfield 37, 3) := by decide +kernel
theorem dX11_text_238 : decode cX11_text 238 = .ok (.invokestatic 324, 3) := by decide +kernel
theorem dX11_text_241 : decode cX11_text 241 = .ok (.aload_n 0, 1) := by decide +kernel
theorem dX11_text_242 : decode cX11_text 242 = .ok (.getfield 40, 3) := by decide +kernel
theorem dX11_text_245 : decode cX11_text 245 = .ok (.invokestatic 324, 3) := by decide +kernel
theorem dX11_text_248 : decode cX11_text 248 = .ok (.aload_n 0, 1) := by decide +kernel
theorem dX11_text_249 : decode cX11_text 249 = .ok (.getfield 43, 3) := by decide +kernel
theorem dX11_text_252 : decode cX11_text 252 = .ok (.invokestatic 324, 3) := by decide +kernel
theorem dX11_text_255 : decode cX11_text 255 = .ok (.aload_n 0, 1) := by decide +kernel
theorem dX11_text_256 : decode cX11_text 256 = .ok (.getfield 46, 3) := by decide +kernel
theorem dX11_text_259 : decode cX11_text 259 = .ok (.invokestatic 324, 3) := by decide +kernel
theorem dX11_text_262 : decode cX11_text 262 = .ok (.aload_n 0, 1) := by decide +kernel
theorem dX11_text_263 : decode cX11_text 263 = .ok (.getfield 49, 3) := by decide +kernel
theorem dX11_text_266 : decode cX11_text 266 = .ok (.invokestatic 324, 3) := by decide +kernel
theorem dX11_text_269 : decode cX11_text 269 = .ok (.aload_n 0, 1) := by decide +kernel
theorem dX11_text_270 : decode cX11_text 270 = .ok (.getfield 52, 3) := by decide +kernel
theorem dX11_text_273 : decode cX11_text 273 = .ok (.invokestatic 324, 3) := by decide +kernel
theorem dX11_text_276 : decode cX11_text 276 = .ok (.aload_n 0, 1) := by decide +kernel
theorem dX11_text_277 : decode cX11_text 277 = .ok (.getfield 55, 3) := by decide +kernel
theorem dX11_text_280 : decode cX11_text 280 = .ok (.invokestatic 324, 3) := by decide +kernel
theorem dX11_text_283 : decode cX11_text 283 = .ok (.aload_n 0, 1) := by decide +kernel
theorem dX11_text_284 : decode cX11_text 284 = .ok (.getfield 58, 3) := by decide +kernel
theorem dX11_text_287 : decode cX11_text 287 = .ok (.invokestatic 324, 3) := by decide +kernel
theorem dX11_text_290 : decode cX11_text 290 = .ok (.aload_n 0, 1) := by decide +kernel
theorem dX11_text_291 : decode cX11_text 291 = .ok (.getfield 61, 3) := by decide +kernel
theorem dX11_text_294 : decode cX11_text 294 = .ok (.invokestatic 324, 3) := by decide +kernel
theorem dX11_text_297 : decode cX11_text 297 = .ok (.aload_n 0, 1) := by decide +kernel
theorem dX11_text_298 : decode cX11_text 298 = .ok (.getfield 64, 3) := by decide +kernel
theorem dX11_text_301 : decode cX11_text 301 = .ok (.invokestatic 324, 3) := by decide +kernel
theorem dX11_text_304 : decode cX11_text 304 = .ok (.aload_n 0, 1) := by decide +kernel
theorem dX11_text_305 : decode cX11_text 305 = .ok (.getfield 67, 3) := by decide +kernel
theorem dX11_text_308 : decode cX11_text 308 = .ok (.invokestatic 324, 3) := by decide +kernel
theorem dX11_text_311 : decode cX11_text 311 = .ok (.aload_n 0, 1) := by decide +kernel
theorem dX11_text_312 : decode cX11_text 312 = .ok (.getfield 70, 3) := by decide +kernel
theorem dX11_text_315 : decode cX11_text 315 = .ok (.invokestatic 324, 3) := by decide +kernel
theorem dX11_text_318 : decode cX11_text 318 = .ok (.aload_n 0, 1) := by decide +kernel
theorem dX11_text_319 : decode cX11_text 319 = .ok (.getfield 73, 3) := by decide +kernel
theorem dX11_text_322 : decode cX11_text 322 = .ok (.invokestatic 324, 3) := by decide +kernel
theorem dX11_text_325 : decode cX11_text 325 = .ok (.aload_n 0, 1) := by decide +kernel
theorem dX11_text_326 : decode cX11_text 326 = .ok (.getfield 76, 3) := by decide +kernel
theorem dX11_text_329 : decode cX11_text 329 = .ok (.invokestatic 324, 3) := by decide +kernel
theorem dX11_text_332 : decode cX11_text 332 = .ok (.aload_n 0, 1) := by decide +kernel
theorem dX11_text_333 : decode cX11_text 333 = .ok (.getfield 79, 3) := by decide +kernel
theorem dX11_text_336 : decode cX11_text 336 = .ok (.invokestatic 324, 3) := by decide +kernel
theorem dX11_text_339 : decode cX11_text 339 = .ok (.aload_n 0, 1) := by decide +kernel
theorem dX11_text_340 : decode cX11_text 340 = .ok (.iconst 0, 1) := by decide +kernel
theorem dX11_text_341 : decode cX11_text 341 = .ok (.putfield 328, 3) := by decide +kernel
theorem dX11_text_344 : decode cX11_text 344 = .ok (.aload_n 0, 1) := by decide +kernel
theorem dX11_text_345 : decode cX11_text 345 = .ok (.iconst (-1), 1) := by decide +kernel
theorem dX11_text_346 : decode cX11_text 346 = .ok (.putfield 138, 3) := by decide +kernel
theorem dX11_text_349 : decode cX11_text 349 = .ok (.aload_n 0, 1) := by decide +kernel
theorem dX11_text_350 : decode cX11_text 350 = .ok (.iconst 0, 1) := by decide +kernel
theorem dX11_text_351 : decode cX11_text 351 = .ok (.putfield 331, 3) := by decide +kernel
theorem dX11_text_354 : decode cX11_text 354 = .ok (.aload_n 0, 1) := by decide +kernel
theorem dX11_text_355 : decode cX11_text 355 = .ok (.iconst 0, 1) := by decide +kernel
theorem dX11_text_356 : decode cX11_text 356 = .ok (.putfield 335, 3) := by decide +kernel
theorem dX11_text_359 : decode cX11_text 359 = .ok (.aload_n 0, 1) := by decide +kernel
theorem dX11_text_360 : decode cX11_text 360 = .ok (.invokevirtual 160, 3) := by decide +kernel
theorem dX11_text_363 : decode cX11_text 363 = .ok (.aload_n 0, 1) := by decide +kernel
theorem dX11_text_364 : decode cX11_text 364 = .ok (.getfield 237, 3) := by decide +kernel
theorem dX11_text_367 : decode cX11_text 367 = .ok (.ireturn, 1) := by decide +kernel
theorem dX11_fault_0 : decode cX11_fault 0 = .ok (.aload_n 0, 1) := by decide +kernel
theorem dX11_fault_1 : decode cX11_fault 1 = .ok (.iconst 0, 1) := by decide +kernel
theorem dX11_fault_2 : decode cX11_fault 2 = .ok (.putfield 163, 3) := by decide +kernel
theorem dX11_fault_5 : decode cX11_fault 5 = .ok (.iload_n 1, 1) := by decide +kernel
theorem dX11_fault_6 : decode cX11_fault 6 = .ok (.ifCond .ne 10, 3) := by decide +kernel
theorem dX11_fault_9 : decode cX11_fault 9 = .ok (.aload_n 0, 1) := by decide +kernel
theorem dX11_fault_10 : decode cX11_fault 10 = .ok (.getfield 321, 3) := by decide +kernel
theorem dX11_fault_13 : decode cX11_fault 13 = .ok (.goto 16, 3) := by decide +kernel
