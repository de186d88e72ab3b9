theorem dX13_fewest_59 : decode cX13_fewest 59 = .ok (.iload_n 2, 1) := by decide +kernel
theorem dX13_fewest_60 : decode cX13_fewest 60 = .ok (.invokevirtual 80, 3) := by decide +kernel
theorem dX13_fewest_63 : decode cX13_fewest 63 = .ok (.ireturn, 1) := by decide +kernel
theorem dX13_next_0 : decode cX13_next 0 = .ok (.aload_n 0, 1) := by decide +kernel
theorem dX13_next_1 : decode cX13_next 1 = .ok (.iconst 0, 1) := by decide +kernel
theorem dX13_next_2 : decode cX13_next 2 = .ok (.putfield 70, 3) := by decide +kernel
theorem dX13_next_5 : decode cX13_next 5 = .ok (.aload_n 0, 1) := by decide +kernel
theorem dX13_next_6 : decode cX13_next 6 = .ok (.getfield 310, 3) := by decide +kernel
theorem dX13_next_9 : decode cX13_next 9 = .ok (.ifnonnull 9, 3) := by decide +kernel
theorem dX13_next_12 : decode cX13_next 12 = .ok (.aload_n 0, 1) := by decide +kernel
theorem dX13_next_13 : decode cX13_next 13 = .ok (.iconst 1, 1) := by decide +kernel
theorem dX13_next_14 : decode cX13_next 14 = .ok (.invokevirtual 76, 3) := by decide +kernel
theorem dX13_next_17 : decode cX13_next 17 = .ok (.ireturn, 1) := by decide +kernel
theorem dX13_next_18 : decode cX13_next 18 = .ok (.iload_n 1, 1) := by decide +kernel
theorem dX13_next_19 : decode cX13_next 19 = .ok (.iconst 1, 1) := by decide +kernel
theorem dX13_next_20 : decode cX13_next 20 = .ok (.bipush 8, 2) := by decide +kernel
theorem dX13_next_22 : decode cX13_next 22 = .ok (.invokestatic 145, 3) := by decide +kernel
theorem dX13_next_25 : decode cX13_next 25 = .ok (.ifCond .ne 9, 3) := by decide +kernel
theorem dX13_next_28 : decode cX13_next 28 = .ok (.aload_n 0, 1) := by decide +kernel
theorem dX13_next_29 : decode cX13_next 29 = .ok (.iconst 2, 1) := by decide +kernel
theorem dX13_next_30 : decode cX13_next 30 = .ok (.invokevirtual 76, 3) := by decide +kernel
theorem dX13_next_33 : decode cX13_next 33 = .ok (.ireturn, 1) := by decide +kernel
theorem dX13_next_34 : decode cX13_next 34 = .ok (.aload_n 0, 1) := by decide +kernel
theorem dX13_next_35 : decode cX13_next 35 = .ok (.aload_n 0, 1) := by decide +kernel
theorem dX13_next_36 : decode cX13_next 36 = .ok (.getfield 318, 3) := by decide +kernel
theorem dX13_next_39 : decode cX13_next 39 = .ok (.iload_n 1, 1) := by decide +kernel
theorem dX13_next_40 : decode cX13_next 40 = .ok (.invokevirtual 466, 3) := by decide +kernel
theorem dX13_next_43 : decode cX13_next 43 = .ok (.istore_n 2, 1) := by decide +kernel
theorem dX13_next_44 : decode cX13_next 44 = .ok (.iload_n 2, 1) := by decide +kernel
theorem dX13_next_45 : decode cX13_next 45 = .ok (.bipush (-9), 2) := by decide +kernel
theorem dX13_next_47 : decode cX13_next 47 = .ok (.if_icmp .ne 9, 3) := by decide +kernel
theorem dX13_next_50 : decode cX13_next 50 = .ok (.aload_n 0, 1) := by decide +kernel
theorem dX13_next_51 : decode cX13_next 51 = .ok (.iconst 3, 1) := by decide +kernel
theorem dX13_next_52 : decode cX13_next 52 = .ok (.invokevirtual 76, 3) := by decide +kernel
theorem dX13_next_55 : decode cX13_next 55 = .ok (.ireturn, 1) := by decide +kernel
theorem dX13_next_56 : decode cX13_next 56 = .ok (.iload_n 2, 1) := by decide +kernel
theorem dX13_next_57 : decode cX13_next 57 = .ok (.ifCond .gt 10, 3) := by decide +kernel
theorem dX13_next_60 : decode cX13_next 60 = .ok (.aload_n 0, 1) := by decide +kernel
theorem dX13_next_61 : decode cX13_next 61 = .ok (.bipush (-2), 2) := by decide +kernel
theorem dX13_next_63 : decode cX13_next 63 = .ok (.invokevirtual 80, 3) := by decide +kernel
theorem dX13_next_66 : decode cX13_next 66 = .ok (.ireturn, 1) := by decide +kernel
theorem dX13_next_67 : decode cX13_next 67 = .ok (.aload_n 0, 1) := by decide +kernel
theorem dX13_next_68 : decode cX13_next 68 = .ok (.aload_n 0, 1) := by decide +kernel
theorem dX13_next_69 : decode cX13_next 69 = .ok (.getfield 318, 3) := by decide +kernel
theorem dX13_next_72 : decode cX13_next 72 = .ok (.invokevirtual 433, 3) := by decide +kernel
theorem dX13_next_75 : decode cX13_next 75 = .ok (.aload_n 0, 1) := by decide +kernel
theorem dX13_next_76 : decode cX13_next 76 = .ok (.iconst (-1), 1) := by decide +kernel
theorem dX13_next_77 : decode cX13_next 77 = .ok (.invokevirtual 446, 3) := by decide +kernel
theorem dX13_next_80 : decode cX13_next 80 = .ok (.istore_n 3, 1) := by decide +kernel
theorem dX13_next_81 : decode cX13_next 81 = .ok (.iload_n 3, 1) := by decide +kernel
theorem dX13_next_82 : decode cX13_next 82 = .ok (.sipush 2000, 3) := by decide +kernel
theorem dX13_next_85 : decode cX13_next 85 = .ok (.if_icmp .ge 48, 3) := by decide +kernel
theorem dX13_next_88 : decode cX13_next 88 = .ok (.aload_n 0, 1) := by decide +kernel
theorem dX13_next_89 : decode cX13_next 89 = .ok (.aload_n 0, 1) := by decide +kernel
theorem dX13_next_90 : decode cX13_next 90 = .ok (.aload_n 0, 1) := by decide +kernel
theorem dX13_next_91 : decode cX13_next 91 = .ok (.getfield 318, 3) := by decide +kernel
theorem dX13_next_94 : decode cX13_next 94 = .ok (.iload_n 3, 1) := by decide +kernel
theorem dX13_next_95 : decode cX13_next 95 = .ok (.invokevirtual 463, 3) := by decide +kernel
theorem dX13_next_98 : decode cX13_next 98 = .ok (.iload_n 2, 1) := by decide +kernel
theorem dX13_next_99 : decode cX13_next 99 = .ok (.iconst 1, 1) := by decide +kernel
theorem dX13_next_100 : decode cX13_next 100 = .ok (.isub, 1) := by decide +kernel
theorem dX13_next_101 : decode cX13_next 101 = .ok (.invokevirtual 466, 3) := by decide +kernel
theorem dX13_next_104 : decode cX13_next 104 = .ok (.iload_n 2, 1) := by decide +kernel
theorem dX13_next_105 : decode cX13_next 105 = .ok (.iconst 1, 1) := by decide +kernel
theorem dX13_next_106 : decode cX13_next 106 = .ok (.isub, 1) := by decide +kernel
theorem dX13_next_107 : decode cX13_next 107 = .ok (.if_icmp .ne 9, 3) := by decide +kernel
theorem dX13_next_110 : decode cX13_next 110 = .ok (.aload_n 0, 1) := by decide +kernel
theorem dX13_next_111 : decode cX13_next 111 = .ok (.iload_n 3, 1) := by decide +kernel
theorem dX13_next_112 : decode cX13_next 112 = .ok (.invokevirtual 80, 3) := by decide +kernel
theorem dX13_next_115 : decode cX13_next 115 = .ok (.ireturn, 1) := by decide +kernel
theorem dX13_next_116 : decode cX13_next 116 = .ok (.aload_n 0, 1) := by decide +kernel
theorem dX13_next_117 : decode cX13_next 117 = .ok (.aload_n 0, 1) := by decide +kernel
theorem dX13_next_118 : decode cX13_next 118 = .ok (.getfield 318, 3) := by decide +kernel
theorem dX13_next_121 : decode cX13_next 121 = .ok (.invokevirtual 433, 3) := by decide +kernel
theorem dX13_next_124 : decode cX13_next 124 = .ok (.aload_n 0, 1) := by decide +kernel
theorem dX13_next_125 : decode cX13_next 125 = .ok (.iload_n 3, 1) := by decide +kernel
theorem dX13_next_126 : decode cX13_next 126 = .ok (.invokevirtual 446, 3) := by decide +kernel
theorem dX13_next_129 : decode cX13_next 129 = .ok (.istore_n 3, 1) := by decide +kernel
theorem dX13_next_130 : decode cX13_next 130 = .ok (.goto (-49), 3) := by decide +kernel
theorem dX13_next_133 : decode cX13_next 133 = .ok (.aload_n 0, 1) := by decide +kernel
theorem dX13_next_134 : decode cX13_next 134 = .ok (.bipush (-2), 2) := by decide +kernel
theorem dX13_next_136 : decode cX13_next 136 = .ok (.invokevirtual 80, 3) := by decide +kernel
theorem dX13_next_139 : decode cX13_next 139 = .ok (.ireturn, 1) := by decide +kernel
theorem dX13_callerNow_0 : decode cX13_callerNow 0 = .ok (.aload_n 0, 1) := by decide +kernel
theorem dX13_callerNow_1 : decode cX13_callerNow 1 = .ok (.aload_n 0, 1) := by decide +kernel
theorem dX13_callerNow_2 : decode cX13_callerNow 2 = .ok (.getfield 318, 3) := by decide +kernel
theorem dX13_callerNow_5 : decode cX13_callerNow 5 = .ok (.invokevirtual 433, 3) := by decide +kernel
theorem dX13_callerNow_8 : decode cX13_callerNow 8 = .ok (.bipush (-2), 2) := by decide +kernel
theorem dX13_callerNow_10 : decode cX13_callerNow 10 = .ok (.istore_n 1, 1) := by decide +kernel
theorem dX13_callerNow_11 : decode cX13_callerNow 11 = .ok (.iconst 0, 1) := by decide +kernel
theorem dX13_callerNow_12 : decode cX13_callerNow 12 = .ok (.istore_n 2, 1) := by decide +kernel
theorem dX13_callerNow_13 : decode cX13_callerNow 13 = .ok (.aload_n 0, 1) := by decide +kernel
theorem dX13_callerNow_14 : decode cX13_callerNow 14 = .ok (.iconst (-1), 1) := by decide +kernel
theorem dX13_callerNow_15 : decode cX13_callerNow 15 = .ok (.invokevirtual 446, 3) := by decide +kernel
theorem dX13_callerNow_18 : decode cX13_callerNow 18 = .ok (.istore_n 3, 1) := by decide +kernel
theorem dX13_callerNow_19 : decode cX13_callerNow 19 = .ok (.iload_n 3, 1) := by decide +kernel
theorem dX13_callerNow_20 : decode cX13_callerNow 20 = .ok (.sipush 2000, 3) := by decide +kernel
theorem dX13_callerNow_23 : decode cX13_callerNow 23 = .ok (.if_icmp .ge 55, 3) := by decide +kernel
theorem dX13_callerNow_26 : decode cX13_callerNow 26 = .ok (.aload_n 0, 1) := by decide +kernel
theorem dX13_callerNow_27 : decode cX13_callerNow 27 = .ok (.aload_n 0, 1) := by decide +kernel
theorem dX13_callerNow_28 : decode cX13_callerNow 28 = .ok (.aload_n 0, 1) := by decide +kernel
theorem dX13_callerNow_29 : decode cX13_callerNow 29 = .ok (.getfield 318, 3) := by decide +kernel
theorem dX13_callerNow_32 : decode cX13_callerNow 32 = .ok (.iload_n 3, 1) := by decide +kernel
theorem dX13_callerNow_33 : decode cX13_callerNow 33 = .ok (.invokevirtual 463, 3) := by decide +kernel
theorem dX13_callerNow_36 : decode cX13_callerNow 36 = .ok (.invokevirtual 469, 3) := by decide +kernel
theorem dX13_callerNow_39 : decode cX13_callerNow 39 = .ok (.istore 4, 2) := by decide +kernel
theorem dX13_callerNow_41 : decode cX13_callerNow 41 = .ok (.aload_n 0, 1) := by decide +kernel
theorem dX13_callerNow_42 : decode cX13_callerNow 42 = .ok (.aload_n 0, 1) := by decide +kernel
theorem dX13_callerNow_43 : decode cX13_callerNow 43 = .ok (.getfield 318, 3) := by decide +kernel
theorem dX13_callerNow_46 : decode cX13_callerNow 46 = .ok (.invokevirtual 433, 3) := by decide +kernel
theorem dX13_callerNow_49 : decode cX13_callerNow 49 = .ok (.iload_n 1, 1) := by decide +kernel
theorem dX13_callerNow_50 : decode cX13_callerNow 50 = .ok (.bipush (-2), 2) := by decide +kernel
theorem dX13_callerNow_52 : decode cX13_callerNow 52 = .ok (.if_icmp .eq 12, 3) := by decide +kernel
theorem dX13_callerNow_55 : decode cX13_callerNow 55 = .ok (.iload 4, 2) := by decide +kernel
theorem dX13_callerNow_57 : decode cX13_callerNow 57 = .ok (.iload_n 2, 1) := by decide +kernel
theorem dX13_callerNow_58 : decode cX13_callerNow 58 = .ok (.if_icmp .lt 6, 3) := by decide +kernel
theorem dX13_callerNow_61 : decode cX13_callerNow 61 = .ok (.goto 8, 3) := by decide +kernel
theorem dX13_callerNow_64 : decode cX13_callerNow 64 = .ok (.iload_n 3, 1) := by decide +kernel
theorem dX13_callerNow_65 : decode cX13_callerNow 65 = .ok (.istore_n 1, 1) := by decide +kernel
theorem dX13_callerNow_66 : decode cX13_callerNow 66 = .ok (.iload 4, 2) := by decide +kernel
theorem dX13_callerNow_68 : decode cX13_callerNow 68 = .ok (.istore_n 2, 1) := by decide +kernel
theorem dX13_callerNow_69 : decode cX13_callerNow 69 = .ok (.aload_n 0, 1) := by decide +kernel
theorem dX13_callerNow_70 : decode cX13_callerNow 70 = .ok (.iload_n 3, 1) := by decide +kernel
theorem dX13_callerNow_71 : decode cX13_callerNow 71 = .ok (.invokevirtual 446, 3) := by decide +kernel
theorem dX13_callerNow_74 : decode cX13_callerNow 74 = .ok (.istore_n 3, 1) := by decide +kernel
theorem dX13_callerNow_75 : decode cX13_callerNow 75 = .ok (.goto (-56), 3) := by decide +kernel
theorem dX13_callerNow_78 : decode cX13_callerNow 78 = .ok (.iload_n 1, 1) := by decide +kernel
theorem dX13_callerNow_79 : decode cX13_callerNow 79 = .ok (.ireturn, 1) := by decide +kernel
theorem dX13_leastBehind_0 : decode cX13_leastBehind 0 = .ok (.aload_n 0, 1) := by decide +kernel
theorem dX13_leastBehind_1 : decode cX13_leastBehind 1 = .ok (.lload_n 1, 1) := by decide +kernel
theorem dX13_leastBehind_2 : decode cX13_leastBehind 2 = .ok (.invokevirtual 443, 3) := by decide +kernel
theorem dX13_leastBehind_5 : decode cX13_leastBehind 5 = .ok (.istore_n 3, 1) := by decide +kernel
theorem dX13_leastBehind_6 : decode cX13_leastBehind 6 = .ok (.aload_n 0, 1) := by decide +kernel
theorem dX13_leastBehind_7 : decode cX13_leastBehind 7 = .ok (.lload_n 1, 1) := by decide +kernel
theorem dX13_leastBehind_8 : decode cX13_leastBehind 8 = .ok (.invokevirtual 433, 3) := by decide +kernel
theorem dX13_leastBehind_11 : decode cX13_leastBehind 11 = .ok (.aload_n 0, 1) := by decide +kernel
theorem dX13_leastBehind_12 : decode cX13_leastBehind 12 = .ok (.iconst (-1), 1) := by decide +kernel
theorem dX13_leastBehind_13 : decode cX13_leastBehind 13 = .ok (.invokevirtual 446, 3) := by decide +kernel
theorem dX13_leastBehind_16 : decode cX13_leastBehind 16 = .ok (.istore 4, 2) := by decide +kernel
theorem dX13_leastBehind_18 : decode cX13_leastBehind 18 = .ok (.iload 4, 2) := by decide +kernel
theorem dX13_leastBehind_20 : decode cX13_leastBehind 20 = .ok (.sipush 2000, 3) := by decide +kernel
theorem dX13_leastBehind_23 : decode cX13_leastBehind 23 = .ok (.if_icmp .ge 40, 3) := by decide +kernel
theorem dX13_leastBehind_26 : decode cX13_leastBehind 26 = .ok (.aload_n 0, 1) := by decide +kernel
theorem dX13_leastBehind_27 : decode cX13_leastBehind 27 = .ok (.aload_n 0, 1) := by decide +kernel
theorem dX13_leastBehind_28 : decode cX13_leastBehind 28 = .ok (.lload_n 1, 1) := by decide +kernel
theorem dX13_leastBehind_29 : decode cX13_leastBehind 29 = .ok (.iload 4, 2) := by decide +kernel
theorem dX13_leastBehind_31 : decode cX13_leastBehind 31 = .ok (.invokevirtual 463, 3) := by decide +kernel
theorem dX13_leastBehind_34 : decode cX13_leastBehind 34 = .ok (.invokevirtual 443, 3) := by decide +kernel
theorem dX13_leastBehind_37 : decode cX13_leastBehind 37 = .ok (.istore 5, 2) := by decide +kernel
theorem dX13_leastBehind_39 : decode cX13_leastBehind 39 = .ok (.iload 5, 2) := by decide +kernel
theorem dX13_leastBehind_41 : decode cX13_leastBehind 41 = .ok (.iload_n 3, 1) := by decide +kernel
theorem dX13_leastBehind_42 : decode cX13_leastBehind 42 = .ok (.if_icmp .ge 8, 3) := by decide +kernel
theorem dX13_leastBehind_45 : decode cX13_leastBehind 45 = .ok (.iload 5, 2) := by decide +kernel
theorem dX13_leastBehind_47 : decode cX13_leastBehind 47 = .ok (.goto 4, 3) := by decide +kernel
theorem dX13_leastBehind_50 : decode cX13_leastBehind 50 = .ok (.iload_n 3, 1) := by decide +kernel
theorem dX13_leastBehind_51 : decode cX13_leastBehind 51 = .ok (.istore_n 3, 1) := by decide +kernel
theorem dX13_leastBehind_52 : decode cX13_leastBehind 52 = .ok (.aload_n 0, 1) := by decide +kernel
theorem dX13_leastBehind_53 : decode cX13_leastBehind 53 = .ok (.iload 4, 2) := by decide +kernel
theorem dX13_leastBehind_55 : decode cX13_leastBehind 55 = .ok (.invokevirtual 446, 3) := by decide +kernel
theorem dX13_leastBehind_58 : decode cX13_leastBehind 58 = .ok (.istore 4, 2) := by decide +kernel
theorem dX13_leastBehind_60 : decode cX13_leastBehind 60 = .ok (.goto (-42), 3) := by decide +kernel
theorem dX13_leastBehind_63 : decode cX13_leastBehind 63 = .ok (.iload_n 3, 1) := by decide +kernel
theorem dX13_leastBehind_64 : decode cX13_leastBehind 64 = .ok (.ireturn, 1) := by decide +kernel
theorem dX13_caller_0 : decode cX13_caller 0 = .ok (.aload_n 0, 1) := by decide +kernel
theorem dX13_caller_1 : decode cX13_caller 1 = .ok (.iconst 0, 1) := by decide +kernel
theorem dX13_caller_2 : decode cX13_caller 2 = .ok (.putfield 70, 3) := by decide +kernel
theorem dX13_caller_5 : decode cX13_caller 5 = .ok (.aload_n 0, 1) := by decide +kernel
theorem dX13_caller_6 : decode cX13_caller 6 = .ok (.getfield 310, 3) := by decide +kernel
theorem dX13_caller_9 : decode cX13_caller 9 = .ok (.ifnonnull 11, 3) := by decide +kernel
theorem dX13_caller_12 : decode cX13_caller 12 = .ok (.aload_n 0, 1) := by decide +kernel
theorem dX13_caller_13 : decode cX13_caller 13 = .ok (.iconst 1, 1) := by decide +kernel
theorem dX13_caller_14 : decode cX13_caller 14 = .ok (.invokevirtual 76, 3) := by decide +kernel
theorem dX13_caller_17 : decode cX13_caller 17 = .ok (.goto 11, 3) := by decide +kernel
theorem dX13_caller_20 : decode cX13_caller 20 = .ok (.aload_n 0, 1) := by decide +kernel
theorem dX13_caller_21 : decode cX13_caller 21 = .ok (.aload_n 0, 1) := by decide +kernel
theorem dX13_caller_22 : decode cX13_caller 22 = .ok (.invokevirtual 472, 3) := by decide +kernel
theorem dX13_caller_25 : decode cX13_caller 25 = .ok (.invokevirtual 80, 3) := by decide +kernel
theorem dX13_caller_28 : decode cX13_caller 28 = .ok (.ireturn, 1) := by decide +kernel
theorem dX13_hangNow_0 : decode cX13_hangNow 0 = .ok (.iconst 0, 1) := by decide +kernel
theorem dX13_hangNow_1 : decode cX13_hangNow 1 = .ok (.istore_n 3, 1) := by decide +kernel
theorem dX13_hangNow_2 : decode cX13_hangNow 2 = .ok (.iconst 0, 1) := by decide +kernel
theorem dX13_hangNow_3 : decode cX13_hangNow 3 = .ok (.istore 4, 2) := by decide +kernel
theorem dX13_hangNow_5 : decode cX13_hangNow 5 = .ok (.iload 4, 2) := by decide +kernel
theorem dX13_hangNow_7 : decode cX13_hangNow 7 = .ok (.aload_n 0, 1) := by decide +kernel
theorem dX13_hangNow_8 : decode cX13_hangNow 8 = .ok (.getfield 310, 3) := by decide +kernel
theorem dX13_hangNow_11 : decode cX13_hangNow 11 = .ok (.getfield 277, 3) := by decide +kernel
theorem dX13_hangNow_14 : decode cX13_hangNow 14 = .ok (.if_icmp .ge 95, 3) := by decide +kernel
theorem dX13_hangNow_17 : decode cX13_hangNow 17 = .ok (.aload_n 0, 1) := by decide +kernel
theorem dX13_hangNow_18 : decode cX13_hangNow 18 = .ok (.getfield 310, 3) := by decide +kernel
theorem dX13_hangNow_21 : decode cX13_hangNow 21 = .ok (.getfield 368, 3) := by decide +kernel
theorem dX13_hangNow_24 : decode cX13_hangNow 24 = .ok (.aload_n 0, 1) := by decide +kernel
theorem dX13_hangNow_25 : decode cX13_hangNow 25 = .ok (.getfield 310, 3) := by decide +kernel
theorem dX13_hangNow_28 : decode cX13_hangNow 28 = .ok (.getfield 289, 3) := by decide +kernel
theorem dX13_hangNow_31 : decode cX13_hangNow 31 = .ok (.iload 4, 2) := by decide +kernel
theorem dX13_hangNow_33 : decode cX13_hangNow 33 = .ok (.iaload, 1) := by decide +kernel
theorem dX13_hangNow_34 : decode cX13_hangNow 34 = .ok (.iaload, 1) := by decide +kernel
theorem dX13_hangNow_35 : decode cX13_hangNow 35 = .ok (.istore 5, 2) := by decide +kernel
theorem dX13_hangNow_37 : decode cX13_hangNow 37 = .ok (.aload_n 0, 1) := by decide +kernel
theorem dX13_hangNow_38 : decode cX13_hangNow 38 = .ok (.getfield 310, 3) := by decide +kernel
theorem dX13_hangNow_41 : decode cX13_hangNow 41 = .ok (.getfield 368, 3) := by decide +kernel
theorem dX13_hangNow_44 : decode cX13_hangNow 44 = .ok (.aload_n 0, 1) := by decide +kernel
theorem dX13_hangNow_45 : decode cX13_hangNow 45 = .ok (.getfield 310, 3) := by decide +kernel
theorem dX13_hangNow_48 : decode cX13_hangNow 48 = .ok (.getfield 294, 3) := by decide +kernel
theorem dX13_hangNow_51 : decode cX13_hangNow 51 = .ok (.iload 4, 2) := by decide +kernel
theorem dX13_hangNow_53 : decode cX13_hangNow 53 = .ok (.iaload, 1) := by decide +kernel
theorem dX13_hangNow_54 : decode cX13_hangNow 54 = .ok (.iaload, 1) := by decide +kernel
theorem dX13_hangNow_55 : decode cX13_hangNow 55 = .ok (.istore 6, 2) := by decide +kernel
theorem dX13_hangNow_57 : decode cX13_hangNow 57 = .ok (.iload 5, 2) := by decide +kernel
theorem dX13_hangNow_59 : decode cX13_hangNow 59 = .ok (.iload_n 1, 1) := by decide +kernel
theorem dX13_hangNow_60 : decode cX13_hangNow 60 = .ok (.if_icmp .ne 9, 3) := by decide +kernel
theorem dX13_hangNow_63 : decode cX13_hangNow 63 = .ok (.iload 6, 2) := by decide +kernel
theorem dX13_hangNow_65 : decode cX13_hangNow 65 = .ok (.iload_n 2, 1) := by decide +kernel
theorem dX13_hangNow_66 : decode cX13_hangNow 66 = .ok (.if_icmp .eq 15, 3) := by decide +kernel
theorem dX13_hangNow_69 : decode cX13_hangNow 69 = .ok (.iload 5, 2) := by decide +kernel
theorem dX13_hangNow_71 : decode cX13_hangNow 71 = .ok (.iload_n 2, 1) := by decide +kernel
theorem dX13_hangNow_72 : decode cX13_hangNow 72 = .ok (.if_icmp .ne 31, 3) := by decide +kernel
theorem dX13_hangNow_75 : decode cX13_hangNow 75 = .ok (.iload 6, 2) := by decide +kernel
theorem dX13_hangNow_77 : decode cX13_hangNow 77 = .ok (.iload_n 1, 1) := by decide +kernel
theorem dX13_hangNow_78 : decode cX13_hangNow 78 = .ok (.if_icmp .ne 25, 3) := by decide +kernel
theorem dX13_hangNow_81 : decode cX13_hangNow 81 = .ok (.iload_n 3, 1) := by decide +kernel
theorem dX13_hangNow_82 : decode cX13_hangNow 82 = .ok (.aload_n 0, 1) := by decide +kernel
theorem dX13_hangNow_83 : decode cX13_hangNow 83 = .ok (.iload 4, 2) := by decide +kernel
theorem dX13_hangNow_85 : decode cX13_hangNow 85 = .ok (.invokevirtual 440, 3) := by decide +kernel
theorem dX13_hangNow_88 : decode cX13_hangNow 88 = .ok (.ifCond .eq 12, 3) := by decide +kernel
theorem dX13_hangNow_91 : decode cX13_hangNow 91 = .ok (.aload_n 0, 1) := by decide +kernel
theorem dX13_hangNow_92 : decode cX13_hangNow 92 = .ok (.iload 4, 2) := by decide +kernel
theorem dX13_hangNow_94 : decode cX13_hangNow 94 = .ok (.invokevirtual 377, 3) := by decide +kernel
theorem dX13_hangNow_97 : decode cX13_hangNow 97 = .ok (.goto 4, 3) := by decide +kernel
theorem dX13_hangNow_100 : decode cX13_hangNow 100 = .ok (.iconst 0, 1) := by decide +kernel
theorem dX13_hangNow_101 : decode cX13_hangNow 101 = .ok (.iadd, 1) := by decide +kernel
theorem dX13_hangNow_102 : decode cX13_hangNow 102 = .ok (.istore_n 3, 1) := by decide +kernel
theorem dX13_hangNow_103 : decode cX13_hangNow 103 = .ok (.iinc 4 1, 3) := by decide +kernel
theorem dX13_hangNow_106 : decode cX13_hangNow 106 = .ok (.goto (-101), 3) := by decide +kernel
theorem dX13_hangNow_109 : decode cX13_hangNow 109 = .ok (.iload_n 3, 1) := by decide +kernel
theorem dX13_hangNow_110 : decode cX13_hangNow 110 = .ok (.ireturn, 1) := by decide +kernel
theorem dX13_hang_0 : decode cX13_hang 0 = .ok (.aload_n 0, 1) := by decide +kernel
theorem dX13_hang_1 : decode cX13_hang 1 = .ok (.iconst 0, 1) := by decide +kernel
theorem dX13_hang_2 : decode cX13_hang 2 = .ok (.putfield 70, 3) := by decide +kernel
theorem dX13_hang_5 : decode cX13_hang 5 = .ok (.aload_n 0, 1) := by decide +kernel
theorem dX13_hang_6 : decode cX13_hang 6 = .ok (.iload_n 1, 1) := by decide +kernel
theorem dX13_hang_7 : decode cX13_hang 7 = .ok (.invokevirtual 412, 3) := by decide +kernel
theorem dX13_hang_10 : decode cX13_hang 10 = .ok (.ifCond .eq 29, 3) := by decide +kernel
theorem dX13_hang_13 : decode cX13_hang 13 = .ok (.aload_n 0, 1) := by decide +kernel
theorem dX13_hang_14 : decode cX13_hang 14 = .ok (.iload_n 2, 1) := by decide +kernel
theorem dX13_hang_15 : decode cX13_hang 15 = .ok (.invokevirtual 412, 3) := by decide +kernel
theorem dX13_hang_18 : decode cX13_hang 18 = .ok (.ifCond .eq 21, 3) := by decide +kernel
theorem dX13_hang_21 : decode cX13_hang 21 = .ok (.iload_n 1, 1) := by decide +kernel
theorem dX13_hang_22 : decode cX13_hang 22 = .ok (.iload_n 2, 1) := by decide +kernel
theorem dX13_hang_23 : decode cX13_hang 23 = .ok (.if_icmp .eq 16, 3) := by decide +kernel
theorem dX13_hang_26 : decode cX13_hang 26 = .ok (.aload_n 0, 1) := by decide +kernel
theorem dX13_hang_27 : decode cX13_hang 27 = .ok (.aload_n 0, 1) := by decide +kernel
theorem dX13_hang_28 : decode cX13_hang 28 = .ok (.iload_n 1, 1) := by decide +kernel
theorem dX13_hang_29 : decode cX13_hang 29 = .ok (.iload_n 2, 1) := by decide +kernel
theorem dX13_hang_30 : decode cX13_hang 30 = .ok (.invokevirtual 475, 3) := by decide +kernel
theorem dX13_hang_33 : decode cX13_hang 33 = .ok (.invokevirtual 80, 3) := by decide +kernel
theorem dX13_hang_36 : decode cX13_hang 36 = .ok (.goto 8, 3) := by decide +kernel
theorem dX13_hang_39 : decode cX13_hang 39 = .ok (.aload_n 0, 1) := by decide +kernel
theorem dX13_hang_40 : decode cX13_hang 40 = .ok (.iconst 1, 1) := by decide +kernel
theorem dX13_hang_41 : decode cX13_hang 41 = .ok (.invokevirtual 437, 3) := by decide +kernel
theorem dX13_hang_44 : decode cX13_hang 44 = .ok (.ireturn, 1) := by decide +kernel
theorem dX13_laysArcs_0 : decode cX13_laysArcs 0 = .ok (.aload_n 0, 1) := by decide +kernel
theorem dX13_laysArcs_1 : decode cX13_laysArcs 1 = .ok (.iconst 0, 1) := by decide +kernel
theorem dX13_laysArcs_2 : decode cX13_laysArcs 2 = .ok (.putfield 478, 3) := by decide +kernel
theorem dX13_laysArcs_5 : decode cX13_laysArcs 5 = .ok (.iconst 0, 1) := by decide +kernel
theorem dX13_laysArcs_6 : decode cX13_laysArcs 6 = .ok (.istore_n 1, 1) := by decide +kernel
theorem dX13_laysArcs_7 : decode cX13_laysArcs 7 = .ok (.iload_n 1, 1) := by decide +kernel
theorem dX13_laysArcs_8 : decode cX13_laysArcs 8 = .ok (.aload_n 0, 1) := by decide +kernel
theorem dX13_laysArcs_9 : decode cX13_laysArcs 9 = .ok (.getfield 310, 3) := by decide +kernel
theorem dX13_laysArcs_12 : decode cX13_laysArcs 12 = .ok (.getfield 336, 3) := by decide +kernel
theorem dX13_laysArcs_15 : decode cX13_laysArcs 15 = .ok (.if_icmp .ge 188, 3) := by decide +kernel
theorem dX13_laysArcs_18 : decode cX13_laysArcs 18 = .ok (.aload_n 0, 1) := by decide +kernel
theorem dX13_laysArcs_19 : decode cX13_laysArcs 19 = .ok (.getfield 321, 3) := by decide +kernel
theorem dX13_laysArcs_22 : decode cX13_laysArcs 22 = .ok (.bipush (-2), 2) := by decide +kernel
theorem dX13_laysArcs_24 : decode cX13_laysArcs 24 = .ok (.if_icmp .eq 23, 3) := by decide +kernel
theorem dX13_laysArcs_27 : decode cX13_laysArcs 27 = .ok (.aload_n 0, 1) := by decide +kernel
theorem dX13_laysArcs_28 : decode cX13_laysArcs 28 = .ok (.getfield 310, 3) := by decide +kernel
theorem dX13_laysArcs_31 : decode cX13_laysArcs 31 = .ok (.getfield 368, 3) := by decide +kernel
theorem dX13_laysArcs_34 : decode cX13_laysArcs 34 = .ok (.aload_n 0, 1) := by decide +kernel
theorem dX13_laysArcs_35 : decode cX13_laysArcs 35 = .ok (.getfield 321, 3) := by decide +kernel
theorem dX13_laysArcs_38 : decode cX13_laysArcs 38 = .ok (.iaload, 1) := by decide +kernel
theorem dX13_laysArcs_39 : decode cX13_laysArcs 39 = .ok (.iload_n 1, 1) := by decide +kernel
theorem dX13_laysArcs_40 : decode cX13_laysArcs 40 = .ok (.if_icmp .ne 7, 3) := by decide +kernel
theorem dX13_laysArcs_43 : decode cX13_laysArcs 43 = .ok (.iconst 1, 1) := by decide +kernel
theorem dX13_laysArcs_44 : decode cX13_laysArcs 44 = .ok (.goto 4, 3) := by decide +kernel
theorem dX13_laysArcs_47 : decode cX13_laysArcs 47 = .ok (.iconst 0, 1) := by decide +kernel
theorem dX13_laysArcs_48 : decode cX13_laysArcs 48 = .ok (.istore_n 2, 1) := by decide +kernel
theorem dX13_laysArcs_49 : decode cX13_laysArcs 49 = .ok (.iconst 0, 1) := by decide +kernel
theorem dX13_laysArcs_50 : decode cX13_laysArcs 50 = .ok (.istore_n 3, 1) := by decide +kernel
theorem dX13_laysArcs_51 : decode cX13_laysArcs 51 = .ok (.iconst 0, 1) := by decide +kernel
theorem dX13_laysArcs_52 : decode cX13_laysArcs 52 = .ok (.istore 4, 2) := by decide +kernel
theorem dX13_laysArcs_54 : decode cX13_laysArcs 54 = .ok (.iload 4, 2) := by decide +kernel
theorem dX13_laysArcs_56 : decode cX13_laysArcs 56 = .ok (.iconst 2, 1) := by decide +kernel
theorem dX13_laysArcs_57 : decode cX13_laysArcs 57 = .ok (.if_icmp .ge 134, 3) := by decide +kernel
theorem dX13_laysArcs_60 : decode cX13_laysArcs 60 = .ok (.iconst 0, 1) := by decide +kernel
theorem dX13_laysArcs_61 : decode cX13_laysArcs 61 = .ok (.istore 5, 2) := by decide +kernel
theorem dX13_laysArcs_63 : decode cX13_laysArcs 63 = .ok (.iload 5, 2) := by decide +kernel
theorem dX13_laysArcs_65 : decode cX13_laysArcs 65 = .ok (.aload_n 0, 1) := by decide +kernel
theorem dX13_laysArcs_66 : decode cX13_laysArcs 66 = .ok (.getfield 310, 3) := by decide +kernel
theorem dX13_laysArcs_69 : decode cX13_laysArcs 69 = .ok (.getfield 346, 3) := by decide +kernel
theorem dX13_laysArcs_72 : decode cX13_laysArcs 72 = .ok (.if_icmp .ge 113, 3) := by decide +kernel
theorem dX13_laysArcs_75 : decode cX13_laysArcs 75 = .ok (.aload_n 0, 1) := by decide +kernel
theorem dX13_laysArcs_76 : decode cX13_laysArcs 76 = .ok (.getfield 310, 3) := by decide +kernel
theorem dX13_laysArcs_79 : decode cX13_laysArcs 79 = .ok (.getfield 356, 3) := by decide +kernel
theorem dX13_laysArcs_82 : decode cX13_laysArcs 82 = .ok (.iload 5, 2) := by decide +kernel
theorem dX13_laysArcs_84 : decode cX13_laysArcs 84 = .ok (.iaload, 1) := by decide +kernel
theorem dX13_laysArcs_85 : decode cX13_laysArcs 85 = .ok (.iload_n 1, 1) := by decide +kernel
theorem dX13_laysArcs_86 : decode cX13_laysArcs 86 = .ok (.if_icmp .ne 93, 3) := by decide +kernel
theorem dX13_laysArcs_89 : decode cX13_laysArcs 89 = .ok (.aload_n 0, 1) := by decide +kernel
theorem dX13_laysArcs_90 : decode cX13_laysArcs 90 = .ok (.getfield 318, 3) := by decide +kernel
theorem dX13_laysArcs_93 : decode cX13_laysArcs 93 = .ok (.iload 5, 2) := by decide +kernel
theorem dX13_laysArcs_95 : decode cX13_laysArcs 95 = .ok (.invokestatic 349, 3) := by decide +kernel
theorem dX13_laysArcs_98 : decode cX13_laysArcs 98 = .ok (.bipush 15, 2) := by decide +kernel
theorem dX13_laysArcs_100 : decode cX13_laysArcs 100 = .ok (.if_icmp .ne 6, 3) := by decide +kernel
theorem dX13_laysArcs_103 : decode cX13_laysArcs 103 = .ok (.goto 76, 3) := by decide +kernel
theorem dX13_laysArcs_106 : decode cX13_laysArcs 106 = .ok (.iload_n 2, 1) := by decide +kernel
theorem dX13_laysArcs_107 : decode cX13_laysArcs 107 = .ok (.ifCond .eq 36, 3) := by decide +kernel
theorem dX13_laysArcs_110 : decode cX13_laysArcs 110 = .ok (.aload_n 0, 1) := by decide +kernel
theorem dX13_laysArcs_111 : decode cX13_laysArcs 111 = .ok (.getfield 310, 3) := by decide +kernel
theorem dX13_laysArcs_114 : decode cX13_laysArcs 114 = .ok (.getfield 359, 3) := by decide +kernel
theorem dX13_laysArcs_117 : decode cX13_laysArcs 117 = .ok (.aload_n 0, 1) := by decide +kernel
theorem dX13_laysArcs_118 : decode cX13_laysArcs 118 = .ok (.getfield 310, 3) := by decide +kernel
theorem dX13_laysArcs_121 : decode cX13_laysArcs 121 = .ok (.getfield 362, 3) := by decide +kernel
theorem dX13_laysArcs_124 : decode cX13_laysArcs 124 = .ok (.iload 5, 2) := by decide +kernel
theorem dX13_laysArcs_126 : decode cX13_laysArcs 126 = .ok (.iaload, 1) := by decide +kernel
theorem dX13_laysArcs_127 : decode cX13_laysArcs 127 = .ok (.iaload, 1) := by decide +kernel
theorem dX13_laysArcs_128 : decode cX13_laysArcs 128 = .ok (.aload_n 0, 1) := by decide +kernel
theorem dX13_laysArcs_129 : decode cX13_laysArcs 129 = .ok (.getfield 310, 3) := by decide +kernel
theorem dX13_laysArcs_132 : decode cX13_laysArcs 132 = .ok (.getfield 359, 3) := by decide +kernel
theorem dX13_laysArcs_135 : decode cX13_laysArcs 135 = .ok (.aload_n 0, 1) := by decide +kernel
theorem dX13_laysArcs_136 : decode cX13_laysArcs 136 = .ok (.getfield 321, 3) := by decide +kernel
theorem dX13_laysArcs_139 : decode cX13_laysArcs 139 = .ok (.iaload, 1) := by decide +kernel
theorem dX13_laysArcs_140 : decode cX13_laysArcs 140 = .ok (.if_icmp .le 7, 3) := by decide +kernel
theorem dX13_laysArcs_143 : decode cX13_laysArcs 143 = .ok (.iconst 1, 1) := by decide +kernel
theorem dX13_laysArcs_144 : decode cX13_laysArcs 144 = .ok (.goto 4, 3) := by decide +kernel
theorem dX13_laysArcs_147 : decode cX13_laysArcs 147 = .ok (.iconst 0, 1) := by decide +kernel
theorem dX13_laysArcs_148 : decode cX13_laysArcs 148 = .ok (.istore 6, 2) := by decide +kernel
theorem dX13_laysArcs_150 : decode cX13_laysArcs 150 = .ok (.iload 6, 2) := by decide +kernel
theorem dX13_laysArcs_152 : decode cX13_laysArcs 152 = .ok (.iload 4, 2) := by decide +kernel
theorem dX13_laysArcs_154 : decode cX13_laysArcs 154 = .ok (.ifCond .ne 7, 3) := by decide +kernel
theorem dX13_laysArcs_157 : decode cX13_laysArcs 157 = .ok (.iconst 1, 1) := by decide +kernel
theorem dX13_laysArcs_158 : decode cX13_laysArcs 158 = .ok (.goto 4, 3) := by decide +kernel
theorem dX13_laysArcs_161 : decode cX13_laysArcs 161 = .ok (.iconst 0, 1) := by decide +kernel
theorem dX13_laysArcs_162 : decode cX13_laysArcs 162 = .ok (.if_icmp .eq 6, 3) := by decide +kernel
theorem dX13_laysArcs_165 : decode cX13_laysArcs 165 = .ok (.goto 14, 3) := by decide +kernel
theorem dX13_laysArcs_168 : decode cX13_laysArcs 168 = .ok (.aload_n 0, 1) := by decide +kernel
theorem dX13_laysArcs_169 : decode cX13_laysArcs 169 = .ok (.getfield 37, 3) := by decide +kernel
theorem dX13_laysArcs_172 : decode cX13_laysArcs 172 = .ok (.iload_n 3, 1) := by decide +kernel
theorem dX13_laysArcs_173 : decode cX13_laysArcs 173 = .ok (.iload 5, 2) := by decide +kernel
theorem dX13_laysArcs_175 : decode cX13_laysArcs 175 = .ok (.iastore, 1) := by decide +kernel
theorem dX13_laysArcs_176 : decode cX13_laysArcs 176 = .ok (.iinc 3 1, 3) := by decide +kernel
theorem dX13_laysArcs_179 : decode cX13_laysArcs 179 = .ok (.iinc 5 1, 3) := by decide +kernel
theorem dX13_laysArcs_182 : decode cX13_laysArcs 182 = .ok (.goto (-119), 3) := by decide +kernel
theorem dX13_laysArcs_185 : decode cX13_laysArcs 185 = .ok (.iinc 4 1, 3) := by decide +kernel
theorem dX13_laysArcs_188 : decode cX13_laysArcs 188 = .ok (.goto (-134), 3) := by decide +kernel
theorem dX13_laysArcs_191 : decode cX13_laysArcs 191 = .ok (.aload_n 0, 1) := by decide +kernel
theorem dX13_laysArcs_192 : decode cX13_laysArcs 192 = .ok (.iload_n 3, 1) := by decide +kernel
theorem dX13_laysArcs_193 : decode cX13_laysArcs 193 = .ok (.iload_n 2, 1) := by decide +kernel
theorem dX13_laysArcs_194 : decode cX13_laysArcs 194 = .ok (.invokevirtual 481, 3) := by decide +kernel
theorem dX13_laysArcs_197 : decode cX13_laysArcs 197 = .ok (.iinc 1 1, 3) := by decide +kernel
theorem dX13_laysArcs_200 : decode cX13_laysArcs 200 = .ok (.goto (-193), 3) := by decide +kernel
theorem dX13_laysArcs_203 : decode cX13_laysArcs 203 = .ok (.return_, 1) := by decide +kernel
theorem dX13_laysArcsOf_0 : decode cX13_laysArcsOf 0 = .ok (.aload_n 0, 1) := by decide +kernel
theorem dX13_laysArcsOf_1 : decode cX13_laysArcsOf 1 = .ok (.getfield 478, 3) := by decide +kernel
theorem dX13_laysArcsOf_4 : decode cX13_laysArcsOf 4 = .ok (.istore_n 3, 1) := by decide +kernel
theorem dX13_laysArcsOf_5 : decode cX13_laysArcsOf 5 = .ok (.aload_n 0, 1) := by decide +kernel
theorem dX13_laysArcsOf_6 : decode cX13_laysArcsOf 6 = .ok (.getfield 478, 3) := by decide +kernel
theorem dX13_laysArcsOf_9 : decode cX13_laysArcsOf 9 = .ok (.istore 4, 2) := by decide +kernel
theorem dX13_laysArcsOf_11 : decode cX13_laysArcsOf 11 = .ok (.iconst 0, 1) := by decide +kernel
theorem dX13_laysArcsOf_12 : decode cX13_laysArcsOf 12 = .ok (.istore 5, 2) := by decide +kernel
theorem dX13_laysArcsOf_14 : decode cX13_laysArcsOf 14 = .ok (.iconst 0, 1) := by decide +kernel
theorem dX13_laysArcsOf_15 : decode cX13_laysArcsOf 15 = .ok (.istore 6, 2) := by decide +kernel
theorem dX13_laysArcsOf_17 : decode cX13_laysArcsOf 17 = .ok (.iload 6, 2) := by decide +kernel
theorem dX13_laysArcsOf_19 : decode cX13_laysArcsOf 19 = .ok (.iload_n 1, 1) := by decide +kernel
theorem dX13_laysArcsOf_20 : decode cX13_laysArcsOf 20 = .ok (.if_icmp .ge 74, 3) := by decide +kernel
theorem dX13_laysArcsOf_23 : decode cX13_laysArcsOf 23 = .ok (.aload_n 0, 1) := by decide +kernel
theorem dX13_laysArcsOf_24 : decode cX13_laysArcsOf 24 = .ok (.getfield 318, 3) := by decide +kernel
theorem dX13_laysArcsOf_27 : decode cX13_laysArcsOf 27 = .ok (.aload_n 0, 1) := by decide +kernel
theorem dX13_laysArcsOf_28 : decode cX13_laysArcsOf 28 = .ok (.getfield 37, 3) := by decide +kernel
theorem dX13_laysArcsOf_31 : decode cX13_laysArcsOf 31 = .ok (.iload 6, 2) := by decide +kernel
theorem dX13_laysArcsOf_33 : decode cX13_laysArcsOf 33 = .ok (.iaload, 1) := by decide +kernel
theorem dX13_laysArcsOf_34 : decode cX13_laysArcsOf 34 = .ok (.invokestatic 349, 3) := by decide +kernel
theorem dX13_laysArcsOf_37 : decode cX13_laysArcsOf 37 = .ok (.iconst 1, 1) := by decide +kernel
theorem dX13_laysArcsOf_38 : decode cX13_laysArcsOf 38 = .ok (.iand, 1) := by decide +kernel
theorem dX13_laysArcsOf_39 : decode cX13_laysArcsOf 39 = .ok (.ifCond .ne 7, 3) := by decide +kernel
theorem dX13_laysArcsOf_42 : decode cX13_laysArcsOf 42 = .ok (.iconst 1, 1) := by decide +kernel
theorem dX13_laysArcsOf_43 : decode cX13_laysArcsOf 43 = .ok (.goto 4, 3) := by decide +kernel
theorem dX13_laysArcsOf_46 : decode cX13_laysArcsOf 46 = .ok (.iconst 0, 1) := by decide +kernel
theorem dX13_laysArcsOf_47 : decode cX13_laysArcsOf 47 = .ok (.istore 7, 2) := by decide +kernel
theorem dX13_laysArcsOf_49 : decode cX13_laysArcsOf 49 = .ok (.aload_n 0, 1) := by decide +kernel
theorem dX13_laysArcsOf_50 : decode cX13_laysArcsOf 50 = .ok (.getfield 31, 3) := by decide +kernel
theorem dX13_laysArcsOf_53 : decode cX13_laysArcsOf 53 = .ok (.aload_n 0, 1) := by decide +kernel
theorem dX13_laysArcsOf_54 : decode cX13_laysArcsOf 54 = .ok (.getfield 37, 3) := by decide +kernel
theorem dX13_laysArcsOf_57 : decode cX13_laysArcsOf 57 = .ok (.iload 6, 2) := by decide +kernel
theorem dX13_laysArcsOf_59 : decode cX13_laysArcsOf 59 = .ok (.iaload, 1) := by decide +kernel
theorem dX13_laysArcsOf_60 : decode cX13_laysArcsOf 60 = .ok (.iload 4, 2) := by decide +kernel
theorem dX13_laysArcsOf_62 : decode cX13_laysArcsOf 62 = .ok (.iastore, 1) := by decide +kernel
theorem dX13_laysArcsOf_63 : decode cX13_laysArcsOf 63 = .ok (.iload 7, 2) := by decide +kernel
theorem dX13_laysArcsOf_65 : decode cX13_laysArcsOf 65 = .ok (.ifCond .eq 9, 3) := by decide +kernel
theorem dX13_laysArcsOf_68 : decode cX13_laysArcsOf 68 = .ok (.iinc 4 1, 3) := by decide +kernel
theorem dX13_laysArcsOf_71 : decode cX13_laysArcsOf 71 = .ok (.iinc 5 1, 3) := by decide +kernel
theorem dX13_laysArcsOf_74 : decode cX13_laysArcsOf 74 = .ok (.aload_n 0, 1) := by decide +kernel
theorem dX13_laysArcsOf_75 : decode cX13_laysArcsOf 75 = .ok (.getfield 34, 3) := by decide +kernel
theorem dX13_laysArcsOf_78 : decode cX13_laysArcsOf 78 = .ok (.aload_n 0, 1) := by decide +kernel
theorem dX13_laysArcsOf_79 : decode cX13_laysArcsOf 79 = .ok (.getfield 37, 3) := by decide +kernel
theorem dX13_laysArcsOf_82 : decode cX13_laysArcsOf 82 = .ok (.iload 6, 2) := by decide +kernel
theorem dX13_laysArcsOf_84 : decode cX13_laysArcsOf 84 = .ok (.iaload, 1) := by decide +kernel
theorem dX13_laysArcsOf_85 : decode cX13_laysArcsOf 85 = .ok (.iload 4, 2) := by decide +kernel
theorem dX13_laysArcsOf_87 : decode cX13_laysArcsOf 87 = .ok (.iastore, 1) := by decide +kernel
theorem dX13_laysArcsOf_88 : decode cX13_laysArcsOf 88 = .ok (.iinc 6 1, 3) := by decide +kernel
theorem dX13_laysArcsOf_91 : decode cX13_laysArcsOf 91 = .ok (.goto (-74), 3) := by decide +kernel
theorem dX13_laysArcsOf_94 : decode cX13_laysArcsOf 94 = .ok (.iload_n 2, 1) := by decide +kernel
theorem dX13_laysArcsOf_95 : decode cX13_laysArcsOf 95 = .ok (.ifCond .ne 8, 3) := by decide +kernel
theorem dX13_laysArcsOf_98 : decode cX13_laysArcsOf 98 = .ok (.iload 5, 2) := by decide +kernel
theorem dX13_laysArcsOf_100 : decode cX13_laysArcsOf 100 = .ok (.ifCond .ne 12, 3) := by decide +kernel
theorem dX13_laysArcsOf_103 : decode cX13_laysArcsOf 103 = .ok (.aload_n 0, 1) := by decide +kernel
theorem dX13_laysArcsOf_104 : decode cX13_laysArcsOf 104 = .ok (.iload 4, 2) := by decide +kernel
theorem dX13_laysArcsOf_106 : decode cX13_laysArcsOf 106 = .ok (.iconst 1, 1) := by decide +kernel
theorem dX13_laysArcsOf_107 : decode cX13_laysArcsOf 107 = .ok (.iadd, 1) := by decide +kernel
theorem dX13_laysArcsOf_108 : decode cX13_laysArcsOf 108 = .ok (.putfield 478, 3) := by decide +kernel
theorem dX13_laysArcsOf_111 : decode cX13_laysArcsOf 111 = .ok (.return_, 1) := by decide +kernel
theorem dX13_laysArcsOf_112 : decode cX13_laysArcsOf 112 = .ok (.iconst 0, 1) := by decide +kernel
theorem dX13_laysArcsOf_113 : decode cX13_laysArcsOf 113 = .ok (.istore 6, 2) := by decide +kernel
theorem dX13_laysArcsOf_115 : decode cX13_laysArcsOf 115 = .ok (.iload 6, 2) := by decide +kernel
theorem dX13_laysArcsOf_117 : decode cX13_laysArcsOf 117 = .ok (.iload_n 1, 1) := by decide +kernel
theorem dX13_laysArcsOf_118 : decode cX13_laysArcsOf 118 = .ok (.if_icmp .ge 69, 3) := by decide +kernel
theorem dX13_laysArcsOf_121 : decode cX13_laysArcsOf 121 = .ok (.aload_n 0, 1) := by decide +kernel
theorem dX13_laysArcsOf_122 : decode cX13_laysArcsOf 122 = .ok (.getfield 31, 3) := by decide +kernel
theorem dX13_laysArcsOf_125 : decode cX13_laysArcsOf 125 = .ok (.aload_n 0, 1) := by decide +kernel
theorem dX13_laysArcsOf_126 : decode cX13_laysArcsOf 126 = .ok (.getfield 37, 3) := by decide +kernel
theorem dX13_laysArcsOf_129 : decode cX13_laysArcsOf 129 = .ok (.iload 6, 2) := by decide +kernel
theorem dX13_laysArcsOf_131 : decode cX13_laysArcsOf 131 = .ok (.iaload, 1) := by decide +kernel
theorem dX13_laysArcsOf_132 : decode cX13_laysArcsOf 132 = .ok (.iaload, 1) := by decide +kernel
theorem dX13_laysArcsOf_133 : decode cX13_laysArcsOf 133 = .ok (.iload 4, 2) := by decide +kernel
theorem dX13_laysArcsOf_135 : decode cX13_laysArcsOf 135 = .ok (.if_icmp .ne 16, 3) := by decide +kernel
theorem dX13_laysArcsOf_138 : decode cX13_laysArcsOf 138 = .ok (.aload_n 0, 1) := by decide +kernel
theorem dX13_laysArcsOf_139 : decode cX13_laysArcsOf 139 = .ok (.getfield 31, 3) := by decide +kernel
theorem dX13_laysArcsOf_142 : decode cX13_laysArcsOf 142 = .ok (.aload_n 0, 1) := by decide +kernel
theorem dX13_laysArcsOf_143 : decode cX13_laysArcsOf 143 = .ok (.getfield 37, 3) := by decide +kernel
theorem dX13_laysArcsOf_146 : decode cX13_laysArcsOf 146 = .ok (.iload 6, 2) := by decide +kernel
theorem dX13_laysArcsOf_148 : decode cX13_laysArcsOf 148 = .ok (.iaload, 1) := by decide +kernel
theorem dX13_laysArcsOf_149 : decode cX13_laysArcsOf 149 = .ok (.iload_n 3, 1) := by decide +kernel
theorem dX13_laysArcsOf_150 : decode cX13_laysArcsOf 150 = .ok (.iastore, 1) := by decide +kernel
theorem dX13_laysArcsOf_151 : decode cX13_laysArcsOf 151 = .ok (.aload_n 0, 1) := by decide +kernel
theorem dX13_laysArcsOf_152 : decode cX13_laysArcsOf 152 = .ok (.getfield 34, 3) := by decide +kernel
theorem dX13_laysArcsOf_155 : decode cX13_laysArcsOf 155 = .ok (.aload_n 0, 1) := by decide +kernel
theorem dX13_laysArcsOf_156 : decode cX13_laysArcsOf 156 = .ok (.getfield 37, 3) := by decide +kernel
theorem dX13_laysArcsOf_159 : decode cX13_laysArcsOf 159 = .ok (.iload 6, 2) := by decide +kernel
theorem dX13_laysArcsOf_161 : decode cX13_laysArcsOf 161 = .ok (.iaload, 1) := by decide +kernel
theorem dX13_laysArcsOf_162 : decode cX13_laysArcsOf 162 = .ok (.iaload, 1) := by decide +kernel
theorem dX13_laysArcsOf_163 : decode cX13_laysArcsOf 163 = .ok (.iload 4, 2) := by decide +kernel
theorem dX13_laysArcsOf_165 : decode cX13_laysArcsOf 165 = .ok (.if_icmp .ne 16, 3) := by decide +kernel
theorem dX13_laysArcsOf_168 : decode cX13_laysArcsOf 168 = .ok (.aload_n 0, 1) := by decide +kernel
theorem dX13_laysArcsOf_169 : decode cX13_laysArcsOf 169 = .ok (.getfield 34, 3) := by decide +kernel
theorem dX13_laysArcsOf_172 : decode cX13_laysArcsOf 172 = .ok (.aload_n 0, 1) := by decide +kernel
theorem dX13_laysArcsOf_173 : decode cX13_laysArcsOf 173 = .ok (.getfield 37, 3) := by decide +kernel
theorem dX13_laysArcsOf_176 : decode cX13_laysArcsOf 176 = .ok (.iload 6, 2) := by decide +kernel
theorem dX13_laysArcsOf_178 : decode cX13_laysArcsOf 178 = .ok (.iaload, 1) := by decide +kernel
theorem dX13_laysArcsOf_179 : decode cX13_laysArcsOf 179 = .ok (.iload_n 3, 1) := by decide +kernel
theorem dX13_laysArcsOf_180 : decode cX13_laysArcsOf 180 = .ok (.iastore, 1) := by decide +kernel
theorem dX13_laysArcsOf_181 : decode cX13_laysArcsOf 181 = .ok (.iinc 6 1, 3) := by decide +kernel
theorem dX13_laysArcsOf_184 : decode cX13_laysArcsOf 184 = .ok (.goto (-69), 3) := by decide +kernel
theorem dX13_laysArcsOf_187 : decode cX13_laysArcsOf 187 = .ok (.aload_n 0, 1) := by decide +kernel
theorem dX13_laysArcsOf_188 : decode cX13_laysArcsOf 188 = .ok (.iload 4, 2) := by decide +kernel
theorem dX13_laysArcsOf_190 : decode cX13_laysArcsOf 190 = .ok (.putfield 478, 3) := by decide +kernel
theorem dX13_laysArcsOf_193 : decode cX13_laysArcsOf 193 = .ok (.return_, 1) := by decide +kernel
theorem dX13_turned_0 : decode cX13_turned 0 = .ok (.iconst 1, 1) := by decide +kernel
theorem dX13_turned_1 : decode cX13_turned 1 = .ok (.istore_n 2, 1) := by decide +kernel
theorem dX13_turned_2 : decode cX13_turned 2 = .ok (.iload_n 2, 1) := by decide +kernel
theorem dX13_turned_3 : decode cX13_turned 3 = .ok (.iload_n 0, 1) := by decide +kernel
theorem dX13_turned_4 : decode cX13_turned 4 = .ok (.imul, 1) := by decide +kernel
theorem dX13_turned_5 : decode cX13_turned 5 = .ok (.iload_n 1, 1) := by decide +kernel
theorem dX13_turned_6 : decode cX13_turned 6 = .ok (.irem, 1) := by decide +kernel
theorem dX13_turned_7 : decode cX13_turned 7 = .ok (.iconst 1, 1) := by decide +kernel
theorem dX13_turned_8 : decode cX13_turned 8 = .ok (.if_icmp .eq 9, 3) := by decide +kernel
theorem dX13_turned_11 : decode cX13_turned 11 = .ok (.iinc 2 1, 3) := by decide +kernel
theorem dX13_turned_14 : decode cX13_turned 14 = .ok (.goto (-12), 3) := by decide +kernel
theorem dX13_turned_17 : decode cX13_turned 17 = .ok (.iload_n 2, 1) := by decide +kernel
theorem dX13_turned_18 : decode cX13_turned 18 = .ok (.ireturn, 1) := by decide +kernel
theorem dX13_coloursNow_0 : decode cX13_coloursNow 0 = .ok (.aload_n 0, 1) := by decide +kernel
theorem dX13_coloursNow_1 : decode cX13_coloursNow 1 = .ok (.invokevirtual 485, 3) := by decide +kernel
theorem dX13_coloursNow_4 : decode cX13_coloursNow 4 = .ok (.aload_n 0, 1) := by decide +kernel
theorem dX13_coloursNow_5 : decode cX13_coloursNow 5 = .ok (.aload_n 0, 1) := by decide +kernel
theorem dX13_coloursNow_6 : decode cX13_coloursNow 6 = .ok (.getfield 318, 3) := by decide +kernel
theorem dX13_coloursNow_9 : decode cX13_coloursNow 9 = .ok (.invokevirtual 433, 3) := by decide +kernel
theorem dX13_coloursNow_12 : decode cX13_coloursNow 12 = .ok (.iconst 0, 1) := by decide +kernel
theorem dX13_coloursNow_13 : decode cX13_coloursNow 13 = .ok (.istore_n 2, 1) := by decide +kernel
theorem dX13_coloursNow_14 : decode cX13_coloursNow 14 = .ok (.iconst 0, 1) := by decide +kernel
theorem dX13_coloursNow_15 : decode cX13_coloursNow 15 = .ok (.istore_n 3, 1) := by decide +kernel
theorem dX13_coloursNow_16 : decode cX13_coloursNow 16 = .ok (.iload_n 3, 1) := by decide +kernel
theorem dX13_coloursNow_17 : decode cX13_coloursNow 17 = .ok (.aload_n 0, 1) := by decide +kernel
theorem dX13_coloursNow_18 : decode cX13_coloursNow 18 = .ok (.getfield 310, 3) := by decide +kernel
theorem dX13_coloursNow_21 : decode cX13_coloursNow 21 = .ok (.getfield 277, 3) := by decide +kernel
theorem dX13_coloursNow_24 : decode cX13_coloursNow 24 = .ok (.if_icmp .ge 122, 3) := by decide +kernel
theorem dX13_coloursNow_27 : decode cX13_coloursNow 27 = .ok (.aload_n 0, 1) := by decide +kernel
theorem dX13_coloursNow_28 : decode cX13_coloursNow 28 = .ok (.getfield 17, 3) := by decide +kernel
theorem dX13_coloursNow_31 : decode cX13_coloursNow 31 = .ok (.iconst 2, 1) := by decide +kernel
theorem dX13_coloursNow_32 : decode cX13_coloursNow 32 = .ok (.iload_n 3, 1) := by decide +kernel
theorem dX13_coloursNow_33 : decode cX13_coloursNow 33 = .ok (.imul, 1) := by decide +kernel
theorem dX13_coloursNow_34 : decode cX13_coloursNow 34 = .ok (.iaload, 1) := by decide +kernel
theorem dX13_coloursNow_35 : decode cX13_coloursNow 35 = .ok (.iconst (-1), 1) := by decide +kernel
theorem dX13_coloursNow_36 : decode cX13_coloursNow 36 = .ok (.if_icmp .ne 6, 3) := by decide +kernel
theorem dX13_coloursNow_39 : decode cX13_coloursNow 39 = .ok (.goto 101, 3) := by decide +kernel
theorem dX13_coloursNow_42 : decode cX13_coloursNow 42 = .ok (.iconst 0, 1) := by decide +kernel
theorem dX13_coloursNow_43 : decode cX13_coloursNow 43 = .ok (.istore 4, 2) := by decide +kernel
theorem dX13_coloursNow_45 : decode cX13_coloursNow 45 = .ok (.iload 4, 2) := by decide +kernel
theorem dX13_coloursNow_47 : decode cX13_coloursNow 47 = .ok (.bipush 24, 2) := by decide +kernel
theorem dX13_coloursNow_49 : decode cX13_coloursNow 49 = .ok (.if_icmp .ge 22, 3) := by decide +kernel
theorem dX13_coloursNow_52 : decode cX13_coloursNow 52 = .ok (.aload_n 0, 1) := by decide +kernel
theorem dX13_coloursNow_53 : decode cX13_coloursNow 53 = .ok (.getfield 40, 3) := by decide +kernel
theorem dX13_coloursNow_56 : decode cX13_coloursNow 56 = .ok (.bipush 24, 2) := by decide +kernel
theorem dX13_coloursNow_58 : decode cX13_coloursNow 58 = .ok (.iload_n 2, 1) := by decide +kernel
theorem dX13_coloursNow_59 : decode cX13_coloursNow 59 = .ok (.imul, 1) := by decide +kernel
theorem dX13_coloursNow_60 : decode cX13_coloursNow 60 = .ok (.iload 4, 2) := by decide +kernel
theorem dX13_coloursNow_62 : decode cX13_coloursNow 62 = .ok (.iadd, 1) := by decide +kernel
theorem dX13_coloursNow_63 : decode cX13_coloursNow 63 = .ok (.iconst 0, 1) := by decide +kernel
theorem dX13_coloursNow_64 : decode cX13_coloursNow 64 = .ok (.iastore, 1) := by decide +kernel
theorem dX13_coloursNow_65 : decode cX13_coloursNow 65 = .ok (.iinc 4 1, 3) := by decide +kernel
theorem dX13_coloursNow_68 : decode cX13_coloursNow 68 = .ok (.goto (-23), 3) := by decide +kernel
theorem dX13_coloursNow_71 : decode cX13_coloursNow 71 = .ok (.aload_n 0, 1) := by decide +kernel
theorem dX13_coloursNow_72 : decode cX13_coloursNow 72 = .ok (.iload_n 2, 1) := by decide +kernel
theorem dX13_coloursNow_73 : decode cX13_coloursNow 73 = .ok (.aload_n 0, 1) := by decide +kernel
theorem dX13_coloursNow_74 : decode cX13_coloursNow 74 = .ok (.getfield 31, 3) := by decide +kernel
theorem dX13_coloursNow_77 : decode cX13_coloursNow 77 = .ok (.aload_n 0, 1) := by decide +kernel
theorem dX13_coloursNow_78 : decode cX13_coloursNow 78 = .ok (.getfield 17, 3) := by decide +kernel
theorem dX13_coloursNow_81 : decode cX13_coloursNow 81 = .ok (.iconst 2, 1) := by decide +kernel
theorem dX13_coloursNow_82 : decode cX13_coloursNow 82 = .ok (.iload_n 3, 1) := by decide +kernel
theorem dX13_coloursNow_83 : decode cX13_coloursNow 83 = .ok (.imul, 1) := by decide +kernel
theorem dX13_coloursNow_84 : decode cX13_coloursNow 84 = .ok (.iconst 1, 1) := by decide +kernel
theorem dX13_coloursNow_85 : decode cX13_coloursNow 85 = .ok (.iadd, 1) := by decide +kernel
theorem dX13_coloursNow_86 : decode cX13_coloursNow 86 = .ok (.iaload, 1) := by decide +kernel
theorem dX13_coloursNow_87 : decode cX13_coloursNow 87 = .ok (.iaload, 1) := by decide +kernel
theorem dX13_coloursNow_88 : decode cX13_coloursNow 88 = .ok (.iconst 2, 1) := by decide +kernel
theorem dX13_coloursNow_89 : decode cX13_coloursNow 89 = .ok (.iload_n 1, 1) := by decide +kernel
theorem dX13_coloursNow_90 : decode cX13_coloursNow 90 = .ok (.invokevirtual 488, 3) := by decide +kernel
theorem dX13_coloursNow_93 : decode cX13_coloursNow 93 = .ok (.aload_n 0, 1) := by decide +kernel
theorem dX13_coloursNow_94 : decode cX13_coloursNow 94 = .ok (.iload_n 2, 1) := by decide +kernel
theorem dX13_coloursNow_95 : decode cX13_coloursNow 95 = .ok (.aload_n 0, 1) := by decide +kernel
theorem dX13_coloursNow_96 : decode cX13_coloursNow 96 = .ok (.getfield 31, 3) := by decide +kernel
theorem dX13_coloursNow_99 : decode cX13_coloursNow 99 = .ok (.aload_n 0, 1) := by decide +kernel
theorem dX13_coloursNow_100 : decode cX13_coloursNow 100 = .ok (.getfield 17, 3) := by decide +kernel
theorem dX13_coloursNow_103 : decode cX13_coloursNow 103 = .ok (.iconst 2, 1) := by decide +kernel
theorem dX13_coloursNow_104 : decode cX13_coloursNow 104 = .ok (.iload_n 3, 1) := by decide +kernel
theorem dX13_coloursNow_105 : decode cX13_coloursNow 105 = .ok (.imul, 1) := by decide +kernel
theorem dX13_coloursNow_106 : decode cX13_coloursNow 106 = .ok (.iaload, 1) := by decide +kernel
theorem dX13_coloursNow_107 : decode cX13_coloursNow 107 = .ok (.iaload, 1) := by decide +kernel
theorem dX13_coloursNow_108 : decode cX13_coloursNow 108 = .ok (.iload_n 1, 1) := by decide +kernel
theorem dX13_coloursNow_109 : decode cX13_coloursNow 109 = .ok (.iconst 1, 1) := by decide +kernel
theorem dX13_coloursNow_110 : decode cX13_coloursNow 110 = .ok (.isub, 1) := by decide +kernel
theorem dX13_coloursNow_111 : decode cX13_coloursNow 111 = .ok (.iload_n 1, 1) := by decide +kernel
theorem dX13_coloursNow_112 : decode cX13_coloursNow 112 = .ok (.invokevirtual 488, 3) := by decide +kernel
theorem dX13_coloursNow_115 : decode cX13_coloursNow 115 = .ok (.aload_n 0, 1) := by decide +kernel
theorem dX13_coloursNow_116 : decode cX13_coloursNow 116 = .ok (.iload_n 2, 1) := by decide +kernel
theorem dX13_coloursNow_117 : decode cX13_coloursNow 117 = .ok (.aload_n 0, 1) := by decide +kernel
theorem dX13_coloursNow_118 : decode cX13_coloursNow 118 = .ok (.getfield 34, 3) := by decide +kernel
theorem dX13_coloursNow_121 : decode cX13_coloursNow 121 = .ok (.aload_n 0, 1) := by decide +kernel
theorem dX13_coloursNow_122 : decode cX13_coloursNow 122 = .ok (.getfield 17, 3) := by decide +kernel
theorem dX13_coloursNow_125 : decode cX13_coloursNow 125 = .ok (.iconst 2, 1) := by decide +kernel
theorem dX13_coloursNow_126 : decode cX13_coloursNow 126 = .ok (.iload_n 3, 1) := by decide +kernel
theorem dX13_coloursNow_127 : decode cX13_coloursNow 127 = .ok (.imul, 1) := by decide +kernel
theorem dX13_coloursNow_128 : decode cX13_coloursNow 128 = .ok (.iaload, 1) := by decide +kernel
theorem dX13_coloursNow_129 : decode cX13_coloursNow 129 = .ok (.iaload, 1) := by decide +kernel
theorem dX13_coloursNow_130 : decode cX13_coloursNow 130 = .ok (.iload_n 1, 1) := by decide +kernel
theorem dX13_coloursNow_131 : decode cX13_coloursNow 131 = .ok (.iconst 1, 1) := by decide +kernel
theorem dX13_coloursNow_132 : decode cX13_coloursNow 132 = .ok (.isub, 1) := by decide +kernel
theorem dX13_coloursNow_133 : decode cX13_coloursNow 133 = .ok (.iload_n 1, 1) := by decide +kernel
theorem dX13_coloursNow_134 : decode cX13_coloursNow 134 = .ok (.invokevirtual 488, 3) := by decide +kernel
theorem dX13_coloursNow_137 : decode cX13_coloursNow 137 = .ok (.iinc 2 1, 3) := by decide +kernel
theorem dX13_coloursNow_140 : decode cX13_coloursNow 140 = .ok (.iinc 3 1, 3) := by decide +kernel
theorem dX13_coloursNow_143 : decode cX13_coloursNow 143 = .ok (.goto (-127), 3) := by decide +kernel
theorem dX13_coloursNow_146 : decode cX13_coloursNow 146 = .ok (.iconst 0, 1) := by decide +kernel
theorem dX13_coloursNow_147 : decode cX13_coloursNow 147 = .ok (.istore_n 3, 1) := by decide +kernel
theorem dX13_coloursNow_148 : decode cX13_coloursNow 148 = .ok (.iconst 0, 1) := by decide +kernel
theorem dX13_coloursNow_149 : decode cX13_coloursNow 149 = .ok (.istore 4, 2) := by decide +kernel
theorem dX13_coloursNow_151 : decode cX13_coloursNow 151 = .ok (.iload 4, 2) := by decide +kernel
theorem dX13_coloursNow_153 : decode cX13_coloursNow 153 = .ok (.aload_n 0, 1) := by decide +kernel
theorem dX13_coloursNow_154 : decode cX13_coloursNow 154 = .ok (.getfield 478, 3) := by decide +kernel
theorem dX13_coloursNow_157 : decode cX13_coloursNow 157 = .ok (.if_icmp .ge 239, 3) := by decide +kernel
theorem dX13_coloursNow_160 : decode cX13_coloursNow 160 = .ok (.iload_n 3, 1) := by decide +kernel
theorem dX13_coloursNow_161 : decode cX13_coloursNow 161 = .ok (.istore 5, 2) := by decide +kernel
theorem dX13_coloursNow_163 : decode cX13_coloursNow 163 = .ok (.iload 5, 2) := by decide +kernel
theorem dX13_coloursNow_165 : decode cX13_coloursNow 165 = .ok (.iload_n 2, 1) := by decide +kernel
theorem dX13_coloursNow_166 : decode cX13_coloursNow 166 = .ok (.if_icmp .ge 25, 3) := by decide +kernel
theorem dX13_coloursNow_169 : decode cX13_coloursNow 169 = .ok (.aload_n 0, 1) := by decide +kernel
theorem dX13_coloursNow_170 : decode cX13_coloursNow 170 = .ok (.getfield 40, 3) := by decide +kernel
theorem dX13_coloursNow_173 : decode cX13_coloursNow 173 = .ok (.bipush 24, 2) := by decide +kernel
theorem dX13_coloursNow_175 : decode cX13_coloursNow 175 = .ok (.iload 5, 2) := by decide +kernel
theorem dX13_coloursNow_177 : decode cX13_coloursNow 177 = .ok (.imul, 1) := by decide +kernel
theorem dX13_coloursNow_178 : decode cX13_coloursNow 178 = .ok (.iload 4, 2) := by decide +kernel
theorem dX13_coloursNow_180 : decode cX13_coloursNow 180 = .ok (.iadd, 1) := by decide +kernel
theorem dX13_coloursNow_181 : decode cX13_coloursNow 181 = .ok (.iaload, 1) := by decide +kernel
theorem dX13_coloursNow_182 : decode cX13_coloursNow 182 = .ok (.ifCond .ne 9, 3) := by decide +kernel
theorem dX13_coloursNow_185 : decode cX13_coloursNow 185 = .ok (.iinc 5 1, 3) := by decide +kernel
theorem dX13_coloursNow_188 : decode cX13_coloursNow 188 = .ok (.goto (-25), 3) := by decide +kernel
theorem dX13_coloursNow_191 : decode cX13_coloursNow 191 = .ok (.iload 5, 2) := by decide +kernel
theorem dX13_coloursNow_193 : decode cX13_coloursNow 193 = .ok (.iload_n 2, 1) := by decide +kernel
theorem dX13_coloursNow_194 : decode cX13_coloursNow 194 = .ok (.if_icmp .ne 6, 3) := by decide +kernel
theorem dX13_coloursNow_197 : decode cX13_coloursNow 197 = .ok (.goto 193, 3) := by decide +kernel
theorem dX13_coloursNow_200 : decode cX13_coloursNow 200 = .ok (.iconst 0, 1) := by decide +kernel
theorem dX13_coloursNow_201 : decode cX13_coloursNow 201 = .ok (.istore 6, 2) := by decide +kernel
theorem dX13_coloursNow_203 : decode cX13_coloursNow 203 = .ok (.iload 6, 2) := by decide +kernel
theorem dX13_coloursNow_205 : decode cX13_coloursNow 205 = .ok (.aload_n 0, 1) := by decide +kernel
theorem dX13_coloursNow_206 : decode cX13_coloursNow 206 = .ok (.getfield 478, 3) := by decide +kernel
theorem dX13_coloursNow_209 : decode cX13_coloursNow 209 = .ok (.if_icmp .ge 63, 3) := by decide +kernel
theorem dX13_coloursNow_212 : decode cX13_coloursNow 212 = .ok (.aload_n 0, 1) := by decide +kernel
theorem dX13_coloursNow_213 : decode cX13_coloursNow 213 = .ok (.getfield 40, 3) := by decide +kernel
theorem dX13_coloursNow_216 : decode cX13_coloursNow 216 = .ok (.bipush 24, 2) := by decide +kernel
theorem dX13_coloursNow_218 : decode cX13_coloursNow 218 = .ok (.iload 5, 2) := by decide +kernel
theorem dX13_coloursNow_220 : decode cX13_coloursNow 220 = .ok (.imul, 1) := by decide +kernel
theorem dX13_coloursNow_221 : decode cX13_coloursNow 221 = .ok (.iload 6, 2) := by decide +kernel
theorem dX13_coloursNow_223 : decode cX13_coloursNow 223 = .ok (.iadd, 1) := by decide +kernel
theorem dX13_coloursNow_224 : decode cX13_coloursNow 224 = .ok (.iaload, 1) := by decide +kernel
theorem dX13_coloursNow_225 : decode cX13_coloursNow 225 = .ok (.istore 7, 2) := by decide +kernel
theorem dX13_coloursNow_227 : decode cX13_coloursNow 227 = .ok (.aload_n 0, 1) := by decide +kernel
theorem dX13_coloursNow_228 : decode cX13_coloursNow 228 = .ok (.getfield 40, 3) := by decide +kernel
theorem dX13_coloursNow_231 : decode cX13_coloursNow 231 = .ok (.bipush 24, 2) := by decide +kernel
theorem dX13_coloursNow_233 : decode cX13_coloursNow 233 = .ok (.iload 5, 2) := by decide +kernel
theorem dX13_coloursNow_235 : decode cX13_coloursNow 235 = .ok (.imul, 1) := by decide +kernel
theorem dX13_coloursNow_236 : decode cX13_coloursNow 236 = .ok (.iload 6, 2) := by decide +kernel
theorem dX13_coloursNow_238 : decode cX13_coloursNow 238 = .ok (.iadd, 1) := by decide +kernel
theorem dX13_coloursNow_239 : decode cX13_coloursNow 239 = .ok (.aload_n 0, 1) := by decide +kernel
theorem dX13_coloursNow_240 : decode cX13_coloursNow 240 = .ok (.getfield 40, 3) := by decide +kernel
theorem dX13_coloursNow_243 : decode cX13_coloursNow 243 = .ok (.bipush 24, 2) := by decide +kernel
theorem dX13_coloursNow_245 : decode cX13_coloursNow 245 = .ok (.iload_n 3, 1) := by decide +kernel
theorem dX13_coloursNow_246 : decode cX13_coloursNow 246 = .ok (.imul, 1) := by decide +kernel
theorem dX13_coloursNow_247 : decode cX13_coloursNow 247 = .ok (.iload 6, 2) := by decide +kernel
theorem dX13_coloursNow_249 : decode cX13_coloursNow 249 = .ok (.iadd, 1) := by decide +kernel
theorem dX13_coloursNow_250 : decode cX13_coloursNow 250 = .ok (.iaload, 1) := by decide +kernel
theorem dX13_coloursNow_251 : decode cX13_coloursNow 251 = .ok (.iastore, 1) := by decide +kernel
theorem dX13_coloursNow_252 : decode cX13_coloursNow 252 = .ok (.aload_n 0, 1) := by decide +kernel
theorem dX13_coloursNow_253 : decode cX13_coloursNow 253 = .ok (.getfield 40, 3) := by decide +kernel
theorem dX13_coloursNow_256 : decode cX13_coloursNow 256 = .ok (.bipush 24, 2) := by decide +kernel
theorem dX13_coloursNow_258 : decode cX13_coloursNow 258 = .ok (.iload_n 3, 1) := by decide +kernel
theorem dX13_coloursNow_259 : decode cX13_coloursNow 259 = .ok (.imul, 1) := by decide +kernel
theorem dX13_coloursNow_260 : decode cX13_coloursNow 260 = .ok (.iload 6, 2) := by decide +kernel
theorem dX13_coloursNow_262 : decode cX13_coloursNow 262 = .ok (.iadd, 1) := by decide +kernel
theorem dX13_coloursNow_263 : decode cX13_coloursNow 263 = .ok (.iload 7, 2) := by decide +kernel
theorem dX13_coloursNow_265 : decode cX13_coloursNow 265 = .ok (.iastore, 1) := by decide +kernel
theorem dX13_coloursNow_266 : decode cX13_coloursNow 266 = .ok (.iinc 6 1, 3) := by decide +kernel
theorem dX13_coloursNow_269 : decode cX13_coloursNow 269 = .ok (.goto (-66), 3) := by decide +kernel
theorem dX13_coloursNow_272 : decode cX13_coloursNow 272 = .ok (.iload_n 3, 1) := by decide +kernel
theorem dX13_coloursNow_273 : decode cX13_coloursNow 273 = .ok (.iconst 1, 1) := by decide +kernel
theorem dX13_coloursNow_274 : decode cX13_coloursNow 274 = .ok (.iadd, 1) := by decide +kernel
theorem dX13_coloursNow_275 : decode cX13_coloursNow 275 = .ok (.istore 6, 2) := by decide +kernel
theorem dX13_coloursNow_277 : decode cX13_coloursNow 277 = .ok (.iload 6, 2) := by decide +kernel
theorem dX13_coloursNow_279 : decode cX13_coloursNow 279 = .ok (.iload_n 2, 1) := by decide +kernel
theorem dX13_coloursNow_280 : decode cX13_coloursNow 280 = .ok (.if_icmp .ge 107, 3) := by decide +kernel
theorem dX13_coloursNow_283 : decode cX13_coloursNow 283 = .ok (.aload_n 0, 1) := by decide +kernel
theorem dX13_coloursNow_284 : decode cX13_coloursNow 284 = .ok (.getfield 40, 3) := by decide +kernel
theorem dX13_coloursNow_287 : decode cX13_coloursNow 287 = .ok (.bipush 24, 2) := by decide +kernel
theorem dX13_coloursNow_289 : decode cX13_coloursNow 289 = .ok (.iload 6, 2) := by decide +kernel
theorem dX13_coloursNow_291 : decode cX13_coloursNow 291 = .ok (.imul, 1) := by decide +kernel
theorem dX13_coloursNow_292 : decode cX13_coloursNow 292 = .ok (.iload 4, 2) := by decide +kernel
theorem dX13_coloursNow_294 : decode cX13_coloursNow 294 = .ok (.iadd, 1) := by decide +kernel
theorem dX13_coloursNow_295 : decode cX13_coloursNow 295 = .ok (.iaload, 1) := by decide +kernel
theorem dX13_coloursNow_296 : decode cX13_coloursNow 296 = .ok (.aload_n 0, 1) := by decide +kernel
theorem dX13_coloursNow_297 : decode cX13_coloursNow 297 = .ok (.getfield 40, 3) := by decide +kernel
theorem dX13_coloursNow_300 : decode cX13_coloursNow 300 = .ok (.bipush 24, 2) := by decide +kernel
theorem dX13_coloursNow_302 : decode cX13_coloursNow 302 = .ok (.iload_n 3, 1) := by decide +kernel
theorem dX13_coloursNow_303 : decode cX13_coloursNow 303 = .ok (.imul, 1) := by decide +kernel
theorem dX13_coloursNow_304 : decode cX13_coloursNow 304 = .ok (.iload 4, 2) := by decide +kernel
theorem dX13_coloursNow_306 : decode cX13_coloursNow 306 = .ok (.iadd, 1) := by decide +kernel
theorem dX13_coloursNow_307 : decode cX13_coloursNow 307 = .ok (.iaload, 1) := by decide +kernel
theorem dX13_coloursNow_308 : decode cX13_coloursNow 308 = .ok (.iload_n 1, 1) := by decide +kernel
theorem dX13_coloursNow_309 : decode cX13_coloursNow 309 = .ok (.invokestatic 492, 3) := by decide +kernel
theorem dX13_coloursNow_312 : decode cX13_coloursNow 312 = .ok (.imul, 1) := by decide +kernel
theorem dX13_coloursNow_313 : decode cX13_coloursNow 313 = .ok (.iload_n 1, 1) := by decide +kernel
theorem dX13_coloursNow_314 : decode cX13_coloursNow 314 = .ok (.irem, 1) := by decide +kernel
theorem dX13_coloursNow_315 : decode cX13_coloursNow 315 = .ok (.istore 7, 2) := by decide +kernel
theorem dX13_coloursNow_317 : decode cX13_coloursNow 317 = .ok (.iconst 0, 1) := by decide +kernel
theorem dX13_coloursNow_318 : decode cX13_coloursNow 318 = .ok (.istore 8, 2) := by decide +kernel
theorem dX13_coloursNow_320 : decode cX13_coloursNow 320 = .ok (.iload 8, 2) := by decide +kernel
theorem dX13_coloursNow_322 : decode cX13_coloursNow 322 = .ok (.aload_n 0, 1) := by decide +kernel
theorem dX13_coloursNow_323 : decode cX13_coloursNow 323 = .ok (.getfield 478, 3) := by decide +kernel
theorem dX13_coloursNow_326 : decode cX13_coloursNow 326 = .ok (.if_icmp .ge 55, 3) := by decide +kernel
theorem dX13_coloursNow_329 : decode cX13_coloursNow 329 = .ok (.aload_n 0, 1) := by decide +kernel
theorem dX13_coloursNow_330 : decode cX13_coloursNow 330 = .ok (.getfield 40, 3) := by decide +kernel
theorem dX13_coloursNow_333 : decode cX13_coloursNow 333 = .ok (.bipush 24, 2) := by decide +kernel
theorem dX13_coloursNow_335 : decode cX13_coloursNow 335 = .ok (.iload 6, 2) := by decide +kernel
theorem dX13_coloursNow_337 : decode cX13_coloursNow 337 = .ok (.imul, 1) := by decide +kernel
theorem dX13_coloursNow_338 : decode cX13_coloursNow 338 = .ok (.iload 8, 2) := by decide +kernel
theorem dX13_coloursNow_340 : decode cX13_coloursNow 340 = .ok (.iadd, 1) := by decide +kernel
theorem dX13_coloursNow_341 : decode cX13_coloursNow 341 = .ok (.aload_n 0, 1) := by decide +kernel
theorem dX13_coloursNow_342 : decode cX13_coloursNow 342 = .ok (.getfield 40, 3) := by decide +kernel
theorem dX13_coloursNow_345 : decode cX13_coloursNow 345 = .ok (.bipush 24, 2) := by decide +kernel
theorem dX13_coloursNow_347 : decode cX13_coloursNow 347 = .ok (.iload 6, 2) := by decide +kernel
theorem dX13_coloursNow_349 : decode cX13_coloursNow 349 = .ok (.imul, 1) := by decide +kernel
theorem dX13_coloursNow_350 : decode cX13_coloursNow 350 = .ok (.iload 8, 2) := by decide +kernel
theorem dX13_coloursNow_352 : decode cX13_coloursNow 352 = .ok (.iadd, 1) := by decide +kernel
theorem dX13_coloursNow_353 : decode cX13_coloursNow 353 = .ok (.iaload, 1) := by decide +kernel
theorem dX13_coloursNow_354 : decode cX13_coloursNow 354 = .ok (.iload_n 1, 1) := by decide +kernel
theorem dX13_coloursNow_355 : decode cX13_coloursNow 355 = .ok (.iload 7, 2) := by decide +kernel
theorem dX13_coloursNow_357 : decode cX13_coloursNow 357 = .ok (.isub, 1) := by decide +kernel
theorem dX13_coloursNow_358 : decode cX13_coloursNow 358 = .ok (.aload_n 0, 1) := by decide +kernel
theorem dX13_coloursNow_359 : decode cX13_coloursNow 359 = .ok (.getfield 40, 3) := by decide +kernel
theorem dX13_coloursNow_362 : decode cX13_coloursNow 362 = .ok (.bipush 24, 2) := by decide +kernel
theorem dX13_coloursNow_364 : decode cX13_coloursNow 364 = .ok (.iload_n 3, 1) := by decide +kernel
theorem dX13_coloursNow_365 : decode cX13_coloursNow 365 = .ok (.imul, 1) := by decide +kernel
theorem dX13_coloursNow_366 : decode cX13_coloursNow 366 = .ok (.iload 8, 2) := by decide +kernel
theorem dX13_coloursNow_368 : decode cX13_coloursNow 368 = .ok (.iadd, 1) := by decide +kernel
theorem dX13_coloursNow_369 : decode cX13_coloursNow 369 = .ok (.iaload, 1) := by decide +kernel
theorem dX13_coloursNow_370 : decode cX13_coloursNow 370 = .ok (.imul, 1) := by decide +kernel
theorem dX13_coloursNow_371 : decode cX13_coloursNow 371 = .ok (.iadd, 1) := by decide +kernel
theorem dX13_coloursNow_372 : decode cX13_coloursNow 372 = .ok (.iload_n 1, 1) := by decide +kernel
theorem dX13_coloursNow_373 : decode cX13_coloursNow 373 = .ok (.irem, 1) := by decide +kernel
theorem dX13_coloursNow_374 : decode cX13_coloursNow 374 = .ok (.iastore, 1) := by decide +kernel
theorem dX13_coloursNow_375 : decode cX13_coloursNow 375 = .ok (.iinc 8 1, 3) := by decide +kernel
theorem dX13_coloursNow_378 : decode cX13_coloursNow 378 = .ok (.goto (-58), 3) := by decide +kernel
theorem dX13_coloursNow_381 : decode cX13_coloursNow 381 = .ok (.iinc 6 1, 3) := by decide +kernel
theorem dX13_coloursNow_384 : decode cX13_coloursNow 384 = .ok (.goto (-107), 3) := by decide +kernel
theorem dX13_coloursNow_387 : decode cX13_coloursNow 387 = .ok (.iinc 3 1, 3) := by decide +kernel
theorem dX13_coloursNow_390 : decode cX13_coloursNow 390 = .ok (.iinc 4 1, 3) := by decide +kernel
theorem dX13_coloursNow_393 : decode cX13_coloursNow 393 = .ok (.goto (-242), 3) := by decide +kernel
theorem dX13_coloursNow_396 : decode cX13_coloursNow 396 = .ok (.aload_n 0, 1) := by decide +kernel
theorem dX13_coloursNow_397 : decode cX13_coloursNow 397 = .ok (.getfield 478, 3) := by decide +kernel
theorem dX13_coloursNow_400 : decode cX13_coloursNow 400 = .ok (.iload_n 3, 1) := by decide +kernel
theorem dX13_coloursNow_401 : decode cX13_coloursNow 401 = .ok (.isub, 1) := by decide +kernel
theorem dX13_coloursNow_402 : decode cX13_coloursNow 402 = .ok (.ireturn, 1) := by decide +kernel
theorem dX13_adds_0 : decode cX13_adds 0 = .ok (.aload_n 0, 1) := by decide +kernel
theorem dX13_adds_1 : decode cX13_adds 1 = .ok (.getfield 40, 3) := by decide +kernel
theorem dX13_adds_4 : decode cX13_adds 4 = .ok (.bipush 24, 2) := by decide +kernel
theorem dX13_adds_6 : decode cX13_adds 6 = .ok (.iload_n 1, 1) := by decide +kernel
theorem dX13_adds_7 : decode cX13_adds 7 = .ok (.imul, 1) := by decide +kernel
theorem dX13_adds_8 : decode cX13_adds 8 = .ok (.iload_n 2, 1) := by decide +kernel
theorem dX13_adds_9 : decode cX13_adds 9 = .ok (.iadd, 1) := by decide +kernel
theorem dX13_adds_10 : decode cX13_adds 10 = .ok (.aload_n 0, 1) := by decide +kernel
theorem dX13_adds_11 : decode cX13_adds 11 = .ok (.getfield 40, 3) := by decide +kernel
theorem dX13_adds_14 : decode cX13_adds 14 = .ok (.bipush 24, 2) := by decide +kernel
theorem dX13_adds_16 : decode cX13_adds 16 = .ok (.iload_n 1, 1) := by decide +kernel
theorem dX13_adds_17 : decode cX13_adds 17 = .ok (.imul, 1) := by decide +kernel
theorem dX13_adds_18 : decode cX13_adds 18 = .ok (.iload_n 2, 1) := by decide +kernel
theorem dX13_adds_19 : decode cX13_adds 19 = .ok (.iadd, 1) := by decide +kernel
theorem dX13_adds_20 : decode cX13_adds 20 = .ok (.iaload, 1) := by decide +kernel
theorem dX13_adds_21 : decode cX13_adds 21 = .ok (.iload_n 3, 1) := by decide +kernel
theorem dX13_adds_22 : decode cX13_adds 22 = .ok (.iadd, 1) := by decide +kernel
theorem dX13_adds_23 : decode cX13_adds 23 = .ok (.iload 4, 2) := by decide +kernel
theorem dX13_adds_25 : decode cX13_adds 25 = .ok (.irem, 1) := by decide +kernel
theorem dX13_adds_26 : decode cX13_adds 26 = .ok (.iastore, 1) := by decide +kernel
theorem dX13_adds_27 : decode cX13_adds 27 = .ok (.return_, 1) := by decide +kernel
theorem dX13_colours_0 : decode cX13_colours 0 = .ok (.aload_n 0, 1) := by decide +kernel
theorem dX13_colours_1 : decode cX13_colours 1 = .ok (.iconst 0, 1) := by decide +kernel
theorem dX13_colours_2 : decode cX13_colours 2 = .ok (.putfield 70, 3) := by decide +kernel
theorem dX13_colours_5 : decode cX13_colours 5 = .ok (.aload_n 0, 1) := by decide +kernel
theorem dX13_colours_6 : decode cX13_colours 6 = .ok (.getfield 310, 3) := by decide +kernel
theorem dX13_colours_9 : decode cX13_colours 9 = .ok (.ifnonnull 9, 3) := by decide +kernel
theorem dX13_colours_12 : decode cX13_colours 12 = .ok (.aload_n 0, 1) := by decide +kernel
theorem dX13_colours_13 : decode cX13_colours 13 = .ok (.iconst 1, 1) := by decide +kernel
theorem dX13_colours_14 : decode cX13_colours 14 = .ok (.invokevirtual 76, 3) := by decide +kernel
theorem dX13_colours_17 : decode cX13_colours 17 = .ok (.ireturn, 1) := by decide +kernel
theorem dX13_colours_18 : decode cX13_colours 18 = .ok (.iload_n 1, 1) := by decide +kernel
theorem dX13_colours_19 : decode cX13_colours 19 = .ok (.iconst 3, 1) := by decide +kernel
theorem dX13_colours_20 : decode cX13_colours 20 = .ok (.if_icmp .eq 14, 3) := by decide +kernel
theorem dX13_colours_23 : decode cX13_colours 23 = .ok (.iload_n 1, 1) := by decide +kernel
theorem dX13_colours_24 : decode cX13_colours 24 = .ok (.iconst 5, 1) := by decide +kernel
theorem dX13_colours_25 : decode cX13_colours 25 = .ok (.if_icmp .eq 9, 3) := by decide +kernel
theorem dX13_colours_28 : decode cX13_colours 28 = .ok (.iload_n 1, 1) := by decide +kernel
theorem dX13_colours_29 : decode cX13_colours 29 = .ok (.bipush 7, 2) := by decide +kernel
theorem dX13_colours_31 : decode cX13_colours 31 = .ok (.if_icmp .ne 15, 3) := by decide +kernel
theorem dX13_colours_34 : decode cX13_colours 34 = .ok (.aload_n 0, 1) := by decide +kernel
theorem dX13_colours_35 : decode cX13_colours 35 = .ok (.aload_n 0, 1) := by decide +kernel
theorem dX13_colours_36 : decode cX13_colours 36 = .ok (.iload_n 1, 1) := by decide +kernel
theorem dX13_colours_37 : decode cX13_colours 37 = .ok (.invokevirtual 495, 3) := by decide +kernel
theorem dX13_colours_40 : decode cX13_colours 40 = .ok (.invokevirtual 80, 3) := by decide +kernel
theorem dX13_colours_43 : decode cX13_colours 43 = .ok (.goto 8, 3) := by decide +kernel
theorem dX13_colours_46 : decode cX13_colours 46 = .ok (.aload_n 0, 1) := by decide +kernel
theorem dX13_colours_47 : decode cX13_colours 47 = .ok (.iconst 2, 1) := by decide +kernel
theorem dX13_colours_48 : decode cX13_colours 48 = .ok (.invokevirtual 76, 3) := by decide +kernel
theorem dX13_colours_51 : decode cX13_colours 51 = .ok (.ireturn, 1) := by decide +kernel
theorem dX13_cannot_0 : decode cX13_cannot 0 = .ok (.aload_n 0, 1) := by decide +kernel
theorem dX13_cannot_1 : decode cX13_cannot 1 = .ok (.iconst 0, 1) := by decide +kernel
theorem dX13_cannot_2 : decode cX13_cannot 2 = .ok (.putfield 70, 3) := by decide +kernel
theorem dX13_cannot_5 : decode cX13_cannot 5 = .ok (.aload_n 0, 1) := by decide +kernel
theorem dX13_cannot_6 : decode cX13_cannot 6 = .ok (.getfield 310, 3) := by decide +kernel
theorem dX13_cannot_9 : decode cX13_cannot 9 = .ok (.ifnonnull 9, 3) := by decide +kernel
theorem dX13_cannot_12 : decode cX13_cannot 12 = .ok (.aload_n 0, 1) := by decide +kernel
theorem dX13_cannot_13 : decode cX13_cannot 13 = .ok (.iconst 1, 1) := by decide +kernel
theorem dX13_cannot_14 : decode cX13_cannot 14 = .ok (.invokevirtual 76, 3) := by decide +kernel
theorem dX13_cannot_17 : decode cX13_cannot 17 = .ok (.ireturn, 1) := by decide +kernel
theorem dX13_cannot_18 : decode cX13_cannot 18 = .ok (.iconst 0, 1) := by decide +kernel
theorem dX13_cannot_19 : decode cX13_cannot 19 = .ok (.istore_n 1, 1) := by decide +kernel
theorem dX13_cannot_20 : decode cX13_cannot 20 = .ok (.iconst 3, 1) := by decide +kernel
theorem dX13_cannot_21 : decode cX13_cannot 21 = .ok (.istore_n 2, 1) := by decide +kernel
theorem dX13_cannot_22 : decode cX13_cannot 22 = .ok (.iload_n 2, 1) := by decide +kernel
theorem dX13_cannot_23 : decode cX13_cannot 23 = .ok (.bipush 8, 2) := by decide +kernel
theorem dX13_cannot_25 : decode cX13_cannot 25 = .ok (.if_icmp .ge 34, 3) := by decide +kernel
theorem dX13_cannot_28 : decode cX13_cannot 28 = .ok (.iload_n 1, 1) := by decide +kernel
theorem dX13_cannot_29 : decode cX13_cannot 29 = .ok (.ifCond .ne 18, 3) := by decide +kernel
theorem dX13_cannot_32 : decode cX13_cannot 32 = .ok (.aload_n 0, 1) := by decide +kernel
theorem dX13_cannot_33 : decode cX13_cannot 33 = .ok (.iload_n 2, 1) := by decide +kernel
theorem dX13_cannot_34 : decode cX13_cannot 34 = .ok (.invokevirtual 495, 3) := by decide +kernel
theorem dX13_cannot_37 : decode cX13_cannot 37 = .ok (.aload_n 0, 1) := by decide +kernel
theorem dX13_cannot_38 : decode cX13_cannot 38 = .ok (.getfield 310, 3) := by decide +kernel
theorem dX13_cannot_41 : decode cX13_cannot 41 = .ok (.getfield 336, 3) := by decide +kernel
theorem dX13_cannot_44 : decode cX13_cannot 44 = .ok (.if_icmp .eq 7, 3) := by decide +kernel
theorem dX13_cannot_47 : decode cX13_cannot 47 = .ok (.iconst 1, 1) := by decide +kernel
theorem dX13_cannot_48 : decode cX13_cannot 48 = .ok (.goto 4, 3) := by decide +kernel
theorem dX13_cannot_51 : decode cX13_cannot 51 = .ok (.iconst 0, 1) := by decide +kernel
theorem dX13_cannot_52 : decode cX13_cannot 52 = .ok (.istore_n 1, 1) := by decide +kernel
theorem dX13_cannot_53 : decode cX13_cannot 53 = .ok (.iinc 2 2, 3) := by decide +kernel
theorem dX13_cannot_56 : decode cX13_cannot 56 = .ok (.goto (-34), 3) := by decide +kernel
theorem dX13_cannot_59 : decode cX13_cannot 59 = .ok (.iconst 0, 1) := by decide +kernel
theorem dX13_cannot_60 : decode cX13_cannot 60 = .ok (.istore_n 2, 1) := by decide +kernel
theorem dX13_cannot_61 : decode cX13_cannot 61 = .ok (.iload_n 2, 1) := by decide +kernel
theorem dX13_cannot_62 : decode cX13_cannot 62 = .ok (.aload_n 0, 1) := by decide +kernel
theorem dX13_cannot_63 : decode cX13_cannot 63 = .ok (.getfield 310, 3) := by decide +kernel
theorem dX13_cannot_66 : decode cX13_cannot 66 = .ok (.getfield 336, 3) := by decide +kernel
theorem dX13_cannot_69 : decode cX13_cannot 69 = .ok (.if_icmp .ge 41, 3) := by decide +kernel
theorem dX13_cannot_72 : decode cX13_cannot 72 = .ok (.iconst 0, 1) := by decide +kernel
theorem dX13_cannot_73 : decode cX13_cannot 73 = .ok (.istore_n 3, 1) := by decide +kernel
theorem dX13_cannot_74 : decode cX13_cannot 74 = .ok (.iload_n 3, 1) := by decide +kernel
theorem dX13_cannot_75 : decode cX13_cannot 75 = .ok (.iload_n 2, 1) := by decide +kernel
theorem dX13_cannot_76 : decode cX13_cannot 76 = .ok (.if_icmp .ge 28, 3) := by decide +kernel
theorem dX13_cannot_79 : decode cX13_cannot 79 = .ok (.iload_n 1, 1) := by decide +kernel
theorem dX13_cannot_80 : decode cX13_cannot 80 = .ok (.ifCond .ne 12, 3) := by decide +kernel
theorem dX13_cannot_83 : decode cX13_cannot 83 = .ok (.aload_n 0, 1) := by decide +kernel
theorem dX13_cannot_84 : decode cX13_cannot 84 = .ok (.iload_n 2, 1) := by decide +kernel
theorem dX13_cannot_85 : decode cX13_cannot 85 = .ok (.iload_n 3, 1) := by decide +kernel
theorem dX13_cannot_86 : decode cX13_cannot 86 = .ok (.invokevirtual 475, 3) := by decide +kernel
theorem dX13_cannot_89 : decode cX13_cannot 89 = .ok (.ifCond .eq 7, 3) := by decide +kernel
theorem dX13_cannot_92 : decode cX13_cannot 92 = .ok (.iconst 1, 1) := by decide +kernel
theorem dX13_cannot_93 : decode cX13_cannot 93 = .ok (.goto 4, 3) := by decide +kernel
theorem dX13_cannot_96 : decode cX13_cannot 96 = .ok (.iconst 0, 1) := by decide +kernel
theorem dX13_cannot_97 : decode cX13_cannot 97 = .ok (.istore_n 1, 1) := by decide +kernel
theorem dX13_cannot_98 : decode cX13_cannot 98 = .ok (.iinc 3 1, 3) := by decide +kernel
theorem dX13_cannot_101 : decode cX13_cannot 101 = .ok (.goto (-27), 3) := by decide +kernel
theorem dX13_cannot_104 : decode cX13_cannot 104 = .ok (.iinc 2 1, 3) := by decide +kernel
theorem dX13_cannot_107 : decode cX13_cannot 107 = .ok (.goto (-46), 3) := by decide +kernel
theorem dX13_cannot_110 : decode cX13_cannot 110 = .ok (.aload_n 0, 1) := by decide +kernel
theorem dX13_cannot_111 : decode cX13_cannot 111 = .ok (.iload_n 1, 1) := by decide +kernel
theorem dX13_cannot_112 : decode cX13_cannot 112 = .ok (.ifCond .eq 7, 3) := by decide +kernel
theorem dX13_cannot_115 : decode cX13_cannot 115 = .ok (.iconst 1, 1) := by decide +kernel
theorem dX13_cannot_116 : decode cX13_cannot 116 = .ok (.goto 4, 3) := by decide +kernel
theorem dX13_cannot_119 : decode cX13_cannot 119 = .ok (.iconst 0, 1) := by decide +kernel
theorem dX13_cannot_120 : decode cX13_cannot 120 = .ok (.invokevirtual 80, 3) := by decide +kernel
theorem dX13_cannot_123 : decode cX13_cannot 123 = .ok (.ireturn, 1) := by decide +kernel
theorem dX13_partedFrom_0 : decode cX13_partedFrom 0 = .ok (.aload_n 0, 1) := by decide +kernel
theorem dX13_partedFrom_1 : decode cX13_partedFrom 1 = .ok (.lload_n 1, 1) := by decide +kernel
theorem dX13_partedFrom_2 : decode cX13_partedFrom 2 = .ok (.invokevirtual 433, 3) := by decide +kernel
theorem dX13_partedFrom_5 : decode cX13_partedFrom 5 = .ok (.lload_n 1, 1) := by decide +kernel
theorem dX13_partedFrom_6 : decode cX13_partedFrom 6 = .ok (.lstore 4, 2) := by decide +kernel
theorem dX13_partedFrom_8 : decode cX13_partedFrom 8 = .ok (.iconst 0, 1) := by decide +kernel
theorem dX13_partedFrom_9 : decode cX13_partedFrom 9 = .ok (.istore 6, 2) := by decide +kernel
theorem dX13_partedFrom_11 : decode cX13_partedFrom 11 = .ok (.iload 6, 2) := by decide +kernel
theorem dX13_partedFrom_13 : decode cX13_partedFrom 13 = .ok (.aload_n 0, 1) := by decide +kernel
theorem dX13_partedFrom_14 : decode cX13_partedFrom 14 = .ok (.getfield 310, 3) := by decide +kernel
theorem dX13_partedFrom_17 : decode cX13_partedFrom 17 = .ok (.getfield 346, 3) := by decide +kernel
theorem dX13_partedFrom_20 : decode cX13_partedFrom 20 = .ok (.if_icmp .ge 50, 3) := by decide +kernel
theorem dX13_partedFrom_23 : decode cX13_partedFrom 23 = .ok (.aload_n 0, 1) := by decide +kernel
theorem dX13_partedFrom_24 : decode cX13_partedFrom 24 = .ok (.getfield 310, 3) := by decide +kernel
theorem dX13_partedFrom_27 : decode cX13_partedFrom 27 = .ok (.getfield 362, 3) := by decide +kernel
theorem dX13_partedFrom_30 : decode cX13_partedFrom 30 = .ok (.iload 6, 2) := by decide +kernel
theorem dX13_partedFrom_32 : decode cX13_partedFrom 32 = .ok (.iaload, 1) := by decide +kernel
theorem dX13_partedFrom_33 : decode cX13_partedFrom 33 = .ok (.iload_n 3, 1) := by decide +kernel
theorem dX13_partedFrom_34 : decode cX13_partedFrom 34 = .ok (.if_icmp .ne 30, 3) := by decide +kernel
theorem dX13_partedFrom_37 : decode cX13_partedFrom 37 = .ok (.lload_n 1, 1) := by decide +kernel
theorem dX13_partedFrom_38 : decode cX13_partedFrom 38 = .ok (.iload 6, 2) := by decide +kernel
theorem dX13_partedFrom_40 : decode cX13_partedFrom 40 = .ok (.invokestatic 349, 3) := by decide +kernel
theorem dX13_partedFrom_43 : decode cX13_partedFrom 43 = .ok (.bipush 15, 2) := by decide +kernel
theorem dX13_partedFrom_45 : decode cX13_partedFrom 45 = .ok (.if_icmp .eq 19, 3) := by decide +kernel
theorem dX13_partedFrom_48 : decode cX13_partedFrom 48 = .ok (.aload_n 0, 1) := by decide +kernel
theorem dX13_partedFrom_49 : decode cX13_partedFrom 49 = .ok (.lload 4, 2) := by decide +kernel
theorem dX13_partedFrom_51 : decode cX13_partedFrom 51 = .ok (.lload_n 1, 1) := by decide +kernel
theorem dX13_partedFrom_52 : decode cX13_partedFrom 52 = .ok (.iload 6, 2) := by decide +kernel
theorem dX13_partedFrom_54 : decode cX13_partedFrom 54 = .ok (.invokestatic 349, 3) := by decide +kernel
theorem dX13_partedFrom_57 : decode cX13_partedFrom 57 = .ok (.iconst 2, 1) := by decide +kernel
theorem dX13_partedFrom_58 : decode cX13_partedFrom 58 = .ok (.idiv, 1) := by decide +kernel
theorem dX13_partedFrom_59 : decode cX13_partedFrom 59 = .ok (.invokevirtual 386, 3) := by decide +kernel
theorem dX13_partedFrom_62 : decode cX13_partedFrom 62 = .ok (.lstore 4, 2) := by decide +kernel
theorem dX13_partedFrom_64 : decode cX13_partedFrom 64 = .ok (.iinc 6 1, 3) := by decide +kernel
theorem dX13_partedFrom_67 : decode cX13_partedFrom 67 = .ok (.goto (-56), 3) := by decide +kernel
theorem dX13_partedFrom_70 : decode cX13_partedFrom 70 = .ok (.lload 4, 2) := by decide +kernel
theorem dX13_partedFrom_72 : decode cX13_partedFrom 72 = .ok (.lreturn, 1) := by decide +kernel
theorem dX13_part_0 : decode cX13_part 0 = .ok (.aload_n 0, 1) := by decide +kernel
theorem dX13_part_1 : decode cX13_part 1 = .ok (.iconst 0, 1) := by decide +kernel
theorem dX13_part_2 : decode cX13_part 2 = .ok (.putfield 70, 3) := by decide +kernel
theorem dX13_part_5 : decode cX13_part 5 = .ok (.aload_n 0, 1) := by decide +kernel
theorem dX13_part_6 : decode cX13_part 6 = .ok (.getfield 310, 3) := by decide +kernel
theorem dX13_part_9 : decode cX13_part 9 = .ok (.ifnonnull 9, 3) := by decide +kernel
theorem dX13_part_12 : decode cX13_part 12 = .ok (.aload_n 0, 1) := by decide +kernel
theorem dX13_part_13 : decode cX13_part 13 = .ok (.iconst 1, 1) := by decide +kernel
theorem dX13_part_14 : decode cX13_part 14 = .ok (.invokevirtual 76, 3) := by decide +kernel
theorem dX13_part_17 : decode cX13_part 17 = .ok (.ireturn, 1) := by decide +kernel
theorem dX13_part_18 : decode cX13_part 18 = .ok (.iload_n 1, 1) := by decide +kernel
theorem dX13_part_19 : decode cX13_part 19 = .ok (.iconst 0, 1) := by decide +kernel
theorem dX13_part_20 : decode cX13_part 20 = .ok (.bipush 8, 2) := by decide +kernel
theorem dX13_part_22 : decode cX13_part 22 = .ok (.invokestatic 145, 3) := by decide +kernel
theorem dX13_part_25 : decode cX13_part 25 = .ok (.ifCond .ne 9, 3) := by decide +kernel
theorem dX13_part_28 : decode cX13_part 28 = .ok (.aload_n 0, 1) := by decide +kernel
theorem dX13_part_29 : decode cX13_part 29 = .ok (.iconst 2, 1) := by decide +kernel
theorem dX13_part_30 : decode cX13_part 30 = .ok (.invokevirtual 76, 3) := by decide +kernel
theorem dX13_part_33 : decode cX13_part 33 = .ok (.ireturn, 1) := by decide +kernel
theorem dX13_part_34 : decode cX13_part 34 = .ok (.aload_n 0, 1) := by decide +kernel
theorem dX13_part_35 : decode cX13_part 35 = .ok (.getfield 321, 3) := by decide +kernel
theorem dX13_part_38 : decode cX13_part 38 = .ok (.bipush (-2), 2) := by decide +kernel
theorem dX13_part_40 : decode cX13_part 40 = .ok (.if_icmp .eq 9, 3) := by decide +kernel
theorem dX13_part_43 : decode cX13_part 43 = .ok (.aload_n 0, 1) := by decide +kernel
theorem dX13_part_44 : decode cX13_part 44 = .ok (.iconst 5, 1) := by decide +kernel
theorem dX13_part_45 : decode cX13_part 45 = .ok (.invokevirtual 76, 3) := by decide +kernel
theorem dX13_part_48 : decode cX13_part 48 = .ok (.ireturn, 1) := by decide +kernel
theorem dX13_part_49 : decode cX13_part 49 = .ok (.bipush (-2), 2) := by decide +kernel
theorem dX13_part_51 : decode cX13_part 51 = .ok (.istore_n 2, 1) := by decide +kernel
theorem dX13_part_52 : decode cX13_part 52 = .ok (.iconst 0, 1) := by decide +kernel
theorem dX13_part_53 : decode cX13_part 53 = .ok (.istore_n 3, 1) := by decide +kernel
theorem dX13_part_54 : decode cX13_part 54 = .ok (.iconst 0, 1) := by decide +kernel
theorem dX13_part_55 : decode cX13_part 55 = .ok (.istore 4, 2) := by decide +kernel
theorem dX13_part_57 : decode cX13_part 57 = .ok (.iconst 0, 1) := by decide +kernel
theorem dX13_part_58 : decode cX13_part 58 = .ok (.istore 5, 2) := by decide +kernel
theorem dX13_part_60 : decode cX13_part 60 = .ok (.iload 5, 2) := by decide +kernel
theorem dX13_part_62 : decode cX13_part 62 = .ok (.aload_n 0, 1) := by decide +kernel
theorem dX13_part_63 : decode cX13_part 63 = .ok (.getfield 310, 3) := by decide +kernel
theorem dX13_part_66 : decode cX13_part 66 = .ok (.getfield 203, 3) := by decide +kernel
theorem dX13_part_69 : decode cX13_part 69 = .ok (.if_icmp .ge 87, 3) := by decide +kernel
theorem dX13_part_72 : decode cX13_part 72 = .ok (.aload_n 0, 1) := by decide +kernel
theorem dX13_part_73 : decode cX13_part 73 = .ok (.aload_n 0, 1) := by decide +kernel
theorem dX13_part_74 : decode cX13_part 74 = .ok (.getfield 318, 3) := by decide +kernel
theorem dX13_part_77 : decode cX13_part 77 = .ok (.iload 5, 2) := by decide +kernel
theorem dX13_part_79 : decode cX13_part 79 = .ok (.invokevirtual 498, 3) := by decide +kernel
theorem dX13_part_82 : decode cX13_part 82 = .ok (.lstore 6, 2) := by decide +kernel
theorem dX13_part_84 : decode cX13_part 84 = .ok (.aload_n 0, 1) := by decide +kernel
theorem dX13_part_85 : decode cX13_part 85 = .ok (.iload 5, 2) := by decide +kernel
theorem dX13_part_87 : decode cX13_part 87 = .ok (.putfield 321, 3) := by decide +kernel
theorem dX13_part_90 : decode cX13_part 90 = .ok (.aload_n 0, 1) := by decide +kernel
theorem dX13_part_91 : decode cX13_part 91 = .ok (.lload 6, 2) := by decide +kernel
theorem dX13_part_93 : decode cX13_part 93 = .ok (.iload_n 1, 1) := by decide +kernel
theorem dX13_part_94 : decode cX13_part 94 = .ok (.invokevirtual 466, 3) := by decide +kernel
theorem dX13_part_97 : decode cX13_part 97 = .ok (.istore 8, 2) := by decide +kernel
theorem dX13_part_99 : decode cX13_part 99 = .ok (.aload_n 0, 1) := by decide +kernel
theorem dX13_part_100 : decode cX13_part 100 = .ok (.bipush (-2), 2) := by decide +kernel
theorem dX13_part_102 : decode cX13_part 102 = .ok (.putfield 321, 3) := by decide +kernel
theorem dX13_part_105 : decode cX13_part 105 = .ok (.iload 4, 2) := by decide +kernel
theorem dX13_part_107 : decode cX13_part 107 = .ok (.ifCond .ne 10, 3) := by decide +kernel
theorem dX13_part_110 : decode cX13_part 110 = .ok (.iload 8, 2) := by decide +kernel
theorem dX13_part_112 : decode cX13_part 112 = .ok (.bipush (-9), 2) := by decide +kernel
theorem dX13_part_114 : decode cX13_part 114 = .ok (.if_icmp .ne 7, 3) := by decide +kernel
theorem dX13_part_117 : decode cX13_part 117 = .ok (.iconst 1, 1) := by decide +kernel
theorem dX13_part_118 : decode cX13_part 118 = .ok (.goto 4, 3) := by decide +kernel
theorem dX13_part_121 : decode cX13_part 121 = .ok (.iconst 0, 1) := by decide +kernel
theorem dX13_part_122 : decode cX13_part 122 = .ok (.istore 4, 2) := by decide +kernel
theorem dX13_part_124 : decode cX13_part 124 = .ok (.iload 8, 2) := by decide +kernel
theorem dX13_part_126 : decode cX13_part 126 = .ok (.ifCond .lt 24, 3) := by decide +kernel
theorem dX13_part_129 : decode cX13_part 129 = .ok (.iload_n 2, 1) := by decide +kernel
theorem dX13_part_130 : decode cX13_part 130 = .ok (.bipush (-2), 2) := by decide +kernel
theorem dX13_part_132 : decode cX13_part 132 = .ok (.if_icmp .eq 12, 3) := by decide +kernel
theorem dX13_part_135 : decode cX13_part 135 = .ok (.iload 8, 2) := by decide +kernel
theorem dX13_part_137 : decode cX13_part 137 = .ok (.iload_n 3, 1) := by decide +kernel
theorem dX13_part_138 : decode cX13_part 138 = .ok (.if_icmp .lt 6, 3) := by decide +kernel
theorem dX13_part_141 : decode cX13_part 141 = .ok (.goto 9, 3) := by decide +kernel
theorem dX13_part_144 : decode cX13_part 144 = .ok (.iload 5, 2) := by decide +kernel
theorem dX13_part_146 : decode cX13_part 146 = .ok (.istore_n 2, 1) := by decide +kernel
theorem dX13_part_147 : decode cX13_part 147 = .ok (.iload 8, 2) := by decide +kernel
theorem dX13_part_149 : decode cX13_part 149 = .ok (.istore_n 3, 1) := by decide +kernel
theorem dX13_part_150 : decode cX13_part 150 = .ok (.iinc 5 1, 3) := by decide +kernel
theorem dX13_part_153 : decode cX13_part 153 = .ok (.goto (-93), 3) := by decide +kernel
theorem dX13_part_156 : decode cX13_part 156 = .ok (.iload 4, 2) := by decide +kernel
theorem dX13_part_158 : decode cX13_part 158 = .ok (.ifCond .eq 11, 3) := by decide +kernel
theorem dX13_part_161 : decode cX13_part 161 = .ok (.aload_n 0, 1) := by decide +kernel
theorem dX13_part_162 : decode cX13_part 162 = .ok (.iconst 3, 1) := by decide +kernel
theorem dX13_part_163 : decode cX13_part 163 = .ok (.invokevirtual 76, 3) := by decide +kernel
theorem dX13_part_166 : decode cX13_part 166 = .ok (.goto 8, 3) := by decide +kernel
theorem dX13_part_169 : decode cX13_part 169 = .ok (.aload_n 0, 1) := by decide +kernel
theorem dX13_part_170 : decode cX13_part 170 = .ok (.iload_n 2, 1) := by decide +kernel
theorem dX13_part_171 : decode cX13_part 171 = .ok (.invokevirtual 80, 3) := by decide +kernel
theorem dX13_part_174 : decode cX13_part 174 = .ok (.ireturn, 1) := by decide +kernel
theorem dX13_isCrossing_0 : decode cX13_isCrossing 0 = .ok (.aload_n 0, 1) := by decide +kernel
theorem dX13_isCrossing_1 : decode cX13_isCrossing 1 = .ok (.getfield 310, 3) := by decide +kernel
theorem dX13_isCrossing_4 : decode cX13_isCrossing 4 = .ok (.ifnull 22, 3) := by decide +kernel
theorem dX13_isCrossing_7 : decode cX13_isCrossing 7 = .ok (.iload_n 1, 1) := by decide +kernel
theorem dX13_isCrossing_8 : decode cX13_isCrossing 8 = .ok (.ifCond .lt 18, 3) := by decide +kernel
theorem dX13_isCrossing_11 : decode cX13_isCrossing 11 = .ok (.iload_n 1, 1) := by decide +kernel
theorem dX13_isCrossing_12 : decode cX13_isCrossing 12 = .ok (.aload_n 0, 1) := by decide +kernel
theorem dX13_isCrossing_13 : decode cX13_isCrossing 13 = .ok (.getfield 310, 3) := by decide +kernel
theorem dX13_isCrossing_16 : decode cX13_isCrossing 16 = .ok (.getfield 277, 3) := by decide +kernel
theorem dX13_isCrossing_19 : decode cX13_isCrossing 19 = .ok (.if_icmp .ge 7, 3) := by decide +kernel
theorem dX13_isCrossing_22 : decode cX13_isCrossing 22 = .ok (.iconst 1, 1) := by decide +kernel
theorem dX13_isCrossing_23 : decode cX13_isCrossing 23 = .ok (.goto 4, 3) := by decide +kernel
theorem dX13_isCrossing_26 : decode cX13_isCrossing 26 = .ok (.iconst 0, 1) := by decide +kernel
theorem dX13_isCrossing_27 : decode cX13_isCrossing 27 = .ok (.ireturn, 1) := by decide +kernel
theorem dX13_liftedFrom_0 : decode cX13_liftedFrom 0 = .ok (.lload_n 1, 1) := by decide +kernel
theorem dX13_liftedFrom_1 : decode cX13_liftedFrom 1 = .ok (.aload_n 0, 1) := by decide +kernel
theorem dX13_liftedFrom_2 : decode cX13_liftedFrom 2 = .ok (.getfield 17, 3) := by decide +kernel
theorem dX13_liftedFrom_5 : decode cX13_liftedFrom 5 = .ok (.iconst 2, 1) := by decide +kernel
theorem dX13_liftedFrom_6 : decode cX13_liftedFrom 6 = .ok (.iload_n 3, 1) := by decide +kernel
theorem dX13_liftedFrom_7 : decode cX13_liftedFrom 7 = .ok (.imul, 1) := by decide +kernel
theorem dX13_liftedFrom_8 : decode cX13_liftedFrom 8 = .ok (.iaload, 1) := by decide +kernel
theorem dX13_liftedFrom_9 : decode cX13_liftedFrom 9 = .ok (.iconst 2, 1) := by decide +kernel
theorem dX13_liftedFrom_10 : decode cX13_liftedFrom 10 = .ok (.iload_n 3, 1) := by decide +kernel
theorem dX13_liftedFrom_11 : decode cX13_liftedFrom 11 = .ok (.imul, 1) := by decide +kernel
theorem dX13_liftedFrom_12 : decode cX13_liftedFrom 12 = .ok (.iconst 1, 1) := by decide +kernel
theorem dX13_liftedFrom_13 : decode cX13_liftedFrom 13 = .ok (.iadd, 1) := by decide +kernel
theorem dX13_liftedFrom_14 : decode cX13_liftedFrom 14 = .ok (.invokestatic 394, 3) := by decide +kernel
theorem dX13_liftedFrom_17 : decode cX13_liftedFrom 17 = .ok (.aload_n 0, 1) := by decide +kernel
theorem dX13_liftedFrom_18 : decode cX13_liftedFrom 18 = .ok (.getfield 17, 3) := by decide +kernel
theorem dX13_liftedFrom_21 : decode cX13_liftedFrom 21 = .ok (.iconst 2, 1) := by decide +kernel
theorem dX13_liftedFrom_22 : decode cX13_liftedFrom 22 = .ok (.iload_n 3, 1) := by decide +kernel
theorem dX13_liftedFrom_23 : decode cX13_liftedFrom 23 = .ok (.imul, 1) := by decide +kernel
theorem dX13_liftedFrom_24 : decode cX13_liftedFrom 24 = .ok (.iconst 1, 1) := by decide +kernel
theorem dX13_liftedFrom_25 : decode cX13_liftedFrom 25 = .ok (.iadd, 1) := by decide +kernel
theorem dX13_liftedFrom_26 : decode cX13_liftedFrom 26 = .ok (.iaload, 1) := by decide +kernel
theorem dX13_liftedFrom_27 : decode cX13_liftedFrom 27 = .ok (.iconst 2, 1) := by decide +kernel
theorem dX13_liftedFrom_28 : decode cX13_liftedFrom 28 = .ok (.iload_n 3, 1) := by decide +kernel
theorem dX13_liftedFrom_29 : decode cX13_liftedFrom 29 = .ok (.imul, 1) := by decide +kernel
theorem dX13_liftedFrom_30 : decode cX13_liftedFrom 30 = .ok (.invokestatic 394, 3) := by decide +kernel
theorem dX13_liftedFrom_33 : decode cX13_liftedFrom 33 = .ok (.lreturn, 1) := by decide +kernel
theorem dX13_lift_0 : decode cX13_lift 0 = .ok (.aload_n 0, 1) := by decide +kernel
theorem dX13_lift_1 : decode cX13_lift 1 = .ok (.iconst 0, 1) := by decide +kernel
theorem dX13_lift_2 : decode cX13_lift 2 = .ok (.putfield 70, 3) := by decide +kernel
theorem dX13_lift_5 : decode cX13_lift 5 = .ok (.aload_n 0, 1) := by decide +kernel
theorem dX13_lift_6 : decode cX13_lift 6 = .ok (.getfield 310, 3) := by decide +kernel
theorem dX13_lift_9 : decode cX13_lift 9 = .ok (.ifnonnull 9, 3) := by decide +kernel
theorem dX13_lift_12 : decode cX13_lift 12 = .ok (.aload_n 0, 1) := by decide +kernel
theorem dX13_lift_13 : decode cX13_lift 13 = .ok (.iconst 1, 1) := by decide +kernel
theorem dX13_lift_14 : decode cX13_lift 14 = .ok (.invokevirtual 76, 3) := by decide +kernel
theorem dX13_lift_17 : decode cX13_lift 17 = .ok (.ireturn, 1) := by decide +kernel
theorem dX13_lift_18 : decode cX13_lift 18 = .ok (.iload_n 1, 1) := by decide +kernel
theorem dX13_lift_19 : decode cX13_lift 19 = .ok (.iconst 0, 1) := by decide +kernel
theorem dX13_lift_20 : decode cX13_lift 20 = .ok (.bipush 8, 2) := by decide +kernel
theorem dX13_lift_22 : decode cX13_lift 22 = .ok (.invokestatic 145, 3) := by decide +kernel
theorem dX13_lift_25 : decode cX13_lift 25 = .ok (.ifCond .ne 9, 3) := by decide +kernel
theorem dX13_lift_28 : decode cX13_lift 28 = .ok (.aload_n 0, 1) := by decide +kernel
theorem dX13_lift_29 : decode cX13_lift 29 = .ok (.iconst 2, 1) := by decide +kernel
theorem dX13_lift_30 : decode cX13_lift 30 = .ok (.invokevirtual 76, 3) := by decide +kernel
theorem dX13_lift_33 : decode cX13_lift 33 = .ok (.ireturn, 1) := by decide +kernel
theorem dX13_lift_34 : decode cX13_lift 34 = .ok (.bipush (-2), 2) := by decide +kernel
theorem dX13_lift_36 : decode cX13_lift 36 = .ok (.istore_n 2, 1) := by decide +kernel
theorem dX13_lift_37 : decode cX13_lift 37 = .ok (.iconst 0, 1) := by decide +kernel
theorem dX13_lift_38 : decode cX13_lift 38 = .ok (.istore_n 3, 1) := by decide +kernel
theorem dX13_lift_39 : decode cX13_lift 39 = .ok (.iconst 0, 1) := by decide +kernel
theorem dX13_lift_40 : decode cX13_lift 40 = .ok (.istore 4, 2) := by decide +kernel
theorem dX13_lift_42 : decode cX13_lift 42 = .ok (.iconst 0, 1) := by decide +kernel
theorem dX13_lift_43 : decode cX13_lift 43 = .ok (.istore 5, 2) := by decide +kernel
theorem dX13_lift_45 : decode cX13_lift 45 = .ok (.iload 5, 2) := by decide +kernel
theorem dX13_lift_47 : decode cX13_lift 47 = .ok (.aload_n 0, 1) := by decide +kernel
theorem dX13_lift_48 : decode cX13_lift 48 = .ok (.getfield 310, 3) := by decide +kernel
theorem dX13_lift_51 : decode cX13_lift 51 = .ok (.getfield 277, 3) := by decide +kernel
theorem dX13_lift_54 : decode cX13_lift 54 = .ok (.if_icmp .ge 113, 3) := by decide +kernel
theorem dX13_lift_57 : decode cX13_lift 57 = .ok (.aload_n 0, 1) := by decide +kernel
theorem dX13_lift_58 : decode cX13_lift 58 = .ok (.iload 5, 2) := by decide +kernel
theorem dX13_lift_60 : decode cX13_lift 60 = .ok (.invokevirtual 440, 3) := by decide +kernel
theorem dX13_lift_63 : decode cX13_lift 63 = .ok (.ifCond .ne 6, 3) := by decide +kernel
theorem dX13_lift_66 : decode cX13_lift 66 = .ok (.goto 95, 3) := by decide +kernel
theorem dX13_lift_69 : decode cX13_lift 69 = .ok (.aload_n 0, 1) := by decide +kernel
theorem dX13_lift_70 : decode cX13_lift 70 = .ok (.aload_n 0, 1) := by decide +kernel
theorem dX13_lift_71 : decode cX13_lift 71 = .ok (.getfield 318, 3) := by decide +kernel
theorem dX13_lift_74 : decode cX13_lift 74 = .ok (.iload 5, 2) := by decide +kernel
theorem dX13_lift_76 : decode cX13_lift 76 = .ok (.invokevirtual 501, 3) := by decide +kernel
theorem dX13_lift_79 : decode cX13_lift 79 = .ok (.lstore 6, 2) := by decide +kernel
theorem dX13_lift_81 : decode cX13_lift 81 = .ok (.aload_n 0, 1) := by decide +kernel
theorem dX13_lift_82 : decode cX13_lift 82 = .ok (.dup, 1) := by decide +kernel
theorem dX13_lift_83 : decode cX13_lift 83 = .ok (.getfield 324, 3) := by decide +kernel
theorem dX13_lift_86 : decode cX13_lift 86 = .ok (.iconst 1, 1) := by decide +kernel
theorem dX13_lift_87 : decode cX13_lift 87 = .ok (.iload 5, 2) := by decide +kernel
theorem dX13_lift_89 : decode cX13_lift 89 = .ok (.ishl, 1) := by decide +kernel
theorem dX13_lift_90 : decode cX13_lift 90 = .ok (.ixor, 1) := by decide +kernel
theorem dX13_lift_91 : decode cX13_lift 91 = .ok (.putfield 324, 3) := by decide +kernel
theorem dX13_lift_94 : decode cX13_lift 94 = .ok (.aload_n 0, 1) := by decide +kernel
theorem dX13_lift_95 : decode cX13_lift 95 = .ok (.lload 6, 2) := by decide +kernel
theorem dX13_lift_97 : decode cX13_lift 97 = .ok (.iload_n 1, 1) := by decide +kernel
theorem dX13_lift_98 : decode cX13_lift 98 = .ok (.invokevirtual 466, 3) := by decide +kernel
theorem dX13_lift_101 : decode cX13_lift 101 = .ok (.istore 8, 2) := by decide +kernel
theorem dX13_lift_103 : decode cX13_lift 103 = .ok (.aload_n 0, 1) := by decide +kernel
theorem dX13_lift_104 : decode cX13_lift 104 = .ok (.dup, 1) := by decide +kernel
theorem dX13_lift_105 : decode cX13_lift 105 = .ok (.getfield 324, 3) := by decide +kernel
theorem dX13_lift_108 : decode cX13_lift 108 = .ok (.iconst 1, 1) := by decide +kernel
theorem dX13_lift_109 : decode cX13_lift 109 = .ok (.iload 5, 2) := by decide +kernel
theorem dX13_lift_111 : decode cX13_lift 111 = .ok (.ishl, 1) := by decide +kernel
theorem dX13_lift_112 : decode cX13_lift 112 = .ok (.ixor, 1) := by decide +kernel
theorem dX13_lift_113 : decode cX13_lift 113 = .ok (.putfield 324, 3) := by decide +kernel
theorem dX13_lift_116 : decode cX13_lift 116 = .ok (.iload 4, 2) := by decide +kernel
theorem dX13_lift_118 : decode cX13_lift 118 = .ok (.ifCond .ne 10, 3) := by decide +kernel
theorem dX13_lift_121 : decode cX13_lift 121 = .ok (.iload 8, 2) := by decide +kernel
theorem dX13_lift_123 : decode cX13_lift 123 = .ok (.bipush (-9), 2) := by decide +kernel
theorem dX13_lift_125 : decode cX13_lift 125 = .ok (.if_icmp .ne 7, 3) := by decide +kernel
theorem dX13_lift_128 : decode cX13_lift 128 = .ok (.iconst 1, 1) := by decide +kernel
theorem dX13_lift_129 : decode cX13_lift 129 = .ok (.goto 4, 3) := by decide +kernel
theorem dX13_lift_132 : decode cX13_lift 132 = .ok (.iconst 0, 1) := by decide +kernel
theorem dX13_lift_133 : decode cX13_lift 133 = .ok (.istore 4, 2) := by decide +kernel
theorem dX13_lift_135 : decode cX13_lift 135 = .ok (.iload 8, 2) := by decide +kernel
theorem dX13_lift_137 : decode cX13_lift 137 = .ok (.ifCond .lt 24, 3) := by decide +kernel
theorem dX13_lift_140 : decode cX13_lift 140 = .ok (.iload_n 2, 1) := by decide +kernel
theorem dX13_lift_141 : decode cX13_lift 141 = .ok (.bipush (-2), 2) := by decide +kernel
theorem dX13_lift_143 : decode cX13_lift 143 = .ok (.if_icmp .eq 12, 3) := by decide +kernel
theorem dX13_lift_146 : decode cX13_lift 146 = .ok (.iload 8, 2) := by decide +kernel
theorem dX13_lift_148 : decode cX13_lift 148 = .ok (.iload_n 3, 1) := by decide +kernel
theorem dX13_lift_149 : decode cX13_lift 149 = .ok (.if_icmp .lt 6, 3) := by decide +kernel
theorem dX13_lift_152 : decode cX13_lift 152 = .ok (.goto 9, 3) := by decide +kernel
theorem dX13_lift_155 : decode cX13_lift 155 = .ok (.iload 5, 2) := by decide +kernel
theorem dX13_lift_157 : decode cX13_lift 157 = .ok (.istore_n 2, 1) := by decide +kernel
theorem dX13_lift_158 : decode cX13_lift 158 = .ok (.iload 8, 2) := by decide +kernel
theorem dX13_lift_160 : decode cX13_lift 160 = .ok (.istore_n 3, 1) := by decide +kernel
theorem dX13_lift_161 : decode cX13_lift 161 = .ok (.iinc 5 1, 3) := by decide +kernel
theorem dX13_lift_164 : decode cX13_lift 164 = .ok (.goto (-119), 3) := by decide +kernel
theorem dX13_lift_167 : decode cX13_lift 167 = .ok (.iload 4, 2) := by decide +kernel
theorem dX13_lift_169 : decode cX13_lift 169 = .ok (.ifCond .eq 11, 3) := by decide +kernel
theorem dX13_lift_172 : decode cX13_lift 172 = .ok (.aload_n 0, 1) := by decide +kernel
theorem dX13_lift_173 : decode cX13_lift 173 = .ok (.iconst 3, 1) := by decide +kernel
theorem dX13_lift_174 : decode cX13_lift 174 = .ok (.invokevirtual 76, 3) := by decide +kernel
theorem dX13_lift_177 : decode cX13_lift 177 = .ok (.goto 8, 3) := by decide +kernel
theorem dX13_lift_180 : decode cX13_lift 180 = .ok (.aload_n 0, 1) := by decide +kernel
theorem dX13_lift_181 : decode cX13_lift 181 = .ok (.iload_n 2, 1) := by decide +kernel
theorem dX13_lift_182 : decode cX13_lift 182 = .ok (.invokevirtual 80, 3) := by decide +kernel
theorem dX13_lift_185 : decode cX13_lift 185 = .ok (.ireturn, 1) := by decide +kernel
theorem dX13_lifts_0 : decode cX13_lifts 0 = .ok (.aload_n 0, 1) := by decide +kernel
theorem dX13_lifts_1 : decode cX13_lifts 1 = .ok (.iconst 0, 1) := by decide +kernel
theorem dX13_lifts_2 : decode cX13_lifts 2 = .ok (.putfield 70, 3) := by decide +kernel
theorem dX13_lifts_5 : decode cX13_lifts 5 = .ok (.aload_n 0, 1) := by decide +kernel
theorem dX13_lifts_6 : decode cX13_lifts 6 = .ok (.iload_n 1, 1) := by decide +kernel
theorem dX13_lifts_7 : decode cX13_lifts 7 = .ok (.invokevirtual 504, 3) := by decide +kernel
theorem dX13_lifts_10 : decode cX13_lifts 10 = .ok (.ifCond .ne 9, 3) := by decide +kernel
theorem dX13_lifts_13 : decode cX13_lifts 13 = .ok (.aload_n 0, 1) := by decide +kernel
theorem dX13_lifts_14 : decode cX13_lifts 14 = .ok (.iconst 1, 1) := by decide +kernel
theorem dX13_lifts_15 : decode cX13_lifts 15 = .ok (.invokevirtual 437, 3) := by decide +kernel
theorem dX13_lifts_18 : decode cX13_lifts 18 = .ok (.ireturn, 1) := by decide +kernel
theorem dX13_lifts_19 : decode cX13_lifts 19 = .ok (.aload_n 0, 1) := by decide +kernel
theorem dX13_lifts_20 : decode cX13_lifts 20 = .ok (.iload_n 1, 1) := by decide +kernel
theorem dX13_lifts_21 : decode cX13_lifts 21 = .ok (.invokevirtual 440, 3) := by decide +kernel
theorem dX13_lifts_24 : decode cX13_lifts 24 = .ok (.ifCond .ne 9, 3) := by decide +kernel
theorem dX13_lifts_27 : decode cX13_lifts 27 = .ok (.aload_n 0, 1) := by decide +kernel
theorem dX13_lifts_28 : decode cX13_lifts 28 = .ok (.iconst 5, 1) := by decide +kernel
theorem dX13_lifts_29 : decode cX13_lifts 29 = .ok (.invokevirtual 437, 3) := by decide +kernel
theorem dX13_lifts_32 : decode cX13_lifts 32 = .ok (.ireturn, 1) := by decide +kernel
theorem dX13_lifts_33 : decode cX13_lifts 33 = .ok (.aload_n 0, 1) := by decide +kernel
theorem dX13_lifts_34 : decode cX13_lifts 34 = .ok (.invokevirtual 507, 3) := by decide +kernel
theorem dX13_lifts_37 : decode cX13_lifts 37 = .ok (.aload_n 0, 1) := by decide +kernel
theorem dX13_lifts_38 : decode cX13_lifts 38 = .ok (.aload_n 0, 1) := by decide +kernel
theorem dX13_lifts_39 : decode cX13_lifts 39 = .ok (.aload_n 0, 1) := by decide +kernel
theorem dX13_lifts_40 : decode cX13_lifts 40 = .ok (.getfield 318, 3) := by decide +kernel
theorem dX13_lifts_43 : decode cX13_lifts 43 = .ok (.iload_n 1, 1) := by decide +kernel
theorem dX13_lifts_44 : decode cX13_lifts 44 = .ok (.invokevirtual 501, 3) := by decide +kernel
theorem dX13_lifts_47 : decode cX13_lifts 47 = .ok (.putfield 318, 3) := by decide +kernel
theorem dX13_lifts_50 : decode cX13_lifts 50 = .ok (.aload_n 0, 1) := by decide +kernel
theorem dX13_lifts_51 : decode cX13_lifts 51 = .ok (.dup, 1) := by decide +kernel
theorem dX13_lifts_52 : decode cX13_lifts 52 = .ok (.getfield 324, 3) := by decide +kernel
theorem dX13_lifts_55 : decode cX13_lifts 55 = .ok (.iconst 1, 1) := by decide +kernel
theorem dX13_lifts_56 : decode cX13_lifts 56 = .ok (.iload_n 1, 1) := by decide +kernel
theorem dX13_lifts_57 : decode cX13_lifts 57 = .ok (.ishl, 1) := by decide +kernel
theorem dX13_lifts_58 : decode cX13_lifts 58 = .ok (.ixor, 1) := by decide +kernel
theorem dX13_lifts_59 : decode cX13_lifts 59 = .ok (.putfield 324, 3) := by decide +kernel
theorem dX13_lifts_62 : decode cX13_lifts 62 = .ok (.aload_n 0, 1) := by decide +kernel
theorem dX13_lifts_63 : decode cX13_lifts 63 = .ok (.aload_n 0, 1) := by decide +kernel
theorem dX13_lifts_64 : decode cX13_lifts 64 = .ok (.iload_n 1, 1) := by decide +kernel
theorem dX13_lifts_65 : decode cX13_lifts 65 = .ok (.invokevirtual 377, 3) := by decide +kernel
theorem dX13_lifts_68 : decode cX13_lifts 68 = .ok (.invokevirtual 80, 3) := by decide +kernel
theorem dX13_lifts_71 : decode cX13_lifts 71 = .ok (.ireturn, 1) := by decide +kernel
theorem dX13_twist_0 : decode cX13_twist 0 = .ok (.aload_n 0, 1) := by decide +kernel
theorem dX13_twist_1 : decode cX13_twist 1 = .ok (.iconst 0, 1) := by decide +kernel
theorem dX13_twist_2 : decode cX13_twist 2 = .ok (.putfield 70, 3) := by decide +kernel
theorem dX13_twist_5 : decode cX13_twist 5 = .ok (.aload_n 0, 1) := by decide +kernel
theorem dX13_twist_6 : decode cX13_twist 6 = .ok (.iload_n 1, 1) := by decide +kernel
theorem dX13_twist_7 : decode cX13_twist 7 = .ok (.invokevirtual 412, 3) := by decide +kernel
theorem dX13_twist_10 : decode cX13_twist 10 = .ok (.ifCond .ne 9, 3) := by decide +kernel
theorem dX13_twist_13 : decode cX13_twist 13 = .ok (.aload_n 0, 1) := by decide +kernel
theorem dX13_twist_14 : decode cX13_twist 14 = .ok (.iconst 1, 1) := by decide +kernel
theorem dX13_twist_15 : decode cX13_twist 15 = .ok (.invokevirtual 437, 3) := by decide +kernel
theorem dX13_twist_18 : decode cX13_twist 18 = .ok (.ireturn, 1) := by decide +kernel
theorem dX13_twist_19 : decode cX13_twist 19 = .ok (.iconst 0, 1) := by decide +kernel
theorem dX13_twist_20 : decode cX13_twist 20 = .ok (.istore_n 2, 1) := by decide +kernel
theorem dX13_twist_21 : decode cX13_twist 21 = .ok (.iconst 0, 1) := by decide +kernel
theorem dX13_twist_22 : decode cX13_twist 22 = .ok (.istore_n 3, 1) := by decide +kernel
theorem dX13_twist_23 : decode cX13_twist 23 = .ok (.iload_n 3, 1) := by decide +kernel
theorem dX13_twist_24 : decode cX13_twist 24 = .ok (.aload_n 0, 1) := by decide +kernel
theorem dX13_twist_25 : decode cX13_twist 25 = .ok (.getfield 310, 3) := by decide +kernel
theorem dX13_twist_28 : decode cX13_twist 28 = .ok (.getfield 277, 3) := by decide +kernel
theorem dX13_twist_31 : decode cX13_twist 31 = .ok (.if_icmp .ge 67, 3) := by decide +kernel
theorem dX13_twist_34 : decode cX13_twist 34 = .ok (.aload_n 0, 1) := by decide +kernel
theorem dX13_twist_35 : decode cX13_twist 35 = .ok (.getfield 310, 3) := by decide +kernel
theorem dX13_twist_38 : decode cX13_twist 38 = .ok (.getfield 368, 3) := by decide +kernel
theorem dX13_twist_41 : decode cX13_twist 41 = .ok (.aload_n 0, 1) := by decide +kernel
theorem dX13_twist_42 : decode cX13_twist 42 = .ok (.getfield 310, 3) := by decide +kernel
theorem dX13_twist_45 : decode cX13_twist 45 = .ok (.getfield 289, 3) := by decide +kernel
theorem dX13_twist_48 : decode cX13_twist 48 = .ok (.iload_n 3, 1) := by decide +kernel
theorem dX13_twist_49 : decode cX13_twist 49 = .ok (.iaload, 1) := by decide +kernel
theorem dX13_twist_50 : decode cX13_twist 50 = .ok (.iaload, 1) := by decide +kernel
theorem dX13_twist_51 : decode cX13_twist 51 = .ok (.iload_n 1, 1) := by decide +kernel
theorem dX13_twist_52 : decode cX13_twist 52 = .ok (.if_icmp .ne 40, 3) := by decide +kernel
theorem dX13_twist_55 : decode cX13_twist 55 = .ok (.aload_n 0, 1) := by decide +kernel
theorem dX13_twist_56 : decode cX13_twist 56 = .ok (.getfield 310, 3) := by decide +kernel
theorem dX13_twist_59 : decode cX13_twist 59 = .ok (.getfield 368, 3) := by decide +kernel
theorem dX13_twist_62 : decode cX13_twist 62 = .ok (.aload_n 0, 1) := by decide +kernel
theorem dX13_twist_63 : decode cX13_twist 63 = .ok (.getfield 310, 3) := by decide +kernel
theorem dX13_twist_66 : decode cX13_twist 66 = .ok (.getfield 294, 3) := by decide +kernel
theorem dX13_twist_69 : decode cX13_twist 69 = .ok (.iload_n 3, 1) := by decide +kernel
theorem dX13_twist_70 : decode cX13_twist 70 = .ok (.iaload, 1) := by decide +kernel
theorem dX13_twist_71 : decode cX13_twist 71 = .ok (.iaload, 1) := by decide +kernel
theorem dX13_twist_72 : decode cX13_twist 72 = .ok (.iload_n 1, 1) := by decide +kernel
theorem dX13_twist_73 : decode cX13_twist 73 = .ok (.if_icmp .ne 19, 3) := by decide +kernel
theorem dX13_twist_76 : decode cX13_twist 76 = .ok (.aload_n 0, 1) := by decide +kernel
theorem dX13_twist_77 : decode cX13_twist 77 = .ok (.iload_n 3, 1) := by decide +kernel
theorem dX13_twist_78 : decode cX13_twist 78 = .ok (.invokevirtual 440, 3) := by decide +kernel
theorem dX13_twist_81 : decode cX13_twist 81 = .ok (.ifCond .eq 11, 3) := by decide +kernel
theorem dX13_twist_84 : decode cX13_twist 84 = .ok (.iload_n 2, 1) := by decide +kernel
theorem dX13_twist_85 : decode cX13_twist 85 = .ok (.aload_n 0, 1) := by decide +kernel
theorem dX13_twist_86 : decode cX13_twist 86 = .ok (.iload_n 3, 1) := by decide +kernel
theorem dX13_twist_87 : decode cX13_twist 87 = .ok (.invokevirtual 377, 3) := by decide +kernel
theorem dX13_twist_90 : decode cX13_twist 90 = .ok (.iadd, 1) := by decide +kernel
theorem dX13_twist_91 : decode cX13_twist 91 = .ok (.istore_n 2, 1) := by decide +kernel
theorem dX13_twist_92 : decode cX13_twist 92 = .ok (.iinc 3 1, 3) := by decide +kernel
theorem dX13_twist_95 : decode cX13_twist 95 = .ok (.goto (-72), 3) := by decide +kernel
theorem dX13_twist_98 : decode cX13_twist 98 = .ok (.aload_n 0, 1) := by decide +kernel
theorem dX13_twist_99 : decode cX13_twist 99 = .ok (.iload_n 2, 1) := by decide +kernel
theorem dX13_twist_100 : decode cX13_twist 100 = .ok (.invokevirtual 80, 3) := by decide +kernel
theorem dX13_twist_103 : decode cX13_twist 103 = .ok (.ireturn, 1) := by decide +kernel
theorem dX13_arcs_0 : decode cX13_arcs 0 = .ok (.aload_n 0, 1) := by decide +kernel
theorem dX13_arcs_1 : decode cX13_arcs 1 = .ok (.iconst 0, 1) := by decide +kernel
theorem dX13_arcs_2 : decode cX13_arcs 2 = .ok (.putfield 70, 3) := by decide +kernel
theorem dX13_arcs_5 : decode cX13_arcs 5 = .ok (.aload_n 0, 1) := by decide +kernel
theorem dX13_arcs_6 : decode cX13_arcs 6 = .ok (.getfield 310, 3) := by decide +kernel
theorem dX13_arcs_9 : decode cX13_arcs 9 = .ok (.ifnonnull 9, 3) := by decide +kernel
theorem dX13_arcs_12 : decode cX13_arcs 12 = .ok (.aload_n 0, 1) := by decide +kernel
theorem dX13_arcs_13 : decode cX13_arcs 13 = .ok (.iconst 1, 1) := by decide +kernel
theorem dX13_arcs_14 : decode cX13_arcs 14 = .ok (.invokevirtual 76, 3) := by decide +kernel
theorem dX13_arcs_17 : decode cX13_arcs 17 = .ok (.ireturn, 1) := by decide +kernel
theorem dX13_arcs_18 : decode cX13_arcs 18 = .ok (.aload_n 0, 1) := by decide +kernel
theorem dX13_arcs_19 : decode cX13_arcs 19 = .ok (.invokevirtual 485, 3) := by decide +kernel
theorem dX13_arcs_22 : decode cX13_arcs 22 = .ok (.aload_n 0, 1) := by decide +kernel
theorem dX13_arcs_23 : decode cX13_arcs 23 = .ok (.aload_n 0, 1) := by decide +kernel
theorem dX13_arcs_24 : decode cX13_arcs 24 = .ok (.getfield 478, 3) := by decide +kernel
theorem dX13_arcs_27 : decode cX13_arcs 27 = .ok (.invokevirtual 80, 3) := by decide +kernel
theorem dX13_arcs_30 : decode cX13_arcs 30 = .ok (.ireturn, 1) := by decide +kernel
theorem dX13_comesAll_0 : decode cX13_comesAll 0 = .ok (.iconst 0, 1) := by decide +kernel
theorem dX13_comesAll_1 : decode cX13_comesAll 1 = .ok (.istore_n 2, 1) := by decide +kernel
theorem dX13_comesAll_2 : decode cX13_comesAll 2 = .ok (.iload_n 2, 1) := by decide +kernel
theorem dX13_comesAll_3 : decode cX13_comesAll 3 = .ok (.sipush 16384, 3) := by decide +kernel
theorem dX13_comesAll_6 : decode cX13_comesAll 6 = .ok (.if_icmp .ge 16, 3) := by decide +kernel
theorem dX13_comesAll_9 : decode cX13_comesAll 9 = .ok (.aload_n 0, 1) := by decide +kernel
theorem dX13_comesAll_10 : decode cX13_comesAll 10 = .ok (.getfield 28, 3) := by decide +kernel
theorem dX13_comesAll_13 : decode cX13_comesAll 13 = .ok (.iload_n 2, 1) := by decide +kernel
theorem dX13_comesAll_14 : decode cX13_comesAll 14 = .ok (.lconst 0, 1) := by decide +kernel
theorem dX13_comesAll_15 : decode cX13_comesAll 15 = .ok (.lastore, 1) := by decide +kernel
theorem dX13_comesAll_16 : decode cX13_comesAll 16 = .ok (.iinc 2 1, 3) := by decide +kernel
theorem dX13_comesAll_19 : decode cX13_comesAll 19 = .ok (.goto (-17), 3) := by decide +kernel
theorem dX13_comesAll_22 : decode cX13_comesAll 22 = .ok (.aload_n 0, 1) := by decide +kernel
theorem dX13_comesAll_23 : decode cX13_comesAll 23 = .ok (.iconst 0, 1) := by decide +kernel
theorem dX13_comesAll_24 : decode cX13_comesAll 24 = .ok (.putfield 453, 3) := by decide +kernel
theorem dX13_comesAll_27 : decode cX13_comesAll 27 = .ok (.aload_n 0, 1) := by decide +kernel
theorem dX13_comesAll_28 : decode cX13_comesAll 28 = .ok (.aload_n 0, 1) := by decide +kernel
theorem dX13_comesAll_29 : decode cX13_comesAll 29 = .ok (.getfield 318, 3) := by decide +kernel
theorem dX13_comesAll_32 : decode cX13_comesAll 32 = .ok (.invokevirtual 456, 3) := by decide +kernel
theorem dX13_comesAll_35 : decode cX13_comesAll 35 = .ok (.pop, 1) := by decide +kernel
theorem dX13_comesAll_36 : decode cX13_comesAll 36 = .ok (.iconst 0, 1) := by decide +kernel
theorem dX13_comesAll_37 : decode cX13_comesAll 37 = .ok (.istore_n 2, 1) := by decide +kernel
theorem dX13_comesAll_38 : decode cX13_comesAll 38 = .ok (.iconst 0, 1) := by decide +kernel
theorem dX13_comesAll_39 : decode cX13_comesAll 39 = .ok (.istore_n 3, 1) := by decide +kernel
theorem dX13_comesAll_40 : decode cX13_comesAll 40 = .ok (.iload_n 3, 1) := by decide +kernel
theorem dX13_comesAll_41 : decode cX13_comesAll 41 = .ok (.iload_n 1, 1) := by decide +kernel
theorem dX13_comesAll_42 : decode cX13_comesAll 42 = .ok (.if_icmp .ge 50, 3) := by decide +kernel
theorem dX13_comesAll_45 : decode cX13_comesAll 45 = .ok (.aload_n 0, 1) := by decide +kernel
theorem dX13_comesAll_46 : decode cX13_comesAll 46 = .ok (.getfield 453, 3) := by decide +kernel
theorem dX13_comesAll_49 : decode cX13_comesAll 49 = .ok (.istore 4, 2) := by decide +kernel
theorem dX13_comesAll_51 : decode cX13_comesAll 51 = .ok (.iload_n 2, 1) := by decide +kernel
theorem dX13_comesAll_52 : decode cX13_comesAll 52 = .ok (.istore 5, 2) := by decide +kernel
theorem dX13_comesAll_54 : decode cX13_comesAll 54 = .ok (.iload 5, 2) := by decide +kernel
theorem dX13_comesAll_56 : decode cX13_comesAll 56 = .ok (.iload 4, 2) := by decide +kernel
theorem dX13_comesAll_58 : decode cX13_comesAll 58 = .ok (.if_icmp .ge 25, 3) := by decide +kernel
theorem dX13_comesAll_61 : decode cX13_comesAll 61 = .ok (.aload_n 0, 1) := by decide +kernel
theorem dX13_comesAll_62 : decode cX13_comesAll 62 = .ok (.aload_n 0, 1) := by decide +kernel
theorem dX13_comesAll_63 : decode cX13_comesAll 63 = .ok (.getfield 24, 3) := by decide +kernel
theorem dX13_comesAll_66 : decode cX13_comesAll 66 = .ok (.iload 5, 2) := by decide +kernel
theorem dX13_comesAll_68 : decode cX13_comesAll 68 = .ok (.laload, 1) := by decide +kernel
theorem dX13_comesAll_69 : decode cX13_comesAll 69 = .ok (.invokevirtual 460, 3) := by decide +kernel
theorem dX13_comesAll_72 : decode cX13_comesAll 72 = .ok (.ifCond .ne 5, 3) := by decide +kernel
theorem dX13_comesAll_75 : decode cX13_comesAll 75 = .ok (.iconst 0, 1) := by decide +kernel
theorem dX13_comesAll_76 : decode cX13_comesAll 76 = .ok (.ireturn, 1) := by decide +kernel
theorem dX13_comesAll_77 : decode cX13_comesAll 77 = .ok (.iinc 5 1, 3) := by decide +kernel
theorem dX13_comesAll_80 : decode cX13_comesAll 80 = .ok (.goto (-26), 3) := by decide +kernel
theorem dX13_comesAll_83 : decode cX13_comesAll 83 = .ok (.iload 4, 2) := by decide +kernel
theorem dX13_comesAll_85 : decode cX13_comesAll 85 = .ok (.istore_n 2, 1) := by decide +kernel
theorem dX13_comesAll_86 : decode cX13_comesAll 86 = .ok (.iinc 3 1, 3) := by decide +kernel
theorem dX13_comesAll_89 : decode cX13_comesAll 89 = .ok (.goto (-49), 3) := by decide +kernel
theorem dX13_comesAll_92 : decode cX13_comesAll 92 = .ok (.iconst 1, 1) := by decide +kernel
theorem dX13_comesAll_93 : decode cX13_comesAll 93 = .ok (.ireturn, 1) := by decide +kernel
theorem dX13_reached_0 : decode cX13_reached 0 = .ok (.aload_n 0, 1) := by decide +kernel
theorem dX13_reached_1 : decode cX13_reached 1 = .ok (.iconst 0, 1) := by decide +kernel
theorem dX13_reached_2 : decode cX13_reached 2 = .ok (.putfield 70, 3) := by decide +kernel
theorem dX13_reached_5 : decode cX13_reached 5 = .ok (.aload_n 0, 1) := by decide +kernel
theorem dX13_reached_6 : decode cX13_reached 6 = .ok (.getfield 310, 3) := by decide +kernel
theorem dX13_reached_9 : decode cX13_reached 9 = .ok (.ifnonnull 9, 3) := by decide +kernel
theorem dX13_reached_12 : decode cX13_reached 12 = .ok (.aload_n 0, 1) := by decide +kernel
theorem dX13_reached_13 : decode cX13_reached 13 = .ok (.iconst 1, 1) := by decide +kernel
theorem dX13_reached_14 : decode cX13_reached 14 = .ok (.invokevirtual 76, 3) := by decide +kernel
theorem dX13_reached_17 : decode cX13_reached 17 = .ok (.ireturn, 1) := by decide +kernel
theorem dX13_reached_18 : decode cX13_reached 18 = .ok (.iload_n 1, 1) := by decide +kernel
theorem dX13_reached_19 : decode cX13_reached 19 = .ok (.iconst 0, 1) := by decide +kernel
theorem dX13_reached_20 : decode cX13_reached 20 = .ok (.bipush 8, 2) := by decide +kernel
theorem dX13_reached_22 : decode cX13_reached 22 = .ok (.invokestatic 145, 3) := by decide +kernel
theorem dX13_reached_25 : decode cX13_reached 25 = .ok (.ifCond .ne 9, 3) := by decide +kernel
theorem dX13_reached_28 : decode cX13_reached 28 = .ok (.aload_n 0, 1) := by decide +kernel
theorem dX13_reached_29 : decode cX13_reached 29 = .ok (.iconst 2, 1) := by decide +kernel
theorem dX13_reached_30 : decode cX13_reached 30 = .ok (.invokevirtual 76, 3) := by decide +kernel
theorem dX13_reached_33 : decode cX13_reached 33 = .ok (.ireturn, 1) := by decide +kernel
theorem dX13_reached_34 : decode cX13_reached 34 = .ok (.aload_n 0, 1) := by decide +kernel
theorem dX13_reached_35 : decode cX13_reached 35 = .ok (.iload_n 1, 1) := by decide +kernel
theorem dX13_reached_36 : decode cX13_reached 36 = .ok (.invokevirtual 510, 3) := by decide +kernel
theorem dX13_reached_39 : decode cX13_reached 39 = .ok (.ifCond .eq 14, 3) := by decide +kernel
theorem dX13_reached_42 : decode cX13_reached 42 = .ok (.aload_n 0, 1) := by decide +kernel
theorem dX13_reached_43 : decode cX13_reached 43 = .ok (.aload_n 0, 1) := by decide +kernel
theorem dX13_reached_44 : decode cX13_reached 44 = .ok (.getfield 453, 3) := by decide +kernel
theorem dX13_reached_47 : decode cX13_reached 47 = .ok (.invokevirtual 80, 3) := by decide +kernel
theorem dX13_reached_50 : decode cX13_reached 50 = .ok (.goto 8, 3) := by decide +kernel
theorem dX13_reached_53 : decode cX13_reached 53 = .ok (.aload_n 0, 1) := by decide +kernel
theorem dX13_reached_54 : decode cX13_reached 54 = .ok (.iconst 3, 1) := by decide +kernel
theorem dX13_reached_55 : decode cX13_reached 55 = .ok (.invokevirtual 76, 3) := by decide +kernel
theorem dX13_reached_58 : decode cX13_reached 58 = .ok (.ireturn, 1) := by decide +kernel
theorem dX13_few_0 : decode cX13_few 0 = .ok (.aload_n 0, 1) := by decide +kernel
theorem dX13_few_1 : decode cX13_few 1 = .ok (.iconst 0, 1) := by decide +kernel
theorem dX13_few_2 : decode cX13_few 2 = .ok (.putfield 70, 3) := by decide +kernel
theorem dX13_few_5 : decode cX13_few 5 = .ok (.aload_n 0, 1) := by decide +kernel
theorem dX13_few_6 : decode cX13_few 6 = .ok (.getfield 310, 3) := by decide +kernel
theorem dX13_few_9 : decode cX13_few 9 = .ok (.ifnonnull 9, 3) := by decide +kernel
theorem dX13_few_12 : decode cX13_few 12 = .ok (.aload_n 0, 1) := by decide +kernel
theorem dX13_few_13 : decode cX13_few 13 = .ok (.iconst 1, 1) := by decide +kernel
theorem dX13_few_14 : decode cX13_few 14 = .ok (.invokevirtual 76, 3) := by decide +kernel
theorem dX13_few_17 : decode cX13_few 17 = .ok (.ireturn, 1) := by decide +kernel
theorem dX13_few_18 : decode cX13_few 18 = .ok (.iload_n 1, 1) := by decide +kernel
theorem dX13_few_19 : decode cX13_few 19 = .ok (.iconst 0, 1) := by decide +kernel
theorem dX13_few_20 : decode cX13_few 20 = .ok (.bipush 8, 2) := by decide +kernel
theorem dX13_few_22 : decode cX13_few 22 = .ok (.invokestatic 145, 3) := by decide +kernel
theorem dX13_few_25 : decode cX13_few 25 = .ok (.ifCond .ne 9, 3) := by decide +kernel
theorem dX13_few_28 : decode cX13_few 28 = .ok (.aload_n 0, 1) := by decide +kernel
theorem dX13_few_29 : decode cX13_few 29 = .ok (.iconst 2, 1) := by decide +kernel
theorem dX13_few_30 : decode cX13_few 30 = .ok (.invokevirtual 76, 3) := by decide +kernel
theorem dX13_few_33 : decode cX13_few 33 = .ok (.ireturn, 1) := by decide +kernel
theorem dX13_few_34 : decode cX13_few 34 = .ok (.aload_n 0, 1) := by decide +kernel
theorem dX13_few_35 : decode cX13_few 35 = .ok (.iload_n 1, 1) := by decide +kernel
theorem dX13_few_36 : decode cX13_few 36 = .ok (.invokevirtual 510, 3) := by decide +kernel
theorem dX13_few_39 : decode cX13_few 39 = .ok (.ifCond .ne 9, 3) := by decide +kernel
theorem dX13_few_42 : decode cX13_few 42 = .ok (.aload_n 0, 1) := by decide +kernel
theorem dX13_few_43 : decode cX13_few 43 = .ok (.iconst 3, 1) := by decide +kernel
theorem dX13_few_44 : decode cX13_few 44 = .ok (.invokevirtual 76, 3) := by decide +kernel
theorem dX13_few_47 : decode cX13_few 47 = .ok (.ireturn, 1) := by decide +kernel
theorem dX13_few_48 : decode cX13_few 48 = .ok (.aload_n 0, 1) := by decide +kernel
theorem dX13_few_49 : decode cX13_few 49 = .ok (.aload_n 0, 1) := by decide +kernel
theorem dX13_few_50 : decode cX13_few 50 = .ok (.getfield 318, 3) := by decide +kernel
theorem dX13_few_53 : decode cX13_few 53 = .ok (.invokevirtual 443, 3) := by decide +kernel
theorem dX13_few_56 : decode cX13_few 56 = .ok (.istore_n 2, 1) := by decide +kernel
theorem dX13_few_57 : decode cX13_few 57 = .ok (.iconst 0, 1) := by decide +kernel
theorem dX13_few_58 : decode cX13_few 58 = .ok (.istore_n 3, 1) := by decide +kernel
theorem dX13_few_59 : decode cX13_few 59 = .ok (.iload_n 3, 1) := by decide +kernel
theorem dX13_few_60 : decode cX13_few 60 = .ok (.aload_n 0, 1) := by decide +kernel
theorem dX13_few_61 : decode cX13_few 61 = .ok (.getfield 453, 3) := by decide +kernel
theorem dX13_few_64 : decode cX13_few 64 = .ok (.if_icmp .ge 38, 3) := by decide +kernel
theorem dX13_few_67 : decode cX13_few 67 = .ok (.aload_n 0, 1) := by decide +kernel
theorem dX13_few_68 : decode cX13_few 68 = .ok (.aload_n 0, 1) := by decide +kernel
theorem dX13_few_69 : decode cX13_few 69 = .ok (.getfield 24, 3) := by decide +kernel
theorem dX13_few_72 : decode cX13_few 72 = .ok (.iload_n 3, 1) := by decide +kernel
theorem dX13_few_73 : decode cX13_few 73 = .ok (.laload, 1) := by decide +kernel
theorem dX13_few_74 : decode cX13_few 74 = .ok (.invokevirtual 443, 3) := by decide +kernel
theorem dX13_few_77 : decode cX13_few 77 = .ok (.iload_n 2, 1) := by decide +kernel
theorem dX13_few_78 : decode cX13_few 78 = .ok (.if_icmp .ge 16, 3) := by decide +kernel
theorem dX13_few_81 : decode cX13_few 81 = .ok (.aload_n 0, 1) := by decide +kernel
theorem dX13_few_82 : decode cX13_few 82 = .ok (.aload_n 0, 1) := by decide +kernel
theorem dX13_few_83 : decode cX13_few 83 = .ok (.getfield 24, 3) := by decide +kernel
theorem dX13_few_86 : decode cX13_few 86 = .ok (.iload_n 3, 1) := by decide +kernel
theorem dX13_few_87 : decode cX13_few 87 = .ok (.laload, 1) := by decide +kernel
theorem dX13_few_88 : decode cX13_few 88 = .ok (.invokevirtual 443, 3) := by decide +kernel
theorem dX13_few_91 : decode cX13_few 91 = .ok (.goto 4, 3) := by decide +kernel
theorem dX13_few_94 : decode cX13_few 94 = .ok (.iload_n 2, 1) := by decide +kernel
theorem dX13_few_95 : decode cX13_few 95 = .ok (.istore_n 2, 1) := by decide +kernel
theorem dX13_few_96 : decode cX13_few 96 = .ok (.iinc 3 1, 3) := by decide +kernel
theorem dX13_few_99 : decode cX13_few 99 = .ok (.goto (-40), 3) := by decide +kernel
theorem dX13_few_102 : decode cX13_few 102 = .ok (.aload_n 0, 1) := by decide +kernel
theorem dX13_few_103 : decode cX13_few 103 = .ok (.iload_n 2, 1) := by decide +kernel
theorem dX13_few_104 : decode cX13_few 104 = .ok (.invokevirtual 80, 3) := by decide +kernel
theorem dX13_few_107 : decode cX13_few 107 = .ok (.ireturn, 1) := by decide +kernel
theorem dX13_seesIn_0 : decode cX13_seesIn 0 = .ok (.iconst 0, 1) := by decide +kernel
theorem dX13_seesIn_1 : decode cX13_seesIn 1 = .ok (.istore 4, 2) := by decide +kernel
theorem dX13_seesIn_3 : decode cX13_seesIn 3 = .ok (.iconst 0, 1) := by decide +kernel
theorem dX13_seesIn_4 : decode cX13_seesIn 4 = .ok (.istore 5, 2) := by decide +kernel
theorem dX13_seesIn_6 : decode cX13_seesIn 6 = .ok (.iload 5, 2) := by decide +kernel
theorem dX13_seesIn_8 : decode cX13_seesIn 8 = .ok (.aload_n 0, 1) := by decide +kernel
theorem dX13_seesIn_9 : decode cX13_seesIn 9 = .ok (.getfield 310, 3) := by decide +kernel
theorem dX13_seesIn_12 : decode cX13_seesIn 12 = .ok (.getfield 346, 3) := by decide +kernel
theorem dX13_seesIn_15 : decode cX13_seesIn 15 = .ok (.if_icmp .ge 81, 3) := by decide +kernel
theorem dX13_seesIn_18 : decode cX13_seesIn 18 = .ok (.aload_n 0, 1) := by decide +kernel
theorem dX13_seesIn_19 : decode cX13_seesIn 19 = .ok (.getfield 310, 3) := by decide +kernel
theorem dX13_seesIn_22 : decode cX13_seesIn 22 = .ok (.getfield 362, 3) := by decide +kernel
theorem dX13_seesIn_25 : decode cX13_seesIn 25 = .ok (.iload 5, 2) := by decide +kernel
theorem dX13_seesIn_27 : decode cX13_seesIn 27 = .ok (.iaload, 1) := by decide +kernel
theorem dX13_seesIn_28 : decode cX13_seesIn 28 = .ok (.istore 6, 2) := by decide +kernel
theorem dX13_seesIn_30 : decode cX13_seesIn 30 = .ok (.lload_n 1, 1) := by decide +kernel
theorem dX13_seesIn_31 : decode cX13_seesIn 31 = .ok (.iload 5, 2) := by decide +kernel
theorem dX13_seesIn_33 : decode cX13_seesIn 33 = .ok (.invokestatic 349, 3) := by decide +kernel
theorem dX13_seesIn_36 : decode cX13_seesIn 36 = .ok (.bipush 15, 2) := by decide +kernel
theorem dX13_seesIn_38 : decode cX13_seesIn 38 = .ok (.if_icmp .eq 52, 3) := by decide +kernel
theorem dX13_seesIn_41 : decode cX13_seesIn 41 = .ok (.aload_n 0, 1) := by decide +kernel
theorem dX13_seesIn_42 : decode cX13_seesIn 42 = .ok (.getfield 310, 3) := by decide +kernel
theorem dX13_seesIn_45 : decode cX13_seesIn 45 = .ok (.getfield 245, 3) := by decide +kernel
theorem dX13_seesIn_48 : decode cX13_seesIn 48 = .ok (.iconst 2, 1) := by decide +kernel
theorem dX13_seesIn_49 : decode cX13_seesIn 49 = .ok (.iload_n 3, 1) := by decide +kernel
theorem dX13_seesIn_50 : decode cX13_seesIn 50 = .ok (.imul, 1) := by decide +kernel
theorem dX13_seesIn_51 : decode cX13_seesIn 51 = .ok (.iaload, 1) := by decide +kernel
theorem dX13_seesIn_52 : decode cX13_seesIn 52 = .ok (.iload 6, 2) := by decide +kernel
theorem dX13_seesIn_54 : decode cX13_seesIn 54 = .ok (.if_icmp .eq 21, 3) := by decide +kernel
theorem dX13_seesIn_57 : decode cX13_seesIn 57 = .ok (.aload_n 0, 1) := by decide +kernel
theorem dX13_seesIn_58 : decode cX13_seesIn 58 = .ok (.getfield 310, 3) := by decide +kernel
theorem dX13_seesIn_61 : decode cX13_seesIn 61 = .ok (.getfield 245, 3) := by decide +kernel
theorem dX13_seesIn_64 : decode cX13_seesIn 64 = .ok (.iconst 2, 1) := by decide +kernel
theorem dX13_seesIn_65 : decode cX13_seesIn 65 = .ok (.iload_n 3, 1) := by decide +kernel
theorem dX13_seesIn_66 : decode cX13_seesIn 66 = .ok (.imul, 1) := by decide +kernel
theorem dX13_seesIn_67 : decode cX13_seesIn 67 = .ok (.iconst 1, 1) := by decide +kernel
theorem dX13_seesIn_68 : decode cX13_seesIn 68 = .ok (.iadd, 1) := by decide +kernel
theorem dX13_seesIn_69 : decode cX13_seesIn 69 = .ok (.iaload, 1) := by decide +kernel
theorem dX13_seesIn_70 : decode cX13_seesIn 70 = .ok (.iload 6, 2) := by decide +kernel
theorem dX13_seesIn_72 : decode cX13_seesIn 72 = .ok (.if_icmp .ne 18, 3) := by decide +kernel
theorem dX13_seesIn_75 : decode cX13_seesIn 75 = .ok (.iload 4, 2) := by decide +kernel
theorem dX13_seesIn_77 : decode cX13_seesIn 77 = .ok (.iconst 1, 1) := by decide +kernel
theorem dX13_seesIn_78 : decode cX13_seesIn 78 = .ok (.lload_n 1, 1) := by decide +kernel
theorem dX13_seesIn_79 : decode cX13_seesIn 79 = .ok (.iload 5, 2) := by decide +kernel
theorem dX13_seesIn_81 : decode cX13_seesIn 81 = .ok (.invokestatic 349, 3) := by decide +kernel
theorem dX13_seesIn_84 : decode cX13_seesIn 84 = .ok (.iconst 2, 1) := by decide +kernel
theorem dX13_seesIn_85 : decode cX13_seesIn 85 = .ok (.idiv, 1) := by decide +kernel
theorem dX13_seesIn_86 : decode cX13_seesIn 86 = .ok (.ishl, 1) := by decide +kernel
theorem dX13_seesIn_87 : decode cX13_seesIn 87 = .ok (.ior, 1) := by decide +kernel
theorem dX13_seesIn_88 : decode cX13_seesIn 88 = .ok (.istore 4, 2) := by decide +kernel
theorem dX13_seesIn_90 : decode cX13_seesIn 90 = .ok (.iinc 5 1, 3) := by decide +kernel
theorem dX13_seesIn_93 : decode cX13_seesIn 93 = .ok (.goto (-87), 3) := by decide +kernel
theorem dX13_seesIn_96 : decode cX13_seesIn 96 = .ok (.iload 4, 2) := by decide +kernel
theorem dX13_seesIn_98 : decode cX13_seesIn 98 = .ok (.ireturn, 1) := by decide +kernel
theorem dX13_sees_0 : decode cX13_sees 0 = .ok (.aload_n 0, 1) := by decide +kernel
theorem dX13_sees_1 : decode cX13_sees 1 = .ok (.iconst 0, 1) := by decide +kernel
theorem dX13_sees_2 : decode cX13_sees 2 = .ok (.putfield 70, 3) := by decide +kernel
theorem dX13_sees_5 : decode cX13_sees 5 = .ok (.aload_n 0, 1) := by decide +kernel
theorem dX13_sees_6 : decode cX13_sees 6 = .ok (.iload_n 1, 1) := by decide +kernel
theorem dX13_sees_7 : decode cX13_sees 7 = .ok (.invokevirtual 406, 3) := by decide +kernel
theorem dX13_sees_10 : decode cX13_sees 10 = .ok (.ifCond .eq 19, 3) := by decide +kernel
theorem dX13_sees_13 : decode cX13_sees 13 = .ok (.aload_n 0, 1) := by decide +kernel
theorem dX13_sees_14 : decode cX13_sees 14 = .ok (.aload_n 0, 1) := by decide +kernel
theorem dX13_sees_15 : decode cX13_sees 15 = .ok (.aload_n 0, 1) := by decide +kernel
theorem dX13_sees_16 : decode cX13_sees 16 = .ok (.getfield 318, 3) := by decide +kernel
theorem dX13_sees_19 : decode cX13_sees 19 = .ok (.iload_n 1, 1) := by decide +kernel
theorem dX13_sees_20 : decode cX13_sees 20 = .ok (.invokevirtual 513, 3) := by decide +kernel
theorem dX13_sees_23 : decode cX13_sees 23 = .ok (.invokevirtual 80, 3) := by decide +kernel
theorem dX13_sees_26 : decode cX13_sees 26 = .ok (.goto 8, 3) := by decide +kernel
theorem dX13_sees_29 : decode cX13_sees 29 = .ok (.aload_n 0, 1) := by decide +kernel
theorem dX13_sees_30 : decode cX13_sees 30 = .ok (.iconst 1, 1) := by decide +kernel
theorem dX13_sees_31 : decode cX13_sees 31 = .ok (.invokevirtual 76, 3) := by decide +kernel
theorem dX13_sees_34 : decode cX13_sees 34 = .ok (.ireturn, 1) := by decide +kernel
theorem dX13_crossingsOf_0 : decode cX13_crossingsOf 0 = .ok (.iload_n 0, 1) := by decide +kernel
theorem dX13_crossingsOf_1 : decode cX13_crossingsOf 1 = .ok (.invokestatic 371, 3) := by decide +kernel
theorem dX13_crossingsOf_4 : decode cX13_crossingsOf 4 = .ok (.lookupswitch 49 #[(0, 28), (1, 32)], 28) := by decide +kernel
theorem dX13_crossingsOf_32 : decode cX13_crossingsOf 32 = .ok (.iconst 1, 1) := by decide +kernel
theorem dX13_crossingsOf_33 : decode cX13_crossingsOf 33 = .ok (.iload_n 0, 1) := by decide +kernel
theorem dX13_crossingsOf_34 : decode cX13_crossingsOf 34 = .ok (.ishl, 1) := by decide +kernel
theorem dX13_crossingsOf_35 : decode cX13_crossingsOf 35 = .ok (.ireturn, 1) := by decide +kernel
theorem dX13_crossingsOf_36 : decode cX13_crossingsOf 36 = .ok (.iconst 1, 1) := by decide +kernel
theorem dX13_crossingsOf_37 : decode cX13_crossingsOf 37 = .ok (.iload_n 0, 1) := by decide +kernel
theorem dX13_crossingsOf_38 : decode cX13_crossingsOf 38 = .ok (.bipush 10, 2) := by decide +kernel
theorem dX13_crossingsOf_40 : decode cX13_crossingsOf 40 = .ok (.idiv, 1) := by decide +kernel
theorem dX13_crossingsOf_41 : decode cX13_crossingsOf 41 = .ok (.bipush 10, 2) := by decide +kernel
theorem dX13_crossingsOf_43 : decode cX13_crossingsOf 43 = .ok (.irem, 1) := by decide +kernel
theorem dX13_crossingsOf_44 : decode cX13_crossingsOf 44 = .ok (.ishl, 1) := by decide +kernel
theorem dX13_crossingsOf_45 : decode cX13_crossingsOf 45 = .ok (.iconst 1, 1) := by decide +kernel
theorem dX13_crossingsOf_46 : decode cX13_crossingsOf 46 = .ok (.iload_n 0, 1) := by decide +kernel
theorem dX13_crossingsOf_47 : decode cX13_crossingsOf 47 = .ok (.bipush 10, 2) := by decide +kernel
theorem dX13_crossingsOf_49 : decode cX13_crossingsOf 49 = .ok (.irem, 1) := by decide +kernel
theorem dX13_crossingsOf_50 : decode cX13_crossingsOf 50 = .ok (.ishl, 1) := by decide +kernel
theorem dX13_crossingsOf_51 : decode cX13_crossingsOf 51 = .ok (.ior, 1) := by decide +kernel
theorem dX13_crossingsOf_52 : decode cX13_crossingsOf 52 = .ok (.ireturn, 1) := by decide +kernel
theorem dX13_crossingsOf_53 : decode cX13_crossingsOf 53 = .ok (.iconst 1, 1) := by decide +kernel
theorem dX13_crossingsOf_54 : decode cX13_crossingsOf 54 = .ok (.iload_n 0, 1) := by decide +kernel
theorem dX13_crossingsOf_55 : decode cX13_crossingsOf 55 = .ok (.bipush 100, 2) := by decide +kernel
theorem dX13_crossingsOf_57 : decode cX13_crossingsOf 57 = .ok (.idiv, 1) := by decide +kernel
theorem dX13_crossingsOf_58 : decode cX13_crossingsOf 58 = .ok (.bipush 10, 2) := by decide +kernel
theorem dX13_crossingsOf_60 : decode cX13_crossingsOf 60 = .ok (.irem, 1) := by decide +kernel
theorem dX13_crossingsOf_61 : decode cX13_crossingsOf 61 = .ok (.ishl, 1) := by decide +kernel
theorem dX13_crossingsOf_62 : decode cX13_crossingsOf 62 = .ok (.iconst 1, 1) := by decide +kernel
theorem dX13_crossingsOf_63 : decode cX13_crossingsOf 63 = .ok (.iload_n 0, 1) := by decide +kernel
theorem dX13_crossingsOf_64 : decode cX13_crossingsOf 64 = .ok (.bipush 10, 2) := by decide +kernel
theorem dX13_crossingsOf_66 : decode cX13_crossingsOf 66 = .ok (.idiv, 1) := by decide +kernel
theorem dX13_crossingsOf_67 : decode cX13_crossingsOf 67 = .ok (.bipush 10, 2) := by decide +kernel
theorem dX13_crossingsOf_69 : decode cX13_crossingsOf 69 = .ok (.irem, 1) := by decide +kernel
theorem dX13_crossingsOf_70 : decode cX13_crossingsOf 70 = .ok (.ishl, 1) := by decide +kernel
theorem dX13_crossingsOf_71 : decode cX13_crossingsOf 71 = .ok (.ior, 1) := by decide +kernel
theorem dX13_crossingsOf_72 : decode cX13_crossingsOf 72 = .ok (.iconst 1, 1) := by decide +kernel
theorem dX13_crossingsOf_73 : decode cX13_crossingsOf 73 = .ok (.iload_n 0, 1) := by decide +kernel
theorem dX13_crossingsOf_74 : decode cX13_crossingsOf 74 = .ok (.bipush 10, 2) := by decide +kernel
theorem dX13_crossingsOf_76 : decode cX13_crossingsOf 76 = .ok (.irem, 1) := by decide +kernel
theorem dX13_crossingsOf_77 : decode cX13_crossingsOf 77 = .ok (.ishl, 1) := by decide +kernel
theorem dX13_crossingsOf_78 : decode cX13_crossingsOf 78 = .ok (.ior, 1) := by decide +kernel
theorem dX13_crossingsOf_79 : decode cX13_crossingsOf 79 = .ok (.ireturn, 1) := by decide +kernel
theorem dX13_ownIn_0 : decode cX13_ownIn 0 = .ok (.aload_n 0, 1) := by decide +kernel
theorem dX13_ownIn_1 : decode cX13_ownIn 1 = .ok (.lload_n 1, 1) := by decide +kernel
theorem dX13_ownIn_2 : decode cX13_ownIn 2 = .ok (.iload_n 3, 1) := by decide +kernel
theorem dX13_ownIn_3 : decode cX13_ownIn 3 = .ok (.invokevirtual 513, 3) := by decide +kernel
theorem dX13_ownIn_6 : decode cX13_ownIn 6 = .ok (.istore 4, 2) := by decide +kernel
theorem dX13_ownIn_8 : decode cX13_ownIn 8 = .ok (.bipush (-2), 2) := by decide +kernel
theorem dX13_ownIn_10 : decode cX13_ownIn 10 = .ok (.istore 5, 2) := by decide +kernel
theorem dX13_ownIn_12 : decode cX13_ownIn 12 = .ok (.iconst 0, 1) := by decide +kernel
theorem dX13_ownIn_13 : decode cX13_ownIn 13 = .ok (.istore 6, 2) := by decide +kernel
theorem dX13_ownIn_15 : decode cX13_ownIn 15 = .ok (.aload_n 0, 1) := by decide +kernel
theorem dX13_ownIn_16 : decode cX13_ownIn 16 = .ok (.lload_n 1, 1) := by decide +kernel
theorem dX13_ownIn_17 : decode cX13_ownIn 17 = .ok (.invokevirtual 433, 3) := by decide +kernel
theorem dX13_ownIn_20 : decode cX13_ownIn 20 = .ok (.aload_n 0, 1) := by decide +kernel
theorem dX13_ownIn_21 : decode cX13_ownIn 21 = .ok (.iconst (-1), 1) := by decide +kernel
theorem dX13_ownIn_22 : decode cX13_ownIn 22 = .ok (.invokevirtual 446, 3) := by decide +kernel
theorem dX13_ownIn_25 : decode cX13_ownIn 25 = .ok (.istore 7, 2) := by decide +kernel
theorem dX13_ownIn_27 : decode cX13_ownIn 27 = .ok (.iload 7, 2) := by decide +kernel
theorem dX13_ownIn_29 : decode cX13_ownIn 29 = .ok (.sipush 2000, 3) := by decide +kernel
theorem dX13_ownIn_32 : decode cX13_ownIn 32 = .ok (.if_icmp .ge 68, 3) := by decide +kernel
theorem dX13_ownIn_35 : decode cX13_ownIn 35 = .ok (.iload 7, 2) := by decide +kernel
theorem dX13_ownIn_37 : decode cX13_ownIn 37 = .ok (.invokestatic 516, 3) := by decide +kernel
theorem dX13_ownIn_40 : decode cX13_ownIn 40 = .ok (.iload 4, 2) := by decide +kernel
theorem dX13_ownIn_42 : decode cX13_ownIn 42 = .ok (.iconst (-1), 1) := by decide +kernel
theorem dX13_ownIn_43 : decode cX13_ownIn 43 = .ok (.ixor, 1) := by decide +kernel
theorem dX13_ownIn_44 : decode cX13_ownIn 44 = .ok (.iand, 1) := by decide +kernel
theorem dX13_ownIn_45 : decode cX13_ownIn 45 = .ok (.ifCond .eq 6, 3) := by decide +kernel
theorem dX13_ownIn_48 : decode cX13_ownIn 48 = .ok (.goto 41, 3) := by decide +kernel
theorem dX13_ownIn_51 : decode cX13_ownIn 51 = .ok (.aload_n 0, 1) := by decide +kernel
theorem dX13_ownIn_52 : decode cX13_ownIn 52 = .ok (.aload_n 0, 1) := by decide +kernel
theorem dX13_ownIn_53 : decode cX13_ownIn 53 = .ok (.lload_n 1, 1) := by decide +kernel
theorem dX13_ownIn_54 : decode cX13_ownIn 54 = .ok (.iload 7, 2) := by decide +kernel
theorem dX13_ownIn_56 : decode cX13_ownIn 56 = .ok (.invokevirtual 463, 3) := by decide +kernel
theorem dX13_ownIn_59 : decode cX13_ownIn 59 = .ok (.invokevirtual 443, 3) := by decide +kernel
theorem dX13_ownIn_62 : decode cX13_ownIn 62 = .ok (.istore 8, 2) := by decide +kernel
theorem dX13_ownIn_64 : decode cX13_ownIn 64 = .ok (.iload 5, 2) := by decide +kernel
theorem dX13_ownIn_66 : decode cX13_ownIn 66 = .ok (.bipush (-2), 2) := by decide +kernel
theorem dX13_ownIn_68 : decode cX13_ownIn 68 = .ok (.if_icmp .eq 13, 3) := by decide +kernel
theorem dX13_ownIn_71 : decode cX13_ownIn 71 = .ok (.iload 8, 2) := by decide +kernel
theorem dX13_ownIn_73 : decode cX13_ownIn 73 = .ok (.iload 6, 2) := by decide +kernel
theorem dX13_ownIn_75 : decode cX13_ownIn 75 = .ok (.if_icmp .lt 6, 3) := by decide +kernel
theorem dX13_ownIn_78 : decode cX13_ownIn 78 = .ok (.goto 11, 3) := by decide +kernel
theorem dX13_ownIn_81 : decode cX13_ownIn 81 = .ok (.iload 7, 2) := by decide +kernel
theorem dX13_ownIn_83 : decode cX13_ownIn 83 = .ok (.istore 5, 2) := by decide +kernel
theorem dX13_ownIn_85 : decode cX13_ownIn 85 = .ok (.iload 8, 2) := by decide +kernel
theorem dX13_ownIn_87 : decode cX13_ownIn 87 = .ok (.istore 6, 2) := by decide +kernel
theorem dX13_ownIn_89 : decode cX13_ownIn 89 = .ok (.aload_n 0, 1) := by decide +kernel
theorem dX13_ownIn_90 : decode cX13_ownIn 90 = .ok (.iload 7, 2) := by decide +kernel
theorem dX13_ownIn_92 : decode cX13_ownIn 92 = .ok (.invokevirtual 446, 3) := by decide +kernel
theorem dX13_ownIn_95 : decode cX13_ownIn 95 = .ok (.istore 7, 2) := by decide +kernel
theorem dX13_ownIn_97 : decode cX13_ownIn 97 = .ok (.goto (-70), 3) := by decide +kernel
theorem dX13_ownIn_100 : decode cX13_ownIn 100 = .ok (.iload 5, 2) := by decide +kernel
theorem dX13_ownIn_102 : decode cX13_ownIn 102 = .ok (.ireturn, 1) := by decide +kernel
theorem dX13_own_0 : decode cX13_own 0 = .ok (.aload_n 0, 1) := by decide +kernel
theorem dX13_own_1 : decode cX13_own 1 = .ok (.iconst 0, 1) := by decide +kernel
theorem dX13_own_2 : decode cX13_own 2 = .ok (.putfield 70, 3) := by decide +kernel
theorem dX13_own_5 : decode cX13_own 5 = .ok (.aload_n 0, 1) := by decide +kernel
theorem dX13_own_6 : decode cX13_own 6 = .ok (.iload_n 1, 1) := by decide +kernel
theorem dX13_own_7 : decode cX13_own 7 = .ok (.invokevirtual 406, 3) := by decide +kernel
theorem dX13_own_10 : decode cX13_own 10 = .ok (.ifCond .eq 19, 3) := by decide +kernel
theorem dX13_own_13 : decode cX13_own 13 = .ok (.aload_n 0, 1) := by decide +kernel
theorem dX13_own_14 : decode cX13_own 14 = .ok (.aload_n 0, 1) := by decide +kernel
theorem dX13_own_15 : decode cX13_own 15 = .ok (.aload_n 0, 1) := by decide +kernel
theorem dX13_own_16 : decode cX13_own 16 = .ok (.getfield 318, 3) := by decide +kernel
theorem dX13_own_19 : decode cX13_own 19 = .ok (.iload_n 1, 1) := by decide +kernel
theorem dX13_own_20 : decode cX13_own 20 = .ok (.invokevirtual 519, 3) := by decide +kernel
theorem dX13_own_23 : decode cX13_own 23 = .ok (.invokevirtual 80, 3) := by decide +kernel
theorem dX13_own_26 : decode cX13_own 26 = .ok (.goto 8, 3) := by decide +kernel
theorem dX13_own_29 : decode cX13_own 29 = .ok (.aload_n 0, 1) := by decide +kernel
theorem dX13_own_30 : decode cX13_own 30 = .ok (.iconst 1, 1) := by decide +kernel
theorem dX13_own_31 : decode cX13_own 31 = .ok (.invokevirtual 76, 3) := by decide +kernel
theorem dX13_own_34 : decode cX13_own 34 = .ok (.ireturn, 1) := by decide +kernel
theorem dX13_rounds_0 : decode cX13_rounds 0 = .ok (.aload_n 0, 1) := by decide +kernel
theorem dX13_rounds_1 : decode cX13_rounds 1 = .ok (.iconst 0, 1) := by decide +kernel
theorem dX13_rounds_2 : decode cX13_rounds 2 = .ok (.putfield 70, 3) := by decide +kernel
theorem dX13_rounds_5 : decode cX13_rounds 5 = .ok (.aload_n 0, 1) := by decide +kernel
theorem dX13_rounds_6 : decode cX13_rounds 6 = .ok (.getfield 310, 3) := by decide +kernel
theorem dX13_rounds_9 : decode cX13_rounds 9 = .ok (.ifnonnull 9, 3) := by decide +kernel
theorem dX13_rounds_12 : decode cX13_rounds 12 = .ok (.aload_n 0, 1) := by decide +kernel
theorem dX13_rounds_13 : decode cX13_rounds 13 = .ok (.iconst 1, 1) := by decide +kernel
theorem dX13_rounds_14 : decode cX13_rounds 14 = .ok (.invokevirtual 76, 3) := by decide +kernel
theorem dX13_rounds_17 : decode cX13_rounds 17 = .ok (.ireturn, 1) := by decide +kernel
theorem dX13_rounds_18 : decode cX13_rounds 18 = .ok (.iload_n 1, 1) := by decide +kernel
theorem dX13_rounds_19 : decode cX13_rounds 19 = .ok (.iconst 0, 1) := by decide +kernel
theorem dX13_rounds_20 : decode cX13_rounds 20 = .ok (.bipush 9, 2) := by decide +kernel
theorem dX13_rounds_22 : decode cX13_rounds 22 = .ok (.invokestatic 145, 3) := by decide +kernel
theorem dX13_rounds_25 : decode cX13_rounds 25 = .ok (.ifCond .ne 9, 3) := by decide +kernel
theorem dX13_rounds_28 : decode cX13_rounds 28 = .ok (.aload_n 0, 1) := by decide +kernel
theorem dX13_rounds_29 : decode cX13_rounds 29 = .ok (.iconst 2, 1) := by decide +kernel
theorem dX13_rounds_30 : decode cX13_rounds 30 = .ok (.invokevirtual 76, 3) := by decide +kernel
theorem dX13_rounds_33 : decode cX13_rounds 33 = .ok (.ireturn, 1) := by decide +kernel
theorem dX13_rounds_34 : decode cX13_rounds 34 = .ok (.aload_n 0, 1) := by decide +kernel
theorem dX13_rounds_35 : decode cX13_rounds 35 = .ok (.getfield 318, 3) := by decide +kernel
theorem dX13_rounds_38 : decode cX13_rounds 38 = .ok (.lstore_n 2, 1) := by decide +kernel
theorem dX13_rounds_39 : decode cX13_rounds 39 = .ok (.iconst 0, 1) := by decide +kernel
theorem dX13_rounds_40 : decode cX13_rounds 40 = .ok (.istore 4, 2) := by decide +kernel
theorem dX13_rounds_42 : decode cX13_rounds 42 = .ok (.iload 4, 2) := by decide +kernel
theorem dX13_rounds_44 : decode cX13_rounds 44 = .ok (.iload_n 1, 1) := by decide +kernel
theorem dX13_rounds_45 : decode cX13_rounds 45 = .ok (.if_icmp .ge 78, 3) := by decide +kernel
theorem dX13_rounds_48 : decode cX13_rounds 48 = .ok (.iconst 0, 1) := by decide +kernel
theorem dX13_rounds_49 : decode cX13_rounds 49 = .ok (.istore 5, 2) := by decide +kernel
theorem dX13_rounds_51 : decode cX13_rounds 51 = .ok (.iload 5, 2) := by decide +kernel
theorem dX13_rounds_53 : decode cX13_rounds 53 = .ok (.aload_n 0, 1) := by decide +kernel
theorem dX13_rounds_54 : decode cX13_rounds 54 = .ok (.getfield 310, 3) := by decide +kernel
theorem dX13_rounds_57 : decode cX13_rounds 57 = .ok (.getfield 200, 3) := by decide +kernel
theorem dX13_rounds_60 : decode cX13_rounds 60 = .ok (.if_icmp .ge 57, 3) := by decide +kernel
theorem dX13_rounds_63 : decode cX13_rounds 63 = .ok (.aload_n 0, 1) := by decide +kernel
theorem dX13_rounds_64 : decode cX13_rounds 64 = .ok (.lload_n 2, 1) := by decide +kernel
theorem dX13_rounds_65 : decode cX13_rounds 65 = .ok (.iload 5, 2) := by decide +kernel
theorem dX13_rounds_67 : decode cX13_rounds 67 = .ok (.invokevirtual 519, 3) := by decide +kernel
theorem dX13_rounds_70 : decode cX13_rounds 70 = .ok (.istore 6, 2) := by decide +kernel
theorem dX13_rounds_72 : decode cX13_rounds 72 = .ok (.aload_n 0, 1) := by decide +kernel
theorem dX13_rounds_73 : decode cX13_rounds 73 = .ok (.lload_n 2, 1) := by decide +kernel
theorem dX13_rounds_74 : decode cX13_rounds 74 = .ok (.invokevirtual 433, 3) := by decide +kernel
theorem dX13_rounds_77 : decode cX13_rounds 77 = .ok (.iload 6, 2) := by decide +kernel
theorem dX13_rounds_79 : decode cX13_rounds 79 = .ok (.bipush (-2), 2) := by decide +kernel
theorem dX13_rounds_81 : decode cX13_rounds 81 = .ok (.if_icmp .eq 30, 3) := by decide +kernel
theorem dX13_rounds_84 : decode cX13_rounds 84 = .ok (.aload_n 0, 1) := by decide +kernel
theorem dX13_rounds_85 : decode cX13_rounds 85 = .ok (.aload_n 0, 1) := by decide +kernel
theorem dX13_rounds_86 : decode cX13_rounds 86 = .ok (.lload_n 2, 1) := by decide +kernel
theorem dX13_rounds_87 : decode cX13_rounds 87 = .ok (.iload 6, 2) := by decide +kernel
theorem dX13_rounds_89 : decode cX13_rounds 89 = .ok (.invokevirtual 463, 3) := by decide +kernel
theorem dX13_rounds_92 : decode cX13_rounds 92 = .ok (.invokevirtual 443, 3) := by decide +kernel
theorem dX13_rounds_95 : decode cX13_rounds 95 = .ok (.aload_n 0, 1) := by decide +kernel
theorem dX13_rounds_96 : decode cX13_rounds 96 = .ok (.lload_n 2, 1) := by decide +kernel
theorem dX13_rounds_97 : decode cX13_rounds 97 = .ok (.invokevirtual 443, 3) := by decide +kernel
theorem dX13_rounds_100 : decode cX13_rounds 100 = .ok (.if_icmp .ge 11, 3) := by decide +kernel
theorem dX13_rounds_103 : decode cX13_rounds 103 = .ok (.aload_n 0, 1) := by decide +kernel
theorem dX13_rounds_104 : decode cX13_rounds 104 = .ok (.lload_n 2, 1) := by decide +kernel
theorem dX13_rounds_105 : decode cX13_rounds 105 = .ok (.iload 6, 2) := by decide +kernel
theorem dX13_rounds_107 : decode cX13_rounds 107 = .ok (.invokevirtual 463, 3) := by decide +kernel
theorem dX13_rounds_110 : decode cX13_rounds 110 = .ok (.lstore_n 2, 1) := by decide +kernel
theorem dX13_rounds_111 : decode cX13_rounds 111 = .ok (.iinc 5 1, 3) := by decide +kernel
theorem dX13_rounds_114 : decode cX13_rounds 114 = .ok (.goto (-63), 3) := by decide +kernel
theorem dX13_rounds_117 : decode cX13_rounds 117 = .ok (.iinc 4 1, 3) := by decide +kernel
theorem dX13_rounds_120 : decode cX13_rounds 120 = .ok (.goto (-78), 3) := by decide +kernel
theorem dX13_rounds_123 : decode cX13_rounds 123 = .ok (.aload_n 0, 1) := by decide +kernel
theorem dX13_rounds_124 : decode cX13_rounds 124 = .ok (.aload_n 0, 1) := by decide +kernel
theorem dX13_rounds_125 : decode cX13_rounds 125 = .ok (.lload_n 2, 1) := by decide +kernel
theorem dX13_rounds_126 : decode cX13_rounds 126 = .ok (.invokevirtual 443, 3) := by decide +kernel
theorem dX13_rounds_129 : decode cX13_rounds 129 = .ok (.invokevirtual 80, 3) := by decide +kernel
theorem dX13_rounds_132 : decode cX13_rounds 132 = .ok (.ireturn, 1) := by decide +kernel
theorem dX13_lotFrom_0 : decode cX13_lotFrom 0 = .ok (.aload_n 0, 1) := by decide +kernel
theorem dX13_lotFrom_1 : decode cX13_lotFrom 1 = .ok (.lload_n 1, 1) := by decide +kernel
theorem dX13_lotFrom_2 : decode cX13_lotFrom 2 = .ok (.invokevirtual 433, 3) := by decide +kernel
theorem dX13_lotFrom_5 : decode cX13_lotFrom 5 = .ok (.iconst 0, 1) := by decide +kernel
theorem dX13_lotFrom_6 : decode cX13_lotFrom 6 = .ok (.istore_n 3, 1) := by decide +kernel
theorem dX13_lotFrom_7 : decode cX13_lotFrom 7 = .ok (.aload_n 0, 1) := by decide +kernel
theorem dX13_lotFrom_8 : decode cX13_lotFrom 8 = .ok (.iconst (-1), 1) := by decide +kernel
theorem dX13_lotFrom_9 : decode cX13_lotFrom 9 = .ok (.invokevirtual 446, 3) := by decide +kernel
theorem dX13_lotFrom_12 : decode cX13_lotFrom 12 = .ok (.istore 4, 2) := by decide +kernel
theorem dX13_lotFrom_14 : decode cX13_lotFrom 14 = .ok (.iload 4, 2) := by decide +kernel
theorem dX13_lotFrom_16 : decode cX13_lotFrom 16 = .ok (.sipush 2000, 3) := by decide +kernel
theorem dX13_lotFrom_19 : decode cX13_lotFrom 19 = .ok (.if_icmp .ge 17, 3) := by decide +kernel
theorem dX13_lotFrom_22 : decode cX13_lotFrom 22 = .ok (.iinc 3 1, 3) := by decide +kernel
theorem dX13_lotFrom_25 : decode cX13_lotFrom 25 = .ok (.aload_n 0, 1) := by decide +kernel
theorem dX13_lotFrom_26 : decode cX13_lotFrom 26 = .ok (.iload 4, 2) := by decide +kernel
theorem dX13_lotFrom_28 : decode cX13_lotFrom 28 = .ok (.invokevirtual 446, 3) := by decide +kernel
theorem dX13_lotFrom_31 : decode cX13_lotFrom 31 = .ok (.istore 4, 2) := by decide +kernel
theorem dX13_lotFrom_33 : decode cX13_lotFrom 33 = .ok (.goto (-19), 3) := by decide +kernel
theorem dX13_lotFrom_36 : decode cX13_lotFrom 36 = .ok (.iload_n 3, 1) := by decide +kernel
theorem dX13_lotFrom_37 : decode cX13_lotFrom 37 = .ok (.ifCond .ne 5, 3) := by decide +kernel
theorem dX13_lotFrom_40 : decode cX13_lotFrom 40 = .ok (.lload_n 1, 1) := by decide +kernel
theorem dX13_lotFrom_41 : decode cX13_lotFrom 41 = .ok (.lreturn, 1) := by decide +kernel
theorem dX13_lotFrom_42 : decode cX13_lotFrom 42 = .ok (.aload_n 0, 1) := by decide +kernel
theorem dX13_lotFrom_43 : decode cX13_lotFrom 43 = .ok (.ldc2_w 522, 3) := by decide +kernel
theorem dX13_lotFrom_46 : decode cX13_lotFrom 46 = .ok (.aload_n 0, 1) := by decide +kernel
theorem dX13_lotFrom_47 : decode cX13_lotFrom 47 = .ok (.getfield 524, 3) := by decide +kernel
theorem dX13_lotFrom_50 : decode cX13_lotFrom 50 = .ok (.i2l, 1) := by decide +kernel
theorem dX13_lotFrom_51 : decode cX13_lotFrom 51 = .ok (.lmul, 1) := by decide +kernel
theorem dX13_lotFrom_52 : decode cX13_lotFrom 52 = .ok (.ldc2_w 527, 3) := by decide +kernel
theorem dX13_lotFrom_55 : decode cX13_lotFrom 55 = .ok (.ladd, 1) := by decide +kernel
theorem dX13_lotFrom_56 : decode cX13_lotFrom 56 = .ok (.ldc2_w 529, 3) := by decide +kernel
theorem dX13_lotFrom_59 : decode cX13_lotFrom 59 = .ok (.lrem, 1) := by decide +kernel
theorem dX13_lotFrom_60 : decode cX13_lotFrom 60 = .ok (.l2i, 1) := by decide +kernel
theorem dX13_lotFrom_61 : decode cX13_lotFrom 61 = .ok (.putfield 524, 3) := by decide +kernel
theorem dX13_lotFrom_64 : decode cX13_lotFrom 64 = .ok (.aload_n 0, 1) := by decide +kernel
theorem dX13_lotFrom_65 : decode cX13_lotFrom 65 = .ok (.iconst (-1), 1) := by decide +kernel
theorem dX13_lotFrom_66 : decode cX13_lotFrom 66 = .ok (.invokevirtual 446, 3) := by decide +kernel
theorem dX13_lotFrom_69 : decode cX13_lotFrom 69 = .ok (.istore 4, 2) := by decide +kernel
theorem dX13_lotFrom_71 : decode cX13_lotFrom 71 = .ok (.aload_n 0, 1) := by decide +kernel
theorem dX13_lotFrom_72 : decode cX13_lotFrom 72 = .ok (.getfield 524, 3) := by decide +kernel
theorem dX13_lotFrom_75 : decode cX13_lotFrom 75 = .ok (.iload_n 3, 1) := by decide +kernel
theorem dX13_lotFrom_76 : decode cX13_lotFrom 76 = .ok (.irem, 1) := by decide +kernel
theorem dX13_lotFrom_77 : decode cX13_lotFrom 77 = .ok (.istore 5, 2) := by decide +kernel
theorem dX13_lotFrom_79 : decode cX13_lotFrom 79 = .ok (.iload 5, 2) := by decide +kernel
theorem dX13_lotFrom_81 : decode cX13_lotFrom 81 = .ok (.ifCond .le 17, 3) := by decide +kernel
theorem dX13_lotFrom_84 : decode cX13_lotFrom 84 = .ok (.aload_n 0, 1) := by decide +kernel
theorem dX13_lotFrom_85 : decode cX13_lotFrom 85 = .ok (.iload 4, 2) := by decide +kernel
theorem dX13_lotFrom_87 : decode cX13_lotFrom 87 = .ok (.invokevirtual 446, 3) := by decide +kernel
theorem dX13_lotFrom_90 : decode cX13_lotFrom 90 = .ok (.istore 4, 2) := by decide +kernel
theorem dX13_lotFrom_92 : decode cX13_lotFrom 92 = .ok (.iinc 5 (-1), 3) := by decide +kernel
theorem dX13_lotFrom_95 : decode cX13_lotFrom 95 = .ok (.goto (-16), 3) := by decide +kernel
theorem dX13_lotFrom_98 : decode cX13_lotFrom 98 = .ok (.aload_n 0, 1) := by decide +kernel
theorem dX13_lotFrom_99 : decode cX13_lotFrom 99 = .ok (.lload_n 1, 1) := by decide +kernel
theorem dX13_lotFrom_100 : decode cX13_lotFrom 100 = .ok (.iload 4, 2) := by decide +kernel
theorem dX13_lotFrom_102 : decode cX13_lotFrom 102 = .ok (.invokevirtual 463, 3) := by decide +kernel
theorem dX13_lotFrom_105 : decode cX13_lotFrom 105 = .ok (.lreturn, 1) := by decide +kernel
theorem dX13_tries_0 : decode cX13_tries 0 = .ok (.aload_n 0, 1) := by decide +kernel
theorem dX13_tries_1 : decode cX13_tries 1 = .ok (.iconst 0, 1) := by decide +kernel
theorem dX13_tries_2 : decode cX13_tries 2 = .ok (.putfield 70, 3) := by decide +kernel
theorem dX13_tries_5 : decode cX13_tries 5 = .ok (.aload_n 0, 1) := by decide +kernel
theorem dX13_tries_6 : decode cX13_tries 6 = .ok (.getfield 310, 3) := by decide +kernel
theorem dX13_tries_9 : decode cX13_tries 9 = .ok (.ifnonnull 9, 3) := by decide +kernel
theorem dX13_tries_12 : decode cX13_tries 12 = .ok (.aload_n 0, 1) := by decide +kernel
theorem dX13_tries_13 : decode cX13_tries 13 = .ok (.iconst 1, 1) := by decide +kernel
theorem dX13_tries_14 : decode cX13_tries 14 = .ok (.invokevirtual 76, 3) := by decide +kernel
theorem dX13_tries_17 : decode cX13_tries 17 = .ok (.ireturn, 1) := by decide +kernel
theorem dX13_tries_18 : decode cX13_tries 18 = .ok (.iload_n 1, 1) := by decide +kernel
theorem dX13_tries_19 : decode cX13_tries 19 = .ok (.iconst 0, 1) := by decide +kernel
theorem dX13_tries_20 : decode cX13_tries 20 = .ok (.ldc_w 531, 3) := by decide +kernel
theorem dX13_tries_23 : decode cX13_tries 23 = .ok (.invokestatic 145, 3) := by decide +kernel
theorem dX13_tries_26 : decode cX13_tries 26 = .ok (.ifCond .eq 23, 3) := by decide +kernel
theorem dX13_tries_29 : decode cX13_tries 29 = .ok (.iload_n 2, 1) := by decide +kernel
theorem dX13_tries_30 : decode cX13_tries 30 = .ok (.iconst 1, 1) := by decide +kernel
theorem dX13_tries_31 : decode cX13_tries 31 = .ok (.bipush 20, 2) := by decide +kernel
theorem dX13_tries_33 : decode cX13_tries 33 = .ok (.invokestatic 145, 3) := by decide +kernel
theorem dX13_tries_36 : decode cX13_tries 36 = .ok (.ifCond .eq 13, 3) := by decide +kernel
theorem dX13_tries_39 : decode cX13_tries 39 = .ok (.iload_n 3, 1) := by decide +kernel
theorem dX13_tries_40 : decode cX13_tries 40 = .ok (.iconst 0, 1) := by decide +kernel
theorem dX13_tries_41 : decode cX13_tries 41 = .ok (.bipush 20, 2) := by decide +kernel
theorem dX13_tries_43 : decode cX13_tries 43 = .ok (.invokestatic 145, 3) := by decide +kernel
theorem dX13_tries_46 : decode cX13_tries 46 = .ok (.ifCond .ne 9, 3) := by decide +kernel
theorem dX13_tries_49 : decode cX13_tries 49 = .ok (.aload_n 0, 1) := by decide +kernel
theorem dX13_tries_50 : decode cX13_tries 50 = .ok (.iconst 2, 1) := by decide +kernel
theorem dX13_tries_51 : decode cX13_tries 51 = .ok (.invokevirtual 76, 3) := by decide +kernel
theorem dX13_tries_54 : decode cX13_tries 54 = .ok (.ireturn, 1) := by decide +kernel
theorem dX13_tries_55 : decode cX13_tries 55 = .ok (.aload_n 0, 1) := by decide +kernel
theorem dX13_tries_56 : decode cX13_tries 56 = .ok (.iload_n 1, 1) := by decide +kernel
theorem dX13_tries_57 : decode cX13_tries 57 = .ok (.putfield 524, 3) := by decide +kernel
theorem dX13_tries_60 : decode cX13_tries 60 = .ok (.iconst 0, 1) := by decide +kernel
theorem dX13_tries_61 : decode cX13_tries 61 = .ok (.istore 4, 2) := by decide +kernel
theorem dX13_tries_63 : decode cX13_tries 63 = .ok (.iconst 0, 1) := by decide +kernel
theorem dX13_tries_64 : decode cX13_tries 64 = .ok (.istore 5, 2) := by decide +kernel
theorem dX13_tries_66 : decode cX13_tries 66 = .ok (.iload 5, 2) := by decide +kernel
theorem dX13_tries_68 : decode cX13_tries 68 = .ok (.iload_n 2, 1) := by decide +kernel
theorem dX13_tries_69 : decode cX13_tries 69 = .ok (.if_icmp .ge 66, 3) := by decide +kernel
theorem dX13_tries_72 : decode cX13_tries 72 = .ok (.aload_n 0, 1) := by decide +kernel
theorem dX13_tries_73 : decode cX13_tries 73 = .ok (.getfield 318, 3) := by decide +kernel
theorem dX13_tries_76 : decode cX13_tries 76 = .ok (.lstore 6, 2) := by decide +kernel
theorem dX13_tries_78 : decode cX13_tries 78 = .ok (.iconst 0, 1) := by decide +kernel
theorem dX13_tries_79 : decode cX13_tries 79 = .ok (.istore 8, 2) := by decide +kernel
theorem dX13_tries_81 : decode cX13_tries 81 = .ok (.iload 8, 2) := by decide +kernel
theorem dX13_tries_83 : decode cX13_tries 83 = .ok (.iload_n 3, 1) := by decide +kernel
theorem dX13_tries_84 : decode cX13_tries 84 = .ok (.if_icmp .ge 26, 3) := by decide +kernel
theorem dX13_tries_87 : decode cX13_tries 87 = .ok (.aload_n 0, 1) := by decide +kernel
theorem dX13_tries_88 : decode cX13_tries 88 = .ok (.lload 6, 2) := by decide +kernel
theorem dX13_tries_90 : decode cX13_tries 90 = .ok (.invokevirtual 443, 3) := by decide +kernel
theorem dX13_tries_93 : decode cX13_tries 93 = .ok (.ifCond .le 17, 3) := by decide +kernel
theorem dX13_tries_96 : decode cX13_tries 96 = .ok (.aload_n 0, 1) := by decide +kernel
theorem dX13_tries_97 : decode cX13_tries 97 = .ok (.lload 6, 2) := by decide +kernel
theorem dX13_tries_99 : decode cX13_tries 99 = .ok (.invokevirtual 532, 3) := by decide +kernel
theorem dX13_tries_102 : decode cX13_tries 102 = .ok (.lstore 6, 2) := by decide +kernel
theorem dX13_tries_104 : decode cX13_tries 104 = .ok (.iinc 8 1, 3) := by decide +kernel
theorem dX13_tries_107 : decode cX13_tries 107 = .ok (.goto (-26), 3) := by decide +kernel
theorem dX13_tries_110 : decode cX13_tries 110 = .ok (.iload 4, 2) := by decide +kernel
theorem dX13_tries_112 : decode cX13_tries 112 = .ok (.aload_n 0, 1) := by decide +kernel
theorem dX13_tries_113 : decode cX13_tries 113 = .ok (.lload 6, 2) := by decide +kernel
theorem dX13_tries_115 : decode cX13_tries 115 = .ok (.invokevirtual 443, 3) := by decide +kernel
theorem dX13_tries_118 : decode cX13_tries 118 = .ok (.ifCond .ne 7, 3) := by decide +kernel
theorem dX13_tries_121 : decode cX13_tries 121 = .ok (.iconst 1, 1) := by decide +kernel
theorem dX13_tries_122 : decode cX13_tries 122 = .ok (.goto 4, 3) := by decide +kernel
theorem dX13_tries_125 : decode cX13_tries 125 = .ok (.iconst 0, 1) := by decide +kernel
theorem dX13_tries_126 : decode cX13_tries 126 = .ok (.iadd, 1) := by decide +kernel
theorem dX13_tries_127 : decode cX13_tries 127 = .ok (.istore 4, 2) := by decide +kernel
theorem dX13_tries_129 : decode cX13_tries 129 = .ok (.iinc 5 1, 3) := by decide +kernel
theorem dX13_tries_132 : decode cX13_tries 132 = .ok (.goto (-66), 3) := by decide +kernel
theorem dX13_tries_135 : decode cX13_tries 135 = .ok (.aload_n 0, 1) := by decide +kernel
theorem dX13_tries_136 : decode cX13_tries 136 = .ok (.iload 4, 2) := by decide +kernel
theorem dX13_tries_138 : decode cX13_tries 138 = .ok (.invokevirtual 80, 3) := by decide +kernel
theorem dX13_tries_141 : decode cX13_tries 141 = .ok (.ireturn, 1) := by decide +kernel
theorem dX13_chosen_0 : decode cX13_chosen 0 = .ok (.lconst 1, 1) := by decide +kernel
theorem dX13_chosen_1 : decode cX13_chosen 1 = .ok (.lstore_n 2, 1) := by decide +kernel
theorem dX13_chosen_2 : decode cX13_chosen 2 = .ok (.iconst 0, 1) := by decide +kernel
theorem dX13_chosen_3 : decode cX13_chosen 3 = .ok (.istore 4, 2) := by decide +kernel
theorem dX13_chosen_5 : decode cX13_chosen 5 = .ok (.iload 4, 2) := by decide +kernel
theorem dX13_chosen_7 : decode cX13_chosen 7 = .ok (.iload_n 1, 1) := by decide +kernel
theorem dX13_chosen_8 : decode cX13_chosen 8 = .ok (.if_icmp .ge 23, 3) := by decide +kernel
theorem dX13_chosen_11 : decode cX13_chosen 11 = .ok (.lload_n 2, 1) := by decide +kernel
theorem dX13_chosen_12 : decode cX13_chosen 12 = .ok (.iload_n 0, 1) := by decide +kernel
theorem dX13_chosen_13 : decode cX13_chosen 13 = .ok (.iload 4, 2) := by decide +kernel
theorem dX13_chosen_15 : decode cX13_chosen 15 = .ok (.isub, 1) := by decide +kernel
theorem dX13_chosen_16 : decode cX13_chosen 16 = .ok (.i2l, 1) := by decide +kernel
theorem dX13_chosen_17 : decode cX13_chosen 17 = .ok (.lmul, 1) := by decide +kernel
theorem dX13_chosen_18 : decode cX13_chosen 18 = .ok (.iload 4, 2) := by decide +kernel
theorem dX13_chosen_20 : decode cX13_chosen 20 = .ok (.iconst 1, 1) := by decide +kernel
theorem dX13_chosen_21 : decode cX13_chosen 21 = .ok (.iadd, 1) := by decide +kernel
theorem dX13_chosen_22 : decode cX13_chosen 22 = .ok (.i2l, 1) := by decide +kernel
theorem dX13_chosen_23 : decode cX13_chosen 23 = .ok (.ldiv, 1) := by decide +kernel
theorem dX13_chosen_24 : decode cX13_chosen 24 = .ok (.lstore_n 2, 1) := by decide +kernel
theorem dX13_chosen_25 : decode cX13_chosen 25 = .ok (.iinc 4 1, 3) := by decide +kernel
theorem dX13_chosen_28 : decode cX13_chosen 28 = .ok (.goto (-23), 3) := by decide +kernel
theorem dX13_chosen_31 : decode cX13_chosen 31 = .ok (.lload_n 2, 1) := by decide +kernel
theorem dX13_chosen_32 : decode cX13_chosen 32 = .ok (.lreturn, 1) := by decide +kernel
theorem dX13_laysWays_0 : decode cX13_laysWays 0 = .ok (.bipush 14, 2) := by decide +kernel
theorem dX13_laysWays_2 : decode cX13_laysWays 2 = .ok (.istore_n 3, 1) := by decide +kernel
theorem dX13_laysWays_3 : decode cX13_laysWays 3 = .ok (.iconst 0, 1) := by decide +kernel
theorem dX13_laysWays_4 : decode cX13_laysWays 4 = .ok (.istore 4, 2) := by decide +kernel
theorem dX13_laysWays_6 : decode cX13_laysWays 6 = .ok (.iload 4, 2) := by decide +kernel
theorem dX13_laysWays_8 : decode cX13_laysWays 8 = .ok (.iload_n 3, 1) := by decide +kernel
theorem dX13_laysWays_9 : decode cX13_laysWays 9 = .ok (.iload_n 3, 1) := by decide +kernel
theorem dX13_laysWays_10 : decode cX13_laysWays 10 = .ok (.imul, 1) := by decide +kernel
theorem dX13_laysWays_11 : decode cX13_laysWays 11 = .ok (.if_icmp .ge 17, 3) := by decide +kernel
theorem dX13_laysWays_14 : decode cX13_laysWays 14 = .ok (.aload_n 0, 1) := by decide +kernel
theorem dX13_laysWays_15 : decode cX13_laysWays 15 = .ok (.getfield 43, 3) := by decide +kernel
theorem dX13_laysWays_18 : decode cX13_laysWays 18 = .ok (.iload 4, 2) := by decide +kernel
theorem dX13_laysWays_20 : decode cX13_laysWays 20 = .ok (.lconst 0, 1) := by decide +kernel
theorem dX13_laysWays_21 : decode cX13_laysWays 21 = .ok (.lastore, 1) := by decide +kernel
theorem dX13_laysWays_22 : decode cX13_laysWays 22 = .ok (.iinc 4 1, 3) := by decide +kernel
theorem dX13_laysWays_25 : decode cX13_laysWays 25 = .ok (.goto (-19), 3) := by decide +kernel
theorem dX13_laysWays_28 : decode cX13_laysWays 28 = .ok (.aload_n 0, 1) := by decide +kernel
theorem dX13_laysWays_29 : decode cX13_laysWays 29 = .ok (.getfield 43, 3) := by decide +kernel
theorem dX13_laysWays_32 : decode cX13_laysWays 32 = .ok (.iconst 0, 1) := by decide +kernel
theorem dX13_laysWays_33 : decode cX13_laysWays 33 = .ok (.lconst 1, 1) := by decide +kernel
theorem dX13_laysWays_34 : decode cX13_laysWays 34 = .ok (.lastore, 1) := by decide +kernel
theorem dX13_laysWays_35 : decode cX13_laysWays 35 = .ok (.iconst 1, 1) := by decide +kernel
theorem dX13_laysWays_36 : decode cX13_laysWays 36 = .ok (.istore 4, 2) := by decide +kernel
theorem dX13_laysWays_38 : decode cX13_laysWays 38 = .ok (.iload 4, 2) := by decide +kernel
theorem dX13_laysWays_40 : decode cX13_laysWays 40 = .ok (.iload_n 1, 1) := by decide +kernel
theorem dX13_laysWays_41 : decode cX13_laysWays 41 = .ok (.if_icmp .gt 118, 3) := by decide +kernel
theorem dX13_laysWays_44 : decode cX13_laysWays 44 = .ok (.lconst 1, 1) := by decide +kernel
theorem dX13_laysWays_45 : decode cX13_laysWays 45 = .ok (.lstore 5, 2) := by decide +kernel
theorem dX13_laysWays_47 : decode cX13_laysWays 47 = .ok (.iconst 2, 1) := by decide +kernel
theorem dX13_laysWays_48 : decode cX13_laysWays 48 = .ok (.istore 7, 2) := by decide +kernel
theorem dX13_laysWays_50 : decode cX13_laysWays 50 = .ok (.iload 7, 2) := by decide +kernel
theorem dX13_laysWays_52 : decode cX13_laysWays 52 = .ok (.iload 4, 2) := by decide +kernel
theorem dX13_laysWays_54 : decode cX13_laysWays 54 = .ok (.if_icmp .gt 99, 3) := by decide +kernel
theorem dX13_laysWays_57 : decode cX13_laysWays 57 = .ok (.lload 5, 2) := by decide +kernel
theorem dX13_laysWays_59 : decode cX13_laysWays 59 = .ok (.ldc2_w 536, 3) := by decide +kernel
theorem dX13_laysWays_62 : decode cX13_laysWays 62 = .ok (.iload 7, 2) := by decide +kernel
theorem dX13_laysWays_64 : decode cX13_laysWays 64 = .ok (.iconst 1, 1) := by decide +kernel
theorem dX13_laysWays_65 : decode cX13_laysWays 65 = .ok (.isub, 1) := by decide +kernel
theorem dX13_laysWays_66 : decode cX13_laysWays 66 = .ok (.i2l, 1) := by decide +kernel
theorem dX13_laysWays_67 : decode cX13_laysWays 67 = .ok (.lmul, 1) := by decide +kernel
theorem dX13_laysWays_68 : decode cX13_laysWays 68 = .ok (.lmul, 1) := by decide +kernel
theorem dX13_laysWays_69 : decode cX13_laysWays 69 = .ok (.lstore 5, 2) := by decide +kernel
theorem dX13_laysWays_71 : decode cX13_laysWays 71 = .ok (.iload_n 2, 1) := by decide +kernel
theorem dX13_laysWays_72 : decode cX13_laysWays 72 = .ok (.ifCond .eq 12, 3) := by decide +kernel
theorem dX13_laysWays_75 : decode cX13_laysWays 75 = .ok (.iload 7, 2) := by decide +kernel
theorem dX13_laysWays_77 : decode cX13_laysWays 77 = .ok (.iconst 2, 1) := by decide +kernel
theorem dX13_laysWays_78 : decode cX13_laysWays 78 = .ok (.if_icmp .ne 6, 3) := by decide +kernel
theorem dX13_laysWays_81 : decode cX13_laysWays 81 = .ok (.goto 66, 3) := by decide +kernel
theorem dX13_laysWays_84 : decode cX13_laysWays 84 = .ok (.iconst 1, 1) := by decide +kernel
theorem dX13_laysWays_85 : decode cX13_laysWays 85 = .ok (.istore 8, 2) := by decide +kernel
theorem dX13_laysWays_87 : decode cX13_laysWays 87 = .ok (.iload 8, 2) := by decide +kernel
theorem dX13_laysWays_89 : decode cX13_laysWays 89 = .ok (.iload 4, 2) := by decide +kernel
theorem dX13_laysWays_91 : decode cX13_laysWays 91 = .ok (.if_icmp .gt 56, 3) := by decide +kernel
theorem dX13_laysWays_94 : decode cX13_laysWays 94 = .ok (.aload_n 0, 1) := by decide +kernel
theorem dX13_laysWays_95 : decode cX13_laysWays 95 = .ok (.getfield 43, 3) := by decide +kernel
theorem dX13_laysWays_98 : decode cX13_laysWays 98 = .ok (.iload_n 3, 1) := by decide +kernel
theorem dX13_laysWays_99 : decode cX13_laysWays 99 = .ok (.iload 4, 2) := by decide +kernel
theorem dX13_laysWays_101 : decode cX13_laysWays 101 = .ok (.imul, 1) := by decide +kernel
theorem dX13_laysWays_102 : decode cX13_laysWays 102 = .ok (.iload 8, 2) := by decide +kernel
theorem dX13_laysWays_104 : decode cX13_laysWays 104 = .ok (.iadd, 1) := by decide +kernel
theorem dX13_laysWays_105 : decode cX13_laysWays 105 = .ok (.dup2, 1) := by decide +kernel
theorem dX13_laysWays_106 : decode cX13_laysWays 106 = .ok (.laload, 1) := by decide +kernel
theorem dX13_laysWays_107 : decode cX13_laysWays 107 = .ok (.iload 4, 2) := by decide +kernel
theorem dX13_laysWays_109 : decode cX13_laysWays 109 = .ok (.iconst 1, 1) := by decide +kernel
theorem dX13_laysWays_110 : decode cX13_laysWays 110 = .ok (.isub, 1) := by decide +kernel
theorem dX13_laysWays_111 : decode cX13_laysWays 111 = .ok (.iload 7, 2) := by decide +kernel
theorem dX13_laysWays_113 : decode cX13_laysWays 113 = .ok (.iconst 1, 1) := by decide +kernel
theorem dX13_laysWays_114 : decode cX13_laysWays 114 = .ok (.isub, 1) := by decide +kernel
theorem dX13_laysWays_115 : decode cX13_laysWays 115 = .ok (.invokestatic 538, 3) := by decide +kernel
theorem dX13_laysWays_118 : decode cX13_laysWays 118 = .ok (.lload 5, 2) := by decide +kernel
theorem dX13_laysWays_120 : decode cX13_laysWays 120 = .ok (.lmul, 1) := by decide +kernel
theorem dX13_laysWays_121 : decode cX13_laysWays 121 = .ok (.aload_n 0, 1) := by decide +kernel
theorem dX13_laysWays_122 : decode cX13_laysWays 122 = .ok (.getfield 43, 3) := by decide +kernel
theorem dX13_laysWays_125 : decode cX13_laysWays 125 = .ok (.iload_n 3, 1) := by decide +kernel
theorem dX13_laysWays_126 : decode cX13_laysWays 126 = .ok (.iload 4, 2) := by decide +kernel
theorem dX13_laysWays_128 : decode cX13_laysWays 128 = .ok (.iload 7, 2) := by decide +kernel
theorem dX13_laysWays_130 : decode cX13_laysWays 130 = .ok (.isub, 1) := by decide +kernel
theorem dX13_laysWays_131 : decode cX13_laysWays 131 = .ok (.imul, 1) := by decide +kernel
theorem dX13_laysWays_132 : decode cX13_laysWays 132 = .ok (.iload 8, 2) := by decide +kernel
theorem dX13_laysWays_134 : decode cX13_laysWays 134 = .ok (.iadd, 1) := by decide +kernel
theorem dX13_laysWays_135 : decode cX13_laysWays 135 = .ok (.iconst 1, 1) := by decide +kernel
theorem dX13_laysWays_136 : decode cX13_laysWays 136 = .ok (.isub, 1) := by decide +kernel
theorem dX13_laysWays_137 : decode cX13_laysWays 137 = .ok (.laload, 1) := by decide +kernel
theorem dX13_laysWays_138 : decode cX13_laysWays 138 = .ok (.lmul, 1) := by decide +kernel
theorem dX13_laysWays_139 : decode cX13_laysWays 139 = .ok (.ladd, 1) := by decide +kernel
theorem dX13_laysWays_140 : decode cX13_laysWays 140 = .ok (.lastore, 1) := by decide +kernel
theorem dX13_laysWays_141 : decode cX13_laysWays 141 = .ok (.iinc 8 1, 3) := by decide +kernel
theorem dX13_laysWays_144 : decode cX13_laysWays 144 = .ok (.goto (-57), 3) := by decide +kernel
theorem dX13_laysWays_147 : decode cX13_laysWays 147 = .ok (.iinc 7 1, 3) := by decide +kernel
theorem dX13_laysWays_150 : decode cX13_laysWays 150 = .ok (.goto (-100), 3) := by decide +kernel
theorem dX13_laysWays_153 : decode cX13_laysWays 153 = .ok (.iinc 4 1, 3) := by decide +kernel
theorem dX13_laysWays_156 : decode cX13_laysWays 156 = .ok (.goto (-118), 3) := by decide +kernel
theorem dX13_laysWays_159 : decode cX13_laysWays 159 = .ok (.return_, 1) := by decide +kernel
theorem dX13_waysNow_0 : decode cX13_waysNow 0 = .ok (.aload_n 0, 1) := by decide +kernel
theorem dX13_waysNow_1 : decode cX13_waysNow 1 = .ok (.getfield 43, 3) := by decide +kernel
theorem dX13_waysNow_4 : decode cX13_waysNow 4 = .ok (.bipush 14, 2) := by decide +kernel
theorem dX13_waysNow_6 : decode cX13_waysNow 6 = .ok (.iload_n 1, 1) := by decide +kernel
theorem dX13_waysNow_7 : decode cX13_waysNow 7 = .ok (.imul, 1) := by decide +kernel
theorem dX13_waysNow_8 : decode cX13_waysNow 8 = .ok (.iload_n 2, 1) := by decide +kernel
theorem dX13_waysNow_9 : decode cX13_waysNow 9 = .ok (.iadd, 1) := by decide +kernel
theorem dX13_waysNow_10 : decode cX13_waysNow 10 = .ok (.laload, 1) := by decide +kernel
theorem dX13_waysNow_11 : decode cX13_waysNow 11 = .ok (.lreturn, 1) := by decide +kernel
theorem dX13_ways_0 : decode cX13_ways 0 = .ok (.aload_n 0, 1) := by decide +kernel
theorem dX13_ways_1 : decode cX13_ways 1 = .ok (.iconst 0, 1) := by decide +kernel
theorem dX13_ways_2 : decode cX13_ways 2 = .ok (.putfield 70, 3) := by decide +kernel
theorem dX13_ways_5 : decode cX13_ways 5 = .ok (.iload_n 1, 1) := by decide +kernel
theorem dX13_ways_6 : decode cX13_ways 6 = .ok (.iconst 2, 1) := by decide +kernel
theorem dX13_ways_7 : decode cX13_ways 7 = .ok (.bipush 13, 2) := by decide +kernel
theorem dX13_ways_9 : decode cX13_ways 9 = .ok (.invokestatic 145, 3) := by decide +kernel
theorem dX13_ways_12 : decode cX13_ways 12 = .ok (.ifCond .eq 13, 3) := by decide +kernel
theorem dX13_ways_15 : decode cX13_ways 15 = .ok (.iload_n 2, 1) := by decide +kernel
theorem dX13_ways_16 : decode cX13_ways 16 = .ok (.iconst 0, 1) := by decide +kernel
theorem dX13_ways_17 : decode cX13_ways 17 = .ok (.bipush 13, 2) := by decide +kernel
theorem dX13_ways_19 : decode cX13_ways 19 = .ok (.invokestatic 145, 3) := by decide +kernel
theorem dX13_ways_22 : decode cX13_ways 22 = .ok (.ifCond .ne 10, 3) := by decide +kernel
theorem dX13_ways_25 : decode cX13_ways 25 = .ok (.aload_n 0, 1) := by decide +kernel
theorem dX13_ways_26 : decode cX13_ways 26 = .ok (.iconst 2, 1) := by decide +kernel
theorem dX13_ways_27 : decode cX13_ways 27 = .ok (.invokevirtual 76, 3) := by decide +kernel
theorem dX13_ways_30 : decode cX13_ways 30 = .ok (.i2l, 1) := by decide +kernel
theorem dX13_ways_31 : decode cX13_ways 31 = .ok (.lreturn, 1) := by decide +kernel
theorem dX13_ways_32 : decode cX13_ways 32 = .ok (.aload_n 0, 1) := by decide +kernel
theorem dX13_ways_33 : decode cX13_ways 33 = .ok (.iload_n 1, 1) := by decide +kernel
theorem dX13_ways_34 : decode cX13_ways 34 = .ok (.iload_n 3, 1) := by decide +kernel
theorem dX13_ways_35 : decode cX13_ways 35 = .ok (.invokevirtual 542, 3) := by decide +kernel
theorem dX13_ways_38 : decode cX13_ways 38 = .ok (.aload_n 0, 1) := by decide +kernel
theorem dX13_ways_39 : decode cX13_ways 39 = .ok (.iconst 0, 1) := by decide +kernel
theorem dX13_ways_40 : decode cX13_ways 40 = .ok (.invokevirtual 80, 3) := by decide +kernel
theorem dX13_ways_43 : decode cX13_ways 43 = .ok (.pop, 1) := by decide +kernel
theorem dX13_ways_44 : decode cX13_ways 44 = .ok (.aload_n 0, 1) := by decide +kernel
theorem dX13_ways_45 : decode cX13_ways 45 = .ok (.iload_n 1, 1) := by decide +kernel
theorem dX13_ways_46 : decode cX13_ways 46 = .ok (.iload_n 2, 1) := by decide +kernel
theorem dX13_ways_47 : decode cX13_ways 47 = .ok (.invokevirtual 545, 3) := by decide +kernel
theorem dX13_ways_50 : decode cX13_ways 50 = .ok (.lreturn, 1) := by decide +kernel
theorem dX13_told_0 : decode cX13_told 0 = .ok (.lload_n 3, 1) := by decide +kernel
theorem dX13_told_1 : decode cX13_told 1 = .ok (.lconst 0, 1) := by decide +kernel
theorem dX13_told_2 : decode cX13_told 2 = .ok (.lcmp, 1) := by decide +kernel
theorem dX13_told_3 : decode cX13_told 3 = .ok (.ifCond .ne 11, 3) := by decide +kernel
theorem dX13_told_6 : decode cX13_told 6 = .ok (.aload_n 0, 1) := by decide +kernel
theorem dX13_told_7 : decode cX13_told 7 = .ok (.bipush 6, 2) := by decide +kernel
theorem dX13_told_9 : decode cX13_told 9 = .ok (.invokevirtual 76, 3) := by decide +kernel
theorem dX13_told_12 : decode cX13_told 12 = .ok (.i2l, 1) := by decide +kernel
theorem dX13_told_13 : decode cX13_told 13 = .ok (.lreturn, 1) := by decide +kernel
theorem dX13_told_14 : decode cX13_told 14 = .ok (.aload_n 0, 1) := by decide +kernel
theorem dX13_told_15 : decode cX13_told 15 = .ok (.iconst 0, 1) := by decide +kernel
theorem dX13_told_16 : decode cX13_told 16 = .ok (.invokevirtual 80, 3) := by decide +kernel
theorem dX13_told_19 : decode cX13_told 19 = .ok (.pop, 1) := by decide +kernel
theorem dX13_told_20 : decode cX13_told 20 = .ok (.lload_n 1, 1) := by decide +kernel
theorem dX13_told_21 : decode cX13_told 21 = .ok (.lstore 6, 2) := by decide +kernel
theorem dX13_told_23 : decode cX13_told 23 = .ok (.lload_n 3, 1) := by decide +kernel
theorem dX13_told_24 : decode cX13_told 24 = .ok (.lstore 8, 2) := by decide +kernel
theorem dX13_told_26 : decode cX13_told 26 = .ok (.lload 8, 2) := by decide +kernel
theorem dX13_told_28 : decode cX13_told 28 = .ok (.lconst 0, 1) := by decide +kernel
theorem dX13_told_29 : decode cX13_told 29 = .ok (.lcmp, 1) := by decide +kernel
theorem dX13_told_30 : decode cX13_told 30 = .ok (.ifCond .eq 21, 3) := by decide +kernel
theorem dX13_told_33 : decode cX13_told 33 = .ok (.lload 6, 2) := by decide +kernel
theorem dX13_told_35 : decode cX13_told 35 = .ok (.lload 8, 2) := by decide +kernel
theorem dX13_told_37 : decode cX13_told 37 = .ok (.lrem, 1) := by decide +kernel
theorem dX13_told_38 : decode cX13_told 38 = .ok (.lstore 10, 2) := by decide +kernel
theorem dX13_told_40 : decode cX13_told 40 = .ok (.lload 8, 2) := by decide +kernel
theorem dX13_told_42 : decode cX13_told 42 = .ok (.lstore 6, 2) := by decide +kernel
theorem dX13_told_44 : decode cX13_told 44 = .ok (.lload 10, 2) := by decide +kernel
theorem dX13_told_46 : decode cX13_told 46 = .ok (.lstore 8, 2) := by decide +kernel
theorem dX13_told_48 : decode cX13_told 48 = .ok (.goto (-22), 3) := by decide +kernel
theorem dX13_told_51 : decode cX13_told 51 = .ok (.iload 5, 2) := by decide +kernel
theorem dX13_told_53 : decode cX13_told 53 = .ok (.ifCond .eq 7, 3) := by decide +kernel
theorem dX13_told_56 : decode cX13_told 56 = .ok (.lload_n 3, 1) := by decide +kernel
theorem dX13_told_57 : decode cX13_told 57 = .ok (.goto 4, 3) := by decide +kernel
theorem dX13_told_60 : decode cX13_told 60 = .ok (.lload_n 1, 1) := by decide +kernel
theorem dX13_told_61 : decode cX13_told 61 = .ok (.lload 6, 2) := by decide +kernel
theorem dX13_told_63 : decode cX13_told 63 = .ok (.ldiv, 1) := by decide +kernel
theorem dX13_told_64 : decode cX13_told 64 = .ok (.lreturn, 1) := by decide +kernel
theorem dX13_allWays_0 : decode cX13_allWays 0 = .ok (.lconst 0, 1) := by decide +kernel
theorem dX13_allWays_1 : decode cX13_allWays 1 = .ok (.lstore_n 2, 1) := by decide +kernel
theorem dX13_allWays_2 : decode cX13_allWays 2 = .ok (.iconst 0, 1) := by decide +kernel
theorem dX13_allWays_3 : decode cX13_allWays 3 = .ok (.istore 4, 2) := by decide +kernel
theorem dX13_allWays_5 : decode cX13_allWays 5 = .ok (.iload 4, 2) := by decide +kernel
theorem dX13_allWays_7 : decode cX13_allWays 7 = .ok (.iload_n 1, 1) := by decide +kernel
theorem dX13_allWays_8 : decode cX13_allWays 8 = .ok (.if_icmp .gt 19, 3) := by decide +kernel
theorem dX13_allWays_11 : decode cX13_allWays 11 = .ok (.lload_n 2, 1) := by decide +kernel
theorem dX13_allWays_12 : decode cX13_allWays 12 = .ok (.aload_n 0, 1) := by decide +kernel
theorem dX13_allWays_13 : decode cX13_allWays 13 = .ok (.iload_n 1, 1) := by decide +kernel
theorem dX13_allWays_14 : decode cX13_allWays 14 = .ok (.iload 4, 2) := by decide +kernel
theorem dX13_allWays_16 : decode cX13_allWays 16 = .ok (.invokevirtual 545, 3) := by decide +kernel
theorem dX13_allWays_19 : decode cX13_allWays 19 = .ok (.ladd, 1) := by decide +kernel
theorem dX13_allWays_20 : decode cX13_allWays 20 = .ok (.lstore_n 2, 1) := by decide +kernel
theorem dX13_allWays_21 : decode cX13_allWays 21 = .ok (.iinc 4 1, 3) := by decide +kernel
theorem dX13_allWays_24 : decode cX13_allWays 24 = .ok (.goto (-19), 3) := by decide +kernel
theorem dX13_allWays_27 : decode cX13_allWays 27 = .ok (.lload_n 2, 1) := by decide +kernel
theorem dX13_allWays_28 : decode cX13_allWays 28 = .ok (.lreturn, 1) := by decide +kernel
theorem dX13_odds_0 : decode cX13_odds 0 = .ok (.aload_n 0, 1) := by decide +kernel
theorem dX13_odds_1 : decode cX13_odds 1 = .ok (.iconst 0, 1) := by decide +kernel
theorem dX13_odds_2 : decode cX13_odds 2 = .ok (.putfield 70, 3) := by decide +kernel
theorem dX13_odds_5 : decode cX13_odds 5 = .ok (.iload_n 1, 1) := by decide +kernel
theorem dX13_odds_6 : decode cX13_odds 6 = .ok (.iconst 2, 1) := by decide +kernel
theorem dX13_odds_7 : decode cX13_odds 7 = .ok (.bipush 13, 2) := by decide +kernel
theorem dX13_odds_9 : decode cX13_odds 9 = .ok (.invokestatic 145, 3) := by decide +kernel
theorem dX13_odds_12 : decode cX13_odds 12 = .ok (.ifCond .eq 13, 3) := by decide +kernel
theorem dX13_odds_15 : decode cX13_odds 15 = .ok (.iload_n 2, 1) := by decide +kernel
theorem dX13_odds_16 : decode cX13_odds 16 = .ok (.iconst 0, 1) := by decide +kernel
theorem dX13_odds_17 : decode cX13_odds 17 = .ok (.bipush 13, 2) := by decide +kernel
theorem dX13_odds_19 : decode cX13_odds 19 = .ok (.invokestatic 145, 3) := by decide +kernel
theorem dX13_odds_22 : decode cX13_odds 22 = .ok (.ifCond .ne 10, 3) := by decide +kernel
theorem dX13_odds_25 : decode cX13_odds 25 = .ok (.aload_n 0, 1) := by decide +kernel
theorem dX13_odds_26 : decode cX13_odds 26 = .ok (.iconst 2, 1) := by decide +kernel
theorem dX13_odds_27 : decode cX13_odds 27 = .ok (.invokevirtual 76, 3) := by decide +kernel
theorem dX13_odds_30 : decode cX13_odds 30 = .ok (.i2l, 1) := by decide +kernel
theorem dX13_odds_31 : decode cX13_odds 31 = .ok (.lreturn, 1) := by decide +kernel
theorem dX13_odds_32 : decode cX13_odds 32 = .ok (.aload_n 0, 1) := by decide +kernel
theorem dX13_odds_33 : decode cX13_odds 33 = .ok (.iload_n 1, 1) := by decide +kernel
theorem dX13_odds_34 : decode cX13_odds 34 = .ok (.iload_n 3, 1) := by decide +kernel
theorem dX13_odds_35 : decode cX13_odds 35 = .ok (.invokevirtual 542, 3) := by decide +kernel
theorem dX13_odds_38 : decode cX13_odds 38 = .ok (.aload_n 0, 1) := by decide +kernel
theorem dX13_odds_39 : decode cX13_odds 39 = .ok (.aload_n 0, 1) := by decide +kernel
theorem dX13_odds_40 : decode cX13_odds 40 = .ok (.iload_n 1, 1) := by decide +kernel
theorem dX13_odds_41 : decode cX13_odds 41 = .ok (.iload_n 2, 1) := by decide +kernel
theorem dX13_odds_42 : decode cX13_odds 42 = .ok (.invokevirtual 545, 3) := by decide +kernel
theorem dX13_odds_45 : decode cX13_odds 45 = .ok (.aload_n 0, 1) := by decide +kernel
theorem dX13_odds_46 : decode cX13_odds 46 = .ok (.iload_n 1, 1) := by decide +kernel
theorem dX13_odds_47 : decode cX13_odds 47 = .ok (.invokevirtual 548, 3) := by decide +kernel
theorem dX13_odds_50 : decode cX13_odds 50 = .ok (.iload 4, 2) := by decide +kernel
theorem dX13_odds_52 : decode cX13_odds 52 = .ok (.invokevirtual 552, 3) := by decide +kernel
theorem dX13_odds_55 : decode cX13_odds 55 = .ok (.lreturn, 1) := by decide +kernel
theorem dX13_mean_0 : decode cX13_mean 0 = .ok (.aload_n 0, 1) := by decide +kernel
theorem dX13_mean_1 : decode cX13_mean 1 = .ok (.iconst 0, 1) := by decide +kernel
theorem dX13_mean_2 : decode cX13_mean 2 = .ok (.putfield 70, 3) := by decide +kernel
theorem dX13_mean_5 : decode cX13_mean 5 = .ok (.iload_n 1, 1) := by decide +kernel
theorem dX13_mean_6 : decode cX13_mean 6 = .ok (.iconst 2, 1) := by decide +kernel
theorem dX13_mean_7 : decode cX13_mean 7 = .ok (.bipush 13, 2) := by decide +kernel
theorem dX13_mean_9 : decode cX13_mean 9 = .ok (.invokestatic 145, 3) := by decide +kernel
theorem dX13_mean_12 : decode cX13_mean 12 = .ok (.ifCond .ne 10, 3) := by decide +kernel
theorem dX13_mean_15 : decode cX13_mean 15 = .ok (.aload_n 0, 1) := by decide +kernel
theorem dX13_mean_16 : decode cX13_mean 16 = .ok (.iconst 2, 1) := by decide +kernel
theorem dX13_mean_17 : decode cX13_mean 17 = .ok (.invokevirtual 76, 3) := by decide +kernel
theorem dX13_mean_20 : decode cX13_mean 20 = .ok (.i2l, 1) := by decide +kernel
theorem dX13_mean_21 : decode cX13_mean 21 = .ok (.lreturn, 1) := by decide +kernel
theorem dX13_mean_22 : decode cX13_mean 22 = .ok (.aload_n 0, 1) := by decide +kernel
theorem dX13_mean_23 : decode cX13_mean 23 = .ok (.iload_n 1, 1) := by decide +kernel
theorem dX13_mean_24 : decode cX13_mean 24 = .ok (.iload_n 2, 1) := by decide +kernel
theorem dX13_mean_25 : decode cX13_mean 25 = .ok (.invokevirtual 542, 3) := by decide +kernel
theorem dX13_mean_28 : decode cX13_mean 28 = .ok (.lconst 0, 1) := by decide +kernel
theorem dX13_mean_29 : decode cX13_mean 29 = .ok (.lstore 4, 2) := by decide +kernel
theorem dX13_mean_31 : decode cX13_mean 31 = .ok (.iconst 0, 1) := by decide +kernel
theorem dX13_mean_32 : decode cX13_mean 32 = .ok (.istore 6, 2) := by decide +kernel
theorem dX13_mean_34 : decode cX13_mean 34 = .ok (.iload 6, 2) := by decide +kernel
theorem dX13_mean_36 : decode cX13_mean 36 = .ok (.iload_n 1, 1) := by decide +kernel
theorem dX13_mean_37 : decode cX13_mean 37 = .ok (.if_icmp .gt 25, 3) := by decide +kernel
theorem dX13_mean_40 : decode cX13_mean 40 = .ok (.lload 4, 2) := by decide +kernel
theorem dX13_mean_42 : decode cX13_mean 42 = .ok (.iload 6, 2) := by decide +kernel
theorem dX13_mean_44 : decode cX13_mean 44 = .ok (.i2l, 1) := by decide +kernel
theorem dX13_mean_45 : decode cX13_mean 45 = .ok (.aload_n 0, 1) := by decide +kernel
theorem dX13_mean_46 : decode cX13_mean 46 = .ok (.iload_n 1, 1) := by decide +kernel
theorem dX13_mean_47 : decode cX13_mean 47 = .ok (.iload 6, 2) := by decide +kernel
theorem dX13_mean_49 : decode cX13_mean 49 = .ok (.invokevirtual 545, 3) := by decide +kernel
theorem dX13_mean_52 : decode cX13_mean 52 = .ok (.lmul, 1) := by decide +kernel
theorem dX13_mean_53 : decode cX13_mean 53 = .ok (.ladd, 1) := by decide +kernel
theorem dX13_mean_54 : decode cX13_mean 54 = .ok (.lstore 4, 2) := by decide +kernel
theorem dX13_mean_56 : decode cX13_mean 56 = .ok (.iinc 6 1, 3) := by decide +kernel
theorem dX13_mean_59 : decode cX13_mean 59 = .ok (.goto (-25), 3) := by decide +kernel
theorem dX13_mean_62 : decode cX13_mean 62 = .ok (.aload_n 0, 1) := by decide +kernel
theorem dX13_mean_63 : decode cX13_mean 63 = .ok (.lload 4, 2) := by decide +kernel
theorem dX13_mean_65 : decode cX13_mean 65 = .ok (.aload_n 0, 1) := by decide +kernel
theorem dX13_mean_66 : decode cX13_mean 66 = .ok (.iload_n 1, 1) := by decide +kernel
theorem dX13_mean_67 : decode cX13_mean 67 = .ok (.invokevirtual 548, 3) := by decide +kernel
theorem dX13_mean_70 : decode cX13_mean 70 = .ok (.iload_n 3, 1) := by decide +kernel
theorem dX13_mean_71 : decode cX13_mean 71 = .ok (.invokevirtual 552, 3) := by decide +kernel
theorem dX13_mean_74 : decode cX13_mean 74 = .ok (.lreturn, 1) := by decide +kernel
theorem dX13_keeps_0 : decode cX13_keeps 0 = .ok (.aload_n 0, 1) := by decide +kernel
theorem dX13_keeps_1 : decode cX13_keeps 1 = .ok (.getfield 330, 3) := by decide +kernel
theorem dX13_keeps_4 : decode cX13_keeps 4 = .ok (.bipush 16, 2) := by decide +kernel
theorem dX13_keeps_6 : decode cX13_keeps 6 = .ok (.if_icmp .ne 85, 3) := by decide +kernel
theorem dX13_keeps_9 : decode cX13_keeps 9 = .ok (.iconst 0, 1) := by decide +kernel
theorem dX13_keeps_10 : decode cX13_keeps 10 = .ok (.istore_n 1, 1) := by decide +kernel
theorem dX13_keeps_11 : decode cX13_keeps 11 = .ok (.iload_n 1, 1) := by decide +kernel
theorem dX13_keeps_12 : decode cX13_keeps 12 = .ok (.iconst 1, 1) := by decide +kernel
theorem dX13_keeps_13 : decode cX13_keeps 13 = .ok (.iadd, 1) := by decide +kernel
theorem dX13_keeps_14 : decode cX13_keeps 14 = .ok (.bipush 16, 2) := by decide +kernel
theorem dX13_keeps_16 : decode cX13_keeps 16 = .ok (.if_icmp .ge 65, 3) := by decide +kernel
theorem dX13_keeps_19 : decode cX13_keeps 19 = .ok (.aload_n 0, 1) := by decide +kernel
theorem dX13_keeps_20 : decode cX13_keeps 20 = .ok (.getfield 46, 3) := by decide +kernel
theorem dX13_keeps_23 : decode cX13_keeps 23 = .ok (.iload_n 1, 1) := by decide +kernel
theorem dX13_keeps_24 : decode cX13_keeps 24 = .ok (.aload_n 0, 1) := by decide +kernel
theorem dX13_keeps_25 : decode cX13_keeps 25 = .ok (.getfield 46, 3) := by decide +kernel
theorem dX13_keeps_28 : decode cX13_keeps 28 = .ok (.iload_n 1, 1) := by decide +kernel
theorem dX13_keeps_29 : decode cX13_keeps 29 = .ok (.iconst 1, 1) := by decide +kernel
theorem dX13_keeps_30 : decode cX13_keeps 30 = .ok (.iadd, 1) := by decide +kernel
theorem dX13_keeps_31 : decode cX13_keeps 31 = .ok (.laload, 1) := by decide +kernel
theorem dX13_keeps_32 : decode cX13_keeps 32 = .ok (.lastore, 1) := by decide +kernel
theorem dX13_keeps_33 : decode cX13_keeps 33 = .ok (.aload_n 0, 1) := by decide +kernel
theorem dX13_keeps_34 : decode cX13_keeps 34 = .ok (.getfield 52, 3) := by decide +kernel
theorem dX13_keeps_37 : decode cX13_keeps 37 = .ok (.iload_n 1, 1) := by decide +kernel
theorem dX13_keeps_38 : decode cX13_keeps 38 = .ok (.aload_n 0, 1) := by decide +kernel
theorem dX13_keeps_39 : decode cX13_keeps 39 = .ok (.getfield 52, 3) := by decide +kernel
theorem dX13_keeps_42 : decode cX13_keeps 42 = .ok (.iload_n 1, 1) := by decide +kernel
theorem dX13_keeps_43 : decode cX13_keeps 43 = .ok (.iconst 1, 1) := by decide +kernel
theorem dX13_keeps_44 : decode cX13_keeps 44 = .ok (.iadd, 1) := by decide +kernel
theorem dX13_keeps_45 : decode cX13_keeps 45 = .ok (.iaload, 1) := by decide +kernel
theorem dX13_keeps_46 : decode cX13_keeps 46 = .ok (.iastore, 1) := by decide +kernel
theorem dX13_keeps_47 : decode cX13_keeps 47 = .ok (.aload_n 0, 1) := by decide +kernel
theorem dX13_keeps_48 : decode cX13_keeps 48 = .ok (.getfield 55, 3) := by decide +kernel
theorem dX13_keeps_51 : decode cX13_keeps 51 = .ok (.iload_n 1, 1) := by decide +kernel
theorem dX13_keeps_52 : decode cX13_keeps 52 = .ok (.aload_n 0, 1) := by decide +kernel
theorem dX13_keeps_53 : decode cX13_keeps 53 = .ok (.getfield 55, 3) := by decide +kernel
theorem dX13_keeps_56 : decode cX13_keeps 56 = .ok (.iload_n 1, 1) := by decide +kernel
theorem dX13_keeps_57 : decode cX13_keeps 57 = .ok (.iconst 1, 1) := by decide +kernel
theorem dX13_keeps_58 : decode cX13_keeps 58 = .ok (.iadd, 1) := by decide +kernel
theorem dX13_keeps_59 : decode cX13_keeps 59 = .ok (.iaload, 1) := by decide +kernel
theorem dX13_keeps_60 : decode cX13_keeps 60 = .ok (.iastore, 1) := by decide +kernel
theorem dX13_keeps_61 : decode cX13_keeps 61 = .ok (.aload_n 0, 1) := by decide +kernel
theorem dX13_keeps_62 : decode cX13_keeps 62 = .ok (.getfield 58, 3) := by decide +kernel
theorem dX13_keeps_65 : decode cX13_keeps 65 = .ok (.iload_n 1, 1) := by decide +kernel
theorem dX13_keeps_66 : decode cX13_keeps 66 = .ok (.aload_n 0, 1) := by decide +kernel
theorem dX13_keeps_67 : decode cX13_keeps 67 = .ok (.getfield 58, 3) := by decide +kernel
theorem dX13_keeps_70 : decode cX13_keeps 70 = .ok (.iload_n 1, 1) := by decide +kernel
theorem dX13_keeps_71 : decode cX13_keeps 71 = .ok (.iconst 1, 1) := by decide +kernel
theorem dX13_keeps_72 : decode cX13_keeps 72 = .ok (.iadd, 1) := by decide +kernel
theorem dX13_keeps_73 : decode cX13_keeps 73 = .ok (.iaload, 1) := by decide +kernel
theorem dX13_keeps_74 : decode cX13_keeps 74 = .ok (.iastore, 1) := by decide +kernel
theorem dX13_keeps_75 : decode cX13_keeps 75 = .ok (.iinc 1 1, 3) := by decide +kernel
theorem dX13_keeps_78 : decode cX13_keeps 78 = .ok (.goto (-67), 3) := by decide +kernel
theorem dX13_keeps_81 : decode cX13_keeps 81 = .ok (.aload_n 0, 1) := by decide +kernel
theorem dX13_keeps_82 : decode cX13_keeps 82 = .ok (.dup, 1) := by decide +kernel
theorem dX13_keeps_83 : decode cX13_keeps 83 = .ok (.getfield 330, 3) := by decide +kernel
theorem dX13_keeps_86 : decode cX13_keeps 86 = .ok (.iconst 1, 1) := by decide +kernel
theorem dX13_keeps_87 : decode cX13_keeps 87 = .ok (.isub, 1) := by decide +kernel
theorem dX13_keeps_88 : decode cX13_keeps 88 = .ok (.putfield 330, 3) := by decide +kernel
theorem dX13_keeps_91 : decode cX13_keeps 91 = .ok (.aload_n 0, 1) := by decide +kernel
theorem dX13_keeps_92 : decode cX13_keeps 92 = .ok (.getfield 46, 3) := by decide +kernel
theorem dX13_keeps_95 : decode cX13_keeps 95 = .ok (.aload_n 0, 1) := by decide +kernel
theorem dX13_keeps_96 : decode cX13_keeps 96 = .ok (.getfield 330, 3) := by decide +kernel
theorem dX13_keeps_99 : decode cX13_keeps 99 = .ok (.aload_n 0, 1) := by decide +kernel
theorem dX13_keeps_100 : decode cX13_keeps 100 = .ok (.getfield 318, 3) := by decide +kernel
theorem dX13_keeps_103 : decode cX13_keeps 103 = .ok (.lastore, 1) := by decide +kernel
theorem dX13_keeps_104 : decode cX13_keeps 104 = .ok (.aload_n 0, 1) := by decide +kernel
theorem dX13_keeps_105 : decode cX13_keeps 105 = .ok (.getfield 52, 3) := by decide +kernel
theorem dX13_keeps_108 : decode cX13_keeps 108 = .ok (.aload_n 0, 1) := by decide +kernel
theorem dX13_keeps_109 : decode cX13_keeps 109 = .ok (.getfield 330, 3) := by decide +kernel
theorem dX13_keeps_112 : decode cX13_keeps 112 = .ok (.aload_n 0, 1) := by decide +kernel
theorem dX13_keeps_113 : decode cX13_keeps 113 = .ok (.getfield 321, 3) := by decide +kernel
theorem dX13_keeps_116 : decode cX13_keeps 116 = .ok (.iastore, 1) := by decide +kernel
theorem dX13_keeps_117 : decode cX13_keeps 117 = .ok (.aload_n 0, 1) := by decide +kernel
theorem dX13_keeps_118 : decode cX13_keeps 118 = .ok (.getfield 55, 3) := by decide +kernel
theorem dX13_keeps_121 : decode cX13_keeps 121 = .ok (.aload_n 0, 1) := by decide +kernel
theorem dX13_keeps_122 : decode cX13_keeps 122 = .ok (.getfield 330, 3) := by decide +kernel
theorem dX13_keeps_125 : decode cX13_keeps 125 = .ok (.aload_n 0, 1) := by decide +kernel
theorem dX13_keeps_126 : decode cX13_keeps 126 = .ok (.getfield 327, 3) := by decide +kernel
theorem dX13_keeps_129 : decode cX13_keeps 129 = .ok (.iastore, 1) := by decide +kernel
theorem dX13_keeps_130 : decode cX13_keeps 130 = .ok (.aload_n 0, 1) := by decide +kernel
theorem dX13_keeps_131 : decode cX13_keeps 131 = .ok (.getfield 58, 3) := by decide +kernel
theorem dX13_keeps_134 : decode cX13_keeps 134 = .ok (.aload_n 0, 1) := by decide +kernel
theorem dX13_keeps_135 : decode cX13_keeps 135 = .ok (.getfield 330, 3) := by decide +kernel
theorem dX13_keeps_138 : decode cX13_keeps 138 = .ok (.aload_n 0, 1) := by decide +kernel
theorem dX13_keeps_139 : decode cX13_keeps 139 = .ok (.getfield 324, 3) := by decide +kernel
theorem dX13_keeps_142 : decode cX13_keeps 142 = .ok (.iastore, 1) := by decide +kernel
theorem dX13_keeps_143 : decode cX13_keeps 143 = .ok (.aload_n 0, 1) := by decide +kernel
theorem dX13_keeps_144 : decode cX13_keeps 144 = .ok (.dup, 1) := by decide +kernel
theorem dX13_keeps_145 : decode cX13_keeps 145 = .ok (.getfield 330, 3) := by decide +kernel
theorem dX13_keeps_148 : decode cX13_keeps 148 = .ok (.iconst 1, 1) := by decide +kernel
theorem dX13_keeps_149 : decode cX13_keeps 149 = .ok (.iadd, 1) := by decide +kernel
theorem dX13_keeps_150 : decode cX13_keeps 150 = .ok (.putfield 330, 3) := by decide +kernel
theorem dX13_keeps_153 : decode cX13_keeps 153 = .ok (.return_, 1) := by decide +kernel
theorem dX13_move_0 : decode cX13_move 0 = .ok (.aload_n 0, 1) := by decide +kernel
theorem dX13_move_1 : decode cX13_move 1 = .ok (.iconst 0, 1) := by decide +kernel
theorem dX13_move_2 : decode cX13_move 2 = .ok (.putfield 70, 3) := by decide +kernel
theorem dX13_move_5 : decode cX13_move 5 = .ok (.aload_n 0, 1) := by decide +kernel
theorem dX13_move_6 : decode cX13_move 6 = .ok (.iload_n 1, 1) := by decide +kernel
theorem dX13_move_7 : decode cX13_move 7 = .ok (.invokevirtual 397, 3) := by decide +kernel
theorem dX13_move_10 : decode cX13_move 10 = .ok (.ifCond .ne 9, 3) := by decide +kernel
theorem dX13_move_13 : decode cX13_move 13 = .ok (.aload_n 0, 1) := by decide +kernel
theorem dX13_move_14 : decode cX13_move 14 = .ok (.iconst 1, 1) := by decide +kernel
theorem dX13_move_15 : decode cX13_move 15 = .ok (.invokevirtual 76, 3) := by decide +kernel
theorem dX13_move_18 : decode cX13_move 18 = .ok (.ireturn, 1) := by decide +kernel
theorem dX13_move_19 : decode cX13_move 19 = .ok (.aload_n 0, 1) := by decide +kernel
theorem dX13_move_20 : decode cX13_move 20 = .ok (.aload_n 0, 1) := by decide +kernel
theorem dX13_move_21 : decode cX13_move 21 = .ok (.getfield 318, 3) := by decide +kernel
theorem dX13_move_24 : decode cX13_move 24 = .ok (.invokevirtual 433, 3) := by decide +kernel
theorem dX13_move_27 : decode cX13_move 27 = .ok (.aload_n 0, 1) := by decide +kernel
theorem dX13_move_28 : decode cX13_move 28 = .ok (.iload_n 1, 1) := by decide +kernel
theorem dX13_move_29 : decode cX13_move 29 = .ok (.invokevirtual 403, 3) := by decide +kernel
theorem dX13_move_32 : decode cX13_move 32 = .ok (.ifCond .ne 9, 3) := by decide +kernel
theorem dX13_move_35 : decode cX13_move 35 = .ok (.aload_n 0, 1) := by decide +kernel
theorem dX13_move_36 : decode cX13_move 36 = .ok (.iconst 5, 1) := by decide +kernel
theorem dX13_move_37 : decode cX13_move 37 = .ok (.invokevirtual 76, 3) := by decide +kernel
theorem dX13_move_40 : decode cX13_move 40 = .ok (.ireturn, 1) := by decide +kernel
theorem dX13_move_41 : decode cX13_move 41 = .ok (.aload_n 0, 1) := by decide +kernel
theorem dX13_move_42 : decode cX13_move 42 = .ok (.invokevirtual 507, 3) := by decide +kernel
theorem dX13_move_45 : decode cX13_move 45 = .ok (.aload_n 0, 1) := by decide +kernel
theorem dX13_move_46 : decode cX13_move 46 = .ok (.aload_n 0, 1) := by decide +kernel
theorem dX13_move_47 : decode cX13_move 47 = .ok (.aload_n 0, 1) := by decide +kernel
theorem dX13_move_48 : decode cX13_move 48 = .ok (.getfield 318, 3) := by decide +kernel
theorem dX13_move_51 : decode cX13_move 51 = .ok (.iload_n 1, 1) := by decide +kernel
theorem dX13_move_52 : decode cX13_move 52 = .ok (.invokevirtual 463, 3) := by decide +kernel
theorem dX13_move_55 : decode cX13_move 55 = .ok (.putfield 318, 3) := by decide +kernel
theorem dX13_move_58 : decode cX13_move 58 = .ok (.aload_n 0, 1) := by decide +kernel
theorem dX13_move_59 : decode cX13_move 59 = .ok (.aload_n 0, 1) := by decide +kernel
theorem dX13_move_60 : decode cX13_move 60 = .ok (.aload_n 0, 1) := by decide +kernel
theorem dX13_move_61 : decode cX13_move 61 = .ok (.getfield 318, 3) := by decide +kernel
theorem dX13_move_64 : decode cX13_move 64 = .ok (.invokevirtual 443, 3) := by decide +kernel
theorem dX13_move_67 : decode cX13_move 67 = .ok (.invokevirtual 80, 3) := by decide +kernel
theorem dX13_move_70 : decode cX13_move 70 = .ok (.ireturn, 1) := by decide +kernel
theorem dX13_parts_0 : decode cX13_parts 0 = .ok (.aload_n 0, 1) := by decide +kernel
theorem dX13_parts_1 : decode cX13_parts 1 = .ok (.iconst 0, 1) := by decide +kernel
theorem dX13_parts_2 : decode cX13_parts 2 = .ok (.putfield 70, 3) := by decide +kernel
theorem dX13_parts_5 : decode cX13_parts 5 = .ok (.aload_n 0, 1) := by decide +kernel
theorem dX13_parts_6 : decode cX13_parts 6 = .ok (.iload_n 1, 1) := by decide +kernel
theorem dX13_parts_7 : decode cX13_parts 7 = .ok (.invokevirtual 423, 3) := by decide +kernel
theorem dX13_parts_10 : decode cX13_parts 10 = .ok (.ifCond .ne 9, 3) := by decide +kernel
theorem dX13_parts_13 : decode cX13_parts 13 = .ok (.aload_n 0, 1) := by decide +kernel
theorem dX13_parts_14 : decode cX13_parts 14 = .ok (.iconst 1, 1) := by decide +kernel
theorem dX13_parts_15 : decode cX13_parts 15 = .ok (.invokevirtual 76, 3) := by decide +kernel
theorem dX13_parts_18 : decode cX13_parts 18 = .ok (.ireturn, 1) := by decide +kernel
theorem dX13_parts_19 : decode cX13_parts 19 = .ok (.aload_n 0, 1) := by decide +kernel
theorem dX13_parts_20 : decode cX13_parts 20 = .ok (.getfield 321, 3) := by decide +kernel
theorem dX13_parts_23 : decode cX13_parts 23 = .ok (.bipush (-2), 2) := by decide +kernel
theorem dX13_parts_25 : decode cX13_parts 25 = .ok (.if_icmp .eq 9, 3) := by decide +kernel
theorem dX13_parts_28 : decode cX13_parts 28 = .ok (.aload_n 0, 1) := by decide +kernel
theorem dX13_parts_29 : decode cX13_parts 29 = .ok (.iconst 5, 1) := by decide +kernel
theorem dX13_parts_30 : decode cX13_parts 30 = .ok (.invokevirtual 76, 3) := by decide +kernel
theorem dX13_parts_33 : decode cX13_parts 33 = .ok (.ireturn, 1) := by decide +kernel
theorem dX13_parts_34 : decode cX13_parts 34 = .ok (.aload_n 0, 1) := by decide +kernel
theorem dX13_parts_35 : decode cX13_parts 35 = .ok (.invokevirtual 507, 3) := by decide +kernel
theorem dX13_parts_38 : decode cX13_parts 38 = .ok (.aload_n 0, 1) := by decide +kernel
theorem dX13_parts_39 : decode cX13_parts 39 = .ok (.aload_n 0, 1) := by decide +kernel
theorem dX13_parts_40 : decode cX13_parts 40 = .ok (.getfield 318, 3) := by decide +kernel
theorem dX13_parts_43 : decode cX13_parts 43 = .ok (.invokevirtual 443, 3) := by decide +kernel
theorem dX13_parts_46 : decode cX13_parts 46 = .ok (.istore_n 2, 1) := by decide +kernel
theorem dX13_parts_47 : decode cX13_parts 47 = .ok (.aload_n 0, 1) := by decide +kernel
theorem dX13_parts_48 : decode cX13_parts 48 = .ok (.aload_n 0, 1) := by decide +kernel
theorem dX13_parts_49 : decode cX13_parts 49 = .ok (.aload_n 0, 1) := by decide +kernel
theorem dX13_parts_50 : decode cX13_parts 50 = .ok (.getfield 318, 3) := by decide +kernel
theorem dX13_parts_53 : decode cX13_parts 53 = .ok (.iload_n 1, 1) := by decide +kernel
theorem dX13_parts_54 : decode cX13_parts 54 = .ok (.invokevirtual 498, 3) := by decide +kernel
theorem dX13_parts_57 : decode cX13_parts 57 = .ok (.putfield 318, 3) := by decide +kernel
theorem dX13_parts_60 : decode cX13_parts 60 = .ok (.aload_n 0, 1) := by decide +kernel
theorem dX13_parts_61 : decode cX13_parts 61 = .ok (.iload_n 1, 1) := by decide +kernel
theorem dX13_parts_62 : decode cX13_parts 62 = .ok (.putfield 321, 3) := by decide +kernel
theorem dX13_parts_65 : decode cX13_parts 65 = .ok (.aload_n 0, 1) := by decide +kernel
theorem dX13_parts_66 : decode cX13_parts 66 = .ok (.iload_n 2, 1) := by decide +kernel
theorem dX13_parts_67 : decode cX13_parts 67 = .ok (.aload_n 0, 1) := by decide +kernel
theorem dX13_parts_68 : decode cX13_parts 68 = .ok (.aload_n 0, 1) := by decide +kernel
theorem dX13_parts_69 : decode cX13_parts 69 = .ok (.getfield 318, 3) := by decide +kernel
theorem dX13_parts_72 : decode cX13_parts 72 = .ok (.invokevirtual 443, 3) := by decide +kernel
theorem dX13_parts_75 : decode cX13_parts 75 = .ok (.isub, 1) := by decide +kernel
theorem dX13_parts_76 : decode cX13_parts 76 = .ok (.invokevirtual 80, 3) := by decide +kernel
theorem dX13_parts_79 : decode cX13_parts 79 = .ok (.ireturn, 1) := by decide +kernel
theorem dX13_lot_0 : decode cX13_lot 0 = .ok (.aload_n 0, 1) := by decide +kernel
theorem dX13_lot_1 : decode cX13_lot 1 = .ok (.iconst 0, 1) := by decide +kernel
theorem dX13_lot_2 : decode cX13_lot 2 = .ok (.putfield 70, 3) := by decide +kernel
theorem dX13_lot_5 : decode cX13_lot 5 = .ok (.aload_n 0, 1) := by decide +kernel
theorem dX13_lot_6 : decode cX13_lot 6 = .ok (.getfield 310, 3) := by decide +kernel
theorem dX13_lot_9 : decode cX13_lot 9 = .ok (.ifnonnull 9, 3) := by decide +kernel
theorem dX13_lot_12 : decode cX13_lot 12 = .ok (.aload_n 0, 1) := by decide +kernel
theorem dX13_lot_13 : decode cX13_lot 13 = .ok (.iconst 1, 1) := by decide +kernel
theorem dX13_lot_14 : decode cX13_lot 14 = .ok (.invokevirtual 76, 3) := by decide +kernel
theorem dX13_lot_17 : decode cX13_lot 17 = .ok (.ireturn, 1) := by decide +kernel
theorem dX13_lot_18 : decode cX13_lot 18 = .ok (.aload_n 0, 1) := by decide +kernel
theorem dX13_lot_19 : decode cX13_lot 19 = .ok (.aload_n 0, 1) := by decide +kernel
theorem dX13_lot_20 : decode cX13_lot 20 = .ok (.getfield 318, 3) := by decide +kernel
theorem dX13_lot_23 : decode cX13_lot 23 = .ok (.invokevirtual 433, 3) := by decide +kernel
theorem dX13_lot_26 : decode cX13_lot 26 = .ok (.iconst 0, 1) := by decide +kernel
theorem dX13_lot_27 : decode cX13_lot 27 = .ok (.istore_n 1, 1) := by decide +kernel
theorem dX13_lot_28 : decode cX13_lot 28 = .ok (.aload_n 0, 1) := by decide +kernel
theorem dX13_lot_29 : decode cX13_lot 29 = .ok (.iconst (-1), 1) := by decide +kernel
theorem dX13_lot_30 : decode cX13_lot 30 = .ok (.invokevirtual 446, 3) := by decide +kernel
theorem dX13_lot_33 : decode cX13_lot 33 = .ok (.istore_n 2, 1) := by decide +kernel
theorem dX13_lot_34 : decode cX13_lot 34 = .ok (.iload_n 2, 1) := by decide +kernel
theorem dX13_lot_35 : decode cX13_lot 35 = .ok (.sipush 2000, 3) := by decide +kernel
theorem dX13_lot_38 : decode cX13_lot 38 = .ok (.if_icmp .ge 15, 3) := by decide +kernel
theorem dX13_lot_41 : decode cX13_lot 41 = .ok (.iinc 1 1, 3) := by decide +kernel
theorem dX13_lot_44 : decode cX13_lot 44 = .ok (.aload_n 0, 1) := by decide +kernel
theorem dX13_lot_45 : decode cX13_lot 45 = .ok (.iload_n 2, 1) := by decide +kernel
theorem dX13_lot_46 : decode cX13_lot 46 = .ok (.invokevirtual 446, 3) := by decide +kernel
theorem dX13_lot_49 : decode cX13_lot 49 = .ok (.istore_n 2, 1) := by decide +kernel
theorem dX13_lot_50 : decode cX13_lot 50 = .ok (.goto (-16), 3) := by decide +kernel
theorem dX13_lot_53 : decode cX13_lot 53 = .ok (.iload_n 1, 1) := by decide +kernel
theorem dX13_lot_54 : decode cX13_lot 54 = .ok (.ifCond .ne 10, 3) := by decide +kernel
theorem dX13_lot_57 : decode cX13_lot 57 = .ok (.aload_n 0, 1) := by decide +kernel
theorem dX13_lot_58 : decode cX13_lot 58 = .ok (.bipush 6, 2) := by decide +kernel
theorem dX13_lot_60 : decode cX13_lot 60 = .ok (.invokevirtual 76, 3) := by decide +kernel
theorem dX13_lot_63 : decode cX13_lot 63 = .ok (.ireturn, 1) := by decide +kernel
theorem dX13_lot_64 : decode cX13_lot 64 = .ok (.aload_n 0, 1) := by decide +kernel
theorem dX13_lot_65 : decode cX13_lot 65 = .ok (.invokevirtual 507, 3) := by decide +kernel
theorem dX13_lot_68 : decode cX13_lot 68 = .ok (.aload_n 0, 1) := by decide +kernel
theorem dX13_lot_69 : decode cX13_lot 69 = .ok (.ldc2_w 522, 3) := by decide +kernel
theorem dX13_lot_72 : decode cX13_lot 72 = .ok (.aload_n 0, 1) := by decide +kernel
theorem dX13_lot_73 : decode cX13_lot 73 = .ok (.getfield 327, 3) := by decide +kernel
theorem dX13_lot_76 : decode cX13_lot 76 = .ok (.i2l, 1) := by decide +kernel
theorem dX13_lot_77 : decode cX13_lot 77 = .ok (.lmul, 1) := by decide +kernel
theorem dX13_lot_78 : decode cX13_lot 78 = .ok (.ldc2_w 527, 3) := by decide +kernel
theorem dX13_lot_81 : decode cX13_lot 81 = .ok (.ladd, 1) := by decide +kernel
theorem dX13_lot_82 : decode cX13_lot 82 = .ok (.ldc2_w 529, 3) := by decide +kernel
theorem dX13_lot_85 : decode cX13_lot 85 = .ok (.lrem, 1) := by decide +kernel
theorem dX13_lot_86 : decode cX13_lot 86 = .ok (.l2i, 1) := by decide +kernel
theorem dX13_lot_87 : decode cX13_lot 87 = .ok (.putfield 327, 3) := by decide +kernel
theorem dX13_lot_90 : decode cX13_lot 90 = .ok (.aload_n 0, 1) := by decide +kernel
theorem dX13_lot_91 : decode cX13_lot 91 = .ok (.iconst (-1), 1) := by decide +kernel
theorem dX13_lot_92 : decode cX13_lot 92 = .ok (.invokevirtual 446, 3) := by decide +kernel
theorem dX13_lot_95 : decode cX13_lot 95 = .ok (.istore_n 2, 1) := by decide +kernel
theorem dX13_lot_96 : decode cX13_lot 96 = .ok (.aload_n 0, 1) := by decide +kernel
theorem dX13_lot_97 : decode cX13_lot 97 = .ok (.getfield 327, 3) := by decide +kernel
theorem dX13_lot_100 : decode cX13_lot 100 = .ok (.iload_n 1, 1) := by decide +kernel
theorem dX13_lot_101 : decode cX13_lot 101 = .ok (.irem, 1) := by decide +kernel
theorem dX13_lot_102 : decode cX13_lot 102 = .ok (.istore_n 3, 1) := by decide +kernel
theorem dX13_lot_103 : decode cX13_lot 103 = .ok (.iload_n 3, 1) := by decide +kernel
theorem dX13_lot_104 : decode cX13_lot 104 = .ok (.ifCond .le 15, 3) := by decide +kernel
theorem dX13_lot_107 : decode cX13_lot 107 = .ok (.aload_n 0, 1) := by decide +kernel
theorem dX13_lot_108 : decode cX13_lot 108 = .ok (.iload_n 2, 1) := by decide +kernel
theorem dX13_lot_109 : decode cX13_lot 109 = .ok (.invokevirtual 446, 3) := by decide +kernel
theorem dX13_lot_112 : decode cX13_lot 112 = .ok (.istore_n 2, 1) := by decide +kernel
theorem dX13_lot_113 : decode cX13_lot 113 = .ok (.iinc 3 (-1), 3) := by decide +kernel
theorem dX13_lot_116 : decode cX13_lot 116 = .ok (.goto (-13), 3) := by decide +kernel
theorem dX13_lot_119 : decode cX13_lot 119 = .ok (.aload_n 0, 1) := by decide +kernel
theorem dX13_lot_120 : decode cX13_lot 120 = .ok (.aload_n 0, 1) := by decide +kernel
theorem dX13_lot_121 : decode cX13_lot 121 = .ok (.aload_n 0, 1) := by decide +kernel
theorem dX13_lot_122 : decode cX13_lot 122 = .ok (.getfield 318, 3) := by decide +kernel
theorem dX13_lot_125 : decode cX13_lot 125 = .ok (.iload_n 2, 1) := by decide +kernel
theorem dX13_lot_126 : decode cX13_lot 126 = .ok (.invokevirtual 463, 3) := by decide +kernel
theorem dX13_lot_129 : decode cX13_lot 129 = .ok (.putfield 318, 3) := by decide +kernel
theorem dX13_lot_132 : decode cX13_lot 132 = .ok (.aload_n 0, 1) := by decide +kernel
theorem dX13_lot_133 : decode cX13_lot 133 = .ok (.iload_n 2, 1) := by decide +kernel
theorem dX13_lot_134 : decode cX13_lot 134 = .ok (.invokevirtual 80, 3) := by decide +kernel
theorem dX13_lot_137 : decode cX13_lot 137 = .ok (.ireturn, 1) := by decide +kernel
theorem dX13_call_0 : decode cX13_call 0 = .ok (.aload_n 0, 1) := by decide +kernel
theorem dX13_call_1 : decode cX13_call 1 = .ok (.iconst 0, 1) := by decide +kernel
theorem dX13_call_2 : decode cX13_call 2 = .ok (.putfield 70, 3) := by decide +kernel
theorem dX13_call_5 : decode cX13_call 5 = .ok (.aload_n 0, 1) := by decide +kernel
theorem dX13_call_6 : decode cX13_call 6 = .ok (.getfield 310, 3) := by decide +kernel
theorem dX13_call_9 : decode cX13_call 9 = .ok (.ifnonnull 9, 3) := by decide +kernel
theorem dX13_call_12 : decode cX13_call 12 = .ok (.aload_n 0, 1) := by decide +kernel
theorem dX13_call_13 : decode cX13_call 13 = .ok (.iconst 1, 1) := by decide +kernel
theorem dX13_call_14 : decode cX13_call 14 = .ok (.invokevirtual 76, 3) := by decide +kernel
theorem dX13_call_17 : decode cX13_call 17 = .ok (.ireturn, 1) := by decide +kernel
theorem dX13_call_18 : decode cX13_call 18 = .ok (.aload_n 0, 1) := by decide +kernel
theorem dX13_call_19 : decode cX13_call 19 = .ok (.invokevirtual 472, 3) := by decide +kernel
theorem dX13_call_22 : decode cX13_call 22 = .ok (.istore_n 1, 1) := by decide +kernel
theorem dX13_call_23 : decode cX13_call 23 = .ok (.iload_n 1, 1) := by decide +kernel
theorem dX13_call_24 : decode cX13_call 24 = .ok (.bipush (-2), 2) := by decide +kernel
theorem dX13_call_26 : decode cX13_call 26 = .ok (.if_icmp .ne 10, 3) := by decide +kernel
theorem dX13_call_29 : decode cX13_call 29 = .ok (.aload_n 0, 1) := by decide +kernel
theorem dX13_call_30 : decode cX13_call 30 = .ok (.bipush 6, 2) := by decide +kernel
theorem dX13_call_32 : decode cX13_call 32 = .ok (.invokevirtual 76, 3) := by decide +kernel
theorem dX13_call_35 : decode cX13_call 35 = .ok (.ireturn, 1) := by decide +kernel
theorem dX13_call_36 : decode cX13_call 36 = .ok (.aload_n 0, 1) := by decide +kernel
theorem dX13_call_37 : decode cX13_call 37 = .ok (.invokevirtual 507, 3) := by decide +kernel
theorem dX13_call_40 : decode cX13_call 40 = .ok (.aload_n 0, 1) := by decide +kernel
theorem dX13_call_41 : decode cX13_call 41 = .ok (.aload_n 0, 1) := by decide +kernel
theorem dX13_call_42 : decode cX13_call 42 = .ok (.getfield 318, 3) := by decide +kernel
theorem dX13_call_45 : decode cX13_call 45 = .ok (.invokevirtual 433, 3) := by decide +kernel
theorem dX13_call_48 : decode cX13_call 48 = .ok (.aload_n 0, 1) := by decide +kernel
theorem dX13_call_49 : decode cX13_call 49 = .ok (.aload_n 0, 1) := by decide +kernel
theorem dX13_call_50 : decode cX13_call 50 = .ok (.aload_n 0, 1) := by decide +kernel
theorem dX13_call_51 : decode cX13_call 51 = .ok (.getfield 318, 3) := by decide +kernel
theorem dX13_call_54 : decode cX13_call 54 = .ok (.iload_n 1, 1) := by decide +kernel
theorem dX13_call_55 : decode cX13_call 55 = .ok (.invokevirtual 463, 3) := by decide +kernel
theorem dX13_call_58 : decode cX13_call 58 = .ok (.putfield 318, 3) := by decide +kernel
theorem dX13_call_61 : decode cX13_call 61 = .ok (.aload_n 0, 1) := by decide +kernel
theorem dX13_call_62 : decode cX13_call 62 = .ok (.iload_n 1, 1) := by decide +kernel
theorem dX13_call_63 : decode cX13_call 63 = .ok (.invokevirtual 80, 3) := by decide +kernel
theorem dX13_call_66 : decode cX13_call 66 = .ok (.ireturn, 1) := by decide +kernel
theorem dX13_seed_0 : decode cX13_seed 0 = .ok (.aload_n 0, 1) := by decide +kernel
theorem dX13_seed_1 : decode cX13_seed 1 = .ok (.iconst 0, 1) := by decide +kernel
theorem dX13_seed_2 : decode cX13_seed 2 = .ok (.putfield 70, 3) := by decide +kernel
theorem dX13_seed_5 : decode cX13_seed 5 = .ok (.aload_n 0, 1) := by decide +kernel
theorem dX13_seed_6 : decode cX13_seed 6 = .ok (.getfield 310, 3) := by decide +kernel
theorem dX13_seed_9 : decode cX13_seed 9 = .ok (.ifnonnull 9, 3) := by decide +kernel
theorem dX13_seed_12 : decode cX13_seed 12 = .ok (.aload_n 0, 1) := by decide +kernel
theorem dX13_seed_13 : decode cX13_seed 13 = .ok (.iconst 1, 1) := by decide +kernel
theorem dX13_seed_14 : decode cX13_seed 14 = .ok (.invokevirtual 556, 3) := by decide +kernel
theorem dX13_seed_17 : decode cX13_seed 17 = .ok (.ireturn, 1) := by decide +kernel
theorem dX13_seed_18 : decode cX13_seed 18 = .ok (.iload_n 1, 1) := by decide +kernel
theorem dX13_seed_19 : decode cX13_seed 19 = .ok (.iconst 0, 1) := by decide +kernel
theorem dX13_seed_20 : decode cX13_seed 20 = .ok (.ldc_w 531, 3) := by decide +kernel
theorem dX13_seed_23 : decode cX13_seed 23 = .ok (.invokestatic 145, 3) := by decide +kernel
theorem dX13_seed_26 : decode cX13_seed 26 = .ok (.ifCond .ne 9, 3) := by decide +kernel
theorem dX13_seed_29 : decode cX13_seed 29 = .ok (.aload_n 0, 1) := by decide +kernel
theorem dX13_seed_30 : decode cX13_seed 30 = .ok (.iconst 2, 1) := by decide +kernel
theorem dX13_seed_31 : decode cX13_seed 31 = .ok (.invokevirtual 556, 3) := by decide +kernel
theorem dX13_seed_34 : decode cX13_seed 34 = .ok (.ireturn, 1) := by decide +kernel
theorem dX13_seed_35 : decode cX13_seed 35 = .ok (.aload_n 0, 1) := by decide +kernel
theorem dX13_seed_36 : decode cX13_seed 36 = .ok (.iload_n 1, 1) := by decide +kernel
theorem dX13_seed_37 : decode cX13_seed 37 = .ok (.putfield 327, 3) := by decide +kernel
theorem dX13_seed_40 : decode cX13_seed 40 = .ok (.aload_n 0, 1) := by decide +kernel
theorem dX13_seed_41 : decode cX13_seed 41 = .ok (.invokevirtual 559, 3) := by decide +kernel
theorem dX13_seed_44 : decode cX13_seed 44 = .ok (.ireturn, 1) := by decide +kernel
theorem dX13_undo_0 : decode cX13_undo 0 = .ok (.aload_n 0, 1) := by decide +kernel
theorem dX13_undo_1 : decode cX13_undo 1 = .ok (.iconst 0, 1) := by decide +kernel
theorem dX13_undo_2 : decode cX13_undo 2 = .ok (.putfield 70, 3) := by decide +kernel
theorem dX13_undo_5 : decode cX13_undo 5 = .ok (.aload_n 0, 1) := by decide +kernel
theorem dX13_undo_6 : decode cX13_undo 6 = .ok (.getfield 310, 3) := by decide +kernel
theorem dX13_undo_9 : decode cX13_undo 9 = .ok (.ifnull 10, 3) := by decide +kernel
theorem dX13_undo_12 : decode cX13_undo 12 = .ok (.aload_n 0, 1) := by decide +kernel
theorem dX13_undo_13 : decode cX13_undo 13 = .ok (.getfield 330, 3) := by decide +kernel
theorem dX13_undo_16 : decode cX13_undo 16 = .ok (.ifCond .ne 10, 3) := by decide +kernel
theorem dX13_undo_19 : decode cX13_undo 19 = .ok (.aload_n 0, 1) := by decide +kernel
theorem dX13_undo_20 : decode cX13_undo 20 = .ok (.bipush 6, 2) := by decide +kernel
theorem dX13_undo_22 : decode cX13_undo 22 = .ok (.invokevirtual 556, 3) := by decide +kernel
theorem dX13_undo_25 : decode cX13_undo 25 = .ok (.ireturn, 1) := by decide +kernel
theorem dX13_undo_26 : decode cX13_undo 26 = .ok (.aload_n 0, 1) := by decide +kernel
theorem dX13_undo_27 : decode cX13_undo 27 = .ok (.dup, 1) := by decide +kernel
theorem dX13_undo_28 : decode cX13_undo 28 = .ok (.getfield 330, 3) := by decide +kernel
theorem dX13_undo_31 : decode cX13_undo 31 = .ok (.iconst 1, 1) := by decide +kernel
theorem dX13_undo_32 : decode cX13_undo 32 = .ok (.isub, 1) := by decide +kernel
theorem dX13_undo_33 : decode cX13_undo 33 = .ok (.putfield 330, 3) := by decide +kernel
theorem dX13_undo_36 : decode cX13_undo 36 = .ok (.aload_n 0, 1) := by decide +kernel
theorem dX13_undo_37 : decode cX13_undo 37 = .ok (.aload_n 0, 1) := by decide +kernel
theorem dX13_undo_38 : decode cX13_undo 38 = .ok (.getfield 46, 3) := by decide +kernel
theorem dX13_undo_41 : decode cX13_undo 41 = .ok (.aload_n 0, 1) := by decide +kernel
theorem dX13_undo_42 : decode cX13_undo 42 = .ok (.getfield 330, 3) := by decide +kernel
theorem dX13_undo_45 : decode cX13_undo 45 = .ok (.laload, 1) := by decide +kernel
theorem dX13_undo_46 : decode cX13_undo 46 = .ok (.putfield 318, 3) := by decide +kernel
theorem dX13_undo_49 : decode cX13_undo 49 = .ok (.aload_n 0, 1) := by decide +kernel
theorem dX13_undo_50 : decode cX13_undo 50 = .ok (.aload_n 0, 1) := by decide +kernel
theorem dX13_undo_51 : decode cX13_undo 51 = .ok (.getfield 52, 3) := by decide +kernel
theorem dX13_undo_54 : decode cX13_undo 54 = .ok (.aload_n 0, 1) := by decide +kernel
theorem dX13_undo_55 : decode cX13_undo 55 = .ok (.getfield 330, 3) := by decide +kernel
theorem dX13_undo_58 : decode cX13_undo 58 = .ok (.iaload, 1) := by decide +kernel
theorem dX13_undo_59 : decode cX13_undo 59 = .ok (.putfield 321, 3) := by decide +kernel
theorem dX13_undo_62 : decode cX13_undo 62 = .ok (.aload_n 0, 1) := by decide +kernel
theorem dX13_undo_63 : decode cX13_undo 63 = .ok (.aload_n 0, 1) := by decide +kernel
theorem dX13_undo_64 : decode cX13_undo 64 = .ok (.getfield 55, 3) := by decide +kernel
theorem dX13_undo_67 : decode cX13_undo 67 = .ok (.aload_n 0, 1) := by decide +kernel
theorem dX13_undo_68 : decode cX13_undo 68 = .ok (.getfield 330, 3) := by decide +kernel
theorem dX13_undo_71 : decode cX13_undo 71 = .ok (.iaload, 1) := by decide +kernel
theorem dX13_undo_72 : decode cX13_undo 72 = .ok (.putfield 327, 3) := by decide +kernel
theorem dX13_undo_75 : decode cX13_undo 75 = .ok (.aload_n 0, 1) := by decide +kernel
theorem dX13_undo_76 : decode cX13_undo 76 = .ok (.aload_n 0, 1) := by decide +kernel
theorem dX13_undo_77 : decode cX13_undo 77 = .ok (.getfield 58, 3) := by decide +kernel
theorem dX13_undo_80 : decode cX13_undo 80 = .ok (.aload_n 0, 1) := by decide +kernel
theorem dX13_undo_81 : decode cX13_undo 81 = .ok (.getfield 330, 3) := by decide +kernel
theorem dX13_undo_84 : decode cX13_undo 84 = .ok (.iaload, 1) := by decide +kernel
theorem dX13_undo_85 : decode cX13_undo 85 = .ok (.putfield 324, 3) := by decide +kernel
theorem dX13_undo_88 : decode cX13_undo 88 = .ok (.aload_n 0, 1) := by decide +kernel
theorem dX13_undo_89 : decode cX13_undo 89 = .ok (.invokevirtual 559, 3) := by decide +kernel
theorem dX13_undo_92 : decode cX13_undo 92 = .ok (.ireturn, 1) := by decide +kernel
theorem dX13_mark_0 : decode cX13_mark 0 = .ok (.aload_n 0, 1) := by decide +kernel
theorem dX13_mark_1 : decode cX13_mark 1 = .ok (.iconst 0, 1) := by decide +kernel
theorem dX13_mark_2 : decode cX13_mark 2 = .ok (.putfield 70, 3) := by decide +kernel
theorem dX13_mark_5 : decode cX13_mark 5 = .ok (.aload_n 0, 1) := by decide +kernel
theorem dX13_mark_6 : decode cX13_mark 6 = .ok (.getfield 310, 3) := by decide +kernel
theorem dX13_mark_9 : decode cX13_mark 9 = .ok (.ifnonnull 9, 3) := by decide +kernel
theorem dX13_mark_12 : decode cX13_mark 12 = .ok (.aload_n 0, 1) := by decide +kernel
theorem dX13_mark_13 : decode cX13_mark 13 = .ok (.iconst 1, 1) := by decide +kernel
theorem dX13_mark_14 : decode cX13_mark 14 = .ok (.invokevirtual 76, 3) := by decide +kernel
theorem dX13_mark_17 : decode cX13_mark 17 = .ok (.ireturn, 1) := by decide +kernel
theorem dX13_mark_18 : decode cX13_mark 18 = .ok (.aload_n 0, 1) := by decide +kernel
theorem dX13_mark_19 : decode cX13_mark 19 = .ok (.getfield 333, 3) := by decide +kernel
theorem dX13_mark_22 : decode cX13_mark 22 = .ok (.iconst 3, 1) := by decide +kernel
theorem dX13_mark_23 : decode cX13_mark 23 = .ok (.if_icmp .ne 9, 3) := by decide +kernel
theorem dX13_mark_26 : decode cX13_mark 26 = .ok (.aload_n 0, 1) := by decide +kernel
theorem dX13_mark_27 : decode cX13_mark 27 = .ok (.iconst 3, 1) := by decide +kernel
theorem dX13_mark_28 : decode cX13_mark 28 = .ok (.invokevirtual 76, 3) := by decide +kernel
theorem dX13_mark_31 : decode cX13_mark 31 = .ok (.ireturn, 1) := by decide +kernel
theorem dX13_mark_32 : decode cX13_mark 32 = .ok (.aload_n 0, 1) := by decide +kernel
theorem dX13_mark_33 : decode cX13_mark 33 = .ok (.getfield 49, 3) := by decide +kernel
theorem dX13_mark_36 : decode cX13_mark 36 = .ok (.aload_n 0, 1) := by decide +kernel
theorem dX13_mark_37 : decode cX13_mark 37 = .ok (.getfield 333, 3) := by decide +kernel
theorem dX13_mark_40 : decode cX13_mark 40 = .ok (.aload_n 0, 1) := by decide +kernel
theorem dX13_mark_41 : decode cX13_mark 41 = .ok (.getfield 318, 3) := by decide +kernel
theorem dX13_mark_44 : decode cX13_mark 44 = .ok (.lastore, 1) := by decide +kernel
theorem dX13_mark_45 : decode cX13_mark 45 = .ok (.aload_n 0, 1) := by decide +kernel
theorem dX13_mark_46 : decode cX13_mark 46 = .ok (.getfield 61, 3) := by decide +kernel
theorem dX13_mark_49 : decode cX13_mark 49 = .ok (.aload_n 0, 1) := by decide +kernel
theorem dX13_mark_50 : decode cX13_mark 50 = .ok (.getfield 333, 3) := by decide +kernel
theorem dX13_mark_53 : decode cX13_mark 53 = .ok (.aload_n 0, 1) := by decide +kernel
theorem dX13_mark_54 : decode cX13_mark 54 = .ok (.getfield 321, 3) := by decide +kernel
theorem dX13_mark_57 : decode cX13_mark 57 = .ok (.iastore, 1) := by decide +kernel
theorem dX13_mark_58 : decode cX13_mark 58 = .ok (.aload_n 0, 1) := by decide +kernel
theorem dX13_mark_59 : decode cX13_mark 59 = .ok (.getfield 64, 3) := by decide +kernel
theorem dX13_mark_62 : decode cX13_mark 62 = .ok (.aload_n 0, 1) := by decide +kernel
theorem dX13_mark_63 : decode cX13_mark 63 = .ok (.getfield 333, 3) := by decide +kernel
theorem dX13_mark_66 : decode cX13_mark 66 = .ok (.aload_n 0, 1) := by decide +kernel
theorem dX13_mark_67 : decode cX13_mark 67 = .ok (.getfield 327, 3) := by decide +kernel
theorem dX13_mark_70 : decode cX13_mark 70 = .ok (.iastore, 1) := by decide +kernel
theorem dX13_mark_71 : decode cX13_mark 71 = .ok (.aload_n 0, 1) := by decide +kernel
theorem dX13_mark_72 : decode cX13_mark 72 = .ok (.getfield 67, 3) := by decide +kernel
theorem dX13_mark_75 : decode cX13_mark 75 = .ok (.aload_n 0, 1) := by decide +kernel
theorem dX13_mark_76 : decode cX13_mark 76 = .ok (.getfield 333, 3) := by decide +kernel
theorem dX13_mark_79 : decode cX13_mark 79 = .ok (.aload_n 0, 1) := by decide +kernel
theorem dX13_mark_80 : decode cX13_mark 80 = .ok (.getfield 324, 3) := by decide +kernel
theorem dX13_mark_83 : decode cX13_mark 83 = .ok (.iastore, 1) := by decide +kernel
theorem dX13_mark_84 : decode cX13_mark 84 = .ok (.aload_n 0, 1) := by decide +kernel
theorem dX13_mark_85 : decode cX13_mark 85 = .ok (.dup, 1) := by decide +kernel
theorem dX13_mark_86 : decode cX13_mark 86 = .ok (.getfield 333, 3) := by decide +kernel
theorem dX13_mark_89 : decode cX13_mark 89 = .ok (.iconst 1, 1) := by decide +kernel
theorem dX13_mark_90 : decode cX13_mark 90 = .ok (.iadd, 1) := by decide +kernel
theorem dX13_mark_91 : decode cX13_mark 91 = .ok (.putfield 333, 3) := by decide +kernel
theorem dX13_mark_94 : decode cX13_mark 94 = .ok (.aload_n 0, 1) := by decide +kernel
theorem dX13_mark_95 : decode cX13_mark 95 = .ok (.aload_n 0, 1) := by decide +kernel
theorem dX13_mark_96 : decode cX13_mark 96 = .ok (.getfield 333, 3) := by decide +kernel
theorem dX13_mark_99 : decode cX13_mark 99 = .ok (.iconst 1, 1) := by decide +kernel
theorem dX13_mark_100 : decode cX13_mark 100 = .ok (.isub, 1) := by decide +kernel
theorem dX13_mark_101 : decode cX13_mark 101 = .ok (.invokevirtual 80, 3) := by decide +kernel
theorem dX13_mark_104 : decode cX13_mark 104 = .ok (.ireturn, 1) := by decide +kernel
theorem dX13_back_0 : decode cX13_back 0 = .ok (.aload_n 0, 1) := by decide +kernel
theorem dX13_back_1 : decode cX13_back 1 = .ok (.iconst 0, 1) := by decide +kernel
theorem dX13_back_2 : decode cX13_back 2 = .ok (.putfield 70, 3) := by decide +kernel
theorem dX13_back_5 : decode cX13_back 5 = .ok (.aload_n 0, 1) := by decide +kernel
theorem dX13_back_6 : decode cX13_back 6 = .ok (.getfield 310, 3) := by decide +kernel
theorem dX13_back_9 : decode cX13_back 9 = .ok (.ifnull 15, 3) := by decide +kernel
theorem dX13_back_12 : decode cX13_back 12 = .ok (.iload_n 1, 1) := by decide +kernel
theorem dX13_back_13 : decode cX13_back 13 = .ok (.ifCond .lt 11, 3) := by decide +kernel
theorem dX13_back_16 : decode cX13_back 16 = .ok (.iload_n 1, 1) := by decide +kernel
theorem dX13_back_17 : decode cX13_back 17 = .ok (.aload_n 0, 1) := by decide +kernel
theorem dX13_back_18 : decode cX13_back 18 = .ok (.getfield 333, 3) := by decide +kernel
theorem dX13_back_21 : decode cX13_back 21 = .ok (.if_icmp .lt 9, 3) := by decide +kernel
theorem dX13_back_24 : decode cX13_back 24 = .ok (.aload_n 0, 1) := by decide +kernel
theorem dX13_back_25 : decode cX13_back 25 = .ok (.iconst 1, 1) := by decide +kernel
theorem dX13_back_26 : decode cX13_back 26 = .ok (.invokevirtual 556, 3) := by decide +kernel
theorem dX13_back_29 : decode cX13_back 29 = .ok (.ireturn, 1) := by decide +kernel
theorem dX13_back_30 : decode cX13_back 30 = .ok (.aload_n 0, 1) := by decide +kernel
theorem dX13_back_31 : decode cX13_back 31 = .ok (.aload_n 0, 1) := by decide +kernel
theorem dX13_back_32 : decode cX13_back 32 = .ok (.getfield 49, 3) := by decide +kernel
theorem dX13_back_35 : decode cX13_back 35 = .ok (.iload_n 1, 1) := by decide +kernel
theorem dX13_back_36 : decode cX13_back 36 = .ok (.laload, 1) := by decide +kernel
theorem dX13_back_37 : decode cX13_back 37 = .ok (.putfield 318, 3) := by decide +kernel
theorem dX13_back_40 : decode cX13_back 40 = .ok (.aload_n 0, 1) := by decide +kernel
theorem dX13_back_41 : decode cX13_back 41 = .ok (.aload_n 0, 1) := by decide +kernel
theorem dX13_back_42 : decode cX13_back 42 = .ok (.getfield 61, 3) := by decide +kernel
theorem dX13_back_45 : decode cX13_back 45 = .ok (.iload_n 1, 1) := by decide +kernel
theorem dX13_back_46 : decode cX13_back 46 = .ok (.iaload, 1) := by decide +kernel
theorem dX13_back_47 : decode cX13_back 47 = .ok (.putfield 321, 3) := by decide +kernel
theorem dX13_back_50 : decode cX13_back 50 = .ok (.aload_n 0, 1) := by decide +kernel
theorem dX13_back_51 : decode cX13_back 51 = .ok (.aload_n 0, 1) := by decide +kernel
theorem dX13_back_52 : decode cX13_back 52 = .ok (.getfield 64, 3) := by decide +kernel
theorem dX13_back_55 : decode cX13_back 55 = .ok (.iload_n 1, 1) := by decide +kernel
theorem dX13_back_56 : decode cX13_back 56 = .ok (.iaload, 1) := by decide +kernel
theorem dX13_back_57 : decode cX13_back 57 = .ok (.putfield 327, 3) := by decide +kernel
theorem dX13_back_60 : decode cX13_back 60 = .ok (.aload_n 0, 1) := by decide +kernel
theorem dX13_back_61 : decode cX13_back 61 = .ok (.aload_n 0, 1) := by decide +kernel
theorem dX13_back_62 : decode cX13_back 62 = .ok (.getfield 67, 3) := by decide +kernel
theorem dX13_back_65 : decode cX13_back 65 = .ok (.iload_n 1, 1) := by decide +kernel
theorem dX13_back_66 : decode cX13_back 66 = .ok (.iaload, 1) := by decide +kernel
theorem dX13_back_67 : decode cX13_back 67 = .ok (.putfield 324, 3) := by decide +kernel
theorem dX13_back_70 : decode cX13_back 70 = .ok (.aload_n 0, 1) := by decide +kernel
theorem dX13_back_71 : decode cX13_back 71 = .ok (.iconst 0, 1) := by decide +kernel
theorem dX13_back_72 : decode cX13_back 72 = .ok (.putfield 330, 3) := by decide +kernel
theorem dX13_back_75 : decode cX13_back 75 = .ok (.aload_n 0, 1) := by decide +kernel
theorem dX13_back_76 : decode cX13_back 76 = .ok (.invokevirtual 559, 3) := by decide +kernel
theorem dX13_back_79 : decode cX13_back 79 = .ok (.ireturn, 1) := by decide +kernel
theorem dX13_led_0 : decode cX13_led 0 = .ok (.aload_n 0, 1) := by decide +kernel
theorem dX13_led_1 : decode cX13_led 1 = .ok (.iconst 0, 1) := by decide +kernel
theorem dX13_led_2 : decode cX13_led 2 = .ok (.putfield 70, 3) := by decide +kernel
theorem dX13_led_5 : decode cX13_led 5 = .ok (.iconst 0, 1) := by decide +kernel
theorem dX13_led_6 : decode cX13_led 6 = .ok (.istore_n 2, 1) := by decide +kernel
theorem dX13_led_7 : decode cX13_led 7 = .ok (.iconst 0, 1) := by decide +kernel
theorem dX13_led_8 : decode cX13_led 8 = .ok (.istore_n 3, 1) := by decide +kernel
theorem dX13_led_9 : decode cX13_led 9 = .ok (.aload_n 0, 1) := by decide +kernel
theorem dX13_led_10 : decode cX13_led 10 = .ok (.getfield 310, 3) := by decide +kernel
theorem dX13_led_13 : decode cX13_led 13 = .ok (.ifnull 41, 3) := by decide +kernel
theorem dX13_led_16 : decode cX13_led 16 = .ok (.iload_n 3, 1) := by decide +kernel
theorem dX13_led_17 : decode cX13_led 17 = .ok (.aload_n 0, 1) := by decide +kernel
theorem dX13_led_18 : decode cX13_led 18 = .ok (.getfield 310, 3) := by decide +kernel
theorem dX13_led_21 : decode cX13_led 21 = .ok (.getfield 277, 3) := by decide +kernel
theorem dX13_led_24 : decode cX13_led 24 = .ok (.if_icmp .ge 30, 3) := by decide +kernel
theorem dX13_led_27 : decode cX13_led 27 = .ok (.aload_n 0, 1) := by decide +kernel
theorem dX13_led_28 : decode cX13_led 28 = .ok (.iload_n 3, 1) := by decide +kernel
theorem dX13_led_29 : decode cX13_led 29 = .ok (.invokevirtual 440, 3) := by decide +kernel
theorem dX13_led_32 : decode cX13_led 32 = .ok (.ifCond .ne 6, 3) := by decide +kernel
theorem dX13_led_35 : decode cX13_led 35 = .ok (.goto 13, 3) := by decide +kernel
theorem dX13_led_38 : decode cX13_led 38 = .ok (.iload_n 2, 1) := by decide +kernel
theorem dX13_led_39 : decode cX13_led 39 = .ok (.iload_n 1, 1) := by decide +kernel
theorem dX13_led_40 : decode cX13_led 40 = .ok (.if_icmp .ne 5, 3) := by decide +kernel
theorem dX13_led_43 : decode cX13_led 43 = .ok (.iload_n 3, 1) := by decide +kernel
theorem dX13_led_44 : decode cX13_led 44 = .ok (.ireturn, 1) := by decide +kernel
theorem dX13_led_45 : decode cX13_led 45 = .ok (.iinc 2 1, 3) := by decide +kernel
theorem dX13_led_48 : decode cX13_led 48 = .ok (.iinc 3 1, 3) := by decide +kernel
theorem dX13_led_51 : decode cX13_led 51 = .ok (.goto (-42), 3) := by decide +kernel
theorem dX13_led_54 : decode cX13_led 54 = .ok (.aload_n 0, 1) := by decide +kernel
theorem dX13_led_55 : decode cX13_led 55 = .ok (.iconst 1, 1) := by decide +kernel
theorem dX13_led_56 : decode cX13_led 56 = .ok (.putfield 70, 3) := by decide +kernel
theorem dX13_led_59 : decode cX13_led 59 = .ok (.iconst 0, 1) := by decide +kernel
theorem dX13_led_60 : decode cX13_led 60 = .ok (.ireturn, 1) := by decide +kernel
theorem dX13_size_0 : decode cX13_size 0 = .ok (.aload_n 0, 1) := by decide +kernel
theorem dX13_size_1 : decode cX13_size 1 = .ok (.iconst 0, 1) := by decide +kernel
theorem dX13_size_2 : decode cX13_size 2 = .ok (.putfield 70, 3) := by decide +kernel
theorem dX13_size_5 : decode cX13_size 5 = .ok (.iload_n 1, 1) := by decide +kernel
theorem dX13_size_6 : decode cX13_size 6 = .ok (.bipush 11, 2) := by decide +kernel
theorem dX13_size_8 : decode cX13_size 8 = .ok (.if_icmp .ne 8, 3) := by decide +kernel
theorem dX13_size_11 : decode cX13_size 11 = .ok (.aload_n 0, 1) := by decide +kernel
theorem dX13_size_12 : decode cX13_size 12 = .ok (.getfield 303, 3) := by decide +kernel
theorem dX13_size_15 : decode cX13_size 15 = .ok (.ireturn, 1) := by decide +kernel
theorem dX13_size_16 : decode cX13_size 16 = .ok (.iload_n 1, 1) := by decide +kernel
theorem dX13_size_17 : decode cX13_size 17 = .ok (.iconst 0, 1) := by decide +kernel
theorem dX13_size_18 : decode cX13_size 18 = .ok (.bipush 10, 2) := by decide +kernel
theorem dX13_size_20 : decode cX13_size 20 = .ok (.invokestatic 145, 3) := by decide +kernel
theorem dX13_size_23 : decode cX13_size 23 = .ok (.ifCond .ne 5, 3) := by decide +kernel
theorem dX13_size_26 : decode cX13_size 26 = .ok (.iconst (-1), 1) := by decide +kernel
theorem dX13_size_27 : decode cX13_size 27 = .ok (.ireturn, 1) := by decide +kernel
theorem dX13_size_28 : decode cX13_size 28 = .ok (.aload_n 0, 1) := by decide +kernel
theorem dX13_size_29 : decode cX13_size 29 = .ok (.getfield 310, 3) := by decide +kernel
theorem dX13_size_32 : decode cX13_size 32 = .ok (.ifnonnull 5, 3) := by decide +kernel
theorem dX13_size_35 : decode cX13_size 35 = .ok (.iconst 0, 1) := by decide +kernel
theorem dX13_size_36 : decode cX13_size 36 = .ok (.ireturn, 1) := by decide +kernel
theorem dX13_size_37 : decode cX13_size 37 = .ok (.iload_n 1, 1) := by decide +kernel
theorem dX13_size_38 : decode cX13_size 38 = .ok (.tableswitch 133 0 9 #[54, 62, 70, 78, 86, 94, 102, 118, 123, 128], 54) := by decide +kernel
theorem dX13_size_92 : decode cX13_size 92 = .ok (.aload_n 0, 1) := by decide +kernel
theorem dX13_size_93 : decode cX13_size 93 = .ok (.getfield 310, 3) := by decide +kernel
theorem dX13_size_96 : decode cX13_size 96 = .ok (.getfield 200, 3) := by decide +kernel
theorem dX13_size_99 : decode cX13_size 99 = .ok (.ireturn, 1) := by decide +kernel
theorem dX13_size_100 : decode cX13_size 100 = .ok (.aload_n 0, 1) := by decide +kernel
theorem dX13_size_101 : decode cX13_size 101 = .ok (.getfield 310, 3) := by decide +kernel
theorem dX13_size_104 : decode cX13_size 104 = .ok (.getfield 203, 3) := by decide +kernel
theorem dX13_size_107 : decode cX13_size 107 = .ok (.ireturn, 1) := by decide +kernel
theorem dX13_size_108 : decode cX13_size 108 = .ok (.aload_n 0, 1) := by decide +kernel
theorem dX13_size_109 : decode cX13_size 109 = .ok (.getfield 310, 3) := by decide +kernel
theorem dX13_size_112 : decode cX13_size 112 = .ok (.getfield 336, 3) := by decide +kernel
theorem dX13_size_115 : decode cX13_size 115 = .ok (.ireturn, 1) := by decide +kernel
theorem dX13_size_116 : decode cX13_size 116 = .ok (.aload_n 0, 1) := by decide +kernel
theorem dX13_size_117 : decode cX13_size 117 = .ok (.getfield 310, 3) := by decide +kernel
theorem dX13_size_120 : decode cX13_size 120 = .ok (.getfield 277, 3) := by decide +kernel
theorem dX13_size_123 : decode cX13_size 123 = .ok (.ireturn, 1) := by decide +kernel
theorem dX13_size_124 : decode cX13_size 124 = .ok (.aload_n 0, 1) := by decide +kernel
theorem dX13_size_125 : decode cX13_size 125 = .ok (.getfield 310, 3) := by decide +kernel
theorem dX13_size_128 : decode cX13_size 128 = .ok (.getfield 346, 3) := by decide +kernel
theorem dX13_size_131 : decode cX13_size 131 = .ok (.ireturn, 1) := by decide +kernel
theorem dX13_size_132 : decode cX13_size 132 = .ok (.aload_n 0, 1) := by decide +kernel
theorem dX13_size_133 : decode cX13_size 133 = .ok (.getfield 310, 3) := by decide +kernel
theorem dX13_size_136 : decode cX13_size 136 = .ok (.getfield 169, 3) := by decide +kernel
theorem dX13_size_139 : decode cX13_size 139 = .ok (.ireturn, 1) := by decide +kernel
theorem dX13_size_140 : decode cX13_size 140 = .ok (.aload_n 0, 1) := by decide +kernel
theorem dX13_size_141 : decode cX13_size 141 = .ok (.getfield 310, 3) := by decide +kernel
theorem dX13_size_144 : decode cX13_size 144 = .ok (.getfield 229, 3) := by decide +kernel
theorem dX13_size_147 : decode cX13_size 147 = .ok (.ifCond .eq 7, 3) := by decide +kernel
theorem dX13_size_150 : decode cX13_size 150 = .ok (.iconst 1, 1) := by decide +kernel
theorem dX13_size_151 : decode cX13_size 151 = .ok (.goto 4, 3) := by decide +kernel
theorem dX13_size_154 : decode cX13_size 154 = .ok (.iconst 0, 1) := by decide +kernel
theorem dX13_size_155 : decode cX13_size 155 = .ok (.ireturn, 1) := by decide +kernel
theorem dX13_size_156 : decode cX13_size 156 = .ok (.aload_n 0, 1) := by decide +kernel
theorem dX13_size_157 : decode cX13_size 157 = .ok (.getfield 321, 3) := by decide +kernel
theorem dX13_size_160 : decode cX13_size 160 = .ok (.ireturn, 1) := by decide +kernel
theorem dX13_size_161 : decode cX13_size 161 = .ok (.aload_n 0, 1) := by decide +kernel
theorem dX13_size_162 : decode cX13_size 162 = .ok (.getfield 327, 3) := by decide +kernel
theorem dX13_size_165 : decode cX13_size 165 = .ok (.ireturn, 1) := by decide +kernel
theorem dX13_size_166 : decode cX13_size 166 = .ok (.aload_n 0, 1) := by decide +kernel
theorem dX13_size_167 : decode cX13_size 167 = .ok (.getfield 330, 3) := by decide +kernel
theorem dX13_size_170 : decode cX13_size 170 = .ok (.ireturn, 1) := by decide +kernel
theorem dX13_size_171 : decode cX13_size 171 = .ok (.aload_n 0, 1) := by decide +kernel
theorem dX13_size_172 : decode cX13_size 172 = .ok (.getfield 333, 3) := by decide +kernel
theorem dX13_size_175 : decode cX13_size 175 = .ok (.ireturn, 1) := by decide +kernel
theorem dX13_trouble_0 : decode cX13_trouble 0 = .ok (.aload_n 0, 1) := by decide +kernel
theorem dX13_trouble_1 : decode cX13_trouble 1 = .ok (.iconst 0, 1) := by decide +kernel
theorem dX13_trouble_2 : decode cX13_trouble 2 = .ok (.putfield 70, 3) := by decide +kernel
theorem dX13_trouble_5 : decode cX13_trouble 5 = .ok (.aload_n 0, 1) := by decide +kernel
theorem dX13_trouble_6 : decode cX13_trouble 6 = .ok (.getfield 73, 3) := by decide +kernel
theorem dX13_trouble_9 : decode cX13_trouble 9 = .ok (.ireturn, 1) := by decide +kernel
