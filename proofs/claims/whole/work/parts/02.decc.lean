theorem dX13_init_0 : decode cX13_init 0 = .ok (.aload_n 0, 1) := by decide +kernel
theorem dX13_init_1 : decode cX13_init 1 = .ok (.invokespecial 3, 3) := by decide +kernel
theorem dX13_init_4 : decode cX13_init 4 = .ok (.aload_n 0, 1) := by decide +kernel
theorem dX13_init_5 : decode cX13_init 5 = .ok (.iconst (-1), 1) := by decide +kernel
theorem dX13_init_6 : decode cX13_init 6 = .ok (.putfield 9, 3) := by decide +kernel
theorem dX13_init_9 : decode cX13_init 9 = .ok (.aload_n 0, 1) := by decide +kernel
theorem dX13_init_10 : decode cX13_init 10 = .ok (.sipush 900, 3) := by decide +kernel
theorem dX13_init_13 : decode cX13_init 13 = .ok (.newarray .byte, 2) := by decide +kernel
theorem dX13_init_15 : decode cX13_init 15 = .ok (.putfield 13, 3) := by decide +kernel
theorem dX13_init_18 : decode cX13_init 18 = .ok (.aload_n 0, 1) := by decide +kernel
theorem dX13_init_19 : decode cX13_init 19 = .ok (.bipush 16, 2) := by decide +kernel
theorem dX13_init_21 : decode cX13_init 21 = .ok (.newarray .int, 2) := by decide +kernel
theorem dX13_init_23 : decode cX13_init 23 = .ok (.putfield 17, 3) := by decide +kernel
theorem dX13_init_26 : decode cX13_init 26 = .ok (.aload_n 0, 1) := by decide +kernel
theorem dX13_init_27 : decode cX13_init 27 = .ok (.bipush 14, 2) := by decide +kernel
theorem dX13_init_29 : decode cX13_init 29 = .ok (.newarray .int, 2) := by decide +kernel
theorem dX13_init_31 : decode cX13_init 31 = .ok (.putfield 21, 3) := by decide +kernel
theorem dX13_init_34 : decode cX13_init 34 = .ok (.aload_n 0, 1) := by decide +kernel
theorem dX13_init_35 : decode cX13_init 35 = .ok (.sipush 4001, 3) := by decide +kernel
theorem dX13_init_38 : decode cX13_init 38 = .ok (.newarray .long, 2) := by decide +kernel
theorem dX13_init_40 : decode cX13_init 40 = .ok (.putfield 24, 3) := by decide +kernel
theorem dX13_init_43 : decode cX13_init 43 = .ok (.aload_n 0, 1) := by decide +kernel
theorem dX13_init_44 : decode cX13_init 44 = .ok (.sipush 16384, 3) := by decide +kernel
theorem dX13_init_47 : decode cX13_init 47 = .ok (.newarray .long, 2) := by decide +kernel
theorem dX13_init_49 : decode cX13_init 49 = .ok (.putfield 28, 3) := by decide +kernel
theorem dX13_init_52 : decode cX13_init 52 = .ok (.aload_n 0, 1) := by decide +kernel
theorem dX13_init_53 : decode cX13_init 53 = .ok (.bipush 14, 2) := by decide +kernel
theorem dX13_init_55 : decode cX13_init 55 = .ok (.newarray .int, 2) := by decide +kernel
theorem dX13_init_57 : decode cX13_init 57 = .ok (.putfield 31, 3) := by decide +kernel
theorem dX13_init_60 : decode cX13_init 60 = .ok (.aload_n 0, 1) := by decide +kernel
theorem dX13_init_61 : decode cX13_init 61 = .ok (.bipush 14, 2) := by decide +kernel
theorem dX13_init_63 : decode cX13_init 63 = .ok (.newarray .int, 2) := by decide +kernel
theorem dX13_init_65 : decode cX13_init 65 = .ok (.putfield 34, 3) := by decide +kernel
theorem dX13_init_68 : decode cX13_init 68 = .ok (.aload_n 0, 1) := by decide +kernel
theorem dX13_init_69 : decode cX13_init 69 = .ok (.bipush 14, 2) := by decide +kernel
theorem dX13_init_71 : decode cX13_init 71 = .ok (.newarray .int, 2) := by decide +kernel
theorem dX13_init_73 : decode cX13_init 73 = .ok (.putfield 37, 3) := by decide +kernel
theorem dX13_init_76 : decode cX13_init 76 = .ok (.aload_n 0, 1) := by decide +kernel
theorem dX13_init_77 : decode cX13_init 77 = .ok (.sipush 168, 3) := by decide +kernel
theorem dX13_init_80 : decode cX13_init 80 = .ok (.newarray .int, 2) := by decide +kernel
theorem dX13_init_82 : decode cX13_init 82 = .ok (.putfield 40, 3) := by decide +kernel
theorem dX13_init_85 : decode cX13_init 85 = .ok (.aload_n 0, 1) := by decide +kernel
theorem dX13_init_86 : decode cX13_init 86 = .ok (.sipush 196, 3) := by decide +kernel
theorem dX13_init_89 : decode cX13_init 89 = .ok (.newarray .long, 2) := by decide +kernel
theorem dX13_init_91 : decode cX13_init 91 = .ok (.putfield 43, 3) := by decide +kernel
theorem dX13_init_94 : decode cX13_init 94 = .ok (.aload_n 0, 1) := by decide +kernel
theorem dX13_init_95 : decode cX13_init 95 = .ok (.bipush 16, 2) := by decide +kernel
theorem dX13_init_97 : decode cX13_init 97 = .ok (.newarray .long, 2) := by decide +kernel
theorem dX13_init_99 : decode cX13_init 99 = .ok (.putfield 46, 3) := by decide +kernel
theorem dX13_init_102 : decode cX13_init 102 = .ok (.aload_n 0, 1) := by decide +kernel
theorem dX13_init_103 : decode cX13_init 103 = .ok (.iconst 3, 1) := by decide +kernel
theorem dX13_init_104 : decode cX13_init 104 = .ok (.newarray .long, 2) := by decide +kernel
theorem dX13_init_106 : decode cX13_init 106 = .ok (.putfield 49, 3) := by decide +kernel
theorem dX13_init_109 : decode cX13_init 109 = .ok (.aload_n 0, 1) := by decide +kernel
theorem dX13_init_110 : decode cX13_init 110 = .ok (.bipush 16, 2) := by decide +kernel
theorem dX13_init_112 : decode cX13_init 112 = .ok (.newarray .int, 2) := by decide +kernel
theorem dX13_init_114 : decode cX13_init 114 = .ok (.putfield 52, 3) := by decide +kernel
theorem dX13_init_117 : decode cX13_init 117 = .ok (.aload_n 0, 1) := by decide +kernel
theorem dX13_init_118 : decode cX13_init 118 = .ok (.bipush 16, 2) := by decide +kernel
theorem dX13_init_120 : decode cX13_init 120 = .ok (.newarray .int, 2) := by decide +kernel
theorem dX13_init_122 : decode cX13_init 122 = .ok (.putfield 55, 3) := by decide +kernel
theorem dX13_init_125 : decode cX13_init 125 = .ok (.aload_n 0, 1) := by decide +kernel
theorem dX13_init_126 : decode cX13_init 126 = .ok (.bipush 16, 2) := by decide +kernel
theorem dX13_init_128 : decode cX13_init 128 = .ok (.newarray .int, 2) := by decide +kernel
theorem dX13_init_130 : decode cX13_init 130 = .ok (.putfield 58, 3) := by decide +kernel
theorem dX13_init_133 : decode cX13_init 133 = .ok (.aload_n 0, 1) := by decide +kernel
theorem dX13_init_134 : decode cX13_init 134 = .ok (.iconst 3, 1) := by decide +kernel
theorem dX13_init_135 : decode cX13_init 135 = .ok (.newarray .int, 2) := by decide +kernel
theorem dX13_init_137 : decode cX13_init 137 = .ok (.putfield 61, 3) := by decide +kernel
theorem dX13_init_140 : decode cX13_init 140 = .ok (.aload_n 0, 1) := by decide +kernel
theorem dX13_init_141 : decode cX13_init 141 = .ok (.iconst 3, 1) := by decide +kernel
theorem dX13_init_142 : decode cX13_init 142 = .ok (.newarray .int, 2) := by decide +kernel
theorem dX13_init_144 : decode cX13_init 144 = .ok (.putfield 64, 3) := by decide +kernel
theorem dX13_init_147 : decode cX13_init 147 = .ok (.aload_n 0, 1) := by decide +kernel
theorem dX13_init_148 : decode cX13_init 148 = .ok (.iconst 3, 1) := by decide +kernel
theorem dX13_init_149 : decode cX13_init 149 = .ok (.newarray .int, 2) := by decide +kernel
theorem dX13_init_151 : decode cX13_init 151 = .ok (.putfield 67, 3) := by decide +kernel
theorem dX13_init_154 : decode cX13_init 154 = .ok (.return_, 1) := by decide +kernel
theorem dX13_thrown_0 : decode cX13_thrown 0 = .ok (.aload_n 0, 1) := by decide +kernel
theorem dX13_thrown_1 : decode cX13_thrown 1 = .ok (.getfield 70, 3) := by decide +kernel
theorem dX13_thrown_4 : decode cX13_thrown 4 = .ok (.ireturn, 1) := by decide +kernel
theorem dX13_refused_0 : decode cX13_refused 0 = .ok (.aload_n 0, 1) := by decide +kernel
theorem dX13_refused_1 : decode cX13_refused 1 = .ok (.iload_n 1, 1) := by decide +kernel
theorem dX13_refused_2 : decode cX13_refused 2 = .ok (.putfield 73, 3) := by decide +kernel
theorem dX13_refused_5 : decode cX13_refused 5 = .ok (.aload_n 0, 1) := by decide +kernel
theorem dX13_refused_6 : decode cX13_refused 6 = .ok (.iconst (-1), 1) := by decide +kernel
theorem dX13_refused_7 : decode cX13_refused 7 = .ok (.putfield 9, 3) := by decide +kernel
theorem dX13_refused_10 : decode cX13_refused 10 = .ok (.iconst (-1), 1) := by decide +kernel
theorem dX13_refused_11 : decode cX13_refused 11 = .ok (.ireturn, 1) := by decide +kernel
theorem dX13_lost_0 : decode cX13_lost 0 = .ok (.aload_n 0, 1) := by decide +kernel
theorem dX13_lost_1 : decode cX13_lost 1 = .ok (.iload_n 1, 1) := by decide +kernel
theorem dX13_lost_2 : decode cX13_lost 2 = .ok (.invokevirtual 76, 3) := by decide +kernel
theorem dX13_lost_5 : decode cX13_lost 5 = .ok (.pop, 1) := by decide +kernel
theorem dX13_lost_6 : decode cX13_lost 6 = .ok (.bipush (-100), 2) := by decide +kernel
theorem dX13_lost_8 : decode cX13_lost 8 = .ok (.ireturn, 1) := by decide +kernel
theorem dX13_denied_0 : decode cX13_denied 0 = .ok (.aload_n 0, 1) := by decide +kernel
theorem dX13_denied_1 : decode cX13_denied 1 = .ok (.iload_n 1, 1) := by decide +kernel
theorem dX13_denied_2 : decode cX13_denied 2 = .ok (.invokevirtual 76, 3) := by decide +kernel
theorem dX13_denied_5 : decode cX13_denied 5 = .ok (.pop, 1) := by decide +kernel
theorem dX13_denied_6 : decode cX13_denied 6 = .ok (.iconst 0, 1) := by decide +kernel
theorem dX13_denied_7 : decode cX13_denied 7 = .ok (.ireturn, 1) := by decide +kernel
theorem dX13_good_0 : decode cX13_good 0 = .ok (.aload_n 0, 1) := by decide +kernel
theorem dX13_good_1 : decode cX13_good 1 = .ok (.iconst 0, 1) := by decide +kernel
theorem dX13_good_2 : decode cX13_good 2 = .ok (.putfield 73, 3) := by decide +kernel
theorem dX13_good_5 : decode cX13_good 5 = .ok (.aload_n 0, 1) := by decide +kernel
theorem dX13_good_6 : decode cX13_good 6 = .ok (.iconst (-1), 1) := by decide +kernel
theorem dX13_good_7 : decode cX13_good 7 = .ok (.putfield 9, 3) := by decide +kernel
theorem dX13_good_10 : decode cX13_good 10 = .ok (.iload_n 1, 1) := by decide +kernel
theorem dX13_good_11 : decode cX13_good 11 = .ok (.ireturn, 1) := by decide +kernel
theorem dX13_granted_0 : decode cX13_granted 0 = .ok (.aload_n 0, 1) := by decide +kernel
theorem dX13_granted_1 : decode cX13_granted 1 = .ok (.iconst 0, 1) := by decide +kernel
theorem dX13_granted_2 : decode cX13_granted 2 = .ok (.invokevirtual 80, 3) := by decide +kernel
theorem dX13_granted_5 : decode cX13_granted 5 = .ok (.pop, 1) := by decide +kernel
theorem dX13_granted_6 : decode cX13_granted 6 = .ok (.iconst 1, 1) := by decide +kernel
theorem dX13_granted_7 : decode cX13_granted 7 = .ok (.ireturn, 1) := by decide +kernel
theorem dX13_in_0 : decode cX13_in 0 = .ok (.iload_n 0, 1) := by decide +kernel
theorem dX13_in_1 : decode cX13_in 1 = .ok (.iload_n 1, 1) := by decide +kernel
theorem dX13_in_2 : decode cX13_in 2 = .ok (.if_icmp .lt 12, 3) := by decide +kernel
theorem dX13_in_5 : decode cX13_in 5 = .ok (.iload_n 0, 1) := by decide +kernel
theorem dX13_in_6 : decode cX13_in 6 = .ok (.iload_n 2, 1) := by decide +kernel
theorem dX13_in_7 : decode cX13_in 7 = .ok (.if_icmp .gt 7, 3) := by decide +kernel
theorem dX13_in_10 : decode cX13_in 10 = .ok (.iconst 1, 1) := by decide +kernel
theorem dX13_in_11 : decode cX13_in 11 = .ok (.goto 4, 3) := by decide +kernel
theorem dX13_in_14 : decode cX13_in 14 = .ok (.iconst 0, 1) := by decide +kernel
theorem dX13_in_15 : decode cX13_in 15 = .ok (.ireturn, 1) := by decide +kernel
theorem dX13_byteAt_0 : decode cX13_byteAt 0 = .ok (.iload_n 1, 1) := by decide +kernel
theorem dX13_byteAt_1 : decode cX13_byteAt 1 = .ok (.aload_n 0, 1) := by decide +kernel
theorem dX13_byteAt_2 : decode cX13_byteAt 2 = .ok (.getfield 83, 3) := by decide +kernel
theorem dX13_byteAt_5 : decode cX13_byteAt 5 = .ok (.if_icmp .ge 16, 3) := by decide +kernel
theorem dX13_byteAt_8 : decode cX13_byteAt 8 = .ok (.aload_n 0, 1) := by decide +kernel
theorem dX13_byteAt_9 : decode cX13_byteAt 9 = .ok (.getfield 13, 3) := by decide +kernel
theorem dX13_byteAt_12 : decode cX13_byteAt 12 = .ok (.iload_n 1, 1) := by decide +kernel
theorem dX13_byteAt_13 : decode cX13_byteAt 13 = .ok (.baload, 1) := by decide +kernel
theorem dX13_byteAt_14 : decode cX13_byteAt 14 = .ok (.sipush 255, 3) := by decide +kernel
theorem dX13_byteAt_17 : decode cX13_byteAt 17 = .ok (.iand, 1) := by decide +kernel
theorem dX13_byteAt_18 : decode cX13_byteAt 18 = .ok (.goto 4, 3) := by decide +kernel
theorem dX13_byteAt_21 : decode cX13_byteAt 21 = .ok (.iconst (-1), 1) := by decide +kernel
theorem dX13_byteAt_22 : decode cX13_byteAt 22 = .ok (.ireturn, 1) := by decide +kernel
theorem dX13_isLetter_0 : decode cX13_isLetter 0 = .ok (.iload_n 0, 1) := by decide +kernel
theorem dX13_isLetter_1 : decode cX13_isLetter 1 = .ok (.bipush 97, 2) := by decide +kernel
theorem dX13_isLetter_3 : decode cX13_isLetter 3 = .ok (.if_icmp .lt 13, 3) := by decide +kernel
theorem dX13_isLetter_6 : decode cX13_isLetter 6 = .ok (.iload_n 0, 1) := by decide +kernel
theorem dX13_isLetter_7 : decode cX13_isLetter 7 = .ok (.bipush 122, 2) := by decide +kernel
theorem dX13_isLetter_9 : decode cX13_isLetter 9 = .ok (.if_icmp .gt 7, 3) := by decide +kernel
theorem dX13_isLetter_12 : decode cX13_isLetter 12 = .ok (.iconst 1, 1) := by decide +kernel
theorem dX13_isLetter_13 : decode cX13_isLetter 13 = .ok (.goto 4, 3) := by decide +kernel
theorem dX13_isLetter_16 : decode cX13_isLetter 16 = .ok (.iconst 0, 1) := by decide +kernel
theorem dX13_isLetter_17 : decode cX13_isLetter 17 = .ok (.ireturn, 1) := by decide +kernel
theorem dX13_isDigit_0 : decode cX13_isDigit 0 = .ok (.iload_n 0, 1) := by decide +kernel
theorem dX13_isDigit_1 : decode cX13_isDigit 1 = .ok (.bipush 48, 2) := by decide +kernel
theorem dX13_isDigit_3 : decode cX13_isDigit 3 = .ok (.if_icmp .lt 13, 3) := by decide +kernel
theorem dX13_isDigit_6 : decode cX13_isDigit 6 = .ok (.iload_n 0, 1) := by decide +kernel
theorem dX13_isDigit_7 : decode cX13_isDigit 7 = .ok (.bipush 57, 2) := by decide +kernel
theorem dX13_isDigit_9 : decode cX13_isDigit 9 = .ok (.if_icmp .gt 7, 3) := by decide +kernel
theorem dX13_isDigit_12 : decode cX13_isDigit 12 = .ok (.iconst 1, 1) := by decide +kernel
theorem dX13_isDigit_13 : decode cX13_isDigit 13 = .ok (.goto 4, 3) := by decide +kernel
theorem dX13_isDigit_16 : decode cX13_isDigit 16 = .ok (.iconst 0, 1) := by decide +kernel
theorem dX13_isDigit_17 : decode cX13_isDigit 17 = .ok (.ireturn, 1) := by decide +kernel
theorem dX13_wordOf_0 : decode cX13_wordOf 0 = .ok (.lconst 0, 1) := by decide +kernel
theorem dX13_wordOf_1 : decode cX13_wordOf 1 = .ok (.lstore_n 1, 1) := by decide +kernel
theorem dX13_wordOf_2 : decode cX13_wordOf 2 = .ok (.iconst 0, 1) := by decide +kernel
theorem dX13_wordOf_3 : decode cX13_wordOf 3 = .ok (.istore_n 3, 1) := by decide +kernel
theorem dX13_wordOf_4 : decode cX13_wordOf 4 = .ok (.iload_n 3, 1) := by decide +kernel
theorem dX13_wordOf_5 : decode cX13_wordOf 5 = .ok (.aload_n 0, 1) := by decide +kernel
theorem dX13_wordOf_6 : decode cX13_wordOf 6 = .ok (.invokevirtual 86, 3) := by decide +kernel
theorem dX13_wordOf_9 : decode cX13_wordOf 9 = .ok (.if_icmp .ge 27, 3) := by decide +kernel
theorem dX13_wordOf_12 : decode cX13_wordOf 12 = .ok (.ldc2_w 92, 3) := by decide +kernel
theorem dX13_wordOf_15 : decode cX13_wordOf 15 = .ok (.lload_n 1, 1) := by decide +kernel
theorem dX13_wordOf_16 : decode cX13_wordOf 16 = .ok (.lmul, 1) := by decide +kernel
theorem dX13_wordOf_17 : decode cX13_wordOf 17 = .ok (.aload_n 0, 1) := by decide +kernel
theorem dX13_wordOf_18 : decode cX13_wordOf 18 = .ok (.iload_n 3, 1) := by decide +kernel
theorem dX13_wordOf_19 : decode cX13_wordOf 19 = .ok (.invokevirtual 94, 3) := by decide +kernel
theorem dX13_wordOf_22 : decode cX13_wordOf 22 = .ok (.bipush 97, 2) := by decide +kernel
theorem dX13_wordOf_24 : decode cX13_wordOf 24 = .ok (.isub, 1) := by decide +kernel
theorem dX13_wordOf_25 : decode cX13_wordOf 25 = .ok (.iconst 1, 1) := by decide +kernel
theorem dX13_wordOf_26 : decode cX13_wordOf 26 = .ok (.iadd, 1) := by decide +kernel
theorem dX13_wordOf_27 : decode cX13_wordOf 27 = .ok (.i2l, 1) := by decide +kernel
theorem dX13_wordOf_28 : decode cX13_wordOf 28 = .ok (.ladd, 1) := by decide +kernel
theorem dX13_wordOf_29 : decode cX13_wordOf 29 = .ok (.lstore_n 1, 1) := by decide +kernel
theorem dX13_wordOf_30 : decode cX13_wordOf 30 = .ok (.iinc 3 1, 3) := by decide +kernel
theorem dX13_wordOf_33 : decode cX13_wordOf 33 = .ok (.goto (-29), 3) := by decide +kernel
theorem dX13_wordOf_36 : decode cX13_wordOf 36 = .ok (.lload_n 1, 1) := by decide +kernel
theorem dX13_wordOf_37 : decode cX13_wordOf 37 = .ok (.lreturn, 1) := by decide +kernel
theorem dX13_goesOn_0 : decode cX13_goesOn 0 = .ok (.aload_n 0, 1) := by decide +kernel
theorem dX13_goesOn_1 : decode cX13_goesOn 1 = .ok (.getfield 98, 3) := by decide +kernel
theorem dX13_goesOn_4 : decode cX13_goesOn 4 = .ok (.iconst 5, 1) := by decide +kernel
theorem dX13_goesOn_5 : decode cX13_goesOn 5 = .ok (.if_icmp .ne 4, 3) := by decide +kernel
theorem dX13_goesOn_8 : decode cX13_goesOn 8 = .ok (.return_, 1) := by decide +kernel
theorem dX13_goesOn_9 : decode cX13_goesOn 9 = .ok (.aload_n 0, 1) := by decide +kernel
theorem dX13_goesOn_10 : decode cX13_goesOn 10 = .ok (.aload_n 0, 1) := by decide +kernel
theorem dX13_goesOn_11 : decode cX13_goesOn 11 = .ok (.getfield 101, 3) := by decide +kernel
theorem dX13_goesOn_14 : decode cX13_goesOn 14 = .ok (.invokevirtual 104, 3) := by decide +kernel
theorem dX13_goesOn_17 : decode cX13_goesOn 17 = .ok (.bipush 32, 2) := by decide +kernel
theorem dX13_goesOn_19 : decode cX13_goesOn 19 = .ok (.if_icmp .ne 16, 3) := by decide +kernel
theorem dX13_goesOn_22 : decode cX13_goesOn 22 = .ok (.aload_n 0, 1) := by decide +kernel
theorem dX13_goesOn_23 : decode cX13_goesOn 23 = .ok (.dup, 1) := by decide +kernel
theorem dX13_goesOn_24 : decode cX13_goesOn 24 = .ok (.getfield 101, 3) := by decide +kernel
theorem dX13_goesOn_27 : decode cX13_goesOn 27 = .ok (.iconst 1, 1) := by decide +kernel
theorem dX13_goesOn_28 : decode cX13_goesOn 28 = .ok (.iadd, 1) := by decide +kernel
theorem dX13_goesOn_29 : decode cX13_goesOn 29 = .ok (.putfield 101, 3) := by decide +kernel
theorem dX13_goesOn_32 : decode cX13_goesOn 32 = .ok (.goto (-23), 3) := by decide +kernel
theorem dX13_goesOn_35 : decode cX13_goesOn 35 = .ok (.aload_n 0, 1) := by decide +kernel
theorem dX13_goesOn_36 : decode cX13_goesOn 36 = .ok (.aload_n 0, 1) := by decide +kernel
theorem dX13_goesOn_37 : decode cX13_goesOn 37 = .ok (.getfield 101, 3) := by decide +kernel
theorem dX13_goesOn_40 : decode cX13_goesOn 40 = .ok (.putfield 107, 3) := by decide +kernel
theorem dX13_goesOn_43 : decode cX13_goesOn 43 = .ok (.aload_n 0, 1) := by decide +kernel
theorem dX13_goesOn_44 : decode cX13_goesOn 44 = .ok (.iconst 0, 1) := by decide +kernel
theorem dX13_goesOn_45 : decode cX13_goesOn 45 = .ok (.putfield 98, 3) := by decide +kernel
theorem dX13_goesOn_48 : decode cX13_goesOn 48 = .ok (.aload_n 0, 1) := by decide +kernel
theorem dX13_goesOn_49 : decode cX13_goesOn 49 = .ok (.aload_n 0, 1) := by decide +kernel
theorem dX13_goesOn_50 : decode cX13_goesOn 50 = .ok (.getfield 101, 3) := by decide +kernel
theorem dX13_goesOn_53 : decode cX13_goesOn 53 = .ok (.invokevirtual 104, 3) := by decide +kernel
theorem dX13_goesOn_56 : decode cX13_goesOn 56 = .ok (.istore_n 1, 1) := by decide +kernel
theorem dX13_goesOn_57 : decode cX13_goesOn 57 = .ok (.iconst 0, 1) := by decide +kernel
theorem dX13_goesOn_58 : decode cX13_goesOn 58 = .ok (.istore_n 2, 1) := by decide +kernel
theorem dX13_goesOn_59 : decode cX13_goesOn 59 = .ok (.iload_n 1, 1) := by decide +kernel
theorem dX13_goesOn_60 : decode cX13_goesOn 60 = .ok (.iconst (-1), 1) := by decide +kernel
theorem dX13_goesOn_61 : decode cX13_goesOn 61 = .ok (.if_icmp .ne 11, 3) := by decide +kernel
theorem dX13_goesOn_64 : decode cX13_goesOn 64 = .ok (.aload_n 0, 1) := by decide +kernel
theorem dX13_goesOn_65 : decode cX13_goesOn 65 = .ok (.iconst 1, 1) := by decide +kernel
theorem dX13_goesOn_66 : decode cX13_goesOn 66 = .ok (.putfield 98, 3) := by decide +kernel
theorem dX13_goesOn_69 : decode cX13_goesOn 69 = .ok (.goto 196, 3) := by decide +kernel
theorem dX13_goesOn_72 : decode cX13_goesOn 72 = .ok (.iload_n 1, 1) := by decide +kernel
theorem dX13_goesOn_73 : decode cX13_goesOn 73 = .ok (.invokestatic 110, 3) := by decide +kernel
theorem dX13_goesOn_76 : decode cX13_goesOn 76 = .ok (.ifCond .eq 85, 3) := by decide +kernel
theorem dX13_goesOn_79 : decode cX13_goesOn 79 = .ok (.aload_n 0, 1) := by decide +kernel
theorem dX13_goesOn_80 : decode cX13_goesOn 80 = .ok (.lconst 0, 1) := by decide +kernel
theorem dX13_goesOn_81 : decode cX13_goesOn 81 = .ok (.putfield 114, 3) := by decide +kernel
theorem dX13_goesOn_84 : decode cX13_goesOn 84 = .ok (.aload_n 0, 1) := by decide +kernel
theorem dX13_goesOn_85 : decode cX13_goesOn 85 = .ok (.aload_n 0, 1) := by decide +kernel
theorem dX13_goesOn_86 : decode cX13_goesOn 86 = .ok (.getfield 101, 3) := by decide +kernel
theorem dX13_goesOn_89 : decode cX13_goesOn 89 = .ok (.invokevirtual 104, 3) := by decide +kernel
theorem dX13_goesOn_92 : decode cX13_goesOn 92 = .ok (.invokestatic 110, 3) := by decide +kernel
theorem dX13_goesOn_95 : decode cX13_goesOn 95 = .ok (.ifCond .eq 52, 3) := by decide +kernel
theorem dX13_goesOn_98 : decode cX13_goesOn 98 = .ok (.iload_n 2, 1) := by decide +kernel
theorem dX13_goesOn_99 : decode cX13_goesOn 99 = .ok (.bipush 8, 2) := by decide +kernel
theorem dX13_goesOn_101 : decode cX13_goesOn 101 = .ok (.if_icmp .ge 30, 3) := by decide +kernel
theorem dX13_goesOn_104 : decode cX13_goesOn 104 = .ok (.aload_n 0, 1) := by decide +kernel
theorem dX13_goesOn_105 : decode cX13_goesOn 105 = .ok (.ldc2_w 92, 3) := by decide +kernel
theorem dX13_goesOn_108 : decode cX13_goesOn 108 = .ok (.aload_n 0, 1) := by decide +kernel
theorem dX13_goesOn_109 : decode cX13_goesOn 109 = .ok (.getfield 114, 3) := by decide +kernel
theorem dX13_goesOn_112 : decode cX13_goesOn 112 = .ok (.lmul, 1) := by decide +kernel
theorem dX13_goesOn_113 : decode cX13_goesOn 113 = .ok (.aload_n 0, 1) := by decide +kernel
theorem dX13_goesOn_114 : decode cX13_goesOn 114 = .ok (.aload_n 0, 1) := by decide +kernel
theorem dX13_goesOn_115 : decode cX13_goesOn 115 = .ok (.getfield 101, 3) := by decide +kernel
theorem dX13_goesOn_118 : decode cX13_goesOn 118 = .ok (.invokevirtual 104, 3) := by decide +kernel
theorem dX13_goesOn_121 : decode cX13_goesOn 121 = .ok (.bipush 97, 2) := by decide +kernel
theorem dX13_goesOn_123 : decode cX13_goesOn 123 = .ok (.isub, 1) := by decide +kernel
theorem dX13_goesOn_124 : decode cX13_goesOn 124 = .ok (.iconst 1, 1) := by decide +kernel
theorem dX13_goesOn_125 : decode cX13_goesOn 125 = .ok (.iadd, 1) := by decide +kernel
theorem dX13_goesOn_126 : decode cX13_goesOn 126 = .ok (.i2l, 1) := by decide +kernel
theorem dX13_goesOn_127 : decode cX13_goesOn 127 = .ok (.ladd, 1) := by decide +kernel
theorem dX13_goesOn_128 : decode cX13_goesOn 128 = .ok (.putfield 114, 3) := by decide +kernel
theorem dX13_goesOn_131 : decode cX13_goesOn 131 = .ok (.iinc 2 1, 3) := by decide +kernel
theorem dX13_goesOn_134 : decode cX13_goesOn 134 = .ok (.aload_n 0, 1) := by decide +kernel
theorem dX13_goesOn_135 : decode cX13_goesOn 135 = .ok (.dup, 1) := by decide +kernel
theorem dX13_goesOn_136 : decode cX13_goesOn 136 = .ok (.getfield 101, 3) := by decide +kernel
theorem dX13_goesOn_139 : decode cX13_goesOn 139 = .ok (.iconst 1, 1) := by decide +kernel
theorem dX13_goesOn_140 : decode cX13_goesOn 140 = .ok (.iadd, 1) := by decide +kernel
theorem dX13_goesOn_141 : decode cX13_goesOn 141 = .ok (.putfield 101, 3) := by decide +kernel
theorem dX13_goesOn_144 : decode cX13_goesOn 144 = .ok (.goto (-60), 3) := by decide +kernel
theorem dX13_goesOn_147 : decode cX13_goesOn 147 = .ok (.iload_n 2, 1) := by decide +kernel
theorem dX13_goesOn_148 : decode cX13_goesOn 148 = .ok (.bipush 8, 2) := by decide +kernel
theorem dX13_goesOn_150 : decode cX13_goesOn 150 = .ok (.if_icmp .gt 115, 3) := by decide +kernel
theorem dX13_goesOn_153 : decode cX13_goesOn 153 = .ok (.aload_n 0, 1) := by decide +kernel
theorem dX13_goesOn_154 : decode cX13_goesOn 154 = .ok (.iconst 2, 1) := by decide +kernel
theorem dX13_goesOn_155 : decode cX13_goesOn 155 = .ok (.putfield 98, 3) := by decide +kernel
theorem dX13_goesOn_158 : decode cX13_goesOn 158 = .ok (.goto 107, 3) := by decide +kernel
theorem dX13_goesOn_161 : decode cX13_goesOn 161 = .ok (.iload_n 1, 1) := by decide +kernel
theorem dX13_goesOn_162 : decode cX13_goesOn 162 = .ok (.invokestatic 118, 3) := by decide +kernel
theorem dX13_goesOn_165 : decode cX13_goesOn 165 = .ok (.ifCond .eq 79, 3) := by decide +kernel
theorem dX13_goesOn_168 : decode cX13_goesOn 168 = .ok (.aload_n 0, 1) := by decide +kernel
theorem dX13_goesOn_169 : decode cX13_goesOn 169 = .ok (.iconst 0, 1) := by decide +kernel
theorem dX13_goesOn_170 : decode cX13_goesOn 170 = .ok (.putfield 121, 3) := by decide +kernel
theorem dX13_goesOn_173 : decode cX13_goesOn 173 = .ok (.aload_n 0, 1) := by decide +kernel
theorem dX13_goesOn_174 : decode cX13_goesOn 174 = .ok (.aload_n 0, 1) := by decide +kernel
theorem dX13_goesOn_175 : decode cX13_goesOn 175 = .ok (.getfield 101, 3) := by decide +kernel
theorem dX13_goesOn_178 : decode cX13_goesOn 178 = .ok (.invokevirtual 104, 3) := by decide +kernel
theorem dX13_goesOn_181 : decode cX13_goesOn 181 = .ok (.invokestatic 118, 3) := by decide +kernel
theorem dX13_goesOn_184 : decode cX13_goesOn 184 = .ok (.ifCond .eq 47, 3) := by decide +kernel
theorem dX13_goesOn_187 : decode cX13_goesOn 187 = .ok (.iload_n 2, 1) := by decide +kernel
theorem dX13_goesOn_188 : decode cX13_goesOn 188 = .ok (.iconst 3, 1) := by decide +kernel
theorem dX13_goesOn_189 : decode cX13_goesOn 189 = .ok (.if_icmp .ge 26, 3) := by decide +kernel
theorem dX13_goesOn_192 : decode cX13_goesOn 192 = .ok (.aload_n 0, 1) := by decide +kernel
theorem dX13_goesOn_193 : decode cX13_goesOn 193 = .ok (.bipush 10, 2) := by decide +kernel
theorem dX13_goesOn_195 : decode cX13_goesOn 195 = .ok (.aload_n 0, 1) := by decide +kernel
theorem dX13_goesOn_196 : decode cX13_goesOn 196 = .ok (.getfield 121, 3) := by decide +kernel
theorem dX13_goesOn_199 : decode cX13_goesOn 199 = .ok (.imul, 1) := by decide +kernel
theorem dX13_goesOn_200 : decode cX13_goesOn 200 = .ok (.aload_n 0, 1) := by decide +kernel
theorem dX13_goesOn_201 : decode cX13_goesOn 201 = .ok (.aload_n 0, 1) := by decide +kernel
theorem dX13_goesOn_202 : decode cX13_goesOn 202 = .ok (.getfield 101, 3) := by decide +kernel
theorem dX13_goesOn_205 : decode cX13_goesOn 205 = .ok (.invokevirtual 104, 3) := by decide +kernel
theorem dX13_goesOn_208 : decode cX13_goesOn 208 = .ok (.iadd, 1) := by decide +kernel
theorem dX13_goesOn_209 : decode cX13_goesOn 209 = .ok (.bipush 48, 2) := by decide +kernel
theorem dX13_goesOn_211 : decode cX13_goesOn 211 = .ok (.isub, 1) := by decide +kernel
theorem dX13_goesOn_212 : decode cX13_goesOn 212 = .ok (.putfield 121, 3) := by decide +kernel
theorem dX13_goesOn_215 : decode cX13_goesOn 215 = .ok (.iinc 2 1, 3) := by decide +kernel
theorem dX13_goesOn_218 : decode cX13_goesOn 218 = .ok (.aload_n 0, 1) := by decide +kernel
theorem dX13_goesOn_219 : decode cX13_goesOn 219 = .ok (.dup, 1) := by decide +kernel
theorem dX13_goesOn_220 : decode cX13_goesOn 220 = .ok (.getfield 101, 3) := by decide +kernel
theorem dX13_goesOn_223 : decode cX13_goesOn 223 = .ok (.iconst 1, 1) := by decide +kernel
theorem dX13_goesOn_224 : decode cX13_goesOn 224 = .ok (.iadd, 1) := by decide +kernel
theorem dX13_goesOn_225 : decode cX13_goesOn 225 = .ok (.putfield 101, 3) := by decide +kernel
theorem dX13_goesOn_228 : decode cX13_goesOn 228 = .ok (.goto (-55), 3) := by decide +kernel
theorem dX13_goesOn_231 : decode cX13_goesOn 231 = .ok (.iload_n 2, 1) := by decide +kernel
theorem dX13_goesOn_232 : decode cX13_goesOn 232 = .ok (.iconst 3, 1) := by decide +kernel
theorem dX13_goesOn_233 : decode cX13_goesOn 233 = .ok (.if_icmp .gt 32, 3) := by decide +kernel
theorem dX13_goesOn_236 : decode cX13_goesOn 236 = .ok (.aload_n 0, 1) := by decide +kernel
theorem dX13_goesOn_237 : decode cX13_goesOn 237 = .ok (.iconst 3, 1) := by decide +kernel
theorem dX13_goesOn_238 : decode cX13_goesOn 238 = .ok (.putfield 98, 3) := by decide +kernel
theorem dX13_goesOn_241 : decode cX13_goesOn 241 = .ok (.goto 24, 3) := by decide +kernel
theorem dX13_goesOn_244 : decode cX13_goesOn 244 = .ok (.iload_n 1, 1) := by decide +kernel
theorem dX13_goesOn_245 : decode cX13_goesOn 245 = .ok (.bipush 59, 2) := by decide +kernel
theorem dX13_goesOn_247 : decode cX13_goesOn 247 = .ok (.if_icmp .ne 18, 3) := by decide +kernel
theorem dX13_goesOn_250 : decode cX13_goesOn 250 = .ok (.aload_n 0, 1) := by decide +kernel
theorem dX13_goesOn_251 : decode cX13_goesOn 251 = .ok (.iconst 4, 1) := by decide +kernel
theorem dX13_goesOn_252 : decode cX13_goesOn 252 = .ok (.putfield 98, 3) := by decide +kernel
theorem dX13_goesOn_255 : decode cX13_goesOn 255 = .ok (.aload_n 0, 1) := by decide +kernel
theorem dX13_goesOn_256 : decode cX13_goesOn 256 = .ok (.dup, 1) := by decide +kernel
theorem dX13_goesOn_257 : decode cX13_goesOn 257 = .ok (.getfield 101, 3) := by decide +kernel
theorem dX13_goesOn_260 : decode cX13_goesOn 260 = .ok (.iconst 1, 1) := by decide +kernel
theorem dX13_goesOn_261 : decode cX13_goesOn 261 = .ok (.iadd, 1) := by decide +kernel
theorem dX13_goesOn_262 : decode cX13_goesOn 262 = .ok (.putfield 101, 3) := by decide +kernel
theorem dX13_goesOn_265 : decode cX13_goesOn 265 = .ok (.return_, 1) := by decide +kernel
theorem dX13_flaw_0 : decode cX13_flaw 0 = .ok (.aload_n 0, 1) := by decide +kernel
theorem dX13_flaw_1 : decode cX13_flaw 1 = .ok (.getfield 98, 3) := by decide +kernel
theorem dX13_flaw_4 : decode cX13_flaw 4 = .ok (.iconst 5, 1) := by decide +kernel
theorem dX13_flaw_5 : decode cX13_flaw 5 = .ok (.if_icmp .ne 4, 3) := by decide +kernel
theorem dX13_flaw_8 : decode cX13_flaw 8 = .ok (.return_, 1) := by decide +kernel
theorem dX13_flaw_9 : decode cX13_flaw 9 = .ok (.aload_n 0, 1) := by decide +kernel
theorem dX13_flaw_10 : decode cX13_flaw 10 = .ok (.iload_n 1, 1) := by decide +kernel
theorem dX13_flaw_11 : decode cX13_flaw 11 = .ok (.putfield 124, 3) := by decide +kernel
theorem dX13_flaw_14 : decode cX13_flaw 14 = .ok (.aload_n 0, 1) := by decide +kernel
theorem dX13_flaw_15 : decode cX13_flaw 15 = .ok (.aload_n 0, 1) := by decide +kernel
theorem dX13_flaw_16 : decode cX13_flaw 16 = .ok (.getfield 107, 3) := by decide +kernel
theorem dX13_flaw_19 : decode cX13_flaw 19 = .ok (.putfield 127, 3) := by decide +kernel
theorem dX13_flaw_22 : decode cX13_flaw 22 = .ok (.aload_n 0, 1) := by decide +kernel
theorem dX13_flaw_23 : decode cX13_flaw 23 = .ok (.iconst 5, 1) := by decide +kernel
theorem dX13_flaw_24 : decode cX13_flaw 24 = .ok (.putfield 98, 3) := by decide +kernel
theorem dX13_flaw_27 : decode cX13_flaw 27 = .ok (.return_, 1) := by decide +kernel
theorem dX13_isWord_0 : decode cX13_isWord 0 = .ok (.aload_n 0, 1) := by decide +kernel
theorem dX13_isWord_1 : decode cX13_isWord 1 = .ok (.getfield 98, 3) := by decide +kernel
theorem dX13_isWord_4 : decode cX13_isWord 4 = .ok (.iconst 2, 1) := by decide +kernel
theorem dX13_isWord_5 : decode cX13_isWord 5 = .ok (.if_icmp .ne 19, 3) := by decide +kernel
theorem dX13_isWord_8 : decode cX13_isWord 8 = .ok (.aload_n 0, 1) := by decide +kernel
theorem dX13_isWord_9 : decode cX13_isWord 9 = .ok (.getfield 114, 3) := by decide +kernel
theorem dX13_isWord_12 : decode cX13_isWord 12 = .ok (.aload_n 1, 1) := by decide +kernel
theorem dX13_isWord_13 : decode cX13_isWord 13 = .ok (.invokestatic 130, 3) := by decide +kernel
theorem dX13_isWord_16 : decode cX13_isWord 16 = .ok (.lcmp, 1) := by decide +kernel
theorem dX13_isWord_17 : decode cX13_isWord 17 = .ok (.ifCond .ne 7, 3) := by decide +kernel
theorem dX13_isWord_20 : decode cX13_isWord 20 = .ok (.iconst 1, 1) := by decide +kernel
theorem dX13_isWord_21 : decode cX13_isWord 21 = .ok (.goto 4, 3) := by decide +kernel
theorem dX13_isWord_24 : decode cX13_isWord 24 = .ok (.iconst 0, 1) := by decide +kernel
theorem dX13_isWord_25 : decode cX13_isWord 25 = .ok (.ireturn, 1) := by decide +kernel
theorem dX13_eatsWord_0 : decode cX13_eatsWord 0 = .ok (.aload_n 0, 1) := by decide +kernel
theorem dX13_eatsWord_1 : decode cX13_eatsWord 1 = .ok (.aload_n 1, 1) := by decide +kernel
theorem dX13_eatsWord_2 : decode cX13_eatsWord 2 = .ok (.invokevirtual 134, 3) := by decide +kernel
theorem dX13_eatsWord_5 : decode cX13_eatsWord 5 = .ok (.istore_n 2, 1) := by decide +kernel
theorem dX13_eatsWord_6 : decode cX13_eatsWord 6 = .ok (.iload_n 2, 1) := by decide +kernel
theorem dX13_eatsWord_7 : decode cX13_eatsWord 7 = .ok (.ifCond .eq 7, 3) := by decide +kernel
theorem dX13_eatsWord_10 : decode cX13_eatsWord 10 = .ok (.aload_n 0, 1) := by decide +kernel
theorem dX13_eatsWord_11 : decode cX13_eatsWord 11 = .ok (.invokevirtual 138, 3) := by decide +kernel
theorem dX13_eatsWord_14 : decode cX13_eatsWord 14 = .ok (.iload_n 2, 1) := by decide +kernel
theorem dX13_eatsWord_15 : decode cX13_eatsWord 15 = .ok (.ireturn, 1) := by decide +kernel
theorem dX13_eatsSemicolon_0 : decode cX13_eatsSemicolon 0 = .ok (.aload_n 0, 1) := by decide +kernel
theorem dX13_eatsSemicolon_1 : decode cX13_eatsSemicolon 1 = .ok (.getfield 98, 3) := by decide +kernel
theorem dX13_eatsSemicolon_4 : decode cX13_eatsSemicolon 4 = .ok (.iconst 4, 1) := by decide +kernel
theorem dX13_eatsSemicolon_5 : decode cX13_eatsSemicolon 5 = .ok (.if_icmp .ne 7, 3) := by decide +kernel
theorem dX13_eatsSemicolon_8 : decode cX13_eatsSemicolon 8 = .ok (.iconst 1, 1) := by decide +kernel
theorem dX13_eatsSemicolon_9 : decode cX13_eatsSemicolon 9 = .ok (.goto 4, 3) := by decide +kernel
theorem dX13_eatsSemicolon_12 : decode cX13_eatsSemicolon 12 = .ok (.iconst 0, 1) := by decide +kernel
theorem dX13_eatsSemicolon_13 : decode cX13_eatsSemicolon 13 = .ok (.istore_n 1, 1) := by decide +kernel
theorem dX13_eatsSemicolon_14 : decode cX13_eatsSemicolon 14 = .ok (.iload_n 1, 1) := by decide +kernel
theorem dX13_eatsSemicolon_15 : decode cX13_eatsSemicolon 15 = .ok (.ifCond .eq 7, 3) := by decide +kernel
theorem dX13_eatsSemicolon_18 : decode cX13_eatsSemicolon 18 = .ok (.aload_n 0, 1) := by decide +kernel
theorem dX13_eatsSemicolon_19 : decode cX13_eatsSemicolon 19 = .ok (.invokevirtual 138, 3) := by decide +kernel
theorem dX13_eatsSemicolon_22 : decode cX13_eatsSemicolon 22 = .ok (.iload_n 1, 1) := by decide +kernel
theorem dX13_eatsSemicolon_23 : decode cX13_eatsSemicolon 23 = .ok (.ireturn, 1) := by decide +kernel
theorem dX13_needs_0 : decode cX13_needs 0 = .ok (.aload_n 0, 1) := by decide +kernel
theorem dX13_needs_1 : decode cX13_needs 1 = .ok (.aload_n 1, 1) := by decide +kernel
theorem dX13_needs_2 : decode cX13_needs 2 = .ok (.invokevirtual 134, 3) := by decide +kernel
theorem dX13_needs_5 : decode cX13_needs 5 = .ok (.ifCond .ne 8, 3) := by decide +kernel
theorem dX13_needs_8 : decode cX13_needs 8 = .ok (.aload_n 0, 1) := by decide +kernel
theorem dX13_needs_9 : decode cX13_needs 9 = .ok (.iconst 1, 1) := by decide +kernel
theorem dX13_needs_10 : decode cX13_needs 10 = .ok (.invokevirtual 141, 3) := by decide +kernel
theorem dX13_needs_13 : decode cX13_needs 13 = .ok (.aload_n 0, 1) := by decide +kernel
theorem dX13_needs_14 : decode cX13_needs 14 = .ok (.invokevirtual 138, 3) := by decide +kernel
theorem dX13_needs_17 : decode cX13_needs 17 = .ok (.return_, 1) := by decide +kernel
theorem dX13_bounded_0 : decode cX13_bounded 0 = .ok (.aload_n 0, 1) := by decide +kernel
theorem dX13_bounded_1 : decode cX13_bounded 1 = .ok (.getfield 98, 3) := by decide +kernel
theorem dX13_bounded_4 : decode cX13_bounded 4 = .ok (.iconst 3, 1) := by decide +kernel
theorem dX13_bounded_5 : decode cX13_bounded 5 = .ok (.if_icmp .eq 11, 3) := by decide +kernel
theorem dX13_bounded_8 : decode cX13_bounded 8 = .ok (.aload_n 0, 1) := by decide +kernel
theorem dX13_bounded_9 : decode cX13_bounded 9 = .ok (.iconst 1, 1) := by decide +kernel
theorem dX13_bounded_10 : decode cX13_bounded 10 = .ok (.invokevirtual 141, 3) := by decide +kernel
theorem dX13_bounded_13 : decode cX13_bounded 13 = .ok (.goto 20, 3) := by decide +kernel
theorem dX13_bounded_16 : decode cX13_bounded 16 = .ok (.aload_n 0, 1) := by decide +kernel
theorem dX13_bounded_17 : decode cX13_bounded 17 = .ok (.getfield 121, 3) := by decide +kernel
theorem dX13_bounded_20 : decode cX13_bounded 20 = .ok (.iload_n 1, 1) := by decide +kernel
theorem dX13_bounded_21 : decode cX13_bounded 21 = .ok (.iload_n 2, 1) := by decide +kernel
theorem dX13_bounded_22 : decode cX13_bounded 22 = .ok (.invokestatic 145, 3) := by decide +kernel
theorem dX13_bounded_25 : decode cX13_bounded 25 = .ok (.ifCond .ne 8, 3) := by decide +kernel
theorem dX13_bounded_28 : decode cX13_bounded 28 = .ok (.aload_n 0, 1) := by decide +kernel
theorem dX13_bounded_29 : decode cX13_bounded 29 = .ok (.iconst 4, 1) := by decide +kernel
theorem dX13_bounded_30 : decode cX13_bounded 30 = .ok (.invokevirtual 141, 3) := by decide +kernel
theorem dX13_bounded_33 : decode cX13_bounded 33 = .ok (.aload_n 0, 1) := by decide +kernel
theorem dX13_bounded_34 : decode cX13_bounded 34 = .ok (.getfield 98, 3) := by decide +kernel
theorem dX13_bounded_37 : decode cX13_bounded 37 = .ok (.iconst 5, 1) := by decide +kernel
theorem dX13_bounded_38 : decode cX13_bounded 38 = .ok (.if_icmp .ne 7, 3) := by decide +kernel
theorem dX13_bounded_41 : decode cX13_bounded 41 = .ok (.iload_n 1, 1) := by decide +kernel
theorem dX13_bounded_42 : decode cX13_bounded 42 = .ok (.goto 7, 3) := by decide +kernel
theorem dX13_bounded_45 : decode cX13_bounded 45 = .ok (.aload_n 0, 1) := by decide +kernel
theorem dX13_bounded_46 : decode cX13_bounded 46 = .ok (.getfield 121, 3) := by decide +kernel
theorem dX13_bounded_49 : decode cX13_bounded 49 = .ok (.ireturn, 1) := by decide +kernel
theorem dX13_readPart_0 : decode cX13_readPart 0 = .ok (.aload_n 0, 1) := by decide +kernel
theorem dX13_readPart_1 : decode cX13_readPart 1 = .ok (.aload_n 1, 1) := by decide +kernel
theorem dX13_readPart_2 : decode cX13_readPart 2 = .ok (.invokevirtual 149, 3) := by decide +kernel
theorem dX13_readPart_5 : decode cX13_readPart 5 = .ok (.aload_n 0, 1) := by decide +kernel
theorem dX13_readPart_6 : decode cX13_readPart 6 = .ok (.iload_n 2, 1) := by decide +kernel
theorem dX13_readPart_7 : decode cX13_readPart 7 = .ok (.iload_n 3, 1) := by decide +kernel
theorem dX13_readPart_8 : decode cX13_readPart 8 = .ok (.invokevirtual 153, 3) := by decide +kernel
theorem dX13_readPart_11 : decode cX13_readPart 11 = .ok (.istore 4, 2) := by decide +kernel
theorem dX13_readPart_13 : decode cX13_readPart 13 = .ok (.aload_n 0, 1) := by decide +kernel
theorem dX13_readPart_14 : decode cX13_readPart 14 = .ok (.invokevirtual 138, 3) := by decide +kernel
theorem dX13_readPart_17 : decode cX13_readPart 17 = .ok (.iload 4, 2) := by decide +kernel
theorem dX13_readPart_19 : decode cX13_readPart 19 = .ok (.ireturn, 1) := by decide +kernel
theorem dX13_isName_0 : decode cX13_isName 0 = .ok (.aload_n 0, 1) := by decide +kernel
theorem dX13_isName_1 : decode cX13_isName 1 = .ok (.getfield 98, 3) := by decide +kernel
theorem dX13_isName_4 : decode cX13_isName 4 = .ok (.iconst 2, 1) := by decide +kernel
theorem dX13_isName_5 : decode cX13_isName 5 = .ok (.if_icmp .ne 43, 3) := by decide +kernel
theorem dX13_isName_8 : decode cX13_isName 8 = .ok (.aload_n 0, 1) := by decide +kernel
theorem dX13_isName_9 : decode cX13_isName 9 = .ok (.ldc 157, 2) := by decide +kernel
theorem dX13_isName_11 : decode cX13_isName 11 = .ok (.invokevirtual 134, 3) := by decide +kernel
theorem dX13_isName_14 : decode cX13_isName 14 = .ok (.ifCond .ne 34, 3) := by decide +kernel
theorem dX13_isName_17 : decode cX13_isName 17 = .ok (.aload_n 0, 1) := by decide +kernel
theorem dX13_isName_18 : decode cX13_isName 18 = .ok (.ldc 159, 2) := by decide +kernel
theorem dX13_isName_20 : decode cX13_isName 20 = .ok (.invokevirtual 134, 3) := by decide +kernel
theorem dX13_isName_23 : decode cX13_isName 23 = .ok (.ifCond .ne 25, 3) := by decide +kernel
theorem dX13_isName_26 : decode cX13_isName 26 = .ok (.aload_n 0, 1) := by decide +kernel
theorem dX13_isName_27 : decode cX13_isName 27 = .ok (.ldc 161, 2) := by decide +kernel
theorem dX13_isName_29 : decode cX13_isName 29 = .ok (.invokevirtual 134, 3) := by decide +kernel
theorem dX13_isName_32 : decode cX13_isName 32 = .ok (.ifCond .ne 16, 3) := by decide +kernel
theorem dX13_isName_35 : decode cX13_isName 35 = .ok (.aload_n 0, 1) := by decide +kernel
theorem dX13_isName_36 : decode cX13_isName 36 = .ok (.ldc 163, 2) := by decide +kernel
theorem dX13_isName_38 : decode cX13_isName 38 = .ok (.invokevirtual 134, 3) := by decide +kernel
theorem dX13_isName_41 : decode cX13_isName 41 = .ok (.ifCond .ne 7, 3) := by decide +kernel
theorem dX13_isName_44 : decode cX13_isName 44 = .ok (.iconst 1, 1) := by decide +kernel
theorem dX13_isName_45 : decode cX13_isName 45 = .ok (.goto 4, 3) := by decide +kernel
theorem dX13_isName_48 : decode cX13_isName 48 = .ok (.iconst 0, 1) := by decide +kernel
theorem dX13_isName_49 : decode cX13_isName 49 = .ok (.ireturn, 1) := by decide +kernel
theorem dX13_begins_0 : decode cX13_begins 0 = .ok (.iload_n 1, 1) := by decide +kernel
theorem dX13_begins_1 : decode cX13_begins 1 = .ok (.iload_n 2, 1) := by decide +kernel
theorem dX13_begins_2 : decode cX13_begins 2 = .ok (.if_icmp .ne 8, 3) := by decide +kernel
theorem dX13_begins_5 : decode cX13_begins 5 = .ok (.aload_n 0, 1) := by decide +kernel
theorem dX13_begins_6 : decode cX13_begins 6 = .ok (.iconst 5, 1) := by decide +kernel
theorem dX13_begins_7 : decode cX13_begins 7 = .ok (.invokevirtual 141, 3) := by decide +kernel
theorem dX13_begins_10 : decode cX13_begins 10 = .ok (.aload_n 0, 1) := by decide +kernel
theorem dX13_begins_11 : decode cX13_begins 11 = .ok (.getfield 165, 3) := by decide +kernel
theorem dX13_begins_14 : decode cX13_begins 14 = .ok (.getfield 169, 3) := by decide +kernel
theorem dX13_begins_17 : decode cX13_begins 17 = .ok (.iconst (-1), 1) := by decide +kernel
theorem dX13_begins_18 : decode cX13_begins 18 = .ok (.if_icmp .ne 9, 3) := by decide +kernel
theorem dX13_begins_21 : decode cX13_begins 21 = .ok (.aload_n 0, 1) := by decide +kernel
theorem dX13_begins_22 : decode cX13_begins 22 = .ok (.bipush 6, 2) := by decide +kernel
theorem dX13_begins_24 : decode cX13_begins 24 = .ok (.invokevirtual 141, 3) := by decide +kernel
theorem dX13_begins_27 : decode cX13_begins 27 = .ok (.aload_n 0, 1) := by decide +kernel
theorem dX13_begins_28 : decode cX13_begins 28 = .ok (.invokevirtual 138, 3) := by decide +kernel
theorem dX13_begins_31 : decode cX13_begins 31 = .ok (.return_, 1) := by decide +kernel
theorem dX13_readFresh_0 : decode cX13_readFresh 0 = .ok (.aload_n 0, 1) := by decide +kernel
theorem dX13_readFresh_1 : decode cX13_readFresh 1 = .ok (.invokevirtual 174, 3) := by decide +kernel
theorem dX13_readFresh_4 : decode cX13_readFresh 4 = .ok (.ifCond .ne 8, 3) := by decide +kernel
theorem dX13_readFresh_7 : decode cX13_readFresh 7 = .ok (.aload_n 0, 1) := by decide +kernel
theorem dX13_readFresh_8 : decode cX13_readFresh 8 = .ok (.iconst 1, 1) := by decide +kernel
theorem dX13_readFresh_9 : decode cX13_readFresh 9 = .ok (.invokevirtual 141, 3) := by decide +kernel
theorem dX13_readFresh_12 : decode cX13_readFresh 12 = .ok (.aload_n 0, 1) := by decide +kernel
theorem dX13_readFresh_13 : decode cX13_readFresh 13 = .ok (.getfield 165, 3) := by decide +kernel
theorem dX13_readFresh_16 : decode cX13_readFresh 16 = .ok (.aload_n 0, 1) := by decide +kernel
theorem dX13_readFresh_17 : decode cX13_readFresh 17 = .ok (.getfield 114, 3) := by decide +kernel
theorem dX13_readFresh_20 : decode cX13_readFresh 20 = .ok (.invokevirtual 178, 3) := by decide +kernel
theorem dX13_readFresh_23 : decode cX13_readFresh 23 = .ok (.iconst (-1), 1) := by decide +kernel
theorem dX13_readFresh_24 : decode cX13_readFresh 24 = .ok (.if_icmp .eq 8, 3) := by decide +kernel
theorem dX13_readFresh_27 : decode cX13_readFresh 27 = .ok (.aload_n 0, 1) := by decide +kernel
theorem dX13_readFresh_28 : decode cX13_readFresh 28 = .ok (.iconst 3, 1) := by decide +kernel
theorem dX13_readFresh_29 : decode cX13_readFresh 29 = .ok (.invokevirtual 141, 3) := by decide +kernel
theorem dX13_readFresh_32 : decode cX13_readFresh 32 = .ok (.aload_n 0, 1) := by decide +kernel
theorem dX13_readFresh_33 : decode cX13_readFresh 33 = .ok (.getfield 114, 3) := by decide +kernel
theorem dX13_readFresh_36 : decode cX13_readFresh 36 = .ok (.lstore_n 1, 1) := by decide +kernel
theorem dX13_readFresh_37 : decode cX13_readFresh 37 = .ok (.aload_n 0, 1) := by decide +kernel
theorem dX13_readFresh_38 : decode cX13_readFresh 38 = .ok (.invokevirtual 138, 3) := by decide +kernel
theorem dX13_readFresh_41 : decode cX13_readFresh 41 = .ok (.lload_n 1, 1) := by decide +kernel
theorem dX13_readFresh_42 : decode cX13_readFresh 42 = .ok (.lreturn, 1) := by decide +kernel
theorem dX13_names_0 : decode cX13_names 0 = .ok (.aload_n 0, 1) := by decide +kernel
theorem dX13_names_1 : decode cX13_names 1 = .ok (.getfield 165, 3) := by decide +kernel
theorem dX13_names_4 : decode cX13_names 4 = .ok (.getfield 182, 3) := by decide +kernel
theorem dX13_names_7 : decode cX13_names 7 = .ok (.aload_n 0, 1) := by decide +kernel
theorem dX13_names_8 : decode cX13_names 8 = .ok (.getfield 165, 3) := by decide +kernel
theorem dX13_names_11 : decode cX13_names 11 = .ok (.getfield 185, 3) := by decide +kernel
theorem dX13_names_14 : decode cX13_names 14 = .ok (.lload_n 1, 1) := by decide +kernel
theorem dX13_names_15 : decode cX13_names 15 = .ok (.lastore, 1) := by decide +kernel
theorem dX13_names_16 : decode cX13_names 16 = .ok (.aload_n 0, 1) := by decide +kernel
theorem dX13_names_17 : decode cX13_names 17 = .ok (.getfield 165, 3) := by decide +kernel
theorem dX13_names_20 : decode cX13_names 20 = .ok (.getfield 188, 3) := by decide +kernel
theorem dX13_names_23 : decode cX13_names 23 = .ok (.aload_n 0, 1) := by decide +kernel
theorem dX13_names_24 : decode cX13_names 24 = .ok (.getfield 165, 3) := by decide +kernel
theorem dX13_names_27 : decode cX13_names 27 = .ok (.getfield 185, 3) := by decide +kernel
theorem dX13_names_30 : decode cX13_names 30 = .ok (.iload_n 3, 1) := by decide +kernel
theorem dX13_names_31 : decode cX13_names 31 = .ok (.iastore, 1) := by decide +kernel
theorem dX13_names_32 : decode cX13_names 32 = .ok (.aload_n 0, 1) := by decide +kernel
theorem dX13_names_33 : decode cX13_names 33 = .ok (.getfield 165, 3) := by decide +kernel
theorem dX13_names_36 : decode cX13_names 36 = .ok (.getfield 191, 3) := by decide +kernel
theorem dX13_names_39 : decode cX13_names 39 = .ok (.aload_n 0, 1) := by decide +kernel
theorem dX13_names_40 : decode cX13_names 40 = .ok (.getfield 165, 3) := by decide +kernel
theorem dX13_names_43 : decode cX13_names 43 = .ok (.getfield 185, 3) := by decide +kernel
theorem dX13_names_46 : decode cX13_names 46 = .ok (.iload 4, 2) := by decide +kernel
theorem dX13_names_48 : decode cX13_names 48 = .ok (.iastore, 1) := by decide +kernel
theorem dX13_names_49 : decode cX13_names 49 = .ok (.aload_n 0, 1) := by decide +kernel
theorem dX13_names_50 : decode cX13_names 50 = .ok (.getfield 165, 3) := by decide +kernel
theorem dX13_names_53 : decode cX13_names 53 = .ok (.dup, 1) := by decide +kernel
theorem dX13_names_54 : decode cX13_names 54 = .ok (.getfield 185, 3) := by decide +kernel
theorem dX13_names_57 : decode cX13_names 57 = .ok (.iconst 1, 1) := by decide +kernel
theorem dX13_names_58 : decode cX13_names 58 = .ok (.iadd, 1) := by decide +kernel
theorem dX13_names_59 : decode cX13_names 59 = .ok (.putfield 185, 3) := by decide +kernel
theorem dX13_names_62 : decode cX13_names 62 = .ok (.return_, 1) := by decide +kernel
theorem dX13_known_0 : decode cX13_known 0 = .ok (.aload_n 0, 1) := by decide +kernel
theorem dX13_known_1 : decode cX13_known 1 = .ok (.invokevirtual 174, 3) := by decide +kernel
theorem dX13_known_4 : decode cX13_known 4 = .ok (.ifCond .ne 8, 3) := by decide +kernel
theorem dX13_known_7 : decode cX13_known 7 = .ok (.aload_n 0, 1) := by decide +kernel
theorem dX13_known_8 : decode cX13_known 8 = .ok (.iconst 1, 1) := by decide +kernel
theorem dX13_known_9 : decode cX13_known 9 = .ok (.invokevirtual 141, 3) := by decide +kernel
theorem dX13_known_12 : decode cX13_known 12 = .ok (.aload_n 0, 1) := by decide +kernel
theorem dX13_known_13 : decode cX13_known 13 = .ok (.getfield 165, 3) := by decide +kernel
theorem dX13_known_16 : decode cX13_known 16 = .ok (.aload_n 0, 1) := by decide +kernel
theorem dX13_known_17 : decode cX13_known 17 = .ok (.getfield 114, 3) := by decide +kernel
theorem dX13_known_20 : decode cX13_known 20 = .ok (.invokevirtual 178, 3) := by decide +kernel
theorem dX13_known_23 : decode cX13_known 23 = .ok (.istore_n 2, 1) := by decide +kernel
theorem dX13_known_24 : decode cX13_known 24 = .ok (.iload_n 2, 1) := by decide +kernel
theorem dX13_known_25 : decode cX13_known 25 = .ok (.iconst (-1), 1) := by decide +kernel
theorem dX13_known_26 : decode cX13_known 26 = .ok (.if_icmp .eq 16, 3) := by decide +kernel
theorem dX13_known_29 : decode cX13_known 29 = .ok (.aload_n 0, 1) := by decide +kernel
theorem dX13_known_30 : decode cX13_known 30 = .ok (.getfield 165, 3) := by decide +kernel
theorem dX13_known_33 : decode cX13_known 33 = .ok (.getfield 188, 3) := by decide +kernel
theorem dX13_known_36 : decode cX13_known 36 = .ok (.iload_n 2, 1) := by decide +kernel
theorem dX13_known_37 : decode cX13_known 37 = .ok (.iaload, 1) := by decide +kernel
theorem dX13_known_38 : decode cX13_known 38 = .ok (.iload_n 1, 1) := by decide +kernel
theorem dX13_known_39 : decode cX13_known 39 = .ok (.if_icmp .eq 8, 3) := by decide +kernel
theorem dX13_known_42 : decode cX13_known 42 = .ok (.aload_n 0, 1) := by decide +kernel
theorem dX13_known_43 : decode cX13_known 43 = .ok (.iconst 2, 1) := by decide +kernel
theorem dX13_known_44 : decode cX13_known 44 = .ok (.invokevirtual 141, 3) := by decide +kernel
theorem dX13_known_47 : decode cX13_known 47 = .ok (.aload_n 0, 1) := by decide +kernel
theorem dX13_known_48 : decode cX13_known 48 = .ok (.getfield 98, 3) := by decide +kernel
theorem dX13_known_51 : decode cX13_known 51 = .ok (.iconst 5, 1) := by decide +kernel
theorem dX13_known_52 : decode cX13_known 52 = .ok (.if_icmp .ne 7, 3) := by decide +kernel
theorem dX13_known_55 : decode cX13_known 55 = .ok (.iconst 0, 1) := by decide +kernel
theorem dX13_known_56 : decode cX13_known 56 = .ok (.goto 12, 3) := by decide +kernel
theorem dX13_known_59 : decode cX13_known 59 = .ok (.aload_n 0, 1) := by decide +kernel
theorem dX13_known_60 : decode cX13_known 60 = .ok (.getfield 165, 3) := by decide +kernel
theorem dX13_known_63 : decode cX13_known 63 = .ok (.getfield 191, 3) := by decide +kernel
theorem dX13_known_66 : decode cX13_known 66 = .ok (.iload_n 2, 1) := by decide +kernel
theorem dX13_known_67 : decode cX13_known 67 = .ok (.iaload, 1) := by decide +kernel
theorem dX13_known_68 : decode cX13_known 68 = .ok (.ireturn, 1) := by decide +kernel
theorem dX13_readAll_0 : decode cX13_readAll 0 = .ok (.iconst 1, 1) := by decide +kernel
theorem dX13_readAll_1 : decode cX13_readAll 1 = .ok (.istore_n 1, 1) := by decide +kernel
theorem dX13_readAll_2 : decode cX13_readAll 2 = .ok (.iload_n 1, 1) := by decide +kernel
theorem dX13_readAll_3 : decode cX13_readAll 3 = .ok (.ifCond .eq 15, 3) := by decide +kernel
theorem dX13_readAll_6 : decode cX13_readAll 6 = .ok (.aload_n 0, 1) := by decide +kernel
theorem dX13_readAll_7 : decode cX13_readAll 7 = .ok (.invokevirtual 194, 3) := by decide +kernel
theorem dX13_readAll_10 : decode cX13_readAll 10 = .ok (.aload_n 0, 1) := by decide +kernel
theorem dX13_readAll_11 : decode cX13_readAll 11 = .ok (.invokevirtual 197, 3) := by decide +kernel
theorem dX13_readAll_14 : decode cX13_readAll 14 = .ok (.istore_n 1, 1) := by decide +kernel
theorem dX13_readAll_15 : decode cX13_readAll 15 = .ok (.goto (-13), 3) := by decide +kernel
theorem dX13_readAll_18 : decode cX13_readAll 18 = .ok (.aload_n 0, 1) := by decide +kernel
theorem dX13_readAll_19 : decode cX13_readAll 19 = .ok (.getfield 98, 3) := by decide +kernel
theorem dX13_readAll_22 : decode cX13_readAll 22 = .ok (.iconst 1, 1) := by decide +kernel
theorem dX13_readAll_23 : decode cX13_readAll 23 = .ok (.if_icmp .eq 8, 3) := by decide +kernel
theorem dX13_readAll_26 : decode cX13_readAll 26 = .ok (.aload_n 0, 1) := by decide +kernel
theorem dX13_readAll_27 : decode cX13_readAll 27 = .ok (.iconst 1, 1) := by decide +kernel
theorem dX13_readAll_28 : decode cX13_readAll 28 = .ok (.invokevirtual 141, 3) := by decide +kernel
theorem dX13_readAll_31 : decode cX13_readAll 31 = .ok (.aload_n 0, 1) := by decide +kernel
theorem dX13_readAll_32 : decode cX13_readAll 32 = .ok (.getfield 165, 3) := by decide +kernel
theorem dX13_readAll_35 : decode cX13_readAll 35 = .ok (.getfield 169, 3) := by decide +kernel
theorem dX13_readAll_38 : decode cX13_readAll 38 = .ok (.iconst (-1), 1) := by decide +kernel
theorem dX13_readAll_39 : decode cX13_readAll 39 = .ok (.if_icmp .eq 30, 3) := by decide +kernel
theorem dX13_readAll_42 : decode cX13_readAll 42 = .ok (.aload_n 0, 1) := by decide +kernel
theorem dX13_readAll_43 : decode cX13_readAll 43 = .ok (.getfield 165, 3) := by decide +kernel
theorem dX13_readAll_46 : decode cX13_readAll 46 = .ok (.getfield 200, 3) := by decide +kernel
theorem dX13_readAll_49 : decode cX13_readAll 49 = .ok (.ifCond .eq 20, 3) := by decide +kernel
theorem dX13_readAll_52 : decode cX13_readAll 52 = .ok (.aload_n 0, 1) := by decide +kernel
theorem dX13_readAll_53 : decode cX13_readAll 53 = .ok (.getfield 165, 3) := by decide +kernel
theorem dX13_readAll_56 : decode cX13_readAll 56 = .ok (.getfield 203, 3) := by decide +kernel
theorem dX13_readAll_59 : decode cX13_readAll 59 = .ok (.aload_n 0, 1) := by decide +kernel
theorem dX13_readAll_60 : decode cX13_readAll 60 = .ok (.getfield 165, 3) := by decide +kernel
theorem dX13_readAll_63 : decode cX13_readAll 63 = .ok (.getfield 200, 3) := by decide +kernel
theorem dX13_readAll_66 : decode cX13_readAll 66 = .ok (.if_icmp .ge 9, 3) := by decide +kernel
theorem dX13_readAll_69 : decode cX13_readAll 69 = .ok (.aload_n 0, 1) := by decide +kernel
theorem dX13_readAll_70 : decode cX13_readAll 70 = .ok (.bipush 6, 2) := by decide +kernel
theorem dX13_readAll_72 : decode cX13_readAll 72 = .ok (.invokevirtual 141, 3) := by decide +kernel
theorem dX13_readAll_75 : decode cX13_readAll 75 = .ok (.return_, 1) := by decide +kernel
theorem dX13_readLine_0 : decode cX13_readLine 0 = .ok (.aload_n 0, 1) := by decide +kernel
theorem dX13_readLine_1 : decode cX13_readLine 1 = .ok (.ldc 157, 2) := by decide +kernel
theorem dX13_readLine_3 : decode cX13_readLine 3 = .ok (.invokevirtual 134, 3) := by decide +kernel
theorem dX13_readLine_6 : decode cX13_readLine 6 = .ok (.ifCond .eq 10, 3) := by decide +kernel
theorem dX13_readLine_9 : decode cX13_readLine 9 = .ok (.aload_n 0, 1) := by decide +kernel
theorem dX13_readLine_10 : decode cX13_readLine 10 = .ok (.invokevirtual 206, 3) := by decide +kernel
theorem dX13_readLine_13 : decode cX13_readLine 13 = .ok (.goto 56, 3) := by decide +kernel
theorem dX13_readLine_16 : decode cX13_readLine 16 = .ok (.aload_n 0, 1) := by decide +kernel
theorem dX13_readLine_17 : decode cX13_readLine 17 = .ok (.ldc 159, 2) := by decide +kernel
theorem dX13_readLine_19 : decode cX13_readLine 19 = .ok (.invokevirtual 134, 3) := by decide +kernel
theorem dX13_readLine_22 : decode cX13_readLine 22 = .ok (.ifCond .eq 10, 3) := by decide +kernel
theorem dX13_readLine_25 : decode cX13_readLine 25 = .ok (.aload_n 0, 1) := by decide +kernel
theorem dX13_readLine_26 : decode cX13_readLine 26 = .ok (.invokevirtual 209, 3) := by decide +kernel
theorem dX13_readLine_29 : decode cX13_readLine 29 = .ok (.goto 40, 3) := by decide +kernel
theorem dX13_readLine_32 : decode cX13_readLine 32 = .ok (.aload_n 0, 1) := by decide +kernel
theorem dX13_readLine_33 : decode cX13_readLine 33 = .ok (.ldc 161, 2) := by decide +kernel
theorem dX13_readLine_35 : decode cX13_readLine 35 = .ok (.invokevirtual 134, 3) := by decide +kernel
theorem dX13_readLine_38 : decode cX13_readLine 38 = .ok (.ifCond .eq 10, 3) := by decide +kernel
theorem dX13_readLine_41 : decode cX13_readLine 41 = .ok (.aload_n 0, 1) := by decide +kernel
theorem dX13_readLine_42 : decode cX13_readLine 42 = .ok (.invokevirtual 212, 3) := by decide +kernel
theorem dX13_readLine_45 : decode cX13_readLine 45 = .ok (.goto 24, 3) := by decide +kernel
theorem dX13_readLine_48 : decode cX13_readLine 48 = .ok (.aload_n 0, 1) := by decide +kernel
theorem dX13_readLine_49 : decode cX13_readLine 49 = .ok (.ldc 163, 2) := by decide +kernel
theorem dX13_readLine_51 : decode cX13_readLine 51 = .ok (.invokevirtual 134, 3) := by decide +kernel
theorem dX13_readLine_54 : decode cX13_readLine 54 = .ok (.ifCond .eq 10, 3) := by decide +kernel
theorem dX13_readLine_57 : decode cX13_readLine 57 = .ok (.aload_n 0, 1) := by decide +kernel
theorem dX13_readLine_58 : decode cX13_readLine 58 = .ok (.invokevirtual 215, 3) := by decide +kernel
theorem dX13_readLine_61 : decode cX13_readLine 61 = .ok (.goto 8, 3) := by decide +kernel
theorem dX13_readLine_64 : decode cX13_readLine 64 = .ok (.aload_n 0, 1) := by decide +kernel
theorem dX13_readLine_65 : decode cX13_readLine 65 = .ok (.iconst 1, 1) := by decide +kernel
theorem dX13_readLine_66 : decode cX13_readLine 66 = .ok (.invokevirtual 141, 3) := by decide +kernel
theorem dX13_readLine_69 : decode cX13_readLine 69 = .ok (.return_, 1) := by decide +kernel
theorem dX13_readTangle_0 : decode cX13_readTangle 0 = .ok (.aload_n 0, 1) := by decide +kernel
theorem dX13_readTangle_1 : decode cX13_readTangle 1 = .ok (.getfield 165, 3) := by decide +kernel
theorem dX13_readTangle_4 : decode cX13_readTangle 4 = .ok (.getfield 169, 3) := by decide +kernel
theorem dX13_readTangle_7 : decode cX13_readTangle 7 = .ok (.iconst (-1), 1) := by decide +kernel
theorem dX13_readTangle_8 : decode cX13_readTangle 8 = .ok (.if_icmp .eq 8, 3) := by decide +kernel
theorem dX13_readTangle_11 : decode cX13_readTangle 11 = .ok (.aload_n 0, 1) := by decide +kernel
theorem dX13_readTangle_12 : decode cX13_readTangle 12 = .ok (.iconst 3, 1) := by decide +kernel
theorem dX13_readTangle_13 : decode cX13_readTangle 13 = .ok (.invokevirtual 141, 3) := by decide +kernel
theorem dX13_readTangle_16 : decode cX13_readTangle 16 = .ok (.aload_n 0, 1) := by decide +kernel
theorem dX13_readTangle_17 : decode cX13_readTangle 17 = .ok (.invokevirtual 138, 3) := by decide +kernel
theorem dX13_readTangle_20 : decode cX13_readTangle 20 = .ok (.aload_n 0, 1) := by decide +kernel
theorem dX13_readTangle_21 : decode cX13_readTangle 21 = .ok (.ldc 218, 2) := by decide +kernel
theorem dX13_readTangle_23 : decode cX13_readTangle 23 = .ok (.iconst 0, 1) := by decide +kernel
theorem dX13_readTangle_24 : decode cX13_readTangle 24 = .ok (.bipush 99, 2) := by decide +kernel
theorem dX13_readTangle_26 : decode cX13_readTangle 26 = .ok (.invokevirtual 220, 3) := by decide +kernel
theorem dX13_readTangle_29 : decode cX13_readTangle 29 = .ok (.istore_n 1, 1) := by decide +kernel
theorem dX13_readTangle_30 : decode cX13_readTangle 30 = .ok (.aload_n 0, 1) := by decide +kernel
theorem dX13_readTangle_31 : decode cX13_readTangle 31 = .ok (.ldc 224, 2) := by decide +kernel
theorem dX13_readTangle_33 : decode cX13_readTangle 33 = .ok (.invokevirtual 226, 3) := by decide +kernel
theorem dX13_readTangle_36 : decode cX13_readTangle 36 = .ok (.istore_n 2, 1) := by decide +kernel
theorem dX13_readTangle_37 : decode cX13_readTangle 37 = .ok (.aload_n 0, 1) := by decide +kernel
theorem dX13_readTangle_38 : decode cX13_readTangle 38 = .ok (.getfield 98, 3) := by decide +kernel
theorem dX13_readTangle_41 : decode cX13_readTangle 41 = .ok (.iconst 5, 1) := by decide +kernel
theorem dX13_readTangle_42 : decode cX13_readTangle 42 = .ok (.if_icmp .ne 4, 3) := by decide +kernel
theorem dX13_readTangle_45 : decode cX13_readTangle 45 = .ok (.return_, 1) := by decide +kernel
theorem dX13_readTangle_46 : decode cX13_readTangle 46 = .ok (.aload_n 0, 1) := by decide +kernel
theorem dX13_readTangle_47 : decode cX13_readTangle 47 = .ok (.getfield 165, 3) := by decide +kernel
theorem dX13_readTangle_50 : decode cX13_readTangle 50 = .ok (.iload_n 1, 1) := by decide +kernel
theorem dX13_readTangle_51 : decode cX13_readTangle 51 = .ok (.putfield 169, 3) := by decide +kernel
theorem dX13_readTangle_54 : decode cX13_readTangle 54 = .ok (.aload_n 0, 1) := by decide +kernel
theorem dX13_readTangle_55 : decode cX13_readTangle 55 = .ok (.getfield 165, 3) := by decide +kernel
theorem dX13_readTangle_58 : decode cX13_readTangle 58 = .ok (.iload_n 2, 1) := by decide +kernel
theorem dX13_readTangle_59 : decode cX13_readTangle 59 = .ok (.putfield 229, 3) := by decide +kernel
theorem dX13_readTangle_62 : decode cX13_readTangle 62 = .ok (.return_, 1) := by decide +kernel
theorem dX13_readPerson_0 : decode cX13_readPerson 0 = .ok (.aload_n 0, 1) := by decide +kernel
theorem dX13_readPerson_1 : decode cX13_readPerson 1 = .ok (.aload_n 0, 1) := by decide +kernel
theorem dX13_readPerson_2 : decode cX13_readPerson 2 = .ok (.getfield 165, 3) := by decide +kernel
theorem dX13_readPerson_5 : decode cX13_readPerson 5 = .ok (.getfield 200, 3) := by decide +kernel
theorem dX13_readPerson_8 : decode cX13_readPerson 8 = .ok (.bipush 8, 2) := by decide +kernel
theorem dX13_readPerson_10 : decode cX13_readPerson 10 = .ok (.invokevirtual 232, 3) := by decide +kernel
theorem dX13_readPerson_13 : decode cX13_readPerson 13 = .ok (.aload_n 0, 1) := by decide +kernel
theorem dX13_readPerson_14 : decode cX13_readPerson 14 = .ok (.invokevirtual 236, 3) := by decide +kernel
theorem dX13_readPerson_17 : decode cX13_readPerson 17 = .ok (.lstore_n 1, 1) := by decide +kernel
theorem dX13_readPerson_18 : decode cX13_readPerson 18 = .ok (.aload_n 0, 1) := by decide +kernel
theorem dX13_readPerson_19 : decode cX13_readPerson 19 = .ok (.ldc 218, 2) := by decide +kernel
theorem dX13_readPerson_21 : decode cX13_readPerson 21 = .ok (.iconst 1, 1) := by decide +kernel
theorem dX13_readPerson_22 : decode cX13_readPerson 22 = .ok (.bipush 99, 2) := by decide +kernel
theorem dX13_readPerson_24 : decode cX13_readPerson 24 = .ok (.invokevirtual 220, 3) := by decide +kernel
theorem dX13_readPerson_27 : decode cX13_readPerson 27 = .ok (.istore_n 3, 1) := by decide +kernel
theorem dX13_readPerson_28 : decode cX13_readPerson 28 = .ok (.aload_n 0, 1) := by decide +kernel
theorem dX13_readPerson_29 : decode cX13_readPerson 29 = .ok (.getfield 98, 3) := by decide +kernel
theorem dX13_readPerson_32 : decode cX13_readPerson 32 = .ok (.iconst 5, 1) := by decide +kernel
theorem dX13_readPerson_33 : decode cX13_readPerson 33 = .ok (.if_icmp .ne 4, 3) := by decide +kernel
theorem dX13_readPerson_36 : decode cX13_readPerson 36 = .ok (.return_, 1) := by decide +kernel
theorem dX13_readPerson_37 : decode cX13_readPerson 37 = .ok (.aload_n 0, 1) := by decide +kernel
theorem dX13_readPerson_38 : decode cX13_readPerson 38 = .ok (.lload_n 1, 1) := by decide +kernel
theorem dX13_readPerson_39 : decode cX13_readPerson 39 = .ok (.iconst 0, 1) := by decide +kernel
theorem dX13_readPerson_40 : decode cX13_readPerson 40 = .ok (.aload_n 0, 1) := by decide +kernel
theorem dX13_readPerson_41 : decode cX13_readPerson 41 = .ok (.getfield 165, 3) := by decide +kernel
theorem dX13_readPerson_44 : decode cX13_readPerson 44 = .ok (.getfield 200, 3) := by decide +kernel
theorem dX13_readPerson_47 : decode cX13_readPerson 47 = .ok (.invokevirtual 240, 3) := by decide +kernel
theorem dX13_readPerson_50 : decode cX13_readPerson 50 = .ok (.aload_n 0, 1) := by decide +kernel
theorem dX13_readPerson_51 : decode cX13_readPerson 51 = .ok (.getfield 165, 3) := by decide +kernel
theorem dX13_readPerson_54 : decode cX13_readPerson 54 = .ok (.getfield 243, 3) := by decide +kernel
theorem dX13_readPerson_57 : decode cX13_readPerson 57 = .ok (.aload_n 0, 1) := by decide +kernel
theorem dX13_readPerson_58 : decode cX13_readPerson 58 = .ok (.getfield 165, 3) := by decide +kernel
theorem dX13_readPerson_61 : decode cX13_readPerson 61 = .ok (.getfield 200, 3) := by decide +kernel
theorem dX13_readPerson_64 : decode cX13_readPerson 64 = .ok (.iload_n 3, 1) := by decide +kernel
theorem dX13_readPerson_65 : decode cX13_readPerson 65 = .ok (.iastore, 1) := by decide +kernel
theorem dX13_readPerson_66 : decode cX13_readPerson 66 = .ok (.aload_n 0, 1) := by decide +kernel
theorem dX13_readPerson_67 : decode cX13_readPerson 67 = .ok (.getfield 165, 3) := by decide +kernel
theorem dX13_readPerson_70 : decode cX13_readPerson 70 = .ok (.getfield 245, 3) := by decide +kernel
theorem dX13_readPerson_73 : decode cX13_readPerson 73 = .ok (.iconst 2, 1) := by decide +kernel
theorem dX13_readPerson_74 : decode cX13_readPerson 74 = .ok (.aload_n 0, 1) := by decide +kernel
theorem dX13_readPerson_75 : decode cX13_readPerson 75 = .ok (.getfield 165, 3) := by decide +kernel
theorem dX13_readPerson_78 : decode cX13_readPerson 78 = .ok (.getfield 200, 3) := by decide +kernel
theorem dX13_readPerson_81 : decode cX13_readPerson 81 = .ok (.imul, 1) := by decide +kernel
theorem dX13_readPerson_82 : decode cX13_readPerson 82 = .ok (.iconst (-1), 1) := by decide +kernel
theorem dX13_readPerson_83 : decode cX13_readPerson 83 = .ok (.iastore, 1) := by decide +kernel
theorem dX13_readPerson_84 : decode cX13_readPerson 84 = .ok (.aload_n 0, 1) := by decide +kernel
theorem dX13_readPerson_85 : decode cX13_readPerson 85 = .ok (.getfield 165, 3) := by decide +kernel
theorem dX13_readPerson_88 : decode cX13_readPerson 88 = .ok (.getfield 245, 3) := by decide +kernel
theorem dX13_readPerson_91 : decode cX13_readPerson 91 = .ok (.iconst 2, 1) := by decide +kernel
theorem dX13_readPerson_92 : decode cX13_readPerson 92 = .ok (.aload_n 0, 1) := by decide +kernel
theorem dX13_readPerson_93 : decode cX13_readPerson 93 = .ok (.getfield 165, 3) := by decide +kernel
theorem dX13_readPerson_96 : decode cX13_readPerson 96 = .ok (.getfield 200, 3) := by decide +kernel
theorem dX13_readPerson_99 : decode cX13_readPerson 99 = .ok (.imul, 1) := by decide +kernel
theorem dX13_readPerson_100 : decode cX13_readPerson 100 = .ok (.iconst 1, 1) := by decide +kernel
theorem dX13_readPerson_101 : decode cX13_readPerson 101 = .ok (.iadd, 1) := by decide +kernel
theorem dX13_readPerson_102 : decode cX13_readPerson 102 = .ok (.iconst (-1), 1) := by decide +kernel
theorem dX13_readPerson_103 : decode cX13_readPerson 103 = .ok (.iastore, 1) := by decide +kernel
theorem dX13_readPerson_104 : decode cX13_readPerson 104 = .ok (.aload_n 0, 1) := by decide +kernel
theorem dX13_readPerson_105 : decode cX13_readPerson 105 = .ok (.getfield 165, 3) := by decide +kernel
theorem dX13_readPerson_108 : decode cX13_readPerson 108 = .ok (.dup, 1) := by decide +kernel
theorem dX13_readPerson_109 : decode cX13_readPerson 109 = .ok (.getfield 200, 3) := by decide +kernel
theorem dX13_readPerson_112 : decode cX13_readPerson 112 = .ok (.iconst 1, 1) := by decide +kernel
theorem dX13_readPerson_113 : decode cX13_readPerson 113 = .ok (.iadd, 1) := by decide +kernel
theorem dX13_readPerson_114 : decode cX13_readPerson 114 = .ok (.putfield 200, 3) := by decide +kernel
theorem dX13_readPerson_117 : decode cX13_readPerson 117 = .ok (.return_, 1) := by decide +kernel
theorem dX13_readHand_0 : decode cX13_readHand 0 = .ok (.aload_n 0, 1) := by decide +kernel
theorem dX13_readHand_1 : decode cX13_readHand 1 = .ok (.ldc 248, 2) := by decide +kernel
theorem dX13_readHand_3 : decode cX13_readHand 3 = .ok (.invokevirtual 134, 3) := by decide +kernel
theorem dX13_readHand_6 : decode cX13_readHand 6 = .ok (.istore_n 2, 1) := by decide +kernel
theorem dX13_readHand_7 : decode cX13_readHand 7 = .ok (.iload_n 2, 1) := by decide +kernel
theorem dX13_readHand_8 : decode cX13_readHand 8 = .ok (.ifCond .ne 17, 3) := by decide +kernel
theorem dX13_readHand_11 : decode cX13_readHand 11 = .ok (.aload_n 0, 1) := by decide +kernel
theorem dX13_readHand_12 : decode cX13_readHand 12 = .ok (.ldc 250, 2) := by decide +kernel
theorem dX13_readHand_14 : decode cX13_readHand 14 = .ok (.invokevirtual 134, 3) := by decide +kernel
theorem dX13_readHand_17 : decode cX13_readHand 17 = .ok (.ifCond .ne 8, 3) := by decide +kernel
theorem dX13_readHand_20 : decode cX13_readHand 20 = .ok (.aload_n 0, 1) := by decide +kernel
theorem dX13_readHand_21 : decode cX13_readHand 21 = .ok (.iconst 1, 1) := by decide +kernel
theorem dX13_readHand_22 : decode cX13_readHand 22 = .ok (.invokevirtual 141, 3) := by decide +kernel
theorem dX13_readHand_25 : decode cX13_readHand 25 = .ok (.iload_n 2, 1) := by decide +kernel
theorem dX13_readHand_26 : decode cX13_readHand 26 = .ok (.ifCond .eq 7, 3) := by decide +kernel
theorem dX13_readHand_29 : decode cX13_readHand 29 = .ok (.iconst 1, 1) := by decide +kernel
theorem dX13_readHand_30 : decode cX13_readHand 30 = .ok (.goto 4, 3) := by decide +kernel
theorem dX13_readHand_33 : decode cX13_readHand 33 = .ok (.iconst 0, 1) := by decide +kernel
theorem dX13_readHand_34 : decode cX13_readHand 34 = .ok (.istore_n 3, 1) := by decide +kernel
theorem dX13_readHand_35 : decode cX13_readHand 35 = .ok (.aload_n 0, 1) := by decide +kernel
theorem dX13_readHand_36 : decode cX13_readHand 36 = .ok (.getfield 98, 3) := by decide +kernel
theorem dX13_readHand_39 : decode cX13_readHand 39 = .ok (.iconst 5, 1) := by decide +kernel
theorem dX13_readHand_40 : decode cX13_readHand 40 = .ok (.if_icmp .eq 25, 3) := by decide +kernel
theorem dX13_readHand_43 : decode cX13_readHand 43 = .ok (.aload_n 0, 1) := by decide +kernel
theorem dX13_readHand_44 : decode cX13_readHand 44 = .ok (.getfield 165, 3) := by decide +kernel
theorem dX13_readHand_47 : decode cX13_readHand 47 = .ok (.getfield 245, 3) := by decide +kernel
theorem dX13_readHand_50 : decode cX13_readHand 50 = .ok (.iconst 2, 1) := by decide +kernel
theorem dX13_readHand_51 : decode cX13_readHand 51 = .ok (.iload_n 1, 1) := by decide +kernel
theorem dX13_readHand_52 : decode cX13_readHand 52 = .ok (.imul, 1) := by decide +kernel
theorem dX13_readHand_53 : decode cX13_readHand 53 = .ok (.iload_n 3, 1) := by decide +kernel
theorem dX13_readHand_54 : decode cX13_readHand 54 = .ok (.iadd, 1) := by decide +kernel
theorem dX13_readHand_55 : decode cX13_readHand 55 = .ok (.iaload, 1) := by decide +kernel
theorem dX13_readHand_56 : decode cX13_readHand 56 = .ok (.iconst (-1), 1) := by decide +kernel
theorem dX13_readHand_57 : decode cX13_readHand 57 = .ok (.if_icmp .eq 8, 3) := by decide +kernel
theorem dX13_readHand_60 : decode cX13_readHand 60 = .ok (.aload_n 0, 1) := by decide +kernel
theorem dX13_readHand_61 : decode cX13_readHand 61 = .ok (.iconst 3, 1) := by decide +kernel
theorem dX13_readHand_62 : decode cX13_readHand 62 = .ok (.invokevirtual 141, 3) := by decide +kernel
theorem dX13_readHand_65 : decode cX13_readHand 65 = .ok (.aload_n 0, 1) := by decide +kernel
theorem dX13_readHand_66 : decode cX13_readHand 66 = .ok (.invokevirtual 138, 3) := by decide +kernel
theorem dX13_readHand_69 : decode cX13_readHand 69 = .ok (.iload_n 3, 1) := by decide +kernel
theorem dX13_readHand_70 : decode cX13_readHand 70 = .ok (.ireturn, 1) := by decide +kernel
theorem dX13_isHeld_0 : decode cX13_isHeld 0 = .ok (.iconst 0, 1) := by decide +kernel
theorem dX13_isHeld_1 : decode cX13_isHeld 1 = .ok (.istore_n 3, 1) := by decide +kernel
theorem dX13_isHeld_2 : decode cX13_isHeld 2 = .ok (.iload_n 3, 1) := by decide +kernel
theorem dX13_isHeld_3 : decode cX13_isHeld 3 = .ok (.aload_n 0, 1) := by decide +kernel
theorem dX13_isHeld_4 : decode cX13_isHeld 4 = .ok (.getfield 165, 3) := by decide +kernel
theorem dX13_isHeld_7 : decode cX13_isHeld 7 = .ok (.getfield 203, 3) := by decide +kernel
theorem dX13_isHeld_10 : decode cX13_isHeld 10 = .ok (.if_icmp .ge 63, 3) := by decide +kernel
theorem dX13_isHeld_13 : decode cX13_isHeld 13 = .ok (.aload_n 0, 1) := by decide +kernel
theorem dX13_isHeld_14 : decode cX13_isHeld 14 = .ok (.getfield 165, 3) := by decide +kernel
theorem dX13_isHeld_17 : decode cX13_isHeld 17 = .ok (.getfield 252, 3) := by decide +kernel
theorem dX13_isHeld_20 : decode cX13_isHeld 20 = .ok (.iload_n 3, 1) := by decide +kernel
theorem dX13_isHeld_21 : decode cX13_isHeld 21 = .ok (.iaload, 1) := by decide +kernel
theorem dX13_isHeld_22 : decode cX13_isHeld 22 = .ok (.iload_n 1, 1) := by decide +kernel
theorem dX13_isHeld_23 : decode cX13_isHeld 23 = .ok (.if_icmp .ne 16, 3) := by decide +kernel
theorem dX13_isHeld_26 : decode cX13_isHeld 26 = .ok (.aload_n 0, 1) := by decide +kernel
theorem dX13_isHeld_27 : decode cX13_isHeld 27 = .ok (.getfield 165, 3) := by decide +kernel
theorem dX13_isHeld_30 : decode cX13_isHeld 30 = .ok (.getfield 255, 3) := by decide +kernel
theorem dX13_isHeld_33 : decode cX13_isHeld 33 = .ok (.iload_n 3, 1) := by decide +kernel
theorem dX13_isHeld_34 : decode cX13_isHeld 34 = .ok (.iaload, 1) := by decide +kernel
theorem dX13_isHeld_35 : decode cX13_isHeld 35 = .ok (.iload_n 2, 1) := by decide +kernel
theorem dX13_isHeld_36 : decode cX13_isHeld 36 = .ok (.if_icmp .eq 29, 3) := by decide +kernel
theorem dX13_isHeld_39 : decode cX13_isHeld 39 = .ok (.aload_n 0, 1) := by decide +kernel
theorem dX13_isHeld_40 : decode cX13_isHeld 40 = .ok (.getfield 165, 3) := by decide +kernel
theorem dX13_isHeld_43 : decode cX13_isHeld 43 = .ok (.getfield 252, 3) := by decide +kernel
theorem dX13_isHeld_46 : decode cX13_isHeld 46 = .ok (.iload_n 3, 1) := by decide +kernel
theorem dX13_isHeld_47 : decode cX13_isHeld 47 = .ok (.iaload, 1) := by decide +kernel
theorem dX13_isHeld_48 : decode cX13_isHeld 48 = .ok (.iload_n 2, 1) := by decide +kernel
theorem dX13_isHeld_49 : decode cX13_isHeld 49 = .ok (.if_icmp .ne 18, 3) := by decide +kernel
theorem dX13_isHeld_52 : decode cX13_isHeld 52 = .ok (.aload_n 0, 1) := by decide +kernel
theorem dX13_isHeld_53 : decode cX13_isHeld 53 = .ok (.getfield 165, 3) := by decide +kernel
theorem dX13_isHeld_56 : decode cX13_isHeld 56 = .ok (.getfield 255, 3) := by decide +kernel
theorem dX13_isHeld_59 : decode cX13_isHeld 59 = .ok (.iload_n 3, 1) := by decide +kernel
theorem dX13_isHeld_60 : decode cX13_isHeld 60 = .ok (.iaload, 1) := by decide +kernel
theorem dX13_isHeld_61 : decode cX13_isHeld 61 = .ok (.iload_n 1, 1) := by decide +kernel
theorem dX13_isHeld_62 : decode cX13_isHeld 62 = .ok (.if_icmp .ne 5, 3) := by decide +kernel
theorem dX13_isHeld_65 : decode cX13_isHeld 65 = .ok (.iconst 1, 1) := by decide +kernel
theorem dX13_isHeld_66 : decode cX13_isHeld 66 = .ok (.ireturn, 1) := by decide +kernel
theorem dX13_isHeld_67 : decode cX13_isHeld 67 = .ok (.iinc 3 1, 3) := by decide +kernel
theorem dX13_isHeld_70 : decode cX13_isHeld 70 = .ok (.goto (-68), 3) := by decide +kernel
theorem dX13_isHeld_73 : decode cX13_isHeld 73 = .ok (.iconst 0, 1) := by decide +kernel
theorem dX13_isHeld_74 : decode cX13_isHeld 74 = .ok (.ireturn, 1) := by decide +kernel
theorem dX13_readHold_0 : decode cX13_readHold 0 = .ok (.aload_n 0, 1) := by decide +kernel
theorem dX13_readHold_1 : decode cX13_readHold 1 = .ok (.aload_n 0, 1) := by decide +kernel
theorem dX13_readHold_2 : decode cX13_readHold 2 = .ok (.getfield 165, 3) := by decide +kernel
theorem dX13_readHold_5 : decode cX13_readHold 5 = .ok (.getfield 203, 3) := by decide +kernel
theorem dX13_readHold_8 : decode cX13_readHold 8 = .ok (.bipush 8, 2) := by decide +kernel
theorem dX13_readHold_10 : decode cX13_readHold 10 = .ok (.invokevirtual 232, 3) := by decide +kernel
theorem dX13_readHold_13 : decode cX13_readHold 13 = .ok (.aload_n 0, 1) := by decide +kernel
theorem dX13_readHold_14 : decode cX13_readHold 14 = .ok (.invokevirtual 236, 3) := by decide +kernel
theorem dX13_readHold_17 : decode cX13_readHold 17 = .ok (.lstore_n 1, 1) := by decide +kernel
theorem dX13_readHold_18 : decode cX13_readHold 18 = .ok (.aload_n 0, 1) := by decide +kernel
theorem dX13_readHold_19 : decode cX13_readHold 19 = .ok (.iconst 0, 1) := by decide +kernel
theorem dX13_readHold_20 : decode cX13_readHold 20 = .ok (.invokevirtual 258, 3) := by decide +kernel
theorem dX13_readHold_23 : decode cX13_readHold 23 = .ok (.istore_n 3, 1) := by decide +kernel
theorem dX13_readHold_24 : decode cX13_readHold 24 = .ok (.aload_n 0, 1) := by decide +kernel
theorem dX13_readHold_25 : decode cX13_readHold 25 = .ok (.invokevirtual 138, 3) := by decide +kernel
theorem dX13_readHold_28 : decode cX13_readHold 28 = .ok (.aload_n 0, 1) := by decide +kernel
theorem dX13_readHold_29 : decode cX13_readHold 29 = .ok (.iload_n 3, 1) := by decide +kernel
theorem dX13_readHold_30 : decode cX13_readHold 30 = .ok (.invokevirtual 261, 3) := by decide +kernel
theorem dX13_readHold_33 : decode cX13_readHold 33 = .ok (.istore 4, 2) := by decide +kernel
theorem dX13_readHold_35 : decode cX13_readHold 35 = .ok (.aload_n 0, 1) := by decide +kernel
theorem dX13_readHold_36 : decode cX13_readHold 36 = .ok (.iconst 0, 1) := by decide +kernel
theorem dX13_readHold_37 : decode cX13_readHold 37 = .ok (.invokevirtual 258, 3) := by decide +kernel
theorem dX13_readHold_40 : decode cX13_readHold 40 = .ok (.istore 5, 2) := by decide +kernel
theorem dX13_readHold_42 : decode cX13_readHold 42 = .ok (.aload_n 0, 1) := by decide +kernel
theorem dX13_readHold_43 : decode cX13_readHold 43 = .ok (.getfield 98, 3) := by decide +kernel
theorem dX13_readHold_46 : decode cX13_readHold 46 = .ok (.iconst 5, 1) := by decide +kernel
theorem dX13_readHold_47 : decode cX13_readHold 47 = .ok (.if_icmp .eq 34, 3) := by decide +kernel
theorem dX13_readHold_50 : decode cX13_readHold 50 = .ok (.iload_n 3, 1) := by decide +kernel
theorem dX13_readHold_51 : decode cX13_readHold 51 = .ok (.iload 5, 2) := by decide +kernel
theorem dX13_readHold_53 : decode cX13_readHold 53 = .ok (.if_icmp .eq 23, 3) := by decide +kernel
theorem dX13_readHold_56 : decode cX13_readHold 56 = .ok (.aload_n 0, 1) := by decide +kernel
theorem dX13_readHold_57 : decode cX13_readHold 57 = .ok (.getfield 165, 3) := by decide +kernel
theorem dX13_readHold_60 : decode cX13_readHold 60 = .ok (.getfield 229, 3) := by decide +kernel
theorem dX13_readHold_63 : decode cX13_readHold 63 = .ok (.ifCond .eq 18, 3) := by decide +kernel
theorem dX13_readHold_66 : decode cX13_readHold 66 = .ok (.aload_n 0, 1) := by decide +kernel
theorem dX13_readHold_67 : decode cX13_readHold 67 = .ok (.iload_n 3, 1) := by decide +kernel
theorem dX13_readHold_68 : decode cX13_readHold 68 = .ok (.iload 5, 2) := by decide +kernel
theorem dX13_readHold_70 : decode cX13_readHold 70 = .ok (.invokevirtual 264, 3) := by decide +kernel
theorem dX13_readHold_73 : decode cX13_readHold 73 = .ok (.ifCond .eq 8, 3) := by decide +kernel
theorem dX13_readHold_76 : decode cX13_readHold 76 = .ok (.aload_n 0, 1) := by decide +kernel
theorem dX13_readHold_77 : decode cX13_readHold 77 = .ok (.iconst 3, 1) := by decide +kernel
theorem dX13_readHold_78 : decode cX13_readHold 78 = .ok (.invokevirtual 141, 3) := by decide +kernel
theorem dX13_readHold_81 : decode cX13_readHold 81 = .ok (.aload_n 0, 1) := by decide +kernel
theorem dX13_readHold_82 : decode cX13_readHold 82 = .ok (.invokevirtual 138, 3) := by decide +kernel
theorem dX13_readHold_85 : decode cX13_readHold 85 = .ok (.aload_n 0, 1) := by decide +kernel
theorem dX13_readHold_86 : decode cX13_readHold 86 = .ok (.iload 5, 2) := by decide +kernel
theorem dX13_readHold_88 : decode cX13_readHold 88 = .ok (.invokevirtual 261, 3) := by decide +kernel
theorem dX13_readHold_91 : decode cX13_readHold 91 = .ok (.istore 6, 2) := by decide +kernel
theorem dX13_readHold_93 : decode cX13_readHold 93 = .ok (.aload_n 0, 1) := by decide +kernel
theorem dX13_readHold_94 : decode cX13_readHold 94 = .ok (.getfield 98, 3) := by decide +kernel
theorem dX13_readHold_97 : decode cX13_readHold 97 = .ok (.iconst 5, 1) := by decide +kernel
theorem dX13_readHold_98 : decode cX13_readHold 98 = .ok (.if_icmp .ne 4, 3) := by decide +kernel
theorem dX13_readHold_101 : decode cX13_readHold 101 = .ok (.return_, 1) := by decide +kernel
theorem dX13_readHold_102 : decode cX13_readHold 102 = .ok (.aload_n 0, 1) := by decide +kernel
theorem dX13_readHold_103 : decode cX13_readHold 103 = .ok (.getfield 165, 3) := by decide +kernel
theorem dX13_readHold_106 : decode cX13_readHold 106 = .ok (.getfield 203, 3) := by decide +kernel
theorem dX13_readHold_109 : decode cX13_readHold 109 = .ok (.istore 7, 2) := by decide +kernel
theorem dX13_readHold_111 : decode cX13_readHold 111 = .ok (.aload_n 0, 1) := by decide +kernel
theorem dX13_readHold_112 : decode cX13_readHold 112 = .ok (.lload_n 1, 1) := by decide +kernel
theorem dX13_readHold_113 : decode cX13_readHold 113 = .ok (.iconst 1, 1) := by decide +kernel
theorem dX13_readHold_114 : decode cX13_readHold 114 = .ok (.iload 7, 2) := by decide +kernel
theorem dX13_readHold_116 : decode cX13_readHold 116 = .ok (.invokevirtual 240, 3) := by decide +kernel
theorem dX13_readHold_119 : decode cX13_readHold 119 = .ok (.aload_n 0, 1) := by decide +kernel
theorem dX13_readHold_120 : decode cX13_readHold 120 = .ok (.getfield 165, 3) := by decide +kernel
theorem dX13_readHold_123 : decode cX13_readHold 123 = .ok (.getfield 252, 3) := by decide +kernel
theorem dX13_readHold_126 : decode cX13_readHold 126 = .ok (.iload 7, 2) := by decide +kernel
theorem dX13_readHold_128 : decode cX13_readHold 128 = .ok (.iload_n 3, 1) := by decide +kernel
theorem dX13_readHold_129 : decode cX13_readHold 129 = .ok (.iastore, 1) := by decide +kernel
theorem dX13_readHold_130 : decode cX13_readHold 130 = .ok (.aload_n 0, 1) := by decide +kernel
theorem dX13_readHold_131 : decode cX13_readHold 131 = .ok (.getfield 165, 3) := by decide +kernel
theorem dX13_readHold_134 : decode cX13_readHold 134 = .ok (.getfield 268, 3) := by decide +kernel
theorem dX13_readHold_137 : decode cX13_readHold 137 = .ok (.iload 7, 2) := by decide +kernel
theorem dX13_readHold_139 : decode cX13_readHold 139 = .ok (.iload 4, 2) := by decide +kernel
theorem dX13_readHold_141 : decode cX13_readHold 141 = .ok (.iastore, 1) := by decide +kernel
theorem dX13_readHold_142 : decode cX13_readHold 142 = .ok (.aload_n 0, 1) := by decide +kernel
theorem dX13_readHold_143 : decode cX13_readHold 143 = .ok (.getfield 165, 3) := by decide +kernel
theorem dX13_readHold_146 : decode cX13_readHold 146 = .ok (.getfield 255, 3) := by decide +kernel
theorem dX13_readHold_149 : decode cX13_readHold 149 = .ok (.iload 7, 2) := by decide +kernel
theorem dX13_readHold_151 : decode cX13_readHold 151 = .ok (.iload 5, 2) := by decide +kernel
theorem dX13_readHold_153 : decode cX13_readHold 153 = .ok (.iastore, 1) := by decide +kernel
theorem dX13_readHold_154 : decode cX13_readHold 154 = .ok (.aload_n 0, 1) := by decide +kernel
theorem dX13_readHold_155 : decode cX13_readHold 155 = .ok (.getfield 165, 3) := by decide +kernel
theorem dX13_readHold_158 : decode cX13_readHold 158 = .ok (.getfield 271, 3) := by decide +kernel
theorem dX13_readHold_161 : decode cX13_readHold 161 = .ok (.iload 7, 2) := by decide +kernel
theorem dX13_readHold_163 : decode cX13_readHold 163 = .ok (.iload 6, 2) := by decide +kernel
theorem dX13_readHold_165 : decode cX13_readHold 165 = .ok (.iastore, 1) := by decide +kernel
theorem dX13_readHold_166 : decode cX13_readHold 166 = .ok (.aload_n 0, 1) := by decide +kernel
theorem dX13_readHold_167 : decode cX13_readHold 167 = .ok (.getfield 165, 3) := by decide +kernel
theorem dX13_readHold_170 : decode cX13_readHold 170 = .ok (.getfield 245, 3) := by decide +kernel
theorem dX13_readHold_173 : decode cX13_readHold 173 = .ok (.iconst 2, 1) := by decide +kernel
theorem dX13_readHold_174 : decode cX13_readHold 174 = .ok (.iload_n 3, 1) := by decide +kernel
theorem dX13_readHold_175 : decode cX13_readHold 175 = .ok (.imul, 1) := by decide +kernel
theorem dX13_readHold_176 : decode cX13_readHold 176 = .ok (.iload 4, 2) := by decide +kernel
theorem dX13_readHold_178 : decode cX13_readHold 178 = .ok (.iadd, 1) := by decide +kernel
theorem dX13_readHold_179 : decode cX13_readHold 179 = .ok (.iload 7, 2) := by decide +kernel
theorem dX13_readHold_181 : decode cX13_readHold 181 = .ok (.iastore, 1) := by decide +kernel
theorem dX13_readHold_182 : decode cX13_readHold 182 = .ok (.aload_n 0, 1) := by decide +kernel
theorem dX13_readHold_183 : decode cX13_readHold 183 = .ok (.getfield 165, 3) := by decide +kernel
theorem dX13_readHold_186 : decode cX13_readHold 186 = .ok (.getfield 245, 3) := by decide +kernel
theorem dX13_readHold_189 : decode cX13_readHold 189 = .ok (.iconst 2, 1) := by decide +kernel
theorem dX13_readHold_190 : decode cX13_readHold 190 = .ok (.iload 5, 2) := by decide +kernel
theorem dX13_readHold_192 : decode cX13_readHold 192 = .ok (.imul, 1) := by decide +kernel
theorem dX13_readHold_193 : decode cX13_readHold 193 = .ok (.iload 6, 2) := by decide +kernel
theorem dX13_readHold_195 : decode cX13_readHold 195 = .ok (.iadd, 1) := by decide +kernel
theorem dX13_readHold_196 : decode cX13_readHold 196 = .ok (.iload 7, 2) := by decide +kernel
theorem dX13_readHold_198 : decode cX13_readHold 198 = .ok (.iastore, 1) := by decide +kernel
theorem dX13_readHold_199 : decode cX13_readHold 199 = .ok (.aload_n 0, 1) := by decide +kernel
theorem dX13_readHold_200 : decode cX13_readHold 200 = .ok (.getfield 165, 3) := by decide +kernel
theorem dX13_readHold_203 : decode cX13_readHold 203 = .ok (.dup, 1) := by decide +kernel
theorem dX13_readHold_204 : decode cX13_readHold 204 = .ok (.getfield 203, 3) := by decide +kernel
theorem dX13_readHold_207 : decode cX13_readHold 207 = .ok (.iconst 1, 1) := by decide +kernel
theorem dX13_readHold_208 : decode cX13_readHold 208 = .ok (.iadd, 1) := by decide +kernel
theorem dX13_readHold_209 : decode cX13_readHold 209 = .ok (.putfield 203, 3) := by decide +kernel
theorem dX13_readHold_212 : decode cX13_readHold 212 = .ok (.return_, 1) := by decide +kernel
theorem dX13_readPlace_0 : decode cX13_readPlace 0 = .ok (.aload_n 0, 1) := by decide +kernel
theorem dX13_readPlace_1 : decode cX13_readPlace 1 = .ok (.iconst 1, 1) := by decide +kernel
theorem dX13_readPlace_2 : decode cX13_readPlace 2 = .ok (.bipush 9, 2) := by decide +kernel
theorem dX13_readPlace_4 : decode cX13_readPlace 4 = .ok (.invokevirtual 153, 3) := by decide +kernel
theorem dX13_readPlace_7 : decode cX13_readPlace 7 = .ok (.istore_n 3, 1) := by decide +kernel
theorem dX13_readPlace_8 : decode cX13_readPlace 8 = .ok (.aload_n 0, 1) := by decide +kernel
theorem dX13_readPlace_9 : decode cX13_readPlace 9 = .ok (.getfield 98, 3) := by decide +kernel
theorem dX13_readPlace_12 : decode cX13_readPlace 12 = .ok (.iconst 5, 1) := by decide +kernel
theorem dX13_readPlace_13 : decode cX13_readPlace 13 = .ok (.if_icmp .eq 30, 3) := by decide +kernel
theorem dX13_readPlace_16 : decode cX13_readPlace 16 = .ok (.iload_n 3, 1) := by decide +kernel
theorem dX13_readPlace_17 : decode cX13_readPlace 17 = .ok (.iload_n 2, 1) := by decide +kernel
theorem dX13_readPlace_18 : decode cX13_readPlace 18 = .ok (.if_icmp .eq 20, 3) := by decide +kernel
theorem dX13_readPlace_21 : decode cX13_readPlace 21 = .ok (.aload_n 0, 1) := by decide +kernel
theorem dX13_readPlace_22 : decode cX13_readPlace 22 = .ok (.getfield 165, 3) := by decide +kernel
theorem dX13_readPlace_25 : decode cX13_readPlace 25 = .ok (.getfield 274, 3) := by decide +kernel
theorem dX13_readPlace_28 : decode cX13_readPlace 28 = .ok (.iload_n 1, 1) := by decide +kernel
theorem dX13_readPlace_29 : decode cX13_readPlace 29 = .ok (.iaload, 1) := by decide +kernel
theorem dX13_readPlace_30 : decode cX13_readPlace 30 = .ok (.iload_n 3, 1) := by decide +kernel
theorem dX13_readPlace_31 : decode cX13_readPlace 31 = .ok (.ishr, 1) := by decide +kernel
theorem dX13_readPlace_32 : decode cX13_readPlace 32 = .ok (.iconst 1, 1) := by decide +kernel
theorem dX13_readPlace_33 : decode cX13_readPlace 33 = .ok (.iand, 1) := by decide +kernel
theorem dX13_readPlace_34 : decode cX13_readPlace 34 = .ok (.iconst 1, 1) := by decide +kernel
theorem dX13_readPlace_35 : decode cX13_readPlace 35 = .ok (.if_icmp .ne 8, 3) := by decide +kernel
theorem dX13_readPlace_38 : decode cX13_readPlace 38 = .ok (.aload_n 0, 1) := by decide +kernel
theorem dX13_readPlace_39 : decode cX13_readPlace 39 = .ok (.iconst 3, 1) := by decide +kernel
theorem dX13_readPlace_40 : decode cX13_readPlace 40 = .ok (.invokevirtual 141, 3) := by decide +kernel
theorem dX13_readPlace_43 : decode cX13_readPlace 43 = .ok (.aload_n 0, 1) := by decide +kernel
theorem dX13_readPlace_44 : decode cX13_readPlace 44 = .ok (.invokevirtual 138, 3) := by decide +kernel
theorem dX13_readPlace_47 : decode cX13_readPlace 47 = .ok (.iload_n 3, 1) := by decide +kernel
theorem dX13_readPlace_48 : decode cX13_readPlace 48 = .ok (.ireturn, 1) := by decide +kernel
theorem dX13_readCross_0 : decode cX13_readCross 0 = .ok (.aload_n 0, 1) := by decide +kernel
theorem dX13_readCross_1 : decode cX13_readCross 1 = .ok (.aload_n 0, 1) := by decide +kernel
theorem dX13_readCross_2 : decode cX13_readCross 2 = .ok (.getfield 165, 3) := by decide +kernel
theorem dX13_readCross_5 : decode cX13_readCross 5 = .ok (.getfield 277, 3) := by decide +kernel
theorem dX13_readCross_8 : decode cX13_readCross 8 = .ok (.bipush 7, 2) := by decide +kernel
theorem dX13_readCross_10 : decode cX13_readCross 10 = .ok (.invokevirtual 232, 3) := by decide +kernel
theorem dX13_readCross_13 : decode cX13_readCross 13 = .ok (.aload_n 0, 1) := by decide +kernel
theorem dX13_readCross_14 : decode cX13_readCross 14 = .ok (.iconst 1, 1) := by decide +kernel
theorem dX13_readCross_15 : decode cX13_readCross 15 = .ok (.invokevirtual 258, 3) := by decide +kernel
theorem dX13_readCross_18 : decode cX13_readCross 18 = .ok (.istore_n 1, 1) := by decide +kernel
theorem dX13_readCross_19 : decode cX13_readCross 19 = .ok (.aload_n 0, 1) := by decide +kernel
theorem dX13_readCross_20 : decode cX13_readCross 20 = .ok (.invokevirtual 138, 3) := by decide +kernel
theorem dX13_readCross_23 : decode cX13_readCross 23 = .ok (.aload_n 0, 1) := by decide +kernel
theorem dX13_readCross_24 : decode cX13_readCross 24 = .ok (.iload_n 1, 1) := by decide +kernel
theorem dX13_readCross_25 : decode cX13_readCross 25 = .ok (.iconst (-1), 1) := by decide +kernel
theorem dX13_readCross_26 : decode cX13_readCross 26 = .ok (.invokevirtual 280, 3) := by decide +kernel
theorem dX13_readCross_29 : decode cX13_readCross 29 = .ok (.istore_n 2, 1) := by decide +kernel
theorem dX13_readCross_30 : decode cX13_readCross 30 = .ok (.aload_n 0, 1) := by decide +kernel
theorem dX13_readCross_31 : decode cX13_readCross 31 = .ok (.ldc_w 283, 3) := by decide +kernel
theorem dX13_readCross_34 : decode cX13_readCross 34 = .ok (.invokevirtual 149, 3) := by decide +kernel
theorem dX13_readCross_37 : decode cX13_readCross 37 = .ok (.aload_n 0, 1) := by decide +kernel
theorem dX13_readCross_38 : decode cX13_readCross 38 = .ok (.iconst 1, 1) := by decide +kernel
theorem dX13_readCross_39 : decode cX13_readCross 39 = .ok (.invokevirtual 258, 3) := by decide +kernel
theorem dX13_readCross_42 : decode cX13_readCross 42 = .ok (.istore_n 3, 1) := by decide +kernel
theorem dX13_readCross_43 : decode cX13_readCross 43 = .ok (.aload_n 0, 1) := by decide +kernel
theorem dX13_readCross_44 : decode cX13_readCross 44 = .ok (.invokevirtual 138, 3) := by decide +kernel
theorem dX13_readCross_47 : decode cX13_readCross 47 = .ok (.aload_n 0, 1) := by decide +kernel
theorem dX13_readCross_48 : decode cX13_readCross 48 = .ok (.iload_n 3, 1) := by decide +kernel
theorem dX13_readCross_49 : decode cX13_readCross 49 = .ok (.iload_n 3, 1) := by decide +kernel
theorem dX13_readCross_50 : decode cX13_readCross 50 = .ok (.iload_n 1, 1) := by decide +kernel
theorem dX13_readCross_51 : decode cX13_readCross 51 = .ok (.if_icmp .ne 7, 3) := by decide +kernel
theorem dX13_readCross_54 : decode cX13_readCross 54 = .ok (.iload_n 2, 1) := by decide +kernel
theorem dX13_readCross_55 : decode cX13_readCross 55 = .ok (.goto 4, 3) := by decide +kernel
theorem dX13_readCross_58 : decode cX13_readCross 58 = .ok (.iconst (-1), 1) := by decide +kernel
theorem dX13_readCross_59 : decode cX13_readCross 59 = .ok (.invokevirtual 280, 3) := by decide +kernel
theorem dX13_readCross_62 : decode cX13_readCross 62 = .ok (.istore 4, 2) := by decide +kernel
theorem dX13_readCross_64 : decode cX13_readCross 64 = .ok (.aload_n 0, 1) := by decide +kernel
theorem dX13_readCross_65 : decode cX13_readCross 65 = .ok (.ldc_w 285, 3) := by decide +kernel
theorem dX13_readCross_68 : decode cX13_readCross 68 = .ok (.invokevirtual 134, 3) := by decide +kernel
theorem dX13_readCross_71 : decode cX13_readCross 71 = .ok (.istore 5, 2) := by decide +kernel
theorem dX13_readCross_73 : decode cX13_readCross 73 = .ok (.iload 5, 2) := by decide +kernel
theorem dX13_readCross_75 : decode cX13_readCross 75 = .ok (.ifCond .ne 18, 3) := by decide +kernel
theorem dX13_readCross_78 : decode cX13_readCross 78 = .ok (.aload_n 0, 1) := by decide +kernel
theorem dX13_readCross_79 : decode cX13_readCross 79 = .ok (.ldc_w 287, 3) := by decide +kernel
theorem dX13_readCross_82 : decode cX13_readCross 82 = .ok (.invokevirtual 134, 3) := by decide +kernel
theorem dX13_readCross_85 : decode cX13_readCross 85 = .ok (.ifCond .ne 8, 3) := by decide +kernel
theorem dX13_readCross_88 : decode cX13_readCross 88 = .ok (.aload_n 0, 1) := by decide +kernel
theorem dX13_readCross_89 : decode cX13_readCross 89 = .ok (.iconst 1, 1) := by decide +kernel
theorem dX13_readCross_90 : decode cX13_readCross 90 = .ok (.invokevirtual 141, 3) := by decide +kernel
theorem dX13_readCross_93 : decode cX13_readCross 93 = .ok (.aload_n 0, 1) := by decide +kernel
theorem dX13_readCross_94 : decode cX13_readCross 94 = .ok (.invokevirtual 138, 3) := by decide +kernel
theorem dX13_readCross_97 : decode cX13_readCross 97 = .ok (.aload_n 0, 1) := by decide +kernel
theorem dX13_readCross_98 : decode cX13_readCross 98 = .ok (.getfield 98, 3) := by decide +kernel
theorem dX13_readCross_101 : decode cX13_readCross 101 = .ok (.iconst 5, 1) := by decide +kernel
theorem dX13_readCross_102 : decode cX13_readCross 102 = .ok (.if_icmp .ne 4, 3) := by decide +kernel
theorem dX13_readCross_105 : decode cX13_readCross 105 = .ok (.return_, 1) := by decide +kernel
theorem dX13_readCross_106 : decode cX13_readCross 106 = .ok (.aload_n 0, 1) := by decide +kernel
theorem dX13_readCross_107 : decode cX13_readCross 107 = .ok (.getfield 165, 3) := by decide +kernel
theorem dX13_readCross_110 : decode cX13_readCross 110 = .ok (.getfield 277, 3) := by decide +kernel
theorem dX13_readCross_113 : decode cX13_readCross 113 = .ok (.istore 6, 2) := by decide +kernel
theorem dX13_readCross_115 : decode cX13_readCross 115 = .ok (.aload_n 0, 1) := by decide +kernel
theorem dX13_readCross_116 : decode cX13_readCross 116 = .ok (.getfield 165, 3) := by decide +kernel
theorem dX13_readCross_119 : decode cX13_readCross 119 = .ok (.getfield 289, 3) := by decide +kernel
theorem dX13_readCross_122 : decode cX13_readCross 122 = .ok (.iload 6, 2) := by decide +kernel
theorem dX13_readCross_124 : decode cX13_readCross 124 = .ok (.iload_n 1, 1) := by decide +kernel
theorem dX13_readCross_125 : decode cX13_readCross 125 = .ok (.iastore, 1) := by decide +kernel
theorem dX13_readCross_126 : decode cX13_readCross 126 = .ok (.aload_n 0, 1) := by decide +kernel
theorem dX13_readCross_127 : decode cX13_readCross 127 = .ok (.getfield 165, 3) := by decide +kernel
theorem dX13_readCross_130 : decode cX13_readCross 130 = .ok (.getfield 291, 3) := by decide +kernel
theorem dX13_readCross_133 : decode cX13_readCross 133 = .ok (.iload 6, 2) := by decide +kernel
theorem dX13_readCross_135 : decode cX13_readCross 135 = .ok (.iload_n 2, 1) := by decide +kernel
theorem dX13_readCross_136 : decode cX13_readCross 136 = .ok (.iastore, 1) := by decide +kernel
theorem dX13_readCross_137 : decode cX13_readCross 137 = .ok (.aload_n 0, 1) := by decide +kernel
theorem dX13_readCross_138 : decode cX13_readCross 138 = .ok (.getfield 165, 3) := by decide +kernel
theorem dX13_readCross_141 : decode cX13_readCross 141 = .ok (.getfield 294, 3) := by decide +kernel
theorem dX13_readCross_144 : decode cX13_readCross 144 = .ok (.iload 6, 2) := by decide +kernel
theorem dX13_readCross_146 : decode cX13_readCross 146 = .ok (.iload_n 3, 1) := by decide +kernel
theorem dX13_readCross_147 : decode cX13_readCross 147 = .ok (.iastore, 1) := by decide +kernel
theorem dX13_readCross_148 : decode cX13_readCross 148 = .ok (.aload_n 0, 1) := by decide +kernel
theorem dX13_readCross_149 : decode cX13_readCross 149 = .ok (.getfield 165, 3) := by decide +kernel
theorem dX13_readCross_152 : decode cX13_readCross 152 = .ok (.getfield 297, 3) := by decide +kernel
theorem dX13_readCross_155 : decode cX13_readCross 155 = .ok (.iload 6, 2) := by decide +kernel
theorem dX13_readCross_157 : decode cX13_readCross 157 = .ok (.iload 4, 2) := by decide +kernel
theorem dX13_readCross_159 : decode cX13_readCross 159 = .ok (.iastore, 1) := by decide +kernel
theorem dX13_readCross_160 : decode cX13_readCross 160 = .ok (.aload_n 0, 1) := by decide +kernel
theorem dX13_readCross_161 : decode cX13_readCross 161 = .ok (.getfield 165, 3) := by decide +kernel
theorem dX13_readCross_164 : decode cX13_readCross 164 = .ok (.getfield 300, 3) := by decide +kernel
theorem dX13_readCross_167 : decode cX13_readCross 167 = .ok (.iload 6, 2) := by decide +kernel
theorem dX13_readCross_169 : decode cX13_readCross 169 = .ok (.iload 5, 2) := by decide +kernel
theorem dX13_readCross_171 : decode cX13_readCross 171 = .ok (.ifCond .eq 7, 3) := by decide +kernel
theorem dX13_readCross_174 : decode cX13_readCross 174 = .ok (.iconst (-1), 1) := by decide +kernel
theorem dX13_readCross_175 : decode cX13_readCross 175 = .ok (.goto 4, 3) := by decide +kernel
theorem dX13_readCross_178 : decode cX13_readCross 178 = .ok (.iconst 1, 1) := by decide +kernel
theorem dX13_readCross_179 : decode cX13_readCross 179 = .ok (.iastore, 1) := by decide +kernel
theorem dX13_readCross_180 : decode cX13_readCross 180 = .ok (.aload_n 0, 1) := by decide +kernel
theorem dX13_readCross_181 : decode cX13_readCross 181 = .ok (.getfield 165, 3) := by decide +kernel
theorem dX13_readCross_184 : decode cX13_readCross 184 = .ok (.getfield 274, 3) := by decide +kernel
theorem dX13_readCross_187 : decode cX13_readCross 187 = .ok (.iload_n 1, 1) := by decide +kernel
theorem dX13_readCross_188 : decode cX13_readCross 188 = .ok (.dup2, 1) := by decide +kernel
theorem dX13_readCross_189 : decode cX13_readCross 189 = .ok (.iaload, 1) := by decide +kernel
theorem dX13_readCross_190 : decode cX13_readCross 190 = .ok (.iconst 1, 1) := by decide +kernel
theorem dX13_readCross_191 : decode cX13_readCross 191 = .ok (.iload_n 2, 1) := by decide +kernel
theorem dX13_readCross_192 : decode cX13_readCross 192 = .ok (.ishl, 1) := by decide +kernel
theorem dX13_readCross_193 : decode cX13_readCross 193 = .ok (.ior, 1) := by decide +kernel
theorem dX13_readCross_194 : decode cX13_readCross 194 = .ok (.iastore, 1) := by decide +kernel
theorem dX13_readCross_195 : decode cX13_readCross 195 = .ok (.aload_n 0, 1) := by decide +kernel
theorem dX13_readCross_196 : decode cX13_readCross 196 = .ok (.getfield 165, 3) := by decide +kernel
theorem dX13_readCross_199 : decode cX13_readCross 199 = .ok (.getfield 274, 3) := by decide +kernel
theorem dX13_readCross_202 : decode cX13_readCross 202 = .ok (.iload_n 3, 1) := by decide +kernel
theorem dX13_readCross_203 : decode cX13_readCross 203 = .ok (.dup2, 1) := by decide +kernel
theorem dX13_readCross_204 : decode cX13_readCross 204 = .ok (.iaload, 1) := by decide +kernel
theorem dX13_readCross_205 : decode cX13_readCross 205 = .ok (.iconst 1, 1) := by decide +kernel
theorem dX13_readCross_206 : decode cX13_readCross 206 = .ok (.iload 4, 2) := by decide +kernel
theorem dX13_readCross_208 : decode cX13_readCross 208 = .ok (.ishl, 1) := by decide +kernel
theorem dX13_readCross_209 : decode cX13_readCross 209 = .ok (.ior, 1) := by decide +kernel
theorem dX13_readCross_210 : decode cX13_readCross 210 = .ok (.iastore, 1) := by decide +kernel
theorem dX13_readCross_211 : decode cX13_readCross 211 = .ok (.aload_n 0, 1) := by decide +kernel
theorem dX13_readCross_212 : decode cX13_readCross 212 = .ok (.getfield 165, 3) := by decide +kernel
theorem dX13_readCross_215 : decode cX13_readCross 215 = .ok (.dup, 1) := by decide +kernel
theorem dX13_readCross_216 : decode cX13_readCross 216 = .ok (.getfield 277, 3) := by decide +kernel
theorem dX13_readCross_219 : decode cX13_readCross 219 = .ok (.iconst 1, 1) := by decide +kernel
theorem dX13_readCross_220 : decode cX13_readCross 220 = .ok (.iadd, 1) := by decide +kernel
theorem dX13_readCross_221 : decode cX13_readCross 221 = .ok (.putfield 277, 3) := by decide +kernel
theorem dX13_readCross_224 : decode cX13_readCross 224 = .ok (.return_, 1) := by decide +kernel
theorem dX13_feed_0 : decode cX13_feed 0 = .ok (.aload_n 0, 1) := by decide +kernel
theorem dX13_feed_1 : decode cX13_feed 1 = .ok (.iconst 0, 1) := by decide +kernel
theorem dX13_feed_2 : decode cX13_feed 2 = .ok (.putfield 70, 3) := by decide +kernel
theorem dX13_feed_5 : decode cX13_feed 5 = .ok (.aload_n 0, 1) := by decide +kernel
theorem dX13_feed_6 : decode cX13_feed 6 = .ok (.getfield 303, 3) := by decide +kernel
theorem dX13_feed_9 : decode cX13_feed 9 = .ok (.bipush 20, 2) := by decide +kernel
theorem dX13_feed_11 : decode cX13_feed 11 = .ok (.iadd, 1) := by decide +kernel
theorem dX13_feed_12 : decode cX13_feed 12 = .ok (.sipush 900, 3) := by decide +kernel
theorem dX13_feed_15 : decode cX13_feed 15 = .ok (.if_icmp .le 5, 3) := by decide +kernel
theorem dX13_feed_18 : decode cX13_feed 18 = .ok (.iconst (-1), 1) := by decide +kernel
theorem dX13_feed_19 : decode cX13_feed 19 = .ok (.ireturn, 1) := by decide +kernel
theorem dX13_feed_20 : decode cX13_feed 20 = .ok (.iconst 0, 1) := by decide +kernel
theorem dX13_feed_21 : decode cX13_feed 21 = .ok (.istore 6, 2) := by decide +kernel
theorem dX13_feed_23 : decode cX13_feed 23 = .ok (.iload 6, 2) := by decide +kernel
theorem dX13_feed_25 : decode cX13_feed 25 = .ok (.bipush 20, 2) := by decide +kernel
theorem dX13_feed_27 : decode cX13_feed 27 = .ok (.if_icmp .ge 90, 3) := by decide +kernel
theorem dX13_feed_30 : decode cX13_feed 30 = .ok (.iload 6, 2) := by decide +kernel
theorem dX13_feed_32 : decode cX13_feed 32 = .ok (.iconst 4, 1) := by decide +kernel
theorem dX13_feed_33 : decode cX13_feed 33 = .ok (.if_icmp .ge 7, 3) := by decide +kernel
theorem dX13_feed_36 : decode cX13_feed 36 = .ok (.iload_n 1, 1) := by decide +kernel
theorem dX13_feed_37 : decode cX13_feed 37 = .ok (.goto 39, 3) := by decide +kernel
theorem dX13_feed_40 : decode cX13_feed 40 = .ok (.iload 6, 2) := by decide +kernel
theorem dX13_feed_42 : decode cX13_feed 42 = .ok (.bipush 8, 2) := by decide +kernel
theorem dX13_feed_44 : decode cX13_feed 44 = .ok (.if_icmp .ge 7, 3) := by decide +kernel
theorem dX13_feed_47 : decode cX13_feed 47 = .ok (.iload_n 2, 1) := by decide +kernel
theorem dX13_feed_48 : decode cX13_feed 48 = .ok (.goto 28, 3) := by decide +kernel
theorem dX13_feed_51 : decode cX13_feed 51 = .ok (.iload 6, 2) := by decide +kernel
theorem dX13_feed_53 : decode cX13_feed 53 = .ok (.bipush 12, 2) := by decide +kernel
theorem dX13_feed_55 : decode cX13_feed 55 = .ok (.if_icmp .ge 7, 3) := by decide +kernel
theorem dX13_feed_58 : decode cX13_feed 58 = .ok (.iload_n 3, 1) := by decide +kernel
theorem dX13_feed_59 : decode cX13_feed 59 = .ok (.goto 17, 3) := by decide +kernel
theorem dX13_feed_62 : decode cX13_feed 62 = .ok (.iload 6, 2) := by decide +kernel
theorem dX13_feed_64 : decode cX13_feed 64 = .ok (.bipush 16, 2) := by decide +kernel
theorem dX13_feed_66 : decode cX13_feed 66 = .ok (.if_icmp .ge 8, 3) := by decide +kernel
theorem dX13_feed_69 : decode cX13_feed 69 = .ok (.iload 4, 2) := by decide +kernel
theorem dX13_feed_71 : decode cX13_feed 71 = .ok (.goto 5, 3) := by decide +kernel
theorem dX13_feed_74 : decode cX13_feed 74 = .ok (.iload 5, 2) := by decide +kernel
theorem dX13_feed_76 : decode cX13_feed 76 = .ok (.istore 7, 2) := by decide +kernel
theorem dX13_feed_78 : decode cX13_feed 78 = .ok (.aload_n 0, 1) := by decide +kernel
theorem dX13_feed_79 : decode cX13_feed 79 = .ok (.getfield 13, 3) := by decide +kernel
theorem dX13_feed_82 : decode cX13_feed 82 = .ok (.aload_n 0, 1) := by decide +kernel
theorem dX13_feed_83 : decode cX13_feed 83 = .ok (.getfield 303, 3) := by decide +kernel
theorem dX13_feed_86 : decode cX13_feed 86 = .ok (.iload 7, 2) := by decide +kernel
theorem dX13_feed_88 : decode cX13_feed 88 = .ok (.bipush 24, 2) := by decide +kernel
theorem dX13_feed_90 : decode cX13_feed 90 = .ok (.bipush 8, 2) := by decide +kernel
theorem dX13_feed_92 : decode cX13_feed 92 = .ok (.iload 6, 2) := by decide +kernel
theorem dX13_feed_94 : decode cX13_feed 94 = .ok (.iconst 4, 1) := by decide +kernel
theorem dX13_feed_95 : decode cX13_feed 95 = .ok (.irem, 1) := by decide +kernel
theorem dX13_feed_96 : decode cX13_feed 96 = .ok (.imul, 1) := by decide +kernel
theorem dX13_feed_97 : decode cX13_feed 97 = .ok (.isub, 1) := by decide +kernel
theorem dX13_feed_98 : decode cX13_feed 98 = .ok (.ishr, 1) := by decide +kernel
theorem dX13_feed_99 : decode cX13_feed 99 = .ok (.i2b, 1) := by decide +kernel
theorem dX13_feed_100 : decode cX13_feed 100 = .ok (.bastore, 1) := by decide +kernel
theorem dX13_feed_101 : decode cX13_feed 101 = .ok (.aload_n 0, 1) := by decide +kernel
theorem dX13_feed_102 : decode cX13_feed 102 = .ok (.dup, 1) := by decide +kernel
theorem dX13_feed_103 : decode cX13_feed 103 = .ok (.getfield 303, 3) := by decide +kernel
theorem dX13_feed_106 : decode cX13_feed 106 = .ok (.iconst 1, 1) := by decide +kernel
theorem dX13_feed_107 : decode cX13_feed 107 = .ok (.iadd, 1) := by decide +kernel
theorem dX13_feed_108 : decode cX13_feed 108 = .ok (.putfield 303, 3) := by decide +kernel
theorem dX13_feed_111 : decode cX13_feed 111 = .ok (.iinc 6 1, 3) := by decide +kernel
theorem dX13_feed_114 : decode cX13_feed 114 = .ok (.goto (-91), 3) := by decide +kernel
theorem dX13_feed_117 : decode cX13_feed 117 = .ok (.aload_n 0, 1) := by decide +kernel
theorem dX13_feed_118 : decode cX13_feed 118 = .ok (.getfield 303, 3) := by decide +kernel
theorem dX13_feed_121 : decode cX13_feed 121 = .ok (.ireturn, 1) := by decide +kernel
theorem dX13_tangle_0 : decode cX13_tangle 0 = .ok (.aload_n 0, 1) := by decide +kernel
theorem dX13_tangle_1 : decode cX13_tangle 1 = .ok (.iconst 0, 1) := by decide +kernel
theorem dX13_tangle_2 : decode cX13_tangle 2 = .ok (.putfield 70, 3) := by decide +kernel
theorem dX13_tangle_5 : decode cX13_tangle 5 = .ok (.iload_n 1, 1) := by decide +kernel
theorem dX13_tangle_6 : decode cX13_tangle 6 = .ok (.ifCond .lt 11, 3) := by decide +kernel
theorem dX13_tangle_9 : decode cX13_tangle 9 = .ok (.iload_n 1, 1) := by decide +kernel
theorem dX13_tangle_10 : decode cX13_tangle 10 = .ok (.aload_n 0, 1) := by decide +kernel
theorem dX13_tangle_11 : decode cX13_tangle 11 = .ok (.getfield 303, 3) := by decide +kernel
theorem dX13_tangle_14 : decode cX13_tangle 14 = .ok (.if_icmp .le 9, 3) := by decide +kernel
theorem dX13_tangle_17 : decode cX13_tangle 17 = .ok (.aload_n 0, 1) := by decide +kernel
theorem dX13_tangle_18 : decode cX13_tangle 18 = .ok (.iconst 2, 1) := by decide +kernel
theorem dX13_tangle_19 : decode cX13_tangle 19 = .ok (.invokevirtual 76, 3) := by decide +kernel
theorem dX13_tangle_22 : decode cX13_tangle 22 = .ok (.ireturn, 1) := by decide +kernel
theorem dX13_tangle_23 : decode cX13_tangle 23 = .ok (.aload_n 0, 1) := by decide +kernel
theorem dX13_tangle_24 : decode cX13_tangle 24 = .ok (.iload_n 1, 1) := by decide +kernel
theorem dX13_tangle_25 : decode cX13_tangle 25 = .ok (.putfield 83, 3) := by decide +kernel
theorem dX13_tangle_28 : decode cX13_tangle 28 = .ok (.aload_n 0, 1) := by decide +kernel
theorem dX13_tangle_29 : decode cX13_tangle 29 = .ok (.iconst 0, 1) := by decide +kernel
theorem dX13_tangle_30 : decode cX13_tangle 30 = .ok (.putfield 303, 3) := by decide +kernel
theorem dX13_tangle_33 : decode cX13_tangle 33 = .ok (.aload_n 0, 1) := by decide +kernel
theorem dX13_tangle_34 : decode cX13_tangle 34 = .ok (.iconst 0, 1) := by decide +kernel
theorem dX13_tangle_35 : decode cX13_tangle 35 = .ok (.putfield 101, 3) := by decide +kernel
theorem dX13_tangle_38 : decode cX13_tangle 38 = .ok (.aload_n 0, 1) := by decide +kernel
theorem dX13_tangle_39 : decode cX13_tangle 39 = .ok (.iconst 0, 1) := by decide +kernel
theorem dX13_tangle_40 : decode cX13_tangle 40 = .ok (.putfield 124, 3) := by decide +kernel
theorem dX13_tangle_43 : decode cX13_tangle 43 = .ok (.aload_n 0, 1) := by decide +kernel
theorem dX13_tangle_44 : decode cX13_tangle 44 = .ok (.new 170, 3) := by decide +kernel
theorem dX13_tangle_47 : decode cX13_tangle 47 = .ok (.dup, 1) := by decide +kernel
theorem dX13_tangle_48 : decode cX13_tangle 48 = .ok (.invokespecial 306, 3) := by decide +kernel
theorem dX13_tangle_51 : decode cX13_tangle 51 = .ok (.putfield 165, 3) := by decide +kernel
theorem dX13_tangle_54 : decode cX13_tangle 54 = .ok (.aload_n 0, 1) := by decide +kernel
theorem dX13_tangle_55 : decode cX13_tangle 55 = .ok (.iconst 0, 1) := by decide +kernel
theorem dX13_tangle_56 : decode cX13_tangle 56 = .ok (.putfield 98, 3) := by decide +kernel
theorem dX13_tangle_59 : decode cX13_tangle 59 = .ok (.aload_n 0, 1) := by decide +kernel
theorem dX13_tangle_60 : decode cX13_tangle 60 = .ok (.invokevirtual 138, 3) := by decide +kernel
theorem dX13_tangle_63 : decode cX13_tangle 63 = .ok (.aload_n 0, 1) := by decide +kernel
theorem dX13_tangle_64 : decode cX13_tangle 64 = .ok (.invokevirtual 307, 3) := by decide +kernel
theorem dX13_tangle_67 : decode cX13_tangle 67 = .ok (.aload_n 0, 1) := by decide +kernel
theorem dX13_tangle_68 : decode cX13_tangle 68 = .ok (.getfield 124, 3) := by decide +kernel
theorem dX13_tangle_71 : decode cX13_tangle 71 = .ok (.ifCond .le 18, 3) := by decide +kernel
theorem dX13_tangle_74 : decode cX13_tangle 74 = .ok (.aload_n 0, 1) := by decide +kernel
theorem dX13_tangle_75 : decode cX13_tangle 75 = .ok (.iconst 4, 1) := by decide +kernel
theorem dX13_tangle_76 : decode cX13_tangle 76 = .ok (.putfield 73, 3) := by decide +kernel
theorem dX13_tangle_79 : decode cX13_tangle 79 = .ok (.aload_n 0, 1) := by decide +kernel
theorem dX13_tangle_80 : decode cX13_tangle 80 = .ok (.aload_n 0, 1) := by decide +kernel
theorem dX13_tangle_81 : decode cX13_tangle 81 = .ok (.getfield 127, 3) := by decide +kernel
theorem dX13_tangle_84 : decode cX13_tangle 84 = .ok (.putfield 9, 3) := by decide +kernel
theorem dX13_tangle_87 : decode cX13_tangle 87 = .ok (.iconst (-1), 1) := by decide +kernel
theorem dX13_tangle_88 : decode cX13_tangle 88 = .ok (.ireturn, 1) := by decide +kernel
theorem dX13_tangle_89 : decode cX13_tangle 89 = .ok (.aload_n 0, 1) := by decide +kernel
theorem dX13_tangle_90 : decode cX13_tangle 90 = .ok (.aload_n 0, 1) := by decide +kernel
theorem dX13_tangle_91 : decode cX13_tangle 91 = .ok (.getfield 165, 3) := by decide +kernel
theorem dX13_tangle_94 : decode cX13_tangle 94 = .ok (.putfield 310, 3) := by decide +kernel
theorem dX13_tangle_97 : decode cX13_tangle 97 = .ok (.aload_n 0, 1) := by decide +kernel
theorem dX13_tangle_98 : decode cX13_tangle 98 = .ok (.getfield 310, 3) := by decide +kernel
theorem dX13_tangle_101 : decode cX13_tangle 101 = .ok (.invokevirtual 312, 3) := by decide +kernel
theorem dX13_tangle_104 : decode cX13_tangle 104 = .ok (.aload_n 0, 1) := by decide +kernel
theorem dX13_tangle_105 : decode cX13_tangle 105 = .ok (.aload_n 0, 1) := by decide +kernel
theorem dX13_tangle_106 : decode cX13_tangle 106 = .ok (.getfield 310, 3) := by decide +kernel
theorem dX13_tangle_109 : decode cX13_tangle 109 = .ok (.getfield 315, 3) := by decide +kernel
theorem dX13_tangle_112 : decode cX13_tangle 112 = .ok (.putfield 318, 3) := by decide +kernel
theorem dX13_tangle_115 : decode cX13_tangle 115 = .ok (.aload_n 0, 1) := by decide +kernel
theorem dX13_tangle_116 : decode cX13_tangle 116 = .ok (.bipush (-2), 2) := by decide +kernel
theorem dX13_tangle_118 : decode cX13_tangle 118 = .ok (.putfield 321, 3) := by decide +kernel
theorem dX13_tangle_121 : decode cX13_tangle 121 = .ok (.aload_n 0, 1) := by decide +kernel
theorem dX13_tangle_122 : decode cX13_tangle 122 = .ok (.iconst 0, 1) := by decide +kernel
theorem dX13_tangle_123 : decode cX13_tangle 123 = .ok (.putfield 324, 3) := by decide +kernel
theorem dX13_tangle_126 : decode cX13_tangle 126 = .ok (.aload_n 0, 1) := by decide +kernel
theorem dX13_tangle_127 : decode cX13_tangle 127 = .ok (.iconst 0, 1) := by decide +kernel
theorem dX13_tangle_128 : decode cX13_tangle 128 = .ok (.putfield 327, 3) := by decide +kernel
theorem dX13_tangle_131 : decode cX13_tangle 131 = .ok (.aload_n 0, 1) := by decide +kernel
theorem dX13_tangle_132 : decode cX13_tangle 132 = .ok (.iconst 0, 1) := by decide +kernel
theorem dX13_tangle_133 : decode cX13_tangle 133 = .ok (.putfield 330, 3) := by decide +kernel
theorem dX13_tangle_136 : decode cX13_tangle 136 = .ok (.aload_n 0, 1) := by decide +kernel
theorem dX13_tangle_137 : decode cX13_tangle 137 = .ok (.iconst 0, 1) := by decide +kernel
theorem dX13_tangle_138 : decode cX13_tangle 138 = .ok (.putfield 333, 3) := by decide +kernel
theorem dX13_tangle_141 : decode cX13_tangle 141 = .ok (.aload_n 0, 1) := by decide +kernel
theorem dX13_tangle_142 : decode cX13_tangle 142 = .ok (.aload_n 0, 1) := by decide +kernel
theorem dX13_tangle_143 : decode cX13_tangle 143 = .ok (.getfield 310, 3) := by decide +kernel
theorem dX13_tangle_146 : decode cX13_tangle 146 = .ok (.getfield 336, 3) := by decide +kernel
theorem dX13_tangle_149 : decode cX13_tangle 149 = .ok (.invokevirtual 80, 3) := by decide +kernel
theorem dX13_tangle_152 : decode cX13_tangle 152 = .ok (.ireturn, 1) := by decide +kernel
theorem dX13_fault_0 : decode cX13_fault 0 = .ok (.aload_n 0, 1) := by decide +kernel
theorem dX13_fault_1 : decode cX13_fault 1 = .ok (.iconst 0, 1) := by decide +kernel
theorem dX13_fault_2 : decode cX13_fault 2 = .ok (.putfield 70, 3) := by decide +kernel
theorem dX13_fault_5 : decode cX13_fault 5 = .ok (.aload_n 0, 1) := by decide +kernel
theorem dX13_fault_6 : decode cX13_fault 6 = .ok (.getfield 124, 3) := by decide +kernel
theorem dX13_fault_9 : decode cX13_fault 9 = .ok (.ireturn, 1) := by decide +kernel
theorem dX13_where_0 : decode cX13_where 0 = .ok (.aload_n 0, 1) := by decide +kernel
theorem dX13_where_1 : decode cX13_where 1 = .ok (.iconst 0, 1) := by decide +kernel
theorem dX13_where_2 : decode cX13_where 2 = .ok (.putfield 70, 3) := by decide +kernel
theorem dX13_where_5 : decode cX13_where 5 = .ok (.aload_n 0, 1) := by decide +kernel
theorem dX13_where_6 : decode cX13_where 6 = .ok (.getfield 9, 3) := by decide +kernel
theorem dX13_where_9 : decode cX13_where 9 = .ok (.ireturn, 1) := by decide +kernel
theorem dX13_signNow_0 : decode cX13_signNow 0 = .ok (.aload_n 0, 1) := by decide +kernel
theorem dX13_signNow_1 : decode cX13_signNow 1 = .ok (.getfield 310, 3) := by decide +kernel
theorem dX13_signNow_4 : decode cX13_signNow 4 = .ok (.iload_n 1, 1) := by decide +kernel
theorem dX13_signNow_5 : decode cX13_signNow 5 = .ok (.aload_n 0, 1) := by decide +kernel
theorem dX13_signNow_6 : decode cX13_signNow 6 = .ok (.getfield 324, 3) := by decide +kernel
theorem dX13_signNow_9 : decode cX13_signNow 9 = .ok (.invokevirtual 339, 3) := by decide +kernel
theorem dX13_signNow_12 : decode cX13_signNow 12 = .ok (.ireturn, 1) := by decide +kernel
theorem dX13_at_0 : decode cX13_at 0 = .ok (.lload_n 0, 1) := by decide +kernel
theorem dX13_at_1 : decode cX13_at 1 = .ok (.iconst 4, 1) := by decide +kernel
theorem dX13_at_2 : decode cX13_at 2 = .ok (.iload_n 2, 1) := by decide +kernel
theorem dX13_at_3 : decode cX13_at 3 = .ok (.imul, 1) := by decide +kernel
theorem dX13_at_4 : decode cX13_at 4 = .ok (.lshr, 1) := by decide +kernel
theorem dX13_at_5 : decode cX13_at 5 = .ok (.ldc2_w 342, 3) := by decide +kernel
theorem dX13_at_8 : decode cX13_at 8 = .ok (.land, 1) := by decide +kernel
theorem dX13_at_9 : decode cX13_at 9 = .ok (.l2i, 1) := by decide +kernel
theorem dX13_at_10 : decode cX13_at 10 = .ok (.ireturn, 1) := by decide +kernel
theorem dX13_with_0 : decode cX13_with 0 = .ok (.lload_n 0, 1) := by decide +kernel
theorem dX13_with_1 : decode cX13_with 1 = .ok (.ldc2_w 342, 3) := by decide +kernel
theorem dX13_with_4 : decode cX13_with 4 = .ok (.iconst 4, 1) := by decide +kernel
theorem dX13_with_5 : decode cX13_with 5 = .ok (.iload_n 2, 1) := by decide +kernel
theorem dX13_with_6 : decode cX13_with 6 = .ok (.imul, 1) := by decide +kernel
theorem dX13_with_7 : decode cX13_with 7 = .ok (.lshl, 1) := by decide +kernel
theorem dX13_with_8 : decode cX13_with 8 = .ok (.ldc2_w 344, 3) := by decide +kernel
theorem dX13_with_11 : decode cX13_with 11 = .ok (.lxor, 1) := by decide +kernel
theorem dX13_with_12 : decode cX13_with 12 = .ok (.land, 1) := by decide +kernel
theorem dX13_with_13 : decode cX13_with 13 = .ok (.iload_n 3, 1) := by decide +kernel
theorem dX13_with_14 : decode cX13_with 14 = .ok (.i2l, 1) := by decide +kernel
theorem dX13_with_15 : decode cX13_with 15 = .ok (.iconst 4, 1) := by decide +kernel
theorem dX13_with_16 : decode cX13_with 16 = .ok (.iload_n 2, 1) := by decide +kernel
theorem dX13_with_17 : decode cX13_with 17 = .ok (.imul, 1) := by decide +kernel
theorem dX13_with_18 : decode cX13_with 18 = .ok (.lshl, 1) := by decide +kernel
theorem dX13_with_19 : decode cX13_with 19 = .ok (.lor, 1) := by decide +kernel
theorem dX13_with_20 : decode cX13_with 20 = .ok (.lreturn, 1) := by decide +kernel
theorem dX13_looks_0 : decode cX13_looks 0 = .ok (.iconst 0, 1) := by decide +kernel
theorem dX13_looks_1 : decode cX13_looks 1 = .ok (.istore_n 3, 1) := by decide +kernel
theorem dX13_looks_2 : decode cX13_looks 2 = .ok (.iload_n 3, 1) := by decide +kernel
theorem dX13_looks_3 : decode cX13_looks 3 = .ok (.bipush 16, 2) := by decide +kernel
theorem dX13_looks_5 : decode cX13_looks 5 = .ok (.if_icmp .ge 16, 3) := by decide +kernel
theorem dX13_looks_8 : decode cX13_looks 8 = .ok (.aload_n 0, 1) := by decide +kernel
theorem dX13_looks_9 : decode cX13_looks 9 = .ok (.getfield 17, 3) := by decide +kernel
theorem dX13_looks_12 : decode cX13_looks 12 = .ok (.iload_n 3, 1) := by decide +kernel
theorem dX13_looks_13 : decode cX13_looks 13 = .ok (.iconst (-1), 1) := by decide +kernel
theorem dX13_looks_14 : decode cX13_looks 14 = .ok (.iastore, 1) := by decide +kernel
theorem dX13_looks_15 : decode cX13_looks 15 = .ok (.iinc 3 1, 3) := by decide +kernel
theorem dX13_looks_18 : decode cX13_looks 18 = .ok (.goto (-16), 3) := by decide +kernel
theorem dX13_looks_21 : decode cX13_looks 21 = .ok (.iconst 0, 1) := by decide +kernel
theorem dX13_looks_22 : decode cX13_looks 22 = .ok (.istore_n 3, 1) := by decide +kernel
theorem dX13_looks_23 : decode cX13_looks 23 = .ok (.iload_n 3, 1) := by decide +kernel
theorem dX13_looks_24 : decode cX13_looks 24 = .ok (.aload_n 0, 1) := by decide +kernel
theorem dX13_looks_25 : decode cX13_looks 25 = .ok (.getfield 310, 3) := by decide +kernel
theorem dX13_looks_28 : decode cX13_looks 28 = .ok (.getfield 346, 3) := by decide +kernel
theorem dX13_looks_31 : decode cX13_looks 31 = .ok (.if_icmp .ge 30, 3) := by decide +kernel
theorem dX13_looks_34 : decode cX13_looks 34 = .ok (.lload_n 1, 1) := by decide +kernel
theorem dX13_looks_35 : decode cX13_looks 35 = .ok (.iload_n 3, 1) := by decide +kernel
theorem dX13_looks_36 : decode cX13_looks 36 = .ok (.invokestatic 349, 3) := by decide +kernel
theorem dX13_looks_39 : decode cX13_looks 39 = .ok (.bipush 15, 2) := by decide +kernel
theorem dX13_looks_41 : decode cX13_looks 41 = .ok (.if_icmp .eq 14, 3) := by decide +kernel
theorem dX13_looks_44 : decode cX13_looks 44 = .ok (.aload_n 0, 1) := by decide +kernel
theorem dX13_looks_45 : decode cX13_looks 45 = .ok (.getfield 17, 3) := by decide +kernel
theorem dX13_looks_48 : decode cX13_looks 48 = .ok (.lload_n 1, 1) := by decide +kernel
theorem dX13_looks_49 : decode cX13_looks 49 = .ok (.iload_n 3, 1) := by decide +kernel
theorem dX13_looks_50 : decode cX13_looks 50 = .ok (.invokestatic 349, 3) := by decide +kernel
theorem dX13_looks_53 : decode cX13_looks 53 = .ok (.iload_n 3, 1) := by decide +kernel
theorem dX13_looks_54 : decode cX13_looks 54 = .ok (.iastore, 1) := by decide +kernel
theorem dX13_looks_55 : decode cX13_looks 55 = .ok (.iinc 3 1, 3) := by decide +kernel
theorem dX13_looks_58 : decode cX13_looks 58 = .ok (.goto (-35), 3) := by decide +kernel
theorem dX13_looks_61 : decode cX13_looks 61 = .ok (.iconst 0, 1) := by decide +kernel
theorem dX13_looks_62 : decode cX13_looks 62 = .ok (.istore_n 3, 1) := by decide +kernel
theorem dX13_looks_63 : decode cX13_looks 63 = .ok (.iload_n 3, 1) := by decide +kernel
theorem dX13_looks_64 : decode cX13_looks 64 = .ok (.aload_n 0, 1) := by decide +kernel
theorem dX13_looks_65 : decode cX13_looks 65 = .ok (.getfield 310, 3) := by decide +kernel
theorem dX13_looks_68 : decode cX13_looks 68 = .ok (.getfield 346, 3) := by decide +kernel
theorem dX13_looks_71 : decode cX13_looks 71 = .ok (.if_icmp .ge 35, 3) := by decide +kernel
theorem dX13_looks_74 : decode cX13_looks 74 = .ok (.aload_n 0, 1) := by decide +kernel
theorem dX13_looks_75 : decode cX13_looks 75 = .ok (.getfield 21, 3) := by decide +kernel
theorem dX13_looks_78 : decode cX13_looks 78 = .ok (.iload_n 3, 1) := by decide +kernel
theorem dX13_looks_79 : decode cX13_looks 79 = .ok (.lload_n 1, 1) := by decide +kernel
theorem dX13_looks_80 : decode cX13_looks 80 = .ok (.iload_n 3, 1) := by decide +kernel
theorem dX13_looks_81 : decode cX13_looks 81 = .ok (.invokestatic 349, 3) := by decide +kernel
theorem dX13_looks_84 : decode cX13_looks 84 = .ok (.bipush 15, 2) := by decide +kernel
theorem dX13_looks_86 : decode cX13_looks 86 = .ok (.if_icmp .ne 7, 3) := by decide +kernel
theorem dX13_looks_89 : decode cX13_looks 89 = .ok (.iconst (-1), 1) := by decide +kernel
theorem dX13_looks_90 : decode cX13_looks 90 = .ok (.goto 9, 3) := by decide +kernel
theorem dX13_looks_93 : decode cX13_looks 93 = .ok (.aload_n 0, 1) := by decide +kernel
theorem dX13_looks_94 : decode cX13_looks 94 = .ok (.lload_n 1, 1) := by decide +kernel
theorem dX13_looks_95 : decode cX13_looks 95 = .ok (.iload_n 3, 1) := by decide +kernel
theorem dX13_looks_96 : decode cX13_looks 96 = .ok (.invokevirtual 353, 3) := by decide +kernel
theorem dX13_looks_99 : decode cX13_looks 99 = .ok (.iastore, 1) := by decide +kernel
theorem dX13_looks_100 : decode cX13_looks 100 = .ok (.iinc 3 1, 3) := by decide +kernel
theorem dX13_looks_103 : decode cX13_looks 103 = .ok (.goto (-40), 3) := by decide +kernel
theorem dX13_looks_106 : decode cX13_looks 106 = .ok (.return_, 1) := by decide +kernel
theorem dX13_nextFrom_0 : decode cX13_nextFrom 0 = .ok (.aload_n 0, 1) := by decide +kernel
theorem dX13_nextFrom_1 : decode cX13_nextFrom 1 = .ok (.getfield 310, 3) := by decide +kernel
theorem dX13_nextFrom_4 : decode cX13_nextFrom 4 = .ok (.getfield 356, 3) := by decide +kernel
theorem dX13_nextFrom_7 : decode cX13_nextFrom 7 = .ok (.iload_n 3, 1) := by decide +kernel
theorem dX13_nextFrom_8 : decode cX13_nextFrom 8 = .ok (.iaload, 1) := by decide +kernel
theorem dX13_nextFrom_9 : decode cX13_nextFrom 9 = .ok (.istore 4, 2) := by decide +kernel
theorem dX13_nextFrom_11 : decode cX13_nextFrom 11 = .ok (.iload_n 3, 1) := by decide +kernel
theorem dX13_nextFrom_12 : decode cX13_nextFrom 12 = .ok (.iconst 1, 1) := by decide +kernel
theorem dX13_nextFrom_13 : decode cX13_nextFrom 13 = .ok (.iadd, 1) := by decide +kernel
theorem dX13_nextFrom_14 : decode cX13_nextFrom 14 = .ok (.istore 5, 2) := by decide +kernel
theorem dX13_nextFrom_16 : decode cX13_nextFrom 16 = .ok (.iload 5, 2) := by decide +kernel
theorem dX13_nextFrom_18 : decode cX13_nextFrom 18 = .ok (.aload_n 0, 1) := by decide +kernel
theorem dX13_nextFrom_19 : decode cX13_nextFrom 19 = .ok (.getfield 310, 3) := by decide +kernel
theorem dX13_nextFrom_22 : decode cX13_nextFrom 22 = .ok (.getfield 346, 3) := by decide +kernel
theorem dX13_nextFrom_25 : decode cX13_nextFrom 25 = .ok (.if_icmp .ge 86, 3) := by decide +kernel
theorem dX13_nextFrom_28 : decode cX13_nextFrom 28 = .ok (.aload_n 0, 1) := by decide +kernel
theorem dX13_nextFrom_29 : decode cX13_nextFrom 29 = .ok (.getfield 310, 3) := by decide +kernel
theorem dX13_nextFrom_32 : decode cX13_nextFrom 32 = .ok (.getfield 356, 3) := by decide +kernel
theorem dX13_nextFrom_35 : decode cX13_nextFrom 35 = .ok (.iload 5, 2) := by decide +kernel
theorem dX13_nextFrom_37 : decode cX13_nextFrom 37 = .ok (.iaload, 1) := by decide +kernel
theorem dX13_nextFrom_38 : decode cX13_nextFrom 38 = .ok (.iload 4, 2) := by decide +kernel
theorem dX13_nextFrom_40 : decode cX13_nextFrom 40 = .ok (.if_icmp .ne 71, 3) := by decide +kernel
theorem dX13_nextFrom_43 : decode cX13_nextFrom 43 = .ok (.lload_n 1, 1) := by decide +kernel
theorem dX13_nextFrom_44 : decode cX13_nextFrom 44 = .ok (.iload 5, 2) := by decide +kernel
theorem dX13_nextFrom_46 : decode cX13_nextFrom 46 = .ok (.invokestatic 349, 3) := by decide +kernel
theorem dX13_nextFrom_49 : decode cX13_nextFrom 49 = .ok (.bipush 15, 2) := by decide +kernel
theorem dX13_nextFrom_51 : decode cX13_nextFrom 51 = .ok (.if_icmp .eq 54, 3) := by decide +kernel
theorem dX13_nextFrom_54 : decode cX13_nextFrom 54 = .ok (.aload_n 0, 1) := by decide +kernel
theorem dX13_nextFrom_55 : decode cX13_nextFrom 55 = .ok (.aload_n 0, 1) := by decide +kernel
theorem dX13_nextFrom_56 : decode cX13_nextFrom 56 = .ok (.getfield 310, 3) := by decide +kernel
theorem dX13_nextFrom_59 : decode cX13_nextFrom 59 = .ok (.getfield 359, 3) := by decide +kernel
theorem dX13_nextFrom_62 : decode cX13_nextFrom 62 = .ok (.aload_n 0, 1) := by decide +kernel
theorem dX13_nextFrom_63 : decode cX13_nextFrom 63 = .ok (.getfield 310, 3) := by decide +kernel
theorem dX13_nextFrom_66 : decode cX13_nextFrom 66 = .ok (.getfield 362, 3) := by decide +kernel
theorem dX13_nextFrom_69 : decode cX13_nextFrom 69 = .ok (.iload_n 3, 1) := by decide +kernel
theorem dX13_nextFrom_70 : decode cX13_nextFrom 70 = .ok (.iaload, 1) := by decide +kernel
theorem dX13_nextFrom_71 : decode cX13_nextFrom 71 = .ok (.iaload, 1) := by decide +kernel
theorem dX13_nextFrom_72 : decode cX13_nextFrom 72 = .ok (.aload_n 0, 1) := by decide +kernel
theorem dX13_nextFrom_73 : decode cX13_nextFrom 73 = .ok (.getfield 310, 3) := by decide +kernel
theorem dX13_nextFrom_76 : decode cX13_nextFrom 76 = .ok (.getfield 359, 3) := by decide +kernel
theorem dX13_nextFrom_79 : decode cX13_nextFrom 79 = .ok (.aload_n 0, 1) := by decide +kernel
theorem dX13_nextFrom_80 : decode cX13_nextFrom 80 = .ok (.getfield 310, 3) := by decide +kernel
theorem dX13_nextFrom_83 : decode cX13_nextFrom 83 = .ok (.getfield 362, 3) := by decide +kernel
theorem dX13_nextFrom_86 : decode cX13_nextFrom 86 = .ok (.iload 5, 2) := by decide +kernel
theorem dX13_nextFrom_88 : decode cX13_nextFrom 88 = .ok (.iaload, 1) := by decide +kernel
theorem dX13_nextFrom_89 : decode cX13_nextFrom 89 = .ok (.iaload, 1) := by decide +kernel
theorem dX13_nextFrom_90 : decode cX13_nextFrom 90 = .ok (.iload 4, 2) := by decide +kernel
theorem dX13_nextFrom_92 : decode cX13_nextFrom 92 = .ok (.invokevirtual 365, 3) := by decide +kernel
theorem dX13_nextFrom_95 : decode cX13_nextFrom 95 = .ok (.ifCond .eq 7, 3) := by decide +kernel
theorem dX13_nextFrom_98 : decode cX13_nextFrom 98 = .ok (.iconst (-1), 1) := by decide +kernel
theorem dX13_nextFrom_99 : decode cX13_nextFrom 99 = .ok (.goto 5, 3) := by decide +kernel
theorem dX13_nextFrom_102 : decode cX13_nextFrom 102 = .ok (.iload 5, 2) := by decide +kernel
theorem dX13_nextFrom_104 : decode cX13_nextFrom 104 = .ok (.ireturn, 1) := by decide +kernel
theorem dX13_nextFrom_105 : decode cX13_nextFrom 105 = .ok (.iinc 5 1, 3) := by decide +kernel
theorem dX13_nextFrom_108 : decode cX13_nextFrom 108 = .ok (.goto (-92), 3) := by decide +kernel
theorem dX13_nextFrom_111 : decode cX13_nextFrom 111 = .ok (.iconst 0, 1) := by decide +kernel
theorem dX13_nextFrom_112 : decode cX13_nextFrom 112 = .ok (.istore 5, 2) := by decide +kernel
theorem dX13_nextFrom_114 : decode cX13_nextFrom 114 = .ok (.iload 5, 2) := by decide +kernel
theorem dX13_nextFrom_116 : decode cX13_nextFrom 116 = .ok (.iload_n 3, 1) := by decide +kernel
theorem dX13_nextFrom_117 : decode cX13_nextFrom 117 = .ok (.if_icmp .gt 98, 3) := by decide +kernel
theorem dX13_nextFrom_120 : decode cX13_nextFrom 120 = .ok (.aload_n 0, 1) := by decide +kernel
theorem dX13_nextFrom_121 : decode cX13_nextFrom 121 = .ok (.getfield 310, 3) := by decide +kernel
theorem dX13_nextFrom_124 : decode cX13_nextFrom 124 = .ok (.getfield 356, 3) := by decide +kernel
theorem dX13_nextFrom_127 : decode cX13_nextFrom 127 = .ok (.iload 5, 2) := by decide +kernel
theorem dX13_nextFrom_129 : decode cX13_nextFrom 129 = .ok (.iaload, 1) := by decide +kernel
theorem dX13_nextFrom_130 : decode cX13_nextFrom 130 = .ok (.iload 4, 2) := by decide +kernel
theorem dX13_nextFrom_132 : decode cX13_nextFrom 132 = .ok (.if_icmp .ne 77, 3) := by decide +kernel
theorem dX13_nextFrom_135 : decode cX13_nextFrom 135 = .ok (.lload_n 1, 1) := by decide +kernel
theorem dX13_nextFrom_136 : decode cX13_nextFrom 136 = .ok (.iload 5, 2) := by decide +kernel
theorem dX13_nextFrom_138 : decode cX13_nextFrom 138 = .ok (.invokestatic 349, 3) := by decide +kernel
theorem dX13_nextFrom_141 : decode cX13_nextFrom 141 = .ok (.bipush 15, 2) := by decide +kernel
theorem dX13_nextFrom_143 : decode cX13_nextFrom 143 = .ok (.if_icmp .eq 66, 3) := by decide +kernel
theorem dX13_nextFrom_146 : decode cX13_nextFrom 146 = .ok (.aload_n 0, 1) := by decide +kernel
theorem dX13_nextFrom_147 : decode cX13_nextFrom 147 = .ok (.aload_n 0, 1) := by decide +kernel
theorem dX13_nextFrom_148 : decode cX13_nextFrom 148 = .ok (.getfield 310, 3) := by decide +kernel
theorem dX13_nextFrom_151 : decode cX13_nextFrom 151 = .ok (.getfield 359, 3) := by decide +kernel
theorem dX13_nextFrom_154 : decode cX13_nextFrom 154 = .ok (.aload_n 0, 1) := by decide +kernel
theorem dX13_nextFrom_155 : decode cX13_nextFrom 155 = .ok (.getfield 310, 3) := by decide +kernel
theorem dX13_nextFrom_158 : decode cX13_nextFrom 158 = .ok (.getfield 362, 3) := by decide +kernel
theorem dX13_nextFrom_161 : decode cX13_nextFrom 161 = .ok (.iload_n 3, 1) := by decide +kernel
theorem dX13_nextFrom_162 : decode cX13_nextFrom 162 = .ok (.iaload, 1) := by decide +kernel
theorem dX13_nextFrom_163 : decode cX13_nextFrom 163 = .ok (.iaload, 1) := by decide +kernel
theorem dX13_nextFrom_164 : decode cX13_nextFrom 164 = .ok (.bipush 8, 2) := by decide +kernel
theorem dX13_nextFrom_166 : decode cX13_nextFrom 166 = .ok (.iload 4, 2) := by decide +kernel
theorem dX13_nextFrom_168 : decode cX13_nextFrom 168 = .ok (.invokevirtual 365, 3) := by decide +kernel
theorem dX13_nextFrom_171 : decode cX13_nextFrom 171 = .ok (.ifCond .ne 31, 3) := by decide +kernel
theorem dX13_nextFrom_174 : decode cX13_nextFrom 174 = .ok (.aload_n 0, 1) := by decide +kernel
theorem dX13_nextFrom_175 : decode cX13_nextFrom 175 = .ok (.iconst (-1), 1) := by decide +kernel
theorem dX13_nextFrom_176 : decode cX13_nextFrom 176 = .ok (.aload_n 0, 1) := by decide +kernel
theorem dX13_nextFrom_177 : decode cX13_nextFrom 177 = .ok (.getfield 310, 3) := by decide +kernel
theorem dX13_nextFrom_180 : decode cX13_nextFrom 180 = .ok (.getfield 359, 3) := by decide +kernel
theorem dX13_nextFrom_183 : decode cX13_nextFrom 183 = .ok (.aload_n 0, 1) := by decide +kernel
theorem dX13_nextFrom_184 : decode cX13_nextFrom 184 = .ok (.getfield 310, 3) := by decide +kernel
theorem dX13_nextFrom_187 : decode cX13_nextFrom 187 = .ok (.getfield 362, 3) := by decide +kernel
theorem dX13_nextFrom_190 : decode cX13_nextFrom 190 = .ok (.iload 5, 2) := by decide +kernel
theorem dX13_nextFrom_192 : decode cX13_nextFrom 192 = .ok (.iaload, 1) := by decide +kernel
theorem dX13_nextFrom_193 : decode cX13_nextFrom 193 = .ok (.iaload, 1) := by decide +kernel
theorem dX13_nextFrom_194 : decode cX13_nextFrom 194 = .ok (.iload 4, 2) := by decide +kernel
theorem dX13_nextFrom_196 : decode cX13_nextFrom 196 = .ok (.invokevirtual 365, 3) := by decide +kernel
theorem dX13_nextFrom_199 : decode cX13_nextFrom 199 = .ok (.ifCond .eq 7, 3) := by decide +kernel
theorem dX13_nextFrom_202 : decode cX13_nextFrom 202 = .ok (.iconst (-1), 1) := by decide +kernel
theorem dX13_nextFrom_203 : decode cX13_nextFrom 203 = .ok (.goto 5, 3) := by decide +kernel
theorem dX13_nextFrom_206 : decode cX13_nextFrom 206 = .ok (.iload 5, 2) := by decide +kernel
theorem dX13_nextFrom_208 : decode cX13_nextFrom 208 = .ok (.ireturn, 1) := by decide +kernel
theorem dX13_nextFrom_209 : decode cX13_nextFrom 209 = .ok (.iinc 5 1, 3) := by decide +kernel
theorem dX13_nextFrom_212 : decode cX13_nextFrom 212 = .ok (.goto (-98), 3) := by decide +kernel
theorem dX13_nextFrom_215 : decode cX13_nextFrom 215 = .ok (.iconst (-1), 1) := by decide +kernel
theorem dX13_nextFrom_216 : decode cX13_nextFrom 216 = .ok (.ireturn, 1) := by decide +kernel
theorem dX13_isOpen_0 : decode cX13_isOpen 0 = .ok (.aload_n 0, 1) := by decide +kernel
theorem dX13_isOpen_1 : decode cX13_isOpen 1 = .ok (.getfield 321, 3) := by decide +kernel
theorem dX13_isOpen_4 : decode cX13_isOpen 4 = .ok (.bipush (-2), 2) := by decide +kernel
theorem dX13_isOpen_6 : decode cX13_isOpen 6 = .ok (.if_icmp .eq 55, 3) := by decide +kernel
theorem dX13_isOpen_9 : decode cX13_isOpen 9 = .ok (.aload_n 0, 1) := by decide +kernel
theorem dX13_isOpen_10 : decode cX13_isOpen 10 = .ok (.getfield 310, 3) := by decide +kernel
theorem dX13_isOpen_13 : decode cX13_isOpen 13 = .ok (.getfield 368, 3) := by decide +kernel
theorem dX13_isOpen_16 : decode cX13_isOpen 16 = .ok (.aload_n 0, 1) := by decide +kernel
theorem dX13_isOpen_17 : decode cX13_isOpen 17 = .ok (.getfield 321, 3) := by decide +kernel
theorem dX13_isOpen_20 : decode cX13_isOpen 20 = .ok (.iaload, 1) := by decide +kernel
theorem dX13_isOpen_21 : decode cX13_isOpen 21 = .ok (.iload_n 3, 1) := by decide +kernel
theorem dX13_isOpen_22 : decode cX13_isOpen 22 = .ok (.if_icmp .ne 39, 3) := by decide +kernel
theorem dX13_isOpen_25 : decode cX13_isOpen 25 = .ok (.aload_n 0, 1) := by decide +kernel
theorem dX13_isOpen_26 : decode cX13_isOpen 26 = .ok (.getfield 310, 3) := by decide +kernel
theorem dX13_isOpen_29 : decode cX13_isOpen 29 = .ok (.getfield 359, 3) := by decide +kernel
theorem dX13_isOpen_32 : decode cX13_isOpen 32 = .ok (.aload_n 0, 1) := by decide +kernel
theorem dX13_isOpen_33 : decode cX13_isOpen 33 = .ok (.getfield 321, 3) := by decide +kernel
theorem dX13_isOpen_36 : decode cX13_isOpen 36 = .ok (.iaload, 1) := by decide +kernel
theorem dX13_isOpen_37 : decode cX13_isOpen 37 = .ok (.iload_n 1, 1) := by decide +kernel
theorem dX13_isOpen_38 : decode cX13_isOpen 38 = .ok (.if_icmp .le 23, 3) := by decide +kernel
theorem dX13_isOpen_41 : decode cX13_isOpen 41 = .ok (.aload_n 0, 1) := by decide +kernel
theorem dX13_isOpen_42 : decode cX13_isOpen 42 = .ok (.getfield 310, 3) := by decide +kernel
theorem dX13_isOpen_45 : decode cX13_isOpen 45 = .ok (.getfield 359, 3) := by decide +kernel
theorem dX13_isOpen_48 : decode cX13_isOpen 48 = .ok (.aload_n 0, 1) := by decide +kernel
theorem dX13_isOpen_49 : decode cX13_isOpen 49 = .ok (.getfield 321, 3) := by decide +kernel
theorem dX13_isOpen_52 : decode cX13_isOpen 52 = .ok (.iaload, 1) := by decide +kernel
theorem dX13_isOpen_53 : decode cX13_isOpen 53 = .ok (.iload_n 2, 1) := by decide +kernel
theorem dX13_isOpen_54 : decode cX13_isOpen 54 = .ok (.if_icmp .ge 7, 3) := by decide +kernel
theorem dX13_isOpen_57 : decode cX13_isOpen 57 = .ok (.iconst 1, 1) := by decide +kernel
theorem dX13_isOpen_58 : decode cX13_isOpen 58 = .ok (.goto 4, 3) := by decide +kernel
theorem dX13_isOpen_61 : decode cX13_isOpen 61 = .ok (.iconst 0, 1) := by decide +kernel
theorem dX13_isOpen_62 : decode cX13_isOpen 62 = .ok (.ireturn, 1) := by decide +kernel
theorem dX13_areBeside_0 : decode cX13_areBeside 0 = .ok (.aload_n 0, 1) := by decide +kernel
theorem dX13_areBeside_1 : decode cX13_areBeside 1 = .ok (.getfield 17, 3) := by decide +kernel
theorem dX13_areBeside_4 : decode cX13_areBeside 4 = .ok (.iload_n 1, 1) := by decide +kernel
theorem dX13_areBeside_5 : decode cX13_areBeside 5 = .ok (.iaload, 1) := by decide +kernel
theorem dX13_areBeside_6 : decode cX13_areBeside 6 = .ok (.istore_n 3, 1) := by decide +kernel
theorem dX13_areBeside_7 : decode cX13_areBeside 7 = .ok (.aload_n 0, 1) := by decide +kernel
theorem dX13_areBeside_8 : decode cX13_areBeside 8 = .ok (.getfield 17, 3) := by decide +kernel
theorem dX13_areBeside_11 : decode cX13_areBeside 11 = .ok (.iload_n 2, 1) := by decide +kernel
theorem dX13_areBeside_12 : decode cX13_areBeside 12 = .ok (.iaload, 1) := by decide +kernel
theorem dX13_areBeside_13 : decode cX13_areBeside 13 = .ok (.istore 4, 2) := by decide +kernel
theorem dX13_areBeside_15 : decode cX13_areBeside 15 = .ok (.iload_n 3, 1) := by decide +kernel
theorem dX13_areBeside_16 : decode cX13_areBeside 16 = .ok (.iconst (-1), 1) := by decide +kernel
theorem dX13_areBeside_17 : decode cX13_areBeside 17 = .ok (.if_icmp .eq 41, 3) := by decide +kernel
theorem dX13_areBeside_20 : decode cX13_areBeside 20 = .ok (.iload 4, 2) := by decide +kernel
theorem dX13_areBeside_22 : decode cX13_areBeside 22 = .ok (.iconst (-1), 1) := by decide +kernel
theorem dX13_areBeside_23 : decode cX13_areBeside 23 = .ok (.if_icmp .eq 35, 3) := by decide +kernel
theorem dX13_areBeside_26 : decode cX13_areBeside 26 = .ok (.iload_n 3, 1) := by decide +kernel
theorem dX13_areBeside_27 : decode cX13_areBeside 27 = .ok (.iload 4, 2) := by decide +kernel
theorem dX13_areBeside_29 : decode cX13_areBeside 29 = .ok (.if_icmp .eq 29, 3) := by decide +kernel
theorem dX13_areBeside_32 : decode cX13_areBeside 32 = .ok (.aload_n 0, 1) := by decide +kernel
theorem dX13_areBeside_33 : decode cX13_areBeside 33 = .ok (.getfield 21, 3) := by decide +kernel
theorem dX13_areBeside_36 : decode cX13_areBeside 36 = .ok (.iload_n 3, 1) := by decide +kernel
theorem dX13_areBeside_37 : decode cX13_areBeside 37 = .ok (.iaload, 1) := by decide +kernel
theorem dX13_areBeside_38 : decode cX13_areBeside 38 = .ok (.iload 4, 2) := by decide +kernel
theorem dX13_areBeside_40 : decode cX13_areBeside 40 = .ok (.if_icmp .eq 14, 3) := by decide +kernel
theorem dX13_areBeside_43 : decode cX13_areBeside 43 = .ok (.aload_n 0, 1) := by decide +kernel
theorem dX13_areBeside_44 : decode cX13_areBeside 44 = .ok (.getfield 21, 3) := by decide +kernel
theorem dX13_areBeside_47 : decode cX13_areBeside 47 = .ok (.iload 4, 2) := by decide +kernel
theorem dX13_areBeside_49 : decode cX13_areBeside 49 = .ok (.iaload, 1) := by decide +kernel
theorem dX13_areBeside_50 : decode cX13_areBeside 50 = .ok (.iload_n 3, 1) := by decide +kernel
theorem dX13_areBeside_51 : decode cX13_areBeside 51 = .ok (.if_icmp .ne 7, 3) := by decide +kernel
theorem dX13_areBeside_54 : decode cX13_areBeside 54 = .ok (.iconst 1, 1) := by decide +kernel
theorem dX13_areBeside_55 : decode cX13_areBeside 55 = .ok (.goto 4, 3) := by decide +kernel
theorem dX13_areBeside_58 : decode cX13_areBeside 58 = .ok (.iconst 0, 1) := by decide +kernel
theorem dX13_areBeside_59 : decode cX13_areBeside 59 = .ok (.ireturn, 1) := by decide +kernel
theorem dX13_kindOf_0 : decode cX13_kindOf 0 = .ok (.iload_n 0, 1) := by decide +kernel
theorem dX13_kindOf_1 : decode cX13_kindOf 1 = .ok (.bipush 100, 2) := by decide +kernel
theorem dX13_kindOf_3 : decode cX13_kindOf 3 = .ok (.if_icmp .ge 7, 3) := by decide +kernel
theorem dX13_kindOf_6 : decode cX13_kindOf 6 = .ok (.iconst 0, 1) := by decide +kernel
theorem dX13_kindOf_7 : decode cX13_kindOf 7 = .ok (.goto 15, 3) := by decide +kernel
theorem dX13_kindOf_10 : decode cX13_kindOf 10 = .ok (.iload_n 0, 1) := by decide +kernel
theorem dX13_kindOf_11 : decode cX13_kindOf 11 = .ok (.sipush 1000, 3) := by decide +kernel
theorem dX13_kindOf_14 : decode cX13_kindOf 14 = .ok (.if_icmp .ge 7, 3) := by decide +kernel
theorem dX13_kindOf_17 : decode cX13_kindOf 17 = .ok (.iconst 1, 1) := by decide +kernel
theorem dX13_kindOf_18 : decode cX13_kindOf 18 = .ok (.goto 4, 3) := by decide +kernel
theorem dX13_kindOf_21 : decode cX13_kindOf 21 = .ok (.iconst 2, 1) := by decide +kernel
theorem dX13_kindOf_22 : decode cX13_kindOf 22 = .ok (.ireturn, 1) := by decide +kernel
theorem dX13_isMove_0 : decode cX13_isMove 0 = .ok (.aload_n 0, 1) := by decide +kernel
theorem dX13_isMove_1 : decode cX13_isMove 1 = .ok (.getfield 310, 3) := by decide +kernel
theorem dX13_isMove_4 : decode cX13_isMove 4 = .ok (.ifnull 14, 3) := by decide +kernel
theorem dX13_isMove_7 : decode cX13_isMove 7 = .ok (.iload_n 1, 1) := by decide +kernel
theorem dX13_isMove_8 : decode cX13_isMove 8 = .ok (.ifCond .lt 10, 3) := by decide +kernel
theorem dX13_isMove_11 : decode cX13_isMove 11 = .ok (.iload_n 1, 1) := by decide +kernel
theorem dX13_isMove_12 : decode cX13_isMove 12 = .ok (.sipush 1999, 3) := by decide +kernel
theorem dX13_isMove_15 : decode cX13_isMove 15 = .ok (.if_icmp .le 5, 3) := by decide +kernel
theorem dX13_isMove_18 : decode cX13_isMove 18 = .ok (.iconst 0, 1) := by decide +kernel
theorem dX13_isMove_19 : decode cX13_isMove 19 = .ok (.ireturn, 1) := by decide +kernel
theorem dX13_isMove_20 : decode cX13_isMove 20 = .ok (.aload_n 0, 1) := by decide +kernel
theorem dX13_isMove_21 : decode cX13_isMove 21 = .ok (.getfield 310, 3) := by decide +kernel
theorem dX13_isMove_24 : decode cX13_isMove 24 = .ok (.getfield 277, 3) := by decide +kernel
theorem dX13_isMove_27 : decode cX13_isMove 27 = .ok (.istore_n 2, 1) := by decide +kernel
theorem dX13_isMove_28 : decode cX13_isMove 28 = .ok (.iload_n 1, 1) := by decide +kernel
theorem dX13_isMove_29 : decode cX13_isMove 29 = .ok (.bipush 10, 2) := by decide +kernel
theorem dX13_isMove_31 : decode cX13_isMove 31 = .ok (.idiv, 1) := by decide +kernel
theorem dX13_isMove_32 : decode cX13_isMove 32 = .ok (.bipush 10, 2) := by decide +kernel
theorem dX13_isMove_34 : decode cX13_isMove 34 = .ok (.irem, 1) := by decide +kernel
theorem dX13_isMove_35 : decode cX13_isMove 35 = .ok (.istore_n 3, 1) := by decide +kernel
theorem dX13_isMove_36 : decode cX13_isMove 36 = .ok (.iload_n 1, 1) := by decide +kernel
theorem dX13_isMove_37 : decode cX13_isMove 37 = .ok (.bipush 10, 2) := by decide +kernel
theorem dX13_isMove_39 : decode cX13_isMove 39 = .ok (.irem, 1) := by decide +kernel
theorem dX13_isMove_40 : decode cX13_isMove 40 = .ok (.istore 4, 2) := by decide +kernel
theorem dX13_isMove_42 : decode cX13_isMove 42 = .ok (.iload_n 1, 1) := by decide +kernel
theorem dX13_isMove_43 : decode cX13_isMove 43 = .ok (.invokestatic 371, 3) := by decide +kernel
theorem dX13_isMove_46 : decode cX13_isMove 46 = .ok (.lookupswitch 62 #[(0, 26), (1, 37)], 26) := by decide +kernel
theorem dX13_isMove_72 : decode cX13_isMove 72 = .ok (.iload_n 1, 1) := by decide +kernel
theorem dX13_isMove_73 : decode cX13_isMove 73 = .ok (.iload_n 2, 1) := by decide +kernel
theorem dX13_isMove_74 : decode cX13_isMove 74 = .ok (.if_icmp .ge 7, 3) := by decide +kernel
theorem dX13_isMove_77 : decode cX13_isMove 77 = .ok (.iconst 1, 1) := by decide +kernel
theorem dX13_isMove_78 : decode cX13_isMove 78 = .ok (.goto 4, 3) := by decide +kernel
theorem dX13_isMove_81 : decode cX13_isMove 81 = .ok (.iconst 0, 1) := by decide +kernel
theorem dX13_isMove_82 : decode cX13_isMove 82 = .ok (.ireturn, 1) := by decide +kernel
theorem dX13_isMove_83 : decode cX13_isMove 83 = .ok (.iload_n 1, 1) := by decide +kernel
theorem dX13_isMove_84 : decode cX13_isMove 84 = .ok (.sipush 200, 3) := by decide +kernel
theorem dX13_isMove_87 : decode cX13_isMove 87 = .ok (.if_icmp .ge 19, 3) := by decide +kernel
theorem dX13_isMove_90 : decode cX13_isMove 90 = .ok (.iload_n 3, 1) := by decide +kernel
theorem dX13_isMove_91 : decode cX13_isMove 91 = .ok (.iload 4, 2) := by decide +kernel
theorem dX13_isMove_93 : decode cX13_isMove 93 = .ok (.if_icmp .ge 13, 3) := by decide +kernel
theorem dX13_isMove_96 : decode cX13_isMove 96 = .ok (.iload 4, 2) := by decide +kernel
theorem dX13_isMove_98 : decode cX13_isMove 98 = .ok (.iload_n 2, 1) := by decide +kernel
theorem dX13_isMove_99 : decode cX13_isMove 99 = .ok (.if_icmp .ge 7, 3) := by decide +kernel
theorem dX13_isMove_102 : decode cX13_isMove 102 = .ok (.iconst 1, 1) := by decide +kernel
theorem dX13_isMove_103 : decode cX13_isMove 103 = .ok (.goto 4, 3) := by decide +kernel
theorem dX13_isMove_106 : decode cX13_isMove 106 = .ok (.iconst 0, 1) := by decide +kernel
theorem dX13_isMove_107 : decode cX13_isMove 107 = .ok (.ireturn, 1) := by decide +kernel
theorem dX13_isMove_108 : decode cX13_isMove 108 = .ok (.iload_n 1, 1) := by decide +kernel
theorem dX13_isMove_109 : decode cX13_isMove 109 = .ok (.bipush 100, 2) := by decide +kernel
theorem dX13_isMove_111 : decode cX13_isMove 111 = .ok (.idiv, 1) := by decide +kernel
theorem dX13_isMove_112 : decode cX13_isMove 112 = .ok (.bipush 10, 2) := by decide +kernel
theorem dX13_isMove_114 : decode cX13_isMove 114 = .ok (.irem, 1) := by decide +kernel
theorem dX13_isMove_115 : decode cX13_isMove 115 = .ok (.iload_n 2, 1) := by decide +kernel
theorem dX13_isMove_116 : decode cX13_isMove 116 = .ok (.if_icmp .ge 47, 3) := by decide +kernel
theorem dX13_isMove_119 : decode cX13_isMove 119 = .ok (.iload_n 3, 1) := by decide +kernel
theorem dX13_isMove_120 : decode cX13_isMove 120 = .ok (.iload_n 2, 1) := by decide +kernel
theorem dX13_isMove_121 : decode cX13_isMove 121 = .ok (.if_icmp .ge 42, 3) := by decide +kernel
theorem dX13_isMove_124 : decode cX13_isMove 124 = .ok (.iload 4, 2) := by decide +kernel
theorem dX13_isMove_126 : decode cX13_isMove 126 = .ok (.iload_n 2, 1) := by decide +kernel
theorem dX13_isMove_127 : decode cX13_isMove 127 = .ok (.if_icmp .ge 36, 3) := by decide +kernel
theorem dX13_isMove_130 : decode cX13_isMove 130 = .ok (.iload_n 3, 1) := by decide +kernel
theorem dX13_isMove_131 : decode cX13_isMove 131 = .ok (.iload 4, 2) := by decide +kernel
theorem dX13_isMove_133 : decode cX13_isMove 133 = .ok (.if_icmp .eq 30, 3) := by decide +kernel
theorem dX13_isMove_136 : decode cX13_isMove 136 = .ok (.iload_n 1, 1) := by decide +kernel
theorem dX13_isMove_137 : decode cX13_isMove 137 = .ok (.bipush 100, 2) := by decide +kernel
theorem dX13_isMove_139 : decode cX13_isMove 139 = .ok (.idiv, 1) := by decide +kernel
theorem dX13_isMove_140 : decode cX13_isMove 140 = .ok (.bipush 10, 2) := by decide +kernel
theorem dX13_isMove_142 : decode cX13_isMove 142 = .ok (.irem, 1) := by decide +kernel
theorem dX13_isMove_143 : decode cX13_isMove 143 = .ok (.iload_n 3, 1) := by decide +kernel
theorem dX13_isMove_144 : decode cX13_isMove 144 = .ok (.if_icmp .eq 19, 3) := by decide +kernel
theorem dX13_isMove_147 : decode cX13_isMove 147 = .ok (.iload_n 1, 1) := by decide +kernel
theorem dX13_isMove_148 : decode cX13_isMove 148 = .ok (.bipush 100, 2) := by decide +kernel
theorem dX13_isMove_150 : decode cX13_isMove 150 = .ok (.idiv, 1) := by decide +kernel
theorem dX13_isMove_151 : decode cX13_isMove 151 = .ok (.bipush 10, 2) := by decide +kernel
theorem dX13_isMove_153 : decode cX13_isMove 153 = .ok (.irem, 1) := by decide +kernel
theorem dX13_isMove_154 : decode cX13_isMove 154 = .ok (.iload 4, 2) := by decide +kernel
theorem dX13_isMove_156 : decode cX13_isMove 156 = .ok (.if_icmp .eq 7, 3) := by decide +kernel
theorem dX13_isMove_159 : decode cX13_isMove 159 = .ok (.iconst 1, 1) := by decide +kernel
theorem dX13_isMove_160 : decode cX13_isMove 160 = .ok (.goto 4, 3) := by decide +kernel
theorem dX13_isMove_163 : decode cX13_isMove 163 = .ok (.iconst 0, 1) := by decide +kernel
theorem dX13_isMove_164 : decode cX13_isMove 164 = .ok (.ireturn, 1) := by decide +kernel
theorem dX13_can_0 : decode cX13_can 0 = .ok (.iload_n 1, 1) := by decide +kernel
theorem dX13_can_1 : decode cX13_can 1 = .ok (.bipush 10, 2) := by decide +kernel
theorem dX13_can_3 : decode cX13_can 3 = .ok (.idiv, 1) := by decide +kernel
theorem dX13_can_4 : decode cX13_can 4 = .ok (.bipush 10, 2) := by decide +kernel
theorem dX13_can_6 : decode cX13_can 6 = .ok (.irem, 1) := by decide +kernel
theorem dX13_can_7 : decode cX13_can 7 = .ok (.istore_n 2, 1) := by decide +kernel
theorem dX13_can_8 : decode cX13_can 8 = .ok (.iload_n 1, 1) := by decide +kernel
theorem dX13_can_9 : decode cX13_can 9 = .ok (.bipush 10, 2) := by decide +kernel
theorem dX13_can_11 : decode cX13_can 11 = .ok (.irem, 1) := by decide +kernel
theorem dX13_can_12 : decode cX13_can 12 = .ok (.istore_n 3, 1) := by decide +kernel
theorem dX13_can_13 : decode cX13_can 13 = .ok (.iload_n 1, 1) := by decide +kernel
theorem dX13_can_14 : decode cX13_can 14 = .ok (.bipush 100, 2) := by decide +kernel
theorem dX13_can_16 : decode cX13_can 16 = .ok (.idiv, 1) := by decide +kernel
theorem dX13_can_17 : decode cX13_can 17 = .ok (.bipush 10, 2) := by decide +kernel
theorem dX13_can_19 : decode cX13_can 19 = .ok (.irem, 1) := by decide +kernel
theorem dX13_can_20 : decode cX13_can 20 = .ok (.istore 4, 2) := by decide +kernel
theorem dX13_can_22 : decode cX13_can 22 = .ok (.iload_n 1, 1) := by decide +kernel
theorem dX13_can_23 : decode cX13_can 23 = .ok (.invokestatic 371, 3) := by decide +kernel
theorem dX13_can_26 : decode cX13_can 26 = .ok (.lookupswitch 88 #[(0, 26), (1, 39)], 26) := by decide +kernel
theorem dX13_can_52 : decode cX13_can 52 = .ok (.aload_n 0, 1) := by decide +kernel
theorem dX13_can_53 : decode cX13_can 53 = .ok (.iconst 2, 1) := by decide +kernel
theorem dX13_can_54 : decode cX13_can 54 = .ok (.iload_n 1, 1) := by decide +kernel
theorem dX13_can_55 : decode cX13_can 55 = .ok (.imul, 1) := by decide +kernel
theorem dX13_can_56 : decode cX13_can 56 = .ok (.iconst 2, 1) := by decide +kernel
theorem dX13_can_57 : decode cX13_can 57 = .ok (.iload_n 1, 1) := by decide +kernel
theorem dX13_can_58 : decode cX13_can 58 = .ok (.imul, 1) := by decide +kernel
theorem dX13_can_59 : decode cX13_can 59 = .ok (.iconst 1, 1) := by decide +kernel
theorem dX13_can_60 : decode cX13_can 60 = .ok (.iadd, 1) := by decide +kernel
theorem dX13_can_61 : decode cX13_can 61 = .ok (.invokevirtual 374, 3) := by decide +kernel
theorem dX13_can_64 : decode cX13_can 64 = .ok (.ireturn, 1) := by decide +kernel
theorem dX13_can_65 : decode cX13_can 65 = .ok (.aload_n 0, 1) := by decide +kernel
theorem dX13_can_66 : decode cX13_can 66 = .ok (.iconst 2, 1) := by decide +kernel
theorem dX13_can_67 : decode cX13_can 67 = .ok (.iload_n 2, 1) := by decide +kernel
theorem dX13_can_68 : decode cX13_can 68 = .ok (.imul, 1) := by decide +kernel
theorem dX13_can_69 : decode cX13_can 69 = .ok (.iconst 1, 1) := by decide +kernel
theorem dX13_can_70 : decode cX13_can 70 = .ok (.iadd, 1) := by decide +kernel
theorem dX13_can_71 : decode cX13_can 71 = .ok (.iconst 2, 1) := by decide +kernel
theorem dX13_can_72 : decode cX13_can 72 = .ok (.iload_n 3, 1) := by decide +kernel
theorem dX13_can_73 : decode cX13_can 73 = .ok (.imul, 1) := by decide +kernel
theorem dX13_can_74 : decode cX13_can 74 = .ok (.iconst 1, 1) := by decide +kernel
theorem dX13_can_75 : decode cX13_can 75 = .ok (.iadd, 1) := by decide +kernel
theorem dX13_can_76 : decode cX13_can 76 = .ok (.invokevirtual 374, 3) := by decide +kernel
theorem dX13_can_79 : decode cX13_can 79 = .ok (.ifCond .eq 33, 3) := by decide +kernel
theorem dX13_can_82 : decode cX13_can 82 = .ok (.aload_n 0, 1) := by decide +kernel
theorem dX13_can_83 : decode cX13_can 83 = .ok (.iconst 2, 1) := by decide +kernel
theorem dX13_can_84 : decode cX13_can 84 = .ok (.iload_n 2, 1) := by decide +kernel
theorem dX13_can_85 : decode cX13_can 85 = .ok (.imul, 1) := by decide +kernel
theorem dX13_can_86 : decode cX13_can 86 = .ok (.iconst 2, 1) := by decide +kernel
theorem dX13_can_87 : decode cX13_can 87 = .ok (.iload_n 3, 1) := by decide +kernel
theorem dX13_can_88 : decode cX13_can 88 = .ok (.imul, 1) := by decide +kernel
theorem dX13_can_89 : decode cX13_can 89 = .ok (.invokevirtual 374, 3) := by decide +kernel
theorem dX13_can_92 : decode cX13_can 92 = .ok (.ifCond .eq 20, 3) := by decide +kernel
theorem dX13_can_95 : decode cX13_can 95 = .ok (.aload_n 0, 1) := by decide +kernel
theorem dX13_can_96 : decode cX13_can 96 = .ok (.iload_n 2, 1) := by decide +kernel
theorem dX13_can_97 : decode cX13_can 97 = .ok (.invokevirtual 377, 3) := by decide +kernel
theorem dX13_can_100 : decode cX13_can 100 = .ok (.aload_n 0, 1) := by decide +kernel
theorem dX13_can_101 : decode cX13_can 101 = .ok (.iload_n 3, 1) := by decide +kernel
theorem dX13_can_102 : decode cX13_can 102 = .ok (.invokevirtual 377, 3) := by decide +kernel
theorem dX13_can_105 : decode cX13_can 105 = .ok (.if_icmp .eq 7, 3) := by decide +kernel
theorem dX13_can_108 : decode cX13_can 108 = .ok (.iconst 1, 1) := by decide +kernel
theorem dX13_can_109 : decode cX13_can 109 = .ok (.goto 4, 3) := by decide +kernel
theorem dX13_can_112 : decode cX13_can 112 = .ok (.iconst 0, 1) := by decide +kernel
theorem dX13_can_113 : decode cX13_can 113 = .ok (.ireturn, 1) := by decide +kernel
theorem dX13_can_114 : decode cX13_can 114 = .ok (.aload_n 0, 1) := by decide +kernel
theorem dX13_can_115 : decode cX13_can 115 = .ok (.iconst 2, 1) := by decide +kernel
theorem dX13_can_116 : decode cX13_can 116 = .ok (.iload 4, 2) := by decide +kernel
theorem dX13_can_118 : decode cX13_can 118 = .ok (.imul, 1) := by decide +kernel
theorem dX13_can_119 : decode cX13_can 119 = .ok (.iconst 1, 1) := by decide +kernel
theorem dX13_can_120 : decode cX13_can 120 = .ok (.iadd, 1) := by decide +kernel
theorem dX13_can_121 : decode cX13_can 121 = .ok (.iconst 2, 1) := by decide +kernel
theorem dX13_can_122 : decode cX13_can 122 = .ok (.iload_n 2, 1) := by decide +kernel
theorem dX13_can_123 : decode cX13_can 123 = .ok (.imul, 1) := by decide +kernel
theorem dX13_can_124 : decode cX13_can 124 = .ok (.iconst 1, 1) := by decide +kernel
theorem dX13_can_125 : decode cX13_can 125 = .ok (.iadd, 1) := by decide +kernel
theorem dX13_can_126 : decode cX13_can 126 = .ok (.invokevirtual 374, 3) := by decide +kernel
theorem dX13_can_129 : decode cX13_can 129 = .ok (.ifCond .eq 36, 3) := by decide +kernel
theorem dX13_can_132 : decode cX13_can 132 = .ok (.aload_n 0, 1) := by decide +kernel
theorem dX13_can_133 : decode cX13_can 133 = .ok (.iconst 2, 1) := by decide +kernel
theorem dX13_can_134 : decode cX13_can 134 = .ok (.iload 4, 2) := by decide +kernel
theorem dX13_can_136 : decode cX13_can 136 = .ok (.imul, 1) := by decide +kernel
theorem dX13_can_137 : decode cX13_can 137 = .ok (.iconst 2, 1) := by decide +kernel
theorem dX13_can_138 : decode cX13_can 138 = .ok (.iload_n 3, 1) := by decide +kernel
theorem dX13_can_139 : decode cX13_can 139 = .ok (.imul, 1) := by decide +kernel
theorem dX13_can_140 : decode cX13_can 140 = .ok (.iconst 1, 1) := by decide +kernel
theorem dX13_can_141 : decode cX13_can 141 = .ok (.iadd, 1) := by decide +kernel
theorem dX13_can_142 : decode cX13_can 142 = .ok (.invokevirtual 374, 3) := by decide +kernel
theorem dX13_can_145 : decode cX13_can 145 = .ok (.ifCond .eq 20, 3) := by decide +kernel
theorem dX13_can_148 : decode cX13_can 148 = .ok (.aload_n 0, 1) := by decide +kernel
theorem dX13_can_149 : decode cX13_can 149 = .ok (.iconst 2, 1) := by decide +kernel
theorem dX13_can_150 : decode cX13_can 150 = .ok (.iload_n 2, 1) := by decide +kernel
theorem dX13_can_151 : decode cX13_can 151 = .ok (.imul, 1) := by decide +kernel
theorem dX13_can_152 : decode cX13_can 152 = .ok (.iconst 2, 1) := by decide +kernel
theorem dX13_can_153 : decode cX13_can 153 = .ok (.iload_n 3, 1) := by decide +kernel
theorem dX13_can_154 : decode cX13_can 154 = .ok (.imul, 1) := by decide +kernel
theorem dX13_can_155 : decode cX13_can 155 = .ok (.invokevirtual 374, 3) := by decide +kernel
theorem dX13_can_158 : decode cX13_can 158 = .ok (.ifCond .eq 7, 3) := by decide +kernel
theorem dX13_can_161 : decode cX13_can 161 = .ok (.iconst 1, 1) := by decide +kernel
theorem dX13_can_162 : decode cX13_can 162 = .ok (.goto 4, 3) := by decide +kernel
theorem dX13_can_165 : decode cX13_can 165 = .ok (.iconst 0, 1) := by decide +kernel
theorem dX13_can_166 : decode cX13_can 166 = .ok (.ireturn, 1) := by decide +kernel
theorem dX13_goerOf_0 : decode cX13_goerOf 0 = .ok (.iload_n 1, 1) := by decide +kernel
theorem dX13_goerOf_1 : decode cX13_goerOf 1 = .ok (.invokestatic 371, 3) := by decide +kernel
theorem dX13_goerOf_4 : decode cX13_goerOf 4 = .ok (.ifCond .ne 6, 3) := by decide +kernel
theorem dX13_goerOf_7 : decode cX13_goerOf 7 = .ok (.bipush (-2), 2) := by decide +kernel
theorem dX13_goerOf_9 : decode cX13_goerOf 9 = .ok (.ireturn, 1) := by decide +kernel
theorem dX13_goerOf_10 : decode cX13_goerOf 10 = .ok (.aload_n 0, 1) := by decide +kernel
theorem dX13_goerOf_11 : decode cX13_goerOf 11 = .ok (.getfield 17, 3) := by decide +kernel
theorem dX13_goerOf_14 : decode cX13_goerOf 14 = .ok (.iconst 2, 1) := by decide +kernel
theorem dX13_goerOf_15 : decode cX13_goerOf 15 = .ok (.iload_n 1, 1) := by decide +kernel
theorem dX13_goerOf_16 : decode cX13_goerOf 16 = .ok (.bipush 10, 2) := by decide +kernel
theorem dX13_goerOf_18 : decode cX13_goerOf 18 = .ok (.idiv, 1) := by decide +kernel
theorem dX13_goerOf_19 : decode cX13_goerOf 19 = .ok (.bipush 10, 2) := by decide +kernel
theorem dX13_goerOf_21 : decode cX13_goerOf 21 = .ok (.irem, 1) := by decide +kernel
theorem dX13_goerOf_22 : decode cX13_goerOf 22 = .ok (.imul, 1) := by decide +kernel
theorem dX13_goerOf_23 : decode cX13_goerOf 23 = .ok (.iaload, 1) := by decide +kernel
theorem dX13_goerOf_24 : decode cX13_goerOf 24 = .ok (.istore_n 2, 1) := by decide +kernel
theorem dX13_goerOf_25 : decode cX13_goerOf 25 = .ok (.aload_n 0, 1) := by decide +kernel
theorem dX13_goerOf_26 : decode cX13_goerOf 26 = .ok (.getfield 17, 3) := by decide +kernel
theorem dX13_goerOf_29 : decode cX13_goerOf 29 = .ok (.iconst 2, 1) := by decide +kernel
theorem dX13_goerOf_30 : decode cX13_goerOf 30 = .ok (.iload_n 1, 1) := by decide +kernel
theorem dX13_goerOf_31 : decode cX13_goerOf 31 = .ok (.bipush 10, 2) := by decide +kernel
theorem dX13_goerOf_33 : decode cX13_goerOf 33 = .ok (.irem, 1) := by decide +kernel
theorem dX13_goerOf_34 : decode cX13_goerOf 34 = .ok (.imul, 1) := by decide +kernel
theorem dX13_goerOf_35 : decode cX13_goerOf 35 = .ok (.iaload, 1) := by decide +kernel
theorem dX13_goerOf_36 : decode cX13_goerOf 36 = .ok (.istore_n 3, 1) := by decide +kernel
theorem dX13_goerOf_37 : decode cX13_goerOf 37 = .ok (.aload_n 0, 1) := by decide +kernel
theorem dX13_goerOf_38 : decode cX13_goerOf 38 = .ok (.getfield 310, 3) := by decide +kernel
theorem dX13_goerOf_41 : decode cX13_goerOf 41 = .ok (.getfield 362, 3) := by decide +kernel
theorem dX13_goerOf_44 : decode cX13_goerOf 44 = .ok (.iload_n 2, 1) := by decide +kernel
theorem dX13_goerOf_45 : decode cX13_goerOf 45 = .ok (.iload_n 3, 1) := by decide +kernel
theorem dX13_goerOf_46 : decode cX13_goerOf 46 = .ok (.if_icmp .ge 7, 3) := by decide +kernel
theorem dX13_goerOf_49 : decode cX13_goerOf 49 = .ok (.iload_n 2, 1) := by decide +kernel
theorem dX13_goerOf_50 : decode cX13_goerOf 50 = .ok (.goto 4, 3) := by decide +kernel
theorem dX13_goerOf_53 : decode cX13_goerOf 53 = .ok (.iload_n 3, 1) := by decide +kernel
theorem dX13_goerOf_54 : decode cX13_goerOf 54 = .ok (.iaload, 1) := by decide +kernel
theorem dX13_goerOf_55 : decode cX13_goerOf 55 = .ok (.istore 4, 2) := by decide +kernel
theorem dX13_goerOf_57 : decode cX13_goerOf 57 = .ok (.aload_n 0, 1) := by decide +kernel
theorem dX13_goerOf_58 : decode cX13_goerOf 58 = .ok (.getfield 310, 3) := by decide +kernel
theorem dX13_goerOf_61 : decode cX13_goerOf 61 = .ok (.getfield 252, 3) := by decide +kernel
theorem dX13_goerOf_64 : decode cX13_goerOf 64 = .ok (.iload 4, 2) := by decide +kernel
theorem dX13_goerOf_66 : decode cX13_goerOf 66 = .ok (.iaload, 1) := by decide +kernel
theorem dX13_goerOf_67 : decode cX13_goerOf 67 = .ok (.istore 5, 2) := by decide +kernel
theorem dX13_goerOf_69 : decode cX13_goerOf 69 = .ok (.aload_n 0, 1) := by decide +kernel
theorem dX13_goerOf_70 : decode cX13_goerOf 70 = .ok (.getfield 310, 3) := by decide +kernel
theorem dX13_goerOf_73 : decode cX13_goerOf 73 = .ok (.getfield 255, 3) := by decide +kernel
theorem dX13_goerOf_76 : decode cX13_goerOf 76 = .ok (.iload 4, 2) := by decide +kernel
theorem dX13_goerOf_78 : decode cX13_goerOf 78 = .ok (.iaload, 1) := by decide +kernel
theorem dX13_goerOf_79 : decode cX13_goerOf 79 = .ok (.istore 6, 2) := by decide +kernel
theorem dX13_goerOf_81 : decode cX13_goerOf 81 = .ok (.aload_n 0, 1) := by decide +kernel
theorem dX13_goerOf_82 : decode cX13_goerOf 82 = .ok (.getfield 310, 3) := by decide +kernel
theorem dX13_goerOf_85 : decode cX13_goerOf 85 = .ok (.getfield 243, 3) := by decide +kernel
theorem dX13_goerOf_88 : decode cX13_goerOf 88 = .ok (.iload 6, 2) := by decide +kernel
theorem dX13_goerOf_90 : decode cX13_goerOf 90 = .ok (.iaload, 1) := by decide +kernel
theorem dX13_goerOf_91 : decode cX13_goerOf 91 = .ok (.aload_n 0, 1) := by decide +kernel
theorem dX13_goerOf_92 : decode cX13_goerOf 92 = .ok (.getfield 310, 3) := by decide +kernel
theorem dX13_goerOf_95 : decode cX13_goerOf 95 = .ok (.getfield 243, 3) := by decide +kernel
theorem dX13_goerOf_98 : decode cX13_goerOf 98 = .ok (.iload 5, 2) := by decide +kernel
theorem dX13_goerOf_100 : decode cX13_goerOf 100 = .ok (.iaload, 1) := by decide +kernel
theorem dX13_goerOf_101 : decode cX13_goerOf 101 = .ok (.if_icmp .lt 33, 3) := by decide +kernel
theorem dX13_goerOf_104 : decode cX13_goerOf 104 = .ok (.aload_n 0, 1) := by decide +kernel
theorem dX13_goerOf_105 : decode cX13_goerOf 105 = .ok (.getfield 310, 3) := by decide +kernel
theorem dX13_goerOf_108 : decode cX13_goerOf 108 = .ok (.getfield 243, 3) := by decide +kernel
theorem dX13_goerOf_111 : decode cX13_goerOf 111 = .ok (.iload 6, 2) := by decide +kernel
theorem dX13_goerOf_113 : decode cX13_goerOf 113 = .ok (.iaload, 1) := by decide +kernel
theorem dX13_goerOf_114 : decode cX13_goerOf 114 = .ok (.aload_n 0, 1) := by decide +kernel
theorem dX13_goerOf_115 : decode cX13_goerOf 115 = .ok (.getfield 310, 3) := by decide +kernel
theorem dX13_goerOf_118 : decode cX13_goerOf 118 = .ok (.getfield 243, 3) := by decide +kernel
theorem dX13_goerOf_121 : decode cX13_goerOf 121 = .ok (.iload 5, 2) := by decide +kernel
theorem dX13_goerOf_123 : decode cX13_goerOf 123 = .ok (.iaload, 1) := by decide +kernel
theorem dX13_goerOf_124 : decode cX13_goerOf 124 = .ok (.if_icmp .ne 15, 3) := by decide +kernel
theorem dX13_goerOf_127 : decode cX13_goerOf 127 = .ok (.iload 6, 2) := by decide +kernel
theorem dX13_goerOf_129 : decode cX13_goerOf 129 = .ok (.iload 5, 2) := by decide +kernel
theorem dX13_goerOf_131 : decode cX13_goerOf 131 = .ok (.if_icmp .ge 8, 3) := by decide +kernel
theorem dX13_goerOf_134 : decode cX13_goerOf 134 = .ok (.iload 6, 2) := by decide +kernel
theorem dX13_goerOf_136 : decode cX13_goerOf 136 = .ok (.goto 5, 3) := by decide +kernel
theorem dX13_goerOf_139 : decode cX13_goerOf 139 = .ok (.iload 5, 2) := by decide +kernel
theorem dX13_goerOf_141 : decode cX13_goerOf 141 = .ok (.ireturn, 1) := by decide +kernel
theorem dX13_mayMove_0 : decode cX13_mayMove 0 = .ok (.aload_n 0, 1) := by decide +kernel
theorem dX13_mayMove_1 : decode cX13_mayMove 1 = .ok (.iload_n 1, 1) := by decide +kernel
theorem dX13_mayMove_2 : decode cX13_mayMove 2 = .ok (.invokevirtual 380, 3) := by decide +kernel
theorem dX13_mayMove_5 : decode cX13_mayMove 5 = .ok (.ifCond .ne 5, 3) := by decide +kernel
theorem dX13_mayMove_8 : decode cX13_mayMove 8 = .ok (.iconst 0, 1) := by decide +kernel
theorem dX13_mayMove_9 : decode cX13_mayMove 9 = .ok (.ireturn, 1) := by decide +kernel
theorem dX13_mayMove_10 : decode cX13_mayMove 10 = .ok (.aload_n 0, 1) := by decide +kernel
theorem dX13_mayMove_11 : decode cX13_mayMove 11 = .ok (.iload_n 1, 1) := by decide +kernel
theorem dX13_mayMove_12 : decode cX13_mayMove 12 = .ok (.invokevirtual 383, 3) := by decide +kernel
theorem dX13_mayMove_15 : decode cX13_mayMove 15 = .ok (.istore_n 2, 1) := by decide +kernel
theorem dX13_mayMove_16 : decode cX13_mayMove 16 = .ok (.iload_n 2, 1) := by decide +kernel
theorem dX13_mayMove_17 : decode cX13_mayMove 17 = .ok (.bipush (-2), 2) := by decide +kernel
theorem dX13_mayMove_19 : decode cX13_mayMove 19 = .ok (.if_icmp .eq 22, 3) := by decide +kernel
theorem dX13_mayMove_22 : decode cX13_mayMove 22 = .ok (.aload_n 0, 1) := by decide +kernel
theorem dX13_mayMove_23 : decode cX13_mayMove 23 = .ok (.getfield 310, 3) := by decide +kernel
theorem dX13_mayMove_26 : decode cX13_mayMove 26 = .ok (.getfield 243, 3) := by decide +kernel
theorem dX13_mayMove_29 : decode cX13_mayMove 29 = .ok (.iload_n 2, 1) := by decide +kernel
theorem dX13_mayMove_30 : decode cX13_mayMove 30 = .ok (.iaload, 1) := by decide +kernel
theorem dX13_mayMove_31 : decode cX13_mayMove 31 = .ok (.aload_n 0, 1) := by decide +kernel
theorem dX13_mayMove_32 : decode cX13_mayMove 32 = .ok (.getfield 310, 3) := by decide +kernel
theorem dX13_mayMove_35 : decode cX13_mayMove 35 = .ok (.getfield 169, 3) := by decide +kernel
theorem dX13_mayMove_38 : decode cX13_mayMove 38 = .ok (.if_icmp .gt 7, 3) := by decide +kernel
theorem dX13_mayMove_41 : decode cX13_mayMove 41 = .ok (.iconst 1, 1) := by decide +kernel
theorem dX13_mayMove_42 : decode cX13_mayMove 42 = .ok (.goto 4, 3) := by decide +kernel
theorem dX13_mayMove_45 : decode cX13_mayMove 45 = .ok (.iconst 0, 1) := by decide +kernel
theorem dX13_mayMove_46 : decode cX13_mayMove 46 = .ok (.ireturn, 1) := by decide +kernel
theorem dX13_behind_0 : decode cX13_behind 0 = .ok (.iload_n 3, 1) := by decide +kernel
theorem dX13_behind_1 : decode cX13_behind 1 = .ok (.bipush 10, 2) := by decide +kernel
theorem dX13_behind_3 : decode cX13_behind 3 = .ok (.idiv, 1) := by decide +kernel
theorem dX13_behind_4 : decode cX13_behind 4 = .ok (.bipush 10, 2) := by decide +kernel
theorem dX13_behind_6 : decode cX13_behind 6 = .ok (.irem, 1) := by decide +kernel
theorem dX13_behind_7 : decode cX13_behind 7 = .ok (.istore 4, 2) := by decide +kernel
theorem dX13_behind_9 : decode cX13_behind 9 = .ok (.iload_n 3, 1) := by decide +kernel
theorem dX13_behind_10 : decode cX13_behind 10 = .ok (.bipush 10, 2) := by decide +kernel
theorem dX13_behind_12 : decode cX13_behind 12 = .ok (.irem, 1) := by decide +kernel
theorem dX13_behind_13 : decode cX13_behind 13 = .ok (.istore 5, 2) := by decide +kernel
theorem dX13_behind_15 : decode cX13_behind 15 = .ok (.iload_n 3, 1) := by decide +kernel
theorem dX13_behind_16 : decode cX13_behind 16 = .ok (.bipush 100, 2) := by decide +kernel
theorem dX13_behind_18 : decode cX13_behind 18 = .ok (.idiv, 1) := by decide +kernel
theorem dX13_behind_19 : decode cX13_behind 19 = .ok (.bipush 10, 2) := by decide +kernel
theorem dX13_behind_21 : decode cX13_behind 21 = .ok (.irem, 1) := by decide +kernel
theorem dX13_behind_22 : decode cX13_behind 22 = .ok (.istore 6, 2) := by decide +kernel
theorem dX13_behind_24 : decode cX13_behind 24 = .ok (.iload_n 3, 1) := by decide +kernel
theorem dX13_behind_25 : decode cX13_behind 25 = .ok (.invokestatic 371, 3) := by decide +kernel
theorem dX13_behind_28 : decode cX13_behind 28 = .ok (.lookupswitch 49 #[(0, 28), (1, 35)], 28) := by decide +kernel
theorem dX13_behind_56 : decode cX13_behind 56 = .ok (.aload_n 0, 1) := by decide +kernel
theorem dX13_behind_57 : decode cX13_behind 57 = .ok (.lload_n 1, 1) := by decide +kernel
theorem dX13_behind_58 : decode cX13_behind 58 = .ok (.iload_n 3, 1) := by decide +kernel
theorem dX13_behind_59 : decode cX13_behind 59 = .ok (.invokevirtual 386, 3) := by decide +kernel
theorem dX13_behind_62 : decode cX13_behind 62 = .ok (.lreturn, 1) := by decide +kernel
theorem dX13_behind_63 : decode cX13_behind 63 = .ok (.aload_n 0, 1) := by decide +kernel
theorem dX13_behind_64 : decode cX13_behind 64 = .ok (.aload_n 0, 1) := by decide +kernel
theorem dX13_behind_65 : decode cX13_behind 65 = .ok (.lload_n 1, 1) := by decide +kernel
theorem dX13_behind_66 : decode cX13_behind 66 = .ok (.iload 4, 2) := by decide +kernel
theorem dX13_behind_68 : decode cX13_behind 68 = .ok (.invokevirtual 386, 3) := by decide +kernel
theorem dX13_behind_71 : decode cX13_behind 71 = .ok (.iload 5, 2) := by decide +kernel
theorem dX13_behind_73 : decode cX13_behind 73 = .ok (.invokevirtual 386, 3) := by decide +kernel
theorem dX13_behind_76 : decode cX13_behind 76 = .ok (.lreturn, 1) := by decide +kernel
theorem dX13_behind_77 : decode cX13_behind 77 = .ok (.aload_n 0, 1) := by decide +kernel
theorem dX13_behind_78 : decode cX13_behind 78 = .ok (.aload_n 0, 1) := by decide +kernel
theorem dX13_behind_79 : decode cX13_behind 79 = .ok (.aload_n 0, 1) := by decide +kernel
theorem dX13_behind_80 : decode cX13_behind 80 = .ok (.lload_n 1, 1) := by decide +kernel
theorem dX13_behind_81 : decode cX13_behind 81 = .ok (.iconst 2, 1) := by decide +kernel
theorem dX13_behind_82 : decode cX13_behind 82 = .ok (.iload 6, 2) := by decide +kernel
theorem dX13_behind_84 : decode cX13_behind 84 = .ok (.imul, 1) := by decide +kernel
theorem dX13_behind_85 : decode cX13_behind 85 = .ok (.iconst 1, 1) := by decide +kernel
theorem dX13_behind_86 : decode cX13_behind 86 = .ok (.iadd, 1) := by decide +kernel
theorem dX13_behind_87 : decode cX13_behind 87 = .ok (.iconst 2, 1) := by decide +kernel
theorem dX13_behind_88 : decode cX13_behind 88 = .ok (.iload 4, 2) := by decide +kernel
theorem dX13_behind_90 : decode cX13_behind 90 = .ok (.imul, 1) := by decide +kernel
theorem dX13_behind_91 : decode cX13_behind 91 = .ok (.iconst 1, 1) := by decide +kernel
theorem dX13_behind_92 : decode cX13_behind 92 = .ok (.iadd, 1) := by decide +kernel
theorem dX13_behind_93 : decode cX13_behind 93 = .ok (.invokevirtual 390, 3) := by decide +kernel
theorem dX13_behind_96 : decode cX13_behind 96 = .ok (.iconst 2, 1) := by decide +kernel
theorem dX13_behind_97 : decode cX13_behind 97 = .ok (.iload 6, 2) := by decide +kernel
theorem dX13_behind_99 : decode cX13_behind 99 = .ok (.imul, 1) := by decide +kernel
theorem dX13_behind_100 : decode cX13_behind 100 = .ok (.iconst 2, 1) := by decide +kernel
theorem dX13_behind_101 : decode cX13_behind 101 = .ok (.iload 5, 2) := by decide +kernel
theorem dX13_behind_103 : decode cX13_behind 103 = .ok (.imul, 1) := by decide +kernel
theorem dX13_behind_104 : decode cX13_behind 104 = .ok (.iconst 1, 1) := by decide +kernel
theorem dX13_behind_105 : decode cX13_behind 105 = .ok (.iadd, 1) := by decide +kernel
theorem dX13_behind_106 : decode cX13_behind 106 = .ok (.invokevirtual 390, 3) := by decide +kernel
theorem dX13_behind_109 : decode cX13_behind 109 = .ok (.iconst 2, 1) := by decide +kernel
theorem dX13_behind_110 : decode cX13_behind 110 = .ok (.iload 4, 2) := by decide +kernel
theorem dX13_behind_112 : decode cX13_behind 112 = .ok (.imul, 1) := by decide +kernel
theorem dX13_behind_113 : decode cX13_behind 113 = .ok (.iconst 2, 1) := by decide +kernel
theorem dX13_behind_114 : decode cX13_behind 114 = .ok (.iload 5, 2) := by decide +kernel
theorem dX13_behind_116 : decode cX13_behind 116 = .ok (.imul, 1) := by decide +kernel
theorem dX13_behind_117 : decode cX13_behind 117 = .ok (.invokevirtual 390, 3) := by decide +kernel
theorem dX13_behind_120 : decode cX13_behind 120 = .ok (.lreturn, 1) := by decide +kernel
theorem dX13_without_0 : decode cX13_without 0 = .ok (.lload_n 1, 1) := by decide +kernel
theorem dX13_without_1 : decode cX13_without 1 = .ok (.aload_n 0, 1) := by decide +kernel
theorem dX13_without_2 : decode cX13_without 2 = .ok (.getfield 17, 3) := by decide +kernel
theorem dX13_without_5 : decode cX13_without 5 = .ok (.iconst 2, 1) := by decide +kernel
theorem dX13_without_6 : decode cX13_without 6 = .ok (.iload_n 3, 1) := by decide +kernel
theorem dX13_without_7 : decode cX13_without 7 = .ok (.imul, 1) := by decide +kernel
theorem dX13_without_8 : decode cX13_without 8 = .ok (.iaload, 1) := by decide +kernel
theorem dX13_without_9 : decode cX13_without 9 = .ok (.bipush 15, 2) := by decide +kernel
theorem dX13_without_11 : decode cX13_without 11 = .ok (.invokestatic 394, 3) := by decide +kernel
theorem dX13_without_14 : decode cX13_without 14 = .ok (.aload_n 0, 1) := by decide +kernel
theorem dX13_without_15 : decode cX13_without 15 = .ok (.getfield 17, 3) := by decide +kernel
theorem dX13_without_18 : decode cX13_without 18 = .ok (.iconst 2, 1) := by decide +kernel
theorem dX13_without_19 : decode cX13_without 19 = .ok (.iload_n 3, 1) := by decide +kernel
theorem dX13_without_20 : decode cX13_without 20 = .ok (.imul, 1) := by decide +kernel
theorem dX13_without_21 : decode cX13_without 21 = .ok (.iconst 1, 1) := by decide +kernel
theorem dX13_without_22 : decode cX13_without 22 = .ok (.iadd, 1) := by decide +kernel
theorem dX13_without_23 : decode cX13_without 23 = .ok (.iaload, 1) := by decide +kernel
theorem dX13_without_24 : decode cX13_without 24 = .ok (.bipush 15, 2) := by decide +kernel
theorem dX13_without_26 : decode cX13_without 26 = .ok (.invokestatic 394, 3) := by decide +kernel
theorem dX13_without_29 : decode cX13_without 29 = .ok (.lreturn, 1) := by decide +kernel
theorem dX13_changed_0 : decode cX13_changed 0 = .ok (.lload_n 1, 1) := by decide +kernel
theorem dX13_changed_1 : decode cX13_changed 1 = .ok (.aload_n 0, 1) := by decide +kernel
theorem dX13_changed_2 : decode cX13_changed 2 = .ok (.getfield 17, 3) := by decide +kernel
theorem dX13_changed_5 : decode cX13_changed 5 = .ok (.iload_n 3, 1) := by decide +kernel
theorem dX13_changed_6 : decode cX13_changed 6 = .ok (.iaload, 1) := by decide +kernel
theorem dX13_changed_7 : decode cX13_changed 7 = .ok (.iload 4, 2) := by decide +kernel
theorem dX13_changed_9 : decode cX13_changed 9 = .ok (.invokestatic 394, 3) := by decide +kernel
theorem dX13_changed_12 : decode cX13_changed 12 = .ok (.aload_n 0, 1) := by decide +kernel
theorem dX13_changed_13 : decode cX13_changed 13 = .ok (.getfield 17, 3) := by decide +kernel
theorem dX13_changed_16 : decode cX13_changed 16 = .ok (.iload 4, 2) := by decide +kernel
theorem dX13_changed_18 : decode cX13_changed 18 = .ok (.iaload, 1) := by decide +kernel
theorem dX13_changed_19 : decode cX13_changed 19 = .ok (.iload_n 3, 1) := by decide +kernel
theorem dX13_changed_20 : decode cX13_changed 20 = .ok (.invokestatic 394, 3) := by decide +kernel
theorem dX13_changed_23 : decode cX13_changed 23 = .ok (.lreturn, 1) := by decide +kernel
theorem dX13_nextMove_0 : decode cX13_nextMove 0 = .ok (.iload_n 1, 1) := by decide +kernel
theorem dX13_nextMove_1 : decode cX13_nextMove 1 = .ok (.iconst 1, 1) := by decide +kernel
theorem dX13_nextMove_2 : decode cX13_nextMove 2 = .ok (.iadd, 1) := by decide +kernel
theorem dX13_nextMove_3 : decode cX13_nextMove 3 = .ok (.istore_n 2, 1) := by decide +kernel
theorem dX13_nextMove_4 : decode cX13_nextMove 4 = .ok (.iload_n 2, 1) := by decide +kernel
theorem dX13_nextMove_5 : decode cX13_nextMove 5 = .ok (.sipush 2000, 3) := by decide +kernel
theorem dX13_nextMove_8 : decode cX13_nextMove 8 = .ok (.if_icmp .ge 60, 3) := by decide +kernel
theorem dX13_nextMove_11 : decode cX13_nextMove 11 = .ok (.aload_n 0, 1) := by decide +kernel
theorem dX13_nextMove_12 : decode cX13_nextMove 12 = .ok (.iload_n 2, 1) := by decide +kernel
theorem dX13_nextMove_13 : decode cX13_nextMove 13 = .ok (.invokevirtual 397, 3) := by decide +kernel
theorem dX13_nextMove_16 : decode cX13_nextMove 16 = .ok (.ifCond .ne 52, 3) := by decide +kernel
theorem dX13_nextMove_19 : decode cX13_nextMove 19 = .ok (.iload_n 2, 1) := by decide +kernel
theorem dX13_nextMove_20 : decode cX13_nextMove 20 = .ok (.bipush 100, 2) := by decide +kernel
theorem dX13_nextMove_22 : decode cX13_nextMove 22 = .ok (.if_icmp .ge 19, 3) := by decide +kernel
theorem dX13_nextMove_25 : decode cX13_nextMove 25 = .ok (.iload_n 2, 1) := by decide +kernel
theorem dX13_nextMove_26 : decode cX13_nextMove 26 = .ok (.aload_n 0, 1) := by decide +kernel
theorem dX13_nextMove_27 : decode cX13_nextMove 27 = .ok (.getfield 310, 3) := by decide +kernel
theorem dX13_nextMove_30 : decode cX13_nextMove 30 = .ok (.getfield 277, 3) := by decide +kernel
theorem dX13_nextMove_33 : decode cX13_nextMove 33 = .ok (.if_icmp .lt 8, 3) := by decide +kernel
theorem dX13_nextMove_36 : decode cX13_nextMove 36 = .ok (.bipush 100, 2) := by decide +kernel
theorem dX13_nextMove_38 : decode cX13_nextMove 38 = .ok (.goto 26, 3) := by decide +kernel
theorem dX13_nextMove_41 : decode cX13_nextMove 41 = .ok (.iload_n 2, 1) := by decide +kernel
theorem dX13_nextMove_42 : decode cX13_nextMove 42 = .ok (.sipush 200, 3) := by decide +kernel
theorem dX13_nextMove_45 : decode cX13_nextMove 45 = .ok (.if_icmp .lt 16, 3) := by decide +kernel
theorem dX13_nextMove_48 : decode cX13_nextMove 48 = .ok (.iload_n 2, 1) := by decide +kernel
theorem dX13_nextMove_49 : decode cX13_nextMove 49 = .ok (.sipush 1000, 3) := by decide +kernel
theorem dX13_nextMove_52 : decode cX13_nextMove 52 = .ok (.if_icmp .ge 9, 3) := by decide +kernel
theorem dX13_nextMove_55 : decode cX13_nextMove 55 = .ok (.sipush 1000, 3) := by decide +kernel
theorem dX13_nextMove_58 : decode cX13_nextMove 58 = .ok (.goto 6, 3) := by decide +kernel
theorem dX13_nextMove_61 : decode cX13_nextMove 61 = .ok (.iload_n 2, 1) := by decide +kernel
theorem dX13_nextMove_62 : decode cX13_nextMove 62 = .ok (.iconst 1, 1) := by decide +kernel
theorem dX13_nextMove_63 : decode cX13_nextMove 63 = .ok (.iadd, 1) := by decide +kernel
theorem dX13_nextMove_64 : decode cX13_nextMove 64 = .ok (.istore_n 2, 1) := by decide +kernel
theorem dX13_nextMove_65 : decode cX13_nextMove 65 = .ok (.goto (-61), 3) := by decide +kernel
theorem dX13_nextMove_68 : decode cX13_nextMove 68 = .ok (.iload_n 2, 1) := by decide +kernel
theorem dX13_nextMove_69 : decode cX13_nextMove 69 = .ok (.ireturn, 1) := by decide +kernel
theorem dX13_nextMay_0 : decode cX13_nextMay 0 = .ok (.aload_n 0, 1) := by decide +kernel
theorem dX13_nextMay_1 : decode cX13_nextMay 1 = .ok (.iload_n 1, 1) := by decide +kernel
theorem dX13_nextMay_2 : decode cX13_nextMay 2 = .ok (.invokevirtual 400, 3) := by decide +kernel
theorem dX13_nextMay_5 : decode cX13_nextMay 5 = .ok (.istore_n 2, 1) := by decide +kernel
theorem dX13_nextMay_6 : decode cX13_nextMay 6 = .ok (.iload_n 2, 1) := by decide +kernel
theorem dX13_nextMay_7 : decode cX13_nextMay 7 = .ok (.sipush 2000, 3) := by decide +kernel
theorem dX13_nextMay_10 : decode cX13_nextMay 10 = .ok (.if_icmp .ge 20, 3) := by decide +kernel
theorem dX13_nextMay_13 : decode cX13_nextMay 13 = .ok (.aload_n 0, 1) := by decide +kernel
theorem dX13_nextMay_14 : decode cX13_nextMay 14 = .ok (.iload_n 2, 1) := by decide +kernel
theorem dX13_nextMay_15 : decode cX13_nextMay 15 = .ok (.invokevirtual 403, 3) := by decide +kernel
theorem dX13_nextMay_18 : decode cX13_nextMay 18 = .ok (.ifCond .ne 12, 3) := by decide +kernel
theorem dX13_nextMay_21 : decode cX13_nextMay 21 = .ok (.aload_n 0, 1) := by decide +kernel
theorem dX13_nextMay_22 : decode cX13_nextMay 22 = .ok (.iload_n 2, 1) := by decide +kernel
theorem dX13_nextMay_23 : decode cX13_nextMay 23 = .ok (.invokevirtual 400, 3) := by decide +kernel
theorem dX13_nextMay_26 : decode cX13_nextMay 26 = .ok (.istore_n 2, 1) := by decide +kernel
theorem dX13_nextMay_27 : decode cX13_nextMay 27 = .ok (.goto (-21), 3) := by decide +kernel
theorem dX13_nextMay_30 : decode cX13_nextMay 30 = .ok (.iload_n 2, 1) := by decide +kernel
theorem dX13_nextMay_31 : decode cX13_nextMay 31 = .ok (.ireturn, 1) := by decide +kernel
theorem dX13_leftIn_0 : decode cX13_leftIn 0 = .ok (.iconst 0, 1) := by decide +kernel
theorem dX13_leftIn_1 : decode cX13_leftIn 1 = .ok (.istore_n 3, 1) := by decide +kernel
theorem dX13_leftIn_2 : decode cX13_leftIn 2 = .ok (.iconst 0, 1) := by decide +kernel
theorem dX13_leftIn_3 : decode cX13_leftIn 3 = .ok (.istore 4, 2) := by decide +kernel
theorem dX13_leftIn_5 : decode cX13_leftIn 5 = .ok (.iload 4, 2) := by decide +kernel
theorem dX13_leftIn_7 : decode cX13_leftIn 7 = .ok (.aload_n 0, 1) := by decide +kernel
theorem dX13_leftIn_8 : decode cX13_leftIn 8 = .ok (.getfield 310, 3) := by decide +kernel
theorem dX13_leftIn_11 : decode cX13_leftIn 11 = .ok (.getfield 346, 3) := by decide +kernel
theorem dX13_leftIn_14 : decode cX13_leftIn 14 = .ok (.if_icmp .ge 28, 3) := by decide +kernel
theorem dX13_leftIn_17 : decode cX13_leftIn 17 = .ok (.iload_n 3, 1) := by decide +kernel
theorem dX13_leftIn_18 : decode cX13_leftIn 18 = .ok (.lload_n 1, 1) := by decide +kernel
theorem dX13_leftIn_19 : decode cX13_leftIn 19 = .ok (.iload 4, 2) := by decide +kernel
theorem dX13_leftIn_21 : decode cX13_leftIn 21 = .ok (.invokestatic 349, 3) := by decide +kernel
theorem dX13_leftIn_24 : decode cX13_leftIn 24 = .ok (.bipush 15, 2) := by decide +kernel
theorem dX13_leftIn_26 : decode cX13_leftIn 26 = .ok (.if_icmp .eq 7, 3) := by decide +kernel
theorem dX13_leftIn_29 : decode cX13_leftIn 29 = .ok (.iconst 1, 1) := by decide +kernel
theorem dX13_leftIn_30 : decode cX13_leftIn 30 = .ok (.goto 4, 3) := by decide +kernel
theorem dX13_leftIn_33 : decode cX13_leftIn 33 = .ok (.iconst 0, 1) := by decide +kernel
theorem dX13_leftIn_34 : decode cX13_leftIn 34 = .ok (.iadd, 1) := by decide +kernel
theorem dX13_leftIn_35 : decode cX13_leftIn 35 = .ok (.istore_n 3, 1) := by decide +kernel
theorem dX13_leftIn_36 : decode cX13_leftIn 36 = .ok (.iinc 4 1, 3) := by decide +kernel
theorem dX13_leftIn_39 : decode cX13_leftIn 39 = .ok (.goto (-34), 3) := by decide +kernel
theorem dX13_leftIn_42 : decode cX13_leftIn 42 = .ok (.iload_n 3, 1) := by decide +kernel
theorem dX13_leftIn_43 : decode cX13_leftIn 43 = .ok (.iconst 2, 1) := by decide +kernel
theorem dX13_leftIn_44 : decode cX13_leftIn 44 = .ok (.idiv, 1) := by decide +kernel
theorem dX13_leftIn_45 : decode cX13_leftIn 45 = .ok (.ireturn, 1) := by decide +kernel
theorem dX13_isPerson_0 : decode cX13_isPerson 0 = .ok (.aload_n 0, 1) := by decide +kernel
theorem dX13_isPerson_1 : decode cX13_isPerson 1 = .ok (.getfield 310, 3) := by decide +kernel
theorem dX13_isPerson_4 : decode cX13_isPerson 4 = .ok (.ifnull 22, 3) := by decide +kernel
theorem dX13_isPerson_7 : decode cX13_isPerson 7 = .ok (.iload_n 1, 1) := by decide +kernel
theorem dX13_isPerson_8 : decode cX13_isPerson 8 = .ok (.ifCond .lt 18, 3) := by decide +kernel
theorem dX13_isPerson_11 : decode cX13_isPerson 11 = .ok (.iload_n 1, 1) := by decide +kernel
theorem dX13_isPerson_12 : decode cX13_isPerson 12 = .ok (.aload_n 0, 1) := by decide +kernel
theorem dX13_isPerson_13 : decode cX13_isPerson 13 = .ok (.getfield 310, 3) := by decide +kernel
theorem dX13_isPerson_16 : decode cX13_isPerson 16 = .ok (.getfield 200, 3) := by decide +kernel
theorem dX13_isPerson_19 : decode cX13_isPerson 19 = .ok (.if_icmp .ge 7, 3) := by decide +kernel
theorem dX13_isPerson_22 : decode cX13_isPerson 22 = .ok (.iconst 1, 1) := by decide +kernel
theorem dX13_isPerson_23 : decode cX13_isPerson 23 = .ok (.goto 4, 3) := by decide +kernel
theorem dX13_isPerson_26 : decode cX13_isPerson 26 = .ok (.iconst 0, 1) := by decide +kernel
theorem dX13_isPerson_27 : decode cX13_isPerson 27 = .ok (.ireturn, 1) := by decide +kernel
theorem dX13_isRing_0 : decode cX13_isRing 0 = .ok (.aload_n 0, 1) := by decide +kernel
theorem dX13_isRing_1 : decode cX13_isRing 1 = .ok (.getfield 310, 3) := by decide +kernel
theorem dX13_isRing_4 : decode cX13_isRing 4 = .ok (.ifnull 22, 3) := by decide +kernel
theorem dX13_isRing_7 : decode cX13_isRing 7 = .ok (.iload_n 1, 1) := by decide +kernel
theorem dX13_isRing_8 : decode cX13_isRing 8 = .ok (.ifCond .lt 18, 3) := by decide +kernel
theorem dX13_isRing_11 : decode cX13_isRing 11 = .ok (.iload_n 1, 1) := by decide +kernel
theorem dX13_isRing_12 : decode cX13_isRing 12 = .ok (.aload_n 0, 1) := by decide +kernel
theorem dX13_isRing_13 : decode cX13_isRing 13 = .ok (.getfield 310, 3) := by decide +kernel
theorem dX13_isRing_16 : decode cX13_isRing 16 = .ok (.getfield 336, 3) := by decide +kernel
theorem dX13_isRing_19 : decode cX13_isRing 19 = .ok (.if_icmp .ge 7, 3) := by decide +kernel
theorem dX13_isRing_22 : decode cX13_isRing 22 = .ok (.iconst 1, 1) := by decide +kernel
theorem dX13_isRing_23 : decode cX13_isRing 23 = .ok (.goto 4, 3) := by decide +kernel
theorem dX13_isRing_26 : decode cX13_isRing 26 = .ok (.iconst 0, 1) := by decide +kernel
theorem dX13_isRing_27 : decode cX13_isRing 27 = .ok (.ireturn, 1) := by decide +kernel
theorem dX13_isLink_0 : decode cX13_isLink 0 = .ok (.aload_n 0, 1) := by decide +kernel
theorem dX13_isLink_1 : decode cX13_isLink 1 = .ok (.getfield 310, 3) := by decide +kernel
theorem dX13_isLink_4 : decode cX13_isLink 4 = .ok (.ifnull 22, 3) := by decide +kernel
theorem dX13_isLink_7 : decode cX13_isLink 7 = .ok (.iload_n 1, 1) := by decide +kernel
theorem dX13_isLink_8 : decode cX13_isLink 8 = .ok (.ifCond .lt 18, 3) := by decide +kernel
theorem dX13_isLink_11 : decode cX13_isLink 11 = .ok (.iload_n 1, 1) := by decide +kernel
theorem dX13_isLink_12 : decode cX13_isLink 12 = .ok (.aload_n 0, 1) := by decide +kernel
theorem dX13_isLink_13 : decode cX13_isLink 13 = .ok (.getfield 310, 3) := by decide +kernel
theorem dX13_isLink_16 : decode cX13_isLink 16 = .ok (.getfield 203, 3) := by decide +kernel
theorem dX13_isLink_19 : decode cX13_isLink 19 = .ok (.if_icmp .ge 7, 3) := by decide +kernel
theorem dX13_isLink_22 : decode cX13_isLink 22 = .ok (.iconst 1, 1) := by decide +kernel
theorem dX13_isLink_23 : decode cX13_isLink 23 = .ok (.goto 4, 3) := by decide +kernel
theorem dX13_isLink_26 : decode cX13_isLink 26 = .ok (.iconst 0, 1) := by decide +kernel
theorem dX13_isLink_27 : decode cX13_isLink 27 = .ok (.ireturn, 1) := by decide +kernel
theorem dX13_isStanding_0 : decode cX13_isStanding 0 = .ok (.aload_n 0, 1) := by decide +kernel
theorem dX13_isStanding_1 : decode cX13_isStanding 1 = .ok (.getfield 310, 3) := by decide +kernel
theorem dX13_isStanding_4 : decode cX13_isStanding 4 = .ok (.ifnull 22, 3) := by decide +kernel
theorem dX13_isStanding_7 : decode cX13_isStanding 7 = .ok (.iload_n 1, 1) := by decide +kernel
theorem dX13_isStanding_8 : decode cX13_isStanding 8 = .ok (.ifCond .lt 18, 3) := by decide +kernel
theorem dX13_isStanding_11 : decode cX13_isStanding 11 = .ok (.iload_n 1, 1) := by decide +kernel
theorem dX13_isStanding_12 : decode cX13_isStanding 12 = .ok (.aload_n 0, 1) := by decide +kernel
theorem dX13_isStanding_13 : decode cX13_isStanding 13 = .ok (.getfield 310, 3) := by decide +kernel
theorem dX13_isStanding_16 : decode cX13_isStanding 16 = .ok (.getfield 346, 3) := by decide +kernel
theorem dX13_isStanding_19 : decode cX13_isStanding 19 = .ok (.if_icmp .ge 7, 3) := by decide +kernel
theorem dX13_isStanding_22 : decode cX13_isStanding 22 = .ok (.iconst 1, 1) := by decide +kernel
theorem dX13_isStanding_23 : decode cX13_isStanding 23 = .ok (.goto 4, 3) := by decide +kernel
theorem dX13_isStanding_26 : decode cX13_isStanding 26 = .ok (.iconst 0, 1) := by decide +kernel
theorem dX13_isStanding_27 : decode cX13_isStanding 27 = .ok (.ireturn, 1) := by decide +kernel
theorem dX13_ring_0 : decode cX13_ring 0 = .ok (.aload_n 0, 1) := by decide +kernel
theorem dX13_ring_1 : decode cX13_ring 1 = .ok (.iconst 0, 1) := by decide +kernel
theorem dX13_ring_2 : decode cX13_ring 2 = .ok (.putfield 70, 3) := by decide +kernel
theorem dX13_ring_5 : decode cX13_ring 5 = .ok (.aload_n 0, 1) := by decide +kernel
theorem dX13_ring_6 : decode cX13_ring 6 = .ok (.iload_n 1, 1) := by decide +kernel
theorem dX13_ring_7 : decode cX13_ring 7 = .ok (.invokevirtual 406, 3) := by decide +kernel
theorem dX13_ring_10 : decode cX13_ring 10 = .ok (.ifCond .eq 19, 3) := by decide +kernel
theorem dX13_ring_13 : decode cX13_ring 13 = .ok (.aload_n 0, 1) := by decide +kernel
theorem dX13_ring_14 : decode cX13_ring 14 = .ok (.aload_n 0, 1) := by decide +kernel
theorem dX13_ring_15 : decode cX13_ring 15 = .ok (.getfield 310, 3) := by decide +kernel
theorem dX13_ring_18 : decode cX13_ring 18 = .ok (.getfield 409, 3) := by decide +kernel
theorem dX13_ring_21 : decode cX13_ring 21 = .ok (.iload_n 1, 1) := by decide +kernel
theorem dX13_ring_22 : decode cX13_ring 22 = .ok (.iaload, 1) := by decide +kernel
theorem dX13_ring_23 : decode cX13_ring 23 = .ok (.invokevirtual 80, 3) := by decide +kernel
theorem dX13_ring_26 : decode cX13_ring 26 = .ok (.goto 8, 3) := by decide +kernel
theorem dX13_ring_29 : decode cX13_ring 29 = .ok (.aload_n 0, 1) := by decide +kernel
theorem dX13_ring_30 : decode cX13_ring 30 = .ok (.iconst 1, 1) := by decide +kernel
theorem dX13_ring_31 : decode cX13_ring 31 = .ok (.invokevirtual 76, 3) := by decide +kernel
theorem dX13_ring_34 : decode cX13_ring 34 = .ok (.ireturn, 1) := by decide +kernel
theorem dX13_people_0 : decode cX13_people 0 = .ok (.aload_n 0, 1) := by decide +kernel
theorem dX13_people_1 : decode cX13_people 1 = .ok (.iconst 0, 1) := by decide +kernel
theorem dX13_people_2 : decode cX13_people 2 = .ok (.putfield 70, 3) := by decide +kernel
theorem dX13_people_5 : decode cX13_people 5 = .ok (.aload_n 0, 1) := by decide +kernel
theorem dX13_people_6 : decode cX13_people 6 = .ok (.iload_n 1, 1) := by decide +kernel
theorem dX13_people_7 : decode cX13_people 7 = .ok (.invokevirtual 412, 3) := by decide +kernel
theorem dX13_people_10 : decode cX13_people 10 = .ok (.ifCond .eq 19, 3) := by decide +kernel
theorem dX13_people_13 : decode cX13_people 13 = .ok (.aload_n 0, 1) := by decide +kernel
theorem dX13_people_14 : decode cX13_people 14 = .ok (.aload_n 0, 1) := by decide +kernel
theorem dX13_people_15 : decode cX13_people 15 = .ok (.getfield 310, 3) := by decide +kernel
theorem dX13_people_18 : decode cX13_people 18 = .ok (.getfield 415, 3) := by decide +kernel
theorem dX13_people_21 : decode cX13_people 21 = .ok (.iload_n 1, 1) := by decide +kernel
theorem dX13_people_22 : decode cX13_people 22 = .ok (.iaload, 1) := by decide +kernel
theorem dX13_people_23 : decode cX13_people 23 = .ok (.invokevirtual 80, 3) := by decide +kernel
theorem dX13_people_26 : decode cX13_people 26 = .ok (.goto 8, 3) := by decide +kernel
theorem dX13_people_29 : decode cX13_people 29 = .ok (.aload_n 0, 1) := by decide +kernel
theorem dX13_people_30 : decode cX13_people 30 = .ok (.iconst 1, 1) := by decide +kernel
theorem dX13_people_31 : decode cX13_people 31 = .ok (.invokevirtual 76, 3) := by decide +kernel
theorem dX13_people_34 : decode cX13_people 34 = .ok (.ireturn, 1) := by decide +kernel
theorem dX13_member_0 : decode cX13_member 0 = .ok (.aload_n 0, 1) := by decide +kernel
theorem dX13_member_1 : decode cX13_member 1 = .ok (.iconst 0, 1) := by decide +kernel
theorem dX13_member_2 : decode cX13_member 2 = .ok (.putfield 70, 3) := by decide +kernel
theorem dX13_member_5 : decode cX13_member 5 = .ok (.aload_n 0, 1) := by decide +kernel
theorem dX13_member_6 : decode cX13_member 6 = .ok (.iload_n 1, 1) := by decide +kernel
theorem dX13_member_7 : decode cX13_member 7 = .ok (.invokevirtual 412, 3) := by decide +kernel
theorem dX13_member_10 : decode cX13_member 10 = .ok (.ifCond .eq 41, 3) := by decide +kernel
theorem dX13_member_13 : decode cX13_member 13 = .ok (.iload_n 2, 1) := by decide +kernel
theorem dX13_member_14 : decode cX13_member 14 = .ok (.ifCond .lt 37, 3) := by decide +kernel
theorem dX13_member_17 : decode cX13_member 17 = .ok (.iload_n 2, 1) := by decide +kernel
theorem dX13_member_18 : decode cX13_member 18 = .ok (.aload_n 0, 1) := by decide +kernel
theorem dX13_member_19 : decode cX13_member 19 = .ok (.getfield 310, 3) := by decide +kernel
theorem dX13_member_22 : decode cX13_member 22 = .ok (.getfield 415, 3) := by decide +kernel
theorem dX13_member_25 : decode cX13_member 25 = .ok (.iload_n 1, 1) := by decide +kernel
theorem dX13_member_26 : decode cX13_member 26 = .ok (.iaload, 1) := by decide +kernel
theorem dX13_member_27 : decode cX13_member 27 = .ok (.if_icmp .ge 24, 3) := by decide +kernel
theorem dX13_member_30 : decode cX13_member 30 = .ok (.aload_n 0, 1) := by decide +kernel
theorem dX13_member_31 : decode cX13_member 31 = .ok (.aload_n 0, 1) := by decide +kernel
theorem dX13_member_32 : decode cX13_member 32 = .ok (.getfield 310, 3) := by decide +kernel
theorem dX13_member_35 : decode cX13_member 35 = .ok (.getfield 417, 3) := by decide +kernel
theorem dX13_member_38 : decode cX13_member 38 = .ok (.bipush 8, 2) := by decide +kernel
theorem dX13_member_40 : decode cX13_member 40 = .ok (.iload_n 1, 1) := by decide +kernel
theorem dX13_member_41 : decode cX13_member 41 = .ok (.imul, 1) := by decide +kernel
theorem dX13_member_42 : decode cX13_member 42 = .ok (.iload_n 2, 1) := by decide +kernel
theorem dX13_member_43 : decode cX13_member 43 = .ok (.iadd, 1) := by decide +kernel
theorem dX13_member_44 : decode cX13_member 44 = .ok (.iaload, 1) := by decide +kernel
theorem dX13_member_45 : decode cX13_member 45 = .ok (.invokevirtual 80, 3) := by decide +kernel
theorem dX13_member_48 : decode cX13_member 48 = .ok (.goto 8, 3) := by decide +kernel
theorem dX13_member_51 : decode cX13_member 51 = .ok (.aload_n 0, 1) := by decide +kernel
theorem dX13_member_52 : decode cX13_member 52 = .ok (.iconst 1, 1) := by decide +kernel
theorem dX13_member_53 : decode cX13_member 53 = .ok (.invokevirtual 76, 3) := by decide +kernel
theorem dX13_member_56 : decode cX13_member 56 = .ok (.ireturn, 1) := by decide +kernel
theorem dX13_holds_0 : decode cX13_holds 0 = .ok (.aload_n 0, 1) := by decide +kernel
theorem dX13_holds_1 : decode cX13_holds 1 = .ok (.iconst 0, 1) := by decide +kernel
theorem dX13_holds_2 : decode cX13_holds 2 = .ok (.putfield 70, 3) := by decide +kernel
theorem dX13_holds_5 : decode cX13_holds 5 = .ok (.aload_n 0, 1) := by decide +kernel
theorem dX13_holds_6 : decode cX13_holds 6 = .ok (.iload_n 1, 1) := by decide +kernel
theorem dX13_holds_7 : decode cX13_holds 7 = .ok (.invokevirtual 406, 3) := by decide +kernel
theorem dX13_holds_10 : decode cX13_holds 10 = .ok (.ifCond .eq 30, 3) := by decide +kernel
theorem dX13_holds_13 : decode cX13_holds 13 = .ok (.aload_n 0, 1) := by decide +kernel
theorem dX13_holds_14 : decode cX13_holds 14 = .ok (.aload_n 0, 1) := by decide +kernel
theorem dX13_holds_15 : decode cX13_holds 15 = .ok (.getfield 310, 3) := by decide +kernel
theorem dX13_holds_18 : decode cX13_holds 18 = .ok (.iconst 2, 1) := by decide +kernel
theorem dX13_holds_19 : decode cX13_holds 19 = .ok (.iload_n 1, 1) := by decide +kernel
theorem dX13_holds_20 : decode cX13_holds 20 = .ok (.imul, 1) := by decide +kernel
theorem dX13_holds_21 : decode cX13_holds 21 = .ok (.iload_n 2, 1) := by decide +kernel
theorem dX13_holds_22 : decode cX13_holds 22 = .ok (.ifCond .eq 7, 3) := by decide +kernel
theorem dX13_holds_25 : decode cX13_holds 25 = .ok (.iconst 1, 1) := by decide +kernel
theorem dX13_holds_26 : decode cX13_holds 26 = .ok (.goto 4, 3) := by decide +kernel
theorem dX13_holds_29 : decode cX13_holds 29 = .ok (.iconst 0, 1) := by decide +kernel
theorem dX13_holds_30 : decode cX13_holds 30 = .ok (.iadd, 1) := by decide +kernel
theorem dX13_holds_31 : decode cX13_holds 31 = .ok (.invokevirtual 420, 3) := by decide +kernel
theorem dX13_holds_34 : decode cX13_holds 34 = .ok (.invokevirtual 80, 3) := by decide +kernel
theorem dX13_holds_37 : decode cX13_holds 37 = .ok (.goto 8, 3) := by decide +kernel
theorem dX13_holds_40 : decode cX13_holds 40 = .ok (.aload_n 0, 1) := by decide +kernel
theorem dX13_holds_41 : decode cX13_holds 41 = .ok (.iconst 1, 1) := by decide +kernel
theorem dX13_holds_42 : decode cX13_holds 42 = .ok (.invokevirtual 76, 3) := by decide +kernel
theorem dX13_holds_45 : decode cX13_holds 45 = .ok (.ireturn, 1) := by decide +kernel
theorem dX13_along_0 : decode cX13_along 0 = .ok (.aload_n 0, 1) := by decide +kernel
theorem dX13_along_1 : decode cX13_along 1 = .ok (.iconst 0, 1) := by decide +kernel
theorem dX13_along_2 : decode cX13_along 2 = .ok (.putfield 70, 3) := by decide +kernel
theorem dX13_along_5 : decode cX13_along 5 = .ok (.aload_n 0, 1) := by decide +kernel
theorem dX13_along_6 : decode cX13_along 6 = .ok (.iload_n 1, 1) := by decide +kernel
theorem dX13_along_7 : decode cX13_along 7 = .ok (.invokevirtual 423, 3) := by decide +kernel
theorem dX13_along_10 : decode cX13_along 10 = .ok (.ifCond .eq 27, 3) := by decide +kernel
theorem dX13_along_13 : decode cX13_along 13 = .ok (.aload_n 0, 1) := by decide +kernel
theorem dX13_along_14 : decode cX13_along 14 = .ok (.aload_n 0, 1) := by decide +kernel
theorem dX13_along_15 : decode cX13_along 15 = .ok (.getfield 310, 3) := by decide +kernel
theorem dX13_along_18 : decode cX13_along 18 = .ok (.getfield 426, 3) := by decide +kernel
theorem dX13_along_21 : decode cX13_along 21 = .ok (.iload_n 1, 1) := by decide +kernel
theorem dX13_along_22 : decode cX13_along 22 = .ok (.baload, 1) := by decide +kernel
theorem dX13_along_23 : decode cX13_along 23 = .ok (.ifCond .eq 7, 3) := by decide +kernel
theorem dX13_along_26 : decode cX13_along 26 = .ok (.iconst 1, 1) := by decide +kernel
theorem dX13_along_27 : decode cX13_along 27 = .ok (.goto 4, 3) := by decide +kernel
theorem dX13_along_30 : decode cX13_along 30 = .ok (.iconst 0, 1) := by decide +kernel
theorem dX13_along_31 : decode cX13_along 31 = .ok (.invokevirtual 80, 3) := by decide +kernel
theorem dX13_along_34 : decode cX13_along 34 = .ok (.goto 8, 3) := by decide +kernel
theorem dX13_along_37 : decode cX13_along 37 = .ok (.aload_n 0, 1) := by decide +kernel
theorem dX13_along_38 : decode cX13_along 38 = .ok (.iconst 1, 1) := by decide +kernel
theorem dX13_along_39 : decode cX13_along 39 = .ok (.invokevirtual 76, 3) := by decide +kernel
theorem dX13_along_42 : decode cX13_along 42 = .ok (.ireturn, 1) := by decide +kernel
theorem dX13_stands_0 : decode cX13_stands 0 = .ok (.aload_n 0, 1) := by decide +kernel
theorem dX13_stands_1 : decode cX13_stands 1 = .ok (.iconst 0, 1) := by decide +kernel
theorem dX13_stands_2 : decode cX13_stands 2 = .ok (.putfield 70, 3) := by decide +kernel
theorem dX13_stands_5 : decode cX13_stands 5 = .ok (.aload_n 0, 1) := by decide +kernel
theorem dX13_stands_6 : decode cX13_stands 6 = .ok (.iload_n 1, 1) := by decide +kernel
theorem dX13_stands_7 : decode cX13_stands 7 = .ok (.invokevirtual 430, 3) := by decide +kernel
theorem dX13_stands_10 : decode cX13_stands 10 = .ok (.ifCond .ne 9, 3) := by decide +kernel
theorem dX13_stands_13 : decode cX13_stands 13 = .ok (.aload_n 0, 1) := by decide +kernel
theorem dX13_stands_14 : decode cX13_stands 14 = .ok (.iconst 1, 1) := by decide +kernel
theorem dX13_stands_15 : decode cX13_stands 15 = .ok (.invokevirtual 76, 3) := by decide +kernel
theorem dX13_stands_18 : decode cX13_stands 18 = .ok (.ireturn, 1) := by decide +kernel
theorem dX13_stands_19 : decode cX13_stands 19 = .ok (.aload_n 0, 1) := by decide +kernel
theorem dX13_stands_20 : decode cX13_stands 20 = .ok (.aload_n 0, 1) := by decide +kernel
theorem dX13_stands_21 : decode cX13_stands 21 = .ok (.getfield 318, 3) := by decide +kernel
theorem dX13_stands_24 : decode cX13_stands 24 = .ok (.iload_n 1, 1) := by decide +kernel
theorem dX13_stands_25 : decode cX13_stands 25 = .ok (.invokestatic 349, 3) := by decide +kernel
theorem dX13_stands_28 : decode cX13_stands 28 = .ok (.bipush 15, 2) := by decide +kernel
theorem dX13_stands_30 : decode cX13_stands 30 = .ok (.if_icmp .ne 8, 3) := by decide +kernel
theorem dX13_stands_33 : decode cX13_stands 33 = .ok (.bipush (-2), 2) := by decide +kernel
theorem dX13_stands_35 : decode cX13_stands 35 = .ok (.goto 11, 3) := by decide +kernel
theorem dX13_stands_38 : decode cX13_stands 38 = .ok (.aload_n 0, 1) := by decide +kernel
theorem dX13_stands_39 : decode cX13_stands 39 = .ok (.getfield 318, 3) := by decide +kernel
theorem dX13_stands_42 : decode cX13_stands 42 = .ok (.iload_n 1, 1) := by decide +kernel
theorem dX13_stands_43 : decode cX13_stands 43 = .ok (.invokestatic 349, 3) := by decide +kernel
theorem dX13_stands_46 : decode cX13_stands 46 = .ok (.invokevirtual 80, 3) := by decide +kernel
theorem dX13_stands_49 : decode cX13_stands 49 = .ok (.ireturn, 1) := by decide +kernel
theorem dX13_place_0 : decode cX13_place 0 = .ok (.aload_n 0, 1) := by decide +kernel
theorem dX13_place_1 : decode cX13_place 1 = .ok (.iconst 0, 1) := by decide +kernel
theorem dX13_place_2 : decode cX13_place 2 = .ok (.putfield 70, 3) := by decide +kernel
theorem dX13_place_5 : decode cX13_place 5 = .ok (.aload_n 0, 1) := by decide +kernel
theorem dX13_place_6 : decode cX13_place 6 = .ok (.iload_n 1, 1) := by decide +kernel
theorem dX13_place_7 : decode cX13_place 7 = .ok (.invokevirtual 430, 3) := by decide +kernel
theorem dX13_place_10 : decode cX13_place 10 = .ok (.ifCond .eq 12, 3) := by decide +kernel
theorem dX13_place_13 : decode cX13_place 13 = .ok (.iload_n 2, 1) := by decide +kernel
theorem dX13_place_14 : decode cX13_place 14 = .ok (.iconst 0, 1) := by decide +kernel
theorem dX13_place_15 : decode cX13_place 15 = .ok (.iconst 1, 1) := by decide +kernel
theorem dX13_place_16 : decode cX13_place 16 = .ok (.invokestatic 145, 3) := by decide +kernel
theorem dX13_place_19 : decode cX13_place 19 = .ok (.ifCond .ne 9, 3) := by decide +kernel
theorem dX13_place_22 : decode cX13_place 22 = .ok (.aload_n 0, 1) := by decide +kernel
theorem dX13_place_23 : decode cX13_place 23 = .ok (.iconst 1, 1) := by decide +kernel
theorem dX13_place_24 : decode cX13_place 24 = .ok (.invokevirtual 76, 3) := by decide +kernel
theorem dX13_place_27 : decode cX13_place 27 = .ok (.ireturn, 1) := by decide +kernel
theorem dX13_place_28 : decode cX13_place 28 = .ok (.aload_n 0, 1) := by decide +kernel
theorem dX13_place_29 : decode cX13_place 29 = .ok (.iload_n 2, 1) := by decide +kernel
theorem dX13_place_30 : decode cX13_place 30 = .ok (.ifCond .ne 15, 3) := by decide +kernel
theorem dX13_place_33 : decode cX13_place 33 = .ok (.aload_n 0, 1) := by decide +kernel
theorem dX13_place_34 : decode cX13_place 34 = .ok (.getfield 310, 3) := by decide +kernel
theorem dX13_place_37 : decode cX13_place 37 = .ok (.getfield 356, 3) := by decide +kernel
theorem dX13_place_40 : decode cX13_place 40 = .ok (.iload_n 1, 1) := by decide +kernel
theorem dX13_place_41 : decode cX13_place 41 = .ok (.iaload, 1) := by decide +kernel
theorem dX13_place_42 : decode cX13_place 42 = .ok (.goto 12, 3) := by decide +kernel
theorem dX13_place_45 : decode cX13_place 45 = .ok (.aload_n 0, 1) := by decide +kernel
theorem dX13_place_46 : decode cX13_place 46 = .ok (.getfield 310, 3) := by decide +kernel
theorem dX13_place_49 : decode cX13_place 49 = .ok (.getfield 362, 3) := by decide +kernel
theorem dX13_place_52 : decode cX13_place 52 = .ok (.iload_n 1, 1) := by decide +kernel
theorem dX13_place_53 : decode cX13_place 53 = .ok (.iaload, 1) := by decide +kernel
theorem dX13_place_54 : decode cX13_place 54 = .ok (.invokevirtual 80, 3) := by decide +kernel
theorem dX13_place_57 : decode cX13_place 57 = .ok (.ireturn, 1) := by decide +kernel
theorem dX13_isLeft_0 : decode cX13_isLeft 0 = .ok (.aload_n 0, 1) := by decide +kernel
theorem dX13_isLeft_1 : decode cX13_isLeft 1 = .ok (.aload_n 0, 1) := by decide +kernel
theorem dX13_isLeft_2 : decode cX13_isLeft 2 = .ok (.getfield 318, 3) := by decide +kernel
theorem dX13_isLeft_5 : decode cX13_isLeft 5 = .ok (.invokevirtual 433, 3) := by decide +kernel
theorem dX13_isLeft_8 : decode cX13_isLeft 8 = .ok (.aload_n 0, 1) := by decide +kernel
theorem dX13_isLeft_9 : decode cX13_isLeft 9 = .ok (.getfield 17, 3) := by decide +kernel
theorem dX13_isLeft_12 : decode cX13_isLeft 12 = .ok (.iconst 2, 1) := by decide +kernel
theorem dX13_isLeft_13 : decode cX13_isLeft 13 = .ok (.iload_n 1, 1) := by decide +kernel
theorem dX13_isLeft_14 : decode cX13_isLeft 14 = .ok (.imul, 1) := by decide +kernel
theorem dX13_isLeft_15 : decode cX13_isLeft 15 = .ok (.iaload, 1) := by decide +kernel
theorem dX13_isLeft_16 : decode cX13_isLeft 16 = .ok (.iconst (-1), 1) := by decide +kernel
theorem dX13_isLeft_17 : decode cX13_isLeft 17 = .ok (.if_icmp .eq 7, 3) := by decide +kernel
theorem dX13_isLeft_20 : decode cX13_isLeft 20 = .ok (.iconst 1, 1) := by decide +kernel
theorem dX13_isLeft_21 : decode cX13_isLeft 21 = .ok (.goto 4, 3) := by decide +kernel
theorem dX13_isLeft_24 : decode cX13_isLeft 24 = .ok (.iconst 0, 1) := by decide +kernel
theorem dX13_isLeft_25 : decode cX13_isLeft 25 = .ok (.ireturn, 1) := by decide +kernel
theorem dX13_sign_0 : decode cX13_sign 0 = .ok (.aload_n 0, 1) := by decide +kernel
theorem dX13_sign_1 : decode cX13_sign 1 = .ok (.iconst 0, 1) := by decide +kernel
theorem dX13_sign_2 : decode cX13_sign 2 = .ok (.putfield 70, 3) := by decide +kernel
theorem dX13_sign_5 : decode cX13_sign 5 = .ok (.aload_n 0, 1) := by decide +kernel
theorem dX13_sign_6 : decode cX13_sign 6 = .ok (.getfield 310, 3) := by decide +kernel
theorem dX13_sign_9 : decode cX13_sign 9 = .ok (.ifnull 18, 3) := by decide +kernel
theorem dX13_sign_12 : decode cX13_sign 12 = .ok (.iload_n 1, 1) := by decide +kernel
theorem dX13_sign_13 : decode cX13_sign 13 = .ok (.ifCond .lt 14, 3) := by decide +kernel
theorem dX13_sign_16 : decode cX13_sign 16 = .ok (.iload_n 1, 1) := by decide +kernel
theorem dX13_sign_17 : decode cX13_sign 17 = .ok (.aload_n 0, 1) := by decide +kernel
theorem dX13_sign_18 : decode cX13_sign 18 = .ok (.getfield 310, 3) := by decide +kernel
theorem dX13_sign_21 : decode cX13_sign 21 = .ok (.getfield 277, 3) := by decide +kernel
theorem dX13_sign_24 : decode cX13_sign 24 = .ok (.if_icmp .lt 9, 3) := by decide +kernel
theorem dX13_sign_27 : decode cX13_sign 27 = .ok (.aload_n 0, 1) := by decide +kernel
theorem dX13_sign_28 : decode cX13_sign 28 = .ok (.iconst 1, 1) := by decide +kernel
theorem dX13_sign_29 : decode cX13_sign 29 = .ok (.invokevirtual 437, 3) := by decide +kernel
theorem dX13_sign_32 : decode cX13_sign 32 = .ok (.ireturn, 1) := by decide +kernel
theorem dX13_sign_33 : decode cX13_sign 33 = .ok (.aload_n 0, 1) := by decide +kernel
theorem dX13_sign_34 : decode cX13_sign 34 = .ok (.aload_n 0, 1) := by decide +kernel
theorem dX13_sign_35 : decode cX13_sign 35 = .ok (.iload_n 1, 1) := by decide +kernel
theorem dX13_sign_36 : decode cX13_sign 36 = .ok (.invokevirtual 440, 3) := by decide +kernel
theorem dX13_sign_39 : decode cX13_sign 39 = .ok (.ifCond .eq 11, 3) := by decide +kernel
theorem dX13_sign_42 : decode cX13_sign 42 = .ok (.aload_n 0, 1) := by decide +kernel
theorem dX13_sign_43 : decode cX13_sign 43 = .ok (.iload_n 1, 1) := by decide +kernel
theorem dX13_sign_44 : decode cX13_sign 44 = .ok (.invokevirtual 377, 3) := by decide +kernel
theorem dX13_sign_47 : decode cX13_sign 47 = .ok (.goto 4, 3) := by decide +kernel
theorem dX13_sign_50 : decode cX13_sign 50 = .ok (.iconst 0, 1) := by decide +kernel
theorem dX13_sign_51 : decode cX13_sign 51 = .ok (.invokevirtual 80, 3) := by decide +kernel
theorem dX13_sign_54 : decode cX13_sign 54 = .ok (.ireturn, 1) := by decide +kernel
theorem dX13_left_0 : decode cX13_left 0 = .ok (.aload_n 0, 1) := by decide +kernel
theorem dX13_left_1 : decode cX13_left 1 = .ok (.iconst 0, 1) := by decide +kernel
theorem dX13_left_2 : decode cX13_left 2 = .ok (.putfield 70, 3) := by decide +kernel
theorem dX13_left_5 : decode cX13_left 5 = .ok (.aload_n 0, 1) := by decide +kernel
theorem dX13_left_6 : decode cX13_left 6 = .ok (.getfield 310, 3) := by decide +kernel
theorem dX13_left_9 : decode cX13_left 9 = .ok (.ifnonnull 11, 3) := by decide +kernel
theorem dX13_left_12 : decode cX13_left 12 = .ok (.aload_n 0, 1) := by decide +kernel
theorem dX13_left_13 : decode cX13_left 13 = .ok (.iconst 1, 1) := by decide +kernel
theorem dX13_left_14 : decode cX13_left 14 = .ok (.invokevirtual 76, 3) := by decide +kernel
theorem dX13_left_17 : decode cX13_left 17 = .ok (.goto 15, 3) := by decide +kernel
theorem dX13_left_20 : decode cX13_left 20 = .ok (.aload_n 0, 1) := by decide +kernel
theorem dX13_left_21 : decode cX13_left 21 = .ok (.aload_n 0, 1) := by decide +kernel
theorem dX13_left_22 : decode cX13_left 22 = .ok (.aload_n 0, 1) := by decide +kernel
theorem dX13_left_23 : decode cX13_left 23 = .ok (.getfield 318, 3) := by decide +kernel
theorem dX13_left_26 : decode cX13_left 26 = .ok (.invokevirtual 443, 3) := by decide +kernel
theorem dX13_left_29 : decode cX13_left 29 = .ok (.invokevirtual 80, 3) := by decide +kernel
theorem dX13_left_32 : decode cX13_left 32 = .ok (.ireturn, 1) := by decide +kernel
theorem dX13_loose_0 : decode cX13_loose 0 = .ok (.aload_n 0, 1) := by decide +kernel
theorem dX13_loose_1 : decode cX13_loose 1 = .ok (.iconst 0, 1) := by decide +kernel
theorem dX13_loose_2 : decode cX13_loose 2 = .ok (.putfield 70, 3) := by decide +kernel
theorem dX13_loose_5 : decode cX13_loose 5 = .ok (.aload_n 0, 1) := by decide +kernel
theorem dX13_loose_6 : decode cX13_loose 6 = .ok (.getfield 310, 3) := by decide +kernel
theorem dX13_loose_9 : decode cX13_loose 9 = .ok (.ifnonnull 11, 3) := by decide +kernel
theorem dX13_loose_12 : decode cX13_loose 12 = .ok (.aload_n 0, 1) := by decide +kernel
theorem dX13_loose_13 : decode cX13_loose 13 = .ok (.iconst 1, 1) := by decide +kernel
theorem dX13_loose_14 : decode cX13_loose 14 = .ok (.invokevirtual 76, 3) := by decide +kernel
theorem dX13_loose_17 : decode cX13_loose 17 = .ok (.goto 23, 3) := by decide +kernel
theorem dX13_loose_20 : decode cX13_loose 20 = .ok (.aload_n 0, 1) := by decide +kernel
theorem dX13_loose_21 : decode cX13_loose 21 = .ok (.aload_n 0, 1) := by decide +kernel
theorem dX13_loose_22 : decode cX13_loose 22 = .ok (.aload_n 0, 1) := by decide +kernel
theorem dX13_loose_23 : decode cX13_loose 23 = .ok (.getfield 318, 3) := by decide +kernel
theorem dX13_loose_26 : decode cX13_loose 26 = .ok (.invokevirtual 443, 3) := by decide +kernel
theorem dX13_loose_29 : decode cX13_loose 29 = .ok (.ifCond .ne 7, 3) := by decide +kernel
theorem dX13_loose_32 : decode cX13_loose 32 = .ok (.iconst 1, 1) := by decide +kernel
theorem dX13_loose_33 : decode cX13_loose 33 = .ok (.goto 4, 3) := by decide +kernel
theorem dX13_loose_36 : decode cX13_loose 36 = .ok (.iconst 0, 1) := by decide +kernel
theorem dX13_loose_37 : decode cX13_loose 37 = .ok (.invokevirtual 80, 3) := by decide +kernel
theorem dX13_loose_40 : decode cX13_loose 40 = .ok (.ireturn, 1) := by decide +kernel
theorem dX13_may_0 : decode cX13_may 0 = .ok (.aload_n 0, 1) := by decide +kernel
theorem dX13_may_1 : decode cX13_may 1 = .ok (.iconst 0, 1) := by decide +kernel
theorem dX13_may_2 : decode cX13_may 2 = .ok (.putfield 70, 3) := by decide +kernel
theorem dX13_may_5 : decode cX13_may 5 = .ok (.aload_n 0, 1) := by decide +kernel
theorem dX13_may_6 : decode cX13_may 6 = .ok (.iload_n 1, 1) := by decide +kernel
theorem dX13_may_7 : decode cX13_may 7 = .ok (.invokevirtual 397, 3) := by decide +kernel
theorem dX13_may_10 : decode cX13_may 10 = .ok (.ifCond .ne 9, 3) := by decide +kernel
theorem dX13_may_13 : decode cX13_may 13 = .ok (.aload_n 0, 1) := by decide +kernel
theorem dX13_may_14 : decode cX13_may 14 = .ok (.iconst 1, 1) := by decide +kernel
theorem dX13_may_15 : decode cX13_may 15 = .ok (.invokevirtual 76, 3) := by decide +kernel
theorem dX13_may_18 : decode cX13_may 18 = .ok (.ireturn, 1) := by decide +kernel
theorem dX13_may_19 : decode cX13_may 19 = .ok (.aload_n 0, 1) := by decide +kernel
theorem dX13_may_20 : decode cX13_may 20 = .ok (.aload_n 0, 1) := by decide +kernel
theorem dX13_may_21 : decode cX13_may 21 = .ok (.getfield 318, 3) := by decide +kernel
theorem dX13_may_24 : decode cX13_may 24 = .ok (.invokevirtual 433, 3) := by decide +kernel
theorem dX13_may_27 : decode cX13_may 27 = .ok (.aload_n 0, 1) := by decide +kernel
theorem dX13_may_28 : decode cX13_may 28 = .ok (.aload_n 0, 1) := by decide +kernel
theorem dX13_may_29 : decode cX13_may 29 = .ok (.iload_n 1, 1) := by decide +kernel
theorem dX13_may_30 : decode cX13_may 30 = .ok (.invokevirtual 403, 3) := by decide +kernel
theorem dX13_may_33 : decode cX13_may 33 = .ok (.ifCond .eq 7, 3) := by decide +kernel
theorem dX13_may_36 : decode cX13_may 36 = .ok (.iconst 1, 1) := by decide +kernel
theorem dX13_may_37 : decode cX13_may 37 = .ok (.goto 4, 3) := by decide +kernel
theorem dX13_may_40 : decode cX13_may 40 = .ok (.iconst 0, 1) := by decide +kernel
theorem dX13_may_41 : decode cX13_may 41 = .ok (.invokevirtual 80, 3) := by decide +kernel
theorem dX13_may_44 : decode cX13_may 44 = .ok (.ireturn, 1) := by decide +kernel
theorem dX13_goer_0 : decode cX13_goer 0 = .ok (.aload_n 0, 1) := by decide +kernel
theorem dX13_goer_1 : decode cX13_goer 1 = .ok (.iconst 0, 1) := by decide +kernel
theorem dX13_goer_2 : decode cX13_goer 2 = .ok (.putfield 70, 3) := by decide +kernel
theorem dX13_goer_5 : decode cX13_goer 5 = .ok (.aload_n 0, 1) := by decide +kernel
theorem dX13_goer_6 : decode cX13_goer 6 = .ok (.iload_n 1, 1) := by decide +kernel
theorem dX13_goer_7 : decode cX13_goer 7 = .ok (.invokevirtual 397, 3) := by decide +kernel
theorem dX13_goer_10 : decode cX13_goer 10 = .ok (.ifCond .ne 9, 3) := by decide +kernel
theorem dX13_goer_13 : decode cX13_goer 13 = .ok (.aload_n 0, 1) := by decide +kernel
theorem dX13_goer_14 : decode cX13_goer 14 = .ok (.iconst 1, 1) := by decide +kernel
theorem dX13_goer_15 : decode cX13_goer 15 = .ok (.invokevirtual 76, 3) := by decide +kernel
theorem dX13_goer_18 : decode cX13_goer 18 = .ok (.ireturn, 1) := by decide +kernel
theorem dX13_goer_19 : decode cX13_goer 19 = .ok (.aload_n 0, 1) := by decide +kernel
theorem dX13_goer_20 : decode cX13_goer 20 = .ok (.aload_n 0, 1) := by decide +kernel
theorem dX13_goer_21 : decode cX13_goer 21 = .ok (.getfield 318, 3) := by decide +kernel
theorem dX13_goer_24 : decode cX13_goer 24 = .ok (.invokevirtual 433, 3) := by decide +kernel
theorem dX13_goer_27 : decode cX13_goer 27 = .ok (.aload_n 0, 1) := by decide +kernel
theorem dX13_goer_28 : decode cX13_goer 28 = .ok (.iload_n 1, 1) := by decide +kernel
theorem dX13_goer_29 : decode cX13_goer 29 = .ok (.invokevirtual 380, 3) := by decide +kernel
theorem dX13_goer_32 : decode cX13_goer 32 = .ok (.ifCond .eq 15, 3) := by decide +kernel
theorem dX13_goer_35 : decode cX13_goer 35 = .ok (.aload_n 0, 1) := by decide +kernel
theorem dX13_goer_36 : decode cX13_goer 36 = .ok (.aload_n 0, 1) := by decide +kernel
theorem dX13_goer_37 : decode cX13_goer 37 = .ok (.iload_n 1, 1) := by decide +kernel
theorem dX13_goer_38 : decode cX13_goer 38 = .ok (.invokevirtual 383, 3) := by decide +kernel
theorem dX13_goer_41 : decode cX13_goer 41 = .ok (.invokevirtual 80, 3) := by decide +kernel
theorem dX13_goer_44 : decode cX13_goer 44 = .ok (.goto 8, 3) := by decide +kernel
theorem dX13_goer_47 : decode cX13_goer 47 = .ok (.aload_n 0, 1) := by decide +kernel
theorem dX13_goer_48 : decode cX13_goer 48 = .ok (.iconst 5, 1) := by decide +kernel
theorem dX13_goer_49 : decode cX13_goer 49 = .ok (.invokevirtual 76, 3) := by decide +kernel
theorem dX13_goer_52 : decode cX13_goer 52 = .ok (.ireturn, 1) := by decide +kernel
theorem dX13_moves_0 : decode cX13_moves 0 = .ok (.aload_n 0, 1) := by decide +kernel
theorem dX13_moves_1 : decode cX13_moves 1 = .ok (.iconst 0, 1) := by decide +kernel
theorem dX13_moves_2 : decode cX13_moves 2 = .ok (.putfield 70, 3) := by decide +kernel
theorem dX13_moves_5 : decode cX13_moves 5 = .ok (.aload_n 0, 1) := by decide +kernel
theorem dX13_moves_6 : decode cX13_moves 6 = .ok (.getfield 310, 3) := by decide +kernel
theorem dX13_moves_9 : decode cX13_moves 9 = .ok (.ifnonnull 9, 3) := by decide +kernel
theorem dX13_moves_12 : decode cX13_moves 12 = .ok (.aload_n 0, 1) := by decide +kernel
theorem dX13_moves_13 : decode cX13_moves 13 = .ok (.iconst 1, 1) := by decide +kernel
theorem dX13_moves_14 : decode cX13_moves 14 = .ok (.invokevirtual 76, 3) := by decide +kernel
theorem dX13_moves_17 : decode cX13_moves 17 = .ok (.ireturn, 1) := by decide +kernel
theorem dX13_moves_18 : decode cX13_moves 18 = .ok (.aload_n 0, 1) := by decide +kernel
theorem dX13_moves_19 : decode cX13_moves 19 = .ok (.aload_n 0, 1) := by decide +kernel
theorem dX13_moves_20 : decode cX13_moves 20 = .ok (.getfield 318, 3) := by decide +kernel
theorem dX13_moves_23 : decode cX13_moves 23 = .ok (.invokevirtual 433, 3) := by decide +kernel
theorem dX13_moves_26 : decode cX13_moves 26 = .ok (.iconst 0, 1) := by decide +kernel
theorem dX13_moves_27 : decode cX13_moves 27 = .ok (.istore_n 1, 1) := by decide +kernel
theorem dX13_moves_28 : decode cX13_moves 28 = .ok (.aload_n 0, 1) := by decide +kernel
theorem dX13_moves_29 : decode cX13_moves 29 = .ok (.iconst (-1), 1) := by decide +kernel
theorem dX13_moves_30 : decode cX13_moves 30 = .ok (.invokevirtual 446, 3) := by decide +kernel
theorem dX13_moves_33 : decode cX13_moves 33 = .ok (.istore_n 2, 1) := by decide +kernel
theorem dX13_moves_34 : decode cX13_moves 34 = .ok (.iload_n 2, 1) := by decide +kernel
theorem dX13_moves_35 : decode cX13_moves 35 = .ok (.sipush 2000, 3) := by decide +kernel
theorem dX13_moves_38 : decode cX13_moves 38 = .ok (.if_icmp .ge 15, 3) := by decide +kernel
theorem dX13_moves_41 : decode cX13_moves 41 = .ok (.iinc 1 1, 3) := by decide +kernel
theorem dX13_moves_44 : decode cX13_moves 44 = .ok (.aload_n 0, 1) := by decide +kernel
theorem dX13_moves_45 : decode cX13_moves 45 = .ok (.iload_n 2, 1) := by decide +kernel
theorem dX13_moves_46 : decode cX13_moves 46 = .ok (.invokevirtual 446, 3) := by decide +kernel
theorem dX13_moves_49 : decode cX13_moves 49 = .ok (.istore_n 2, 1) := by decide +kernel
theorem dX13_moves_50 : decode cX13_moves 50 = .ok (.goto (-16), 3) := by decide +kernel
theorem dX13_moves_53 : decode cX13_moves 53 = .ok (.aload_n 0, 1) := by decide +kernel
theorem dX13_moves_54 : decode cX13_moves 54 = .ok (.iload_n 1, 1) := by decide +kernel
theorem dX13_moves_55 : decode cX13_moves 55 = .ok (.invokevirtual 80, 3) := by decide +kernel
theorem dX13_moves_58 : decode cX13_moves 58 = .ok (.ireturn, 1) := by decide +kernel
theorem dX13_moveAt_0 : decode cX13_moveAt 0 = .ok (.aload_n 0, 1) := by decide +kernel
theorem dX13_moveAt_1 : decode cX13_moveAt 1 = .ok (.iconst 0, 1) := by decide +kernel
theorem dX13_moveAt_2 : decode cX13_moveAt 2 = .ok (.putfield 70, 3) := by decide +kernel
theorem dX13_moveAt_5 : decode cX13_moveAt 5 = .ok (.aload_n 0, 1) := by decide +kernel
theorem dX13_moveAt_6 : decode cX13_moveAt 6 = .ok (.getfield 310, 3) := by decide +kernel
theorem dX13_moveAt_9 : decode cX13_moveAt 9 = .ok (.ifnonnull 9, 3) := by decide +kernel
theorem dX13_moveAt_12 : decode cX13_moveAt 12 = .ok (.aload_n 0, 1) := by decide +kernel
theorem dX13_moveAt_13 : decode cX13_moveAt 13 = .ok (.iconst 1, 1) := by decide +kernel
theorem dX13_moveAt_14 : decode cX13_moveAt 14 = .ok (.invokevirtual 76, 3) := by decide +kernel
theorem dX13_moveAt_17 : decode cX13_moveAt 17 = .ok (.ireturn, 1) := by decide +kernel
theorem dX13_moveAt_18 : decode cX13_moveAt 18 = .ok (.aload_n 0, 1) := by decide +kernel
theorem dX13_moveAt_19 : decode cX13_moveAt 19 = .ok (.aload_n 0, 1) := by decide +kernel
theorem dX13_moveAt_20 : decode cX13_moveAt 20 = .ok (.getfield 318, 3) := by decide +kernel
theorem dX13_moveAt_23 : decode cX13_moveAt 23 = .ok (.invokevirtual 433, 3) := by decide +kernel
theorem dX13_moveAt_26 : decode cX13_moveAt 26 = .ok (.iconst 0, 1) := by decide +kernel
theorem dX13_moveAt_27 : decode cX13_moveAt 27 = .ok (.istore_n 2, 1) := by decide +kernel
theorem dX13_moveAt_28 : decode cX13_moveAt 28 = .ok (.aload_n 0, 1) := by decide +kernel
theorem dX13_moveAt_29 : decode cX13_moveAt 29 = .ok (.iconst (-1), 1) := by decide +kernel
theorem dX13_moveAt_30 : decode cX13_moveAt 30 = .ok (.invokevirtual 446, 3) := by decide +kernel
theorem dX13_moveAt_33 : decode cX13_moveAt 33 = .ok (.istore_n 3, 1) := by decide +kernel
theorem dX13_moveAt_34 : decode cX13_moveAt 34 = .ok (.iload_n 3, 1) := by decide +kernel
theorem dX13_moveAt_35 : decode cX13_moveAt 35 = .ok (.sipush 2000, 3) := by decide +kernel
theorem dX13_moveAt_38 : decode cX13_moveAt 38 = .ok (.if_icmp .ge 26, 3) := by decide +kernel
theorem dX13_moveAt_41 : decode cX13_moveAt 41 = .ok (.iload_n 2, 1) := by decide +kernel
theorem dX13_moveAt_42 : decode cX13_moveAt 42 = .ok (.iload_n 1, 1) := by decide +kernel
theorem dX13_moveAt_43 : decode cX13_moveAt 43 = .ok (.if_icmp .ne 9, 3) := by decide +kernel
theorem dX13_moveAt_46 : decode cX13_moveAt 46 = .ok (.aload_n 0, 1) := by decide +kernel
theorem dX13_moveAt_47 : decode cX13_moveAt 47 = .ok (.iload_n 3, 1) := by decide +kernel
theorem dX13_moveAt_48 : decode cX13_moveAt 48 = .ok (.invokevirtual 80, 3) := by decide +kernel
theorem dX13_moveAt_51 : decode cX13_moveAt 51 = .ok (.ireturn, 1) := by decide +kernel
theorem dX13_moveAt_52 : decode cX13_moveAt 52 = .ok (.iinc 2 1, 3) := by decide +kernel
theorem dX13_moveAt_55 : decode cX13_moveAt 55 = .ok (.aload_n 0, 1) := by decide +kernel
theorem dX13_moveAt_56 : decode cX13_moveAt 56 = .ok (.iload_n 3, 1) := by decide +kernel
theorem dX13_moveAt_57 : decode cX13_moveAt 57 = .ok (.invokevirtual 446, 3) := by decide +kernel
theorem dX13_moveAt_60 : decode cX13_moveAt 60 = .ok (.istore_n 3, 1) := by decide +kernel
theorem dX13_moveAt_61 : decode cX13_moveAt 61 = .ok (.goto (-27), 3) := by decide +kernel
theorem dX13_moveAt_64 : decode cX13_moveAt 64 = .ok (.aload_n 0, 1) := by decide +kernel
theorem dX13_moveAt_65 : decode cX13_moveAt 65 = .ok (.iconst 1, 1) := by decide +kernel
theorem dX13_moveAt_66 : decode cX13_moveAt 66 = .ok (.invokevirtual 76, 3) := by decide +kernel
theorem dX13_moveAt_69 : decode cX13_moveAt 69 = .ok (.ireturn, 1) := by decide +kernel
theorem dX13_comes_0 : decode cX13_comes 0 = .ok (.lload_n 1, 1) := by decide +kernel
theorem dX13_comes_1 : decode cX13_comes 1 = .ok (.ldc2_w 449, 3) := by decide +kernel
theorem dX13_comes_4 : decode cX13_comes 4 = .ok (.lor, 1) := by decide +kernel
theorem dX13_comes_5 : decode cX13_comes 5 = .ok (.lstore_n 3, 1) := by decide +kernel
theorem dX13_comes_6 : decode cX13_comes 6 = .ok (.lload_n 3, 1) := by decide +kernel
theorem dX13_comes_7 : decode cX13_comes 7 = .ok (.ldc2_w 451, 3) := by decide +kernel
theorem dX13_comes_10 : decode cX13_comes 10 = .ok (.lmul, 1) := by decide +kernel
theorem dX13_comes_11 : decode cX13_comes 11 = .ok (.bipush 50, 2) := by decide +kernel
theorem dX13_comes_13 : decode cX13_comes 13 = .ok (.lushr, 1) := by decide +kernel
theorem dX13_comes_14 : decode cX13_comes 14 = .ok (.l2i, 1) := by decide +kernel
theorem dX13_comes_15 : decode cX13_comes 15 = .ok (.istore 5, 2) := by decide +kernel
theorem dX13_comes_17 : decode cX13_comes 17 = .ok (.aload_n 0, 1) := by decide +kernel
theorem dX13_comes_18 : decode cX13_comes 18 = .ok (.getfield 28, 3) := by decide +kernel
theorem dX13_comes_21 : decode cX13_comes 21 = .ok (.iload 5, 2) := by decide +kernel
theorem dX13_comes_23 : decode cX13_comes 23 = .ok (.laload, 1) := by decide +kernel
theorem dX13_comes_24 : decode cX13_comes 24 = .ok (.lconst 0, 1) := by decide +kernel
theorem dX13_comes_25 : decode cX13_comes 25 = .ok (.lcmp, 1) := by decide +kernel
theorem dX13_comes_26 : decode cX13_comes 26 = .ok (.ifCond .eq 28, 3) := by decide +kernel
theorem dX13_comes_29 : decode cX13_comes 29 = .ok (.aload_n 0, 1) := by decide +kernel
theorem dX13_comes_30 : decode cX13_comes 30 = .ok (.getfield 28, 3) := by decide +kernel
theorem dX13_comes_33 : decode cX13_comes 33 = .ok (.iload 5, 2) := by decide +kernel
theorem dX13_comes_35 : decode cX13_comes 35 = .ok (.laload, 1) := by decide +kernel
theorem dX13_comes_36 : decode cX13_comes 36 = .ok (.lload_n 3, 1) := by decide +kernel
theorem dX13_comes_37 : decode cX13_comes 37 = .ok (.lcmp, 1) := by decide +kernel
theorem dX13_comes_38 : decode cX13_comes 38 = .ok (.ifCond .eq 16, 3) := by decide +kernel
theorem dX13_comes_41 : decode cX13_comes 41 = .ok (.iload 5, 2) := by decide +kernel
theorem dX13_comes_43 : decode cX13_comes 43 = .ok (.iconst 1, 1) := by decide +kernel
theorem dX13_comes_44 : decode cX13_comes 44 = .ok (.iadd, 1) := by decide +kernel
theorem dX13_comes_45 : decode cX13_comes 45 = .ok (.sipush 16383, 3) := by decide +kernel
theorem dX13_comes_48 : decode cX13_comes 48 = .ok (.iand, 1) := by decide +kernel
theorem dX13_comes_49 : decode cX13_comes 49 = .ok (.istore 5, 2) := by decide +kernel
theorem dX13_comes_51 : decode cX13_comes 51 = .ok (.goto (-34), 3) := by decide +kernel
theorem dX13_comes_54 : decode cX13_comes 54 = .ok (.aload_n 0, 1) := by decide +kernel
theorem dX13_comes_55 : decode cX13_comes 55 = .ok (.getfield 28, 3) := by decide +kernel
theorem dX13_comes_58 : decode cX13_comes 58 = .ok (.iload 5, 2) := by decide +kernel
theorem dX13_comes_60 : decode cX13_comes 60 = .ok (.laload, 1) := by decide +kernel
theorem dX13_comes_61 : decode cX13_comes 61 = .ok (.lload_n 3, 1) := by decide +kernel
theorem dX13_comes_62 : decode cX13_comes 62 = .ok (.lcmp, 1) := by decide +kernel
theorem dX13_comes_63 : decode cX13_comes 63 = .ok (.ifCond .ne 5, 3) := by decide +kernel
theorem dX13_comes_66 : decode cX13_comes 66 = .ok (.iconst 1, 1) := by decide +kernel
theorem dX13_comes_67 : decode cX13_comes 67 = .ok (.ireturn, 1) := by decide +kernel
theorem dX13_comes_68 : decode cX13_comes 68 = .ok (.aload_n 0, 1) := by decide +kernel
theorem dX13_comes_69 : decode cX13_comes 69 = .ok (.getfield 453, 3) := by decide +kernel
theorem dX13_comes_72 : decode cX13_comes 72 = .ok (.sipush 4000, 3) := by decide +kernel
theorem dX13_comes_75 : decode cX13_comes 75 = .ok (.if_icmp .ne 5, 3) := by decide +kernel
theorem dX13_comes_78 : decode cX13_comes 78 = .ok (.iconst 0, 1) := by decide +kernel
theorem dX13_comes_79 : decode cX13_comes 79 = .ok (.ireturn, 1) := by decide +kernel
theorem dX13_comes_80 : decode cX13_comes 80 = .ok (.aload_n 0, 1) := by decide +kernel
theorem dX13_comes_81 : decode cX13_comes 81 = .ok (.getfield 28, 3) := by decide +kernel
theorem dX13_comes_84 : decode cX13_comes 84 = .ok (.iload 5, 2) := by decide +kernel
theorem dX13_comes_86 : decode cX13_comes 86 = .ok (.lload_n 3, 1) := by decide +kernel
theorem dX13_comes_87 : decode cX13_comes 87 = .ok (.lastore, 1) := by decide +kernel
theorem dX13_comes_88 : decode cX13_comes 88 = .ok (.aload_n 0, 1) := by decide +kernel
theorem dX13_comes_89 : decode cX13_comes 89 = .ok (.getfield 24, 3) := by decide +kernel
theorem dX13_comes_92 : decode cX13_comes 92 = .ok (.aload_n 0, 1) := by decide +kernel
theorem dX13_comes_93 : decode cX13_comes 93 = .ok (.getfield 453, 3) := by decide +kernel
theorem dX13_comes_96 : decode cX13_comes 96 = .ok (.lload_n 1, 1) := by decide +kernel
theorem dX13_comes_97 : decode cX13_comes 97 = .ok (.lastore, 1) := by decide +kernel
theorem dX13_comes_98 : decode cX13_comes 98 = .ok (.aload_n 0, 1) := by decide +kernel
theorem dX13_comes_99 : decode cX13_comes 99 = .ok (.dup, 1) := by decide +kernel
theorem dX13_comes_100 : decode cX13_comes 100 = .ok (.getfield 453, 3) := by decide +kernel
theorem dX13_comes_103 : decode cX13_comes 103 = .ok (.iconst 1, 1) := by decide +kernel
theorem dX13_comes_104 : decode cX13_comes 104 = .ok (.iadd, 1) := by decide +kernel
theorem dX13_comes_105 : decode cX13_comes 105 = .ok (.putfield 453, 3) := by decide +kernel
theorem dX13_comes_108 : decode cX13_comes 108 = .ok (.iconst 1, 1) := by decide +kernel
theorem dX13_comes_109 : decode cX13_comes 109 = .ok (.ireturn, 1) := by decide +kernel
theorem dX13_fewestFrom_0 : decode cX13_fewestFrom 0 = .ok (.iconst 0, 1) := by decide +kernel
theorem dX13_fewestFrom_1 : decode cX13_fewestFrom 1 = .ok (.istore 4, 2) := by decide +kernel
theorem dX13_fewestFrom_3 : decode cX13_fewestFrom 3 = .ok (.iload 4, 2) := by decide +kernel
theorem dX13_fewestFrom_5 : decode cX13_fewestFrom 5 = .ok (.sipush 16384, 3) := by decide +kernel
theorem dX13_fewestFrom_8 : decode cX13_fewestFrom 8 = .ok (.if_icmp .ge 17, 3) := by decide +kernel
theorem dX13_fewestFrom_11 : decode cX13_fewestFrom 11 = .ok (.aload_n 0, 1) := by decide +kernel
theorem dX13_fewestFrom_12 : decode cX13_fewestFrom 12 = .ok (.getfield 28, 3) := by decide +kernel
theorem dX13_fewestFrom_15 : decode cX13_fewestFrom 15 = .ok (.iload 4, 2) := by decide +kernel
theorem dX13_fewestFrom_17 : decode cX13_fewestFrom 17 = .ok (.lconst 0, 1) := by decide +kernel
theorem dX13_fewestFrom_18 : decode cX13_fewestFrom 18 = .ok (.lastore, 1) := by decide +kernel
theorem dX13_fewestFrom_19 : decode cX13_fewestFrom 19 = .ok (.iinc 4 1, 3) := by decide +kernel
theorem dX13_fewestFrom_22 : decode cX13_fewestFrom 22 = .ok (.goto (-19), 3) := by decide +kernel
theorem dX13_fewestFrom_25 : decode cX13_fewestFrom 25 = .ok (.aload_n 0, 1) := by decide +kernel
theorem dX13_fewestFrom_26 : decode cX13_fewestFrom 26 = .ok (.iconst 0, 1) := by decide +kernel
theorem dX13_fewestFrom_27 : decode cX13_fewestFrom 27 = .ok (.putfield 453, 3) := by decide +kernel
theorem dX13_fewestFrom_30 : decode cX13_fewestFrom 30 = .ok (.aload_n 0, 1) := by decide +kernel
theorem dX13_fewestFrom_31 : decode cX13_fewestFrom 31 = .ok (.lload_n 1, 1) := by decide +kernel
theorem dX13_fewestFrom_32 : decode cX13_fewestFrom 32 = .ok (.invokevirtual 456, 3) := by decide +kernel
theorem dX13_fewestFrom_35 : decode cX13_fewestFrom 35 = .ok (.pop, 1) := by decide +kernel
theorem dX13_fewestFrom_36 : decode cX13_fewestFrom 36 = .ok (.iconst 0, 1) := by decide +kernel
theorem dX13_fewestFrom_37 : decode cX13_fewestFrom 37 = .ok (.istore 4, 2) := by decide +kernel
theorem dX13_fewestFrom_39 : decode cX13_fewestFrom 39 = .ok (.iconst 0, 1) := by decide +kernel
theorem dX13_fewestFrom_40 : decode cX13_fewestFrom 40 = .ok (.istore 5, 2) := by decide +kernel
theorem dX13_fewestFrom_42 : decode cX13_fewestFrom 42 = .ok (.iload 5, 2) := by decide +kernel
theorem dX13_fewestFrom_44 : decode cX13_fewestFrom 44 = .ok (.iload_n 3, 1) := by decide +kernel
theorem dX13_fewestFrom_45 : decode cX13_fewestFrom 45 = .ok (.if_icmp .gt 96, 3) := by decide +kernel
theorem dX13_fewestFrom_48 : decode cX13_fewestFrom 48 = .ok (.aload_n 0, 1) := by decide +kernel
theorem dX13_fewestFrom_49 : decode cX13_fewestFrom 49 = .ok (.getfield 453, 3) := by decide +kernel
theorem dX13_fewestFrom_52 : decode cX13_fewestFrom 52 = .ok (.istore 6, 2) := by decide +kernel
theorem dX13_fewestFrom_54 : decode cX13_fewestFrom 54 = .ok (.iload 4, 2) := by decide +kernel
theorem dX13_fewestFrom_56 : decode cX13_fewestFrom 56 = .ok (.istore 7, 2) := by decide +kernel
theorem dX13_fewestFrom_58 : decode cX13_fewestFrom 58 = .ok (.iload 7, 2) := by decide +kernel
theorem dX13_fewestFrom_60 : decode cX13_fewestFrom 60 = .ok (.iload 6, 2) := by decide +kernel
theorem dX13_fewestFrom_62 : decode cX13_fewestFrom 62 = .ok (.if_icmp .ge 26, 3) := by decide +kernel
theorem dX13_fewestFrom_65 : decode cX13_fewestFrom 65 = .ok (.aload_n 0, 1) := by decide +kernel
theorem dX13_fewestFrom_66 : decode cX13_fewestFrom 66 = .ok (.aload_n 0, 1) := by decide +kernel
theorem dX13_fewestFrom_67 : decode cX13_fewestFrom 67 = .ok (.getfield 24, 3) := by decide +kernel
theorem dX13_fewestFrom_70 : decode cX13_fewestFrom 70 = .ok (.iload 7, 2) := by decide +kernel
theorem dX13_fewestFrom_72 : decode cX13_fewestFrom 72 = .ok (.laload, 1) := by decide +kernel
theorem dX13_fewestFrom_73 : decode cX13_fewestFrom 73 = .ok (.invokevirtual 443, 3) := by decide +kernel
theorem dX13_fewestFrom_76 : decode cX13_fewestFrom 76 = .ok (.ifCond .ne 6, 3) := by decide +kernel
theorem dX13_fewestFrom_79 : decode cX13_fewestFrom 79 = .ok (.iload 5, 2) := by decide +kernel
theorem dX13_fewestFrom_81 : decode cX13_fewestFrom 81 = .ok (.ireturn, 1) := by decide +kernel
theorem dX13_fewestFrom_82 : decode cX13_fewestFrom 82 = .ok (.iinc 7 1, 3) := by decide +kernel
theorem dX13_fewestFrom_85 : decode cX13_fewestFrom 85 = .ok (.goto (-27), 3) := by decide +kernel
theorem dX13_fewestFrom_88 : decode cX13_fewestFrom 88 = .ok (.iload 5, 2) := by decide +kernel
theorem dX13_fewestFrom_90 : decode cX13_fewestFrom 90 = .ok (.iload_n 3, 1) := by decide +kernel
theorem dX13_fewestFrom_91 : decode cX13_fewestFrom 91 = .ok (.if_icmp .ne 6, 3) := by decide +kernel
theorem dX13_fewestFrom_94 : decode cX13_fewestFrom 94 = .ok (.bipush (-2), 2) := by decide +kernel
theorem dX13_fewestFrom_96 : decode cX13_fewestFrom 96 = .ok (.ireturn, 1) := by decide +kernel
theorem dX13_fewestFrom_97 : decode cX13_fewestFrom 97 = .ok (.iload 4, 2) := by decide +kernel
theorem dX13_fewestFrom_99 : decode cX13_fewestFrom 99 = .ok (.istore 7, 2) := by decide +kernel
theorem dX13_fewestFrom_101 : decode cX13_fewestFrom 101 = .ok (.iload 7, 2) := by decide +kernel
theorem dX13_fewestFrom_103 : decode cX13_fewestFrom 103 = .ok (.iload 6, 2) := by decide +kernel
theorem dX13_fewestFrom_105 : decode cX13_fewestFrom 105 = .ok (.if_icmp .ge 26, 3) := by decide +kernel
theorem dX13_fewestFrom_108 : decode cX13_fewestFrom 108 = .ok (.aload_n 0, 1) := by decide +kernel
theorem dX13_fewestFrom_109 : decode cX13_fewestFrom 109 = .ok (.aload_n 0, 1) := by decide +kernel
theorem dX13_fewestFrom_110 : decode cX13_fewestFrom 110 = .ok (.getfield 24, 3) := by decide +kernel
theorem dX13_fewestFrom_113 : decode cX13_fewestFrom 113 = .ok (.iload 7, 2) := by decide +kernel
theorem dX13_fewestFrom_115 : decode cX13_fewestFrom 115 = .ok (.laload, 1) := by decide +kernel
theorem dX13_fewestFrom_116 : decode cX13_fewestFrom 116 = .ok (.invokevirtual 460, 3) := by decide +kernel
theorem dX13_fewestFrom_119 : decode cX13_fewestFrom 119 = .ok (.ifCond .ne 6, 3) := by decide +kernel
theorem dX13_fewestFrom_122 : decode cX13_fewestFrom 122 = .ok (.bipush (-9), 2) := by decide +kernel
theorem dX13_fewestFrom_124 : decode cX13_fewestFrom 124 = .ok (.ireturn, 1) := by decide +kernel
theorem dX13_fewestFrom_125 : decode cX13_fewestFrom 125 = .ok (.iinc 7 1, 3) := by decide +kernel
theorem dX13_fewestFrom_128 : decode cX13_fewestFrom 128 = .ok (.goto (-27), 3) := by decide +kernel
theorem dX13_fewestFrom_131 : decode cX13_fewestFrom 131 = .ok (.iload 6, 2) := by decide +kernel
theorem dX13_fewestFrom_133 : decode cX13_fewestFrom 133 = .ok (.istore 4, 2) := by decide +kernel
theorem dX13_fewestFrom_135 : decode cX13_fewestFrom 135 = .ok (.iinc 5 1, 3) := by decide +kernel
theorem dX13_fewestFrom_138 : decode cX13_fewestFrom 138 = .ok (.goto (-96), 3) := by decide +kernel
theorem dX13_fewestFrom_141 : decode cX13_fewestFrom 141 = .ok (.bipush (-2), 2) := by decide +kernel
theorem dX13_fewestFrom_143 : decode cX13_fewestFrom 143 = .ok (.ireturn, 1) := by decide +kernel
theorem dX13_goesOnFrom_0 : decode cX13_goesOnFrom 0 = .ok (.aload_n 0, 1) := by decide +kernel
theorem dX13_goesOnFrom_1 : decode cX13_goesOnFrom 1 = .ok (.lload_n 1, 1) := by decide +kernel
theorem dX13_goesOnFrom_2 : decode cX13_goesOnFrom 2 = .ok (.invokevirtual 433, 3) := by decide +kernel
theorem dX13_goesOnFrom_5 : decode cX13_goesOnFrom 5 = .ok (.aload_n 0, 1) := by decide +kernel
theorem dX13_goesOnFrom_6 : decode cX13_goesOnFrom 6 = .ok (.iconst (-1), 1) := by decide +kernel
theorem dX13_goesOnFrom_7 : decode cX13_goesOnFrom 7 = .ok (.invokevirtual 446, 3) := by decide +kernel
theorem dX13_goesOnFrom_10 : decode cX13_goesOnFrom 10 = .ok (.istore_n 3, 1) := by decide +kernel
theorem dX13_goesOnFrom_11 : decode cX13_goesOnFrom 11 = .ok (.iload_n 3, 1) := by decide +kernel
theorem dX13_goesOnFrom_12 : decode cX13_goesOnFrom 12 = .ok (.sipush 2000, 3) := by decide +kernel
theorem dX13_goesOnFrom_15 : decode cX13_goesOnFrom 15 = .ok (.if_icmp .ge 27, 3) := by decide +kernel
theorem dX13_goesOnFrom_18 : decode cX13_goesOnFrom 18 = .ok (.aload_n 0, 1) := by decide +kernel
theorem dX13_goesOnFrom_19 : decode cX13_goesOnFrom 19 = .ok (.aload_n 0, 1) := by decide +kernel
theorem dX13_goesOnFrom_20 : decode cX13_goesOnFrom 20 = .ok (.lload_n 1, 1) := by decide +kernel
theorem dX13_goesOnFrom_21 : decode cX13_goesOnFrom 21 = .ok (.iload_n 3, 1) := by decide +kernel
theorem dX13_goesOnFrom_22 : decode cX13_goesOnFrom 22 = .ok (.invokevirtual 463, 3) := by decide +kernel
theorem dX13_goesOnFrom_25 : decode cX13_goesOnFrom 25 = .ok (.invokevirtual 456, 3) := by decide +kernel
theorem dX13_goesOnFrom_28 : decode cX13_goesOnFrom 28 = .ok (.ifCond .ne 5, 3) := by decide +kernel
theorem dX13_goesOnFrom_31 : decode cX13_goesOnFrom 31 = .ok (.iconst 0, 1) := by decide +kernel
theorem dX13_goesOnFrom_32 : decode cX13_goesOnFrom 32 = .ok (.ireturn, 1) := by decide +kernel
theorem dX13_goesOnFrom_33 : decode cX13_goesOnFrom 33 = .ok (.aload_n 0, 1) := by decide +kernel
theorem dX13_goesOnFrom_34 : decode cX13_goesOnFrom 34 = .ok (.iload_n 3, 1) := by decide +kernel
theorem dX13_goesOnFrom_35 : decode cX13_goesOnFrom 35 = .ok (.invokevirtual 446, 3) := by decide +kernel
theorem dX13_goesOnFrom_38 : decode cX13_goesOnFrom 38 = .ok (.istore_n 3, 1) := by decide +kernel
theorem dX13_goesOnFrom_39 : decode cX13_goesOnFrom 39 = .ok (.goto (-28), 3) := by decide +kernel
theorem dX13_goesOnFrom_42 : decode cX13_goesOnFrom 42 = .ok (.iconst 1, 1) := by decide +kernel
theorem dX13_goesOnFrom_43 : decode cX13_goesOnFrom 43 = .ok (.ireturn, 1) := by decide +kernel
theorem dX13_fewest_0 : decode cX13_fewest 0 = .ok (.aload_n 0, 1) := by decide +kernel
theorem dX13_fewest_1 : decode cX13_fewest 1 = .ok (.iconst 0, 1) := by decide +kernel
theorem dX13_fewest_2 : decode cX13_fewest 2 = .ok (.putfield 70, 3) := by decide +kernel
theorem dX13_fewest_5 : decode cX13_fewest 5 = .ok (.aload_n 0, 1) := by decide +kernel
theorem dX13_fewest_6 : decode cX13_fewest 6 = .ok (.getfield 310, 3) := by decide +kernel
theorem dX13_fewest_9 : decode cX13_fewest 9 = .ok (.ifnonnull 9, 3) := by decide +kernel
theorem dX13_fewest_12 : decode cX13_fewest 12 = .ok (.aload_n 0, 1) := by decide +kernel
theorem dX13_fewest_13 : decode cX13_fewest 13 = .ok (.iconst 1, 1) := by decide +kernel
theorem dX13_fewest_14 : decode cX13_fewest 14 = .ok (.invokevirtual 76, 3) := by decide +kernel
theorem dX13_fewest_17 : decode cX13_fewest 17 = .ok (.ireturn, 1) := by decide +kernel
theorem dX13_fewest_18 : decode cX13_fewest 18 = .ok (.iload_n 1, 1) := by decide +kernel
theorem dX13_fewest_19 : decode cX13_fewest 19 = .ok (.iconst 0, 1) := by decide +kernel
theorem dX13_fewest_20 : decode cX13_fewest 20 = .ok (.bipush 8, 2) := by decide +kernel
theorem dX13_fewest_22 : decode cX13_fewest 22 = .ok (.invokestatic 145, 3) := by decide +kernel
theorem dX13_fewest_25 : decode cX13_fewest 25 = .ok (.ifCond .ne 9, 3) := by decide +kernel
theorem dX13_fewest_28 : decode cX13_fewest 28 = .ok (.aload_n 0, 1) := by decide +kernel
theorem dX13_fewest_29 : decode cX13_fewest 29 = .ok (.iconst 2, 1) := by decide +kernel
theorem dX13_fewest_30 : decode cX13_fewest 30 = .ok (.invokevirtual 76, 3) := by decide +kernel
theorem dX13_fewest_33 : decode cX13_fewest 33 = .ok (.ireturn, 1) := by decide +kernel
theorem dX13_fewest_34 : decode cX13_fewest 34 = .ok (.aload_n 0, 1) := by decide +kernel
theorem dX13_fewest_35 : decode cX13_fewest 35 = .ok (.aload_n 0, 1) := by decide +kernel
theorem dX13_fewest_36 : decode cX13_fewest 36 = .ok (.getfield 318, 3) := by decide +kernel
theorem dX13_fewest_39 : decode cX13_fewest 39 = .ok (.iload_n 1, 1) := by decide +kernel
theorem dX13_fewest_40 : decode cX13_fewest 40 = .ok (.invokevirtual 466, 3) := by decide +kernel
theorem dX13_fewest_43 : decode cX13_fewest 43 = .ok (.istore_n 2, 1) := by decide +kernel
theorem dX13_fewest_44 : decode cX13_fewest 44 = .ok (.iload_n 2, 1) := by decide +kernel
theorem dX13_fewest_45 : decode cX13_fewest 45 = .ok (.bipush (-9), 2) := by decide +kernel
theorem dX13_fewest_47 : decode cX13_fewest 47 = .ok (.if_icmp .ne 11, 3) := by decide +kernel
theorem dX13_fewest_50 : decode cX13_fewest 50 = .ok (.aload_n 0, 1) := by decide +kernel
theorem dX13_fewest_51 : decode cX13_fewest 51 = .ok (.iconst 3, 1) := by decide +kernel
theorem dX13_fewest_52 : decode cX13_fewest 52 = .ok (.invokevirtual 76, 3) := by decide +kernel
theorem dX13_fewest_55 : decode cX13_fewest 55 = .ok (.goto 8, 3) := by decide +kernel
theorem dX13_fewest_58 : decode cX13_fewest 58 = .ok (.aload_n 0, 1) := by decide +kernel
