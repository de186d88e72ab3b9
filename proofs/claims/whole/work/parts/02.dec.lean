theorem dX0_init_0 : decode cX0_init 0 = .ok (.aload_n 0, 1) := by decide +kernel
theorem dX0_init_1 : decode cX0_init 1 = .ok (.invokespecial 3, 3) := by decide +kernel
theorem dX0_init_4 : decode cX0_init 4 = .ok (.aload_n 0, 1) := by decide +kernel
theorem dX0_init_5 : decode cX0_init 5 = .ok (.bipush (-2), 2) := by decide +kernel
theorem dX0_init_7 : decode cX0_init 7 = .ok (.putfield 9, 3) := by decide +kernel
theorem dX0_init_10 : decode cX0_init 10 = .ok (.aload_n 0, 1) := by decide +kernel
theorem dX0_init_11 : decode cX0_init 11 = .ok (.bipush 16, 2) := by decide +kernel
theorem dX0_init_13 : decode cX0_init 13 = .ok (.newarray .int, 2) := by decide +kernel
theorem dX0_init_15 : decode cX0_init 15 = .ok (.putfield 15, 3) := by decide +kernel
theorem dX0_init_18 : decode cX0_init 18 = .ok (.aload_n 0, 1) := by decide +kernel
theorem dX0_init_19 : decode cX0_init 19 = .ok (.bipush 16, 2) := by decide +kernel
theorem dX0_init_21 : decode cX0_init 21 = .ok (.newarray .int, 2) := by decide +kernel
theorem dX0_init_23 : decode cX0_init 23 = .ok (.putfield 19, 3) := by decide +kernel
theorem dX0_init_26 : decode cX0_init 26 = .ok (.aload_n 0, 1) := by decide +kernel
theorem dX0_init_27 : decode cX0_init 27 = .ok (.bipush 9, 2) := by decide +kernel
theorem dX0_init_29 : decode cX0_init 29 = .ok (.newarray .int, 2) := by decide +kernel
theorem dX0_init_31 : decode cX0_init 31 = .ok (.putfield 22, 3) := by decide +kernel
theorem dX0_init_34 : decode cX0_init 34 = .ok (.aload_n 0, 1) := by decide +kernel
theorem dX0_init_35 : decode cX0_init 35 = .ok (.bipush 10, 2) := by decide +kernel
theorem dX0_init_37 : decode cX0_init 37 = .ok (.newarray .int, 2) := by decide +kernel
theorem dX0_init_39 : decode cX0_init 39 = .ok (.putfield 25, 3) := by decide +kernel
theorem dX0_init_42 : decode cX0_init 42 = .ok (.aload_n 0, 1) := by decide +kernel
theorem dX0_init_43 : decode cX0_init 43 = .ok (.bipush 10, 2) := by decide +kernel
theorem dX0_init_45 : decode cX0_init 45 = .ok (.newarray .int, 2) := by decide +kernel
theorem dX0_init_47 : decode cX0_init 47 = .ok (.putfield 28, 3) := by decide +kernel
theorem dX0_init_50 : decode cX0_init 50 = .ok (.aload_n 0, 1) := by decide +kernel
theorem dX0_init_51 : decode cX0_init 51 = .ok (.bipush 10, 2) := by decide +kernel
theorem dX0_init_53 : decode cX0_init 53 = .ok (.newarray .int, 2) := by decide +kernel
theorem dX0_init_55 : decode cX0_init 55 = .ok (.putfield 31, 3) := by decide +kernel
theorem dX0_init_58 : decode cX0_init 58 = .ok (.aload_n 0, 1) := by decide +kernel
theorem dX0_init_59 : decode cX0_init 59 = .ok (.sipush 256, 3) := by decide +kernel
theorem dX0_init_62 : decode cX0_init 62 = .ok (.newarray .int, 2) := by decide +kernel
theorem dX0_init_64 : decode cX0_init 64 = .ok (.putfield 34, 3) := by decide +kernel
theorem dX0_init_67 : decode cX0_init 67 = .ok (.aload_n 0, 1) := by decide +kernel
theorem dX0_init_68 : decode cX0_init 68 = .ok (.aload_n 1, 1) := by decide +kernel
theorem dX0_init_69 : decode cX0_init 69 = .ok (.putfield 37, 3) := by decide +kernel
theorem dX0_init_72 : decode cX0_init 72 = .ok (.return_, 1) := by decide +kernel
theorem dX0_isNumber_0 : decode cX0_isNumber 0 = .ok (.iload_n 0, 1) := by decide +kernel
theorem dX0_isNumber_1 : decode cX0_isNumber 1 = .ok (.ifCond .lt 10, 3) := by decide +kernel
theorem dX0_isNumber_4 : decode cX0_isNumber 4 = .ok (.iload_n 0, 1) := by decide +kernel
theorem dX0_isNumber_5 : decode cX0_isNumber 5 = .ok (.sipush 2000, 3) := by decide +kernel
theorem dX0_isNumber_8 : decode cX0_isNumber 8 = .ok (.if_icmp .lt 5, 3) := by decide +kernel
theorem dX0_isNumber_11 : decode cX0_isNumber 11 = .ok (.iconst 0, 1) := by decide +kernel
theorem dX0_isNumber_12 : decode cX0_isNumber 12 = .ok (.ireturn, 1) := by decide +kernel
theorem dX0_isNumber_13 : decode cX0_isNumber 13 = .ok (.iload_n 0, 1) := by decide +kernel
theorem dX0_isNumber_14 : decode cX0_isNumber 14 = .ok (.bipush 100, 2) := by decide +kernel
theorem dX0_isNumber_16 : decode cX0_isNumber 16 = .ok (.if_icmp .ge 14, 3) := by decide +kernel
theorem dX0_isNumber_19 : decode cX0_isNumber 19 = .ok (.iload_n 0, 1) := by decide +kernel
theorem dX0_isNumber_20 : decode cX0_isNumber 20 = .ok (.iload_n 1, 1) := by decide +kernel
theorem dX0_isNumber_21 : decode cX0_isNumber 21 = .ok (.if_icmp .ge 7, 3) := by decide +kernel
theorem dX0_isNumber_24 : decode cX0_isNumber 24 = .ok (.iconst 1, 1) := by decide +kernel
theorem dX0_isNumber_25 : decode cX0_isNumber 25 = .ok (.goto 4, 3) := by decide +kernel
theorem dX0_isNumber_28 : decode cX0_isNumber 28 = .ok (.iconst 0, 1) := by decide +kernel
theorem dX0_isNumber_29 : decode cX0_isNumber 29 = .ok (.ireturn, 1) := by decide +kernel
theorem dX0_isNumber_30 : decode cX0_isNumber 30 = .ok (.iload_n 0, 1) := by decide +kernel
theorem dX0_isNumber_31 : decode cX0_isNumber 31 = .ok (.invokestatic 41, 3) := by decide +kernel
theorem dX0_isNumber_34 : decode cX0_isNumber 34 = .ok (.istore_n 2, 1) := by decide +kernel
theorem dX0_isNumber_35 : decode cX0_isNumber 35 = .ok (.iload_n 0, 1) := by decide +kernel
theorem dX0_isNumber_36 : decode cX0_isNumber 36 = .ok (.invokestatic 45, 3) := by decide +kernel
theorem dX0_isNumber_39 : decode cX0_isNumber 39 = .ok (.istore_n 3, 1) := by decide +kernel
theorem dX0_isNumber_40 : decode cX0_isNumber 40 = .ok (.iload_n 0, 1) := by decide +kernel
theorem dX0_isNumber_41 : decode cX0_isNumber 41 = .ok (.sipush 1000, 3) := by decide +kernel
theorem dX0_isNumber_44 : decode cX0_isNumber 44 = .ok (.if_icmp .ge 19, 3) := by decide +kernel
theorem dX0_isNumber_47 : decode cX0_isNumber 47 = .ok (.iload_n 2, 1) := by decide +kernel
theorem dX0_isNumber_48 : decode cX0_isNumber 48 = .ok (.iload_n 3, 1) := by decide +kernel
theorem dX0_isNumber_49 : decode cX0_isNumber 49 = .ok (.if_icmp .ge 12, 3) := by decide +kernel
theorem dX0_isNumber_52 : decode cX0_isNumber 52 = .ok (.iload_n 3, 1) := by decide +kernel
theorem dX0_isNumber_53 : decode cX0_isNumber 53 = .ok (.iload_n 1, 1) := by decide +kernel
theorem dX0_isNumber_54 : decode cX0_isNumber 54 = .ok (.if_icmp .ge 7, 3) := by decide +kernel
theorem dX0_isNumber_57 : decode cX0_isNumber 57 = .ok (.iconst 1, 1) := by decide +kernel
theorem dX0_isNumber_58 : decode cX0_isNumber 58 = .ok (.goto 4, 3) := by decide +kernel
theorem dX0_isNumber_61 : decode cX0_isNumber 61 = .ok (.iconst 0, 1) := by decide +kernel
theorem dX0_isNumber_62 : decode cX0_isNumber 62 = .ok (.ireturn, 1) := by decide +kernel
theorem dX0_isNumber_63 : decode cX0_isNumber 63 = .ok (.iload_n 0, 1) := by decide +kernel
theorem dX0_isNumber_64 : decode cX0_isNumber 64 = .ok (.invokestatic 48, 3) := by decide +kernel
theorem dX0_isNumber_67 : decode cX0_isNumber 67 = .ok (.istore 4, 2) := by decide +kernel
theorem dX0_isNumber_69 : decode cX0_isNumber 69 = .ok (.iload_n 2, 1) := by decide +kernel
theorem dX0_isNumber_70 : decode cX0_isNumber 70 = .ok (.iload_n 1, 1) := by decide +kernel
theorem dX0_isNumber_71 : decode cX0_isNumber 71 = .ok (.if_icmp .ge 35, 3) := by decide +kernel
theorem dX0_isNumber_74 : decode cX0_isNumber 74 = .ok (.iload_n 3, 1) := by decide +kernel
theorem dX0_isNumber_75 : decode cX0_isNumber 75 = .ok (.iload_n 1, 1) := by decide +kernel
theorem dX0_isNumber_76 : decode cX0_isNumber 76 = .ok (.if_icmp .ge 30, 3) := by decide +kernel
theorem dX0_isNumber_79 : decode cX0_isNumber 79 = .ok (.iload 4, 2) := by decide +kernel
theorem dX0_isNumber_81 : decode cX0_isNumber 81 = .ok (.iload_n 1, 1) := by decide +kernel
theorem dX0_isNumber_82 : decode cX0_isNumber 82 = .ok (.if_icmp .ge 24, 3) := by decide +kernel
theorem dX0_isNumber_85 : decode cX0_isNumber 85 = .ok (.iload_n 2, 1) := by decide +kernel
theorem dX0_isNumber_86 : decode cX0_isNumber 86 = .ok (.iload_n 3, 1) := by decide +kernel
theorem dX0_isNumber_87 : decode cX0_isNumber 87 = .ok (.if_icmp .eq 19, 3) := by decide +kernel
theorem dX0_isNumber_90 : decode cX0_isNumber 90 = .ok (.iload_n 2, 1) := by decide +kernel
theorem dX0_isNumber_91 : decode cX0_isNumber 91 = .ok (.iload 4, 2) := by decide +kernel
theorem dX0_isNumber_93 : decode cX0_isNumber 93 = .ok (.if_icmp .eq 13, 3) := by decide +kernel
theorem dX0_isNumber_96 : decode cX0_isNumber 96 = .ok (.iload_n 3, 1) := by decide +kernel
theorem dX0_isNumber_97 : decode cX0_isNumber 97 = .ok (.iload 4, 2) := by decide +kernel
theorem dX0_isNumber_99 : decode cX0_isNumber 99 = .ok (.if_icmp .eq 7, 3) := by decide +kernel
theorem dX0_isNumber_102 : decode cX0_isNumber 102 = .ok (.iconst 1, 1) := by decide +kernel
theorem dX0_isNumber_103 : decode cX0_isNumber 103 = .ok (.goto 4, 3) := by decide +kernel
theorem dX0_isNumber_106 : decode cX0_isNumber 106 = .ok (.iconst 0, 1) := by decide +kernel
theorem dX0_isNumber_107 : decode cX0_isNumber 107 = .ok (.ireturn, 1) := by decide +kernel
theorem dX0_firstOf_0 : decode cX0_firstOf 0 = .ok (.iload_n 0, 1) := by decide +kernel
theorem dX0_firstOf_1 : decode cX0_firstOf 1 = .ok (.bipush 100, 2) := by decide +kernel
theorem dX0_firstOf_3 : decode cX0_firstOf 3 = .ok (.if_icmp .ge 7, 3) := by decide +kernel
theorem dX0_firstOf_6 : decode cX0_firstOf 6 = .ok (.iload_n 0, 1) := by decide +kernel
theorem dX0_firstOf_7 : decode cX0_firstOf 7 = .ok (.goto 27, 3) := by decide +kernel
theorem dX0_firstOf_10 : decode cX0_firstOf 10 = .ok (.iload_n 0, 1) := by decide +kernel
theorem dX0_firstOf_11 : decode cX0_firstOf 11 = .ok (.sipush 1000, 3) := by decide +kernel
theorem dX0_firstOf_14 : decode cX0_firstOf 14 = .ok (.if_icmp .ge 13, 3) := by decide +kernel
theorem dX0_firstOf_17 : decode cX0_firstOf 17 = .ok (.iload_n 0, 1) := by decide +kernel
theorem dX0_firstOf_18 : decode cX0_firstOf 18 = .ok (.bipush 100, 2) := by decide +kernel
theorem dX0_firstOf_20 : decode cX0_firstOf 20 = .ok (.isub, 1) := by decide +kernel
theorem dX0_firstOf_21 : decode cX0_firstOf 21 = .ok (.bipush 10, 2) := by decide +kernel
theorem dX0_firstOf_23 : decode cX0_firstOf 23 = .ok (.idiv, 1) := by decide +kernel
theorem dX0_firstOf_24 : decode cX0_firstOf 24 = .ok (.goto 10, 3) := by decide +kernel
theorem dX0_firstOf_27 : decode cX0_firstOf 27 = .ok (.iload_n 0, 1) := by decide +kernel
theorem dX0_firstOf_28 : decode cX0_firstOf 28 = .ok (.bipush 100, 2) := by decide +kernel
theorem dX0_firstOf_30 : decode cX0_firstOf 30 = .ok (.idiv, 1) := by decide +kernel
theorem dX0_firstOf_31 : decode cX0_firstOf 31 = .ok (.bipush 10, 2) := by decide +kernel
theorem dX0_firstOf_33 : decode cX0_firstOf 33 = .ok (.irem, 1) := by decide +kernel
theorem dX0_firstOf_34 : decode cX0_firstOf 34 = .ok (.ireturn, 1) := by decide +kernel
theorem dX0_secondOf_0 : decode cX0_secondOf 0 = .ok (.iload_n 0, 1) := by decide +kernel
theorem dX0_secondOf_1 : decode cX0_secondOf 1 = .ok (.sipush 1000, 3) := by decide +kernel
theorem dX0_secondOf_4 : decode cX0_secondOf 4 = .ok (.if_icmp .ge 10, 3) := by decide +kernel
theorem dX0_secondOf_7 : decode cX0_secondOf 7 = .ok (.iload_n 0, 1) := by decide +kernel
theorem dX0_secondOf_8 : decode cX0_secondOf 8 = .ok (.bipush 10, 2) := by decide +kernel
theorem dX0_secondOf_10 : decode cX0_secondOf 10 = .ok (.irem, 1) := by decide +kernel
theorem dX0_secondOf_11 : decode cX0_secondOf 11 = .ok (.goto 10, 3) := by decide +kernel
theorem dX0_secondOf_14 : decode cX0_secondOf 14 = .ok (.iload_n 0, 1) := by decide +kernel
theorem dX0_secondOf_15 : decode cX0_secondOf 15 = .ok (.bipush 10, 2) := by decide +kernel
theorem dX0_secondOf_17 : decode cX0_secondOf 17 = .ok (.idiv, 1) := by decide +kernel
theorem dX0_secondOf_18 : decode cX0_secondOf 18 = .ok (.bipush 10, 2) := by decide +kernel
theorem dX0_secondOf_20 : decode cX0_secondOf 20 = .ok (.irem, 1) := by decide +kernel
theorem dX0_secondOf_21 : decode cX0_secondOf 21 = .ok (.ireturn, 1) := by decide +kernel
theorem dX0_thirdOf_0 : decode cX0_thirdOf 0 = .ok (.iload_n 0, 1) := by decide +kernel
theorem dX0_thirdOf_1 : decode cX0_thirdOf 1 = .ok (.bipush 10, 2) := by decide +kernel
theorem dX0_thirdOf_3 : decode cX0_thirdOf 3 = .ok (.irem, 1) := by decide +kernel
theorem dX0_thirdOf_4 : decode cX0_thirdOf 4 = .ok (.ireturn, 1) := by decide +kernel
theorem dX0_touchedBy_0 : decode cX0_touchedBy 0 = .ok (.iconst 1, 1) := by decide +kernel
theorem dX0_touchedBy_1 : decode cX0_touchedBy 1 = .ok (.iload_n 0, 1) := by decide +kernel
theorem dX0_touchedBy_2 : decode cX0_touchedBy 2 = .ok (.invokestatic 41, 3) := by decide +kernel
theorem dX0_touchedBy_5 : decode cX0_touchedBy 5 = .ok (.ishl, 1) := by decide +kernel
theorem dX0_touchedBy_6 : decode cX0_touchedBy 6 = .ok (.istore_n 1, 1) := by decide +kernel
theorem dX0_touchedBy_7 : decode cX0_touchedBy 7 = .ok (.iload_n 0, 1) := by decide +kernel
theorem dX0_touchedBy_8 : decode cX0_touchedBy 8 = .ok (.bipush 100, 2) := by decide +kernel
theorem dX0_touchedBy_10 : decode cX0_touchedBy 10 = .ok (.if_icmp .lt 12, 3) := by decide +kernel
theorem dX0_touchedBy_13 : decode cX0_touchedBy 13 = .ok (.iload_n 1, 1) := by decide +kernel
theorem dX0_touchedBy_14 : decode cX0_touchedBy 14 = .ok (.iconst 1, 1) := by decide +kernel
theorem dX0_touchedBy_15 : decode cX0_touchedBy 15 = .ok (.iload_n 0, 1) := by decide +kernel
theorem dX0_touchedBy_16 : decode cX0_touchedBy 16 = .ok (.invokestatic 45, 3) := by decide +kernel
theorem dX0_touchedBy_19 : decode cX0_touchedBy 19 = .ok (.ishl, 1) := by decide +kernel
theorem dX0_touchedBy_20 : decode cX0_touchedBy 20 = .ok (.ior, 1) := by decide +kernel
theorem dX0_touchedBy_21 : decode cX0_touchedBy 21 = .ok (.istore_n 1, 1) := by decide +kernel
theorem dX0_touchedBy_22 : decode cX0_touchedBy 22 = .ok (.iload_n 0, 1) := by decide +kernel
theorem dX0_touchedBy_23 : decode cX0_touchedBy 23 = .ok (.sipush 1000, 3) := by decide +kernel
theorem dX0_touchedBy_26 : decode cX0_touchedBy 26 = .ok (.if_icmp .lt 12, 3) := by decide +kernel
theorem dX0_touchedBy_29 : decode cX0_touchedBy 29 = .ok (.iload_n 1, 1) := by decide +kernel
theorem dX0_touchedBy_30 : decode cX0_touchedBy 30 = .ok (.iconst 1, 1) := by decide +kernel
theorem dX0_touchedBy_31 : decode cX0_touchedBy 31 = .ok (.iload_n 0, 1) := by decide +kernel
theorem dX0_touchedBy_32 : decode cX0_touchedBy 32 = .ok (.invokestatic 48, 3) := by decide +kernel
theorem dX0_touchedBy_35 : decode cX0_touchedBy 35 = .ok (.ishl, 1) := by decide +kernel
theorem dX0_touchedBy_36 : decode cX0_touchedBy 36 = .ok (.ior, 1) := by decide +kernel
theorem dX0_touchedBy_37 : decode cX0_touchedBy 37 = .ok (.istore_n 1, 1) := by decide +kernel
theorem dX0_touchedBy_38 : decode cX0_touchedBy 38 = .ok (.iload_n 1, 1) := by decide +kernel
theorem dX0_touchedBy_39 : decode cX0_touchedBy 39 = .ok (.ireturn, 1) := by decide +kernel
theorem dX0_lay_0 : decode cX0_lay 0 = .ok (.aload_n 0, 1) := by decide +kernel
theorem dX0_lay_1 : decode cX0_lay 1 = .ok (.aload_n 1, 1) := by decide +kernel
theorem dX0_lay_2 : decode cX0_lay 2 = .ok (.getfield 51, 3) := by decide +kernel
theorem dX0_lay_5 : decode cX0_lay 5 = .ok (.aload_n 1, 1) := by decide +kernel
theorem dX0_lay_6 : decode cX0_lay 6 = .ok (.getfield 57, 3) := by decide +kernel
theorem dX0_lay_9 : decode cX0_lay 9 = .ok (.aload_n 1, 1) := by decide +kernel
theorem dX0_lay_10 : decode cX0_lay 10 = .ok (.getfield 60, 3) := by decide +kernel
theorem dX0_lay_13 : decode cX0_lay 13 = .ok (.invokevirtual 61, 3) := by decide +kernel
theorem dX0_lay_16 : decode cX0_lay 16 = .ok (.return_, 1) := by decide +kernel
theorem dX0_layOut_0 : decode cX0_layOut 0 = .ok (.aload_n 0, 1) := by decide +kernel
theorem dX0_layOut_1 : decode cX0_layOut 1 = .ok (.lload_n 1, 1) := by decide +kernel
theorem dX0_layOut_2 : decode cX0_layOut 2 = .ok (.putfield 65, 3) := by decide +kernel
theorem dX0_layOut_5 : decode cX0_layOut 5 = .ok (.aload_n 0, 1) := by decide +kernel
theorem dX0_layOut_6 : decode cX0_layOut 6 = .ok (.iload_n 3, 1) := by decide +kernel
theorem dX0_layOut_7 : decode cX0_layOut 7 = .ok (.putfield 66, 3) := by decide +kernel
theorem dX0_layOut_10 : decode cX0_layOut 10 = .ok (.aload_n 0, 1) := by decide +kernel
theorem dX0_layOut_11 : decode cX0_layOut 11 = .ok (.iload 4, 2) := by decide +kernel
theorem dX0_layOut_13 : decode cX0_layOut 13 = .ok (.putfield 9, 3) := by decide +kernel
theorem dX0_layOut_16 : decode cX0_layOut 16 = .ok (.iconst 0, 1) := by decide +kernel
theorem dX0_layOut_17 : decode cX0_layOut 17 = .ok (.istore 5, 2) := by decide +kernel
theorem dX0_layOut_19 : decode cX0_layOut 19 = .ok (.iload 5, 2) := by decide +kernel
theorem dX0_layOut_21 : decode cX0_layOut 21 = .ok (.aload_n 0, 1) := by decide +kernel
theorem dX0_layOut_22 : decode cX0_layOut 22 = .ok (.getfield 37, 3) := by decide +kernel
theorem dX0_layOut_25 : decode cX0_layOut 25 = .ok (.getfield 67, 3) := by decide +kernel
theorem dX0_layOut_28 : decode cX0_layOut 28 = .ok (.if_icmp .ge 55, 3) := by decide +kernel
theorem dX0_layOut_31 : decode cX0_layOut 31 = .ok (.aload_n 0, 1) := by decide +kernel
theorem dX0_layOut_32 : decode cX0_layOut 32 = .ok (.getfield 15, 3) := by decide +kernel
theorem dX0_layOut_35 : decode cX0_layOut 35 = .ok (.iconst 2, 1) := by decide +kernel
theorem dX0_layOut_36 : decode cX0_layOut 36 = .ok (.iload 5, 2) := by decide +kernel
theorem dX0_layOut_38 : decode cX0_layOut 38 = .ok (.imul, 1) := by decide +kernel
theorem dX0_layOut_39 : decode cX0_layOut 39 = .ok (.iconst (-1), 1) := by decide +kernel
theorem dX0_layOut_40 : decode cX0_layOut 40 = .ok (.iastore, 1) := by decide +kernel
theorem dX0_layOut_41 : decode cX0_layOut 41 = .ok (.aload_n 0, 1) := by decide +kernel
theorem dX0_layOut_42 : decode cX0_layOut 42 = .ok (.getfield 15, 3) := by decide +kernel
theorem dX0_layOut_45 : decode cX0_layOut 45 = .ok (.iconst 2, 1) := by decide +kernel
theorem dX0_layOut_46 : decode cX0_layOut 46 = .ok (.iload 5, 2) := by decide +kernel
theorem dX0_layOut_48 : decode cX0_layOut 48 = .ok (.imul, 1) := by decide +kernel
theorem dX0_layOut_49 : decode cX0_layOut 49 = .ok (.iconst 1, 1) := by decide +kernel
theorem dX0_layOut_50 : decode cX0_layOut 50 = .ok (.iadd, 1) := by decide +kernel
theorem dX0_layOut_51 : decode cX0_layOut 51 = .ok (.iconst (-1), 1) := by decide +kernel
theorem dX0_layOut_52 : decode cX0_layOut 52 = .ok (.iastore, 1) := by decide +kernel
theorem dX0_layOut_53 : decode cX0_layOut 53 = .ok (.aload_n 0, 1) := by decide +kernel
theorem dX0_layOut_54 : decode cX0_layOut 54 = .ok (.getfield 25, 3) := by decide +kernel
theorem dX0_layOut_57 : decode cX0_layOut 57 = .ok (.iload 5, 2) := by decide +kernel
theorem dX0_layOut_59 : decode cX0_layOut 59 = .ok (.iconst 0, 1) := by decide +kernel
theorem dX0_layOut_60 : decode cX0_layOut 60 = .ok (.iastore, 1) := by decide +kernel
theorem dX0_layOut_61 : decode cX0_layOut 61 = .ok (.aload_n 0, 1) := by decide +kernel
theorem dX0_layOut_62 : decode cX0_layOut 62 = .ok (.getfield 28, 3) := by decide +kernel
theorem dX0_layOut_65 : decode cX0_layOut 65 = .ok (.iload 5, 2) := by decide +kernel
theorem dX0_layOut_67 : decode cX0_layOut 67 = .ok (.iconst 0, 1) := by decide +kernel
theorem dX0_layOut_68 : decode cX0_layOut 68 = .ok (.iastore, 1) := by decide +kernel
theorem dX0_layOut_69 : decode cX0_layOut 69 = .ok (.aload_n 0, 1) := by decide +kernel
theorem dX0_layOut_70 : decode cX0_layOut 70 = .ok (.getfield 31, 3) := by decide +kernel
theorem dX0_layOut_73 : decode cX0_layOut 73 = .ok (.iload 5, 2) := by decide +kernel
theorem dX0_layOut_75 : decode cX0_layOut 75 = .ok (.iconst 0, 1) := by decide +kernel
theorem dX0_layOut_76 : decode cX0_layOut 76 = .ok (.iastore, 1) := by decide +kernel
theorem dX0_layOut_77 : decode cX0_layOut 77 = .ok (.iinc 5 1, 3) := by decide +kernel
theorem dX0_layOut_80 : decode cX0_layOut 80 = .ok (.goto (-61), 3) := by decide +kernel
theorem dX0_layOut_83 : decode cX0_layOut 83 = .ok (.iconst 0, 1) := by decide +kernel
theorem dX0_layOut_84 : decode cX0_layOut 84 = .ok (.istore 5, 2) := by decide +kernel
theorem dX0_layOut_86 : decode cX0_layOut 86 = .ok (.iconst 0, 1) := by decide +kernel
theorem dX0_layOut_87 : decode cX0_layOut 87 = .ok (.istore 6, 2) := by decide +kernel
theorem dX0_layOut_89 : decode cX0_layOut 89 = .ok (.iload 6, 2) := by decide +kernel
theorem dX0_layOut_91 : decode cX0_layOut 91 = .ok (.aload_n 0, 1) := by decide +kernel
theorem dX0_layOut_92 : decode cX0_layOut 92 = .ok (.getfield 37, 3) := by decide +kernel
theorem dX0_layOut_95 : decode cX0_layOut 95 = .ok (.getfield 72, 3) := by decide +kernel
theorem dX0_layOut_98 : decode cX0_layOut 98 = .ok (.if_icmp .ge 28, 3) := by decide +kernel
theorem dX0_layOut_101 : decode cX0_layOut 101 = .ok (.aload_n 0, 1) := by decide +kernel
theorem dX0_layOut_102 : decode cX0_layOut 102 = .ok (.getfield 22, 3) := by decide +kernel
theorem dX0_layOut_105 : decode cX0_layOut 105 = .ok (.iload 6, 2) := by decide +kernel
theorem dX0_layOut_107 : decode cX0_layOut 107 = .ok (.iload 5, 2) := by decide +kernel
theorem dX0_layOut_109 : decode cX0_layOut 109 = .ok (.iastore, 1) := by decide +kernel
theorem dX0_layOut_110 : decode cX0_layOut 110 = .ok (.aload_n 0, 1) := by decide +kernel
theorem dX0_layOut_111 : decode cX0_layOut 111 = .ok (.iload 6, 2) := by decide +kernel
theorem dX0_layOut_113 : decode cX0_layOut 113 = .ok (.iload 5, 2) := by decide +kernel
theorem dX0_layOut_115 : decode cX0_layOut 115 = .ok (.invokevirtual 75, 3) := by decide +kernel
theorem dX0_layOut_118 : decode cX0_layOut 118 = .ok (.istore 5, 2) := by decide +kernel
theorem dX0_layOut_120 : decode cX0_layOut 120 = .ok (.iinc 6 1, 3) := by decide +kernel
theorem dX0_layOut_123 : decode cX0_layOut 123 = .ok (.goto (-34), 3) := by decide +kernel
theorem dX0_layOut_126 : decode cX0_layOut 126 = .ok (.aload_n 0, 1) := by decide +kernel
theorem dX0_layOut_127 : decode cX0_layOut 127 = .ok (.getfield 22, 3) := by decide +kernel
theorem dX0_layOut_130 : decode cX0_layOut 130 = .ok (.aload_n 0, 1) := by decide +kernel
theorem dX0_layOut_131 : decode cX0_layOut 131 = .ok (.getfield 37, 3) := by decide +kernel
theorem dX0_layOut_134 : decode cX0_layOut 134 = .ok (.getfield 72, 3) := by decide +kernel
theorem dX0_layOut_137 : decode cX0_layOut 137 = .ok (.iload 5, 2) := by decide +kernel
theorem dX0_layOut_139 : decode cX0_layOut 139 = .ok (.iastore, 1) := by decide +kernel
theorem dX0_layOut_140 : decode cX0_layOut 140 = .ok (.aload_n 0, 1) := by decide +kernel
theorem dX0_layOut_141 : decode cX0_layOut 141 = .ok (.iload 5, 2) := by decide +kernel
theorem dX0_layOut_143 : decode cX0_layOut 143 = .ok (.iconst 2, 1) := by decide +kernel
theorem dX0_layOut_144 : decode cX0_layOut 144 = .ok (.idiv, 1) := by decide +kernel
theorem dX0_layOut_145 : decode cX0_layOut 145 = .ok (.putfield 79, 3) := by decide +kernel
theorem dX0_layOut_148 : decode cX0_layOut 148 = .ok (.aload_n 0, 1) := by decide +kernel
theorem dX0_layOut_149 : decode cX0_layOut 149 = .ok (.iconst 0, 1) := by decide +kernel
theorem dX0_layOut_150 : decode cX0_layOut 150 = .ok (.putfield 82, 3) := by decide +kernel
theorem dX0_layOut_153 : decode cX0_layOut 153 = .ok (.iconst 0, 1) := by decide +kernel
theorem dX0_layOut_154 : decode cX0_layOut 154 = .ok (.istore 6, 2) := by decide +kernel
theorem dX0_layOut_156 : decode cX0_layOut 156 = .ok (.iload 6, 2) := by decide +kernel
theorem dX0_layOut_158 : decode cX0_layOut 158 = .ok (.aload_n 0, 1) := by decide +kernel
theorem dX0_layOut_159 : decode cX0_layOut 159 = .ok (.getfield 37, 3) := by decide +kernel
theorem dX0_layOut_162 : decode cX0_layOut 162 = .ok (.getfield 67, 3) := by decide +kernel
theorem dX0_layOut_165 : decode cX0_layOut 165 = .ok (.if_icmp .ge 15, 3) := by decide +kernel
theorem dX0_layOut_168 : decode cX0_layOut 168 = .ok (.aload_n 0, 1) := by decide +kernel
theorem dX0_layOut_169 : decode cX0_layOut 169 = .ok (.iload 6, 2) := by decide +kernel
theorem dX0_layOut_171 : decode cX0_layOut 171 = .ok (.invokevirtual 83, 3) := by decide +kernel
theorem dX0_layOut_174 : decode cX0_layOut 174 = .ok (.iinc 6 1, 3) := by decide +kernel
theorem dX0_layOut_177 : decode cX0_layOut 177 = .ok (.goto (-21), 3) := by decide +kernel
theorem dX0_layOut_180 : decode cX0_layOut 180 = .ok (.iconst 0, 1) := by decide +kernel
theorem dX0_layOut_181 : decode cX0_layOut 181 = .ok (.istore 6, 2) := by decide +kernel
theorem dX0_layOut_183 : decode cX0_layOut 183 = .ok (.iload 6, 2) := by decide +kernel
theorem dX0_layOut_185 : decode cX0_layOut 185 = .ok (.aload_n 0, 1) := by decide +kernel
theorem dX0_layOut_186 : decode cX0_layOut 186 = .ok (.getfield 37, 3) := by decide +kernel
theorem dX0_layOut_189 : decode cX0_layOut 189 = .ok (.getfield 67, 3) := by decide +kernel
theorem dX0_layOut_192 : decode cX0_layOut 192 = .ok (.if_icmp .ge 15, 3) := by decide +kernel
theorem dX0_layOut_195 : decode cX0_layOut 195 = .ok (.aload_n 0, 1) := by decide +kernel
theorem dX0_layOut_196 : decode cX0_layOut 196 = .ok (.iload 6, 2) := by decide +kernel
theorem dX0_layOut_198 : decode cX0_layOut 198 = .ok (.invokevirtual 87, 3) := by decide +kernel
theorem dX0_layOut_201 : decode cX0_layOut 201 = .ok (.iinc 6 1, 3) := by decide +kernel
theorem dX0_layOut_204 : decode cX0_layOut 204 = .ok (.goto (-21), 3) := by decide +kernel
theorem dX0_layOut_207 : decode cX0_layOut 207 = .ok (.iconst 0, 1) := by decide +kernel
theorem dX0_layOut_208 : decode cX0_layOut 208 = .ok (.istore 6, 2) := by decide +kernel
theorem dX0_layOut_210 : decode cX0_layOut 210 = .ok (.iload 6, 2) := by decide +kernel
theorem dX0_layOut_212 : decode cX0_layOut 212 = .ok (.aload_n 0, 1) := by decide +kernel
theorem dX0_layOut_213 : decode cX0_layOut 213 = .ok (.getfield 37, 3) := by decide +kernel
theorem dX0_layOut_216 : decode cX0_layOut 216 = .ok (.getfield 67, 3) := by decide +kernel
theorem dX0_layOut_219 : decode cX0_layOut 219 = .ok (.if_icmp .ge 15, 3) := by decide +kernel
theorem dX0_layOut_222 : decode cX0_layOut 222 = .ok (.aload_n 0, 1) := by decide +kernel
theorem dX0_layOut_223 : decode cX0_layOut 223 = .ok (.iload 6, 2) := by decide +kernel
theorem dX0_layOut_225 : decode cX0_layOut 225 = .ok (.invokevirtual 90, 3) := by decide +kernel
theorem dX0_layOut_228 : decode cX0_layOut 228 = .ok (.iinc 6 1, 3) := by decide +kernel
theorem dX0_layOut_231 : decode cX0_layOut 231 = .ok (.goto (-21), 3) := by decide +kernel
theorem dX0_layOut_234 : decode cX0_layOut 234 = .ok (.return_, 1) := by decide +kernel
theorem dX0_isOpen_0 : decode cX0_isOpen 0 = .ok (.aload_n 0, 1) := by decide +kernel
theorem dX0_isOpen_1 : decode cX0_isOpen 1 = .ok (.getfield 9, 3) := by decide +kernel
theorem dX0_isOpen_4 : decode cX0_isOpen 4 = .ok (.ifCond .lt 32, 3) := by decide +kernel
theorem dX0_isOpen_7 : decode cX0_isOpen 7 = .ok (.aload_n 0, 1) := by decide +kernel
theorem dX0_isOpen_8 : decode cX0_isOpen 8 = .ok (.getfield 9, 3) := by decide +kernel
theorem dX0_isOpen_11 : decode cX0_isOpen 11 = .ok (.bipush 8, 2) := by decide +kernel
theorem dX0_isOpen_13 : decode cX0_isOpen 13 = .ok (.if_icmp .ge 23, 3) := by decide +kernel
theorem dX0_isOpen_16 : decode cX0_isOpen 16 = .ok (.aload_n 0, 1) := by decide +kernel
theorem dX0_isOpen_17 : decode cX0_isOpen 17 = .ok (.getfield 37, 3) := by decide +kernel
theorem dX0_isOpen_20 : decode cX0_isOpen 20 = .ok (.getfield 93, 3) := by decide +kernel
theorem dX0_isOpen_23 : decode cX0_isOpen 23 = .ok (.aload_n 0, 1) := by decide +kernel
theorem dX0_isOpen_24 : decode cX0_isOpen 24 = .ok (.getfield 9, 3) := by decide +kernel
theorem dX0_isOpen_27 : decode cX0_isOpen 27 = .ok (.iaload, 1) := by decide +kernel
theorem dX0_isOpen_28 : decode cX0_isOpen 28 = .ok (.iload_n 1, 1) := by decide +kernel
theorem dX0_isOpen_29 : decode cX0_isOpen 29 = .ok (.if_icmp .ne 7, 3) := by decide +kernel
theorem dX0_isOpen_32 : decode cX0_isOpen 32 = .ok (.iconst 1, 1) := by decide +kernel
theorem dX0_isOpen_33 : decode cX0_isOpen 33 = .ok (.goto 4, 3) := by decide +kernel
theorem dX0_isOpen_36 : decode cX0_isOpen 36 = .ok (.iconst 0, 1) := by decide +kernel
theorem dX0_isOpen_37 : decode cX0_isOpen 37 = .ok (.ireturn, 1) := by decide +kernel
theorem dX0_walkRound_0 : decode cX0_walkRound 0 = .ok (.aload_n 0, 1) := by decide +kernel
theorem dX0_walkRound_1 : decode cX0_walkRound 1 = .ok (.getfield 37, 3) := by decide +kernel
theorem dX0_walkRound_4 : decode cX0_walkRound 4 = .ok (.getfield 96, 3) := by decide +kernel
theorem dX0_walkRound_7 : decode cX0_walkRound 7 = .ok (.iload_n 1, 1) := by decide +kernel
theorem dX0_walkRound_8 : decode cX0_walkRound 8 = .ok (.iaload, 1) := by decide +kernel
theorem dX0_walkRound_9 : decode cX0_walkRound 9 = .ok (.istore_n 3, 1) := by decide +kernel
theorem dX0_walkRound_10 : decode cX0_walkRound 10 = .ok (.aload_n 0, 1) := by decide +kernel
theorem dX0_walkRound_11 : decode cX0_walkRound 11 = .ok (.getfield 37, 3) := by decide +kernel
theorem dX0_walkRound_14 : decode cX0_walkRound 14 = .ok (.getfield 96, 3) := by decide +kernel
theorem dX0_walkRound_17 : decode cX0_walkRound 17 = .ok (.iload_n 1, 1) := by decide +kernel
theorem dX0_walkRound_18 : decode cX0_walkRound 18 = .ok (.iconst 1, 1) := by decide +kernel
theorem dX0_walkRound_19 : decode cX0_walkRound 19 = .ok (.iadd, 1) := by decide +kernel
theorem dX0_walkRound_20 : decode cX0_walkRound 20 = .ok (.iaload, 1) := by decide +kernel
theorem dX0_walkRound_21 : decode cX0_walkRound 21 = .ok (.istore 4, 2) := by decide +kernel
theorem dX0_walkRound_23 : decode cX0_walkRound 23 = .ok (.aload_n 0, 1) := by decide +kernel
theorem dX0_walkRound_24 : decode cX0_walkRound 24 = .ok (.iload_n 1, 1) := by decide +kernel
theorem dX0_walkRound_25 : decode cX0_walkRound 25 = .ok (.invokevirtual 99, 3) := by decide +kernel
theorem dX0_walkRound_28 : decode cX0_walkRound 28 = .ok (.istore 5, 2) := by decide +kernel
theorem dX0_walkRound_30 : decode cX0_walkRound 30 = .ok (.iload 5, 2) := by decide +kernel
theorem dX0_walkRound_32 : decode cX0_walkRound 32 = .ok (.ifCond .eq 18, 3) := by decide +kernel
theorem dX0_walkRound_35 : decode cX0_walkRound 35 = .ok (.aload_n 0, 1) := by decide +kernel
theorem dX0_walkRound_36 : decode cX0_walkRound 36 = .ok (.getfield 37, 3) := by decide +kernel
theorem dX0_walkRound_39 : decode cX0_walkRound 39 = .ok (.getfield 103, 3) := by decide +kernel
theorem dX0_walkRound_42 : decode cX0_walkRound 42 = .ok (.aload_n 0, 1) := by decide +kernel
theorem dX0_walkRound_43 : decode cX0_walkRound 43 = .ok (.getfield 9, 3) := by decide +kernel
theorem dX0_walkRound_46 : decode cX0_walkRound 46 = .ok (.iaload, 1) := by decide +kernel
theorem dX0_walkRound_47 : decode cX0_walkRound 47 = .ok (.goto 4, 3) := by decide +kernel
theorem dX0_walkRound_50 : decode cX0_walkRound 50 = .ok (.iload_n 3, 1) := by decide +kernel
theorem dX0_walkRound_51 : decode cX0_walkRound 51 = .ok (.istore 6, 2) := by decide +kernel
theorem dX0_walkRound_53 : decode cX0_walkRound 53 = .ok (.iload_n 2, 1) := by decide +kernel
theorem dX0_walkRound_54 : decode cX0_walkRound 54 = .ok (.istore 7, 2) := by decide +kernel
theorem dX0_walkRound_56 : decode cX0_walkRound 56 = .ok (.iload_n 3, 1) := by decide +kernel
theorem dX0_walkRound_57 : decode cX0_walkRound 57 = .ok (.istore 8, 2) := by decide +kernel
theorem dX0_walkRound_59 : decode cX0_walkRound 59 = .ok (.iload 8, 2) := by decide +kernel
theorem dX0_walkRound_61 : decode cX0_walkRound 61 = .ok (.iload 4, 2) := by decide +kernel
theorem dX0_walkRound_63 : decode cX0_walkRound 63 = .ok (.if_icmp .ge 81, 3) := by decide +kernel
theorem dX0_walkRound_66 : decode cX0_walkRound 66 = .ok (.iload 6, 2) := by decide +kernel
theorem dX0_walkRound_68 : decode cX0_walkRound 68 = .ok (.iload 4, 2) := by decide +kernel
theorem dX0_walkRound_70 : decode cX0_walkRound 70 = .ok (.if_icmp .lt 6, 3) := by decide +kernel
theorem dX0_walkRound_73 : decode cX0_walkRound 73 = .ok (.iload_n 3, 1) := by decide +kernel
theorem dX0_walkRound_74 : decode cX0_walkRound 74 = .ok (.istore 6, 2) := by decide +kernel
theorem dX0_walkRound_76 : decode cX0_walkRound 76 = .ok (.aload_n 0, 1) := by decide +kernel
theorem dX0_walkRound_77 : decode cX0_walkRound 77 = .ok (.getfield 65, 3) := by decide +kernel
theorem dX0_walkRound_80 : decode cX0_walkRound 80 = .ok (.iload 6, 2) := by decide +kernel
theorem dX0_walkRound_82 : decode cX0_walkRound 82 = .ok (.invokestatic 106, 3) := by decide +kernel
theorem dX0_walkRound_85 : decode cX0_walkRound 85 = .ok (.istore 9, 2) := by decide +kernel
theorem dX0_walkRound_87 : decode cX0_walkRound 87 = .ok (.iload 9, 2) := by decide +kernel
theorem dX0_walkRound_89 : decode cX0_walkRound 89 = .ok (.iconst (-1), 1) := by decide +kernel
theorem dX0_walkRound_90 : decode cX0_walkRound 90 = .ok (.if_icmp .eq 45, 3) := by decide +kernel
theorem dX0_walkRound_93 : decode cX0_walkRound 93 = .ok (.aload_n 0, 1) := by decide +kernel
theorem dX0_walkRound_94 : decode cX0_walkRound 94 = .ok (.getfield 15, 3) := by decide +kernel
theorem dX0_walkRound_97 : decode cX0_walkRound 97 = .ok (.iload 9, 2) := by decide +kernel
theorem dX0_walkRound_99 : decode cX0_walkRound 99 = .ok (.iload 6, 2) := by decide +kernel
theorem dX0_walkRound_101 : decode cX0_walkRound 101 = .ok (.iastore, 1) := by decide +kernel
theorem dX0_walkRound_102 : decode cX0_walkRound 102 = .ok (.aload_n 0, 1) := by decide +kernel
theorem dX0_walkRound_103 : decode cX0_walkRound 103 = .ok (.getfield 19, 3) := by decide +kernel
theorem dX0_walkRound_106 : decode cX0_walkRound 106 = .ok (.iload 7, 2) := by decide +kernel
theorem dX0_walkRound_108 : decode cX0_walkRound 108 = .ok (.iload 9, 2) := by decide +kernel
theorem dX0_walkRound_110 : decode cX0_walkRound 110 = .ok (.iastore, 1) := by decide +kernel
theorem dX0_walkRound_111 : decode cX0_walkRound 111 = .ok (.iload 7, 2) := by decide +kernel
theorem dX0_walkRound_113 : decode cX0_walkRound 113 = .ok (.iload_n 2, 1) := by decide +kernel
theorem dX0_walkRound_114 : decode cX0_walkRound 114 = .ok (.if_icmp .le 18, 3) := by decide +kernel
theorem dX0_walkRound_117 : decode cX0_walkRound 117 = .ok (.aload_n 0, 1) := by decide +kernel
theorem dX0_walkRound_118 : decode cX0_walkRound 118 = .ok (.aload_n 0, 1) := by decide +kernel
theorem dX0_walkRound_119 : decode cX0_walkRound 119 = .ok (.getfield 19, 3) := by decide +kernel
theorem dX0_walkRound_122 : decode cX0_walkRound 122 = .ok (.iload 7, 2) := by decide +kernel
theorem dX0_walkRound_124 : decode cX0_walkRound 124 = .ok (.iconst 1, 1) := by decide +kernel
theorem dX0_walkRound_125 : decode cX0_walkRound 125 = .ok (.isub, 1) := by decide +kernel
theorem dX0_walkRound_126 : decode cX0_walkRound 126 = .ok (.iaload, 1) := by decide +kernel
theorem dX0_walkRound_127 : decode cX0_walkRound 127 = .ok (.iload 9, 2) := by decide +kernel
theorem dX0_walkRound_129 : decode cX0_walkRound 129 = .ok (.invokevirtual 110, 3) := by decide +kernel
theorem dX0_walkRound_132 : decode cX0_walkRound 132 = .ok (.iinc 7 1, 3) := by decide +kernel
theorem dX0_walkRound_135 : decode cX0_walkRound 135 = .ok (.iinc 6 1, 3) := by decide +kernel
theorem dX0_walkRound_138 : decode cX0_walkRound 138 = .ok (.iinc 8 1, 3) := by decide +kernel
theorem dX0_walkRound_141 : decode cX0_walkRound 141 = .ok (.goto (-82), 3) := by decide +kernel
theorem dX0_walkRound_144 : decode cX0_walkRound 144 = .ok (.iload 5, 2) := by decide +kernel
theorem dX0_walkRound_146 : decode cX0_walkRound 146 = .ok (.ifCond .ne 30, 3) := by decide +kernel
theorem dX0_walkRound_149 : decode cX0_walkRound 149 = .ok (.iload 7, 2) := by decide +kernel
theorem dX0_walkRound_151 : decode cX0_walkRound 151 = .ok (.iload_n 2, 1) := by decide +kernel
theorem dX0_walkRound_152 : decode cX0_walkRound 152 = .ok (.isub, 1) := by decide +kernel
theorem dX0_walkRound_153 : decode cX0_walkRound 153 = .ok (.iconst 1, 1) := by decide +kernel
theorem dX0_walkRound_154 : decode cX0_walkRound 154 = .ok (.if_icmp .le 22, 3) := by decide +kernel
theorem dX0_walkRound_157 : decode cX0_walkRound 157 = .ok (.aload_n 0, 1) := by decide +kernel
theorem dX0_walkRound_158 : decode cX0_walkRound 158 = .ok (.aload_n 0, 1) := by decide +kernel
theorem dX0_walkRound_159 : decode cX0_walkRound 159 = .ok (.getfield 19, 3) := by decide +kernel
theorem dX0_walkRound_162 : decode cX0_walkRound 162 = .ok (.iload 7, 2) := by decide +kernel
theorem dX0_walkRound_164 : decode cX0_walkRound 164 = .ok (.iconst 1, 1) := by decide +kernel
theorem dX0_walkRound_165 : decode cX0_walkRound 165 = .ok (.isub, 1) := by decide +kernel
theorem dX0_walkRound_166 : decode cX0_walkRound 166 = .ok (.iaload, 1) := by decide +kernel
theorem dX0_walkRound_167 : decode cX0_walkRound 167 = .ok (.aload_n 0, 1) := by decide +kernel
theorem dX0_walkRound_168 : decode cX0_walkRound 168 = .ok (.getfield 19, 3) := by decide +kernel
theorem dX0_walkRound_171 : decode cX0_walkRound 171 = .ok (.iload_n 2, 1) := by decide +kernel
theorem dX0_walkRound_172 : decode cX0_walkRound 172 = .ok (.iaload, 1) := by decide +kernel
theorem dX0_walkRound_173 : decode cX0_walkRound 173 = .ok (.invokevirtual 110, 3) := by decide +kernel
theorem dX0_walkRound_176 : decode cX0_walkRound 176 = .ok (.iload 7, 2) := by decide +kernel
theorem dX0_walkRound_178 : decode cX0_walkRound 178 = .ok (.ireturn, 1) := by decide +kernel
theorem dX0_join_0 : decode cX0_join 0 = .ok (.iload_n 1, 1) := by decide +kernel
theorem dX0_join_1 : decode cX0_join 1 = .ok (.iconst 2, 1) := by decide +kernel
theorem dX0_join_2 : decode cX0_join 2 = .ok (.idiv, 1) := by decide +kernel
theorem dX0_join_3 : decode cX0_join 3 = .ok (.istore_n 3, 1) := by decide +kernel
theorem dX0_join_4 : decode cX0_join 4 = .ok (.iload_n 2, 1) := by decide +kernel
theorem dX0_join_5 : decode cX0_join 5 = .ok (.iconst 2, 1) := by decide +kernel
theorem dX0_join_6 : decode cX0_join 6 = .ok (.idiv, 1) := by decide +kernel
theorem dX0_join_7 : decode cX0_join 7 = .ok (.istore 4, 2) := by decide +kernel
theorem dX0_join_9 : decode cX0_join 9 = .ok (.iload_n 1, 1) := by decide +kernel
theorem dX0_join_10 : decode cX0_join 10 = .ok (.iconst 1, 1) := by decide +kernel
theorem dX0_join_11 : decode cX0_join 11 = .ok (.iand, 1) := by decide +kernel
theorem dX0_join_12 : decode cX0_join 12 = .ok (.ifCond .eq 7, 3) := by decide +kernel
theorem dX0_join_15 : decode cX0_join 15 = .ok (.iconst 1, 1) := by decide +kernel
theorem dX0_join_16 : decode cX0_join 16 = .ok (.goto 4, 3) := by decide +kernel
theorem dX0_join_19 : decode cX0_join 19 = .ok (.iconst 0, 1) := by decide +kernel
theorem dX0_join_20 : decode cX0_join 20 = .ok (.istore 5, 2) := by decide +kernel
theorem dX0_join_22 : decode cX0_join 22 = .ok (.iload_n 2, 1) := by decide +kernel
theorem dX0_join_23 : decode cX0_join 23 = .ok (.iconst 1, 1) := by decide +kernel
theorem dX0_join_24 : decode cX0_join 24 = .ok (.iand, 1) := by decide +kernel
theorem dX0_join_25 : decode cX0_join 25 = .ok (.ifCond .eq 7, 3) := by decide +kernel
theorem dX0_join_28 : decode cX0_join 28 = .ok (.iconst 1, 1) := by decide +kernel
theorem dX0_join_29 : decode cX0_join 29 = .ok (.goto 4, 3) := by decide +kernel
theorem dX0_join_32 : decode cX0_join 32 = .ok (.iconst 0, 1) := by decide +kernel
theorem dX0_join_33 : decode cX0_join 33 = .ok (.istore 6, 2) := by decide +kernel
theorem dX0_join_35 : decode cX0_join 35 = .ok (.iload 5, 2) := by decide +kernel
theorem dX0_join_37 : decode cX0_join 37 = .ok (.ifCond .eq 37, 3) := by decide +kernel
theorem dX0_join_40 : decode cX0_join 40 = .ok (.iload 6, 2) := by decide +kernel
theorem dX0_join_42 : decode cX0_join 42 = .ok (.ifCond .eq 32, 3) := by decide +kernel
theorem dX0_join_45 : decode cX0_join 45 = .ok (.aload_n 0, 1) := by decide +kernel
theorem dX0_join_46 : decode cX0_join 46 = .ok (.getfield 25, 3) := by decide +kernel
theorem dX0_join_49 : decode cX0_join 49 = .ok (.iload_n 3, 1) := by decide +kernel
theorem dX0_join_50 : decode cX0_join 50 = .ok (.dup2, 1) := by decide +kernel
theorem dX0_join_51 : decode cX0_join 51 = .ok (.iaload, 1) := by decide +kernel
theorem dX0_join_52 : decode cX0_join 52 = .ok (.iconst 1, 1) := by decide +kernel
theorem dX0_join_53 : decode cX0_join 53 = .ok (.iload 4, 2) := by decide +kernel
theorem dX0_join_55 : decode cX0_join 55 = .ok (.ishl, 1) := by decide +kernel
theorem dX0_join_56 : decode cX0_join 56 = .ok (.ior, 1) := by decide +kernel
theorem dX0_join_57 : decode cX0_join 57 = .ok (.iastore, 1) := by decide +kernel
theorem dX0_join_58 : decode cX0_join 58 = .ok (.aload_n 0, 1) := by decide +kernel
theorem dX0_join_59 : decode cX0_join 59 = .ok (.getfield 25, 3) := by decide +kernel
theorem dX0_join_62 : decode cX0_join 62 = .ok (.iload 4, 2) := by decide +kernel
theorem dX0_join_64 : decode cX0_join 64 = .ok (.dup2, 1) := by decide +kernel
theorem dX0_join_65 : decode cX0_join 65 = .ok (.iaload, 1) := by decide +kernel
theorem dX0_join_66 : decode cX0_join 66 = .ok (.iconst 1, 1) := by decide +kernel
theorem dX0_join_67 : decode cX0_join 67 = .ok (.iload_n 3, 1) := by decide +kernel
theorem dX0_join_68 : decode cX0_join 68 = .ok (.ishl, 1) := by decide +kernel
theorem dX0_join_69 : decode cX0_join 69 = .ok (.ior, 1) := by decide +kernel
theorem dX0_join_70 : decode cX0_join 70 = .ok (.iastore, 1) := by decide +kernel
theorem dX0_join_71 : decode cX0_join 71 = .ok (.goto 76, 3) := by decide +kernel
theorem dX0_join_74 : decode cX0_join 74 = .ok (.iload 5, 2) := by decide +kernel
theorem dX0_join_76 : decode cX0_join 76 = .ok (.ifCond .ne 37, 3) := by decide +kernel
theorem dX0_join_79 : decode cX0_join 79 = .ok (.iload 6, 2) := by decide +kernel
theorem dX0_join_81 : decode cX0_join 81 = .ok (.ifCond .ne 32, 3) := by decide +kernel
theorem dX0_join_84 : decode cX0_join 84 = .ok (.aload_n 0, 1) := by decide +kernel
theorem dX0_join_85 : decode cX0_join 85 = .ok (.getfield 31, 3) := by decide +kernel
theorem dX0_join_88 : decode cX0_join 88 = .ok (.iload_n 3, 1) := by decide +kernel
theorem dX0_join_89 : decode cX0_join 89 = .ok (.dup2, 1) := by decide +kernel
theorem dX0_join_90 : decode cX0_join 90 = .ok (.iaload, 1) := by decide +kernel
theorem dX0_join_91 : decode cX0_join 91 = .ok (.iconst 1, 1) := by decide +kernel
theorem dX0_join_92 : decode cX0_join 92 = .ok (.iload 4, 2) := by decide +kernel
theorem dX0_join_94 : decode cX0_join 94 = .ok (.ishl, 1) := by decide +kernel
theorem dX0_join_95 : decode cX0_join 95 = .ok (.ior, 1) := by decide +kernel
theorem dX0_join_96 : decode cX0_join 96 = .ok (.iastore, 1) := by decide +kernel
theorem dX0_join_97 : decode cX0_join 97 = .ok (.aload_n 0, 1) := by decide +kernel
theorem dX0_join_98 : decode cX0_join 98 = .ok (.getfield 31, 3) := by decide +kernel
theorem dX0_join_101 : decode cX0_join 101 = .ok (.iload 4, 2) := by decide +kernel
theorem dX0_join_103 : decode cX0_join 103 = .ok (.dup2, 1) := by decide +kernel
theorem dX0_join_104 : decode cX0_join 104 = .ok (.iaload, 1) := by decide +kernel
theorem dX0_join_105 : decode cX0_join 105 = .ok (.iconst 1, 1) := by decide +kernel
theorem dX0_join_106 : decode cX0_join 106 = .ok (.iload_n 3, 1) := by decide +kernel
theorem dX0_join_107 : decode cX0_join 107 = .ok (.ishl, 1) := by decide +kernel
theorem dX0_join_108 : decode cX0_join 108 = .ok (.ior, 1) := by decide +kernel
theorem dX0_join_109 : decode cX0_join 109 = .ok (.iastore, 1) := by decide +kernel
theorem dX0_join_110 : decode cX0_join 110 = .ok (.goto 37, 3) := by decide +kernel
theorem dX0_join_113 : decode cX0_join 113 = .ok (.iload 5, 2) := by decide +kernel
theorem dX0_join_115 : decode cX0_join 115 = .ok (.ifCond .eq 19, 3) := by decide +kernel
theorem dX0_join_118 : decode cX0_join 118 = .ok (.aload_n 0, 1) := by decide +kernel
theorem dX0_join_119 : decode cX0_join 119 = .ok (.getfield 28, 3) := by decide +kernel
theorem dX0_join_122 : decode cX0_join 122 = .ok (.iload 4, 2) := by decide +kernel
theorem dX0_join_124 : decode cX0_join 124 = .ok (.dup2, 1) := by decide +kernel
theorem dX0_join_125 : decode cX0_join 125 = .ok (.iaload, 1) := by decide +kernel
theorem dX0_join_126 : decode cX0_join 126 = .ok (.iconst 1, 1) := by decide +kernel
theorem dX0_join_127 : decode cX0_join 127 = .ok (.iload_n 3, 1) := by decide +kernel
theorem dX0_join_128 : decode cX0_join 128 = .ok (.ishl, 1) := by decide +kernel
theorem dX0_join_129 : decode cX0_join 129 = .ok (.ior, 1) := by decide +kernel
theorem dX0_join_130 : decode cX0_join 130 = .ok (.iastore, 1) := by decide +kernel
theorem dX0_join_131 : decode cX0_join 131 = .ok (.goto 16, 3) := by decide +kernel
theorem dX0_join_134 : decode cX0_join 134 = .ok (.aload_n 0, 1) := by decide +kernel
theorem dX0_join_135 : decode cX0_join 135 = .ok (.getfield 28, 3) := by decide +kernel
theorem dX0_join_138 : decode cX0_join 138 = .ok (.iload_n 3, 1) := by decide +kernel
theorem dX0_join_139 : decode cX0_join 139 = .ok (.dup2, 1) := by decide +kernel
theorem dX0_join_140 : decode cX0_join 140 = .ok (.iaload, 1) := by decide +kernel
theorem dX0_join_141 : decode cX0_join 141 = .ok (.iconst 1, 1) := by decide +kernel
theorem dX0_join_142 : decode cX0_join 142 = .ok (.iload 4, 2) := by decide +kernel
theorem dX0_join_144 : decode cX0_join 144 = .ok (.ishl, 1) := by decide +kernel
theorem dX0_join_145 : decode cX0_join 145 = .ok (.ior, 1) := by decide +kernel
theorem dX0_join_146 : decode cX0_join 146 = .ok (.iastore, 1) := by decide +kernel
theorem dX0_join_147 : decode cX0_join 147 = .ok (.return_, 1) := by decide +kernel
theorem dX0_has_0 : decode cX0_has 0 = .ok (.iload_n 0, 1) := by decide +kernel
theorem dX0_has_1 : decode cX0_has 1 = .ok (.iload_n 1, 1) := by decide +kernel
theorem dX0_has_2 : decode cX0_has 2 = .ok (.ishr, 1) := by decide +kernel
theorem dX0_has_3 : decode cX0_has 3 = .ok (.iconst 1, 1) := by decide +kernel
theorem dX0_has_4 : decode cX0_has 4 = .ok (.iand, 1) := by decide +kernel
theorem dX0_has_5 : decode cX0_has 5 = .ok (.ifCond .eq 7, 3) := by decide +kernel
theorem dX0_has_8 : decode cX0_has 8 = .ok (.iconst 1, 1) := by decide +kernel
theorem dX0_has_9 : decode cX0_has 9 = .ok (.goto 4, 3) := by decide +kernel
theorem dX0_has_12 : decode cX0_has 12 = .ok (.iconst 0, 1) := by decide +kernel
theorem dX0_has_13 : decode cX0_has 13 = .ok (.ireturn, 1) := by decide +kernel
theorem dX0_isLeft_0 : decode cX0_isLeft 0 = .ok (.aload_n 0, 1) := by decide +kernel
theorem dX0_isLeft_1 : decode cX0_isLeft 1 = .ok (.getfield 15, 3) := by decide +kernel
theorem dX0_isLeft_4 : decode cX0_isLeft 4 = .ok (.iconst 2, 1) := by decide +kernel
theorem dX0_isLeft_5 : decode cX0_isLeft 5 = .ok (.iload_n 1, 1) := by decide +kernel
theorem dX0_isLeft_6 : decode cX0_isLeft 6 = .ok (.imul, 1) := by decide +kernel
theorem dX0_isLeft_7 : decode cX0_isLeft 7 = .ok (.iaload, 1) := by decide +kernel
theorem dX0_isLeft_8 : decode cX0_isLeft 8 = .ok (.iconst (-1), 1) := by decide +kernel
theorem dX0_isLeft_9 : decode cX0_isLeft 9 = .ok (.if_icmp .eq 7, 3) := by decide +kernel
theorem dX0_isLeft_12 : decode cX0_isLeft 12 = .ok (.iconst 1, 1) := by decide +kernel
theorem dX0_isLeft_13 : decode cX0_isLeft 13 = .ok (.goto 4, 3) := by decide +kernel
theorem dX0_isLeft_16 : decode cX0_isLeft 16 = .ok (.iconst 0, 1) := by decide +kernel
theorem dX0_isLeft_17 : decode cX0_isLeft 17 = .ok (.ireturn, 1) := by decide +kernel
theorem dX0_signOf_0 : decode cX0_signOf 0 = .ok (.aload_n 0, 1) := by decide +kernel
theorem dX0_signOf_1 : decode cX0_signOf 1 = .ok (.iload_n 1, 1) := by decide +kernel
theorem dX0_signOf_2 : decode cX0_signOf 2 = .ok (.invokevirtual 114, 3) := by decide +kernel
theorem dX0_signOf_5 : decode cX0_signOf 5 = .ok (.ifCond .ne 5, 3) := by decide +kernel
theorem dX0_signOf_8 : decode cX0_signOf 8 = .ok (.iconst 0, 1) := by decide +kernel
theorem dX0_signOf_9 : decode cX0_signOf 9 = .ok (.ireturn, 1) := by decide +kernel
theorem dX0_signOf_10 : decode cX0_signOf 10 = .ok (.aload_n 0, 1) := by decide +kernel
theorem dX0_signOf_11 : decode cX0_signOf 11 = .ok (.getfield 66, 3) := by decide +kernel
theorem dX0_signOf_14 : decode cX0_signOf 14 = .ok (.iload_n 1, 1) := by decide +kernel
theorem dX0_signOf_15 : decode cX0_signOf 15 = .ok (.invokestatic 117, 3) := by decide +kernel
theorem dX0_signOf_18 : decode cX0_signOf 18 = .ok (.ifCond .eq 7, 3) := by decide +kernel
theorem dX0_signOf_21 : decode cX0_signOf 21 = .ok (.iconst 1, 1) := by decide +kernel
theorem dX0_signOf_22 : decode cX0_signOf 22 = .ok (.goto 4, 3) := by decide +kernel
theorem dX0_signOf_25 : decode cX0_signOf 25 = .ok (.iconst (-1), 1) := by decide +kernel
theorem dX0_signOf_26 : decode cX0_signOf 26 = .ok (.ireturn, 1) := by decide +kernel
theorem dX0_ringOfPass_0 : decode cX0_ringOfPass 0 = .ok (.aload_n 0, 1) := by decide +kernel
theorem dX0_ringOfPass_1 : decode cX0_ringOfPass 1 = .ok (.getfield 37, 3) := by decide +kernel
theorem dX0_ringOfPass_4 : decode cX0_ringOfPass 4 = .ok (.getfield 93, 3) := by decide +kernel
theorem dX0_ringOfPass_7 : decode cX0_ringOfPass 7 = .ok (.aload_n 0, 1) := by decide +kernel
theorem dX0_ringOfPass_8 : decode cX0_ringOfPass 8 = .ok (.getfield 37, 3) := by decide +kernel
theorem dX0_ringOfPass_11 : decode cX0_ringOfPass 11 = .ok (.getfield 121, 3) := by decide +kernel
theorem dX0_ringOfPass_14 : decode cX0_ringOfPass 14 = .ok (.aload_n 0, 1) := by decide +kernel
theorem dX0_ringOfPass_15 : decode cX0_ringOfPass 15 = .ok (.getfield 15, 3) := by decide +kernel
theorem dX0_ringOfPass_18 : decode cX0_ringOfPass 18 = .ok (.iload_n 1, 1) := by decide +kernel
theorem dX0_ringOfPass_19 : decode cX0_ringOfPass 19 = .ok (.iaload, 1) := by decide +kernel
theorem dX0_ringOfPass_20 : decode cX0_ringOfPass 20 = .ok (.iaload, 1) := by decide +kernel
theorem dX0_ringOfPass_21 : decode cX0_ringOfPass 21 = .ok (.iaload, 1) := by decide +kernel
theorem dX0_ringOfPass_22 : decode cX0_ringOfPass 22 = .ok (.ireturn, 1) := by decide +kernel
theorem dX0_signsBetween_0 : decode cX0_signsBetween 0 = .ok (.iconst 0, 1) := by decide +kernel
theorem dX0_signsBetween_1 : decode cX0_signsBetween 1 = .ok (.istore_n 3, 1) := by decide +kernel
theorem dX0_signsBetween_2 : decode cX0_signsBetween 2 = .ok (.iconst 0, 1) := by decide +kernel
theorem dX0_signsBetween_3 : decode cX0_signsBetween 3 = .ok (.istore 4, 2) := by decide +kernel
theorem dX0_signsBetween_5 : decode cX0_signsBetween 5 = .ok (.iload 4, 2) := by decide +kernel
theorem dX0_signsBetween_7 : decode cX0_signsBetween 7 = .ok (.aload_n 0, 1) := by decide +kernel
theorem dX0_signsBetween_8 : decode cX0_signsBetween 8 = .ok (.getfield 37, 3) := by decide +kernel
theorem dX0_signsBetween_11 : decode cX0_signsBetween 11 = .ok (.getfield 67, 3) := by decide +kernel
theorem dX0_signsBetween_14 : decode cX0_signsBetween 14 = .ok (.if_icmp .ge 73, 3) := by decide +kernel
theorem dX0_signsBetween_17 : decode cX0_signsBetween 17 = .ok (.aload_n 0, 1) := by decide +kernel
theorem dX0_signsBetween_18 : decode cX0_signsBetween 18 = .ok (.iload 4, 2) := by decide +kernel
theorem dX0_signsBetween_20 : decode cX0_signsBetween 20 = .ok (.invokevirtual 114, 3) := by decide +kernel
theorem dX0_signsBetween_23 : decode cX0_signsBetween 23 = .ok (.ifCond .eq 58, 3) := by decide +kernel
theorem dX0_signsBetween_26 : decode cX0_signsBetween 26 = .ok (.aload_n 0, 1) := by decide +kernel
theorem dX0_signsBetween_27 : decode cX0_signsBetween 27 = .ok (.iconst 2, 1) := by decide +kernel
theorem dX0_signsBetween_28 : decode cX0_signsBetween 28 = .ok (.iload 4, 2) := by decide +kernel
theorem dX0_signsBetween_30 : decode cX0_signsBetween 30 = .ok (.imul, 1) := by decide +kernel
theorem dX0_signsBetween_31 : decode cX0_signsBetween 31 = .ok (.invokevirtual 124, 3) := by decide +kernel
theorem dX0_signsBetween_34 : decode cX0_signsBetween 34 = .ok (.istore 5, 2) := by decide +kernel
theorem dX0_signsBetween_36 : decode cX0_signsBetween 36 = .ok (.aload_n 0, 1) := by decide +kernel
theorem dX0_signsBetween_37 : decode cX0_signsBetween 37 = .ok (.iconst 2, 1) := by decide +kernel
theorem dX0_signsBetween_38 : decode cX0_signsBetween 38 = .ok (.iload 4, 2) := by decide +kernel
theorem dX0_signsBetween_40 : decode cX0_signsBetween 40 = .ok (.imul, 1) := by decide +kernel
theorem dX0_signsBetween_41 : decode cX0_signsBetween 41 = .ok (.iconst 1, 1) := by decide +kernel
theorem dX0_signsBetween_42 : decode cX0_signsBetween 42 = .ok (.iadd, 1) := by decide +kernel
theorem dX0_signsBetween_43 : decode cX0_signsBetween 43 = .ok (.invokevirtual 124, 3) := by decide +kernel
theorem dX0_signsBetween_46 : decode cX0_signsBetween 46 = .ok (.istore 6, 2) := by decide +kernel
theorem dX0_signsBetween_48 : decode cX0_signsBetween 48 = .ok (.iload 5, 2) := by decide +kernel
theorem dX0_signsBetween_50 : decode cX0_signsBetween 50 = .ok (.iload_n 1, 1) := by decide +kernel
theorem dX0_signsBetween_51 : decode cX0_signsBetween 51 = .ok (.if_icmp .ne 9, 3) := by decide +kernel
theorem dX0_signsBetween_54 : decode cX0_signsBetween 54 = .ok (.iload 6, 2) := by decide +kernel
theorem dX0_signsBetween_56 : decode cX0_signsBetween 56 = .ok (.iload_n 2, 1) := by decide +kernel
theorem dX0_signsBetween_57 : decode cX0_signsBetween 57 = .ok (.if_icmp .eq 15, 3) := by decide +kernel
theorem dX0_signsBetween_60 : decode cX0_signsBetween 60 = .ok (.iload 5, 2) := by decide +kernel
theorem dX0_signsBetween_62 : decode cX0_signsBetween 62 = .ok (.iload_n 2, 1) := by decide +kernel
theorem dX0_signsBetween_63 : decode cX0_signsBetween 63 = .ok (.if_icmp .ne 18, 3) := by decide +kernel
theorem dX0_signsBetween_66 : decode cX0_signsBetween 66 = .ok (.iload 6, 2) := by decide +kernel
theorem dX0_signsBetween_68 : decode cX0_signsBetween 68 = .ok (.iload_n 1, 1) := by decide +kernel
theorem dX0_signsBetween_69 : decode cX0_signsBetween 69 = .ok (.if_icmp .ne 12, 3) := by decide +kernel
theorem dX0_signsBetween_72 : decode cX0_signsBetween 72 = .ok (.iload_n 3, 1) := by decide +kernel
theorem dX0_signsBetween_73 : decode cX0_signsBetween 73 = .ok (.aload_n 0, 1) := by decide +kernel
theorem dX0_signsBetween_74 : decode cX0_signsBetween 74 = .ok (.iload 4, 2) := by decide +kernel
theorem dX0_signsBetween_76 : decode cX0_signsBetween 76 = .ok (.invokevirtual 127, 3) := by decide +kernel
theorem dX0_signsBetween_79 : decode cX0_signsBetween 79 = .ok (.iadd, 1) := by decide +kernel
theorem dX0_signsBetween_80 : decode cX0_signsBetween 80 = .ok (.istore_n 3, 1) := by decide +kernel
theorem dX0_signsBetween_81 : decode cX0_signsBetween 81 = .ok (.iinc 4 1, 3) := by decide +kernel
theorem dX0_signsBetween_84 : decode cX0_signsBetween 84 = .ok (.goto (-79), 3) := by decide +kernel
theorem dX0_signsBetween_87 : decode cX0_signsBetween 87 = .ok (.iload_n 3, 1) := by decide +kernel
theorem dX0_signsBetween_88 : decode cX0_signsBetween 88 = .ok (.ireturn, 1) := by decide +kernel
theorem dX0_seenBy_0 : decode cX0_seenBy 0 = .ok (.iconst 0, 1) := by decide +kernel
theorem dX0_seenBy_1 : decode cX0_seenBy 1 = .ok (.istore_n 2, 1) := by decide +kernel
theorem dX0_seenBy_2 : decode cX0_seenBy 2 = .ok (.iconst 0, 1) := by decide +kernel
theorem dX0_seenBy_3 : decode cX0_seenBy 3 = .ok (.istore_n 3, 1) := by decide +kernel
theorem dX0_seenBy_4 : decode cX0_seenBy 4 = .ok (.iload_n 3, 1) := by decide +kernel
theorem dX0_seenBy_5 : decode cX0_seenBy 5 = .ok (.iconst 2, 1) := by decide +kernel
theorem dX0_seenBy_6 : decode cX0_seenBy 6 = .ok (.aload_n 0, 1) := by decide +kernel
theorem dX0_seenBy_7 : decode cX0_seenBy 7 = .ok (.getfield 79, 3) := by decide +kernel
theorem dX0_seenBy_10 : decode cX0_seenBy 10 = .ok (.imul, 1) := by decide +kernel
theorem dX0_seenBy_11 : decode cX0_seenBy 11 = .ok (.if_icmp .ge 77, 3) := by decide +kernel
theorem dX0_seenBy_14 : decode cX0_seenBy 14 = .ok (.aload_n 0, 1) := by decide +kernel
theorem dX0_seenBy_15 : decode cX0_seenBy 15 = .ok (.getfield 37, 3) := by decide +kernel
theorem dX0_seenBy_18 : decode cX0_seenBy 18 = .ok (.getfield 121, 3) := by decide +kernel
theorem dX0_seenBy_21 : decode cX0_seenBy 21 = .ok (.aload_n 0, 1) := by decide +kernel
theorem dX0_seenBy_22 : decode cX0_seenBy 22 = .ok (.getfield 15, 3) := by decide +kernel
theorem dX0_seenBy_25 : decode cX0_seenBy 25 = .ok (.aload_n 0, 1) := by decide +kernel
theorem dX0_seenBy_26 : decode cX0_seenBy 26 = .ok (.getfield 19, 3) := by decide +kernel
theorem dX0_seenBy_29 : decode cX0_seenBy 29 = .ok (.iload_n 3, 1) := by decide +kernel
theorem dX0_seenBy_30 : decode cX0_seenBy 30 = .ok (.iaload, 1) := by decide +kernel
theorem dX0_seenBy_31 : decode cX0_seenBy 31 = .ok (.iaload, 1) := by decide +kernel
theorem dX0_seenBy_32 : decode cX0_seenBy 32 = .ok (.iaload, 1) := by decide +kernel
theorem dX0_seenBy_33 : decode cX0_seenBy 33 = .ok (.istore 4, 2) := by decide +kernel
theorem dX0_seenBy_35 : decode cX0_seenBy 35 = .ok (.iload 4, 2) := by decide +kernel
theorem dX0_seenBy_37 : decode cX0_seenBy 37 = .ok (.aload_n 0, 1) := by decide +kernel
theorem dX0_seenBy_38 : decode cX0_seenBy 38 = .ok (.getfield 37, 3) := by decide +kernel
theorem dX0_seenBy_41 : decode cX0_seenBy 41 = .ok (.getfield 130, 3) := by decide +kernel
theorem dX0_seenBy_44 : decode cX0_seenBy 44 = .ok (.iconst 2, 1) := by decide +kernel
theorem dX0_seenBy_45 : decode cX0_seenBy 45 = .ok (.iload_n 1, 1) := by decide +kernel
theorem dX0_seenBy_46 : decode cX0_seenBy 46 = .ok (.imul, 1) := by decide +kernel
theorem dX0_seenBy_47 : decode cX0_seenBy 47 = .ok (.iaload, 1) := by decide +kernel
theorem dX0_seenBy_48 : decode cX0_seenBy 48 = .ok (.if_icmp .eq 21, 3) := by decide +kernel
theorem dX0_seenBy_51 : decode cX0_seenBy 51 = .ok (.iload 4, 2) := by decide +kernel
theorem dX0_seenBy_53 : decode cX0_seenBy 53 = .ok (.aload_n 0, 1) := by decide +kernel
theorem dX0_seenBy_54 : decode cX0_seenBy 54 = .ok (.getfield 37, 3) := by decide +kernel
theorem dX0_seenBy_57 : decode cX0_seenBy 57 = .ok (.getfield 130, 3) := by decide +kernel
theorem dX0_seenBy_60 : decode cX0_seenBy 60 = .ok (.iconst 2, 1) := by decide +kernel
theorem dX0_seenBy_61 : decode cX0_seenBy 61 = .ok (.iload_n 1, 1) := by decide +kernel
theorem dX0_seenBy_62 : decode cX0_seenBy 62 = .ok (.imul, 1) := by decide +kernel
theorem dX0_seenBy_63 : decode cX0_seenBy 63 = .ok (.iconst 1, 1) := by decide +kernel
theorem dX0_seenBy_64 : decode cX0_seenBy 64 = .ok (.iadd, 1) := by decide +kernel
theorem dX0_seenBy_65 : decode cX0_seenBy 65 = .ok (.iaload, 1) := by decide +kernel
theorem dX0_seenBy_66 : decode cX0_seenBy 66 = .ok (.if_icmp .ne 16, 3) := by decide +kernel
theorem dX0_seenBy_69 : decode cX0_seenBy 69 = .ok (.iload_n 2, 1) := by decide +kernel
theorem dX0_seenBy_70 : decode cX0_seenBy 70 = .ok (.iconst 1, 1) := by decide +kernel
theorem dX0_seenBy_71 : decode cX0_seenBy 71 = .ok (.aload_n 0, 1) := by decide +kernel
theorem dX0_seenBy_72 : decode cX0_seenBy 72 = .ok (.getfield 19, 3) := by decide +kernel
theorem dX0_seenBy_75 : decode cX0_seenBy 75 = .ok (.iload_n 3, 1) := by decide +kernel
theorem dX0_seenBy_76 : decode cX0_seenBy 76 = .ok (.iaload, 1) := by decide +kernel
theorem dX0_seenBy_77 : decode cX0_seenBy 77 = .ok (.iconst 2, 1) := by decide +kernel
theorem dX0_seenBy_78 : decode cX0_seenBy 78 = .ok (.idiv, 1) := by decide +kernel
theorem dX0_seenBy_79 : decode cX0_seenBy 79 = .ok (.ishl, 1) := by decide +kernel
theorem dX0_seenBy_80 : decode cX0_seenBy 80 = .ok (.ior, 1) := by decide +kernel
theorem dX0_seenBy_81 : decode cX0_seenBy 81 = .ok (.istore_n 2, 1) := by decide +kernel
theorem dX0_seenBy_82 : decode cX0_seenBy 82 = .ok (.iinc 3 1, 3) := by decide +kernel
theorem dX0_seenBy_85 : decode cX0_seenBy 85 = .ok (.goto (-81), 3) := by decide +kernel
theorem dX0_seenBy_88 : decode cX0_seenBy 88 = .ok (.iload_n 2, 1) := by decide +kernel
theorem dX0_seenBy_89 : decode cX0_seenBy 89 = .ok (.ireturn, 1) := by decide +kernel
theorem dX0_listTurn_0 : decode cX0_listTurn 0 = .ok (.aload_n 0, 1) := by decide +kernel
theorem dX0_listTurn_1 : decode cX0_listTurn 1 = .ok (.getfield 28, 3) := by decide +kernel
theorem dX0_listTurn_4 : decode cX0_listTurn 4 = .ok (.iload_n 1, 1) := by decide +kernel
theorem dX0_listTurn_5 : decode cX0_listTurn 5 = .ok (.iaload, 1) := by decide +kernel
theorem dX0_listTurn_6 : decode cX0_listTurn 6 = .ok (.iload_n 1, 1) := by decide +kernel
theorem dX0_listTurn_7 : decode cX0_listTurn 7 = .ok (.invokestatic 117, 3) := by decide +kernel
theorem dX0_listTurn_10 : decode cX0_listTurn 10 = .ok (.ifCond .eq 8, 3) := by decide +kernel
theorem dX0_listTurn_13 : decode cX0_listTurn 13 = .ok (.aload_n 0, 1) := by decide +kernel
theorem dX0_listTurn_14 : decode cX0_listTurn 14 = .ok (.iload_n 1, 1) := by decide +kernel
theorem dX0_listTurn_15 : decode cX0_listTurn 15 = .ok (.invokevirtual 133, 3) := by decide +kernel
theorem dX0_listTurn_18 : decode cX0_listTurn 18 = .ok (.return_, 1) := by decide +kernel
theorem dX0_addNumber_0 : decode cX0_addNumber 0 = .ok (.aload_n 0, 1) := by decide +kernel
theorem dX0_addNumber_1 : decode cX0_addNumber 1 = .ok (.getfield 82, 3) := by decide +kernel
theorem dX0_addNumber_4 : decode cX0_addNumber 4 = .ok (.sipush 256, 3) := by decide +kernel
theorem dX0_addNumber_7 : decode cX0_addNumber 7 = .ok (.if_icmp .ge 23, 3) := by decide +kernel
theorem dX0_addNumber_10 : decode cX0_addNumber 10 = .ok (.aload_n 0, 1) := by decide +kernel
theorem dX0_addNumber_11 : decode cX0_addNumber 11 = .ok (.getfield 34, 3) := by decide +kernel
theorem dX0_addNumber_14 : decode cX0_addNumber 14 = .ok (.aload_n 0, 1) := by decide +kernel
theorem dX0_addNumber_15 : decode cX0_addNumber 15 = .ok (.getfield 82, 3) := by decide +kernel
theorem dX0_addNumber_18 : decode cX0_addNumber 18 = .ok (.iload_n 1, 1) := by decide +kernel
theorem dX0_addNumber_19 : decode cX0_addNumber 19 = .ok (.iastore, 1) := by decide +kernel
theorem dX0_addNumber_20 : decode cX0_addNumber 20 = .ok (.aload_n 0, 1) := by decide +kernel
theorem dX0_addNumber_21 : decode cX0_addNumber 21 = .ok (.dup, 1) := by decide +kernel
theorem dX0_addNumber_22 : decode cX0_addNumber 22 = .ok (.getfield 82, 3) := by decide +kernel
theorem dX0_addNumber_25 : decode cX0_addNumber 25 = .ok (.iconst 1, 1) := by decide +kernel
theorem dX0_addNumber_26 : decode cX0_addNumber 26 = .ok (.iadd, 1) := by decide +kernel
theorem dX0_addNumber_27 : decode cX0_addNumber 27 = .ok (.putfield 82, 3) := by decide +kernel
theorem dX0_addNumber_30 : decode cX0_addNumber 30 = .ok (.return_, 1) := by decide +kernel
theorem dX0_slipsWith_0 : decode cX0_slipsWith 0 = .ok (.aload_n 0, 1) := by decide +kernel
theorem dX0_slipsWith_1 : decode cX0_slipsWith 1 = .ok (.getfield 66, 3) := by decide +kernel
theorem dX0_slipsWith_4 : decode cX0_slipsWith 4 = .ok (.iload_n 1, 1) := by decide +kernel
theorem dX0_slipsWith_5 : decode cX0_slipsWith 5 = .ok (.invokestatic 117, 3) := by decide +kernel
theorem dX0_slipsWith_8 : decode cX0_slipsWith 8 = .ok (.ifCond .eq 12, 3) := by decide +kernel
theorem dX0_slipsWith_11 : decode cX0_slipsWith 11 = .ok (.aload_n 0, 1) := by decide +kernel
theorem dX0_slipsWith_12 : decode cX0_slipsWith 12 = .ok (.getfield 66, 3) := by decide +kernel
theorem dX0_slipsWith_15 : decode cX0_slipsWith 15 = .ok (.iconst (-1), 1) := by decide +kernel
theorem dX0_slipsWith_16 : decode cX0_slipsWith 16 = .ok (.ixor, 1) := by decide +kernel
theorem dX0_slipsWith_17 : decode cX0_slipsWith 17 = .ok (.goto 7, 3) := by decide +kernel
theorem dX0_slipsWith_20 : decode cX0_slipsWith 20 = .ok (.aload_n 0, 1) := by decide +kernel
theorem dX0_slipsWith_21 : decode cX0_slipsWith 21 = .ok (.getfield 66, 3) := by decide +kernel
theorem dX0_slipsWith_24 : decode cX0_slipsWith 24 = .ok (.istore_n 2, 1) := by decide +kernel
theorem dX0_slipsWith_25 : decode cX0_slipsWith 25 = .ok (.aload_n 0, 1) := by decide +kernel
theorem dX0_slipsWith_26 : decode cX0_slipsWith 26 = .ok (.getfield 25, 3) := by decide +kernel
theorem dX0_slipsWith_29 : decode cX0_slipsWith 29 = .ok (.iload_n 1, 1) := by decide +kernel
theorem dX0_slipsWith_30 : decode cX0_slipsWith 30 = .ok (.iaload, 1) := by decide +kernel
theorem dX0_slipsWith_31 : decode cX0_slipsWith 31 = .ok (.aload_n 0, 1) := by decide +kernel
theorem dX0_slipsWith_32 : decode cX0_slipsWith 32 = .ok (.getfield 31, 3) := by decide +kernel
theorem dX0_slipsWith_35 : decode cX0_slipsWith 35 = .ok (.iload_n 1, 1) := by decide +kernel
theorem dX0_slipsWith_36 : decode cX0_slipsWith 36 = .ok (.iaload, 1) := by decide +kernel
theorem dX0_slipsWith_37 : decode cX0_slipsWith 37 = .ok (.iand, 1) := by decide +kernel
theorem dX0_slipsWith_38 : decode cX0_slipsWith 38 = .ok (.iload_n 2, 1) := by decide +kernel
theorem dX0_slipsWith_39 : decode cX0_slipsWith 39 = .ok (.iand, 1) := by decide +kernel
theorem dX0_slipsWith_40 : decode cX0_slipsWith 40 = .ok (.ireturn, 1) := by decide +kernel
theorem dX0_listSlips_0 : decode cX0_listSlips 0 = .ok (.aload_n 0, 1) := by decide +kernel
theorem dX0_listSlips_1 : decode cX0_listSlips 1 = .ok (.iload_n 1, 1) := by decide +kernel
theorem dX0_listSlips_2 : decode cX0_listSlips 2 = .ok (.invokevirtual 136, 3) := by decide +kernel
theorem dX0_listSlips_5 : decode cX0_listSlips 5 = .ok (.istore_n 2, 1) := by decide +kernel
theorem dX0_listSlips_6 : decode cX0_listSlips 6 = .ok (.iload_n 1, 1) := by decide +kernel
theorem dX0_listSlips_7 : decode cX0_listSlips 7 = .ok (.iconst 1, 1) := by decide +kernel
theorem dX0_listSlips_8 : decode cX0_listSlips 8 = .ok (.iadd, 1) := by decide +kernel
theorem dX0_listSlips_9 : decode cX0_listSlips 9 = .ok (.istore_n 3, 1) := by decide +kernel
theorem dX0_listSlips_10 : decode cX0_listSlips 10 = .ok (.iload_n 2, 1) := by decide +kernel
theorem dX0_listSlips_11 : decode cX0_listSlips 11 = .ok (.ifCond .eq 50, 3) := by decide +kernel
theorem dX0_listSlips_14 : decode cX0_listSlips 14 = .ok (.iload_n 3, 1) := by decide +kernel
theorem dX0_listSlips_15 : decode cX0_listSlips 15 = .ok (.aload_n 0, 1) := by decide +kernel
theorem dX0_listSlips_16 : decode cX0_listSlips 16 = .ok (.getfield 37, 3) := by decide +kernel
theorem dX0_listSlips_19 : decode cX0_listSlips 19 = .ok (.getfield 67, 3) := by decide +kernel
theorem dX0_listSlips_22 : decode cX0_listSlips 22 = .ok (.if_icmp .ge 39, 3) := by decide +kernel
theorem dX0_listSlips_25 : decode cX0_listSlips 25 = .ok (.iload_n 2, 1) := by decide +kernel
theorem dX0_listSlips_26 : decode cX0_listSlips 26 = .ok (.iload_n 3, 1) := by decide +kernel
theorem dX0_listSlips_27 : decode cX0_listSlips 27 = .ok (.invokestatic 117, 3) := by decide +kernel
theorem dX0_listSlips_30 : decode cX0_listSlips 30 = .ok (.ifCond .eq 25, 3) := by decide +kernel
theorem dX0_listSlips_33 : decode cX0_listSlips 33 = .ok (.aload_n 0, 1) := by decide +kernel
theorem dX0_listSlips_34 : decode cX0_listSlips 34 = .ok (.iload_n 1, 1) := by decide +kernel
theorem dX0_listSlips_35 : decode cX0_listSlips 35 = .ok (.iload_n 3, 1) := by decide +kernel
theorem dX0_listSlips_36 : decode cX0_listSlips 36 = .ok (.invokevirtual 139, 3) := by decide +kernel
theorem dX0_listSlips_39 : decode cX0_listSlips 39 = .ok (.ifCond .eq 16, 3) := by decide +kernel
theorem dX0_listSlips_42 : decode cX0_listSlips 42 = .ok (.aload_n 0, 1) := by decide +kernel
theorem dX0_listSlips_43 : decode cX0_listSlips 43 = .ok (.bipush 100, 2) := by decide +kernel
theorem dX0_listSlips_45 : decode cX0_listSlips 45 = .ok (.bipush 10, 2) := by decide +kernel
theorem dX0_listSlips_47 : decode cX0_listSlips 47 = .ok (.iload_n 1, 1) := by decide +kernel
theorem dX0_listSlips_48 : decode cX0_listSlips 48 = .ok (.imul, 1) := by decide +kernel
theorem dX0_listSlips_49 : decode cX0_listSlips 49 = .ok (.iadd, 1) := by decide +kernel
theorem dX0_listSlips_50 : decode cX0_listSlips 50 = .ok (.iload_n 3, 1) := by decide +kernel
theorem dX0_listSlips_51 : decode cX0_listSlips 51 = .ok (.iadd, 1) := by decide +kernel
theorem dX0_listSlips_52 : decode cX0_listSlips 52 = .ok (.invokevirtual 133, 3) := by decide +kernel
theorem dX0_listSlips_55 : decode cX0_listSlips 55 = .ok (.iinc 3 1, 3) := by decide +kernel
theorem dX0_listSlips_58 : decode cX0_listSlips 58 = .ok (.goto (-48), 3) := by decide +kernel
theorem dX0_listSlips_61 : decode cX0_listSlips 61 = .ok (.return_, 1) := by decide +kernel
theorem dX0_stepsWith_0 : decode cX0_stepsWith 0 = .ok (.aload_n 0, 1) := by decide +kernel
theorem dX0_stepsWith_1 : decode cX0_stepsWith 1 = .ok (.getfield 28, 3) := by decide +kernel
theorem dX0_stepsWith_4 : decode cX0_stepsWith 4 = .ok (.iload_n 1, 1) := by decide +kernel
theorem dX0_stepsWith_5 : decode cX0_stepsWith 5 = .ok (.iaload, 1) := by decide +kernel
theorem dX0_stepsWith_6 : decode cX0_stepsWith 6 = .ok (.aload_n 0, 1) := by decide +kernel
theorem dX0_stepsWith_7 : decode cX0_stepsWith 7 = .ok (.getfield 31, 3) := by decide +kernel
theorem dX0_stepsWith_10 : decode cX0_stepsWith 10 = .ok (.iload_n 2, 1) := by decide +kernel
theorem dX0_stepsWith_11 : decode cX0_stepsWith 11 = .ok (.iaload, 1) := by decide +kernel
theorem dX0_stepsWith_12 : decode cX0_stepsWith 12 = .ok (.iand, 1) := by decide +kernel
theorem dX0_stepsWith_13 : decode cX0_stepsWith 13 = .ok (.iconst 1, 1) := by decide +kernel
theorem dX0_stepsWith_14 : decode cX0_stepsWith 14 = .ok (.iload_n 1, 1) := by decide +kernel
theorem dX0_stepsWith_15 : decode cX0_stepsWith 15 = .ok (.ishl, 1) := by decide +kernel
theorem dX0_stepsWith_16 : decode cX0_stepsWith 16 = .ok (.iconst (-1), 1) := by decide +kernel
theorem dX0_stepsWith_17 : decode cX0_stepsWith 17 = .ok (.ixor, 1) := by decide +kernel
theorem dX0_stepsWith_18 : decode cX0_stepsWith 18 = .ok (.iand, 1) := by decide +kernel
theorem dX0_stepsWith_19 : decode cX0_stepsWith 19 = .ok (.iconst 1, 1) := by decide +kernel
theorem dX0_stepsWith_20 : decode cX0_stepsWith 20 = .ok (.iload_n 2, 1) := by decide +kernel
theorem dX0_stepsWith_21 : decode cX0_stepsWith 21 = .ok (.ishl, 1) := by decide +kernel
theorem dX0_stepsWith_22 : decode cX0_stepsWith 22 = .ok (.iconst (-1), 1) := by decide +kernel
theorem dX0_stepsWith_23 : decode cX0_stepsWith 23 = .ok (.ixor, 1) := by decide +kernel
theorem dX0_stepsWith_24 : decode cX0_stepsWith 24 = .ok (.iand, 1) := by decide +kernel
theorem dX0_stepsWith_25 : decode cX0_stepsWith 25 = .ok (.ireturn, 1) := by decide +kernel
theorem dX0_listSteps_0 : decode cX0_listSteps 0 = .ok (.aload_n 0, 1) := by decide +kernel
theorem dX0_listSteps_1 : decode cX0_listSteps 1 = .ok (.getfield 25, 3) := by decide +kernel
theorem dX0_listSteps_4 : decode cX0_listSteps 4 = .ok (.iload_n 1, 1) := by decide +kernel
theorem dX0_listSteps_5 : decode cX0_listSteps 5 = .ok (.iaload, 1) := by decide +kernel
theorem dX0_listSteps_6 : decode cX0_listSteps 6 = .ok (.ifCond .eq 12, 3) := by decide +kernel
theorem dX0_listSteps_9 : decode cX0_listSteps 9 = .ok (.aload_n 0, 1) := by decide +kernel
theorem dX0_listSteps_10 : decode cX0_listSteps 10 = .ok (.getfield 28, 3) := by decide +kernel
theorem dX0_listSteps_13 : decode cX0_listSteps 13 = .ok (.iload_n 1, 1) := by decide +kernel
theorem dX0_listSteps_14 : decode cX0_listSteps 14 = .ok (.iaload, 1) := by decide +kernel
theorem dX0_listSteps_15 : decode cX0_listSteps 15 = .ok (.ifCond .ne 4, 3) := by decide +kernel
theorem dX0_listSteps_18 : decode cX0_listSteps 18 = .ok (.return_, 1) := by decide +kernel
theorem dX0_listSteps_19 : decode cX0_listSteps 19 = .ok (.iconst 0, 1) := by decide +kernel
theorem dX0_listSteps_20 : decode cX0_listSteps 20 = .ok (.istore_n 2, 1) := by decide +kernel
theorem dX0_listSteps_21 : decode cX0_listSteps 21 = .ok (.iload_n 2, 1) := by decide +kernel
theorem dX0_listSteps_22 : decode cX0_listSteps 22 = .ok (.aload_n 0, 1) := by decide +kernel
theorem dX0_listSteps_23 : decode cX0_listSteps 23 = .ok (.getfield 37, 3) := by decide +kernel
theorem dX0_listSteps_26 : decode cX0_listSteps 26 = .ok (.getfield 67, 3) := by decide +kernel
theorem dX0_listSteps_29 : decode cX0_listSteps 29 = .ok (.if_icmp .ge 102, 3) := by decide +kernel
theorem dX0_listSteps_32 : decode cX0_listSteps 32 = .ok (.aload_n 0, 1) := by decide +kernel
theorem dX0_listSteps_33 : decode cX0_listSteps 33 = .ok (.getfield 25, 3) := by decide +kernel
theorem dX0_listSteps_36 : decode cX0_listSteps 36 = .ok (.iload_n 1, 1) := by decide +kernel
theorem dX0_listSteps_37 : decode cX0_listSteps 37 = .ok (.iaload, 1) := by decide +kernel
theorem dX0_listSteps_38 : decode cX0_listSteps 38 = .ok (.iload_n 2, 1) := by decide +kernel
theorem dX0_listSteps_39 : decode cX0_listSteps 39 = .ok (.invokestatic 117, 3) := by decide +kernel
theorem dX0_listSteps_42 : decode cX0_listSteps 42 = .ok (.ifCond .eq 17, 3) := by decide +kernel
theorem dX0_listSteps_45 : decode cX0_listSteps 45 = .ok (.iload_n 2, 1) := by decide +kernel
theorem dX0_listSteps_46 : decode cX0_listSteps 46 = .ok (.iload_n 1, 1) := by decide +kernel
theorem dX0_listSteps_47 : decode cX0_listSteps 47 = .ok (.if_icmp .eq 12, 3) := by decide +kernel
theorem dX0_listSteps_50 : decode cX0_listSteps 50 = .ok (.aload_n 0, 1) := by decide +kernel
theorem dX0_listSteps_51 : decode cX0_listSteps 51 = .ok (.iload_n 1, 1) := by decide +kernel
theorem dX0_listSteps_52 : decode cX0_listSteps 52 = .ok (.iload_n 2, 1) := by decide +kernel
theorem dX0_listSteps_53 : decode cX0_listSteps 53 = .ok (.invokevirtual 142, 3) := by decide +kernel
theorem dX0_listSteps_56 : decode cX0_listSteps 56 = .ok (.goto 4, 3) := by decide +kernel
theorem dX0_listSteps_59 : decode cX0_listSteps 59 = .ok (.iconst 0, 1) := by decide +kernel
theorem dX0_listSteps_60 : decode cX0_listSteps 60 = .ok (.istore_n 3, 1) := by decide +kernel
theorem dX0_listSteps_61 : decode cX0_listSteps 61 = .ok (.iconst 0, 1) := by decide +kernel
theorem dX0_listSteps_62 : decode cX0_listSteps 62 = .ok (.istore 4, 2) := by decide +kernel
theorem dX0_listSteps_64 : decode cX0_listSteps 64 = .ok (.iload_n 3, 1) := by decide +kernel
theorem dX0_listSteps_65 : decode cX0_listSteps 65 = .ok (.ifCond .eq 60, 3) := by decide +kernel
theorem dX0_listSteps_68 : decode cX0_listSteps 68 = .ok (.iload 4, 2) := by decide +kernel
theorem dX0_listSteps_70 : decode cX0_listSteps 70 = .ok (.aload_n 0, 1) := by decide +kernel
theorem dX0_listSteps_71 : decode cX0_listSteps 71 = .ok (.getfield 37, 3) := by decide +kernel
theorem dX0_listSteps_74 : decode cX0_listSteps 74 = .ok (.getfield 67, 3) := by decide +kernel
theorem dX0_listSteps_77 : decode cX0_listSteps 77 = .ok (.if_icmp .ge 48, 3) := by decide +kernel
theorem dX0_listSteps_80 : decode cX0_listSteps 80 = .ok (.iload_n 3, 1) := by decide +kernel
theorem dX0_listSteps_81 : decode cX0_listSteps 81 = .ok (.iload 4, 2) := by decide +kernel
theorem dX0_listSteps_83 : decode cX0_listSteps 83 = .ok (.invokestatic 117, 3) := by decide +kernel
theorem dX0_listSteps_86 : decode cX0_listSteps 86 = .ok (.ifCond .eq 33, 3) := by decide +kernel
theorem dX0_listSteps_89 : decode cX0_listSteps 89 = .ok (.aload_n 0, 1) := by decide +kernel
theorem dX0_listSteps_90 : decode cX0_listSteps 90 = .ok (.iload_n 2, 1) := by decide +kernel
theorem dX0_listSteps_91 : decode cX0_listSteps 91 = .ok (.iload 4, 2) := by decide +kernel
theorem dX0_listSteps_93 : decode cX0_listSteps 93 = .ok (.invokevirtual 139, 3) := by decide +kernel
theorem dX0_listSteps_96 : decode cX0_listSteps 96 = .ok (.ifCond .eq 23, 3) := by decide +kernel
theorem dX0_listSteps_99 : decode cX0_listSteps 99 = .ok (.aload_n 0, 1) := by decide +kernel
theorem dX0_listSteps_100 : decode cX0_listSteps 100 = .ok (.sipush 1000, 3) := by decide +kernel
theorem dX0_listSteps_103 : decode cX0_listSteps 103 = .ok (.bipush 100, 2) := by decide +kernel
theorem dX0_listSteps_105 : decode cX0_listSteps 105 = .ok (.iload_n 1, 1) := by decide +kernel
theorem dX0_listSteps_106 : decode cX0_listSteps 106 = .ok (.imul, 1) := by decide +kernel
theorem dX0_listSteps_107 : decode cX0_listSteps 107 = .ok (.iadd, 1) := by decide +kernel
theorem dX0_listSteps_108 : decode cX0_listSteps 108 = .ok (.bipush 10, 2) := by decide +kernel
theorem dX0_listSteps_110 : decode cX0_listSteps 110 = .ok (.iload_n 2, 1) := by decide +kernel
theorem dX0_listSteps_111 : decode cX0_listSteps 111 = .ok (.imul, 1) := by decide +kernel
theorem dX0_listSteps_112 : decode cX0_listSteps 112 = .ok (.iadd, 1) := by decide +kernel
theorem dX0_listSteps_113 : decode cX0_listSteps 113 = .ok (.iload 4, 2) := by decide +kernel
theorem dX0_listSteps_115 : decode cX0_listSteps 115 = .ok (.iadd, 1) := by decide +kernel
theorem dX0_listSteps_116 : decode cX0_listSteps 116 = .ok (.invokevirtual 133, 3) := by decide +kernel
theorem dX0_listSteps_119 : decode cX0_listSteps 119 = .ok (.iinc 4 1, 3) := by decide +kernel
theorem dX0_listSteps_122 : decode cX0_listSteps 122 = .ok (.goto (-58), 3) := by decide +kernel
theorem dX0_listSteps_125 : decode cX0_listSteps 125 = .ok (.iinc 2 1, 3) := by decide +kernel
theorem dX0_listSteps_128 : decode cX0_listSteps 128 = .ok (.goto (-107), 3) := by decide +kernel
theorem dX0_listSteps_131 : decode cX0_listSteps 131 = .ok (.return_, 1) := by decide +kernel
theorem dX0_lowLink_0 : decode cX0_lowLink 0 = .ok (.aload_n 0, 1) := by decide +kernel
theorem dX0_lowLink_1 : decode cX0_lowLink 1 = .ok (.getfield 15, 3) := by decide +kernel
theorem dX0_lowLink_4 : decode cX0_lowLink 4 = .ok (.iconst 2, 1) := by decide +kernel
theorem dX0_lowLink_5 : decode cX0_lowLink 5 = .ok (.iload_n 1, 1) := by decide +kernel
theorem dX0_lowLink_6 : decode cX0_lowLink 6 = .ok (.imul, 1) := by decide +kernel
theorem dX0_lowLink_7 : decode cX0_lowLink 7 = .ok (.iaload, 1) := by decide +kernel
theorem dX0_lowLink_8 : decode cX0_lowLink 8 = .ok (.istore_n 3, 1) := by decide +kernel
theorem dX0_lowLink_9 : decode cX0_lowLink 9 = .ok (.aload_n 0, 1) := by decide +kernel
theorem dX0_lowLink_10 : decode cX0_lowLink 10 = .ok (.getfield 15, 3) := by decide +kernel
theorem dX0_lowLink_13 : decode cX0_lowLink 13 = .ok (.iconst 2, 1) := by decide +kernel
theorem dX0_lowLink_14 : decode cX0_lowLink 14 = .ok (.iload_n 2, 1) := by decide +kernel
theorem dX0_lowLink_15 : decode cX0_lowLink 15 = .ok (.imul, 1) := by decide +kernel
theorem dX0_lowLink_16 : decode cX0_lowLink 16 = .ok (.iaload, 1) := by decide +kernel
theorem dX0_lowLink_17 : decode cX0_lowLink 17 = .ok (.istore 4, 2) := by decide +kernel
theorem dX0_lowLink_19 : decode cX0_lowLink 19 = .ok (.aload_n 0, 1) := by decide +kernel
theorem dX0_lowLink_20 : decode cX0_lowLink 20 = .ok (.getfield 37, 3) := by decide +kernel
theorem dX0_lowLink_23 : decode cX0_lowLink 23 = .ok (.getfield 121, 3) := by decide +kernel
theorem dX0_lowLink_26 : decode cX0_lowLink 26 = .ok (.iload_n 3, 1) := by decide +kernel
theorem dX0_lowLink_27 : decode cX0_lowLink 27 = .ok (.iload 4, 2) := by decide +kernel
theorem dX0_lowLink_29 : decode cX0_lowLink 29 = .ok (.if_icmp .ge 7, 3) := by decide +kernel
theorem dX0_lowLink_32 : decode cX0_lowLink 32 = .ok (.iload_n 3, 1) := by decide +kernel
theorem dX0_lowLink_33 : decode cX0_lowLink 33 = .ok (.goto 5, 3) := by decide +kernel
theorem dX0_lowLink_36 : decode cX0_lowLink 36 = .ok (.iload 4, 2) := by decide +kernel
theorem dX0_lowLink_38 : decode cX0_lowLink 38 = .ok (.iaload, 1) := by decide +kernel
theorem dX0_lowLink_39 : decode cX0_lowLink 39 = .ok (.ireturn, 1) := by decide +kernel
theorem dX0_fits_0 : decode cX0_fits 0 = .ok (.aload_n 0, 1) := by decide +kernel
theorem dX0_fits_1 : decode cX0_fits 1 = .ok (.getfield 37, 3) := by decide +kernel
theorem dX0_fits_4 : decode cX0_fits 4 = .ok (.getfield 145, 3) := by decide +kernel
theorem dX0_fits_7 : decode cX0_fits 7 = .ok (.aload_n 0, 1) := by decide +kernel
theorem dX0_fits_8 : decode cX0_fits 8 = .ok (.iload_n 1, 1) := by decide +kernel
theorem dX0_fits_9 : decode cX0_fits 9 = .ok (.iload_n 2, 1) := by decide +kernel
theorem dX0_fits_10 : decode cX0_fits 10 = .ok (.invokevirtual 149, 3) := by decide +kernel
theorem dX0_fits_13 : decode cX0_fits 13 = .ok (.baload, 1) := by decide +kernel
theorem dX0_fits_14 : decode cX0_fits 14 = .ok (.ireturn, 1) := by decide +kernel
theorem dX0_can_0 : decode cX0_can 0 = .ok (.iload_n 1, 1) := by decide +kernel
theorem dX0_can_1 : decode cX0_can 1 = .ok (.invokestatic 41, 3) := by decide +kernel
theorem dX0_can_4 : decode cX0_can 4 = .ok (.istore_n 2, 1) := by decide +kernel
theorem dX0_can_5 : decode cX0_can 5 = .ok (.iload_n 1, 1) := by decide +kernel
theorem dX0_can_6 : decode cX0_can 6 = .ok (.invokestatic 45, 3) := by decide +kernel
theorem dX0_can_9 : decode cX0_can 9 = .ok (.istore_n 3, 1) := by decide +kernel
theorem dX0_can_10 : decode cX0_can 10 = .ok (.iload_n 1, 1) := by decide +kernel
theorem dX0_can_11 : decode cX0_can 11 = .ok (.bipush 100, 2) := by decide +kernel
theorem dX0_can_13 : decode cX0_can 13 = .ok (.if_icmp .ge 14, 3) := by decide +kernel
theorem dX0_can_16 : decode cX0_can 16 = .ok (.aload_n 0, 1) := by decide +kernel
theorem dX0_can_17 : decode cX0_can 17 = .ok (.getfield 28, 3) := by decide +kernel
theorem dX0_can_20 : decode cX0_can 20 = .ok (.iload_n 2, 1) := by decide +kernel
theorem dX0_can_21 : decode cX0_can 21 = .ok (.iaload, 1) := by decide +kernel
theorem dX0_can_22 : decode cX0_can 22 = .ok (.iload_n 2, 1) := by decide +kernel
theorem dX0_can_23 : decode cX0_can 23 = .ok (.invokestatic 117, 3) := by decide +kernel
theorem dX0_can_26 : decode cX0_can 26 = .ok (.ireturn, 1) := by decide +kernel
theorem dX0_can_27 : decode cX0_can 27 = .ok (.iload_n 1, 1) := by decide +kernel
theorem dX0_can_28 : decode cX0_can 28 = .ok (.sipush 1000, 3) := by decide +kernel
theorem dX0_can_31 : decode cX0_can 31 = .ok (.if_icmp .ge 13, 3) := by decide +kernel
theorem dX0_can_34 : decode cX0_can 34 = .ok (.aload_n 0, 1) := by decide +kernel
theorem dX0_can_35 : decode cX0_can 35 = .ok (.iload_n 2, 1) := by decide +kernel
theorem dX0_can_36 : decode cX0_can 36 = .ok (.invokevirtual 136, 3) := by decide +kernel
theorem dX0_can_39 : decode cX0_can 39 = .ok (.iload_n 3, 1) := by decide +kernel
theorem dX0_can_40 : decode cX0_can 40 = .ok (.invokestatic 117, 3) := by decide +kernel
theorem dX0_can_43 : decode cX0_can 43 = .ok (.ireturn, 1) := by decide +kernel
theorem dX0_can_44 : decode cX0_can 44 = .ok (.aload_n 0, 1) := by decide +kernel
theorem dX0_can_45 : decode cX0_can 45 = .ok (.getfield 25, 3) := by decide +kernel
theorem dX0_can_48 : decode cX0_can 48 = .ok (.iload_n 2, 1) := by decide +kernel
theorem dX0_can_49 : decode cX0_can 49 = .ok (.iaload, 1) := by decide +kernel
theorem dX0_can_50 : decode cX0_can 50 = .ok (.iload_n 3, 1) := by decide +kernel
theorem dX0_can_51 : decode cX0_can 51 = .ok (.invokestatic 117, 3) := by decide +kernel
theorem dX0_can_54 : decode cX0_can 54 = .ok (.ifCond .eq 23, 3) := by decide +kernel
theorem dX0_can_57 : decode cX0_can 57 = .ok (.aload_n 0, 1) := by decide +kernel
theorem dX0_can_58 : decode cX0_can 58 = .ok (.iload_n 2, 1) := by decide +kernel
theorem dX0_can_59 : decode cX0_can 59 = .ok (.iload_n 3, 1) := by decide +kernel
theorem dX0_can_60 : decode cX0_can 60 = .ok (.invokevirtual 142, 3) := by decide +kernel
theorem dX0_can_63 : decode cX0_can 63 = .ok (.iload_n 1, 1) := by decide +kernel
theorem dX0_can_64 : decode cX0_can 64 = .ok (.invokestatic 48, 3) := by decide +kernel
theorem dX0_can_67 : decode cX0_can 67 = .ok (.invokestatic 117, 3) := by decide +kernel
theorem dX0_can_70 : decode cX0_can 70 = .ok (.ifCond .eq 7, 3) := by decide +kernel
theorem dX0_can_73 : decode cX0_can 73 = .ok (.iconst 1, 1) := by decide +kernel
theorem dX0_can_74 : decode cX0_can 74 = .ok (.goto 4, 3) := by decide +kernel
theorem dX0_can_77 : decode cX0_can 77 = .ok (.iconst 0, 1) := by decide +kernel
theorem dX0_can_78 : decode cX0_can 78 = .ok (.ireturn, 1) := by decide +kernel
theorem dX0_goerLink_0 : decode cX0_goerLink 0 = .ok (.iload_n 1, 1) := by decide +kernel
theorem dX0_goerLink_1 : decode cX0_goerLink 1 = .ok (.sipush 1000, 3) := by decide +kernel
theorem dX0_goerLink_4 : decode cX0_goerLink 4 = .ok (.if_icmp .ge 10, 3) := by decide +kernel
theorem dX0_goerLink_7 : decode cX0_goerLink 7 = .ok (.iload_n 1, 1) := by decide +kernel
theorem dX0_goerLink_8 : decode cX0_goerLink 8 = .ok (.invokestatic 41, 3) := by decide +kernel
theorem dX0_goerLink_11 : decode cX0_goerLink 11 = .ok (.goto 7, 3) := by decide +kernel
theorem dX0_goerLink_14 : decode cX0_goerLink 14 = .ok (.iload_n 1, 1) := by decide +kernel
theorem dX0_goerLink_15 : decode cX0_goerLink 15 = .ok (.invokestatic 45, 3) := by decide +kernel
theorem dX0_goerLink_18 : decode cX0_goerLink 18 = .ok (.istore_n 2, 1) := by decide +kernel
theorem dX0_goerLink_19 : decode cX0_goerLink 19 = .ok (.iload_n 1, 1) := by decide +kernel
theorem dX0_goerLink_20 : decode cX0_goerLink 20 = .ok (.sipush 1000, 3) := by decide +kernel
theorem dX0_goerLink_23 : decode cX0_goerLink 23 = .ok (.if_icmp .ge 10, 3) := by decide +kernel
theorem dX0_goerLink_26 : decode cX0_goerLink 26 = .ok (.iload_n 1, 1) := by decide +kernel
theorem dX0_goerLink_27 : decode cX0_goerLink 27 = .ok (.invokestatic 45, 3) := by decide +kernel
theorem dX0_goerLink_30 : decode cX0_goerLink 30 = .ok (.goto 7, 3) := by decide +kernel
theorem dX0_goerLink_33 : decode cX0_goerLink 33 = .ok (.iload_n 1, 1) := by decide +kernel
theorem dX0_goerLink_34 : decode cX0_goerLink 34 = .ok (.invokestatic 48, 3) := by decide +kernel
theorem dX0_goerLink_37 : decode cX0_goerLink 37 = .ok (.istore_n 3, 1) := by decide +kernel
theorem dX0_goerLink_38 : decode cX0_goerLink 38 = .ok (.aload_n 0, 1) := by decide +kernel
theorem dX0_goerLink_39 : decode cX0_goerLink 39 = .ok (.iload_n 2, 1) := by decide +kernel
theorem dX0_goerLink_40 : decode cX0_goerLink 40 = .ok (.iload_n 3, 1) := by decide +kernel
theorem dX0_goerLink_41 : decode cX0_goerLink 41 = .ok (.invokevirtual 149, 3) := by decide +kernel
theorem dX0_goerLink_44 : decode cX0_goerLink 44 = .ok (.ireturn, 1) := by decide +kernel
theorem dX0_allows_0 : decode cX0_allows 0 = .ok (.aload_n 0, 1) := by decide +kernel
theorem dX0_allows_1 : decode cX0_allows 1 = .ok (.iload_n 1, 1) := by decide +kernel
theorem dX0_allows_2 : decode cX0_allows 2 = .ok (.invokevirtual 152, 3) := by decide +kernel
theorem dX0_allows_5 : decode cX0_allows 5 = .ok (.ifCond .eq 29, 3) := by decide +kernel
theorem dX0_allows_8 : decode cX0_allows 8 = .ok (.iload_n 1, 1) := by decide +kernel
theorem dX0_allows_9 : decode cX0_allows 9 = .ok (.bipush 100, 2) := by decide +kernel
theorem dX0_allows_11 : decode cX0_allows 11 = .ok (.if_icmp .lt 19, 3) := by decide +kernel
theorem dX0_allows_14 : decode cX0_allows 14 = .ok (.aload_n 0, 1) := by decide +kernel
theorem dX0_allows_15 : decode cX0_allows 15 = .ok (.getfield 37, 3) := by decide +kernel
theorem dX0_allows_18 : decode cX0_allows 18 = .ok (.getfield 145, 3) := by decide +kernel
theorem dX0_allows_21 : decode cX0_allows 21 = .ok (.aload_n 0, 1) := by decide +kernel
theorem dX0_allows_22 : decode cX0_allows 22 = .ok (.iload_n 1, 1) := by decide +kernel
theorem dX0_allows_23 : decode cX0_allows 23 = .ok (.invokevirtual 155, 3) := by decide +kernel
theorem dX0_allows_26 : decode cX0_allows 26 = .ok (.baload, 1) := by decide +kernel
theorem dX0_allows_27 : decode cX0_allows 27 = .ok (.ifCond .eq 7, 3) := by decide +kernel
theorem dX0_allows_30 : decode cX0_allows 30 = .ok (.iconst 1, 1) := by decide +kernel
theorem dX0_allows_31 : decode cX0_allows 31 = .ok (.goto 4, 3) := by decide +kernel
theorem dX0_allows_34 : decode cX0_allows 34 = .ok (.iconst 0, 1) := by decide +kernel
theorem dX0_allows_35 : decode cX0_allows 35 = .ok (.ireturn, 1) := by decide +kernel
theorem dX0_whoGoes_0 : decode cX0_whoGoes 0 = .ok (.iload_n 1, 1) := by decide +kernel
theorem dX0_whoGoes_1 : decode cX0_whoGoes 1 = .ok (.bipush 100, 2) := by decide +kernel
theorem dX0_whoGoes_3 : decode cX0_whoGoes 3 = .ok (.if_icmp .ge 8, 3) := by decide +kernel
theorem dX0_whoGoes_6 : decode cX0_whoGoes 6 = .ok (.bipush (-2), 2) := by decide +kernel
theorem dX0_whoGoes_8 : decode cX0_whoGoes 8 = .ok (.goto 16, 3) := by decide +kernel
theorem dX0_whoGoes_11 : decode cX0_whoGoes 11 = .ok (.aload_n 0, 1) := by decide +kernel
theorem dX0_whoGoes_12 : decode cX0_whoGoes 12 = .ok (.getfield 37, 3) := by decide +kernel
theorem dX0_whoGoes_15 : decode cX0_whoGoes 15 = .ok (.getfield 158, 3) := by decide +kernel
theorem dX0_whoGoes_18 : decode cX0_whoGoes 18 = .ok (.aload_n 0, 1) := by decide +kernel
theorem dX0_whoGoes_19 : decode cX0_whoGoes 19 = .ok (.iload_n 1, 1) := by decide +kernel
theorem dX0_whoGoes_20 : decode cX0_whoGoes 20 = .ok (.invokevirtual 155, 3) := by decide +kernel
theorem dX0_whoGoes_23 : decode cX0_whoGoes 23 = .ok (.iaload, 1) := by decide +kernel
theorem dX0_whoGoes_24 : decode cX0_whoGoes 24 = .ok (.ireturn, 1) := by decide +kernel
theorem dX0_leftBehind_0 : decode cX0_leftBehind 0 = .ok (.iload_n 1, 1) := by decide +kernel
theorem dX0_leftBehind_1 : decode cX0_leftBehind 1 = .ok (.bipush 100, 2) := by decide +kernel
theorem dX0_leftBehind_3 : decode cX0_leftBehind 3 = .ok (.if_icmp .ge 12, 3) := by decide +kernel
theorem dX0_leftBehind_6 : decode cX0_leftBehind 6 = .ok (.aload_n 0, 1) := by decide +kernel
theorem dX0_leftBehind_7 : decode cX0_leftBehind 7 = .ok (.getfield 79, 3) := by decide +kernel
theorem dX0_leftBehind_10 : decode cX0_leftBehind 10 = .ok (.iconst 1, 1) := by decide +kernel
theorem dX0_leftBehind_11 : decode cX0_leftBehind 11 = .ok (.isub, 1) := by decide +kernel
theorem dX0_leftBehind_12 : decode cX0_leftBehind 12 = .ok (.goto 23, 3) := by decide +kernel
theorem dX0_leftBehind_15 : decode cX0_leftBehind 15 = .ok (.iload_n 1, 1) := by decide +kernel
theorem dX0_leftBehind_16 : decode cX0_leftBehind 16 = .ok (.sipush 1000, 3) := by decide +kernel
theorem dX0_leftBehind_19 : decode cX0_leftBehind 19 = .ok (.if_icmp .ge 12, 3) := by decide +kernel
theorem dX0_leftBehind_22 : decode cX0_leftBehind 22 = .ok (.aload_n 0, 1) := by decide +kernel
theorem dX0_leftBehind_23 : decode cX0_leftBehind 23 = .ok (.getfield 79, 3) := by decide +kernel
theorem dX0_leftBehind_26 : decode cX0_leftBehind 26 = .ok (.iconst 2, 1) := by decide +kernel
theorem dX0_leftBehind_27 : decode cX0_leftBehind 27 = .ok (.isub, 1) := by decide +kernel
theorem dX0_leftBehind_28 : decode cX0_leftBehind 28 = .ok (.goto 7, 3) := by decide +kernel
theorem dX0_leftBehind_31 : decode cX0_leftBehind 31 = .ok (.aload_n 0, 1) := by decide +kernel
theorem dX0_leftBehind_32 : decode cX0_leftBehind 32 = .ok (.getfield 79, 3) := by decide +kernel
theorem dX0_leftBehind_35 : decode cX0_leftBehind 35 = .ok (.ireturn, 1) := by decide +kernel
theorem dX0_drawn_0 : decode cX0_drawn 0 = .ok (.aload_n 0, 1) := by decide +kernel
theorem dX0_drawn_1 : decode cX0_drawn 1 = .ok (.getfield 82, 3) := by decide +kernel
theorem dX0_drawn_4 : decode cX0_drawn 4 = .ok (.ifCond .ne 8, 3) := by decide +kernel
theorem dX0_drawn_7 : decode cX0_drawn 7 = .ok (.bipush (-2), 2) := by decide +kernel
theorem dX0_drawn_9 : decode cX0_drawn 9 = .ok (.goto 14, 3) := by decide +kernel
theorem dX0_drawn_12 : decode cX0_drawn 12 = .ok (.aload_n 0, 1) := by decide +kernel
theorem dX0_drawn_13 : decode cX0_drawn 13 = .ok (.getfield 34, 3) := by decide +kernel
theorem dX0_drawn_16 : decode cX0_drawn 16 = .ok (.iload_n 1, 1) := by decide +kernel
theorem dX0_drawn_17 : decode cX0_drawn 17 = .ok (.aload_n 0, 1) := by decide +kernel
theorem dX0_drawn_18 : decode cX0_drawn 18 = .ok (.getfield 82, 3) := by decide +kernel
theorem dX0_drawn_21 : decode cX0_drawn 21 = .ok (.irem, 1) := by decide +kernel
theorem dX0_drawn_22 : decode cX0_drawn 22 = .ok (.iaload, 1) := by decide +kernel
theorem dX0_drawn_23 : decode cX0_drawn 23 = .ok (.ireturn, 1) := by decide +kernel
theorem dX0_after_0 : decode cX0_after 0 = .ok (.iload_n 1, 1) := by decide +kernel
theorem dX0_after_1 : decode cX0_after 1 = .ok (.invokestatic 41, 3) := by decide +kernel
theorem dX0_after_4 : decode cX0_after 4 = .ok (.istore_n 2, 1) := by decide +kernel
theorem dX0_after_5 : decode cX0_after 5 = .ok (.iload_n 1, 1) := by decide +kernel
theorem dX0_after_6 : decode cX0_after 6 = .ok (.invokestatic 45, 3) := by decide +kernel
theorem dX0_after_9 : decode cX0_after 9 = .ok (.istore_n 3, 1) := by decide +kernel
theorem dX0_after_10 : decode cX0_after 10 = .ok (.iload_n 1, 1) := by decide +kernel
theorem dX0_after_11 : decode cX0_after 11 = .ok (.bipush 100, 2) := by decide +kernel
theorem dX0_after_13 : decode cX0_after 13 = .ok (.if_icmp .ge 18, 3) := by decide +kernel
theorem dX0_after_16 : decode cX0_after 16 = .ok (.aload_n 0, 1) := by decide +kernel
theorem dX0_after_17 : decode cX0_after 17 = .ok (.getfield 65, 3) := by decide +kernel
theorem dX0_after_20 : decode cX0_after 20 = .ok (.aload_n 0, 1) := by decide +kernel
theorem dX0_after_21 : decode cX0_after 21 = .ok (.iload_n 2, 1) := by decide +kernel
theorem dX0_after_22 : decode cX0_after 22 = .ok (.invokevirtual 161, 3) := by decide +kernel
theorem dX0_after_25 : decode cX0_after 25 = .ok (.ldc2_w 165, 3) := by decide +kernel
theorem dX0_after_28 : decode cX0_after 28 = .ok (.lxor, 1) := by decide +kernel
theorem dX0_after_29 : decode cX0_after 29 = .ok (.land, 1) := by decide +kernel
theorem dX0_after_30 : decode cX0_after 30 = .ok (.lreturn, 1) := by decide +kernel
theorem dX0_after_31 : decode cX0_after 31 = .ok (.iload_n 1, 1) := by decide +kernel
theorem dX0_after_32 : decode cX0_after 32 = .ok (.sipush 1000, 3) := by decide +kernel
theorem dX0_after_35 : decode cX0_after 35 = .ok (.if_icmp .ge 28, 3) := by decide +kernel
theorem dX0_after_38 : decode cX0_after 38 = .ok (.aload_n 0, 1) := by decide +kernel
theorem dX0_after_39 : decode cX0_after 39 = .ok (.getfield 65, 3) := by decide +kernel
theorem dX0_after_42 : decode cX0_after 42 = .ok (.aload_n 0, 1) := by decide +kernel
theorem dX0_after_43 : decode cX0_after 43 = .ok (.iload_n 2, 1) := by decide +kernel
theorem dX0_after_44 : decode cX0_after 44 = .ok (.invokevirtual 161, 3) := by decide +kernel
theorem dX0_after_47 : decode cX0_after 47 = .ok (.ldc2_w 165, 3) := by decide +kernel
theorem dX0_after_50 : decode cX0_after 50 = .ok (.lxor, 1) := by decide +kernel
theorem dX0_after_51 : decode cX0_after 51 = .ok (.land, 1) := by decide +kernel
theorem dX0_after_52 : decode cX0_after 52 = .ok (.aload_n 0, 1) := by decide +kernel
theorem dX0_after_53 : decode cX0_after 53 = .ok (.iload_n 3, 1) := by decide +kernel
theorem dX0_after_54 : decode cX0_after 54 = .ok (.invokevirtual 161, 3) := by decide +kernel
theorem dX0_after_57 : decode cX0_after 57 = .ok (.ldc2_w 165, 3) := by decide +kernel
theorem dX0_after_60 : decode cX0_after 60 = .ok (.lxor, 1) := by decide +kernel
theorem dX0_after_61 : decode cX0_after 61 = .ok (.land, 1) := by decide +kernel
theorem dX0_after_62 : decode cX0_after 62 = .ok (.lreturn, 1) := by decide +kernel
theorem dX0_after_63 : decode cX0_after 63 = .ok (.iload_n 1, 1) := by decide +kernel
theorem dX0_after_64 : decode cX0_after 64 = .ok (.invokestatic 48, 3) := by decide +kernel
theorem dX0_after_67 : decode cX0_after 67 = .ok (.istore 4, 2) := by decide +kernel
theorem dX0_after_69 : decode cX0_after 69 = .ok (.aload_n 0, 1) := by decide +kernel
theorem dX0_after_70 : decode cX0_after 70 = .ok (.getfield 65, 3) := by decide +kernel
theorem dX0_after_73 : decode cX0_after 73 = .ok (.aload_n 0, 1) := by decide +kernel
theorem dX0_after_74 : decode cX0_after 74 = .ok (.iconst 2, 1) := by decide +kernel
theorem dX0_after_75 : decode cX0_after 75 = .ok (.iload_n 2, 1) := by decide +kernel
theorem dX0_after_76 : decode cX0_after 76 = .ok (.imul, 1) := by decide +kernel
theorem dX0_after_77 : decode cX0_after 77 = .ok (.iconst 1, 1) := by decide +kernel
theorem dX0_after_78 : decode cX0_after 78 = .ok (.iadd, 1) := by decide +kernel
theorem dX0_after_79 : decode cX0_after 79 = .ok (.iconst 2, 1) := by decide +kernel
theorem dX0_after_80 : decode cX0_after 80 = .ok (.iload_n 3, 1) := by decide +kernel
theorem dX0_after_81 : decode cX0_after 81 = .ok (.imul, 1) := by decide +kernel
theorem dX0_after_82 : decode cX0_after 82 = .ok (.iconst 1, 1) := by decide +kernel
theorem dX0_after_83 : decode cX0_after 83 = .ok (.iadd, 1) := by decide +kernel
theorem dX0_after_84 : decode cX0_after 84 = .ok (.invokevirtual 167, 3) := by decide +kernel
theorem dX0_after_87 : decode cX0_after 87 = .ok (.lxor, 1) := by decide +kernel
theorem dX0_after_88 : decode cX0_after 88 = .ok (.aload_n 0, 1) := by decide +kernel
theorem dX0_after_89 : decode cX0_after 89 = .ok (.iconst 2, 1) := by decide +kernel
theorem dX0_after_90 : decode cX0_after 90 = .ok (.iload_n 2, 1) := by decide +kernel
theorem dX0_after_91 : decode cX0_after 91 = .ok (.imul, 1) := by decide +kernel
theorem dX0_after_92 : decode cX0_after 92 = .ok (.iconst 2, 1) := by decide +kernel
theorem dX0_after_93 : decode cX0_after 93 = .ok (.iload 4, 2) := by decide +kernel
theorem dX0_after_95 : decode cX0_after 95 = .ok (.imul, 1) := by decide +kernel
theorem dX0_after_96 : decode cX0_after 96 = .ok (.iconst 1, 1) := by decide +kernel
theorem dX0_after_97 : decode cX0_after 97 = .ok (.iadd, 1) := by decide +kernel
theorem dX0_after_98 : decode cX0_after 98 = .ok (.invokevirtual 167, 3) := by decide +kernel
theorem dX0_after_101 : decode cX0_after 101 = .ok (.lxor, 1) := by decide +kernel
theorem dX0_after_102 : decode cX0_after 102 = .ok (.aload_n 0, 1) := by decide +kernel
theorem dX0_after_103 : decode cX0_after 103 = .ok (.iconst 2, 1) := by decide +kernel
theorem dX0_after_104 : decode cX0_after 104 = .ok (.iload_n 3, 1) := by decide +kernel
theorem dX0_after_105 : decode cX0_after 105 = .ok (.imul, 1) := by decide +kernel
theorem dX0_after_106 : decode cX0_after 106 = .ok (.iconst 2, 1) := by decide +kernel
theorem dX0_after_107 : decode cX0_after 107 = .ok (.iload 4, 2) := by decide +kernel
theorem dX0_after_109 : decode cX0_after 109 = .ok (.imul, 1) := by decide +kernel
theorem dX0_after_110 : decode cX0_after 110 = .ok (.invokevirtual 167, 3) := by decide +kernel
theorem dX0_after_113 : decode cX0_after 113 = .ok (.lxor, 1) := by decide +kernel
theorem dX0_after_114 : decode cX0_after 114 = .ok (.lreturn, 1) := by decide +kernel
theorem dX0_placesOf_0 : decode cX0_placesOf 0 = .ok (.ldc2_w 171, 3) := by decide +kernel
theorem dX0_placesOf_3 : decode cX0_placesOf 3 = .ok (.iconst 4, 1) := by decide +kernel
theorem dX0_placesOf_4 : decode cX0_placesOf 4 = .ok (.aload_n 0, 1) := by decide +kernel
theorem dX0_placesOf_5 : decode cX0_placesOf 5 = .ok (.getfield 15, 3) := by decide +kernel
theorem dX0_placesOf_8 : decode cX0_placesOf 8 = .ok (.iconst 2, 1) := by decide +kernel
theorem dX0_placesOf_9 : decode cX0_placesOf 9 = .ok (.iload_n 1, 1) := by decide +kernel
theorem dX0_placesOf_10 : decode cX0_placesOf 10 = .ok (.imul, 1) := by decide +kernel
theorem dX0_placesOf_11 : decode cX0_placesOf 11 = .ok (.iaload, 1) := by decide +kernel
theorem dX0_placesOf_12 : decode cX0_placesOf 12 = .ok (.imul, 1) := by decide +kernel
theorem dX0_placesOf_13 : decode cX0_placesOf 13 = .ok (.lshl, 1) := by decide +kernel
theorem dX0_placesOf_14 : decode cX0_placesOf 14 = .ok (.ldc2_w 171, 3) := by decide +kernel
theorem dX0_placesOf_17 : decode cX0_placesOf 17 = .ok (.iconst 4, 1) := by decide +kernel
theorem dX0_placesOf_18 : decode cX0_placesOf 18 = .ok (.aload_n 0, 1) := by decide +kernel
theorem dX0_placesOf_19 : decode cX0_placesOf 19 = .ok (.getfield 15, 3) := by decide +kernel
theorem dX0_placesOf_22 : decode cX0_placesOf 22 = .ok (.iconst 2, 1) := by decide +kernel
theorem dX0_placesOf_23 : decode cX0_placesOf 23 = .ok (.iload_n 1, 1) := by decide +kernel
theorem dX0_placesOf_24 : decode cX0_placesOf 24 = .ok (.imul, 1) := by decide +kernel
theorem dX0_placesOf_25 : decode cX0_placesOf 25 = .ok (.iconst 1, 1) := by decide +kernel
theorem dX0_placesOf_26 : decode cX0_placesOf 26 = .ok (.iadd, 1) := by decide +kernel
theorem dX0_placesOf_27 : decode cX0_placesOf 27 = .ok (.iaload, 1) := by decide +kernel
theorem dX0_placesOf_28 : decode cX0_placesOf 28 = .ok (.imul, 1) := by decide +kernel
theorem dX0_placesOf_29 : decode cX0_placesOf 29 = .ok (.lshl, 1) := by decide +kernel
theorem dX0_placesOf_30 : decode cX0_placesOf 30 = .ok (.lor, 1) := by decide +kernel
theorem dX0_placesOf_31 : decode cX0_placesOf 31 = .ok (.lreturn, 1) := by decide +kernel
theorem dX0_exchange_0 : decode cX0_exchange 0 = .ok (.iload_n 1, 1) := by decide +kernel
theorem dX0_exchange_1 : decode cX0_exchange 1 = .ok (.iconst 1, 1) := by decide +kernel
theorem dX0_exchange_2 : decode cX0_exchange 2 = .ok (.iadd, 1) := by decide +kernel
theorem dX0_exchange_3 : decode cX0_exchange 3 = .ok (.iload_n 2, 1) := by decide +kernel
theorem dX0_exchange_4 : decode cX0_exchange 4 = .ok (.iconst 1, 1) := by decide +kernel
theorem dX0_exchange_5 : decode cX0_exchange 5 = .ok (.iadd, 1) := by decide +kernel
theorem dX0_exchange_6 : decode cX0_exchange 6 = .ok (.ixor, 1) := by decide +kernel
theorem dX0_exchange_7 : decode cX0_exchange 7 = .ok (.i2l, 1) := by decide +kernel
theorem dX0_exchange_8 : decode cX0_exchange 8 = .ok (.lstore_n 3, 1) := by decide +kernel
theorem dX0_exchange_9 : decode cX0_exchange 9 = .ok (.lload_n 3, 1) := by decide +kernel
theorem dX0_exchange_10 : decode cX0_exchange 10 = .ok (.iconst 4, 1) := by decide +kernel
theorem dX0_exchange_11 : decode cX0_exchange 11 = .ok (.aload_n 0, 1) := by decide +kernel
theorem dX0_exchange_12 : decode cX0_exchange 12 = .ok (.getfield 15, 3) := by decide +kernel
theorem dX0_exchange_15 : decode cX0_exchange 15 = .ok (.iload_n 1, 1) := by decide +kernel
theorem dX0_exchange_16 : decode cX0_exchange 16 = .ok (.iaload, 1) := by decide +kernel
theorem dX0_exchange_17 : decode cX0_exchange 17 = .ok (.imul, 1) := by decide +kernel
theorem dX0_exchange_18 : decode cX0_exchange 18 = .ok (.lshl, 1) := by decide +kernel
theorem dX0_exchange_19 : decode cX0_exchange 19 = .ok (.lload_n 3, 1) := by decide +kernel
theorem dX0_exchange_20 : decode cX0_exchange 20 = .ok (.iconst 4, 1) := by decide +kernel
theorem dX0_exchange_21 : decode cX0_exchange 21 = .ok (.aload_n 0, 1) := by decide +kernel
theorem dX0_exchange_22 : decode cX0_exchange 22 = .ok (.getfield 15, 3) := by decide +kernel
theorem dX0_exchange_25 : decode cX0_exchange 25 = .ok (.iload_n 2, 1) := by decide +kernel
theorem dX0_exchange_26 : decode cX0_exchange 26 = .ok (.iaload, 1) := by decide +kernel
theorem dX0_exchange_27 : decode cX0_exchange 27 = .ok (.imul, 1) := by decide +kernel
theorem dX0_exchange_28 : decode cX0_exchange 28 = .ok (.lshl, 1) := by decide +kernel
theorem dX0_exchange_29 : decode cX0_exchange 29 = .ok (.lor, 1) := by decide +kernel
theorem dX0_exchange_30 : decode cX0_exchange 30 = .ok (.lreturn, 1) := by decide +kernel
theorem dX0_make_0 : decode cX0_make 0 = .ok (.aload_n 0, 1) := by decide +kernel
theorem dX0_make_1 : decode cX0_make 1 = .ok (.aload_n 0, 1) := by decide +kernel
theorem dX0_make_2 : decode cX0_make 2 = .ok (.iload_n 1, 1) := by decide +kernel
theorem dX0_make_3 : decode cX0_make 3 = .ok (.invokevirtual 173, 3) := by decide +kernel
theorem dX0_make_6 : decode cX0_make 6 = .ok (.aload_n 0, 1) := by decide +kernel
theorem dX0_make_7 : decode cX0_make 7 = .ok (.getfield 66, 3) := by decide +kernel
theorem dX0_make_10 : decode cX0_make 10 = .ok (.aload_n 0, 1) := by decide +kernel
theorem dX0_make_11 : decode cX0_make 11 = .ok (.getfield 9, 3) := by decide +kernel
theorem dX0_make_14 : decode cX0_make 14 = .ok (.invokevirtual 61, 3) := by decide +kernel
theorem dX0_make_17 : decode cX0_make 17 = .ok (.return_, 1) := by decide +kernel
