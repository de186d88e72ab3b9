theorem dX0_init_0 : decode cX0_init 0 = .ok (.aload_n 0, 1) := by decide +kernel
theorem dX0_init_1 : decode cX0_init 1 = .ok (.invokespecial 3, 3) := by decide +kernel
theorem dX0_init_4 : decode cX0_init 4 = .ok (.aload_n 0, 1) := by decide +kernel
theorem dX0_init_5 : decode cX0_init 5 = .ok (.bipush (-2), 2) := by decide +kernel
theorem dX0_init_7 : decode cX0_init 7 = .ok (.putfield 9, 3) := by decide +kernel
theorem dX0_init_10 : decode cX0_init 10 = .ok (.aload_n 0, 1) := by decide +kernel
theorem dX0_init_11 : decode cX0_init 11 = .ok (.bipush 16, 2) := by decide +kernel
theorem dX0_init_13 : decode cX0_init 13 = .ok (.newarray .int, 2) := by decide +kernel
theorem dX0_init_15 : decode cX0_init 15 = .ok (.putfield 15, 3) := by decide +kernel
theorem dX0_init_18 : decode cX0_init 18 = .ok (.aload_n 0, 1) := by decide +kernel
theorem dX0_init_19 : decode cX0_init 19 = .ok (.bipush 16, 2) := by decide +kernel
theorem dX0_init_21 : decode cX0_init 21 = .ok (.newarray .int, 2) := by decide +kernel
theorem dX0_init_23 : decode cX0_init 23 = .ok (.putfield 19, 3) := by decide +kernel
theorem dX0_init_26 : decode cX0_init 26 = .ok (.aload_n 0, 1) := by decide +kernel
theorem dX0_init_27 : decode cX0_init 27 = .ok (.bipush 9, 2) := by decide +kernel
theorem dX0_init_29 : decode cX0_init 29 = .ok (.newarray .int, 2) := by decide +kernel
theorem dX0_init_31 : decode cX0_init 31 = .ok (.putfield 22, 3) := by decide +kernel
theorem dX0_init_34 : decode cX0_init 34 = .ok (.aload_n 0, 1) := by decide +kernel
theorem dX0_init_35 : decode cX0_init 35 = .ok (.bipush 10, 2) := by decide +kernel
theorem dX0_init_37 : decode cX0_init 37 = .ok (.newarray .int, 2) := by decide +kernel
theorem dX0_init_39 : decode cX0_init 39 = .ok (.putfield 25, 3) := by decide +kernel
theorem dX0_init_42 : decode cX0_init 42 = .ok (.aload_n 0, 1) := by decide +kernel
theorem dX0_init_43 : decode cX0_init 43 = .ok (.bipush 10, 2) := by decide +kernel
theorem dX0_init_45 : decode cX0_init 45 = .ok (.newarray .int, 2) := by decide +kernel
theorem dX0_init_47 : decode cX0_init 47 = .ok (.putfield 28, 3) := by decide +kernel
theorem dX0_init_50 : decode cX0_init 50 = .ok (.aload_n 0, 1) := by decide +kernel
theorem dX0_init_51 : decode cX0_init 51 = .ok (.bipush 10, 2) := by decide +kernel
theorem dX0_init_53 : decode cX0_init 53 = .ok (.newarray .int, 2) := by decide +kernel
theorem dX0_init_55 : decode cX0_init 55 = .ok (.putfield 31, 3) := by decide +kernel
theorem dX0_init_58 : decode cX0_init 58 = .ok (.aload_n 0, 1) := by decide +kernel
theorem dX0_init_59 : decode cX0_init 59 = .ok (.sipush 256, 3) := by decide +kernel
theorem dX0_init_62 : decode cX0_init 62 = .ok (.newarray .int, 2) := by decide +kernel
theorem dX0_init_64 : decode cX0_init 64 = .ok (.putfield 34, 3) := by decide +kernel
theorem dX0_init_67 : decode cX0_init 67 = .ok (.aload_n 0, 1) := by decide +kernel
theorem dX0_init_68 : decode cX0_init 68 = .ok (.aload_n 1, 1) := by decide +kernel
theorem dX0_init_69 : decode cX0_init 69 = .ok (.putfield 37, 3) := by decide +kernel
theorem dX0_init_72 : decode cX0_init 72 = .ok (.return_, 1) := by decide +kernel
theorem dX0_isNumber_0 : decode cX0_isNumber 0 = .ok (.iload_n 0, 1) := by decide +kernel
theorem dX0_isNumber_1 : decode cX0_isNumber 1 = .ok (.ifCond .lt 10, 3) := by decide +kernel
theorem dX0_isNumber_4 : decode cX0_isNumber 4 = .ok (.iload_n 0, 1) := by decide +kernel
theorem dX0_isNumber_5 : decode cX0_isNumber 5 = .ok (.sipush 2000, 3) := by decide +kernel
theorem dX0_isNumber_8 : decode cX0_isNumber 8 = .ok (.if_icmp .lt 5, 3) := by decide +kernel
theorem dX0_isNumber_11 : decode cX0_isNumber 11 = .ok (.iconst 0, 1) := by decide +kernel
theorem dX0_isNumber_12 : decode cX0_isNumber 12 = .ok (.ireturn, 1) := by decide +kernel
theorem dX0_isNumber_13 : decode cX0_isNumber 13 = .ok (.iload_n 0, 1) := by decide +kernel
theorem dX0_isNumber_14 : decode cX0_isNumber 14 = .ok (.bipush 100, 2) := by decide +kernel
theorem dX0_isNumber_16 : decode cX0_isNumber 16 = .ok (.if_icmp .ge 14, 3) := by decide +kernel
theorem dX0_isNumber_19 : decode cX0_isNumber 19 = .ok (.iload_n 0, 1) := by decide +kernel
theorem dX0_isNumber_20 : decode cX0_isNumber 20 = .ok (.iload_n 1, 1) := by decide +kernel
theorem dX0_isNumber_21 : decode cX0_isNumber 21 = .ok (.if_icmp .ge 7, 3) := by decide +kernel
theorem dX0_isNumber_24 : decode cX0_isNumber 24 = .ok (.iconst 1, 1) := by decide +kernel
theorem dX0_isNumber_25 : decode cX0_isNumber 25 = .ok (.goto 4, 3) := by decide +kernel
theorem dX0_isNumber_28 : decode cX0_isNumber 28 = .ok (.iconst 0, 1) := by decide +kernel
theorem dX0_isNumber_29 : decode cX0_isNumber 29 = .ok (.ireturn, 1) := by decide +kernel
theorem dX0_isNumber_30 : decode cX0_isNumber 30 = .ok (.iload_n 0, 1) := by decide +kernel
theorem dX0_isNumber_31 : decode cX0_isNumber 31 = .ok (.invokestatic 41, 3) := by decide +kernel
theorem dX0_isNumber_34 : decode cX0_isNumber 34 = .ok (.istore_n 2, 1) := by decide +kernel
theorem dX0_isNumber_35 : decode cX0_isNumber 35 = .ok (.iload_n 0, 1) := by decide +kernel
theorem dX0_isNumber_36 : decode cX0_isNumber 36 = .ok (.invokestatic 45, 3) := by decide +kernel
theorem dX0_isNumber_39 : decode cX0_isNumber 39 = .ok (.istore_n 3, 1) := by decide +kernel
theorem dX0_isNumber_40 : decode cX0_isNumber 40 = .ok (.iload_n 0, 1) := by decide +kernel
theorem dX0_isNumber_41 : decode cX0_isNumber 41 = .ok (.sipush 1000, 3) := by decide +kernel
theorem dX0_isNumber_44 : decode cX0_isNumber 44 = .ok (.if_icmp .ge 19, 3) := by decide +kernel
theorem dX0_isNumber_47 : decode cX0_isNumber 47 = .ok (.iload_n 2, 1) := by decide +kernel
theorem dX0_isNumber_48 : decode cX0_isNumber 48 = .ok (.iload_n 3, 1) := by decide +kernel
theorem dX0_isNumber_49 : decode cX0_isNumber 49 = .ok (.if_icmp .ge 12, 3) := by decide +kernel
theorem dX0_isNumber_52 : decode cX0_isNumber 52 = .ok (.iload_n 3, 1) := by decide +kernel
theorem dX0_isNumber_53 : decode cX0_isNumber 53 = .ok (.iload_n 1, 1) := by decide +kernel
theorem dX0_isNumber_54 : decode cX0_isNumber 54 = .ok (.if_icmp .ge 7, 3) := by decide +kernel
theorem dX0_isNumber_57 : decode cX0_isNumber 57 = .ok (.iconst 1, 1) := by decide +kernel
theorem dX0_isNumber_58 : decode cX0_isNumber 58 = .ok (.goto 4, 3) := by decide +kernel
theorem dX0_isNumber_61 : decode cX0_isNumber 61 = .ok (.iconst 0, 1) := by decide +kernel
theorem dX0_isNumber_62 : decode cX0_isNumber 62 = .ok (.ireturn, 1) := by decide +kernel
theorem dX0_isNumber_63 : decode cX0_isNumber 63 = .ok (.iload_n 0, 1) := by decide +kernel
theorem dX0_isNumber_64 : decode cX0_isNumber 64 = .ok (.invokestatic 48, 3) := by decide +kernel
theorem dX0_isNumber_67 : decode cX0_isNumber 67 = .ok (.istore 4, 2) := by decide +kernel
theorem dX0_isNumber_69 : decode cX0_isNumber 69 = .ok (.iload_n 2, 1) := by decide +kernel
theorem dX0_isNumber_70 : decode cX0_isNumber 70 = .ok (.iload_n 1, 1) := by decide +kernel
theorem dX0_isNumber_71 : decode cX0_isNumber 71 = .ok (.if_icmp .ge 35, 3) := by decide +kernel
theorem dX0_isNumber_74 : decode cX0_isNumber 74 = .ok (.iload_n 3, 1) := by decide +kernel
theorem dX0_isNumber_75 : decode cX0_isNumber 75 = .ok (.iload_n 1, 1) := by decide +kernel
theorem dX0_isNumber_76 : decode cX0_isNumber 76 = .ok (.if_icmp .ge 30, 3) := by decide +kernel
theorem dX0_isNumber_79 : decode cX0_isNumber 79 = .ok (.iload 4, 2) := by decide +kernel
theorem dX0_isNumber_81 : decode cX0_isNumber 81 = .ok (.iload_n 1, 1) := by decide +kernel
theorem dX0_isNumber_82 : decode cX0_isNumber 82 = .ok (.if_icmp .ge 24, 3) := by decide +kernel
theorem dX0_isNumber_85 : decode cX0_isNumber 85 = .ok (.iload_n 2, 1) := by decide +kernel
theorem dX0_isNumber_86 : decode cX0_isNumber 86 = .ok (.iload_n 3, 1) := by decide +kernel
theorem dX0_isNumber_87 : decode cX0_isNumber 87 = .ok (.if_icmp .eq 19, 3) := by decide +kernel
theorem dX0_isNumber_90 : decode cX0_isNumber 90 = .ok (.iload_n 2, 1) := by decide +kernel
theorem dX0_isNumber_91 : decode cX0_isNumber 91 = .ok (.iload 4, 2) := by decide +kernel
theorem dX0_isNumber_93 : decode cX0_isNumber 93 = .ok (.if_icmp .eq 13, 3) := by decide +kernel
theorem dX0_isNumber_96 : decode cX0_isNumber 96 = .ok (.iload_n 3, 1) := by decide +kernel
theorem dX0_isNumber_97 : decode cX0_isNumber 97 = .ok (.iload 4, 2) := by decide +kernel
theorem dX0_isNumber_99 : decode cX0_isNumber 99 = .ok (.if_icmp .eq 7, 3) := by decide +kernel
theorem dX0_isNumber_102 : decode cX0_isNumber 102 = .ok (.iconst 1, 1) := by decide +kernel
theorem dX0_isNumber_103 : decode cX0_isNumber 103 = .ok (.goto 4, 3) := by decide +kernel
theorem dX0_isNumber_106 : decode cX0_isNumber 106 = .ok (.iconst 0, 1) := by decide +kernel
theorem dX0_isNumber_107 : decode cX0_isNumber 107 = .ok (.ireturn, 1) := by decide +kernel
theorem dX0_firstOf_0 : decode cX0_firstOf 0 = .ok (.iload_n 0, 1) := by decide +kernel
theorem dX0_firstOf_1 : decode cX0_firstOf 1 = .ok (.bipush 100, 2) := by decide +kernel
theorem dX0_firstOf_3 : decode cX0_firstOf 3 = .ok (.if_icmp .ge 7, 3) := by decide +kernel
theorem dX0_firstOf_6 : decode cX0_firstOf 6 = .ok (.iload_n 0, 1) := by decide +kernel
theorem dX0_firstOf_7 : decode cX0_firstOf 7 = .ok (.goto 27, 3) := by decide +kernel
theorem dX0_firstOf_10 : decode cX0_firstOf 10 = .ok (.iload_n 0, 1) := by decide +kernel
theorem dX0_firstOf_11 : decode cX0_firstOf 11 = .ok (.sipush 1000, 3) := by decide +kernel
theorem dX0_firstOf_14 : decode cX0_firstOf 14 = .ok (.if_icmp .ge 13, 3) := by decide +kernel
theorem dX0_firstOf_17 : decode cX0_firstOf 17 = .ok (.iload_n 0, 1) := by decide +kernel
theorem dX0_firstOf_18 : decode cX0_firstOf 18 = .ok (.bipush 100, 2) := by decide +kernel
theorem dX0_firstOf_20 : decode cX0_firstOf 20 = .ok (.isub, 1) := by decide +kernel
theorem dX0_firstOf_21 : decode cX0_firstOf 21 = .ok (.bipush 10, 2) := by decide +kernel
theorem dX0_firstOf_23 : decode cX0_firstOf 23 = .ok (.idiv, 1) := by decide +kernel
theorem dX0_firstOf_24 : decode cX0_firstOf 24 = .ok (.goto 10, 3) := by decide +kernel
theorem dX0_firstOf_27 : decode cX0_firstOf 27 = .ok (.iload_n 0, 1) := by decide +kernel
theorem dX0_firstOf_28 : decode cX0_firstOf 28 = .ok (.bipush 100, 2) := by decide +kernel
theorem dX0_firstOf_30 : decode cX0_firstOf 30 = .ok (.idiv, 1) := by decide +kernel
theorem dX0_firstOf_31 : decode cX0_firstOf 31 = .ok (.bipush 10, 2) := by decide +kernel
theorem dX0_firstOf_33 : decode cX0_firstOf 33 = .ok (.irem, 1) := by decide +kernel
theorem dX0_firstOf_34 : decode cX0_firstOf 34 = .ok (.ireturn, 1) := by decide +kernel
theorem dX0_secondOf_0 : decode cX0_secondOf 0 = .ok (.iload_n 0, 1) := by decide +kernel
theorem dX0_secondOf_1 : decode cX0_secondOf 1 = .ok (.sipush 1000, 3) := by decide +kernel
theorem dX0_secondOf_4 : decode cX0_secondOf 4 = .ok (.if_icmp .ge 10, 3) := by decide +kernel
theorem dX0_secondOf_7 : decode cX0_secondOf 7 = .ok (.iload_n 0, 1) := by decide +kernel
theorem dX0_secondOf_8 : decode cX0_secondOf 8 = .ok (.bipush 10, 2) := by decide +kernel
theorem dX0_secondOf_10 : decode cX0_secondOf 10 = .ok (.irem, 1) := by decide +kernel
theorem dX0_secondOf_11 : decode cX0_secondOf 11 = .ok (.goto 10, 3) := by decide +kernel
theorem dX0_secondOf_14 : decode cX0_secondOf 14 = .ok (.iload_n 0, 1) := by decide +kernel
theorem dX0_secondOf_15 : decode cX0_secondOf 15 = .ok (.bipush 10, 2) := by decide +kernel
theorem dX0_secondOf_17 : decode cX0_secondOf 17 = .ok (.idiv, 1) := by decide +kernel
theorem dX0_secondOf_18 : decode cX0_secondOf 18 = .ok (.bipush 10, 2) := by decide +kernel
theorem dX0_secondOf_20 : decode cX0_secondOf 20 = .ok (.irem, 1) := by decide +kernel
theorem dX0_secondOf_21 : decode cX0_secondOf 21 = .ok (.ireturn, 1) := by decide +kernel
theorem dX0_thirdOf_0 : decode cX0_thirdOf 0 = .ok (.iload_n 0, 1) := by decide +kernel
theorem dX0_thirdOf_1 : decode cX0_thirdOf 1 = .ok (.bipush 10, 2) := by decide +kernel
theorem dX0_thirdOf_3 : decode cX0_thirdOf 3 = .ok (.irem, 1) := by decide +kernel
theorem dX0_thirdOf_4 : decode cX0_thirdOf 4 = .ok (.ireturn, 1) := by decide +kernel
theorem dX0_touchedBy_0 : decode cX0_touchedBy 0 = .ok (.iconst 1, 1) := by decide +kernel
theorem dX0_touchedBy_1 : decode cX0_touchedBy 1 = .ok (.iload_n 0, 1) := by decide +kernel
theorem dX0_touchedBy_2 : decode cX0_touchedBy 2 = .ok (.invokestatic 41, 3) := by decide +kernel
theorem dX0_touchedBy_5 : decode cX0_touchedBy 5 = .ok (.ishl, 1) := by decide +kernel
theorem dX0_touchedBy_6 : decode cX0_touchedBy 6 = .ok (.istore_n 1, 1) := by decide +kernel
theorem dX0_touchedBy_7 : decode cX0_touchedBy 7 = .ok (.iload_n 0, 1) := by decide +kernel
theorem dX0_touchedBy_8 : decode cX0_touchedBy 8 = .ok (.bipush 100, 2) := by decide +kernel
theorem dX0_touchedBy_10 : decode cX0_touchedBy 10 = .ok (.if_icmp .lt 12, 3) := by decide +kernel
theorem dX0_touchedBy_13 : decode cX0_touchedBy 13 = .ok (.iload_n 1, 1) := by decide +kernel
theorem dX0_touchedBy_14 : decode cX0_touchedBy 14 = .ok (.iconst 1, 1) := by decide +kernel
theorem dX0_touchedBy_15 : decode cX0_touchedBy 15 = .ok (.iload_n 0, 1) := by decide +kernel
theorem dX0_touchedBy_16 : decode cX0_touchedBy 16 = .ok (.invokestatic 45, 3) := by decide +kernel
theorem dX0_touchedBy_19 : decode cX0_touchedBy 19 = .ok (.ishl, 1) := by decide +kernel
theorem dX0_touchedBy_20 : decode cX0_touchedBy 20 = .ok (.ior, 1) := by decide +kernel
theorem dX0_touchedBy_21 : decode cX0_touchedBy 21 = .ok (.istore_n 1, 1) := by decide +kernel
theorem dX0_touchedBy_22 : decode cX0_touchedBy 22 = .ok (.iload_n 0, 1) := by decide +kernel
theorem dX0_touchedBy_23 : decode cX0_touchedBy 23 = .ok (.sipush 1000, 3) := by decide +kernel
theorem dX0_touchedBy_26 : decode cX0_touchedBy 26 = .ok (.if_icmp .lt 12, 3) := by decide +kernel
theorem dX0_touchedBy_29 : decode cX0_touchedBy 29 = .ok (.iload_n 1, 1) := by decide +kernel
theorem dX0_touchedBy_30 : decode cX0_touchedBy 30 = .ok (.iconst 1, 1) := by decide +kernel
theorem dX0_touchedBy_31 : decode cX0_touchedBy 31 = .ok (.iload_n 0, 1) := by decide +kernel
theorem dX0_touchedBy_32 : decode cX0_touchedBy 32 = .ok (.invokestatic 48, 3) := by decide +kernel
theorem dX0_touchedBy_35 : decode cX0_touchedBy 35 = .ok (.ishl, 1) := by decide +kernel
theorem dX0_touchedBy_36 : decode cX0_touchedBy 36 = .ok (.ior, 1) := by decide +kernel
theorem dX0_touchedBy_37 : decode cX0_touchedBy 37 = .ok (.istore_n 1, 1) := by decide +kernel
theorem dX0_touchedBy_38 : decode cX0_touchedBy 38 = .ok (.iload_n 1, 1) := by decide +kernel
theorem dX0_touchedBy_39 : decode cX0_touchedBy 39 = .ok (.ireturn, 1) := by decide +kernel
theorem dX0_lay_0 : decode cX0_lay 0 = .ok (.aload_n 0, 1) := by decide +kernel
theorem dX0_lay_1 : decode cX0_lay 1 = .ok (.aload_n 1, 1) := by decide +kernel
theorem dX0_lay_2 : decode cX0_lay 2 = .ok (.getfield 51, 3) := by decide +kernel
theorem dX0_lay_5 : decode cX0_lay 5 = .ok (.aload_n 1, 1) := by decide +kernel
theorem dX0_lay_6 : decode cX0_lay 6 = .ok (.getfield 57, 3) := by decide +kernel
theorem dX0_lay_9 : decode cX0_lay 9 = .ok (.aload_n 1, 1) := by decide +kernel
theorem dX0_lay_10 : decode cX0_lay 10 = .ok (.getfield 60, 3) := by decide +kernel
theorem dX0_lay_13 : decode cX0_lay 13 = .ok (.invokevirtual 61, 3) := by decide +kernel
theorem dX0_lay_16 : decode cX0_lay 16 = .ok (.return_, 1) := by decide +kernel
theorem dX0_layOut_0 : decode cX0_layOut 0 = .ok (.aload_n 0, 1) := by decide +kernel
theorem dX0_layOut_1 : decode cX0_layOut 1 = .ok (.lload_n 1, 1) := by decide +kernel
theorem dX0_layOut_2 : decode cX0_layOut 2 = .ok (.putfield 65, 3) := by decide +kernel
theorem dX0_layOut_5 : decode cX0_layOut 5 = .ok (.aload_n 0, 1) := by decide +kernel
theorem dX0_layOut_6 : decode cX0_layOut 6 = .ok (.iload_n 3, 1) := by decide +kernel
theorem dX0_layOut_7 : decode cX0_layOut 7 = .ok (.putfield 66, 3) := by decide +kernel
theorem dX0_layOut_10 : decode cX0_layOut 10 = .ok (.aload_n 0, 1) := by decide +kernel
theorem dX0_layOut_11 : decode cX0_layOut 11 = .ok (.iload 4, 2) := by decide +kernel
theorem dX0_layOut_13 : decode cX0_layOut 13 = .ok (.putfield 9, 3) := by decide +kernel
theorem dX0_layOut_16 : decode cX0_layOut 16 = .ok (.iconst 0, 1) := by decide +kernel
theorem dX0_layOut_17 : decode cX0_layOut 17 = .ok (.istore 5, 2) := by decide +kernel
theorem dX0_layOut_19 : decode cX0_layOut 19 = .ok (.iload 5, 2) := by decide +kernel
theorem dX0_layOut_21 : decode cX0_layOut 21 = .ok (.aload_n 0, 1) := by decide +kernel
theorem dX0_layOut_22 : decode cX0_layOut 22 = .ok (.getfield 37, 3) := by decide +kernel
theorem dX0_layOut_25 : decode cX0_layOut 25 = .ok (.getfield 67, 3) := by decide +kernel
theorem dX0_layOut_28 : decode cX0_layOut 28 = .ok (.if_icmp .ge 55, 3) := by decide +kernel
theorem dX0_layOut_31 : decode cX0_layOut 31 = .ok (.aload_n 0, 1) := by decide +kernel
theorem dX0_layOut_32 : decode cX0_layOut 32 = .ok (.getfield 15, 3) := by decide +kernel
theorem dX0_layOut_35 : decode cX0_layOut 35 = .ok (.iconst 2, 1) := by decide +kernel
theorem dX0_layOut_36 : decode cX0_layOut 36 = .ok (.iload 5, 2) := by decide +kernel
theorem dX0_layOut_38 : decode cX0_layOut 38 = .ok (.imul, 1) := by decide +kernel
theorem dX0_layOut_39 : decode cX0_layOut 39 = .ok (.iconst (-1), 1) := by decide +kernel
theorem dX0_layOut_40 : decode cX0_layOut 40 = .ok (.iastore, 1) := by decide +kernel
theorem dX0_layOut_41 : decode cX0_layOut 41 = .ok (.aload_n 0, 1) := by decide +kernel
theorem dX0_layOut_42 : decode cX0_layOut 42 = .ok (.getfield 15, 3) := by decide +kernel
theorem dX0_layOut_45 : decode cX0_layOut 45 = .ok (.iconst 2, 1) := by decide +kernel
theorem dX0_layOut_46 : decode cX0_layOut 46 = .ok (.iload 5, 2) := by decide +kernel
theorem dX0_layOut_48 : decode cX0_layOut 48 = .ok (.imul, 1) := by decide +kernel
theorem dX0_layOut_49 : decode cX0_layOut 49 = .ok (.iconst 1, 1) := by decide +kernel
theorem dX0_layOut_50 : decode cX0_layOut 50 = .ok (.iadd, 1) := by decide +kernel
theorem dX0_layOut_51 : decode cX0_layOut 51 = .ok (.iconst (-1), 1) := by decide +kernel
theorem dX0_layOut_52 : decode cX0_layOut 52 = .ok (.iastore, 1) := by decide +kernel
theorem dX0_layOut_53 : decode cX0_layOut 53 = .ok (.aload_n 0, 1) := by decide +kernel
theorem dX0_layOut_54 : decode cX0_layOut 54 = .ok (.getfield 25, 3) := by decide +kernel
theorem dX0_layOut_57 : decode cX0_layOut 57 = .ok (.iload 5, 2) := by decide +kernel
theorem dX0_layOut_59 : decode cX0_layOut 59 = .ok (.iconst 0, 1) := by decide +kernel
theorem dX0_layOut_60 : decode cX0_layOut 60 = .ok (.iastore, 1) := by decide +kernel
theorem dX0_layOut_61 : decode cX0_layOut 61 = .ok (.aload_n 0, 1) := by decide +kernel
theorem dX0_layOut_62 : decode cX0_layOut 62 = .ok (.getfield 28, 3) := by decide +kernel
theorem dX0_layOut_65 : decode cX0_layOut 65 = .ok (.iload 5, 2) := by decide +kernel
theorem dX0_layOut_67 : decode cX0_layOut 67 = .ok (.iconst 0, 1) := by decide +kernel
theorem dX0_layOut_68 : decode cX0_layOut 68 = .ok (.iastore, 1) := by decide +kernel
theorem dX0_layOut_69 : decode cX0_layOut 69 = .ok (.aload_n 0, 1) := by decide +kernel
theorem dX0_layOut_70 : decode cX0_layOut 70 = .ok (.getfield 31, 3) := by decide +kernel
theorem dX0_layOut_73 : decode cX0_layOut 73 = .ok (.iload 5, 2) := by decide +kernel
theorem dX0_layOut_75 : decode cX0_layOut 75 = .ok (.iconst 0, 1) := by decide +kernel
theorem dX0_layOut_76 : decode cX0_layOut 76 = .ok (.iastore, 1) := by decide +kernel
theorem dX0_layOut_77 : decode cX0_layOut 77 = .ok (.iinc 5 1, 3) := by decide +kernel
theorem dX0_layOut_80 : decode cX0_layOut 80 = .ok (.goto (-61), 3) := by decide +kernel
theorem dX0_layOut_83 : decode cX0_layOut 83 = .ok (.iconst 0, 1) := by decide +kernel
theorem dX0_layOut_84 : decode cX0_layOut 84 = .ok (.istore 5, 2) := by decide +kernel
theorem dX0_layOut_86 : decode cX0_layOut 86 = .ok (.iconst 0, 1) := by decide +kernel
theorem dX0_layOut_87 : decode cX0_layOut 87 = .ok (.istore 6, 2) := by decide +kernel
theorem dX0_layOut_89 : decode cX0_layOut 89 = .ok (.iload 6, 2) := by decide +kernel
theorem dX0_layOut_91 : decode cX0_layOut 91 = .ok (.aload_n 0, 1) := by decide +kernel
theorem dX0_layOut_92 : decode cX0_layOut 92 = .ok (.getfield 37, 3) := by decide +kernel
theorem dX0_layOut_95 : decode cX0_layOut 95 = .ok (.getfield 72, 3) := by decide +kernel
theorem dX0_layOut_98 : decode cX0_layOut 98 = .ok (.if_icmp .ge 28, 3) := by decide +kernel
theorem dX0_layOut_101 : decode cX0_layOut 101 = .ok (.aload_n 0, 1) := by decide +kernel
theorem dX0_layOut_102 : decode cX0_layOut 102 = .ok (.getfield 22, 3) := by decide +kernel
theorem dX0_layOut_105 : decode cX0_layOut 105 = .ok (.iload 6, 2) := by decide +kernel
theorem dX0_layOut_107 : decode cX0_layOut 107 = .ok (.iload 5, 2) := by decide +kernel
theorem dX0_layOut_109 : decode cX0_layOut 109 = .ok (.iastore, 1) := by decide +kernel
theorem dX0_layOut_110 : decode cX0_layOut 110 = .ok (.aload_n 0, 1) := by decide +kernel
theorem dX0_layOut_111 : decode cX0_layOut 111 = .ok (.iload 6, 2) := by decide +kernel
theorem dX0_layOut_113 : decode cX0_layOut 113 = .ok (.iload 5, 2) := by decide +kernel
theorem dX0_layOut_115 : decode cX0_layOut 115 = .ok (.invokevirtual 75, 3) := by decide +kernel
theorem dX0_layOut_118 : decode cX0_layOut 118 = .ok (.istore 5, 2) := by decide +kernel
theorem dX0_layOut_120 : decode cX0_layOut 120 = .ok (.iinc 6 1, 3) := by decide +kernel
theorem dX0_layOut_123 : decode cX0_layOut 123 = .ok (.goto (-34), 3) := by decide +kernel
theorem dX0_layOut_126 : decode cX0_layOut 126 = .ok (.aload_n 0, 1) := by decide +kernel
theorem dX0_layOut_127 : decode cX0_layOut 127 = .ok (.getfield 22, 3) := by decide +kernel
theorem dX0_layOut_130 : decode cX0_layOut 130 = .ok (.aload_n 0, 1) := by decide +kernel
theorem dX0_layOut_131 : decode cX0_layOut 131 = .ok (.getfield 37, 3) := by decide +kernel
theorem dX0_layOut_134 : decode cX0_layOut 134 = .ok (.getfield 72, 3) := by decide +kernel
theorem dX0_layOut_137 : decode cX0_layOut 137 = .ok (.iload 5, 2) := by decide +kernel
theorem dX0_layOut_139 : decode cX0_layOut 139 = .ok (.iastore, 1) := by decide +kernel
theorem dX0_layOut_140 : decode cX0_layOut 140 = .ok (.aload_n 0, 1) := by decide +kernel
theorem dX0_layOut_141 : decode cX0_layOut 141 = .ok (.iload 5, 2) := by decide +kernel
theorem dX0_layOut_143 : decode cX0_layOut 143 = .ok (.iconst 2, 1) := by decide +kernel
theorem dX0_layOut_144 : decode cX0_layOut 144 = .ok (.idiv, 1) := by decide +kernel
theorem dX0_layOut_145 : decode cX0_layOut 145 = .ok (.putfield 79, 3) := by decide +kernel
theorem dX0_layOut_148 : decode cX0_layOut 148 = .ok (.aload_n 0, 1) := by decide +kernel
theorem dX0_layOut_149 : decode cX0_layOut 149 = .ok (.iconst 0, 1) := by decide +kernel
theorem dX0_layOut_150 : decode cX0_layOut 150 = .ok (.putfield 82, 3) := by decide +kernel
theorem dX0_layOut_153 : decode cX0_layOut 153 = .ok (.iconst 0, 1) := by decide +kernel
theorem dX0_layOut_154 : decode cX0_layOut 154 = .ok (.istore 6, 2) := by decide +kernel
theorem dX0_layOut_156 : decode cX0_layOut 156 = .ok (.iload 6, 2) := by decide +kernel
theorem dX0_layOut_158 : decode cX0_layOut 158 = .ok (.aload_n 0, 1) := by decide +kernel
theorem dX0_layOut_159 : decode cX0_layOut 159 = .ok (.getfield 37, 3) := by decide +kernel
theorem dX0_layOut_162 : decode cX0_layOut 162 = .ok (.getfield 67, 3) := by decide +kernel
theorem dX0_layOut_165 : decode cX0_layOut 165 = .ok (.if_icmp .ge 15, 3) := by decide +kernel
theorem dX0_layOut_168 : decode cX0_layOut 168 = .ok (.aload_n 0, 1) := by decide +kernel
theorem dX0_layOut_169 : decode cX0_layOut 169 = .ok (.iload 6, 2) := by decide +kernel
theorem dX0_layOut_171 : decode cX0_layOut 171 = .ok (.invokevirtual 83, 3) := by decide +kernel
theorem dX0_layOut_174 : decode cX0_layOut 174 = .ok (.iinc 6 1, 3) := by decide +kernel
theorem dX0_layOut_177 : decode cX0_layOut 177 = .ok (.goto (-21), 3) := by decide +kernel
theorem dX0_layOut_180 : decode cX0_layOut 180 = .ok (.iconst 0, 1) := by decide +kernel
theorem dX0_layOut_181 : decode cX0_layOut 181 = .ok (.istore 6, 2) := by decide +kernel
theorem dX0_layOut_183 : decode cX0_layOut 183 = .ok (.iload 6, 2) := by decide +kernel
theorem dX0_layOut_185 : decode cX0_layOut 185 = .ok (.aload_n 0, 1) := by decide +kernel
theorem dX0_layOut_186 : decode cX0_layOut 186 = .ok (.getfield 37, 3) := by decide +kernel
theorem dX0_layOut_189 : decode cX0_layOut 189 = .ok (.getfield 67, 3) := by decide +kernel
theorem dX0_layOut_192 : decode cX0_layOut 192 = .ok (.if_icmp .ge 15, 3) := by decide +kernel
theorem dX0_layOut_195 : decode cX0_layOut 195 = .ok (.aload_n 0, 1) := by decide +kernel
theorem dX0_layOut_196 : decode cX0_layOut 196 = .ok (.iload 6, 2) := by decide +kernel
theorem dX0_layOut_198 : decode cX0_layOut 198 = .ok (.invokevirtual 87, 3) := by decide +kernel
theorem dX0_layOut_201 : decode cX0_layOut 201 = .ok (.iinc 6 1, 3) := by decide +kernel
theorem dX0_layOut_204 : decode cX0_layOut 204 = .ok (.goto (-21), 3) := by decide +kernel
theorem dX0_layOut_207 : decode cX0_layOut 207 = .ok (.iconst 0, 1) := by decide +kernel
theorem dX0_layOut_208 : decode cX0_layOut 208 = .ok (.istore 6, 2) := by decide +kernel
theorem dX0_layOut_210 : decode cX0_layOut 210 = .ok (.iload 6, 2) := by decide +kernel
theorem dX0_layOut_212 : decode cX0_layOut 212 = .ok (.aload_n 0, 1) := by decide +kernel
theorem dX0_layOut_213 : decode cX0_layOut 213 = .ok (.getfield 37, 3) := by decide +kernel
theorem dX0_layOut_216 : decode cX0_layOut 216 = .ok (.getfield 67, 3) := by decide +kernel
theorem dX0_layOut_219 : decode cX0_layOut 219 = .ok (.if_icmp .ge 15, 3) := by decide +kernel
theorem dX0_layOut_222 : decode cX0_layOut 222 = .ok (.aload_n 0, 1) := by decide +kernel
theorem dX0_layOut_223 : decode cX0_layOut 223 = .ok (.iload 6, 2) := by decide +kernel
theorem dX0_layOut_225 : decode cX0_layOut 225 = .ok (.invokevirtual 90, 3) := by decide +kernel
theorem dX0_layOut_228 : decode cX0_layOut 228 = .ok (.iinc 6 1, 3) := by decide +kernel
theorem dX0_layOut_231 : decode cX0_layOut 231 = .ok (.goto (-21), 3) := by decide +kernel
theorem dX0_layOut_234 : decode cX0_layOut 234 = .ok (.return_, 1) := by decide +kernel
theorem dX0_isOpen_0 : decode cX0_isOpen 0 = .ok (.aload_n 0, 1) := by decide +kernel
theorem dX0_isOpen_1 : decode cX0_isOpen 1 = .ok (.getfield 9, 3) := by decide +kernel
theorem dX0_isOpen_4 : decode cX0_isOpen 4 = .ok (.ifCond .lt 32, 3) := by decide +kernel
theorem dX0_isOpen_7 : decode cX0_isOpen 7 = .ok (.aload_n 0, 1) := by decide +kernel
theorem dX0_isOpen_8 : decode cX0_isOpen 8 = .ok (.getfield 9, 3) := by decide +kernel
theorem dX0_isOpen_11 : decode cX0_isOpen 11 = .ok (.bipush 8, 2) := by decide +kernel
theorem dX0_isOpen_13 : decode cX0_isOpen 13 = .ok (.if_icmp .ge 23, 3) := by decide +kernel
theorem dX0_isOpen_16 : decode cX0_isOpen 16 = .ok (.aload_n 0, 1) := by decide +kernel
theorem dX0_isOpen_17 : decode cX0_isOpen 17 = .ok (.getfield 37, 3) := by decide +kernel
theorem dX0_isOpen_20 : decode cX0_isOpen 20 = .ok (.getfield 93, 3) := by decide +kernel
theorem dX0_isOpen_23 : decode cX0_isOpen 23 = .ok (.aload_n 0, 1) := by decide +kernel
theorem dX0_isOpen_24 : decode cX0_isOpen 24 = .ok (.getfield 9, 3) := by decide +kernel
theorem dX0_isOpen_27 : decode cX0_isOpen 27 = .ok (.iaload, 1) := by decide +kernel
theorem dX0_isOpen_28 : decode cX0_isOpen 28 = .ok (.iload_n 1, 1) := by decide +kernel
theorem dX0_isOpen_29 : decode cX0_isOpen 29 = .ok (.if_icmp .ne 7, 3) := by decide +kernel
theorem dX0_isOpen_32 : decode cX0_isOpen 32 = .ok (.iconst 1, 1) := by decide +kernel
theorem dX0_isOpen_33 : decode cX0_isOpen 33 = .ok (.goto 4, 3) := by decide +kernel
theorem dX0_isOpen_36 : decode cX0_isOpen 36 = .ok (.iconst 0, 1) := by decide +kernel
theorem dX0_isOpen_37 : decode cX0_isOpen 37 = .ok (.ireturn, 1) := by decide +kernel
theorem dX0_walkRound_0 : decode cX0_walkRound 0 = .ok (.aload_n 0, 1) := by decide +kernel
theorem dX0_walkRound_1 : decode cX0_walkRound 1 = .ok (.getfield 37, 3) := by decide +kernel
theorem dX0_walkRound_4 : decode cX0_walkRound 4 = .ok (.getfield 96, 3) := by decide +kernel
theorem dX0_walkRound_7 : decode cX0_walkRound 7 = .ok (.iload_n 1, 1) := by decide +kernel
theorem dX0_walkRound_8 : decode cX0_walkRound 8 = .ok (.iaload, 1) := by decide +kernel
theorem dX0_walkRound_9 : decode cX0_walkRound 9 = .ok (.istore_n 3, 1) := by decide +kernel
theorem dX0_walkRound_10 : decode cX0_walkRound 10 = .ok (.aload_n 0, 1) := by decide +kernel
theorem dX0_walkRound_11 : decode cX0_walkRound 11 = .ok (.getfield 37, 3) := by decide +kernel
theorem dX0_walkRound_14 : decode cX0_walkRound 14 = .ok (.getfield 96, 3) := by decide +kernel
theorem dX0_walkRound_17 : decode cX0_walkRound 17 = .ok (.iload_n 1, 1) := by decide +kernel
theorem dX0_walkRound_18 : decode cX0_walkRound 18 = .ok (.iconst 1, 1) := by decide +kernel
theorem dX0_walkRound_19 : decode cX0_walkRound 19 = .ok (.iadd, 1) := by decide +kernel
theorem dX0_walkRound_20 : decode cX0_walkRound 20 = .ok (.iaload, 1) := by decide +kernel
theorem dX0_walkRound_21 : decode cX0_walkRound 21 = .ok (.istore 4, 2) := by decide +kernel
theorem dX0_walkRound_23 : decode cX0_walkRound 23 = .ok (.aload_n 0, 1) := by decide +kernel
theorem dX0_walkRound_24 : decode cX0_walkRound 24 = .ok (.iload_n 1, 1) := by decide +kernel
theorem dX0_walkRound_25 : decode cX0_walkRound 25 = .ok (.invokevirtual 99, 3) := by decide +kernel
theorem dX0_walkRound_28 : decode cX0_walkRound 28 = .ok (.istore 5, 2) := by decide +kernel
theorem dX0_walkRound_30 : decode cX0_walkRound 30 = .ok (.iload 5, 2) := by decide +kernel
theorem dX0_walkRound_32 : decode cX0_walkRound 32 = .ok (.ifCond .eq 18, 3) := by decide +kernel
theorem dX0_walkRound_35 : decode cX0_walkRound 35 = .ok (.aload_n 0, 1) := by decide +kernel
theorem dX0_walkRound_36 : decode cX0_walkRound 36 = .ok (.getfield 37, 3) := by decide +kernel
theorem dX0_walkRound_39 : decode cX0_walkRound 39 = .ok (.getfield 103, 3) := by decide +kernel
theorem dX0_walkRound_42 : decode cX0_walkRound 42 = .ok (.aload_n 0, 1) := by decide +kernel
theorem dX0_walkRound_43 : decode cX0_walkRound 43 = .ok (.getfield 9, 3) := by decide +kernel
theorem dX0_walkRound_46 : decode cX0_walkRound 46 = .ok (.iaload, 1) := by decide +kernel
theorem dX0_walkRound_47 : decode cX0_walkRound 47 = .ok (.goto 4, 3) := by decide +kernel
theorem dX0_walkRound_50 : decode cX0_walkRound 50 = .ok (.iload_n 3, 1) := by decide +kernel
theorem dX0_walkRound_51 : decode cX0_walkRound 51 = .ok (.istore 6, 2) := by decide +kernel
theorem dX0_walkRound_53 : decode cX0_walkRound 53 = .ok (.iload_n 2, 1) := by decide +kernel
theorem dX0_walkRound_54 : decode cX0_walkRound 54 = .ok (.istore 7, 2) := by decide +kernel
theorem dX0_walkRound_56 : decode cX0_walkRound 56 = .ok (.iload_n 3, 1) := by decide +kernel
theorem dX0_walkRound_57 : decode cX0_walkRound 57 = .ok (.istore 8, 2) := by decide +kernel
theorem dX0_walkRound_59 : decode cX0_walkRound 59 = .ok (.iload 8, 2) := by decide +kernel
theorem dX0_walkRound_61 : decode cX0_walkRound 61 = .ok (.iload 4, 2) := by decide +kernel
theorem dX0_walkRound_63 : decode cX0_walkRound 63 = .ok (.if_icmp .ge 81, 3) := by decide +kernel
theorem dX0_walkRound_66 : decode cX0_walkRound 66 = .ok (.iload 6, 2) := by decide +kernel
theorem dX0_walkRound_68 : decode cX0_walkRound 68 = .ok (.iload 4, 2) := by decide +kernel
theorem dX0_walkRound_70 : decode cX0_walkRound 70 = .ok (.if_icmp .lt 6, 3) := by decide +kernel
theorem dX0_walkRound_73 : decode cX0_walkRound 73 = .ok (.iload_n 3, 1) := by decide +kernel
theorem dX0_walkRound_74 : decode cX0_walkRound 74 = .ok (.istore 6, 2) := by decide +kernel
theorem dX0_walkRound_76 : decode cX0_walkRound 76 = .ok (.aload_n 0, 1) := by decide +kernel
theorem dX0_walkRound_77 : decode cX0_walkRound 77 = .ok (.getfield 65, 3) := by decide +kernel
theorem dX0_walkRound_80 : decode cX0_walkRound 80 = .ok (.iload 6, 2) := by decide +kernel
theorem dX0_walkRound_82 : decode cX0_walkRound 82 = .ok (.invokestatic 106, 3) := by decide +kernel
theorem dX0_walkRound_85 : decode cX0_walkRound 85 = .ok (.istore 9, 2) := by decide +kernel
theorem dX0_walkRound_87 : decode cX0_walkRound 87 = .ok (.iload 9, 2) := by decide +kernel
theorem dX0_walkRound_89 : decode cX0_walkRound 89 = .ok (.iconst (-1), 1) := by decide +kernel
theorem dX0_walkRound_90 : decode cX0_walkRound 90 = .ok (.if_icmp .eq 45, 3) := by decide +kernel
theorem dX0_walkRound_93 : decode cX0_walkRound 93 = .ok (.aload_n 0, 1) := by decide +kernel
theorem dX0_walkRound_94 : decode cX0_walkRound 94 = .ok (.getfield 15, 3) := by decide +kernel
theorem dX0_walkRound_97 : decode cX0_walkRound 97 = .ok (.iload 9, 2) := by decide +kernel
theorem dX0_walkRound_99 : decode cX0_walkRound 99 = .ok (.iload 6, 2) := by decide +kernel
theorem dX0_walkRound_101 : decode cX0_walkRound 101 = .ok (.iastore, 1) := by decide +kernel
theorem dX0_walkRound_102 : decode cX0_walkRound 102 = .ok (.aload_n 0, 1) := by decide +kernel
theorem dX0_walkRound_103 : decode cX0_walkRound 103 = .ok (.getfield 19, 3) := by decide +kernel
theorem dX0_walkRound_106 : decode cX0_walkRound 106 = .ok (.iload 7, 2) := by decide +kernel
theorem dX0_walkRound_108 : decode cX0_walkRound 108 = .ok (.iload 9, 2) := by decide +kernel
theorem dX0_walkRound_110 : decode cX0_walkRound 110 = .ok (.iastore, 1) := by decide +kernel
theorem dX0_walkRound_111 : decode cX0_walkRound 111 = .ok (.iload 7, 2) := by decide +kernel
theorem dX0_walkRound_113 : decode cX0_walkRound 113 = .ok (.iload_n 2, 1) := by decide +kernel
theorem dX0_walkRound_114 : decode cX0_walkRound 114 = .ok (.if_icmp .le 18, 3) := by decide +kernel
theorem dX0_walkRound_117 : decode cX0_walkRound 117 = .ok (.aload_n 0, 1) := by decide +kernel
theorem dX0_walkRound_118 : decode cX0_walkRound 118 = .ok (.aload_n 0, 1) := by decide +kernel
theorem dX0_walkRound_119 : decode cX0_walkRound 119 = .ok (.getfield 19, 3) := by decide +kernel
theorem dX0_walkRound_122 : decode cX0_walkRound 122 = .ok (.iload 7, 2) := by decide +kernel
theorem dX0_walkRound_124 : decode cX0_walkRound 124 = .ok (.iconst 1, 1) := by decide +kernel
theorem dX0_walkRound_125 : decode cX0_walkRound 125 = .ok (.isub, 1) := by decide +kernel
theorem dX0_walkRound_126 : decode cX0_walkRound 126 = .ok (.iaload, 1) := by decide +kernel
theorem dX0_walkRound_127 : decode cX0_walkRound 127 = .ok (.iload 9, 2) := by decide +kernel
theorem dX0_walkRound_129 : decode cX0_walkRound 129 = .ok (.invokevirtual 110, 3) := by decide +kernel
theorem dX0_walkRound_132 : decode cX0_walkRound 132 = .ok (.iinc 7 1, 3) := by decide +kernel
theorem dX0_walkRound_135 : decode cX0_walkRound 135 = .ok (.iinc 6 1, 3) := by decide +kernel
theorem dX0_walkRound_138 : decode cX0_walkRound 138 = .ok (.iinc 8 1, 3) := by decide +kernel
theorem dX0_walkRound_141 : decode cX0_walkRound 141 = .ok (.goto (-82), 3) := by decide +kernel
theorem dX0_walkRound_144 : decode cX0_walkRound 144 = .ok (.iload 5, 2) := by decide +kernel
theorem dX0_walkRound_146 : decode cX0_walkRound 146 = .ok (.ifCond .ne 30, 3) := by decide +kernel
theorem dX0_walkRound_149 : decode cX0_walkRound 149 = .ok (.iload 7, 2) := by decide +kernel
theorem dX0_walkRound_151 : decode cX0_walkRound 151 = .ok (.iload_n 2, 1) := by decide +kernel
theorem dX0_walkRound_152 : decode cX0_walkRound 152 = .ok (.isub, 1) := by decide +kernel
theorem dX0_walkRound_153 : decode cX0_walkRound 153 = .ok (.iconst 1, 1) := by decide +kernel
theorem dX0_walkRound_154 : decode cX0_walkRound 154 = .ok (.if_icmp .le 22, 3) := by decide +kernel
theorem dX0_walkRound_157 : decode cX0_walkRound 157 = .ok (.aload_n 0, 1) := by decide +kernel
theorem dX0_walkRound_158 : decode cX0_walkRound 158 = .ok (.aload_n 0, 1) := by decide +kernel
theorem dX0_walkRound_159 : decode cX0_walkRound 159 = .ok (.getfield 19, 3) := by decide +kernel
theorem dX0_walkRound_162 : decode cX0_walkRound 162 = .ok (.iload 7, 2) := by decide +kernel
theorem dX0_walkRound_164 : decode cX0_walkRound 164 = .ok (.iconst 1, 1) := by decide +kernel
theorem dX0_walkRound_165 : decode cX0_walkRound 165 = .ok (.isub, 1) := by decide +kernel
theorem dX0_walkRound_166 : decode cX0_walkRound 166 = .ok (.iaload, 1) := by decide +kernel
theorem dX0_walkRound_167 : decode cX0_walkRound 167 = .ok (.aload_n 0, 1) := by decide +kernel
theorem dX0_walkRound_168 : decode cX0_walkRound 168 = .ok (.getfield 19, 3) := by decide +kernel
theorem dX0_walkRound_171 : decode cX0_walkRound 171 = .ok (.iload_n 2, 1) := by decide +kernel
theorem dX0_walkRound_172 : decode cX0_walkRound 172 = .ok (.iaload, 1) := by decide +kernel
theorem dX0_walkRound_173 : decode cX0_walkRound 173 = .ok (.invokevirtual 110, 3) := by decide +kernel
theorem dX0_walkRound_176 : decode cX0_walkRound 176 = .ok (.iload 7, 2) := by decide +kernel
theorem dX0_walkRound_178 : decode cX0_walkRound 178 = .ok (.ireturn, 1) := by decide +kernel
theorem dX0_join_0 : decode cX0_join 0 = .ok (.iload_n 1, 1) := by decide +kernel
theorem dX0_join_1 : decode cX0_join 1 = .ok (.iconst 2, 1) := by decide +kernel
theorem dX0_join_2 : decode cX0_join 2 = .ok (.idiv, 1) := by decide +kernel
theorem dX0_join_3 : decode cX0_join 3 = .ok (.istore_n 3, 1) := by decide +kernel
theorem dX0_join_4 : decode cX0_join 4 = .ok (.iload_n 2, 1) := by decide +kernel
theorem dX0_join_5 : decode cX0_join 5 = .ok (.iconst 2, 1) := by decide +kernel
theorem dX0_join_6 : decode cX0_join 6 = .ok (.idiv, 1) := by decide +kernel
theorem dX0_join_7 : decode cX0_join 7 = .ok (.istore 4, 2) := by decide +kernel
theorem dX0_join_9 : decode cX0_join 9 = .ok (.iload_n 1, 1) := by decide +kernel
theorem dX0_join_10 : decode cX0_join 10 = .ok (.iconst 1, 1) := by decide +kernel
theorem dX0_join_11 : decode cX0_join 11 = .ok (.iand, 1) := by decide +kernel
theorem dX0_join_12 : decode cX0_join 12 = .ok (.ifCond .eq 7, 3) := by decide +kernel
theorem dX0_join_15 : decode cX0_join 15 = .ok (.iconst 1, 1) := by decide +kernel
theorem dX0_join_16 : decode cX0_join 16 = .ok (.goto 4, 3) := by decide +kernel
theorem dX0_join_19 : decode cX0_join 19 = .ok (.iconst 0, 1) := by decide +kernel
theorem dX0_join_20 : decode cX0_join 20 = .ok (.istore 5, 2) := by decide +kernel
theorem dX0_join_22 : decode cX0_join 22 = .ok (.iload_n 2, 1) := by decide +kernel
theorem dX0_join_23 : decode cX0_join 23 = .ok (.iconst 1, 1) := by decide +kernel
theorem dX0_join_24 : decode cX0_join 24 = .ok (.iand, 1) := by decide +kernel
theorem dX0_join_25 : decode cX0_join 25 = .ok (.ifCond .eq 7, 3) := by decide +kernel
theorem dX0_join_28 : decode cX0_join 28 = .ok (.iconst 1, 1) := by decide +kernel
theorem dX0_join_29 : decode cX0_join 29 = .ok (.goto 4, 3) := by decide +kernel
theorem dX0_join_32 : decode cX0_join 32 = .ok (.iconst 0, 1) := by decide +kernel
theorem dX0_join_33 : decode cX0_join 33 = .ok (.istore 6, 2) := by decide +kernel
theorem dX0_join_35 : decode cX0_join 35 = .ok (.iload 5, 2) := by decide +kernel
theorem dX0_join_37 : decode cX0_join 37 = .ok (.ifCond .eq 37, 3) := by decide +kernel
theorem dX0_join_40 : decode cX0_join 40 = .ok (.iload 6, 2) := by decide +kernel
theorem dX0_join_42 : decode cX0_join 42 = .ok (.ifCond .eq 32, 3) := by decide +kernel
theorem dX0_join_45 : decode cX0_join 45 = .ok (.aload_n 0, 1) := by decide +kernel
theorem dX0_join_46 : decode cX0_join 46 = .ok (.getfield 25, 3) := by decide +kernel
theorem dX0_join_49 : decode cX0_join 49 = .ok (.iload_n 3, 1) := by decide +kernel
theorem dX0_join_50 : decode cX0_join 50 = .ok (.dup2, 1) := by decide +kernel
theorem dX0_join_51 : decode cX0_join 51 = .ok (.iaload, 1) := by decide +kernel
theorem dX0_join_52 : decode cX0_join 52 = .ok (.iconst 1, 1) := by decide +kernel
theorem dX0_join_53 : decode cX0_join 53 = .ok (.iload 4, 2) := by decide +kernel
theorem dX0_join_55 : decode cX0_join 55 = .ok (.ishl, 1) := by decide +kernel
theorem dX0_join_56 : decode cX0_join 56 = .ok (.ior, 1) := by decide +kernel
theorem dX0_join_57 : decode cX0_join 57 = .ok (.iastore, 1) := by decide +kernel
theorem dX0_join_58 : decode cX0_join 58 = .ok (.aload_n 0, 1) := by decide +kernel
theorem dX0_join_59 : decode cX0_join 59 = .ok (.getfield 25, 3) := by decide +kernel
theorem dX0_join_62 : decode cX0_join 62 = .ok (.iload 4, 2) := by decide +kernel
theorem dX0_join_64 : decode cX0_join 64 = .ok (.dup2, 1) := by decide +kernel
theorem dX0_join_65 : decode cX0_join 65 = .ok (.iaload, 1) := by decide +kernel
theorem dX0_join_66 : decode cX0_join 66 = .ok (.iconst 1, 1) := by decide +kernel
theorem dX0_join_67 : decode cX0_join 67 = .ok (.iload_n 3, 1) := by decide +kernel
theorem dX0_join_68 : decode cX0_join 68 = .ok (.ishl, 1) := by decide +kernel
theorem dX0_join_69 : decode cX0_join 69 = .ok (.ior, 1) := by decide +kernel
theorem dX0_join_70 : decode cX0_join 70 = .ok (.iastore, 1) := by decide +kernel
theorem dX0_join_71 : decode cX0_join 71 = .ok (.goto 76, 3) := by decide +kernel
theorem dX0_join_74 : decode cX0_join 74 = .ok (.iload 5, 2) := by decide +kernel
theorem dX0_join_76 : decode cX0_join 76 = .ok (.ifCond .ne 37, 3) := by decide +kernel
theorem dX0_join_79 : decode cX0_join 79 = .ok (.iload 6, 2) := by decide +kernel
theorem dX0_join_81 : decode cX0_join 81 = .ok (.ifCond .ne 32, 3) := by decide +kernel
theorem dX0_join_84 : decode cX0_join 84 = .ok (.aload_n 0, 1) := by decide +kernel
theorem dX0_join_85 : decode cX0_join 85 = .ok (.getfield 31, 3) := by decide +kernel
theorem dX0_join_88 : decode cX0_join 88 = .ok (.iload_n 3, 1) := by decide +kernel
theorem dX0_join_89 : decode cX0_join 89 = .ok (.dup2, 1) := by decide +kernel
theorem dX0_join_90 : decode cX0_join 90 = .ok (.iaload, 1) := by decide +kernel
theorem dX0_join_91 : decode cX0_join 91 = .ok (.iconst 1, 1) := by decide +kernel
theorem dX0_join_92 : decode cX0_join 92 = .ok (.iload 4, 2) := by decide +kernel
theorem dX0_join_94 : decode cX0_join 94 = .ok (.ishl, 1) := by decide +kernel
theorem dX0_join_95 : decode cX0_join 95 = .ok (.ior, 1) := by decide +kernel
theorem dX0_join_96 : decode cX0_join 96 = .ok (.iastore, 1) := by decide +kernel
theorem dX0_join_97 : decode cX0_join 97 = .ok (.aload_n 0, 1) := by decide +kernel
theorem dX0_join_98 : decode cX0_join 98 = .ok (.getfield 31, 3) := by decide +kernel
theorem dX0_join_101 : decode cX0_join 101 = .ok (.iload 4, 2) := by decide +kernel
theorem dX0_join_103 : decode cX0_join 103 = .ok (.dup2, 1) := by decide +kernel
theorem dX0_join_104 : decode cX0_join 104 = .ok (.iaload, 1) := by decide +kernel
theorem dX0_join_105 : decode cX0_join 105 = .ok (.iconst 1, 1) := by decide +kernel
theorem dX0_join_106 : decode cX0_join 106 = .ok (.iload_n 3, 1) := by decide +kernel
theorem dX0_join_107 : decode cX0_join 107 = .ok (.ishl, 1) := by decide +kernel
theorem dX0_join_108 : decode cX0_join 108 = .ok (.ior, 1) := by decide +kernel
theorem dX0_join_109 : decode cX0_join 109 = .ok (.iastore, 1) := by decide +kernel
theorem dX0_join_110 : decode cX0_join 110 = .ok (.goto 37, 3) := by decide +kernel
theorem dX0_join_113 : decode cX0_join 113 = .ok (.iload 5, 2) := by decide +kernel
theorem dX0_join_115 : decode cX0_join 115 = .ok (.ifCond .eq 19, 3) := by decide +kernel
theorem dX0_join_118 : decode cX0_join 118 = .ok (.aload_n 0, 1) := by decide +kernel
theorem dX0_join_119 : decode cX0_join 119 = .ok (.getfield 28, 3) := by decide +kernel
theorem dX0_join_122 : decode cX0_join 122 = .ok (.iload 4, 2) := by decide +kernel
theorem dX0_join_124 : decode cX0_join 124 = .ok (.dup2, 1) := by decide +kernel
theorem dX0_join_125 : decode cX0_join 125 = .ok (.iaload, 1) := by decide +kernel
theorem dX0_join_126 : decode cX0_join 126 = .ok (.iconst 1, 1) := by decide +kernel
theorem dX0_join_127 : decode cX0_join 127 = .ok (.iload_n 3, 1) := by decide +kernel
theorem dX0_join_128 : decode cX0_join 128 = .ok (.ishl, 1) := by decide +kernel
theorem dX0_join_129 : decode cX0_join 129 = .ok (.ior, 1) := by decide +kernel
theorem dX0_join_130 : decode cX0_join 130 = .ok (.iastore, 1) := by decide +kernel
theorem dX0_join_131 : decode cX0_join 131 = .ok (.goto 16, 3) := by decide +kernel
theorem dX0_join_134 : decode cX0_join 134 = .ok (.aload_n 0, 1) := by decide +kernel
theorem dX0_join_135 : decode cX0_join 135 = .ok (.getfield 28, 3) := by decide +kernel
theorem dX0_join_138 : decode cX0_join 138 = .ok (.iload_n 3, 1) := by decide +kernel
theorem dX0_join_139 : decode cX0_join 139 = .ok (.dup2, 1) := by decide +kernel
theorem dX0_join_140 : decode cX0_join 140 = .ok (.iaload, 1) := by decide +kernel
theorem dX0_join_141 : decode cX0_join 141 = .ok (.iconst 1, 1) := by decide +kernel
theorem dX0_join_142 : decode cX0_join 142 = .ok (.iload 4, 2) := by decide +kernel
theorem dX0_join_144 : decode cX0_join 144 = .ok (.ishl, 1) := by decide +kernel
theorem dX0_join_145 : decode cX0_join 145 = .ok (.ior, 1) := by decide +kernel
theorem dX0_join_146 : decode cX0_join 146 = .ok (.iastore, 1) := by decide +kernel
theorem dX0_join_147 : decode cX0_join 147 = .ok (.return_, 1) := by decide +kernel
theorem dX0_has_0 : decode cX0_has 0 = .ok (.iload_n 0, 1) := by decide +kernel
theorem dX0_has_1 : decode cX0_has 1 = .ok (.iload_n 1, 1) := by decide +kernel
theorem dX0_has_2 : decode cX0_has 2 = .ok (.ishr, 1) := by decide +kernel
theorem dX0_has_3 : decode cX0_has 3 = .ok (.iconst 1, 1) := by decide +kernel
theorem dX0_has_4 : decode cX0_has 4 = .ok (.iand, 1) := by decide +kernel
theorem dX0_has_5 : decode cX0_has 5 = .ok (.ifCond .eq 7, 3) := by decide +kernel
theorem dX0_has_8 : decode cX0_has 8 = .ok (.iconst 1, 1) := by decide +kernel
theorem dX0_has_9 : decode cX0_has 9 = .ok (.goto 4, 3) := by decide +kernel
theorem dX0_has_12 : decode cX0_has 12 = .ok (.iconst 0, 1) := by decide +kernel
theorem dX0_has_13 : decode cX0_has 13 = .ok (.ireturn, 1) := by decide +kernel
theorem dX0_isLeft_0 : decode cX0_isLeft 0 = .ok (.aload_n 0, 1) := by decide +kernel
theorem dX0_isLeft_1 : decode cX0_isLeft 1 = .ok (.getfield 15, 3) := by decide +kernel
theorem dX0_isLeft_4 : decode cX0_isLeft 4 = .ok (.iconst 2, 1) := by decide +kernel
theorem dX0_isLeft_5 : decode cX0_isLeft 5 = .ok (.iload_n 1, 1) := by decide +kernel
theorem dX0_isLeft_6 : decode cX0_isLeft 6 = .ok (.imul, 1) := by decide +kernel
theorem dX0_isLeft_7 : decode cX0_isLeft 7 = .ok (.iaload, 1) := by decide +kernel
theorem dX0_isLeft_8 : decode cX0_isLeft 8 = .ok (.iconst (-1), 1) := by decide +kernel
theorem dX0_isLeft_9 : decode cX0_isLeft 9 = .ok (.if_icmp .eq 7, 3) := by decide +kernel
theorem dX0_isLeft_12 : decode cX0_isLeft 12 = .ok (.iconst 1, 1) := by decide +kernel
theorem dX0_isLeft_13 : decode cX0_isLeft 13 = .ok (.goto 4, 3) := by decide +kernel
theorem dX0_isLeft_16 : decode cX0_isLeft 16 = .ok (.iconst 0, 1) := by decide +kernel
theorem dX0_isLeft_17 : decode cX0_isLeft 17 = .ok (.ireturn, 1) := by decide +kernel
theorem dX0_signOf_0 : decode cX0_signOf 0 = .ok (.aload_n 0, 1) := by decide +kernel
theorem dX0_signOf_1 : decode cX0_signOf 1 = .ok (.iload_n 1, 1) := by decide +kernel
theorem dX0_signOf_2 : decode cX0_signOf 2 = .ok (.invokevirtual 114, 3) := by decide +kernel
theorem dX0_signOf_5 : decode cX0_signOf 5 = .ok (.ifCond .ne 5, 3) := by decide +kernel
theorem dX0_signOf_8 : decode cX0_signOf 8 = .ok (.iconst 0, 1) := by decide +kernel
theorem dX0_signOf_9 : decode cX0_signOf 9 = .ok (.ireturn, 1) := by decide +kernel
theorem dX0_signOf_10 : decode cX0_signOf 10 = .ok (.aload_n 0, 1) := by decide +kernel
theorem dX0_signOf_11 : decode cX0_signOf 11 = .ok (.getfield 66, 3) := by decide +kernel
theorem dX0_signOf_14 : decode cX0_signOf 14 = .ok (.iload_n 1, 1) := by decide +kernel
theorem dX0_signOf_15 : decode cX0_signOf 15 = .ok (.invokestatic 117, 3) := by decide +kernel
theorem dX0_signOf_18 : decode cX0_signOf 18 = .ok (.ifCond .eq 7, 3) := by decide +kernel
theorem dX0_signOf_21 : decode cX0_signOf 21 = .ok (.iconst 1, 1) := by decide +kernel
theorem dX0_signOf_22 : decode cX0_signOf 22 = .ok (.goto 4, 3) := by decide +kernel
theorem dX0_signOf_25 : decode cX0_signOf 25 = .ok (.iconst (-1), 1) := by decide +kernel
theorem dX0_signOf_26 : decode cX0_signOf 26 = .ok (.ireturn, 1) := by decide +kernel
theorem dX0_ringOfPass_0 : decode cX0_ringOfPass 0 = .ok (.aload_n 0, 1) := by decide +kernel
theorem dX0_ringOfPass_1 : decode cX0_ringOfPass 1 = .ok (.getfield 37, 3) := by decide +kernel
theorem dX0_ringOfPass_4 : decode cX0_ringOfPass 4 = .ok (.getfield 93, 3) := by decide +kernel
theorem dX0_ringOfPass_7 : decode cX0_ringOfPass 7 = .ok (.aload_n 0, 1) := by decide +kernel
theorem dX0_ringOfPass_8 : decode cX0_ringOfPass 8 = .ok (.getfield 37, 3) := by decide +kernel
theorem dX0_ringOfPass_11 : decode cX0_ringOfPass 11 = .ok (.getfield 121, 3) := by decide +kernel
theorem dX0_ringOfPass_14 : decode cX0_ringOfPass 14 = .ok (.aload_n 0, 1) := by decide +kernel
theorem dX0_ringOfPass_15 : decode cX0_ringOfPass 15 = .ok (.getfield 15, 3) := by decide +kernel
theorem dX0_ringOfPass_18 : decode cX0_ringOfPass 18 = .ok (.iload_n 1, 1) := by decide +kernel
theorem dX0_ringOfPass_19 : decode cX0_ringOfPass 19 = .ok (.iaload, 1) := by decide +kernel
theorem dX0_ringOfPass_20 : decode cX0_ringOfPass 20 = .ok (.iaload, 1) := by decide +kernel
theorem dX0_ringOfPass_21 : decode cX0_ringOfPass 21 = .ok (.iaload, 1) := by decide +kernel
theorem dX0_ringOfPass_22 : decode cX0_ringOfPass 22 = .ok (.ireturn, 1) := by decide +kernel
theorem dX0_signsBetween_0 : decode cX0_signsBetween 0 = .ok (.iconst 0, 1) := by decide +kernel
theorem dX0_signsBetween_1 : decode cX0_signsBetween 1 = .ok (.istore_n 3, 1) := by decide +kernel
theorem dX0_signsBetween_2 : decode cX0_signsBetween 2 = .ok (.iconst 0, 1) := by decide +kernel
theorem dX0_signsBetween_3 : decode cX0_signsBetween 3 = .ok (.istore 4, 2) := by decide +kernel
theorem dX0_signsBetween_5 : decode cX0_signsBetween 5 = .ok (.iload 4, 2) := by decide +kernel
theorem dX0_signsBetween_7 : decode cX0_signsBetween 7 = .ok (.aload_n 0, 1) := by decide +kernel
theorem dX0_signsBetween_8 : decode cX0_signsBetween 8 = .ok (.getfield 37, 3) := by decide +kernel
theorem dX0_signsBetween_11 : decode cX0_signsBetween 11 = .ok (.getfield 67, 3) := by decide +kernel
theorem dX0_signsBetween_14 : decode cX0_signsBetween 14 = .ok (.if_icmp .ge 73, 3) := by decide +kernel
theorem dX0_signsBetween_17 : decode cX0_signsBetween 17 = .ok (.aload_n 0, 1) := by decide +kernel
theorem dX0_signsBetween_18 : decode cX0_signsBetween 18 = .ok (.iload 4, 2) := by decide +kernel
theorem dX0_signsBetween_20 : decode cX0_signsBetween 20 = .ok (.invokevirtual 114, 3) := by decide +kernel
theorem dX0_signsBetween_23 : decode cX0_signsBetween 23 = .ok (.ifCond .eq 58, 3) := by decide +kernel
theorem dX0_signsBetween_26 : decode cX0_signsBetween 26 = .ok (.aload_n 0, 1) := by decide +kernel
theorem dX0_signsBetween_27 : decode cX0_signsBetween 27 = .ok (.iconst 2, 1) := by decide +kernel
theorem dX0_signsBetween_28 : decode cX0_signsBetween 28 = .ok (.iload 4, 2) := by decide +kernel
theorem dX0_signsBetween_30 : decode cX0_signsBetween 30 = .ok (.imul, 1) := by decide +kernel
theorem dX0_signsBetween_31 : decode cX0_signsBetween 31 = .ok (.invokevirtual 124, 3) := by decide +kernel
theorem dX0_signsBetween_34 : decode cX0_signsBetween 34 = .ok (.istore 5, 2) := by decide +kernel
theorem dX0_signsBetween_36 : decode cX0_signsBetween 36 = .ok (.aload_n 0, 1) := by decide +kernel
theorem dX0_signsBetween_37 : decode cX0_signsBetween 37 = .ok (.iconst 2, 1) := by decide +kernel
theorem dX0_signsBetween_38 : decode cX0_signsBetween 38 = .ok (.iload 4, 2) := by decide +kernel
theorem dX0_signsBetween_40 : decode cX0_signsBetween 40 = .ok (.imul, 1) := by decide +kernel
theorem dX0_signsBetween_41 : decode cX0_signsBetween 41 = .ok (.iconst 1, 1) := by decide +kernel
theorem dX0_signsBetween_42 : decode cX0_signsBetween 42 = .ok (.iadd, 1) := by decide +kernel
theorem dX0_signsBetween_43 : decode cX0_signsBetween 43 = .ok (.invokevirtual 124, 3) := by decide +kernel
theorem dX0_signsBetween_46 : decode cX0_signsBetween 46 = .ok (.istore 6, 2) := by decide +kernel
theorem dX0_signsBetween_48 : decode cX0_signsBetween 48 = .ok (.iload 5, 2) := by decide +kernel
theorem dX0_signsBetween_50 : decode cX0_signsBetween 50 = .ok (.iload_n 1, 1) := by decide +kernel
theorem dX0_signsBetween_51 : decode cX0_signsBetween 51 = .ok (.if_icmp .ne 9, 3) := by decide +kernel
theorem dX0_signsBetween_54 : decode cX0_signsBetween 54 = .ok (.iload 6, 2) := by decide +kernel
theorem dX0_signsBetween_56 : decode cX0_signsBetween 56 = .ok (.iload_n 2, 1) := by decide +kernel
theorem dX0_signsBetween_57 : decode cX0_signsBetween 57 = .ok (.if_icmp .eq 15, 3) := by decide +kernel
theorem dX0_signsBetween_60 : decode cX0_signsBetween 60 = .ok (.iload 5, 2) := by decide +kernel
theorem dX0_signsBetween_62 : decode cX0_signsBetween 62 = .ok (.iload_n 2, 1) := by decide +kernel
theorem dX0_signsBetween_63 : decode cX0_signsBetween 63 = .ok (.if_icmp .ne 18, 3) := by decide +kernel
theorem dX0_signsBetween_66 : decode cX0_signsBetween 66 = .ok (.iload 6, 2) := by decide +kernel
theorem dX0_signsBetween_68 : decode cX0_signsBetween 68 = .ok (.iload_n 1, 1) := by decide +kernel
theorem dX0_signsBetween_69 : decode cX0_signsBetween 69 = .ok (.if_icmp .ne 12, 3) := by decide +kernel
theorem dX0_signsBetween_72 : decode cX0_signsBetween 72 = .ok (.iload_n 3, 1) := by decide +kernel
theorem dX0_signsBetween_73 : decode cX0_signsBetween 73 = .ok (.aload_n 0, 1) := by decide +kernel
theorem dX0_signsBetween_74 : decode cX0_signsBetween 74 = .ok (.iload 4, 2) := by decide +kernel
theorem dX0_signsBetween_76 : decode cX0_signsBetween 76 = .ok (.invokevirtual 127, 3) := by decide +kernel
theorem dX0_signsBetween_79 : decode cX0_signsBetween 79 = .ok (.iadd, 1) := by decide +kernel
theorem dX0_signsBetween_80 : decode cX0_signsBetween 80 = .ok (.istore_n 3, 1) := by decide +kernel
theorem dX0_signsBetween_81 : decode cX0_signsBetween 81 = .ok (.iinc 4 1, 3) := by decide +kernel
theorem dX0_signsBetween_84 : decode cX0_signsBetween 84 = .ok (.goto (-79), 3) := by decide +kernel
theorem dX0_signsBetween_87 : decode cX0_signsBetween 87 = .ok (.iload_n 3, 1) := by decide +kernel
theorem dX0_signsBetween_88 : decode cX0_signsBetween 88 = .ok (.ireturn, 1) := by decide +kernel
theorem dX0_seenBy_0 : decode cX0_seenBy 0 = .ok (.iconst 0, 1) := by decide +kernel
theorem dX0_seenBy_1 : decode cX0_seenBy 1 = .ok (.istore_n 2, 1) := by decide +kernel
theorem dX0_seenBy_2 : decode cX0_seenBy 2 = .ok (.iconst 0, 1) := by decide +kernel
theorem dX0_seenBy_3 : decode cX0_seenBy 3 = .ok (.istore_n 3, 1) := by decide +kernel
theorem dX0_seenBy_4 : decode cX0_seenBy 4 = .ok (.iload_n 3, 1) := by decide +kernel
theorem dX0_seenBy_5 : decode cX0_seenBy 5 = .ok (.iconst 2, 1) := by decide +kernel
theorem dX0_seenBy_6 : decode cX0_seenBy 6 = .ok (.aload_n 0, 1) := by decide +kernel
theorem dX0_seenBy_7 : decode cX0_seenBy 7 = .ok (.getfield 79, 3) := by decide +kernel
theorem dX0_seenBy_10 : decode cX0_seenBy 10 = .ok (.imul, 1) := by decide +kernel
theorem dX0_seenBy_11 : decode cX0_seenBy 11 = .ok (.if_icmp .ge 77, 3) := by decide +kernel
theorem dX0_seenBy_14 : decode cX0_seenBy 14 = .ok (.aload_n 0, 1) := by decide +kernel
theorem dX0_seenBy_15 : decode cX0_seenBy 15 = .ok (.getfield 37, 3) := by decide +kernel
theorem dX0_seenBy_18 : decode cX0_seenBy 18 = .ok (.getfield 121, 3) := by decide +kernel
theorem dX0_seenBy_21 : decode cX0_seenBy 21 = .ok (.aload_n 0, 1) := by decide +kernel
theorem dX0_seenBy_22 : decode cX0_seenBy 22 = .ok (.getfield 15, 3) := by decide +kernel
theorem dX0_seenBy_25 : decode cX0_seenBy 25 = .ok (.aload_n 0, 1) := by decide +kernel
theorem dX0_seenBy_26 : decode cX0_seenBy 26 = .ok (.getfield 19, 3) := by decide +kernel
theorem dX0_seenBy_29 : decode cX0_seenBy 29 = .ok (.iload_n 3, 1) := by decide +kernel
theorem dX0_seenBy_30 : decode cX0_seenBy 30 = .ok (.iaload, 1) := by decide +kernel
theorem dX0_seenBy_31 : decode cX0_seenBy 31 = .ok (.iaload, 1) := by decide +kernel
theorem dX0_seenBy_32 : decode cX0_seenBy 32 = .ok (.iaload, 1) := by decide +kernel
theorem dX0_seenBy_33 : decode cX0_seenBy 33 = .ok (.istore 4, 2) := by decide +kernel
theorem dX0_seenBy_35 : decode cX0_seenBy 35 = .ok (.iload 4, 2) := by decide +kernel
theorem dX0_seenBy_37 : decode cX0_seenBy 37 = .ok (.aload_n 0, 1) := by decide +kernel
theorem dX0_seenBy_38 : decode cX0_seenBy 38 = .ok (.getfield 37, 3) := by decide +kernel
theorem dX0_seenBy_41 : decode cX0_seenBy 41 = .ok (.getfield 130, 3) := by decide +kernel
theorem dX0_seenBy_44 : decode cX0_seenBy 44 = .ok (.iconst 2, 1) := by decide +kernel
theorem dX0_seenBy_45 : decode cX0_seenBy 45 = .ok (.iload_n 1, 1) := by decide +kernel
theorem dX0_seenBy_46 : decode cX0_seenBy 46 = .ok (.imul, 1) := by decide +kernel
theorem dX0_seenBy_47 : decode cX0_seenBy 47 = .ok (.iaload, 1) := by decide +kernel
theorem dX0_seenBy_48 : decode cX0_seenBy 48 = .ok (.if_icmp .eq 21, 3) := by decide +kernel
theorem dX0_seenBy_51 : decode cX0_seenBy 51 = .ok (.iload 4, 2) := by decide +kernel
theorem dX0_seenBy_53 : decode cX0_seenBy 53 = .ok (.aload_n 0, 1) := by decide +kernel
theorem dX0_seenBy_54 : decode cX0_seenBy 54 = .ok (.getfield 37, 3) := by decide +kernel
theorem dX0_seenBy_57 : decode cX0_seenBy 57 = .ok (.getfield 130, 3) := by decide +kernel
theorem dX0_seenBy_60 : decode cX0_seenBy 60 = .ok (.iconst 2, 1) := by decide +kernel
theorem dX0_seenBy_61 : decode cX0_seenBy 61 = .ok (.iload_n 1, 1) := by decide +kernel
theorem dX0_seenBy_62 : decode cX0_seenBy 62 = .ok (.imul, 1) := by decide +kernel
theorem dX0_seenBy_63 : decode cX0_seenBy 63 = .ok (.iconst 1, 1) := by decide +kernel
theorem dX0_seenBy_64 : decode cX0_seenBy 64 = .ok (.iadd, 1) := by decide +kernel
theorem dX0_seenBy_65 : decode cX0_seenBy 65 = .ok (.iaload, 1) := by decide +kernel
theorem dX0_seenBy_66 : decode cX0_seenBy 66 = .ok (.if_icmp .ne 16, 3) := by decide +kernel
theorem dX0_seenBy_69 : decode cX0_seenBy 69 = .ok (.iload_n 2, 1) := by decide +kernel
theorem dX0_seenBy_70 : decode cX0_seenBy 70 = .ok (.iconst 1, 1) := by decide +kernel
theorem dX0_seenBy_71 : decode cX0_seenBy 71 = .ok (.aload_n 0, 1) := by decide +kernel
theorem dX0_seenBy_72 : decode cX0_seenBy 72 = .ok (.getfield 19, 3) := by decide +kernel
theorem dX0_seenBy_75 : decode cX0_seenBy 75 = .ok (.iload_n 3, 1) := by decide +kernel
theorem dX0_seenBy_76 : decode cX0_seenBy 76 = .ok (.iaload, 1) := by decide +kernel
theorem dX0_seenBy_77 : decode cX0_seenBy 77 = .ok (.iconst 2, 1) := by decide +kernel
theorem dX0_seenBy_78 : decode cX0_seenBy 78 = .ok (.idiv, 1) := by decide +kernel
theorem dX0_seenBy_79 : decode cX0_seenBy 79 = .ok (.ishl, 1) := by decide +kernel
theorem dX0_seenBy_80 : decode cX0_seenBy 80 = .ok (.ior, 1) := by decide +kernel
theorem dX0_seenBy_81 : decode cX0_seenBy 81 = .ok (.istore_n 2, 1) := by decide +kernel
theorem dX0_seenBy_82 : decode cX0_seenBy 82 = .ok (.iinc 3 1, 3) := by decide +kernel
theorem dX0_seenBy_85 : decode cX0_seenBy 85 = .ok (.goto (-81), 3) := by decide +kernel
theorem dX0_seenBy_88 : decode cX0_seenBy 88 = .ok (.iload_n 2, 1) := by decide +kernel
theorem dX0_seenBy_89 : decode cX0_seenBy 89 = .ok (.ireturn, 1) := by decide +kernel
theorem dX0_listTurn_0 : decode cX0_listTurn 0 = .ok (.aload_n 0, 1) := by decide +kernel
theorem dX0_listTurn_1 : decode cX0_listTurn 1 = .ok (.getfield 28, 3) := by decide +kernel
theorem dX0_listTurn_4 : decode cX0_listTurn 4 = .ok (.iload_n 1, 1) := by decide +kernel
theorem dX0_listTurn_5 : decode cX0_listTurn 5 = .ok (.iaload, 1) := by decide +kernel
theorem dX0_listTurn_6 : decode cX0_listTurn 6 = .ok (.iload_n 1, 1) := by decide +kernel
theorem dX0_listTurn_7 : decode cX0_listTurn 7 = .ok (.invokestatic 117, 3) := by decide +kernel
theorem dX0_listTurn_10 : decode cX0_listTurn 10 = .ok (.ifCond .eq 8, 3) := by decide +kernel
theorem dX0_listTurn_13 : decode cX0_listTurn 13 = .ok (.aload_n 0, 1) := by decide +kernel
theorem dX0_listTurn_14 : decode cX0_listTurn 14 = .ok (.iload_n 1, 1) := by decide +kernel
theorem dX0_listTurn_15 : decode cX0_listTurn 15 = .ok (.invokevirtual 133, 3) := by decide +kernel
theorem dX0_listTurn_18 : decode cX0_listTurn 18 = .ok (.return_, 1) := by decide +kernel
theorem dX0_addNumber_0 : decode cX0_addNumber 0 = .ok (.aload_n 0, 1) := by decide +kernel
theorem dX0_addNumber_1 : decode cX0_addNumber 1 = .ok (.getfield 82, 3) := by decide +kernel
theorem dX0_addNumber_4 : decode cX0_addNumber 4 = .ok (.sipush 256, 3) := by decide +kernel
theorem dX0_addNumber_7 : decode cX0_addNumber 7 = .ok (.if_icmp .ge 23, 3) := by decide +kernel
theorem dX0_addNumber_10 : decode cX0_addNumber 10 = .ok (.aload_n 0, 1) := by decide +kernel
theorem dX0_addNumber_11 : decode cX0_addNumber 11 = .ok (.getfield 34, 3) := by decide +kernel
theorem dX0_addNumber_14 : decode cX0_addNumber 14 = .ok (.aload_n 0, 1) := by decide +kernel
theorem dX0_addNumber_15 : decode cX0_addNumber 15 = .ok (.getfield 82, 3) := by decide +kernel
theorem dX0_addNumber_18 : decode cX0_addNumber 18 = .ok (.iload_n 1, 1) := by decide +kernel
theorem dX0_addNumber_19 : decode cX0_addNumber 19 = .ok (.iastore, 1) := by decide +kernel
theorem dX0_addNumber_20 : decode cX0_addNumber 20 = .ok (.aload_n 0, 1) := by decide +kernel
theorem dX0_addNumber_21 : decode cX0_addNumber 21 = .ok (.dup, 1) := by decide +kernel
theorem dX0_addNumber_22 : decode cX0_addNumber 22 = .ok (.getfield 82, 3) := by decide +kernel
theorem dX0_addNumber_25 : decode cX0_addNumber 25 = .ok (.iconst 1, 1) := by decide +kernel
theorem dX0_addNumber_26 : decode cX0_addNumber 26 = .ok (.iadd, 1) := by decide +kernel
theorem dX0_addNumber_27 : decode cX0_addNumber 27 = .ok (.putfield 82, 3) := by decide +kernel
theorem dX0_addNumber_30 : decode cX0_addNumber 30 = .ok (.return_, 1) := by decide +kernel
theorem dX0_slipsWith_0 : decode cX0_slipsWith 0 = .ok (.aload_n 0, 1) := by decide +kernel
theorem dX0_slipsWith_1 : decode cX0_slipsWith 1 = .ok (.getfield 66, 3) := by decide +kernel
theorem dX0_slipsWith_4 : decode cX0_slipsWith 4 = .ok (.iload_n 1, 1) := by decide +kernel
theorem dX0_slipsWith_5 : decode cX0_slipsWith 5 = .ok (.invokestatic 117, 3) := by decide +kernel
theorem dX0_slipsWith_8 : decode cX0_slipsWith 8 = .ok (.ifCond .eq 12, 3) := by decide +kernel
theorem dX0_slipsWith_11 : decode cX0_slipsWith 11 = .ok (.aload_n 0, 1) := by decide +kernel
theorem dX0_slipsWith_12 : decode cX0_slipsWith 12 = .ok (.getfield 66, 3) := by decide +kernel
theorem dX0_slipsWith_15 : decode cX0_slipsWith 15 = .ok (.iconst (-1), 1) := by decide +kernel
theorem dX0_slipsWith_16 : decode cX0_slipsWith 16 = .ok (.ixor, 1) := by decide +kernel
theorem dX0_slipsWith_17 : decode cX0_slipsWith 17 = .ok (.goto 7, 3) := by decide +kernel
theorem dX0_slipsWith_20 : decode cX0_slipsWith 20 = .ok (.aload_n 0, 1) := by decide +kernel
theorem dX0_slipsWith_21 : decode cX0_slipsWith 21 = .ok (.getfield 66, 3) := by decide +kernel
theorem dX0_slipsWith_24 : decode cX0_slipsWith 24 = .ok (.istore_n 2, 1) := by decide +kernel
theorem dX0_slipsWith_25 : decode cX0_slipsWith 25 = .ok (.aload_n 0, 1) := by decide +kernel
theorem dX0_slipsWith_26 : decode cX0_slipsWith 26 = .ok (.getfield 25, 3) := by decide +kernel
theorem dX0_slipsWith_29 : decode cX0_slipsWith 29 = .ok (.iload_n 1, 1) := by decide +kernel
theorem dX0_slipsWith_30 : decode cX0_slipsWith 30 = .ok (.iaload, 1) := by decide +kernel
theorem dX0_slipsWith_31 : decode cX0_slipsWith 31 = .ok (.aload_n 0, 1) := by decide +kernel
theorem dX0_slipsWith_32 : decode cX0_slipsWith 32 = .ok (.getfield 31, 3) := by decide +kernel
theorem dX0_slipsWith_35 : decode cX0_slipsWith 35 = .ok (.iload_n 1, 1) := by decide +kernel
theorem dX0_slipsWith_36 : decode cX0_slipsWith 36 = .ok (.iaload, 1) := by decide +kernel
theorem dX0_slipsWith_37 : decode cX0_slipsWith 37 = .ok (.iand, 1) := by decide +kernel
theorem dX0_slipsWith_38 : decode cX0_slipsWith 38 = .ok (.iload_n 2, 1) := by decide +kernel
theorem dX0_slipsWith_39 : decode cX0_slipsWith 39 = .ok (.iand, 1) := by decide +kernel
theorem dX0_slipsWith_40 : decode cX0_slipsWith 40 = .ok (.ireturn, 1) := by decide +kernel
theorem dX0_listSlips_0 : decode cX0_listSlips 0 = .ok (.aload_n 0, 1) := by decide +kernel
theorem dX0_listSlips_1 : decode cX0_listSlips 1 = .ok (.iload_n 1, 1) := by decide +kernel
theorem dX0_listSlips_2 : decode cX0_listSlips 2 = .ok (.invokevirtual 136, 3) := by decide +kernel
theorem dX0_listSlips_5 : decode cX0_listSlips 5 = .ok (.istore_n 2, 1) := by decide +kernel
theorem dX0_listSlips_6 : decode cX0_listSlips 6 = .ok (.iload_n 1, 1) := by decide +kernel
theorem dX0_listSlips_7 : decode cX0_listSlips 7 = .ok (.iconst 1, 1) := by decide +kernel
theorem dX0_listSlips_8 : decode cX0_listSlips 8 = .ok (.iadd, 1) := by decide +kernel
theorem dX0_listSlips_9 : decode cX0_listSlips 9 = .ok (.istore_n 3, 1) := by decide +kernel
theorem dX0_listSlips_10 : decode cX0_listSlips 10 = .ok (.iload_n 2, 1) := by decide +kernel
theorem dX0_listSlips_11 : decode cX0_listSlips 11 = .ok (.ifCond .eq 50, 3) := by decide +kernel
theorem dX0_listSlips_14 : decode cX0_listSlips 14 = .ok (.iload_n 3, 1) := by decide +kernel
theorem dX0_listSlips_15 : decode cX0_listSlips 15 = .ok (.aload_n 0, 1) := by decide +kernel
theorem dX0_listSlips_16 : decode cX0_listSlips 16 = .ok (.getfield 37, 3) := by decide +kernel
theorem dX0_listSlips_19 : decode cX0_listSlips 19 = .ok (.getfield 67, 3) := by decide +kernel
theorem dX0_listSlips_22 : decode cX0_listSlips 22 = .ok (.if_icmp .ge 39, 3) := by decide +kernel
theorem dX0_listSlips_25 : decode cX0_listSlips 25 = .ok (.iload_n 2, 1) := by decide +kernel
theorem dX0_listSlips_26 : decode cX0_listSlips 26 = .ok (.iload_n 3, 1) := by decide +kernel
theorem dX0_listSlips_27 : decode cX0_listSlips 27 = .ok (.invokestatic 117, 3) := by decide +kernel
theorem dX0_listSlips_30 : decode cX0_listSlips 30 = .ok (.ifCond .eq 25, 3) := by decide +kernel
theorem dX0_listSlips_33 : decode cX0_listSlips 33 = .ok (.aload_n 0, 1) := by decide +kernel
theorem dX0_listSlips_34 : decode cX0_listSlips 34 = .ok (.iload_n 1, 1) := by decide +kernel
theorem dX0_listSlips_35 : decode cX0_listSlips 35 = .ok (.iload_n 3, 1) := by decide +kernel
theorem dX0_listSlips_36 : decode cX0_listSlips 36 = .ok (.invokevirtual 139, 3) := by decide +kernel
theorem dX0_listSlips_39 : decode cX0_listSlips 39 = .ok (.ifCond .eq 16, 3) := by decide +kernel
theorem dX0_listSlips_42 : decode cX0_listSlips 42 = .ok (.aload_n 0, 1) := by decide +kernel
theorem dX0_listSlips_43 : decode cX0_listSlips 43 = .ok (.bipush 100, 2) := by decide +kernel
theorem dX0_listSlips_45 : decode cX0_listSlips 45 = .ok (.bipush 10, 2) := by decide +kernel
theorem dX0_listSlips_47 : decode cX0_listSlips 47 = .ok (.iload_n 1, 1) := by decide +kernel
theorem dX0_listSlips_48 : decode cX0_listSlips 48 = .ok (.imul, 1) := by decide +kernel
theorem dX0_listSlips_49 : decode cX0_listSlips 49 = .ok (.iadd, 1) := by decide +kernel
theorem dX0_listSlips_50 : decode cX0_listSlips 50 = .ok (.iload_n 3, 1) := by decide +kernel
theorem dX0_listSlips_51 : decode cX0_listSlips 51 = .ok (.iadd, 1) := by decide +kernel
theorem dX0_listSlips_52 : decode cX0_listSlips 52 = .ok (.invokevirtual 133, 3) := by decide +kernel
theorem dX0_listSlips_55 : decode cX0_listSlips 55 = .ok (.iinc 3 1, 3) := by decide +kernel
theorem dX0_listSlips_58 : decode cX0_listSlips 58 = .ok (.goto (-48), 3) := by decide +kernel
theorem dX0_listSlips_61 : decode cX0_listSlips 61 = .ok (.return_, 1) := by decide +kernel
theorem dX0_stepsWith_0 : decode cX0_stepsWith 0 = .ok (.aload_n 0, 1) := by decide +kernel
theorem dX0_stepsWith_1 : decode cX0_stepsWith 1 = .ok (.getfield 28, 3) := by decide +kernel
theorem dX0_stepsWith_4 : decode cX0_stepsWith 4 = .ok (.iload_n 1, 1) := by decide +kernel
theorem dX0_stepsWith_5 : decode cX0_stepsWith 5 = .ok (.iaload, 1) := by decide +kernel
theorem dX0_stepsWith_6 : decode cX0_stepsWith 6 = .ok (.aload_n 0, 1) := by decide +kernel
theorem dX0_stepsWith_7 : decode cX0_stepsWith 7 = .ok (.getfield 31, 3) := by decide +kernel
theorem dX0_stepsWith_10 : decode cX0_stepsWith 10 = .ok (.iload_n 2, 1) := by decide +kernel
theorem dX0_stepsWith_11 : decode cX0_stepsWith 11 = .ok (.iaload, 1) := by decide +kernel
theorem dX0_stepsWith_12 : decode cX0_stepsWith 12 = .ok (.iand, 1) := by decide +kernel
theorem dX0_stepsWith_13 : decode cX0_stepsWith 13 = .ok (.iconst 1, 1) := by decide +kernel
theorem dX0_stepsWith_14 : decode cX0_stepsWith 14 = .ok (.iload_n 1, 1) := by decide +kernel
theorem dX0_stepsWith_15 : decode cX0_stepsWith 15 = .ok (.ishl, 1) := by decide +kernel
theorem dX0_stepsWith_16 : decode cX0_stepsWith 16 = .ok (.iconst (-1), 1) := by decide +kernel
theorem dX0_stepsWith_17 : decode cX0_stepsWith 17 = .ok (.ixor, 1) := by decide +kernel
theorem dX0_stepsWith_18 : decode cX0_stepsWith 18 = .ok (.iand, 1) := by decide +kernel
theorem dX0_stepsWith_19 : decode cX0_stepsWith 19 = .ok (.iconst 1, 1) := by decide +kernel
theorem dX0_stepsWith_20 : decode cX0_stepsWith 20 = .ok (.iload_n 2, 1) := by decide +kernel
theorem dX0_stepsWith_21 : decode cX0_stepsWith 21 = .ok (.ishl, 1) := by decide +kernel
theorem dX0_stepsWith_22 : decode cX0_stepsWith 22 = .ok (.iconst (-1), 1) := by decide +kernel
theorem dX0_stepsWith_23 : decode cX0_stepsWith 23 = .ok (.ixor, 1) := by decide +kernel
theorem dX0_stepsWith_24 : decode cX0_stepsWith 24 = .ok (.iand, 1) := by decide +kernel
theorem dX0_stepsWith_25 : decode cX0_stepsWith 25 = .ok (.ireturn, 1) := by decide +kernel
theorem dX0_listSteps_0 : decode cX0_listSteps 0 = .ok (.aload_n 0, 1) := by decide +kernel
theorem dX0_listSteps_1 : decode cX0_listSteps 1 = .ok (.getfield 25, 3) := by decide +kernel
theorem dX0_listSteps_4 : decode cX0_listSteps 4 = .ok (.iload_n 1, 1) := by decide +kernel
theorem dX0_listSteps_5 : decode cX0_listSteps 5 = .ok (.iaload, 1) := by decide +kernel
theorem dX0_listSteps_6 : decode cX0_listSteps 6 = .ok (.ifCond .eq 12, 3) := by decide +kernel
theorem dX0_listSteps_9 : decode cX0_listSteps 9 = .ok (.aload_n 0, 1) := by decide +kernel
theorem dX0_listSteps_10 : decode cX0_listSteps 10 = .ok (.getfield 28, 3) := by decide +kernel
theorem dX0_listSteps_13 : decode cX0_listSteps 13 = .ok (.iload_n 1, 1) := by decide +kernel
theorem dX0_listSteps_14 : decode cX0_listSteps 14 = .ok (.iaload, 1) := by decide +kernel
theorem dX0_listSteps_15 : decode cX0_listSteps 15 = .ok (.ifCond .ne 4, 3) := by decide +kernel
theorem dX0_listSteps_18 : decode cX0_listSteps 18 = .ok (.return_, 1) := by decide +kernel
theorem dX0_listSteps_19 : decode cX0_listSteps 19 = .ok (.iconst 0, 1) := by decide +kernel
theorem dX0_listSteps_20 : decode cX0_listSteps 20 = .ok (.istore_n 2, 1) := by decide +kernel
theorem dX0_listSteps_21 : decode cX0_listSteps 21 = .ok (.iload_n 2, 1) := by decide +kernel
theorem dX0_listSteps_22 : decode cX0_listSteps 22 = .ok (.aload_n 0, 1) := by decide +kernel
theorem dX0_listSteps_23 : decode cX0_listSteps 23 = .ok (.getfield 37, 3) := by decide +kernel
theorem dX0_listSteps_26 : decode cX0_listSteps 26 = .ok (.getfield 67, 3) := by decide +kernel
theorem dX0_listSteps_29 : decode cX0_listSteps 29 = .ok (.if_icmp .ge 102, 3) := by decide +kernel
theorem dX0_listSteps_32 : decode cX0_listSteps 32 = .ok (.aload_n 0, 1) := by decide +kernel
theorem dX0_listSteps_33 : decode cX0_listSteps 33 = .ok (.getfield 25, 3) := by decide +kernel
theorem dX0_listSteps_36 : decode cX0_listSteps 36 = .ok (.iload_n 1, 1) := by decide +kernel
theorem dX0_listSteps_37 : decode cX0_listSteps 37 = .ok (.iaload, 1) := by decide +kernel
theorem dX0_listSteps_38 : decode cX0_listSteps 38 = .ok (.iload_n 2, 1) := by decide +kernel
theorem dX0_listSteps_39 : decode cX0_listSteps 39 = .ok (.invokestatic 117, 3) := by decide +kernel
theorem dX0_listSteps_42 : decode cX0_listSteps 42 = .ok (.ifCond .eq 17, 3) := by decide +kernel
theorem dX0_listSteps_45 : decode cX0_listSteps 45 = .ok (.iload_n 2, 1) := by decide +kernel
theorem dX0_listSteps_46 : decode cX0_listSteps 46 = .ok (.iload_n 1, 1) := by decide +kernel
theorem dX0_listSteps_47 : decode cX0_listSteps 47 = .ok (.if_icmp .eq 12, 3) := by decide +kernel
theorem dX0_listSteps_50 : decode cX0_listSteps 50 = .ok (.aload_n 0, 1) := by decide +kernel
theorem dX0_listSteps_51 : decode cX0_listSteps 51 = .ok (.iload_n 1, 1) := by decide +kernel
theorem dX0_listSteps_52 : decode cX0_listSteps 52 = .ok (.iload_n 2, 1) := by decide +kernel
theorem dX0_listSteps_53 : decode cX0_listSteps 53 = .ok (.invokevirtual 142, 3) := by decide +kernel
theorem dX0_listSteps_56 : decode cX0_listSteps 56 = .ok (.goto 4, 3) := by decide +kernel
theorem dX0_listSteps_59 : decode cX0_listSteps 59 = .ok (.iconst 0, 1) := by decide +kernel
theorem dX0_listSteps_60 : decode cX0_listSteps 60 = .ok (.istore_n 3, 1) := by decide +kernel
theorem dX0_listSteps_61 : decode cX0_listSteps 61 = .ok (.iconst 0, 1) := by decide +kernel
theorem dX0_listSteps_62 : decode cX0_listSteps 62 = .ok (.istore 4, 2) := by decide +kernel
theorem dX0_listSteps_64 : decode cX0_listSteps 64 = .ok (.iload_n 3, 1) := by decide +kernel
theorem dX0_listSteps_65 : decode cX0_listSteps 65 = .ok (.ifCond .eq 60, 3) := by decide +kernel
theorem dX0_listSteps_68 : decode cX0_listSteps 68 = .ok (.iload 4, 2) := by decide +kernel
theorem dX0_listSteps_70 : decode cX0_listSteps 70 = .ok (.aload_n 0, 1) := by decide +kernel
theorem dX0_listSteps_71 : decode cX0_listSteps 71 = .ok (.getfield 37, 3) := by decide +kernel
theorem dX0_listSteps_74 : decode cX0_listSteps 74 = .ok (.getfield 67, 3) := by decide +kernel
theorem dX0_listSteps_77 : decode cX0_listSteps 77 = .ok (.if_icmp .ge 48, 3) := by decide +kernel
theorem dX0_listSteps_80 : decode cX0_listSteps 80 = .ok (.iload_n 3, 1) := by decide +kernel
theorem dX0_listSteps_81 : decode cX0_listSteps 81 = .ok (.iload 4, 2) := by decide +kernel
theorem dX0_listSteps_83 : decode cX0_listSteps 83 = .ok (.invokestatic 117, 3) := by decide +kernel
theorem dX0_listSteps_86 : decode cX0_listSteps 86 = .ok (.ifCond .eq 33, 3) := by decide +kernel
theorem dX0_listSteps_89 : decode cX0_listSteps 89 = .ok (.aload_n 0, 1) := by decide +kernel
theorem dX0_listSteps_90 : decode cX0_listSteps 90 = .ok (.iload_n 2, 1) := by decide +kernel
theorem dX0_listSteps_91 : decode cX0_listSteps 91 = .ok (.iload 4, 2) := by decide +kernel
theorem dX0_listSteps_93 : decode cX0_listSteps 93 = .ok (.invokevirtual 139, 3) := by decide +kernel
theorem dX0_listSteps_96 : decode cX0_listSteps 96 = .ok (.ifCond .eq 23, 3) := by decide +kernel
theorem dX0_listSteps_99 : decode cX0_listSteps 99 = .ok (.aload_n 0, 1) := by decide +kernel
theorem dX0_listSteps_100 : decode cX0_listSteps 100 = .ok (.sipush 1000, 3) := by decide +kernel
theorem dX0_listSteps_103 : decode cX0_listSteps 103 = .ok (.bipush 100, 2) := by decide +kernel
theorem dX0_listSteps_105 : decode cX0_listSteps 105 = .ok (.iload_n 1, 1) := by decide +kernel
theorem dX0_listSteps_106 : decode cX0_listSteps 106 = .ok (.imul, 1) := by decide +kernel
theorem dX0_listSteps_107 : decode cX0_listSteps 107 = .ok (.iadd, 1) := by decide +kernel
theorem dX0_listSteps_108 : decode cX0_listSteps 108 = .ok (.bipush 10, 2) := by decide +kernel
theorem dX0_listSteps_110 : decode cX0_listSteps 110 = .ok (.iload_n 2, 1) := by decide +kernel
theorem dX0_listSteps_111 : decode cX0_listSteps 111 = .ok (.imul, 1) := by decide +kernel
theorem dX0_listSteps_112 : decode cX0_listSteps 112 = .ok (.iadd, 1) := by decide +kernel
theorem dX0_listSteps_113 : decode cX0_listSteps 113 = .ok (.iload 4, 2) := by decide +kernel
theorem dX0_listSteps_115 : decode cX0_listSteps 115 = .ok (.iadd, 1) := by decide +kernel
theorem dX0_listSteps_116 : decode cX0_listSteps 116 = .ok (.invokevirtual 133, 3) := by decide +kernel
theorem dX0_listSteps_119 : decode cX0_listSteps 119 = .ok (.iinc 4 1, 3) := by decide +kernel
theorem dX0_listSteps_122 : decode cX0_listSteps 122 = .ok (.goto (-58), 3) := by decide +kernel
theorem dX0_listSteps_125 : decode cX0_listSteps 125 = .ok (.iinc 2 1, 3) := by decide +kernel
theorem dX0_listSteps_128 : decode cX0_listSteps 128 = .ok (.goto (-107), 3) := by decide +kernel
theorem dX0_listSteps_131 : decode cX0_listSteps 131 = .ok (.return_, 1) := by decide +kernel
theorem dX0_lowLink_0 : decode cX0_lowLink 0 = .ok (.aload_n 0, 1) := by decide +kernel
theorem dX0_lowLink_1 : decode cX0_lowLink 1 = .ok (.getfield 15, 3) := by decide +kernel
theorem dX0_lowLink_4 : decode cX0_lowLink 4 = .ok (.iconst 2, 1) := by decide +kernel
theorem dX0_lowLink_5 : decode cX0_lowLink 5 = .ok (.iload_n 1, 1) := by decide +kernel
theorem dX0_lowLink_6 : decode cX0_lowLink 6 = .ok (.imul, 1) := by decide +kernel
theorem dX0_lowLink_7 : decode cX0_lowLink 7 = .ok (.iaload, 1) := by decide +kernel
theorem dX0_lowLink_8 : decode cX0_lowLink 8 = .ok (.istore_n 3, 1) := by decide +kernel
theorem dX0_lowLink_9 : decode cX0_lowLink 9 = .ok (.aload_n 0, 1) := by decide +kernel
theorem dX0_lowLink_10 : decode cX0_lowLink 10 = .ok (.getfield 15, 3) := by decide +kernel
theorem dX0_lowLink_13 : decode cX0_lowLink 13 = .ok (.iconst 2, 1) := by decide +kernel
theorem dX0_lowLink_14 : decode cX0_lowLink 14 = .ok (.iload_n 2, 1) := by decide +kernel
theorem dX0_lowLink_15 : decode cX0_lowLink 15 = .ok (.imul, 1) := by decide +kernel
theorem dX0_lowLink_16 : decode cX0_lowLink 16 = .ok (.iaload, 1) := by decide +kernel
theorem dX0_lowLink_17 : decode cX0_lowLink 17 = .ok (.istore 4, 2) := by decide +kernel
theorem dX0_lowLink_19 : decode cX0_lowLink 19 = .ok (.aload_n 0, 1) := by decide +kernel
theorem dX0_lowLink_20 : decode cX0_lowLink 20 = .ok (.getfield 37, 3) := by decide +kernel
theorem dX0_lowLink_23 : decode cX0_lowLink 23 = .ok (.getfield 121, 3) := by decide +kernel
theorem dX0_lowLink_26 : decode cX0_lowLink 26 = .ok (.iload_n 3, 1) := by decide +kernel
theorem dX0_lowLink_27 : decode cX0_lowLink 27 = .ok (.iload 4, 2) := by decide +kernel
theorem dX0_lowLink_29 : decode cX0_lowLink 29 = .ok (.if_icmp .ge 7, 3) := by decide +kernel
theorem dX0_lowLink_32 : decode cX0_lowLink 32 = .ok (.iload_n 3, 1) := by decide +kernel
theorem dX0_lowLink_33 : decode cX0_lowLink 33 = .ok (.goto 5, 3) := by decide +kernel
theorem dX0_lowLink_36 : decode cX0_lowLink 36 = .ok (.iload 4, 2) := by decide +kernel
theorem dX0_lowLink_38 : decode cX0_lowLink 38 = .ok (.iaload, 1) := by decide +kernel
theorem dX0_lowLink_39 : decode cX0_lowLink 39 = .ok (.ireturn, 1) := by decide +kernel
theorem dX0_fits_0 : decode cX0_fits 0 = .ok (.aload_n 0, 1) := by decide +kernel
theorem dX0_fits_1 : decode cX0_fits 1 = .ok (.getfield 37, 3) := by decide +kernel
theorem dX0_fits_4 : decode cX0_fits 4 = .ok (.getfield 145, 3) := by decide +kernel
theorem dX0_fits_7 : decode cX0_fits 7 = .ok (.aload_n 0, 1) := by decide +kernel
theorem dX0_fits_8 : decode cX0_fits 8 = .ok (.iload_n 1, 1) := by decide +kernel
theorem dX0_fits_9 : decode cX0_fits 9 = .ok (.iload_n 2, 1) := by decide +kernel
theorem dX0_fits_10 : decode cX0_fits 10 = .ok (.invokevirtual 149, 3) := by decide +kernel
theorem dX0_fits_13 : decode cX0_fits 13 = .ok (.baload, 1) := by decide +kernel
theorem dX0_fits_14 : decode cX0_fits 14 = .ok (.ireturn, 1) := by decide +kernel
theorem dX0_can_0 : decode cX0_can 0 = .ok (.iload_n 1, 1) := by decide +kernel
theorem dX0_can_1 : decode cX0_can 1 = .ok (.invokestatic 41, 3) := by decide +kernel
theorem dX0_can_4 : decode cX0_can 4 = .ok (.istore_n 2, 1) := by decide +kernel
theorem dX0_can_5 : decode cX0_can 5 = .ok (.iload_n 1, 1) := by decide +kernel
theorem dX0_can_6 : decode cX0_can 6 = .ok (.invokestatic 45, 3) := by decide +kernel
theorem dX0_can_9 : decode cX0_can 9 = .ok (.istore_n 3, 1) := by decide +kernel
theorem dX0_can_10 : decode cX0_can 10 = .ok (.iload_n 1, 1) := by decide +kernel
theorem dX0_can_11 : decode cX0_can 11 = .ok (.bipush 100, 2) := by decide +kernel
theorem dX0_can_13 : decode cX0_can 13 = .ok (.if_icmp .ge 14, 3) := by decide +kernel
theorem dX0_can_16 : decode cX0_can 16 = .ok (.aload_n 0, 1) := by decide +kernel
theorem dX0_can_17 : decode cX0_can 17 = .ok (.getfield 28, 3) := by decide +kernel
theorem dX0_can_20 : decode cX0_can 20 = .ok (.iload_n 2, 1) := by decide +kernel
theorem dX0_can_21 : decode cX0_can 21 = .ok (.iaload, 1) := by decide +kernel
theorem dX0_can_22 : decode cX0_can 22 = .ok (.iload_n 2, 1) := by decide +kernel
theorem dX0_can_23 : decode cX0_can 23 = .ok (.invokestatic 117, 3) := by decide +kernel
theorem dX0_can_26 : decode cX0_can 26 = .ok (.ireturn, 1) := by decide +kernel
theorem dX0_can_27 : decode cX0_can 27 = .ok (.iload_n 1, 1) := by decide +kernel
theorem dX0_can_28 : decode cX0_can 28 = .ok (.sipush 1000, 3) := by decide +kernel
theorem dX0_can_31 : decode cX0_can 31 = .ok (.if_icmp .ge 13, 3) := by decide +kernel
theorem dX0_can_34 : decode cX0_can 34 = .ok (.aload_n 0, 1) := by decide +kernel
theorem dX0_can_35 : decode cX0_can 35 = .ok (.iload_n 2, 1) := by decide +kernel
theorem dX0_can_36 : decode cX0_can 36 = .ok (.invokevirtual 136, 3) := by decide +kernel
theorem dX0_can_39 : decode cX0_can 39 = .ok (.iload_n 3, 1) := by decide +kernel
theorem dX0_can_40 : decode cX0_can 40 = .ok (.invokestatic 117, 3) := by decide +kernel
theorem dX0_can_43 : decode cX0_can 43 = .ok (.ireturn, 1) := by decide +kernel
theorem dX0_can_44 : decode cX0_can 44 = .ok (.aload_n 0, 1) := by decide +kernel
theorem dX0_can_45 : decode cX0_can 45 = .ok (.getfield 25, 3) := by decide +kernel
theorem dX0_can_48 : decode cX0_can 48 = .ok (.iload_n 2, 1) := by decide +kernel
theorem dX0_can_49 : decode cX0_can 49 = .ok (.iaload, 1) := by decide +kernel
theorem dX0_can_50 : decode cX0_can 50 = .ok (.iload_n 3, 1) := by decide +kernel
theorem dX0_can_51 : decode cX0_can 51 = .ok (.invokestatic 117, 3) := by decide +kernel
theorem dX0_can_54 : decode cX0_can 54 = .ok (.ifCond .eq 23, 3) := by decide +kernel
theorem dX0_can_57 : decode cX0_can 57 = .ok (.aload_n 0, 1) := by decide +kernel
theorem dX0_can_58 : decode cX0_can 58 = .ok (.iload_n 2, 1) := by decide +kernel
theorem dX0_can_59 : decode cX0_can 59 = .ok (.iload_n 3, 1) := by decide +kernel
theorem dX0_can_60 : decode cX0_can 60 = .ok (.invokevirtual 142, 3) := by decide +kernel
theorem dX0_can_63 : decode cX0_can 63 = .ok (.iload_n 1, 1) := by decide +kernel
theorem dX0_can_64 : decode cX0_can 64 = .ok (.invokestatic 48, 3) := by decide +kernel
theorem dX0_can_67 : decode cX0_can 67 = .ok (.invokestatic 117, 3) := by decide +kernel
theorem dX0_can_70 : decode cX0_can 70 = .ok (.ifCond .eq 7, 3) := by decide +kernel
theorem dX0_can_73 : decode cX0_can 73 = .ok (.iconst 1, 1) := by decide +kernel
theorem dX0_can_74 : decode cX0_can 74 = .ok (.goto 4, 3) := by decide +kernel
theorem dX0_can_77 : decode cX0_can 77 = .ok (.iconst 0, 1) := by decide +kernel
theorem dX0_can_78 : decode cX0_can 78 = .ok (.ireturn, 1) := by decide +kernel
theorem dX0_goerLink_0 : decode cX0_goerLink 0 = .ok (.iload_n 1, 1) := by decide +kernel
theorem dX0_goerLink_1 : decode cX0_goerLink 1 = .ok (.sipush 1000, 3) := by decide +kernel
theorem dX0_goerLink_4 : decode cX0_goerLink 4 = .ok (.if_icmp .ge 10, 3) := by decide +kernel
theorem dX0_goerLink_7 : decode cX0_goerLink 7 = .ok (.iload_n 1, 1) := by decide +kernel
theorem dX0_goerLink_8 : decode cX0_goerLink 8 = .ok (.invokestatic 41, 3) := by decide +kernel
theorem dX0_goerLink_11 : decode cX0_goerLink 11 = .ok (.goto 7, 3) := by decide +kernel
theorem dX0_goerLink_14 : decode cX0_goerLink 14 = .ok (.iload_n 1, 1) := by decide +kernel
theorem dX0_goerLink_15 : decode cX0_goerLink 15 = .ok (.invokestatic 45, 3) := by decide +kernel
theorem dX0_goerLink_18 : decode cX0_goerLink 18 = .ok (.istore_n 2, 1) := by decide +kernel
theorem dX0_goerLink_19 : decode cX0_goerLink 19 = .ok (.iload_n 1, 1) := by decide +kernel
theorem dX0_goerLink_20 : decode cX0_goerLink 20 = .ok (.sipush 1000, 3) := by decide +kernel
theorem dX0_goerLink_23 : decode cX0_goerLink 23 = .ok (.if_icmp .ge 10, 3) := by decide +kernel
theorem dX0_goerLink_26 : decode cX0_goerLink 26 = .ok (.iload_n 1, 1) := by decide +kernel
theorem dX0_goerLink_27 : decode cX0_goerLink 27 = .ok (.invokestatic 45, 3) := by decide +kernel
theorem dX0_goerLink_30 : decode cX0_goerLink 30 = .ok (.goto 7, 3) := by decide +kernel
theorem dX0_goerLink_33 : decode cX0_goerLink 33 = .ok (.iload_n 1, 1) := by decide +kernel
theorem dX0_goerLink_34 : decode cX0_goerLink 34 = .ok (.invokestatic 48, 3) := by decide +kernel
theorem dX0_goerLink_37 : decode cX0_goerLink 37 = .ok (.istore_n 3, 1) := by decide +kernel
theorem dX0_goerLink_38 : decode cX0_goerLink 38 = .ok (.aload_n 0, 1) := by decide +kernel
theorem dX0_goerLink_39 : decode cX0_goerLink 39 = .ok (.iload_n 2, 1) := by decide +kernel
theorem dX0_goerLink_40 : decode cX0_goerLink 40 = .ok (.iload_n 3, 1) := by decide +kernel
theorem dX0_goerLink_41 : decode cX0_goerLink 41 = .ok (.invokevirtual 149, 3) := by decide +kernel
theorem dX0_goerLink_44 : decode cX0_goerLink 44 = .ok (.ireturn, 1) := by decide +kernel
theorem dX0_allows_0 : decode cX0_allows 0 = .ok (.aload_n 0, 1) := by decide +kernel
theorem dX0_allows_1 : decode cX0_allows 1 = .ok (.iload_n 1, 1) := by decide +kernel
theorem dX0_allows_2 : decode cX0_allows 2 = .ok (.invokevirtual 152, 3) := by decide +kernel
theorem dX0_allows_5 : decode cX0_allows 5 = .ok (.ifCond .eq 29, 3) := by decide +kernel
theorem dX0_allows_8 : decode cX0_allows 8 = .ok (.iload_n 1, 1) := by decide +kernel
theorem dX0_allows_9 : decode cX0_allows 9 = .ok (.bipush 100, 2) := by decide +kernel
theorem dX0_allows_11 : decode cX0_allows 11 = .ok (.if_icmp .lt 19, 3) := by decide +kernel
theorem dX0_allows_14 : decode cX0_allows 14 = .ok (.aload_n 0, 1) := by decide +kernel
theorem dX0_allows_15 : decode cX0_allows 15 = .ok (.getfield 37, 3) := by decide +kernel
theorem dX0_allows_18 : decode cX0_allows 18 = .ok (.getfield 145, 3) := by decide +kernel
theorem dX0_allows_21 : decode cX0_allows 21 = .ok (.aload_n 0, 1) := by decide +kernel
theorem dX0_allows_22 : decode cX0_allows 22 = .ok (.iload_n 1, 1) := by decide +kernel
theorem dX0_allows_23 : decode cX0_allows 23 = .ok (.invokevirtual 155, 3) := by decide +kernel
theorem dX0_allows_26 : decode cX0_allows 26 = .ok (.baload, 1) := by decide +kernel
theorem dX0_allows_27 : decode cX0_allows 27 = .ok (.ifCond .eq 7, 3) := by decide +kernel
theorem dX0_allows_30 : decode cX0_allows 30 = .ok (.iconst 1, 1) := by decide +kernel
theorem dX0_allows_31 : decode cX0_allows 31 = .ok (.goto 4, 3) := by decide +kernel
theorem dX0_allows_34 : decode cX0_allows 34 = .ok (.iconst 0, 1) := by decide +kernel
theorem dX0_allows_35 : decode cX0_allows 35 = .ok (.ireturn, 1) := by decide +kernel
theorem dX0_whoGoes_0 : decode cX0_whoGoes 0 = .ok (.iload_n 1, 1) := by decide +kernel
theorem dX0_whoGoes_1 : decode cX0_whoGoes 1 = .ok (.bipush 100, 2) := by decide +kernel
theorem dX0_whoGoes_3 : decode cX0_whoGoes 3 = .ok (.if_icmp .ge 8, 3) := by decide +kernel
theorem dX0_whoGoes_6 : decode cX0_whoGoes 6 = .ok (.bipush (-2), 2) := by decide +kernel
theorem dX0_whoGoes_8 : decode cX0_whoGoes 8 = .ok (.goto 16, 3) := by decide +kernel
theorem dX0_whoGoes_11 : decode cX0_whoGoes 11 = .ok (.aload_n 0, 1) := by decide +kernel
theorem dX0_whoGoes_12 : decode cX0_whoGoes 12 = .ok (.getfield 37, 3) := by decide +kernel
theorem dX0_whoGoes_15 : decode cX0_whoGoes 15 = .ok (.getfield 158, 3) := by decide +kernel
theorem dX0_whoGoes_18 : decode cX0_whoGoes 18 = .ok (.aload_n 0, 1) := by decide +kernel
theorem dX0_whoGoes_19 : decode cX0_whoGoes 19 = .ok (.iload_n 1, 1) := by decide +kernel
theorem dX0_whoGoes_20 : decode cX0_whoGoes 20 = .ok (.invokevirtual 155, 3) := by decide +kernel
theorem dX0_whoGoes_23 : decode cX0_whoGoes 23 = .ok (.iaload, 1) := by decide +kernel
theorem dX0_whoGoes_24 : decode cX0_whoGoes 24 = .ok (.ireturn, 1) := by decide +kernel
theorem dX0_leftBehind_0 : decode cX0_leftBehind 0 = .ok (.iload_n 1, 1) := by decide +kernel
theorem dX0_leftBehind_1 : decode cX0_leftBehind 1 = .ok (.bipush 100, 2) := by decide +kernel
theorem dX0_leftBehind_3 : decode cX0_leftBehind 3 = .ok (.if_icmp .ge 12, 3) := by decide +kernel
theorem dX0_leftBehind_6 : decode cX0_leftBehind 6 = .ok (.aload_n 0, 1) := by decide +kernel
theorem dX0_leftBehind_7 : decode cX0_leftBehind 7 = .ok (.getfield 79, 3) := by decide +kernel
theorem dX0_leftBehind_10 : decode cX0_leftBehind 10 = .ok (.iconst 1, 1) := by decide +kernel
theorem dX0_leftBehind_11 : decode cX0_leftBehind 11 = .ok (.isub, 1) := by decide +kernel
theorem dX0_leftBehind_12 : decode cX0_leftBehind 12 = .ok (.goto 23, 3) := by decide +kernel
theorem dX0_leftBehind_15 : decode cX0_leftBehind 15 = .ok (.iload_n 1, 1) := by decide +kernel
theorem dX0_leftBehind_16 : decode cX0_leftBehind 16 = .ok (.sipush 1000, 3) := by decide +kernel
theorem dX0_leftBehind_19 : decode cX0_leftBehind 19 = .ok (.if_icmp .ge 12, 3) := by decide +kernel
theorem dX0_leftBehind_22 : decode cX0_leftBehind 22 = .ok (.aload_n 0, 1) := by decide +kernel
theorem dX0_leftBehind_23 : decode cX0_leftBehind 23 = .ok (.getfield 79, 3) := by decide +kernel
theorem dX0_leftBehind_26 : decode cX0_leftBehind 26 = .ok (.iconst 2, 1) := by decide +kernel
theorem dX0_leftBehind_27 : decode cX0_leftBehind 27 = .ok (.isub, 1) := by decide +kernel
theorem dX0_leftBehind_28 : decode cX0_leftBehind 28 = .ok (.goto 7, 3) := by decide +kernel
theorem dX0_leftBehind_31 : decode cX0_leftBehind 31 = .ok (.aload_n 0, 1) := by decide +kernel
theorem dX0_leftBehind_32 : decode cX0_leftBehind 32 = .ok (.getfield 79, 3) := by decide +kernel
theorem dX0_leftBehind_35 : decode cX0_leftBehind 35 = .ok (.ireturn, 1) := by decide +kernel
theorem dX0_drawn_0 : decode cX0_drawn 0 = .ok (.aload_n 0, 1) := by decide +kernel
theorem dX0_drawn_1 : decode cX0_drawn 1 = .ok (.getfield 82, 3) := by decide +kernel
theorem dX0_drawn_4 : decode cX0_drawn 4 = .ok (.ifCond .ne 8, 3) := by decide +kernel
theorem dX0_drawn_7 : decode cX0_drawn 7 = .ok (.bipush (-2), 2) := by decide +kernel
theorem dX0_drawn_9 : decode cX0_drawn 9 = .ok (.goto 14, 3) := by decide +kernel
theorem dX0_drawn_12 : decode cX0_drawn 12 = .ok (.aload_n 0, 1) := by decide +kernel
theorem dX0_drawn_13 : decode cX0_drawn 13 = .ok (.getfield 34, 3) := by decide +kernel
theorem dX0_drawn_16 : decode cX0_drawn 16 = .ok (.iload_n 1, 1) := by decide +kernel
theorem dX0_drawn_17 : decode cX0_drawn 17 = .ok (.aload_n 0, 1) := by decide +kernel
theorem dX0_drawn_18 : decode cX0_drawn 18 = .ok (.getfield 82, 3) := by decide +kernel
theorem dX0_drawn_21 : decode cX0_drawn 21 = .ok (.irem, 1) := by decide +kernel
theorem dX0_drawn_22 : decode cX0_drawn 22 = .ok (.iaload, 1) := by decide +kernel
theorem dX0_drawn_23 : decode cX0_drawn 23 = .ok (.ireturn, 1) := by decide +kernel
theorem dX0_after_0 : decode cX0_after 0 = .ok (.iload_n 1, 1) := by decide +kernel
theorem dX0_after_1 : decode cX0_after 1 = .ok (.invokestatic 41, 3) := by decide +kernel
theorem dX0_after_4 : decode cX0_after 4 = .ok (.istore_n 2, 1) := by decide +kernel
theorem dX0_after_5 : decode cX0_after 5 = .ok (.iload_n 1, 1) := by decide +kernel
theorem dX0_after_6 : decode cX0_after 6 = .ok (.invokestatic 45, 3) := by decide +kernel
theorem dX0_after_9 : decode cX0_after 9 = .ok (.istore_n 3, 1) := by decide +kernel
theorem dX0_after_10 : decode cX0_after 10 = .ok (.iload_n 1, 1) := by decide +kernel
theorem dX0_after_11 : decode cX0_after 11 = .ok (.bipush 100, 2) := by decide +kernel
theorem dX0_after_13 : decode cX0_after 13 = .ok (.if_icmp .ge 18, 3) := by decide +kernel
theorem dX0_after_16 : decode cX0_after 16 = .ok (.aload_n 0, 1) := by decide +kernel
theorem dX0_after_17 : decode cX0_after 17 = .ok (.getfield 65, 3) := by decide +kernel
theorem dX0_after_20 : decode cX0_after 20 = .ok (.aload_n 0, 1) := by decide +kernel
theorem dX0_after_21 : decode cX0_after 21 = .ok (.iload_n 2, 1) := by decide +kernel
theorem dX0_after_22 : decode cX0_after 22 = .ok (.invokevirtual 161, 3) := by decide +kernel
theorem dX0_after_25 : decode cX0_after 25 = .ok (.ldc2_w 165, 3) := by decide +kernel
theorem dX0_after_28 : decode cX0_after 28 = .ok (.lxor, 1) := by decide +kernel
theorem dX0_after_29 : decode cX0_after 29 = .ok (.land, 1) := by decide +kernel
theorem dX0_after_30 : decode cX0_after 30 = .ok (.lreturn, 1) := by decide +kernel
theorem dX0_after_31 : decode cX0_after 31 = .ok (.iload_n 1, 1) := by decide +kernel
theorem dX0_after_32 : decode cX0_after 32 = .ok (.sipush 1000, 3) := by decide +kernel
theorem dX0_after_35 : decode cX0_after 35 = .ok (.if_icmp .ge 28, 3) := by decide +kernel
theorem dX0_after_38 : decode cX0_after 38 = .ok (.aload_n 0, 1) := by decide +kernel
theorem dX0_after_39 : decode cX0_after 39 = .ok (.getfield 65, 3) := by decide +kernel
theorem dX0_after_42 : decode cX0_after 42 = .ok (.aload_n 0, 1) := by decide +kernel
theorem dX0_after_43 : decode cX0_after 43 = .ok (.iload_n 2, 1) := by decide +kernel
theorem dX0_after_44 : decode cX0_after 44 = .ok (.invokevirtual 161, 3) := by decide +kernel
theorem dX0_after_47 : decode cX0_after 47 = .ok (.ldc2_w 165, 3) := by decide +kernel
theorem dX0_after_50 : decode cX0_after 50 = .ok (.lxor, 1) := by decide +kernel
theorem dX0_after_51 : decode cX0_after 51 = .ok (.land, 1) := by decide +kernel
theorem dX0_after_52 : decode cX0_after 52 = .ok (.aload_n 0, 1) := by decide +kernel
theorem dX0_after_53 : decode cX0_after 53 = .ok (.iload_n 3, 1) := by decide +kernel
theorem dX0_after_54 : decode cX0_after 54 = .ok (.invokevirtual 161, 3) := by decide +kernel
theorem dX0_after_57 : decode cX0_after 57 = .ok (.ldc2_w 165, 3) := by decide +kernel
theorem dX0_after_60 : decode cX0_after 60 = .ok (.lxor, 1) := by decide +kernel
theorem dX0_after_61 : decode cX0_after 61 = .ok (.land, 1) := by decide +kernel
theorem dX0_after_62 : decode cX0_after 62 = .ok (.lreturn, 1) := by decide +kernel
theorem dX0_after_63 : decode cX0_after 63 = .ok (.iload_n 1, 1) := by decide +kernel
theorem dX0_after_64 : decode cX0_after 64 = .ok (.invokestatic 48, 3) := by decide +kernel
theorem dX0_after_67 : decode cX0_after 67 = .ok (.istore 4, 2) := by decide +kernel
theorem dX0_after_69 : decode cX0_after 69 = .ok (.aload_n 0, 1) := by decide +kernel
theorem dX0_after_70 : decode cX0_after 70 = .ok (.getfield 65, 3) := by decide +kernel
theorem dX0_after_73 : decode cX0_after 73 = .ok (.aload_n 0, 1) := by decide +kernel
theorem dX0_after_74 : decode cX0_after 74 = .ok (.iconst 2, 1) := by decide +kernel
theorem dX0_after_75 : decode cX0_after 75 = .ok (.iload_n 2, 1) := by decide +kernel
theorem dX0_after_76 : decode cX0_after 76 = .ok (.imul, 1) := by decide +kernel
theorem dX0_after_77 : decode cX0_after 77 = .ok (.iconst 1, 1) := by decide +kernel
theorem dX0_after_78 : decode cX0_after 78 = .ok (.iadd, 1) := by decide +kernel
theorem dX0_after_79 : decode cX0_after 79 = .ok (.iconst 2, 1) := by decide +kernel
theorem dX0_after_80 : decode cX0_after 80 = .ok (.iload_n 3, 1) := by decide +kernel
theorem dX0_after_81 : decode cX0_after 81 = .ok (.imul, 1) := by decide +kernel
theorem dX0_after_82 : decode cX0_after 82 = .ok (.iconst 1, 1) := by decide +kernel
theorem dX0_after_83 : decode cX0_after 83 = .ok (.iadd, 1) := by decide +kernel
theorem dX0_after_84 : decode cX0_after 84 = .ok (.invokevirtual 167, 3) := by decide +kernel
theorem dX0_after_87 : decode cX0_after 87 = .ok (.lxor, 1) := by decide +kernel
theorem dX0_after_88 : decode cX0_after 88 = .ok (.aload_n 0, 1) := by decide +kernel
theorem dX0_after_89 : decode cX0_after 89 = .ok (.iconst 2, 1) := by decide +kernel
theorem dX0_after_90 : decode cX0_after 90 = .ok (.iload_n 2, 1) := by decide +kernel
theorem dX0_after_91 : decode cX0_after 91 = .ok (.imul, 1) := by decide +kernel
theorem dX0_after_92 : decode cX0_after 92 = .ok (.iconst 2, 1) := by decide +kernel
theorem dX0_after_93 : decode cX0_after 93 = .ok (.iload 4, 2) := by decide +kernel
theorem dX0_after_95 : decode cX0_after 95 = .ok (.imul, 1) := by decide +kernel
theorem dX0_after_96 : decode cX0_after 96 = .ok (.iconst 1, 1) := by decide +kernel
theorem dX0_after_97 : decode cX0_after 97 = .ok (.iadd, 1) := by decide +kernel
theorem dX0_after_98 : decode cX0_after 98 = .ok (.invokevirtual 167, 3) := by decide +kernel
theorem dX0_after_101 : decode cX0_after 101 = .ok (.lxor, 1) := by decide +kernel
theorem dX0_after_102 : decode cX0_after 102 = .ok (.aload_n 0, 1) := by decide +kernel
theorem dX0_after_103 : decode cX0_after 103 = .ok (.iconst 2, 1) := by decide +kernel
theorem dX0_after_104 : decode cX0_after 104 = .ok (.iload_n 3, 1) := by decide +kernel
theorem dX0_after_105 : decode cX0_after 105 = .ok (.imul, 1) := by decide +kernel
theorem dX0_after_106 : decode cX0_after 106 = .ok (.iconst 2, 1) := by decide +kernel
theorem dX0_after_107 : decode cX0_after 107 = .ok (.iload 4, 2) := by decide +kernel
theorem dX0_after_109 : decode cX0_after 109 = .ok (.imul, 1) := by decide +kernel
theorem dX0_after_110 : decode cX0_after 110 = .ok (.invokevirtual 167, 3) := by decide +kernel
theorem dX0_after_113 : decode cX0_after 113 = .ok (.lxor, 1) := by decide +kernel
theorem dX0_after_114 : decode cX0_after 114 = .ok (.lreturn, 1) := by decide +kernel
theorem dX0_placesOf_0 : decode cX0_placesOf 0 = .ok (.ldc2_w 171, 3) := by decide +kernel
theorem dX0_placesOf_3 : decode cX0_placesOf 3 = .ok (.iconst 4, 1) := by decide +kernel
theorem dX0_placesOf_4 : decode cX0_placesOf 4 = .ok (.aload_n 0, 1) := by decide +kernel
theorem dX0_placesOf_5 : decode cX0_placesOf 5 = .ok (.getfield 15, 3) := by decide +kernel
theorem dX0_placesOf_8 : decode cX0_placesOf 8 = .ok (.iconst 2, 1) := by decide +kernel
theorem dX0_placesOf_9 : decode cX0_placesOf 9 = .ok (.iload_n 1, 1) := by decide +kernel
theorem dX0_placesOf_10 : decode cX0_placesOf 10 = .ok (.imul, 1) := by decide +kernel
theorem dX0_placesOf_11 : decode cX0_placesOf 11 = .ok (.iaload, 1) := by decide +kernel
theorem dX0_placesOf_12 : decode cX0_placesOf 12 = .ok (.imul, 1) := by decide +kernel
theorem dX0_placesOf_13 : decode cX0_placesOf 13 = .ok (.lshl, 1) := by decide +kernel
theorem dX0_placesOf_14 : decode cX0_placesOf 14 = .ok (.ldc2_w 171, 3) := by decide +kernel
theorem dX0_placesOf_17 : decode cX0_placesOf 17 = .ok (.iconst 4, 1) := by decide +kernel
theorem dX0_placesOf_18 : decode cX0_placesOf 18 = .ok (.aload_n 0, 1) := by decide +kernel
theorem dX0_placesOf_19 : decode cX0_placesOf 19 = .ok (.getfield 15, 3) := by decide +kernel
theorem dX0_placesOf_22 : decode cX0_placesOf 22 = .ok (.iconst 2, 1) := by decide +kernel
theorem dX0_placesOf_23 : decode cX0_placesOf 23 = .ok (.iload_n 1, 1) := by decide +kernel
theorem dX0_placesOf_24 : decode cX0_placesOf 24 = .ok (.imul, 1) := by decide +kernel
theorem dX0_placesOf_25 : decode cX0_placesOf 25 = .ok (.iconst 1, 1) := by decide +kernel
theorem dX0_placesOf_26 : decode cX0_placesOf 26 = .ok (.iadd, 1) := by decide +kernel
theorem dX0_placesOf_27 : decode cX0_placesOf 27 = .ok (.iaload, 1) := by decide +kernel
theorem dX0_placesOf_28 : decode cX0_placesOf 28 = .ok (.imul, 1) := by decide +kernel
theorem dX0_placesOf_29 : decode cX0_placesOf 29 = .ok (.lshl, 1) := by decide +kernel
theorem dX0_placesOf_30 : decode cX0_placesOf 30 = .ok (.lor, 1) := by decide +kernel
theorem dX0_placesOf_31 : decode cX0_placesOf 31 = .ok (.lreturn, 1) := by decide +kernel
theorem dX0_exchange_0 : decode cX0_exchange 0 = .ok (.iload_n 1, 1) := by decide +kernel
theorem dX0_exchange_1 : decode cX0_exchange 1 = .ok (.iconst 1, 1) := by decide +kernel
theorem dX0_exchange_2 : decode cX0_exchange 2 = .ok (.iadd, 1) := by decide +kernel
theorem dX0_exchange_3 : decode cX0_exchange 3 = .ok (.iload_n 2, 1) := by decide +kernel
theorem dX0_exchange_4 : decode cX0_exchange 4 = .ok (.iconst 1, 1) := by decide +kernel
theorem dX0_exchange_5 : decode cX0_exchange 5 = .ok (.iadd, 1) := by decide +kernel
theorem dX0_exchange_6 : decode cX0_exchange 6 = .ok (.ixor, 1) := by decide +kernel
theorem dX0_exchange_7 : decode cX0_exchange 7 = .ok (.i2l, 1) := by decide +kernel
theorem dX0_exchange_8 : decode cX0_exchange 8 = .ok (.lstore_n 3, 1) := by decide +kernel
theorem dX0_exchange_9 : decode cX0_exchange 9 = .ok (.lload_n 3, 1) := by decide +kernel
theorem dX0_exchange_10 : decode cX0_exchange 10 = .ok (.iconst 4, 1) := by decide +kernel
theorem dX0_exchange_11 : decode cX0_exchange 11 = .ok (.aload_n 0, 1) := by decide +kernel
theorem dX0_exchange_12 : decode cX0_exchange 12 = .ok (.getfield 15, 3) := by decide +kernel
theorem dX0_exchange_15 : decode cX0_exchange 15 = .ok (.iload_n 1, 1) := by decide +kernel
theorem dX0_exchange_16 : decode cX0_exchange 16 = .ok (.iaload, 1) := by decide +kernel
theorem dX0_exchange_17 : decode cX0_exchange 17 = .ok (.imul, 1) := by decide +kernel
theorem dX0_exchange_18 : decode cX0_exchange 18 = .ok (.lshl, 1) := by decide +kernel
theorem dX0_exchange_19 : decode cX0_exchange 19 = .ok (.lload_n 3, 1) := by decide +kernel
theorem dX0_exchange_20 : decode cX0_exchange 20 = .ok (.iconst 4, 1) := by decide +kernel
theorem dX0_exchange_21 : decode cX0_exchange 21 = .ok (.aload_n 0, 1) := by decide +kernel
theorem dX0_exchange_22 : decode cX0_exchange 22 = .ok (.getfield 15, 3) := by decide +kernel
theorem dX0_exchange_25 : decode cX0_exchange 25 = .ok (.iload_n 2, 1) := by decide +kernel
theorem dX0_exchange_26 : decode cX0_exchange 26 = .ok (.iaload, 1) := by decide +kernel
theorem dX0_exchange_27 : decode cX0_exchange 27 = .ok (.imul, 1) := by decide +kernel
theorem dX0_exchange_28 : decode cX0_exchange 28 = .ok (.lshl, 1) := by decide +kernel
theorem dX0_exchange_29 : decode cX0_exchange 29 = .ok (.lor, 1) := by decide +kernel
theorem dX0_exchange_30 : decode cX0_exchange 30 = .ok (.lreturn, 1) := by decide +kernel
theorem dX0_make_0 : decode cX0_make 0 = .ok (.aload_n 0, 1) := by decide +kernel
theorem dX0_make_1 : decode cX0_make 1 = .ok (.aload_n 0, 1) := by decide +kernel
theorem dX0_make_2 : decode cX0_make 2 = .ok (.iload_n 1, 1) := by decide +kernel
theorem dX0_make_3 : decode cX0_make 3 = .ok (.invokevirtual 173, 3) := by decide +kernel
theorem dX0_make_6 : decode cX0_make 6 = .ok (.aload_n 0, 1) := by decide +kernel
theorem dX0_make_7 : decode cX0_make 7 = .ok (.getfield 66, 3) := by decide +kernel
theorem dX0_make_10 : decode cX0_make 10 = .ok (.aload_n 0, 1) := by decide +kernel
theorem dX0_make_11 : decode cX0_make 11 = .ok (.getfield 9, 3) := by decide +kernel
theorem dX0_make_14 : decode cX0_make 14 = .ok (.invokevirtual 61, 3) := by decide +kernel
theorem dX0_make_17 : decode cX0_make 17 = .ok (.return_, 1) := by decide +kernel
theorem dX1_init_0 : decode cX1_init 0 = .ok (.aload_n 0, 1) := by decide +kernel
theorem dX1_init_1 : decode cX1_init 1 = .ok (.invokespecial 3, 3) := by decide +kernel
theorem dX1_init_4 : decode cX1_init 4 = .ok (.aload_n 0, 1) := by decide +kernel
theorem dX1_init_5 : decode cX1_init 5 = .ok (.sipush 196, 3) := by decide +kernel
theorem dX1_init_8 : decode cX1_init 8 = .ok (.newarray .long, 2) := by decide +kernel
theorem dX1_init_10 : decode cX1_init 10 = .ok (.putfield 9, 3) := by decide +kernel
theorem dX1_init_13 : decode cX1_init 13 = .ok (.aload_n 0, 1) := by decide +kernel
theorem dX1_init_14 : decode cX1_init 14 = .ok (.sipush 196, 3) := by decide +kernel
theorem dX1_init_17 : decode cX1_init 17 = .ok (.newarray .long, 2) := by decide +kernel
theorem dX1_init_19 : decode cX1_init 19 = .ok (.putfield 13, 3) := by decide +kernel
theorem dX1_init_22 : decode cX1_init 22 = .ok (.return_, 1) := by decide +kernel
theorem dX1_isCrowd_0 : decode cX1_isCrowd 0 = .ok (.iload_n 0, 1) := by decide +kernel
theorem dX1_isCrowd_1 : decode cX1_isCrowd 1 = .ok (.iconst 2, 1) := by decide +kernel
theorem dX1_isCrowd_2 : decode cX1_isCrowd 2 = .ok (.if_icmp .lt 13, 3) := by decide +kernel
theorem dX1_isCrowd_5 : decode cX1_isCrowd 5 = .ok (.iload_n 0, 1) := by decide +kernel
theorem dX1_isCrowd_6 : decode cX1_isCrowd 6 = .ok (.bipush 13, 2) := by decide +kernel
theorem dX1_isCrowd_8 : decode cX1_isCrowd 8 = .ok (.if_icmp .gt 7, 3) := by decide +kernel
theorem dX1_isCrowd_11 : decode cX1_isCrowd 11 = .ok (.iconst 1, 1) := by decide +kernel
theorem dX1_isCrowd_12 : decode cX1_isCrowd 12 = .ok (.goto 4, 3) := by decide +kernel
theorem dX1_isCrowd_15 : decode cX1_isCrowd 15 = .ok (.iconst 0, 1) := by decide +kernel
theorem dX1_isCrowd_16 : decode cX1_isCrowd 16 = .ok (.ireturn, 1) := by decide +kernel
theorem dX1_isRingCount_0 : decode cX1_isRingCount 0 = .ok (.iload_n 0, 1) := by decide +kernel
theorem dX1_isRingCount_1 : decode cX1_isRingCount 1 = .ok (.ifCond .lt 13, 3) := by decide +kernel
theorem dX1_isRingCount_4 : decode cX1_isRingCount 4 = .ok (.iload_n 0, 1) := by decide +kernel
theorem dX1_isRingCount_5 : decode cX1_isRingCount 5 = .ok (.bipush 13, 2) := by decide +kernel
theorem dX1_isRingCount_7 : decode cX1_isRingCount 7 = .ok (.if_icmp .gt 7, 3) := by decide +kernel
theorem dX1_isRingCount_10 : decode cX1_isRingCount 10 = .ok (.iconst 1, 1) := by decide +kernel
theorem dX1_isRingCount_11 : decode cX1_isRingCount 11 = .ok (.goto 4, 3) := by decide +kernel
theorem dX1_isRingCount_14 : decode cX1_isRingCount 14 = .ok (.iconst 0, 1) := by decide +kernel
theorem dX1_isRingCount_15 : decode cX1_isRingCount 15 = .ok (.ireturn, 1) := by decide +kernel
theorem dX1_waysInto_0 : decode cX1_waysInto 0 = .ok (.aload_n 0, 1) := by decide +kernel
theorem dX1_waysInto_1 : decode cX1_waysInto 1 = .ok (.getfield 16, 3) := by decide +kernel
theorem dX1_waysInto_4 : decode cX1_waysInto 4 = .ok (.ifCond .ne 24, 3) := by decide +kernel
theorem dX1_waysInto_7 : decode cX1_waysInto 7 = .ok (.aload_n 0, 1) := by decide +kernel
theorem dX1_waysInto_8 : decode cX1_waysInto 8 = .ok (.getfield 9, 3) := by decide +kernel
theorem dX1_waysInto_11 : decode cX1_waysInto 11 = .ok (.iconst 2, 1) := by decide +kernel
theorem dX1_waysInto_12 : decode cX1_waysInto 12 = .ok (.invokestatic 20, 3) := by decide +kernel
theorem dX1_waysInto_15 : decode cX1_waysInto 15 = .ok (.aload_n 0, 1) := by decide +kernel
theorem dX1_waysInto_16 : decode cX1_waysInto 16 = .ok (.getfield 13, 3) := by decide +kernel
theorem dX1_waysInto_19 : decode cX1_waysInto 19 = .ok (.iconst 3, 1) := by decide +kernel
theorem dX1_waysInto_20 : decode cX1_waysInto 20 = .ok (.invokestatic 20, 3) := by decide +kernel
theorem dX1_waysInto_23 : decode cX1_waysInto 23 = .ok (.aload_n 0, 1) := by decide +kernel
theorem dX1_waysInto_24 : decode cX1_waysInto 24 = .ok (.iconst 1, 1) := by decide +kernel
theorem dX1_waysInto_25 : decode cX1_waysInto 25 = .ok (.putfield 16, 3) := by decide +kernel
theorem dX1_waysInto_28 : decode cX1_waysInto 28 = .ok (.iload_n 1, 1) := by decide +kernel
theorem dX1_waysInto_29 : decode cX1_waysInto 29 = .ok (.ifCond .lt 16, 3) := by decide +kernel
theorem dX1_waysInto_32 : decode cX1_waysInto 32 = .ok (.iload_n 1, 1) := by decide +kernel
theorem dX1_waysInto_33 : decode cX1_waysInto 33 = .ok (.bipush 13, 2) := by decide +kernel
theorem dX1_waysInto_35 : decode cX1_waysInto 35 = .ok (.if_icmp .gt 10, 3) := by decide +kernel
theorem dX1_waysInto_38 : decode cX1_waysInto 38 = .ok (.iload_n 2, 1) := by decide +kernel
theorem dX1_waysInto_39 : decode cX1_waysInto 39 = .ok (.invokestatic 24, 3) := by decide +kernel
theorem dX1_waysInto_42 : decode cX1_waysInto 42 = .ok (.ifCond .ne 5, 3) := by decide +kernel
theorem dX1_waysInto_45 : decode cX1_waysInto 45 = .ok (.lconst 0, 1) := by decide +kernel
theorem dX1_waysInto_46 : decode cX1_waysInto 46 = .ok (.lreturn, 1) := by decide +kernel
theorem dX1_waysInto_47 : decode cX1_waysInto 47 = .ok (.iload_n 3, 1) := by decide +kernel
theorem dX1_waysInto_48 : decode cX1_waysInto 48 = .ok (.ifCond .eq 17, 3) := by decide +kernel
theorem dX1_waysInto_51 : decode cX1_waysInto 51 = .ok (.aload_n 0, 1) := by decide +kernel
theorem dX1_waysInto_52 : decode cX1_waysInto 52 = .ok (.getfield 13, 3) := by decide +kernel
theorem dX1_waysInto_55 : decode cX1_waysInto 55 = .ok (.bipush 14, 2) := by decide +kernel
theorem dX1_waysInto_57 : decode cX1_waysInto 57 = .ok (.iload_n 1, 1) := by decide +kernel
theorem dX1_waysInto_58 : decode cX1_waysInto 58 = .ok (.imul, 1) := by decide +kernel
theorem dX1_waysInto_59 : decode cX1_waysInto 59 = .ok (.iload_n 2, 1) := by decide +kernel
theorem dX1_waysInto_60 : decode cX1_waysInto 60 = .ok (.iadd, 1) := by decide +kernel
theorem dX1_waysInto_61 : decode cX1_waysInto 61 = .ok (.laload, 1) := by decide +kernel
theorem dX1_waysInto_62 : decode cX1_waysInto 62 = .ok (.goto 14, 3) := by decide +kernel
theorem dX1_waysInto_65 : decode cX1_waysInto 65 = .ok (.aload_n 0, 1) := by decide +kernel
theorem dX1_waysInto_66 : decode cX1_waysInto 66 = .ok (.getfield 9, 3) := by decide +kernel
theorem dX1_waysInto_69 : decode cX1_waysInto 69 = .ok (.bipush 14, 2) := by decide +kernel
theorem dX1_waysInto_71 : decode cX1_waysInto 71 = .ok (.iload_n 1, 1) := by decide +kernel
theorem dX1_waysInto_72 : decode cX1_waysInto 72 = .ok (.imul, 1) := by decide +kernel
theorem dX1_waysInto_73 : decode cX1_waysInto 73 = .ok (.iload_n 2, 1) := by decide +kernel
theorem dX1_waysInto_74 : decode cX1_waysInto 74 = .ok (.iadd, 1) := by decide +kernel
theorem dX1_waysInto_75 : decode cX1_waysInto 75 = .ok (.laload, 1) := by decide +kernel
theorem dX1_waysInto_76 : decode cX1_waysInto 76 = .ok (.lreturn, 1) := by decide +kernel
theorem dX1_allWays_0 : decode cX1_allWays 0 = .ok (.lconst 0, 1) := by decide +kernel
theorem dX1_allWays_1 : decode cX1_allWays 1 = .ok (.lstore_n 3, 1) := by decide +kernel
theorem dX1_allWays_2 : decode cX1_allWays 2 = .ok (.iconst 0, 1) := by decide +kernel
theorem dX1_allWays_3 : decode cX1_allWays 3 = .ok (.istore 5, 2) := by decide +kernel
theorem dX1_allWays_5 : decode cX1_allWays 5 = .ok (.iload 5, 2) := by decide +kernel
theorem dX1_allWays_7 : decode cX1_allWays 7 = .ok (.bipush 13, 2) := by decide +kernel
theorem dX1_allWays_9 : decode cX1_allWays 9 = .ok (.if_icmp .gt 20, 3) := by decide +kernel
theorem dX1_allWays_12 : decode cX1_allWays 12 = .ok (.lload_n 3, 1) := by decide +kernel
theorem dX1_allWays_13 : decode cX1_allWays 13 = .ok (.aload_n 0, 1) := by decide +kernel
theorem dX1_allWays_14 : decode cX1_allWays 14 = .ok (.iload_n 1, 1) := by decide +kernel
theorem dX1_allWays_15 : decode cX1_allWays 15 = .ok (.iload 5, 2) := by decide +kernel
theorem dX1_allWays_17 : decode cX1_allWays 17 = .ok (.iload_n 2, 1) := by decide +kernel
theorem dX1_allWays_18 : decode cX1_allWays 18 = .ok (.invokevirtual 28, 3) := by decide +kernel
theorem dX1_allWays_21 : decode cX1_allWays 21 = .ok (.ladd, 1) := by decide +kernel
theorem dX1_allWays_22 : decode cX1_allWays 22 = .ok (.lstore_n 3, 1) := by decide +kernel
theorem dX1_allWays_23 : decode cX1_allWays 23 = .ok (.iinc 5 1, 3) := by decide +kernel
theorem dX1_allWays_26 : decode cX1_allWays 26 = .ok (.goto (-21), 3) := by decide +kernel
theorem dX1_allWays_29 : decode cX1_allWays 29 = .ok (.lload_n 3, 1) := by decide +kernel
theorem dX1_allWays_30 : decode cX1_allWays 30 = .ok (.lreturn, 1) := by decide +kernel
theorem dX1_allRings_0 : decode cX1_allRings 0 = .ok (.lconst 0, 1) := by decide +kernel
theorem dX1_allRings_1 : decode cX1_allRings 1 = .ok (.lstore_n 3, 1) := by decide +kernel
theorem dX1_allRings_2 : decode cX1_allRings 2 = .ok (.iconst 0, 1) := by decide +kernel
theorem dX1_allRings_3 : decode cX1_allRings 3 = .ok (.istore 5, 2) := by decide +kernel
theorem dX1_allRings_5 : decode cX1_allRings 5 = .ok (.iload 5, 2) := by decide +kernel
theorem dX1_allRings_7 : decode cX1_allRings 7 = .ok (.bipush 13, 2) := by decide +kernel
theorem dX1_allRings_9 : decode cX1_allRings 9 = .ok (.if_icmp .gt 24, 3) := by decide +kernel
theorem dX1_allRings_12 : decode cX1_allRings 12 = .ok (.lload_n 3, 1) := by decide +kernel
theorem dX1_allRings_13 : decode cX1_allRings 13 = .ok (.iload 5, 2) := by decide +kernel
theorem dX1_allRings_15 : decode cX1_allRings 15 = .ok (.i2l, 1) := by decide +kernel
theorem dX1_allRings_16 : decode cX1_allRings 16 = .ok (.aload_n 0, 1) := by decide +kernel
theorem dX1_allRings_17 : decode cX1_allRings 17 = .ok (.iload_n 1, 1) := by decide +kernel
theorem dX1_allRings_18 : decode cX1_allRings 18 = .ok (.iload 5, 2) := by decide +kernel
theorem dX1_allRings_20 : decode cX1_allRings 20 = .ok (.iload_n 2, 1) := by decide +kernel
theorem dX1_allRings_21 : decode cX1_allRings 21 = .ok (.invokevirtual 28, 3) := by decide +kernel
theorem dX1_allRings_24 : decode cX1_allRings 24 = .ok (.lmul, 1) := by decide +kernel
theorem dX1_allRings_25 : decode cX1_allRings 25 = .ok (.ladd, 1) := by decide +kernel
theorem dX1_allRings_26 : decode cX1_allRings 26 = .ok (.lstore_n 3, 1) := by decide +kernel
theorem dX1_allRings_27 : decode cX1_allRings 27 = .ok (.iinc 5 1, 3) := by decide +kernel
theorem dX1_allRings_30 : decode cX1_allRings 30 = .ok (.goto (-25), 3) := by decide +kernel
theorem dX1_allRings_33 : decode cX1_allRings 33 = .ok (.lload_n 3, 1) := by decide +kernel
theorem dX1_allRings_34 : decode cX1_allRings 34 = .ok (.lreturn, 1) := by decide +kernel
theorem dX1_fill_0 : decode cX1_fill 0 = .ok (.aload_n 0, 1) := by decide +kernel
theorem dX1_fill_1 : decode cX1_fill 1 = .ok (.iconst 0, 1) := by decide +kernel
theorem dX1_fill_2 : decode cX1_fill 2 = .ok (.lconst 1, 1) := by decide +kernel
theorem dX1_fill_3 : decode cX1_fill 3 = .ok (.lastore, 1) := by decide +kernel
theorem dX1_fill_4 : decode cX1_fill 4 = .ok (.iconst 1, 1) := by decide +kernel
theorem dX1_fill_5 : decode cX1_fill 5 = .ok (.istore_n 2, 1) := by decide +kernel
theorem dX1_fill_6 : decode cX1_fill 6 = .ok (.iload_n 2, 1) := by decide +kernel
theorem dX1_fill_7 : decode cX1_fill 7 = .ok (.bipush 13, 2) := by decide +kernel
theorem dX1_fill_9 : decode cX1_fill 9 = .ok (.if_icmp .gt 37, 3) := by decide +kernel
theorem dX1_fill_12 : decode cX1_fill 12 = .ok (.iconst 1, 1) := by decide +kernel
theorem dX1_fill_13 : decode cX1_fill 13 = .ok (.istore_n 3, 1) := by decide +kernel
theorem dX1_fill_14 : decode cX1_fill 14 = .ok (.iload_n 3, 1) := by decide +kernel
theorem dX1_fill_15 : decode cX1_fill 15 = .ok (.iload_n 2, 1) := by decide +kernel
theorem dX1_fill_16 : decode cX1_fill 16 = .ok (.if_icmp .gt 24, 3) := by decide +kernel
theorem dX1_fill_19 : decode cX1_fill 19 = .ok (.aload_n 0, 1) := by decide +kernel
theorem dX1_fill_20 : decode cX1_fill 20 = .ok (.bipush 14, 2) := by decide +kernel
theorem dX1_fill_22 : decode cX1_fill 22 = .ok (.iload_n 2, 1) := by decide +kernel
theorem dX1_fill_23 : decode cX1_fill 23 = .ok (.imul, 1) := by decide +kernel
theorem dX1_fill_24 : decode cX1_fill 24 = .ok (.iload_n 3, 1) := by decide +kernel
theorem dX1_fill_25 : decode cX1_fill 25 = .ok (.iadd, 1) := by decide +kernel
theorem dX1_fill_26 : decode cX1_fill 26 = .ok (.aload_n 0, 1) := by decide +kernel
theorem dX1_fill_27 : decode cX1_fill 27 = .ok (.iload_n 1, 1) := by decide +kernel
theorem dX1_fill_28 : decode cX1_fill 28 = .ok (.iload_n 2, 1) := by decide +kernel
theorem dX1_fill_29 : decode cX1_fill 29 = .ok (.iload_n 3, 1) := by decide +kernel
theorem dX1_fill_30 : decode cX1_fill 30 = .ok (.invokestatic 32, 3) := by decide +kernel
theorem dX1_fill_33 : decode cX1_fill 33 = .ok (.lastore, 1) := by decide +kernel
theorem dX1_fill_34 : decode cX1_fill 34 = .ok (.iinc 3 1, 3) := by decide +kernel
theorem dX1_fill_37 : decode cX1_fill 37 = .ok (.goto (-23), 3) := by decide +kernel
theorem dX1_fill_40 : decode cX1_fill 40 = .ok (.iinc 2 1, 3) := by decide +kernel
theorem dX1_fill_43 : decode cX1_fill 43 = .ok (.goto (-37), 3) := by decide +kernel
theorem dX1_fill_46 : decode cX1_fill 46 = .ok (.return_, 1) := by decide +kernel
theorem dX1_waysByFirstRing_0 : decode cX1_waysByFirstRing 0 = .ok (.lconst 0, 1) := by decide +kernel
theorem dX1_waysByFirstRing_1 : decode cX1_waysByFirstRing 1 = .ok (.lstore 4, 2) := by decide +kernel
theorem dX1_waysByFirstRing_3 : decode cX1_waysByFirstRing 3 = .ok (.lconst 1, 1) := by decide +kernel
theorem dX1_waysByFirstRing_4 : decode cX1_waysByFirstRing 4 = .ok (.lstore 6, 2) := by decide +kernel
theorem dX1_waysByFirstRing_6 : decode cX1_waysByFirstRing 6 = .ok (.iconst 1, 1) := by decide +kernel
theorem dX1_waysByFirstRing_7 : decode cX1_waysByFirstRing 7 = .ok (.istore 8, 2) := by decide +kernel
theorem dX1_waysByFirstRing_9 : decode cX1_waysByFirstRing 9 = .ok (.iload 8, 2) := by decide +kernel
theorem dX1_waysByFirstRing_11 : decode cX1_waysByFirstRing 11 = .ok (.iload_n 2, 1) := by decide +kernel
theorem dX1_waysByFirstRing_12 : decode cX1_waysByFirstRing 12 = .ok (.if_icmp .gt 50, 3) := by decide +kernel
theorem dX1_waysByFirstRing_15 : decode cX1_waysByFirstRing 15 = .ok (.iload 8, 2) := by decide +kernel
theorem dX1_waysByFirstRing_17 : decode cX1_waysByFirstRing 17 = .ok (.iload_n 1, 1) := by decide +kernel
theorem dX1_waysByFirstRing_18 : decode cX1_waysByFirstRing 18 = .ok (.if_icmp .lt 24, 3) := by decide +kernel
theorem dX1_waysByFirstRing_21 : decode cX1_waysByFirstRing 21 = .ok (.lload 4, 2) := by decide +kernel
theorem dX1_waysByFirstRing_23 : decode cX1_waysByFirstRing 23 = .ok (.lload 6, 2) := by decide +kernel
theorem dX1_waysByFirstRing_25 : decode cX1_waysByFirstRing 25 = .ok (.aload_n 0, 1) := by decide +kernel
theorem dX1_waysByFirstRing_26 : decode cX1_waysByFirstRing 26 = .ok (.bipush 14, 2) := by decide +kernel
theorem dX1_waysByFirstRing_28 : decode cX1_waysByFirstRing 28 = .ok (.iload_n 2, 1) := by decide +kernel
theorem dX1_waysByFirstRing_29 : decode cX1_waysByFirstRing 29 = .ok (.iload 8, 2) := by decide +kernel
theorem dX1_waysByFirstRing_31 : decode cX1_waysByFirstRing 31 = .ok (.isub, 1) := by decide +kernel
theorem dX1_waysByFirstRing_32 : decode cX1_waysByFirstRing 32 = .ok (.imul, 1) := by decide +kernel
theorem dX1_waysByFirstRing_33 : decode cX1_waysByFirstRing 33 = .ok (.iload_n 3, 1) := by decide +kernel
theorem dX1_waysByFirstRing_34 : decode cX1_waysByFirstRing 34 = .ok (.iadd, 1) := by decide +kernel
theorem dX1_waysByFirstRing_35 : decode cX1_waysByFirstRing 35 = .ok (.iconst 1, 1) := by decide +kernel
theorem dX1_waysByFirstRing_36 : decode cX1_waysByFirstRing 36 = .ok (.isub, 1) := by decide +kernel
theorem dX1_waysByFirstRing_37 : decode cX1_waysByFirstRing 37 = .ok (.laload, 1) := by decide +kernel
theorem dX1_waysByFirstRing_38 : decode cX1_waysByFirstRing 38 = .ok (.lmul, 1) := by decide +kernel
theorem dX1_waysByFirstRing_39 : decode cX1_waysByFirstRing 39 = .ok (.ladd, 1) := by decide +kernel
theorem dX1_waysByFirstRing_40 : decode cX1_waysByFirstRing 40 = .ok (.lstore 4, 2) := by decide +kernel
theorem dX1_waysByFirstRing_42 : decode cX1_waysByFirstRing 42 = .ok (.lload 6, 2) := by decide +kernel
theorem dX1_waysByFirstRing_44 : decode cX1_waysByFirstRing 44 = .ok (.ldc2_w 36, 3) := by decide +kernel
theorem dX1_waysByFirstRing_47 : decode cX1_waysByFirstRing 47 = .ok (.iload_n 2, 1) := by decide +kernel
theorem dX1_waysByFirstRing_48 : decode cX1_waysByFirstRing 48 = .ok (.iload 8, 2) := by decide +kernel
theorem dX1_waysByFirstRing_50 : decode cX1_waysByFirstRing 50 = .ok (.isub, 1) := by decide +kernel
theorem dX1_waysByFirstRing_51 : decode cX1_waysByFirstRing 51 = .ok (.i2l, 1) := by decide +kernel
theorem dX1_waysByFirstRing_52 : decode cX1_waysByFirstRing 52 = .ok (.lmul, 1) := by decide +kernel
theorem dX1_waysByFirstRing_53 : decode cX1_waysByFirstRing 53 = .ok (.lmul, 1) := by decide +kernel
theorem dX1_waysByFirstRing_54 : decode cX1_waysByFirstRing 54 = .ok (.lstore 6, 2) := by decide +kernel
theorem dX1_waysByFirstRing_56 : decode cX1_waysByFirstRing 56 = .ok (.iinc 8 1, 3) := by decide +kernel
theorem dX1_waysByFirstRing_59 : decode cX1_waysByFirstRing 59 = .ok (.goto (-50), 3) := by decide +kernel
theorem dX1_waysByFirstRing_62 : decode cX1_waysByFirstRing 62 = .ok (.lload 4, 2) := by decide +kernel
theorem dX1_waysByFirstRing_64 : decode cX1_waysByFirstRing 64 = .ok (.lreturn, 1) := by decide +kernel
theorem dX1_inLowestTerms_0 : decode cX1_inLowestTerms 0 = .ok (.lload_n 0, 1) := by decide +kernel
theorem dX1_inLowestTerms_1 : decode cX1_inLowestTerms 1 = .ok (.lload_n 2, 1) := by decide +kernel
theorem dX1_inLowestTerms_2 : decode cX1_inLowestTerms 2 = .ok (.invokestatic 38, 3) := by decide +kernel
theorem dX1_inLowestTerms_5 : decode cX1_inLowestTerms 5 = .ok (.lstore 5, 2) := by decide +kernel
theorem dX1_inLowestTerms_7 : decode cX1_inLowestTerms 7 = .ok (.iload 4, 2) := by decide +kernel
theorem dX1_inLowestTerms_9 : decode cX1_inLowestTerms 9 = .ok (.ifCond .eq 7, 3) := by decide +kernel
theorem dX1_inLowestTerms_12 : decode cX1_inLowestTerms 12 = .ok (.lload_n 2, 1) := by decide +kernel
theorem dX1_inLowestTerms_13 : decode cX1_inLowestTerms 13 = .ok (.goto 4, 3) := by decide +kernel
theorem dX1_inLowestTerms_16 : decode cX1_inLowestTerms 16 = .ok (.lload_n 0, 1) := by decide +kernel
theorem dX1_inLowestTerms_17 : decode cX1_inLowestTerms 17 = .ok (.lstore 7, 2) := by decide +kernel
theorem dX1_inLowestTerms_19 : decode cX1_inLowestTerms 19 = .ok (.lload 5, 2) := by decide +kernel
theorem dX1_inLowestTerms_21 : decode cX1_inLowestTerms 21 = .ok (.lconst 0, 1) := by decide +kernel
theorem dX1_inLowestTerms_22 : decode cX1_inLowestTerms 22 = .ok (.lcmp, 1) := by decide +kernel
theorem dX1_inLowestTerms_23 : decode cX1_inLowestTerms 23 = .ok (.ifCond .ne 8, 3) := by decide +kernel
theorem dX1_inLowestTerms_26 : decode cX1_inLowestTerms 26 = .ok (.lload 7, 2) := by decide +kernel
theorem dX1_inLowestTerms_28 : decode cX1_inLowestTerms 28 = .ok (.goto 8, 3) := by decide +kernel
theorem dX1_inLowestTerms_31 : decode cX1_inLowestTerms 31 = .ok (.lload 7, 2) := by decide +kernel
theorem dX1_inLowestTerms_33 : decode cX1_inLowestTerms 33 = .ok (.lload 5, 2) := by decide +kernel
theorem dX1_inLowestTerms_35 : decode cX1_inLowestTerms 35 = .ok (.ldiv, 1) := by decide +kernel
theorem dX1_inLowestTerms_36 : decode cX1_inLowestTerms 36 = .ok (.lreturn, 1) := by decide +kernel
theorem dX1_commonDivisor_0 : decode cX1_commonDivisor 0 = .ok (.lload_n 0, 1) := by decide +kernel
theorem dX1_commonDivisor_1 : decode cX1_commonDivisor 1 = .ok (.lstore 4, 2) := by decide +kernel
theorem dX1_commonDivisor_3 : decode cX1_commonDivisor 3 = .ok (.lload_n 2, 1) := by decide +kernel
theorem dX1_commonDivisor_4 : decode cX1_commonDivisor 4 = .ok (.lstore 6, 2) := by decide +kernel
theorem dX1_commonDivisor_6 : decode cX1_commonDivisor 6 = .ok (.iconst 0, 1) := by decide +kernel
theorem dX1_commonDivisor_7 : decode cX1_commonDivisor 7 = .ok (.istore 8, 2) := by decide +kernel
theorem dX1_commonDivisor_9 : decode cX1_commonDivisor 9 = .ok (.lload 6, 2) := by decide +kernel
theorem dX1_commonDivisor_11 : decode cX1_commonDivisor 11 = .ok (.lconst 0, 1) := by decide +kernel
theorem dX1_commonDivisor_12 : decode cX1_commonDivisor 12 = .ok (.lcmp, 1) := by decide +kernel
theorem dX1_commonDivisor_13 : decode cX1_commonDivisor 13 = .ok (.ifCond .eq 32, 3) := by decide +kernel
theorem dX1_commonDivisor_16 : decode cX1_commonDivisor 16 = .ok (.iload 8, 2) := by decide +kernel
theorem dX1_commonDivisor_18 : decode cX1_commonDivisor 18 = .ok (.sipush 200, 3) := by decide +kernel
theorem dX1_commonDivisor_21 : decode cX1_commonDivisor 21 = .ok (.if_icmp .ge 24, 3) := by decide +kernel
theorem dX1_commonDivisor_24 : decode cX1_commonDivisor 24 = .ok (.lload 4, 2) := by decide +kernel
theorem dX1_commonDivisor_26 : decode cX1_commonDivisor 26 = .ok (.lload 6, 2) := by decide +kernel
theorem dX1_commonDivisor_28 : decode cX1_commonDivisor 28 = .ok (.lrem, 1) := by decide +kernel
theorem dX1_commonDivisor_29 : decode cX1_commonDivisor 29 = .ok (.lstore 9, 2) := by decide +kernel
theorem dX1_commonDivisor_31 : decode cX1_commonDivisor 31 = .ok (.lload 6, 2) := by decide +kernel
theorem dX1_commonDivisor_33 : decode cX1_commonDivisor 33 = .ok (.lstore 4, 2) := by decide +kernel
theorem dX1_commonDivisor_35 : decode cX1_commonDivisor 35 = .ok (.lload 9, 2) := by decide +kernel
theorem dX1_commonDivisor_37 : decode cX1_commonDivisor 37 = .ok (.lstore 6, 2) := by decide +kernel
theorem dX1_commonDivisor_39 : decode cX1_commonDivisor 39 = .ok (.iinc 8 1, 3) := by decide +kernel
theorem dX1_commonDivisor_42 : decode cX1_commonDivisor 42 = .ok (.goto (-33), 3) := by decide +kernel
theorem dX1_commonDivisor_45 : decode cX1_commonDivisor 45 = .ok (.lload 4, 2) := by decide +kernel
theorem dX1_commonDivisor_47 : decode cX1_commonDivisor 47 = .ok (.lreturn, 1) := by decide +kernel
theorem dX2_init_0 : decode cX2_init 0 = .ok (.aload_n 0, 1) := by decide +kernel
theorem dX2_init_1 : decode cX2_init 1 = .ok (.invokespecial 3, 3) := by decide +kernel
theorem dX2_init_4 : decode cX2_init 4 = .ok (.aload_n 0, 1) := by decide +kernel
theorem dX2_init_5 : decode cX2_init 5 = .ok (.bipush 7, 2) := by decide +kernel
theorem dX2_init_7 : decode cX2_init 7 = .ok (.newarray .int, 2) := by decide +kernel
theorem dX2_init_9 : decode cX2_init 9 = .ok (.putfield 9, 3) := by decide +kernel
theorem dX2_init_12 : decode cX2_init 12 = .ok (.aload_n 0, 1) := by decide +kernel
theorem dX2_init_13 : decode cX2_init 13 = .ok (.bipush 7, 2) := by decide +kernel
theorem dX2_init_15 : decode cX2_init 15 = .ok (.newarray .int, 2) := by decide +kernel
theorem dX2_init_17 : decode cX2_init 17 = .ok (.putfield 15, 3) := by decide +kernel
theorem dX2_init_20 : decode cX2_init 20 = .ok (.aload_n 0, 1) := by decide +kernel
theorem dX2_init_21 : decode cX2_init 21 = .ok (.bipush 7, 2) := by decide +kernel
theorem dX2_init_23 : decode cX2_init 23 = .ok (.newarray .int, 2) := by decide +kernel
theorem dX2_init_25 : decode cX2_init 25 = .ok (.putfield 18, 3) := by decide +kernel
theorem dX2_init_28 : decode cX2_init 28 = .ok (.aload_n 0, 1) := by decide +kernel
theorem dX2_init_29 : decode cX2_init 29 = .ok (.bipush 7, 2) := by decide +kernel
theorem dX2_init_31 : decode cX2_init 31 = .ok (.bipush 16, 2) := by decide +kernel
theorem dX2_init_33 : decode cX2_init 33 = .ok (.multianewarray 21 2, 4) := by decide +kernel
theorem dX2_init_37 : decode cX2_init 37 = .ok (.putfield 23, 3) := by decide +kernel
theorem dX2_init_40 : decode cX2_init 40 = .ok (.return_, 1) := by decide +kernel
theorem dX2_countArcs_0 : decode cX2_countArcs 0 = .ok (.aload_n 0, 1) := by decide +kernel
theorem dX2_countArcs_1 : decode cX2_countArcs 1 = .ok (.iconst 0, 1) := by decide +kernel
theorem dX2_countArcs_2 : decode cX2_countArcs 2 = .ok (.putfield 26, 3) := by decide +kernel
theorem dX2_countArcs_5 : decode cX2_countArcs 5 = .ok (.iconst 0, 1) := by decide +kernel
theorem dX2_countArcs_6 : decode cX2_countArcs 6 = .ok (.istore_n 3, 1) := by decide +kernel
theorem dX2_countArcs_7 : decode cX2_countArcs 7 = .ok (.iload_n 3, 1) := by decide +kernel
theorem dX2_countArcs_8 : decode cX2_countArcs 8 = .ok (.iload_n 2, 1) := by decide +kernel
theorem dX2_countArcs_9 : decode cX2_countArcs 9 = .ok (.if_icmp .ge 15, 3) := by decide +kernel
theorem dX2_countArcs_12 : decode cX2_countArcs 12 = .ok (.aload_n 0, 1) := by decide +kernel
theorem dX2_countArcs_13 : decode cX2_countArcs 13 = .ok (.aload_n 1, 1) := by decide +kernel
theorem dX2_countArcs_14 : decode cX2_countArcs 14 = .ok (.iload_n 3, 1) := by decide +kernel
theorem dX2_countArcs_15 : decode cX2_countArcs 15 = .ok (.invokevirtual 30, 3) := by decide +kernel
theorem dX2_countArcs_18 : decode cX2_countArcs 18 = .ok (.iinc 3 1, 3) := by decide +kernel
theorem dX2_countArcs_21 : decode cX2_countArcs 21 = .ok (.goto (-14), 3) := by decide +kernel
theorem dX2_countArcs_24 : decode cX2_countArcs 24 = .ok (.aload_n 0, 1) := by decide +kernel
theorem dX2_countArcs_25 : decode cX2_countArcs 25 = .ok (.getfield 26, 3) := by decide +kernel
theorem dX2_countArcs_28 : decode cX2_countArcs 28 = .ok (.ireturn, 1) := by decide +kernel
theorem dX2_freeColours_0 : decode cX2_freeColours 0 = .ok (.aload_n 0, 1) := by decide +kernel
theorem dX2_freeColours_1 : decode cX2_freeColours 1 = .ok (.aload_n 1, 1) := by decide +kernel
theorem dX2_freeColours_2 : decode cX2_freeColours 2 = .ok (.iload_n 2, 1) := by decide +kernel
theorem dX2_freeColours_3 : decode cX2_freeColours 3 = .ok (.invokevirtual 34, 3) := by decide +kernel
theorem dX2_freeColours_6 : decode cX2_freeColours 6 = .ok (.pop, 1) := by decide +kernel
theorem dX2_freeColours_7 : decode cX2_freeColours 7 = .ok (.iconst 0, 1) := by decide +kernel
theorem dX2_freeColours_8 : decode cX2_freeColours 8 = .ok (.istore 4, 2) := by decide +kernel
theorem dX2_freeColours_10 : decode cX2_freeColours 10 = .ok (.iconst 0, 1) := by decide +kernel
theorem dX2_freeColours_11 : decode cX2_freeColours 11 = .ok (.istore 5, 2) := by decide +kernel
theorem dX2_freeColours_13 : decode cX2_freeColours 13 = .ok (.iload 5, 2) := by decide +kernel
theorem dX2_freeColours_15 : decode cX2_freeColours 15 = .ok (.bipush 7, 2) := by decide +kernel
theorem dX2_freeColours_17 : decode cX2_freeColours 17 = .ok (.if_icmp .ge 47, 3) := by decide +kernel
theorem dX2_freeColours_20 : decode cX2_freeColours 20 = .ok (.iload 5, 2) := by decide +kernel
theorem dX2_freeColours_22 : decode cX2_freeColours 22 = .ok (.aload_n 1, 1) := by decide +kernel
theorem dX2_freeColours_23 : decode cX2_freeColours 23 = .ok (.getfield 38, 3) := by decide +kernel
theorem dX2_freeColours_26 : decode cX2_freeColours 26 = .ok (.getfield 44, 3) := by decide +kernel
theorem dX2_freeColours_29 : decode cX2_freeColours 29 = .ok (.if_icmp .ge 35, 3) := by decide +kernel
theorem dX2_freeColours_32 : decode cX2_freeColours 32 = .ok (.aload_n 1, 1) := by decide +kernel
theorem dX2_freeColours_33 : decode cX2_freeColours 33 = .ok (.iload 5, 2) := by decide +kernel
theorem dX2_freeColours_35 : decode cX2_freeColours 35 = .ok (.invokevirtual 49, 3) := by decide +kernel
theorem dX2_freeColours_38 : decode cX2_freeColours 38 = .ok (.ifCond .eq 20, 3) := by decide +kernel
theorem dX2_freeColours_41 : decode cX2_freeColours 41 = .ok (.aload_n 0, 1) := by decide +kernel
theorem dX2_freeColours_42 : decode cX2_freeColours 42 = .ok (.aload_n 0, 1) := by decide +kernel
theorem dX2_freeColours_43 : decode cX2_freeColours 43 = .ok (.getfield 23, 3) := by decide +kernel
theorem dX2_freeColours_46 : decode cX2_freeColours 46 = .ok (.iload 4, 2) := by decide +kernel
theorem dX2_freeColours_48 : decode cX2_freeColours 48 = .ok (.aaload, 1) := by decide +kernel
theorem dX2_freeColours_49 : decode cX2_freeColours 49 = .ok (.iload 5, 2) := by decide +kernel
theorem dX2_freeColours_51 : decode cX2_freeColours 51 = .ok (.iload_n 3, 1) := by decide +kernel
theorem dX2_freeColours_52 : decode cX2_freeColours 52 = .ok (.invokevirtual 53, 3) := by decide +kernel
theorem dX2_freeColours_55 : decode cX2_freeColours 55 = .ok (.iinc 4 1, 3) := by decide +kernel
theorem dX2_freeColours_58 : decode cX2_freeColours 58 = .ok (.iinc 5 1, 3) := by decide +kernel
theorem dX2_freeColours_61 : decode cX2_freeColours 61 = .ok (.goto (-48), 3) := by decide +kernel
theorem dX2_freeColours_64 : decode cX2_freeColours 64 = .ok (.aload_n 0, 1) := by decide +kernel
theorem dX2_freeColours_65 : decode cX2_freeColours 65 = .ok (.getfield 26, 3) := by decide +kernel
theorem dX2_freeColours_68 : decode cX2_freeColours 68 = .ok (.aload_n 0, 1) := by decide +kernel
theorem dX2_freeColours_69 : decode cX2_freeColours 69 = .ok (.iload 4, 2) := by decide +kernel
theorem dX2_freeColours_71 : decode cX2_freeColours 71 = .ok (.iload_n 3, 1) := by decide +kernel
theorem dX2_freeColours_72 : decode cX2_freeColours 72 = .ok (.invokevirtual 57, 3) := by decide +kernel
theorem dX2_freeColours_75 : decode cX2_freeColours 75 = .ok (.isub, 1) := by decide +kernel
theorem dX2_freeColours_76 : decode cX2_freeColours 76 = .ok (.ireturn, 1) := by decide +kernel
theorem dX2_traceArcs_0 : decode cX2_traceArcs 0 = .ok (.aload_n 1, 1) := by decide +kernel
theorem dX2_traceArcs_1 : decode cX2_traceArcs 1 = .ok (.getfield 61, 3) := by decide +kernel
theorem dX2_traceArcs_4 : decode cX2_traceArcs 4 = .ok (.iload_n 2, 1) := by decide +kernel
theorem dX2_traceArcs_5 : decode cX2_traceArcs 5 = .ok (.iaload, 1) := by decide +kernel
theorem dX2_traceArcs_6 : decode cX2_traceArcs 6 = .ok (.istore_n 3, 1) := by decide +kernel
theorem dX2_traceArcs_7 : decode cX2_traceArcs 7 = .ok (.aload_n 1, 1) := by decide +kernel
theorem dX2_traceArcs_8 : decode cX2_traceArcs 8 = .ok (.getfield 61, 3) := by decide +kernel
theorem dX2_traceArcs_11 : decode cX2_traceArcs 11 = .ok (.iload_n 2, 1) := by decide +kernel
theorem dX2_traceArcs_12 : decode cX2_traceArcs 12 = .ok (.iconst 1, 1) := by decide +kernel
theorem dX2_traceArcs_13 : decode cX2_traceArcs 13 = .ok (.iadd, 1) := by decide +kernel
theorem dX2_traceArcs_14 : decode cX2_traceArcs 14 = .ok (.iaload, 1) := by decide +kernel
theorem dX2_traceArcs_15 : decode cX2_traceArcs 15 = .ok (.istore 4, 2) := by decide +kernel
theorem dX2_traceArcs_17 : decode cX2_traceArcs 17 = .ok (.iconst 0, 1) := by decide +kernel
theorem dX2_traceArcs_18 : decode cX2_traceArcs 18 = .ok (.istore 5, 2) := by decide +kernel
theorem dX2_traceArcs_20 : decode cX2_traceArcs 20 = .ok (.iload_n 3, 1) := by decide +kernel
theorem dX2_traceArcs_21 : decode cX2_traceArcs 21 = .ok (.istore 6, 2) := by decide +kernel
theorem dX2_traceArcs_23 : decode cX2_traceArcs 23 = .ok (.iload 6, 2) := by decide +kernel
theorem dX2_traceArcs_25 : decode cX2_traceArcs 25 = .ok (.iload 4, 2) := by decide +kernel
theorem dX2_traceArcs_27 : decode cX2_traceArcs 27 = .ok (.if_icmp .ge 31, 3) := by decide +kernel
theorem dX2_traceArcs_30 : decode cX2_traceArcs 30 = .ok (.iload 5, 2) := by decide +kernel
theorem dX2_traceArcs_32 : decode cX2_traceArcs 32 = .ok (.aload_n 1, 1) := by decide +kernel
theorem dX2_traceArcs_33 : decode cX2_traceArcs 33 = .ok (.getfield 64, 3) := by decide +kernel
theorem dX2_traceArcs_36 : decode cX2_traceArcs 36 = .ok (.iload 6, 2) := by decide +kernel
theorem dX2_traceArcs_38 : decode cX2_traceArcs 38 = .ok (.iaload, 1) := by decide +kernel
theorem dX2_traceArcs_39 : decode cX2_traceArcs 39 = .ok (.iconst 1, 1) := by decide +kernel
theorem dX2_traceArcs_40 : decode cX2_traceArcs 40 = .ok (.iand, 1) := by decide +kernel
theorem dX2_traceArcs_41 : decode cX2_traceArcs 41 = .ok (.ifCond .ne 7, 3) := by decide +kernel
theorem dX2_traceArcs_44 : decode cX2_traceArcs 44 = .ok (.iconst 1, 1) := by decide +kernel
theorem dX2_traceArcs_45 : decode cX2_traceArcs 45 = .ok (.goto 4, 3) := by decide +kernel
theorem dX2_traceArcs_48 : decode cX2_traceArcs 48 = .ok (.iconst 0, 1) := by decide +kernel
theorem dX2_traceArcs_49 : decode cX2_traceArcs 49 = .ok (.iadd, 1) := by decide +kernel
theorem dX2_traceArcs_50 : decode cX2_traceArcs 50 = .ok (.istore 5, 2) := by decide +kernel
theorem dX2_traceArcs_52 : decode cX2_traceArcs 52 = .ok (.iinc 6 1, 3) := by decide +kernel
theorem dX2_traceArcs_55 : decode cX2_traceArcs 55 = .ok (.goto (-32), 3) := by decide +kernel
theorem dX2_traceArcs_58 : decode cX2_traceArcs 58 = .ok (.aload_n 1, 1) := by decide +kernel
theorem dX2_traceArcs_59 : decode cX2_traceArcs 59 = .ok (.iload_n 2, 1) := by decide +kernel
theorem dX2_traceArcs_60 : decode cX2_traceArcs 60 = .ok (.invokevirtual 67, 3) := by decide +kernel
theorem dX2_traceArcs_63 : decode cX2_traceArcs 63 = .ok (.istore 6, 2) := by decide +kernel
theorem dX2_traceArcs_65 : decode cX2_traceArcs 65 = .ok (.aload_n 0, 1) := by decide +kernel
theorem dX2_traceArcs_66 : decode cX2_traceArcs 66 = .ok (.getfield 26, 3) := by decide +kernel
theorem dX2_traceArcs_69 : decode cX2_traceArcs 69 = .ok (.iload 6, 2) := by decide +kernel
theorem dX2_traceArcs_71 : decode cX2_traceArcs 71 = .ok (.ifCond .eq 10, 3) := by decide +kernel
theorem dX2_traceArcs_74 : decode cX2_traceArcs 74 = .ok (.iload 5, 2) := by decide +kernel
theorem dX2_traceArcs_76 : decode cX2_traceArcs 76 = .ok (.iconst 1, 1) := by decide +kernel
theorem dX2_traceArcs_77 : decode cX2_traceArcs 77 = .ok (.iadd, 1) := by decide +kernel
theorem dX2_traceArcs_78 : decode cX2_traceArcs 78 = .ok (.goto 9, 3) := by decide +kernel
theorem dX2_traceArcs_81 : decode cX2_traceArcs 81 = .ok (.iload 5, 2) := by decide +kernel
theorem dX2_traceArcs_83 : decode cX2_traceArcs 83 = .ok (.iconst 1, 1) := by decide +kernel
theorem dX2_traceArcs_84 : decode cX2_traceArcs 84 = .ok (.invokestatic 70, 3) := by decide +kernel
theorem dX2_traceArcs_87 : decode cX2_traceArcs 87 = .ok (.iadd, 1) := by decide +kernel
theorem dX2_traceArcs_88 : decode cX2_traceArcs 88 = .ok (.istore 7, 2) := by decide +kernel
theorem dX2_traceArcs_90 : decode cX2_traceArcs 90 = .ok (.iload 6, 2) := by decide +kernel
theorem dX2_traceArcs_92 : decode cX2_traceArcs 92 = .ok (.ifCond .eq 10, 3) := by decide +kernel
theorem dX2_traceArcs_95 : decode cX2_traceArcs 95 = .ok (.aload_n 0, 1) := by decide +kernel
theorem dX2_traceArcs_96 : decode cX2_traceArcs 96 = .ok (.getfield 26, 3) := by decide +kernel
theorem dX2_traceArcs_99 : decode cX2_traceArcs 99 = .ok (.goto 7, 3) := by decide +kernel
theorem dX2_traceArcs_102 : decode cX2_traceArcs 102 = .ok (.iload 7, 2) := by decide +kernel
theorem dX2_traceArcs_104 : decode cX2_traceArcs 104 = .ok (.iconst 1, 1) := by decide +kernel
theorem dX2_traceArcs_105 : decode cX2_traceArcs 105 = .ok (.isub, 1) := by decide +kernel
theorem dX2_traceArcs_106 : decode cX2_traceArcs 106 = .ok (.istore 8, 2) := by decide +kernel
theorem dX2_traceArcs_108 : decode cX2_traceArcs 108 = .ok (.iload_n 3, 1) := by decide +kernel
theorem dX2_traceArcs_109 : decode cX2_traceArcs 109 = .ok (.istore 9, 2) := by decide +kernel
theorem dX2_traceArcs_111 : decode cX2_traceArcs 111 = .ok (.iload 9, 2) := by decide +kernel
theorem dX2_traceArcs_113 : decode cX2_traceArcs 113 = .ok (.iload 4, 2) := by decide +kernel
theorem dX2_traceArcs_115 : decode cX2_traceArcs 115 = .ok (.if_icmp .ge 84, 3) := by decide +kernel
theorem dX2_traceArcs_118 : decode cX2_traceArcs 118 = .ok (.aload_n 1, 1) := by decide +kernel
theorem dX2_traceArcs_119 : decode cX2_traceArcs 119 = .ok (.getfield 64, 3) := by decide +kernel
theorem dX2_traceArcs_122 : decode cX2_traceArcs 122 = .ok (.iload 9, 2) := by decide +kernel
theorem dX2_traceArcs_124 : decode cX2_traceArcs 124 = .ok (.iaload, 1) := by decide +kernel
theorem dX2_traceArcs_125 : decode cX2_traceArcs 125 = .ok (.iconst 2, 1) := by decide +kernel
theorem dX2_traceArcs_126 : decode cX2_traceArcs 126 = .ok (.idiv, 1) := by decide +kernel
theorem dX2_traceArcs_127 : decode cX2_traceArcs 127 = .ok (.istore 10, 2) := by decide +kernel
theorem dX2_traceArcs_129 : decode cX2_traceArcs 129 = .ok (.aload_n 1, 1) := by decide +kernel
theorem dX2_traceArcs_130 : decode cX2_traceArcs 130 = .ok (.getfield 64, 3) := by decide +kernel
theorem dX2_traceArcs_133 : decode cX2_traceArcs 133 = .ok (.iload 9, 2) := by decide +kernel
theorem dX2_traceArcs_135 : decode cX2_traceArcs 135 = .ok (.iaload, 1) := by decide +kernel
theorem dX2_traceArcs_136 : decode cX2_traceArcs 136 = .ok (.iconst 1, 1) := by decide +kernel
theorem dX2_traceArcs_137 : decode cX2_traceArcs 137 = .ok (.iand, 1) := by decide +kernel
theorem dX2_traceArcs_138 : decode cX2_traceArcs 138 = .ok (.ifCond .eq 15, 3) := by decide +kernel
theorem dX2_traceArcs_141 : decode cX2_traceArcs 141 = .ok (.aload_n 0, 1) := by decide +kernel
theorem dX2_traceArcs_142 : decode cX2_traceArcs 142 = .ok (.getfield 9, 3) := by decide +kernel
theorem dX2_traceArcs_145 : decode cX2_traceArcs 145 = .ok (.iload 10, 2) := by decide +kernel
theorem dX2_traceArcs_147 : decode cX2_traceArcs 147 = .ok (.iload 8, 2) := by decide +kernel
theorem dX2_traceArcs_149 : decode cX2_traceArcs 149 = .ok (.iastore, 1) := by decide +kernel
theorem dX2_traceArcs_150 : decode cX2_traceArcs 150 = .ok (.goto 43, 3) := by decide +kernel
theorem dX2_traceArcs_153 : decode cX2_traceArcs 153 = .ok (.aload_n 0, 1) := by decide +kernel
theorem dX2_traceArcs_154 : decode cX2_traceArcs 154 = .ok (.getfield 15, 3) := by decide +kernel
theorem dX2_traceArcs_157 : decode cX2_traceArcs 157 = .ok (.iload 10, 2) := by decide +kernel
theorem dX2_traceArcs_159 : decode cX2_traceArcs 159 = .ok (.iload 8, 2) := by decide +kernel
theorem dX2_traceArcs_161 : decode cX2_traceArcs 161 = .ok (.iastore, 1) := by decide +kernel
theorem dX2_traceArcs_162 : decode cX2_traceArcs 162 = .ok (.iload 8, 2) := by decide +kernel
theorem dX2_traceArcs_164 : decode cX2_traceArcs 164 = .ok (.iconst 1, 1) := by decide +kernel
theorem dX2_traceArcs_165 : decode cX2_traceArcs 165 = .ok (.iadd, 1) := by decide +kernel
theorem dX2_traceArcs_166 : decode cX2_traceArcs 166 = .ok (.iload 7, 2) := by decide +kernel
theorem dX2_traceArcs_168 : decode cX2_traceArcs 168 = .ok (.if_icmp .ge 10, 3) := by decide +kernel
theorem dX2_traceArcs_171 : decode cX2_traceArcs 171 = .ok (.iload 8, 2) := by decide +kernel
theorem dX2_traceArcs_173 : decode cX2_traceArcs 173 = .ok (.iconst 1, 1) := by decide +kernel
theorem dX2_traceArcs_174 : decode cX2_traceArcs 174 = .ok (.iadd, 1) := by decide +kernel
theorem dX2_traceArcs_175 : decode cX2_traceArcs 175 = .ok (.goto 7, 3) := by decide +kernel
theorem dX2_traceArcs_178 : decode cX2_traceArcs 178 = .ok (.aload_n 0, 1) := by decide +kernel
theorem dX2_traceArcs_179 : decode cX2_traceArcs 179 = .ok (.getfield 26, 3) := by decide +kernel
theorem dX2_traceArcs_182 : decode cX2_traceArcs 182 = .ok (.istore 8, 2) := by decide +kernel
theorem dX2_traceArcs_184 : decode cX2_traceArcs 184 = .ok (.aload_n 0, 1) := by decide +kernel
theorem dX2_traceArcs_185 : decode cX2_traceArcs 185 = .ok (.getfield 18, 3) := by decide +kernel
theorem dX2_traceArcs_188 : decode cX2_traceArcs 188 = .ok (.iload 10, 2) := by decide +kernel
theorem dX2_traceArcs_190 : decode cX2_traceArcs 190 = .ok (.iload 8, 2) := by decide +kernel
theorem dX2_traceArcs_192 : decode cX2_traceArcs 192 = .ok (.iastore, 1) := by decide +kernel
theorem dX2_traceArcs_193 : decode cX2_traceArcs 193 = .ok (.iinc 9 1, 3) := by decide +kernel
theorem dX2_traceArcs_196 : decode cX2_traceArcs 196 = .ok (.goto (-85), 3) := by decide +kernel
theorem dX2_traceArcs_199 : decode cX2_traceArcs 199 = .ok (.aload_n 0, 1) := by decide +kernel
theorem dX2_traceArcs_200 : decode cX2_traceArcs 200 = .ok (.iload 7, 2) := by decide +kernel
theorem dX2_traceArcs_202 : decode cX2_traceArcs 202 = .ok (.putfield 26, 3) := by decide +kernel
theorem dX2_traceArcs_205 : decode cX2_traceArcs 205 = .ok (.return_, 1) := by decide +kernel
theorem dX2_fillRow_0 : decode cX2_fillRow 0 = .ok (.aload_n 1, 1) := by decide +kernel
theorem dX2_fillRow_1 : decode cX2_fillRow 1 = .ok (.iconst 0, 1) := by decide +kernel
theorem dX2_fillRow_2 : decode cX2_fillRow 2 = .ok (.invokestatic 75, 3) := by decide +kernel
theorem dX2_fillRow_5 : decode cX2_fillRow 5 = .ok (.aload_n 1, 1) := by decide +kernel
theorem dX2_fillRow_6 : decode cX2_fillRow 6 = .ok (.aload_n 0, 1) := by decide +kernel
theorem dX2_fillRow_7 : decode cX2_fillRow 7 = .ok (.getfield 9, 3) := by decide +kernel
theorem dX2_fillRow_10 : decode cX2_fillRow 10 = .ok (.iload_n 2, 1) := by decide +kernel
theorem dX2_fillRow_11 : decode cX2_fillRow 11 = .ok (.iaload, 1) := by decide +kernel
theorem dX2_fillRow_12 : decode cX2_fillRow 12 = .ok (.dup2, 1) := by decide +kernel
theorem dX2_fillRow_13 : decode cX2_fillRow 13 = .ok (.iaload, 1) := by decide +kernel
theorem dX2_fillRow_14 : decode cX2_fillRow 14 = .ok (.iconst 2, 1) := by decide +kernel
theorem dX2_fillRow_15 : decode cX2_fillRow 15 = .ok (.iadd, 1) := by decide +kernel
theorem dX2_fillRow_16 : decode cX2_fillRow 16 = .ok (.iastore, 1) := by decide +kernel
theorem dX2_fillRow_17 : decode cX2_fillRow 17 = .ok (.aload_n 1, 1) := by decide +kernel
theorem dX2_fillRow_18 : decode cX2_fillRow 18 = .ok (.aload_n 0, 1) := by decide +kernel
theorem dX2_fillRow_19 : decode cX2_fillRow 19 = .ok (.getfield 15, 3) := by decide +kernel
theorem dX2_fillRow_22 : decode cX2_fillRow 22 = .ok (.iload_n 2, 1) := by decide +kernel
theorem dX2_fillRow_23 : decode cX2_fillRow 23 = .ok (.iaload, 1) := by decide +kernel
theorem dX2_fillRow_24 : decode cX2_fillRow 24 = .ok (.dup2, 1) := by decide +kernel
theorem dX2_fillRow_25 : decode cX2_fillRow 25 = .ok (.iaload, 1) := by decide +kernel
theorem dX2_fillRow_26 : decode cX2_fillRow 26 = .ok (.iload_n 3, 1) := by decide +kernel
theorem dX2_fillRow_27 : decode cX2_fillRow 27 = .ok (.iconst 1, 1) := by decide +kernel
theorem dX2_fillRow_28 : decode cX2_fillRow 28 = .ok (.isub, 1) := by decide +kernel
theorem dX2_fillRow_29 : decode cX2_fillRow 29 = .ok (.iadd, 1) := by decide +kernel
theorem dX2_fillRow_30 : decode cX2_fillRow 30 = .ok (.iastore, 1) := by decide +kernel
theorem dX2_fillRow_31 : decode cX2_fillRow 31 = .ok (.aload_n 1, 1) := by decide +kernel
theorem dX2_fillRow_32 : decode cX2_fillRow 32 = .ok (.aload_n 0, 1) := by decide +kernel
theorem dX2_fillRow_33 : decode cX2_fillRow 33 = .ok (.getfield 18, 3) := by decide +kernel
theorem dX2_fillRow_36 : decode cX2_fillRow 36 = .ok (.iload_n 2, 1) := by decide +kernel
theorem dX2_fillRow_37 : decode cX2_fillRow 37 = .ok (.iaload, 1) := by decide +kernel
theorem dX2_fillRow_38 : decode cX2_fillRow 38 = .ok (.dup2, 1) := by decide +kernel
theorem dX2_fillRow_39 : decode cX2_fillRow 39 = .ok (.iaload, 1) := by decide +kernel
theorem dX2_fillRow_40 : decode cX2_fillRow 40 = .ok (.iload_n 3, 1) := by decide +kernel
theorem dX2_fillRow_41 : decode cX2_fillRow 41 = .ok (.iconst 1, 1) := by decide +kernel
theorem dX2_fillRow_42 : decode cX2_fillRow 42 = .ok (.isub, 1) := by decide +kernel
theorem dX2_fillRow_43 : decode cX2_fillRow 43 = .ok (.iadd, 1) := by decide +kernel
theorem dX2_fillRow_44 : decode cX2_fillRow 44 = .ok (.iastore, 1) := by decide +kernel
theorem dX2_fillRow_45 : decode cX2_fillRow 45 = .ok (.iconst 0, 1) := by decide +kernel
theorem dX2_fillRow_46 : decode cX2_fillRow 46 = .ok (.istore 4, 2) := by decide +kernel
theorem dX2_fillRow_48 : decode cX2_fillRow 48 = .ok (.iload 4, 2) := by decide +kernel
theorem dX2_fillRow_50 : decode cX2_fillRow 50 = .ok (.aload_n 1, 1) := by decide +kernel
theorem dX2_fillRow_51 : decode cX2_fillRow 51 = .ok (.arraylength, 1) := by decide +kernel
theorem dX2_fillRow_52 : decode cX2_fillRow 52 = .ok (.if_icmp .ge 21, 3) := by decide +kernel
theorem dX2_fillRow_55 : decode cX2_fillRow 55 = .ok (.aload_n 1, 1) := by decide +kernel
theorem dX2_fillRow_56 : decode cX2_fillRow 56 = .ok (.iload 4, 2) := by decide +kernel
theorem dX2_fillRow_58 : decode cX2_fillRow 58 = .ok (.aload_n 1, 1) := by decide +kernel
theorem dX2_fillRow_59 : decode cX2_fillRow 59 = .ok (.iload 4, 2) := by decide +kernel
theorem dX2_fillRow_61 : decode cX2_fillRow 61 = .ok (.iaload, 1) := by decide +kernel
theorem dX2_fillRow_62 : decode cX2_fillRow 62 = .ok (.iload_n 3, 1) := by decide +kernel
theorem dX2_fillRow_63 : decode cX2_fillRow 63 = .ok (.invokestatic 81, 3) := by decide +kernel
theorem dX2_fillRow_66 : decode cX2_fillRow 66 = .ok (.iastore, 1) := by decide +kernel
theorem dX2_fillRow_67 : decode cX2_fillRow 67 = .ok (.iinc 4 1, 3) := by decide +kernel
theorem dX2_fillRow_70 : decode cX2_fillRow 70 = .ok (.goto (-22), 3) := by decide +kernel
theorem dX2_fillRow_73 : decode cX2_fillRow 73 = .ok (.return_, 1) := by decide +kernel
theorem dX2_rank_0 : decode cX2_rank 0 = .ok (.iconst 0, 1) := by decide +kernel
theorem dX2_rank_1 : decode cX2_rank 1 = .ok (.istore_n 3, 1) := by decide +kernel
theorem dX2_rank_2 : decode cX2_rank 2 = .ok (.iconst 0, 1) := by decide +kernel
theorem dX2_rank_3 : decode cX2_rank 3 = .ok (.istore 4, 2) := by decide +kernel
theorem dX2_rank_5 : decode cX2_rank 5 = .ok (.iload 4, 2) := by decide +kernel
theorem dX2_rank_7 : decode cX2_rank 7 = .ok (.aload_n 0, 1) := by decide +kernel
theorem dX2_rank_8 : decode cX2_rank 8 = .ok (.getfield 26, 3) := by decide +kernel
theorem dX2_rank_11 : decode cX2_rank 11 = .ok (.if_icmp .ge 66, 3) := by decide +kernel
theorem dX2_rank_14 : decode cX2_rank 14 = .ok (.iload 4, 2) := by decide +kernel
theorem dX2_rank_16 : decode cX2_rank 16 = .ok (.bipush 16, 2) := by decide +kernel
theorem dX2_rank_18 : decode cX2_rank 18 = .ok (.if_icmp .ge 59, 3) := by decide +kernel
theorem dX2_rank_21 : decode cX2_rank 21 = .ok (.aload_n 0, 1) := by decide +kernel
theorem dX2_rank_22 : decode cX2_rank 22 = .ok (.iload_n 3, 1) := by decide +kernel
theorem dX2_rank_23 : decode cX2_rank 23 = .ok (.iload_n 1, 1) := by decide +kernel
theorem dX2_rank_24 : decode cX2_rank 24 = .ok (.iload 4, 2) := by decide +kernel
theorem dX2_rank_26 : decode cX2_rank 26 = .ok (.invokevirtual 84, 3) := by decide +kernel
theorem dX2_rank_29 : decode cX2_rank 29 = .ok (.ifCond .eq 42, 3) := by decide +kernel
theorem dX2_rank_32 : decode cX2_rank 32 = .ok (.iload_n 3, 1) := by decide +kernel
theorem dX2_rank_33 : decode cX2_rank 33 = .ok (.iconst 1, 1) := by decide +kernel
theorem dX2_rank_34 : decode cX2_rank 34 = .ok (.iadd, 1) := by decide +kernel
theorem dX2_rank_35 : decode cX2_rank 35 = .ok (.istore 5, 2) := by decide +kernel
theorem dX2_rank_37 : decode cX2_rank 37 = .ok (.iload 5, 2) := by decide +kernel
theorem dX2_rank_39 : decode cX2_rank 39 = .ok (.iload_n 1, 1) := by decide +kernel
theorem dX2_rank_40 : decode cX2_rank 40 = .ok (.if_icmp .ge 28, 3) := by decide +kernel
theorem dX2_rank_43 : decode cX2_rank 43 = .ok (.aload_n 0, 1) := by decide +kernel
theorem dX2_rank_44 : decode cX2_rank 44 = .ok (.getfield 23, 3) := by decide +kernel
theorem dX2_rank_47 : decode cX2_rank 47 = .ok (.iload 5, 2) := by decide +kernel
theorem dX2_rank_49 : decode cX2_rank 49 = .ok (.aaload, 1) := by decide +kernel
theorem dX2_rank_50 : decode cX2_rank 50 = .ok (.aload_n 0, 1) := by decide +kernel
theorem dX2_rank_51 : decode cX2_rank 51 = .ok (.getfield 23, 3) := by decide +kernel
theorem dX2_rank_54 : decode cX2_rank 54 = .ok (.iload_n 3, 1) := by decide +kernel
theorem dX2_rank_55 : decode cX2_rank 55 = .ok (.aaload, 1) := by decide +kernel
theorem dX2_rank_56 : decode cX2_rank 56 = .ok (.iload 4, 2) := by decide +kernel
theorem dX2_rank_58 : decode cX2_rank 58 = .ok (.iload_n 2, 1) := by decide +kernel
theorem dX2_rank_59 : decode cX2_rank 59 = .ok (.invokestatic 88, 3) := by decide +kernel
theorem dX2_rank_62 : decode cX2_rank 62 = .ok (.iinc 5 1, 3) := by decide +kernel
theorem dX2_rank_65 : decode cX2_rank 65 = .ok (.goto (-28), 3) := by decide +kernel
theorem dX2_rank_68 : decode cX2_rank 68 = .ok (.iinc 3 1, 3) := by decide +kernel
theorem dX2_rank_71 : decode cX2_rank 71 = .ok (.iinc 4 1, 3) := by decide +kernel
theorem dX2_rank_74 : decode cX2_rank 74 = .ok (.goto (-69), 3) := by decide +kernel
theorem dX2_rank_77 : decode cX2_rank 77 = .ok (.iload_n 3, 1) := by decide +kernel
theorem dX2_rank_78 : decode cX2_rank 78 = .ok (.ireturn, 1) := by decide +kernel
theorem dX2_bringsUp_0 : decode cX2_bringsUp 0 = .ok (.iload_n 1, 1) := by decide +kernel
theorem dX2_bringsUp_1 : decode cX2_bringsUp 1 = .ok (.istore 4, 2) := by decide +kernel
theorem dX2_bringsUp_3 : decode cX2_bringsUp 3 = .ok (.iload 4, 2) := by decide +kernel
theorem dX2_bringsUp_5 : decode cX2_bringsUp 5 = .ok (.iload_n 2, 1) := by decide +kernel
theorem dX2_bringsUp_6 : decode cX2_bringsUp 6 = .ok (.if_icmp .ge 53, 3) := by decide +kernel
theorem dX2_bringsUp_9 : decode cX2_bringsUp 9 = .ok (.aload_n 0, 1) := by decide +kernel
theorem dX2_bringsUp_10 : decode cX2_bringsUp 10 = .ok (.getfield 23, 3) := by decide +kernel
theorem dX2_bringsUp_13 : decode cX2_bringsUp 13 = .ok (.iload 4, 2) := by decide +kernel
theorem dX2_bringsUp_15 : decode cX2_bringsUp 15 = .ok (.aaload, 1) := by decide +kernel
theorem dX2_bringsUp_16 : decode cX2_bringsUp 16 = .ok (.iload_n 3, 1) := by decide +kernel
theorem dX2_bringsUp_17 : decode cX2_bringsUp 17 = .ok (.iaload, 1) := by decide +kernel
theorem dX2_bringsUp_18 : decode cX2_bringsUp 18 = .ok (.ifCond .eq 35, 3) := by decide +kernel
theorem dX2_bringsUp_21 : decode cX2_bringsUp 21 = .ok (.aload_n 0, 1) := by decide +kernel
theorem dX2_bringsUp_22 : decode cX2_bringsUp 22 = .ok (.getfield 23, 3) := by decide +kernel
theorem dX2_bringsUp_25 : decode cX2_bringsUp 25 = .ok (.iload 4, 2) := by decide +kernel
theorem dX2_bringsUp_27 : decode cX2_bringsUp 27 = .ok (.aaload, 1) := by decide +kernel
theorem dX2_bringsUp_28 : decode cX2_bringsUp 28 = .ok (.astore 5, 2) := by decide +kernel
theorem dX2_bringsUp_30 : decode cX2_bringsUp 30 = .ok (.aload_n 0, 1) := by decide +kernel
theorem dX2_bringsUp_31 : decode cX2_bringsUp 31 = .ok (.getfield 23, 3) := by decide +kernel
theorem dX2_bringsUp_34 : decode cX2_bringsUp 34 = .ok (.iload 4, 2) := by decide +kernel
theorem dX2_bringsUp_36 : decode cX2_bringsUp 36 = .ok (.aload_n 0, 1) := by decide +kernel
theorem dX2_bringsUp_37 : decode cX2_bringsUp 37 = .ok (.getfield 23, 3) := by decide +kernel
theorem dX2_bringsUp_40 : decode cX2_bringsUp 40 = .ok (.iload_n 1, 1) := by decide +kernel
theorem dX2_bringsUp_41 : decode cX2_bringsUp 41 = .ok (.aaload, 1) := by decide +kernel
theorem dX2_bringsUp_42 : decode cX2_bringsUp 42 = .ok (.aastore, 1) := by decide +kernel
theorem dX2_bringsUp_43 : decode cX2_bringsUp 43 = .ok (.aload_n 0, 1) := by decide +kernel
theorem dX2_bringsUp_44 : decode cX2_bringsUp 44 = .ok (.getfield 23, 3) := by decide +kernel
theorem dX2_bringsUp_47 : decode cX2_bringsUp 47 = .ok (.iload_n 1, 1) := by decide +kernel
theorem dX2_bringsUp_48 : decode cX2_bringsUp 48 = .ok (.aload 5, 2) := by decide +kernel
theorem dX2_bringsUp_50 : decode cX2_bringsUp 50 = .ok (.aastore, 1) := by decide +kernel
theorem dX2_bringsUp_51 : decode cX2_bringsUp 51 = .ok (.iconst 1, 1) := by decide +kernel
theorem dX2_bringsUp_52 : decode cX2_bringsUp 52 = .ok (.ireturn, 1) := by decide +kernel
theorem dX2_bringsUp_53 : decode cX2_bringsUp 53 = .ok (.iinc 4 1, 3) := by decide +kernel
theorem dX2_bringsUp_56 : decode cX2_bringsUp 56 = .ok (.goto (-53), 3) := by decide +kernel
theorem dX2_bringsUp_59 : decode cX2_bringsUp 59 = .ok (.iconst 0, 1) := by decide +kernel
theorem dX2_bringsUp_60 : decode cX2_bringsUp 60 = .ok (.ireturn, 1) := by decide +kernel
theorem dX2_clearColumn_0 : decode cX2_clearColumn 0 = .ok (.aload_n 0, 1) := by decide +kernel
theorem dX2_clearColumn_1 : decode cX2_clearColumn 1 = .ok (.iload_n 2, 1) := by decide +kernel
theorem dX2_clearColumn_2 : decode cX2_clearColumn 2 = .ok (.iaload, 1) := by decide +kernel
theorem dX2_clearColumn_3 : decode cX2_clearColumn 3 = .ok (.istore 4, 2) := by decide +kernel
theorem dX2_clearColumn_5 : decode cX2_clearColumn 5 = .ok (.aload_n 1, 1) := by decide +kernel
theorem dX2_clearColumn_6 : decode cX2_clearColumn 6 = .ok (.iload_n 2, 1) := by decide +kernel
theorem dX2_clearColumn_7 : decode cX2_clearColumn 7 = .ok (.iaload, 1) := by decide +kernel
theorem dX2_clearColumn_8 : decode cX2_clearColumn 8 = .ok (.istore 5, 2) := by decide +kernel
theorem dX2_clearColumn_10 : decode cX2_clearColumn 10 = .ok (.iconst 0, 1) := by decide +kernel
theorem dX2_clearColumn_11 : decode cX2_clearColumn 11 = .ok (.istore 6, 2) := by decide +kernel
theorem dX2_clearColumn_13 : decode cX2_clearColumn 13 = .ok (.iload 4, 2) := by decide +kernel
theorem dX2_clearColumn_15 : decode cX2_clearColumn 15 = .ok (.ifCond .eq 46, 3) := by decide +kernel
theorem dX2_clearColumn_18 : decode cX2_clearColumn 18 = .ok (.iload 6, 2) := by decide +kernel
theorem dX2_clearColumn_20 : decode cX2_clearColumn 20 = .ok (.aload_n 0, 1) := by decide +kernel
theorem dX2_clearColumn_21 : decode cX2_clearColumn 21 = .ok (.arraylength, 1) := by decide +kernel
theorem dX2_clearColumn_22 : decode cX2_clearColumn 22 = .ok (.if_icmp .ge 39, 3) := by decide +kernel
theorem dX2_clearColumn_25 : decode cX2_clearColumn 25 = .ok (.iload 6, 2) := by decide +kernel
theorem dX2_clearColumn_27 : decode cX2_clearColumn 27 = .ok (.aload_n 1, 1) := by decide +kernel
theorem dX2_clearColumn_28 : decode cX2_clearColumn 28 = .ok (.arraylength, 1) := by decide +kernel
theorem dX2_clearColumn_29 : decode cX2_clearColumn 29 = .ok (.if_icmp .ge 32, 3) := by decide +kernel
theorem dX2_clearColumn_32 : decode cX2_clearColumn 32 = .ok (.aload_n 0, 1) := by decide +kernel
theorem dX2_clearColumn_33 : decode cX2_clearColumn 33 = .ok (.iload 6, 2) := by decide +kernel
theorem dX2_clearColumn_35 : decode cX2_clearColumn 35 = .ok (.aload_n 0, 1) := by decide +kernel
theorem dX2_clearColumn_36 : decode cX2_clearColumn 36 = .ok (.iload 6, 2) := by decide +kernel
theorem dX2_clearColumn_38 : decode cX2_clearColumn 38 = .ok (.iaload, 1) := by decide +kernel
theorem dX2_clearColumn_39 : decode cX2_clearColumn 39 = .ok (.iload 5, 2) := by decide +kernel
theorem dX2_clearColumn_41 : decode cX2_clearColumn 41 = .ok (.imul, 1) := by decide +kernel
theorem dX2_clearColumn_42 : decode cX2_clearColumn 42 = .ok (.aload_n 1, 1) := by decide +kernel
theorem dX2_clearColumn_43 : decode cX2_clearColumn 43 = .ok (.iload 6, 2) := by decide +kernel
theorem dX2_clearColumn_45 : decode cX2_clearColumn 45 = .ok (.iaload, 1) := by decide +kernel
theorem dX2_clearColumn_46 : decode cX2_clearColumn 46 = .ok (.iload 4, 2) := by decide +kernel
theorem dX2_clearColumn_48 : decode cX2_clearColumn 48 = .ok (.imul, 1) := by decide +kernel
theorem dX2_clearColumn_49 : decode cX2_clearColumn 49 = .ok (.isub, 1) := by decide +kernel
theorem dX2_clearColumn_50 : decode cX2_clearColumn 50 = .ok (.iload_n 3, 1) := by decide +kernel
theorem dX2_clearColumn_51 : decode cX2_clearColumn 51 = .ok (.invokestatic 81, 3) := by decide +kernel
theorem dX2_clearColumn_54 : decode cX2_clearColumn 54 = .ok (.iastore, 1) := by decide +kernel
theorem dX2_clearColumn_55 : decode cX2_clearColumn 55 = .ok (.iinc 6 1, 3) := by decide +kernel
theorem dX2_clearColumn_58 : decode cX2_clearColumn 58 = .ok (.goto (-45), 3) := by decide +kernel
theorem dX2_clearColumn_61 : decode cX2_clearColumn 61 = .ok (.return_, 1) := by decide +kernel
theorem dX3_init_0 : decode cX3_init 0 = .ok (.aload_n 0, 1) := by decide +kernel
theorem dX3_init_1 : decode cX3_init 1 = .ok (.invokespecial 3, 3) := by decide +kernel
theorem dX3_init_4 : decode cX3_init 4 = .ok (.aload_n 0, 1) := by decide +kernel
theorem dX3_init_5 : decode cX3_init 5 = .ok (.bipush 16, 2) := by decide +kernel
theorem dX3_init_7 : decode cX3_init 7 = .ok (.anewarray 11, 3) := by decide +kernel
theorem dX3_init_10 : decode cX3_init 10 = .ok (.putfield 13, 3) := by decide +kernel
theorem dX3_init_13 : decode cX3_init 13 = .ok (.aload_n 0, 1) := by decide +kernel
theorem dX3_init_14 : decode cX3_init 14 = .ok (.iconst 3, 1) := by decide +kernel
theorem dX3_init_15 : decode cX3_init 15 = .ok (.anewarray 11, 3) := by decide +kernel
theorem dX3_init_18 : decode cX3_init 18 = .ok (.putfield 17, 3) := by decide +kernel
theorem dX3_init_21 : decode cX3_init 21 = .ok (.iconst 0, 1) := by decide +kernel
theorem dX3_init_22 : decode cX3_init 22 = .ok (.istore_n 1, 1) := by decide +kernel
theorem dX3_init_23 : decode cX3_init 23 = .ok (.iload_n 1, 1) := by decide +kernel
theorem dX3_init_24 : decode cX3_init 24 = .ok (.bipush 16, 2) := by decide +kernel
theorem dX3_init_26 : decode cX3_init 26 = .ok (.if_icmp .ge 22, 3) := by decide +kernel
theorem dX3_init_29 : decode cX3_init 29 = .ok (.aload_n 0, 1) := by decide +kernel
theorem dX3_init_30 : decode cX3_init 30 = .ok (.getfield 13, 3) := by decide +kernel
theorem dX3_init_33 : decode cX3_init 33 = .ok (.iload_n 1, 1) := by decide +kernel
theorem dX3_init_34 : decode cX3_init 34 = .ok (.new 11, 3) := by decide +kernel
theorem dX3_init_37 : decode cX3_init 37 = .ok (.dup, 1) := by decide +kernel
theorem dX3_init_38 : decode cX3_init 38 = .ok (.invokespecial 20, 3) := by decide +kernel
theorem dX3_init_41 : decode cX3_init 41 = .ok (.aastore, 1) := by decide +kernel
theorem dX3_init_42 : decode cX3_init 42 = .ok (.iinc 1 1, 3) := by decide +kernel
theorem dX3_init_45 : decode cX3_init 45 = .ok (.goto (-22), 3) := by decide +kernel
theorem dX3_init_48 : decode cX3_init 48 = .ok (.iconst 0, 1) := by decide +kernel
theorem dX3_init_49 : decode cX3_init 49 = .ok (.istore_n 1, 1) := by decide +kernel
theorem dX3_init_50 : decode cX3_init 50 = .ok (.iload_n 1, 1) := by decide +kernel
theorem dX3_init_51 : decode cX3_init 51 = .ok (.iconst 3, 1) := by decide +kernel
theorem dX3_init_52 : decode cX3_init 52 = .ok (.if_icmp .ge 22, 3) := by decide +kernel
theorem dX3_init_55 : decode cX3_init 55 = .ok (.aload_n 0, 1) := by decide +kernel
theorem dX3_init_56 : decode cX3_init 56 = .ok (.getfield 17, 3) := by decide +kernel
theorem dX3_init_59 : decode cX3_init 59 = .ok (.iload_n 1, 1) := by decide +kernel
theorem dX3_init_60 : decode cX3_init 60 = .ok (.new 11, 3) := by decide +kernel
theorem dX3_init_63 : decode cX3_init 63 = .ok (.dup, 1) := by decide +kernel
theorem dX3_init_64 : decode cX3_init 64 = .ok (.invokespecial 20, 3) := by decide +kernel
theorem dX3_init_67 : decode cX3_init 67 = .ok (.aastore, 1) := by decide +kernel
theorem dX3_init_68 : decode cX3_init 68 = .ok (.iinc 1 1, 3) := by decide +kernel
theorem dX3_init_71 : decode cX3_init 71 = .ok (.goto (-21), 3) := by decide +kernel
theorem dX3_init_74 : decode cX3_init 74 = .ok (.return_, 1) := by decide +kernel
theorem dX3_clear_0 : decode cX3_clear 0 = .ok (.aload_n 0, 1) := by decide +kernel
theorem dX3_clear_1 : decode cX3_clear 1 = .ok (.iconst 0, 1) := by decide +kernel
theorem dX3_clear_2 : decode cX3_clear 2 = .ok (.putfield 21, 3) := by decide +kernel
theorem dX3_clear_5 : decode cX3_clear 5 = .ok (.aload_n 0, 1) := by decide +kernel
theorem dX3_clear_6 : decode cX3_clear 6 = .ok (.iconst 0, 1) := by decide +kernel
theorem dX3_clear_7 : decode cX3_clear 7 = .ok (.putfield 25, 3) := by decide +kernel
theorem dX3_clear_10 : decode cX3_clear 10 = .ok (.aload_n 0, 1) := by decide +kernel
theorem dX3_clear_11 : decode cX3_clear 11 = .ok (.iconst 0, 1) := by decide +kernel
theorem dX3_clear_12 : decode cX3_clear 12 = .ok (.putfield 28, 3) := by decide +kernel
theorem dX3_clear_15 : decode cX3_clear 15 = .ok (.return_, 1) := by decide +kernel
theorem dX3_keep_0 : decode cX3_keep 0 = .ok (.aload_n 0, 1) := by decide +kernel
theorem dX3_keep_1 : decode cX3_keep 1 = .ok (.getfield 13, 3) := by decide +kernel
theorem dX3_keep_4 : decode cX3_keep 4 = .ok (.aload_n 0, 1) := by decide +kernel
theorem dX3_keep_5 : decode cX3_keep 5 = .ok (.getfield 28, 3) := by decide +kernel
theorem dX3_keep_8 : decode cX3_keep 8 = .ok (.bipush 15, 2) := by decide +kernel
theorem dX3_keep_10 : decode cX3_keep 10 = .ok (.iand, 1) := by decide +kernel
theorem dX3_keep_11 : decode cX3_keep 11 = .ok (.aaload, 1) := by decide +kernel
theorem dX3_keep_12 : decode cX3_keep 12 = .ok (.aload_n 1, 1) := by decide +kernel
theorem dX3_keep_13 : decode cX3_keep 13 = .ok (.invokevirtual 31, 3) := by decide +kernel
theorem dX3_keep_16 : decode cX3_keep 16 = .ok (.aload_n 0, 1) := by decide +kernel
theorem dX3_keep_17 : decode cX3_keep 17 = .ok (.aload_n 0, 1) := by decide +kernel
theorem dX3_keep_18 : decode cX3_keep 18 = .ok (.getfield 28, 3) := by decide +kernel
theorem dX3_keep_21 : decode cX3_keep 21 = .ok (.iconst 1, 1) := by decide +kernel
theorem dX3_keep_22 : decode cX3_keep 22 = .ok (.iadd, 1) := by decide +kernel
theorem dX3_keep_23 : decode cX3_keep 23 = .ok (.bipush 15, 2) := by decide +kernel
theorem dX3_keep_25 : decode cX3_keep 25 = .ok (.iand, 1) := by decide +kernel
theorem dX3_keep_26 : decode cX3_keep 26 = .ok (.putfield 28, 3) := by decide +kernel
theorem dX3_keep_29 : decode cX3_keep 29 = .ok (.aload_n 0, 1) := by decide +kernel
theorem dX3_keep_30 : decode cX3_keep 30 = .ok (.aload_n 0, 1) := by decide +kernel
theorem dX3_keep_31 : decode cX3_keep 31 = .ok (.getfield 21, 3) := by decide +kernel
theorem dX3_keep_34 : decode cX3_keep 34 = .ok (.iconst 1, 1) := by decide +kernel
theorem dX3_keep_35 : decode cX3_keep 35 = .ok (.iadd, 1) := by decide +kernel
theorem dX3_keep_36 : decode cX3_keep 36 = .ok (.bipush 16, 2) := by decide +kernel
theorem dX3_keep_38 : decode cX3_keep 38 = .ok (.invokestatic 35, 3) := by decide +kernel
theorem dX3_keep_41 : decode cX3_keep 41 = .ok (.putfield 21, 3) := by decide +kernel
theorem dX3_keep_44 : decode cX3_keep 44 = .ok (.return_, 1) := by decide +kernel
theorem dX3_giveLatest_0 : decode cX3_giveLatest 0 = .ok (.aload_n 0, 1) := by decide +kernel
theorem dX3_giveLatest_1 : decode cX3_giveLatest 1 = .ok (.getfield 21, 3) := by decide +kernel
theorem dX3_giveLatest_4 : decode cX3_giveLatest 4 = .ok (.ifCond .ne 5, 3) := by decide +kernel
theorem dX3_giveLatest_7 : decode cX3_giveLatest 7 = .ok (.iconst 0, 1) := by decide +kernel
theorem dX3_giveLatest_8 : decode cX3_giveLatest 8 = .ok (.ireturn, 1) := by decide +kernel
theorem dX3_giveLatest_9 : decode cX3_giveLatest 9 = .ok (.aload_n 0, 1) := by decide +kernel
theorem dX3_giveLatest_10 : decode cX3_giveLatest 10 = .ok (.dup, 1) := by decide +kernel
theorem dX3_giveLatest_11 : decode cX3_giveLatest 11 = .ok (.getfield 21, 3) := by decide +kernel
theorem dX3_giveLatest_14 : decode cX3_giveLatest 14 = .ok (.iconst 1, 1) := by decide +kernel
theorem dX3_giveLatest_15 : decode cX3_giveLatest 15 = .ok (.isub, 1) := by decide +kernel
theorem dX3_giveLatest_16 : decode cX3_giveLatest 16 = .ok (.putfield 21, 3) := by decide +kernel
theorem dX3_giveLatest_19 : decode cX3_giveLatest 19 = .ok (.aload_n 0, 1) := by decide +kernel
theorem dX3_giveLatest_20 : decode cX3_giveLatest 20 = .ok (.aload_n 0, 1) := by decide +kernel
theorem dX3_giveLatest_21 : decode cX3_giveLatest 21 = .ok (.getfield 28, 3) := by decide +kernel
theorem dX3_giveLatest_24 : decode cX3_giveLatest 24 = .ok (.iconst 1, 1) := by decide +kernel
theorem dX3_giveLatest_25 : decode cX3_giveLatest 25 = .ok (.isub, 1) := by decide +kernel
theorem dX3_giveLatest_26 : decode cX3_giveLatest 26 = .ok (.bipush 15, 2) := by decide +kernel
theorem dX3_giveLatest_28 : decode cX3_giveLatest 28 = .ok (.iand, 1) := by decide +kernel
theorem dX3_giveLatest_29 : decode cX3_giveLatest 29 = .ok (.putfield 28, 3) := by decide +kernel
theorem dX3_giveLatest_32 : decode cX3_giveLatest 32 = .ok (.aload_n 1, 1) := by decide +kernel
theorem dX3_giveLatest_33 : decode cX3_giveLatest 33 = .ok (.aload_n 0, 1) := by decide +kernel
theorem dX3_giveLatest_34 : decode cX3_giveLatest 34 = .ok (.getfield 13, 3) := by decide +kernel
theorem dX3_giveLatest_37 : decode cX3_giveLatest 37 = .ok (.aload_n 0, 1) := by decide +kernel
theorem dX3_giveLatest_38 : decode cX3_giveLatest 38 = .ok (.getfield 28, 3) := by decide +kernel
theorem dX3_giveLatest_41 : decode cX3_giveLatest 41 = .ok (.aaload, 1) := by decide +kernel
theorem dX3_giveLatest_42 : decode cX3_giveLatest 42 = .ok (.invokevirtual 31, 3) := by decide +kernel
theorem dX3_giveLatest_45 : decode cX3_giveLatest 45 = .ok (.iconst 1, 1) := by decide +kernel
theorem dX3_giveLatest_46 : decode cX3_giveLatest 46 = .ok (.ireturn, 1) := by decide +kernel
theorem dX3_setMark_0 : decode cX3_setMark 0 = .ok (.aload_n 0, 1) := by decide +kernel
theorem dX3_setMark_1 : decode cX3_setMark 1 = .ok (.getfield 25, 3) := by decide +kernel
theorem dX3_setMark_4 : decode cX3_setMark 4 = .ok (.iconst 3, 1) := by decide +kernel
theorem dX3_setMark_5 : decode cX3_setMark 5 = .ok (.if_icmp .lt 5, 3) := by decide +kernel
theorem dX3_setMark_8 : decode cX3_setMark 8 = .ok (.iconst (-1), 1) := by decide +kernel
theorem dX3_setMark_9 : decode cX3_setMark 9 = .ok (.ireturn, 1) := by decide +kernel
theorem dX3_setMark_10 : decode cX3_setMark 10 = .ok (.aload_n 0, 1) := by decide +kernel
theorem dX3_setMark_11 : decode cX3_setMark 11 = .ok (.getfield 17, 3) := by decide +kernel
theorem dX3_setMark_14 : decode cX3_setMark 14 = .ok (.aload_n 0, 1) := by decide +kernel
theorem dX3_setMark_15 : decode cX3_setMark 15 = .ok (.getfield 25, 3) := by decide +kernel
theorem dX3_setMark_18 : decode cX3_setMark 18 = .ok (.aaload, 1) := by decide +kernel
theorem dX3_setMark_19 : decode cX3_setMark 19 = .ok (.aload_n 1, 1) := by decide +kernel
theorem dX3_setMark_20 : decode cX3_setMark 20 = .ok (.invokevirtual 31, 3) := by decide +kernel
theorem dX3_setMark_23 : decode cX3_setMark 23 = .ok (.aload_n 0, 1) := by decide +kernel
theorem dX3_setMark_24 : decode cX3_setMark 24 = .ok (.dup, 1) := by decide +kernel
theorem dX3_setMark_25 : decode cX3_setMark 25 = .ok (.getfield 25, 3) := by decide +kernel
theorem dX3_setMark_28 : decode cX3_setMark 28 = .ok (.iconst 1, 1) := by decide +kernel
theorem dX3_setMark_29 : decode cX3_setMark 29 = .ok (.iadd, 1) := by decide +kernel
theorem dX3_setMark_30 : decode cX3_setMark 30 = .ok (.putfield 25, 3) := by decide +kernel
theorem dX3_setMark_33 : decode cX3_setMark 33 = .ok (.aload_n 0, 1) := by decide +kernel
theorem dX3_setMark_34 : decode cX3_setMark 34 = .ok (.getfield 25, 3) := by decide +kernel
theorem dX3_setMark_37 : decode cX3_setMark 37 = .ok (.iconst 1, 1) := by decide +kernel
theorem dX3_setMark_38 : decode cX3_setMark 38 = .ok (.isub, 1) := by decide +kernel
theorem dX3_setMark_39 : decode cX3_setMark 39 = .ok (.ireturn, 1) := by decide +kernel
theorem dX3_giveMarked_0 : decode cX3_giveMarked 0 = .ok (.iload_n 1, 1) := by decide +kernel
theorem dX3_giveMarked_1 : decode cX3_giveMarked 1 = .ok (.ifCond .lt 11, 3) := by decide +kernel
theorem dX3_giveMarked_4 : decode cX3_giveMarked 4 = .ok (.iload_n 1, 1) := by decide +kernel
theorem dX3_giveMarked_5 : decode cX3_giveMarked 5 = .ok (.aload_n 0, 1) := by decide +kernel
theorem dX3_giveMarked_6 : decode cX3_giveMarked 6 = .ok (.getfield 25, 3) := by decide +kernel
theorem dX3_giveMarked_9 : decode cX3_giveMarked 9 = .ok (.if_icmp .lt 5, 3) := by decide +kernel
theorem dX3_giveMarked_12 : decode cX3_giveMarked 12 = .ok (.iconst 0, 1) := by decide +kernel
theorem dX3_giveMarked_13 : decode cX3_giveMarked 13 = .ok (.ireturn, 1) := by decide +kernel
theorem dX3_giveMarked_14 : decode cX3_giveMarked 14 = .ok (.aload_n 2, 1) := by decide +kernel
theorem dX3_giveMarked_15 : decode cX3_giveMarked 15 = .ok (.aload_n 0, 1) := by decide +kernel
theorem dX3_giveMarked_16 : decode cX3_giveMarked 16 = .ok (.getfield 17, 3) := by decide +kernel
theorem dX3_giveMarked_19 : decode cX3_giveMarked 19 = .ok (.iload_n 1, 1) := by decide +kernel
theorem dX3_giveMarked_20 : decode cX3_giveMarked 20 = .ok (.aaload, 1) := by decide +kernel
theorem dX3_giveMarked_21 : decode cX3_giveMarked 21 = .ok (.invokevirtual 31, 3) := by decide +kernel
theorem dX3_giveMarked_24 : decode cX3_giveMarked 24 = .ok (.aload_n 0, 1) := by decide +kernel
theorem dX3_giveMarked_25 : decode cX3_giveMarked 25 = .ok (.iconst 0, 1) := by decide +kernel
theorem dX3_giveMarked_26 : decode cX3_giveMarked 26 = .ok (.putfield 21, 3) := by decide +kernel
theorem dX3_giveMarked_29 : decode cX3_giveMarked 29 = .ok (.iconst 1, 1) := by decide +kernel
theorem dX3_giveMarked_30 : decode cX3_giveMarked 30 = .ok (.ireturn, 1) := by decide +kernel
theorem dX4_init_0 : decode cX4_init 0 = .ok (.aload_n 0, 1) := by decide +kernel
theorem dX4_init_1 : decode cX4_init 1 = .ok (.invokespecial 3, 3) := by decide +kernel
theorem dX4_init_4 : decode cX4_init 4 = .ok (.aload_n 0, 1) := by decide +kernel
theorem dX4_init_5 : decode cX4_init 5 = .ok (.bipush (-2), 2) := by decide +kernel
theorem dX4_init_7 : decode cX4_init 7 = .ok (.putfield 9, 3) := by decide +kernel
theorem dX4_init_10 : decode cX4_init 10 = .ok (.return_, 1) := by decide +kernel
theorem dX4_begin_0 : decode cX4_begin 0 = .ok (.aload_n 0, 1) := by decide +kernel
theorem dX4_begin_1 : decode cX4_begin 1 = .ok (.lload_n 1, 1) := by decide +kernel
theorem dX4_begin_2 : decode cX4_begin 2 = .ok (.putfield 15, 3) := by decide +kernel
theorem dX4_begin_5 : decode cX4_begin 5 = .ok (.aload_n 0, 1) := by decide +kernel
theorem dX4_begin_6 : decode cX4_begin 6 = .ok (.iload_n 3, 1) := by decide +kernel
theorem dX4_begin_7 : decode cX4_begin 7 = .ok (.putfield 19, 3) := by decide +kernel
theorem dX4_begin_10 : decode cX4_begin 10 = .ok (.aload_n 0, 1) := by decide +kernel
theorem dX4_begin_11 : decode cX4_begin 11 = .ok (.bipush (-2), 2) := by decide +kernel
theorem dX4_begin_13 : decode cX4_begin 13 = .ok (.putfield 9, 3) := by decide +kernel
theorem dX4_begin_16 : decode cX4_begin 16 = .ok (.aload_n 0, 1) := by decide +kernel
theorem dX4_begin_17 : decode cX4_begin 17 = .ok (.iconst 0, 1) := by decide +kernel
theorem dX4_begin_18 : decode cX4_begin 18 = .ok (.putfield 22, 3) := by decide +kernel
theorem dX4_begin_21 : decode cX4_begin 21 = .ok (.return_, 1) := by decide +kernel
theorem dX4_become_0 : decode cX4_become 0 = .ok (.aload_n 0, 1) := by decide +kernel
theorem dX4_become_1 : decode cX4_become 1 = .ok (.aload_n 1, 1) := by decide +kernel
theorem dX4_become_2 : decode cX4_become 2 = .ok (.getfield 15, 3) := by decide +kernel
theorem dX4_become_5 : decode cX4_become 5 = .ok (.putfield 15, 3) := by decide +kernel
theorem dX4_become_8 : decode cX4_become 8 = .ok (.aload_n 0, 1) := by decide +kernel
theorem dX4_become_9 : decode cX4_become 9 = .ok (.aload_n 1, 1) := by decide +kernel
theorem dX4_become_10 : decode cX4_become 10 = .ok (.getfield 19, 3) := by decide +kernel
theorem dX4_become_13 : decode cX4_become 13 = .ok (.putfield 19, 3) := by decide +kernel
theorem dX4_become_16 : decode cX4_become 16 = .ok (.aload_n 0, 1) := by decide +kernel
theorem dX4_become_17 : decode cX4_become 17 = .ok (.aload_n 1, 1) := by decide +kernel
theorem dX4_become_18 : decode cX4_become 18 = .ok (.getfield 9, 3) := by decide +kernel
theorem dX4_become_21 : decode cX4_become 21 = .ok (.putfield 9, 3) := by decide +kernel
theorem dX4_become_24 : decode cX4_become 24 = .ok (.aload_n 0, 1) := by decide +kernel
theorem dX4_become_25 : decode cX4_become 25 = .ok (.aload_n 1, 1) := by decide +kernel
theorem dX4_become_26 : decode cX4_become 26 = .ok (.getfield 22, 3) := by decide +kernel
theorem dX4_become_29 : decode cX4_become 29 = .ok (.putfield 22, 3) := by decide +kernel
theorem dX4_become_32 : decode cX4_become 32 = .ok (.return_, 1) := by decide +kernel
theorem dX4_seedBehind_0 : decode cX4_seedBehind 0 = .ok (.bipush 75, 2) := by decide +kernel
theorem dX4_seedBehind_2 : decode cX4_seedBehind 2 = .ok (.iload_n 0, 1) := by decide +kernel
theorem dX4_seedBehind_3 : decode cX4_seedBehind 3 = .ok (.imul, 1) := by decide +kernel
theorem dX4_seedBehind_4 : decode cX4_seedBehind 4 = .ok (.bipush 74, 2) := by decide +kernel
theorem dX4_seedBehind_6 : decode cX4_seedBehind 6 = .ok (.iadd, 1) := by decide +kernel
theorem dX4_seedBehind_7 : decode cX4_seedBehind 7 = .ok (.ldc 25, 2) := by decide +kernel
theorem dX4_seedBehind_9 : decode cX4_seedBehind 9 = .ok (.irem, 1) := by decide +kernel
theorem dX4_seedBehind_10 : decode cX4_seedBehind 10 = .ok (.ireturn, 1) := by decide +kernel
theorem dX4_passAt_0 : decode cX4_passAt 0 = .ok (.lload_n 0, 1) := by decide +kernel
theorem dX4_passAt_1 : decode cX4_passAt 1 = .ok (.iconst 4, 1) := by decide +kernel
theorem dX4_passAt_2 : decode cX4_passAt 2 = .ok (.iload_n 2, 1) := by decide +kernel
theorem dX4_passAt_3 : decode cX4_passAt 3 = .ok (.imul, 1) := by decide +kernel
theorem dX4_passAt_4 : decode cX4_passAt 4 = .ok (.lushr, 1) := by decide +kernel
theorem dX4_passAt_5 : decode cX4_passAt 5 = .ok (.ldc2_w 26, 3) := by decide +kernel
theorem dX4_passAt_8 : decode cX4_passAt 8 = .ok (.land, 1) := by decide +kernel
theorem dX4_passAt_9 : decode cX4_passAt 9 = .ok (.l2i, 1) := by decide +kernel
theorem dX4_passAt_10 : decode cX4_passAt 10 = .ok (.iconst 1, 1) := by decide +kernel
theorem dX4_passAt_11 : decode cX4_passAt 11 = .ok (.isub, 1) := by decide +kernel
theorem dX4_passAt_12 : decode cX4_passAt 12 = .ok (.ireturn, 1) := by decide +kernel
theorem dX4_letGo_0 : decode cX4_letGo 0 = .ok (.iconst 0, 1) := by decide +kernel
theorem dX4_letGo_1 : decode cX4_letGo 1 = .ok (.istore_n 3, 1) := by decide +kernel
theorem dX4_letGo_2 : decode cX4_letGo 2 = .ok (.iconst 0, 1) := by decide +kernel
theorem dX4_letGo_3 : decode cX4_letGo 3 = .ok (.istore 4, 2) := by decide +kernel
theorem dX4_letGo_5 : decode cX4_letGo 5 = .ok (.iload 4, 2) := by decide +kernel
theorem dX4_letGo_7 : decode cX4_letGo 7 = .ok (.aload_n 1, 1) := by decide +kernel
theorem dX4_letGo_8 : decode cX4_letGo 8 = .ok (.getfield 28, 3) := by decide +kernel
theorem dX4_letGo_11 : decode cX4_letGo 11 = .ok (.if_icmp .ge 46, 3) := by decide +kernel
theorem dX4_letGo_14 : decode cX4_letGo 14 = .ok (.aload_n 0, 1) := by decide +kernel
theorem dX4_letGo_15 : decode cX4_letGo 15 = .ok (.getfield 15, 3) := by decide +kernel
theorem dX4_letGo_18 : decode cX4_letGo 18 = .ok (.iload 4, 2) := by decide +kernel
theorem dX4_letGo_20 : decode cX4_letGo 20 = .ok (.invokestatic 33, 3) := by decide +kernel
theorem dX4_letGo_23 : decode cX4_letGo 23 = .ok (.istore 5, 2) := by decide +kernel
theorem dX4_letGo_25 : decode cX4_letGo 25 = .ok (.iload 5, 2) := by decide +kernel
theorem dX4_letGo_27 : decode cX4_letGo 27 = .ok (.iconst (-1), 1) := by decide +kernel
theorem dX4_letGo_28 : decode cX4_letGo 28 = .ok (.if_icmp .eq 23, 3) := by decide +kernel
theorem dX4_letGo_31 : decode cX4_letGo 31 = .ok (.aload_n 1, 1) := by decide +kernel
theorem dX4_letGo_32 : decode cX4_letGo 32 = .ok (.getfield 37, 3) := by decide +kernel
theorem dX4_letGo_35 : decode cX4_letGo 35 = .ok (.iload 4, 2) := by decide +kernel
theorem dX4_letGo_37 : decode cX4_letGo 37 = .ok (.iaload, 1) := by decide +kernel
theorem dX4_letGo_38 : decode cX4_letGo 38 = .ok (.iload_n 2, 1) := by decide +kernel
theorem dX4_letGo_39 : decode cX4_letGo 39 = .ok (.if_icmp .ne 12, 3) := by decide +kernel
theorem dX4_letGo_42 : decode cX4_letGo 42 = .ok (.iload_n 3, 1) := by decide +kernel
theorem dX4_letGo_43 : decode cX4_letGo 43 = .ok (.iconst 1, 1) := by decide +kernel
theorem dX4_letGo_44 : decode cX4_letGo 44 = .ok (.iload 5, 2) := by decide +kernel
theorem dX4_letGo_46 : decode cX4_letGo 46 = .ok (.iconst 2, 1) := by decide +kernel
theorem dX4_letGo_47 : decode cX4_letGo 47 = .ok (.idiv, 1) := by decide +kernel
theorem dX4_letGo_48 : decode cX4_letGo 48 = .ok (.ishl, 1) := by decide +kernel
theorem dX4_letGo_49 : decode cX4_letGo 49 = .ok (.ior, 1) := by decide +kernel
theorem dX4_letGo_50 : decode cX4_letGo 50 = .ok (.istore_n 3, 1) := by decide +kernel
theorem dX4_letGo_51 : decode cX4_letGo 51 = .ok (.iinc 4 1, 3) := by decide +kernel
theorem dX4_letGo_54 : decode cX4_letGo 54 = .ok (.goto (-49), 3) := by decide +kernel
theorem dX4_letGo_57 : decode cX4_letGo 57 = .ok (.iconst 0, 1) := by decide +kernel
theorem dX4_letGo_58 : decode cX4_letGo 58 = .ok (.istore 4, 2) := by decide +kernel
theorem dX4_letGo_60 : decode cX4_letGo 60 = .ok (.iload 4, 2) := by decide +kernel
theorem dX4_letGo_62 : decode cX4_letGo 62 = .ok (.aload_n 1, 1) := by decide +kernel
theorem dX4_letGo_63 : decode cX4_letGo 63 = .ok (.getfield 28, 3) := by decide +kernel
theorem dX4_letGo_66 : decode cX4_letGo 66 = .ok (.if_icmp .ge 58, 3) := by decide +kernel
theorem dX4_letGo_69 : decode cX4_letGo 69 = .ok (.aload_n 0, 1) := by decide +kernel
theorem dX4_letGo_70 : decode cX4_letGo 70 = .ok (.getfield 15, 3) := by decide +kernel
theorem dX4_letGo_73 : decode cX4_letGo 73 = .ok (.iload 4, 2) := by decide +kernel
theorem dX4_letGo_75 : decode cX4_letGo 75 = .ok (.invokestatic 33, 3) := by decide +kernel
theorem dX4_letGo_78 : decode cX4_letGo 78 = .ok (.istore 5, 2) := by decide +kernel
theorem dX4_letGo_80 : decode cX4_letGo 80 = .ok (.iload 5, 2) := by decide +kernel
theorem dX4_letGo_82 : decode cX4_letGo 82 = .ok (.iconst (-1), 1) := by decide +kernel
theorem dX4_letGo_83 : decode cX4_letGo 83 = .ok (.if_icmp .eq 35, 3) := by decide +kernel
theorem dX4_letGo_86 : decode cX4_letGo 86 = .ok (.iload_n 3, 1) := by decide +kernel
theorem dX4_letGo_87 : decode cX4_letGo 87 = .ok (.iload 5, 2) := by decide +kernel
theorem dX4_letGo_89 : decode cX4_letGo 89 = .ok (.iconst 2, 1) := by decide +kernel
theorem dX4_letGo_90 : decode cX4_letGo 90 = .ok (.idiv, 1) := by decide +kernel
theorem dX4_letGo_91 : decode cX4_letGo 91 = .ok (.ishr, 1) := by decide +kernel
theorem dX4_letGo_92 : decode cX4_letGo 92 = .ok (.iconst 1, 1) := by decide +kernel
theorem dX4_letGo_93 : decode cX4_letGo 93 = .ok (.iand, 1) := by decide +kernel
theorem dX4_letGo_94 : decode cX4_letGo 94 = .ok (.ifCond .eq 24, 3) := by decide +kernel
theorem dX4_letGo_97 : decode cX4_letGo 97 = .ok (.aload_n 0, 1) := by decide +kernel
theorem dX4_letGo_98 : decode cX4_letGo 98 = .ok (.dup, 1) := by decide +kernel
theorem dX4_letGo_99 : decode cX4_letGo 99 = .ok (.getfield 15, 3) := by decide +kernel
theorem dX4_letGo_102 : decode cX4_letGo 102 = .ok (.ldc2_w 26, 3) := by decide +kernel
theorem dX4_letGo_105 : decode cX4_letGo 105 = .ok (.iconst 4, 1) := by decide +kernel
theorem dX4_letGo_106 : decode cX4_letGo 106 = .ok (.iload 4, 2) := by decide +kernel
theorem dX4_letGo_108 : decode cX4_letGo 108 = .ok (.imul, 1) := by decide +kernel
theorem dX4_letGo_109 : decode cX4_letGo 109 = .ok (.lshl, 1) := by decide +kernel
theorem dX4_letGo_110 : decode cX4_letGo 110 = .ok (.ldc2_w 41, 3) := by decide +kernel
theorem dX4_letGo_113 : decode cX4_letGo 113 = .ok (.lxor, 1) := by decide +kernel
theorem dX4_letGo_114 : decode cX4_letGo 114 = .ok (.land, 1) := by decide +kernel
theorem dX4_letGo_115 : decode cX4_letGo 115 = .ok (.putfield 15, 3) := by decide +kernel
theorem dX4_letGo_118 : decode cX4_letGo 118 = .ok (.iinc 4 1, 3) := by decide +kernel
theorem dX4_letGo_121 : decode cX4_letGo 121 = .ok (.goto (-61), 3) := by decide +kernel
theorem dX4_letGo_124 : decode cX4_letGo 124 = .ok (.aload_n 0, 1) := by decide +kernel
theorem dX4_letGo_125 : decode cX4_letGo 125 = .ok (.iload_n 2, 1) := by decide +kernel
theorem dX4_letGo_126 : decode cX4_letGo 126 = .ok (.putfield 9, 3) := by decide +kernel
theorem dX4_letGo_129 : decode cX4_letGo 129 = .ok (.return_, 1) := by decide +kernel
theorem dX4_turnOver_0 : decode cX4_turnOver 0 = .ok (.iconst 2, 1) := by decide +kernel
theorem dX4_turnOver_1 : decode cX4_turnOver 1 = .ok (.iload_n 1, 1) := by decide +kernel
theorem dX4_turnOver_2 : decode cX4_turnOver 2 = .ok (.imul, 1) := by decide +kernel
theorem dX4_turnOver_3 : decode cX4_turnOver 3 = .ok (.iconst 1, 1) := by decide +kernel
theorem dX4_turnOver_4 : decode cX4_turnOver 4 = .ok (.iadd, 1) := by decide +kernel
theorem dX4_turnOver_5 : decode cX4_turnOver 5 = .ok (.iconst 2, 1) := by decide +kernel
theorem dX4_turnOver_6 : decode cX4_turnOver 6 = .ok (.iload_n 1, 1) := by decide +kernel
theorem dX4_turnOver_7 : decode cX4_turnOver 7 = .ok (.imul, 1) := by decide +kernel
theorem dX4_turnOver_8 : decode cX4_turnOver 8 = .ok (.iconst 2, 1) := by decide +kernel
theorem dX4_turnOver_9 : decode cX4_turnOver 9 = .ok (.iadd, 1) := by decide +kernel
theorem dX4_turnOver_10 : decode cX4_turnOver 10 = .ok (.ixor, 1) := by decide +kernel
theorem dX4_turnOver_11 : decode cX4_turnOver 11 = .ok (.i2l, 1) := by decide +kernel
theorem dX4_turnOver_12 : decode cX4_turnOver 12 = .ok (.lstore_n 2, 1) := by decide +kernel
theorem dX4_turnOver_13 : decode cX4_turnOver 13 = .ok (.iconst 0, 1) := by decide +kernel
theorem dX4_turnOver_14 : decode cX4_turnOver 14 = .ok (.istore 4, 2) := by decide +kernel
theorem dX4_turnOver_16 : decode cX4_turnOver 16 = .ok (.iload 4, 2) := by decide +kernel
theorem dX4_turnOver_18 : decode cX4_turnOver 18 = .ok (.bipush 14, 2) := by decide +kernel
theorem dX4_turnOver_20 : decode cX4_turnOver 20 = .ok (.if_icmp .ge 49, 3) := by decide +kernel
theorem dX4_turnOver_23 : decode cX4_turnOver 23 = .ok (.aload_n 0, 1) := by decide +kernel
theorem dX4_turnOver_24 : decode cX4_turnOver 24 = .ok (.getfield 15, 3) := by decide +kernel
theorem dX4_turnOver_27 : decode cX4_turnOver 27 = .ok (.iload 4, 2) := by decide +kernel
theorem dX4_turnOver_29 : decode cX4_turnOver 29 = .ok (.invokestatic 33, 3) := by decide +kernel
theorem dX4_turnOver_32 : decode cX4_turnOver 32 = .ok (.istore 5, 2) := by decide +kernel
theorem dX4_turnOver_34 : decode cX4_turnOver 34 = .ok (.iload 5, 2) := by decide +kernel
theorem dX4_turnOver_36 : decode cX4_turnOver 36 = .ok (.iconst (-1), 1) := by decide +kernel
theorem dX4_turnOver_37 : decode cX4_turnOver 37 = .ok (.if_icmp .eq 26, 3) := by decide +kernel
theorem dX4_turnOver_40 : decode cX4_turnOver 40 = .ok (.iload 5, 2) := by decide +kernel
theorem dX4_turnOver_42 : decode cX4_turnOver 42 = .ok (.iconst 2, 1) := by decide +kernel
theorem dX4_turnOver_43 : decode cX4_turnOver 43 = .ok (.idiv, 1) := by decide +kernel
theorem dX4_turnOver_44 : decode cX4_turnOver 44 = .ok (.iload_n 1, 1) := by decide +kernel
theorem dX4_turnOver_45 : decode cX4_turnOver 45 = .ok (.if_icmp .ne 18, 3) := by decide +kernel
theorem dX4_turnOver_48 : decode cX4_turnOver 48 = .ok (.aload_n 0, 1) := by decide +kernel
theorem dX4_turnOver_49 : decode cX4_turnOver 49 = .ok (.dup, 1) := by decide +kernel
theorem dX4_turnOver_50 : decode cX4_turnOver 50 = .ok (.getfield 15, 3) := by decide +kernel
theorem dX4_turnOver_53 : decode cX4_turnOver 53 = .ok (.lload_n 2, 1) := by decide +kernel
theorem dX4_turnOver_54 : decode cX4_turnOver 54 = .ok (.iconst 4, 1) := by decide +kernel
theorem dX4_turnOver_55 : decode cX4_turnOver 55 = .ok (.iload 4, 2) := by decide +kernel
theorem dX4_turnOver_57 : decode cX4_turnOver 57 = .ok (.imul, 1) := by decide +kernel
theorem dX4_turnOver_58 : decode cX4_turnOver 58 = .ok (.lshl, 1) := by decide +kernel
theorem dX4_turnOver_59 : decode cX4_turnOver 59 = .ok (.lxor, 1) := by decide +kernel
theorem dX4_turnOver_60 : decode cX4_turnOver 60 = .ok (.putfield 15, 3) := by decide +kernel
theorem dX4_turnOver_63 : decode cX4_turnOver 63 = .ok (.iinc 4 1, 3) := by decide +kernel
theorem dX4_turnOver_66 : decode cX4_turnOver 66 = .ok (.goto (-50), 3) := by decide +kernel
theorem dX4_turnOver_69 : decode cX4_turnOver 69 = .ok (.aload_n 0, 1) := by decide +kernel
theorem dX4_turnOver_70 : decode cX4_turnOver 70 = .ok (.dup, 1) := by decide +kernel
theorem dX4_turnOver_71 : decode cX4_turnOver 71 = .ok (.getfield 19, 3) := by decide +kernel
theorem dX4_turnOver_74 : decode cX4_turnOver 74 = .ok (.iconst 1, 1) := by decide +kernel
theorem dX4_turnOver_75 : decode cX4_turnOver 75 = .ok (.iload_n 1, 1) := by decide +kernel
theorem dX4_turnOver_76 : decode cX4_turnOver 76 = .ok (.ishl, 1) := by decide +kernel
theorem dX4_turnOver_77 : decode cX4_turnOver 77 = .ok (.ixor, 1) := by decide +kernel
theorem dX4_turnOver_78 : decode cX4_turnOver 78 = .ok (.putfield 19, 3) := by decide +kernel
theorem dX4_turnOver_81 : decode cX4_turnOver 81 = .ok (.return_, 1) := by decide +kernel
theorem dX5_init_0 : decode cX5_init 0 = .ok (.aload_n 0, 1) := by decide +kernel
theorem dX5_init_1 : decode cX5_init 1 = .ok (.invokespecial 3, 3) := by decide +kernel
theorem dX5_init_4 : decode cX5_init 4 = .ok (.aload_n 0, 1) := by decide +kernel
theorem dX5_init_5 : decode cX5_init 5 = .ok (.new 9, 3) := by decide +kernel
theorem dX5_init_8 : decode cX5_init 8 = .ok (.dup, 1) := by decide +kernel
theorem dX5_init_9 : decode cX5_init 9 = .ok (.invokespecial 11, 3) := by decide +kernel
theorem dX5_init_12 : decode cX5_init 12 = .ok (.putfield 12, 3) := by decide +kernel
theorem dX5_init_15 : decode cX5_init 15 = .ok (.aload_n 0, 1) := by decide +kernel
theorem dX5_init_16 : decode cX5_init 16 = .ok (.new 18, 3) := by decide +kernel
theorem dX5_init_19 : decode cX5_init 19 = .ok (.dup, 1) := by decide +kernel
theorem dX5_init_20 : decode cX5_init 20 = .ok (.invokespecial 20, 3) := by decide +kernel
theorem dX5_init_23 : decode cX5_init 23 = .ok (.putfield 21, 3) := by decide +kernel
theorem dX5_init_26 : decode cX5_init 26 = .ok (.return_, 1) := by decide +kernel
theorem dX5_reads_0 : decode cX5_reads 0 = .ok (.aload_n 0, 1) := by decide +kernel
theorem dX5_reads_1 : decode cX5_reads 1 = .ok (.getfield 12, 3) := by decide +kernel
theorem dX5_reads_4 : decode cX5_reads 4 = .ok (.iload_n 1, 1) := by decide +kernel
theorem dX5_reads_5 : decode cX5_reads 5 = .ok (.invokevirtual 25, 3) := by decide +kernel
theorem dX5_reads_8 : decode cX5_reads 8 = .ok (.aload_n 0, 1) := by decide +kernel
theorem dX5_reads_9 : decode cX5_reads 9 = .ok (.getfield 21, 3) := by decide +kernel
theorem dX5_reads_12 : decode cX5_reads 12 = .ok (.invokevirtual 29, 3) := by decide +kernel
theorem dX5_reads_15 : decode cX5_reads 15 = .ok (.aload_n 0, 1) := by decide +kernel
theorem dX5_reads_16 : decode cX5_reads 16 = .ok (.iconst 0, 1) := by decide +kernel
theorem dX5_reads_17 : decode cX5_reads 17 = .ok (.putfield 32, 3) := by decide +kernel
theorem dX5_reads_20 : decode cX5_reads 20 = .ok (.aload_n 0, 1) := by decide +kernel
theorem dX5_reads_21 : decode cX5_reads 21 = .ok (.iconst 0, 1) := by decide +kernel
theorem dX5_reads_22 : decode cX5_reads 22 = .ok (.putfield 36, 3) := by decide +kernel
theorem dX5_reads_25 : decode cX5_reads 25 = .ok (.aload_n 0, 1) := by decide +kernel
theorem dX5_reads_26 : decode cX5_reads 26 = .ok (.iconst (-1), 1) := by decide +kernel
theorem dX5_reads_27 : decode cX5_reads 27 = .ok (.putfield 39, 3) := by decide +kernel
theorem dX5_reads_30 : decode cX5_reads 30 = .ok (.iconst 0, 1) := by decide +kernel
theorem dX5_reads_31 : decode cX5_reads 31 = .ok (.istore_n 2, 1) := by decide +kernel
theorem dX5_reads_32 : decode cX5_reads 32 = .ok (.iload_n 2, 1) := by decide +kernel
theorem dX5_reads_33 : decode cX5_reads 33 = .ok (.aload_n 0, 1) := by decide +kernel
theorem dX5_reads_34 : decode cX5_reads 34 = .ok (.getfield 12, 3) := by decide +kernel
theorem dX5_reads_37 : decode cX5_reads 37 = .ok (.getfield 42, 3) := by decide +kernel
theorem dX5_reads_40 : decode cX5_reads 40 = .ok (.if_icmp .ge 64, 3) := by decide +kernel
theorem dX5_reads_43 : decode cX5_reads 43 = .ok (.aload_n 0, 1) := by decide +kernel
theorem dX5_reads_44 : decode cX5_reads 44 = .ok (.invokevirtual 45, 3) := by decide +kernel
theorem dX5_reads_47 : decode cX5_reads 47 = .ok (.ifCond .ne 5, 3) := by decide +kernel
theorem dX5_reads_50 : decode cX5_reads 50 = .ok (.iconst 0, 1) := by decide +kernel
theorem dX5_reads_51 : decode cX5_reads 51 = .ok (.ireturn, 1) := by decide +kernel
theorem dX5_reads_52 : decode cX5_reads 52 = .ok (.aload_n 0, 1) := by decide +kernel
theorem dX5_reads_53 : decode cX5_reads 53 = .ok (.invokevirtual 49, 3) := by decide +kernel
theorem dX5_reads_56 : decode cX5_reads 56 = .ok (.ifCond .ne 28, 3) := by decide +kernel
theorem dX5_reads_59 : decode cX5_reads 59 = .ok (.aload_n 0, 1) := by decide +kernel
theorem dX5_reads_60 : decode cX5_reads 60 = .ok (.getfield 21, 3) := by decide +kernel
theorem dX5_reads_63 : decode cX5_reads 63 = .ok (.invokevirtual 53, 3) := by decide +kernel
theorem dX5_reads_66 : decode cX5_reads 66 = .ok (.ifCond .eq 12, 3) := by decide +kernel
theorem dX5_reads_69 : decode cX5_reads 69 = .ok (.aload_n 0, 1) := by decide +kernel
theorem dX5_reads_70 : decode cX5_reads 70 = .ok (.bipush 6, 2) := by decide +kernel
theorem dX5_reads_72 : decode cX5_reads 72 = .ok (.invokevirtual 56, 3) := by decide +kernel
theorem dX5_reads_75 : decode cX5_reads 75 = .ok (.ifCond .eq 7, 3) := by decide +kernel
theorem dX5_reads_78 : decode cX5_reads 78 = .ok (.iconst 1, 1) := by decide +kernel
theorem dX5_reads_79 : decode cX5_reads 79 = .ok (.goto 4, 3) := by decide +kernel
theorem dX5_reads_82 : decode cX5_reads 82 = .ok (.iconst 0, 1) := by decide +kernel
theorem dX5_reads_83 : decode cX5_reads 83 = .ok (.ireturn, 1) := by decide +kernel
theorem dX5_reads_84 : decode cX5_reads 84 = .ok (.aload_n 0, 1) := by decide +kernel
theorem dX5_reads_85 : decode cX5_reads 85 = .ok (.invokevirtual 49, 3) := by decide +kernel
theorem dX5_reads_88 : decode cX5_reads 88 = .ok (.iconst 3, 1) := by decide +kernel
theorem dX5_reads_89 : decode cX5_reads 89 = .ok (.if_icmp .eq 9, 3) := by decide +kernel
theorem dX5_reads_92 : decode cX5_reads 92 = .ok (.aload_n 0, 1) := by decide +kernel
theorem dX5_reads_93 : decode cX5_reads 93 = .ok (.iconst 1, 1) := by decide +kernel
theorem dX5_reads_94 : decode cX5_reads 94 = .ok (.invokevirtual 56, 3) := by decide +kernel
theorem dX5_reads_97 : decode cX5_reads 97 = .ok (.ireturn, 1) := by decide +kernel
theorem dX5_reads_98 : decode cX5_reads 98 = .ok (.iinc 2 1, 3) := by decide +kernel
theorem dX5_reads_101 : decode cX5_reads 101 = .ok (.goto (-69), 3) := by decide +kernel
theorem dX5_reads_104 : decode cX5_reads 104 = .ok (.aload_n 0, 1) := by decide +kernel
theorem dX5_reads_105 : decode cX5_reads 105 = .ok (.iconst 1, 1) := by decide +kernel
theorem dX5_reads_106 : decode cX5_reads 106 = .ok (.invokevirtual 56, 3) := by decide +kernel
theorem dX5_reads_109 : decode cX5_reads 109 = .ok (.ireturn, 1) := by decide +kernel
theorem dX5_isFaulty_0 : decode cX5_isFaulty 0 = .ok (.aload_n 0, 1) := by decide +kernel
theorem dX5_isFaulty_1 : decode cX5_isFaulty 1 = .ok (.iload_n 1, 1) := by decide +kernel
theorem dX5_isFaulty_2 : decode cX5_isFaulty 2 = .ok (.putfield 32, 3) := by decide +kernel
theorem dX5_isFaulty_5 : decode cX5_isFaulty 5 = .ok (.aload_n 0, 1) := by decide +kernel
theorem dX5_isFaulty_6 : decode cX5_isFaulty 6 = .ok (.aload_n 0, 1) := by decide +kernel
theorem dX5_isFaulty_7 : decode cX5_isFaulty 7 = .ok (.getfield 12, 3) := by decide +kernel
theorem dX5_isFaulty_10 : decode cX5_isFaulty 10 = .ok (.getfield 60, 3) := by decide +kernel
theorem dX5_isFaulty_13 : decode cX5_isFaulty 13 = .ok (.aload_n 0, 1) := by decide +kernel
theorem dX5_isFaulty_14 : decode cX5_isFaulty 14 = .ok (.getfield 39, 3) := by decide +kernel
theorem dX5_isFaulty_17 : decode cX5_isFaulty 17 = .ok (.iaload, 1) := by decide +kernel
theorem dX5_isFaulty_18 : decode cX5_isFaulty 18 = .ok (.putfield 36, 3) := by decide +kernel
theorem dX5_isFaulty_21 : decode cX5_isFaulty 21 = .ok (.iconst 0, 1) := by decide +kernel
theorem dX5_isFaulty_22 : decode cX5_isFaulty 22 = .ok (.ireturn, 1) := by decide +kernel
theorem dX5_advance_0 : decode cX5_advance 0 = .ok (.aload_n 0, 1) := by decide +kernel
theorem dX5_advance_1 : decode cX5_advance 1 = .ok (.getfield 39, 3) := by decide +kernel
theorem dX5_advance_4 : decode cX5_advance 4 = .ok (.aload_n 0, 1) := by decide +kernel
theorem dX5_advance_5 : decode cX5_advance 5 = .ok (.getfield 12, 3) := by decide +kernel
theorem dX5_advance_8 : decode cX5_advance 8 = .ok (.getfield 42, 3) := by decide +kernel
theorem dX5_advance_11 : decode cX5_advance 11 = .ok (.iconst 1, 1) := by decide +kernel
theorem dX5_advance_12 : decode cX5_advance 12 = .ok (.isub, 1) := by decide +kernel
theorem dX5_advance_13 : decode cX5_advance 13 = .ok (.if_icmp .ge 13, 3) := by decide +kernel
theorem dX5_advance_16 : decode cX5_advance 16 = .ok (.aload_n 0, 1) := by decide +kernel
theorem dX5_advance_17 : decode cX5_advance 17 = .ok (.dup, 1) := by decide +kernel
theorem dX5_advance_18 : decode cX5_advance 18 = .ok (.getfield 39, 3) := by decide +kernel
theorem dX5_advance_21 : decode cX5_advance 21 = .ok (.iconst 1, 1) := by decide +kernel
theorem dX5_advance_22 : decode cX5_advance 22 = .ok (.iadd, 1) := by decide +kernel
theorem dX5_advance_23 : decode cX5_advance 23 = .ok (.putfield 39, 3) := by decide +kernel
theorem dX5_advance_26 : decode cX5_advance 26 = .ok (.return_, 1) := by decide +kernel
theorem dX5_kind_0 : decode cX5_kind 0 = .ok (.aload_n 0, 1) := by decide +kernel
theorem dX5_kind_1 : decode cX5_kind 1 = .ok (.getfield 12, 3) := by decide +kernel
theorem dX5_kind_4 : decode cX5_kind 4 = .ok (.getfield 64, 3) := by decide +kernel
theorem dX5_kind_7 : decode cX5_kind 7 = .ok (.aload_n 0, 1) := by decide +kernel
theorem dX5_kind_8 : decode cX5_kind 8 = .ok (.getfield 39, 3) := by decide +kernel
theorem dX5_kind_11 : decode cX5_kind 11 = .ok (.iaload, 1) := by decide +kernel
theorem dX5_kind_12 : decode cX5_kind 12 = .ok (.ireturn, 1) := by decide +kernel
theorem dX5_isWord_0 : decode cX5_isWord 0 = .ok (.aload_n 0, 1) := by decide +kernel
theorem dX5_isWord_1 : decode cX5_isWord 1 = .ok (.getfield 12, 3) := by decide +kernel
theorem dX5_isWord_4 : decode cX5_isWord 4 = .ok (.getfield 64, 3) := by decide +kernel
theorem dX5_isWord_7 : decode cX5_isWord 7 = .ok (.aload_n 0, 1) := by decide +kernel
theorem dX5_isWord_8 : decode cX5_isWord 8 = .ok (.getfield 39, 3) := by decide +kernel
theorem dX5_isWord_11 : decode cX5_isWord 11 = .ok (.iaload, 1) := by decide +kernel
theorem dX5_isWord_12 : decode cX5_isWord 12 = .ok (.iconst 1, 1) := by decide +kernel
theorem dX5_isWord_13 : decode cX5_isWord 13 = .ok (.if_icmp .ne 23, 3) := by decide +kernel
theorem dX5_isWord_16 : decode cX5_isWord 16 = .ok (.aload_n 0, 1) := by decide +kernel
theorem dX5_isWord_17 : decode cX5_isWord 17 = .ok (.getfield 12, 3) := by decide +kernel
theorem dX5_isWord_20 : decode cX5_isWord 20 = .ok (.getfield 67, 3) := by decide +kernel
theorem dX5_isWord_23 : decode cX5_isWord 23 = .ok (.aload_n 0, 1) := by decide +kernel
theorem dX5_isWord_24 : decode cX5_isWord 24 = .ok (.getfield 39, 3) := by decide +kernel
theorem dX5_isWord_27 : decode cX5_isWord 27 = .ok (.iaload, 1) := by decide +kernel
theorem dX5_isWord_28 : decode cX5_isWord 28 = .ok (.iload_n 1, 1) := by decide +kernel
theorem dX5_isWord_29 : decode cX5_isWord 29 = .ok (.if_icmp .ne 7, 3) := by decide +kernel
theorem dX5_isWord_32 : decode cX5_isWord 32 = .ok (.iconst 1, 1) := by decide +kernel
theorem dX5_isWord_33 : decode cX5_isWord 33 = .ok (.goto 4, 3) := by decide +kernel
theorem dX5_isWord_36 : decode cX5_isWord 36 = .ok (.iconst 0, 1) := by decide +kernel
theorem dX5_isWord_37 : decode cX5_isWord 37 = .ok (.ireturn, 1) := by decide +kernel
theorem dX5_readsLine_0 : decode cX5_readsLine 0 = .ok (.aload_n 0, 1) := by decide +kernel
theorem dX5_readsLine_1 : decode cX5_readsLine 1 = .ok (.invokevirtual 70, 3) := by decide +kernel
theorem dX5_readsLine_4 : decode cX5_readsLine 4 = .ok (.aload_n 0, 1) := by decide +kernel
theorem dX5_readsLine_5 : decode cX5_readsLine 5 = .ok (.iconst 0, 1) := by decide +kernel
theorem dX5_readsLine_6 : decode cX5_readsLine 6 = .ok (.invokevirtual 73, 3) := by decide +kernel
theorem dX5_readsLine_9 : decode cX5_readsLine 9 = .ok (.ifCond .eq 8, 3) := by decide +kernel
theorem dX5_readsLine_12 : decode cX5_readsLine 12 = .ok (.aload_n 0, 1) := by decide +kernel
theorem dX5_readsLine_13 : decode cX5_readsLine 13 = .ok (.invokevirtual 76, 3) := by decide +kernel
theorem dX5_readsLine_16 : decode cX5_readsLine 16 = .ok (.ireturn, 1) := by decide +kernel
theorem dX5_readsLine_17 : decode cX5_readsLine 17 = .ok (.aload_n 0, 1) := by decide +kernel
theorem dX5_readsLine_18 : decode cX5_readsLine 18 = .ok (.iconst 1, 1) := by decide +kernel
theorem dX5_readsLine_19 : decode cX5_readsLine 19 = .ok (.invokevirtual 73, 3) := by decide +kernel
theorem dX5_readsLine_22 : decode cX5_readsLine 22 = .ok (.istore_n 1, 1) := by decide +kernel
theorem dX5_readsLine_23 : decode cX5_readsLine 23 = .ok (.aload_n 0, 1) := by decide +kernel
theorem dX5_readsLine_24 : decode cX5_readsLine 24 = .ok (.iconst 2, 1) := by decide +kernel
theorem dX5_readsLine_25 : decode cX5_readsLine 25 = .ok (.invokevirtual 73, 3) := by decide +kernel
theorem dX5_readsLine_28 : decode cX5_readsLine 28 = .ok (.istore_n 2, 1) := by decide +kernel
theorem dX5_readsLine_29 : decode cX5_readsLine 29 = .ok (.iload_n 1, 1) := by decide +kernel
theorem dX5_readsLine_30 : decode cX5_readsLine 30 = .ok (.ifCond .ne 21, 3) := by decide +kernel
theorem dX5_readsLine_33 : decode cX5_readsLine 33 = .ok (.iload_n 2, 1) := by decide +kernel
theorem dX5_readsLine_34 : decode cX5_readsLine 34 = .ok (.ifCond .ne 17, 3) := by decide +kernel
theorem dX5_readsLine_37 : decode cX5_readsLine 37 = .ok (.aload_n 0, 1) := by decide +kernel
theorem dX5_readsLine_38 : decode cX5_readsLine 38 = .ok (.iconst 3, 1) := by decide +kernel
theorem dX5_readsLine_39 : decode cX5_readsLine 39 = .ok (.invokevirtual 73, 3) := by decide +kernel
theorem dX5_readsLine_42 : decode cX5_readsLine 42 = .ok (.ifCond .ne 9, 3) := by decide +kernel
theorem dX5_readsLine_45 : decode cX5_readsLine 45 = .ok (.aload_n 0, 1) := by decide +kernel
theorem dX5_readsLine_46 : decode cX5_readsLine 46 = .ok (.iconst 1, 1) := by decide +kernel
theorem dX5_readsLine_47 : decode cX5_readsLine 47 = .ok (.invokevirtual 56, 3) := by decide +kernel
theorem dX5_readsLine_50 : decode cX5_readsLine 50 = .ok (.ireturn, 1) := by decide +kernel
theorem dX5_readsLine_51 : decode cX5_readsLine 51 = .ok (.aload_n 0, 1) := by decide +kernel
theorem dX5_readsLine_52 : decode cX5_readsLine 52 = .ok (.getfield 21, 3) := by decide +kernel
theorem dX5_readsLine_55 : decode cX5_readsLine 55 = .ok (.getfield 79, 3) := by decide +kernel
theorem dX5_readsLine_58 : decode cX5_readsLine 58 = .ok (.ifCond .ne 10, 3) := by decide +kernel
theorem dX5_readsLine_61 : decode cX5_readsLine 61 = .ok (.aload_n 0, 1) := by decide +kernel
theorem dX5_readsLine_62 : decode cX5_readsLine 62 = .ok (.bipush 6, 2) := by decide +kernel
theorem dX5_readsLine_64 : decode cX5_readsLine 64 = .ok (.invokevirtual 56, 3) := by decide +kernel
theorem dX5_readsLine_67 : decode cX5_readsLine 67 = .ok (.ireturn, 1) := by decide +kernel
theorem dX5_readsLine_68 : decode cX5_readsLine 68 = .ok (.iload_n 1, 1) := by decide +kernel
theorem dX5_readsLine_69 : decode cX5_readsLine 69 = .ok (.ifCond .eq 10, 3) := by decide +kernel
theorem dX5_readsLine_72 : decode cX5_readsLine 72 = .ok (.aload_n 0, 1) := by decide +kernel
theorem dX5_readsLine_73 : decode cX5_readsLine 73 = .ok (.invokevirtual 83, 3) := by decide +kernel
theorem dX5_readsLine_76 : decode cX5_readsLine 76 = .ok (.goto 18, 3) := by decide +kernel
theorem dX5_readsLine_79 : decode cX5_readsLine 79 = .ok (.iload_n 2, 1) := by decide +kernel
theorem dX5_readsLine_80 : decode cX5_readsLine 80 = .ok (.ifCond .eq 10, 3) := by decide +kernel
theorem dX5_readsLine_83 : decode cX5_readsLine 83 = .ok (.aload_n 0, 1) := by decide +kernel
theorem dX5_readsLine_84 : decode cX5_readsLine 84 = .ok (.invokevirtual 86, 3) := by decide +kernel
theorem dX5_readsLine_87 : decode cX5_readsLine 87 = .ok (.goto 7, 3) := by decide +kernel
theorem dX5_readsLine_90 : decode cX5_readsLine 90 = .ok (.aload_n 0, 1) := by decide +kernel
theorem dX5_readsLine_91 : decode cX5_readsLine 91 = .ok (.invokevirtual 89, 3) := by decide +kernel
theorem dX5_readsLine_94 : decode cX5_readsLine 94 = .ok (.istore_n 3, 1) := by decide +kernel
theorem dX5_readsLine_95 : decode cX5_readsLine 95 = .ok (.iload_n 3, 1) := by decide +kernel
theorem dX5_readsLine_96 : decode cX5_readsLine 96 = .ok (.ifCond .eq 7, 3) := by decide +kernel
theorem dX5_readsLine_99 : decode cX5_readsLine 99 = .ok (.aload_n 0, 1) := by decide +kernel
theorem dX5_readsLine_100 : decode cX5_readsLine 100 = .ok (.invokevirtual 70, 3) := by decide +kernel
theorem dX5_readsLine_103 : decode cX5_readsLine 103 = .ok (.iload_n 3, 1) := by decide +kernel
theorem dX5_readsLine_104 : decode cX5_readsLine 104 = .ok (.ireturn, 1) := by decide +kernel
theorem dX5_readsTangle_0 : decode cX5_readsTangle 0 = .ok (.aload_n 0, 1) := by decide +kernel
theorem dX5_readsTangle_1 : decode cX5_readsTangle 1 = .ok (.getfield 21, 3) := by decide +kernel
theorem dX5_readsTangle_4 : decode cX5_readsTangle 4 = .ok (.getfield 79, 3) := by decide +kernel
theorem dX5_readsTangle_7 : decode cX5_readsTangle 7 = .ok (.ifCond .eq 9, 3) := by decide +kernel
theorem dX5_readsTangle_10 : decode cX5_readsTangle 10 = .ok (.aload_n 0, 1) := by decide +kernel
theorem dX5_readsTangle_11 : decode cX5_readsTangle 11 = .ok (.iconst 3, 1) := by decide +kernel
theorem dX5_readsTangle_12 : decode cX5_readsTangle 12 = .ok (.invokevirtual 56, 3) := by decide +kernel
theorem dX5_readsTangle_15 : decode cX5_readsTangle 15 = .ok (.ireturn, 1) := by decide +kernel
theorem dX5_readsTangle_16 : decode cX5_readsTangle 16 = .ok (.aload_n 0, 1) := by decide +kernel
theorem dX5_readsTangle_17 : decode cX5_readsTangle 17 = .ok (.iconst 4, 1) := by decide +kernel
theorem dX5_readsTangle_18 : decode cX5_readsTangle 18 = .ok (.invokevirtual 92, 3) := by decide +kernel
theorem dX5_readsTangle_21 : decode cX5_readsTangle 21 = .ok (.ifCond .eq 13, 3) := by decide +kernel
theorem dX5_readsTangle_24 : decode cX5_readsTangle 24 = .ok (.aload_n 0, 1) := by decide +kernel
theorem dX5_readsTangle_25 : decode cX5_readsTangle 25 = .ok (.iconst 0, 1) := by decide +kernel
theorem dX5_readsTangle_26 : decode cX5_readsTangle 26 = .ok (.bipush 99, 2) := by decide +kernel
theorem dX5_readsTangle_28 : decode cX5_readsTangle 28 = .ok (.invokevirtual 95, 3) := by decide +kernel
theorem dX5_readsTangle_31 : decode cX5_readsTangle 31 = .ok (.ifCond .ne 5, 3) := by decide +kernel
theorem dX5_readsTangle_34 : decode cX5_readsTangle 34 = .ok (.iconst 0, 1) := by decide +kernel
theorem dX5_readsTangle_35 : decode cX5_readsTangle 35 = .ok (.ireturn, 1) := by decide +kernel
theorem dX5_readsTangle_36 : decode cX5_readsTangle 36 = .ok (.aload_n 0, 1) := by decide +kernel
theorem dX5_readsTangle_37 : decode cX5_readsTangle 37 = .ok (.getfield 21, 3) := by decide +kernel
theorem dX5_readsTangle_40 : decode cX5_readsTangle 40 = .ok (.iconst 1, 1) := by decide +kernel
theorem dX5_readsTangle_41 : decode cX5_readsTangle 41 = .ok (.putfield 79, 3) := by decide +kernel
theorem dX5_readsTangle_44 : decode cX5_readsTangle 44 = .ok (.aload_n 0, 1) := by decide +kernel
theorem dX5_readsTangle_45 : decode cX5_readsTangle 45 = .ok (.getfield 21, 3) := by decide +kernel
theorem dX5_readsTangle_48 : decode cX5_readsTangle 48 = .ok (.aload_n 0, 1) := by decide +kernel
theorem dX5_readsTangle_49 : decode cX5_readsTangle 49 = .ok (.getfield 99, 3) := by decide +kernel
theorem dX5_readsTangle_52 : decode cX5_readsTangle 52 = .ok (.putfield 102, 3) := by decide +kernel
theorem dX5_readsTangle_55 : decode cX5_readsTangle 55 = .ok (.aload_n 0, 1) := by decide +kernel
theorem dX5_readsTangle_56 : decode cX5_readsTangle 56 = .ok (.invokevirtual 70, 3) := by decide +kernel
theorem dX5_readsTangle_59 : decode cX5_readsTangle 59 = .ok (.aload_n 0, 1) := by decide +kernel
theorem dX5_readsTangle_60 : decode cX5_readsTangle 60 = .ok (.iconst 5, 1) := by decide +kernel
theorem dX5_readsTangle_61 : decode cX5_readsTangle 61 = .ok (.invokevirtual 73, 3) := by decide +kernel
theorem dX5_readsTangle_64 : decode cX5_readsTangle 64 = .ok (.ifCond .eq 15, 3) := by decide +kernel
theorem dX5_readsTangle_67 : decode cX5_readsTangle 67 = .ok (.aload_n 0, 1) := by decide +kernel
theorem dX5_readsTangle_68 : decode cX5_readsTangle 68 = .ok (.getfield 21, 3) := by decide +kernel
theorem dX5_readsTangle_71 : decode cX5_readsTangle 71 = .ok (.iconst 1, 1) := by decide +kernel
theorem dX5_readsTangle_72 : decode cX5_readsTangle 72 = .ok (.putfield 105, 3) := by decide +kernel
theorem dX5_readsTangle_75 : decode cX5_readsTangle 75 = .ok (.aload_n 0, 1) := by decide +kernel
theorem dX5_readsTangle_76 : decode cX5_readsTangle 76 = .ok (.invokevirtual 70, 3) := by decide +kernel
theorem dX5_readsTangle_79 : decode cX5_readsTangle 79 = .ok (.iconst 1, 1) := by decide +kernel
theorem dX5_readsTangle_80 : decode cX5_readsTangle 80 = .ok (.ireturn, 1) := by decide +kernel
theorem dX5_readsPerson_0 : decode cX5_readsPerson 0 = .ok (.aload_n 0, 1) := by decide +kernel
theorem dX5_readsPerson_1 : decode cX5_readsPerson 1 = .ok (.getfield 21, 3) := by decide +kernel
theorem dX5_readsPerson_4 : decode cX5_readsPerson 4 = .ok (.getfield 108, 3) := by decide +kernel
theorem dX5_readsPerson_7 : decode cX5_readsPerson 7 = .ok (.bipush 8, 2) := by decide +kernel
theorem dX5_readsPerson_9 : decode cX5_readsPerson 9 = .ok (.if_icmp .lt 9, 3) := by decide +kernel
theorem dX5_readsPerson_12 : decode cX5_readsPerson 12 = .ok (.aload_n 0, 1) := by decide +kernel
theorem dX5_readsPerson_13 : decode cX5_readsPerson 13 = .ok (.iconst 5, 1) := by decide +kernel
theorem dX5_readsPerson_14 : decode cX5_readsPerson 14 = .ok (.invokevirtual 56, 3) := by decide +kernel
theorem dX5_readsPerson_17 : decode cX5_readsPerson 17 = .ok (.ireturn, 1) := by decide +kernel
theorem dX5_readsPerson_18 : decode cX5_readsPerson 18 = .ok (.aload_n 0, 1) := by decide +kernel
theorem dX5_readsPerson_19 : decode cX5_readsPerson 19 = .ok (.invokevirtual 111, 3) := by decide +kernel
theorem dX5_readsPerson_22 : decode cX5_readsPerson 22 = .ok (.ifCond .ne 5, 3) := by decide +kernel
theorem dX5_readsPerson_25 : decode cX5_readsPerson 25 = .ok (.iconst 0, 1) := by decide +kernel
theorem dX5_readsPerson_26 : decode cX5_readsPerson 26 = .ok (.ireturn, 1) := by decide +kernel
theorem dX5_readsPerson_27 : decode cX5_readsPerson 27 = .ok (.aload_n 0, 1) := by decide +kernel
theorem dX5_readsPerson_28 : decode cX5_readsPerson 28 = .ok (.getfield 114, 3) := by decide +kernel
theorem dX5_readsPerson_31 : decode cX5_readsPerson 31 = .ok (.lstore_n 1, 1) := by decide +kernel
theorem dX5_readsPerson_32 : decode cX5_readsPerson 32 = .ok (.aload_n 0, 1) := by decide +kernel
theorem dX5_readsPerson_33 : decode cX5_readsPerson 33 = .ok (.iconst 4, 1) := by decide +kernel
theorem dX5_readsPerson_34 : decode cX5_readsPerson 34 = .ok (.invokevirtual 92, 3) := by decide +kernel
theorem dX5_readsPerson_37 : decode cX5_readsPerson 37 = .ok (.ifCond .eq 13, 3) := by decide +kernel
theorem dX5_readsPerson_40 : decode cX5_readsPerson 40 = .ok (.aload_n 0, 1) := by decide +kernel
theorem dX5_readsPerson_41 : decode cX5_readsPerson 41 = .ok (.iconst 1, 1) := by decide +kernel
theorem dX5_readsPerson_42 : decode cX5_readsPerson 42 = .ok (.bipush 99, 2) := by decide +kernel
theorem dX5_readsPerson_44 : decode cX5_readsPerson 44 = .ok (.invokevirtual 95, 3) := by decide +kernel
theorem dX5_readsPerson_47 : decode cX5_readsPerson 47 = .ok (.ifCond .ne 5, 3) := by decide +kernel
theorem dX5_readsPerson_50 : decode cX5_readsPerson 50 = .ok (.iconst 0, 1) := by decide +kernel
theorem dX5_readsPerson_51 : decode cX5_readsPerson 51 = .ok (.ireturn, 1) := by decide +kernel
theorem dX5_readsPerson_52 : decode cX5_readsPerson 52 = .ok (.aload_n 0, 1) := by decide +kernel
theorem dX5_readsPerson_53 : decode cX5_readsPerson 53 = .ok (.getfield 21, 3) := by decide +kernel
theorem dX5_readsPerson_56 : decode cX5_readsPerson 56 = .ok (.lload_n 1, 1) := by decide +kernel
theorem dX5_readsPerson_57 : decode cX5_readsPerson 57 = .ok (.aload_n 0, 1) := by decide +kernel
theorem dX5_readsPerson_58 : decode cX5_readsPerson 58 = .ok (.getfield 99, 3) := by decide +kernel
theorem dX5_readsPerson_61 : decode cX5_readsPerson 61 = .ok (.invokevirtual 118, 3) := by decide +kernel
theorem dX5_readsPerson_64 : decode cX5_readsPerson 64 = .ok (.iconst 1, 1) := by decide +kernel
theorem dX5_readsPerson_65 : decode cX5_readsPerson 65 = .ok (.ireturn, 1) := by decide +kernel
theorem dX5_readsHold_0 : decode cX5_readsHold 0 = .ok (.aload_n 0, 1) := by decide +kernel
theorem dX5_readsHold_1 : decode cX5_readsHold 1 = .ok (.getfield 21, 3) := by decide +kernel
theorem dX5_readsHold_4 : decode cX5_readsHold 4 = .ok (.getfield 122, 3) := by decide +kernel
theorem dX5_readsHold_7 : decode cX5_readsHold 7 = .ok (.bipush 8, 2) := by decide +kernel
theorem dX5_readsHold_9 : decode cX5_readsHold 9 = .ok (.if_icmp .lt 9, 3) := by decide +kernel
theorem dX5_readsHold_12 : decode cX5_readsHold 12 = .ok (.aload_n 0, 1) := by decide +kernel
theorem dX5_readsHold_13 : decode cX5_readsHold 13 = .ok (.iconst 5, 1) := by decide +kernel
theorem dX5_readsHold_14 : decode cX5_readsHold 14 = .ok (.invokevirtual 56, 3) := by decide +kernel
theorem dX5_readsHold_17 : decode cX5_readsHold 17 = .ok (.ireturn, 1) := by decide +kernel
theorem dX5_readsHold_18 : decode cX5_readsHold 18 = .ok (.aload_n 0, 1) := by decide +kernel
theorem dX5_readsHold_19 : decode cX5_readsHold 19 = .ok (.invokevirtual 111, 3) := by decide +kernel
theorem dX5_readsHold_22 : decode cX5_readsHold 22 = .ok (.ifCond .ne 5, 3) := by decide +kernel
theorem dX5_readsHold_25 : decode cX5_readsHold 25 = .ok (.iconst 0, 1) := by decide +kernel
theorem dX5_readsHold_26 : decode cX5_readsHold 26 = .ok (.ireturn, 1) := by decide +kernel
theorem dX5_readsHold_27 : decode cX5_readsHold 27 = .ok (.aload_n 0, 1) := by decide +kernel
theorem dX5_readsHold_28 : decode cX5_readsHold 28 = .ok (.getfield 114, 3) := by decide +kernel
theorem dX5_readsHold_31 : decode cX5_readsHold 31 = .ok (.lstore_n 1, 1) := by decide +kernel
theorem dX5_readsHold_32 : decode cX5_readsHold 32 = .ok (.aload_n 0, 1) := by decide +kernel
theorem dX5_readsHold_33 : decode cX5_readsHold 33 = .ok (.invokevirtual 125, 3) := by decide +kernel
theorem dX5_readsHold_36 : decode cX5_readsHold 36 = .ok (.ifCond .ne 5, 3) := by decide +kernel
theorem dX5_readsHold_39 : decode cX5_readsHold 39 = .ok (.iconst 0, 1) := by decide +kernel
theorem dX5_readsHold_40 : decode cX5_readsHold 40 = .ok (.ireturn, 1) := by decide +kernel
theorem dX5_readsHold_41 : decode cX5_readsHold 41 = .ok (.aload_n 0, 1) := by decide +kernel
theorem dX5_readsHold_42 : decode cX5_readsHold 42 = .ok (.getfield 99, 3) := by decide +kernel
theorem dX5_readsHold_45 : decode cX5_readsHold 45 = .ok (.istore_n 3, 1) := by decide +kernel
theorem dX5_readsHold_46 : decode cX5_readsHold 46 = .ok (.aload_n 0, 1) := by decide +kernel
theorem dX5_readsHold_47 : decode cX5_readsHold 47 = .ok (.iload_n 3, 1) := by decide +kernel
theorem dX5_readsHold_48 : decode cX5_readsHold 48 = .ok (.invokevirtual 128, 3) := by decide +kernel
theorem dX5_readsHold_51 : decode cX5_readsHold 51 = .ok (.ifCond .ne 5, 3) := by decide +kernel
theorem dX5_readsHold_54 : decode cX5_readsHold 54 = .ok (.iconst 0, 1) := by decide +kernel
theorem dX5_readsHold_55 : decode cX5_readsHold 55 = .ok (.ireturn, 1) := by decide +kernel
theorem dX5_readsHold_56 : decode cX5_readsHold 56 = .ok (.aload_n 0, 1) := by decide +kernel
theorem dX5_readsHold_57 : decode cX5_readsHold 57 = .ok (.getfield 99, 3) := by decide +kernel
theorem dX5_readsHold_60 : decode cX5_readsHold 60 = .ok (.istore 4, 2) := by decide +kernel
theorem dX5_readsHold_62 : decode cX5_readsHold 62 = .ok (.aload_n 0, 1) := by decide +kernel
theorem dX5_readsHold_63 : decode cX5_readsHold 63 = .ok (.invokevirtual 125, 3) := by decide +kernel
theorem dX5_readsHold_66 : decode cX5_readsHold 66 = .ok (.ifCond .ne 5, 3) := by decide +kernel
theorem dX5_readsHold_69 : decode cX5_readsHold 69 = .ok (.iconst 0, 1) := by decide +kernel
theorem dX5_readsHold_70 : decode cX5_readsHold 70 = .ok (.ireturn, 1) := by decide +kernel
theorem dX5_readsHold_71 : decode cX5_readsHold 71 = .ok (.aload_n 0, 1) := by decide +kernel
theorem dX5_readsHold_72 : decode cX5_readsHold 72 = .ok (.getfield 99, 3) := by decide +kernel
theorem dX5_readsHold_75 : decode cX5_readsHold 75 = .ok (.istore 5, 2) := by decide +kernel
theorem dX5_readsHold_77 : decode cX5_readsHold 77 = .ok (.iload 5, 2) := by decide +kernel
theorem dX5_readsHold_79 : decode cX5_readsHold 79 = .ok (.iload_n 3, 1) := by decide +kernel
theorem dX5_readsHold_80 : decode cX5_readsHold 80 = .ok (.if_icmp .eq 26, 3) := by decide +kernel
theorem dX5_readsHold_83 : decode cX5_readsHold 83 = .ok (.aload_n 0, 1) := by decide +kernel
theorem dX5_readsHold_84 : decode cX5_readsHold 84 = .ok (.getfield 21, 3) := by decide +kernel
theorem dX5_readsHold_87 : decode cX5_readsHold 87 = .ok (.getfield 105, 3) := by decide +kernel
theorem dX5_readsHold_90 : decode cX5_readsHold 90 = .ok (.ifCond .eq 22, 3) := by decide +kernel
theorem dX5_readsHold_93 : decode cX5_readsHold 93 = .ok (.aload_n 0, 1) := by decide +kernel
theorem dX5_readsHold_94 : decode cX5_readsHold 94 = .ok (.getfield 21, 3) := by decide +kernel
theorem dX5_readsHold_97 : decode cX5_readsHold 97 = .ok (.iload_n 3, 1) := by decide +kernel
theorem dX5_readsHold_98 : decode cX5_readsHold 98 = .ok (.iload 5, 2) := by decide +kernel
theorem dX5_readsHold_100 : decode cX5_readsHold 100 = .ok (.invokevirtual 131, 3) := by decide +kernel
theorem dX5_readsHold_103 : decode cX5_readsHold 103 = .ok (.ifCond .eq 9, 3) := by decide +kernel
theorem dX5_readsHold_106 : decode cX5_readsHold 106 = .ok (.aload_n 0, 1) := by decide +kernel
theorem dX5_readsHold_107 : decode cX5_readsHold 107 = .ok (.iconst 3, 1) := by decide +kernel
theorem dX5_readsHold_108 : decode cX5_readsHold 108 = .ok (.invokevirtual 56, 3) := by decide +kernel
theorem dX5_readsHold_111 : decode cX5_readsHold 111 = .ok (.ireturn, 1) := by decide +kernel
theorem dX5_readsHold_112 : decode cX5_readsHold 112 = .ok (.aload_n 0, 1) := by decide +kernel
theorem dX5_readsHold_113 : decode cX5_readsHold 113 = .ok (.iload 5, 2) := by decide +kernel
theorem dX5_readsHold_115 : decode cX5_readsHold 115 = .ok (.invokevirtual 128, 3) := by decide +kernel
theorem dX5_readsHold_118 : decode cX5_readsHold 118 = .ok (.ifCond .ne 5, 3) := by decide +kernel
theorem dX5_readsHold_121 : decode cX5_readsHold 121 = .ok (.iconst 0, 1) := by decide +kernel
theorem dX5_readsHold_122 : decode cX5_readsHold 122 = .ok (.ireturn, 1) := by decide +kernel
theorem dX5_readsHold_123 : decode cX5_readsHold 123 = .ok (.aload_n 0, 1) := by decide +kernel
theorem dX5_readsHold_124 : decode cX5_readsHold 124 = .ok (.getfield 21, 3) := by decide +kernel
theorem dX5_readsHold_127 : decode cX5_readsHold 127 = .ok (.lload_n 1, 1) := by decide +kernel
theorem dX5_readsHold_128 : decode cX5_readsHold 128 = .ok (.iload 4, 2) := by decide +kernel
theorem dX5_readsHold_130 : decode cX5_readsHold 130 = .ok (.aload_n 0, 1) := by decide +kernel
theorem dX5_readsHold_131 : decode cX5_readsHold 131 = .ok (.getfield 99, 3) := by decide +kernel
theorem dX5_readsHold_134 : decode cX5_readsHold 134 = .ok (.invokevirtual 134, 3) := by decide +kernel
theorem dX5_readsHold_137 : decode cX5_readsHold 137 = .ok (.iconst 1, 1) := by decide +kernel
theorem dX5_readsHold_138 : decode cX5_readsHold 138 = .ok (.ireturn, 1) := by decide +kernel
theorem dX5_readsCross_0 : decode cX5_readsCross 0 = .ok (.aload_n 0, 1) := by decide +kernel
theorem dX5_readsCross_1 : decode cX5_readsCross 1 = .ok (.getfield 21, 3) := by decide +kernel
theorem dX5_readsCross_4 : decode cX5_readsCross 4 = .ok (.getfield 138, 3) := by decide +kernel
theorem dX5_readsCross_7 : decode cX5_readsCross 7 = .ok (.bipush 7, 2) := by decide +kernel
theorem dX5_readsCross_9 : decode cX5_readsCross 9 = .ok (.if_icmp .lt 9, 3) := by decide +kernel
theorem dX5_readsCross_12 : decode cX5_readsCross 12 = .ok (.aload_n 0, 1) := by decide +kernel
theorem dX5_readsCross_13 : decode cX5_readsCross 13 = .ok (.iconst 5, 1) := by decide +kernel
theorem dX5_readsCross_14 : decode cX5_readsCross 14 = .ok (.invokevirtual 56, 3) := by decide +kernel
theorem dX5_readsCross_17 : decode cX5_readsCross 17 = .ok (.ireturn, 1) := by decide +kernel
theorem dX5_readsCross_18 : decode cX5_readsCross 18 = .ok (.aload_n 0, 1) := by decide +kernel
theorem dX5_readsCross_19 : decode cX5_readsCross 19 = .ok (.iconst 1, 1) := by decide +kernel
theorem dX5_readsCross_20 : decode cX5_readsCross 20 = .ok (.invokevirtual 141, 3) := by decide +kernel
theorem dX5_readsCross_23 : decode cX5_readsCross 23 = .ok (.ifCond .eq 20, 3) := by decide +kernel
theorem dX5_readsCross_26 : decode cX5_readsCross 26 = .ok (.aload_n 0, 1) := by decide +kernel
theorem dX5_readsCross_27 : decode cX5_readsCross 27 = .ok (.bipush 8, 2) := by decide +kernel
theorem dX5_readsCross_29 : decode cX5_readsCross 29 = .ok (.invokevirtual 92, 3) := by decide +kernel
theorem dX5_readsCross_32 : decode cX5_readsCross 32 = .ok (.ifCond .eq 11, 3) := by decide +kernel
theorem dX5_readsCross_35 : decode cX5_readsCross 35 = .ok (.aload_n 0, 1) := by decide +kernel
theorem dX5_readsCross_36 : decode cX5_readsCross 36 = .ok (.iconst 0, 1) := by decide +kernel
theorem dX5_readsCross_37 : decode cX5_readsCross 37 = .ok (.invokevirtual 141, 3) := by decide +kernel
theorem dX5_readsCross_40 : decode cX5_readsCross 40 = .ok (.ifCond .ne 5, 3) := by decide +kernel
theorem dX5_readsCross_43 : decode cX5_readsCross 43 = .ok (.iconst 0, 1) := by decide +kernel
theorem dX5_readsCross_44 : decode cX5_readsCross 44 = .ok (.ireturn, 1) := by decide +kernel
theorem dX5_readsCross_45 : decode cX5_readsCross 45 = .ok (.aload_n 0, 1) := by decide +kernel
theorem dX5_readsCross_46 : decode cX5_readsCross 46 = .ok (.invokevirtual 70, 3) := by decide +kernel
theorem dX5_readsCross_49 : decode cX5_readsCross 49 = .ok (.aload_n 0, 1) := by decide +kernel
theorem dX5_readsCross_50 : decode cX5_readsCross 50 = .ok (.bipush 9, 2) := by decide +kernel
theorem dX5_readsCross_52 : decode cX5_readsCross 52 = .ok (.invokevirtual 73, 3) := by decide +kernel
theorem dX5_readsCross_55 : decode cX5_readsCross 55 = .ok (.ifCond .ne 18, 3) := by decide +kernel
theorem dX5_readsCross_58 : decode cX5_readsCross 58 = .ok (.aload_n 0, 1) := by decide +kernel
theorem dX5_readsCross_59 : decode cX5_readsCross 59 = .ok (.bipush 10, 2) := by decide +kernel
theorem dX5_readsCross_61 : decode cX5_readsCross 61 = .ok (.invokevirtual 73, 3) := by decide +kernel
theorem dX5_readsCross_64 : decode cX5_readsCross 64 = .ok (.ifCond .ne 9, 3) := by decide +kernel
theorem dX5_readsCross_67 : decode cX5_readsCross 67 = .ok (.aload_n 0, 1) := by decide +kernel
theorem dX5_readsCross_68 : decode cX5_readsCross 68 = .ok (.iconst 1, 1) := by decide +kernel
theorem dX5_readsCross_69 : decode cX5_readsCross 69 = .ok (.invokevirtual 56, 3) := by decide +kernel
theorem dX5_readsCross_72 : decode cX5_readsCross 72 = .ok (.ireturn, 1) := by decide +kernel
theorem dX5_readsCross_73 : decode cX5_readsCross 73 = .ok (.aload_n 0, 1) := by decide +kernel
theorem dX5_readsCross_74 : decode cX5_readsCross 74 = .ok (.getfield 21, 3) := by decide +kernel
theorem dX5_readsCross_77 : decode cX5_readsCross 77 = .ok (.aload_n 0, 1) := by decide +kernel
theorem dX5_readsCross_78 : decode cX5_readsCross 78 = .ok (.bipush 9, 2) := by decide +kernel
theorem dX5_readsCross_80 : decode cX5_readsCross 80 = .ok (.invokevirtual 73, 3) := by decide +kernel
theorem dX5_readsCross_83 : decode cX5_readsCross 83 = .ok (.invokevirtual 145, 3) := by decide +kernel
theorem dX5_readsCross_86 : decode cX5_readsCross 86 = .ok (.iconst 1, 1) := by decide +kernel
theorem dX5_readsCross_87 : decode cX5_readsCross 87 = .ok (.ireturn, 1) := by decide +kernel
theorem dX5_takesPass_0 : decode cX5_takesPass 0 = .ok (.aload_n 0, 1) := by decide +kernel
theorem dX5_takesPass_1 : decode cX5_takesPass 1 = .ok (.invokevirtual 149, 3) := by decide +kernel
theorem dX5_takesPass_4 : decode cX5_takesPass 4 = .ok (.ifCond .ne 5, 3) := by decide +kernel
theorem dX5_takesPass_7 : decode cX5_takesPass 7 = .ok (.iconst 0, 1) := by decide +kernel
theorem dX5_takesPass_8 : decode cX5_takesPass 8 = .ok (.ireturn, 1) := by decide +kernel
theorem dX5_takesPass_9 : decode cX5_takesPass 9 = .ok (.aload_n 0, 1) := by decide +kernel
theorem dX5_takesPass_10 : decode cX5_takesPass 10 = .ok (.getfield 99, 3) := by decide +kernel
theorem dX5_takesPass_13 : decode cX5_takesPass 13 = .ok (.istore_n 2, 1) := by decide +kernel
theorem dX5_takesPass_14 : decode cX5_takesPass 14 = .ok (.aload_n 0, 1) := by decide +kernel
theorem dX5_takesPass_15 : decode cX5_takesPass 15 = .ok (.iconst 1, 1) := by decide +kernel
theorem dX5_takesPass_16 : decode cX5_takesPass 16 = .ok (.bipush 9, 2) := by decide +kernel
theorem dX5_takesPass_18 : decode cX5_takesPass 18 = .ok (.invokevirtual 95, 3) := by decide +kernel
theorem dX5_takesPass_21 : decode cX5_takesPass 21 = .ok (.ifCond .ne 5, 3) := by decide +kernel
theorem dX5_takesPass_24 : decode cX5_takesPass 24 = .ok (.iconst 0, 1) := by decide +kernel
theorem dX5_takesPass_25 : decode cX5_takesPass 25 = .ok (.ireturn, 1) := by decide +kernel
theorem dX5_takesPass_26 : decode cX5_takesPass 26 = .ok (.aload_n 0, 1) := by decide +kernel
theorem dX5_takesPass_27 : decode cX5_takesPass 27 = .ok (.getfield 21, 3) := by decide +kernel
theorem dX5_takesPass_30 : decode cX5_takesPass 30 = .ok (.iload_n 2, 1) := by decide +kernel
theorem dX5_takesPass_31 : decode cX5_takesPass 31 = .ok (.aload_n 0, 1) := by decide +kernel
theorem dX5_takesPass_32 : decode cX5_takesPass 32 = .ok (.getfield 99, 3) := by decide +kernel
theorem dX5_takesPass_35 : decode cX5_takesPass 35 = .ok (.invokevirtual 152, 3) := by decide +kernel
theorem dX5_takesPass_38 : decode cX5_takesPass 38 = .ok (.ifCond .eq 9, 3) := by decide +kernel
theorem dX5_takesPass_41 : decode cX5_takesPass 41 = .ok (.aload_n 0, 1) := by decide +kernel
theorem dX5_takesPass_42 : decode cX5_takesPass 42 = .ok (.iconst 3, 1) := by decide +kernel
theorem dX5_takesPass_43 : decode cX5_takesPass 43 = .ok (.invokevirtual 56, 3) := by decide +kernel
theorem dX5_takesPass_46 : decode cX5_takesPass 46 = .ok (.ireturn, 1) := by decide +kernel
theorem dX5_takesPass_47 : decode cX5_takesPass 47 = .ok (.aload_n 0, 1) := by decide +kernel
theorem dX5_takesPass_48 : decode cX5_takesPass 48 = .ok (.getfield 21, 3) := by decide +kernel
theorem dX5_takesPass_51 : decode cX5_takesPass 51 = .ok (.iload_n 2, 1) := by decide +kernel
theorem dX5_takesPass_52 : decode cX5_takesPass 52 = .ok (.aload_n 0, 1) := by decide +kernel
theorem dX5_takesPass_53 : decode cX5_takesPass 53 = .ok (.getfield 99, 3) := by decide +kernel
theorem dX5_takesPass_56 : decode cX5_takesPass 56 = .ok (.iload_n 1, 1) := by decide +kernel
theorem dX5_takesPass_57 : decode cX5_takesPass 57 = .ok (.invokevirtual 156, 3) := by decide +kernel
theorem dX5_takesPass_60 : decode cX5_takesPass 60 = .ok (.iconst 1, 1) := by decide +kernel
theorem dX5_takesPass_61 : decode cX5_takesPass 61 = .ok (.ireturn, 1) := by decide +kernel
theorem dX5_takesWord_0 : decode cX5_takesWord 0 = .ok (.aload_n 0, 1) := by decide +kernel
theorem dX5_takesWord_1 : decode cX5_takesWord 1 = .ok (.invokevirtual 70, 3) := by decide +kernel
theorem dX5_takesWord_4 : decode cX5_takesWord 4 = .ok (.aload_n 0, 1) := by decide +kernel
theorem dX5_takesWord_5 : decode cX5_takesWord 5 = .ok (.iload_n 1, 1) := by decide +kernel
theorem dX5_takesWord_6 : decode cX5_takesWord 6 = .ok (.invokevirtual 73, 3) := by decide +kernel
theorem dX5_takesWord_9 : decode cX5_takesWord 9 = .ok (.ifCond .ne 11, 3) := by decide +kernel
theorem dX5_takesWord_12 : decode cX5_takesWord 12 = .ok (.aload_n 0, 1) := by decide +kernel
theorem dX5_takesWord_13 : decode cX5_takesWord 13 = .ok (.iconst 1, 1) := by decide +kernel
theorem dX5_takesWord_14 : decode cX5_takesWord 14 = .ok (.invokevirtual 56, 3) := by decide +kernel
theorem dX5_takesWord_17 : decode cX5_takesWord 17 = .ok (.ifCond .eq 7, 3) := by decide +kernel
theorem dX5_takesWord_20 : decode cX5_takesWord 20 = .ok (.iconst 1, 1) := by decide +kernel
theorem dX5_takesWord_21 : decode cX5_takesWord 21 = .ok (.goto 4, 3) := by decide +kernel
theorem dX5_takesWord_24 : decode cX5_takesWord 24 = .ok (.iconst 0, 1) := by decide +kernel
theorem dX5_takesWord_25 : decode cX5_takesWord 25 = .ok (.ireturn, 1) := by decide +kernel
theorem dX5_takesWhole_0 : decode cX5_takesWhole 0 = .ok (.aload_n 0, 1) := by decide +kernel
theorem dX5_takesWhole_1 : decode cX5_takesWhole 1 = .ok (.invokevirtual 70, 3) := by decide +kernel
theorem dX5_takesWhole_4 : decode cX5_takesWhole 4 = .ok (.aload_n 0, 1) := by decide +kernel
theorem dX5_takesWhole_5 : decode cX5_takesWhole 5 = .ok (.invokevirtual 49, 3) := by decide +kernel
theorem dX5_takesWhole_8 : decode cX5_takesWhole 8 = .ok (.iconst 2, 1) := by decide +kernel
theorem dX5_takesWhole_9 : decode cX5_takesWhole 9 = .ok (.if_icmp .eq 9, 3) := by decide +kernel
theorem dX5_takesWhole_12 : decode cX5_takesWhole 12 = .ok (.aload_n 0, 1) := by decide +kernel
theorem dX5_takesWhole_13 : decode cX5_takesWhole 13 = .ok (.iconst 1, 1) := by decide +kernel
theorem dX5_takesWhole_14 : decode cX5_takesWhole 14 = .ok (.invokevirtual 56, 3) := by decide +kernel
theorem dX5_takesWhole_17 : decode cX5_takesWhole 17 = .ok (.ireturn, 1) := by decide +kernel
theorem dX5_takesWhole_18 : decode cX5_takesWhole 18 = .ok (.aload_n 0, 1) := by decide +kernel
theorem dX5_takesWhole_19 : decode cX5_takesWhole 19 = .ok (.aload_n 0, 1) := by decide +kernel
theorem dX5_takesWhole_20 : decode cX5_takesWhole 20 = .ok (.getfield 12, 3) := by decide +kernel
theorem dX5_takesWhole_23 : decode cX5_takesWhole 23 = .ok (.getfield 67, 3) := by decide +kernel
theorem dX5_takesWhole_26 : decode cX5_takesWhole 26 = .ok (.aload_n 0, 1) := by decide +kernel
theorem dX5_takesWhole_27 : decode cX5_takesWhole 27 = .ok (.getfield 39, 3) := by decide +kernel
theorem dX5_takesWhole_30 : decode cX5_takesWhole 30 = .ok (.iaload, 1) := by decide +kernel
theorem dX5_takesWhole_31 : decode cX5_takesWhole 31 = .ok (.putfield 99, 3) := by decide +kernel
theorem dX5_takesWhole_34 : decode cX5_takesWhole 34 = .ok (.aload_n 0, 1) := by decide +kernel
theorem dX5_takesWhole_35 : decode cX5_takesWhole 35 = .ok (.getfield 99, 3) := by decide +kernel
theorem dX5_takesWhole_38 : decode cX5_takesWhole 38 = .ok (.iload_n 1, 1) := by decide +kernel
theorem dX5_takesWhole_39 : decode cX5_takesWhole 39 = .ok (.if_icmp .lt 11, 3) := by decide +kernel
theorem dX5_takesWhole_42 : decode cX5_takesWhole 42 = .ok (.aload_n 0, 1) := by decide +kernel
theorem dX5_takesWhole_43 : decode cX5_takesWhole 43 = .ok (.getfield 99, 3) := by decide +kernel
theorem dX5_takesWhole_46 : decode cX5_takesWhole 46 = .ok (.iload_n 2, 1) := by decide +kernel
theorem dX5_takesWhole_47 : decode cX5_takesWhole 47 = .ok (.if_icmp .le 11, 3) := by decide +kernel
theorem dX5_takesWhole_50 : decode cX5_takesWhole 50 = .ok (.aload_n 0, 1) := by decide +kernel
theorem dX5_takesWhole_51 : decode cX5_takesWhole 51 = .ok (.iconst 4, 1) := by decide +kernel
theorem dX5_takesWhole_52 : decode cX5_takesWhole 52 = .ok (.invokevirtual 56, 3) := by decide +kernel
theorem dX5_takesWhole_55 : decode cX5_takesWhole 55 = .ok (.ifCond .eq 7, 3) := by decide +kernel
theorem dX5_takesWhole_58 : decode cX5_takesWhole 58 = .ok (.iconst 1, 1) := by decide +kernel
theorem dX5_takesWhole_59 : decode cX5_takesWhole 59 = .ok (.goto 4, 3) := by decide +kernel
theorem dX5_takesWhole_62 : decode cX5_takesWhole 62 = .ok (.iconst 0, 1) := by decide +kernel
theorem dX5_takesWhole_63 : decode cX5_takesWhole 63 = .ok (.ireturn, 1) := by decide +kernel
theorem dX5_takesName_0 : decode cX5_takesName 0 = .ok (.aload_n 0, 1) := by decide +kernel
theorem dX5_takesName_1 : decode cX5_takesName 1 = .ok (.invokevirtual 70, 3) := by decide +kernel
theorem dX5_takesName_4 : decode cX5_takesName 4 = .ok (.aload_n 0, 1) := by decide +kernel
theorem dX5_takesName_5 : decode cX5_takesName 5 = .ok (.aload_n 0, 1) := by decide +kernel
theorem dX5_takesName_6 : decode cX5_takesName 6 = .ok (.getfield 12, 3) := by decide +kernel
theorem dX5_takesName_9 : decode cX5_takesName 9 = .ok (.getfield 160, 3) := by decide +kernel
theorem dX5_takesName_12 : decode cX5_takesName 12 = .ok (.aload_n 0, 1) := by decide +kernel
theorem dX5_takesName_13 : decode cX5_takesName 13 = .ok (.getfield 39, 3) := by decide +kernel
theorem dX5_takesName_16 : decode cX5_takesName 16 = .ok (.laload, 1) := by decide +kernel
theorem dX5_takesName_17 : decode cX5_takesName 17 = .ok (.putfield 114, 3) := by decide +kernel
theorem dX5_takesName_20 : decode cX5_takesName 20 = .ok (.aload_n 0, 1) := by decide +kernel
theorem dX5_takesName_21 : decode cX5_takesName 21 = .ok (.invokevirtual 49, 3) := by decide +kernel
theorem dX5_takesName_24 : decode cX5_takesName 24 = .ok (.iconst 1, 1) := by decide +kernel
theorem dX5_takesName_25 : decode cX5_takesName 25 = .ok (.if_icmp .ne 19, 3) := by decide +kernel
theorem dX5_takesName_28 : decode cX5_takesName 28 = .ok (.aload_n 0, 1) := by decide +kernel
theorem dX5_takesName_29 : decode cX5_takesName 29 = .ok (.getfield 12, 3) := by decide +kernel
theorem dX5_takesName_32 : decode cX5_takesName 32 = .ok (.getfield 67, 3) := by decide +kernel
theorem dX5_takesName_35 : decode cX5_takesName 35 = .ok (.aload_n 0, 1) := by decide +kernel
theorem dX5_takesName_36 : decode cX5_takesName 36 = .ok (.getfield 39, 3) := by decide +kernel
theorem dX5_takesName_39 : decode cX5_takesName 39 = .ok (.iaload, 1) := by decide +kernel
theorem dX5_takesName_40 : decode cX5_takesName 40 = .ok (.iconst 3, 1) := by decide +kernel
theorem dX5_takesName_41 : decode cX5_takesName 41 = .ok (.if_icmp .gt 11, 3) := by decide +kernel
theorem dX5_takesName_44 : decode cX5_takesName 44 = .ok (.aload_n 0, 1) := by decide +kernel
theorem dX5_takesName_45 : decode cX5_takesName 45 = .ok (.iconst 1, 1) := by decide +kernel
theorem dX5_takesName_46 : decode cX5_takesName 46 = .ok (.invokevirtual 56, 3) := by decide +kernel
theorem dX5_takesName_49 : decode cX5_takesName 49 = .ok (.ifCond .eq 7, 3) := by decide +kernel
theorem dX5_takesName_52 : decode cX5_takesName 52 = .ok (.iconst 1, 1) := by decide +kernel
theorem dX5_takesName_53 : decode cX5_takesName 53 = .ok (.goto 4, 3) := by decide +kernel
theorem dX5_takesName_56 : decode cX5_takesName 56 = .ok (.iconst 0, 1) := by decide +kernel
theorem dX5_takesName_57 : decode cX5_takesName 57 = .ok (.ireturn, 1) := by decide +kernel
theorem dX5_takesNewName_0 : decode cX5_takesNewName 0 = .ok (.aload_n 0, 1) := by decide +kernel
theorem dX5_takesNewName_1 : decode cX5_takesNewName 1 = .ok (.invokevirtual 164, 3) := by decide +kernel
theorem dX5_takesNewName_4 : decode cX5_takesNewName 4 = .ok (.ifCond .ne 5, 3) := by decide +kernel
theorem dX5_takesNewName_7 : decode cX5_takesNewName 7 = .ok (.iconst 0, 1) := by decide +kernel
theorem dX5_takesNewName_8 : decode cX5_takesNewName 8 = .ok (.ireturn, 1) := by decide +kernel
theorem dX5_takesNewName_9 : decode cX5_takesNewName 9 = .ok (.aload_n 0, 1) := by decide +kernel
theorem dX5_takesNewName_10 : decode cX5_takesNewName 10 = .ok (.getfield 21, 3) := by decide +kernel
theorem dX5_takesNewName_13 : decode cX5_takesNewName 13 = .ok (.aload_n 0, 1) := by decide +kernel
theorem dX5_takesNewName_14 : decode cX5_takesNewName 14 = .ok (.getfield 114, 3) := by decide +kernel
theorem dX5_takesNewName_17 : decode cX5_takesNewName 17 = .ok (.invokevirtual 167, 3) := by decide +kernel
theorem dX5_takesNewName_20 : decode cX5_takesNewName 20 = .ok (.iconst (-1), 1) := by decide +kernel
theorem dX5_takesNewName_21 : decode cX5_takesNewName 21 = .ok (.if_icmp .ne 18, 3) := by decide +kernel
theorem dX5_takesNewName_24 : decode cX5_takesNewName 24 = .ok (.aload_n 0, 1) := by decide +kernel
theorem dX5_takesNewName_25 : decode cX5_takesNewName 25 = .ok (.getfield 21, 3) := by decide +kernel
theorem dX5_takesNewName_28 : decode cX5_takesNewName 28 = .ok (.aload_n 0, 1) := by decide +kernel
theorem dX5_takesNewName_29 : decode cX5_takesNewName 29 = .ok (.getfield 114, 3) := by decide +kernel
theorem dX5_takesNewName_32 : decode cX5_takesNewName 32 = .ok (.invokevirtual 171, 3) := by decide +kernel
theorem dX5_takesNewName_35 : decode cX5_takesNewName 35 = .ok (.iconst (-1), 1) := by decide +kernel
theorem dX5_takesNewName_36 : decode cX5_takesNewName 36 = .ok (.if_icmp .eq 7, 3) := by decide +kernel
theorem dX5_takesNewName_39 : decode cX5_takesNewName 39 = .ok (.iconst 1, 1) := by decide +kernel
theorem dX5_takesNewName_40 : decode cX5_takesNewName 40 = .ok (.goto 4, 3) := by decide +kernel
theorem dX5_takesNewName_43 : decode cX5_takesNewName 43 = .ok (.iconst 0, 1) := by decide +kernel
theorem dX5_takesNewName_44 : decode cX5_takesNewName 44 = .ok (.istore_n 1, 1) := by decide +kernel
theorem dX5_takesNewName_45 : decode cX5_takesNewName 45 = .ok (.iload_n 1, 1) := by decide +kernel
theorem dX5_takesNewName_46 : decode cX5_takesNewName 46 = .ok (.ifCond .eq 11, 3) := by decide +kernel
theorem dX5_takesNewName_49 : decode cX5_takesNewName 49 = .ok (.aload_n 0, 1) := by decide +kernel
theorem dX5_takesNewName_50 : decode cX5_takesNewName 50 = .ok (.iconst 3, 1) := by decide +kernel
theorem dX5_takesNewName_51 : decode cX5_takesNewName 51 = .ok (.invokevirtual 56, 3) := by decide +kernel
theorem dX5_takesNewName_54 : decode cX5_takesNewName 54 = .ok (.ifCond .eq 7, 3) := by decide +kernel
theorem dX5_takesNewName_57 : decode cX5_takesNewName 57 = .ok (.iconst 1, 1) := by decide +kernel
theorem dX5_takesNewName_58 : decode cX5_takesNewName 58 = .ok (.goto 4, 3) := by decide +kernel
theorem dX5_takesNewName_61 : decode cX5_takesNewName 61 = .ok (.iconst 0, 1) := by decide +kernel
theorem dX5_takesNewName_62 : decode cX5_takesNewName 62 = .ok (.ireturn, 1) := by decide +kernel
theorem dX5_takesPerson_0 : decode cX5_takesPerson 0 = .ok (.aload_n 0, 1) := by decide +kernel
theorem dX5_takesPerson_1 : decode cX5_takesPerson 1 = .ok (.invokevirtual 164, 3) := by decide +kernel
theorem dX5_takesPerson_4 : decode cX5_takesPerson 4 = .ok (.ifCond .ne 5, 3) := by decide +kernel
theorem dX5_takesPerson_7 : decode cX5_takesPerson 7 = .ok (.iconst 0, 1) := by decide +kernel
theorem dX5_takesPerson_8 : decode cX5_takesPerson 8 = .ok (.ireturn, 1) := by decide +kernel
theorem dX5_takesPerson_9 : decode cX5_takesPerson 9 = .ok (.aload_n 0, 1) := by decide +kernel
theorem dX5_takesPerson_10 : decode cX5_takesPerson 10 = .ok (.aload_n 0, 1) := by decide +kernel
theorem dX5_takesPerson_11 : decode cX5_takesPerson 11 = .ok (.getfield 21, 3) := by decide +kernel
theorem dX5_takesPerson_14 : decode cX5_takesPerson 14 = .ok (.aload_n 0, 1) := by decide +kernel
theorem dX5_takesPerson_15 : decode cX5_takesPerson 15 = .ok (.getfield 114, 3) := by decide +kernel
theorem dX5_takesPerson_18 : decode cX5_takesPerson 18 = .ok (.invokevirtual 167, 3) := by decide +kernel
theorem dX5_takesPerson_21 : decode cX5_takesPerson 21 = .ok (.putfield 99, 3) := by decide +kernel
theorem dX5_takesPerson_24 : decode cX5_takesPerson 24 = .ok (.aload_n 0, 1) := by decide +kernel
theorem dX5_takesPerson_25 : decode cX5_takesPerson 25 = .ok (.getfield 99, 3) := by decide +kernel
theorem dX5_takesPerson_28 : decode cX5_takesPerson 28 = .ok (.iconst (-1), 1) := by decide +kernel
theorem dX5_takesPerson_29 : decode cX5_takesPerson 29 = .ok (.if_icmp .ne 11, 3) := by decide +kernel
theorem dX5_takesPerson_32 : decode cX5_takesPerson 32 = .ok (.aload_n 0, 1) := by decide +kernel
theorem dX5_takesPerson_33 : decode cX5_takesPerson 33 = .ok (.iconst 2, 1) := by decide +kernel
theorem dX5_takesPerson_34 : decode cX5_takesPerson 34 = .ok (.invokevirtual 56, 3) := by decide +kernel
theorem dX5_takesPerson_37 : decode cX5_takesPerson 37 = .ok (.ifCond .eq 7, 3) := by decide +kernel
theorem dX5_takesPerson_40 : decode cX5_takesPerson 40 = .ok (.iconst 1, 1) := by decide +kernel
theorem dX5_takesPerson_41 : decode cX5_takesPerson 41 = .ok (.goto 4, 3) := by decide +kernel
theorem dX5_takesPerson_44 : decode cX5_takesPerson 44 = .ok (.iconst 0, 1) := by decide +kernel
theorem dX5_takesPerson_45 : decode cX5_takesPerson 45 = .ok (.ireturn, 1) := by decide +kernel
theorem dX5_takesLink_0 : decode cX5_takesLink 0 = .ok (.aload_n 0, 1) := by decide +kernel
theorem dX5_takesLink_1 : decode cX5_takesLink 1 = .ok (.invokevirtual 164, 3) := by decide +kernel
theorem dX5_takesLink_4 : decode cX5_takesLink 4 = .ok (.ifCond .ne 5, 3) := by decide +kernel
theorem dX5_takesLink_7 : decode cX5_takesLink 7 = .ok (.iconst 0, 1) := by decide +kernel
theorem dX5_takesLink_8 : decode cX5_takesLink 8 = .ok (.ireturn, 1) := by decide +kernel
theorem dX5_takesLink_9 : decode cX5_takesLink 9 = .ok (.aload_n 0, 1) := by decide +kernel
theorem dX5_takesLink_10 : decode cX5_takesLink 10 = .ok (.aload_n 0, 1) := by decide +kernel
theorem dX5_takesLink_11 : decode cX5_takesLink 11 = .ok (.getfield 21, 3) := by decide +kernel
theorem dX5_takesLink_14 : decode cX5_takesLink 14 = .ok (.aload_n 0, 1) := by decide +kernel
theorem dX5_takesLink_15 : decode cX5_takesLink 15 = .ok (.getfield 114, 3) := by decide +kernel
theorem dX5_takesLink_18 : decode cX5_takesLink 18 = .ok (.invokevirtual 171, 3) := by decide +kernel
theorem dX5_takesLink_21 : decode cX5_takesLink 21 = .ok (.putfield 99, 3) := by decide +kernel
theorem dX5_takesLink_24 : decode cX5_takesLink 24 = .ok (.aload_n 0, 1) := by decide +kernel
theorem dX5_takesLink_25 : decode cX5_takesLink 25 = .ok (.getfield 99, 3) := by decide +kernel
theorem dX5_takesLink_28 : decode cX5_takesLink 28 = .ok (.iconst (-1), 1) := by decide +kernel
theorem dX5_takesLink_29 : decode cX5_takesLink 29 = .ok (.if_icmp .ne 11, 3) := by decide +kernel
theorem dX5_takesLink_32 : decode cX5_takesLink 32 = .ok (.aload_n 0, 1) := by decide +kernel
theorem dX5_takesLink_33 : decode cX5_takesLink 33 = .ok (.iconst 2, 1) := by decide +kernel
theorem dX5_takesLink_34 : decode cX5_takesLink 34 = .ok (.invokevirtual 56, 3) := by decide +kernel
theorem dX5_takesLink_37 : decode cX5_takesLink 37 = .ok (.ifCond .eq 7, 3) := by decide +kernel
theorem dX5_takesLink_40 : decode cX5_takesLink 40 = .ok (.iconst 1, 1) := by decide +kernel
theorem dX5_takesLink_41 : decode cX5_takesLink 41 = .ok (.goto 4, 3) := by decide +kernel
theorem dX5_takesLink_44 : decode cX5_takesLink 44 = .ok (.iconst 0, 1) := by decide +kernel
theorem dX5_takesLink_45 : decode cX5_takesLink 45 = .ok (.ireturn, 1) := by decide +kernel
theorem dX5_takesHand_0 : decode cX5_takesHand 0 = .ok (.aload_n 0, 1) := by decide +kernel
theorem dX5_takesHand_1 : decode cX5_takesHand 1 = .ok (.invokevirtual 70, 3) := by decide +kernel
theorem dX5_takesHand_4 : decode cX5_takesHand 4 = .ok (.aload_n 0, 1) := by decide +kernel
theorem dX5_takesHand_5 : decode cX5_takesHand 5 = .ok (.bipush 6, 2) := by decide +kernel
theorem dX5_takesHand_7 : decode cX5_takesHand 7 = .ok (.invokevirtual 73, 3) := by decide +kernel
theorem dX5_takesHand_10 : decode cX5_takesHand 10 = .ok (.ifCond .ne 18, 3) := by decide +kernel
theorem dX5_takesHand_13 : decode cX5_takesHand 13 = .ok (.aload_n 0, 1) := by decide +kernel
theorem dX5_takesHand_14 : decode cX5_takesHand 14 = .ok (.bipush 7, 2) := by decide +kernel
theorem dX5_takesHand_16 : decode cX5_takesHand 16 = .ok (.invokevirtual 73, 3) := by decide +kernel
theorem dX5_takesHand_19 : decode cX5_takesHand 19 = .ok (.ifCond .ne 9, 3) := by decide +kernel
theorem dX5_takesHand_22 : decode cX5_takesHand 22 = .ok (.aload_n 0, 1) := by decide +kernel
theorem dX5_takesHand_23 : decode cX5_takesHand 23 = .ok (.iconst 1, 1) := by decide +kernel
theorem dX5_takesHand_24 : decode cX5_takesHand 24 = .ok (.invokevirtual 56, 3) := by decide +kernel
theorem dX5_takesHand_27 : decode cX5_takesHand 27 = .ok (.ireturn, 1) := by decide +kernel
theorem dX5_takesHand_28 : decode cX5_takesHand 28 = .ok (.aload_n 0, 1) := by decide +kernel
theorem dX5_takesHand_29 : decode cX5_takesHand 29 = .ok (.iconst 2, 1) := by decide +kernel
theorem dX5_takesHand_30 : decode cX5_takesHand 30 = .ok (.iload_n 1, 1) := by decide +kernel
theorem dX5_takesHand_31 : decode cX5_takesHand 31 = .ok (.imul, 1) := by decide +kernel
theorem dX5_takesHand_32 : decode cX5_takesHand 32 = .ok (.aload_n 0, 1) := by decide +kernel
theorem dX5_takesHand_33 : decode cX5_takesHand 33 = .ok (.bipush 7, 2) := by decide +kernel
theorem dX5_takesHand_35 : decode cX5_takesHand 35 = .ok (.invokevirtual 73, 3) := by decide +kernel
theorem dX5_takesHand_38 : decode cX5_takesHand 38 = .ok (.ifCond .eq 7, 3) := by decide +kernel
theorem dX5_takesHand_41 : decode cX5_takesHand 41 = .ok (.iconst 1, 1) := by decide +kernel
theorem dX5_takesHand_42 : decode cX5_takesHand 42 = .ok (.goto 4, 3) := by decide +kernel
theorem dX5_takesHand_45 : decode cX5_takesHand 45 = .ok (.iconst 0, 1) := by decide +kernel
theorem dX5_takesHand_46 : decode cX5_takesHand 46 = .ok (.iadd, 1) := by decide +kernel
theorem dX5_takesHand_47 : decode cX5_takesHand 47 = .ok (.putfield 99, 3) := by decide +kernel
theorem dX5_takesHand_50 : decode cX5_takesHand 50 = .ok (.aload_n 0, 1) := by decide +kernel
theorem dX5_takesHand_51 : decode cX5_takesHand 51 = .ok (.getfield 21, 3) := by decide +kernel
theorem dX5_takesHand_54 : decode cX5_takesHand 54 = .ok (.aload_n 0, 1) := by decide +kernel
theorem dX5_takesHand_55 : decode cX5_takesHand 55 = .ok (.getfield 99, 3) := by decide +kernel
theorem dX5_takesHand_58 : decode cX5_takesHand 58 = .ok (.invokevirtual 174, 3) := by decide +kernel
theorem dX5_takesHand_61 : decode cX5_takesHand 61 = .ok (.ifCond .eq 11, 3) := by decide +kernel
theorem dX5_takesHand_64 : decode cX5_takesHand 64 = .ok (.aload_n 0, 1) := by decide +kernel
theorem dX5_takesHand_65 : decode cX5_takesHand 65 = .ok (.iconst 3, 1) := by decide +kernel
theorem dX5_takesHand_66 : decode cX5_takesHand 66 = .ok (.invokevirtual 56, 3) := by decide +kernel
theorem dX5_takesHand_69 : decode cX5_takesHand 69 = .ok (.ifCond .eq 7, 3) := by decide +kernel
theorem dX5_takesHand_72 : decode cX5_takesHand 72 = .ok (.iconst 1, 1) := by decide +kernel
theorem dX5_takesHand_73 : decode cX5_takesHand 73 = .ok (.goto 4, 3) := by decide +kernel
theorem dX5_takesHand_76 : decode cX5_takesHand 76 = .ok (.iconst 0, 1) := by decide +kernel
theorem dX5_takesHand_77 : decode cX5_takesHand 77 = .ok (.ireturn, 1) := by decide +kernel
theorem dX6_init_0 : decode cX6_init 0 = .ok (.aload_n 0, 1) := by decide +kernel
theorem dX6_init_1 : decode cX6_init 1 = .ok (.invokespecial 3, 3) := by decide +kernel
theorem dX6_init_4 : decode cX6_init 4 = .ok (.aload_n 0, 1) := by decide +kernel
theorem dX6_init_5 : decode cX6_init 5 = .ok (.bipush 8, 2) := by decide +kernel
theorem dX6_init_7 : decode cX6_init 7 = .ok (.newarray .int, 2) := by decide +kernel
theorem dX6_init_9 : decode cX6_init 9 = .ok (.putfield 9, 3) := by decide +kernel
theorem dX6_init_12 : decode cX6_init 12 = .ok (.aload_n 0, 1) := by decide +kernel
theorem dX6_init_13 : decode cX6_init 13 = .ok (.bipush 9, 2) := by decide +kernel
theorem dX6_init_15 : decode cX6_init 15 = .ok (.newarray .int, 2) := by decide +kernel
theorem dX6_init_17 : decode cX6_init 17 = .ok (.putfield 15, 3) := by decide +kernel
theorem dX6_init_20 : decode cX6_init 20 = .ok (.aload_n 0, 1) := by decide +kernel
theorem dX6_init_21 : decode cX6_init 21 = .ok (.bipush 9, 2) := by decide +kernel
theorem dX6_init_23 : decode cX6_init 23 = .ok (.newarray .int, 2) := by decide +kernel
theorem dX6_init_25 : decode cX6_init 25 = .ok (.putfield 18, 3) := by decide +kernel
theorem dX6_init_28 : decode cX6_init 28 = .ok (.aload_n 0, 1) := by decide +kernel
theorem dX6_init_29 : decode cX6_init 29 = .ok (.bipush 16, 2) := by decide +kernel
theorem dX6_init_31 : decode cX6_init 31 = .ok (.newarray .int, 2) := by decide +kernel
theorem dX6_init_33 : decode cX6_init 33 = .ok (.putfield 21, 3) := by decide +kernel
theorem dX6_init_36 : decode cX6_init 36 = .ok (.aload_n 0, 1) := by decide +kernel
theorem dX6_init_37 : decode cX6_init 37 = .ok (.bipush 16, 2) := by decide +kernel
theorem dX6_init_39 : decode cX6_init 39 = .ok (.newarray .int, 2) := by decide +kernel
theorem dX6_init_41 : decode cX6_init 41 = .ok (.putfield 24, 3) := by decide +kernel
theorem dX6_init_44 : decode cX6_init 44 = .ok (.aload_n 0, 1) := by decide +kernel
theorem dX6_init_45 : decode cX6_init 45 = .ok (.bipush 8, 2) := by decide +kernel
theorem dX6_init_47 : decode cX6_init 47 = .ok (.newarray .int, 2) := by decide +kernel
theorem dX6_init_49 : decode cX6_init 49 = .ok (.putfield 27, 3) := by decide +kernel
theorem dX6_init_52 : decode cX6_init 52 = .ok (.aload_n 0, 1) := by decide +kernel
theorem dX6_init_53 : decode cX6_init 53 = .ok (.bipush 8, 2) := by decide +kernel
theorem dX6_init_55 : decode cX6_init 55 = .ok (.newarray .int, 2) := by decide +kernel
theorem dX6_init_57 : decode cX6_init 57 = .ok (.putfield 30, 3) := by decide +kernel
theorem dX6_init_60 : decode cX6_init 60 = .ok (.aload_n 0, 1) := by decide +kernel
theorem dX6_init_61 : decode cX6_init 61 = .ok (.bipush 8, 2) := by decide +kernel
theorem dX6_init_63 : decode cX6_init 63 = .ok (.newarray .int, 2) := by decide +kernel
theorem dX6_init_65 : decode cX6_init 65 = .ok (.putfield 33, 3) := by decide +kernel
theorem dX6_init_68 : decode cX6_init 68 = .ok (.aload_n 0, 1) := by decide +kernel
theorem dX6_init_69 : decode cX6_init 69 = .ok (.bipush 8, 2) := by decide +kernel
theorem dX6_init_71 : decode cX6_init 71 = .ok (.newarray .int, 2) := by decide +kernel
theorem dX6_init_73 : decode cX6_init 73 = .ok (.putfield 36, 3) := by decide +kernel
theorem dX6_init_76 : decode cX6_init 76 = .ok (.aload_n 0, 1) := by decide +kernel
theorem dX6_init_77 : decode cX6_init 77 = .ok (.bipush 16, 2) := by decide +kernel
theorem dX6_init_79 : decode cX6_init 79 = .ok (.newarray .int, 2) := by decide +kernel
theorem dX6_init_81 : decode cX6_init 81 = .ok (.putfield 39, 3) := by decide +kernel
theorem dX6_init_84 : decode cX6_init 84 = .ok (.aload_n 0, 1) := by decide +kernel
theorem dX6_init_85 : decode cX6_init 85 = .ok (.bipush 8, 2) := by decide +kernel
theorem dX6_init_87 : decode cX6_init 87 = .ok (.newarray .boolean, 2) := by decide +kernel
theorem dX6_init_89 : decode cX6_init 89 = .ok (.putfield 42, 3) := by decide +kernel
theorem dX6_init_92 : decode cX6_init 92 = .ok (.return_, 1) := by decide +kernel
theorem dX6_ringWith_0 : decode cX6_ringWith 0 = .ok (.aload_n 0, 1) := by decide +kernel
theorem dX6_ringWith_1 : decode cX6_ringWith 1 = .ok (.getfield 24, 3) := by decide +kernel
theorem dX6_ringWith_4 : decode cX6_ringWith 4 = .ok (.iconst 2, 1) := by decide +kernel
theorem dX6_ringWith_5 : decode cX6_ringWith 5 = .ok (.iload_n 1, 1) := by decide +kernel
theorem dX6_ringWith_6 : decode cX6_ringWith 6 = .ok (.imul, 1) := by decide +kernel
theorem dX6_ringWith_7 : decode cX6_ringWith 7 = .ok (.iaload, 1) := by decide +kernel
theorem dX6_ringWith_8 : decode cX6_ringWith 8 = .ok (.istore_n 2, 1) := by decide +kernel
theorem dX6_ringWith_9 : decode cX6_ringWith 9 = .ok (.iload_n 2, 1) := by decide +kernel
theorem dX6_ringWith_10 : decode cX6_ringWith 10 = .ok (.ifCond .ge 7, 3) := by decide +kernel
theorem dX6_ringWith_13 : decode cX6_ringWith 13 = .ok (.iconst (-1), 1) := by decide +kernel
theorem dX6_ringWith_14 : decode cX6_ringWith 14 = .ok (.goto 9, 3) := by decide +kernel
theorem dX6_ringWith_17 : decode cX6_ringWith 17 = .ok (.aload_n 0, 1) := by decide +kernel
theorem dX6_ringWith_18 : decode cX6_ringWith 18 = .ok (.getfield 30, 3) := by decide +kernel
theorem dX6_ringWith_21 : decode cX6_ringWith 21 = .ok (.iload_n 2, 1) := by decide +kernel
theorem dX6_ringWith_22 : decode cX6_ringWith 22 = .ok (.iaload, 1) := by decide +kernel
theorem dX6_ringWith_23 : decode cX6_ringWith 23 = .ok (.ireturn, 1) := by decide +kernel
theorem dX6_peopleIn_0 : decode cX6_peopleIn 0 = .ok (.iload_n 1, 1) := by decide +kernel
theorem dX6_peopleIn_1 : decode cX6_peopleIn 1 = .ok (.ifCond .lt 29, 3) := by decide +kernel
theorem dX6_peopleIn_4 : decode cX6_peopleIn 4 = .ok (.iload_n 1, 1) := by decide +kernel
theorem dX6_peopleIn_5 : decode cX6_peopleIn 5 = .ok (.aload_n 0, 1) := by decide +kernel
theorem dX6_peopleIn_6 : decode cX6_peopleIn 6 = .ok (.getfield 46, 3) := by decide +kernel
theorem dX6_peopleIn_9 : decode cX6_peopleIn 9 = .ok (.if_icmp .ge 21, 3) := by decide +kernel
theorem dX6_peopleIn_12 : decode cX6_peopleIn 12 = .ok (.aload_n 0, 1) := by decide +kernel
theorem dX6_peopleIn_13 : decode cX6_peopleIn 13 = .ok (.getfield 15, 3) := by decide +kernel
theorem dX6_peopleIn_16 : decode cX6_peopleIn 16 = .ok (.iload_n 1, 1) := by decide +kernel
theorem dX6_peopleIn_17 : decode cX6_peopleIn 17 = .ok (.iconst 1, 1) := by decide +kernel
theorem dX6_peopleIn_18 : decode cX6_peopleIn 18 = .ok (.iadd, 1) := by decide +kernel
theorem dX6_peopleIn_19 : decode cX6_peopleIn 19 = .ok (.iaload, 1) := by decide +kernel
theorem dX6_peopleIn_20 : decode cX6_peopleIn 20 = .ok (.aload_n 0, 1) := by decide +kernel
theorem dX6_peopleIn_21 : decode cX6_peopleIn 21 = .ok (.getfield 15, 3) := by decide +kernel
theorem dX6_peopleIn_24 : decode cX6_peopleIn 24 = .ok (.iload_n 1, 1) := by decide +kernel
theorem dX6_peopleIn_25 : decode cX6_peopleIn 25 = .ok (.iaload, 1) := by decide +kernel
theorem dX6_peopleIn_26 : decode cX6_peopleIn 26 = .ok (.isub, 1) := by decide +kernel
theorem dX6_peopleIn_27 : decode cX6_peopleIn 27 = .ok (.goto 4, 3) := by decide +kernel
theorem dX6_peopleIn_30 : decode cX6_peopleIn 30 = .ok (.iconst 0, 1) := by decide +kernel
theorem dX6_peopleIn_31 : decode cX6_peopleIn 31 = .ok (.ireturn, 1) := by decide +kernel
theorem dX6_trace_0 : decode cX6_trace 0 = .ok (.aload_n 0, 1) := by decide +kernel
theorem dX6_trace_1 : decode cX6_trace 1 = .ok (.aload_n 1, 1) := by decide +kernel
theorem dX6_trace_2 : decode cX6_trace 2 = .ok (.getfield 50, 3) := by decide +kernel
theorem dX6_trace_5 : decode cX6_trace 5 = .ok (.putfield 55, 3) := by decide +kernel
theorem dX6_trace_8 : decode cX6_trace 8 = .ok (.aload_n 0, 1) := by decide +kernel
theorem dX6_trace_9 : decode cX6_trace 9 = .ok (.aload_n 1, 1) := by decide +kernel
theorem dX6_trace_10 : decode cX6_trace 10 = .ok (.getfield 56, 3) := by decide +kernel
theorem dX6_trace_13 : decode cX6_trace 13 = .ok (.putfield 59, 3) := by decide +kernel
theorem dX6_trace_16 : decode cX6_trace 16 = .ok (.aload_n 0, 1) := by decide +kernel
theorem dX6_trace_17 : decode cX6_trace 17 = .ok (.aload_n 1, 1) := by decide +kernel
theorem dX6_trace_18 : decode cX6_trace 18 = .ok (.getfield 60, 3) := by decide +kernel
theorem dX6_trace_21 : decode cX6_trace 21 = .ok (.putfield 63, 3) := by decide +kernel
theorem dX6_trace_24 : decode cX6_trace 24 = .ok (.aload_n 0, 1) := by decide +kernel
theorem dX6_trace_25 : decode cX6_trace 25 = .ok (.aload_n 1, 1) := by decide +kernel
theorem dX6_trace_26 : decode cX6_trace 26 = .ok (.getfield 64, 3) := by decide +kernel
theorem dX6_trace_29 : decode cX6_trace 29 = .ok (.putfield 67, 3) := by decide +kernel
theorem dX6_trace_32 : decode cX6_trace 32 = .ok (.aload_n 0, 1) := by decide +kernel
theorem dX6_trace_33 : decode cX6_trace 33 = .ok (.aload_n 1, 1) := by decide +kernel
theorem dX6_trace_34 : decode cX6_trace 34 = .ok (.getfield 68, 3) := by decide +kernel
theorem dX6_trace_37 : decode cX6_trace 37 = .ok (.putfield 72, 3) := by decide +kernel
theorem dX6_trace_40 : decode cX6_trace 40 = .ok (.aload_n 0, 1) := by decide +kernel
theorem dX6_trace_41 : decode cX6_trace 41 = .ok (.iconst 0, 1) := by decide +kernel
theorem dX6_trace_42 : decode cX6_trace 42 = .ok (.putfield 73, 3) := by decide +kernel
theorem dX6_trace_45 : decode cX6_trace 45 = .ok (.aload_n 0, 1) := by decide +kernel
theorem dX6_trace_46 : decode cX6_trace 46 = .ok (.iconst 0, 1) := by decide +kernel
theorem dX6_trace_47 : decode cX6_trace 47 = .ok (.putfield 46, 3) := by decide +kernel
theorem dX6_trace_50 : decode cX6_trace 50 = .ok (.aload_n 0, 1) := by decide +kernel
theorem dX6_trace_51 : decode cX6_trace 51 = .ok (.lconst 0, 1) := by decide +kernel
theorem dX6_trace_52 : decode cX6_trace 52 = .ok (.putfield 76, 3) := by decide +kernel
theorem dX6_trace_55 : decode cX6_trace 55 = .ok (.aload_n 1, 1) := by decide +kernel
theorem dX6_trace_56 : decode cX6_trace 56 = .ok (.getfield 80, 3) := by decide +kernel
theorem dX6_trace_59 : decode cX6_trace 59 = .ok (.iconst 0, 1) := by decide +kernel
theorem dX6_trace_60 : decode cX6_trace 60 = .ok (.aload_n 0, 1) := by decide +kernel
theorem dX6_trace_61 : decode cX6_trace 61 = .ok (.getfield 24, 3) := by decide +kernel
theorem dX6_trace_64 : decode cX6_trace 64 = .ok (.iconst 0, 1) := by decide +kernel
theorem dX6_trace_65 : decode cX6_trace 65 = .ok (.aload_n 0, 1) := by decide +kernel
theorem dX6_trace_66 : decode cX6_trace 66 = .ok (.getfield 24, 3) := by decide +kernel
theorem dX6_trace_69 : decode cX6_trace 69 = .ok (.arraylength, 1) := by decide +kernel
theorem dX6_trace_70 : decode cX6_trace 70 = .ok (.invokestatic 81, 3) := by decide +kernel
theorem dX6_trace_73 : decode cX6_trace 73 = .ok (.aload_n 0, 1) := by decide +kernel
theorem dX6_trace_74 : decode cX6_trace 74 = .ok (.getfield 30, 3) := by decide +kernel
theorem dX6_trace_77 : decode cX6_trace 77 = .ok (.iconst (-1), 1) := by decide +kernel
theorem dX6_trace_78 : decode cX6_trace 78 = .ok (.invokestatic 87, 3) := by decide +kernel
theorem dX6_trace_81 : decode cX6_trace 81 = .ok (.iconst 0, 1) := by decide +kernel
theorem dX6_trace_82 : decode cX6_trace 82 = .ok (.istore_n 2, 1) := by decide +kernel
theorem dX6_trace_83 : decode cX6_trace 83 = .ok (.iload_n 2, 1) := by decide +kernel
theorem dX6_trace_84 : decode cX6_trace 84 = .ok (.aload_n 0, 1) := by decide +kernel
theorem dX6_trace_85 : decode cX6_trace 85 = .ok (.getfield 59, 3) := by decide +kernel
theorem dX6_trace_88 : decode cX6_trace 88 = .ok (.if_icmp .ge 15, 3) := by decide +kernel
theorem dX6_trace_91 : decode cX6_trace 91 = .ok (.aload_n 0, 1) := by decide +kernel
theorem dX6_trace_92 : decode cX6_trace 92 = .ok (.aload_n 1, 1) := by decide +kernel
theorem dX6_trace_93 : decode cX6_trace 93 = .ok (.iload_n 2, 1) := by decide +kernel
theorem dX6_trace_94 : decode cX6_trace 94 = .ok (.invokevirtual 93, 3) := by decide +kernel
theorem dX6_trace_97 : decode cX6_trace 97 = .ok (.iinc 2 1, 3) := by decide +kernel
theorem dX6_trace_100 : decode cX6_trace 100 = .ok (.goto (-17), 3) := by decide +kernel
theorem dX6_trace_103 : decode cX6_trace 103 = .ok (.iconst 0, 1) := by decide +kernel
theorem dX6_trace_104 : decode cX6_trace 104 = .ok (.istore_n 2, 1) := by decide +kernel
theorem dX6_trace_105 : decode cX6_trace 105 = .ok (.iconst 0, 1) := by decide +kernel
theorem dX6_trace_106 : decode cX6_trace 106 = .ok (.istore_n 3, 1) := by decide +kernel
theorem dX6_trace_107 : decode cX6_trace 107 = .ok (.iload_n 3, 1) := by decide +kernel
theorem dX6_trace_108 : decode cX6_trace 108 = .ok (.aload_n 0, 1) := by decide +kernel
theorem dX6_trace_109 : decode cX6_trace 109 = .ok (.getfield 55, 3) := by decide +kernel
theorem dX6_trace_112 : decode cX6_trace 112 = .ok (.if_icmp .ge 26, 3) := by decide +kernel
theorem dX6_trace_115 : decode cX6_trace 115 = .ok (.aload_n 0, 1) := by decide +kernel
theorem dX6_trace_116 : decode cX6_trace 116 = .ok (.iload_n 3, 1) := by decide +kernel
theorem dX6_trace_117 : decode cX6_trace 117 = .ok (.invokevirtual 97, 3) := by decide +kernel
theorem dX6_trace_120 : decode cX6_trace 120 = .ok (.iconst (-1), 1) := by decide +kernel
theorem dX6_trace_121 : decode cX6_trace 121 = .ok (.if_icmp .ne 11, 3) := by decide +kernel
theorem dX6_trace_124 : decode cX6_trace 124 = .ok (.aload_n 0, 1) := by decide +kernel
theorem dX6_trace_125 : decode cX6_trace 125 = .ok (.aload_n 1, 1) := by decide +kernel
theorem dX6_trace_126 : decode cX6_trace 126 = .ok (.iload_n 3, 1) := by decide +kernel
theorem dX6_trace_127 : decode cX6_trace 127 = .ok (.iload_n 2, 1) := by decide +kernel
theorem dX6_trace_128 : decode cX6_trace 128 = .ok (.invokevirtual 101, 3) := by decide +kernel
theorem dX6_trace_131 : decode cX6_trace 131 = .ok (.istore_n 2, 1) := by decide +kernel
theorem dX6_trace_132 : decode cX6_trace 132 = .ok (.iinc 3 1, 3) := by decide +kernel
theorem dX6_trace_135 : decode cX6_trace 135 = .ok (.goto (-28), 3) := by decide +kernel
theorem dX6_trace_138 : decode cX6_trace 138 = .ok (.aload_n 0, 1) := by decide +kernel
theorem dX6_trace_139 : decode cX6_trace 139 = .ok (.aload_n 1, 1) := by decide +kernel
theorem dX6_trace_140 : decode cX6_trace 140 = .ok (.invokevirtual 105, 3) := by decide +kernel
theorem dX6_trace_143 : decode cX6_trace 143 = .ok (.return_, 1) := by decide +kernel
theorem dX6_traceHands_0 : decode cX6_traceHands 0 = .ok (.aload_n 1, 1) := by decide +kernel
theorem dX6_traceHands_1 : decode cX6_traceHands 1 = .ok (.getfield 109, 3) := by decide +kernel
theorem dX6_traceHands_4 : decode cX6_traceHands 4 = .ok (.iconst 2, 1) := by decide +kernel
theorem dX6_traceHands_5 : decode cX6_traceHands 5 = .ok (.iload_n 2, 1) := by decide +kernel
theorem dX6_traceHands_6 : decode cX6_traceHands 6 = .ok (.imul, 1) := by decide +kernel
theorem dX6_traceHands_7 : decode cX6_traceHands 7 = .ok (.iaload, 1) := by decide +kernel
theorem dX6_traceHands_8 : decode cX6_traceHands 8 = .ok (.istore_n 3, 1) := by decide +kernel
theorem dX6_traceHands_9 : decode cX6_traceHands 9 = .ok (.aload_n 1, 1) := by decide +kernel
theorem dX6_traceHands_10 : decode cX6_traceHands 10 = .ok (.getfield 109, 3) := by decide +kernel
theorem dX6_traceHands_13 : decode cX6_traceHands 13 = .ok (.iconst 2, 1) := by decide +kernel
theorem dX6_traceHands_14 : decode cX6_traceHands 14 = .ok (.iload_n 2, 1) := by decide +kernel
theorem dX6_traceHands_15 : decode cX6_traceHands 15 = .ok (.imul, 1) := by decide +kernel
theorem dX6_traceHands_16 : decode cX6_traceHands 16 = .ok (.iconst 1, 1) := by decide +kernel
theorem dX6_traceHands_17 : decode cX6_traceHands 17 = .ok (.iadd, 1) := by decide +kernel
theorem dX6_traceHands_18 : decode cX6_traceHands 18 = .ok (.iaload, 1) := by decide +kernel
theorem dX6_traceHands_19 : decode cX6_traceHands 19 = .ok (.istore 4, 2) := by decide +kernel
theorem dX6_traceHands_21 : decode cX6_traceHands 21 = .ok (.aload_n 0, 1) := by decide +kernel
theorem dX6_traceHands_22 : decode cX6_traceHands 22 = .ok (.getfield 21, 3) := by decide +kernel
theorem dX6_traceHands_25 : decode cX6_traceHands 25 = .ok (.iload_n 3, 1) := by decide +kernel
theorem dX6_traceHands_26 : decode cX6_traceHands 26 = .ok (.iload 4, 2) := by decide +kernel
theorem dX6_traceHands_28 : decode cX6_traceHands 28 = .ok (.iastore, 1) := by decide +kernel
theorem dX6_traceHands_29 : decode cX6_traceHands 29 = .ok (.aload_n 0, 1) := by decide +kernel
theorem dX6_traceHands_30 : decode cX6_traceHands 30 = .ok (.getfield 21, 3) := by decide +kernel
theorem dX6_traceHands_33 : decode cX6_traceHands 33 = .ok (.iload 4, 2) := by decide +kernel
theorem dX6_traceHands_35 : decode cX6_traceHands 35 = .ok (.iload_n 3, 1) := by decide +kernel
theorem dX6_traceHands_36 : decode cX6_traceHands 36 = .ok (.iastore, 1) := by decide +kernel
theorem dX6_traceHands_37 : decode cX6_traceHands 37 = .ok (.iload_n 3, 1) := by decide +kernel
theorem dX6_traceHands_38 : decode cX6_traceHands 38 = .ok (.iconst 2, 1) := by decide +kernel
theorem dX6_traceHands_39 : decode cX6_traceHands 39 = .ok (.idiv, 1) := by decide +kernel
theorem dX6_traceHands_40 : decode cX6_traceHands 40 = .ok (.iload 4, 2) := by decide +kernel
theorem dX6_traceHands_42 : decode cX6_traceHands 42 = .ok (.iconst 2, 1) := by decide +kernel
theorem dX6_traceHands_43 : decode cX6_traceHands 43 = .ok (.idiv, 1) := by decide +kernel
theorem dX6_traceHands_44 : decode cX6_traceHands 44 = .ok (.invokestatic 112, 3) := by decide +kernel
theorem dX6_traceHands_47 : decode cX6_traceHands 47 = .ok (.istore 5, 2) := by decide +kernel
theorem dX6_traceHands_49 : decode cX6_traceHands 49 = .ok (.iload_n 3, 1) := by decide +kernel
theorem dX6_traceHands_50 : decode cX6_traceHands 50 = .ok (.iconst 2, 1) := by decide +kernel
theorem dX6_traceHands_51 : decode cX6_traceHands 51 = .ok (.idiv, 1) := by decide +kernel
theorem dX6_traceHands_52 : decode cX6_traceHands 52 = .ok (.iload 4, 2) := by decide +kernel
theorem dX6_traceHands_54 : decode cX6_traceHands 54 = .ok (.iconst 2, 1) := by decide +kernel
theorem dX6_traceHands_55 : decode cX6_traceHands 55 = .ok (.idiv, 1) := by decide +kernel
theorem dX6_traceHands_56 : decode cX6_traceHands 56 = .ok (.invokestatic 118, 3) := by decide +kernel
theorem dX6_traceHands_59 : decode cX6_traceHands 59 = .ok (.istore 6, 2) := by decide +kernel
theorem dX6_traceHands_61 : decode cX6_traceHands 61 = .ok (.aload_n 0, 1) := by decide +kernel
theorem dX6_traceHands_62 : decode cX6_traceHands 62 = .ok (.getfield 36, 3) := by decide +kernel
theorem dX6_traceHands_65 : decode cX6_traceHands 65 = .ok (.iload_n 2, 1) := by decide +kernel
theorem dX6_traceHands_66 : decode cX6_traceHands 66 = .ok (.aload_n 1, 1) := by decide +kernel
theorem dX6_traceHands_67 : decode cX6_traceHands 67 = .ok (.getfield 121, 3) := by decide +kernel
theorem dX6_traceHands_70 : decode cX6_traceHands 70 = .ok (.iload 6, 2) := by decide +kernel
theorem dX6_traceHands_72 : decode cX6_traceHands 72 = .ok (.iaload, 1) := by decide +kernel
theorem dX6_traceHands_73 : decode cX6_traceHands 73 = .ok (.aload_n 1, 1) := by decide +kernel
theorem dX6_traceHands_74 : decode cX6_traceHands 74 = .ok (.getfield 121, 3) := by decide +kernel
theorem dX6_traceHands_77 : decode cX6_traceHands 77 = .ok (.iload 5, 2) := by decide +kernel
theorem dX6_traceHands_79 : decode cX6_traceHands 79 = .ok (.iaload, 1) := by decide +kernel
theorem dX6_traceHands_80 : decode cX6_traceHands 80 = .ok (.if_icmp .ge 8, 3) := by decide +kernel
theorem dX6_traceHands_83 : decode cX6_traceHands 83 = .ok (.iload 6, 2) := by decide +kernel
theorem dX6_traceHands_85 : decode cX6_traceHands 85 = .ok (.goto 5, 3) := by decide +kernel
theorem dX6_traceHands_88 : decode cX6_traceHands 88 = .ok (.iload 5, 2) := by decide +kernel
theorem dX6_traceHands_90 : decode cX6_traceHands 90 = .ok (.iastore, 1) := by decide +kernel
theorem dX6_traceHands_91 : decode cX6_traceHands 91 = .ok (.aload_n 0, 1) := by decide +kernel
theorem dX6_traceHands_92 : decode cX6_traceHands 92 = .ok (.getfield 42, 3) := by decide +kernel
theorem dX6_traceHands_95 : decode cX6_traceHands 95 = .ok (.iload_n 2, 1) := by decide +kernel
theorem dX6_traceHands_96 : decode cX6_traceHands 96 = .ok (.aload_n 1, 1) := by decide +kernel
theorem dX6_traceHands_97 : decode cX6_traceHands 97 = .ok (.getfield 121, 3) := by decide +kernel
theorem dX6_traceHands_100 : decode cX6_traceHands 100 = .ok (.aload_n 0, 1) := by decide +kernel
theorem dX6_traceHands_101 : decode cX6_traceHands 101 = .ok (.getfield 36, 3) := by decide +kernel
theorem dX6_traceHands_104 : decode cX6_traceHands 104 = .ok (.iload_n 2, 1) := by decide +kernel
theorem dX6_traceHands_105 : decode cX6_traceHands 105 = .ok (.iaload, 1) := by decide +kernel
theorem dX6_traceHands_106 : decode cX6_traceHands 106 = .ok (.iaload, 1) := by decide +kernel
theorem dX6_traceHands_107 : decode cX6_traceHands 107 = .ok (.aload_n 0, 1) := by decide +kernel
theorem dX6_traceHands_108 : decode cX6_traceHands 108 = .ok (.getfield 67, 3) := by decide +kernel
theorem dX6_traceHands_111 : decode cX6_traceHands 111 = .ok (.if_icmp .gt 7, 3) := by decide +kernel
theorem dX6_traceHands_114 : decode cX6_traceHands 114 = .ok (.iconst 1, 1) := by decide +kernel
theorem dX6_traceHands_115 : decode cX6_traceHands 115 = .ok (.goto 4, 3) := by decide +kernel
theorem dX6_traceHands_118 : decode cX6_traceHands 118 = .ok (.iconst 0, 1) := by decide +kernel
theorem dX6_traceHands_119 : decode cX6_traceHands 119 = .ok (.bastore, 1) := by decide +kernel
theorem dX6_traceHands_120 : decode cX6_traceHands 120 = .ok (.return_, 1) := by decide +kernel
theorem dX6_traceRing_0 : decode cX6_traceRing 0 = .ok (.iload_n 3, 1) := by decide +kernel
theorem dX6_traceRing_1 : decode cX6_traceRing 1 = .ok (.istore 4, 2) := by decide +kernel
theorem dX6_traceRing_3 : decode cX6_traceRing 3 = .ok (.iconst 2, 1) := by decide +kernel
theorem dX6_traceRing_4 : decode cX6_traceRing 4 = .ok (.iload_n 2, 1) := by decide +kernel
theorem dX6_traceRing_5 : decode cX6_traceRing 5 = .ok (.imul, 1) := by decide +kernel
theorem dX6_traceRing_6 : decode cX6_traceRing 6 = .ok (.istore 5, 2) := by decide +kernel
theorem dX6_traceRing_8 : decode cX6_traceRing 8 = .ok (.aload_n 0, 1) := by decide +kernel
theorem dX6_traceRing_9 : decode cX6_traceRing 9 = .ok (.getfield 15, 3) := by decide +kernel
theorem dX6_traceRing_12 : decode cX6_traceRing 12 = .ok (.aload_n 0, 1) := by decide +kernel
theorem dX6_traceRing_13 : decode cX6_traceRing 13 = .ok (.getfield 46, 3) := by decide +kernel
theorem dX6_traceRing_16 : decode cX6_traceRing 16 = .ok (.iload 4, 2) := by decide +kernel
theorem dX6_traceRing_18 : decode cX6_traceRing 18 = .ok (.iastore, 1) := by decide +kernel
theorem dX6_traceRing_19 : decode cX6_traceRing 19 = .ok (.aload_n 0, 1) := by decide +kernel
theorem dX6_traceRing_20 : decode cX6_traceRing 20 = .ok (.getfield 18, 3) := by decide +kernel
theorem dX6_traceRing_23 : decode cX6_traceRing 23 = .ok (.aload_n 0, 1) := by decide +kernel
theorem dX6_traceRing_24 : decode cX6_traceRing 24 = .ok (.getfield 46, 3) := by decide +kernel
theorem dX6_traceRing_27 : decode cX6_traceRing 27 = .ok (.aload_n 0, 1) := by decide +kernel
theorem dX6_traceRing_28 : decode cX6_traceRing 28 = .ok (.getfield 73, 3) := by decide +kernel
theorem dX6_traceRing_31 : decode cX6_traceRing 31 = .ok (.iastore, 1) := by decide +kernel
theorem dX6_traceRing_32 : decode cX6_traceRing 32 = .ok (.iconst 0, 1) := by decide +kernel
theorem dX6_traceRing_33 : decode cX6_traceRing 33 = .ok (.istore 6, 2) := by decide +kernel
theorem dX6_traceRing_35 : decode cX6_traceRing 35 = .ok (.iload 6, 2) := by decide +kernel
theorem dX6_traceRing_37 : decode cX6_traceRing 37 = .ok (.aload_n 0, 1) := by decide +kernel
theorem dX6_traceRing_38 : decode cX6_traceRing 38 = .ok (.getfield 55, 3) := by decide +kernel
theorem dX6_traceRing_41 : decode cX6_traceRing 41 = .ok (.if_icmp .ge 104, 3) := by decide +kernel
theorem dX6_traceRing_44 : decode cX6_traceRing 44 = .ok (.iload 4, 2) := by decide +kernel
theorem dX6_traceRing_46 : decode cX6_traceRing 46 = .ok (.aload_n 0, 1) := by decide +kernel
theorem dX6_traceRing_47 : decode cX6_traceRing 47 = .ok (.getfield 55, 3) := by decide +kernel
theorem dX6_traceRing_50 : decode cX6_traceRing 50 = .ok (.if_icmp .ge 95, 3) := by decide +kernel
theorem dX6_traceRing_53 : decode cX6_traceRing 53 = .ok (.aload_n 0, 1) := by decide +kernel
theorem dX6_traceRing_54 : decode cX6_traceRing 54 = .ok (.getfield 24, 3) := by decide +kernel
theorem dX6_traceRing_57 : decode cX6_traceRing 57 = .ok (.iload 5, 2) := by decide +kernel
theorem dX6_traceRing_59 : decode cX6_traceRing 59 = .ok (.iaload, 1) := by decide +kernel
theorem dX6_traceRing_60 : decode cX6_traceRing 60 = .ok (.ifCond .lt 85, 3) := by decide +kernel
theorem dX6_traceRing_63 : decode cX6_traceRing 63 = .ok (.aload_n 0, 1) := by decide +kernel
theorem dX6_traceRing_64 : decode cX6_traceRing 64 = .ok (.getfield 9, 3) := by decide +kernel
theorem dX6_traceRing_67 : decode cX6_traceRing 67 = .ok (.iload 4, 2) := by decide +kernel
theorem dX6_traceRing_69 : decode cX6_traceRing 69 = .ok (.iload 5, 2) := by decide +kernel
theorem dX6_traceRing_71 : decode cX6_traceRing 71 = .ok (.iconst 2, 1) := by decide +kernel
theorem dX6_traceRing_72 : decode cX6_traceRing 72 = .ok (.idiv, 1) := by decide +kernel
theorem dX6_traceRing_73 : decode cX6_traceRing 73 = .ok (.iastore, 1) := by decide +kernel
theorem dX6_traceRing_74 : decode cX6_traceRing 74 = .ok (.iinc 4 1, 3) := by decide +kernel
theorem dX6_traceRing_77 : decode cX6_traceRing 77 = .ok (.aload_n 0, 1) := by decide +kernel
theorem dX6_traceRing_78 : decode cX6_traceRing 78 = .ok (.getfield 24, 3) := by decide +kernel
theorem dX6_traceRing_81 : decode cX6_traceRing 81 = .ok (.iload 5, 2) := by decide +kernel
theorem dX6_traceRing_83 : decode cX6_traceRing 83 = .ok (.iaload, 1) := by decide +kernel
theorem dX6_traceRing_84 : decode cX6_traceRing 84 = .ok (.istore 7, 2) := by decide +kernel
theorem dX6_traceRing_86 : decode cX6_traceRing 86 = .ok (.aload_n 0, 1) := by decide +kernel
theorem dX6_traceRing_87 : decode cX6_traceRing 87 = .ok (.aload_n 1, 1) := by decide +kernel
theorem dX6_traceRing_88 : decode cX6_traceRing 88 = .ok (.iload 7, 2) := by decide +kernel
theorem dX6_traceRing_90 : decode cX6_traceRing 90 = .ok (.aload_n 1, 1) := by decide +kernel
theorem dX6_traceRing_91 : decode cX6_traceRing 91 = .ok (.getfield 109, 3) := by decide +kernel
theorem dX6_traceRing_94 : decode cX6_traceRing 94 = .ok (.iconst 2, 1) := by decide +kernel
theorem dX6_traceRing_95 : decode cX6_traceRing 95 = .ok (.iload 7, 2) := by decide +kernel
theorem dX6_traceRing_97 : decode cX6_traceRing 97 = .ok (.imul, 1) := by decide +kernel
theorem dX6_traceRing_98 : decode cX6_traceRing 98 = .ok (.iaload, 1) := by decide +kernel
theorem dX6_traceRing_99 : decode cX6_traceRing 99 = .ok (.iload 5, 2) := by decide +kernel
theorem dX6_traceRing_101 : decode cX6_traceRing 101 = .ok (.if_icmp .ne 7, 3) := by decide +kernel
theorem dX6_traceRing_104 : decode cX6_traceRing 104 = .ok (.iconst 1, 1) := by decide +kernel
theorem dX6_traceRing_105 : decode cX6_traceRing 105 = .ok (.goto 4, 3) := by decide +kernel
theorem dX6_traceRing_108 : decode cX6_traceRing 108 = .ok (.iconst 0, 1) := by decide +kernel
theorem dX6_traceRing_109 : decode cX6_traceRing 109 = .ok (.invokevirtual 124, 3) := by decide +kernel
theorem dX6_traceRing_112 : decode cX6_traceRing 112 = .ok (.aload_n 0, 1) := by decide +kernel
theorem dX6_traceRing_113 : decode cX6_traceRing 113 = .ok (.getfield 21, 3) := by decide +kernel
theorem dX6_traceRing_116 : decode cX6_traceRing 116 = .ok (.iload 5, 2) := by decide +kernel
theorem dX6_traceRing_118 : decode cX6_traceRing 118 = .ok (.iaload, 1) := by decide +kernel
theorem dX6_traceRing_119 : decode cX6_traceRing 119 = .ok (.iconst 2, 1) := by decide +kernel
theorem dX6_traceRing_120 : decode cX6_traceRing 120 = .ok (.idiv, 1) := by decide +kernel
theorem dX6_traceRing_121 : decode cX6_traceRing 121 = .ok (.iload_n 2, 1) := by decide +kernel
theorem dX6_traceRing_122 : decode cX6_traceRing 122 = .ok (.if_icmp .ne 6, 3) := by decide +kernel
theorem dX6_traceRing_125 : decode cX6_traceRing 125 = .ok (.goto 20, 3) := by decide +kernel
theorem dX6_traceRing_128 : decode cX6_traceRing 128 = .ok (.aload_n 0, 1) := by decide +kernel
theorem dX6_traceRing_129 : decode cX6_traceRing 129 = .ok (.getfield 21, 3) := by decide +kernel
theorem dX6_traceRing_132 : decode cX6_traceRing 132 = .ok (.iload 5, 2) := by decide +kernel
theorem dX6_traceRing_134 : decode cX6_traceRing 134 = .ok (.iaload, 1) := by decide +kernel
theorem dX6_traceRing_135 : decode cX6_traceRing 135 = .ok (.iconst 1, 1) := by decide +kernel
theorem dX6_traceRing_136 : decode cX6_traceRing 136 = .ok (.ixor, 1) := by decide +kernel
theorem dX6_traceRing_137 : decode cX6_traceRing 137 = .ok (.istore 5, 2) := by decide +kernel
theorem dX6_traceRing_139 : decode cX6_traceRing 139 = .ok (.iinc 6 1, 3) := by decide +kernel
theorem dX6_traceRing_142 : decode cX6_traceRing 142 = .ok (.goto (-107), 3) := by decide +kernel
theorem dX6_traceRing_145 : decode cX6_traceRing 145 = .ok (.aload_n 0, 1) := by decide +kernel
theorem dX6_traceRing_146 : decode cX6_traceRing 146 = .ok (.dup, 1) := by decide +kernel
theorem dX6_traceRing_147 : decode cX6_traceRing 147 = .ok (.getfield 46, 3) := by decide +kernel
theorem dX6_traceRing_150 : decode cX6_traceRing 150 = .ok (.iconst 1, 1) := by decide +kernel
theorem dX6_traceRing_151 : decode cX6_traceRing 151 = .ok (.iadd, 1) := by decide +kernel
theorem dX6_traceRing_152 : decode cX6_traceRing 152 = .ok (.putfield 46, 3) := by decide +kernel
theorem dX6_traceRing_155 : decode cX6_traceRing 155 = .ok (.aload_n 0, 1) := by decide +kernel
theorem dX6_traceRing_156 : decode cX6_traceRing 156 = .ok (.getfield 15, 3) := by decide +kernel
theorem dX6_traceRing_159 : decode cX6_traceRing 159 = .ok (.aload_n 0, 1) := by decide +kernel
theorem dX6_traceRing_160 : decode cX6_traceRing 160 = .ok (.getfield 46, 3) := by decide +kernel
theorem dX6_traceRing_163 : decode cX6_traceRing 163 = .ok (.iload 4, 2) := by decide +kernel
theorem dX6_traceRing_165 : decode cX6_traceRing 165 = .ok (.iastore, 1) := by decide +kernel
theorem dX6_traceRing_166 : decode cX6_traceRing 166 = .ok (.aload_n 0, 1) := by decide +kernel
theorem dX6_traceRing_167 : decode cX6_traceRing 167 = .ok (.getfield 18, 3) := by decide +kernel
theorem dX6_traceRing_170 : decode cX6_traceRing 170 = .ok (.aload_n 0, 1) := by decide +kernel
theorem dX6_traceRing_171 : decode cX6_traceRing 171 = .ok (.getfield 46, 3) := by decide +kernel
theorem dX6_traceRing_174 : decode cX6_traceRing 174 = .ok (.aload_n 0, 1) := by decide +kernel
theorem dX6_traceRing_175 : decode cX6_traceRing 175 = .ok (.getfield 73, 3) := by decide +kernel
theorem dX6_traceRing_178 : decode cX6_traceRing 178 = .ok (.iastore, 1) := by decide +kernel
theorem dX6_traceRing_179 : decode cX6_traceRing 179 = .ok (.iload 4, 2) := by decide +kernel
theorem dX6_traceRing_181 : decode cX6_traceRing 181 = .ok (.ireturn, 1) := by decide +kernel
theorem dX6_traceLink_0 : decode cX6_traceLink 0 = .ok (.aload_n 0, 1) := by decide +kernel
theorem dX6_traceLink_1 : decode cX6_traceLink 1 = .ok (.getfield 27, 3) := by decide +kernel
theorem dX6_traceLink_4 : decode cX6_traceLink 4 = .ok (.iload_n 2, 1) := by decide +kernel
theorem dX6_traceLink_5 : decode cX6_traceLink 5 = .ok (.iload_n 3, 1) := by decide +kernel
theorem dX6_traceLink_6 : decode cX6_traceLink 6 = .ok (.ifCond .eq 7, 3) := by decide +kernel
theorem dX6_traceLink_9 : decode cX6_traceLink 9 = .ok (.iconst 1, 1) := by decide +kernel
theorem dX6_traceLink_10 : decode cX6_traceLink 10 = .ok (.goto 4, 3) := by decide +kernel
theorem dX6_traceLink_13 : decode cX6_traceLink 13 = .ok (.iconst 0, 1) := by decide +kernel
theorem dX6_traceLink_14 : decode cX6_traceLink 14 = .ok (.iastore, 1) := by decide +kernel
theorem dX6_traceLink_15 : decode cX6_traceLink 15 = .ok (.aload_n 0, 1) := by decide +kernel
theorem dX6_traceLink_16 : decode cX6_traceLink 16 = .ok (.getfield 30, 3) := by decide +kernel
theorem dX6_traceLink_19 : decode cX6_traceLink 19 = .ok (.iload_n 2, 1) := by decide +kernel
theorem dX6_traceLink_20 : decode cX6_traceLink 20 = .ok (.aload_n 0, 1) := by decide +kernel
theorem dX6_traceLink_21 : decode cX6_traceLink 21 = .ok (.getfield 46, 3) := by decide +kernel
theorem dX6_traceLink_24 : decode cX6_traceLink 24 = .ok (.iastore, 1) := by decide +kernel
theorem dX6_traceLink_25 : decode cX6_traceLink 25 = .ok (.aload_n 0, 1) := by decide +kernel
theorem dX6_traceLink_26 : decode cX6_traceLink 26 = .ok (.getfield 33, 3) := by decide +kernel
theorem dX6_traceLink_29 : decode cX6_traceLink 29 = .ok (.iload_n 2, 1) := by decide +kernel
theorem dX6_traceLink_30 : decode cX6_traceLink 30 = .ok (.aload_n 0, 1) := by decide +kernel
theorem dX6_traceLink_31 : decode cX6_traceLink 31 = .ok (.getfield 73, 3) := by decide +kernel
theorem dX6_traceLink_34 : decode cX6_traceLink 34 = .ok (.iastore, 1) := by decide +kernel
theorem dX6_traceLink_35 : decode cX6_traceLink 35 = .ok (.iconst 1, 1) := by decide +kernel
theorem dX6_traceLink_36 : decode cX6_traceLink 36 = .ok (.istore 4, 2) := by decide +kernel
theorem dX6_traceLink_38 : decode cX6_traceLink 38 = .ok (.iload 4, 2) := by decide +kernel
theorem dX6_traceLink_40 : decode cX6_traceLink 40 = .ok (.bipush 9, 2) := by decide +kernel
theorem dX6_traceLink_42 : decode cX6_traceLink 42 = .ok (.if_icmp .gt 85, 3) := by decide +kernel
theorem dX6_traceLink_45 : decode cX6_traceLink 45 = .ok (.aload_n 1, 1) := by decide +kernel
theorem dX6_traceLink_46 : decode cX6_traceLink 46 = .ok (.iload_n 2, 1) := by decide +kernel
theorem dX6_traceLink_47 : decode cX6_traceLink 47 = .ok (.iload_n 3, 1) := by decide +kernel
theorem dX6_traceLink_48 : decode cX6_traceLink 48 = .ok (.ifCond .eq 8, 3) := by decide +kernel
theorem dX6_traceLink_51 : decode cX6_traceLink 51 = .ok (.iload 4, 2) := by decide +kernel
theorem dX6_traceLink_53 : decode cX6_traceLink 53 = .ok (.goto 8, 3) := by decide +kernel
theorem dX6_traceLink_56 : decode cX6_traceLink 56 = .ok (.bipush 10, 2) := by decide +kernel
theorem dX6_traceLink_58 : decode cX6_traceLink 58 = .ok (.iload 4, 2) := by decide +kernel
theorem dX6_traceLink_60 : decode cX6_traceLink 60 = .ok (.isub, 1) := by decide +kernel
theorem dX6_traceLink_61 : decode cX6_traceLink 61 = .ok (.invokevirtual 128, 3) := by decide +kernel
theorem dX6_traceLink_64 : decode cX6_traceLink 64 = .ok (.i2l, 1) := by decide +kernel
theorem dX6_traceLink_65 : decode cX6_traceLink 65 = .ok (.lstore 5, 2) := by decide +kernel
theorem dX6_traceLink_67 : decode cX6_traceLink 67 = .ok (.lload 5, 2) := by decide +kernel
theorem dX6_traceLink_69 : decode cX6_traceLink 69 = .ok (.lconst 0, 1) := by decide +kernel
theorem dX6_traceLink_70 : decode cX6_traceLink 70 = .ok (.lcmp, 1) := by decide +kernel
theorem dX6_traceLink_71 : decode cX6_traceLink 71 = .ok (.ifCond .eq 50, 3) := by decide +kernel
theorem dX6_traceLink_74 : decode cX6_traceLink 74 = .ok (.aload_n 0, 1) := by decide +kernel
theorem dX6_traceLink_75 : decode cX6_traceLink 75 = .ok (.getfield 73, 3) := by decide +kernel
theorem dX6_traceLink_78 : decode cX6_traceLink 78 = .ok (.bipush 14, 2) := by decide +kernel
theorem dX6_traceLink_80 : decode cX6_traceLink 80 = .ok (.if_icmp .ge 41, 3) := by decide +kernel
theorem dX6_traceLink_83 : decode cX6_traceLink 83 = .ok (.aload_n 0, 1) := by decide +kernel
theorem dX6_traceLink_84 : decode cX6_traceLink 84 = .ok (.dup, 1) := by decide +kernel
theorem dX6_traceLink_85 : decode cX6_traceLink 85 = .ok (.getfield 76, 3) := by decide +kernel
theorem dX6_traceLink_88 : decode cX6_traceLink 88 = .ok (.lload 5, 2) := by decide +kernel
theorem dX6_traceLink_90 : decode cX6_traceLink 90 = .ok (.iconst 4, 1) := by decide +kernel
theorem dX6_traceLink_91 : decode cX6_traceLink 91 = .ok (.aload_n 0, 1) := by decide +kernel
theorem dX6_traceLink_92 : decode cX6_traceLink 92 = .ok (.getfield 73, 3) := by decide +kernel
theorem dX6_traceLink_95 : decode cX6_traceLink 95 = .ok (.imul, 1) := by decide +kernel
theorem dX6_traceLink_96 : decode cX6_traceLink 96 = .ok (.lshl, 1) := by decide +kernel
theorem dX6_traceLink_97 : decode cX6_traceLink 97 = .ok (.lor, 1) := by decide +kernel
theorem dX6_traceLink_98 : decode cX6_traceLink 98 = .ok (.putfield 76, 3) := by decide +kernel
theorem dX6_traceLink_101 : decode cX6_traceLink 101 = .ok (.aload_n 0, 1) := by decide +kernel
theorem dX6_traceLink_102 : decode cX6_traceLink 102 = .ok (.getfield 39, 3) := by decide +kernel
theorem dX6_traceLink_105 : decode cX6_traceLink 105 = .ok (.aload_n 0, 1) := by decide +kernel
theorem dX6_traceLink_106 : decode cX6_traceLink 106 = .ok (.getfield 73, 3) := by decide +kernel
theorem dX6_traceLink_109 : decode cX6_traceLink 109 = .ok (.iload_n 2, 1) := by decide +kernel
theorem dX6_traceLink_110 : decode cX6_traceLink 110 = .ok (.iastore, 1) := by decide +kernel
theorem dX6_traceLink_111 : decode cX6_traceLink 111 = .ok (.aload_n 0, 1) := by decide +kernel
theorem dX6_traceLink_112 : decode cX6_traceLink 112 = .ok (.dup, 1) := by decide +kernel
theorem dX6_traceLink_113 : decode cX6_traceLink 113 = .ok (.getfield 73, 3) := by decide +kernel
theorem dX6_traceLink_116 : decode cX6_traceLink 116 = .ok (.iconst 1, 1) := by decide +kernel
theorem dX6_traceLink_117 : decode cX6_traceLink 117 = .ok (.iadd, 1) := by decide +kernel
theorem dX6_traceLink_118 : decode cX6_traceLink 118 = .ok (.putfield 73, 3) := by decide +kernel
theorem dX6_traceLink_121 : decode cX6_traceLink 121 = .ok (.iinc 4 1, 3) := by decide +kernel
theorem dX6_traceLink_124 : decode cX6_traceLink 124 = .ok (.goto (-86), 3) := by decide +kernel
theorem dX6_traceLink_127 : decode cX6_traceLink 127 = .ok (.return_, 1) := by decide +kernel
theorem dX6_traceSigns_0 : decode cX6_traceSigns 0 = .ok (.aload_n 0, 1) := by decide +kernel
theorem dX6_traceSigns_1 : decode cX6_traceSigns 1 = .ok (.aload_n 1, 1) := by decide +kernel
theorem dX6_traceSigns_2 : decode cX6_traceSigns 2 = .ok (.getfield 131, 3) := by decide +kernel
theorem dX6_traceSigns_5 : decode cX6_traceSigns 5 = .ok (.putfield 134, 3) := by decide +kernel
theorem dX6_traceSigns_8 : decode cX6_traceSigns 8 = .ok (.iconst 0, 1) := by decide +kernel
theorem dX6_traceSigns_9 : decode cX6_traceSigns 9 = .ok (.istore_n 2, 1) := by decide +kernel
theorem dX6_traceSigns_10 : decode cX6_traceSigns 10 = .ok (.iload_n 2, 1) := by decide +kernel
theorem dX6_traceSigns_11 : decode cX6_traceSigns 11 = .ok (.aload_n 0, 1) := by decide +kernel
theorem dX6_traceSigns_12 : decode cX6_traceSigns 12 = .ok (.getfield 63, 3) := by decide +kernel
theorem dX6_traceSigns_15 : decode cX6_traceSigns 15 = .ok (.if_icmp .ge 46, 3) := by decide +kernel
theorem dX6_traceSigns_18 : decode cX6_traceSigns 18 = .ok (.aload_n 0, 1) := by decide +kernel
theorem dX6_traceSigns_19 : decode cX6_traceSigns 19 = .ok (.getfield 27, 3) := by decide +kernel
theorem dX6_traceSigns_22 : decode cX6_traceSigns 22 = .ok (.aload_n 1, 1) := by decide +kernel
theorem dX6_traceSigns_23 : decode cX6_traceSigns 23 = .ok (.getfield 135, 3) := by decide +kernel
theorem dX6_traceSigns_26 : decode cX6_traceSigns 26 = .ok (.iload_n 2, 1) := by decide +kernel
theorem dX6_traceSigns_27 : decode cX6_traceSigns 27 = .ok (.iaload, 1) := by decide +kernel
theorem dX6_traceSigns_28 : decode cX6_traceSigns 28 = .ok (.iaload, 1) := by decide +kernel
theorem dX6_traceSigns_29 : decode cX6_traceSigns 29 = .ok (.aload_n 0, 1) := by decide +kernel
theorem dX6_traceSigns_30 : decode cX6_traceSigns 30 = .ok (.getfield 27, 3) := by decide +kernel
theorem dX6_traceSigns_33 : decode cX6_traceSigns 33 = .ok (.aload_n 1, 1) := by decide +kernel
theorem dX6_traceSigns_34 : decode cX6_traceSigns 34 = .ok (.getfield 138, 3) := by decide +kernel
theorem dX6_traceSigns_37 : decode cX6_traceSigns 37 = .ok (.iload_n 2, 1) := by decide +kernel
theorem dX6_traceSigns_38 : decode cX6_traceSigns 38 = .ok (.iaload, 1) := by decide +kernel
theorem dX6_traceSigns_39 : decode cX6_traceSigns 39 = .ok (.iaload, 1) := by decide +kernel
theorem dX6_traceSigns_40 : decode cX6_traceSigns 40 = .ok (.if_icmp .eq 15, 3) := by decide +kernel
theorem dX6_traceSigns_43 : decode cX6_traceSigns 43 = .ok (.aload_n 0, 1) := by decide +kernel
theorem dX6_traceSigns_44 : decode cX6_traceSigns 44 = .ok (.dup, 1) := by decide +kernel
theorem dX6_traceSigns_45 : decode cX6_traceSigns 45 = .ok (.getfield 134, 3) := by decide +kernel
theorem dX6_traceSigns_48 : decode cX6_traceSigns 48 = .ok (.iconst 1, 1) := by decide +kernel
theorem dX6_traceSigns_49 : decode cX6_traceSigns 49 = .ok (.iload_n 2, 1) := by decide +kernel
theorem dX6_traceSigns_50 : decode cX6_traceSigns 50 = .ok (.ishl, 1) := by decide +kernel
theorem dX6_traceSigns_51 : decode cX6_traceSigns 51 = .ok (.ixor, 1) := by decide +kernel
theorem dX6_traceSigns_52 : decode cX6_traceSigns 52 = .ok (.putfield 134, 3) := by decide +kernel
theorem dX6_traceSigns_55 : decode cX6_traceSigns 55 = .ok (.iinc 2 1, 3) := by decide +kernel
theorem dX6_traceSigns_58 : decode cX6_traceSigns 58 = .ok (.goto (-48), 3) := by decide +kernel
theorem dX6_traceSigns_61 : decode cX6_traceSigns 61 = .ok (.return_, 1) := by decide +kernel
theorem dX7_init_0 : decode cX7_init 0 = .ok (.aload_n 0, 1) := by decide +kernel
theorem dX7_init_1 : decode cX7_init 1 = .ok (.invokespecial 3, 3) := by decide +kernel
theorem dX7_init_4 : decode cX7_init 4 = .ok (.aload_n 0, 1) := by decide +kernel
theorem dX7_init_5 : decode cX7_init 5 = .ok (.sipush 4000, 3) := by decide +kernel
theorem dX7_init_8 : decode cX7_init 8 = .ok (.newarray .long, 2) := by decide +kernel
theorem dX7_init_10 : decode cX7_init 10 = .ok (.putfield 11, 3) := by decide +kernel
theorem dX7_init_13 : decode cX7_init 13 = .ok (.aload_n 0, 1) := by decide +kernel
theorem dX7_init_14 : decode cX7_init 14 = .ok (.sipush 4000, 3) := by decide +kernel
theorem dX7_init_17 : decode cX7_init 17 = .ok (.newarray .int, 2) := by decide +kernel
theorem dX7_init_19 : decode cX7_init 19 = .ok (.putfield 15, 3) := by decide +kernel
theorem dX7_init_22 : decode cX7_init 22 = .ok (.aload_n 0, 1) := by decide +kernel
theorem dX7_init_23 : decode cX7_init 23 = .ok (.sipush 4000, 3) := by decide +kernel
theorem dX7_init_26 : decode cX7_init 26 = .ok (.newarray .int, 2) := by decide +kernel
theorem dX7_init_28 : decode cX7_init 28 = .ok (.putfield 19, 3) := by decide +kernel
theorem dX7_init_31 : decode cX7_init 31 = .ok (.aload_n 0, 1) := by decide +kernel
theorem dX7_init_32 : decode cX7_init 32 = .ok (.sipush 8192, 3) := by decide +kernel
theorem dX7_init_35 : decode cX7_init 35 = .ok (.newarray .int, 2) := by decide +kernel
theorem dX7_init_37 : decode cX7_init 37 = .ok (.putfield 22, 3) := by decide +kernel
theorem dX7_init_40 : decode cX7_init 40 = .ok (.aload_n 0, 1) := by decide +kernel
theorem dX7_init_41 : decode cX7_init 41 = .ok (.new 25, 3) := by decide +kernel
theorem dX7_init_44 : decode cX7_init 44 = .ok (.dup, 1) := by decide +kernel
theorem dX7_init_45 : decode cX7_init 45 = .ok (.aload_n 1, 1) := by decide +kernel
theorem dX7_init_46 : decode cX7_init 46 = .ok (.invokespecial 27, 3) := by decide +kernel
theorem dX7_init_49 : decode cX7_init 49 = .ok (.putfield 30, 3) := by decide +kernel
theorem dX7_init_52 : decode cX7_init 52 = .ok (.return_, 1) := by decide +kernel
theorem dX7_firstToLoose_0 : decode cX7_firstToLoose 0 = .ok (.aload_n 0, 1) := by decide +kernel
theorem dX7_firstToLoose_1 : decode cX7_firstToLoose 1 = .ok (.aload_n 1, 1) := by decide +kernel
theorem dX7_firstToLoose_2 : decode cX7_firstToLoose 2 = .ok (.iload_n 2, 1) := by decide +kernel
theorem dX7_firstToLoose_3 : decode cX7_firstToLoose 3 = .ok (.iconst 1, 1) := by decide +kernel
theorem dX7_firstToLoose_4 : decode cX7_firstToLoose 4 = .ok (.invokevirtual 34, 3) := by decide +kernel
theorem dX7_firstToLoose_7 : decode cX7_firstToLoose 7 = .ok (.istore_n 3, 1) := by decide +kernel
theorem dX7_firstToLoose_8 : decode cX7_firstToLoose 8 = .ok (.iload_n 3, 1) := by decide +kernel
theorem dX7_firstToLoose_9 : decode cX7_firstToLoose 9 = .ok (.bipush (-3), 2) := by decide +kernel
theorem dX7_firstToLoose_11 : decode cX7_firstToLoose 11 = .ok (.if_icmp .ne 6, 3) := by decide +kernel
theorem dX7_firstToLoose_14 : decode cX7_firstToLoose 14 = .ok (.bipush (-3), 2) := by decide +kernel
theorem dX7_firstToLoose_16 : decode cX7_firstToLoose 16 = .ok (.ireturn, 1) := by decide +kernel
theorem dX7_firstToLoose_17 : decode cX7_firstToLoose 17 = .ok (.iload_n 3, 1) := by decide +kernel
theorem dX7_firstToLoose_18 : decode cX7_firstToLoose 18 = .ok (.ifCond .le 22, 3) := by decide +kernel
theorem dX7_firstToLoose_21 : decode cX7_firstToLoose 21 = .ok (.aload_n 0, 1) := by decide +kernel
theorem dX7_firstToLoose_22 : decode cX7_firstToLoose 22 = .ok (.getfield 38, 3) := by decide +kernel
theorem dX7_firstToLoose_25 : decode cX7_firstToLoose 25 = .ok (.ifCond .lt 15, 3) := by decide +kernel
theorem dX7_firstToLoose_28 : decode cX7_firstToLoose 28 = .ok (.aload_n 0, 1) := by decide +kernel
theorem dX7_firstToLoose_29 : decode cX7_firstToLoose 29 = .ok (.getfield 15, 3) := by decide +kernel
theorem dX7_firstToLoose_32 : decode cX7_firstToLoose 32 = .ok (.aload_n 0, 1) := by decide +kernel
theorem dX7_firstToLoose_33 : decode cX7_firstToLoose 33 = .ok (.getfield 38, 3) := by decide +kernel
theorem dX7_firstToLoose_36 : decode cX7_firstToLoose 36 = .ok (.iaload, 1) := by decide +kernel
theorem dX7_firstToLoose_37 : decode cX7_firstToLoose 37 = .ok (.goto 5, 3) := by decide +kernel
theorem dX7_firstToLoose_40 : decode cX7_firstToLoose 40 = .ok (.bipush (-2), 2) := by decide +kernel
theorem dX7_firstToLoose_42 : decode cX7_firstToLoose 42 = .ok (.ireturn, 1) := by decide +kernel
theorem dX7_countReached_0 : decode cX7_countReached 0 = .ok (.aload_n 0, 1) := by decide +kernel
theorem dX7_countReached_1 : decode cX7_countReached 1 = .ok (.aload_n 1, 1) := by decide +kernel
theorem dX7_countReached_2 : decode cX7_countReached 2 = .ok (.iload_n 2, 1) := by decide +kernel
theorem dX7_countReached_3 : decode cX7_countReached 3 = .ok (.iconst 0, 1) := by decide +kernel
theorem dX7_countReached_4 : decode cX7_countReached 4 = .ok (.invokevirtual 34, 3) := by decide +kernel
theorem dX7_countReached_7 : decode cX7_countReached 7 = .ok (.bipush (-3), 2) := by decide +kernel
theorem dX7_countReached_9 : decode cX7_countReached 9 = .ok (.if_icmp .ne 8, 3) := by decide +kernel
theorem dX7_countReached_12 : decode cX7_countReached 12 = .ok (.bipush (-3), 2) := by decide +kernel
theorem dX7_countReached_14 : decode cX7_countReached 14 = .ok (.goto 7, 3) := by decide +kernel
theorem dX7_countReached_17 : decode cX7_countReached 17 = .ok (.aload_n 0, 1) := by decide +kernel
theorem dX7_countReached_18 : decode cX7_countReached 18 = .ok (.getfield 42, 3) := by decide +kernel
theorem dX7_countReached_21 : decode cX7_countReached 21 = .ok (.ireturn, 1) := by decide +kernel
theorem dX7_leastLeft_0 : decode cX7_leastLeft 0 = .ok (.aload_n 0, 1) := by decide +kernel
theorem dX7_leastLeft_1 : decode cX7_leastLeft 1 = .ok (.aload_n 1, 1) := by decide +kernel
theorem dX7_leastLeft_2 : decode cX7_leastLeft 2 = .ok (.iload_n 2, 1) := by decide +kernel
theorem dX7_leastLeft_3 : decode cX7_leastLeft 3 = .ok (.iconst 0, 1) := by decide +kernel
theorem dX7_leastLeft_4 : decode cX7_leastLeft 4 = .ok (.invokevirtual 34, 3) := by decide +kernel
theorem dX7_leastLeft_7 : decode cX7_leastLeft 7 = .ok (.bipush (-3), 2) := by decide +kernel
theorem dX7_leastLeft_9 : decode cX7_leastLeft 9 = .ok (.if_icmp .ne 6, 3) := by decide +kernel
theorem dX7_leastLeft_12 : decode cX7_leastLeft 12 = .ok (.bipush (-3), 2) := by decide +kernel
theorem dX7_leastLeft_14 : decode cX7_leastLeft 14 = .ok (.ireturn, 1) := by decide +kernel
theorem dX7_leastLeft_15 : decode cX7_leastLeft 15 = .ok (.bipush 7, 2) := by decide +kernel
theorem dX7_leastLeft_17 : decode cX7_leastLeft 17 = .ok (.istore_n 3, 1) := by decide +kernel
theorem dX7_leastLeft_18 : decode cX7_leastLeft 18 = .ok (.iconst 0, 1) := by decide +kernel
theorem dX7_leastLeft_19 : decode cX7_leastLeft 19 = .ok (.istore 4, 2) := by decide +kernel
theorem dX7_leastLeft_21 : decode cX7_leastLeft 21 = .ok (.iload 4, 2) := by decide +kernel
theorem dX7_leastLeft_23 : decode cX7_leastLeft 23 = .ok (.aload_n 0, 1) := by decide +kernel
theorem dX7_leastLeft_24 : decode cX7_leastLeft 24 = .ok (.getfield 42, 3) := by decide +kernel
theorem dX7_leastLeft_27 : decode cX7_leastLeft 27 = .ok (.if_icmp .ge 24, 3) := by decide +kernel
theorem dX7_leastLeft_30 : decode cX7_leastLeft 30 = .ok (.iload_n 3, 1) := by decide +kernel
theorem dX7_leastLeft_31 : decode cX7_leastLeft 31 = .ok (.aload_n 0, 1) := by decide +kernel
theorem dX7_leastLeft_32 : decode cX7_leastLeft 32 = .ok (.getfield 11, 3) := by decide +kernel
theorem dX7_leastLeft_35 : decode cX7_leastLeft 35 = .ok (.iload 4, 2) := by decide +kernel
theorem dX7_leastLeft_37 : decode cX7_leastLeft 37 = .ok (.laload, 1) := by decide +kernel
theorem dX7_leastLeft_38 : decode cX7_leastLeft 38 = .ok (.invokestatic 45, 3) := by decide +kernel
theorem dX7_leastLeft_41 : decode cX7_leastLeft 41 = .ok (.invokestatic 49, 3) := by decide +kernel
theorem dX7_leastLeft_44 : decode cX7_leastLeft 44 = .ok (.istore_n 3, 1) := by decide +kernel
theorem dX7_leastLeft_45 : decode cX7_leastLeft 45 = .ok (.iinc 4 1, 3) := by decide +kernel
theorem dX7_leastLeft_48 : decode cX7_leastLeft 48 = .ok (.goto (-27), 3) := by decide +kernel
theorem dX7_leastLeft_51 : decode cX7_leastLeft 51 = .ok (.iload_n 3, 1) := by decide +kernel
theorem dX7_leastLeft_52 : decode cX7_leastLeft 52 = .ok (.ireturn, 1) := by decide +kernel
theorem dX7_crossingsIn_0 : decode cX7_crossingsIn 0 = .ok (.iconst 0, 1) := by decide +kernel
theorem dX7_crossingsIn_1 : decode cX7_crossingsIn 1 = .ok (.istore_n 2, 1) := by decide +kernel
theorem dX7_crossingsIn_2 : decode cX7_crossingsIn 2 = .ok (.iconst 0, 1) := by decide +kernel
theorem dX7_crossingsIn_3 : decode cX7_crossingsIn 3 = .ok (.istore_n 3, 1) := by decide +kernel
theorem dX7_crossingsIn_4 : decode cX7_crossingsIn 4 = .ok (.iload_n 3, 1) := by decide +kernel
theorem dX7_crossingsIn_5 : decode cX7_crossingsIn 5 = .ok (.bipush 14, 2) := by decide +kernel
theorem dX7_crossingsIn_7 : decode cX7_crossingsIn 7 = .ok (.if_icmp .ge 26, 3) := by decide +kernel
theorem dX7_crossingsIn_10 : decode cX7_crossingsIn 10 = .ok (.iload_n 2, 1) := by decide +kernel
theorem dX7_crossingsIn_11 : decode cX7_crossingsIn 11 = .ok (.lload_n 0, 1) := by decide +kernel
theorem dX7_crossingsIn_12 : decode cX7_crossingsIn 12 = .ok (.iload_n 3, 1) := by decide +kernel
theorem dX7_crossingsIn_13 : decode cX7_crossingsIn 13 = .ok (.invokestatic 55, 3) := by decide +kernel
theorem dX7_crossingsIn_16 : decode cX7_crossingsIn 16 = .ok (.iconst (-1), 1) := by decide +kernel
theorem dX7_crossingsIn_17 : decode cX7_crossingsIn 17 = .ok (.if_icmp .ne 7, 3) := by decide +kernel
theorem dX7_crossingsIn_20 : decode cX7_crossingsIn 20 = .ok (.iconst 0, 1) := by decide +kernel
theorem dX7_crossingsIn_21 : decode cX7_crossingsIn 21 = .ok (.goto 4, 3) := by decide +kernel
theorem dX7_crossingsIn_24 : decode cX7_crossingsIn 24 = .ok (.iconst 1, 1) := by decide +kernel
theorem dX7_crossingsIn_25 : decode cX7_crossingsIn 25 = .ok (.iadd, 1) := by decide +kernel
theorem dX7_crossingsIn_26 : decode cX7_crossingsIn 26 = .ok (.istore_n 2, 1) := by decide +kernel
theorem dX7_crossingsIn_27 : decode cX7_crossingsIn 27 = .ok (.iinc 3 1, 3) := by decide +kernel
theorem dX7_crossingsIn_30 : decode cX7_crossingsIn 30 = .ok (.goto (-26), 3) := by decide +kernel
theorem dX7_crossingsIn_33 : decode cX7_crossingsIn 33 = .ok (.iload_n 2, 1) := by decide +kernel
theorem dX7_crossingsIn_34 : decode cX7_crossingsIn 34 = .ok (.iconst 2, 1) := by decide +kernel
theorem dX7_crossingsIn_35 : decode cX7_crossingsIn 35 = .ok (.idiv, 1) := by decide +kernel
theorem dX7_crossingsIn_36 : decode cX7_crossingsIn 36 = .ok (.ireturn, 1) := by decide +kernel
theorem dX7_forget_0 : decode cX7_forget 0 = .ok (.iconst 0, 1) := by decide +kernel
theorem dX7_forget_1 : decode cX7_forget 1 = .ok (.istore_n 1, 1) := by decide +kernel
theorem dX7_forget_2 : decode cX7_forget 2 = .ok (.iload_n 1, 1) := by decide +kernel
theorem dX7_forget_3 : decode cX7_forget 3 = .ok (.aload_n 0, 1) := by decide +kernel
theorem dX7_forget_4 : decode cX7_forget 4 = .ok (.getfield 42, 3) := by decide +kernel
theorem dX7_forget_7 : decode cX7_forget 7 = .ok (.if_icmp .ge 21, 3) := by decide +kernel
theorem dX7_forget_10 : decode cX7_forget 10 = .ok (.aload_n 0, 1) := by decide +kernel
theorem dX7_forget_11 : decode cX7_forget 11 = .ok (.getfield 22, 3) := by decide +kernel
theorem dX7_forget_14 : decode cX7_forget 14 = .ok (.aload_n 0, 1) := by decide +kernel
theorem dX7_forget_15 : decode cX7_forget 15 = .ok (.getfield 19, 3) := by decide +kernel
theorem dX7_forget_18 : decode cX7_forget 18 = .ok (.iload_n 1, 1) := by decide +kernel
theorem dX7_forget_19 : decode cX7_forget 19 = .ok (.iaload, 1) := by decide +kernel
theorem dX7_forget_20 : decode cX7_forget 20 = .ok (.iconst 0, 1) := by decide +kernel
theorem dX7_forget_21 : decode cX7_forget 21 = .ok (.iastore, 1) := by decide +kernel
theorem dX7_forget_22 : decode cX7_forget 22 = .ok (.iinc 1 1, 3) := by decide +kernel
theorem dX7_forget_25 : decode cX7_forget 25 = .ok (.goto (-23), 3) := by decide +kernel
theorem dX7_forget_28 : decode cX7_forget 28 = .ok (.aload_n 0, 1) := by decide +kernel
theorem dX7_forget_29 : decode cX7_forget 29 = .ok (.iconst 0, 1) := by decide +kernel
theorem dX7_forget_30 : decode cX7_forget 30 = .ok (.putfield 42, 3) := by decide +kernel
theorem dX7_forget_33 : decode cX7_forget 33 = .ok (.aload_n 0, 1) := by decide +kernel
theorem dX7_forget_34 : decode cX7_forget 34 = .ok (.iconst (-1), 1) := by decide +kernel
theorem dX7_forget_35 : decode cX7_forget 35 = .ok (.putfield 38, 3) := by decide +kernel
theorem dX7_forget_38 : decode cX7_forget 38 = .ok (.aload_n 0, 1) := by decide +kernel
theorem dX7_forget_39 : decode cX7_forget 39 = .ok (.iconst 0, 1) := by decide +kernel
theorem dX7_forget_40 : decode cX7_forget 40 = .ok (.putfield 61, 3) := by decide +kernel
theorem dX7_forget_43 : decode cX7_forget 43 = .ok (.return_, 1) := by decide +kernel
theorem dX7_grow_0 : decode cX7_grow 0 = .ok (.aload_n 0, 1) := by decide +kernel
theorem dX7_grow_1 : decode cX7_grow 1 = .ok (.invokevirtual 65, 3) := by decide +kernel
theorem dX7_grow_4 : decode cX7_grow 4 = .ok (.aload_n 0, 1) := by decide +kernel
theorem dX7_grow_5 : decode cX7_grow 5 = .ok (.aload_n 1, 1) := by decide +kernel
theorem dX7_grow_6 : decode cX7_grow 6 = .ok (.getfield 68, 3) := by decide +kernel
theorem dX7_grow_9 : decode cX7_grow 9 = .ok (.iconst (-1), 1) := by decide +kernel
theorem dX7_grow_10 : decode cX7_grow 10 = .ok (.invokevirtual 72, 3) := by decide +kernel
theorem dX7_grow_13 : decode cX7_grow 13 = .ok (.iload_n 3, 1) := by decide +kernel
theorem dX7_grow_14 : decode cX7_grow 14 = .ok (.ifCond .eq 13, 3) := by decide +kernel
theorem dX7_grow_17 : decode cX7_grow 17 = .ok (.aload_n 0, 1) := by decide +kernel
theorem dX7_grow_18 : decode cX7_grow 18 = .ok (.getfield 38, 3) := by decide +kernel
theorem dX7_grow_21 : decode cX7_grow 21 = .ok (.iconst (-1), 1) := by decide +kernel
theorem dX7_grow_22 : decode cX7_grow 22 = .ok (.if_icmp .eq 5, 3) := by decide +kernel
theorem dX7_grow_25 : decode cX7_grow 25 = .ok (.iconst 0, 1) := by decide +kernel
theorem dX7_grow_26 : decode cX7_grow 26 = .ok (.ireturn, 1) := by decide +kernel
theorem dX7_grow_27 : decode cX7_grow 27 = .ok (.iconst 0, 1) := by decide +kernel
theorem dX7_grow_28 : decode cX7_grow 28 = .ok (.istore 4, 2) := by decide +kernel
theorem dX7_grow_30 : decode cX7_grow 30 = .ok (.iconst 1, 1) := by decide +kernel
theorem dX7_grow_31 : decode cX7_grow 31 = .ok (.istore 5, 2) := by decide +kernel
theorem dX7_grow_33 : decode cX7_grow 33 = .ok (.iload 5, 2) := by decide +kernel
theorem dX7_grow_35 : decode cX7_grow 35 = .ok (.iload_n 2, 1) := by decide +kernel
theorem dX7_grow_36 : decode cX7_grow 36 = .ok (.if_icmp .gt 84, 3) := by decide +kernel
theorem dX7_grow_39 : decode cX7_grow 39 = .ok (.iload 4, 2) := by decide +kernel
theorem dX7_grow_41 : decode cX7_grow 41 = .ok (.aload_n 0, 1) := by decide +kernel
theorem dX7_grow_42 : decode cX7_grow 42 = .ok (.getfield 42, 3) := by decide +kernel
theorem dX7_grow_45 : decode cX7_grow 45 = .ok (.if_icmp .ge 75, 3) := by decide +kernel
theorem dX7_grow_48 : decode cX7_grow 48 = .ok (.aload_n 0, 1) := by decide +kernel
theorem dX7_grow_49 : decode cX7_grow 49 = .ok (.getfield 42, 3) := by decide +kernel
theorem dX7_grow_52 : decode cX7_grow 52 = .ok (.istore 6, 2) := by decide +kernel
theorem dX7_grow_54 : decode cX7_grow 54 = .ok (.iload 4, 2) := by decide +kernel
theorem dX7_grow_56 : decode cX7_grow 56 = .ok (.istore 7, 2) := by decide +kernel
theorem dX7_grow_58 : decode cX7_grow 58 = .ok (.iload 7, 2) := by decide +kernel
theorem dX7_grow_60 : decode cX7_grow 60 = .ok (.iload 6, 2) := by decide +kernel
theorem dX7_grow_62 : decode cX7_grow 62 = .ok (.if_icmp .ge 23, 3) := by decide +kernel
theorem dX7_grow_65 : decode cX7_grow 65 = .ok (.aload_n 0, 1) := by decide +kernel
theorem dX7_grow_66 : decode cX7_grow 66 = .ok (.getfield 61, 3) := by decide +kernel
theorem dX7_grow_69 : decode cX7_grow 69 = .ok (.ifCond .ne 16, 3) := by decide +kernel
theorem dX7_grow_72 : decode cX7_grow 72 = .ok (.aload_n 0, 1) := by decide +kernel
theorem dX7_grow_73 : decode cX7_grow 73 = .ok (.iload 7, 2) := by decide +kernel
theorem dX7_grow_75 : decode cX7_grow 75 = .ok (.aload_n 1, 1) := by decide +kernel
theorem dX7_grow_76 : decode cX7_grow 76 = .ok (.invokevirtual 76, 3) := by decide +kernel
theorem dX7_grow_79 : decode cX7_grow 79 = .ok (.iinc 7 1, 3) := by decide +kernel
theorem dX7_grow_82 : decode cX7_grow 82 = .ok (.goto (-24), 3) := by decide +kernel
theorem dX7_grow_85 : decode cX7_grow 85 = .ok (.aload_n 0, 1) := by decide +kernel
theorem dX7_grow_86 : decode cX7_grow 86 = .ok (.getfield 61, 3) := by decide +kernel
theorem dX7_grow_89 : decode cX7_grow 89 = .ok (.ifCond .eq 6, 3) := by decide +kernel
theorem dX7_grow_92 : decode cX7_grow 92 = .ok (.bipush (-3), 2) := by decide +kernel
theorem dX7_grow_94 : decode cX7_grow 94 = .ok (.ireturn, 1) := by decide +kernel
theorem dX7_grow_95 : decode cX7_grow 95 = .ok (.iload_n 3, 1) := by decide +kernel
theorem dX7_grow_96 : decode cX7_grow 96 = .ok (.ifCond .eq 14, 3) := by decide +kernel
theorem dX7_grow_99 : decode cX7_grow 99 = .ok (.aload_n 0, 1) := by decide +kernel
theorem dX7_grow_100 : decode cX7_grow 100 = .ok (.getfield 38, 3) := by decide +kernel
theorem dX7_grow_103 : decode cX7_grow 103 = .ok (.iconst (-1), 1) := by decide +kernel
theorem dX7_grow_104 : decode cX7_grow 104 = .ok (.if_icmp .eq 6, 3) := by decide +kernel
theorem dX7_grow_107 : decode cX7_grow 107 = .ok (.iload 5, 2) := by decide +kernel
theorem dX7_grow_109 : decode cX7_grow 109 = .ok (.ireturn, 1) := by decide +kernel
theorem dX7_grow_110 : decode cX7_grow 110 = .ok (.iload 6, 2) := by decide +kernel
theorem dX7_grow_112 : decode cX7_grow 112 = .ok (.istore 4, 2) := by decide +kernel
theorem dX7_grow_114 : decode cX7_grow 114 = .ok (.iinc 5 1, 3) := by decide +kernel
theorem dX7_grow_117 : decode cX7_grow 117 = .ok (.goto (-84), 3) := by decide +kernel
theorem dX7_grow_120 : decode cX7_grow 120 = .ok (.bipush (-2), 2) := by decide +kernel
theorem dX7_grow_122 : decode cX7_grow 122 = .ok (.ireturn, 1) := by decide +kernel
theorem dX7_spreadFrom_0 : decode cX7_spreadFrom 0 = .ok (.aload_n 0, 1) := by decide +kernel
theorem dX7_spreadFrom_1 : decode cX7_spreadFrom 1 = .ok (.getfield 30, 3) := by decide +kernel
theorem dX7_spreadFrom_4 : decode cX7_spreadFrom 4 = .ok (.aload_n 0, 1) := by decide +kernel
theorem dX7_spreadFrom_5 : decode cX7_spreadFrom 5 = .ok (.getfield 11, 3) := by decide +kernel
theorem dX7_spreadFrom_8 : decode cX7_spreadFrom 8 = .ok (.iload_n 1, 1) := by decide +kernel
theorem dX7_spreadFrom_9 : decode cX7_spreadFrom 9 = .ok (.laload, 1) := by decide +kernel
theorem dX7_spreadFrom_10 : decode cX7_spreadFrom 10 = .ok (.aload_n 2, 1) := by decide +kernel
theorem dX7_spreadFrom_11 : decode cX7_spreadFrom 11 = .ok (.getfield 80, 3) := by decide +kernel
theorem dX7_spreadFrom_14 : decode cX7_spreadFrom 14 = .ok (.aload_n 2, 1) := by decide +kernel
theorem dX7_spreadFrom_15 : decode cX7_spreadFrom 15 = .ok (.getfield 83, 3) := by decide +kernel
theorem dX7_spreadFrom_18 : decode cX7_spreadFrom 18 = .ok (.invokevirtual 86, 3) := by decide +kernel
theorem dX7_spreadFrom_21 : decode cX7_spreadFrom 21 = .ok (.iconst 0, 1) := by decide +kernel
theorem dX7_spreadFrom_22 : decode cX7_spreadFrom 22 = .ok (.istore_n 3, 1) := by decide +kernel
theorem dX7_spreadFrom_23 : decode cX7_spreadFrom 23 = .ok (.iload_n 3, 1) := by decide +kernel
theorem dX7_spreadFrom_24 : decode cX7_spreadFrom 24 = .ok (.aload_n 0, 1) := by decide +kernel
theorem dX7_spreadFrom_25 : decode cX7_spreadFrom 25 = .ok (.getfield 30, 3) := by decide +kernel
theorem dX7_spreadFrom_28 : decode cX7_spreadFrom 28 = .ok (.getfield 90, 3) := by decide +kernel
theorem dX7_spreadFrom_31 : decode cX7_spreadFrom 31 = .ok (.if_icmp .ge 55, 3) := by decide +kernel
theorem dX7_spreadFrom_34 : decode cX7_spreadFrom 34 = .ok (.aload_n 0, 1) := by decide +kernel
theorem dX7_spreadFrom_35 : decode cX7_spreadFrom 35 = .ok (.getfield 61, 3) := by decide +kernel
theorem dX7_spreadFrom_38 : decode cX7_spreadFrom 38 = .ok (.ifCond .ne 48, 3) := by decide +kernel
theorem dX7_spreadFrom_41 : decode cX7_spreadFrom 41 = .ok (.aload_n 0, 1) := by decide +kernel
theorem dX7_spreadFrom_42 : decode cX7_spreadFrom 42 = .ok (.getfield 30, 3) := by decide +kernel
theorem dX7_spreadFrom_45 : decode cX7_spreadFrom 45 = .ok (.getfield 91, 3) := by decide +kernel
theorem dX7_spreadFrom_48 : decode cX7_spreadFrom 48 = .ok (.iload_n 3, 1) := by decide +kernel
theorem dX7_spreadFrom_49 : decode cX7_spreadFrom 49 = .ok (.iaload, 1) := by decide +kernel
theorem dX7_spreadFrom_50 : decode cX7_spreadFrom 50 = .ok (.istore 4, 2) := by decide +kernel
theorem dX7_spreadFrom_52 : decode cX7_spreadFrom 52 = .ok (.aload_n 0, 1) := by decide +kernel
theorem dX7_spreadFrom_53 : decode cX7_spreadFrom 53 = .ok (.aload_n 0, 1) := by decide +kernel
theorem dX7_spreadFrom_54 : decode cX7_spreadFrom 54 = .ok (.getfield 30, 3) := by decide +kernel
theorem dX7_spreadFrom_57 : decode cX7_spreadFrom 57 = .ok (.iload 4, 2) := by decide +kernel
theorem dX7_spreadFrom_59 : decode cX7_spreadFrom 59 = .ok (.invokevirtual 94, 3) := by decide +kernel
theorem dX7_spreadFrom_62 : decode cX7_spreadFrom 62 = .ok (.iload_n 1, 1) := by decide +kernel
theorem dX7_spreadFrom_63 : decode cX7_spreadFrom 63 = .ok (.ifCond .ne 8, 3) := by decide +kernel
theorem dX7_spreadFrom_66 : decode cX7_spreadFrom 66 = .ok (.iload 4, 2) := by decide +kernel
theorem dX7_spreadFrom_68 : decode cX7_spreadFrom 68 = .ok (.goto 9, 3) := by decide +kernel
theorem dX7_spreadFrom_71 : decode cX7_spreadFrom 71 = .ok (.aload_n 0, 1) := by decide +kernel
theorem dX7_spreadFrom_72 : decode cX7_spreadFrom 72 = .ok (.getfield 15, 3) := by decide +kernel
theorem dX7_spreadFrom_75 : decode cX7_spreadFrom 75 = .ok (.iload_n 1, 1) := by decide +kernel
theorem dX7_spreadFrom_76 : decode cX7_spreadFrom 76 = .ok (.iaload, 1) := by decide +kernel
theorem dX7_spreadFrom_77 : decode cX7_spreadFrom 77 = .ok (.invokevirtual 72, 3) := by decide +kernel
theorem dX7_spreadFrom_80 : decode cX7_spreadFrom 80 = .ok (.iinc 3 1, 3) := by decide +kernel
theorem dX7_spreadFrom_83 : decode cX7_spreadFrom 83 = .ok (.goto (-60), 3) := by decide +kernel
theorem dX7_spreadFrom_86 : decode cX7_spreadFrom 86 = .ok (.return_, 1) := by decide +kernel
theorem dX7_add_0 : decode cX7_add 0 = .ok (.aload_n 0, 1) := by decide +kernel
theorem dX7_add_1 : decode cX7_add 1 = .ok (.lload_n 1, 1) := by decide +kernel
theorem dX7_add_2 : decode cX7_add 2 = .ok (.invokevirtual 98, 3) := by decide +kernel
theorem dX7_add_5 : decode cX7_add 5 = .ok (.istore 4, 2) := by decide +kernel
theorem dX7_add_7 : decode cX7_add 7 = .ok (.aload_n 0, 1) := by decide +kernel
theorem dX7_add_8 : decode cX7_add 8 = .ok (.getfield 22, 3) := by decide +kernel
theorem dX7_add_11 : decode cX7_add 11 = .ok (.iload 4, 2) := by decide +kernel
theorem dX7_add_13 : decode cX7_add 13 = .ok (.iaload, 1) := by decide +kernel
theorem dX7_add_14 : decode cX7_add 14 = .ok (.ifCond .eq 4, 3) := by decide +kernel
theorem dX7_add_17 : decode cX7_add 17 = .ok (.return_, 1) := by decide +kernel
theorem dX7_add_18 : decode cX7_add 18 = .ok (.aload_n 0, 1) := by decide +kernel
theorem dX7_add_19 : decode cX7_add 19 = .ok (.getfield 42, 3) := by decide +kernel
theorem dX7_add_22 : decode cX7_add 22 = .ok (.sipush 4000, 3) := by decide +kernel
theorem dX7_add_25 : decode cX7_add 25 = .ok (.if_icmp .lt 11, 3) := by decide +kernel
theorem dX7_add_28 : decode cX7_add 28 = .ok (.aload_n 0, 1) := by decide +kernel
theorem dX7_add_29 : decode cX7_add 29 = .ok (.iconst 1, 1) := by decide +kernel
theorem dX7_add_30 : decode cX7_add 30 = .ok (.putfield 61, 3) := by decide +kernel
theorem dX7_add_33 : decode cX7_add 33 = .ok (.goto 69, 3) := by decide +kernel
theorem dX7_add_36 : decode cX7_add 36 = .ok (.aload_n 0, 1) := by decide +kernel
theorem dX7_add_37 : decode cX7_add 37 = .ok (.getfield 11, 3) := by decide +kernel
theorem dX7_add_40 : decode cX7_add 40 = .ok (.aload_n 0, 1) := by decide +kernel
theorem dX7_add_41 : decode cX7_add 41 = .ok (.getfield 42, 3) := by decide +kernel
theorem dX7_add_44 : decode cX7_add 44 = .ok (.lload_n 1, 1) := by decide +kernel
theorem dX7_add_45 : decode cX7_add 45 = .ok (.lastore, 1) := by decide +kernel
theorem dX7_add_46 : decode cX7_add 46 = .ok (.aload_n 0, 1) := by decide +kernel
theorem dX7_add_47 : decode cX7_add 47 = .ok (.getfield 15, 3) := by decide +kernel
theorem dX7_add_50 : decode cX7_add 50 = .ok (.aload_n 0, 1) := by decide +kernel
theorem dX7_add_51 : decode cX7_add 51 = .ok (.getfield 42, 3) := by decide +kernel
theorem dX7_add_54 : decode cX7_add 54 = .ok (.iload_n 3, 1) := by decide +kernel
theorem dX7_add_55 : decode cX7_add 55 = .ok (.iastore, 1) := by decide +kernel
theorem dX7_add_56 : decode cX7_add 56 = .ok (.aload_n 0, 1) := by decide +kernel
theorem dX7_add_57 : decode cX7_add 57 = .ok (.getfield 19, 3) := by decide +kernel
theorem dX7_add_60 : decode cX7_add 60 = .ok (.aload_n 0, 1) := by decide +kernel
theorem dX7_add_61 : decode cX7_add 61 = .ok (.getfield 42, 3) := by decide +kernel
theorem dX7_add_64 : decode cX7_add 64 = .ok (.iload 4, 2) := by decide +kernel
theorem dX7_add_66 : decode cX7_add 66 = .ok (.iastore, 1) := by decide +kernel
theorem dX7_add_67 : decode cX7_add 67 = .ok (.lload_n 1, 1) := by decide +kernel
theorem dX7_add_68 : decode cX7_add 68 = .ok (.lconst 0, 1) := by decide +kernel
theorem dX7_add_69 : decode cX7_add 69 = .ok (.lcmp, 1) := by decide +kernel
theorem dX7_add_70 : decode cX7_add 70 = .ok (.ifCond .ne 11, 3) := by decide +kernel
theorem dX7_add_73 : decode cX7_add 73 = .ok (.aload_n 0, 1) := by decide +kernel
theorem dX7_add_74 : decode cX7_add 74 = .ok (.aload_n 0, 1) := by decide +kernel
theorem dX7_add_75 : decode cX7_add 75 = .ok (.getfield 42, 3) := by decide +kernel
theorem dX7_add_78 : decode cX7_add 78 = .ok (.putfield 38, 3) := by decide +kernel
theorem dX7_add_81 : decode cX7_add 81 = .ok (.aload_n 0, 1) := by decide +kernel
theorem dX7_add_82 : decode cX7_add 82 = .ok (.dup, 1) := by decide +kernel
theorem dX7_add_83 : decode cX7_add 83 = .ok (.getfield 42, 3) := by decide +kernel
theorem dX7_add_86 : decode cX7_add 86 = .ok (.iconst 1, 1) := by decide +kernel
theorem dX7_add_87 : decode cX7_add 87 = .ok (.iadd, 1) := by decide +kernel
theorem dX7_add_88 : decode cX7_add 88 = .ok (.putfield 42, 3) := by decide +kernel
theorem dX7_add_91 : decode cX7_add 91 = .ok (.aload_n 0, 1) := by decide +kernel
theorem dX7_add_92 : decode cX7_add 92 = .ok (.getfield 22, 3) := by decide +kernel
theorem dX7_add_95 : decode cX7_add 95 = .ok (.iload 4, 2) := by decide +kernel
theorem dX7_add_97 : decode cX7_add 97 = .ok (.aload_n 0, 1) := by decide +kernel
theorem dX7_add_98 : decode cX7_add 98 = .ok (.getfield 42, 3) := by decide +kernel
theorem dX7_add_101 : decode cX7_add 101 = .ok (.iastore, 1) := by decide +kernel
theorem dX7_add_102 : decode cX7_add 102 = .ok (.return_, 1) := by decide +kernel
theorem dX7_slotFor_0 : decode cX7_slotFor 0 = .ok (.lload_n 1, 1) := by decide +kernel
theorem dX7_slotFor_1 : decode cX7_slotFor 1 = .ok (.ldc2_w 101, 3) := by decide +kernel
theorem dX7_slotFor_4 : decode cX7_slotFor 4 = .ok (.lmul, 1) := by decide +kernel
theorem dX7_slotFor_5 : decode cX7_slotFor 5 = .ok (.bipush 51, 2) := by decide +kernel
theorem dX7_slotFor_7 : decode cX7_slotFor 7 = .ok (.lushr, 1) := by decide +kernel
theorem dX7_slotFor_8 : decode cX7_slotFor 8 = .ok (.l2i, 1) := by decide +kernel
theorem dX7_slotFor_9 : decode cX7_slotFor 9 = .ok (.istore_n 3, 1) := by decide +kernel
theorem dX7_slotFor_10 : decode cX7_slotFor 10 = .ok (.iconst 0, 1) := by decide +kernel
theorem dX7_slotFor_11 : decode cX7_slotFor 11 = .ok (.istore 4, 2) := by decide +kernel
theorem dX7_slotFor_13 : decode cX7_slotFor 13 = .ok (.iload 4, 2) := by decide +kernel
theorem dX7_slotFor_15 : decode cX7_slotFor 15 = .ok (.sipush 8192, 3) := by decide +kernel
theorem dX7_slotFor_18 : decode cX7_slotFor 18 = .ok (.if_icmp .ge 47, 3) := by decide +kernel
theorem dX7_slotFor_21 : decode cX7_slotFor 21 = .ok (.aload_n 0, 1) := by decide +kernel
theorem dX7_slotFor_22 : decode cX7_slotFor 22 = .ok (.getfield 22, 3) := by decide +kernel
theorem dX7_slotFor_25 : decode cX7_slotFor 25 = .ok (.iload_n 3, 1) := by decide +kernel
theorem dX7_slotFor_26 : decode cX7_slotFor 26 = .ok (.iaload, 1) := by decide +kernel
theorem dX7_slotFor_27 : decode cX7_slotFor 27 = .ok (.iconst 1, 1) := by decide +kernel
theorem dX7_slotFor_28 : decode cX7_slotFor 28 = .ok (.isub, 1) := by decide +kernel
theorem dX7_slotFor_29 : decode cX7_slotFor 29 = .ok (.istore 5, 2) := by decide +kernel
theorem dX7_slotFor_31 : decode cX7_slotFor 31 = .ok (.iload 5, 2) := by decide +kernel
theorem dX7_slotFor_33 : decode cX7_slotFor 33 = .ok (.ifCond .lt 32, 3) := by decide +kernel
theorem dX7_slotFor_36 : decode cX7_slotFor 36 = .ok (.aload_n 0, 1) := by decide +kernel
theorem dX7_slotFor_37 : decode cX7_slotFor 37 = .ok (.getfield 11, 3) := by decide +kernel
theorem dX7_slotFor_40 : decode cX7_slotFor 40 = .ok (.iload 5, 2) := by decide +kernel
theorem dX7_slotFor_42 : decode cX7_slotFor 42 = .ok (.laload, 1) := by decide +kernel
theorem dX7_slotFor_43 : decode cX7_slotFor 43 = .ok (.lload_n 1, 1) := by decide +kernel
theorem dX7_slotFor_44 : decode cX7_slotFor 44 = .ok (.lcmp, 1) := by decide +kernel
theorem dX7_slotFor_45 : decode cX7_slotFor 45 = .ok (.ifCond .ne 6, 3) := by decide +kernel
theorem dX7_slotFor_48 : decode cX7_slotFor 48 = .ok (.goto 17, 3) := by decide +kernel
theorem dX7_slotFor_51 : decode cX7_slotFor 51 = .ok (.iload_n 3, 1) := by decide +kernel
theorem dX7_slotFor_52 : decode cX7_slotFor 52 = .ok (.iconst 1, 1) := by decide +kernel
theorem dX7_slotFor_53 : decode cX7_slotFor 53 = .ok (.iadd, 1) := by decide +kernel
theorem dX7_slotFor_54 : decode cX7_slotFor 54 = .ok (.sipush 8191, 3) := by decide +kernel
theorem dX7_slotFor_57 : decode cX7_slotFor 57 = .ok (.iand, 1) := by decide +kernel
theorem dX7_slotFor_58 : decode cX7_slotFor 58 = .ok (.istore_n 3, 1) := by decide +kernel
theorem dX7_slotFor_59 : decode cX7_slotFor 59 = .ok (.iinc 4 1, 3) := by decide +kernel
theorem dX7_slotFor_62 : decode cX7_slotFor 62 = .ok (.goto (-49), 3) := by decide +kernel
theorem dX7_slotFor_65 : decode cX7_slotFor 65 = .ok (.iload_n 3, 1) := by decide +kernel
theorem dX7_slotFor_66 : decode cX7_slotFor 66 = .ok (.ireturn, 1) := by decide +kernel
theorem dX8_init_0 : decode cX8_init 0 = .ok (.aload_n 0, 1) := by decide +kernel
theorem dX8_init_1 : decode cX8_init 1 = .ok (.invokespecial 1, 3) := by decide +kernel
theorem dX8_init_4 : decode cX8_init 4 = .ok (.aload_n 0, 1) := by decide +kernel
theorem dX8_init_5 : decode cX8_init 5 = .ok (.sipush 900, 3) := by decide +kernel
theorem dX8_init_8 : decode cX8_init 8 = .ok (.newarray .int, 2) := by decide +kernel
theorem dX8_init_10 : decode cX8_init 10 = .ok (.putfield 9, 3) := by decide +kernel
theorem dX8_init_13 : decode cX8_init 13 = .ok (.aload_n 0, 1) := by decide +kernel
theorem dX8_init_14 : decode cX8_init 14 = .ok (.bipush 11, 2) := by decide +kernel
theorem dX8_init_16 : decode cX8_init 16 = .ok (.newarray .long, 2) := by decide +kernel
theorem dX8_init_18 : decode cX8_init 18 = .ok (.putfield 13, 3) := by decide +kernel
theorem dX8_init_21 : decode cX8_init 21 = .ok (.aload_n 0, 1) := by decide +kernel
theorem dX8_init_22 : decode cX8_init 22 = .ok (.sipush 901, 3) := by decide +kernel
theorem dX8_init_25 : decode cX8_init 25 = .ok (.newarray .int, 2) := by decide +kernel
theorem dX8_init_27 : decode cX8_init 27 = .ok (.putfield 17, 3) := by decide +kernel
theorem dX8_init_30 : decode cX8_init 30 = .ok (.aload_n 0, 1) := by decide +kernel
theorem dX8_init_31 : decode cX8_init 31 = .ok (.sipush 901, 3) := by decide +kernel
theorem dX8_init_34 : decode cX8_init 34 = .ok (.newarray .int, 2) := by decide +kernel
theorem dX8_init_36 : decode cX8_init 36 = .ok (.putfield 20, 3) := by decide +kernel
theorem dX8_init_39 : decode cX8_init 39 = .ok (.aload_n 0, 1) := by decide +kernel
theorem dX8_init_40 : decode cX8_init 40 = .ok (.sipush 901, 3) := by decide +kernel
theorem dX8_init_43 : decode cX8_init 43 = .ok (.newarray .int, 2) := by decide +kernel
theorem dX8_init_45 : decode cX8_init 45 = .ok (.putfield 23, 3) := by decide +kernel
theorem dX8_init_48 : decode cX8_init 48 = .ok (.aload_n 0, 1) := by decide +kernel
theorem dX8_init_49 : decode cX8_init 49 = .ok (.sipush 901, 3) := by decide +kernel
theorem dX8_init_52 : decode cX8_init 52 = .ok (.newarray .long, 2) := by decide +kernel
theorem dX8_init_54 : decode cX8_init 54 = .ok (.putfield 26, 3) := by decide +kernel
theorem dX8_init_57 : decode cX8_init 57 = .ok (.aload_n 0, 1) := by decide +kernel
theorem dX8_init_58 : decode cX8_init 58 = .ok (.getfield 13, 3) := by decide +kernel
theorem dX8_init_61 : decode cX8_init 61 = .ok (.iconst 0, 1) := by decide +kernel
theorem dX8_init_62 : decode cX8_init 62 = .ok (.ldc 29, 2) := by decide +kernel
theorem dX8_init_64 : decode cX8_init 64 = .ok (.invokestatic 31, 3) := by decide +kernel
theorem dX8_init_67 : decode cX8_init 67 = .ok (.lastore, 1) := by decide +kernel
theorem dX8_init_68 : decode cX8_init 68 = .ok (.aload_n 0, 1) := by decide +kernel
theorem dX8_init_69 : decode cX8_init 69 = .ok (.getfield 13, 3) := by decide +kernel
theorem dX8_init_72 : decode cX8_init 72 = .ok (.iconst 1, 1) := by decide +kernel
theorem dX8_init_73 : decode cX8_init 73 = .ok (.ldc 35, 2) := by decide +kernel
theorem dX8_init_75 : decode cX8_init 75 = .ok (.invokestatic 31, 3) := by decide +kernel
theorem dX8_init_78 : decode cX8_init 78 = .ok (.lastore, 1) := by decide +kernel
theorem dX8_init_79 : decode cX8_init 79 = .ok (.aload_n 0, 1) := by decide +kernel
theorem dX8_init_80 : decode cX8_init 80 = .ok (.getfield 13, 3) := by decide +kernel
theorem dX8_init_83 : decode cX8_init 83 = .ok (.iconst 2, 1) := by decide +kernel
theorem dX8_init_84 : decode cX8_init 84 = .ok (.ldc 37, 2) := by decide +kernel
theorem dX8_init_86 : decode cX8_init 86 = .ok (.invokestatic 31, 3) := by decide +kernel
theorem dX8_init_89 : decode cX8_init 89 = .ok (.lastore, 1) := by decide +kernel
theorem dX8_init_90 : decode cX8_init 90 = .ok (.aload_n 0, 1) := by decide +kernel
theorem dX8_init_91 : decode cX8_init 91 = .ok (.getfield 13, 3) := by decide +kernel
theorem dX8_init_94 : decode cX8_init 94 = .ok (.iconst 3, 1) := by decide +kernel
theorem dX8_init_95 : decode cX8_init 95 = .ok (.ldc 39, 2) := by decide +kernel
theorem dX8_init_97 : decode cX8_init 97 = .ok (.invokestatic 31, 3) := by decide +kernel
theorem dX8_init_100 : decode cX8_init 100 = .ok (.lastore, 1) := by decide +kernel
theorem dX8_init_101 : decode cX8_init 101 = .ok (.aload_n 0, 1) := by decide +kernel
theorem dX8_init_102 : decode cX8_init 102 = .ok (.getfield 13, 3) := by decide +kernel
theorem dX8_init_105 : decode cX8_init 105 = .ok (.iconst 4, 1) := by decide +kernel
theorem dX8_init_106 : decode cX8_init 106 = .ok (.ldc 41, 2) := by decide +kernel
theorem dX8_init_108 : decode cX8_init 108 = .ok (.invokestatic 31, 3) := by decide +kernel
theorem dX8_init_111 : decode cX8_init 111 = .ok (.lastore, 1) := by decide +kernel
theorem dX8_init_112 : decode cX8_init 112 = .ok (.aload_n 0, 1) := by decide +kernel
theorem dX8_init_113 : decode cX8_init 113 = .ok (.getfield 13, 3) := by decide +kernel
theorem dX8_init_116 : decode cX8_init 116 = .ok (.iconst 5, 1) := by decide +kernel
theorem dX8_init_117 : decode cX8_init 117 = .ok (.ldc 43, 2) := by decide +kernel
theorem dX8_init_119 : decode cX8_init 119 = .ok (.invokestatic 31, 3) := by decide +kernel
theorem dX8_init_122 : decode cX8_init 122 = .ok (.lastore, 1) := by decide +kernel
theorem dX8_init_123 : decode cX8_init 123 = .ok (.aload_n 0, 1) := by decide +kernel
theorem dX8_init_124 : decode cX8_init 124 = .ok (.getfield 13, 3) := by decide +kernel
theorem dX8_init_127 : decode cX8_init 127 = .ok (.bipush 6, 2) := by decide +kernel
theorem dX8_init_129 : decode cX8_init 129 = .ok (.ldc 45, 2) := by decide +kernel
theorem dX8_init_131 : decode cX8_init 131 = .ok (.invokestatic 31, 3) := by decide +kernel
theorem dX8_init_134 : decode cX8_init 134 = .ok (.lastore, 1) := by decide +kernel
theorem dX8_init_135 : decode cX8_init 135 = .ok (.aload_n 0, 1) := by decide +kernel
theorem dX8_init_136 : decode cX8_init 136 = .ok (.getfield 13, 3) := by decide +kernel
theorem dX8_init_139 : decode cX8_init 139 = .ok (.bipush 7, 2) := by decide +kernel
theorem dX8_init_141 : decode cX8_init 141 = .ok (.ldc 47, 2) := by decide +kernel
theorem dX8_init_143 : decode cX8_init 143 = .ok (.invokestatic 31, 3) := by decide +kernel
theorem dX8_init_146 : decode cX8_init 146 = .ok (.lastore, 1) := by decide +kernel
theorem dX8_init_147 : decode cX8_init 147 = .ok (.aload_n 0, 1) := by decide +kernel
theorem dX8_init_148 : decode cX8_init 148 = .ok (.getfield 13, 3) := by decide +kernel
theorem dX8_init_151 : decode cX8_init 151 = .ok (.bipush 8, 2) := by decide +kernel
theorem dX8_init_153 : decode cX8_init 153 = .ok (.ldc 49, 2) := by decide +kernel
theorem dX8_init_155 : decode cX8_init 155 = .ok (.invokestatic 31, 3) := by decide +kernel
theorem dX8_init_158 : decode cX8_init 158 = .ok (.lastore, 1) := by decide +kernel
theorem dX8_init_159 : decode cX8_init 159 = .ok (.aload_n 0, 1) := by decide +kernel
theorem dX8_init_160 : decode cX8_init 160 = .ok (.getfield 13, 3) := by decide +kernel
theorem dX8_init_163 : decode cX8_init 163 = .ok (.bipush 9, 2) := by decide +kernel
theorem dX8_init_165 : decode cX8_init 165 = .ok (.ldc 51, 2) := by decide +kernel
theorem dX8_init_167 : decode cX8_init 167 = .ok (.invokestatic 31, 3) := by decide +kernel
theorem dX8_init_170 : decode cX8_init 170 = .ok (.lastore, 1) := by decide +kernel
theorem dX8_init_171 : decode cX8_init 171 = .ok (.aload_n 0, 1) := by decide +kernel
theorem dX8_init_172 : decode cX8_init 172 = .ok (.getfield 13, 3) := by decide +kernel
theorem dX8_init_175 : decode cX8_init 175 = .ok (.bipush 10, 2) := by decide +kernel
theorem dX8_init_177 : decode cX8_init 177 = .ok (.ldc 53, 2) := by decide +kernel
theorem dX8_init_179 : decode cX8_init 179 = .ok (.invokestatic 31, 3) := by decide +kernel
theorem dX8_init_182 : decode cX8_init 182 = .ok (.lastore, 1) := by decide +kernel
theorem dX8_init_183 : decode cX8_init 183 = .ok (.return_, 1) := by decide +kernel
theorem dX8_spelling_0 : decode cX8_spelling 0 = .ok (.lconst 0, 1) := by decide +kernel
theorem dX8_spelling_1 : decode cX8_spelling 1 = .ok (.lstore_n 1, 1) := by decide +kernel
theorem dX8_spelling_2 : decode cX8_spelling 2 = .ok (.iconst 0, 1) := by decide +kernel
theorem dX8_spelling_3 : decode cX8_spelling 3 = .ok (.istore_n 3, 1) := by decide +kernel
theorem dX8_spelling_4 : decode cX8_spelling 4 = .ok (.iload_n 3, 1) := by decide +kernel
theorem dX8_spelling_5 : decode cX8_spelling 5 = .ok (.aload_n 0, 1) := by decide +kernel
theorem dX8_spelling_6 : decode cX8_spelling 6 = .ok (.invokevirtual 55, 3) := by decide +kernel
theorem dX8_spelling_9 : decode cX8_spelling 9 = .ok (.if_icmp .ge 19, 3) := by decide +kernel
theorem dX8_spelling_12 : decode cX8_spelling 12 = .ok (.lload_n 1, 1) := by decide +kernel
theorem dX8_spelling_13 : decode cX8_spelling 13 = .ok (.aload_n 0, 1) := by decide +kernel
theorem dX8_spelling_14 : decode cX8_spelling 14 = .ok (.iload_n 3, 1) := by decide +kernel
theorem dX8_spelling_15 : decode cX8_spelling 15 = .ok (.invokevirtual 61, 3) := by decide +kernel
theorem dX8_spelling_18 : decode cX8_spelling 18 = .ok (.invokestatic 65, 3) := by decide +kernel
theorem dX8_spelling_21 : decode cX8_spelling 21 = .ok (.lstore_n 1, 1) := by decide +kernel
theorem dX8_spelling_22 : decode cX8_spelling 22 = .ok (.iinc 3 1, 3) := by decide +kernel
theorem dX8_spelling_25 : decode cX8_spelling 25 = .ok (.goto (-21), 3) := by decide +kernel
theorem dX8_spelling_28 : decode cX8_spelling 28 = .ok (.lload_n 1, 1) := by decide +kernel
theorem dX8_spelling_29 : decode cX8_spelling 29 = .ok (.lreturn, 1) := by decide +kernel
theorem dX8_withLetter_0 : decode cX8_withLetter 0 = .ok (.lload_n 0, 1) := by decide +kernel
theorem dX8_withLetter_1 : decode cX8_withLetter 1 = .ok (.iconst 5, 1) := by decide +kernel
theorem dX8_withLetter_2 : decode cX8_withLetter 2 = .ok (.lshl, 1) := by decide +kernel
theorem dX8_withLetter_3 : decode cX8_withLetter 3 = .ok (.iload_n 2, 1) := by decide +kernel
theorem dX8_withLetter_4 : decode cX8_withLetter 4 = .ok (.bipush 97, 2) := by decide +kernel
theorem dX8_withLetter_6 : decode cX8_withLetter 6 = .ok (.isub, 1) := by decide +kernel
theorem dX8_withLetter_7 : decode cX8_withLetter 7 = .ok (.iconst 1, 1) := by decide +kernel
theorem dX8_withLetter_8 : decode cX8_withLetter 8 = .ok (.iadd, 1) := by decide +kernel
theorem dX8_withLetter_9 : decode cX8_withLetter 9 = .ok (.i2l, 1) := by decide +kernel
theorem dX8_withLetter_10 : decode cX8_withLetter 10 = .ok (.lor, 1) := by decide +kernel
theorem dX8_withLetter_11 : decode cX8_withLetter 11 = .ok (.lreturn, 1) := by decide +kernel
theorem dX8_hasRoom_0 : decode cX8_hasRoom 0 = .ok (.aload_n 0, 1) := by decide +kernel
theorem dX8_hasRoom_1 : decode cX8_hasRoom 1 = .ok (.getfield 69, 3) := by decide +kernel
theorem dX8_hasRoom_4 : decode cX8_hasRoom 4 = .ok (.bipush 20, 2) := by decide +kernel
theorem dX8_hasRoom_6 : decode cX8_hasRoom 6 = .ok (.iadd, 1) := by decide +kernel
theorem dX8_hasRoom_7 : decode cX8_hasRoom 7 = .ok (.sipush 900, 3) := by decide +kernel
theorem dX8_hasRoom_10 : decode cX8_hasRoom 10 = .ok (.if_icmp .gt 7, 3) := by decide +kernel
theorem dX8_hasRoom_13 : decode cX8_hasRoom 13 = .ok (.iconst 1, 1) := by decide +kernel
theorem dX8_hasRoom_14 : decode cX8_hasRoom 14 = .ok (.goto 4, 3) := by decide +kernel
theorem dX8_hasRoom_17 : decode cX8_hasRoom 17 = .ok (.iconst 0, 1) := by decide +kernel
theorem dX8_hasRoom_18 : decode cX8_hasRoom 18 = .ok (.ireturn, 1) := by decide +kernel
theorem dX8_take_0 : decode cX8_take 0 = .ok (.bipush 24, 2) := by decide +kernel
theorem dX8_take_2 : decode cX8_take 2 = .ok (.istore_n 2, 1) := by decide +kernel
theorem dX8_take_3 : decode cX8_take 3 = .ok (.iload_n 2, 1) := by decide +kernel
theorem dX8_take_4 : decode cX8_take 4 = .ok (.ifCond .lt 45, 3) := by decide +kernel
theorem dX8_take_7 : decode cX8_take 7 = .ok (.aload_n 0, 1) := by decide +kernel
theorem dX8_take_8 : decode cX8_take 8 = .ok (.getfield 69, 3) := by decide +kernel
theorem dX8_take_11 : decode cX8_take 11 = .ok (.sipush 900, 3) := by decide +kernel
theorem dX8_take_14 : decode cX8_take 14 = .ok (.if_icmp .ge 35, 3) := by decide +kernel
theorem dX8_take_17 : decode cX8_take 17 = .ok (.aload_n 0, 1) := by decide +kernel
theorem dX8_take_18 : decode cX8_take 18 = .ok (.getfield 9, 3) := by decide +kernel
theorem dX8_take_21 : decode cX8_take 21 = .ok (.aload_n 0, 1) := by decide +kernel
theorem dX8_take_22 : decode cX8_take 22 = .ok (.getfield 69, 3) := by decide +kernel
theorem dX8_take_25 : decode cX8_take 25 = .ok (.iload_n 1, 1) := by decide +kernel
theorem dX8_take_26 : decode cX8_take 26 = .ok (.iload_n 2, 1) := by decide +kernel
theorem dX8_take_27 : decode cX8_take 27 = .ok (.iushr, 1) := by decide +kernel
theorem dX8_take_28 : decode cX8_take 28 = .ok (.sipush 255, 3) := by decide +kernel
theorem dX8_take_31 : decode cX8_take 31 = .ok (.iand, 1) := by decide +kernel
theorem dX8_take_32 : decode cX8_take 32 = .ok (.iastore, 1) := by decide +kernel
theorem dX8_take_33 : decode cX8_take 33 = .ok (.aload_n 0, 1) := by decide +kernel
theorem dX8_take_34 : decode cX8_take 34 = .ok (.dup, 1) := by decide +kernel
theorem dX8_take_35 : decode cX8_take 35 = .ok (.getfield 69, 3) := by decide +kernel
theorem dX8_take_38 : decode cX8_take 38 = .ok (.iconst 1, 1) := by decide +kernel
theorem dX8_take_39 : decode cX8_take 39 = .ok (.iadd, 1) := by decide +kernel
theorem dX8_take_40 : decode cX8_take 40 = .ok (.putfield 69, 3) := by decide +kernel
theorem dX8_take_43 : decode cX8_take 43 = .ok (.iinc 2 (-8), 3) := by decide +kernel
theorem dX8_take_46 : decode cX8_take 46 = .ok (.goto (-43), 3) := by decide +kernel
theorem dX8_take_49 : decode cX8_take 49 = .ok (.return_, 1) := by decide +kernel
theorem dX8_cut_0 : decode cX8_cut 0 = .ok (.iload_n 1, 1) := by decide +kernel
theorem dX8_cut_1 : decode cX8_cut 1 = .ok (.sipush 900, 3) := by decide +kernel
theorem dX8_cut_4 : decode cX8_cut 4 = .ok (.invokestatic 73, 3) := by decide +kernel
theorem dX8_cut_7 : decode cX8_cut 7 = .ok (.istore_n 2, 1) := by decide +kernel
theorem dX8_cut_8 : decode cX8_cut 8 = .ok (.aload_n 0, 1) := by decide +kernel
theorem dX8_cut_9 : decode cX8_cut 9 = .ok (.iconst 0, 1) := by decide +kernel
theorem dX8_cut_10 : decode cX8_cut 10 = .ok (.putfield 79, 3) := by decide +kernel
theorem dX8_cut_13 : decode cX8_cut 13 = .ok (.iconst 0, 1) := by decide +kernel
theorem dX8_cut_14 : decode cX8_cut 14 = .ok (.istore_n 3, 1) := by decide +kernel
theorem dX8_cut_15 : decode cX8_cut 15 = .ok (.iconst 0, 1) := by decide +kernel
theorem dX8_cut_16 : decode cX8_cut 16 = .ok (.istore 4, 2) := by decide +kernel
theorem dX8_cut_18 : decode cX8_cut 18 = .ok (.iload 4, 2) := by decide +kernel
theorem dX8_cut_20 : decode cX8_cut 20 = .ok (.iload_n 2, 1) := by decide +kernel
theorem dX8_cut_21 : decode cX8_cut 21 = .ok (.if_icmp .gt 56, 3) := by decide +kernel
theorem dX8_cut_24 : decode cX8_cut 24 = .ok (.iload_n 3, 1) := by decide +kernel
theorem dX8_cut_25 : decode cX8_cut 25 = .ok (.iload_n 2, 1) := by decide +kernel
theorem dX8_cut_26 : decode cX8_cut 26 = .ok (.if_icmp .gt 51, 3) := by decide +kernel
theorem dX8_cut_29 : decode cX8_cut 29 = .ok (.iload_n 3, 1) := by decide +kernel
theorem dX8_cut_30 : decode cX8_cut 30 = .ok (.iload_n 2, 1) := by decide +kernel
theorem dX8_cut_31 : decode cX8_cut 31 = .ok (.if_icmp .ge 20, 3) := by decide +kernel
theorem dX8_cut_34 : decode cX8_cut 34 = .ok (.aload_n 0, 1) := by decide +kernel
theorem dX8_cut_35 : decode cX8_cut 35 = .ok (.getfield 9, 3) := by decide +kernel
theorem dX8_cut_38 : decode cX8_cut 38 = .ok (.iload_n 3, 1) := by decide +kernel
theorem dX8_cut_39 : decode cX8_cut 39 = .ok (.iaload, 1) := by decide +kernel
theorem dX8_cut_40 : decode cX8_cut 40 = .ok (.bipush 32, 2) := by decide +kernel
theorem dX8_cut_42 : decode cX8_cut 42 = .ok (.if_icmp .ne 9, 3) := by decide +kernel
theorem dX8_cut_45 : decode cX8_cut 45 = .ok (.iinc 3 1, 3) := by decide +kernel
theorem dX8_cut_48 : decode cX8_cut 48 = .ok (.goto (-19), 3) := by decide +kernel
theorem dX8_cut_51 : decode cX8_cut 51 = .ok (.iload_n 3, 1) := by decide +kernel
theorem dX8_cut_52 : decode cX8_cut 52 = .ok (.iload_n 2, 1) := by decide +kernel
theorem dX8_cut_53 : decode cX8_cut 53 = .ok (.if_icmp .ge 12, 3) := by decide +kernel
theorem dX8_cut_56 : decode cX8_cut 56 = .ok (.aload_n 0, 1) := by decide +kernel
theorem dX8_cut_57 : decode cX8_cut 57 = .ok (.iload_n 3, 1) := by decide +kernel
theorem dX8_cut_58 : decode cX8_cut 58 = .ok (.iload_n 2, 1) := by decide +kernel
theorem dX8_cut_59 : decode cX8_cut 59 = .ok (.invokevirtual 82, 3) := by decide +kernel
theorem dX8_cut_62 : decode cX8_cut 62 = .ok (.goto 8, 3) := by decide +kernel
theorem dX8_cut_65 : decode cX8_cut 65 = .ok (.aload_n 0, 1) := by decide +kernel
theorem dX8_cut_66 : decode cX8_cut 66 = .ok (.iload_n 2, 1) := by decide +kernel
theorem dX8_cut_67 : decode cX8_cut 67 = .ok (.invokevirtual 85, 3) := by decide +kernel
theorem dX8_cut_70 : decode cX8_cut 70 = .ok (.istore_n 3, 1) := by decide +kernel
theorem dX8_cut_71 : decode cX8_cut 71 = .ok (.iinc 4 1, 3) := by decide +kernel
theorem dX8_cut_74 : decode cX8_cut 74 = .ok (.goto (-56), 3) := by decide +kernel
theorem dX8_cut_77 : decode cX8_cut 77 = .ok (.aload_n 0, 1) := by decide +kernel
theorem dX8_cut_78 : decode cX8_cut 78 = .ok (.iconst 0, 1) := by decide +kernel
theorem dX8_cut_79 : decode cX8_cut 79 = .ok (.putfield 69, 3) := by decide +kernel
theorem dX8_cut_82 : decode cX8_cut 82 = .ok (.return_, 1) := by decide +kernel
theorem dX8_ends_0 : decode cX8_ends 0 = .ok (.aload_n 0, 1) := by decide +kernel
theorem dX8_ends_1 : decode cX8_ends 1 = .ok (.iconst 0, 1) := by decide +kernel
theorem dX8_ends_2 : decode cX8_ends 2 = .ok (.iload_n 1, 1) := by decide +kernel
theorem dX8_ends_3 : decode cX8_ends 3 = .ok (.iconst 0, 1) := by decide +kernel
theorem dX8_ends_4 : decode cX8_ends 4 = .ok (.lconst 0, 1) := by decide +kernel
theorem dX8_ends_5 : decode cX8_ends 5 = .ok (.invokevirtual 89, 3) := by decide +kernel
theorem dX8_ends_8 : decode cX8_ends 8 = .ok (.iload_n 1, 1) := by decide +kernel
theorem dX8_ends_9 : decode cX8_ends 9 = .ok (.iconst 1, 1) := by decide +kernel
theorem dX8_ends_10 : decode cX8_ends 10 = .ok (.iadd, 1) := by decide +kernel
theorem dX8_ends_11 : decode cX8_ends 11 = .ok (.ireturn, 1) := by decide +kernel
theorem dX8_cutOne_0 : decode cX8_cutOne 0 = .ok (.aload_n 0, 1) := by decide +kernel
theorem dX8_cutOne_1 : decode cX8_cutOne 1 = .ok (.getfield 9, 3) := by decide +kernel
theorem dX8_cutOne_4 : decode cX8_cutOne 4 = .ok (.iload_n 1, 1) := by decide +kernel
theorem dX8_cutOne_5 : decode cX8_cutOne 5 = .ok (.iaload, 1) := by decide +kernel
theorem dX8_cutOne_6 : decode cX8_cutOne 6 = .ok (.istore_n 3, 1) := by decide +kernel
theorem dX8_cutOne_7 : decode cX8_cutOne 7 = .ok (.iload_n 1, 1) := by decide +kernel
theorem dX8_cutOne_8 : decode cX8_cutOne 8 = .ok (.iconst 1, 1) := by decide +kernel
theorem dX8_cutOne_9 : decode cX8_cutOne 9 = .ok (.iadd, 1) := by decide +kernel
theorem dX8_cutOne_10 : decode cX8_cutOne 10 = .ok (.istore 4, 2) := by decide +kernel
theorem dX8_cutOne_12 : decode cX8_cutOne 12 = .ok (.iload_n 3, 1) := by decide +kernel
theorem dX8_cutOne_13 : decode cX8_cutOne 13 = .ok (.invokestatic 93, 3) := by decide +kernel
theorem dX8_cutOne_16 : decode cX8_cutOne 16 = .ok (.ifCond .eq 47, 3) := by decide +kernel
theorem dX8_cutOne_19 : decode cX8_cutOne 19 = .ok (.iload 4, 2) := by decide +kernel
theorem dX8_cutOne_21 : decode cX8_cutOne 21 = .ok (.iload_n 2, 1) := by decide +kernel
theorem dX8_cutOne_22 : decode cX8_cutOne 22 = .ok (.if_icmp .ge 22, 3) := by decide +kernel
theorem dX8_cutOne_25 : decode cX8_cutOne 25 = .ok (.aload_n 0, 1) := by decide +kernel
theorem dX8_cutOne_26 : decode cX8_cutOne 26 = .ok (.getfield 9, 3) := by decide +kernel
theorem dX8_cutOne_29 : decode cX8_cutOne 29 = .ok (.iload 4, 2) := by decide +kernel
theorem dX8_cutOne_31 : decode cX8_cutOne 31 = .ok (.iaload, 1) := by decide +kernel
theorem dX8_cutOne_32 : decode cX8_cutOne 32 = .ok (.invokestatic 93, 3) := by decide +kernel
theorem dX8_cutOne_35 : decode cX8_cutOne 35 = .ok (.ifCond .eq 9, 3) := by decide +kernel
theorem dX8_cutOne_38 : decode cX8_cutOne 38 = .ok (.iinc 4 1, 3) := by decide +kernel
theorem dX8_cutOne_41 : decode cX8_cutOne 41 = .ok (.goto (-22), 3) := by decide +kernel
theorem dX8_cutOne_44 : decode cX8_cutOne 44 = .ok (.iload 4, 2) := by decide +kernel
theorem dX8_cutOne_46 : decode cX8_cutOne 46 = .ok (.iload_n 1, 1) := by decide +kernel
theorem dX8_cutOne_47 : decode cX8_cutOne 47 = .ok (.isub, 1) := by decide +kernel
theorem dX8_cutOne_48 : decode cX8_cutOne 48 = .ok (.bipush 8, 2) := by decide +kernel
theorem dX8_cutOne_50 : decode cX8_cutOne 50 = .ok (.if_icmp .gt 80, 3) := by decide +kernel
theorem dX8_cutOne_53 : decode cX8_cutOne 53 = .ok (.aload_n 0, 1) := by decide +kernel
theorem dX8_cutOne_54 : decode cX8_cutOne 54 = .ok (.iload_n 1, 1) := by decide +kernel
theorem dX8_cutOne_55 : decode cX8_cutOne 55 = .ok (.iload 4, 2) := by decide +kernel
theorem dX8_cutOne_57 : decode cX8_cutOne 57 = .ok (.invokevirtual 97, 3) := by decide +kernel
theorem dX8_cutOne_60 : decode cX8_cutOne 60 = .ok (.iload 4, 2) := by decide +kernel
theorem dX8_cutOne_62 : decode cX8_cutOne 62 = .ok (.ireturn, 1) := by decide +kernel
theorem dX8_cutOne_63 : decode cX8_cutOne 63 = .ok (.iload_n 3, 1) := by decide +kernel
theorem dX8_cutOne_64 : decode cX8_cutOne 64 = .ok (.invokestatic 101, 3) := by decide +kernel
theorem dX8_cutOne_67 : decode cX8_cutOne 67 = .ok (.ifCond .eq 46, 3) := by decide +kernel
theorem dX8_cutOne_70 : decode cX8_cutOne 70 = .ok (.iload 4, 2) := by decide +kernel
theorem dX8_cutOne_72 : decode cX8_cutOne 72 = .ok (.iload_n 2, 1) := by decide +kernel
theorem dX8_cutOne_73 : decode cX8_cutOne 73 = .ok (.if_icmp .ge 22, 3) := by decide +kernel
theorem dX8_cutOne_76 : decode cX8_cutOne 76 = .ok (.aload_n 0, 1) := by decide +kernel
theorem dX8_cutOne_77 : decode cX8_cutOne 77 = .ok (.getfield 9, 3) := by decide +kernel
theorem dX8_cutOne_80 : decode cX8_cutOne 80 = .ok (.iload 4, 2) := by decide +kernel
theorem dX8_cutOne_82 : decode cX8_cutOne 82 = .ok (.iaload, 1) := by decide +kernel
theorem dX8_cutOne_83 : decode cX8_cutOne 83 = .ok (.invokestatic 101, 3) := by decide +kernel
theorem dX8_cutOne_86 : decode cX8_cutOne 86 = .ok (.ifCond .eq 9, 3) := by decide +kernel
theorem dX8_cutOne_89 : decode cX8_cutOne 89 = .ok (.iinc 4 1, 3) := by decide +kernel
theorem dX8_cutOne_92 : decode cX8_cutOne 92 = .ok (.goto (-22), 3) := by decide +kernel
theorem dX8_cutOne_95 : decode cX8_cutOne 95 = .ok (.iload 4, 2) := by decide +kernel
theorem dX8_cutOne_97 : decode cX8_cutOne 97 = .ok (.iload_n 1, 1) := by decide +kernel
theorem dX8_cutOne_98 : decode cX8_cutOne 98 = .ok (.isub, 1) := by decide +kernel
theorem dX8_cutOne_99 : decode cX8_cutOne 99 = .ok (.iconst 3, 1) := by decide +kernel
theorem dX8_cutOne_100 : decode cX8_cutOne 100 = .ok (.if_icmp .gt 30, 3) := by decide +kernel
theorem dX8_cutOne_103 : decode cX8_cutOne 103 = .ok (.aload_n 0, 1) := by decide +kernel
theorem dX8_cutOne_104 : decode cX8_cutOne 104 = .ok (.iload_n 1, 1) := by decide +kernel
theorem dX8_cutOne_105 : decode cX8_cutOne 105 = .ok (.iload 4, 2) := by decide +kernel
theorem dX8_cutOne_107 : decode cX8_cutOne 107 = .ok (.invokevirtual 104, 3) := by decide +kernel
theorem dX8_cutOne_110 : decode cX8_cutOne 110 = .ok (.iload 4, 2) := by decide +kernel
theorem dX8_cutOne_112 : decode cX8_cutOne 112 = .ok (.ireturn, 1) := by decide +kernel
theorem dX8_cutOne_113 : decode cX8_cutOne 113 = .ok (.iload_n 3, 1) := by decide +kernel
theorem dX8_cutOne_114 : decode cX8_cutOne 114 = .ok (.bipush 59, 2) := by decide +kernel
theorem dX8_cutOne_116 : decode cX8_cutOne 116 = .ok (.if_icmp .ne 14, 3) := by decide +kernel
theorem dX8_cutOne_119 : decode cX8_cutOne 119 = .ok (.aload_n 0, 1) := by decide +kernel
theorem dX8_cutOne_120 : decode cX8_cutOne 120 = .ok (.iconst 3, 1) := by decide +kernel
theorem dX8_cutOne_121 : decode cX8_cutOne 121 = .ok (.iload_n 1, 1) := by decide +kernel
theorem dX8_cutOne_122 : decode cX8_cutOne 122 = .ok (.iconst 0, 1) := by decide +kernel
theorem dX8_cutOne_123 : decode cX8_cutOne 123 = .ok (.lconst 0, 1) := by decide +kernel
theorem dX8_cutOne_124 : decode cX8_cutOne 124 = .ok (.invokevirtual 89, 3) := by decide +kernel
theorem dX8_cutOne_127 : decode cX8_cutOne 127 = .ok (.iload 4, 2) := by decide +kernel
theorem dX8_cutOne_129 : decode cX8_cutOne 129 = .ok (.ireturn, 1) := by decide +kernel
theorem dX8_cutOne_130 : decode cX8_cutOne 130 = .ok (.aload_n 0, 1) := by decide +kernel
theorem dX8_cutOne_131 : decode cX8_cutOne 131 = .ok (.iconst 4, 1) := by decide +kernel
theorem dX8_cutOne_132 : decode cX8_cutOne 132 = .ok (.iload_n 1, 1) := by decide +kernel
theorem dX8_cutOne_133 : decode cX8_cutOne 133 = .ok (.iconst 0, 1) := by decide +kernel
theorem dX8_cutOne_134 : decode cX8_cutOne 134 = .ok (.lconst 0, 1) := by decide +kernel
theorem dX8_cutOne_135 : decode cX8_cutOne 135 = .ok (.invokevirtual 89, 3) := by decide +kernel
theorem dX8_cutOne_138 : decode cX8_cutOne 138 = .ok (.iload_n 2, 1) := by decide +kernel
theorem dX8_cutOne_139 : decode cX8_cutOne 139 = .ok (.iconst 1, 1) := by decide +kernel
theorem dX8_cutOne_140 : decode cX8_cutOne 140 = .ok (.iadd, 1) := by decide +kernel
theorem dX8_cutOne_141 : decode cX8_cutOne 141 = .ok (.ireturn, 1) := by decide +kernel
theorem dX8_isLetter_0 : decode cX8_isLetter 0 = .ok (.iload_n 0, 1) := by decide +kernel
theorem dX8_isLetter_1 : decode cX8_isLetter 1 = .ok (.bipush 97, 2) := by decide +kernel
theorem dX8_isLetter_3 : decode cX8_isLetter 3 = .ok (.if_icmp .lt 13, 3) := by decide +kernel
theorem dX8_isLetter_6 : decode cX8_isLetter 6 = .ok (.iload_n 0, 1) := by decide +kernel
theorem dX8_isLetter_7 : decode cX8_isLetter 7 = .ok (.bipush 122, 2) := by decide +kernel
theorem dX8_isLetter_9 : decode cX8_isLetter 9 = .ok (.if_icmp .gt 7, 3) := by decide +kernel
theorem dX8_isLetter_12 : decode cX8_isLetter 12 = .ok (.iconst 1, 1) := by decide +kernel
theorem dX8_isLetter_13 : decode cX8_isLetter 13 = .ok (.goto 4, 3) := by decide +kernel
theorem dX8_isLetter_16 : decode cX8_isLetter 16 = .ok (.iconst 0, 1) := by decide +kernel
theorem dX8_isLetter_17 : decode cX8_isLetter 17 = .ok (.ireturn, 1) := by decide +kernel
theorem dX8_isFigure_0 : decode cX8_isFigure 0 = .ok (.iload_n 0, 1) := by decide +kernel
theorem dX8_isFigure_1 : decode cX8_isFigure 1 = .ok (.bipush 48, 2) := by decide +kernel
theorem dX8_isFigure_3 : decode cX8_isFigure 3 = .ok (.if_icmp .lt 13, 3) := by decide +kernel
theorem dX8_isFigure_6 : decode cX8_isFigure 6 = .ok (.iload_n 0, 1) := by decide +kernel
theorem dX8_isFigure_7 : decode cX8_isFigure 7 = .ok (.bipush 57, 2) := by decide +kernel
theorem dX8_isFigure_9 : decode cX8_isFigure 9 = .ok (.if_icmp .gt 7, 3) := by decide +kernel
theorem dX8_isFigure_12 : decode cX8_isFigure 12 = .ok (.iconst 1, 1) := by decide +kernel
theorem dX8_isFigure_13 : decode cX8_isFigure 13 = .ok (.goto 4, 3) := by decide +kernel
theorem dX8_isFigure_16 : decode cX8_isFigure 16 = .ok (.iconst 0, 1) := by decide +kernel
theorem dX8_isFigure_17 : decode cX8_isFigure 17 = .ok (.ireturn, 1) := by decide +kernel
theorem dX8_addWord_0 : decode cX8_addWord 0 = .ok (.lconst 0, 1) := by decide +kernel
theorem dX8_addWord_1 : decode cX8_addWord 1 = .ok (.lstore_n 3, 1) := by decide +kernel
theorem dX8_addWord_2 : decode cX8_addWord 2 = .ok (.iload_n 1, 1) := by decide +kernel
theorem dX8_addWord_3 : decode cX8_addWord 3 = .ok (.istore 5, 2) := by decide +kernel
theorem dX8_addWord_5 : decode cX8_addWord 5 = .ok (.iload 5, 2) := by decide +kernel
theorem dX8_addWord_7 : decode cX8_addWord 7 = .ok (.iload_n 2, 1) := by decide +kernel
theorem dX8_addWord_8 : decode cX8_addWord 8 = .ok (.if_icmp .ge 21, 3) := by decide +kernel
theorem dX8_addWord_11 : decode cX8_addWord 11 = .ok (.lload_n 3, 1) := by decide +kernel
theorem dX8_addWord_12 : decode cX8_addWord 12 = .ok (.aload_n 0, 1) := by decide +kernel
theorem dX8_addWord_13 : decode cX8_addWord 13 = .ok (.getfield 9, 3) := by decide +kernel
theorem dX8_addWord_16 : decode cX8_addWord 16 = .ok (.iload 5, 2) := by decide +kernel
theorem dX8_addWord_18 : decode cX8_addWord 18 = .ok (.iaload, 1) := by decide +kernel
theorem dX8_addWord_19 : decode cX8_addWord 19 = .ok (.invokestatic 65, 3) := by decide +kernel
theorem dX8_addWord_22 : decode cX8_addWord 22 = .ok (.lstore_n 3, 1) := by decide +kernel
theorem dX8_addWord_23 : decode cX8_addWord 23 = .ok (.iinc 5 1, 3) := by decide +kernel
theorem dX8_addWord_26 : decode cX8_addWord 26 = .ok (.goto (-21), 3) := by decide +kernel
theorem dX8_addWord_29 : decode cX8_addWord 29 = .ok (.iconst 0, 1) := by decide +kernel
theorem dX8_addWord_30 : decode cX8_addWord 30 = .ok (.istore 5, 2) := by decide +kernel
theorem dX8_addWord_32 : decode cX8_addWord 32 = .ok (.iload 5, 2) := by decide +kernel
theorem dX8_addWord_34 : decode cX8_addWord 34 = .ok (.bipush 11, 2) := by decide +kernel
theorem dX8_addWord_36 : decode cX8_addWord 36 = .ok (.if_icmp .ge 21, 3) := by decide +kernel
theorem dX8_addWord_39 : decode cX8_addWord 39 = .ok (.aload_n 0, 1) := by decide +kernel
theorem dX8_addWord_40 : decode cX8_addWord 40 = .ok (.getfield 13, 3) := by decide +kernel
theorem dX8_addWord_43 : decode cX8_addWord 43 = .ok (.iload 5, 2) := by decide +kernel
theorem dX8_addWord_45 : decode cX8_addWord 45 = .ok (.laload, 1) := by decide +kernel
theorem dX8_addWord_46 : decode cX8_addWord 46 = .ok (.lload_n 3, 1) := by decide +kernel
theorem dX8_addWord_47 : decode cX8_addWord 47 = .ok (.lcmp, 1) := by decide +kernel
theorem dX8_addWord_48 : decode cX8_addWord 48 = .ok (.ifCond .eq 9, 3) := by decide +kernel
theorem dX8_addWord_51 : decode cX8_addWord 51 = .ok (.iinc 5 1, 3) := by decide +kernel
theorem dX8_addWord_54 : decode cX8_addWord 54 = .ok (.goto (-22), 3) := by decide +kernel
theorem dX8_addWord_57 : decode cX8_addWord 57 = .ok (.aload_n 0, 1) := by decide +kernel
theorem dX8_addWord_58 : decode cX8_addWord 58 = .ok (.iconst 1, 1) := by decide +kernel
theorem dX8_addWord_59 : decode cX8_addWord 59 = .ok (.iload_n 1, 1) := by decide +kernel
theorem dX8_addWord_60 : decode cX8_addWord 60 = .ok (.iload 5, 2) := by decide +kernel
theorem dX8_addWord_62 : decode cX8_addWord 62 = .ok (.lload_n 3, 1) := by decide +kernel
theorem dX8_addWord_63 : decode cX8_addWord 63 = .ok (.invokevirtual 89, 3) := by decide +kernel
theorem dX8_addWord_66 : decode cX8_addWord 66 = .ok (.return_, 1) := by decide +kernel
theorem dX8_addWhole_0 : decode cX8_addWhole 0 = .ok (.iconst 0, 1) := by decide +kernel
theorem dX8_addWhole_1 : decode cX8_addWhole 1 = .ok (.istore_n 3, 1) := by decide +kernel
theorem dX8_addWhole_2 : decode cX8_addWhole 2 = .ok (.iload_n 1, 1) := by decide +kernel
theorem dX8_addWhole_3 : decode cX8_addWhole 3 = .ok (.istore 4, 2) := by decide +kernel
theorem dX8_addWhole_5 : decode cX8_addWhole 5 = .ok (.iload 4, 2) := by decide +kernel
theorem dX8_addWhole_7 : decode cX8_addWhole 7 = .ok (.iload_n 2, 1) := by decide +kernel
theorem dX8_addWhole_8 : decode cX8_addWhole 8 = .ok (.if_icmp .ge 25, 3) := by decide +kernel
theorem dX8_addWhole_11 : decode cX8_addWhole 11 = .ok (.bipush 10, 2) := by decide +kernel
theorem dX8_addWhole_13 : decode cX8_addWhole 13 = .ok (.iload_n 3, 1) := by decide +kernel
theorem dX8_addWhole_14 : decode cX8_addWhole 14 = .ok (.imul, 1) := by decide +kernel
theorem dX8_addWhole_15 : decode cX8_addWhole 15 = .ok (.aload_n 0, 1) := by decide +kernel
theorem dX8_addWhole_16 : decode cX8_addWhole 16 = .ok (.getfield 9, 3) := by decide +kernel
theorem dX8_addWhole_19 : decode cX8_addWhole 19 = .ok (.iload 4, 2) := by decide +kernel
theorem dX8_addWhole_21 : decode cX8_addWhole 21 = .ok (.iaload, 1) := by decide +kernel
theorem dX8_addWhole_22 : decode cX8_addWhole 22 = .ok (.iadd, 1) := by decide +kernel
theorem dX8_addWhole_23 : decode cX8_addWhole 23 = .ok (.bipush 48, 2) := by decide +kernel
theorem dX8_addWhole_25 : decode cX8_addWhole 25 = .ok (.isub, 1) := by decide +kernel
theorem dX8_addWhole_26 : decode cX8_addWhole 26 = .ok (.istore_n 3, 1) := by decide +kernel
theorem dX8_addWhole_27 : decode cX8_addWhole 27 = .ok (.iinc 4 1, 3) := by decide +kernel
theorem dX8_addWhole_30 : decode cX8_addWhole 30 = .ok (.goto (-25), 3) := by decide +kernel
theorem dX8_addWhole_33 : decode cX8_addWhole 33 = .ok (.aload_n 0, 1) := by decide +kernel
theorem dX8_addWhole_34 : decode cX8_addWhole 34 = .ok (.iconst 2, 1) := by decide +kernel
theorem dX8_addWhole_35 : decode cX8_addWhole 35 = .ok (.iload_n 1, 1) := by decide +kernel
theorem dX8_addWhole_36 : decode cX8_addWhole 36 = .ok (.iload_n 3, 1) := by decide +kernel
theorem dX8_addWhole_37 : decode cX8_addWhole 37 = .ok (.lconst 0, 1) := by decide +kernel
theorem dX8_addWhole_38 : decode cX8_addWhole 38 = .ok (.invokevirtual 89, 3) := by decide +kernel
theorem dX8_addWhole_41 : decode cX8_addWhole 41 = .ok (.return_, 1) := by decide +kernel
theorem dX8_addToken_0 : decode cX8_addToken 0 = .ok (.aload_n 0, 1) := by decide +kernel
theorem dX8_addToken_1 : decode cX8_addToken 1 = .ok (.getfield 79, 3) := by decide +kernel
theorem dX8_addToken_4 : decode cX8_addToken 4 = .ok (.sipush 900, 3) := by decide +kernel
theorem dX8_addToken_7 : decode cX8_addToken 7 = .ok (.if_icmp .gt 54, 3) := by decide +kernel
theorem dX8_addToken_10 : decode cX8_addToken 10 = .ok (.aload_n 0, 1) := by decide +kernel
theorem dX8_addToken_11 : decode cX8_addToken 11 = .ok (.getfield 17, 3) := by decide +kernel
theorem dX8_addToken_14 : decode cX8_addToken 14 = .ok (.aload_n 0, 1) := by decide +kernel
theorem dX8_addToken_15 : decode cX8_addToken 15 = .ok (.getfield 79, 3) := by decide +kernel
theorem dX8_addToken_18 : decode cX8_addToken 18 = .ok (.iload_n 1, 1) := by decide +kernel
theorem dX8_addToken_19 : decode cX8_addToken 19 = .ok (.iastore, 1) := by decide +kernel
theorem dX8_addToken_20 : decode cX8_addToken 20 = .ok (.aload_n 0, 1) := by decide +kernel
theorem dX8_addToken_21 : decode cX8_addToken 21 = .ok (.getfield 20, 3) := by decide +kernel
theorem dX8_addToken_24 : decode cX8_addToken 24 = .ok (.aload_n 0, 1) := by decide +kernel
theorem dX8_addToken_25 : decode cX8_addToken 25 = .ok (.getfield 79, 3) := by decide +kernel
theorem dX8_addToken_28 : decode cX8_addToken 28 = .ok (.iload_n 2, 1) := by decide +kernel
theorem dX8_addToken_29 : decode cX8_addToken 29 = .ok (.iastore, 1) := by decide +kernel
theorem dX8_addToken_30 : decode cX8_addToken 30 = .ok (.aload_n 0, 1) := by decide +kernel
theorem dX8_addToken_31 : decode cX8_addToken 31 = .ok (.getfield 23, 3) := by decide +kernel
theorem dX8_addToken_34 : decode cX8_addToken 34 = .ok (.aload_n 0, 1) := by decide +kernel
theorem dX8_addToken_35 : decode cX8_addToken 35 = .ok (.getfield 79, 3) := by decide +kernel
theorem dX8_addToken_38 : decode cX8_addToken 38 = .ok (.iload_n 3, 1) := by decide +kernel
theorem dX8_addToken_39 : decode cX8_addToken 39 = .ok (.iastore, 1) := by decide +kernel
theorem dX8_addToken_40 : decode cX8_addToken 40 = .ok (.aload_n 0, 1) := by decide +kernel
theorem dX8_addToken_41 : decode cX8_addToken 41 = .ok (.getfield 26, 3) := by decide +kernel
theorem dX8_addToken_44 : decode cX8_addToken 44 = .ok (.aload_n 0, 1) := by decide +kernel
theorem dX8_addToken_45 : decode cX8_addToken 45 = .ok (.getfield 79, 3) := by decide +kernel
theorem dX8_addToken_48 : decode cX8_addToken 48 = .ok (.lload 4, 2) := by decide +kernel
theorem dX8_addToken_50 : decode cX8_addToken 50 = .ok (.lastore, 1) := by decide +kernel
theorem dX8_addToken_51 : decode cX8_addToken 51 = .ok (.aload_n 0, 1) := by decide +kernel
theorem dX8_addToken_52 : decode cX8_addToken 52 = .ok (.dup, 1) := by decide +kernel
theorem dX8_addToken_53 : decode cX8_addToken 53 = .ok (.getfield 79, 3) := by decide +kernel
theorem dX8_addToken_56 : decode cX8_addToken 56 = .ok (.iconst 1, 1) := by decide +kernel
theorem dX8_addToken_57 : decode cX8_addToken 57 = .ok (.iadd, 1) := by decide +kernel
theorem dX8_addToken_58 : decode cX8_addToken 58 = .ok (.putfield 79, 3) := by decide +kernel
theorem dX8_addToken_61 : decode cX8_addToken 61 = .ok (.return_, 1) := by decide +kernel
theorem dX9_init_0 : decode cX9_init 0 = .ok (.aload_n 0, 1) := by decide +kernel
theorem dX9_init_1 : decode cX9_init 1 = .ok (.invokespecial 3, 3) := by decide +kernel
theorem dX9_init_4 : decode cX9_init 4 = .ok (.aload_n 0, 1) := by decide +kernel
theorem dX9_init_5 : decode cX9_init 5 = .ok (.bipush 8, 2) := by decide +kernel
theorem dX9_init_7 : decode cX9_init 7 = .ok (.newarray .long, 2) := by decide +kernel
theorem dX9_init_9 : decode cX9_init 9 = .ok (.putfield 9, 3) := by decide +kernel
theorem dX9_init_12 : decode cX9_init 12 = .ok (.aload_n 0, 1) := by decide +kernel
theorem dX9_init_13 : decode cX9_init 13 = .ok (.bipush 8, 2) := by decide +kernel
theorem dX9_init_15 : decode cX9_init 15 = .ok (.newarray .int, 2) := by decide +kernel
theorem dX9_init_17 : decode cX9_init 17 = .ok (.putfield 15, 3) := by decide +kernel
theorem dX9_init_20 : decode cX9_init 20 = .ok (.aload_n 0, 1) := by decide +kernel
theorem dX9_init_21 : decode cX9_init 21 = .ok (.bipush 8, 2) := by decide +kernel
theorem dX9_init_23 : decode cX9_init 23 = .ok (.newarray .long, 2) := by decide +kernel
theorem dX9_init_25 : decode cX9_init 25 = .ok (.putfield 19, 3) := by decide +kernel
theorem dX9_init_28 : decode cX9_init 28 = .ok (.aload_n 0, 1) := by decide +kernel
theorem dX9_init_29 : decode cX9_init 29 = .ok (.bipush 16, 2) := by decide +kernel
theorem dX9_init_31 : decode cX9_init 31 = .ok (.newarray .int, 2) := by decide +kernel
theorem dX9_init_33 : decode cX9_init 33 = .ok (.putfield 22, 3) := by decide +kernel
theorem dX9_init_36 : decode cX9_init 36 = .ok (.aload_n 0, 1) := by decide +kernel
theorem dX9_init_37 : decode cX9_init 37 = .ok (.bipush 16, 2) := by decide +kernel
theorem dX9_init_39 : decode cX9_init 39 = .ok (.newarray .int, 2) := by decide +kernel
theorem dX9_init_41 : decode cX9_init 41 = .ok (.putfield 25, 3) := by decide +kernel
theorem dX9_init_44 : decode cX9_init 44 = .ok (.aload_n 0, 1) := by decide +kernel
theorem dX9_init_45 : decode cX9_init 45 = .ok (.bipush 80, 2) := by decide +kernel
theorem dX9_init_47 : decode cX9_init 47 = .ok (.newarray .int, 2) := by decide +kernel
theorem dX9_init_49 : decode cX9_init 49 = .ok (.putfield 28, 3) := by decide +kernel
theorem dX9_init_52 : decode cX9_init 52 = .ok (.aload_n 0, 1) := by decide +kernel
theorem dX9_init_53 : decode cX9_init 53 = .ok (.bipush 7, 2) := by decide +kernel
theorem dX9_init_55 : decode cX9_init 55 = .ok (.newarray .int, 2) := by decide +kernel
theorem dX9_init_57 : decode cX9_init 57 = .ok (.putfield 31, 3) := by decide +kernel
theorem dX9_init_60 : decode cX9_init 60 = .ok (.aload_n 0, 1) := by decide +kernel
theorem dX9_init_61 : decode cX9_init 61 = .ok (.bipush 7, 2) := by decide +kernel
theorem dX9_init_63 : decode cX9_init 63 = .ok (.newarray .int, 2) := by decide +kernel
theorem dX9_init_65 : decode cX9_init 65 = .ok (.putfield 34, 3) := by decide +kernel
theorem dX9_init_68 : decode cX9_init 68 = .ok (.return_, 1) := by decide +kernel
theorem dX9_clear_0 : decode cX9_clear 0 = .ok (.aload_n 0, 1) := by decide +kernel
theorem dX9_clear_1 : decode cX9_clear 1 = .ok (.iconst 0, 1) := by decide +kernel
theorem dX9_clear_2 : decode cX9_clear 2 = .ok (.putfield 37, 3) := by decide +kernel
theorem dX9_clear_5 : decode cX9_clear 5 = .ok (.aload_n 0, 1) := by decide +kernel
theorem dX9_clear_6 : decode cX9_clear 6 = .ok (.iconst 0, 1) := by decide +kernel
theorem dX9_clear_7 : decode cX9_clear 7 = .ok (.putfield 41, 3) := by decide +kernel
theorem dX9_clear_10 : decode cX9_clear 10 = .ok (.aload_n 0, 1) := by decide +kernel
theorem dX9_clear_11 : decode cX9_clear 11 = .ok (.iconst 0, 1) := by decide +kernel
theorem dX9_clear_12 : decode cX9_clear 12 = .ok (.putfield 44, 3) := by decide +kernel
theorem dX9_clear_15 : decode cX9_clear 15 = .ok (.aload_n 0, 1) := by decide +kernel
theorem dX9_clear_16 : decode cX9_clear 16 = .ok (.iconst 0, 1) := by decide +kernel
theorem dX9_clear_17 : decode cX9_clear 17 = .ok (.putfield 48, 3) := by decide +kernel
theorem dX9_clear_20 : decode cX9_clear 20 = .ok (.aload_n 0, 1) := by decide +kernel
theorem dX9_clear_21 : decode cX9_clear 21 = .ok (.iconst 0, 1) := by decide +kernel
theorem dX9_clear_22 : decode cX9_clear 22 = .ok (.putfield 51, 3) := by decide +kernel
theorem dX9_clear_25 : decode cX9_clear 25 = .ok (.aload_n 0, 1) := by decide +kernel
theorem dX9_clear_26 : decode cX9_clear 26 = .ok (.iconst 0, 1) := by decide +kernel
theorem dX9_clear_27 : decode cX9_clear 27 = .ok (.putfield 54, 3) := by decide +kernel
theorem dX9_clear_30 : decode cX9_clear 30 = .ok (.aload_n 0, 1) := by decide +kernel
theorem dX9_clear_31 : decode cX9_clear 31 = .ok (.iconst 0, 1) := by decide +kernel
theorem dX9_clear_32 : decode cX9_clear 32 = .ok (.putfield 57, 3) := by decide +kernel
theorem dX9_clear_35 : decode cX9_clear 35 = .ok (.aload_n 0, 1) := by decide +kernel
theorem dX9_clear_36 : decode cX9_clear 36 = .ok (.getfield 25, 3) := by decide +kernel
theorem dX9_clear_39 : decode cX9_clear 39 = .ok (.iconst (-1), 1) := by decide +kernel
theorem dX9_clear_40 : decode cX9_clear 40 = .ok (.invokestatic 60, 3) := by decide +kernel
theorem dX9_clear_43 : decode cX9_clear 43 = .ok (.aload_n 0, 1) := by decide +kernel
theorem dX9_clear_44 : decode cX9_clear 44 = .ok (.getfield 28, 3) := by decide +kernel
theorem dX9_clear_47 : decode cX9_clear 47 = .ok (.iconst 0, 1) := by decide +kernel
theorem dX9_clear_48 : decode cX9_clear 48 = .ok (.invokestatic 60, 3) := by decide +kernel
theorem dX9_clear_51 : decode cX9_clear 51 = .ok (.return_, 1) := by decide +kernel
theorem dX9_personNamed_0 : decode cX9_personNamed 0 = .ok (.aload_n 0, 1) := by decide +kernel
theorem dX9_personNamed_1 : decode cX9_personNamed 1 = .ok (.getfield 9, 3) := by decide +kernel
theorem dX9_personNamed_4 : decode cX9_personNamed 4 = .ok (.aload_n 0, 1) := by decide +kernel
theorem dX9_personNamed_5 : decode cX9_personNamed 5 = .ok (.getfield 48, 3) := by decide +kernel
theorem dX9_personNamed_8 : decode cX9_personNamed 8 = .ok (.lload_n 1, 1) := by decide +kernel
theorem dX9_personNamed_9 : decode cX9_personNamed 9 = .ok (.invokestatic 66, 3) := by decide +kernel
theorem dX9_personNamed_12 : decode cX9_personNamed 12 = .ok (.ireturn, 1) := by decide +kernel
theorem dX9_linkNamed_0 : decode cX9_linkNamed 0 = .ok (.aload_n 0, 1) := by decide +kernel
theorem dX9_linkNamed_1 : decode cX9_linkNamed 1 = .ok (.getfield 19, 3) := by decide +kernel
theorem dX9_linkNamed_4 : decode cX9_linkNamed 4 = .ok (.aload_n 0, 1) := by decide +kernel
theorem dX9_linkNamed_5 : decode cX9_linkNamed 5 = .ok (.getfield 51, 3) := by decide +kernel
theorem dX9_linkNamed_8 : decode cX9_linkNamed 8 = .ok (.lload_n 1, 1) := by decide +kernel
theorem dX9_linkNamed_9 : decode cX9_linkNamed 9 = .ok (.invokestatic 66, 3) := by decide +kernel
theorem dX9_linkNamed_12 : decode cX9_linkNamed 12 = .ok (.ireturn, 1) := by decide +kernel
theorem dX9_indexOf_0 : decode cX9_indexOf 0 = .ok (.iconst 0, 1) := by decide +kernel
theorem dX9_indexOf_1 : decode cX9_indexOf 1 = .ok (.istore 4, 2) := by decide +kernel
theorem dX9_indexOf_3 : decode cX9_indexOf 3 = .ok (.iload 4, 2) := by decide +kernel
theorem dX9_indexOf_5 : decode cX9_indexOf 5 = .ok (.iload_n 1, 1) := by decide +kernel
theorem dX9_indexOf_6 : decode cX9_indexOf 6 = .ok (.if_icmp .ge 28, 3) := by decide +kernel
theorem dX9_indexOf_9 : decode cX9_indexOf 9 = .ok (.iload 4, 2) := by decide +kernel
theorem dX9_indexOf_11 : decode cX9_indexOf 11 = .ok (.aload_n 0, 1) := by decide +kernel
theorem dX9_indexOf_12 : decode cX9_indexOf 12 = .ok (.arraylength, 1) := by decide +kernel
theorem dX9_indexOf_13 : decode cX9_indexOf 13 = .ok (.if_icmp .ge 21, 3) := by decide +kernel
theorem dX9_indexOf_16 : decode cX9_indexOf 16 = .ok (.aload_n 0, 1) := by decide +kernel
theorem dX9_indexOf_17 : decode cX9_indexOf 17 = .ok (.iload 4, 2) := by decide +kernel
theorem dX9_indexOf_19 : decode cX9_indexOf 19 = .ok (.laload, 1) := by decide +kernel
theorem dX9_indexOf_20 : decode cX9_indexOf 20 = .ok (.lload_n 2, 1) := by decide +kernel
theorem dX9_indexOf_21 : decode cX9_indexOf 21 = .ok (.lcmp, 1) := by decide +kernel
theorem dX9_indexOf_22 : decode cX9_indexOf 22 = .ok (.ifCond .ne 6, 3) := by decide +kernel
theorem dX9_indexOf_25 : decode cX9_indexOf 25 = .ok (.iload 4, 2) := by decide +kernel
theorem dX9_indexOf_27 : decode cX9_indexOf 27 = .ok (.ireturn, 1) := by decide +kernel
theorem dX9_indexOf_28 : decode cX9_indexOf 28 = .ok (.iinc 4 1, 3) := by decide +kernel
theorem dX9_indexOf_31 : decode cX9_indexOf 31 = .ok (.goto (-28), 3) := by decide +kernel
theorem dX9_indexOf_34 : decode cX9_indexOf 34 = .ok (.iconst (-1), 1) := by decide +kernel
theorem dX9_indexOf_35 : decode cX9_indexOf 35 = .ok (.ireturn, 1) := by decide +kernel
theorem dX9_addPerson_0 : decode cX9_addPerson 0 = .ok (.aload_n 0, 1) := by decide +kernel
theorem dX9_addPerson_1 : decode cX9_addPerson 1 = .ok (.getfield 48, 3) := by decide +kernel
theorem dX9_addPerson_4 : decode cX9_addPerson 4 = .ok (.bipush 8, 2) := by decide +kernel
theorem dX9_addPerson_6 : decode cX9_addPerson 6 = .ok (.if_icmp .ge 33, 3) := by decide +kernel
theorem dX9_addPerson_9 : decode cX9_addPerson 9 = .ok (.aload_n 0, 1) := by decide +kernel
theorem dX9_addPerson_10 : decode cX9_addPerson 10 = .ok (.getfield 9, 3) := by decide +kernel
theorem dX9_addPerson_13 : decode cX9_addPerson 13 = .ok (.aload_n 0, 1) := by decide +kernel
theorem dX9_addPerson_14 : decode cX9_addPerson 14 = .ok (.getfield 48, 3) := by decide +kernel
theorem dX9_addPerson_17 : decode cX9_addPerson 17 = .ok (.lload_n 1, 1) := by decide +kernel
theorem dX9_addPerson_18 : decode cX9_addPerson 18 = .ok (.lastore, 1) := by decide +kernel
theorem dX9_addPerson_19 : decode cX9_addPerson 19 = .ok (.aload_n 0, 1) := by decide +kernel
theorem dX9_addPerson_20 : decode cX9_addPerson 20 = .ok (.getfield 15, 3) := by decide +kernel
theorem dX9_addPerson_23 : decode cX9_addPerson 23 = .ok (.aload_n 0, 1) := by decide +kernel
theorem dX9_addPerson_24 : decode cX9_addPerson 24 = .ok (.getfield 48, 3) := by decide +kernel
theorem dX9_addPerson_27 : decode cX9_addPerson 27 = .ok (.iload_n 3, 1) := by decide +kernel
theorem dX9_addPerson_28 : decode cX9_addPerson 28 = .ok (.iastore, 1) := by decide +kernel
theorem dX9_addPerson_29 : decode cX9_addPerson 29 = .ok (.aload_n 0, 1) := by decide +kernel
theorem dX9_addPerson_30 : decode cX9_addPerson 30 = .ok (.dup, 1) := by decide +kernel
theorem dX9_addPerson_31 : decode cX9_addPerson 31 = .ok (.getfield 48, 3) := by decide +kernel
theorem dX9_addPerson_34 : decode cX9_addPerson 34 = .ok (.iconst 1, 1) := by decide +kernel
theorem dX9_addPerson_35 : decode cX9_addPerson 35 = .ok (.iadd, 1) := by decide +kernel
theorem dX9_addPerson_36 : decode cX9_addPerson 36 = .ok (.putfield 48, 3) := by decide +kernel
theorem dX9_addPerson_39 : decode cX9_addPerson 39 = .ok (.return_, 1) := by decide +kernel
theorem dX9_addLink_0 : decode cX9_addLink 0 = .ok (.aload_n 0, 1) := by decide +kernel
theorem dX9_addLink_1 : decode cX9_addLink 1 = .ok (.getfield 51, 3) := by decide +kernel
theorem dX9_addLink_4 : decode cX9_addLink 4 = .ok (.bipush 8, 2) := by decide +kernel
theorem dX9_addLink_6 : decode cX9_addLink 6 = .ok (.if_icmp .ge 86, 3) := by decide +kernel
theorem dX9_addLink_9 : decode cX9_addLink 9 = .ok (.iload_n 3, 1) := by decide +kernel
theorem dX9_addLink_10 : decode cX9_addLink 10 = .ok (.invokestatic 70, 3) := by decide +kernel
theorem dX9_addLink_13 : decode cX9_addLink 13 = .ok (.ifCond .eq 79, 3) := by decide +kernel
theorem dX9_addLink_16 : decode cX9_addLink 16 = .ok (.iload 4, 2) := by decide +kernel
theorem dX9_addLink_18 : decode cX9_addLink 18 = .ok (.invokestatic 70, 3) := by decide +kernel
theorem dX9_addLink_21 : decode cX9_addLink 21 = .ok (.ifCond .eq 71, 3) := by decide +kernel
theorem dX9_addLink_24 : decode cX9_addLink 24 = .ok (.aload_n 0, 1) := by decide +kernel
theorem dX9_addLink_25 : decode cX9_addLink 25 = .ok (.getfield 19, 3) := by decide +kernel
theorem dX9_addLink_28 : decode cX9_addLink 28 = .ok (.aload_n 0, 1) := by decide +kernel
theorem dX9_addLink_29 : decode cX9_addLink 29 = .ok (.getfield 51, 3) := by decide +kernel
theorem dX9_addLink_32 : decode cX9_addLink 32 = .ok (.lload_n 1, 1) := by decide +kernel
theorem dX9_addLink_33 : decode cX9_addLink 33 = .ok (.lastore, 1) := by decide +kernel
theorem dX9_addLink_34 : decode cX9_addLink 34 = .ok (.aload_n 0, 1) := by decide +kernel
theorem dX9_addLink_35 : decode cX9_addLink 35 = .ok (.getfield 22, 3) := by decide +kernel
theorem dX9_addLink_38 : decode cX9_addLink 38 = .ok (.iconst 2, 1) := by decide +kernel
theorem dX9_addLink_39 : decode cX9_addLink 39 = .ok (.aload_n 0, 1) := by decide +kernel
theorem dX9_addLink_40 : decode cX9_addLink 40 = .ok (.getfield 51, 3) := by decide +kernel
theorem dX9_addLink_43 : decode cX9_addLink 43 = .ok (.imul, 1) := by decide +kernel
theorem dX9_addLink_44 : decode cX9_addLink 44 = .ok (.iload_n 3, 1) := by decide +kernel
theorem dX9_addLink_45 : decode cX9_addLink 45 = .ok (.iastore, 1) := by decide +kernel
theorem dX9_addLink_46 : decode cX9_addLink 46 = .ok (.aload_n 0, 1) := by decide +kernel
theorem dX9_addLink_47 : decode cX9_addLink 47 = .ok (.getfield 22, 3) := by decide +kernel
theorem dX9_addLink_50 : decode cX9_addLink 50 = .ok (.iconst 2, 1) := by decide +kernel
theorem dX9_addLink_51 : decode cX9_addLink 51 = .ok (.aload_n 0, 1) := by decide +kernel
theorem dX9_addLink_52 : decode cX9_addLink 52 = .ok (.getfield 51, 3) := by decide +kernel
theorem dX9_addLink_55 : decode cX9_addLink 55 = .ok (.imul, 1) := by decide +kernel
theorem dX9_addLink_56 : decode cX9_addLink 56 = .ok (.iconst 1, 1) := by decide +kernel
theorem dX9_addLink_57 : decode cX9_addLink 57 = .ok (.iadd, 1) := by decide +kernel
theorem dX9_addLink_58 : decode cX9_addLink 58 = .ok (.iload 4, 2) := by decide +kernel
theorem dX9_addLink_60 : decode cX9_addLink 60 = .ok (.iastore, 1) := by decide +kernel
theorem dX9_addLink_61 : decode cX9_addLink 61 = .ok (.aload_n 0, 1) := by decide +kernel
theorem dX9_addLink_62 : decode cX9_addLink 62 = .ok (.getfield 25, 3) := by decide +kernel
theorem dX9_addLink_65 : decode cX9_addLink 65 = .ok (.iload_n 3, 1) := by decide +kernel
theorem dX9_addLink_66 : decode cX9_addLink 66 = .ok (.aload_n 0, 1) := by decide +kernel
theorem dX9_addLink_67 : decode cX9_addLink 67 = .ok (.getfield 51, 3) := by decide +kernel
theorem dX9_addLink_70 : decode cX9_addLink 70 = .ok (.iastore, 1) := by decide +kernel
theorem dX9_addLink_71 : decode cX9_addLink 71 = .ok (.aload_n 0, 1) := by decide +kernel
theorem dX9_addLink_72 : decode cX9_addLink 72 = .ok (.getfield 25, 3) := by decide +kernel
theorem dX9_addLink_75 : decode cX9_addLink 75 = .ok (.iload 4, 2) := by decide +kernel
theorem dX9_addLink_77 : decode cX9_addLink 77 = .ok (.aload_n 0, 1) := by decide +kernel
theorem dX9_addLink_78 : decode cX9_addLink 78 = .ok (.getfield 51, 3) := by decide +kernel
theorem dX9_addLink_81 : decode cX9_addLink 81 = .ok (.iastore, 1) := by decide +kernel
theorem dX9_addLink_82 : decode cX9_addLink 82 = .ok (.aload_n 0, 1) := by decide +kernel
theorem dX9_addLink_83 : decode cX9_addLink 83 = .ok (.dup, 1) := by decide +kernel
theorem dX9_addLink_84 : decode cX9_addLink 84 = .ok (.getfield 51, 3) := by decide +kernel
theorem dX9_addLink_87 : decode cX9_addLink 87 = .ok (.iconst 1, 1) := by decide +kernel
theorem dX9_addLink_88 : decode cX9_addLink 88 = .ok (.iadd, 1) := by decide +kernel
theorem dX9_addLink_89 : decode cX9_addLink 89 = .ok (.putfield 51, 3) := by decide +kernel
theorem dX9_addLink_92 : decode cX9_addLink 92 = .ok (.return_, 1) := by decide +kernel
theorem dX9_isHand_0 : decode cX9_isHand 0 = .ok (.iload_n 0, 1) := by decide +kernel
theorem dX9_isHand_1 : decode cX9_isHand 1 = .ok (.ifCond .lt 13, 3) := by decide +kernel
theorem dX9_isHand_4 : decode cX9_isHand 4 = .ok (.iload_n 0, 1) := by decide +kernel
theorem dX9_isHand_5 : decode cX9_isHand 5 = .ok (.bipush 16, 2) := by decide +kernel
theorem dX9_isHand_7 : decode cX9_isHand 7 = .ok (.if_icmp .ge 7, 3) := by decide +kernel
theorem dX9_isHand_10 : decode cX9_isHand 10 = .ok (.iconst 1, 1) := by decide +kernel
theorem dX9_isHand_11 : decode cX9_isHand 11 = .ok (.goto 4, 3) := by decide +kernel
theorem dX9_isHand_14 : decode cX9_isHand 14 = .ok (.iconst 0, 1) := by decide +kernel
theorem dX9_isHand_15 : decode cX9_isHand 15 = .ok (.ireturn, 1) := by decide +kernel
theorem dX9_isHeld_0 : decode cX9_isHeld 0 = .ok (.iload_n 1, 1) := by decide +kernel
theorem dX9_isHeld_1 : decode cX9_isHeld 1 = .ok (.invokestatic 70, 3) := by decide +kernel
theorem dX9_isHeld_4 : decode cX9_isHeld 4 = .ok (.ifCond .eq 17, 3) := by decide +kernel
theorem dX9_isHeld_7 : decode cX9_isHeld 7 = .ok (.aload_n 0, 1) := by decide +kernel
theorem dX9_isHeld_8 : decode cX9_isHeld 8 = .ok (.getfield 25, 3) := by decide +kernel
theorem dX9_isHeld_11 : decode cX9_isHeld 11 = .ok (.iload_n 1, 1) := by decide +kernel
theorem dX9_isHeld_12 : decode cX9_isHeld 12 = .ok (.iaload, 1) := by decide +kernel
theorem dX9_isHeld_13 : decode cX9_isHeld 13 = .ok (.iconst (-1), 1) := by decide +kernel
theorem dX9_isHeld_14 : decode cX9_isHeld 14 = .ok (.if_icmp .eq 7, 3) := by decide +kernel
theorem dX9_isHeld_17 : decode cX9_isHeld 17 = .ok (.iconst 1, 1) := by decide +kernel
theorem dX9_isHeld_18 : decode cX9_isHeld 18 = .ok (.goto 4, 3) := by decide +kernel
theorem dX9_isHeld_21 : decode cX9_isHeld 21 = .ok (.iconst 0, 1) := by decide +kernel
theorem dX9_isHeld_22 : decode cX9_isHeld 22 = .ok (.ireturn, 1) := by decide +kernel
theorem dX9_areHeld_0 : decode cX9_areHeld 0 = .ok (.iconst 0, 1) := by decide +kernel
theorem dX9_areHeld_1 : decode cX9_areHeld 1 = .ok (.istore_n 3, 1) := by decide +kernel
theorem dX9_areHeld_2 : decode cX9_areHeld 2 = .ok (.iload_n 3, 1) := by decide +kernel
theorem dX9_areHeld_3 : decode cX9_areHeld 3 = .ok (.aload_n 0, 1) := by decide +kernel
theorem dX9_areHeld_4 : decode cX9_areHeld 4 = .ok (.getfield 51, 3) := by decide +kernel
theorem dX9_areHeld_7 : decode cX9_areHeld 7 = .ok (.if_icmp .ge 61, 3) := by decide +kernel
theorem dX9_areHeld_10 : decode cX9_areHeld 10 = .ok (.aload_n 0, 1) := by decide +kernel
theorem dX9_areHeld_11 : decode cX9_areHeld 11 = .ok (.getfield 22, 3) := by decide +kernel
theorem dX9_areHeld_14 : decode cX9_areHeld 14 = .ok (.iconst 2, 1) := by decide +kernel
theorem dX9_areHeld_15 : decode cX9_areHeld 15 = .ok (.iload_n 3, 1) := by decide +kernel
theorem dX9_areHeld_16 : decode cX9_areHeld 16 = .ok (.imul, 1) := by decide +kernel
theorem dX9_areHeld_17 : decode cX9_areHeld 17 = .ok (.iaload, 1) := by decide +kernel
theorem dX9_areHeld_18 : decode cX9_areHeld 18 = .ok (.iconst 2, 1) := by decide +kernel
theorem dX9_areHeld_19 : decode cX9_areHeld 19 = .ok (.idiv, 1) := by decide +kernel
theorem dX9_areHeld_20 : decode cX9_areHeld 20 = .ok (.istore 4, 2) := by decide +kernel
theorem dX9_areHeld_22 : decode cX9_areHeld 22 = .ok (.aload_n 0, 1) := by decide +kernel
theorem dX9_areHeld_23 : decode cX9_areHeld 23 = .ok (.getfield 22, 3) := by decide +kernel
theorem dX9_areHeld_26 : decode cX9_areHeld 26 = .ok (.iconst 2, 1) := by decide +kernel
theorem dX9_areHeld_27 : decode cX9_areHeld 27 = .ok (.iload_n 3, 1) := by decide +kernel
theorem dX9_areHeld_28 : decode cX9_areHeld 28 = .ok (.imul, 1) := by decide +kernel
theorem dX9_areHeld_29 : decode cX9_areHeld 29 = .ok (.iconst 1, 1) := by decide +kernel
theorem dX9_areHeld_30 : decode cX9_areHeld 30 = .ok (.iadd, 1) := by decide +kernel
theorem dX9_areHeld_31 : decode cX9_areHeld 31 = .ok (.iaload, 1) := by decide +kernel
theorem dX9_areHeld_32 : decode cX9_areHeld 32 = .ok (.iconst 2, 1) := by decide +kernel
theorem dX9_areHeld_33 : decode cX9_areHeld 33 = .ok (.idiv, 1) := by decide +kernel
theorem dX9_areHeld_34 : decode cX9_areHeld 34 = .ok (.istore 5, 2) := by decide +kernel
theorem dX9_areHeld_36 : decode cX9_areHeld 36 = .ok (.iload 4, 2) := by decide +kernel
theorem dX9_areHeld_38 : decode cX9_areHeld 38 = .ok (.iload_n 1, 1) := by decide +kernel
theorem dX9_areHeld_39 : decode cX9_areHeld 39 = .ok (.if_icmp .ne 9, 3) := by decide +kernel
theorem dX9_areHeld_42 : decode cX9_areHeld 42 = .ok (.iload 5, 2) := by decide +kernel
theorem dX9_areHeld_44 : decode cX9_areHeld 44 = .ok (.iload_n 2, 1) := by decide +kernel
theorem dX9_areHeld_45 : decode cX9_areHeld 45 = .ok (.if_icmp .eq 15, 3) := by decide +kernel
theorem dX9_areHeld_48 : decode cX9_areHeld 48 = .ok (.iload 4, 2) := by decide +kernel
theorem dX9_areHeld_50 : decode cX9_areHeld 50 = .ok (.iload_n 2, 1) := by decide +kernel
theorem dX9_areHeld_51 : decode cX9_areHeld 51 = .ok (.if_icmp .ne 11, 3) := by decide +kernel
theorem dX9_areHeld_54 : decode cX9_areHeld 54 = .ok (.iload 5, 2) := by decide +kernel
theorem dX9_areHeld_56 : decode cX9_areHeld 56 = .ok (.iload_n 1, 1) := by decide +kernel
theorem dX9_areHeld_57 : decode cX9_areHeld 57 = .ok (.if_icmp .ne 5, 3) := by decide +kernel
theorem dX9_areHeld_60 : decode cX9_areHeld 60 = .ok (.iconst 1, 1) := by decide +kernel
theorem dX9_areHeld_61 : decode cX9_areHeld 61 = .ok (.ireturn, 1) := by decide +kernel
theorem dX9_areHeld_62 : decode cX9_areHeld 62 = .ok (.iinc 3 1, 3) := by decide +kernel
theorem dX9_areHeld_65 : decode cX9_areHeld 65 = .ok (.goto (-63), 3) := by decide +kernel
theorem dX9_areHeld_68 : decode cX9_areHeld 68 = .ok (.iconst 0, 1) := by decide +kernel
theorem dX9_areHeld_69 : decode cX9_areHeld 69 = .ok (.ireturn, 1) := by decide +kernel
theorem dX9_isPlace_0 : decode cX9_isPlace 0 = .ok (.iload_n 0, 1) := by decide +kernel
theorem dX9_isPlace_1 : decode cX9_isPlace 1 = .ok (.ifCond .lt 23, 3) := by decide +kernel
theorem dX9_isPlace_4 : decode cX9_isPlace 4 = .ok (.iload_n 0, 1) := by decide +kernel
theorem dX9_isPlace_5 : decode cX9_isPlace 5 = .ok (.bipush 8, 2) := by decide +kernel
theorem dX9_isPlace_7 : decode cX9_isPlace 7 = .ok (.if_icmp .ge 17, 3) := by decide +kernel
theorem dX9_isPlace_10 : decode cX9_isPlace 10 = .ok (.iload_n 1, 1) := by decide +kernel
theorem dX9_isPlace_11 : decode cX9_isPlace 11 = .ok (.ifCond .lt 13, 3) := by decide +kernel
theorem dX9_isPlace_14 : decode cX9_isPlace 14 = .ok (.iload_n 1, 1) := by decide +kernel
theorem dX9_isPlace_15 : decode cX9_isPlace 15 = .ok (.bipush 10, 2) := by decide +kernel
theorem dX9_isPlace_17 : decode cX9_isPlace 17 = .ok (.if_icmp .ge 7, 3) := by decide +kernel
theorem dX9_isPlace_20 : decode cX9_isPlace 20 = .ok (.iconst 1, 1) := by decide +kernel
theorem dX9_isPlace_21 : decode cX9_isPlace 21 = .ok (.goto 4, 3) := by decide +kernel
theorem dX9_isPlace_24 : decode cX9_isPlace 24 = .ok (.iconst 0, 1) := by decide +kernel
theorem dX9_isPlace_25 : decode cX9_isPlace 25 = .ok (.ireturn, 1) := by decide +kernel
theorem dX9_passOn_0 : decode cX9_passOn 0 = .ok (.iload_n 1, 1) := by decide +kernel
theorem dX9_passOn_1 : decode cX9_passOn 1 = .ok (.iload_n 2, 1) := by decide +kernel
theorem dX9_passOn_2 : decode cX9_passOn 2 = .ok (.invokestatic 74, 3) := by decide +kernel
theorem dX9_passOn_5 : decode cX9_passOn 5 = .ok (.ifCond .eq 17, 3) := by decide +kernel
theorem dX9_passOn_8 : decode cX9_passOn 8 = .ok (.aload_n 0, 1) := by decide +kernel
theorem dX9_passOn_9 : decode cX9_passOn 9 = .ok (.getfield 28, 3) := by decide +kernel
theorem dX9_passOn_12 : decode cX9_passOn 12 = .ok (.bipush 10, 2) := by decide +kernel
theorem dX9_passOn_14 : decode cX9_passOn 14 = .ok (.iload_n 1, 1) := by decide +kernel
theorem dX9_passOn_15 : decode cX9_passOn 15 = .ok (.imul, 1) := by decide +kernel
theorem dX9_passOn_16 : decode cX9_passOn 16 = .ok (.iload_n 2, 1) := by decide +kernel
theorem dX9_passOn_17 : decode cX9_passOn 17 = .ok (.iadd, 1) := by decide +kernel
theorem dX9_passOn_18 : decode cX9_passOn 18 = .ok (.iaload, 1) := by decide +kernel
theorem dX9_passOn_19 : decode cX9_passOn 19 = .ok (.goto 4, 3) := by decide +kernel
theorem dX9_passOn_22 : decode cX9_passOn 22 = .ok (.iconst 0, 1) := by decide +kernel
theorem dX9_passOn_23 : decode cX9_passOn 23 = .ok (.ireturn, 1) := by decide +kernel
theorem dX9_addPass_0 : decode cX9_addPass 0 = .ok (.iload_n 1, 1) := by decide +kernel
theorem dX9_addPass_1 : decode cX9_addPass 1 = .ok (.iload_n 2, 1) := by decide +kernel
theorem dX9_addPass_2 : decode cX9_addPass 2 = .ok (.invokestatic 74, 3) := by decide +kernel
theorem dX9_addPass_5 : decode cX9_addPass 5 = .ok (.ifCond .eq 66, 3) := by decide +kernel
theorem dX9_addPass_8 : decode cX9_addPass 8 = .ok (.aload_n 0, 1) := by decide +kernel
theorem dX9_addPass_9 : decode cX9_addPass 9 = .ok (.getfield 54, 3) := by decide +kernel
theorem dX9_addPass_12 : decode cX9_addPass 12 = .ok (.bipush 7, 2) := by decide +kernel
theorem dX9_addPass_14 : decode cX9_addPass 14 = .ok (.if_icmp .ge 57, 3) := by decide +kernel
theorem dX9_addPass_17 : decode cX9_addPass 17 = .ok (.aload_n 0, 1) := by decide +kernel
theorem dX9_addPass_18 : decode cX9_addPass 18 = .ok (.getfield 28, 3) := by decide +kernel
theorem dX9_addPass_21 : decode cX9_addPass 21 = .ok (.bipush 10, 2) := by decide +kernel
theorem dX9_addPass_23 : decode cX9_addPass 23 = .ok (.iload_n 1, 1) := by decide +kernel
theorem dX9_addPass_24 : decode cX9_addPass 24 = .ok (.imul, 1) := by decide +kernel
theorem dX9_addPass_25 : decode cX9_addPass 25 = .ok (.iload_n 2, 1) := by decide +kernel
theorem dX9_addPass_26 : decode cX9_addPass 26 = .ok (.iadd, 1) := by decide +kernel
theorem dX9_addPass_27 : decode cX9_addPass 27 = .ok (.iconst 2, 1) := by decide +kernel
theorem dX9_addPass_28 : decode cX9_addPass 28 = .ok (.aload_n 0, 1) := by decide +kernel
theorem dX9_addPass_29 : decode cX9_addPass 29 = .ok (.getfield 54, 3) := by decide +kernel
theorem dX9_addPass_32 : decode cX9_addPass 32 = .ok (.imul, 1) := by decide +kernel
theorem dX9_addPass_33 : decode cX9_addPass 33 = .ok (.iload_n 3, 1) := by decide +kernel
theorem dX9_addPass_34 : decode cX9_addPass 34 = .ok (.ifCond .eq 7, 3) := by decide +kernel
theorem dX9_addPass_37 : decode cX9_addPass 37 = .ok (.iconst 2, 1) := by decide +kernel
theorem dX9_addPass_38 : decode cX9_addPass 38 = .ok (.goto 4, 3) := by decide +kernel
theorem dX9_addPass_41 : decode cX9_addPass 41 = .ok (.iconst 1, 1) := by decide +kernel
theorem dX9_addPass_42 : decode cX9_addPass 42 = .ok (.iadd, 1) := by decide +kernel
theorem dX9_addPass_43 : decode cX9_addPass 43 = .ok (.iastore, 1) := by decide +kernel
theorem dX9_addPass_44 : decode cX9_addPass 44 = .ok (.iload_n 3, 1) := by decide +kernel
theorem dX9_addPass_45 : decode cX9_addPass 45 = .ok (.ifCond .eq 16, 3) := by decide +kernel
theorem dX9_addPass_48 : decode cX9_addPass 48 = .ok (.aload_n 0, 1) := by decide +kernel
theorem dX9_addPass_49 : decode cX9_addPass 49 = .ok (.getfield 34, 3) := by decide +kernel
theorem dX9_addPass_52 : decode cX9_addPass 52 = .ok (.aload_n 0, 1) := by decide +kernel
theorem dX9_addPass_53 : decode cX9_addPass 53 = .ok (.getfield 54, 3) := by decide +kernel
theorem dX9_addPass_56 : decode cX9_addPass 56 = .ok (.iload_n 1, 1) := by decide +kernel
theorem dX9_addPass_57 : decode cX9_addPass 57 = .ok (.iastore, 1) := by decide +kernel
theorem dX9_addPass_58 : decode cX9_addPass 58 = .ok (.goto 13, 3) := by decide +kernel
theorem dX9_addPass_61 : decode cX9_addPass 61 = .ok (.aload_n 0, 1) := by decide +kernel
theorem dX9_addPass_62 : decode cX9_addPass 62 = .ok (.getfield 31, 3) := by decide +kernel
theorem dX9_addPass_65 : decode cX9_addPass 65 = .ok (.aload_n 0, 1) := by decide +kernel
theorem dX9_addPass_66 : decode cX9_addPass 66 = .ok (.getfield 54, 3) := by decide +kernel
theorem dX9_addPass_69 : decode cX9_addPass 69 = .ok (.iload_n 1, 1) := by decide +kernel
theorem dX9_addPass_70 : decode cX9_addPass 70 = .ok (.iastore, 1) := by decide +kernel
theorem dX9_addPass_71 : decode cX9_addPass 71 = .ok (.return_, 1) := by decide +kernel
theorem dX9_addCrossing_0 : decode cX9_addCrossing 0 = .ok (.aload_n 0, 1) := by decide +kernel
theorem dX9_addCrossing_1 : decode cX9_addCrossing 1 = .ok (.getfield 54, 3) := by decide +kernel
theorem dX9_addCrossing_4 : decode cX9_addCrossing 4 = .ok (.bipush 7, 2) := by decide +kernel
theorem dX9_addCrossing_6 : decode cX9_addCrossing 6 = .ok (.if_icmp .ge 32, 3) := by decide +kernel
theorem dX9_addCrossing_9 : decode cX9_addCrossing 9 = .ok (.iload_n 1, 1) := by decide +kernel
theorem dX9_addCrossing_10 : decode cX9_addCrossing 10 = .ok (.ifCond .eq 18, 3) := by decide +kernel
theorem dX9_addCrossing_13 : decode cX9_addCrossing 13 = .ok (.aload_n 0, 1) := by decide +kernel
theorem dX9_addCrossing_14 : decode cX9_addCrossing 14 = .ok (.dup, 1) := by decide +kernel
theorem dX9_addCrossing_15 : decode cX9_addCrossing 15 = .ok (.getfield 57, 3) := by decide +kernel
theorem dX9_addCrossing_18 : decode cX9_addCrossing 18 = .ok (.iconst 1, 1) := by decide +kernel
theorem dX9_addCrossing_19 : decode cX9_addCrossing 19 = .ok (.aload_n 0, 1) := by decide +kernel
theorem dX9_addCrossing_20 : decode cX9_addCrossing 20 = .ok (.getfield 54, 3) := by decide +kernel
theorem dX9_addCrossing_23 : decode cX9_addCrossing 23 = .ok (.ishl, 1) := by decide +kernel
theorem dX9_addCrossing_24 : decode cX9_addCrossing 24 = .ok (.ior, 1) := by decide +kernel
theorem dX9_addCrossing_25 : decode cX9_addCrossing 25 = .ok (.putfield 57, 3) := by decide +kernel
theorem dX9_addCrossing_28 : decode cX9_addCrossing 28 = .ok (.aload_n 0, 1) := by decide +kernel
theorem dX9_addCrossing_29 : decode cX9_addCrossing 29 = .ok (.dup, 1) := by decide +kernel
theorem dX9_addCrossing_30 : decode cX9_addCrossing 30 = .ok (.getfield 54, 3) := by decide +kernel
theorem dX9_addCrossing_33 : decode cX9_addCrossing 33 = .ok (.iconst 1, 1) := by decide +kernel
theorem dX9_addCrossing_34 : decode cX9_addCrossing 34 = .ok (.iadd, 1) := by decide +kernel
theorem dX9_addCrossing_35 : decode cX9_addCrossing 35 = .ok (.putfield 54, 3) := by decide +kernel
theorem dX9_addCrossing_38 : decode cX9_addCrossing 38 = .ok (.return_, 1) := by decide +kernel
theorem dX9_lacksSomething_0 : decode cX9_lacksSomething 0 = .ok (.iconst 0, 1) := by decide +kernel
theorem dX9_lacksSomething_1 : decode cX9_lacksSomething 1 = .ok (.istore_n 1, 1) := by decide +kernel
theorem dX9_lacksSomething_2 : decode cX9_lacksSomething 2 = .ok (.iload_n 1, 1) := by decide +kernel
theorem dX9_lacksSomething_3 : decode cX9_lacksSomething 3 = .ok (.iconst 2, 1) := by decide +kernel
theorem dX9_lacksSomething_4 : decode cX9_lacksSomething 4 = .ok (.aload_n 0, 1) := by decide +kernel
theorem dX9_lacksSomething_5 : decode cX9_lacksSomething 5 = .ok (.getfield 48, 3) := by decide +kernel
theorem dX9_lacksSomething_8 : decode cX9_lacksSomething 8 = .ok (.imul, 1) := by decide +kernel
theorem dX9_lacksSomething_9 : decode cX9_lacksSomething 9 = .ok (.if_icmp .ge 19, 3) := by decide +kernel
theorem dX9_lacksSomething_12 : decode cX9_lacksSomething 12 = .ok (.aload_n 0, 1) := by decide +kernel
theorem dX9_lacksSomething_13 : decode cX9_lacksSomething 13 = .ok (.iload_n 1, 1) := by decide +kernel
theorem dX9_lacksSomething_14 : decode cX9_lacksSomething 14 = .ok (.invokevirtual 78, 3) := by decide +kernel
theorem dX9_lacksSomething_17 : decode cX9_lacksSomething 17 = .ok (.ifCond .ne 5, 3) := by decide +kernel
theorem dX9_lacksSomething_20 : decode cX9_lacksSomething 20 = .ok (.iconst 1, 1) := by decide +kernel
theorem dX9_lacksSomething_21 : decode cX9_lacksSomething 21 = .ok (.ireturn, 1) := by decide +kernel
theorem dX9_lacksSomething_22 : decode cX9_lacksSomething 22 = .ok (.iinc 1 1, 3) := by decide +kernel
theorem dX9_lacksSomething_25 : decode cX9_lacksSomething 25 = .ok (.goto (-23), 3) := by decide +kernel
theorem dX9_lacksSomething_28 : decode cX9_lacksSomething 28 = .ok (.aload_n 0, 1) := by decide +kernel
theorem dX9_lacksSomething_29 : decode cX9_lacksSomething 29 = .ok (.getfield 48, 3) := by decide +kernel
theorem dX9_lacksSomething_32 : decode cX9_lacksSomething 32 = .ok (.ifCond .ne 7, 3) := by decide +kernel
theorem dX9_lacksSomething_35 : decode cX9_lacksSomething 35 = .ok (.iconst 1, 1) := by decide +kernel
theorem dX9_lacksSomething_36 : decode cX9_lacksSomething 36 = .ok (.goto 4, 3) := by decide +kernel
theorem dX9_lacksSomething_39 : decode cX9_lacksSomething 39 = .ok (.iconst 0, 1) := by decide +kernel
theorem dX9_lacksSomething_40 : decode cX9_lacksSomething 40 = .ok (.ireturn, 1) := by decide +kernel
theorem dX10_init_0 : decode cX10_init 0 = .ok (.aload_n 0, 1) := by decide +kernel
theorem dX10_init_1 : decode cX10_init 1 = .ok (.invokespecial 3, 3) := by decide +kernel
theorem dX10_init_4 : decode cX10_init 4 = .ok (.aload_n 0, 1) := by decide +kernel
theorem dX10_init_5 : decode cX10_init 5 = .ok (.aload_n 1, 1) := by decide +kernel
theorem dX10_init_6 : decode cX10_init 6 = .ok (.putfield 9, 3) := by decide +kernel
theorem dX10_init_9 : decode cX10_init 9 = .ok (.aload_n 0, 1) := by decide +kernel
theorem dX10_init_10 : decode cX10_init 10 = .ok (.new 15, 3) := by decide +kernel
theorem dX10_init_13 : decode cX10_init 13 = .ok (.dup, 1) := by decide +kernel
theorem dX10_init_14 : decode cX10_init 14 = .ok (.aload_n 1, 1) := by decide +kernel
theorem dX10_init_15 : decode cX10_init 15 = .ok (.invokespecial 17, 3) := by decide +kernel
theorem dX10_init_18 : decode cX10_init 18 = .ok (.putfield 20, 3) := by decide +kernel
theorem dX10_init_21 : decode cX10_init 21 = .ok (.return_, 1) := by decide +kernel
theorem dX10_bestCall_0 : decode cX10_bestCall 0 = .ok (.bipush (-2), 2) := by decide +kernel
theorem dX10_bestCall_2 : decode cX10_bestCall 2 = .ok (.istore_n 3, 1) := by decide +kernel
theorem dX10_bestCall_3 : decode cX10_bestCall 3 = .ok (.bipush 8, 2) := by decide +kernel
theorem dX10_bestCall_5 : decode cX10_bestCall 5 = .ok (.istore 4, 2) := by decide +kernel
theorem dX10_bestCall_7 : decode cX10_bestCall 7 = .ok (.iconst 0, 1) := by decide +kernel
theorem dX10_bestCall_8 : decode cX10_bestCall 8 = .ok (.istore 5, 2) := by decide +kernel
theorem dX10_bestCall_10 : decode cX10_bestCall 10 = .ok (.iload 5, 2) := by decide +kernel
theorem dX10_bestCall_12 : decode cX10_bestCall 12 = .ok (.aload_n 1, 1) := by decide +kernel
theorem dX10_bestCall_13 : decode cX10_bestCall 13 = .ok (.getfield 24, 3) := by decide +kernel
theorem dX10_bestCall_16 : decode cX10_bestCall 16 = .ok (.if_icmp .ge 62, 3) := by decide +kernel
theorem dX10_bestCall_19 : decode cX10_bestCall 19 = .ok (.aload_n 1, 1) := by decide +kernel
theorem dX10_bestCall_20 : decode cX10_bestCall 20 = .ok (.getfield 28, 3) := by decide +kernel
theorem dX10_bestCall_23 : decode cX10_bestCall 23 = .ok (.iload 5, 2) := by decide +kernel
theorem dX10_bestCall_25 : decode cX10_bestCall 25 = .ok (.iaload, 1) := by decide +kernel
theorem dX10_bestCall_26 : decode cX10_bestCall 26 = .ok (.istore 6, 2) := by decide +kernel
theorem dX10_bestCall_28 : decode cX10_bestCall 28 = .ok (.aload_n 0, 1) := by decide +kernel
theorem dX10_bestCall_29 : decode cX10_bestCall 29 = .ok (.getfield 20, 3) := by decide +kernel
theorem dX10_bestCall_32 : decode cX10_bestCall 32 = .ok (.aload_n 1, 1) := by decide +kernel
theorem dX10_bestCall_33 : decode cX10_bestCall 33 = .ok (.iload 6, 2) := by decide +kernel
theorem dX10_bestCall_35 : decode cX10_bestCall 35 = .ok (.invokevirtual 32, 3) := by decide +kernel
theorem dX10_bestCall_38 : decode cX10_bestCall 38 = .ok (.aload_n 2, 1) := by decide +kernel
theorem dX10_bestCall_39 : decode cX10_bestCall 39 = .ok (.getfield 36, 3) := by decide +kernel
theorem dX10_bestCall_42 : decode cX10_bestCall 42 = .ok (.aload_n 2, 1) := by decide +kernel
theorem dX10_bestCall_43 : decode cX10_bestCall 43 = .ok (.getfield 41, 3) := by decide +kernel
theorem dX10_bestCall_46 : decode cX10_bestCall 46 = .ok (.invokevirtual 44, 3) := by decide +kernel
theorem dX10_bestCall_49 : decode cX10_bestCall 49 = .ok (.aload_n 0, 1) := by decide +kernel
theorem dX10_bestCall_50 : decode cX10_bestCall 50 = .ok (.getfield 20, 3) := by decide +kernel
theorem dX10_bestCall_53 : decode cX10_bestCall 53 = .ok (.invokestatic 48, 3) := by decide +kernel
theorem dX10_bestCall_56 : decode cX10_bestCall 56 = .ok (.istore 7, 2) := by decide +kernel
theorem dX10_bestCall_58 : decode cX10_bestCall 58 = .ok (.iload 7, 2) := by decide +kernel
theorem dX10_bestCall_60 : decode cX10_bestCall 60 = .ok (.iload 4, 2) := by decide +kernel
theorem dX10_bestCall_62 : decode cX10_bestCall 62 = .ok (.if_icmp .ge 10, 3) := by decide +kernel
theorem dX10_bestCall_65 : decode cX10_bestCall 65 = .ok (.iload 7, 2) := by decide +kernel
theorem dX10_bestCall_67 : decode cX10_bestCall 67 = .ok (.istore 4, 2) := by decide +kernel
theorem dX10_bestCall_69 : decode cX10_bestCall 69 = .ok (.iload 6, 2) := by decide +kernel
theorem dX10_bestCall_71 : decode cX10_bestCall 71 = .ok (.istore_n 3, 1) := by decide +kernel
theorem dX10_bestCall_72 : decode cX10_bestCall 72 = .ok (.iinc 5 1, 3) := by decide +kernel
theorem dX10_bestCall_75 : decode cX10_bestCall 75 = .ok (.goto (-65), 3) := by decide +kernel
theorem dX10_bestCall_78 : decode cX10_bestCall 78 = .ok (.iload_n 3, 1) := by decide +kernel
theorem dX10_bestCall_79 : decode cX10_bestCall 79 = .ok (.ireturn, 1) := by decide +kernel
theorem dX10_leastBehind_0 : decode cX10_leastBehind 0 = .ok (.aload_n 0, 1) := by decide +kernel
theorem dX10_leastBehind_1 : decode cX10_leastBehind 1 = .ok (.getfield 52, 3) := by decide +kernel
theorem dX10_leastBehind_4 : decode cX10_leastBehind 4 = .ok (.istore_n 1, 1) := by decide +kernel
theorem dX10_leastBehind_5 : decode cX10_leastBehind 5 = .ok (.iconst 0, 1) := by decide +kernel
theorem dX10_leastBehind_6 : decode cX10_leastBehind 6 = .ok (.istore_n 2, 1) := by decide +kernel
theorem dX10_leastBehind_7 : decode cX10_leastBehind 7 = .ok (.iload_n 2, 1) := by decide +kernel
theorem dX10_leastBehind_8 : decode cX10_leastBehind 8 = .ok (.aload_n 0, 1) := by decide +kernel
theorem dX10_leastBehind_9 : decode cX10_leastBehind 9 = .ok (.getfield 24, 3) := by decide +kernel
theorem dX10_leastBehind_12 : decode cX10_leastBehind 12 = .ok (.if_icmp .ge 24, 3) := by decide +kernel
theorem dX10_leastBehind_15 : decode cX10_leastBehind 15 = .ok (.iload_n 1, 1) := by decide +kernel
theorem dX10_leastBehind_16 : decode cX10_leastBehind 16 = .ok (.aload_n 0, 1) := by decide +kernel
theorem dX10_leastBehind_17 : decode cX10_leastBehind 17 = .ok (.aload_n 0, 1) := by decide +kernel
theorem dX10_leastBehind_18 : decode cX10_leastBehind 18 = .ok (.getfield 28, 3) := by decide +kernel
theorem dX10_leastBehind_21 : decode cX10_leastBehind 21 = .ok (.iload_n 2, 1) := by decide +kernel
theorem dX10_leastBehind_22 : decode cX10_leastBehind 22 = .ok (.iaload, 1) := by decide +kernel
theorem dX10_leastBehind_23 : decode cX10_leastBehind 23 = .ok (.invokevirtual 55, 3) := by decide +kernel
theorem dX10_leastBehind_26 : decode cX10_leastBehind 26 = .ok (.invokestatic 59, 3) := by decide +kernel
theorem dX10_leastBehind_29 : decode cX10_leastBehind 29 = .ok (.istore_n 1, 1) := by decide +kernel
theorem dX10_leastBehind_30 : decode cX10_leastBehind 30 = .ok (.iinc 2 1, 3) := by decide +kernel
theorem dX10_leastBehind_33 : decode cX10_leastBehind 33 = .ok (.goto (-26), 3) := by decide +kernel
theorem dX10_leastBehind_36 : decode cX10_leastBehind 36 = .ok (.iload_n 1, 1) := by decide +kernel
theorem dX10_leastBehind_37 : decode cX10_leastBehind 37 = .ok (.ireturn, 1) := by decide +kernel
theorem dX10_bestOwn_0 : decode cX10_bestOwn 0 = .ok (.aload_n 0, 1) := by decide +kernel
theorem dX10_bestOwn_1 : decode cX10_bestOwn 1 = .ok (.iload_n 1, 1) := by decide +kernel
theorem dX10_bestOwn_2 : decode cX10_bestOwn 2 = .ok (.invokevirtual 65, 3) := by decide +kernel
theorem dX10_bestOwn_5 : decode cX10_bestOwn 5 = .ok (.istore_n 2, 1) := by decide +kernel
theorem dX10_bestOwn_6 : decode cX10_bestOwn 6 = .ok (.bipush (-2), 2) := by decide +kernel
theorem dX10_bestOwn_8 : decode cX10_bestOwn 8 = .ok (.istore_n 3, 1) := by decide +kernel
theorem dX10_bestOwn_9 : decode cX10_bestOwn 9 = .ok (.bipush 8, 2) := by decide +kernel
theorem dX10_bestOwn_11 : decode cX10_bestOwn 11 = .ok (.istore 4, 2) := by decide +kernel
theorem dX10_bestOwn_13 : decode cX10_bestOwn 13 = .ok (.iconst 0, 1) := by decide +kernel
theorem dX10_bestOwn_14 : decode cX10_bestOwn 14 = .ok (.istore 5, 2) := by decide +kernel
theorem dX10_bestOwn_16 : decode cX10_bestOwn 16 = .ok (.iload 5, 2) := by decide +kernel
theorem dX10_bestOwn_18 : decode cX10_bestOwn 18 = .ok (.aload_n 0, 1) := by decide +kernel
theorem dX10_bestOwn_19 : decode cX10_bestOwn 19 = .ok (.getfield 24, 3) := by decide +kernel
theorem dX10_bestOwn_22 : decode cX10_bestOwn 22 = .ok (.if_icmp .ge 64, 3) := by decide +kernel
theorem dX10_bestOwn_25 : decode cX10_bestOwn 25 = .ok (.aload_n 0, 1) := by decide +kernel
theorem dX10_bestOwn_26 : decode cX10_bestOwn 26 = .ok (.getfield 28, 3) := by decide +kernel
theorem dX10_bestOwn_29 : decode cX10_bestOwn 29 = .ok (.iload 5, 2) := by decide +kernel
theorem dX10_bestOwn_31 : decode cX10_bestOwn 31 = .ok (.iaload, 1) := by decide +kernel
theorem dX10_bestOwn_32 : decode cX10_bestOwn 32 = .ok (.istore 6, 2) := by decide +kernel
theorem dX10_bestOwn_34 : decode cX10_bestOwn 34 = .ok (.iload 6, 2) := by decide +kernel
theorem dX10_bestOwn_36 : decode cX10_bestOwn 36 = .ok (.invokestatic 68, 3) := by decide +kernel
theorem dX10_bestOwn_39 : decode cX10_bestOwn 39 = .ok (.iload_n 2, 1) := by decide +kernel
theorem dX10_bestOwn_40 : decode cX10_bestOwn 40 = .ok (.iconst (-1), 1) := by decide +kernel
theorem dX10_bestOwn_41 : decode cX10_bestOwn 41 = .ok (.ixor, 1) := by decide +kernel
theorem dX10_bestOwn_42 : decode cX10_bestOwn 42 = .ok (.iand, 1) := by decide +kernel
theorem dX10_bestOwn_43 : decode cX10_bestOwn 43 = .ok (.ifCond .ne 7, 3) := by decide +kernel
theorem dX10_bestOwn_46 : decode cX10_bestOwn 46 = .ok (.iconst 1, 1) := by decide +kernel
theorem dX10_bestOwn_47 : decode cX10_bestOwn 47 = .ok (.goto 4, 3) := by decide +kernel
theorem dX10_bestOwn_50 : decode cX10_bestOwn 50 = .ok (.iconst 0, 1) := by decide +kernel
theorem dX10_bestOwn_51 : decode cX10_bestOwn 51 = .ok (.istore 7, 2) := by decide +kernel
theorem dX10_bestOwn_53 : decode cX10_bestOwn 53 = .ok (.iload 7, 2) := by decide +kernel
theorem dX10_bestOwn_55 : decode cX10_bestOwn 55 = .ok (.ifCond .eq 25, 3) := by decide +kernel
theorem dX10_bestOwn_58 : decode cX10_bestOwn 58 = .ok (.aload_n 0, 1) := by decide +kernel
theorem dX10_bestOwn_59 : decode cX10_bestOwn 59 = .ok (.iload 6, 2) := by decide +kernel
theorem dX10_bestOwn_61 : decode cX10_bestOwn 61 = .ok (.invokevirtual 55, 3) := by decide +kernel
theorem dX10_bestOwn_64 : decode cX10_bestOwn 64 = .ok (.iload 4, 2) := by decide +kernel
theorem dX10_bestOwn_66 : decode cX10_bestOwn 66 = .ok (.if_icmp .ge 14, 3) := by decide +kernel
theorem dX10_bestOwn_69 : decode cX10_bestOwn 69 = .ok (.aload_n 0, 1) := by decide +kernel
theorem dX10_bestOwn_70 : decode cX10_bestOwn 70 = .ok (.iload 6, 2) := by decide +kernel
theorem dX10_bestOwn_72 : decode cX10_bestOwn 72 = .ok (.invokevirtual 55, 3) := by decide +kernel
theorem dX10_bestOwn_75 : decode cX10_bestOwn 75 = .ok (.istore 4, 2) := by decide +kernel
theorem dX10_bestOwn_77 : decode cX10_bestOwn 77 = .ok (.iload 6, 2) := by decide +kernel
theorem dX10_bestOwn_79 : decode cX10_bestOwn 79 = .ok (.istore_n 3, 1) := by decide +kernel
theorem dX10_bestOwn_80 : decode cX10_bestOwn 80 = .ok (.iinc 5 1, 3) := by decide +kernel
theorem dX10_bestOwn_83 : decode cX10_bestOwn 83 = .ok (.goto (-67), 3) := by decide +kernel
theorem dX10_bestOwn_86 : decode cX10_bestOwn 86 = .ok (.iload_n 3, 1) := by decide +kernel
theorem dX10_bestOwn_87 : decode cX10_bestOwn 87 = .ok (.ireturn, 1) := by decide +kernel
theorem dX10_leftBehindRounds_0 : decode cX10_leftBehindRounds 0 = .ok (.aload_n 0, 1) := by decide +kernel
theorem dX10_leftBehindRounds_1 : decode cX10_leftBehindRounds 1 = .ok (.getfield 20, 3) := by decide +kernel
theorem dX10_leftBehindRounds_4 : decode cX10_leftBehindRounds 4 = .ok (.aload_n 1, 1) := by decide +kernel
theorem dX10_leftBehindRounds_5 : decode cX10_leftBehindRounds 5 = .ok (.invokevirtual 71, 3) := by decide +kernel
theorem dX10_leftBehindRounds_8 : decode cX10_leftBehindRounds 8 = .ok (.iconst 0, 1) := by decide +kernel
theorem dX10_leftBehindRounds_9 : decode cX10_leftBehindRounds 9 = .ok (.istore_n 3, 1) := by decide +kernel
theorem dX10_leftBehindRounds_10 : decode cX10_leftBehindRounds 10 = .ok (.iload_n 3, 1) := by decide +kernel
theorem dX10_leftBehindRounds_11 : decode cX10_leftBehindRounds 11 = .ok (.iload_n 2, 1) := by decide +kernel
theorem dX10_leftBehindRounds_12 : decode cX10_leftBehindRounds 12 = .ok (.if_icmp .ge 76, 3) := by decide +kernel
theorem dX10_leftBehindRounds_15 : decode cX10_leftBehindRounds 15 = .ok (.iconst 0, 1) := by decide +kernel
theorem dX10_leftBehindRounds_16 : decode cX10_leftBehindRounds 16 = .ok (.istore 4, 2) := by decide +kernel
theorem dX10_leftBehindRounds_18 : decode cX10_leftBehindRounds 18 = .ok (.iload 4, 2) := by decide +kernel
theorem dX10_leftBehindRounds_20 : decode cX10_leftBehindRounds 20 = .ok (.aload_n 0, 1) := by decide +kernel
theorem dX10_leftBehindRounds_21 : decode cX10_leftBehindRounds 21 = .ok (.getfield 9, 3) := by decide +kernel
theorem dX10_leftBehindRounds_24 : decode cX10_leftBehindRounds 24 = .ok (.getfield 75, 3) := by decide +kernel
theorem dX10_leftBehindRounds_27 : decode cX10_leftBehindRounds 27 = .ok (.if_icmp .ge 55, 3) := by decide +kernel
theorem dX10_leftBehindRounds_30 : decode cX10_leftBehindRounds 30 = .ok (.aload_n 0, 1) := by decide +kernel
theorem dX10_leftBehindRounds_31 : decode cX10_leftBehindRounds 31 = .ok (.getfield 20, 3) := by decide +kernel
theorem dX10_leftBehindRounds_34 : decode cX10_leftBehindRounds 34 = .ok (.iload 4, 2) := by decide +kernel
theorem dX10_leftBehindRounds_36 : decode cX10_leftBehindRounds 36 = .ok (.invokestatic 80, 3) := by decide +kernel
theorem dX10_leftBehindRounds_39 : decode cX10_leftBehindRounds 39 = .ok (.istore 5, 2) := by decide +kernel
theorem dX10_leftBehindRounds_41 : decode cX10_leftBehindRounds 41 = .ok (.iload 5, 2) := by decide +kernel
theorem dX10_leftBehindRounds_43 : decode cX10_leftBehindRounds 43 = .ok (.bipush (-2), 2) := by decide +kernel
theorem dX10_leftBehindRounds_45 : decode cX10_leftBehindRounds 45 = .ok (.if_icmp .eq 31, 3) := by decide +kernel
theorem dX10_leftBehindRounds_48 : decode cX10_leftBehindRounds 48 = .ok (.aload_n 0, 1) := by decide +kernel
theorem dX10_leftBehindRounds_49 : decode cX10_leftBehindRounds 49 = .ok (.getfield 20, 3) := by decide +kernel
theorem dX10_leftBehindRounds_52 : decode cX10_leftBehindRounds 52 = .ok (.iload 5, 2) := by decide +kernel
theorem dX10_leftBehindRounds_54 : decode cX10_leftBehindRounds 54 = .ok (.invokevirtual 55, 3) := by decide +kernel
theorem dX10_leftBehindRounds_57 : decode cX10_leftBehindRounds 57 = .ok (.aload_n 0, 1) := by decide +kernel
theorem dX10_leftBehindRounds_58 : decode cX10_leftBehindRounds 58 = .ok (.getfield 20, 3) := by decide +kernel
theorem dX10_leftBehindRounds_61 : decode cX10_leftBehindRounds 61 = .ok (.getfield 52, 3) := by decide +kernel
theorem dX10_leftBehindRounds_64 : decode cX10_leftBehindRounds 64 = .ok (.if_icmp .ge 12, 3) := by decide +kernel
theorem dX10_leftBehindRounds_67 : decode cX10_leftBehindRounds 67 = .ok (.aload_n 0, 1) := by decide +kernel
theorem dX10_leftBehindRounds_68 : decode cX10_leftBehindRounds 68 = .ok (.getfield 20, 3) := by decide +kernel
theorem dX10_leftBehindRounds_71 : decode cX10_leftBehindRounds 71 = .ok (.iload 5, 2) := by decide +kernel
theorem dX10_leftBehindRounds_73 : decode cX10_leftBehindRounds 73 = .ok (.invokevirtual 84, 3) := by decide +kernel
theorem dX10_leftBehindRounds_76 : decode cX10_leftBehindRounds 76 = .ok (.iinc 4 1, 3) := by decide +kernel
theorem dX10_leftBehindRounds_79 : decode cX10_leftBehindRounds 79 = .ok (.goto (-61), 3) := by decide +kernel
theorem dX10_leftBehindRounds_82 : decode cX10_leftBehindRounds 82 = .ok (.iinc 3 1, 3) := by decide +kernel
theorem dX10_leftBehindRounds_85 : decode cX10_leftBehindRounds 85 = .ok (.goto (-75), 3) := by decide +kernel
theorem dX10_leftBehindRounds_88 : decode cX10_leftBehindRounds 88 = .ok (.aload_n 0, 1) := by decide +kernel
theorem dX10_leftBehindRounds_89 : decode cX10_leftBehindRounds 89 = .ok (.getfield 20, 3) := by decide +kernel
theorem dX10_leftBehindRounds_92 : decode cX10_leftBehindRounds 92 = .ok (.getfield 52, 3) := by decide +kernel
theorem dX10_leftBehindRounds_95 : decode cX10_leftBehindRounds 95 = .ok (.ireturn, 1) := by decide +kernel
theorem dX10_looseTries_0 : decode cX10_looseTries 0 = .ok (.iload_n 2, 1) := by decide +kernel
theorem dX10_looseTries_1 : decode cX10_looseTries 1 = .ok (.istore 5, 2) := by decide +kernel
theorem dX10_looseTries_3 : decode cX10_looseTries 3 = .ok (.iconst 0, 1) := by decide +kernel
theorem dX10_looseTries_4 : decode cX10_looseTries 4 = .ok (.istore 6, 2) := by decide +kernel
theorem dX10_looseTries_6 : decode cX10_looseTries 6 = .ok (.iconst 0, 1) := by decide +kernel
theorem dX10_looseTries_7 : decode cX10_looseTries 7 = .ok (.istore 7, 2) := by decide +kernel
theorem dX10_looseTries_9 : decode cX10_looseTries 9 = .ok (.iload 7, 2) := by decide +kernel
theorem dX10_looseTries_11 : decode cX10_looseTries 11 = .ok (.iload_n 3, 1) := by decide +kernel
theorem dX10_looseTries_12 : decode cX10_looseTries 12 = .ok (.if_icmp .ge 86, 3) := by decide +kernel
theorem dX10_looseTries_15 : decode cX10_looseTries 15 = .ok (.aload_n 0, 1) := by decide +kernel
theorem dX10_looseTries_16 : decode cX10_looseTries 16 = .ok (.getfield 20, 3) := by decide +kernel
theorem dX10_looseTries_19 : decode cX10_looseTries 19 = .ok (.aload_n 1, 1) := by decide +kernel
theorem dX10_looseTries_20 : decode cX10_looseTries 20 = .ok (.invokevirtual 71, 3) := by decide +kernel
theorem dX10_looseTries_23 : decode cX10_looseTries 23 = .ok (.iconst 0, 1) := by decide +kernel
theorem dX10_looseTries_24 : decode cX10_looseTries 24 = .ok (.istore 8, 2) := by decide +kernel
theorem dX10_looseTries_26 : decode cX10_looseTries 26 = .ok (.iload 8, 2) := by decide +kernel
theorem dX10_looseTries_28 : decode cX10_looseTries 28 = .ok (.iload 4, 2) := by decide +kernel
theorem dX10_looseTries_30 : decode cX10_looseTries 30 = .ok (.if_icmp .ge 42, 3) := by decide +kernel
theorem dX10_looseTries_33 : decode cX10_looseTries 33 = .ok (.aload_n 0, 1) := by decide +kernel
theorem dX10_looseTries_34 : decode cX10_looseTries 34 = .ok (.getfield 20, 3) := by decide +kernel
theorem dX10_looseTries_37 : decode cX10_looseTries 37 = .ok (.getfield 24, 3) := by decide +kernel
theorem dX10_looseTries_40 : decode cX10_looseTries 40 = .ok (.ifCond .le 32, 3) := by decide +kernel
theorem dX10_looseTries_43 : decode cX10_looseTries 43 = .ok (.iload 5, 2) := by decide +kernel
theorem dX10_looseTries_45 : decode cX10_looseTries 45 = .ok (.invokestatic 88, 3) := by decide +kernel
theorem dX10_looseTries_48 : decode cX10_looseTries 48 = .ok (.istore 5, 2) := by decide +kernel
theorem dX10_looseTries_50 : decode cX10_looseTries 50 = .ok (.aload_n 0, 1) := by decide +kernel
theorem dX10_looseTries_51 : decode cX10_looseTries 51 = .ok (.getfield 20, 3) := by decide +kernel
theorem dX10_looseTries_54 : decode cX10_looseTries 54 = .ok (.aload_n 0, 1) := by decide +kernel
theorem dX10_looseTries_55 : decode cX10_looseTries 55 = .ok (.getfield 20, 3) := by decide +kernel
theorem dX10_looseTries_58 : decode cX10_looseTries 58 = .ok (.iload 5, 2) := by decide +kernel
theorem dX10_looseTries_60 : decode cX10_looseTries 60 = .ok (.invokevirtual 91, 3) := by decide +kernel
theorem dX10_looseTries_63 : decode cX10_looseTries 63 = .ok (.invokevirtual 84, 3) := by decide +kernel
theorem dX10_looseTries_66 : decode cX10_looseTries 66 = .ok (.iinc 8 1, 3) := by decide +kernel
theorem dX10_looseTries_69 : decode cX10_looseTries 69 = .ok (.goto (-43), 3) := by decide +kernel
theorem dX10_looseTries_72 : decode cX10_looseTries 72 = .ok (.iload 6, 2) := by decide +kernel
theorem dX10_looseTries_74 : decode cX10_looseTries 74 = .ok (.aload_n 0, 1) := by decide +kernel
theorem dX10_looseTries_75 : decode cX10_looseTries 75 = .ok (.getfield 20, 3) := by decide +kernel
theorem dX10_looseTries_78 : decode cX10_looseTries 78 = .ok (.getfield 52, 3) := by decide +kernel
theorem dX10_looseTries_81 : decode cX10_looseTries 81 = .ok (.ifCond .ne 7, 3) := by decide +kernel
theorem dX10_looseTries_84 : decode cX10_looseTries 84 = .ok (.iconst 1, 1) := by decide +kernel
theorem dX10_looseTries_85 : decode cX10_looseTries 85 = .ok (.goto 4, 3) := by decide +kernel
theorem dX10_looseTries_88 : decode cX10_looseTries 88 = .ok (.iconst 0, 1) := by decide +kernel
theorem dX10_looseTries_89 : decode cX10_looseTries 89 = .ok (.iadd, 1) := by decide +kernel
theorem dX10_looseTries_90 : decode cX10_looseTries 90 = .ok (.istore 6, 2) := by decide +kernel
theorem dX10_looseTries_92 : decode cX10_looseTries 92 = .ok (.iinc 7 1, 3) := by decide +kernel
theorem dX10_looseTries_95 : decode cX10_looseTries 95 = .ok (.goto (-86), 3) := by decide +kernel
theorem dX10_looseTries_98 : decode cX10_looseTries 98 = .ok (.iload 6, 2) := by decide +kernel
theorem dX10_looseTries_100 : decode cX10_looseTries 100 = .ok (.ireturn, 1) := by decide +kernel
theorem dX12_init_0 : decode cX12_init 0 = .ok (.aload_n 0, 1) := by decide +kernel
theorem dX12_init_1 : decode cX12_init 1 = .ok (.invokespecial 3, 3) := by decide +kernel
theorem dX12_init_4 : decode cX12_init 4 = .ok (.aload_n 0, 1) := by decide +kernel
theorem dX12_init_5 : decode cX12_init 5 = .ok (.iconst (-1), 1) := by decide +kernel
theorem dX12_init_6 : decode cX12_init 6 = .ok (.putfield 9, 3) := by decide +kernel
theorem dX12_init_9 : decode cX12_init 9 = .ok (.aload_n 0, 1) := by decide +kernel
theorem dX12_init_10 : decode cX12_init 10 = .ok (.bipush 8, 2) := by decide +kernel
theorem dX12_init_12 : decode cX12_init 12 = .ok (.newarray .int, 2) := by decide +kernel
theorem dX12_init_14 : decode cX12_init 14 = .ok (.putfield 15, 3) := by decide +kernel
theorem dX12_init_17 : decode cX12_init 17 = .ok (.aload_n 0, 1) := by decide +kernel
theorem dX12_init_18 : decode cX12_init 18 = .ok (.bipush 8, 2) := by decide +kernel
theorem dX12_init_20 : decode cX12_init 20 = .ok (.newarray .int, 2) := by decide +kernel
theorem dX12_init_22 : decode cX12_init 22 = .ok (.putfield 19, 3) := by decide +kernel
theorem dX12_init_25 : decode cX12_init 25 = .ok (.aload_n 0, 1) := by decide +kernel
theorem dX12_init_26 : decode cX12_init 26 = .ok (.bipush 8, 2) := by decide +kernel
theorem dX12_init_28 : decode cX12_init 28 = .ok (.newarray .int, 2) := by decide +kernel
theorem dX12_init_30 : decode cX12_init 30 = .ok (.putfield 22, 3) := by decide +kernel
theorem dX12_init_33 : decode cX12_init 33 = .ok (.aload_n 0, 1) := by decide +kernel
theorem dX12_init_34 : decode cX12_init 34 = .ok (.bipush 8, 2) := by decide +kernel
theorem dX12_init_36 : decode cX12_init 36 = .ok (.newarray .int, 2) := by decide +kernel
theorem dX12_init_38 : decode cX12_init 38 = .ok (.putfield 25, 3) := by decide +kernel
theorem dX12_init_41 : decode cX12_init 41 = .ok (.aload_n 0, 1) := by decide +kernel
theorem dX12_init_42 : decode cX12_init 42 = .ok (.bipush 8, 2) := by decide +kernel
theorem dX12_init_44 : decode cX12_init 44 = .ok (.newarray .int, 2) := by decide +kernel
theorem dX12_init_46 : decode cX12_init 46 = .ok (.putfield 28, 3) := by decide +kernel
theorem dX12_init_49 : decode cX12_init 49 = .ok (.aload_n 0, 1) := by decide +kernel
theorem dX12_init_50 : decode cX12_init 50 = .ok (.bipush 16, 2) := by decide +kernel
theorem dX12_init_52 : decode cX12_init 52 = .ok (.newarray .int, 2) := by decide +kernel
theorem dX12_init_54 : decode cX12_init 54 = .ok (.putfield 31, 3) := by decide +kernel
theorem dX12_init_57 : decode cX12_init 57 = .ok (.aload_n 0, 1) := by decide +kernel
theorem dX12_init_58 : decode cX12_init 58 = .ok (.bipush 7, 2) := by decide +kernel
theorem dX12_init_60 : decode cX12_init 60 = .ok (.newarray .int, 2) := by decide +kernel
theorem dX12_init_62 : decode cX12_init 62 = .ok (.putfield 34, 3) := by decide +kernel
theorem dX12_init_65 : decode cX12_init 65 = .ok (.aload_n 0, 1) := by decide +kernel
theorem dX12_init_66 : decode cX12_init 66 = .ok (.bipush 7, 2) := by decide +kernel
theorem dX12_init_68 : decode cX12_init 68 = .ok (.newarray .int, 2) := by decide +kernel
theorem dX12_init_70 : decode cX12_init 70 = .ok (.putfield 37, 3) := by decide +kernel
theorem dX12_init_73 : decode cX12_init 73 = .ok (.aload_n 0, 1) := by decide +kernel
theorem dX12_init_74 : decode cX12_init 74 = .ok (.bipush 7, 2) := by decide +kernel
theorem dX12_init_76 : decode cX12_init 76 = .ok (.newarray .int, 2) := by decide +kernel
theorem dX12_init_78 : decode cX12_init 78 = .ok (.putfield 40, 3) := by decide +kernel
theorem dX12_init_81 : decode cX12_init 81 = .ok (.aload_n 0, 1) := by decide +kernel
theorem dX12_init_82 : decode cX12_init 82 = .ok (.bipush 7, 2) := by decide +kernel
theorem dX12_init_84 : decode cX12_init 84 = .ok (.newarray .int, 2) := by decide +kernel
theorem dX12_init_86 : decode cX12_init 86 = .ok (.putfield 43, 3) := by decide +kernel
theorem dX12_init_89 : decode cX12_init 89 = .ok (.aload_n 0, 1) := by decide +kernel
theorem dX12_init_90 : decode cX12_init 90 = .ok (.bipush 7, 2) := by decide +kernel
theorem dX12_init_92 : decode cX12_init 92 = .ok (.newarray .int, 2) := by decide +kernel
theorem dX12_init_94 : decode cX12_init 94 = .ok (.putfield 46, 3) := by decide +kernel
theorem dX12_init_97 : decode cX12_init 97 = .ok (.aload_n 0, 1) := by decide +kernel
theorem dX12_init_98 : decode cX12_init 98 = .ok (.bipush 16, 2) := by decide +kernel
theorem dX12_init_100 : decode cX12_init 100 = .ok (.newarray .long, 2) := by decide +kernel
theorem dX12_init_102 : decode cX12_init 102 = .ok (.putfield 49, 3) := by decide +kernel
theorem dX12_init_105 : decode cX12_init 105 = .ok (.aload_n 0, 1) := by decide +kernel
theorem dX12_init_106 : decode cX12_init 106 = .ok (.bipush 16, 2) := by decide +kernel
theorem dX12_init_108 : decode cX12_init 108 = .ok (.newarray .int, 2) := by decide +kernel
theorem dX12_init_110 : decode cX12_init 110 = .ok (.putfield 53, 3) := by decide +kernel
theorem dX12_init_113 : decode cX12_init 113 = .ok (.aload_n 0, 1) := by decide +kernel
theorem dX12_init_114 : decode cX12_init 114 = .ok (.bipush 16, 2) := by decide +kernel
theorem dX12_init_116 : decode cX12_init 116 = .ok (.newarray .int, 2) := by decide +kernel
theorem dX12_init_118 : decode cX12_init 118 = .ok (.putfield 56, 3) := by decide +kernel
theorem dX12_init_121 : decode cX12_init 121 = .ok (.aload_n 0, 1) := by decide +kernel
theorem dX12_init_122 : decode cX12_init 122 = .ok (.bipush 8, 2) := by decide +kernel
theorem dX12_init_124 : decode cX12_init 124 = .ok (.newarray .int, 2) := by decide +kernel
theorem dX12_init_126 : decode cX12_init 126 = .ok (.putfield 59, 3) := by decide +kernel
theorem dX12_init_129 : decode cX12_init 129 = .ok (.aload_n 0, 1) := by decide +kernel
theorem dX12_init_130 : decode cX12_init 130 = .ok (.bipush 8, 2) := by decide +kernel
theorem dX12_init_132 : decode cX12_init 132 = .ok (.newarray .int, 2) := by decide +kernel
theorem dX12_init_134 : decode cX12_init 134 = .ok (.putfield 62, 3) := by decide +kernel
theorem dX12_init_137 : decode cX12_init 137 = .ok (.aload_n 0, 1) := by decide +kernel
theorem dX12_init_138 : decode cX12_init 138 = .ok (.bipush 8, 2) := by decide +kernel
theorem dX12_init_140 : decode cX12_init 140 = .ok (.newarray .int, 2) := by decide +kernel
theorem dX12_init_142 : decode cX12_init 142 = .ok (.putfield 65, 3) := by decide +kernel
theorem dX12_init_145 : decode cX12_init 145 = .ok (.aload_n 0, 1) := by decide +kernel
theorem dX12_init_146 : decode cX12_init 146 = .ok (.bipush 8, 2) := by decide +kernel
theorem dX12_init_148 : decode cX12_init 148 = .ok (.newarray .int, 2) := by decide +kernel
theorem dX12_init_150 : decode cX12_init 150 = .ok (.putfield 68, 3) := by decide +kernel
theorem dX12_init_153 : decode cX12_init 153 = .ok (.aload_n 0, 1) := by decide +kernel
theorem dX12_init_154 : decode cX12_init 154 = .ok (.bipush 64, 2) := by decide +kernel
theorem dX12_init_156 : decode cX12_init 156 = .ok (.newarray .int, 2) := by decide +kernel
theorem dX12_init_158 : decode cX12_init 158 = .ok (.putfield 71, 3) := by decide +kernel
theorem dX12_init_161 : decode cX12_init 161 = .ok (.aload_n 0, 1) := by decide +kernel
theorem dX12_init_162 : decode cX12_init 162 = .ok (.bipush 8, 2) := by decide +kernel
theorem dX12_init_164 : decode cX12_init 164 = .ok (.newarray .int, 2) := by decide +kernel
theorem dX12_init_166 : decode cX12_init 166 = .ok (.putfield 74, 3) := by decide +kernel
theorem dX12_init_169 : decode cX12_init 169 = .ok (.aload_n 0, 1) := by decide +kernel
theorem dX12_init_170 : decode cX12_init 170 = .ok (.bipush 8, 2) := by decide +kernel
theorem dX12_init_172 : decode cX12_init 172 = .ok (.newarray .boolean, 2) := by decide +kernel
theorem dX12_init_174 : decode cX12_init 174 = .ok (.putfield 77, 3) := by decide +kernel
theorem dX12_init_177 : decode cX12_init 177 = .ok (.aload_n 0, 1) := by decide +kernel
theorem dX12_init_178 : decode cX12_init 178 = .ok (.bipush 14, 2) := by decide +kernel
theorem dX12_init_180 : decode cX12_init 180 = .ok (.newarray .int, 2) := by decide +kernel
theorem dX12_init_182 : decode cX12_init 182 = .ok (.putfield 81, 3) := by decide +kernel
theorem dX12_init_185 : decode cX12_init 185 = .ok (.aload_n 0, 1) := by decide +kernel
theorem dX12_init_186 : decode cX12_init 186 = .ok (.bipush 14, 2) := by decide +kernel
theorem dX12_init_188 : decode cX12_init 188 = .ok (.newarray .int, 2) := by decide +kernel
theorem dX12_init_190 : decode cX12_init 190 = .ok (.putfield 84, 3) := by decide +kernel
theorem dX12_init_193 : decode cX12_init 193 = .ok (.return_, 1) := by decide +kernel
theorem dX12_find_0 : decode cX12_find 0 = .ok (.iconst 0, 1) := by decide +kernel
theorem dX12_find_1 : decode cX12_find 1 = .ok (.istore_n 3, 1) := by decide +kernel
theorem dX12_find_2 : decode cX12_find 2 = .ok (.iload_n 3, 1) := by decide +kernel
theorem dX12_find_3 : decode cX12_find 3 = .ok (.aload_n 0, 1) := by decide +kernel
theorem dX12_find_4 : decode cX12_find 4 = .ok (.getfield 87, 3) := by decide +kernel
theorem dX12_find_7 : decode cX12_find 7 = .ok (.if_icmp .ge 22, 3) := by decide +kernel
theorem dX12_find_10 : decode cX12_find 10 = .ok (.aload_n 0, 1) := by decide +kernel
theorem dX12_find_11 : decode cX12_find 11 = .ok (.getfield 49, 3) := by decide +kernel
theorem dX12_find_14 : decode cX12_find 14 = .ok (.iload_n 3, 1) := by decide +kernel
theorem dX12_find_15 : decode cX12_find 15 = .ok (.laload, 1) := by decide +kernel
theorem dX12_find_16 : decode cX12_find 16 = .ok (.lload_n 1, 1) := by decide +kernel
theorem dX12_find_17 : decode cX12_find 17 = .ok (.lcmp, 1) := by decide +kernel
theorem dX12_find_18 : decode cX12_find 18 = .ok (.ifCond .ne 5, 3) := by decide +kernel
theorem dX12_find_21 : decode cX12_find 21 = .ok (.iload_n 3, 1) := by decide +kernel
theorem dX12_find_22 : decode cX12_find 22 = .ok (.ireturn, 1) := by decide +kernel
theorem dX12_find_23 : decode cX12_find 23 = .ok (.iinc 3 1, 3) := by decide +kernel
theorem dX12_find_26 : decode cX12_find 26 = .ok (.goto (-24), 3) := by decide +kernel
theorem dX12_find_29 : decode cX12_find 29 = .ok (.iconst (-1), 1) := by decide +kernel
theorem dX12_find_30 : decode cX12_find 30 = .ok (.ireturn, 1) := by decide +kernel
theorem dX12_other_0 : decode cX12_other 0 = .ok (.aload_n 0, 1) := by decide +kernel
theorem dX12_other_1 : decode cX12_other 1 = .ok (.getfield 31, 3) := by decide +kernel
theorem dX12_other_4 : decode cX12_other 4 = .ok (.iload_n 1, 1) := by decide +kernel
theorem dX12_other_5 : decode cX12_other 5 = .ok (.iaload, 1) := by decide +kernel
theorem dX12_other_6 : decode cX12_other 6 = .ok (.istore_n 2, 1) := by decide +kernel
theorem dX12_other_7 : decode cX12_other 7 = .ok (.iconst 2, 1) := by decide +kernel
theorem dX12_other_8 : decode cX12_other 8 = .ok (.aload_n 0, 1) := by decide +kernel
theorem dX12_other_9 : decode cX12_other 9 = .ok (.getfield 19, 3) := by decide +kernel
theorem dX12_other_12 : decode cX12_other 12 = .ok (.iload_n 2, 1) := by decide +kernel
theorem dX12_other_13 : decode cX12_other 13 = .ok (.iaload, 1) := by decide +kernel
theorem dX12_other_14 : decode cX12_other 14 = .ok (.imul, 1) := by decide +kernel
theorem dX12_other_15 : decode cX12_other 15 = .ok (.aload_n 0, 1) := by decide +kernel
theorem dX12_other_16 : decode cX12_other 16 = .ok (.getfield 22, 3) := by decide +kernel
theorem dX12_other_19 : decode cX12_other 19 = .ok (.iload_n 2, 1) := by decide +kernel
theorem dX12_other_20 : decode cX12_other 20 = .ok (.iaload, 1) := by decide +kernel
theorem dX12_other_21 : decode cX12_other 21 = .ok (.iadd, 1) := by decide +kernel
theorem dX12_other_22 : decode cX12_other 22 = .ok (.iload_n 1, 1) := by decide +kernel
theorem dX12_other_23 : decode cX12_other 23 = .ok (.if_icmp .ne 21, 3) := by decide +kernel
theorem dX12_other_26 : decode cX12_other 26 = .ok (.iconst 2, 1) := by decide +kernel
theorem dX12_other_27 : decode cX12_other 27 = .ok (.aload_n 0, 1) := by decide +kernel
theorem dX12_other_28 : decode cX12_other 28 = .ok (.getfield 25, 3) := by decide +kernel
theorem dX12_other_31 : decode cX12_other 31 = .ok (.iload_n 2, 1) := by decide +kernel
theorem dX12_other_32 : decode cX12_other 32 = .ok (.iaload, 1) := by decide +kernel
theorem dX12_other_33 : decode cX12_other 33 = .ok (.imul, 1) := by decide +kernel
theorem dX12_other_34 : decode cX12_other 34 = .ok (.aload_n 0, 1) := by decide +kernel
theorem dX12_other_35 : decode cX12_other 35 = .ok (.getfield 28, 3) := by decide +kernel
theorem dX12_other_38 : decode cX12_other 38 = .ok (.iload_n 2, 1) := by decide +kernel
theorem dX12_other_39 : decode cX12_other 39 = .ok (.iaload, 1) := by decide +kernel
theorem dX12_other_40 : decode cX12_other 40 = .ok (.iadd, 1) := by decide +kernel
theorem dX12_other_41 : decode cX12_other 41 = .ok (.goto 18, 3) := by decide +kernel
theorem dX12_other_44 : decode cX12_other 44 = .ok (.iconst 2, 1) := by decide +kernel
theorem dX12_other_45 : decode cX12_other 45 = .ok (.aload_n 0, 1) := by decide +kernel
theorem dX12_other_46 : decode cX12_other 46 = .ok (.getfield 19, 3) := by decide +kernel
theorem dX12_other_49 : decode cX12_other 49 = .ok (.iload_n 2, 1) := by decide +kernel
theorem dX12_other_50 : decode cX12_other 50 = .ok (.iaload, 1) := by decide +kernel
theorem dX12_other_51 : decode cX12_other 51 = .ok (.imul, 1) := by decide +kernel
theorem dX12_other_52 : decode cX12_other 52 = .ok (.aload_n 0, 1) := by decide +kernel
theorem dX12_other_53 : decode cX12_other 53 = .ok (.getfield 22, 3) := by decide +kernel
theorem dX12_other_56 : decode cX12_other 56 = .ok (.iload_n 2, 1) := by decide +kernel
theorem dX12_other_57 : decode cX12_other 57 = .ok (.iaload, 1) := by decide +kernel
theorem dX12_other_58 : decode cX12_other 58 = .ok (.iadd, 1) := by decide +kernel
theorem dX12_other_59 : decode cX12_other 59 = .ok (.ireturn, 1) := by decide +kernel
theorem dX12_laysRings_0 : decode cX12_laysRings 0 = .ok (.iconst 0, 1) := by decide +kernel
theorem dX12_laysRings_1 : decode cX12_laysRings 1 = .ok (.istore_n 1, 1) := by decide +kernel
theorem dX12_laysRings_2 : decode cX12_laysRings 2 = .ok (.iload_n 1, 1) := by decide +kernel
theorem dX12_laysRings_3 : decode cX12_laysRings 3 = .ok (.aload_n 0, 1) := by decide +kernel
theorem dX12_laysRings_4 : decode cX12_laysRings 4 = .ok (.getfield 90, 3) := by decide +kernel
theorem dX12_laysRings_7 : decode cX12_laysRings 7 = .ok (.if_icmp .ge 16, 3) := by decide +kernel
theorem dX12_laysRings_10 : decode cX12_laysRings 10 = .ok (.aload_n 0, 1) := by decide +kernel
theorem dX12_laysRings_11 : decode cX12_laysRings 11 = .ok (.getfield 62, 3) := by decide +kernel
theorem dX12_laysRings_14 : decode cX12_laysRings 14 = .ok (.iload_n 1, 1) := by decide +kernel
theorem dX12_laysRings_15 : decode cX12_laysRings 15 = .ok (.iconst (-1), 1) := by decide +kernel
theorem dX12_laysRings_16 : decode cX12_laysRings 16 = .ok (.iastore, 1) := by decide +kernel
theorem dX12_laysRings_17 : decode cX12_laysRings 17 = .ok (.iinc 1 1, 3) := by decide +kernel
theorem dX12_laysRings_20 : decode cX12_laysRings 20 = .ok (.goto (-18), 3) := by decide +kernel
theorem dX12_laysRings_23 : decode cX12_laysRings 23 = .ok (.iconst 0, 1) := by decide +kernel
theorem dX12_laysRings_24 : decode cX12_laysRings 24 = .ok (.istore_n 1, 1) := by decide +kernel
theorem dX12_laysRings_25 : decode cX12_laysRings 25 = .ok (.iload_n 1, 1) := by decide +kernel
theorem dX12_laysRings_26 : decode cX12_laysRings 26 = .ok (.aload_n 0, 1) := by decide +kernel
theorem dX12_laysRings_27 : decode cX12_laysRings 27 = .ok (.getfield 90, 3) := by decide +kernel
theorem dX12_laysRings_30 : decode cX12_laysRings 30 = .ok (.if_icmp .ge 39, 3) := by decide +kernel
theorem dX12_laysRings_33 : decode cX12_laysRings 33 = .ok (.aload_n 0, 1) := by decide +kernel
theorem dX12_laysRings_34 : decode cX12_laysRings 34 = .ok (.getfield 62, 3) := by decide +kernel
theorem dX12_laysRings_37 : decode cX12_laysRings 37 = .ok (.iload_n 1, 1) := by decide +kernel
theorem dX12_laysRings_38 : decode cX12_laysRings 38 = .ok (.iaload, 1) := by decide +kernel
theorem dX12_laysRings_39 : decode cX12_laysRings 39 = .ok (.iconst (-1), 1) := by decide +kernel
theorem dX12_laysRings_40 : decode cX12_laysRings 40 = .ok (.if_icmp .eq 6, 3) := by decide +kernel
theorem dX12_laysRings_43 : decode cX12_laysRings 43 = .ok (.goto 20, 3) := by decide +kernel
theorem dX12_laysRings_46 : decode cX12_laysRings 46 = .ok (.aload_n 0, 1) := by decide +kernel
theorem dX12_laysRings_47 : decode cX12_laysRings 47 = .ok (.iconst 2, 1) := by decide +kernel
theorem dX12_laysRings_48 : decode cX12_laysRings 48 = .ok (.iload_n 1, 1) := by decide +kernel
theorem dX12_laysRings_49 : decode cX12_laysRings 49 = .ok (.imul, 1) := by decide +kernel
theorem dX12_laysRings_50 : decode cX12_laysRings 50 = .ok (.invokevirtual 93, 3) := by decide +kernel
theorem dX12_laysRings_53 : decode cX12_laysRings 53 = .ok (.aload_n 0, 1) := by decide +kernel
theorem dX12_laysRings_54 : decode cX12_laysRings 54 = .ok (.dup, 1) := by decide +kernel
theorem dX12_laysRings_55 : decode cX12_laysRings 55 = .ok (.getfield 97, 3) := by decide +kernel
theorem dX12_laysRings_58 : decode cX12_laysRings 58 = .ok (.iconst 1, 1) := by decide +kernel
theorem dX12_laysRings_59 : decode cX12_laysRings 59 = .ok (.iadd, 1) := by decide +kernel
theorem dX12_laysRings_60 : decode cX12_laysRings 60 = .ok (.putfield 97, 3) := by decide +kernel
theorem dX12_laysRings_63 : decode cX12_laysRings 63 = .ok (.iinc 1 1, 3) := by decide +kernel
theorem dX12_laysRings_66 : decode cX12_laysRings 66 = .ok (.goto (-41), 3) := by decide +kernel
theorem dX12_laysRings_69 : decode cX12_laysRings 69 = .ok (.return_, 1) := by decide +kernel
theorem dX12_laysRing_0 : decode cX12_laysRing 0 = .ok (.iload_n 1, 1) := by decide +kernel
theorem dX12_laysRing_1 : decode cX12_laysRing 1 = .ok (.istore_n 2, 1) := by decide +kernel
theorem dX12_laysRing_2 : decode cX12_laysRing 2 = .ok (.iconst 0, 1) := by decide +kernel
theorem dX12_laysRing_3 : decode cX12_laysRing 3 = .ok (.istore_n 3, 1) := by decide +kernel
theorem dX12_laysRing_4 : decode cX12_laysRing 4 = .ok (.iload_n 3, 1) := by decide +kernel
theorem dX12_laysRing_5 : decode cX12_laysRing 5 = .ok (.ifCond .eq 8, 3) := by decide +kernel
theorem dX12_laysRing_8 : decode cX12_laysRing 8 = .ok (.iload_n 2, 1) := by decide +kernel
theorem dX12_laysRing_9 : decode cX12_laysRing 9 = .ok (.iload_n 1, 1) := by decide +kernel
theorem dX12_laysRing_10 : decode cX12_laysRing 10 = .ok (.if_icmp .eq 112, 3) := by decide +kernel
theorem dX12_laysRing_13 : decode cX12_laysRing 13 = .ok (.aload_n 0, 1) := by decide +kernel
theorem dX12_laysRing_14 : decode cX12_laysRing 14 = .ok (.getfield 31, 3) := by decide +kernel
theorem dX12_laysRing_17 : decode cX12_laysRing 17 = .ok (.iload_n 2, 1) := by decide +kernel
theorem dX12_laysRing_18 : decode cX12_laysRing 18 = .ok (.iaload, 1) := by decide +kernel
theorem dX12_laysRing_19 : decode cX12_laysRing 19 = .ok (.istore 4, 2) := by decide +kernel
theorem dX12_laysRing_21 : decode cX12_laysRing 21 = .ok (.aload_n 0, 1) := by decide +kernel
theorem dX12_laysRing_22 : decode cX12_laysRing 22 = .ok (.getfield 62, 3) := by decide +kernel
theorem dX12_laysRing_25 : decode cX12_laysRing 25 = .ok (.iload_n 2, 1) := by decide +kernel
theorem dX12_laysRing_26 : decode cX12_laysRing 26 = .ok (.iconst 2, 1) := by decide +kernel
theorem dX12_laysRing_27 : decode cX12_laysRing 27 = .ok (.idiv, 1) := by decide +kernel
theorem dX12_laysRing_28 : decode cX12_laysRing 28 = .ok (.aload_n 0, 1) := by decide +kernel
theorem dX12_laysRing_29 : decode cX12_laysRing 29 = .ok (.getfield 97, 3) := by decide +kernel
theorem dX12_laysRing_32 : decode cX12_laysRing 32 = .ok (.iastore, 1) := by decide +kernel
theorem dX12_laysRing_33 : decode cX12_laysRing 33 = .ok (.aload_n 0, 1) := by decide +kernel
theorem dX12_laysRing_34 : decode cX12_laysRing 34 = .ok (.getfield 71, 3) := by decide +kernel
theorem dX12_laysRing_37 : decode cX12_laysRing 37 = .ok (.bipush 8, 2) := by decide +kernel
theorem dX12_laysRing_39 : decode cX12_laysRing 39 = .ok (.aload_n 0, 1) := by decide +kernel
theorem dX12_laysRing_40 : decode cX12_laysRing 40 = .ok (.getfield 97, 3) := by decide +kernel
theorem dX12_laysRing_43 : decode cX12_laysRing 43 = .ok (.imul, 1) := by decide +kernel
theorem dX12_laysRing_44 : decode cX12_laysRing 44 = .ok (.iload_n 3, 1) := by decide +kernel
theorem dX12_laysRing_45 : decode cX12_laysRing 45 = .ok (.iadd, 1) := by decide +kernel
theorem dX12_laysRing_46 : decode cX12_laysRing 46 = .ok (.iload_n 2, 1) := by decide +kernel
theorem dX12_laysRing_47 : decode cX12_laysRing 47 = .ok (.iconst 2, 1) := by decide +kernel
theorem dX12_laysRing_48 : decode cX12_laysRing 48 = .ok (.idiv, 1) := by decide +kernel
theorem dX12_laysRing_49 : decode cX12_laysRing 49 = .ok (.iastore, 1) := by decide +kernel
theorem dX12_laysRing_50 : decode cX12_laysRing 50 = .ok (.aload_n 0, 1) := by decide +kernel
theorem dX12_laysRing_51 : decode cX12_laysRing 51 = .ok (.getfield 65, 3) := by decide +kernel
theorem dX12_laysRing_54 : decode cX12_laysRing 54 = .ok (.iload 4, 2) := by decide +kernel
theorem dX12_laysRing_56 : decode cX12_laysRing 56 = .ok (.aload_n 0, 1) := by decide +kernel
theorem dX12_laysRing_57 : decode cX12_laysRing 57 = .ok (.getfield 97, 3) := by decide +kernel
theorem dX12_laysRing_60 : decode cX12_laysRing 60 = .ok (.iastore, 1) := by decide +kernel
theorem dX12_laysRing_61 : decode cX12_laysRing 61 = .ok (.aload_n 0, 1) := by decide +kernel
theorem dX12_laysRing_62 : decode cX12_laysRing 62 = .ok (.getfield 68, 3) := by decide +kernel
theorem dX12_laysRing_65 : decode cX12_laysRing 65 = .ok (.iload 4, 2) := by decide +kernel
theorem dX12_laysRing_67 : decode cX12_laysRing 67 = .ok (.iload_n 3, 1) := by decide +kernel
theorem dX12_laysRing_68 : decode cX12_laysRing 68 = .ok (.iastore, 1) := by decide +kernel
theorem dX12_laysRing_69 : decode cX12_laysRing 69 = .ok (.aload_n 0, 1) := by decide +kernel
theorem dX12_laysRing_70 : decode cX12_laysRing 70 = .ok (.getfield 77, 3) := by decide +kernel
theorem dX12_laysRing_73 : decode cX12_laysRing 73 = .ok (.iload 4, 2) := by decide +kernel
theorem dX12_laysRing_75 : decode cX12_laysRing 75 = .ok (.iconst 2, 1) := by decide +kernel
theorem dX12_laysRing_76 : decode cX12_laysRing 76 = .ok (.aload_n 0, 1) := by decide +kernel
theorem dX12_laysRing_77 : decode cX12_laysRing 77 = .ok (.getfield 19, 3) := by decide +kernel
theorem dX12_laysRing_80 : decode cX12_laysRing 80 = .ok (.iload 4, 2) := by decide +kernel
theorem dX12_laysRing_82 : decode cX12_laysRing 82 = .ok (.iaload, 1) := by decide +kernel
theorem dX12_laysRing_83 : decode cX12_laysRing 83 = .ok (.imul, 1) := by decide +kernel
theorem dX12_laysRing_84 : decode cX12_laysRing 84 = .ok (.aload_n 0, 1) := by decide +kernel
theorem dX12_laysRing_85 : decode cX12_laysRing 85 = .ok (.getfield 22, 3) := by decide +kernel
theorem dX12_laysRing_88 : decode cX12_laysRing 88 = .ok (.iload 4, 2) := by decide +kernel
theorem dX12_laysRing_90 : decode cX12_laysRing 90 = .ok (.iaload, 1) := by decide +kernel
theorem dX12_laysRing_91 : decode cX12_laysRing 91 = .ok (.iadd, 1) := by decide +kernel
theorem dX12_laysRing_92 : decode cX12_laysRing 92 = .ok (.iload_n 2, 1) := by decide +kernel
theorem dX12_laysRing_93 : decode cX12_laysRing 93 = .ok (.if_icmp .ne 7, 3) := by decide +kernel
theorem dX12_laysRing_96 : decode cX12_laysRing 96 = .ok (.iconst 1, 1) := by decide +kernel
theorem dX12_laysRing_97 : decode cX12_laysRing 97 = .ok (.goto 4, 3) := by decide +kernel
theorem dX12_laysRing_100 : decode cX12_laysRing 100 = .ok (.iconst 0, 1) := by decide +kernel
theorem dX12_laysRing_101 : decode cX12_laysRing 101 = .ok (.bastore, 1) := by decide +kernel
theorem dX12_laysRing_102 : decode cX12_laysRing 102 = .ok (.aload_n 0, 1) := by decide +kernel
theorem dX12_laysRing_103 : decode cX12_laysRing 103 = .ok (.iload 4, 2) := by decide +kernel
theorem dX12_laysRing_105 : decode cX12_laysRing 105 = .ok (.invokevirtual 100, 3) := by decide +kernel
theorem dX12_laysRing_108 : decode cX12_laysRing 108 = .ok (.aload_n 0, 1) := by decide +kernel
theorem dX12_laysRing_109 : decode cX12_laysRing 109 = .ok (.iload_n 2, 1) := by decide +kernel
theorem dX12_laysRing_110 : decode cX12_laysRing 110 = .ok (.invokevirtual 103, 3) := by decide +kernel
theorem dX12_laysRing_113 : decode cX12_laysRing 113 = .ok (.iconst 1, 1) := by decide +kernel
theorem dX12_laysRing_114 : decode cX12_laysRing 114 = .ok (.ixor, 1) := by decide +kernel
theorem dX12_laysRing_115 : decode cX12_laysRing 115 = .ok (.istore_n 2, 1) := by decide +kernel
theorem dX12_laysRing_116 : decode cX12_laysRing 116 = .ok (.iinc 3 1, 3) := by decide +kernel
theorem dX12_laysRing_119 : decode cX12_laysRing 119 = .ok (.goto (-115), 3) := by decide +kernel
theorem dX12_laysRing_122 : decode cX12_laysRing 122 = .ok (.aload_n 0, 1) := by decide +kernel
theorem dX12_laysRing_123 : decode cX12_laysRing 123 = .ok (.getfield 74, 3) := by decide +kernel
theorem dX12_laysRing_126 : decode cX12_laysRing 126 = .ok (.aload_n 0, 1) := by decide +kernel
theorem dX12_laysRing_127 : decode cX12_laysRing 127 = .ok (.getfield 97, 3) := by decide +kernel
theorem dX12_laysRing_130 : decode cX12_laysRing 130 = .ok (.iload_n 3, 1) := by decide +kernel
theorem dX12_laysRing_131 : decode cX12_laysRing 131 = .ok (.iastore, 1) := by decide +kernel
theorem dX12_laysRing_132 : decode cX12_laysRing 132 = .ok (.return_, 1) := by decide +kernel
theorem dX12_laysStandings_0 : decode cX12_laysStandings 0 = .ok (.iconst 1, 1) := by decide +kernel
theorem dX12_laysStandings_1 : decode cX12_laysStandings 1 = .ok (.istore_n 2, 1) := by decide +kernel
theorem dX12_laysStandings_2 : decode cX12_laysStandings 2 = .ok (.iload_n 2, 1) := by decide +kernel
theorem dX12_laysStandings_3 : decode cX12_laysStandings 3 = .ok (.bipush 9, 2) := by decide +kernel
theorem dX12_laysStandings_5 : decode cX12_laysStandings 5 = .ok (.if_icmp .gt 109, 3) := by decide +kernel
theorem dX12_laysStandings_8 : decode cX12_laysStandings 8 = .ok (.aload_n 0, 1) := by decide +kernel
theorem dX12_laysStandings_9 : decode cX12_laysStandings 9 = .ok (.getfield 77, 3) := by decide +kernel
theorem dX12_laysStandings_12 : decode cX12_laysStandings 12 = .ok (.iload_n 1, 1) := by decide +kernel
theorem dX12_laysStandings_13 : decode cX12_laysStandings 13 = .ok (.baload, 1) := by decide +kernel
theorem dX12_laysStandings_14 : decode cX12_laysStandings 14 = .ok (.ifCond .eq 7, 3) := by decide +kernel
theorem dX12_laysStandings_17 : decode cX12_laysStandings 17 = .ok (.iload_n 2, 1) := by decide +kernel
theorem dX12_laysStandings_18 : decode cX12_laysStandings 18 = .ok (.goto 7, 3) := by decide +kernel
theorem dX12_laysStandings_21 : decode cX12_laysStandings 21 = .ok (.bipush 10, 2) := by decide +kernel
theorem dX12_laysStandings_23 : decode cX12_laysStandings 23 = .ok (.iload_n 2, 1) := by decide +kernel
theorem dX12_laysStandings_24 : decode cX12_laysStandings 24 = .ok (.isub, 1) := by decide +kernel
theorem dX12_laysStandings_25 : decode cX12_laysStandings 25 = .ok (.istore_n 3, 1) := by decide +kernel
theorem dX12_laysStandings_26 : decode cX12_laysStandings 26 = .ok (.iconst 0, 1) := by decide +kernel
theorem dX12_laysStandings_27 : decode cX12_laysStandings 27 = .ok (.istore 4, 2) := by decide +kernel
theorem dX12_laysStandings_29 : decode cX12_laysStandings 29 = .ok (.iload 4, 2) := by decide +kernel
theorem dX12_laysStandings_31 : decode cX12_laysStandings 31 = .ok (.aload_n 0, 1) := by decide +kernel
theorem dX12_laysStandings_32 : decode cX12_laysStandings 32 = .ok (.getfield 107, 3) := by decide +kernel
theorem dX12_laysStandings_35 : decode cX12_laysStandings 35 = .ok (.if_icmp .ge 73, 3) := by decide +kernel
theorem dX12_laysStandings_38 : decode cX12_laysStandings 38 = .ok (.aload_n 0, 1) := by decide +kernel
theorem dX12_laysStandings_39 : decode cX12_laysStandings 39 = .ok (.getfield 34, 3) := by decide +kernel
theorem dX12_laysStandings_42 : decode cX12_laysStandings 42 = .ok (.iload 4, 2) := by decide +kernel
theorem dX12_laysStandings_44 : decode cX12_laysStandings 44 = .ok (.iaload, 1) := by decide +kernel
theorem dX12_laysStandings_45 : decode cX12_laysStandings 45 = .ok (.iload_n 1, 1) := by decide +kernel
theorem dX12_laysStandings_46 : decode cX12_laysStandings 46 = .ok (.if_icmp .ne 25, 3) := by decide +kernel
theorem dX12_laysStandings_49 : decode cX12_laysStandings 49 = .ok (.aload_n 0, 1) := by decide +kernel
theorem dX12_laysStandings_50 : decode cX12_laysStandings 50 = .ok (.getfield 37, 3) := by decide +kernel
theorem dX12_laysStandings_53 : decode cX12_laysStandings 53 = .ok (.iload 4, 2) := by decide +kernel
theorem dX12_laysStandings_55 : decode cX12_laysStandings 55 = .ok (.iaload, 1) := by decide +kernel
theorem dX12_laysStandings_56 : decode cX12_laysStandings 56 = .ok (.iload_n 3, 1) := by decide +kernel
theorem dX12_laysStandings_57 : decode cX12_laysStandings 57 = .ok (.if_icmp .ne 14, 3) := by decide +kernel
theorem dX12_laysStandings_60 : decode cX12_laysStandings 60 = .ok (.aload_n 0, 1) := by decide +kernel
theorem dX12_laysStandings_61 : decode cX12_laysStandings 61 = .ok (.iload_n 1, 1) := by decide +kernel
theorem dX12_laysStandings_62 : decode cX12_laysStandings 62 = .ok (.iconst 2, 1) := by decide +kernel
theorem dX12_laysStandings_63 : decode cX12_laysStandings 63 = .ok (.iload 4, 2) := by decide +kernel
theorem dX12_laysStandings_65 : decode cX12_laysStandings 65 = .ok (.imul, 1) := by decide +kernel
theorem dX12_laysStandings_66 : decode cX12_laysStandings 66 = .ok (.iconst 1, 1) := by decide +kernel
theorem dX12_laysStandings_67 : decode cX12_laysStandings 67 = .ok (.iadd, 1) := by decide +kernel
theorem dX12_laysStandings_68 : decode cX12_laysStandings 68 = .ok (.invokevirtual 110, 3) := by decide +kernel
theorem dX12_laysStandings_71 : decode cX12_laysStandings 71 = .ok (.aload_n 0, 1) := by decide +kernel
theorem dX12_laysStandings_72 : decode cX12_laysStandings 72 = .ok (.getfield 40, 3) := by decide +kernel
theorem dX12_laysStandings_75 : decode cX12_laysStandings 75 = .ok (.iload 4, 2) := by decide +kernel
theorem dX12_laysStandings_77 : decode cX12_laysStandings 77 = .ok (.iaload, 1) := by decide +kernel
theorem dX12_laysStandings_78 : decode cX12_laysStandings 78 = .ok (.iload_n 1, 1) := by decide +kernel
theorem dX12_laysStandings_79 : decode cX12_laysStandings 79 = .ok (.if_icmp .ne 23, 3) := by decide +kernel
theorem dX12_laysStandings_82 : decode cX12_laysStandings 82 = .ok (.aload_n 0, 1) := by decide +kernel
theorem dX12_laysStandings_83 : decode cX12_laysStandings 83 = .ok (.getfield 43, 3) := by decide +kernel
theorem dX12_laysStandings_86 : decode cX12_laysStandings 86 = .ok (.iload 4, 2) := by decide +kernel
theorem dX12_laysStandings_88 : decode cX12_laysStandings 88 = .ok (.iaload, 1) := by decide +kernel
theorem dX12_laysStandings_89 : decode cX12_laysStandings 89 = .ok (.iload_n 3, 1) := by decide +kernel
theorem dX12_laysStandings_90 : decode cX12_laysStandings 90 = .ok (.if_icmp .ne 12, 3) := by decide +kernel
theorem dX12_laysStandings_93 : decode cX12_laysStandings 93 = .ok (.aload_n 0, 1) := by decide +kernel
theorem dX12_laysStandings_94 : decode cX12_laysStandings 94 = .ok (.iload_n 1, 1) := by decide +kernel
theorem dX12_laysStandings_95 : decode cX12_laysStandings 95 = .ok (.iconst 2, 1) := by decide +kernel
theorem dX12_laysStandings_96 : decode cX12_laysStandings 96 = .ok (.iload 4, 2) := by decide +kernel
theorem dX12_laysStandings_98 : decode cX12_laysStandings 98 = .ok (.imul, 1) := by decide +kernel
theorem dX12_laysStandings_99 : decode cX12_laysStandings 99 = .ok (.invokevirtual 110, 3) := by decide +kernel
theorem dX12_laysStandings_102 : decode cX12_laysStandings 102 = .ok (.iinc 4 1, 3) := by decide +kernel
theorem dX12_laysStandings_105 : decode cX12_laysStandings 105 = .ok (.goto (-76), 3) := by decide +kernel
theorem dX12_laysStandings_108 : decode cX12_laysStandings 108 = .ok (.iinc 2 1, 3) := by decide +kernel
theorem dX12_laysStandings_111 : decode cX12_laysStandings 111 = .ok (.goto (-109), 3) := by decide +kernel
theorem dX12_laysStandings_114 : decode cX12_laysStandings 114 = .ok (.return_, 1) := by decide +kernel
theorem dX12_stands_0 : decode cX12_stands 0 = .ok (.aload_n 0, 1) := by decide +kernel
theorem dX12_stands_1 : decode cX12_stands 1 = .ok (.getfield 81, 3) := by decide +kernel
theorem dX12_stands_4 : decode cX12_stands 4 = .ok (.aload_n 0, 1) := by decide +kernel
theorem dX12_stands_5 : decode cX12_stands 5 = .ok (.getfield 114, 3) := by decide +kernel
theorem dX12_stands_8 : decode cX12_stands 8 = .ok (.aload_n 0, 1) := by decide +kernel
theorem dX12_stands_9 : decode cX12_stands 9 = .ok (.getfield 97, 3) := by decide +kernel
theorem dX12_stands_12 : decode cX12_stands 12 = .ok (.iastore, 1) := by decide +kernel
theorem dX12_stands_13 : decode cX12_stands 13 = .ok (.aload_n 0, 1) := by decide +kernel
theorem dX12_stands_14 : decode cX12_stands 14 = .ok (.getfield 84, 3) := by decide +kernel
theorem dX12_stands_17 : decode cX12_stands 17 = .ok (.aload_n 0, 1) := by decide +kernel
theorem dX12_stands_18 : decode cX12_stands 18 = .ok (.getfield 114, 3) := by decide +kernel
theorem dX12_stands_21 : decode cX12_stands 21 = .ok (.iload_n 1, 1) := by decide +kernel
theorem dX12_stands_22 : decode cX12_stands 22 = .ok (.iastore, 1) := by decide +kernel
theorem dX12_stands_23 : decode cX12_stands 23 = .ok (.aload_n 0, 1) := by decide +kernel
theorem dX12_stands_24 : decode cX12_stands 24 = .ok (.dup, 1) := by decide +kernel
theorem dX12_stands_25 : decode cX12_stands 25 = .ok (.getfield 117, 3) := by decide +kernel
theorem dX12_stands_28 : decode cX12_stands 28 = .ok (.iload_n 2, 1) := by decide +kernel
theorem dX12_stands_29 : decode cX12_stands 29 = .ok (.i2l, 1) := by decide +kernel
theorem dX12_stands_30 : decode cX12_stands 30 = .ok (.iconst 4, 1) := by decide +kernel
theorem dX12_stands_31 : decode cX12_stands 31 = .ok (.aload_n 0, 1) := by decide +kernel
theorem dX12_stands_32 : decode cX12_stands 32 = .ok (.getfield 114, 3) := by decide +kernel
theorem dX12_stands_35 : decode cX12_stands 35 = .ok (.imul, 1) := by decide +kernel
theorem dX12_stands_36 : decode cX12_stands 36 = .ok (.lshl, 1) := by decide +kernel
theorem dX12_stands_37 : decode cX12_stands 37 = .ok (.lor, 1) := by decide +kernel
theorem dX12_stands_38 : decode cX12_stands 38 = .ok (.putfield 117, 3) := by decide +kernel
theorem dX12_stands_41 : decode cX12_stands 41 = .ok (.aload_n 0, 1) := by decide +kernel
theorem dX12_stands_42 : decode cX12_stands 42 = .ok (.dup, 1) := by decide +kernel
theorem dX12_stands_43 : decode cX12_stands 43 = .ok (.getfield 114, 3) := by decide +kernel
theorem dX12_stands_46 : decode cX12_stands 46 = .ok (.iconst 1, 1) := by decide +kernel
theorem dX12_stands_47 : decode cX12_stands 47 = .ok (.iadd, 1) := by decide +kernel
theorem dX12_stands_48 : decode cX12_stands 48 = .ok (.putfield 114, 3) := by decide +kernel
theorem dX12_stands_51 : decode cX12_stands 51 = .ok (.return_, 1) := by decide +kernel
theorem dX12_signOf_0 : decode cX12_signOf 0 = .ok (.aload_n 0, 1) := by decide +kernel
theorem dX12_signOf_1 : decode cX12_signOf 1 = .ok (.getfield 77, 3) := by decide +kernel
theorem dX12_signOf_4 : decode cX12_signOf 4 = .ok (.aload_n 0, 1) := by decide +kernel
theorem dX12_signOf_5 : decode cX12_signOf 5 = .ok (.getfield 34, 3) := by decide +kernel
theorem dX12_signOf_8 : decode cX12_signOf 8 = .ok (.iload_n 1, 1) := by decide +kernel
theorem dX12_signOf_9 : decode cX12_signOf 9 = .ok (.iaload, 1) := by decide +kernel
theorem dX12_signOf_10 : decode cX12_signOf 10 = .ok (.baload, 1) := by decide +kernel
theorem dX12_signOf_11 : decode cX12_signOf 11 = .ok (.aload_n 0, 1) := by decide +kernel
theorem dX12_signOf_12 : decode cX12_signOf 12 = .ok (.getfield 77, 3) := by decide +kernel
theorem dX12_signOf_15 : decode cX12_signOf 15 = .ok (.aload_n 0, 1) := by decide +kernel
theorem dX12_signOf_16 : decode cX12_signOf 16 = .ok (.getfield 40, 3) := by decide +kernel
theorem dX12_signOf_19 : decode cX12_signOf 19 = .ok (.iload_n 1, 1) := by decide +kernel
theorem dX12_signOf_20 : decode cX12_signOf 20 = .ok (.iaload, 1) := by decide +kernel
theorem dX12_signOf_21 : decode cX12_signOf 21 = .ok (.baload, 1) := by decide +kernel
theorem dX12_signOf_22 : decode cX12_signOf 22 = .ok (.if_icmp .ne 7, 3) := by decide +kernel
theorem dX12_signOf_25 : decode cX12_signOf 25 = .ok (.iconst 1, 1) := by decide +kernel
theorem dX12_signOf_26 : decode cX12_signOf 26 = .ok (.goto 4, 3) := by decide +kernel
theorem dX12_signOf_29 : decode cX12_signOf 29 = .ok (.iconst 0, 1) := by decide +kernel
theorem dX12_signOf_30 : decode cX12_signOf 30 = .ok (.iload_n 2, 1) := by decide +kernel
theorem dX12_signOf_31 : decode cX12_signOf 31 = .ok (.iload_n 1, 1) := by decide +kernel
theorem dX12_signOf_32 : decode cX12_signOf 32 = .ok (.ishr, 1) := by decide +kernel
theorem dX12_signOf_33 : decode cX12_signOf 33 = .ok (.iconst 1, 1) := by decide +kernel
theorem dX12_signOf_34 : decode cX12_signOf 34 = .ok (.iand, 1) := by decide +kernel
theorem dX12_signOf_35 : decode cX12_signOf 35 = .ok (.ifCond .ne 7, 3) := by decide +kernel
theorem dX12_signOf_38 : decode cX12_signOf 38 = .ok (.iconst 1, 1) := by decide +kernel
theorem dX12_signOf_39 : decode cX12_signOf 39 = .ok (.goto 4, 3) := by decide +kernel
theorem dX12_signOf_42 : decode cX12_signOf 42 = .ok (.iconst 0, 1) := by decide +kernel
theorem dX12_signOf_43 : decode cX12_signOf 43 = .ok (.if_icmp .ne 12, 3) := by decide +kernel
theorem dX12_signOf_46 : decode cX12_signOf 46 = .ok (.aload_n 0, 1) := by decide +kernel
theorem dX12_signOf_47 : decode cX12_signOf 47 = .ok (.getfield 46, 3) := by decide +kernel
theorem dX12_signOf_50 : decode cX12_signOf 50 = .ok (.iload_n 1, 1) := by decide +kernel
theorem dX12_signOf_51 : decode cX12_signOf 51 = .ok (.iaload, 1) := by decide +kernel
theorem dX12_signOf_52 : decode cX12_signOf 52 = .ok (.goto 10, 3) := by decide +kernel
theorem dX12_signOf_55 : decode cX12_signOf 55 = .ok (.aload_n 0, 1) := by decide +kernel
theorem dX12_signOf_56 : decode cX12_signOf 56 = .ok (.getfield 46, 3) := by decide +kernel
theorem dX12_signOf_59 : decode cX12_signOf 59 = .ok (.iload_n 1, 1) := by decide +kernel
theorem dX12_signOf_60 : decode cX12_signOf 60 = .ok (.iaload, 1) := by decide +kernel
theorem dX12_signOf_61 : decode cX12_signOf 61 = .ok (.ineg, 1) := by decide +kernel
theorem dX12_signOf_62 : decode cX12_signOf 62 = .ok (.ireturn, 1) := by decide +kernel
theorem dJ9_floorMod_7cf53_0 : decode cJ9_floorMod_7cf53 0 = .ok (.iload_n 0, 1) := by decide +kernel
theorem dJ9_floorMod_7cf53_1 : decode cJ9_floorMod_7cf53 1 = .ok (.iload_n 1, 1) := by decide +kernel
theorem dJ9_floorMod_7cf53_2 : decode cJ9_floorMod_7cf53 2 = .ok (.irem, 1) := by decide +kernel
theorem dJ9_floorMod_7cf53_3 : decode cJ9_floorMod_7cf53 3 = .ok (.istore_n 2, 1) := by decide +kernel
theorem dJ9_floorMod_7cf53_4 : decode cJ9_floorMod_7cf53 4 = .ok (.iload_n 0, 1) := by decide +kernel
theorem dJ9_floorMod_7cf53_5 : decode cJ9_floorMod_7cf53 5 = .ok (.iload_n 1, 1) := by decide +kernel
theorem dJ9_floorMod_7cf53_6 : decode cJ9_floorMod_7cf53 6 = .ok (.ixor, 1) := by decide +kernel
theorem dJ9_floorMod_7cf53_7 : decode cJ9_floorMod_7cf53 7 = .ok (.ifCond .ge 11, 3) := by decide +kernel
theorem dJ9_floorMod_7cf53_10 : decode cJ9_floorMod_7cf53 10 = .ok (.iload_n 2, 1) := by decide +kernel
theorem dJ9_floorMod_7cf53_11 : decode cJ9_floorMod_7cf53 11 = .ok (.ifCond .eq 7, 3) := by decide +kernel
theorem dJ9_floorMod_7cf53_14 : decode cJ9_floorMod_7cf53 14 = .ok (.iload_n 2, 1) := by decide +kernel
theorem dJ9_floorMod_7cf53_15 : decode cJ9_floorMod_7cf53 15 = .ok (.iload_n 1, 1) := by decide +kernel
theorem dJ9_floorMod_7cf53_16 : decode cJ9_floorMod_7cf53 16 = .ok (.iadd, 1) := by decide +kernel
theorem dJ9_floorMod_7cf53_17 : decode cJ9_floorMod_7cf53 17 = .ok (.ireturn, 1) := by decide +kernel
theorem dJ9_floorMod_7cf53_18 : decode cJ9_floorMod_7cf53 18 = .ok (.iload_n 2, 1) := by decide +kernel
theorem dJ9_floorMod_7cf53_19 : decode cJ9_floorMod_7cf53 19 = .ok (.ireturn, 1) := by decide +kernel
theorem dJ9_max_7cf53_0 : decode cJ9_max_7cf53 0 = .ok (.iload_n 0, 1) := by decide +kernel
theorem dJ9_max_7cf53_1 : decode cJ9_max_7cf53 1 = .ok (.iload_n 1, 1) := by decide +kernel
theorem dJ9_max_7cf53_2 : decode cJ9_max_7cf53 2 = .ok (.if_icmp .lt 7, 3) := by decide +kernel
theorem dJ9_max_7cf53_5 : decode cJ9_max_7cf53 5 = .ok (.iload_n 0, 1) := by decide +kernel
theorem dJ9_max_7cf53_6 : decode cJ9_max_7cf53 6 = .ok (.goto 4, 3) := by decide +kernel
theorem dJ9_max_7cf53_9 : decode cJ9_max_7cf53 9 = .ok (.iload_n 1, 1) := by decide +kernel
theorem dJ9_max_7cf53_10 : decode cJ9_max_7cf53 10 = .ok (.ireturn, 1) := by decide +kernel
theorem dJ9_min_7cf53_0 : decode cJ9_min_7cf53 0 = .ok (.iload_n 0, 1) := by decide +kernel
theorem dJ9_min_7cf53_1 : decode cJ9_min_7cf53 1 = .ok (.iload_n 1, 1) := by decide +kernel
theorem dJ9_min_7cf53_2 : decode cJ9_min_7cf53 2 = .ok (.if_icmp .gt 7, 3) := by decide +kernel
theorem dJ9_min_7cf53_5 : decode cJ9_min_7cf53 5 = .ok (.iload_n 0, 1) := by decide +kernel
theorem dJ9_min_7cf53_6 : decode cJ9_min_7cf53 6 = .ok (.goto 4, 3) := by decide +kernel
theorem dJ9_min_7cf53_9 : decode cJ9_min_7cf53 9 = .ok (.iload_n 1, 1) := by decide +kernel
theorem dJ9_min_7cf53_10 : decode cJ9_min_7cf53 10 = .ok (.ireturn, 1) := by decide +kernel
theorem dJ0_length_8abf5_0 : decode cJ0_length_8abf5 0 = .ok (.aload_n 0, 1) := by decide +kernel
theorem dJ0_length_8abf5_1 : decode cJ0_length_8abf5 1 = .ok (.getfield 9, 3) := by decide +kernel
theorem dJ0_length_8abf5_4 : decode cJ0_length_8abf5 4 = .ok (.arraylength, 1) := by decide +kernel
theorem dJ0_length_8abf5_5 : decode cJ0_length_8abf5 5 = .ok (.aload_n 0, 1) := by decide +kernel
theorem dJ0_length_8abf5_6 : decode cJ0_length_8abf5 6 = .ok (.invokevirtual 335, 3) := by decide +kernel
theorem dJ0_length_8abf5_9 : decode cJ0_length_8abf5 9 = .ok (.ishr, 1) := by decide +kernel
theorem dJ0_length_8abf5_10 : decode cJ0_length_8abf5 10 = .ok (.ireturn, 1) := by decide +kernel
theorem dJ0_charAt_5068e_0 : decode cJ0_charAt_5068e 0 = .ok (.aload_n 0, 1) := by decide +kernel
theorem dJ0_charAt_5068e_1 : decode cJ0_charAt_5068e 1 = .ok (.invokevirtual 492, 3) := by decide +kernel
theorem dJ0_charAt_5068e_4 : decode cJ0_charAt_5068e 4 = .ok (.ifCond .eq 12, 3) := by decide +kernel
theorem dJ0_charAt_5068e_7 : decode cJ0_charAt_5068e 7 = .ok (.aload_n 0, 1) := by decide +kernel
theorem dJ0_charAt_5068e_8 : decode cJ0_charAt_5068e 8 = .ok (.getfield 9, 3) := by decide +kernel
theorem dJ0_charAt_5068e_11 : decode cJ0_charAt_5068e 11 = .ok (.iload_n 1, 1) := by decide +kernel
theorem dJ0_charAt_5068e_12 : decode cJ0_charAt_5068e 12 = .ok (.invokestatic 495, 3) := by decide +kernel
theorem dJ0_charAt_5068e_15 : decode cJ0_charAt_5068e 15 = .ok (.ireturn, 1) := by decide +kernel
theorem dJ0_charAt_5068e_16 : decode cJ0_charAt_5068e 16 = .ok (.aload_n 0, 1) := by decide +kernel
theorem dJ0_charAt_5068e_17 : decode cJ0_charAt_5068e 17 = .ok (.getfield 9, 3) := by decide +kernel
theorem dJ0_charAt_5068e_20 : decode cJ0_charAt_5068e 20 = .ok (.iload_n 1, 1) := by decide +kernel
theorem dJ0_charAt_5068e_21 : decode cJ0_charAt_5068e 21 = .ok (.invokestatic 498, 3) := by decide +kernel
theorem dJ0_charAt_5068e_24 : decode cJ0_charAt_5068e 24 = .ok (.ireturn, 1) := by decide +kernel
theorem dJ0_coder_7d493_0 : decode cJ0_coder_7d493 0 = .ok (.getstatic 38, 3) := by decide +kernel
theorem dJ0_coder_7d493_3 : decode cJ0_coder_7d493 3 = .ok (.ifCond .eq 10, 3) := by decide +kernel
theorem dJ0_coder_7d493_6 : decode cJ0_coder_7d493 6 = .ok (.aload_n 0, 1) := by decide +kernel
theorem dJ0_coder_7d493_7 : decode cJ0_coder_7d493 7 = .ok (.getfield 15, 3) := by decide +kernel
theorem dJ0_coder_7d493_10 : decode cJ0_coder_7d493 10 = .ok (.goto 4, 3) := by decide +kernel
theorem dJ0_coder_7d493_13 : decode cJ0_coder_7d493 13 = .ok (.iconst 1, 1) := by decide +kernel
theorem dJ0_coder_7d493_14 : decode cJ0_coder_7d493 14 = .ok (.ireturn, 1) := by decide +kernel
theorem dJ0_isLatin1_aae02_0 : decode cJ0_isLatin1_aae02 0 = .ok (.getstatic 38, 3) := by decide +kernel
theorem dJ0_isLatin1_aae02_3 : decode cJ0_isLatin1_aae02 3 = .ok (.ifCond .eq 14, 3) := by decide +kernel
theorem dJ0_isLatin1_aae02_6 : decode cJ0_isLatin1_aae02 6 = .ok (.aload_n 0, 1) := by decide +kernel
theorem dJ0_isLatin1_aae02_7 : decode cJ0_isLatin1_aae02 7 = .ok (.getfield 15, 3) := by decide +kernel
theorem dJ0_isLatin1_aae02_10 : decode cJ0_isLatin1_aae02 10 = .ok (.ifCond .ne 7, 3) := by decide +kernel
theorem dJ0_isLatin1_aae02_13 : decode cJ0_isLatin1_aae02 13 = .ok (.iconst 1, 1) := by decide +kernel
theorem dJ0_isLatin1_aae02_14 : decode cJ0_isLatin1_aae02 14 = .ok (.goto 4, 3) := by decide +kernel
theorem dJ0_isLatin1_aae02_17 : decode cJ0_isLatin1_aae02 17 = .ok (.iconst 0, 1) := by decide +kernel
theorem dJ0_isLatin1_aae02_18 : decode cJ0_isLatin1_aae02 18 = .ok (.ireturn, 1) := by decide +kernel
theorem dJ0_checkIndex_df160_0 : decode cJ0_checkIndex_df160 0 = .ok (.iload_n 0, 1) := by decide +kernel
theorem dJ0_checkIndex_df160_1 : decode cJ0_checkIndex_df160 1 = .ok (.iload_n 1, 1) := by decide +kernel
theorem dJ0_checkIndex_df160_2 : decode cJ0_checkIndex_df160 2 = .ok (.getstatic 1053, 3) := by decide +kernel
theorem dJ0_checkIndex_df160_5 : decode cJ0_checkIndex_df160 5 = .ok (.invokestatic 1059, 3) := by decide +kernel
theorem dJ0_checkIndex_df160_8 : decode cJ0_checkIndex_df160 8 = .ok (.pop, 1) := by decide +kernel
theorem dJ0_checkIndex_df160_9 : decode cJ0_checkIndex_df160 9 = .ok (.return_, 1) := by decide +kernel
theorem dJ1_charAt_3b067_0 : decode cJ1_charAt_3b067 0 = .ok (.iload_n 1, 1) := by decide +kernel
theorem dJ1_charAt_3b067_1 : decode cJ1_charAt_3b067 1 = .ok (.aload_n 0, 1) := by decide +kernel
theorem dJ1_charAt_3b067_2 : decode cJ1_charAt_3b067 2 = .ok (.arraylength, 1) := by decide +kernel
theorem dJ1_charAt_3b067_3 : decode cJ1_charAt_3b067 3 = .ok (.invokestatic 9, 3) := by decide +kernel
theorem dJ1_charAt_3b067_6 : decode cJ1_charAt_3b067 6 = .ok (.aload_n 0, 1) := by decide +kernel
theorem dJ1_charAt_3b067_7 : decode cJ1_charAt_3b067 7 = .ok (.iload_n 1, 1) := by decide +kernel
theorem dJ1_charAt_3b067_8 : decode cJ1_charAt_3b067 8 = .ok (.baload, 1) := by decide +kernel
theorem dJ1_charAt_3b067_9 : decode cJ1_charAt_3b067 9 = .ok (.sipush 255, 3) := by decide +kernel
theorem dJ1_charAt_3b067_12 : decode cJ1_charAt_3b067 12 = .ok (.iand, 1) := by decide +kernel
theorem dJ1_charAt_3b067_13 : decode cJ1_charAt_3b067 13 = .ok (.i2c, 1) := by decide +kernel
theorem dJ1_charAt_3b067_14 : decode cJ1_charAt_3b067 14 = .ok (.ireturn, 1) := by decide +kernel
theorem dJ2_getChar_3b067_0 : decode cJ2_getChar_3b067 0 = .ok (.getstatic 44, 3) := by decide +kernel
theorem dJ2_getChar_3b067_3 : decode cJ2_getChar_3b067 3 = .ok (.ifCond .ne 25, 3) := by decide +kernel
theorem dJ2_getChar_3b067_6 : decode cJ2_getChar_3b067 6 = .ok (.iload_n 1, 1) := by decide +kernel
theorem dJ2_getChar_3b067_7 : decode cJ2_getChar_3b067 7 = .ok (.ifCond .lt 11, 3) := by decide +kernel
theorem dJ2_getChar_3b067_10 : decode cJ2_getChar_3b067 10 = .ok (.iload_n 1, 1) := by decide +kernel
theorem dJ2_getChar_3b067_11 : decode cJ2_getChar_3b067 11 = .ok (.aload_n 0, 1) := by decide +kernel
theorem dJ2_getChar_3b067_12 : decode cJ2_getChar_3b067 12 = .ok (.invokestatic 48, 3) := by decide +kernel
theorem dJ2_getChar_3b067_15 : decode cJ2_getChar_3b067 15 = .ok (.if_icmp .lt 13, 3) := by decide +kernel
theorem dJ2_getChar_3b067_18 : decode cJ2_getChar_3b067 18 = .ok (.new 52, 3) := by decide +kernel
theorem dJ2_getChar_3b067_21 : decode cJ2_getChar_3b067 21 = .ok (.dup, 1) := by decide +kernel
theorem dJ2_getChar_3b067_22 : decode cJ2_getChar_3b067 22 = .ok (.ldc 54, 2) := by decide +kernel
theorem dJ2_getChar_3b067_24 : decode cJ2_getChar_3b067 24 = .ok (.invokespecial 56, 3) := by decide +kernel
theorem dJ2_getChar_3b067_27 : decode cJ2_getChar_3b067 27 = .ok (.athrow, 1) := by decide +kernel
theorem dJ2_getChar_3b067_28 : decode cJ2_getChar_3b067 28 = .ok (.iload_n 1, 1) := by decide +kernel
theorem dJ2_getChar_3b067_29 : decode cJ2_getChar_3b067 29 = .ok (.iconst 1, 1) := by decide +kernel
theorem dJ2_getChar_3b067_30 : decode cJ2_getChar_3b067 30 = .ok (.ishl, 1) := by decide +kernel
theorem dJ2_getChar_3b067_31 : decode cJ2_getChar_3b067 31 = .ok (.istore_n 1, 1) := by decide +kernel
theorem dJ2_getChar_3b067_32 : decode cJ2_getChar_3b067 32 = .ok (.aload_n 0, 1) := by decide +kernel
theorem dJ2_getChar_3b067_33 : decode cJ2_getChar_3b067 33 = .ok (.iload_n 1, 1) := by decide +kernel
theorem dJ2_getChar_3b067_34 : decode cJ2_getChar_3b067 34 = .ok (.iinc 1 1, 3) := by decide +kernel
theorem dJ2_getChar_3b067_37 : decode cJ2_getChar_3b067 37 = .ok (.baload, 1) := by decide +kernel
theorem dJ2_getChar_3b067_38 : decode cJ2_getChar_3b067 38 = .ok (.sipush 255, 3) := by decide +kernel
theorem dJ2_getChar_3b067_41 : decode cJ2_getChar_3b067 41 = .ok (.iand, 1) := by decide +kernel
theorem dJ2_getChar_3b067_42 : decode cJ2_getChar_3b067 42 = .ok (.getstatic 59, 3) := by decide +kernel
theorem dJ2_getChar_3b067_45 : decode cJ2_getChar_3b067 45 = .ok (.ishl, 1) := by decide +kernel
theorem dJ2_getChar_3b067_46 : decode cJ2_getChar_3b067 46 = .ok (.aload_n 0, 1) := by decide +kernel
theorem dJ2_getChar_3b067_47 : decode cJ2_getChar_3b067 47 = .ok (.iload_n 1, 1) := by decide +kernel
theorem dJ2_getChar_3b067_48 : decode cJ2_getChar_3b067 48 = .ok (.baload, 1) := by decide +kernel
theorem dJ2_getChar_3b067_49 : decode cJ2_getChar_3b067 49 = .ok (.sipush 255, 3) := by decide +kernel
theorem dJ2_getChar_3b067_52 : decode cJ2_getChar_3b067 52 = .ok (.iand, 1) := by decide +kernel
theorem dJ2_getChar_3b067_53 : decode cJ2_getChar_3b067 53 = .ok (.getstatic 63, 3) := by decide +kernel
theorem dJ2_getChar_3b067_56 : decode cJ2_getChar_3b067 56 = .ok (.ishl, 1) := by decide +kernel
theorem dJ2_getChar_3b067_57 : decode cJ2_getChar_3b067 57 = .ok (.ior, 1) := by decide +kernel
theorem dJ2_getChar_3b067_58 : decode cJ2_getChar_3b067 58 = .ok (.i2c, 1) := by decide +kernel
theorem dJ2_getChar_3b067_59 : decode cJ2_getChar_3b067 59 = .ok (.ireturn, 1) := by decide +kernel
theorem dJ2_length_9d52b_0 : decode cJ2_length_9d52b 0 = .ok (.aload_n 0, 1) := by decide +kernel
theorem dJ2_length_9d52b_1 : decode cJ2_length_9d52b 1 = .ok (.arraylength, 1) := by decide +kernel
theorem dJ2_length_9d52b_2 : decode cJ2_length_9d52b 2 = .ok (.iconst 1, 1) := by decide +kernel
theorem dJ2_length_9d52b_3 : decode cJ2_length_9d52b 3 = .ok (.ishr, 1) := by decide +kernel
theorem dJ2_length_9d52b_4 : decode cJ2_length_9d52b 4 = .ok (.ireturn, 1) := by decide +kernel
theorem dJ2_charAt_3b067_0 : decode cJ2_charAt_3b067 0 = .ok (.iload_n 1, 1) := by decide +kernel
theorem dJ2_charAt_3b067_1 : decode cJ2_charAt_3b067 1 = .ok (.aload_n 0, 1) := by decide +kernel
theorem dJ2_charAt_3b067_2 : decode cJ2_charAt_3b067 2 = .ok (.invokestatic 67, 3) := by decide +kernel
theorem dJ2_charAt_3b067_5 : decode cJ2_charAt_3b067 5 = .ok (.aload_n 0, 1) := by decide +kernel
theorem dJ2_charAt_3b067_6 : decode cJ2_charAt_3b067 6 = .ok (.iload_n 1, 1) := by decide +kernel
theorem dJ2_charAt_3b067_7 : decode cJ2_charAt_3b067 7 = .ok (.invokestatic 71, 3) := by decide +kernel
theorem dJ2_charAt_3b067_10 : decode cJ2_charAt_3b067 10 = .ok (.ireturn, 1) := by decide +kernel
theorem dJ2_checkIndex_2214a_0 : decode cJ2_checkIndex_2214a 0 = .ok (.iload_n 0, 1) := by decide +kernel
theorem dJ2_checkIndex_2214a_1 : decode cJ2_checkIndex_2214a 1 = .ok (.aload_n 1, 1) := by decide +kernel
theorem dJ2_checkIndex_2214a_2 : decode cJ2_checkIndex_2214a 2 = .ok (.invokestatic 48, 3) := by decide +kernel
theorem dJ2_checkIndex_2214a_5 : decode cJ2_checkIndex_2214a 5 = .ok (.invokestatic 414, 3) := by decide +kernel
theorem dJ2_checkIndex_2214a_8 : decode cJ2_checkIndex_2214a 8 = .ok (.return_, 1) := by decide +kernel
theorem dJ7_fill_53178_0 : decode cJ7_fill_53178 0 = .ok (.iconst 0, 1) := by decide +kernel
theorem dJ7_fill_53178_1 : decode cJ7_fill_53178 1 = .ok (.istore_n 2, 1) := by decide +kernel
theorem dJ7_fill_53178_2 : decode cJ7_fill_53178 2 = .ok (.aload_n 0, 1) := by decide +kernel
theorem dJ7_fill_53178_3 : decode cJ7_fill_53178 3 = .ok (.arraylength, 1) := by decide +kernel
theorem dJ7_fill_53178_4 : decode cJ7_fill_53178 4 = .ok (.istore_n 3, 1) := by decide +kernel
theorem dJ7_fill_53178_5 : decode cJ7_fill_53178 5 = .ok (.iload_n 2, 1) := by decide +kernel
theorem dJ7_fill_53178_6 : decode cJ7_fill_53178 6 = .ok (.iload_n 3, 1) := by decide +kernel
theorem dJ7_fill_53178_7 : decode cJ7_fill_53178 7 = .ok (.if_icmp .ge 13, 3) := by decide +kernel
theorem dJ7_fill_53178_10 : decode cJ7_fill_53178 10 = .ok (.aload_n 0, 1) := by decide +kernel
theorem dJ7_fill_53178_11 : decode cJ7_fill_53178 11 = .ok (.iload_n 2, 1) := by decide +kernel
theorem dJ7_fill_53178_12 : decode cJ7_fill_53178 12 = .ok (.iload_n 1, 1) := by decide +kernel
theorem dJ7_fill_53178_13 : decode cJ7_fill_53178 13 = .ok (.iastore, 1) := by decide +kernel
theorem dJ7_fill_53178_14 : decode cJ7_fill_53178 14 = .ok (.iinc 2 1, 3) := by decide +kernel
theorem dJ7_fill_53178_17 : decode cJ7_fill_53178 17 = .ok (.goto (-12), 3) := by decide +kernel
theorem dJ7_fill_53178_20 : decode cJ7_fill_53178 20 = .ok (.return_, 1) := by decide +kernel
theorem dJ3_checkIndex_8e157_0 : decode cJ3_checkIndex_8e157 0 = .ok (.iload_n 0, 1) := by decide +kernel
theorem dJ3_checkIndex_8e157_1 : decode cJ3_checkIndex_8e157 1 = .ok (.ifCond .lt 8, 3) := by decide +kernel
theorem dJ3_checkIndex_8e157_4 : decode cJ3_checkIndex_8e157 4 = .ok (.iload_n 0, 1) := by decide +kernel
theorem dJ3_checkIndex_8e157_5 : decode cJ3_checkIndex_8e157 5 = .ok (.iload_n 1, 1) := by decide +kernel
theorem dJ3_checkIndex_8e157_6 : decode cJ3_checkIndex_8e157 6 = .ok (.if_icmp .lt 10, 3) := by decide +kernel
theorem dJ3_checkIndex_8e157_9 : decode cJ3_checkIndex_8e157 9 = .ok (.aload_n 2, 1) := by decide +kernel
theorem dJ3_checkIndex_8e157_10 : decode cJ3_checkIndex_8e157 10 = .ok (.iload_n 0, 1) := by decide +kernel
theorem dJ3_checkIndex_8e157_11 : decode cJ3_checkIndex_8e157 11 = .ok (.iload_n 1, 1) := by decide +kernel
theorem dJ3_checkIndex_8e157_12 : decode cJ3_checkIndex_8e157 12 = .ok (.invokestatic 95, 3) := by decide +kernel
theorem dJ3_checkIndex_8e157_15 : decode cJ3_checkIndex_8e157 15 = .ok (.athrow, 1) := by decide +kernel
theorem dJ3_checkIndex_8e157_16 : decode cJ3_checkIndex_8e157 16 = .ok (.iload_n 0, 1) := by decide +kernel
theorem dJ3_checkIndex_8e157_17 : decode cJ3_checkIndex_8e157 17 = .ok (.ireturn, 1) := by decide +kernel
