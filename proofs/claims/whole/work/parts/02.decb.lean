theorem dX11_init_0 : decode cX11_init 0 = .ok (.aload_n 0, 1) := by decide +kernel
theorem dX11_init_1 : decode cX11_init 1 = .ok (.invokespecial 1, 3) := by decide +kernel
theorem dX11_init_4 : decode cX11_init 4 = .ok (.aload_n 0, 1) := by decide +kernel
theorem dX11_init_5 : decode cX11_init 5 = .ok (.new 7, 3) := by decide +kernel
theorem dX11_init_8 : decode cX11_init 8 = .ok (.dup, 1) := by decide +kernel
theorem dX11_init_9 : decode cX11_init 9 = .ok (.invokespecial 9, 3) := by decide +kernel
theorem dX11_init_12 : decode cX11_init 12 = .ok (.putfield 10, 3) := by decide +kernel
theorem dX11_init_15 : decode cX11_init 15 = .ok (.aload_n 0, 1) := by decide +kernel
theorem dX11_init_16 : decode cX11_init 16 = .ok (.new 16, 3) := by decide +kernel
theorem dX11_init_19 : decode cX11_init 19 = .ok (.dup, 1) := by decide +kernel
theorem dX11_init_20 : decode cX11_init 20 = .ok (.invokespecial 18, 3) := by decide +kernel
theorem dX11_init_23 : decode cX11_init 23 = .ok (.putfield 19, 3) := by decide +kernel
theorem dX11_init_26 : decode cX11_init 26 = .ok (.aload_n 0, 1) := by decide +kernel
theorem dX11_init_27 : decode cX11_init 27 = .ok (.new 23, 3) := by decide +kernel
theorem dX11_init_30 : decode cX11_init 30 = .ok (.dup, 1) := by decide +kernel
theorem dX11_init_31 : decode cX11_init 31 = .ok (.invokespecial 25, 3) := by decide +kernel
theorem dX11_init_34 : decode cX11_init 34 = .ok (.putfield 26, 3) := by decide +kernel
theorem dX11_init_37 : decode cX11_init 37 = .ok (.aload_n 0, 1) := by decide +kernel
theorem dX11_init_38 : decode cX11_init 38 = .ok (.new 23, 3) := by decide +kernel
theorem dX11_init_41 : decode cX11_init 41 = .ok (.dup, 1) := by decide +kernel
theorem dX11_init_42 : decode cX11_init 42 = .ok (.invokespecial 25, 3) := by decide +kernel
theorem dX11_init_45 : decode cX11_init 45 = .ok (.putfield 30, 3) := by decide +kernel
theorem dX11_init_48 : decode cX11_init 48 = .ok (.aload_n 0, 1) := by decide +kernel
theorem dX11_init_49 : decode cX11_init 49 = .ok (.new 33, 3) := by decide +kernel
theorem dX11_init_52 : decode cX11_init 52 = .ok (.dup, 1) := by decide +kernel
theorem dX11_init_53 : decode cX11_init 53 = .ok (.invokespecial 35, 3) := by decide +kernel
theorem dX11_init_56 : decode cX11_init 56 = .ok (.putfield 36, 3) := by decide +kernel
theorem dX11_init_59 : decode cX11_init 59 = .ok (.aload_n 0, 1) := by decide +kernel
theorem dX11_init_60 : decode cX11_init 60 = .ok (.new 40, 3) := by decide +kernel
theorem dX11_init_63 : decode cX11_init 63 = .ok (.dup, 1) := by decide +kernel
theorem dX11_init_64 : decode cX11_init 64 = .ok (.aload_n 0, 1) := by decide +kernel
theorem dX11_init_65 : decode cX11_init 65 = .ok (.getfield 19, 3) := by decide +kernel
theorem dX11_init_68 : decode cX11_init 68 = .ok (.invokespecial 42, 3) := by decide +kernel
theorem dX11_init_71 : decode cX11_init 71 = .ok (.putfield 45, 3) := by decide +kernel
theorem dX11_init_74 : decode cX11_init 74 = .ok (.aload_n 0, 1) := by decide +kernel
theorem dX11_init_75 : decode cX11_init 75 = .ok (.new 49, 3) := by decide +kernel
theorem dX11_init_78 : decode cX11_init 78 = .ok (.dup, 1) := by decide +kernel
theorem dX11_init_79 : decode cX11_init 79 = .ok (.aload_n 0, 1) := by decide +kernel
theorem dX11_init_80 : decode cX11_init 80 = .ok (.getfield 19, 3) := by decide +kernel
theorem dX11_init_83 : decode cX11_init 83 = .ok (.invokespecial 51, 3) := by decide +kernel
theorem dX11_init_86 : decode cX11_init 86 = .ok (.putfield 52, 3) := by decide +kernel
theorem dX11_init_89 : decode cX11_init 89 = .ok (.aload_n 0, 1) := by decide +kernel
theorem dX11_init_90 : decode cX11_init 90 = .ok (.new 56, 3) := by decide +kernel
theorem dX11_init_93 : decode cX11_init 93 = .ok (.dup, 1) := by decide +kernel
theorem dX11_init_94 : decode cX11_init 94 = .ok (.aload_n 0, 1) := by decide +kernel
theorem dX11_init_95 : decode cX11_init 95 = .ok (.getfield 19, 3) := by decide +kernel
theorem dX11_init_98 : decode cX11_init 98 = .ok (.invokespecial 58, 3) := by decide +kernel
theorem dX11_init_101 : decode cX11_init 101 = .ok (.putfield 59, 3) := by decide +kernel
theorem dX11_init_104 : decode cX11_init 104 = .ok (.aload_n 0, 1) := by decide +kernel
theorem dX11_init_105 : decode cX11_init 105 = .ok (.new 63, 3) := by decide +kernel
theorem dX11_init_108 : decode cX11_init 108 = .ok (.dup, 1) := by decide +kernel
theorem dX11_init_109 : decode cX11_init 109 = .ok (.invokespecial 65, 3) := by decide +kernel
theorem dX11_init_112 : decode cX11_init 112 = .ok (.putfield 66, 3) := by decide +kernel
theorem dX11_init_115 : decode cX11_init 115 = .ok (.aload_n 0, 1) := by decide +kernel
theorem dX11_init_116 : decode cX11_init 116 = .ok (.new 70, 3) := by decide +kernel
theorem dX11_init_119 : decode cX11_init 119 = .ok (.dup, 1) := by decide +kernel
theorem dX11_init_120 : decode cX11_init 120 = .ok (.invokespecial 72, 3) := by decide +kernel
theorem dX11_init_123 : decode cX11_init 123 = .ok (.putfield 73, 3) := by decide +kernel
theorem dX11_init_126 : decode cX11_init 126 = .ok (.aload_n 0, 1) := by decide +kernel
theorem dX11_init_127 : decode cX11_init 127 = .ok (.iconst 0, 1) := by decide +kernel
theorem dX11_init_128 : decode cX11_init 128 = .ok (.putfield 77, 3) := by decide +kernel
theorem dX11_init_131 : decode cX11_init 131 = .ok (.aload_n 0, 1) := by decide +kernel
theorem dX11_init_132 : decode cX11_init 132 = .ok (.iconst 0, 1) := by decide +kernel
theorem dX11_init_133 : decode cX11_init 133 = .ok (.putfield 81, 3) := by decide +kernel
theorem dX11_init_136 : decode cX11_init 136 = .ok (.return_, 1) := by decide +kernel
theorem dX11_refuse_0 : decode cX11_refuse 0 = .ok (.aload_n 0, 1) := by decide +kernel
theorem dX11_refuse_1 : decode cX11_refuse 1 = .ok (.iload_n 1, 1) := by decide +kernel
theorem dX11_refuse_2 : decode cX11_refuse 2 = .ok (.putfield 81, 3) := by decide +kernel
theorem dX11_refuse_5 : decode cX11_refuse 5 = .ok (.iconst (-1), 1) := by decide +kernel
theorem dX11_refuse_6 : decode cX11_refuse 6 = .ok (.ireturn, 1) := by decide +kernel
theorem dX11_refuseSigned_0 : decode cX11_refuseSigned 0 = .ok (.aload_n 0, 1) := by decide +kernel
theorem dX11_refuseSigned_1 : decode cX11_refuseSigned 1 = .ok (.iload_n 1, 1) := by decide +kernel
theorem dX11_refuseSigned_2 : decode cX11_refuseSigned 2 = .ok (.putfield 81, 3) := by decide +kernel
theorem dX11_refuseSigned_5 : decode cX11_refuseSigned 5 = .ok (.bipush (-100), 2) := by decide +kernel
theorem dX11_refuseSigned_7 : decode cX11_refuseSigned 7 = .ok (.ireturn, 1) := by decide +kernel
theorem dX11_refuseFlatly_0 : decode cX11_refuseFlatly 0 = .ok (.aload_n 0, 1) := by decide +kernel
theorem dX11_refuseFlatly_1 : decode cX11_refuseFlatly 1 = .ok (.iload_n 1, 1) := by decide +kernel
theorem dX11_refuseFlatly_2 : decode cX11_refuseFlatly 2 = .ok (.putfield 81, 3) := by decide +kernel
theorem dX11_refuseFlatly_5 : decode cX11_refuseFlatly 5 = .ok (.iconst 0, 1) := by decide +kernel
theorem dX11_refuseFlatly_6 : decode cX11_refuseFlatly 6 = .ok (.ireturn, 1) := by decide +kernel
theorem dX11_grant_0 : decode cX11_grant 0 = .ok (.aload_n 0, 1) := by decide +kernel
theorem dX11_grant_1 : decode cX11_grant 1 = .ok (.iconst 0, 1) := by decide +kernel
theorem dX11_grant_2 : decode cX11_grant 2 = .ok (.putfield 81, 3) := by decide +kernel
theorem dX11_grant_5 : decode cX11_grant 5 = .ok (.iload_n 1, 1) := by decide +kernel
theorem dX11_grant_6 : decode cX11_grant 6 = .ok (.ireturn, 1) := by decide +kernel
theorem dX11_isPerson_0 : decode cX11_isPerson 0 = .ok (.aload_n 0, 1) := by decide +kernel
theorem dX11_isPerson_1 : decode cX11_isPerson 1 = .ok (.getfield 77, 3) := by decide +kernel
theorem dX11_isPerson_4 : decode cX11_isPerson 4 = .ok (.ifCond .eq 22, 3) := by decide +kernel
theorem dX11_isPerson_7 : decode cX11_isPerson 7 = .ok (.iload_n 1, 1) := by decide +kernel
theorem dX11_isPerson_8 : decode cX11_isPerson 8 = .ok (.ifCond .lt 18, 3) := by decide +kernel
theorem dX11_isPerson_11 : decode cX11_isPerson 11 = .ok (.iload_n 1, 1) := by decide +kernel
theorem dX11_isPerson_12 : decode cX11_isPerson 12 = .ok (.aload_n 0, 1) := by decide +kernel
theorem dX11_isPerson_13 : decode cX11_isPerson 13 = .ok (.getfield 19, 3) := by decide +kernel
theorem dX11_isPerson_16 : decode cX11_isPerson 16 = .ok (.getfield 85, 3) := by decide +kernel
theorem dX11_isPerson_19 : decode cX11_isPerson 19 = .ok (.if_icmp .ge 7, 3) := by decide +kernel
theorem dX11_isPerson_22 : decode cX11_isPerson 22 = .ok (.iconst 1, 1) := by decide +kernel
theorem dX11_isPerson_23 : decode cX11_isPerson 23 = .ok (.goto 4, 3) := by decide +kernel
theorem dX11_isPerson_26 : decode cX11_isPerson 26 = .ok (.iconst 0, 1) := by decide +kernel
theorem dX11_isPerson_27 : decode cX11_isPerson 27 = .ok (.ireturn, 1) := by decide +kernel
theorem dX11_isLink_0 : decode cX11_isLink 0 = .ok (.aload_n 0, 1) := by decide +kernel
theorem dX11_isLink_1 : decode cX11_isLink 1 = .ok (.getfield 77, 3) := by decide +kernel
theorem dX11_isLink_4 : decode cX11_isLink 4 = .ok (.ifCond .eq 22, 3) := by decide +kernel
theorem dX11_isLink_7 : decode cX11_isLink 7 = .ok (.iload_n 1, 1) := by decide +kernel
theorem dX11_isLink_8 : decode cX11_isLink 8 = .ok (.ifCond .lt 18, 3) := by decide +kernel
theorem dX11_isLink_11 : decode cX11_isLink 11 = .ok (.iload_n 1, 1) := by decide +kernel
theorem dX11_isLink_12 : decode cX11_isLink 12 = .ok (.aload_n 0, 1) := by decide +kernel
theorem dX11_isLink_13 : decode cX11_isLink 13 = .ok (.getfield 19, 3) := by decide +kernel
theorem dX11_isLink_16 : decode cX11_isLink 16 = .ok (.getfield 88, 3) := by decide +kernel
theorem dX11_isLink_19 : decode cX11_isLink 19 = .ok (.if_icmp .ge 7, 3) := by decide +kernel
theorem dX11_isLink_22 : decode cX11_isLink 22 = .ok (.iconst 1, 1) := by decide +kernel
theorem dX11_isLink_23 : decode cX11_isLink 23 = .ok (.goto 4, 3) := by decide +kernel
theorem dX11_isLink_26 : decode cX11_isLink 26 = .ok (.iconst 0, 1) := by decide +kernel
theorem dX11_isLink_27 : decode cX11_isLink 27 = .ok (.ireturn, 1) := by decide +kernel
theorem dX11_isRing_0 : decode cX11_isRing 0 = .ok (.aload_n 0, 1) := by decide +kernel
theorem dX11_isRing_1 : decode cX11_isRing 1 = .ok (.getfield 77, 3) := by decide +kernel
theorem dX11_isRing_4 : decode cX11_isRing 4 = .ok (.ifCond .eq 22, 3) := by decide +kernel
theorem dX11_isRing_7 : decode cX11_isRing 7 = .ok (.iload_n 1, 1) := by decide +kernel
theorem dX11_isRing_8 : decode cX11_isRing 8 = .ok (.ifCond .lt 18, 3) := by decide +kernel
theorem dX11_isRing_11 : decode cX11_isRing 11 = .ok (.iload_n 1, 1) := by decide +kernel
theorem dX11_isRing_12 : decode cX11_isRing 12 = .ok (.aload_n 0, 1) := by decide +kernel
theorem dX11_isRing_13 : decode cX11_isRing 13 = .ok (.getfield 19, 3) := by decide +kernel
theorem dX11_isRing_16 : decode cX11_isRing 16 = .ok (.getfield 91, 3) := by decide +kernel
theorem dX11_isRing_19 : decode cX11_isRing 19 = .ok (.if_icmp .ge 7, 3) := by decide +kernel
theorem dX11_isRing_22 : decode cX11_isRing 22 = .ok (.iconst 1, 1) := by decide +kernel
theorem dX11_isRing_23 : decode cX11_isRing 23 = .ok (.goto 4, 3) := by decide +kernel
theorem dX11_isRing_26 : decode cX11_isRing 26 = .ok (.iconst 0, 1) := by decide +kernel
theorem dX11_isRing_27 : decode cX11_isRing 27 = .ok (.ireturn, 1) := by decide +kernel
theorem dX11_isCrossing_0 : decode cX11_isCrossing 0 = .ok (.aload_n 0, 1) := by decide +kernel
theorem dX11_isCrossing_1 : decode cX11_isCrossing 1 = .ok (.getfield 77, 3) := by decide +kernel
theorem dX11_isCrossing_4 : decode cX11_isCrossing 4 = .ok (.ifCond .eq 22, 3) := by decide +kernel
theorem dX11_isCrossing_7 : decode cX11_isCrossing 7 = .ok (.iload_n 1, 1) := by decide +kernel
theorem dX11_isCrossing_8 : decode cX11_isCrossing 8 = .ok (.ifCond .lt 18, 3) := by decide +kernel
theorem dX11_isCrossing_11 : decode cX11_isCrossing 11 = .ok (.iload_n 1, 1) := by decide +kernel
theorem dX11_isCrossing_12 : decode cX11_isCrossing 12 = .ok (.aload_n 0, 1) := by decide +kernel
theorem dX11_isCrossing_13 : decode cX11_isCrossing 13 = .ok (.getfield 19, 3) := by decide +kernel
theorem dX11_isCrossing_16 : decode cX11_isCrossing 16 = .ok (.getfield 94, 3) := by decide +kernel
theorem dX11_isCrossing_19 : decode cX11_isCrossing 19 = .ok (.if_icmp .ge 7, 3) := by decide +kernel
theorem dX11_isCrossing_22 : decode cX11_isCrossing 22 = .ok (.iconst 1, 1) := by decide +kernel
theorem dX11_isCrossing_23 : decode cX11_isCrossing 23 = .ok (.goto 4, 3) := by decide +kernel
theorem dX11_isCrossing_26 : decode cX11_isCrossing 26 = .ok (.iconst 0, 1) := by decide +kernel
theorem dX11_isCrossing_27 : decode cX11_isCrossing 27 = .ok (.ireturn, 1) := by decide +kernel
theorem dX11_isStanding_0 : decode cX11_isStanding 0 = .ok (.aload_n 0, 1) := by decide +kernel
theorem dX11_isStanding_1 : decode cX11_isStanding 1 = .ok (.getfield 77, 3) := by decide +kernel
theorem dX11_isStanding_4 : decode cX11_isStanding 4 = .ok (.ifCond .eq 22, 3) := by decide +kernel
theorem dX11_isStanding_7 : decode cX11_isStanding 7 = .ok (.iload_n 1, 1) := by decide +kernel
theorem dX11_isStanding_8 : decode cX11_isStanding 8 = .ok (.ifCond .lt 18, 3) := by decide +kernel
theorem dX11_isStanding_11 : decode cX11_isStanding 11 = .ok (.iload_n 1, 1) := by decide +kernel
theorem dX11_isStanding_12 : decode cX11_isStanding 12 = .ok (.aload_n 0, 1) := by decide +kernel
theorem dX11_isStanding_13 : decode cX11_isStanding 13 = .ok (.getfield 19, 3) := by decide +kernel
theorem dX11_isStanding_16 : decode cX11_isStanding 16 = .ok (.getfield 97, 3) := by decide +kernel
theorem dX11_isStanding_19 : decode cX11_isStanding 19 = .ok (.if_icmp .ge 7, 3) := by decide +kernel
theorem dX11_isStanding_22 : decode cX11_isStanding 22 = .ok (.iconst 1, 1) := by decide +kernel
theorem dX11_isStanding_23 : decode cX11_isStanding 23 = .ok (.goto 4, 3) := by decide +kernel
theorem dX11_isStanding_26 : decode cX11_isStanding 26 = .ok (.iconst 0, 1) := by decide +kernel
theorem dX11_isStanding_27 : decode cX11_isStanding 27 = .ok (.ireturn, 1) := by decide +kernel
theorem dX11_isMove_0 : decode cX11_isMove 0 = .ok (.aload_n 0, 1) := by decide +kernel
theorem dX11_isMove_1 : decode cX11_isMove 1 = .ok (.getfield 77, 3) := by decide +kernel
theorem dX11_isMove_4 : decode cX11_isMove 4 = .ok (.ifCond .eq 21, 3) := by decide +kernel
theorem dX11_isMove_7 : decode cX11_isMove 7 = .ok (.iload_n 1, 1) := by decide +kernel
theorem dX11_isMove_8 : decode cX11_isMove 8 = .ok (.aload_n 0, 1) := by decide +kernel
theorem dX11_isMove_9 : decode cX11_isMove 9 = .ok (.getfield 19, 3) := by decide +kernel
theorem dX11_isMove_12 : decode cX11_isMove 12 = .ok (.getfield 94, 3) := by decide +kernel
theorem dX11_isMove_15 : decode cX11_isMove 15 = .ok (.invokestatic 100, 3) := by decide +kernel
theorem dX11_isMove_18 : decode cX11_isMove 18 = .ok (.ifCond .eq 7, 3) := by decide +kernel
theorem dX11_isMove_21 : decode cX11_isMove 21 = .ok (.iconst 1, 1) := by decide +kernel
theorem dX11_isMove_22 : decode cX11_isMove 22 = .ok (.goto 4, 3) := by decide +kernel
theorem dX11_isMove_25 : decode cX11_isMove 25 = .ok (.iconst 0, 1) := by decide +kernel
theorem dX11_isMove_26 : decode cX11_isMove 26 = .ok (.ireturn, 1) := by decide +kernel
theorem dX11_isDepth_0 : decode cX11_isDepth 0 = .ok (.iload_n 0, 1) := by decide +kernel
theorem dX11_isDepth_1 : decode cX11_isDepth 1 = .ok (.ifCond .lt 13, 3) := by decide +kernel
theorem dX11_isDepth_4 : decode cX11_isDepth 4 = .ok (.iload_n 0, 1) := by decide +kernel
theorem dX11_isDepth_5 : decode cX11_isDepth 5 = .ok (.bipush 8, 2) := by decide +kernel
theorem dX11_isDepth_7 : decode cX11_isDepth 7 = .ok (.if_icmp .gt 7, 3) := by decide +kernel
theorem dX11_isDepth_10 : decode cX11_isDepth 10 = .ok (.iconst 1, 1) := by decide +kernel
theorem dX11_isDepth_11 : decode cX11_isDepth 11 = .ok (.goto 4, 3) := by decide +kernel
theorem dX11_isDepth_14 : decode cX11_isDepth 14 = .ok (.iconst 0, 1) := by decide +kernel
theorem dX11_isDepth_15 : decode cX11_isDepth 15 = .ok (.ireturn, 1) := by decide +kernel
theorem dX11_isSeed_0 : decode cX11_isSeed 0 = .ok (.iload_n 0, 1) := by decide +kernel
theorem dX11_isSeed_1 : decode cX11_isSeed 1 = .ok (.ifCond .lt 13, 3) := by decide +kernel
theorem dX11_isSeed_4 : decode cX11_isSeed 4 = .ok (.iload_n 0, 1) := by decide +kernel
theorem dX11_isSeed_5 : decode cX11_isSeed 5 = .ok (.ldc 104, 2) := by decide +kernel
theorem dX11_isSeed_7 : decode cX11_isSeed 7 = .ok (.if_icmp .ge 7, 3) := by decide +kernel
theorem dX11_isSeed_10 : decode cX11_isSeed 10 = .ok (.iconst 1, 1) := by decide +kernel
theorem dX11_isSeed_11 : decode cX11_isSeed 11 = .ok (.goto 4, 3) := by decide +kernel
theorem dX11_isSeed_14 : decode cX11_isSeed 14 = .ok (.iconst 0, 1) := by decide +kernel
theorem dX11_isSeed_15 : decode cX11_isSeed 15 = .ok (.ireturn, 1) := by decide +kernel
theorem dX11_feed_0 : decode cX11_feed 0 = .ok (.aload_n 0, 1) := by decide +kernel
theorem dX11_feed_1 : decode cX11_feed 1 = .ok (.getfield 10, 3) := by decide +kernel
theorem dX11_feed_4 : decode cX11_feed 4 = .ok (.getfield 105, 3) := by decide +kernel
theorem dX11_feed_7 : decode cX11_feed 7 = .ok (.invokevirtual 109, 3) := by decide +kernel
theorem dX11_feed_10 : decode cX11_feed 10 = .ok (.ifCond .ne 5, 3) := by decide +kernel
theorem dX11_feed_13 : decode cX11_feed 13 = .ok (.iconst (-1), 1) := by decide +kernel
theorem dX11_feed_14 : decode cX11_feed 14 = .ok (.ireturn, 1) := by decide +kernel
theorem dX11_feed_15 : decode cX11_feed 15 = .ok (.aload_n 0, 1) := by decide +kernel
theorem dX11_feed_16 : decode cX11_feed 16 = .ok (.getfield 10, 3) := by decide +kernel
theorem dX11_feed_19 : decode cX11_feed 19 = .ok (.getfield 105, 3) := by decide +kernel
theorem dX11_feed_22 : decode cX11_feed 22 = .ok (.iload_n 1, 1) := by decide +kernel
theorem dX11_feed_23 : decode cX11_feed 23 = .ok (.invokevirtual 115, 3) := by decide +kernel
theorem dX11_feed_26 : decode cX11_feed 26 = .ok (.aload_n 0, 1) := by decide +kernel
theorem dX11_feed_27 : decode cX11_feed 27 = .ok (.getfield 10, 3) := by decide +kernel
theorem dX11_feed_30 : decode cX11_feed 30 = .ok (.getfield 105, 3) := by decide +kernel
theorem dX11_feed_33 : decode cX11_feed 33 = .ok (.iload_n 2, 1) := by decide +kernel
theorem dX11_feed_34 : decode cX11_feed 34 = .ok (.invokevirtual 115, 3) := by decide +kernel
theorem dX11_feed_37 : decode cX11_feed 37 = .ok (.aload_n 0, 1) := by decide +kernel
theorem dX11_feed_38 : decode cX11_feed 38 = .ok (.getfield 10, 3) := by decide +kernel
theorem dX11_feed_41 : decode cX11_feed 41 = .ok (.getfield 105, 3) := by decide +kernel
theorem dX11_feed_44 : decode cX11_feed 44 = .ok (.iload_n 3, 1) := by decide +kernel
theorem dX11_feed_45 : decode cX11_feed 45 = .ok (.invokevirtual 115, 3) := by decide +kernel
theorem dX11_feed_48 : decode cX11_feed 48 = .ok (.aload_n 0, 1) := by decide +kernel
theorem dX11_feed_49 : decode cX11_feed 49 = .ok (.getfield 10, 3) := by decide +kernel
theorem dX11_feed_52 : decode cX11_feed 52 = .ok (.getfield 105, 3) := by decide +kernel
theorem dX11_feed_55 : decode cX11_feed 55 = .ok (.iload 4, 2) := by decide +kernel
theorem dX11_feed_57 : decode cX11_feed 57 = .ok (.invokevirtual 115, 3) := by decide +kernel
theorem dX11_feed_60 : decode cX11_feed 60 = .ok (.aload_n 0, 1) := by decide +kernel
theorem dX11_feed_61 : decode cX11_feed 61 = .ok (.getfield 10, 3) := by decide +kernel
theorem dX11_feed_64 : decode cX11_feed 64 = .ok (.getfield 105, 3) := by decide +kernel
theorem dX11_feed_67 : decode cX11_feed 67 = .ok (.iload 5, 2) := by decide +kernel
theorem dX11_feed_69 : decode cX11_feed 69 = .ok (.invokevirtual 115, 3) := by decide +kernel
theorem dX11_feed_72 : decode cX11_feed 72 = .ok (.aload_n 0, 1) := by decide +kernel
theorem dX11_feed_73 : decode cX11_feed 73 = .ok (.getfield 10, 3) := by decide +kernel
theorem dX11_feed_76 : decode cX11_feed 76 = .ok (.getfield 105, 3) := by decide +kernel
theorem dX11_feed_79 : decode cX11_feed 79 = .ok (.getfield 119, 3) := by decide +kernel
theorem dX11_feed_82 : decode cX11_feed 82 = .ok (.ireturn, 1) := by decide +kernel
theorem dX11_tangle_0 : decode cX11_tangle 0 = .ok (.iload_n 1, 1) := by decide +kernel
theorem dX11_tangle_1 : decode cX11_tangle 1 = .ok (.ifCond .lt 17, 3) := by decide +kernel
theorem dX11_tangle_4 : decode cX11_tangle 4 = .ok (.iload_n 1, 1) := by decide +kernel
theorem dX11_tangle_5 : decode cX11_tangle 5 = .ok (.aload_n 0, 1) := by decide +kernel
theorem dX11_tangle_6 : decode cX11_tangle 6 = .ok (.getfield 10, 3) := by decide +kernel
theorem dX11_tangle_9 : decode cX11_tangle 9 = .ok (.getfield 105, 3) := by decide +kernel
theorem dX11_tangle_12 : decode cX11_tangle 12 = .ok (.getfield 119, 3) := by decide +kernel
theorem dX11_tangle_15 : decode cX11_tangle 15 = .ok (.if_icmp .le 9, 3) := by decide +kernel
theorem dX11_tangle_18 : decode cX11_tangle 18 = .ok (.aload_n 0, 1) := by decide +kernel
theorem dX11_tangle_19 : decode cX11_tangle 19 = .ok (.iconst 2, 1) := by decide +kernel
theorem dX11_tangle_20 : decode cX11_tangle 20 = .ok (.invokevirtual 122, 3) := by decide +kernel
theorem dX11_tangle_23 : decode cX11_tangle 23 = .ok (.ireturn, 1) := by decide +kernel
theorem dX11_tangle_24 : decode cX11_tangle 24 = .ok (.aload_n 0, 1) := by decide +kernel
theorem dX11_tangle_25 : decode cX11_tangle 25 = .ok (.getfield 10, 3) := by decide +kernel
theorem dX11_tangle_28 : decode cX11_tangle 28 = .ok (.iload_n 1, 1) := by decide +kernel
theorem dX11_tangle_29 : decode cX11_tangle 29 = .ok (.invokevirtual 126, 3) := by decide +kernel
theorem dX11_tangle_32 : decode cX11_tangle 32 = .ok (.ifCond .ne 9, 3) := by decide +kernel
theorem dX11_tangle_35 : decode cX11_tangle 35 = .ok (.aload_n 0, 1) := by decide +kernel
theorem dX11_tangle_36 : decode cX11_tangle 36 = .ok (.iconst 4, 1) := by decide +kernel
theorem dX11_tangle_37 : decode cX11_tangle 37 = .ok (.invokevirtual 122, 3) := by decide +kernel
theorem dX11_tangle_40 : decode cX11_tangle 40 = .ok (.ireturn, 1) := by decide +kernel
theorem dX11_tangle_41 : decode cX11_tangle 41 = .ok (.aload_n 0, 1) := by decide +kernel
theorem dX11_tangle_42 : decode cX11_tangle 42 = .ok (.getfield 19, 3) := by decide +kernel
theorem dX11_tangle_45 : decode cX11_tangle 45 = .ok (.aload_n 0, 1) := by decide +kernel
theorem dX11_tangle_46 : decode cX11_tangle 46 = .ok (.getfield 10, 3) := by decide +kernel
theorem dX11_tangle_49 : decode cX11_tangle 49 = .ok (.getfield 130, 3) := by decide +kernel
theorem dX11_tangle_52 : decode cX11_tangle 52 = .ok (.invokevirtual 134, 3) := by decide +kernel
theorem dX11_tangle_55 : decode cX11_tangle 55 = .ok (.aload_n 0, 1) := by decide +kernel
theorem dX11_tangle_56 : decode cX11_tangle 56 = .ok (.iconst 1, 1) := by decide +kernel
theorem dX11_tangle_57 : decode cX11_tangle 57 = .ok (.putfield 77, 3) := by decide +kernel
theorem dX11_tangle_60 : decode cX11_tangle 60 = .ok (.aload_n 0, 1) := by decide +kernel
theorem dX11_tangle_61 : decode cX11_tangle 61 = .ok (.getfield 36, 3) := by decide +kernel
theorem dX11_tangle_64 : decode cX11_tangle 64 = .ok (.invokevirtual 138, 3) := by decide +kernel
theorem dX11_tangle_67 : decode cX11_tangle 67 = .ok (.aload_n 0, 1) := by decide +kernel
theorem dX11_tangle_68 : decode cX11_tangle 68 = .ok (.getfield 26, 3) := by decide +kernel
theorem dX11_tangle_71 : decode cX11_tangle 71 = .ok (.aload_n 0, 1) := by decide +kernel
theorem dX11_tangle_72 : decode cX11_tangle 72 = .ok (.getfield 19, 3) := by decide +kernel
theorem dX11_tangle_75 : decode cX11_tangle 75 = .ok (.getfield 141, 3) := by decide +kernel
theorem dX11_tangle_78 : decode cX11_tangle 78 = .ok (.aload_n 0, 1) := by decide +kernel
theorem dX11_tangle_79 : decode cX11_tangle 79 = .ok (.getfield 19, 3) := by decide +kernel
theorem dX11_tangle_82 : decode cX11_tangle 82 = .ok (.getfield 145, 3) := by decide +kernel
theorem dX11_tangle_85 : decode cX11_tangle 85 = .ok (.invokevirtual 148, 3) := by decide +kernel
theorem dX11_tangle_88 : decode cX11_tangle 88 = .ok (.aload_n 0, 1) := by decide +kernel
theorem dX11_tangle_89 : decode cX11_tangle 89 = .ok (.getfield 45, 3) := by decide +kernel
theorem dX11_tangle_92 : decode cX11_tangle 92 = .ok (.aload_n 0, 1) := by decide +kernel
theorem dX11_tangle_93 : decode cX11_tangle 93 = .ok (.getfield 26, 3) := by decide +kernel
theorem dX11_tangle_96 : decode cX11_tangle 96 = .ok (.invokevirtual 152, 3) := by decide +kernel
theorem dX11_tangle_99 : decode cX11_tangle 99 = .ok (.aload_n 0, 1) := by decide +kernel
theorem dX11_tangle_100 : decode cX11_tangle 100 = .ok (.aload_n 0, 1) := by decide +kernel
theorem dX11_tangle_101 : decode cX11_tangle 101 = .ok (.getfield 19, 3) := by decide +kernel
theorem dX11_tangle_104 : decode cX11_tangle 104 = .ok (.getfield 91, 3) := by decide +kernel
theorem dX11_tangle_107 : decode cX11_tangle 107 = .ok (.invokevirtual 156, 3) := by decide +kernel
theorem dX11_tangle_110 : decode cX11_tangle 110 = .ok (.ireturn, 1) := by decide +kernel
theorem dX11_fault_0 : decode cX11_fault 0 = .ok (.aload_n 0, 1) := by decide +kernel
theorem dX11_fault_1 : decode cX11_fault 1 = .ok (.getfield 10, 3) := by decide +kernel
theorem dX11_fault_4 : decode cX11_fault 4 = .ok (.getfield 159, 3) := by decide +kernel
theorem dX11_fault_7 : decode cX11_fault 7 = .ok (.ireturn, 1) := by decide +kernel
theorem dX11_where_0 : decode cX11_where 0 = .ok (.aload_n 0, 1) := by decide +kernel
theorem dX11_where_1 : decode cX11_where 1 = .ok (.getfield 81, 3) := by decide +kernel
theorem dX11_where_4 : decode cX11_where 4 = .ok (.iconst 4, 1) := by decide +kernel
theorem dX11_where_5 : decode cX11_where 5 = .ok (.if_icmp .ne 13, 3) := by decide +kernel
theorem dX11_where_8 : decode cX11_where 8 = .ok (.aload_n 0, 1) := by decide +kernel
theorem dX11_where_9 : decode cX11_where 9 = .ok (.getfield 10, 3) := by decide +kernel
theorem dX11_where_12 : decode cX11_where 12 = .ok (.getfield 162, 3) := by decide +kernel
theorem dX11_where_15 : decode cX11_where 15 = .ok (.goto 4, 3) := by decide +kernel
theorem dX11_where_18 : decode cX11_where 18 = .ok (.iconst (-1), 1) := by decide +kernel
theorem dX11_where_19 : decode cX11_where 19 = .ok (.ireturn, 1) := by decide +kernel
theorem dX11_ring_0 : decode cX11_ring 0 = .ok (.aload_n 0, 1) := by decide +kernel
theorem dX11_ring_1 : decode cX11_ring 1 = .ok (.iload_n 1, 1) := by decide +kernel
theorem dX11_ring_2 : decode cX11_ring 2 = .ok (.invokevirtual 165, 3) := by decide +kernel
theorem dX11_ring_5 : decode cX11_ring 5 = .ok (.ifCond .eq 18, 3) := by decide +kernel
theorem dX11_ring_8 : decode cX11_ring 8 = .ok (.aload_n 0, 1) := by decide +kernel
theorem dX11_ring_9 : decode cX11_ring 9 = .ok (.aload_n 0, 1) := by decide +kernel
theorem dX11_ring_10 : decode cX11_ring 10 = .ok (.getfield 19, 3) := by decide +kernel
theorem dX11_ring_13 : decode cX11_ring 13 = .ok (.iload_n 1, 1) := by decide +kernel
theorem dX11_ring_14 : decode cX11_ring 14 = .ok (.invokevirtual 168, 3) := by decide +kernel
theorem dX11_ring_17 : decode cX11_ring 17 = .ok (.invokevirtual 156, 3) := by decide +kernel
theorem dX11_ring_20 : decode cX11_ring 20 = .ok (.goto 8, 3) := by decide +kernel
theorem dX11_ring_23 : decode cX11_ring 23 = .ok (.aload_n 0, 1) := by decide +kernel
theorem dX11_ring_24 : decode cX11_ring 24 = .ok (.iconst 1, 1) := by decide +kernel
theorem dX11_ring_25 : decode cX11_ring 25 = .ok (.invokevirtual 122, 3) := by decide +kernel
theorem dX11_ring_28 : decode cX11_ring 28 = .ok (.ireturn, 1) := by decide +kernel
theorem dX11_people_0 : decode cX11_people 0 = .ok (.aload_n 0, 1) := by decide +kernel
theorem dX11_people_1 : decode cX11_people 1 = .ok (.iload_n 1, 1) := by decide +kernel
theorem dX11_people_2 : decode cX11_people 2 = .ok (.invokevirtual 171, 3) := by decide +kernel
theorem dX11_people_5 : decode cX11_people 5 = .ok (.ifCond .eq 18, 3) := by decide +kernel
theorem dX11_people_8 : decode cX11_people 8 = .ok (.aload_n 0, 1) := by decide +kernel
theorem dX11_people_9 : decode cX11_people 9 = .ok (.aload_n 0, 1) := by decide +kernel
theorem dX11_people_10 : decode cX11_people 10 = .ok (.getfield 19, 3) := by decide +kernel
theorem dX11_people_13 : decode cX11_people 13 = .ok (.iload_n 1, 1) := by decide +kernel
theorem dX11_people_14 : decode cX11_people 14 = .ok (.invokevirtual 174, 3) := by decide +kernel
theorem dX11_people_17 : decode cX11_people 17 = .ok (.invokevirtual 156, 3) := by decide +kernel
theorem dX11_people_20 : decode cX11_people 20 = .ok (.goto 8, 3) := by decide +kernel
theorem dX11_people_23 : decode cX11_people 23 = .ok (.aload_n 0, 1) := by decide +kernel
theorem dX11_people_24 : decode cX11_people 24 = .ok (.iconst 1, 1) := by decide +kernel
theorem dX11_people_25 : decode cX11_people 25 = .ok (.invokevirtual 122, 3) := by decide +kernel
theorem dX11_people_28 : decode cX11_people 28 = .ok (.ireturn, 1) := by decide +kernel
theorem dX11_member_0 : decode cX11_member 0 = .ok (.aload_n 0, 1) := by decide +kernel
theorem dX11_member_1 : decode cX11_member 1 = .ok (.iload_n 1, 1) := by decide +kernel
theorem dX11_member_2 : decode cX11_member 2 = .ok (.invokevirtual 171, 3) := by decide +kernel
theorem dX11_member_5 : decode cX11_member 5 = .ok (.ifCond .eq 19, 3) := by decide +kernel
theorem dX11_member_8 : decode cX11_member 8 = .ok (.iload_n 2, 1) := by decide +kernel
theorem dX11_member_9 : decode cX11_member 9 = .ok (.ifCond .lt 15, 3) := by decide +kernel
theorem dX11_member_12 : decode cX11_member 12 = .ok (.iload_n 2, 1) := by decide +kernel
theorem dX11_member_13 : decode cX11_member 13 = .ok (.aload_n 0, 1) := by decide +kernel
theorem dX11_member_14 : decode cX11_member 14 = .ok (.getfield 19, 3) := by decide +kernel
theorem dX11_member_17 : decode cX11_member 17 = .ok (.iload_n 1, 1) := by decide +kernel
theorem dX11_member_18 : decode cX11_member 18 = .ok (.invokevirtual 174, 3) := by decide +kernel
theorem dX11_member_21 : decode cX11_member 21 = .ok (.if_icmp .lt 9, 3) := by decide +kernel
theorem dX11_member_24 : decode cX11_member 24 = .ok (.aload_n 0, 1) := by decide +kernel
theorem dX11_member_25 : decode cX11_member 25 = .ok (.iconst 1, 1) := by decide +kernel
theorem dX11_member_26 : decode cX11_member 26 = .ok (.invokevirtual 122, 3) := by decide +kernel
theorem dX11_member_29 : decode cX11_member 29 = .ok (.ireturn, 1) := by decide +kernel
theorem dX11_member_30 : decode cX11_member 30 = .ok (.aload_n 0, 1) := by decide +kernel
theorem dX11_member_31 : decode cX11_member 31 = .ok (.aload_n 0, 1) := by decide +kernel
theorem dX11_member_32 : decode cX11_member 32 = .ok (.getfield 19, 3) := by decide +kernel
theorem dX11_member_35 : decode cX11_member 35 = .ok (.getfield 177, 3) := by decide +kernel
theorem dX11_member_38 : decode cX11_member 38 = .ok (.aload_n 0, 1) := by decide +kernel
theorem dX11_member_39 : decode cX11_member 39 = .ok (.getfield 19, 3) := by decide +kernel
theorem dX11_member_42 : decode cX11_member 42 = .ok (.getfield 181, 3) := by decide +kernel
theorem dX11_member_45 : decode cX11_member 45 = .ok (.iload_n 1, 1) := by decide +kernel
theorem dX11_member_46 : decode cX11_member 46 = .ok (.iaload, 1) := by decide +kernel
theorem dX11_member_47 : decode cX11_member 47 = .ok (.iload_n 2, 1) := by decide +kernel
theorem dX11_member_48 : decode cX11_member 48 = .ok (.iadd, 1) := by decide +kernel
theorem dX11_member_49 : decode cX11_member 49 = .ok (.iaload, 1) := by decide +kernel
theorem dX11_member_50 : decode cX11_member 50 = .ok (.invokevirtual 156, 3) := by decide +kernel
theorem dX11_member_53 : decode cX11_member 53 = .ok (.ireturn, 1) := by decide +kernel
theorem dX11_holds_0 : decode cX11_holds 0 = .ok (.aload_n 0, 1) := by decide +kernel
theorem dX11_holds_1 : decode cX11_holds 1 = .ok (.iload_n 1, 1) := by decide +kernel
theorem dX11_holds_2 : decode cX11_holds 2 = .ok (.invokevirtual 165, 3) := by decide +kernel
theorem dX11_holds_5 : decode cX11_holds 5 = .ok (.ifCond .ne 9, 3) := by decide +kernel
theorem dX11_holds_8 : decode cX11_holds 8 = .ok (.aload_n 0, 1) := by decide +kernel
theorem dX11_holds_9 : decode cX11_holds 9 = .ok (.iconst 1, 1) := by decide +kernel
theorem dX11_holds_10 : decode cX11_holds 10 = .ok (.invokevirtual 122, 3) := by decide +kernel
theorem dX11_holds_13 : decode cX11_holds 13 = .ok (.ireturn, 1) := by decide +kernel
theorem dX11_holds_14 : decode cX11_holds 14 = .ok (.aload_n 0, 1) := by decide +kernel
theorem dX11_holds_15 : decode cX11_holds 15 = .ok (.aload_n 0, 1) := by decide +kernel
theorem dX11_holds_16 : decode cX11_holds 16 = .ok (.getfield 19, 3) := by decide +kernel
theorem dX11_holds_19 : decode cX11_holds 19 = .ok (.getfield 184, 3) := by decide +kernel
theorem dX11_holds_22 : decode cX11_holds 22 = .ok (.iconst 2, 1) := by decide +kernel
theorem dX11_holds_23 : decode cX11_holds 23 = .ok (.iload_n 1, 1) := by decide +kernel
theorem dX11_holds_24 : decode cX11_holds 24 = .ok (.imul, 1) := by decide +kernel
theorem dX11_holds_25 : decode cX11_holds 25 = .ok (.iload_n 2, 1) := by decide +kernel
theorem dX11_holds_26 : decode cX11_holds 26 = .ok (.ifCond .eq 7, 3) := by decide +kernel
theorem dX11_holds_29 : decode cX11_holds 29 = .ok (.iconst 1, 1) := by decide +kernel
theorem dX11_holds_30 : decode cX11_holds 30 = .ok (.goto 4, 3) := by decide +kernel
theorem dX11_holds_33 : decode cX11_holds 33 = .ok (.iconst 0, 1) := by decide +kernel
theorem dX11_holds_34 : decode cX11_holds 34 = .ok (.iadd, 1) := by decide +kernel
theorem dX11_holds_35 : decode cX11_holds 35 = .ok (.iaload, 1) := by decide +kernel
theorem dX11_holds_36 : decode cX11_holds 36 = .ok (.invokevirtual 156, 3) := by decide +kernel
theorem dX11_holds_39 : decode cX11_holds 39 = .ok (.ireturn, 1) := by decide +kernel
theorem dX11_along_0 : decode cX11_along 0 = .ok (.aload_n 0, 1) := by decide +kernel
theorem dX11_along_1 : decode cX11_along 1 = .ok (.iload_n 1, 1) := by decide +kernel
theorem dX11_along_2 : decode cX11_along 2 = .ok (.invokevirtual 187, 3) := by decide +kernel
theorem dX11_along_5 : decode cX11_along 5 = .ok (.ifCond .eq 19, 3) := by decide +kernel
theorem dX11_along_8 : decode cX11_along 8 = .ok (.aload_n 0, 1) := by decide +kernel
theorem dX11_along_9 : decode cX11_along 9 = .ok (.aload_n 0, 1) := by decide +kernel
theorem dX11_along_10 : decode cX11_along 10 = .ok (.getfield 19, 3) := by decide +kernel
theorem dX11_along_13 : decode cX11_along 13 = .ok (.getfield 190, 3) := by decide +kernel
theorem dX11_along_16 : decode cX11_along 16 = .ok (.iload_n 1, 1) := by decide +kernel
theorem dX11_along_17 : decode cX11_along 17 = .ok (.iaload, 1) := by decide +kernel
theorem dX11_along_18 : decode cX11_along 18 = .ok (.invokevirtual 156, 3) := by decide +kernel
theorem dX11_along_21 : decode cX11_along 21 = .ok (.goto 8, 3) := by decide +kernel
theorem dX11_along_24 : decode cX11_along 24 = .ok (.aload_n 0, 1) := by decide +kernel
theorem dX11_along_25 : decode cX11_along 25 = .ok (.iconst 1, 1) := by decide +kernel
theorem dX11_along_26 : decode cX11_along 26 = .ok (.invokevirtual 122, 3) := by decide +kernel
theorem dX11_along_29 : decode cX11_along 29 = .ok (.ireturn, 1) := by decide +kernel
theorem dX11_stands_0 : decode cX11_stands 0 = .ok (.aload_n 0, 1) := by decide +kernel
theorem dX11_stands_1 : decode cX11_stands 1 = .ok (.iload_n 1, 1) := by decide +kernel
theorem dX11_stands_2 : decode cX11_stands 2 = .ok (.invokevirtual 193, 3) := by decide +kernel
theorem dX11_stands_5 : decode cX11_stands 5 = .ok (.ifCond .ne 9, 3) := by decide +kernel
theorem dX11_stands_8 : decode cX11_stands 8 = .ok (.aload_n 0, 1) := by decide +kernel
theorem dX11_stands_9 : decode cX11_stands 9 = .ok (.iconst 1, 1) := by decide +kernel
theorem dX11_stands_10 : decode cX11_stands 10 = .ok (.invokevirtual 122, 3) := by decide +kernel
theorem dX11_stands_13 : decode cX11_stands 13 = .ok (.ireturn, 1) := by decide +kernel
theorem dX11_stands_14 : decode cX11_stands 14 = .ok (.aload_n 0, 1) := by decide +kernel
theorem dX11_stands_15 : decode cX11_stands 15 = .ok (.getfield 26, 3) := by decide +kernel
theorem dX11_stands_18 : decode cX11_stands 18 = .ok (.getfield 196, 3) := by decide +kernel
theorem dX11_stands_21 : decode cX11_stands 21 = .ok (.iload_n 1, 1) := by decide +kernel
theorem dX11_stands_22 : decode cX11_stands 22 = .ok (.invokestatic 197, 3) := by decide +kernel
theorem dX11_stands_25 : decode cX11_stands 25 = .ok (.istore_n 2, 1) := by decide +kernel
theorem dX11_stands_26 : decode cX11_stands 26 = .ok (.aload_n 0, 1) := by decide +kernel
theorem dX11_stands_27 : decode cX11_stands 27 = .ok (.iload_n 2, 1) := by decide +kernel
theorem dX11_stands_28 : decode cX11_stands 28 = .ok (.iconst (-1), 1) := by decide +kernel
theorem dX11_stands_29 : decode cX11_stands 29 = .ok (.if_icmp .ne 8, 3) := by decide +kernel
theorem dX11_stands_32 : decode cX11_stands 32 = .ok (.bipush (-2), 2) := by decide +kernel
theorem dX11_stands_34 : decode cX11_stands 34 = .ok (.goto 4, 3) := by decide +kernel
theorem dX11_stands_37 : decode cX11_stands 37 = .ok (.iload_n 2, 1) := by decide +kernel
theorem dX11_stands_38 : decode cX11_stands 38 = .ok (.invokevirtual 156, 3) := by decide +kernel
theorem dX11_stands_41 : decode cX11_stands 41 = .ok (.ireturn, 1) := by decide +kernel
theorem dX11_place_0 : decode cX11_place 0 = .ok (.aload_n 0, 1) := by decide +kernel
theorem dX11_place_1 : decode cX11_place 1 = .ok (.iload_n 1, 1) := by decide +kernel
theorem dX11_place_2 : decode cX11_place 2 = .ok (.invokevirtual 193, 3) := by decide +kernel
theorem dX11_place_5 : decode cX11_place 5 = .ok (.ifCond .eq 12, 3) := by decide +kernel
theorem dX11_place_8 : decode cX11_place 8 = .ok (.iload_n 2, 1) := by decide +kernel
theorem dX11_place_9 : decode cX11_place 9 = .ok (.ifCond .lt 8, 3) := by decide +kernel
theorem dX11_place_12 : decode cX11_place 12 = .ok (.iload_n 2, 1) := by decide +kernel
theorem dX11_place_13 : decode cX11_place 13 = .ok (.iconst 1, 1) := by decide +kernel
theorem dX11_place_14 : decode cX11_place 14 = .ok (.if_icmp .le 9, 3) := by decide +kernel
theorem dX11_place_17 : decode cX11_place 17 = .ok (.aload_n 0, 1) := by decide +kernel
theorem dX11_place_18 : decode cX11_place 18 = .ok (.iconst 1, 1) := by decide +kernel
theorem dX11_place_19 : decode cX11_place 19 = .ok (.invokevirtual 122, 3) := by decide +kernel
theorem dX11_place_22 : decode cX11_place 22 = .ok (.ireturn, 1) := by decide +kernel
theorem dX11_place_23 : decode cX11_place 23 = .ok (.aload_n 0, 1) := by decide +kernel
theorem dX11_place_24 : decode cX11_place 24 = .ok (.getfield 19, 3) := by decide +kernel
theorem dX11_place_27 : decode cX11_place 27 = .ok (.getfield 201, 3) := by decide +kernel
theorem dX11_place_30 : decode cX11_place 30 = .ok (.iload_n 1, 1) := by decide +kernel
theorem dX11_place_31 : decode cX11_place 31 = .ok (.iaload, 1) := by decide +kernel
theorem dX11_place_32 : decode cX11_place 32 = .ok (.istore_n 3, 1) := by decide +kernel
theorem dX11_place_33 : decode cX11_place 33 = .ok (.aload_n 0, 1) := by decide +kernel
theorem dX11_place_34 : decode cX11_place 34 = .ok (.iload_n 2, 1) := by decide +kernel
theorem dX11_place_35 : decode cX11_place 35 = .ok (.ifCond .ne 15, 3) := by decide +kernel
theorem dX11_place_38 : decode cX11_place 38 = .ok (.aload_n 0, 1) := by decide +kernel
theorem dX11_place_39 : decode cX11_place 39 = .ok (.getfield 19, 3) := by decide +kernel
theorem dX11_place_42 : decode cX11_place 42 = .ok (.getfield 204, 3) := by decide +kernel
theorem dX11_place_45 : decode cX11_place 45 = .ok (.iload_n 3, 1) := by decide +kernel
theorem dX11_place_46 : decode cX11_place 46 = .ok (.iaload, 1) := by decide +kernel
theorem dX11_place_47 : decode cX11_place 47 = .ok (.goto 4, 3) := by decide +kernel
theorem dX11_place_50 : decode cX11_place 50 = .ok (.iload_n 3, 1) := by decide +kernel
theorem dX11_place_51 : decode cX11_place 51 = .ok (.invokevirtual 156, 3) := by decide +kernel
theorem dX11_place_54 : decode cX11_place 54 = .ok (.ireturn, 1) := by decide +kernel
theorem dX11_sign_0 : decode cX11_sign 0 = .ok (.aload_n 0, 1) := by decide +kernel
theorem dX11_sign_1 : decode cX11_sign 1 = .ok (.iload_n 1, 1) := by decide +kernel
theorem dX11_sign_2 : decode cX11_sign 2 = .ok (.invokevirtual 207, 3) := by decide +kernel
theorem dX11_sign_5 : decode cX11_sign 5 = .ok (.ifCond .eq 18, 3) := by decide +kernel
theorem dX11_sign_8 : decode cX11_sign 8 = .ok (.aload_n 0, 1) := by decide +kernel
theorem dX11_sign_9 : decode cX11_sign 9 = .ok (.aload_n 0, 1) := by decide +kernel
theorem dX11_sign_10 : decode cX11_sign 10 = .ok (.getfield 45, 3) := by decide +kernel
theorem dX11_sign_13 : decode cX11_sign 13 = .ok (.iload_n 1, 1) := by decide +kernel
theorem dX11_sign_14 : decode cX11_sign 14 = .ok (.invokevirtual 210, 3) := by decide +kernel
theorem dX11_sign_17 : decode cX11_sign 17 = .ok (.invokevirtual 156, 3) := by decide +kernel
theorem dX11_sign_20 : decode cX11_sign 20 = .ok (.goto 8, 3) := by decide +kernel
theorem dX11_sign_23 : decode cX11_sign 23 = .ok (.aload_n 0, 1) := by decide +kernel
theorem dX11_sign_24 : decode cX11_sign 24 = .ok (.iconst 1, 1) := by decide +kernel
theorem dX11_sign_25 : decode cX11_sign 25 = .ok (.invokevirtual 213, 3) := by decide +kernel
theorem dX11_sign_28 : decode cX11_sign 28 = .ok (.ireturn, 1) := by decide +kernel
theorem dX11_left_0 : decode cX11_left 0 = .ok (.aload_n 0, 1) := by decide +kernel
theorem dX11_left_1 : decode cX11_left 1 = .ok (.getfield 77, 3) := by decide +kernel
theorem dX11_left_4 : decode cX11_left 4 = .ok (.ifCond .eq 17, 3) := by decide +kernel
theorem dX11_left_7 : decode cX11_left 7 = .ok (.aload_n 0, 1) := by decide +kernel
theorem dX11_left_8 : decode cX11_left 8 = .ok (.aload_n 0, 1) := by decide +kernel
theorem dX11_left_9 : decode cX11_left 9 = .ok (.getfield 45, 3) := by decide +kernel
theorem dX11_left_12 : decode cX11_left 12 = .ok (.getfield 216, 3) := by decide +kernel
theorem dX11_left_15 : decode cX11_left 15 = .ok (.invokevirtual 156, 3) := by decide +kernel
theorem dX11_left_18 : decode cX11_left 18 = .ok (.goto 8, 3) := by decide +kernel
theorem dX11_left_21 : decode cX11_left 21 = .ok (.aload_n 0, 1) := by decide +kernel
theorem dX11_left_22 : decode cX11_left 22 = .ok (.iconst 1, 1) := by decide +kernel
theorem dX11_left_23 : decode cX11_left 23 = .ok (.invokevirtual 122, 3) := by decide +kernel
theorem dX11_left_26 : decode cX11_left 26 = .ok (.ireturn, 1) := by decide +kernel
theorem dX11_loose_0 : decode cX11_loose 0 = .ok (.aload_n 0, 1) := by decide +kernel
theorem dX11_loose_1 : decode cX11_loose 1 = .ok (.getfield 77, 3) := by decide +kernel
theorem dX11_loose_4 : decode cX11_loose 4 = .ok (.ifCond .eq 25, 3) := by decide +kernel
theorem dX11_loose_7 : decode cX11_loose 7 = .ok (.aload_n 0, 1) := by decide +kernel
theorem dX11_loose_8 : decode cX11_loose 8 = .ok (.aload_n 0, 1) := by decide +kernel
theorem dX11_loose_9 : decode cX11_loose 9 = .ok (.getfield 45, 3) := by decide +kernel
theorem dX11_loose_12 : decode cX11_loose 12 = .ok (.getfield 216, 3) := by decide +kernel
theorem dX11_loose_15 : decode cX11_loose 15 = .ok (.ifCond .ne 7, 3) := by decide +kernel
theorem dX11_loose_18 : decode cX11_loose 18 = .ok (.iconst 1, 1) := by decide +kernel
theorem dX11_loose_19 : decode cX11_loose 19 = .ok (.goto 4, 3) := by decide +kernel
theorem dX11_loose_22 : decode cX11_loose 22 = .ok (.iconst 0, 1) := by decide +kernel
theorem dX11_loose_23 : decode cX11_loose 23 = .ok (.invokevirtual 156, 3) := by decide +kernel
theorem dX11_loose_26 : decode cX11_loose 26 = .ok (.goto 8, 3) := by decide +kernel
theorem dX11_loose_29 : decode cX11_loose 29 = .ok (.aload_n 0, 1) := by decide +kernel
theorem dX11_loose_30 : decode cX11_loose 30 = .ok (.iconst 1, 1) := by decide +kernel
theorem dX11_loose_31 : decode cX11_loose 31 = .ok (.invokevirtual 122, 3) := by decide +kernel
theorem dX11_loose_34 : decode cX11_loose 34 = .ok (.ireturn, 1) := by decide +kernel
theorem dX11_may_0 : decode cX11_may 0 = .ok (.aload_n 0, 1) := by decide +kernel
theorem dX11_may_1 : decode cX11_may 1 = .ok (.iload_n 1, 1) := by decide +kernel
theorem dX11_may_2 : decode cX11_may 2 = .ok (.invokevirtual 219, 3) := by decide +kernel
theorem dX11_may_5 : decode cX11_may 5 = .ok (.ifCond .eq 26, 3) := by decide +kernel
theorem dX11_may_8 : decode cX11_may 8 = .ok (.aload_n 0, 1) := by decide +kernel
theorem dX11_may_9 : decode cX11_may 9 = .ok (.aload_n 0, 1) := by decide +kernel
theorem dX11_may_10 : decode cX11_may 10 = .ok (.getfield 45, 3) := by decide +kernel
theorem dX11_may_13 : decode cX11_may 13 = .ok (.iload_n 1, 1) := by decide +kernel
theorem dX11_may_14 : decode cX11_may 14 = .ok (.invokevirtual 222, 3) := by decide +kernel
theorem dX11_may_17 : decode cX11_may 17 = .ok (.ifCond .eq 7, 3) := by decide +kernel
theorem dX11_may_20 : decode cX11_may 20 = .ok (.iconst 1, 1) := by decide +kernel
theorem dX11_may_21 : decode cX11_may 21 = .ok (.goto 4, 3) := by decide +kernel
theorem dX11_may_24 : decode cX11_may 24 = .ok (.iconst 0, 1) := by decide +kernel
theorem dX11_may_25 : decode cX11_may 25 = .ok (.invokevirtual 156, 3) := by decide +kernel
theorem dX11_may_28 : decode cX11_may 28 = .ok (.goto 8, 3) := by decide +kernel
theorem dX11_may_31 : decode cX11_may 31 = .ok (.aload_n 0, 1) := by decide +kernel
theorem dX11_may_32 : decode cX11_may 32 = .ok (.iconst 1, 1) := by decide +kernel
theorem dX11_may_33 : decode cX11_may 33 = .ok (.invokevirtual 122, 3) := by decide +kernel
theorem dX11_may_36 : decode cX11_may 36 = .ok (.ireturn, 1) := by decide +kernel
theorem dX11_goer_0 : decode cX11_goer 0 = .ok (.aload_n 0, 1) := by decide +kernel
theorem dX11_goer_1 : decode cX11_goer 1 = .ok (.iload_n 1, 1) := by decide +kernel
theorem dX11_goer_2 : decode cX11_goer 2 = .ok (.invokevirtual 219, 3) := by decide +kernel
theorem dX11_goer_5 : decode cX11_goer 5 = .ok (.ifCond .ne 9, 3) := by decide +kernel
theorem dX11_goer_8 : decode cX11_goer 8 = .ok (.aload_n 0, 1) := by decide +kernel
theorem dX11_goer_9 : decode cX11_goer 9 = .ok (.iconst 1, 1) := by decide +kernel
theorem dX11_goer_10 : decode cX11_goer 10 = .ok (.invokevirtual 122, 3) := by decide +kernel
theorem dX11_goer_13 : decode cX11_goer 13 = .ok (.ireturn, 1) := by decide +kernel
theorem dX11_goer_14 : decode cX11_goer 14 = .ok (.aload_n 0, 1) := by decide +kernel
theorem dX11_goer_15 : decode cX11_goer 15 = .ok (.getfield 45, 3) := by decide +kernel
theorem dX11_goer_18 : decode cX11_goer 18 = .ok (.iload_n 1, 1) := by decide +kernel
theorem dX11_goer_19 : decode cX11_goer 19 = .ok (.invokevirtual 225, 3) := by decide +kernel
theorem dX11_goer_22 : decode cX11_goer 22 = .ok (.ifCond .ne 9, 3) := by decide +kernel
theorem dX11_goer_25 : decode cX11_goer 25 = .ok (.aload_n 0, 1) := by decide +kernel
theorem dX11_goer_26 : decode cX11_goer 26 = .ok (.iconst 5, 1) := by decide +kernel
theorem dX11_goer_27 : decode cX11_goer 27 = .ok (.invokevirtual 122, 3) := by decide +kernel
theorem dX11_goer_30 : decode cX11_goer 30 = .ok (.ireturn, 1) := by decide +kernel
theorem dX11_goer_31 : decode cX11_goer 31 = .ok (.aload_n 0, 1) := by decide +kernel
theorem dX11_goer_32 : decode cX11_goer 32 = .ok (.aload_n 0, 1) := by decide +kernel
theorem dX11_goer_33 : decode cX11_goer 33 = .ok (.getfield 45, 3) := by decide +kernel
theorem dX11_goer_36 : decode cX11_goer 36 = .ok (.iload_n 1, 1) := by decide +kernel
theorem dX11_goer_37 : decode cX11_goer 37 = .ok (.invokevirtual 228, 3) := by decide +kernel
theorem dX11_goer_40 : decode cX11_goer 40 = .ok (.invokevirtual 156, 3) := by decide +kernel
theorem dX11_goer_43 : decode cX11_goer 43 = .ok (.ireturn, 1) := by decide +kernel
theorem dX11_moves_0 : decode cX11_moves 0 = .ok (.aload_n 0, 1) := by decide +kernel
theorem dX11_moves_1 : decode cX11_moves 1 = .ok (.getfield 77, 3) := by decide +kernel
theorem dX11_moves_4 : decode cX11_moves 4 = .ok (.ifCond .eq 17, 3) := by decide +kernel
theorem dX11_moves_7 : decode cX11_moves 7 = .ok (.aload_n 0, 1) := by decide +kernel
theorem dX11_moves_8 : decode cX11_moves 8 = .ok (.aload_n 0, 1) := by decide +kernel
theorem dX11_moves_9 : decode cX11_moves 9 = .ok (.getfield 45, 3) := by decide +kernel
theorem dX11_moves_12 : decode cX11_moves 12 = .ok (.getfield 231, 3) := by decide +kernel
theorem dX11_moves_15 : decode cX11_moves 15 = .ok (.invokevirtual 156, 3) := by decide +kernel
theorem dX11_moves_18 : decode cX11_moves 18 = .ok (.goto 8, 3) := by decide +kernel
theorem dX11_moves_21 : decode cX11_moves 21 = .ok (.aload_n 0, 1) := by decide +kernel
theorem dX11_moves_22 : decode cX11_moves 22 = .ok (.iconst 1, 1) := by decide +kernel
theorem dX11_moves_23 : decode cX11_moves 23 = .ok (.invokevirtual 122, 3) := by decide +kernel
theorem dX11_moves_26 : decode cX11_moves 26 = .ok (.ireturn, 1) := by decide +kernel
theorem dX11_moveAt_0 : decode cX11_moveAt 0 = .ok (.aload_n 0, 1) := by decide +kernel
theorem dX11_moveAt_1 : decode cX11_moveAt 1 = .ok (.getfield 77, 3) := by decide +kernel
theorem dX11_moveAt_4 : decode cX11_moveAt 4 = .ok (.ifCond .eq 18, 3) := by decide +kernel
theorem dX11_moveAt_7 : decode cX11_moveAt 7 = .ok (.iload_n 1, 1) := by decide +kernel
theorem dX11_moveAt_8 : decode cX11_moveAt 8 = .ok (.ifCond .lt 14, 3) := by decide +kernel
theorem dX11_moveAt_11 : decode cX11_moveAt 11 = .ok (.iload_n 1, 1) := by decide +kernel
theorem dX11_moveAt_12 : decode cX11_moveAt 12 = .ok (.aload_n 0, 1) := by decide +kernel
theorem dX11_moveAt_13 : decode cX11_moveAt 13 = .ok (.getfield 45, 3) := by decide +kernel
theorem dX11_moveAt_16 : decode cX11_moveAt 16 = .ok (.getfield 231, 3) := by decide +kernel
theorem dX11_moveAt_19 : decode cX11_moveAt 19 = .ok (.if_icmp .lt 9, 3) := by decide +kernel
theorem dX11_moveAt_22 : decode cX11_moveAt 22 = .ok (.aload_n 0, 1) := by decide +kernel
theorem dX11_moveAt_23 : decode cX11_moveAt 23 = .ok (.iconst 1, 1) := by decide +kernel
theorem dX11_moveAt_24 : decode cX11_moveAt 24 = .ok (.invokevirtual 122, 3) := by decide +kernel
theorem dX11_moveAt_27 : decode cX11_moveAt 27 = .ok (.ireturn, 1) := by decide +kernel
theorem dX11_moveAt_28 : decode cX11_moveAt 28 = .ok (.aload_n 0, 1) := by decide +kernel
theorem dX11_moveAt_29 : decode cX11_moveAt 29 = .ok (.aload_n 0, 1) := by decide +kernel
theorem dX11_moveAt_30 : decode cX11_moveAt 30 = .ok (.getfield 45, 3) := by decide +kernel
theorem dX11_moveAt_33 : decode cX11_moveAt 33 = .ok (.getfield 232, 3) := by decide +kernel
theorem dX11_moveAt_36 : decode cX11_moveAt 36 = .ok (.iload_n 1, 1) := by decide +kernel
theorem dX11_moveAt_37 : decode cX11_moveAt 37 = .ok (.iaload, 1) := by decide +kernel
theorem dX11_moveAt_38 : decode cX11_moveAt 38 = .ok (.invokevirtual 156, 3) := by decide +kernel
theorem dX11_moveAt_41 : decode cX11_moveAt 41 = .ok (.ireturn, 1) := by decide +kernel
theorem dX11_fewest_0 : decode cX11_fewest 0 = .ok (.aload_n 0, 1) := by decide +kernel
theorem dX11_fewest_1 : decode cX11_fewest 1 = .ok (.getfield 77, 3) := by decide +kernel
theorem dX11_fewest_4 : decode cX11_fewest 4 = .ok (.ifCond .ne 9, 3) := by decide +kernel
theorem dX11_fewest_7 : decode cX11_fewest 7 = .ok (.aload_n 0, 1) := by decide +kernel
theorem dX11_fewest_8 : decode cX11_fewest 8 = .ok (.iconst 1, 1) := by decide +kernel
theorem dX11_fewest_9 : decode cX11_fewest 9 = .ok (.invokevirtual 122, 3) := by decide +kernel
theorem dX11_fewest_12 : decode cX11_fewest 12 = .ok (.ireturn, 1) := by decide +kernel
theorem dX11_fewest_13 : decode cX11_fewest 13 = .ok (.iload_n 1, 1) := by decide +kernel
theorem dX11_fewest_14 : decode cX11_fewest 14 = .ok (.invokestatic 235, 3) := by decide +kernel
theorem dX11_fewest_17 : decode cX11_fewest 17 = .ok (.ifCond .ne 9, 3) := by decide +kernel
theorem dX11_fewest_20 : decode cX11_fewest 20 = .ok (.aload_n 0, 1) := by decide +kernel
theorem dX11_fewest_21 : decode cX11_fewest 21 = .ok (.iconst 2, 1) := by decide +kernel
theorem dX11_fewest_22 : decode cX11_fewest 22 = .ok (.invokevirtual 122, 3) := by decide +kernel
theorem dX11_fewest_25 : decode cX11_fewest 25 = .ok (.ireturn, 1) := by decide +kernel
theorem dX11_fewest_26 : decode cX11_fewest 26 = .ok (.aload_n 0, 1) := by decide +kernel
theorem dX11_fewest_27 : decode cX11_fewest 27 = .ok (.getfield 52, 3) := by decide +kernel
theorem dX11_fewest_30 : decode cX11_fewest 30 = .ok (.aload_n 0, 1) := by decide +kernel
theorem dX11_fewest_31 : decode cX11_fewest 31 = .ok (.getfield 26, 3) := by decide +kernel
theorem dX11_fewest_34 : decode cX11_fewest 34 = .ok (.iload_n 1, 1) := by decide +kernel
theorem dX11_fewest_35 : decode cX11_fewest 35 = .ok (.iconst 1, 1) := by decide +kernel
theorem dX11_fewest_36 : decode cX11_fewest 36 = .ok (.invokevirtual 238, 3) := by decide +kernel
theorem dX11_fewest_39 : decode cX11_fewest 39 = .ok (.istore_n 2, 1) := by decide +kernel
theorem dX11_fewest_40 : decode cX11_fewest 40 = .ok (.iload_n 2, 1) := by decide +kernel
theorem dX11_fewest_41 : decode cX11_fewest 41 = .ok (.bipush (-3), 2) := by decide +kernel
theorem dX11_fewest_43 : decode cX11_fewest 43 = .ok (.if_icmp .ne 11, 3) := by decide +kernel
theorem dX11_fewest_46 : decode cX11_fewest 46 = .ok (.aload_n 0, 1) := by decide +kernel
theorem dX11_fewest_47 : decode cX11_fewest 47 = .ok (.iconst 3, 1) := by decide +kernel
theorem dX11_fewest_48 : decode cX11_fewest 48 = .ok (.invokevirtual 122, 3) := by decide +kernel
theorem dX11_fewest_51 : decode cX11_fewest 51 = .ok (.goto 8, 3) := by decide +kernel
theorem dX11_fewest_54 : decode cX11_fewest 54 = .ok (.aload_n 0, 1) := by decide +kernel
theorem dX11_fewest_55 : decode cX11_fewest 55 = .ok (.iload_n 2, 1) := by decide +kernel
theorem dX11_fewest_56 : decode cX11_fewest 56 = .ok (.invokevirtual 156, 3) := by decide +kernel
theorem dX11_fewest_59 : decode cX11_fewest 59 = .ok (.ireturn, 1) := by decide +kernel
theorem dX11_next_0 : decode cX11_next 0 = .ok (.aload_n 0, 1) := by decide +kernel
theorem dX11_next_1 : decode cX11_next 1 = .ok (.getfield 77, 3) := by decide +kernel
theorem dX11_next_4 : decode cX11_next 4 = .ok (.ifCond .ne 9, 3) := by decide +kernel
theorem dX11_next_7 : decode cX11_next 7 = .ok (.aload_n 0, 1) := by decide +kernel
theorem dX11_next_8 : decode cX11_next 8 = .ok (.iconst 1, 1) := by decide +kernel
theorem dX11_next_9 : decode cX11_next 9 = .ok (.invokevirtual 122, 3) := by decide +kernel
theorem dX11_next_12 : decode cX11_next 12 = .ok (.ireturn, 1) := by decide +kernel
theorem dX11_next_13 : decode cX11_next 13 = .ok (.iload_n 1, 1) := by decide +kernel
theorem dX11_next_14 : decode cX11_next 14 = .ok (.invokestatic 235, 3) := by decide +kernel
theorem dX11_next_17 : decode cX11_next 17 = .ok (.ifCond .eq 7, 3) := by decide +kernel
theorem dX11_next_20 : decode cX11_next 20 = .ok (.iload_n 1, 1) := by decide +kernel
theorem dX11_next_21 : decode cX11_next 21 = .ok (.ifCond .ne 9, 3) := by decide +kernel
theorem dX11_next_24 : decode cX11_next 24 = .ok (.aload_n 0, 1) := by decide +kernel
theorem dX11_next_25 : decode cX11_next 25 = .ok (.iconst 2, 1) := by decide +kernel
theorem dX11_next_26 : decode cX11_next 26 = .ok (.invokevirtual 122, 3) := by decide +kernel
theorem dX11_next_29 : decode cX11_next 29 = .ok (.ireturn, 1) := by decide +kernel
theorem dX11_next_30 : decode cX11_next 30 = .ok (.aload_n 0, 1) := by decide +kernel
theorem dX11_next_31 : decode cX11_next 31 = .ok (.getfield 52, 3) := by decide +kernel
theorem dX11_next_34 : decode cX11_next 34 = .ok (.aload_n 0, 1) := by decide +kernel
theorem dX11_next_35 : decode cX11_next 35 = .ok (.getfield 26, 3) := by decide +kernel
theorem dX11_next_38 : decode cX11_next 38 = .ok (.iload_n 1, 1) := by decide +kernel
theorem dX11_next_39 : decode cX11_next 39 = .ok (.invokevirtual 242, 3) := by decide +kernel
theorem dX11_next_42 : decode cX11_next 42 = .ok (.istore_n 2, 1) := by decide +kernel
theorem dX11_next_43 : decode cX11_next 43 = .ok (.iload_n 2, 1) := by decide +kernel
theorem dX11_next_44 : decode cX11_next 44 = .ok (.bipush (-3), 2) := by decide +kernel
theorem dX11_next_46 : decode cX11_next 46 = .ok (.if_icmp .ne 11, 3) := by decide +kernel
theorem dX11_next_49 : decode cX11_next 49 = .ok (.aload_n 0, 1) := by decide +kernel
theorem dX11_next_50 : decode cX11_next 50 = .ok (.iconst 3, 1) := by decide +kernel
theorem dX11_next_51 : decode cX11_next 51 = .ok (.invokevirtual 122, 3) := by decide +kernel
theorem dX11_next_54 : decode cX11_next 54 = .ok (.goto 8, 3) := by decide +kernel
theorem dX11_next_57 : decode cX11_next 57 = .ok (.aload_n 0, 1) := by decide +kernel
theorem dX11_next_58 : decode cX11_next 58 = .ok (.iload_n 2, 1) := by decide +kernel
theorem dX11_next_59 : decode cX11_next 59 = .ok (.invokevirtual 156, 3) := by decide +kernel
theorem dX11_next_62 : decode cX11_next 62 = .ok (.ireturn, 1) := by decide +kernel
theorem dX11_caller_0 : decode cX11_caller 0 = .ok (.aload_n 0, 1) := by decide +kernel
theorem dX11_caller_1 : decode cX11_caller 1 = .ok (.getfield 77, 3) := by decide +kernel
theorem dX11_caller_4 : decode cX11_caller 4 = .ok (.ifCond .eq 25, 3) := by decide +kernel
theorem dX11_caller_7 : decode cX11_caller 7 = .ok (.aload_n 0, 1) := by decide +kernel
theorem dX11_caller_8 : decode cX11_caller 8 = .ok (.aload_n 0, 1) := by decide +kernel
theorem dX11_caller_9 : decode cX11_caller 9 = .ok (.getfield 59, 3) := by decide +kernel
theorem dX11_caller_12 : decode cX11_caller 12 = .ok (.aload_n 0, 1) := by decide +kernel
theorem dX11_caller_13 : decode cX11_caller 13 = .ok (.getfield 45, 3) := by decide +kernel
theorem dX11_caller_16 : decode cX11_caller 16 = .ok (.aload_n 0, 1) := by decide +kernel
theorem dX11_caller_17 : decode cX11_caller 17 = .ok (.getfield 26, 3) := by decide +kernel
theorem dX11_caller_20 : decode cX11_caller 20 = .ok (.invokevirtual 246, 3) := by decide +kernel
theorem dX11_caller_23 : decode cX11_caller 23 = .ok (.invokevirtual 156, 3) := by decide +kernel
theorem dX11_caller_26 : decode cX11_caller 26 = .ok (.goto 8, 3) := by decide +kernel
theorem dX11_caller_29 : decode cX11_caller 29 = .ok (.aload_n 0, 1) := by decide +kernel
theorem dX11_caller_30 : decode cX11_caller 30 = .ok (.iconst 1, 1) := by decide +kernel
theorem dX11_caller_31 : decode cX11_caller 31 = .ok (.invokevirtual 122, 3) := by decide +kernel
theorem dX11_caller_34 : decode cX11_caller 34 = .ok (.ireturn, 1) := by decide +kernel
theorem dX11_hang_0 : decode cX11_hang 0 = .ok (.aload_n 0, 1) := by decide +kernel
theorem dX11_hang_1 : decode cX11_hang 1 = .ok (.iload_n 1, 1) := by decide +kernel
theorem dX11_hang_2 : decode cX11_hang 2 = .ok (.invokevirtual 171, 3) := by decide +kernel
theorem dX11_hang_5 : decode cX11_hang 5 = .ok (.ifCond .eq 16, 3) := by decide +kernel
theorem dX11_hang_8 : decode cX11_hang 8 = .ok (.aload_n 0, 1) := by decide +kernel
theorem dX11_hang_9 : decode cX11_hang 9 = .ok (.iload_n 2, 1) := by decide +kernel
theorem dX11_hang_10 : decode cX11_hang 10 = .ok (.invokevirtual 171, 3) := by decide +kernel
theorem dX11_hang_13 : decode cX11_hang 13 = .ok (.ifCond .eq 8, 3) := by decide +kernel
theorem dX11_hang_16 : decode cX11_hang 16 = .ok (.iload_n 1, 1) := by decide +kernel
theorem dX11_hang_17 : decode cX11_hang 17 = .ok (.iload_n 2, 1) := by decide +kernel
theorem dX11_hang_18 : decode cX11_hang 18 = .ok (.if_icmp .ne 9, 3) := by decide +kernel
theorem dX11_hang_21 : decode cX11_hang 21 = .ok (.aload_n 0, 1) := by decide +kernel
theorem dX11_hang_22 : decode cX11_hang 22 = .ok (.iconst 1, 1) := by decide +kernel
theorem dX11_hang_23 : decode cX11_hang 23 = .ok (.invokevirtual 213, 3) := by decide +kernel
theorem dX11_hang_26 : decode cX11_hang 26 = .ok (.ireturn, 1) := by decide +kernel
theorem dX11_hang_27 : decode cX11_hang 27 = .ok (.aload_n 0, 1) := by decide +kernel
theorem dX11_hang_28 : decode cX11_hang 28 = .ok (.aload_n 0, 1) := by decide +kernel
theorem dX11_hang_29 : decode cX11_hang 29 = .ok (.getfield 45, 3) := by decide +kernel
theorem dX11_hang_32 : decode cX11_hang 32 = .ok (.iload_n 1, 1) := by decide +kernel
theorem dX11_hang_33 : decode cX11_hang 33 = .ok (.iload_n 2, 1) := by decide +kernel
theorem dX11_hang_34 : decode cX11_hang 34 = .ok (.invokevirtual 250, 3) := by decide +kernel
theorem dX11_hang_37 : decode cX11_hang 37 = .ok (.invokevirtual 156, 3) := by decide +kernel
theorem dX11_hang_40 : decode cX11_hang 40 = .ok (.ireturn, 1) := by decide +kernel
theorem dX11_colours_0 : decode cX11_colours 0 = .ok (.aload_n 0, 1) := by decide +kernel
theorem dX11_colours_1 : decode cX11_colours 1 = .ok (.getfield 77, 3) := by decide +kernel
theorem dX11_colours_4 : decode cX11_colours 4 = .ok (.ifCond .ne 9, 3) := by decide +kernel
theorem dX11_colours_7 : decode cX11_colours 7 = .ok (.aload_n 0, 1) := by decide +kernel
theorem dX11_colours_8 : decode cX11_colours 8 = .ok (.iconst 1, 1) := by decide +kernel
theorem dX11_colours_9 : decode cX11_colours 9 = .ok (.invokevirtual 122, 3) := by decide +kernel
theorem dX11_colours_12 : decode cX11_colours 12 = .ok (.ireturn, 1) := by decide +kernel
theorem dX11_colours_13 : decode cX11_colours 13 = .ok (.iload_n 1, 1) := by decide +kernel
theorem dX11_colours_14 : decode cX11_colours 14 = .ok (.iconst 3, 1) := by decide +kernel
theorem dX11_colours_15 : decode cX11_colours 15 = .ok (.if_icmp .eq 20, 3) := by decide +kernel
theorem dX11_colours_18 : decode cX11_colours 18 = .ok (.iload_n 1, 1) := by decide +kernel
theorem dX11_colours_19 : decode cX11_colours 19 = .ok (.iconst 5, 1) := by decide +kernel
theorem dX11_colours_20 : decode cX11_colours 20 = .ok (.if_icmp .eq 15, 3) := by decide +kernel
theorem dX11_colours_23 : decode cX11_colours 23 = .ok (.iload_n 1, 1) := by decide +kernel
theorem dX11_colours_24 : decode cX11_colours 24 = .ok (.bipush 7, 2) := by decide +kernel
theorem dX11_colours_26 : decode cX11_colours 26 = .ok (.if_icmp .eq 9, 3) := by decide +kernel
theorem dX11_colours_29 : decode cX11_colours 29 = .ok (.aload_n 0, 1) := by decide +kernel
theorem dX11_colours_30 : decode cX11_colours 30 = .ok (.iconst 2, 1) := by decide +kernel
theorem dX11_colours_31 : decode cX11_colours 31 = .ok (.invokevirtual 122, 3) := by decide +kernel
theorem dX11_colours_34 : decode cX11_colours 34 = .ok (.ireturn, 1) := by decide +kernel
theorem dX11_colours_35 : decode cX11_colours 35 = .ok (.aload_n 0, 1) := by decide +kernel
theorem dX11_colours_36 : decode cX11_colours 36 = .ok (.aload_n 0, 1) := by decide +kernel
theorem dX11_colours_37 : decode cX11_colours 37 = .ok (.getfield 66, 3) := by decide +kernel
theorem dX11_colours_40 : decode cX11_colours 40 = .ok (.aload_n 0, 1) := by decide +kernel
theorem dX11_colours_41 : decode cX11_colours 41 = .ok (.getfield 45, 3) := by decide +kernel
theorem dX11_colours_44 : decode cX11_colours 44 = .ok (.aload_n 0, 1) := by decide +kernel
theorem dX11_colours_45 : decode cX11_colours 45 = .ok (.getfield 19, 3) := by decide +kernel
theorem dX11_colours_48 : decode cX11_colours 48 = .ok (.getfield 91, 3) := by decide +kernel
theorem dX11_colours_51 : decode cX11_colours 51 = .ok (.iload_n 1, 1) := by decide +kernel
theorem dX11_colours_52 : decode cX11_colours 52 = .ok (.invokevirtual 254, 3) := by decide +kernel
theorem dX11_colours_55 : decode cX11_colours 55 = .ok (.invokevirtual 156, 3) := by decide +kernel
theorem dX11_colours_58 : decode cX11_colours 58 = .ok (.ireturn, 1) := by decide +kernel
theorem dX11_cannot_0 : decode cX11_cannot 0 = .ok (.aload_n 0, 1) := by decide +kernel
theorem dX11_cannot_1 : decode cX11_cannot 1 = .ok (.getfield 77, 3) := by decide +kernel
theorem dX11_cannot_4 : decode cX11_cannot 4 = .ok (.ifCond .eq 22, 3) := by decide +kernel
theorem dX11_cannot_7 : decode cX11_cannot 7 = .ok (.aload_n 0, 1) := by decide +kernel
theorem dX11_cannot_8 : decode cX11_cannot 8 = .ok (.aload_n 0, 1) := by decide +kernel
theorem dX11_cannot_9 : decode cX11_cannot 9 = .ok (.invokevirtual 258, 3) := by decide +kernel
theorem dX11_cannot_12 : decode cX11_cannot 12 = .ok (.ifCond .eq 7, 3) := by decide +kernel
theorem dX11_cannot_15 : decode cX11_cannot 15 = .ok (.iconst 1, 1) := by decide +kernel
theorem dX11_cannot_16 : decode cX11_cannot 16 = .ok (.goto 4, 3) := by decide +kernel
theorem dX11_cannot_19 : decode cX11_cannot 19 = .ok (.iconst 0, 1) := by decide +kernel
theorem dX11_cannot_20 : decode cX11_cannot 20 = .ok (.invokevirtual 156, 3) := by decide +kernel
theorem dX11_cannot_23 : decode cX11_cannot 23 = .ok (.goto 8, 3) := by decide +kernel
theorem dX11_cannot_26 : decode cX11_cannot 26 = .ok (.aload_n 0, 1) := by decide +kernel
theorem dX11_cannot_27 : decode cX11_cannot 27 = .ok (.iconst 1, 1) := by decide +kernel
theorem dX11_cannot_28 : decode cX11_cannot 28 = .ok (.invokevirtual 122, 3) := by decide +kernel
theorem dX11_cannot_31 : decode cX11_cannot 31 = .ok (.ireturn, 1) := by decide +kernel
theorem dX11_isProvedTight_0 : decode cX11_isProvedTight 0 = .ok (.iconst 3, 1) := by decide +kernel
theorem dX11_isProvedTight_1 : decode cX11_isProvedTight 1 = .ok (.istore_n 1, 1) := by decide +kernel
theorem dX11_isProvedTight_2 : decode cX11_isProvedTight 2 = .ok (.iload_n 1, 1) := by decide +kernel
theorem dX11_isProvedTight_3 : decode cX11_isProvedTight 3 = .ok (.bipush 7, 2) := by decide +kernel
theorem dX11_isProvedTight_5 : decode cX11_isProvedTight 5 = .ok (.if_icmp .gt 40, 3) := by decide +kernel
theorem dX11_isProvedTight_8 : decode cX11_isProvedTight 8 = .ok (.aload_n 0, 1) := by decide +kernel
theorem dX11_isProvedTight_9 : decode cX11_isProvedTight 9 = .ok (.getfield 66, 3) := by decide +kernel
theorem dX11_isProvedTight_12 : decode cX11_isProvedTight 12 = .ok (.aload_n 0, 1) := by decide +kernel
theorem dX11_isProvedTight_13 : decode cX11_isProvedTight 13 = .ok (.getfield 45, 3) := by decide +kernel
theorem dX11_isProvedTight_16 : decode cX11_isProvedTight 16 = .ok (.aload_n 0, 1) := by decide +kernel
theorem dX11_isProvedTight_17 : decode cX11_isProvedTight 17 = .ok (.getfield 19, 3) := by decide +kernel
theorem dX11_isProvedTight_20 : decode cX11_isProvedTight 20 = .ok (.getfield 91, 3) := by decide +kernel
theorem dX11_isProvedTight_23 : decode cX11_isProvedTight 23 = .ok (.iload_n 1, 1) := by decide +kernel
theorem dX11_isProvedTight_24 : decode cX11_isProvedTight 24 = .ok (.invokevirtual 254, 3) := by decide +kernel
theorem dX11_isProvedTight_27 : decode cX11_isProvedTight 27 = .ok (.aload_n 0, 1) := by decide +kernel
theorem dX11_isProvedTight_28 : decode cX11_isProvedTight 28 = .ok (.getfield 19, 3) := by decide +kernel
theorem dX11_isProvedTight_31 : decode cX11_isProvedTight 31 = .ok (.getfield 91, 3) := by decide +kernel
theorem dX11_isProvedTight_34 : decode cX11_isProvedTight 34 = .ok (.if_icmp .eq 5, 3) := by decide +kernel
theorem dX11_isProvedTight_37 : decode cX11_isProvedTight 37 = .ok (.iconst 1, 1) := by decide +kernel
theorem dX11_isProvedTight_38 : decode cX11_isProvedTight 38 = .ok (.ireturn, 1) := by decide +kernel
theorem dX11_isProvedTight_39 : decode cX11_isProvedTight 39 = .ok (.iinc 1 2, 3) := by decide +kernel
theorem dX11_isProvedTight_42 : decode cX11_isProvedTight 42 = .ok (.goto (-40), 3) := by decide +kernel
theorem dX11_isProvedTight_45 : decode cX11_isProvedTight 45 = .ok (.iconst 0, 1) := by decide +kernel
theorem dX11_isProvedTight_46 : decode cX11_isProvedTight 46 = .ok (.istore_n 1, 1) := by decide +kernel
theorem dX11_isProvedTight_47 : decode cX11_isProvedTight 47 = .ok (.iload_n 1, 1) := by decide +kernel
theorem dX11_isProvedTight_48 : decode cX11_isProvedTight 48 = .ok (.aload_n 0, 1) := by decide +kernel
theorem dX11_isProvedTight_49 : decode cX11_isProvedTight 49 = .ok (.getfield 19, 3) := by decide +kernel
theorem dX11_isProvedTight_52 : decode cX11_isProvedTight 52 = .ok (.getfield 91, 3) := by decide +kernel
theorem dX11_isProvedTight_55 : decode cX11_isProvedTight 55 = .ok (.if_icmp .ge 44, 3) := by decide +kernel
theorem dX11_isProvedTight_58 : decode cX11_isProvedTight 58 = .ok (.iload_n 1, 1) := by decide +kernel
theorem dX11_isProvedTight_59 : decode cX11_isProvedTight 59 = .ok (.iconst 1, 1) := by decide +kernel
theorem dX11_isProvedTight_60 : decode cX11_isProvedTight 60 = .ok (.iadd, 1) := by decide +kernel
theorem dX11_isProvedTight_61 : decode cX11_isProvedTight 61 = .ok (.istore_n 2, 1) := by decide +kernel
theorem dX11_isProvedTight_62 : decode cX11_isProvedTight 62 = .ok (.iload_n 2, 1) := by decide +kernel
theorem dX11_isProvedTight_63 : decode cX11_isProvedTight 63 = .ok (.aload_n 0, 1) := by decide +kernel
theorem dX11_isProvedTight_64 : decode cX11_isProvedTight 64 = .ok (.getfield 19, 3) := by decide +kernel
theorem dX11_isProvedTight_67 : decode cX11_isProvedTight 67 = .ok (.getfield 91, 3) := by decide +kernel
theorem dX11_isProvedTight_70 : decode cX11_isProvedTight 70 = .ok (.if_icmp .ge 23, 3) := by decide +kernel
theorem dX11_isProvedTight_73 : decode cX11_isProvedTight 73 = .ok (.aload_n 0, 1) := by decide +kernel
theorem dX11_isProvedTight_74 : decode cX11_isProvedTight 74 = .ok (.getfield 45, 3) := by decide +kernel
theorem dX11_isProvedTight_77 : decode cX11_isProvedTight 77 = .ok (.iload_n 1, 1) := by decide +kernel
theorem dX11_isProvedTight_78 : decode cX11_isProvedTight 78 = .ok (.iload_n 2, 1) := by decide +kernel
theorem dX11_isProvedTight_79 : decode cX11_isProvedTight 79 = .ok (.invokevirtual 250, 3) := by decide +kernel
theorem dX11_isProvedTight_82 : decode cX11_isProvedTight 82 = .ok (.ifCond .eq 5, 3) := by decide +kernel
theorem dX11_isProvedTight_85 : decode cX11_isProvedTight 85 = .ok (.iconst 1, 1) := by decide +kernel
theorem dX11_isProvedTight_86 : decode cX11_isProvedTight 86 = .ok (.ireturn, 1) := by decide +kernel
theorem dX11_isProvedTight_87 : decode cX11_isProvedTight 87 = .ok (.iinc 2 1, 3) := by decide +kernel
theorem dX11_isProvedTight_90 : decode cX11_isProvedTight 90 = .ok (.goto (-28), 3) := by decide +kernel
theorem dX11_isProvedTight_93 : decode cX11_isProvedTight 93 = .ok (.iinc 1 1, 3) := by decide +kernel
theorem dX11_isProvedTight_96 : decode cX11_isProvedTight 96 = .ok (.goto (-49), 3) := by decide +kernel
theorem dX11_isProvedTight_99 : decode cX11_isProvedTight 99 = .ok (.iconst 0, 1) := by decide +kernel
theorem dX11_isProvedTight_100 : decode cX11_isProvedTight 100 = .ok (.ireturn, 1) := by decide +kernel
theorem dX11_part_0 : decode cX11_part 0 = .ok (.aload_n 0, 1) := by decide +kernel
theorem dX11_part_1 : decode cX11_part 1 = .ok (.getfield 77, 3) := by decide +kernel
theorem dX11_part_4 : decode cX11_part 4 = .ok (.ifCond .ne 9, 3) := by decide +kernel
theorem dX11_part_7 : decode cX11_part 7 = .ok (.aload_n 0, 1) := by decide +kernel
theorem dX11_part_8 : decode cX11_part 8 = .ok (.iconst 1, 1) := by decide +kernel
theorem dX11_part_9 : decode cX11_part 9 = .ok (.invokevirtual 122, 3) := by decide +kernel
theorem dX11_part_12 : decode cX11_part 12 = .ok (.ireturn, 1) := by decide +kernel
theorem dX11_part_13 : decode cX11_part 13 = .ok (.iload_n 1, 1) := by decide +kernel
theorem dX11_part_14 : decode cX11_part 14 = .ok (.invokestatic 235, 3) := by decide +kernel
theorem dX11_part_17 : decode cX11_part 17 = .ok (.ifCond .ne 9, 3) := by decide +kernel
theorem dX11_part_20 : decode cX11_part 20 = .ok (.aload_n 0, 1) := by decide +kernel
theorem dX11_part_21 : decode cX11_part 21 = .ok (.iconst 2, 1) := by decide +kernel
theorem dX11_part_22 : decode cX11_part 22 = .ok (.invokevirtual 122, 3) := by decide +kernel
theorem dX11_part_25 : decode cX11_part 25 = .ok (.ireturn, 1) := by decide +kernel
theorem dX11_part_26 : decode cX11_part 26 = .ok (.aload_n 0, 1) := by decide +kernel
theorem dX11_part_27 : decode cX11_part 27 = .ok (.getfield 26, 3) := by decide +kernel
theorem dX11_part_30 : decode cX11_part 30 = .ok (.getfield 261, 3) := by decide +kernel
theorem dX11_part_33 : decode cX11_part 33 = .ok (.bipush (-2), 2) := by decide +kernel
theorem dX11_part_35 : decode cX11_part 35 = .ok (.if_icmp .eq 9, 3) := by decide +kernel
theorem dX11_part_38 : decode cX11_part 38 = .ok (.aload_n 0, 1) := by decide +kernel
theorem dX11_part_39 : decode cX11_part 39 = .ok (.iconst 5, 1) := by decide +kernel
theorem dX11_part_40 : decode cX11_part 40 = .ok (.invokevirtual 122, 3) := by decide +kernel
theorem dX11_part_43 : decode cX11_part 43 = .ok (.ireturn, 1) := by decide +kernel
theorem dX11_part_44 : decode cX11_part 44 = .ok (.aload_n 0, 1) := by decide +kernel
theorem dX11_part_45 : decode cX11_part 45 = .ok (.iload_n 1, 1) := by decide +kernel
theorem dX11_part_46 : decode cX11_part 46 = .ok (.invokevirtual 264, 3) := by decide +kernel
theorem dX11_part_49 : decode cX11_part 49 = .ok (.istore_n 2, 1) := by decide +kernel
theorem dX11_part_50 : decode cX11_part 50 = .ok (.iload_n 2, 1) := by decide +kernel
theorem dX11_part_51 : decode cX11_part 51 = .ok (.bipush (-3), 2) := by decide +kernel
theorem dX11_part_53 : decode cX11_part 53 = .ok (.if_icmp .ne 11, 3) := by decide +kernel
theorem dX11_part_56 : decode cX11_part 56 = .ok (.aload_n 0, 1) := by decide +kernel
theorem dX11_part_57 : decode cX11_part 57 = .ok (.iconst 3, 1) := by decide +kernel
theorem dX11_part_58 : decode cX11_part 58 = .ok (.invokevirtual 122, 3) := by decide +kernel
theorem dX11_part_61 : decode cX11_part 61 = .ok (.goto 8, 3) := by decide +kernel
theorem dX11_part_64 : decode cX11_part 64 = .ok (.aload_n 0, 1) := by decide +kernel
theorem dX11_part_65 : decode cX11_part 65 = .ok (.iload_n 2, 1) := by decide +kernel
theorem dX11_part_66 : decode cX11_part 66 = .ok (.invokevirtual 156, 3) := by decide +kernel
theorem dX11_part_69 : decode cX11_part 69 = .ok (.ireturn, 1) := by decide +kernel
theorem dX11_bestPart_0 : decode cX11_bestPart 0 = .ok (.bipush (-2), 2) := by decide +kernel
theorem dX11_bestPart_2 : decode cX11_bestPart 2 = .ok (.istore_n 2, 1) := by decide +kernel
theorem dX11_bestPart_3 : decode cX11_bestPart 3 = .ok (.iload_n 1, 1) := by decide +kernel
theorem dX11_bestPart_4 : decode cX11_bestPart 4 = .ok (.iconst 1, 1) := by decide +kernel
theorem dX11_bestPart_5 : decode cX11_bestPart 5 = .ok (.iadd, 1) := by decide +kernel
theorem dX11_bestPart_6 : decode cX11_bestPart 6 = .ok (.istore_n 3, 1) := by decide +kernel
theorem dX11_bestPart_7 : decode cX11_bestPart 7 = .ok (.iconst 0, 1) := by decide +kernel
theorem dX11_bestPart_8 : decode cX11_bestPart 8 = .ok (.istore 4, 2) := by decide +kernel
theorem dX11_bestPart_10 : decode cX11_bestPart 10 = .ok (.iload 4, 2) := by decide +kernel
theorem dX11_bestPart_12 : decode cX11_bestPart 12 = .ok (.aload_n 0, 1) := by decide +kernel
theorem dX11_bestPart_13 : decode cX11_bestPart 13 = .ok (.getfield 19, 3) := by decide +kernel
theorem dX11_bestPart_16 : decode cX11_bestPart 16 = .ok (.getfield 88, 3) := by decide +kernel
theorem dX11_bestPart_19 : decode cX11_bestPart 19 = .ok (.if_icmp .ge 75, 3) := by decide +kernel
theorem dX11_bestPart_22 : decode cX11_bestPart 22 = .ok (.aload_n 0, 1) := by decide +kernel
theorem dX11_bestPart_23 : decode cX11_bestPart 23 = .ok (.getfield 30, 3) := by decide +kernel
theorem dX11_bestPart_26 : decode cX11_bestPart 26 = .ok (.aload_n 0, 1) := by decide +kernel
theorem dX11_bestPart_27 : decode cX11_bestPart 27 = .ok (.getfield 26, 3) := by decide +kernel
theorem dX11_bestPart_30 : decode cX11_bestPart 30 = .ok (.invokevirtual 267, 3) := by decide +kernel
theorem dX11_bestPart_33 : decode cX11_bestPart 33 = .ok (.aload_n 0, 1) := by decide +kernel
theorem dX11_bestPart_34 : decode cX11_bestPart 34 = .ok (.getfield 30, 3) := by decide +kernel
theorem dX11_bestPart_37 : decode cX11_bestPart 37 = .ok (.aload_n 0, 1) := by decide +kernel
theorem dX11_bestPart_38 : decode cX11_bestPart 38 = .ok (.getfield 19, 3) := by decide +kernel
theorem dX11_bestPart_41 : decode cX11_bestPart 41 = .ok (.iload 4, 2) := by decide +kernel
theorem dX11_bestPart_43 : decode cX11_bestPart 43 = .ok (.invokevirtual 270, 3) := by decide +kernel
theorem dX11_bestPart_46 : decode cX11_bestPart 46 = .ok (.aload_n 0, 1) := by decide +kernel
theorem dX11_bestPart_47 : decode cX11_bestPart 47 = .ok (.getfield 52, 3) := by decide +kernel
theorem dX11_bestPart_50 : decode cX11_bestPart 50 = .ok (.aload_n 0, 1) := by decide +kernel
theorem dX11_bestPart_51 : decode cX11_bestPart 51 = .ok (.getfield 30, 3) := by decide +kernel
theorem dX11_bestPart_54 : decode cX11_bestPart 54 = .ok (.iload_n 1, 1) := by decide +kernel
theorem dX11_bestPart_55 : decode cX11_bestPart 55 = .ok (.iconst 1, 1) := by decide +kernel
theorem dX11_bestPart_56 : decode cX11_bestPart 56 = .ok (.invokevirtual 238, 3) := by decide +kernel
theorem dX11_bestPart_59 : decode cX11_bestPart 59 = .ok (.istore 5, 2) := by decide +kernel
theorem dX11_bestPart_61 : decode cX11_bestPart 61 = .ok (.iload 5, 2) := by decide +kernel
theorem dX11_bestPart_63 : decode cX11_bestPart 63 = .ok (.bipush (-3), 2) := by decide +kernel
theorem dX11_bestPart_65 : decode cX11_bestPart 65 = .ok (.if_icmp .ne 6, 3) := by decide +kernel
theorem dX11_bestPart_68 : decode cX11_bestPart 68 = .ok (.iload 5, 2) := by decide +kernel
theorem dX11_bestPart_70 : decode cX11_bestPart 70 = .ok (.ireturn, 1) := by decide +kernel
theorem dX11_bestPart_71 : decode cX11_bestPart 71 = .ok (.iload 5, 2) := by decide +kernel
theorem dX11_bestPart_73 : decode cX11_bestPart 73 = .ok (.ifCond .lt 15, 3) := by decide +kernel
theorem dX11_bestPart_76 : decode cX11_bestPart 76 = .ok (.iload 5, 2) := by decide +kernel
theorem dX11_bestPart_78 : decode cX11_bestPart 78 = .ok (.iload_n 3, 1) := by decide +kernel
theorem dX11_bestPart_79 : decode cX11_bestPart 79 = .ok (.if_icmp .ge 9, 3) := by decide +kernel
theorem dX11_bestPart_82 : decode cX11_bestPart 82 = .ok (.iload 5, 2) := by decide +kernel
theorem dX11_bestPart_84 : decode cX11_bestPart 84 = .ok (.istore_n 3, 1) := by decide +kernel
theorem dX11_bestPart_85 : decode cX11_bestPart 85 = .ok (.iload 4, 2) := by decide +kernel
theorem dX11_bestPart_87 : decode cX11_bestPart 87 = .ok (.istore_n 2, 1) := by decide +kernel
theorem dX11_bestPart_88 : decode cX11_bestPart 88 = .ok (.iinc 4 1, 3) := by decide +kernel
theorem dX11_bestPart_91 : decode cX11_bestPart 91 = .ok (.goto (-81), 3) := by decide +kernel
theorem dX11_bestPart_94 : decode cX11_bestPart 94 = .ok (.iload_n 2, 1) := by decide +kernel
theorem dX11_bestPart_95 : decode cX11_bestPart 95 = .ok (.ireturn, 1) := by decide +kernel
theorem dX11_lift_0 : decode cX11_lift 0 = .ok (.aload_n 0, 1) := by decide +kernel
theorem dX11_lift_1 : decode cX11_lift 1 = .ok (.getfield 77, 3) := by decide +kernel
theorem dX11_lift_4 : decode cX11_lift 4 = .ok (.ifCond .ne 9, 3) := by decide +kernel
theorem dX11_lift_7 : decode cX11_lift 7 = .ok (.aload_n 0, 1) := by decide +kernel
theorem dX11_lift_8 : decode cX11_lift 8 = .ok (.iconst 1, 1) := by decide +kernel
theorem dX11_lift_9 : decode cX11_lift 9 = .ok (.invokevirtual 122, 3) := by decide +kernel
theorem dX11_lift_12 : decode cX11_lift 12 = .ok (.ireturn, 1) := by decide +kernel
theorem dX11_lift_13 : decode cX11_lift 13 = .ok (.iload_n 1, 1) := by decide +kernel
theorem dX11_lift_14 : decode cX11_lift 14 = .ok (.invokestatic 235, 3) := by decide +kernel
theorem dX11_lift_17 : decode cX11_lift 17 = .ok (.ifCond .ne 9, 3) := by decide +kernel
theorem dX11_lift_20 : decode cX11_lift 20 = .ok (.aload_n 0, 1) := by decide +kernel
theorem dX11_lift_21 : decode cX11_lift 21 = .ok (.iconst 2, 1) := by decide +kernel
theorem dX11_lift_22 : decode cX11_lift 22 = .ok (.invokevirtual 122, 3) := by decide +kernel
theorem dX11_lift_25 : decode cX11_lift 25 = .ok (.ireturn, 1) := by decide +kernel
theorem dX11_lift_26 : decode cX11_lift 26 = .ok (.aload_n 0, 1) := by decide +kernel
theorem dX11_lift_27 : decode cX11_lift 27 = .ok (.iload_n 1, 1) := by decide +kernel
theorem dX11_lift_28 : decode cX11_lift 28 = .ok (.invokevirtual 274, 3) := by decide +kernel
theorem dX11_lift_31 : decode cX11_lift 31 = .ok (.istore_n 2, 1) := by decide +kernel
theorem dX11_lift_32 : decode cX11_lift 32 = .ok (.iload_n 2, 1) := by decide +kernel
theorem dX11_lift_33 : decode cX11_lift 33 = .ok (.bipush (-3), 2) := by decide +kernel
theorem dX11_lift_35 : decode cX11_lift 35 = .ok (.if_icmp .ne 11, 3) := by decide +kernel
theorem dX11_lift_38 : decode cX11_lift 38 = .ok (.aload_n 0, 1) := by decide +kernel
theorem dX11_lift_39 : decode cX11_lift 39 = .ok (.iconst 3, 1) := by decide +kernel
theorem dX11_lift_40 : decode cX11_lift 40 = .ok (.invokevirtual 122, 3) := by decide +kernel
theorem dX11_lift_43 : decode cX11_lift 43 = .ok (.goto 8, 3) := by decide +kernel
theorem dX11_lift_46 : decode cX11_lift 46 = .ok (.aload_n 0, 1) := by decide +kernel
theorem dX11_lift_47 : decode cX11_lift 47 = .ok (.iload_n 2, 1) := by decide +kernel
theorem dX11_lift_48 : decode cX11_lift 48 = .ok (.invokevirtual 156, 3) := by decide +kernel
theorem dX11_lift_51 : decode cX11_lift 51 = .ok (.ireturn, 1) := by decide +kernel
theorem dX11_bestLift_0 : decode cX11_bestLift 0 = .ok (.bipush (-2), 2) := by decide +kernel
theorem dX11_bestLift_2 : decode cX11_bestLift 2 = .ok (.istore_n 2, 1) := by decide +kernel
theorem dX11_bestLift_3 : decode cX11_bestLift 3 = .ok (.iload_n 1, 1) := by decide +kernel
theorem dX11_bestLift_4 : decode cX11_bestLift 4 = .ok (.iconst 1, 1) := by decide +kernel
theorem dX11_bestLift_5 : decode cX11_bestLift 5 = .ok (.iadd, 1) := by decide +kernel
theorem dX11_bestLift_6 : decode cX11_bestLift 6 = .ok (.istore_n 3, 1) := by decide +kernel
theorem dX11_bestLift_7 : decode cX11_bestLift 7 = .ok (.iconst 0, 1) := by decide +kernel
theorem dX11_bestLift_8 : decode cX11_bestLift 8 = .ok (.istore 4, 2) := by decide +kernel
theorem dX11_bestLift_10 : decode cX11_bestLift 10 = .ok (.iload 4, 2) := by decide +kernel
theorem dX11_bestLift_12 : decode cX11_bestLift 12 = .ok (.aload_n 0, 1) := by decide +kernel
theorem dX11_bestLift_13 : decode cX11_bestLift 13 = .ok (.getfield 19, 3) := by decide +kernel
theorem dX11_bestLift_16 : decode cX11_bestLift 16 = .ok (.getfield 94, 3) := by decide +kernel
theorem dX11_bestLift_19 : decode cX11_bestLift 19 = .ok (.if_icmp .ge 86, 3) := by decide +kernel
theorem dX11_bestLift_22 : decode cX11_bestLift 22 = .ok (.aload_n 0, 1) := by decide +kernel
theorem dX11_bestLift_23 : decode cX11_bestLift 23 = .ok (.getfield 45, 3) := by decide +kernel
theorem dX11_bestLift_26 : decode cX11_bestLift 26 = .ok (.iload 4, 2) := by decide +kernel
theorem dX11_bestLift_28 : decode cX11_bestLift 28 = .ok (.invokevirtual 277, 3) := by decide +kernel
theorem dX11_bestLift_31 : decode cX11_bestLift 31 = .ok (.ifCond .ne 6, 3) := by decide +kernel
theorem dX11_bestLift_34 : decode cX11_bestLift 34 = .ok (.goto 65, 3) := by decide +kernel
theorem dX11_bestLift_37 : decode cX11_bestLift 37 = .ok (.aload_n 0, 1) := by decide +kernel
theorem dX11_bestLift_38 : decode cX11_bestLift 38 = .ok (.getfield 30, 3) := by decide +kernel
theorem dX11_bestLift_41 : decode cX11_bestLift 41 = .ok (.aload_n 0, 1) := by decide +kernel
theorem dX11_bestLift_42 : decode cX11_bestLift 42 = .ok (.getfield 26, 3) := by decide +kernel
theorem dX11_bestLift_45 : decode cX11_bestLift 45 = .ok (.invokevirtual 267, 3) := by decide +kernel
theorem dX11_bestLift_48 : decode cX11_bestLift 48 = .ok (.aload_n 0, 1) := by decide +kernel
theorem dX11_bestLift_49 : decode cX11_bestLift 49 = .ok (.getfield 30, 3) := by decide +kernel
theorem dX11_bestLift_52 : decode cX11_bestLift 52 = .ok (.iload 4, 2) := by decide +kernel
theorem dX11_bestLift_54 : decode cX11_bestLift 54 = .ok (.invokevirtual 280, 3) := by decide +kernel
theorem dX11_bestLift_57 : decode cX11_bestLift 57 = .ok (.aload_n 0, 1) := by decide +kernel
theorem dX11_bestLift_58 : decode cX11_bestLift 58 = .ok (.getfield 52, 3) := by decide +kernel
theorem dX11_bestLift_61 : decode cX11_bestLift 61 = .ok (.aload_n 0, 1) := by decide +kernel
theorem dX11_bestLift_62 : decode cX11_bestLift 62 = .ok (.getfield 30, 3) := by decide +kernel
theorem dX11_bestLift_65 : decode cX11_bestLift 65 = .ok (.iload_n 1, 1) := by decide +kernel
theorem dX11_bestLift_66 : decode cX11_bestLift 66 = .ok (.iconst 1, 1) := by decide +kernel
theorem dX11_bestLift_67 : decode cX11_bestLift 67 = .ok (.invokevirtual 238, 3) := by decide +kernel
theorem dX11_bestLift_70 : decode cX11_bestLift 70 = .ok (.istore 5, 2) := by decide +kernel
theorem dX11_bestLift_72 : decode cX11_bestLift 72 = .ok (.iload 5, 2) := by decide +kernel
theorem dX11_bestLift_74 : decode cX11_bestLift 74 = .ok (.bipush (-3), 2) := by decide +kernel
theorem dX11_bestLift_76 : decode cX11_bestLift 76 = .ok (.if_icmp .ne 6, 3) := by decide +kernel
theorem dX11_bestLift_79 : decode cX11_bestLift 79 = .ok (.iload 5, 2) := by decide +kernel
theorem dX11_bestLift_81 : decode cX11_bestLift 81 = .ok (.ireturn, 1) := by decide +kernel
theorem dX11_bestLift_82 : decode cX11_bestLift 82 = .ok (.iload 5, 2) := by decide +kernel
theorem dX11_bestLift_84 : decode cX11_bestLift 84 = .ok (.ifCond .lt 15, 3) := by decide +kernel
theorem dX11_bestLift_87 : decode cX11_bestLift 87 = .ok (.iload 5, 2) := by decide +kernel
theorem dX11_bestLift_89 : decode cX11_bestLift 89 = .ok (.iload_n 3, 1) := by decide +kernel
theorem dX11_bestLift_90 : decode cX11_bestLift 90 = .ok (.if_icmp .ge 9, 3) := by decide +kernel
theorem dX11_bestLift_93 : decode cX11_bestLift 93 = .ok (.iload 5, 2) := by decide +kernel
theorem dX11_bestLift_95 : decode cX11_bestLift 95 = .ok (.istore_n 3, 1) := by decide +kernel
theorem dX11_bestLift_96 : decode cX11_bestLift 96 = .ok (.iload 4, 2) := by decide +kernel
theorem dX11_bestLift_98 : decode cX11_bestLift 98 = .ok (.istore_n 2, 1) := by decide +kernel
theorem dX11_bestLift_99 : decode cX11_bestLift 99 = .ok (.iinc 4 1, 3) := by decide +kernel
theorem dX11_bestLift_102 : decode cX11_bestLift 102 = .ok (.goto (-92), 3) := by decide +kernel
theorem dX11_bestLift_105 : decode cX11_bestLift 105 = .ok (.iload_n 2, 1) := by decide +kernel
theorem dX11_bestLift_106 : decode cX11_bestLift 106 = .ok (.ireturn, 1) := by decide +kernel
theorem dX11_twist_0 : decode cX11_twist 0 = .ok (.aload_n 0, 1) := by decide +kernel
theorem dX11_twist_1 : decode cX11_twist 1 = .ok (.iload_n 1, 1) := by decide +kernel
theorem dX11_twist_2 : decode cX11_twist 2 = .ok (.invokevirtual 171, 3) := by decide +kernel
theorem dX11_twist_5 : decode cX11_twist 5 = .ok (.ifCond .ne 9, 3) := by decide +kernel
theorem dX11_twist_8 : decode cX11_twist 8 = .ok (.aload_n 0, 1) := by decide +kernel
theorem dX11_twist_9 : decode cX11_twist 9 = .ok (.iconst 1, 1) := by decide +kernel
theorem dX11_twist_10 : decode cX11_twist 10 = .ok (.invokevirtual 213, 3) := by decide +kernel
theorem dX11_twist_13 : decode cX11_twist 13 = .ok (.ireturn, 1) := by decide +kernel
theorem dX11_twist_14 : decode cX11_twist 14 = .ok (.aload_n 0, 1) := by decide +kernel
theorem dX11_twist_15 : decode cX11_twist 15 = .ok (.aload_n 0, 1) := by decide +kernel
theorem dX11_twist_16 : decode cX11_twist 16 = .ok (.getfield 45, 3) := by decide +kernel
theorem dX11_twist_19 : decode cX11_twist 19 = .ok (.iload_n 1, 1) := by decide +kernel
theorem dX11_twist_20 : decode cX11_twist 20 = .ok (.iload_n 1, 1) := by decide +kernel
theorem dX11_twist_21 : decode cX11_twist 21 = .ok (.invokevirtual 250, 3) := by decide +kernel
theorem dX11_twist_24 : decode cX11_twist 24 = .ok (.invokevirtual 156, 3) := by decide +kernel
theorem dX11_twist_27 : decode cX11_twist 27 = .ok (.ireturn, 1) := by decide +kernel
theorem dX11_arcs_0 : decode cX11_arcs 0 = .ok (.aload_n 0, 1) := by decide +kernel
theorem dX11_arcs_1 : decode cX11_arcs 1 = .ok (.getfield 77, 3) := by decide +kernel
theorem dX11_arcs_4 : decode cX11_arcs 4 = .ok (.ifCond .eq 28, 3) := by decide +kernel
theorem dX11_arcs_7 : decode cX11_arcs 7 = .ok (.aload_n 0, 1) := by decide +kernel
theorem dX11_arcs_8 : decode cX11_arcs 8 = .ok (.aload_n 0, 1) := by decide +kernel
theorem dX11_arcs_9 : decode cX11_arcs 9 = .ok (.getfield 66, 3) := by decide +kernel
theorem dX11_arcs_12 : decode cX11_arcs 12 = .ok (.aload_n 0, 1) := by decide +kernel
theorem dX11_arcs_13 : decode cX11_arcs 13 = .ok (.getfield 45, 3) := by decide +kernel
theorem dX11_arcs_16 : decode cX11_arcs 16 = .ok (.aload_n 0, 1) := by decide +kernel
theorem dX11_arcs_17 : decode cX11_arcs 17 = .ok (.getfield 19, 3) := by decide +kernel
theorem dX11_arcs_20 : decode cX11_arcs 20 = .ok (.getfield 91, 3) := by decide +kernel
theorem dX11_arcs_23 : decode cX11_arcs 23 = .ok (.invokevirtual 283, 3) := by decide +kernel
theorem dX11_arcs_26 : decode cX11_arcs 26 = .ok (.invokevirtual 156, 3) := by decide +kernel
theorem dX11_arcs_29 : decode cX11_arcs 29 = .ok (.goto 8, 3) := by decide +kernel
theorem dX11_arcs_32 : decode cX11_arcs 32 = .ok (.aload_n 0, 1) := by decide +kernel
theorem dX11_arcs_33 : decode cX11_arcs 33 = .ok (.iconst 1, 1) := by decide +kernel
theorem dX11_arcs_34 : decode cX11_arcs 34 = .ok (.invokevirtual 122, 3) := by decide +kernel
theorem dX11_arcs_37 : decode cX11_arcs 37 = .ok (.ireturn, 1) := by decide +kernel
theorem dX11_reached_0 : decode cX11_reached 0 = .ok (.aload_n 0, 1) := by decide +kernel
theorem dX11_reached_1 : decode cX11_reached 1 = .ok (.getfield 77, 3) := by decide +kernel
theorem dX11_reached_4 : decode cX11_reached 4 = .ok (.ifCond .ne 9, 3) := by decide +kernel
theorem dX11_reached_7 : decode cX11_reached 7 = .ok (.aload_n 0, 1) := by decide +kernel
theorem dX11_reached_8 : decode cX11_reached 8 = .ok (.iconst 1, 1) := by decide +kernel
theorem dX11_reached_9 : decode cX11_reached 9 = .ok (.invokevirtual 122, 3) := by decide +kernel
theorem dX11_reached_12 : decode cX11_reached 12 = .ok (.ireturn, 1) := by decide +kernel
theorem dX11_reached_13 : decode cX11_reached 13 = .ok (.iload_n 1, 1) := by decide +kernel
theorem dX11_reached_14 : decode cX11_reached 14 = .ok (.invokestatic 235, 3) := by decide +kernel
theorem dX11_reached_17 : decode cX11_reached 17 = .ok (.ifCond .ne 9, 3) := by decide +kernel
theorem dX11_reached_20 : decode cX11_reached 20 = .ok (.aload_n 0, 1) := by decide +kernel
theorem dX11_reached_21 : decode cX11_reached 21 = .ok (.iconst 2, 1) := by decide +kernel
theorem dX11_reached_22 : decode cX11_reached 22 = .ok (.invokevirtual 122, 3) := by decide +kernel
theorem dX11_reached_25 : decode cX11_reached 25 = .ok (.ireturn, 1) := by decide +kernel
theorem dX11_reached_26 : decode cX11_reached 26 = .ok (.aload_n 0, 1) := by decide +kernel
theorem dX11_reached_27 : decode cX11_reached 27 = .ok (.getfield 52, 3) := by decide +kernel
theorem dX11_reached_30 : decode cX11_reached 30 = .ok (.aload_n 0, 1) := by decide +kernel
theorem dX11_reached_31 : decode cX11_reached 31 = .ok (.getfield 26, 3) := by decide +kernel
theorem dX11_reached_34 : decode cX11_reached 34 = .ok (.iload_n 1, 1) := by decide +kernel
theorem dX11_reached_35 : decode cX11_reached 35 = .ok (.invokevirtual 287, 3) := by decide +kernel
theorem dX11_reached_38 : decode cX11_reached 38 = .ok (.istore_n 2, 1) := by decide +kernel
theorem dX11_reached_39 : decode cX11_reached 39 = .ok (.iload_n 2, 1) := by decide +kernel
theorem dX11_reached_40 : decode cX11_reached 40 = .ok (.bipush (-3), 2) := by decide +kernel
theorem dX11_reached_42 : decode cX11_reached 42 = .ok (.if_icmp .ne 11, 3) := by decide +kernel
theorem dX11_reached_45 : decode cX11_reached 45 = .ok (.aload_n 0, 1) := by decide +kernel
theorem dX11_reached_46 : decode cX11_reached 46 = .ok (.iconst 3, 1) := by decide +kernel
theorem dX11_reached_47 : decode cX11_reached 47 = .ok (.invokevirtual 122, 3) := by decide +kernel
theorem dX11_reached_50 : decode cX11_reached 50 = .ok (.goto 8, 3) := by decide +kernel
theorem dX11_reached_53 : decode cX11_reached 53 = .ok (.aload_n 0, 1) := by decide +kernel
theorem dX11_reached_54 : decode cX11_reached 54 = .ok (.iload_n 2, 1) := by decide +kernel
theorem dX11_reached_55 : decode cX11_reached 55 = .ok (.invokevirtual 156, 3) := by decide +kernel
theorem dX11_reached_58 : decode cX11_reached 58 = .ok (.ireturn, 1) := by decide +kernel
theorem dX11_few_0 : decode cX11_few 0 = .ok (.aload_n 0, 1) := by decide +kernel
theorem dX11_few_1 : decode cX11_few 1 = .ok (.getfield 77, 3) := by decide +kernel
theorem dX11_few_4 : decode cX11_few 4 = .ok (.ifCond .ne 9, 3) := by decide +kernel
theorem dX11_few_7 : decode cX11_few 7 = .ok (.aload_n 0, 1) := by decide +kernel
theorem dX11_few_8 : decode cX11_few 8 = .ok (.iconst 1, 1) := by decide +kernel
theorem dX11_few_9 : decode cX11_few 9 = .ok (.invokevirtual 122, 3) := by decide +kernel
theorem dX11_few_12 : decode cX11_few 12 = .ok (.ireturn, 1) := by decide +kernel
theorem dX11_few_13 : decode cX11_few 13 = .ok (.iload_n 1, 1) := by decide +kernel
theorem dX11_few_14 : decode cX11_few 14 = .ok (.invokestatic 235, 3) := by decide +kernel
theorem dX11_few_17 : decode cX11_few 17 = .ok (.ifCond .ne 9, 3) := by decide +kernel
theorem dX11_few_20 : decode cX11_few 20 = .ok (.aload_n 0, 1) := by decide +kernel
theorem dX11_few_21 : decode cX11_few 21 = .ok (.iconst 2, 1) := by decide +kernel
theorem dX11_few_22 : decode cX11_few 22 = .ok (.invokevirtual 122, 3) := by decide +kernel
theorem dX11_few_25 : decode cX11_few 25 = .ok (.ireturn, 1) := by decide +kernel
theorem dX11_few_26 : decode cX11_few 26 = .ok (.aload_n 0, 1) := by decide +kernel
theorem dX11_few_27 : decode cX11_few 27 = .ok (.getfield 52, 3) := by decide +kernel
theorem dX11_few_30 : decode cX11_few 30 = .ok (.aload_n 0, 1) := by decide +kernel
theorem dX11_few_31 : decode cX11_few 31 = .ok (.getfield 26, 3) := by decide +kernel
theorem dX11_few_34 : decode cX11_few 34 = .ok (.iload_n 1, 1) := by decide +kernel
theorem dX11_few_35 : decode cX11_few 35 = .ok (.invokevirtual 290, 3) := by decide +kernel
theorem dX11_few_38 : decode cX11_few 38 = .ok (.istore_n 2, 1) := by decide +kernel
theorem dX11_few_39 : decode cX11_few 39 = .ok (.iload_n 2, 1) := by decide +kernel
theorem dX11_few_40 : decode cX11_few 40 = .ok (.bipush (-3), 2) := by decide +kernel
theorem dX11_few_42 : decode cX11_few 42 = .ok (.if_icmp .ne 11, 3) := by decide +kernel
theorem dX11_few_45 : decode cX11_few 45 = .ok (.aload_n 0, 1) := by decide +kernel
theorem dX11_few_46 : decode cX11_few 46 = .ok (.iconst 3, 1) := by decide +kernel
theorem dX11_few_47 : decode cX11_few 47 = .ok (.invokevirtual 122, 3) := by decide +kernel
theorem dX11_few_50 : decode cX11_few 50 = .ok (.goto 8, 3) := by decide +kernel
theorem dX11_few_53 : decode cX11_few 53 = .ok (.aload_n 0, 1) := by decide +kernel
theorem dX11_few_54 : decode cX11_few 54 = .ok (.iload_n 2, 1) := by decide +kernel
theorem dX11_few_55 : decode cX11_few 55 = .ok (.invokevirtual 156, 3) := by decide +kernel
theorem dX11_few_58 : decode cX11_few 58 = .ok (.ireturn, 1) := by decide +kernel
theorem dX11_sees_0 : decode cX11_sees 0 = .ok (.aload_n 0, 1) := by decide +kernel
theorem dX11_sees_1 : decode cX11_sees 1 = .ok (.iload_n 1, 1) := by decide +kernel
theorem dX11_sees_2 : decode cX11_sees 2 = .ok (.invokevirtual 165, 3) := by decide +kernel
theorem dX11_sees_5 : decode cX11_sees 5 = .ok (.ifCond .eq 18, 3) := by decide +kernel
theorem dX11_sees_8 : decode cX11_sees 8 = .ok (.aload_n 0, 1) := by decide +kernel
theorem dX11_sees_9 : decode cX11_sees 9 = .ok (.aload_n 0, 1) := by decide +kernel
theorem dX11_sees_10 : decode cX11_sees 10 = .ok (.getfield 45, 3) := by decide +kernel
theorem dX11_sees_13 : decode cX11_sees 13 = .ok (.iload_n 1, 1) := by decide +kernel
theorem dX11_sees_14 : decode cX11_sees 14 = .ok (.invokevirtual 293, 3) := by decide +kernel
theorem dX11_sees_17 : decode cX11_sees 17 = .ok (.invokevirtual 156, 3) := by decide +kernel
theorem dX11_sees_20 : decode cX11_sees 20 = .ok (.goto 8, 3) := by decide +kernel
theorem dX11_sees_23 : decode cX11_sees 23 = .ok (.aload_n 0, 1) := by decide +kernel
theorem dX11_sees_24 : decode cX11_sees 24 = .ok (.iconst 1, 1) := by decide +kernel
theorem dX11_sees_25 : decode cX11_sees 25 = .ok (.invokevirtual 122, 3) := by decide +kernel
theorem dX11_sees_28 : decode cX11_sees 28 = .ok (.ireturn, 1) := by decide +kernel
theorem dX11_own_0 : decode cX11_own 0 = .ok (.aload_n 0, 1) := by decide +kernel
theorem dX11_own_1 : decode cX11_own 1 = .ok (.iload_n 1, 1) := by decide +kernel
theorem dX11_own_2 : decode cX11_own 2 = .ok (.invokevirtual 165, 3) := by decide +kernel
theorem dX11_own_5 : decode cX11_own 5 = .ok (.ifCond .eq 18, 3) := by decide +kernel
theorem dX11_own_8 : decode cX11_own 8 = .ok (.aload_n 0, 1) := by decide +kernel
theorem dX11_own_9 : decode cX11_own 9 = .ok (.aload_n 0, 1) := by decide +kernel
theorem dX11_own_10 : decode cX11_own 10 = .ok (.getfield 45, 3) := by decide +kernel
theorem dX11_own_13 : decode cX11_own 13 = .ok (.iload_n 1, 1) := by decide +kernel
theorem dX11_own_14 : decode cX11_own 14 = .ok (.invokestatic 296, 3) := by decide +kernel
theorem dX11_own_17 : decode cX11_own 17 = .ok (.invokevirtual 156, 3) := by decide +kernel
theorem dX11_own_20 : decode cX11_own 20 = .ok (.goto 8, 3) := by decide +kernel
theorem dX11_own_23 : decode cX11_own 23 = .ok (.aload_n 0, 1) := by decide +kernel
theorem dX11_own_24 : decode cX11_own 24 = .ok (.iconst 1, 1) := by decide +kernel
theorem dX11_own_25 : decode cX11_own 25 = .ok (.invokevirtual 122, 3) := by decide +kernel
theorem dX11_own_28 : decode cX11_own 28 = .ok (.ireturn, 1) := by decide +kernel
theorem dX11_rounds_0 : decode cX11_rounds 0 = .ok (.aload_n 0, 1) := by decide +kernel
theorem dX11_rounds_1 : decode cX11_rounds 1 = .ok (.getfield 77, 3) := by decide +kernel
theorem dX11_rounds_4 : decode cX11_rounds 4 = .ok (.ifCond .ne 9, 3) := by decide +kernel
theorem dX11_rounds_7 : decode cX11_rounds 7 = .ok (.aload_n 0, 1) := by decide +kernel
theorem dX11_rounds_8 : decode cX11_rounds 8 = .ok (.iconst 1, 1) := by decide +kernel
theorem dX11_rounds_9 : decode cX11_rounds 9 = .ok (.invokevirtual 122, 3) := by decide +kernel
theorem dX11_rounds_12 : decode cX11_rounds 12 = .ok (.ireturn, 1) := by decide +kernel
theorem dX11_rounds_13 : decode cX11_rounds 13 = .ok (.iload_n 1, 1) := by decide +kernel
theorem dX11_rounds_14 : decode cX11_rounds 14 = .ok (.ifCond .lt 9, 3) := by decide +kernel
theorem dX11_rounds_17 : decode cX11_rounds 17 = .ok (.iload_n 1, 1) := by decide +kernel
theorem dX11_rounds_18 : decode cX11_rounds 18 = .ok (.bipush 9, 2) := by decide +kernel
theorem dX11_rounds_20 : decode cX11_rounds 20 = .ok (.if_icmp .le 9, 3) := by decide +kernel
theorem dX11_rounds_23 : decode cX11_rounds 23 = .ok (.aload_n 0, 1) := by decide +kernel
theorem dX11_rounds_24 : decode cX11_rounds 24 = .ok (.iconst 2, 1) := by decide +kernel
theorem dX11_rounds_25 : decode cX11_rounds 25 = .ok (.invokevirtual 122, 3) := by decide +kernel
theorem dX11_rounds_28 : decode cX11_rounds 28 = .ok (.ireturn, 1) := by decide +kernel
theorem dX11_rounds_29 : decode cX11_rounds 29 = .ok (.aload_n 0, 1) := by decide +kernel
theorem dX11_rounds_30 : decode cX11_rounds 30 = .ok (.aload_n 0, 1) := by decide +kernel
theorem dX11_rounds_31 : decode cX11_rounds 31 = .ok (.getfield 59, 3) := by decide +kernel
theorem dX11_rounds_34 : decode cX11_rounds 34 = .ok (.aload_n 0, 1) := by decide +kernel
theorem dX11_rounds_35 : decode cX11_rounds 35 = .ok (.getfield 26, 3) := by decide +kernel
theorem dX11_rounds_38 : decode cX11_rounds 38 = .ok (.iload_n 1, 1) := by decide +kernel
theorem dX11_rounds_39 : decode cX11_rounds 39 = .ok (.invokevirtual 299, 3) := by decide +kernel
theorem dX11_rounds_42 : decode cX11_rounds 42 = .ok (.invokevirtual 156, 3) := by decide +kernel
theorem dX11_rounds_45 : decode cX11_rounds 45 = .ok (.ireturn, 1) := by decide +kernel
theorem dX11_tries_0 : decode cX11_tries 0 = .ok (.aload_n 0, 1) := by decide +kernel
theorem dX11_tries_1 : decode cX11_tries 1 = .ok (.getfield 77, 3) := by decide +kernel
theorem dX11_tries_4 : decode cX11_tries 4 = .ok (.ifCond .ne 9, 3) := by decide +kernel
theorem dX11_tries_7 : decode cX11_tries 7 = .ok (.aload_n 0, 1) := by decide +kernel
theorem dX11_tries_8 : decode cX11_tries 8 = .ok (.iconst 1, 1) := by decide +kernel
theorem dX11_tries_9 : decode cX11_tries 9 = .ok (.invokevirtual 122, 3) := by decide +kernel
theorem dX11_tries_12 : decode cX11_tries 12 = .ok (.ireturn, 1) := by decide +kernel
theorem dX11_tries_13 : decode cX11_tries 13 = .ok (.iload_n 1, 1) := by decide +kernel
theorem dX11_tries_14 : decode cX11_tries 14 = .ok (.invokestatic 302, 3) := by decide +kernel
theorem dX11_tries_17 : decode cX11_tries 17 = .ok (.ifCond .eq 24, 3) := by decide +kernel
theorem dX11_tries_20 : decode cX11_tries 20 = .ok (.iload_n 2, 1) := by decide +kernel
theorem dX11_tries_21 : decode cX11_tries 21 = .ok (.iconst 1, 1) := by decide +kernel
theorem dX11_tries_22 : decode cX11_tries 22 = .ok (.if_icmp .lt 19, 3) := by decide +kernel
theorem dX11_tries_25 : decode cX11_tries 25 = .ok (.iload_n 2, 1) := by decide +kernel
theorem dX11_tries_26 : decode cX11_tries 26 = .ok (.bipush 20, 2) := by decide +kernel
theorem dX11_tries_28 : decode cX11_tries 28 = .ok (.if_icmp .gt 13, 3) := by decide +kernel
theorem dX11_tries_31 : decode cX11_tries 31 = .ok (.iload_n 3, 1) := by decide +kernel
theorem dX11_tries_32 : decode cX11_tries 32 = .ok (.ifCond .lt 9, 3) := by decide +kernel
theorem dX11_tries_35 : decode cX11_tries 35 = .ok (.iload_n 3, 1) := by decide +kernel
theorem dX11_tries_36 : decode cX11_tries 36 = .ok (.bipush 20, 2) := by decide +kernel
theorem dX11_tries_38 : decode cX11_tries 38 = .ok (.if_icmp .le 9, 3) := by decide +kernel
theorem dX11_tries_41 : decode cX11_tries 41 = .ok (.aload_n 0, 1) := by decide +kernel
theorem dX11_tries_42 : decode cX11_tries 42 = .ok (.iconst 2, 1) := by decide +kernel
theorem dX11_tries_43 : decode cX11_tries 43 = .ok (.invokevirtual 122, 3) := by decide +kernel
theorem dX11_tries_46 : decode cX11_tries 46 = .ok (.ireturn, 1) := by decide +kernel
theorem dX11_tries_47 : decode cX11_tries 47 = .ok (.aload_n 0, 1) := by decide +kernel
theorem dX11_tries_48 : decode cX11_tries 48 = .ok (.aload_n 0, 1) := by decide +kernel
theorem dX11_tries_49 : decode cX11_tries 49 = .ok (.getfield 59, 3) := by decide +kernel
theorem dX11_tries_52 : decode cX11_tries 52 = .ok (.aload_n 0, 1) := by decide +kernel
theorem dX11_tries_53 : decode cX11_tries 53 = .ok (.getfield 26, 3) := by decide +kernel
theorem dX11_tries_56 : decode cX11_tries 56 = .ok (.iload_n 1, 1) := by decide +kernel
theorem dX11_tries_57 : decode cX11_tries 57 = .ok (.iload_n 2, 1) := by decide +kernel
theorem dX11_tries_58 : decode cX11_tries 58 = .ok (.iload_n 3, 1) := by decide +kernel
theorem dX11_tries_59 : decode cX11_tries 59 = .ok (.invokevirtual 305, 3) := by decide +kernel
theorem dX11_tries_62 : decode cX11_tries 62 = .ok (.invokevirtual 156, 3) := by decide +kernel
theorem dX11_tries_65 : decode cX11_tries 65 = .ok (.ireturn, 1) := by decide +kernel
theorem dX11_ways_0 : decode cX11_ways 0 = .ok (.iload_n 1, 1) := by decide +kernel
theorem dX11_ways_1 : decode cX11_ways 1 = .ok (.invokestatic 309, 3) := by decide +kernel
theorem dX11_ways_4 : decode cX11_ways 4 = .ok (.ifCond .eq 10, 3) := by decide +kernel
theorem dX11_ways_7 : decode cX11_ways 7 = .ok (.iload_n 2, 1) := by decide +kernel
theorem dX11_ways_8 : decode cX11_ways 8 = .ok (.invokestatic 312, 3) := by decide +kernel
theorem dX11_ways_11 : decode cX11_ways 11 = .ok (.ifCond .ne 10, 3) := by decide +kernel
theorem dX11_ways_14 : decode cX11_ways 14 = .ok (.aload_n 0, 1) := by decide +kernel
theorem dX11_ways_15 : decode cX11_ways 15 = .ok (.iconst 2, 1) := by decide +kernel
theorem dX11_ways_16 : decode cX11_ways 16 = .ok (.invokevirtual 122, 3) := by decide +kernel
theorem dX11_ways_19 : decode cX11_ways 19 = .ok (.i2l, 1) := by decide +kernel
theorem dX11_ways_20 : decode cX11_ways 20 = .ok (.lreturn, 1) := by decide +kernel
theorem dX11_ways_21 : decode cX11_ways 21 = .ok (.aload_n 0, 1) := by decide +kernel
theorem dX11_ways_22 : decode cX11_ways 22 = .ok (.iconst 0, 1) := by decide +kernel
theorem dX11_ways_23 : decode cX11_ways 23 = .ok (.putfield 81, 3) := by decide +kernel
theorem dX11_ways_26 : decode cX11_ways 26 = .ok (.aload_n 0, 1) := by decide +kernel
theorem dX11_ways_27 : decode cX11_ways 27 = .ok (.getfield 73, 3) := by decide +kernel
theorem dX11_ways_30 : decode cX11_ways 30 = .ok (.iload_n 1, 1) := by decide +kernel
theorem dX11_ways_31 : decode cX11_ways 31 = .ok (.iload_n 2, 1) := by decide +kernel
theorem dX11_ways_32 : decode cX11_ways 32 = .ok (.iload_n 3, 1) := by decide +kernel
theorem dX11_ways_33 : decode cX11_ways 33 = .ok (.invokevirtual 315, 3) := by decide +kernel
theorem dX11_ways_36 : decode cX11_ways 36 = .ok (.lreturn, 1) := by decide +kernel
theorem dX11_odds_0 : decode cX11_odds 0 = .ok (.iload_n 1, 1) := by decide +kernel
theorem dX11_odds_1 : decode cX11_odds 1 = .ok (.invokestatic 309, 3) := by decide +kernel
theorem dX11_odds_4 : decode cX11_odds 4 = .ok (.ifCond .eq 10, 3) := by decide +kernel
theorem dX11_odds_7 : decode cX11_odds 7 = .ok (.iload_n 2, 1) := by decide +kernel
theorem dX11_odds_8 : decode cX11_odds 8 = .ok (.invokestatic 312, 3) := by decide +kernel
theorem dX11_odds_11 : decode cX11_odds 11 = .ok (.ifCond .ne 10, 3) := by decide +kernel
theorem dX11_odds_14 : decode cX11_odds 14 = .ok (.aload_n 0, 1) := by decide +kernel
theorem dX11_odds_15 : decode cX11_odds 15 = .ok (.iconst 2, 1) := by decide +kernel
theorem dX11_odds_16 : decode cX11_odds 16 = .ok (.invokevirtual 122, 3) := by decide +kernel
theorem dX11_odds_19 : decode cX11_odds 19 = .ok (.i2l, 1) := by decide +kernel
theorem dX11_odds_20 : decode cX11_odds 20 = .ok (.lreturn, 1) := by decide +kernel
theorem dX11_odds_21 : decode cX11_odds 21 = .ok (.aload_n 0, 1) := by decide +kernel
theorem dX11_odds_22 : decode cX11_odds 22 = .ok (.getfield 73, 3) := by decide +kernel
theorem dX11_odds_25 : decode cX11_odds 25 = .ok (.iload_n 1, 1) := by decide +kernel
theorem dX11_odds_26 : decode cX11_odds 26 = .ok (.iload_n 3, 1) := by decide +kernel
theorem dX11_odds_27 : decode cX11_odds 27 = .ok (.invokevirtual 319, 3) := by decide +kernel
theorem dX11_odds_30 : decode cX11_odds 30 = .ok (.lstore 5, 2) := by decide +kernel
theorem dX11_odds_32 : decode cX11_odds 32 = .ok (.lload 5, 2) := by decide +kernel
theorem dX11_odds_34 : decode cX11_odds 34 = .ok (.lconst 0, 1) := by decide +kernel
theorem dX11_odds_35 : decode cX11_odds 35 = .ok (.lcmp, 1) := by decide +kernel
theorem dX11_odds_36 : decode cX11_odds 36 = .ok (.ifCond .ne 11, 3) := by decide +kernel
theorem dX11_odds_39 : decode cX11_odds 39 = .ok (.aload_n 0, 1) := by decide +kernel
theorem dX11_odds_40 : decode cX11_odds 40 = .ok (.bipush 6, 2) := by decide +kernel
theorem dX11_odds_42 : decode cX11_odds 42 = .ok (.invokevirtual 122, 3) := by decide +kernel
theorem dX11_odds_45 : decode cX11_odds 45 = .ok (.i2l, 1) := by decide +kernel
theorem dX11_odds_46 : decode cX11_odds 46 = .ok (.lreturn, 1) := by decide +kernel
theorem dX11_odds_47 : decode cX11_odds 47 = .ok (.aload_n 0, 1) := by decide +kernel
theorem dX11_odds_48 : decode cX11_odds 48 = .ok (.iconst 0, 1) := by decide +kernel
theorem dX11_odds_49 : decode cX11_odds 49 = .ok (.putfield 81, 3) := by decide +kernel
theorem dX11_odds_52 : decode cX11_odds 52 = .ok (.aload_n 0, 1) := by decide +kernel
theorem dX11_odds_53 : decode cX11_odds 53 = .ok (.getfield 73, 3) := by decide +kernel
theorem dX11_odds_56 : decode cX11_odds 56 = .ok (.iload_n 1, 1) := by decide +kernel
theorem dX11_odds_57 : decode cX11_odds 57 = .ok (.iload_n 2, 1) := by decide +kernel
theorem dX11_odds_58 : decode cX11_odds 58 = .ok (.iload_n 3, 1) := by decide +kernel
theorem dX11_odds_59 : decode cX11_odds 59 = .ok (.invokevirtual 315, 3) := by decide +kernel
theorem dX11_odds_62 : decode cX11_odds 62 = .ok (.lload 5, 2) := by decide +kernel
theorem dX11_odds_64 : decode cX11_odds 64 = .ok (.iload 4, 2) := by decide +kernel
theorem dX11_odds_66 : decode cX11_odds 66 = .ok (.invokestatic 323, 3) := by decide +kernel
theorem dX11_odds_69 : decode cX11_odds 69 = .ok (.lreturn, 1) := by decide +kernel
theorem dX11_mean_0 : decode cX11_mean 0 = .ok (.iload_n 1, 1) := by decide +kernel
theorem dX11_mean_1 : decode cX11_mean 1 = .ok (.invokestatic 309, 3) := by decide +kernel
theorem dX11_mean_4 : decode cX11_mean 4 = .ok (.ifCond .ne 10, 3) := by decide +kernel
theorem dX11_mean_7 : decode cX11_mean 7 = .ok (.aload_n 0, 1) := by decide +kernel
theorem dX11_mean_8 : decode cX11_mean 8 = .ok (.iconst 2, 1) := by decide +kernel
theorem dX11_mean_9 : decode cX11_mean 9 = .ok (.invokevirtual 122, 3) := by decide +kernel
theorem dX11_mean_12 : decode cX11_mean 12 = .ok (.i2l, 1) := by decide +kernel
theorem dX11_mean_13 : decode cX11_mean 13 = .ok (.lreturn, 1) := by decide +kernel
theorem dX11_mean_14 : decode cX11_mean 14 = .ok (.aload_n 0, 1) := by decide +kernel
theorem dX11_mean_15 : decode cX11_mean 15 = .ok (.getfield 73, 3) := by decide +kernel
theorem dX11_mean_18 : decode cX11_mean 18 = .ok (.iload_n 1, 1) := by decide +kernel
theorem dX11_mean_19 : decode cX11_mean 19 = .ok (.iload_n 2, 1) := by decide +kernel
theorem dX11_mean_20 : decode cX11_mean 20 = .ok (.invokevirtual 319, 3) := by decide +kernel
theorem dX11_mean_23 : decode cX11_mean 23 = .ok (.lstore 4, 2) := by decide +kernel
theorem dX11_mean_25 : decode cX11_mean 25 = .ok (.lload 4, 2) := by decide +kernel
theorem dX11_mean_27 : decode cX11_mean 27 = .ok (.lconst 0, 1) := by decide +kernel
theorem dX11_mean_28 : decode cX11_mean 28 = .ok (.lcmp, 1) := by decide +kernel
theorem dX11_mean_29 : decode cX11_mean 29 = .ok (.ifCond .ne 11, 3) := by decide +kernel
theorem dX11_mean_32 : decode cX11_mean 32 = .ok (.aload_n 0, 1) := by decide +kernel
theorem dX11_mean_33 : decode cX11_mean 33 = .ok (.bipush 6, 2) := by decide +kernel
theorem dX11_mean_35 : decode cX11_mean 35 = .ok (.invokevirtual 122, 3) := by decide +kernel
theorem dX11_mean_38 : decode cX11_mean 38 = .ok (.i2l, 1) := by decide +kernel
theorem dX11_mean_39 : decode cX11_mean 39 = .ok (.lreturn, 1) := by decide +kernel
theorem dX11_mean_40 : decode cX11_mean 40 = .ok (.aload_n 0, 1) := by decide +kernel
theorem dX11_mean_41 : decode cX11_mean 41 = .ok (.iconst 0, 1) := by decide +kernel
theorem dX11_mean_42 : decode cX11_mean 42 = .ok (.putfield 81, 3) := by decide +kernel
theorem dX11_mean_45 : decode cX11_mean 45 = .ok (.aload_n 0, 1) := by decide +kernel
theorem dX11_mean_46 : decode cX11_mean 46 = .ok (.getfield 73, 3) := by decide +kernel
theorem dX11_mean_49 : decode cX11_mean 49 = .ok (.iload_n 1, 1) := by decide +kernel
theorem dX11_mean_50 : decode cX11_mean 50 = .ok (.iload_n 2, 1) := by decide +kernel
theorem dX11_mean_51 : decode cX11_mean 51 = .ok (.invokevirtual 327, 3) := by decide +kernel
theorem dX11_mean_54 : decode cX11_mean 54 = .ok (.lload 4, 2) := by decide +kernel
theorem dX11_mean_56 : decode cX11_mean 56 = .ok (.iload_n 3, 1) := by decide +kernel
theorem dX11_mean_57 : decode cX11_mean 57 = .ok (.invokestatic 323, 3) := by decide +kernel
theorem dX11_mean_60 : decode cX11_mean 60 = .ok (.lreturn, 1) := by decide +kernel
theorem dX11_makeMove_0 : decode cX11_makeMove 0 = .ok (.aload_n 0, 1) := by decide +kernel
theorem dX11_makeMove_1 : decode cX11_makeMove 1 = .ok (.getfield 26, 3) := by decide +kernel
theorem dX11_makeMove_4 : decode cX11_makeMove 4 = .ok (.aload_n 0, 1) := by decide +kernel
theorem dX11_makeMove_5 : decode cX11_makeMove 5 = .ok (.getfield 45, 3) := by decide +kernel
theorem dX11_makeMove_8 : decode cX11_makeMove 8 = .ok (.iload_n 1, 1) := by decide +kernel
theorem dX11_makeMove_9 : decode cX11_makeMove 9 = .ok (.invokevirtual 330, 3) := by decide +kernel
theorem dX11_makeMove_12 : decode cX11_makeMove 12 = .ok (.putfield 196, 3) := by decide +kernel
theorem dX11_makeMove_15 : decode cX11_makeMove 15 = .ok (.aload_n 0, 1) := by decide +kernel
theorem dX11_makeMove_16 : decode cX11_makeMove 16 = .ok (.getfield 45, 3) := by decide +kernel
theorem dX11_makeMove_19 : decode cX11_makeMove 19 = .ok (.aload_n 0, 1) := by decide +kernel
theorem dX11_makeMove_20 : decode cX11_makeMove 20 = .ok (.getfield 26, 3) := by decide +kernel
theorem dX11_makeMove_23 : decode cX11_makeMove 23 = .ok (.invokevirtual 152, 3) := by decide +kernel
theorem dX11_makeMove_26 : decode cX11_makeMove 26 = .ok (.return_, 1) := by decide +kernel
theorem dX11_move_0 : decode cX11_move 0 = .ok (.aload_n 0, 1) := by decide +kernel
theorem dX11_move_1 : decode cX11_move 1 = .ok (.iload_n 1, 1) := by decide +kernel
theorem dX11_move_2 : decode cX11_move 2 = .ok (.invokevirtual 219, 3) := by decide +kernel
theorem dX11_move_5 : decode cX11_move 5 = .ok (.ifCond .ne 9, 3) := by decide +kernel
theorem dX11_move_8 : decode cX11_move 8 = .ok (.aload_n 0, 1) := by decide +kernel
theorem dX11_move_9 : decode cX11_move 9 = .ok (.iconst 1, 1) := by decide +kernel
theorem dX11_move_10 : decode cX11_move 10 = .ok (.invokevirtual 122, 3) := by decide +kernel
theorem dX11_move_13 : decode cX11_move 13 = .ok (.ireturn, 1) := by decide +kernel
theorem dX11_move_14 : decode cX11_move 14 = .ok (.aload_n 0, 1) := by decide +kernel
theorem dX11_move_15 : decode cX11_move 15 = .ok (.getfield 45, 3) := by decide +kernel
theorem dX11_move_18 : decode cX11_move 18 = .ok (.iload_n 1, 1) := by decide +kernel
theorem dX11_move_19 : decode cX11_move 19 = .ok (.invokevirtual 222, 3) := by decide +kernel
theorem dX11_move_22 : decode cX11_move 22 = .ok (.ifCond .ne 9, 3) := by decide +kernel
theorem dX11_move_25 : decode cX11_move 25 = .ok (.aload_n 0, 1) := by decide +kernel
theorem dX11_move_26 : decode cX11_move 26 = .ok (.iconst 5, 1) := by decide +kernel
theorem dX11_move_27 : decode cX11_move 27 = .ok (.invokevirtual 122, 3) := by decide +kernel
theorem dX11_move_30 : decode cX11_move 30 = .ok (.ireturn, 1) := by decide +kernel
theorem dX11_move_31 : decode cX11_move 31 = .ok (.aload_n 0, 1) := by decide +kernel
theorem dX11_move_32 : decode cX11_move 32 = .ok (.getfield 36, 3) := by decide +kernel
theorem dX11_move_35 : decode cX11_move 35 = .ok (.aload_n 0, 1) := by decide +kernel
theorem dX11_move_36 : decode cX11_move 36 = .ok (.getfield 26, 3) := by decide +kernel
theorem dX11_move_39 : decode cX11_move 39 = .ok (.invokevirtual 334, 3) := by decide +kernel
theorem dX11_move_42 : decode cX11_move 42 = .ok (.aload_n 0, 1) := by decide +kernel
theorem dX11_move_43 : decode cX11_move 43 = .ok (.iload_n 1, 1) := by decide +kernel
theorem dX11_move_44 : decode cX11_move 44 = .ok (.invokevirtual 337, 3) := by decide +kernel
theorem dX11_move_47 : decode cX11_move 47 = .ok (.aload_n 0, 1) := by decide +kernel
theorem dX11_move_48 : decode cX11_move 48 = .ok (.aload_n 0, 1) := by decide +kernel
theorem dX11_move_49 : decode cX11_move 49 = .ok (.getfield 45, 3) := by decide +kernel
theorem dX11_move_52 : decode cX11_move 52 = .ok (.getfield 216, 3) := by decide +kernel
theorem dX11_move_55 : decode cX11_move 55 = .ok (.invokevirtual 156, 3) := by decide +kernel
theorem dX11_move_58 : decode cX11_move 58 = .ok (.ireturn, 1) := by decide +kernel
theorem dX11_parts_0 : decode cX11_parts 0 = .ok (.aload_n 0, 1) := by decide +kernel
theorem dX11_parts_1 : decode cX11_parts 1 = .ok (.iload_n 1, 1) := by decide +kernel
theorem dX11_parts_2 : decode cX11_parts 2 = .ok (.invokevirtual 187, 3) := by decide +kernel
theorem dX11_parts_5 : decode cX11_parts 5 = .ok (.ifCond .ne 9, 3) := by decide +kernel
theorem dX11_parts_8 : decode cX11_parts 8 = .ok (.aload_n 0, 1) := by decide +kernel
theorem dX11_parts_9 : decode cX11_parts 9 = .ok (.iconst 1, 1) := by decide +kernel
theorem dX11_parts_10 : decode cX11_parts 10 = .ok (.invokevirtual 122, 3) := by decide +kernel
theorem dX11_parts_13 : decode cX11_parts 13 = .ok (.ireturn, 1) := by decide +kernel
theorem dX11_parts_14 : decode cX11_parts 14 = .ok (.aload_n 0, 1) := by decide +kernel
theorem dX11_parts_15 : decode cX11_parts 15 = .ok (.getfield 26, 3) := by decide +kernel
theorem dX11_parts_18 : decode cX11_parts 18 = .ok (.getfield 261, 3) := by decide +kernel
theorem dX11_parts_21 : decode cX11_parts 21 = .ok (.bipush (-2), 2) := by decide +kernel
theorem dX11_parts_23 : decode cX11_parts 23 = .ok (.if_icmp .eq 9, 3) := by decide +kernel
theorem dX11_parts_26 : decode cX11_parts 26 = .ok (.aload_n 0, 1) := by decide +kernel
theorem dX11_parts_27 : decode cX11_parts 27 = .ok (.iconst 5, 1) := by decide +kernel
theorem dX11_parts_28 : decode cX11_parts 28 = .ok (.invokevirtual 122, 3) := by decide +kernel
theorem dX11_parts_31 : decode cX11_parts 31 = .ok (.ireturn, 1) := by decide +kernel
theorem dX11_parts_32 : decode cX11_parts 32 = .ok (.aload_n 0, 1) := by decide +kernel
theorem dX11_parts_33 : decode cX11_parts 33 = .ok (.getfield 36, 3) := by decide +kernel
theorem dX11_parts_36 : decode cX11_parts 36 = .ok (.aload_n 0, 1) := by decide +kernel
theorem dX11_parts_37 : decode cX11_parts 37 = .ok (.getfield 26, 3) := by decide +kernel
theorem dX11_parts_40 : decode cX11_parts 40 = .ok (.invokevirtual 334, 3) := by decide +kernel
theorem dX11_parts_43 : decode cX11_parts 43 = .ok (.aload_n 0, 1) := by decide +kernel
theorem dX11_parts_44 : decode cX11_parts 44 = .ok (.getfield 45, 3) := by decide +kernel
theorem dX11_parts_47 : decode cX11_parts 47 = .ok (.getfield 216, 3) := by decide +kernel
theorem dX11_parts_50 : decode cX11_parts 50 = .ok (.istore_n 2, 1) := by decide +kernel
theorem dX11_parts_51 : decode cX11_parts 51 = .ok (.aload_n 0, 1) := by decide +kernel
theorem dX11_parts_52 : decode cX11_parts 52 = .ok (.getfield 26, 3) := by decide +kernel
theorem dX11_parts_55 : decode cX11_parts 55 = .ok (.aload_n 0, 1) := by decide +kernel
theorem dX11_parts_56 : decode cX11_parts 56 = .ok (.getfield 19, 3) := by decide +kernel
theorem dX11_parts_59 : decode cX11_parts 59 = .ok (.iload_n 1, 1) := by decide +kernel
theorem dX11_parts_60 : decode cX11_parts 60 = .ok (.invokevirtual 270, 3) := by decide +kernel
theorem dX11_parts_63 : decode cX11_parts 63 = .ok (.aload_n 0, 1) := by decide +kernel
theorem dX11_parts_64 : decode cX11_parts 64 = .ok (.getfield 45, 3) := by decide +kernel
theorem dX11_parts_67 : decode cX11_parts 67 = .ok (.aload_n 0, 1) := by decide +kernel
theorem dX11_parts_68 : decode cX11_parts 68 = .ok (.getfield 26, 3) := by decide +kernel
theorem dX11_parts_71 : decode cX11_parts 71 = .ok (.invokevirtual 152, 3) := by decide +kernel
theorem dX11_parts_74 : decode cX11_parts 74 = .ok (.aload_n 0, 1) := by decide +kernel
theorem dX11_parts_75 : decode cX11_parts 75 = .ok (.iload_n 2, 1) := by decide +kernel
theorem dX11_parts_76 : decode cX11_parts 76 = .ok (.aload_n 0, 1) := by decide +kernel
theorem dX11_parts_77 : decode cX11_parts 77 = .ok (.getfield 45, 3) := by decide +kernel
theorem dX11_parts_80 : decode cX11_parts 80 = .ok (.getfield 216, 3) := by decide +kernel
theorem dX11_parts_83 : decode cX11_parts 83 = .ok (.isub, 1) := by decide +kernel
theorem dX11_parts_84 : decode cX11_parts 84 = .ok (.invokevirtual 156, 3) := by decide +kernel
theorem dX11_parts_87 : decode cX11_parts 87 = .ok (.ireturn, 1) := by decide +kernel
theorem dX11_lifts_0 : decode cX11_lifts 0 = .ok (.aload_n 0, 1) := by decide +kernel
theorem dX11_lifts_1 : decode cX11_lifts 1 = .ok (.iload_n 1, 1) := by decide +kernel
theorem dX11_lifts_2 : decode cX11_lifts 2 = .ok (.invokevirtual 207, 3) := by decide +kernel
theorem dX11_lifts_5 : decode cX11_lifts 5 = .ok (.ifCond .ne 9, 3) := by decide +kernel
theorem dX11_lifts_8 : decode cX11_lifts 8 = .ok (.aload_n 0, 1) := by decide +kernel
theorem dX11_lifts_9 : decode cX11_lifts 9 = .ok (.iconst 1, 1) := by decide +kernel
theorem dX11_lifts_10 : decode cX11_lifts 10 = .ok (.invokevirtual 213, 3) := by decide +kernel
theorem dX11_lifts_13 : decode cX11_lifts 13 = .ok (.ireturn, 1) := by decide +kernel
theorem dX11_lifts_14 : decode cX11_lifts 14 = .ok (.aload_n 0, 1) := by decide +kernel
theorem dX11_lifts_15 : decode cX11_lifts 15 = .ok (.getfield 45, 3) := by decide +kernel
theorem dX11_lifts_18 : decode cX11_lifts 18 = .ok (.iload_n 1, 1) := by decide +kernel
theorem dX11_lifts_19 : decode cX11_lifts 19 = .ok (.invokevirtual 277, 3) := by decide +kernel
theorem dX11_lifts_22 : decode cX11_lifts 22 = .ok (.ifCond .ne 9, 3) := by decide +kernel
theorem dX11_lifts_25 : decode cX11_lifts 25 = .ok (.aload_n 0, 1) := by decide +kernel
theorem dX11_lifts_26 : decode cX11_lifts 26 = .ok (.iconst 5, 1) := by decide +kernel
theorem dX11_lifts_27 : decode cX11_lifts 27 = .ok (.invokevirtual 213, 3) := by decide +kernel
theorem dX11_lifts_30 : decode cX11_lifts 30 = .ok (.ireturn, 1) := by decide +kernel
theorem dX11_lifts_31 : decode cX11_lifts 31 = .ok (.aload_n 0, 1) := by decide +kernel
theorem dX11_lifts_32 : decode cX11_lifts 32 = .ok (.getfield 36, 3) := by decide +kernel
theorem dX11_lifts_35 : decode cX11_lifts 35 = .ok (.aload_n 0, 1) := by decide +kernel
theorem dX11_lifts_36 : decode cX11_lifts 36 = .ok (.getfield 26, 3) := by decide +kernel
theorem dX11_lifts_39 : decode cX11_lifts 39 = .ok (.invokevirtual 334, 3) := by decide +kernel
theorem dX11_lifts_42 : decode cX11_lifts 42 = .ok (.aload_n 0, 1) := by decide +kernel
theorem dX11_lifts_43 : decode cX11_lifts 43 = .ok (.getfield 26, 3) := by decide +kernel
theorem dX11_lifts_46 : decode cX11_lifts 46 = .ok (.iload_n 1, 1) := by decide +kernel
theorem dX11_lifts_47 : decode cX11_lifts 47 = .ok (.invokevirtual 280, 3) := by decide +kernel
theorem dX11_lifts_50 : decode cX11_lifts 50 = .ok (.aload_n 0, 1) := by decide +kernel
theorem dX11_lifts_51 : decode cX11_lifts 51 = .ok (.getfield 45, 3) := by decide +kernel
theorem dX11_lifts_54 : decode cX11_lifts 54 = .ok (.aload_n 0, 1) := by decide +kernel
theorem dX11_lifts_55 : decode cX11_lifts 55 = .ok (.getfield 26, 3) := by decide +kernel
theorem dX11_lifts_58 : decode cX11_lifts 58 = .ok (.invokevirtual 152, 3) := by decide +kernel
theorem dX11_lifts_61 : decode cX11_lifts 61 = .ok (.aload_n 0, 1) := by decide +kernel
theorem dX11_lifts_62 : decode cX11_lifts 62 = .ok (.aload_n 0, 1) := by decide +kernel
theorem dX11_lifts_63 : decode cX11_lifts 63 = .ok (.getfield 45, 3) := by decide +kernel
theorem dX11_lifts_66 : decode cX11_lifts 66 = .ok (.iload_n 1, 1) := by decide +kernel
theorem dX11_lifts_67 : decode cX11_lifts 67 = .ok (.invokevirtual 210, 3) := by decide +kernel
theorem dX11_lifts_70 : decode cX11_lifts 70 = .ok (.invokevirtual 156, 3) := by decide +kernel
theorem dX11_lifts_73 : decode cX11_lifts 73 = .ok (.ireturn, 1) := by decide +kernel
theorem dX11_lot_0 : decode cX11_lot 0 = .ok (.aload_n 0, 1) := by decide +kernel
theorem dX11_lot_1 : decode cX11_lot 1 = .ok (.getfield 77, 3) := by decide +kernel
theorem dX11_lot_4 : decode cX11_lot 4 = .ok (.ifCond .ne 9, 3) := by decide +kernel
theorem dX11_lot_7 : decode cX11_lot 7 = .ok (.aload_n 0, 1) := by decide +kernel
theorem dX11_lot_8 : decode cX11_lot 8 = .ok (.iconst 1, 1) := by decide +kernel
theorem dX11_lot_9 : decode cX11_lot 9 = .ok (.invokevirtual 122, 3) := by decide +kernel
theorem dX11_lot_12 : decode cX11_lot 12 = .ok (.ireturn, 1) := by decide +kernel
theorem dX11_lot_13 : decode cX11_lot 13 = .ok (.aload_n 0, 1) := by decide +kernel
theorem dX11_lot_14 : decode cX11_lot 14 = .ok (.getfield 45, 3) := by decide +kernel
theorem dX11_lot_17 : decode cX11_lot 17 = .ok (.getfield 231, 3) := by decide +kernel
theorem dX11_lot_20 : decode cX11_lot 20 = .ok (.ifCond .ne 10, 3) := by decide +kernel
theorem dX11_lot_23 : decode cX11_lot 23 = .ok (.aload_n 0, 1) := by decide +kernel
theorem dX11_lot_24 : decode cX11_lot 24 = .ok (.bipush 6, 2) := by decide +kernel
theorem dX11_lot_26 : decode cX11_lot 26 = .ok (.invokevirtual 122, 3) := by decide +kernel
theorem dX11_lot_29 : decode cX11_lot 29 = .ok (.ireturn, 1) := by decide +kernel
theorem dX11_lot_30 : decode cX11_lot 30 = .ok (.aload_n 0, 1) := by decide +kernel
theorem dX11_lot_31 : decode cX11_lot 31 = .ok (.getfield 36, 3) := by decide +kernel
theorem dX11_lot_34 : decode cX11_lot 34 = .ok (.aload_n 0, 1) := by decide +kernel
theorem dX11_lot_35 : decode cX11_lot 35 = .ok (.getfield 26, 3) := by decide +kernel
theorem dX11_lot_38 : decode cX11_lot 38 = .ok (.invokevirtual 334, 3) := by decide +kernel
theorem dX11_lot_41 : decode cX11_lot 41 = .ok (.aload_n 0, 1) := by decide +kernel
theorem dX11_lot_42 : decode cX11_lot 42 = .ok (.getfield 26, 3) := by decide +kernel
theorem dX11_lot_45 : decode cX11_lot 45 = .ok (.aload_n 0, 1) := by decide +kernel
theorem dX11_lot_46 : decode cX11_lot 46 = .ok (.getfield 26, 3) := by decide +kernel
theorem dX11_lot_49 : decode cX11_lot 49 = .ok (.getfield 340, 3) := by decide +kernel
theorem dX11_lot_52 : decode cX11_lot 52 = .ok (.invokestatic 343, 3) := by decide +kernel
theorem dX11_lot_55 : decode cX11_lot 55 = .ok (.putfield 340, 3) := by decide +kernel
theorem dX11_lot_58 : decode cX11_lot 58 = .ok (.aload_n 0, 1) := by decide +kernel
theorem dX11_lot_59 : decode cX11_lot 59 = .ok (.getfield 45, 3) := by decide +kernel
theorem dX11_lot_62 : decode cX11_lot 62 = .ok (.aload_n 0, 1) := by decide +kernel
theorem dX11_lot_63 : decode cX11_lot 63 = .ok (.getfield 26, 3) := by decide +kernel
theorem dX11_lot_66 : decode cX11_lot 66 = .ok (.getfield 340, 3) := by decide +kernel
theorem dX11_lot_69 : decode cX11_lot 69 = .ok (.invokevirtual 346, 3) := by decide +kernel
theorem dX11_lot_72 : decode cX11_lot 72 = .ok (.istore_n 1, 1) := by decide +kernel
theorem dX11_lot_73 : decode cX11_lot 73 = .ok (.aload_n 0, 1) := by decide +kernel
theorem dX11_lot_74 : decode cX11_lot 74 = .ok (.iload_n 1, 1) := by decide +kernel
theorem dX11_lot_75 : decode cX11_lot 75 = .ok (.invokevirtual 337, 3) := by decide +kernel
theorem dX11_lot_78 : decode cX11_lot 78 = .ok (.aload_n 0, 1) := by decide +kernel
theorem dX11_lot_79 : decode cX11_lot 79 = .ok (.iload_n 1, 1) := by decide +kernel
theorem dX11_lot_80 : decode cX11_lot 80 = .ok (.invokevirtual 156, 3) := by decide +kernel
theorem dX11_lot_83 : decode cX11_lot 83 = .ok (.ireturn, 1) := by decide +kernel
theorem dX11_call_0 : decode cX11_call 0 = .ok (.aload_n 0, 1) := by decide +kernel
theorem dX11_call_1 : decode cX11_call 1 = .ok (.getfield 77, 3) := by decide +kernel
theorem dX11_call_4 : decode cX11_call 4 = .ok (.ifCond .ne 9, 3) := by decide +kernel
theorem dX11_call_7 : decode cX11_call 7 = .ok (.aload_n 0, 1) := by decide +kernel
theorem dX11_call_8 : decode cX11_call 8 = .ok (.iconst 1, 1) := by decide +kernel
theorem dX11_call_9 : decode cX11_call 9 = .ok (.invokevirtual 122, 3) := by decide +kernel
theorem dX11_call_12 : decode cX11_call 12 = .ok (.ireturn, 1) := by decide +kernel
theorem dX11_call_13 : decode cX11_call 13 = .ok (.aload_n 0, 1) := by decide +kernel
theorem dX11_call_14 : decode cX11_call 14 = .ok (.getfield 59, 3) := by decide +kernel
theorem dX11_call_17 : decode cX11_call 17 = .ok (.aload_n 0, 1) := by decide +kernel
theorem dX11_call_18 : decode cX11_call 18 = .ok (.getfield 45, 3) := by decide +kernel
theorem dX11_call_21 : decode cX11_call 21 = .ok (.aload_n 0, 1) := by decide +kernel
theorem dX11_call_22 : decode cX11_call 22 = .ok (.getfield 26, 3) := by decide +kernel
theorem dX11_call_25 : decode cX11_call 25 = .ok (.invokevirtual 246, 3) := by decide +kernel
theorem dX11_call_28 : decode cX11_call 28 = .ok (.istore_n 1, 1) := by decide +kernel
theorem dX11_call_29 : decode cX11_call 29 = .ok (.iload_n 1, 1) := by decide +kernel
theorem dX11_call_30 : decode cX11_call 30 = .ok (.bipush (-2), 2) := by decide +kernel
theorem dX11_call_32 : decode cX11_call 32 = .ok (.if_icmp .ne 10, 3) := by decide +kernel
theorem dX11_call_35 : decode cX11_call 35 = .ok (.aload_n 0, 1) := by decide +kernel
theorem dX11_call_36 : decode cX11_call 36 = .ok (.bipush 6, 2) := by decide +kernel
theorem dX11_call_38 : decode cX11_call 38 = .ok (.invokevirtual 122, 3) := by decide +kernel
theorem dX11_call_41 : decode cX11_call 41 = .ok (.ireturn, 1) := by decide +kernel
theorem dX11_call_42 : decode cX11_call 42 = .ok (.aload_n 0, 1) := by decide +kernel
theorem dX11_call_43 : decode cX11_call 43 = .ok (.getfield 36, 3) := by decide +kernel
theorem dX11_call_46 : decode cX11_call 46 = .ok (.aload_n 0, 1) := by decide +kernel
theorem dX11_call_47 : decode cX11_call 47 = .ok (.getfield 26, 3) := by decide +kernel
theorem dX11_call_50 : decode cX11_call 50 = .ok (.invokevirtual 334, 3) := by decide +kernel
theorem dX11_call_53 : decode cX11_call 53 = .ok (.aload_n 0, 1) := by decide +kernel
theorem dX11_call_54 : decode cX11_call 54 = .ok (.iload_n 1, 1) := by decide +kernel
theorem dX11_call_55 : decode cX11_call 55 = .ok (.invokevirtual 337, 3) := by decide +kernel
theorem dX11_call_58 : decode cX11_call 58 = .ok (.aload_n 0, 1) := by decide +kernel
theorem dX11_call_59 : decode cX11_call 59 = .ok (.iload_n 1, 1) := by decide +kernel
theorem dX11_call_60 : decode cX11_call 60 = .ok (.invokevirtual 156, 3) := by decide +kernel
theorem dX11_call_63 : decode cX11_call 63 = .ok (.ireturn, 1) := by decide +kernel
theorem dX11_seed_0 : decode cX11_seed 0 = .ok (.aload_n 0, 1) := by decide +kernel
theorem dX11_seed_1 : decode cX11_seed 1 = .ok (.getfield 77, 3) := by decide +kernel
theorem dX11_seed_4 : decode cX11_seed 4 = .ok (.ifCond .ne 9, 3) := by decide +kernel
theorem dX11_seed_7 : decode cX11_seed 7 = .ok (.aload_n 0, 1) := by decide +kernel
theorem dX11_seed_8 : decode cX11_seed 8 = .ok (.iconst 1, 1) := by decide +kernel
theorem dX11_seed_9 : decode cX11_seed 9 = .ok (.invokevirtual 349, 3) := by decide +kernel
theorem dX11_seed_12 : decode cX11_seed 12 = .ok (.ireturn, 1) := by decide +kernel
theorem dX11_seed_13 : decode cX11_seed 13 = .ok (.iload_n 1, 1) := by decide +kernel
theorem dX11_seed_14 : decode cX11_seed 14 = .ok (.invokestatic 302, 3) := by decide +kernel
theorem dX11_seed_17 : decode cX11_seed 17 = .ok (.ifCond .ne 9, 3) := by decide +kernel
theorem dX11_seed_20 : decode cX11_seed 20 = .ok (.aload_n 0, 1) := by decide +kernel
theorem dX11_seed_21 : decode cX11_seed 21 = .ok (.iconst 2, 1) := by decide +kernel
theorem dX11_seed_22 : decode cX11_seed 22 = .ok (.invokevirtual 349, 3) := by decide +kernel
theorem dX11_seed_25 : decode cX11_seed 25 = .ok (.ireturn, 1) := by decide +kernel
theorem dX11_seed_26 : decode cX11_seed 26 = .ok (.aload_n 0, 1) := by decide +kernel
theorem dX11_seed_27 : decode cX11_seed 27 = .ok (.getfield 26, 3) := by decide +kernel
theorem dX11_seed_30 : decode cX11_seed 30 = .ok (.iload_n 1, 1) := by decide +kernel
theorem dX11_seed_31 : decode cX11_seed 31 = .ok (.putfield 340, 3) := by decide +kernel
theorem dX11_seed_34 : decode cX11_seed 34 = .ok (.aload_n 0, 1) := by decide +kernel
theorem dX11_seed_35 : decode cX11_seed 35 = .ok (.iconst 0, 1) := by decide +kernel
theorem dX11_seed_36 : decode cX11_seed 36 = .ok (.putfield 81, 3) := by decide +kernel
theorem dX11_seed_39 : decode cX11_seed 39 = .ok (.iconst 1, 1) := by decide +kernel
theorem dX11_seed_40 : decode cX11_seed 40 = .ok (.ireturn, 1) := by decide +kernel
theorem dX11_undo_0 : decode cX11_undo 0 = .ok (.aload_n 0, 1) := by decide +kernel
theorem dX11_undo_1 : decode cX11_undo 1 = .ok (.getfield 36, 3) := by decide +kernel
theorem dX11_undo_4 : decode cX11_undo 4 = .ok (.aload_n 0, 1) := by decide +kernel
theorem dX11_undo_5 : decode cX11_undo 5 = .ok (.getfield 26, 3) := by decide +kernel
theorem dX11_undo_8 : decode cX11_undo 8 = .ok (.invokevirtual 352, 3) := by decide +kernel
theorem dX11_undo_11 : decode cX11_undo 11 = .ok (.ifCond .ne 10, 3) := by decide +kernel
theorem dX11_undo_14 : decode cX11_undo 14 = .ok (.aload_n 0, 1) := by decide +kernel
theorem dX11_undo_15 : decode cX11_undo 15 = .ok (.bipush 6, 2) := by decide +kernel
theorem dX11_undo_17 : decode cX11_undo 17 = .ok (.invokevirtual 349, 3) := by decide +kernel
theorem dX11_undo_20 : decode cX11_undo 20 = .ok (.ireturn, 1) := by decide +kernel
theorem dX11_undo_21 : decode cX11_undo 21 = .ok (.aload_n 0, 1) := by decide +kernel
theorem dX11_undo_22 : decode cX11_undo 22 = .ok (.getfield 45, 3) := by decide +kernel
theorem dX11_undo_25 : decode cX11_undo 25 = .ok (.aload_n 0, 1) := by decide +kernel
theorem dX11_undo_26 : decode cX11_undo 26 = .ok (.getfield 26, 3) := by decide +kernel
theorem dX11_undo_29 : decode cX11_undo 29 = .ok (.invokevirtual 152, 3) := by decide +kernel
theorem dX11_undo_32 : decode cX11_undo 32 = .ok (.aload_n 0, 1) := by decide +kernel
theorem dX11_undo_33 : decode cX11_undo 33 = .ok (.iconst 0, 1) := by decide +kernel
theorem dX11_undo_34 : decode cX11_undo 34 = .ok (.putfield 81, 3) := by decide +kernel
theorem dX11_undo_37 : decode cX11_undo 37 = .ok (.iconst 1, 1) := by decide +kernel
theorem dX11_undo_38 : decode cX11_undo 38 = .ok (.ireturn, 1) := by decide +kernel
theorem dX11_mark_0 : decode cX11_mark 0 = .ok (.aload_n 0, 1) := by decide +kernel
theorem dX11_mark_1 : decode cX11_mark 1 = .ok (.getfield 77, 3) := by decide +kernel
theorem dX11_mark_4 : decode cX11_mark 4 = .ok (.ifCond .ne 9, 3) := by decide +kernel
theorem dX11_mark_7 : decode cX11_mark 7 = .ok (.aload_n 0, 1) := by decide +kernel
theorem dX11_mark_8 : decode cX11_mark 8 = .ok (.iconst 1, 1) := by decide +kernel
theorem dX11_mark_9 : decode cX11_mark 9 = .ok (.invokevirtual 122, 3) := by decide +kernel
theorem dX11_mark_12 : decode cX11_mark 12 = .ok (.ireturn, 1) := by decide +kernel
theorem dX11_mark_13 : decode cX11_mark 13 = .ok (.aload_n 0, 1) := by decide +kernel
theorem dX11_mark_14 : decode cX11_mark 14 = .ok (.getfield 36, 3) := by decide +kernel
theorem dX11_mark_17 : decode cX11_mark 17 = .ok (.aload_n 0, 1) := by decide +kernel
theorem dX11_mark_18 : decode cX11_mark 18 = .ok (.getfield 26, 3) := by decide +kernel
theorem dX11_mark_21 : decode cX11_mark 21 = .ok (.invokevirtual 356, 3) := by decide +kernel
theorem dX11_mark_24 : decode cX11_mark 24 = .ok (.istore_n 1, 1) := by decide +kernel
theorem dX11_mark_25 : decode cX11_mark 25 = .ok (.iload_n 1, 1) := by decide +kernel
theorem dX11_mark_26 : decode cX11_mark 26 = .ok (.iconst (-1), 1) := by decide +kernel
theorem dX11_mark_27 : decode cX11_mark 27 = .ok (.if_icmp .ne 11, 3) := by decide +kernel
theorem dX11_mark_30 : decode cX11_mark 30 = .ok (.aload_n 0, 1) := by decide +kernel
theorem dX11_mark_31 : decode cX11_mark 31 = .ok (.iconst 3, 1) := by decide +kernel
theorem dX11_mark_32 : decode cX11_mark 32 = .ok (.invokevirtual 122, 3) := by decide +kernel
theorem dX11_mark_35 : decode cX11_mark 35 = .ok (.goto 8, 3) := by decide +kernel
theorem dX11_mark_38 : decode cX11_mark 38 = .ok (.aload_n 0, 1) := by decide +kernel
theorem dX11_mark_39 : decode cX11_mark 39 = .ok (.iload_n 1, 1) := by decide +kernel
theorem dX11_mark_40 : decode cX11_mark 40 = .ok (.invokevirtual 156, 3) := by decide +kernel
theorem dX11_mark_43 : decode cX11_mark 43 = .ok (.ireturn, 1) := by decide +kernel
theorem dX11_back_0 : decode cX11_back 0 = .ok (.aload_n 0, 1) := by decide +kernel
theorem dX11_back_1 : decode cX11_back 1 = .ok (.getfield 36, 3) := by decide +kernel
theorem dX11_back_4 : decode cX11_back 4 = .ok (.iload_n 1, 1) := by decide +kernel
theorem dX11_back_5 : decode cX11_back 5 = .ok (.aload_n 0, 1) := by decide +kernel
theorem dX11_back_6 : decode cX11_back 6 = .ok (.getfield 26, 3) := by decide +kernel
theorem dX11_back_9 : decode cX11_back 9 = .ok (.invokevirtual 360, 3) := by decide +kernel
theorem dX11_back_12 : decode cX11_back 12 = .ok (.ifCond .ne 9, 3) := by decide +kernel
theorem dX11_back_15 : decode cX11_back 15 = .ok (.aload_n 0, 1) := by decide +kernel
theorem dX11_back_16 : decode cX11_back 16 = .ok (.iconst 1, 1) := by decide +kernel
theorem dX11_back_17 : decode cX11_back 17 = .ok (.invokevirtual 349, 3) := by decide +kernel
theorem dX11_back_20 : decode cX11_back 20 = .ok (.ireturn, 1) := by decide +kernel
theorem dX11_back_21 : decode cX11_back 21 = .ok (.aload_n 0, 1) := by decide +kernel
theorem dX11_back_22 : decode cX11_back 22 = .ok (.getfield 45, 3) := by decide +kernel
theorem dX11_back_25 : decode cX11_back 25 = .ok (.aload_n 0, 1) := by decide +kernel
theorem dX11_back_26 : decode cX11_back 26 = .ok (.getfield 26, 3) := by decide +kernel
theorem dX11_back_29 : decode cX11_back 29 = .ok (.invokevirtual 152, 3) := by decide +kernel
theorem dX11_back_32 : decode cX11_back 32 = .ok (.aload_n 0, 1) := by decide +kernel
theorem dX11_back_33 : decode cX11_back 33 = .ok (.iconst 0, 1) := by decide +kernel
theorem dX11_back_34 : decode cX11_back 34 = .ok (.putfield 81, 3) := by decide +kernel
theorem dX11_back_37 : decode cX11_back 37 = .ok (.iconst 1, 1) := by decide +kernel
theorem dX11_back_38 : decode cX11_back 38 = .ok (.ireturn, 1) := by decide +kernel
theorem dX11_led_0 : decode cX11_led 0 = .ok (.iconst 0, 1) := by decide +kernel
theorem dX11_led_1 : decode cX11_led 1 = .ok (.istore_n 2, 1) := by decide +kernel
theorem dX11_led_2 : decode cX11_led 2 = .ok (.iconst 0, 1) := by decide +kernel
theorem dX11_led_3 : decode cX11_led 3 = .ok (.istore_n 3, 1) := by decide +kernel
theorem dX11_led_4 : decode cX11_led 4 = .ok (.aload_n 0, 1) := by decide +kernel
theorem dX11_led_5 : decode cX11_led 5 = .ok (.getfield 77, 3) := by decide +kernel
theorem dX11_led_8 : decode cX11_led 8 = .ok (.ifCond .eq 45, 3) := by decide +kernel
theorem dX11_led_11 : decode cX11_led 11 = .ok (.iload_n 1, 1) := by decide +kernel
theorem dX11_led_12 : decode cX11_led 12 = .ok (.ifCond .lt 41, 3) := by decide +kernel
theorem dX11_led_15 : decode cX11_led 15 = .ok (.iload_n 3, 1) := by decide +kernel
theorem dX11_led_16 : decode cX11_led 16 = .ok (.aload_n 0, 1) := by decide +kernel
theorem dX11_led_17 : decode cX11_led 17 = .ok (.getfield 19, 3) := by decide +kernel
theorem dX11_led_20 : decode cX11_led 20 = .ok (.getfield 94, 3) := by decide +kernel
theorem dX11_led_23 : decode cX11_led 23 = .ok (.if_icmp .ge 30, 3) := by decide +kernel
theorem dX11_led_26 : decode cX11_led 26 = .ok (.aload_n 0, 1) := by decide +kernel
theorem dX11_led_27 : decode cX11_led 27 = .ok (.getfield 45, 3) := by decide +kernel
theorem dX11_led_30 : decode cX11_led 30 = .ok (.iload_n 3, 1) := by decide +kernel
theorem dX11_led_31 : decode cX11_led 31 = .ok (.invokevirtual 277, 3) := by decide +kernel
theorem dX11_led_34 : decode cX11_led 34 = .ok (.ifCond .eq 13, 3) := by decide +kernel
theorem dX11_led_37 : decode cX11_led 37 = .ok (.iload_n 2, 1) := by decide +kernel
theorem dX11_led_38 : decode cX11_led 38 = .ok (.iload_n 1, 1) := by decide +kernel
theorem dX11_led_39 : decode cX11_led 39 = .ok (.if_icmp .ne 5, 3) := by decide +kernel
theorem dX11_led_42 : decode cX11_led 42 = .ok (.iload_n 3, 1) := by decide +kernel
theorem dX11_led_43 : decode cX11_led 43 = .ok (.ireturn, 1) := by decide +kernel
theorem dX11_led_44 : decode cX11_led 44 = .ok (.iinc 2 1, 3) := by decide +kernel
theorem dX11_led_47 : decode cX11_led 47 = .ok (.iinc 3 1, 3) := by decide +kernel
theorem dX11_led_50 : decode cX11_led 50 = .ok (.goto (-46), 3) := by decide +kernel
theorem dX11_led_53 : decode cX11_led 53 = .ok (.new 364, 3) := by decide +kernel
theorem dX11_led_56 : decode cX11_led 56 = .ok (.dup, 1) := by decide +kernel
theorem dX11_led_57 : decode cX11_led 57 = .ok (.ldc_w 366, 3) := by decide +kernel
theorem dX11_led_60 : decode cX11_led 60 = .ok (.invokespecial 368, 3) := by decide +kernel
theorem dX11_led_63 : decode cX11_led 63 = .ok (.athrow, 1) := by decide +kernel
theorem dX11_size_0 : decode cX11_size 0 = .ok (.iload_n 1, 1) := by decide +kernel
theorem dX11_size_1 : decode cX11_size 1 = .ok (.ifCond .lt 9, 3) := by decide +kernel
theorem dX11_size_4 : decode cX11_size 4 = .ok (.iload_n 1, 1) := by decide +kernel
theorem dX11_size_5 : decode cX11_size 5 = .ok (.bipush 11, 2) := by decide +kernel
theorem dX11_size_7 : decode cX11_size 7 = .ok (.if_icmp .le 5, 3) := by decide +kernel
theorem dX11_size_10 : decode cX11_size 10 = .ok (.iconst (-1), 1) := by decide +kernel
theorem dX11_size_11 : decode cX11_size 11 = .ok (.ireturn, 1) := by decide +kernel
theorem dX11_size_12 : decode cX11_size 12 = .ok (.iload_n 1, 1) := by decide +kernel
theorem dX11_size_13 : decode cX11_size 13 = .ok (.bipush 11, 2) := by decide +kernel
theorem dX11_size_15 : decode cX11_size 15 = .ok (.if_icmp .ne 14, 3) := by decide +kernel
theorem dX11_size_18 : decode cX11_size 18 = .ok (.aload_n 0, 1) := by decide +kernel
theorem dX11_size_19 : decode cX11_size 19 = .ok (.getfield 10, 3) := by decide +kernel
theorem dX11_size_22 : decode cX11_size 22 = .ok (.getfield 105, 3) := by decide +kernel
theorem dX11_size_25 : decode cX11_size 25 = .ok (.getfield 119, 3) := by decide +kernel
theorem dX11_size_28 : decode cX11_size 28 = .ok (.ireturn, 1) := by decide +kernel
theorem dX11_size_29 : decode cX11_size 29 = .ok (.aload_n 0, 1) := by decide +kernel
theorem dX11_size_30 : decode cX11_size 30 = .ok (.getfield 77, 3) := by decide +kernel
theorem dX11_size_33 : decode cX11_size 33 = .ok (.ifCond .ne 5, 3) := by decide +kernel
theorem dX11_size_36 : decode cX11_size 36 = .ok (.iconst 0, 1) := by decide +kernel
theorem dX11_size_37 : decode cX11_size 37 = .ok (.ireturn, 1) := by decide +kernel
theorem dX11_size_38 : decode cX11_size 38 = .ok (.iload_n 1, 1) := by decide +kernel
theorem dX11_size_39 : decode cX11_size 39 = .ok (.bipush 7, 2) := by decide +kernel
theorem dX11_size_41 : decode cX11_size 41 = .ok (.if_icmp .ge 11, 3) := by decide +kernel
theorem dX11_size_44 : decode cX11_size 44 = .ok (.aload_n 0, 1) := by decide +kernel
theorem dX11_size_45 : decode cX11_size 45 = .ok (.iload_n 1, 1) := by decide +kernel
theorem dX11_size_46 : decode cX11_size 46 = .ok (.invokevirtual 371, 3) := by decide +kernel
theorem dX11_size_49 : decode cX11_size 49 = .ok (.goto 8, 3) := by decide +kernel
theorem dX11_size_52 : decode cX11_size 52 = .ok (.aload_n 0, 1) := by decide +kernel
theorem dX11_size_53 : decode cX11_size 53 = .ok (.iload_n 1, 1) := by decide +kernel
theorem dX11_size_54 : decode cX11_size 54 = .ok (.invokevirtual 374, 3) := by decide +kernel
theorem dX11_size_57 : decode cX11_size 57 = .ok (.ireturn, 1) := by decide +kernel
theorem dX11_toldSize_0 : decode cX11_toldSize 0 = .ok (.iload_n 1, 1) := by decide +kernel
theorem dX11_toldSize_1 : decode cX11_toldSize 1 = .ok (.tableswitch 87 0 5 #[39, 47, 55, 63, 71, 79], 39) := by decide +kernel
theorem dX11_toldSize_40 : decode cX11_toldSize 40 = .ok (.aload_n 0, 1) := by decide +kernel
theorem dX11_toldSize_41 : decode cX11_toldSize 41 = .ok (.getfield 19, 3) := by decide +kernel
theorem dX11_toldSize_44 : decode cX11_toldSize 44 = .ok (.getfield 85, 3) := by decide +kernel
theorem dX11_toldSize_47 : decode cX11_toldSize 47 = .ok (.ireturn, 1) := by decide +kernel
theorem dX11_toldSize_48 : decode cX11_toldSize 48 = .ok (.aload_n 0, 1) := by decide +kernel
theorem dX11_toldSize_49 : decode cX11_toldSize 49 = .ok (.getfield 19, 3) := by decide +kernel
theorem dX11_toldSize_52 : decode cX11_toldSize 52 = .ok (.getfield 88, 3) := by decide +kernel
theorem dX11_toldSize_55 : decode cX11_toldSize 55 = .ok (.ireturn, 1) := by decide +kernel
theorem dX11_toldSize_56 : decode cX11_toldSize 56 = .ok (.aload_n 0, 1) := by decide +kernel
theorem dX11_toldSize_57 : decode cX11_toldSize 57 = .ok (.getfield 19, 3) := by decide +kernel
theorem dX11_toldSize_60 : decode cX11_toldSize 60 = .ok (.getfield 91, 3) := by decide +kernel
theorem dX11_toldSize_63 : decode cX11_toldSize 63 = .ok (.ireturn, 1) := by decide +kernel
theorem dX11_toldSize_64 : decode cX11_toldSize 64 = .ok (.aload_n 0, 1) := by decide +kernel
theorem dX11_toldSize_65 : decode cX11_toldSize 65 = .ok (.getfield 19, 3) := by decide +kernel
theorem dX11_toldSize_68 : decode cX11_toldSize 68 = .ok (.getfield 94, 3) := by decide +kernel
theorem dX11_toldSize_71 : decode cX11_toldSize 71 = .ok (.ireturn, 1) := by decide +kernel
theorem dX11_toldSize_72 : decode cX11_toldSize 72 = .ok (.aload_n 0, 1) := by decide +kernel
theorem dX11_toldSize_73 : decode cX11_toldSize 73 = .ok (.getfield 19, 3) := by decide +kernel
theorem dX11_toldSize_76 : decode cX11_toldSize 76 = .ok (.getfield 97, 3) := by decide +kernel
theorem dX11_toldSize_79 : decode cX11_toldSize 79 = .ok (.ireturn, 1) := by decide +kernel
theorem dX11_toldSize_80 : decode cX11_toldSize 80 = .ok (.aload_n 0, 1) := by decide +kernel
theorem dX11_toldSize_81 : decode cX11_toldSize 81 = .ok (.getfield 19, 3) := by decide +kernel
theorem dX11_toldSize_84 : decode cX11_toldSize 84 = .ok (.getfield 377, 3) := by decide +kernel
theorem dX11_toldSize_87 : decode cX11_toldSize 87 = .ok (.ireturn, 1) := by decide +kernel
theorem dX11_toldSize_88 : decode cX11_toldSize 88 = .ok (.aload_n 0, 1) := by decide +kernel
theorem dX11_toldSize_89 : decode cX11_toldSize 89 = .ok (.getfield 19, 3) := by decide +kernel
theorem dX11_toldSize_92 : decode cX11_toldSize 92 = .ok (.getfield 380, 3) := by decide +kernel
theorem dX11_toldSize_95 : decode cX11_toldSize 95 = .ok (.ifCond .eq 7, 3) := by decide +kernel
theorem dX11_toldSize_98 : decode cX11_toldSize 98 = .ok (.iconst 1, 1) := by decide +kernel
theorem dX11_toldSize_99 : decode cX11_toldSize 99 = .ok (.goto 4, 3) := by decide +kernel
theorem dX11_toldSize_102 : decode cX11_toldSize 102 = .ok (.iconst 0, 1) := by decide +kernel
theorem dX11_toldSize_103 : decode cX11_toldSize 103 = .ok (.ireturn, 1) := by decide +kernel
theorem dX11_changingSize_0 : decode cX11_changingSize 0 = .ok (.iload_n 1, 1) := by decide +kernel
theorem dX11_changingSize_1 : decode cX11_changingSize 1 = .ok (.tableswitch 51 7 9 #[27, 35, 43], 27) := by decide +kernel
theorem dX11_changingSize_28 : decode cX11_changingSize 28 = .ok (.aload_n 0, 1) := by decide +kernel
theorem dX11_changingSize_29 : decode cX11_changingSize 29 = .ok (.getfield 26, 3) := by decide +kernel
theorem dX11_changingSize_32 : decode cX11_changingSize 32 = .ok (.getfield 261, 3) := by decide +kernel
theorem dX11_changingSize_35 : decode cX11_changingSize 35 = .ok (.ireturn, 1) := by decide +kernel
theorem dX11_changingSize_36 : decode cX11_changingSize 36 = .ok (.aload_n 0, 1) := by decide +kernel
theorem dX11_changingSize_37 : decode cX11_changingSize 37 = .ok (.getfield 26, 3) := by decide +kernel
theorem dX11_changingSize_40 : decode cX11_changingSize 40 = .ok (.getfield 340, 3) := by decide +kernel
theorem dX11_changingSize_43 : decode cX11_changingSize 43 = .ok (.ireturn, 1) := by decide +kernel
theorem dX11_changingSize_44 : decode cX11_changingSize 44 = .ok (.aload_n 0, 1) := by decide +kernel
theorem dX11_changingSize_45 : decode cX11_changingSize 45 = .ok (.getfield 36, 3) := by decide +kernel
theorem dX11_changingSize_48 : decode cX11_changingSize 48 = .ok (.getfield 383, 3) := by decide +kernel
theorem dX11_changingSize_51 : decode cX11_changingSize 51 = .ok (.ireturn, 1) := by decide +kernel
theorem dX11_changingSize_52 : decode cX11_changingSize 52 = .ok (.aload_n 0, 1) := by decide +kernel
theorem dX11_changingSize_53 : decode cX11_changingSize 53 = .ok (.getfield 36, 3) := by decide +kernel
theorem dX11_changingSize_56 : decode cX11_changingSize 56 = .ok (.getfield 386, 3) := by decide +kernel
theorem dX11_changingSize_59 : decode cX11_changingSize 59 = .ok (.ireturn, 1) := by decide +kernel
theorem dX11_trouble_0 : decode cX11_trouble 0 = .ok (.aload_n 0, 1) := by decide +kernel
theorem dX11_trouble_1 : decode cX11_trouble 1 = .ok (.getfield 81, 3) := by decide +kernel
theorem dX11_trouble_4 : decode cX11_trouble 4 = .ok (.ireturn, 1) := by decide +kernel
