theorem dX11_orNone_10 : decode cX11_orNone 10 = .ok (.iload_n 0, 1) := by decide +kernel
theorem dX11_orNone_11 : decode cX11_orNone 11 = .ok (.ireturn, 1) := by decide +kernel
theorem dX11_opposite_0 : decode cX11_opposite 0 = .ok (.iload_n 0, 1) := by decide +kernel
theorem dX11_opposite_1 : decode cX11_opposite 1 = .ok (.iconst 4, 1) := by decide +kernel
theorem dX11_opposite_2 : decode cX11_opposite 2 = .ok (.iadd, 1) := by decide +kernel
theorem dX11_opposite_3 : decode cX11_opposite 3 = .ok (.bipush 8, 2) := by decide +kernel
theorem dX11_opposite_5 : decode cX11_opposite 5 = .ok (.irem, 1) := by decide +kernel
theorem dX11_opposite_6 : decode cX11_opposite 6 = .ok (.ireturn, 1) := by decide +kernel
theorem dX11_isWaySort_0 : decode cX11_isWaySort 0 = .ok (.iload_n 0, 1) := by decide +kernel
theorem dX11_isWaySort_1 : decode cX11_isWaySort 1 = .ok (.bipush 100, 2) := by decide +kernel
theorem dX11_isWaySort_3 : decode cX11_isWaySort 3 = .ok (.irem, 1) := by decide +kernel
theorem dX11_isWaySort_4 : decode cX11_isWaySort 4 = .ok (.istore_n 1, 1) := by decide +kernel
theorem dX11_isWaySort_5 : decode cX11_isWaySort 5 = .ok (.iload_n 0, 1) := by decide +kernel
theorem dX11_isWaySort_6 : decode cX11_isWaySort 6 = .ok (.sipush 400, 3) := by decide +kernel
theorem dX11_isWaySort_9 : decode cX11_isWaySort 9 = .ok (.invokestatic 82, 3) := by decide +kernel
theorem dX11_isWaySort_12 : decode cX11_isWaySort 12 = .ok (.ifCond .eq 18, 3) := by decide +kernel
theorem dX11_isWaySort_15 : decode cX11_isWaySort 15 = .ok (.iload_n 1, 1) := by decide +kernel
theorem dX11_isWaySort_16 : decode cX11_isWaySort 16 = .ok (.iconst 1, 1) := by decide +kernel
theorem dX11_isWaySort_17 : decode cX11_isWaySort 17 = .ok (.if_icmp .lt 13, 3) := by decide +kernel
theorem dX11_isWaySort_20 : decode cX11_isWaySort 20 = .ok (.iload_n 1, 1) := by decide +kernel
theorem dX11_isWaySort_21 : decode cX11_isWaySort 21 = .ok (.bipush 30, 2) := by decide +kernel
theorem dX11_isWaySort_23 : decode cX11_isWaySort 23 = .ok (.if_icmp .gt 7, 3) := by decide +kernel
theorem dX11_isWaySort_26 : decode cX11_isWaySort 26 = .ok (.iconst 1, 1) := by decide +kernel
theorem dX11_isWaySort_27 : decode cX11_isWaySort 27 = .ok (.goto 4, 3) := by decide +kernel
theorem dX11_isWaySort_30 : decode cX11_isWaySort 30 = .ok (.iconst 0, 1) := by decide +kernel
theorem dX11_isWaySort_31 : decode cX11_isWaySort 31 = .ok (.ireturn, 1) := by decide +kernel
theorem dX11_isTrip_0 : decode cX11_isTrip 0 = .ok (.aload_n 0, 1) := by decide +kernel
theorem dX11_isTrip_1 : decode cX11_isTrip 1 = .ok (.getfield 12, 3) := by decide +kernel
theorem dX11_isTrip_4 : decode cX11_isTrip 4 = .ok (.iload_n 1, 1) := by decide +kernel
theorem dX11_isTrip_5 : decode cX11_isTrip 5 = .ok (.invokevirtual 77, 3) := by decide +kernel
theorem dX11_isTrip_8 : decode cX11_isTrip 8 = .ok (.ifCond .eq 26, 3) := by decide +kernel
theorem dX11_isTrip_11 : decode cX11_isTrip 11 = .ok (.aload_n 0, 1) := by decide +kernel
theorem dX11_isTrip_12 : decode cX11_isTrip 12 = .ok (.getfield 12, 3) := by decide +kernel
theorem dX11_isTrip_15 : decode cX11_isTrip 15 = .ok (.iload_n 2, 1) := by decide +kernel
theorem dX11_isTrip_16 : decode cX11_isTrip 16 = .ok (.invokevirtual 146, 3) := by decide +kernel
theorem dX11_isTrip_19 : decode cX11_isTrip 19 = .ok (.ifCond .eq 15, 3) := by decide +kernel
theorem dX11_isTrip_22 : decode cX11_isTrip 22 = .ok (.iload_n 3, 1) := by decide +kernel
theorem dX11_isTrip_23 : decode cX11_isTrip 23 = .ok (.iconst 2, 1) := by decide +kernel
theorem dX11_isTrip_24 : decode cX11_isTrip 24 = .ok (.invokestatic 82, 3) := by decide +kernel
theorem dX11_isTrip_27 : decode cX11_isTrip 27 = .ok (.ifCond .eq 7, 3) := by decide +kernel
theorem dX11_isTrip_30 : decode cX11_isTrip 30 = .ok (.iconst 1, 1) := by decide +kernel
theorem dX11_isTrip_31 : decode cX11_isTrip 31 = .ok (.goto 4, 3) := by decide +kernel
theorem dX11_isTrip_34 : decode cX11_isTrip 34 = .ok (.iconst 0, 1) := by decide +kernel
theorem dX11_isTrip_35 : decode cX11_isTrip 35 = .ok (.ireturn, 1) := by decide +kernel
theorem dX11_roadsFor_0 : decode cX11_roadsFor 0 = .ok (.aload_n 0, 1) := by decide +kernel
theorem dX11_roadsFor_1 : decode cX11_roadsFor 1 = .ok (.getfield 33, 3) := by decide +kernel
theorem dX11_roadsFor_4 : decode cX11_roadsFor 4 = .ok (.iload_n 1, 1) := by decide +kernel
theorem dX11_roadsFor_5 : decode cX11_roadsFor 5 = .ok (.aaload, 1) := by decide +kernel
theorem dX11_roadsFor_6 : decode cX11_roadsFor 6 = .ok (.getfield 339, 3) := by decide +kernel
theorem dX11_roadsFor_9 : decode cX11_roadsFor 9 = .ok (.astore_n 2, 1) := by decide +kernel
theorem dX11_roadsFor_10 : decode cX11_roadsFor 10 = .ok (.aload_n 2, 1) := by decide +kernel
theorem dX11_roadsFor_11 : decode cX11_roadsFor 11 = .ok (.aload_n 0, 1) := by decide +kernel
theorem dX11_roadsFor_12 : decode cX11_roadsFor 12 = .ok (.getfield 12, 3) := by decide +kernel
theorem dX11_roadsFor_15 : decode cX11_roadsFor 15 = .ok (.invokevirtual 418, 3) := by decide +kernel
theorem dX11_roadsFor_18 : decode cX11_roadsFor 18 = .ok (.aload_n 2, 1) := by decide +kernel
theorem dX11_roadsFor_19 : decode cX11_roadsFor 19 = .ok (.areturn, 1) := by decide +kernel
theorem dX11_walkOf_0 : decode cX11_walkOf 0 = .ok (.aload_n 0, 1) := by decide +kernel
theorem dX11_walkOf_1 : decode cX11_walkOf 1 = .ok (.getfield 33, 3) := by decide +kernel
theorem dX11_walkOf_4 : decode cX11_walkOf 4 = .ok (.iload_n 3, 1) := by decide +kernel
theorem dX11_walkOf_5 : decode cX11_walkOf 5 = .ok (.aaload, 1) := by decide +kernel
theorem dX11_walkOf_6 : decode cX11_walkOf 6 = .ok (.astore 4, 2) := by decide +kernel
theorem dX11_walkOf_8 : decode cX11_walkOf 8 = .ok (.aload 4, 2) := by decide +kernel
theorem dX11_walkOf_10 : decode cX11_walkOf 10 = .ok (.aload_n 0, 1) := by decide +kernel
theorem dX11_walkOf_11 : decode cX11_walkOf 11 = .ok (.getfield 12, 3) := by decide +kernel
theorem dX11_walkOf_14 : decode cX11_walkOf 14 = .ok (.invokevirtual 333, 3) := by decide +kernel
theorem dX11_walkOf_17 : decode cX11_walkOf 17 = .ok (.aload 4, 2) := by decide +kernel
theorem dX11_walkOf_19 : decode cX11_walkOf 19 = .ok (.iload_n 2, 1) := by decide +kernel
theorem dX11_walkOf_20 : decode cX11_walkOf 20 = .ok (.invokevirtual 336, 3) := by decide +kernel
theorem dX11_walkOf_23 : decode cX11_walkOf 23 = .ok (.aload 4, 2) := by decide +kernel
theorem dX11_walkOf_25 : decode cX11_walkOf 25 = .ok (.iload_n 1, 1) := by decide +kernel
theorem dX11_walkOf_26 : decode cX11_walkOf 26 = .ok (.invokevirtual 421, 3) := by decide +kernel
theorem dX11_walkOf_29 : decode cX11_walkOf 29 = .ok (.pop, 1) := by decide +kernel
theorem dX11_walkOf_30 : decode cX11_walkOf 30 = .ok (.aload 4, 2) := by decide +kernel
theorem dX11_walkOf_32 : decode cX11_walkOf 32 = .ok (.areturn, 1) := by decide +kernel
theorem dX11_enterBoth_0 : decode cX11_enterBoth 0 = .ok (.aload_n 0, 1) := by decide +kernel
theorem dX11_enterBoth_1 : decode cX11_enterBoth 1 = .ok (.getfield 33, 3) := by decide +kernel
theorem dX11_enterBoth_4 : decode cX11_enterBoth 4 = .ok (.iconst 0, 1) := by decide +kernel
theorem dX11_enterBoth_5 : decode cX11_enterBoth 5 = .ok (.aaload, 1) := by decide +kernel
theorem dX11_enterBoth_6 : decode cX11_enterBoth 6 = .ok (.aload_n 1, 1) := by decide +kernel
theorem dX11_enterBoth_7 : decode cX11_enterBoth 7 = .ok (.invokevirtual 333, 3) := by decide +kernel
theorem dX11_enterBoth_10 : decode cX11_enterBoth 10 = .ok (.aload_n 0, 1) := by decide +kernel
theorem dX11_enterBoth_11 : decode cX11_enterBoth 11 = .ok (.getfield 33, 3) := by decide +kernel
theorem dX11_enterBoth_14 : decode cX11_enterBoth 14 = .ok (.iconst 1, 1) := by decide +kernel
theorem dX11_enterBoth_15 : decode cX11_enterBoth 15 = .ok (.aaload, 1) := by decide +kernel
theorem dX11_enterBoth_16 : decode cX11_enterBoth 16 = .ok (.aload_n 1, 1) := by decide +kernel
theorem dX11_enterBoth_17 : decode cX11_enterBoth 17 = .ok (.invokevirtual 333, 3) := by decide +kernel
theorem dX11_enterBoth_20 : decode cX11_enterBoth 20 = .ok (.return_, 1) := by decide +kernel
theorem dX11_walkStranger_0 : decode cX11_walkStranger 0 = .ok (.aload_n 1, 1) := by decide +kernel
theorem dX11_walkStranger_1 : decode cX11_walkStranger 1 = .ok (.aload_n 1, 1) := by decide +kernel
theorem dX11_walkStranger_2 : decode cX11_walkStranger 2 = .ok (.getfield 73, 3) := by decide +kernel
theorem dX11_walkStranger_5 : decode cX11_walkStranger 5 = .ok (.invokevirtual 424, 3) := by decide +kernel
theorem dX11_walkStranger_8 : decode cX11_walkStranger 8 = .ok (.istore_n 2, 1) := by decide +kernel
theorem dX11_walkStranger_9 : decode cX11_walkStranger 9 = .ok (.aload_n 1, 1) := by decide +kernel
theorem dX11_walkStranger_10 : decode cX11_walkStranger 10 = .ok (.aload_n 1, 1) := by decide +kernel
theorem dX11_walkStranger_11 : decode cX11_walkStranger 11 = .ok (.getfield 137, 3) := by decide +kernel
theorem dX11_walkStranger_14 : decode cX11_walkStranger 14 = .ok (.invokevirtual 424, 3) := by decide +kernel
theorem dX11_walkStranger_17 : decode cX11_walkStranger 17 = .ok (.istore_n 3, 1) := by decide +kernel
theorem dX11_walkStranger_18 : decode cX11_walkStranger 18 = .ok (.aload_n 1, 1) := by decide +kernel
theorem dX11_walkStranger_19 : decode cX11_walkStranger 19 = .ok (.iconst 4, 1) := by decide +kernel
theorem dX11_walkStranger_20 : decode cX11_walkStranger 20 = .ok (.invokevirtual 424, 3) := by decide +kernel
theorem dX11_walkStranger_23 : decode cX11_walkStranger 23 = .ok (.ifCond .ne 12, 3) := by decide +kernel
theorem dX11_walkStranger_26 : decode cX11_walkStranger 26 = .ok (.aload_n 0, 1) := by decide +kernel
theorem dX11_walkStranger_27 : decode cX11_walkStranger 27 = .ok (.getfield 33, 3) := by decide +kernel
theorem dX11_walkStranger_30 : decode cX11_walkStranger 30 = .ok (.iconst 1, 1) := by decide +kernel
theorem dX11_walkStranger_31 : decode cX11_walkStranger 31 = .ok (.aaload, 1) := by decide +kernel
theorem dX11_walkStranger_32 : decode cX11_walkStranger 32 = .ok (.goto 9, 3) := by decide +kernel
theorem dX11_walkStranger_35 : decode cX11_walkStranger 35 = .ok (.aload_n 0, 1) := by decide +kernel
theorem dX11_walkStranger_36 : decode cX11_walkStranger 36 = .ok (.getfield 33, 3) := by decide +kernel
theorem dX11_walkStranger_39 : decode cX11_walkStranger 39 = .ok (.iconst 0, 1) := by decide +kernel
theorem dX11_walkStranger_40 : decode cX11_walkStranger 40 = .ok (.aaload, 1) := by decide +kernel
theorem dX11_walkStranger_41 : decode cX11_walkStranger 41 = .ok (.astore 4, 2) := by decide +kernel
theorem dX11_walkStranger_43 : decode cX11_walkStranger 43 = .ok (.aload 4, 2) := by decide +kernel
theorem dX11_walkStranger_45 : decode cX11_walkStranger 45 = .ok (.iload_n 3, 1) := by decide +kernel
theorem dX11_walkStranger_46 : decode cX11_walkStranger 46 = .ok (.invokevirtual 336, 3) := by decide +kernel
theorem dX11_walkStranger_49 : decode cX11_walkStranger 49 = .ok (.aload 4, 2) := by decide +kernel
theorem dX11_walkStranger_51 : decode cX11_walkStranger 51 = .ok (.iload_n 2, 1) := by decide +kernel
theorem dX11_walkStranger_52 : decode cX11_walkStranger 52 = .ok (.invokevirtual 421, 3) := by decide +kernel
theorem dX11_walkStranger_55 : decode cX11_walkStranger 55 = .ok (.pop, 1) := by decide +kernel
theorem dX11_walkStranger_56 : decode cX11_walkStranger 56 = .ok (.aload 4, 2) := by decide +kernel
theorem dX11_walkStranger_58 : decode cX11_walkStranger 58 = .ok (.areturn, 1) := by decide +kernel
theorem dX11_wrongRows_0 : decode cX11_wrongRows 0 = .ok (.aload_n 0, 1) := by decide +kernel
theorem dX11_wrongRows_1 : decode cX11_wrongRows 1 = .ok (.iload_n 1, 1) := by decide +kernel
theorem dX11_wrongRows_2 : decode cX11_wrongRows 2 = .ok (.invokevirtual 297, 3) := by decide +kernel
theorem dX11_wrongRows_5 : decode cX11_wrongRows 5 = .ok (.astore_n 3, 1) := by decide +kernel
theorem dX11_wrongRows_6 : decode cX11_wrongRows 6 = .ok (.aload_n 3, 1) := by decide +kernel
theorem dX11_wrongRows_7 : decode cX11_wrongRows 7 = .ok (.invokevirtual 317, 3) := by decide +kernel
theorem dX11_wrongRows_10 : decode cX11_wrongRows 10 = .ok (.iconst 0, 1) := by decide +kernel
theorem dX11_wrongRows_11 : decode cX11_wrongRows 11 = .ok (.istore 4, 2) := by decide +kernel
theorem dX11_wrongRows_13 : decode cX11_wrongRows 13 = .ok (.iconst 0, 1) := by decide +kernel
theorem dX11_wrongRows_14 : decode cX11_wrongRows 14 = .ok (.istore 5, 2) := by decide +kernel
theorem dX11_wrongRows_16 : decode cX11_wrongRows 16 = .ok (.iload 5, 2) := by decide +kernel
theorem dX11_wrongRows_18 : decode cX11_wrongRows 18 = .ok (.aload_n 0, 1) := by decide +kernel
theorem dX11_wrongRows_19 : decode cX11_wrongRows 19 = .ok (.getfield 12, 3) := by decide +kernel
theorem dX11_wrongRows_22 : decode cX11_wrongRows 22 = .ok (.getfield 158, 3) := by decide +kernel
theorem dX11_wrongRows_25 : decode cX11_wrongRows 25 = .ok (.if_icmp .ge 106, 3) := by decide +kernel
theorem dX11_wrongRows_28 : decode cX11_wrongRows 28 = .ok (.aload_n 0, 1) := by decide +kernel
theorem dX11_wrongRows_29 : decode cX11_wrongRows 29 = .ok (.getfield 12, 3) := by decide +kernel
theorem dX11_wrongRows_32 : decode cX11_wrongRows 32 = .ok (.getfield 161, 3) := by decide +kernel
theorem dX11_wrongRows_35 : decode cX11_wrongRows 35 = .ok (.iload 5, 2) := by decide +kernel
theorem dX11_wrongRows_37 : decode cX11_wrongRows 37 = .ok (.aaload, 1) := by decide +kernel
theorem dX11_wrongRows_38 : decode cX11_wrongRows 38 = .ok (.astore 6, 2) := by decide +kernel
theorem dX11_wrongRows_40 : decode cX11_wrongRows 40 = .ok (.iconst 0, 1) := by decide +kernel
theorem dX11_wrongRows_41 : decode cX11_wrongRows 41 = .ok (.istore 7, 2) := by decide +kernel
theorem dX11_wrongRows_43 : decode cX11_wrongRows 43 = .ok (.iload 7, 2) := by decide +kernel
theorem dX11_wrongRows_45 : decode cX11_wrongRows 45 = .ok (.aload 6, 2) := by decide +kernel
theorem dX11_wrongRows_47 : decode cX11_wrongRows 47 = .ok (.getfield 184, 3) := by decide +kernel
theorem dX11_wrongRows_50 : decode cX11_wrongRows 50 = .ok (.if_icmp .ge 75, 3) := by decide +kernel
theorem dX11_wrongRows_53 : decode cX11_wrongRows 53 = .ok (.aload_n 3, 1) := by decide +kernel
theorem dX11_wrongRows_54 : decode cX11_wrongRows 54 = .ok (.aload 6, 2) := by decide +kernel
theorem dX11_wrongRows_56 : decode cX11_wrongRows 56 = .ok (.getfield 178, 3) := by decide +kernel
theorem dX11_wrongRows_59 : decode cX11_wrongRows 59 = .ok (.aload 6, 2) := by decide +kernel
theorem dX11_wrongRows_61 : decode cX11_wrongRows 61 = .ok (.getfield 222, 3) := by decide +kernel
theorem dX11_wrongRows_64 : decode cX11_wrongRows 64 = .ok (.iload 7, 2) := by decide +kernel
theorem dX11_wrongRows_66 : decode cX11_wrongRows 66 = .ok (.iaload, 1) := by decide +kernel
theorem dX11_wrongRows_67 : decode cX11_wrongRows 67 = .ok (.invokevirtual 427, 3) := by decide +kernel
theorem dX11_wrongRows_70 : decode cX11_wrongRows 70 = .ok (.istore 8, 2) := by decide +kernel
theorem dX11_wrongRows_72 : decode cX11_wrongRows 72 = .ok (.iload 8, 2) := by decide +kernel
theorem dX11_wrongRows_74 : decode cX11_wrongRows 74 = .ok (.iconst (-1), 1) := by decide +kernel
theorem dX11_wrongRows_75 : decode cX11_wrongRows 75 = .ok (.if_icmp .eq 44, 3) := by decide +kernel
theorem dX11_wrongRows_78 : decode cX11_wrongRows 78 = .ok (.iload 8, 2) := by decide +kernel
theorem dX11_wrongRows_80 : decode cX11_wrongRows 80 = .ok (.aload 6, 2) := by decide +kernel
theorem dX11_wrongRows_82 : decode cX11_wrongRows 82 = .ok (.getfield 225, 3) := by decide +kernel
theorem dX11_wrongRows_85 : decode cX11_wrongRows 85 = .ok (.iload 7, 2) := by decide +kernel
theorem dX11_wrongRows_87 : decode cX11_wrongRows 87 = .ok (.iaload, 1) := by decide +kernel
theorem dX11_wrongRows_88 : decode cX11_wrongRows 88 = .ok (.if_icmp .eq 31, 3) := by decide +kernel
theorem dX11_wrongRows_91 : decode cX11_wrongRows 91 = .ok (.iinc 4 1, 3) := by decide +kernel
theorem dX11_wrongRows_94 : decode cX11_wrongRows 94 = .ok (.aload 6, 2) := by decide +kernel
theorem dX11_wrongRows_96 : decode cX11_wrongRows 96 = .ok (.getfield 225, 3) := by decide +kernel
theorem dX11_wrongRows_99 : decode cX11_wrongRows 99 = .ok (.iload 7, 2) := by decide +kernel
theorem dX11_wrongRows_101 : decode cX11_wrongRows 101 = .ok (.iload_n 2, 1) := by decide +kernel
theorem dX11_wrongRows_102 : decode cX11_wrongRows 102 = .ok (.ifCond .eq 8, 3) := by decide +kernel
theorem dX11_wrongRows_105 : decode cX11_wrongRows 105 = .ok (.iload 8, 2) := by decide +kernel
theorem dX11_wrongRows_107 : decode cX11_wrongRows 107 = .ok (.goto 11, 3) := by decide +kernel
theorem dX11_wrongRows_110 : decode cX11_wrongRows 110 = .ok (.aload 6, 2) := by decide +kernel
theorem dX11_wrongRows_112 : decode cX11_wrongRows 112 = .ok (.getfield 225, 3) := by decide +kernel
theorem dX11_wrongRows_115 : decode cX11_wrongRows 115 = .ok (.iload 7, 2) := by decide +kernel
theorem dX11_wrongRows_117 : decode cX11_wrongRows 117 = .ok (.iaload, 1) := by decide +kernel
theorem dX11_wrongRows_118 : decode cX11_wrongRows 118 = .ok (.iastore, 1) := by decide +kernel
theorem dX11_wrongRows_119 : decode cX11_wrongRows 119 = .ok (.iinc 7 1, 3) := by decide +kernel
theorem dX11_wrongRows_122 : decode cX11_wrongRows 122 = .ok (.goto (-79), 3) := by decide +kernel
theorem dX11_wrongRows_125 : decode cX11_wrongRows 125 = .ok (.iinc 5 1, 3) := by decide +kernel
theorem dX11_wrongRows_128 : decode cX11_wrongRows 128 = .ok (.goto (-112), 3) := by decide +kernel
theorem dX11_wrongRows_131 : decode cX11_wrongRows 131 = .ok (.iload 4, 2) := by decide +kernel
theorem dX11_wrongRows_133 : decode cX11_wrongRows 133 = .ok (.ireturn, 1) := by decide +kernel
theorem dX11_rightNumbers_0 : decode cX11_rightNumbers 0 = .ok (.iconst 0, 1) := by decide +kernel
theorem dX11_rightNumbers_1 : decode cX11_rightNumbers 1 = .ok (.istore_n 3, 1) := by decide +kernel
theorem dX11_rightNumbers_2 : decode cX11_rightNumbers 2 = .ok (.iconst 0, 1) := by decide +kernel
theorem dX11_rightNumbers_3 : decode cX11_rightNumbers 3 = .ok (.istore 4, 2) := by decide +kernel
theorem dX11_rightNumbers_5 : decode cX11_rightNumbers 5 = .ok (.iload 4, 2) := by decide +kernel
theorem dX11_rightNumbers_7 : decode cX11_rightNumbers 7 = .ok (.iload_n 1, 1) := by decide +kernel
theorem dX11_rightNumbers_8 : decode cX11_rightNumbers 8 = .ok (.if_icmp .ge 67, 3) := by decide +kernel
theorem dX11_rightNumbers_11 : decode cX11_rightNumbers 11 = .ok (.aload_n 0, 1) := by decide +kernel
theorem dX11_rightNumbers_12 : decode cX11_rightNumbers 12 = .ok (.aload_n 0, 1) := by decide +kernel
theorem dX11_rightNumbers_13 : decode cX11_rightNumbers 13 = .ok (.getfield 16, 3) := by decide +kernel
theorem dX11_rightNumbers_16 : decode cX11_rightNumbers 16 = .ok (.invokevirtual 357, 3) := by decide +kernel
theorem dX11_rightNumbers_19 : decode cX11_rightNumbers 19 = .ok (.astore 5, 2) := by decide +kernel
theorem dX11_rightNumbers_21 : decode cX11_rightNumbers 21 = .ok (.iload_n 3, 1) := by decide +kernel
theorem dX11_rightNumbers_22 : decode cX11_rightNumbers 22 = .ok (.iload_n 2, 1) := by decide +kernel
theorem dX11_rightNumbers_23 : decode cX11_rightNumbers 23 = .ok (.if_icmp .ge 17, 3) := by decide +kernel
theorem dX11_rightNumbers_26 : decode cX11_rightNumbers 26 = .ok (.aload_n 0, 1) := by decide +kernel
theorem dX11_rightNumbers_27 : decode cX11_rightNumbers 27 = .ok (.getfield 63, 3) := by decide +kernel
theorem dX11_rightNumbers_30 : decode cX11_rightNumbers 30 = .ok (.iload_n 3, 1) := by decide +kernel
theorem dX11_rightNumbers_31 : decode cX11_rightNumbers 31 = .ok (.iaload, 1) := by decide +kernel
theorem dX11_rightNumbers_32 : decode cX11_rightNumbers 32 = .ok (.aload 5, 2) := by decide +kernel
theorem dX11_rightNumbers_34 : decode cX11_rightNumbers 34 = .ok (.getfield 281, 3) := by decide +kernel
theorem dX11_rightNumbers_37 : decode cX11_rightNumbers 37 = .ok (.if_icmp .eq 5, 3) := by decide +kernel
theorem dX11_rightNumbers_40 : decode cX11_rightNumbers 40 = .ok (.iload_n 3, 1) := by decide +kernel
theorem dX11_rightNumbers_41 : decode cX11_rightNumbers 41 = .ok (.ireturn, 1) := by decide +kernel
theorem dX11_rightNumbers_42 : decode cX11_rightNumbers 42 = .ok (.iinc 3 1, 3) := by decide +kernel
theorem dX11_rightNumbers_45 : decode cX11_rightNumbers 45 = .ok (.iload_n 3, 1) := by decide +kernel
theorem dX11_rightNumbers_46 : decode cX11_rightNumbers 46 = .ok (.iload_n 2, 1) := by decide +kernel
theorem dX11_rightNumbers_47 : decode cX11_rightNumbers 47 = .ok (.if_icmp .ge 17, 3) := by decide +kernel
theorem dX11_rightNumbers_50 : decode cX11_rightNumbers 50 = .ok (.aload_n 0, 1) := by decide +kernel
theorem dX11_rightNumbers_51 : decode cX11_rightNumbers 51 = .ok (.getfield 63, 3) := by decide +kernel
theorem dX11_rightNumbers_54 : decode cX11_rightNumbers 54 = .ok (.iload_n 3, 1) := by decide +kernel
theorem dX11_rightNumbers_55 : decode cX11_rightNumbers 55 = .ok (.iaload, 1) := by decide +kernel
theorem dX11_rightNumbers_56 : decode cX11_rightNumbers 56 = .ok (.aload 5, 2) := by decide +kernel
theorem dX11_rightNumbers_58 : decode cX11_rightNumbers 58 = .ok (.getfield 284, 3) := by decide +kernel
theorem dX11_rightNumbers_61 : decode cX11_rightNumbers 61 = .ok (.if_icmp .eq 5, 3) := by decide +kernel
theorem dX11_rightNumbers_64 : decode cX11_rightNumbers 64 = .ok (.iload_n 3, 1) := by decide +kernel
theorem dX11_rightNumbers_65 : decode cX11_rightNumbers 65 = .ok (.ireturn, 1) := by decide +kernel
theorem dX11_rightNumbers_66 : decode cX11_rightNumbers 66 = .ok (.iinc 3 1, 3) := by decide +kernel
theorem dX11_rightNumbers_69 : decode cX11_rightNumbers 69 = .ok (.iinc 4 1, 3) := by decide +kernel
theorem dX11_rightNumbers_72 : decode cX11_rightNumbers 72 = .ok (.goto (-67), 3) := by decide +kernel
theorem dX11_rightNumbers_75 : decode cX11_rightNumbers 75 = .ok (.iload_n 3, 1) := by decide +kernel
theorem dX11_rightNumbers_76 : decode cX11_rightNumbers 76 = .ok (.ireturn, 1) := by decide +kernel
theorem dX12_init_0 : decode cX12_init 0 = .ok (.aload_n 0, 1) := by decide +kernel
theorem dX12_init_1 : decode cX12_init 1 = .ok (.invokespecial 1, 3) := by decide +kernel
theorem dX12_init_4 : decode cX12_init 4 = .ok (.aload_n 0, 1) := by decide +kernel
theorem dX12_init_5 : decode cX12_init 5 = .ok (.sipush 1765, 3) := by decide +kernel
theorem dX12_init_8 : decode cX12_init 8 = .ok (.newarray .int, 2) := by decide +kernel
theorem dX12_init_10 : decode cX12_init 10 = .ok (.putfield 9, 3) := by decide +kernel
theorem dX12_init_13 : decode cX12_init 13 = .ok (.aload_n 0, 1) := by decide +kernel
theorem dX12_init_14 : decode cX12_init 14 = .ok (.sipush 1765, 3) := by decide +kernel
theorem dX12_init_17 : decode cX12_init 17 = .ok (.newarray .int, 2) := by decide +kernel
theorem dX12_init_19 : decode cX12_init 19 = .ok (.putfield 13, 3) := by decide +kernel
theorem dX12_init_22 : decode cX12_init 22 = .ok (.aload_n 0, 1) := by decide +kernel
theorem dX12_init_23 : decode cX12_init 23 = .ok (.sipush 1765, 3) := by decide +kernel
theorem dX12_init_26 : decode cX12_init 26 = .ok (.newarray .int, 2) := by decide +kernel
theorem dX12_init_28 : decode cX12_init 28 = .ok (.putfield 16, 3) := by decide +kernel
theorem dX12_init_31 : decode cX12_init 31 = .ok (.aload_n 0, 1) := by decide +kernel
theorem dX12_init_32 : decode cX12_init 32 = .ok (.sipush 2912, 3) := by decide +kernel
theorem dX12_init_35 : decode cX12_init 35 = .ok (.newarray .int, 2) := by decide +kernel
theorem dX12_init_37 : decode cX12_init 37 = .ok (.putfield 19, 3) := by decide +kernel
theorem dX12_init_40 : decode cX12_init 40 = .ok (.aload_n 0, 1) := by decide +kernel
theorem dX12_init_41 : decode cX12_init 41 = .ok (.bipush 96, 2) := by decide +kernel
theorem dX12_init_43 : decode cX12_init 43 = .ok (.newarray .int, 2) := by decide +kernel
theorem dX12_init_45 : decode cX12_init 45 = .ok (.putfield 22, 3) := by decide +kernel
theorem dX12_init_48 : decode cX12_init 48 = .ok (.aload_n 0, 1) := by decide +kernel
theorem dX12_init_49 : decode cX12_init 49 = .ok (.bipush 13, 2) := by decide +kernel
theorem dX12_init_51 : decode cX12_init 51 = .ok (.newarray .char, 2) := by decide +kernel
theorem dX12_init_53 : decode cX12_init 53 = .ok (.dup, 1) := by decide +kernel
theorem dX12_init_54 : decode cX12_init 54 = .ok (.iconst 0, 1) := by decide +kernel
theorem dX12_init_55 : decode cX12_init 55 = .ok (.bipush 108, 2) := by decide +kernel
theorem dX12_init_57 : decode cX12_init 57 = .ok (.castore, 1) := by decide +kernel
theorem dX12_init_58 : decode cX12_init 58 = .ok (.dup, 1) := by decide +kernel
theorem dX12_init_59 : decode cX12_init 59 = .ok (.iconst 1, 1) := by decide +kernel
theorem dX12_init_60 : decode cX12_init 60 = .ok (.bipush 105, 2) := by decide +kernel
theorem dX12_init_62 : decode cX12_init 62 = .ok (.castore, 1) := by decide +kernel
theorem dX12_init_63 : decode cX12_init 63 = .ok (.dup, 1) := by decide +kernel
theorem dX12_init_64 : decode cX12_init 64 = .ok (.iconst 2, 1) := by decide +kernel
theorem dX12_init_65 : decode cX12_init 65 = .ok (.bipush 103, 2) := by decide +kernel
theorem dX12_init_67 : decode cX12_init 67 = .ok (.castore, 1) := by decide +kernel
theorem dX12_init_68 : decode cX12_init 68 = .ok (.dup, 1) := by decide +kernel
theorem dX12_init_69 : decode cX12_init 69 = .ok (.iconst 3, 1) := by decide +kernel
theorem dX12_init_70 : decode cX12_init 70 = .ok (.bipush 104, 2) := by decide +kernel
theorem dX12_init_72 : decode cX12_init 72 = .ok (.castore, 1) := by decide +kernel
theorem dX12_init_73 : decode cX12_init 73 = .ok (.dup, 1) := by decide +kernel
theorem dX12_init_74 : decode cX12_init 74 = .ok (.iconst 4, 1) := by decide +kernel
theorem dX12_init_75 : decode cX12_init 75 = .ok (.bipush 116, 2) := by decide +kernel
theorem dX12_init_77 : decode cX12_init 77 = .ok (.castore, 1) := by decide +kernel
theorem dX12_init_78 : decode cX12_init 78 = .ok (.dup, 1) := by decide +kernel
theorem dX12_init_79 : decode cX12_init 79 = .ok (.iconst 5, 1) := by decide +kernel
theorem dX12_init_80 : decode cX12_init 80 = .ok (.bipush 103, 2) := by decide +kernel
theorem dX12_init_82 : decode cX12_init 82 = .ok (.castore, 1) := by decide +kernel
theorem dX12_init_83 : decode cX12_init 83 = .ok (.dup, 1) := by decide +kernel
theorem dX12_init_84 : decode cX12_init 84 = .ok (.bipush 6, 2) := by decide +kernel
theorem dX12_init_86 : decode cX12_init 86 = .ok (.bipush 97, 2) := by decide +kernel
theorem dX12_init_88 : decode cX12_init 88 = .ok (.castore, 1) := by decide +kernel
theorem dX12_init_89 : decode cX12_init 89 = .ok (.dup, 1) := by decide +kernel
theorem dX12_init_90 : decode cX12_init 90 = .ok (.bipush 7, 2) := by decide +kernel
theorem dX12_init_92 : decode cX12_init 92 = .ok (.bipush 116, 2) := by decide +kernel
theorem dX12_init_94 : decode cX12_init 94 = .ok (.castore, 1) := by decide +kernel
theorem dX12_init_95 : decode cX12_init 95 = .ok (.dup, 1) := by decide +kernel
theorem dX12_init_96 : decode cX12_init 96 = .ok (.bipush 8, 2) := by decide +kernel
theorem dX12_init_98 : decode cX12_init 98 = .ok (.bipush 101, 2) := by decide +kernel
theorem dX12_init_100 : decode cX12_init 100 = .ok (.castore, 1) := by decide +kernel
theorem dX12_init_101 : decode cX12_init 101 = .ok (.dup, 1) := by decide +kernel
theorem dX12_init_102 : decode cX12_init 102 = .ok (.bipush 9, 2) := by decide +kernel
theorem dX12_init_104 : decode cX12_init 104 = .ok (.bipush 111, 2) := by decide +kernel
theorem dX12_init_106 : decode cX12_init 106 = .ok (.castore, 1) := by decide +kernel
theorem dX12_init_107 : decode cX12_init 107 = .ok (.dup, 1) := by decide +kernel
theorem dX12_init_108 : decode cX12_init 108 = .ok (.bipush 10, 2) := by decide +kernel
theorem dX12_init_110 : decode cX12_init 110 = .ok (.bipush 98, 2) := by decide +kernel
theorem dX12_init_112 : decode cX12_init 112 = .ok (.castore, 1) := by decide +kernel
theorem dX12_init_113 : decode cX12_init 113 = .ok (.dup, 1) := by decide +kernel
theorem dX12_init_114 : decode cX12_init 114 = .ok (.bipush 11, 2) := by decide +kernel
theorem dX12_init_116 : decode cX12_init 116 = .ok (.bipush 101, 2) := by decide +kernel
theorem dX12_init_118 : decode cX12_init 118 = .ok (.castore, 1) := by decide +kernel
theorem dX12_init_119 : decode cX12_init 119 = .ok (.dup, 1) := by decide +kernel
theorem dX12_init_120 : decode cX12_init 120 = .ok (.bipush 12, 2) := by decide +kernel
theorem dX12_init_122 : decode cX12_init 122 = .ok (.bipush 121, 2) := by decide +kernel
theorem dX12_init_124 : decode cX12_init 124 = .ok (.castore, 1) := by decide +kernel
theorem dX12_init_125 : decode cX12_init 125 = .ok (.putfield 25, 3) := by decide +kernel
theorem dX12_init_128 : decode cX12_init 128 = .ok (.aload_n 0, 1) := by decide +kernel
theorem dX12_init_129 : decode cX12_init 129 = .ok (.iconst 4, 1) := by decide +kernel
theorem dX12_init_130 : decode cX12_init 130 = .ok (.newarray .int, 2) := by decide +kernel
theorem dX12_init_132 : decode cX12_init 132 = .ok (.dup, 1) := by decide +kernel
theorem dX12_init_133 : decode cX12_init 133 = .ok (.iconst 0, 1) := by decide +kernel
theorem dX12_init_134 : decode cX12_init 134 = .ok (.iconst 0, 1) := by decide +kernel
theorem dX12_init_135 : decode cX12_init 135 = .ok (.iastore, 1) := by decide +kernel
theorem dX12_init_136 : decode cX12_init 136 = .ok (.dup, 1) := by decide +kernel
theorem dX12_init_137 : decode cX12_init 137 = .ok (.iconst 1, 1) := by decide +kernel
theorem dX12_init_138 : decode cX12_init 138 = .ok (.iconst 5, 1) := by decide +kernel
theorem dX12_init_139 : decode cX12_init 139 = .ok (.iastore, 1) := by decide +kernel
theorem dX12_init_140 : decode cX12_init 140 = .ok (.dup, 1) := by decide +kernel
theorem dX12_init_141 : decode cX12_init 141 = .ok (.iconst 2, 1) := by decide +kernel
theorem dX12_init_142 : decode cX12_init 142 = .ok (.bipush 9, 2) := by decide +kernel
theorem dX12_init_144 : decode cX12_init 144 = .ok (.iastore, 1) := by decide +kernel
theorem dX12_init_145 : decode cX12_init 145 = .ok (.dup, 1) := by decide +kernel
theorem dX12_init_146 : decode cX12_init 146 = .ok (.iconst 3, 1) := by decide +kernel
theorem dX12_init_147 : decode cX12_init 147 = .ok (.bipush 13, 2) := by decide +kernel
theorem dX12_init_149 : decode cX12_init 149 = .ok (.iastore, 1) := by decide +kernel
theorem dX12_init_150 : decode cX12_init 150 = .ok (.putfield 29, 3) := by decide +kernel
theorem dX12_init_153 : decode cX12_init 153 = .ok (.aload_n 0, 1) := by decide +kernel
theorem dX12_init_154 : decode cX12_init 154 = .ok (.bipush 96, 2) := by decide +kernel
theorem dX12_init_156 : decode cX12_init 156 = .ok (.newarray .int, 2) := by decide +kernel
theorem dX12_init_158 : decode cX12_init 158 = .ok (.putfield 32, 3) := by decide +kernel
theorem dX12_init_161 : decode cX12_init 161 = .ok (.aload_n 0, 1) := by decide +kernel
theorem dX12_init_162 : decode cX12_init 162 = .ok (.bipush 96, 2) := by decide +kernel
theorem dX12_init_164 : decode cX12_init 164 = .ok (.newarray .int, 2) := by decide +kernel
theorem dX12_init_166 : decode cX12_init 166 = .ok (.putfield 35, 3) := by decide +kernel
theorem dX12_init_169 : decode cX12_init 169 = .ok (.aload_n 0, 1) := by decide +kernel
theorem dX12_init_170 : decode cX12_init 170 = .ok (.bipush 10, 2) := by decide +kernel
theorem dX12_init_172 : decode cX12_init 172 = .ok (.newarray .boolean, 2) := by decide +kernel
theorem dX12_init_174 : decode cX12_init 174 = .ok (.putfield 38, 3) := by decide +kernel
theorem dX12_init_177 : decode cX12_init 177 = .ok (.aload_n 0, 1) := by decide +kernel
theorem dX12_init_178 : decode cX12_init 178 = .ok (.bipush 96, 2) := by decide +kernel
theorem dX12_init_180 : decode cX12_init 180 = .ok (.newarray .int, 2) := by decide +kernel
theorem dX12_init_182 : decode cX12_init 182 = .ok (.putfield 42, 3) := by decide +kernel
theorem dX12_init_185 : decode cX12_init 185 = .ok (.aload_n 0, 1) := by decide +kernel
theorem dX12_init_186 : decode cX12_init 186 = .ok (.iconst 4, 1) := by decide +kernel
theorem dX12_init_187 : decode cX12_init 187 = .ok (.newarray .int, 2) := by decide +kernel
theorem dX12_init_189 : decode cX12_init 189 = .ok (.putfield 45, 3) := by decide +kernel
theorem dX12_init_192 : decode cX12_init 192 = .ok (.aload_n 0, 1) := by decide +kernel
theorem dX12_init_193 : decode cX12_init 193 = .ok (.bipush 20, 2) := by decide +kernel
theorem dX12_init_195 : decode cX12_init 195 = .ok (.newarray .boolean, 2) := by decide +kernel
theorem dX12_init_197 : decode cX12_init 197 = .ok (.putfield 48, 3) := by decide +kernel
theorem dX12_init_200 : decode cX12_init 200 = .ok (.aload_n 0, 1) := by decide +kernel
theorem dX12_init_201 : decode cX12_init 201 = .ok (.bipush 14, 2) := by decide +kernel
theorem dX12_init_203 : decode cX12_init 203 = .ok (.newarray .boolean, 2) := by decide +kernel
theorem dX12_init_205 : decode cX12_init 205 = .ok (.putfield 51, 3) := by decide +kernel
theorem dX12_init_208 : decode cX12_init 208 = .ok (.aload_n 0, 1) := by decide +kernel
theorem dX12_init_209 : decode cX12_init 209 = .ok (.bipush 12, 2) := by decide +kernel
theorem dX12_init_211 : decode cX12_init 211 = .ok (.newarray .int, 2) := by decide +kernel
theorem dX12_init_213 : decode cX12_init 213 = .ok (.putfield 54, 3) := by decide +kernel
theorem dX12_init_216 : decode cX12_init 216 = .ok (.aload_n 0, 1) := by decide +kernel
theorem dX12_init_217 : decode cX12_init 217 = .ok (.bipush 120, 2) := by decide +kernel
theorem dX12_init_219 : decode cX12_init 219 = .ok (.newarray .int, 2) := by decide +kernel
theorem dX12_init_221 : decode cX12_init 221 = .ok (.putfield 57, 3) := by decide +kernel
theorem dX12_init_224 : decode cX12_init 224 = .ok (.aload_n 0, 1) := by decide +kernel
theorem dX12_init_225 : decode cX12_init 225 = .ok (.bipush 96, 2) := by decide +kernel
theorem dX12_init_227 : decode cX12_init 227 = .ok (.newarray .boolean, 2) := by decide +kernel
theorem dX12_init_229 : decode cX12_init 229 = .ok (.putfield 60, 3) := by decide +kernel
theorem dX12_init_232 : decode cX12_init 232 = .ok (.aload_n 0, 1) := by decide +kernel
theorem dX12_init_233 : decode cX12_init 233 = .ok (.bipush 12, 2) := by decide +kernel
theorem dX12_init_235 : decode cX12_init 235 = .ok (.newarray .int, 2) := by decide +kernel
theorem dX12_init_237 : decode cX12_init 237 = .ok (.putfield 63, 3) := by decide +kernel
theorem dX12_init_240 : decode cX12_init 240 = .ok (.aload_n 0, 1) := by decide +kernel
theorem dX12_init_241 : decode cX12_init 241 = .ok (.bipush 120, 2) := by decide +kernel
theorem dX12_init_243 : decode cX12_init 243 = .ok (.newarray .int, 2) := by decide +kernel
theorem dX12_init_245 : decode cX12_init 245 = .ok (.putfield 66, 3) := by decide +kernel
theorem dX12_init_248 : decode cX12_init 248 = .ok (.aload_n 0, 1) := by decide +kernel
theorem dX12_init_249 : decode cX12_init 249 = .ok (.bipush 120, 2) := by decide +kernel
theorem dX12_init_251 : decode cX12_init 251 = .ok (.newarray .int, 2) := by decide +kernel
theorem dX12_init_253 : decode cX12_init 253 = .ok (.putfield 69, 3) := by decide +kernel
theorem dX12_init_256 : decode cX12_init 256 = .ok (.aload_n 0, 1) := by decide +kernel
theorem dX12_init_257 : decode cX12_init 257 = .ok (.bipush 10, 2) := by decide +kernel
theorem dX12_init_259 : decode cX12_init 259 = .ok (.newarray .int, 2) := by decide +kernel
theorem dX12_init_261 : decode cX12_init 261 = .ok (.putfield 72, 3) := by decide +kernel
theorem dX12_init_264 : decode cX12_init 264 = .ok (.aload_n 0, 1) := by decide +kernel
theorem dX12_init_265 : decode cX12_init 265 = .ok (.iconst 4, 1) := by decide +kernel
theorem dX12_init_266 : decode cX12_init 266 = .ok (.newarray .int, 2) := by decide +kernel
theorem dX12_init_268 : decode cX12_init 268 = .ok (.dup, 1) := by decide +kernel
theorem dX12_init_269 : decode cX12_init 269 = .ok (.iconst 0, 1) := by decide +kernel
theorem dX12_init_270 : decode cX12_init 270 = .ok (.iconst (-1), 1) := by decide +kernel
theorem dX12_init_271 : decode cX12_init 271 = .ok (.iastore, 1) := by decide +kernel
theorem dX12_init_272 : decode cX12_init 272 = .ok (.dup, 1) := by decide +kernel
theorem dX12_init_273 : decode cX12_init 273 = .ok (.iconst 1, 1) := by decide +kernel
theorem dX12_init_274 : decode cX12_init 274 = .ok (.iconst (-1), 1) := by decide +kernel
theorem dX12_init_275 : decode cX12_init 275 = .ok (.iastore, 1) := by decide +kernel
theorem dX12_init_276 : decode cX12_init 276 = .ok (.dup, 1) := by decide +kernel
theorem dX12_init_277 : decode cX12_init 277 = .ok (.iconst 2, 1) := by decide +kernel
theorem dX12_init_278 : decode cX12_init 278 = .ok (.iconst (-1), 1) := by decide +kernel
theorem dX12_init_279 : decode cX12_init 279 = .ok (.iastore, 1) := by decide +kernel
theorem dX12_init_280 : decode cX12_init 280 = .ok (.dup, 1) := by decide +kernel
theorem dX12_init_281 : decode cX12_init 281 = .ok (.iconst 3, 1) := by decide +kernel
theorem dX12_init_282 : decode cX12_init 282 = .ok (.iconst (-1), 1) := by decide +kernel
theorem dX12_init_283 : decode cX12_init 283 = .ok (.iastore, 1) := by decide +kernel
theorem dX12_init_284 : decode cX12_init 284 = .ok (.putfield 75, 3) := by decide +kernel
theorem dX12_init_287 : decode cX12_init 287 = .ok (.aload_n 0, 1) := by decide +kernel
theorem dX12_init_288 : decode cX12_init 288 = .ok (.iconst 4, 1) := by decide +kernel
theorem dX12_init_289 : decode cX12_init 289 = .ok (.newarray .int, 2) := by decide +kernel
theorem dX12_init_291 : decode cX12_init 291 = .ok (.putfield 78, 3) := by decide +kernel
theorem dX12_init_294 : decode cX12_init 294 = .ok (.aload_n 0, 1) := by decide +kernel
theorem dX12_init_295 : decode cX12_init 295 = .ok (.bipush 96, 2) := by decide +kernel
theorem dX12_init_297 : decode cX12_init 297 = .ok (.newarray .int, 2) := by decide +kernel
theorem dX12_init_299 : decode cX12_init 299 = .ok (.putfield 81, 3) := by decide +kernel
theorem dX12_init_302 : decode cX12_init 302 = .ok (.aload_n 0, 1) := by decide +kernel
theorem dX12_init_303 : decode cX12_init 303 = .ok (.iconst 5, 1) := by decide +kernel
theorem dX12_init_304 : decode cX12_init 304 = .ok (.newarray .int, 2) := by decide +kernel
theorem dX12_init_306 : decode cX12_init 306 = .ok (.putfield 84, 3) := by decide +kernel
theorem dX12_init_309 : decode cX12_init 309 = .ok (.aload_n 0, 1) := by decide +kernel
theorem dX12_init_310 : decode cX12_init 310 = .ok (.iconst 5, 1) := by decide +kernel
theorem dX12_init_311 : decode cX12_init 311 = .ok (.newarray .int, 2) := by decide +kernel
theorem dX12_init_313 : decode cX12_init 313 = .ok (.putfield 87, 3) := by decide +kernel
theorem dX12_init_316 : decode cX12_init 316 = .ok (.aload_n 0, 1) := by decide +kernel
theorem dX12_init_317 : decode cX12_init 317 = .ok (.iconst 5, 1) := by decide +kernel
theorem dX12_init_318 : decode cX12_init 318 = .ok (.newarray .int, 2) := by decide +kernel
theorem dX12_init_320 : decode cX12_init 320 = .ok (.putfield 90, 3) := by decide +kernel
theorem dX12_init_323 : decode cX12_init 323 = .ok (.aload_n 0, 1) := by decide +kernel
theorem dX12_init_324 : decode cX12_init 324 = .ok (.bipush 120, 2) := by decide +kernel
theorem dX12_init_326 : decode cX12_init 326 = .ok (.newarray .int, 2) := by decide +kernel
theorem dX12_init_328 : decode cX12_init 328 = .ok (.putfield 93, 3) := by decide +kernel
theorem dX12_init_331 : decode cX12_init 331 = .ok (.aload_n 0, 1) := by decide +kernel
theorem dX12_init_332 : decode cX12_init 332 = .ok (.bipush 24, 2) := by decide +kernel
theorem dX12_init_334 : decode cX12_init 334 = .ok (.newarray .int, 2) := by decide +kernel
theorem dX12_init_336 : decode cX12_init 336 = .ok (.putfield 96, 3) := by decide +kernel
theorem dX12_init_339 : decode cX12_init 339 = .ok (.aload_n 0, 1) := by decide +kernel
theorem dX12_init_340 : decode cX12_init 340 = .ok (.bipush 60, 2) := by decide +kernel
theorem dX12_init_342 : decode cX12_init 342 = .ok (.newarray .int, 2) := by decide +kernel
theorem dX12_init_344 : decode cX12_init 344 = .ok (.putfield 99, 3) := by decide +kernel
theorem dX12_init_347 : decode cX12_init 347 = .ok (.aload_n 0, 1) := by decide +kernel
theorem dX12_init_348 : decode cX12_init 348 = .ok (.getfield 9, 3) := by decide +kernel
theorem dX12_init_351 : decode cX12_init 351 = .ok (.iconst 0, 1) := by decide +kernel
theorem dX12_init_352 : decode cX12_init 352 = .ok (.iconst 1, 1) := by decide +kernel
theorem dX12_init_353 : decode cX12_init 353 = .ok (.iastore, 1) := by decide +kernel
theorem dX12_init_354 : decode cX12_init 354 = .ok (.aload_n 0, 1) := by decide +kernel
theorem dX12_init_355 : decode cX12_init 355 = .ok (.getfield 9, 3) := by decide +kernel
theorem dX12_init_358 : decode cX12_init 358 = .ok (.iconst 1, 1) := by decide +kernel
theorem dX12_init_359 : decode cX12_init 359 = .ok (.bipush 8, 2) := by decide +kernel
theorem dX12_init_361 : decode cX12_init 361 = .ok (.iastore, 1) := by decide +kernel
theorem dX12_init_362 : decode cX12_init 362 = .ok (.return_, 1) := by decide +kernel
theorem dX12_in_0 : decode cX12_in 0 = .ok (.iload_n 0, 1) := by decide +kernel
theorem dX12_in_1 : decode cX12_in 1 = .ok (.iload_n 1, 1) := by decide +kernel
theorem dX12_in_2 : decode cX12_in 2 = .ok (.if_icmp .lt 12, 3) := by decide +kernel
theorem dX12_in_5 : decode cX12_in 5 = .ok (.iload_n 0, 1) := by decide +kernel
theorem dX12_in_6 : decode cX12_in 6 = .ok (.iload_n 2, 1) := by decide +kernel
theorem dX12_in_7 : decode cX12_in 7 = .ok (.if_icmp .gt 7, 3) := by decide +kernel
theorem dX12_in_10 : decode cX12_in 10 = .ok (.iconst 1, 1) := by decide +kernel
theorem dX12_in_11 : decode cX12_in 11 = .ok (.goto 4, 3) := by decide +kernel
theorem dX12_in_14 : decode cX12_in 14 = .ok (.iconst 0, 1) := by decide +kernel
theorem dX12_in_15 : decode cX12_in 15 = .ok (.ireturn, 1) := by decide +kernel
theorem dX12_copyAll_0 : decode cX12_copyAll 0 = .ok (.iconst 0, 1) := by decide +kernel
theorem dX12_copyAll_1 : decode cX12_copyAll 1 = .ok (.istore_n 2, 1) := by decide +kernel
theorem dX12_copyAll_2 : decode cX12_copyAll 2 = .ok (.iload_n 2, 1) := by decide +kernel
theorem dX12_copyAll_3 : decode cX12_copyAll 3 = .ok (.sipush 1765, 3) := by decide +kernel
theorem dX12_copyAll_6 : decode cX12_copyAll 6 = .ok (.if_icmp .ge 15, 3) := by decide +kernel
theorem dX12_copyAll_9 : decode cX12_copyAll 9 = .ok (.aload_n 1, 1) := by decide +kernel
theorem dX12_copyAll_10 : decode cX12_copyAll 10 = .ok (.iload_n 2, 1) := by decide +kernel
theorem dX12_copyAll_11 : decode cX12_copyAll 11 = .ok (.aload_n 0, 1) := by decide +kernel
theorem dX12_copyAll_12 : decode cX12_copyAll 12 = .ok (.iload_n 2, 1) := by decide +kernel
theorem dX12_copyAll_13 : decode cX12_copyAll 13 = .ok (.iaload, 1) := by decide +kernel
theorem dX12_copyAll_14 : decode cX12_copyAll 14 = .ok (.iastore, 1) := by decide +kernel
theorem dX12_copyAll_15 : decode cX12_copyAll 15 = .ok (.iinc 2 1, 3) := by decide +kernel
theorem dX12_copyAll_18 : decode cX12_copyAll 18 = .ok (.goto (-16), 3) := by decide +kernel
theorem dX12_copyAll_21 : decode cX12_copyAll 21 = .ok (.return_, 1) := by decide +kernel
theorem dX12_isPlace_0 : decode cX12_isPlace 0 = .ok (.iload_n 1, 1) := by decide +kernel
theorem dX12_isPlace_1 : decode cX12_isPlace 1 = .ok (.iconst 0, 1) := by decide +kernel
theorem dX12_isPlace_2 : decode cX12_isPlace 2 = .ok (.aload_n 0, 1) := by decide +kernel
theorem dX12_isPlace_3 : decode cX12_isPlace 3 = .ok (.getfield 9, 3) := by decide +kernel
theorem dX12_isPlace_6 : decode cX12_isPlace 6 = .ok (.iconst 3, 1) := by decide +kernel
theorem dX12_isPlace_7 : decode cX12_isPlace 7 = .ok (.iaload, 1) := by decide +kernel
theorem dX12_isPlace_8 : decode cX12_isPlace 8 = .ok (.iconst 1, 1) := by decide +kernel
theorem dX12_isPlace_9 : decode cX12_isPlace 9 = .ok (.isub, 1) := by decide +kernel
theorem dX12_isPlace_10 : decode cX12_isPlace 10 = .ok (.invokestatic 102, 3) := by decide +kernel
theorem dX12_isPlace_13 : decode cX12_isPlace 13 = .ok (.ireturn, 1) := by decide +kernel
theorem dX12_isGoal_0 : decode cX12_isGoal 0 = .ok (.iload_n 1, 1) := by decide +kernel
theorem dX12_isGoal_1 : decode cX12_isGoal 1 = .ok (.iconst 0, 1) := by decide +kernel
theorem dX12_isGoal_2 : decode cX12_isGoal 2 = .ok (.aload_n 0, 1) := by decide +kernel
theorem dX12_isGoal_3 : decode cX12_isGoal 3 = .ok (.getfield 9, 3) := by decide +kernel
theorem dX12_isGoal_6 : decode cX12_isGoal 6 = .ok (.iconst 5, 1) := by decide +kernel
theorem dX12_isGoal_7 : decode cX12_isGoal 7 = .ok (.iaload, 1) := by decide +kernel
theorem dX12_isGoal_8 : decode cX12_isGoal 8 = .ok (.iconst 1, 1) := by decide +kernel
theorem dX12_isGoal_9 : decode cX12_isGoal 9 = .ok (.isub, 1) := by decide +kernel
theorem dX12_isGoal_10 : decode cX12_isGoal 10 = .ok (.invokestatic 102, 3) := by decide +kernel
theorem dX12_isGoal_13 : decode cX12_isGoal 13 = .ok (.ireturn, 1) := by decide +kernel
theorem dX12_isSign_0 : decode cX12_isSign 0 = .ok (.iload_n 1, 1) := by decide +kernel
theorem dX12_isSign_1 : decode cX12_isSign 1 = .ok (.iconst 0, 1) := by decide +kernel
theorem dX12_isSign_2 : decode cX12_isSign 2 = .ok (.aload_n 0, 1) := by decide +kernel
theorem dX12_isSign_3 : decode cX12_isSign 3 = .ok (.getfield 9, 3) := by decide +kernel
theorem dX12_isSign_6 : decode cX12_isSign 6 = .ok (.bipush 6, 2) := by decide +kernel
theorem dX12_isSign_8 : decode cX12_isSign 8 = .ok (.iaload, 1) := by decide +kernel
theorem dX12_isSign_9 : decode cX12_isSign 9 = .ok (.iconst 1, 1) := by decide +kernel
theorem dX12_isSign_10 : decode cX12_isSign 10 = .ok (.isub, 1) := by decide +kernel
theorem dX12_isSign_11 : decode cX12_isSign 11 = .ok (.invokestatic 102, 3) := by decide +kernel
theorem dX12_isSign_14 : decode cX12_isSign 14 = .ok (.ireturn, 1) := by decide +kernel
theorem dX12_place_0 : decode cX12_place 0 = .ok (.aload_n 0, 1) := by decide +kernel
theorem dX12_place_1 : decode cX12_place 1 = .ok (.getfield 9, 3) := by decide +kernel
theorem dX12_place_4 : decode cX12_place 4 = .ok (.iconst 3, 1) := by decide +kernel
theorem dX12_place_5 : decode cX12_place 5 = .ok (.iaload, 1) := by decide +kernel
theorem dX12_place_6 : decode cX12_place 6 = .ok (.bipush 12, 2) := by decide +kernel
theorem dX12_place_8 : decode cX12_place 8 = .ok (.if_icmp .ne 6, 3) := by decide +kernel
theorem dX12_place_11 : decode cX12_place 11 = .ok (.ldc 106, 2) := by decide +kernel
theorem dX12_place_13 : decode cX12_place 13 = .ok (.ireturn, 1) := by decide +kernel
theorem dX12_place_14 : decode cX12_place 14 = .ok (.aload_n 0, 1) := by decide +kernel
theorem dX12_place_15 : decode cX12_place 15 = .ok (.getfield 9, 3) := by decide +kernel
theorem dX12_place_18 : decode cX12_place 18 = .ok (.iconst 3, 1) := by decide +kernel
theorem dX12_place_19 : decode cX12_place 19 = .ok (.dup2, 1) := by decide +kernel
theorem dX12_place_20 : decode cX12_place 20 = .ok (.iaload, 1) := by decide +kernel
theorem dX12_place_21 : decode cX12_place 21 = .ok (.iconst 1, 1) := by decide +kernel
theorem dX12_place_22 : decode cX12_place 22 = .ok (.iadd, 1) := by decide +kernel
theorem dX12_place_23 : decode cX12_place 23 = .ok (.iastore, 1) := by decide +kernel
theorem dX12_place_24 : decode cX12_place 24 = .ok (.aload_n 0, 1) := by decide +kernel
theorem dX12_place_25 : decode cX12_place 25 = .ok (.getfield 9, 3) := by decide +kernel
theorem dX12_place_28 : decode cX12_place 28 = .ok (.iconst 3, 1) := by decide +kernel
theorem dX12_place_29 : decode cX12_place 29 = .ok (.iaload, 1) := by decide +kernel
theorem dX12_place_30 : decode cX12_place 30 = .ok (.iconst 1, 1) := by decide +kernel
theorem dX12_place_31 : decode cX12_place 31 = .ok (.isub, 1) := by decide +kernel
theorem dX12_place_32 : decode cX12_place 32 = .ok (.ireturn, 1) := by decide +kernel
theorem dX12_wayFrom_0 : decode cX12_wayFrom 0 = .ok (.iconst 0, 1) := by decide +kernel
theorem dX12_wayFrom_1 : decode cX12_wayFrom 1 = .ok (.istore_n 3, 1) := by decide +kernel
theorem dX12_wayFrom_2 : decode cX12_wayFrom 2 = .ok (.iload_n 3, 1) := by decide +kernel
theorem dX12_wayFrom_3 : decode cX12_wayFrom 3 = .ok (.aload_n 0, 1) := by decide +kernel
theorem dX12_wayFrom_4 : decode cX12_wayFrom 4 = .ok (.getfield 9, 3) := by decide +kernel
theorem dX12_wayFrom_7 : decode cX12_wayFrom 7 = .ok (.iconst 4, 1) := by decide +kernel
theorem dX12_wayFrom_8 : decode cX12_wayFrom 8 = .ok (.iaload, 1) := by decide +kernel
theorem dX12_wayFrom_9 : decode cX12_wayFrom 9 = .ok (.if_icmp .ge 99, 3) := by decide +kernel
theorem dX12_wayFrom_12 : decode cX12_wayFrom 12 = .ok (.bipush 15, 2) := by decide +kernel
theorem dX12_wayFrom_14 : decode cX12_wayFrom 14 = .ok (.bipush 6, 2) := by decide +kernel
theorem dX12_wayFrom_16 : decode cX12_wayFrom 16 = .ok (.iload_n 3, 1) := by decide +kernel
theorem dX12_wayFrom_17 : decode cX12_wayFrom 17 = .ok (.imul, 1) := by decide +kernel
theorem dX12_wayFrom_18 : decode cX12_wayFrom 18 = .ok (.iadd, 1) := by decide +kernel
theorem dX12_wayFrom_19 : decode cX12_wayFrom 19 = .ok (.istore 4, 2) := by decide +kernel
theorem dX12_wayFrom_21 : decode cX12_wayFrom 21 = .ok (.aload_n 0, 1) := by decide +kernel
theorem dX12_wayFrom_22 : decode cX12_wayFrom 22 = .ok (.getfield 9, 3) := by decide +kernel
theorem dX12_wayFrom_25 : decode cX12_wayFrom 25 = .ok (.iload 4, 2) := by decide +kernel
theorem dX12_wayFrom_27 : decode cX12_wayFrom 27 = .ok (.iaload, 1) := by decide +kernel
theorem dX12_wayFrom_28 : decode cX12_wayFrom 28 = .ok (.iload_n 1, 1) := by decide +kernel
theorem dX12_wayFrom_29 : decode cX12_wayFrom 29 = .ok (.if_icmp .ne 20, 3) := by decide +kernel
theorem dX12_wayFrom_32 : decode cX12_wayFrom 32 = .ok (.aload_n 0, 1) := by decide +kernel
theorem dX12_wayFrom_33 : decode cX12_wayFrom 33 = .ok (.getfield 9, 3) := by decide +kernel
theorem dX12_wayFrom_36 : decode cX12_wayFrom 36 = .ok (.iload 4, 2) := by decide +kernel
theorem dX12_wayFrom_38 : decode cX12_wayFrom 38 = .ok (.iconst 2, 1) := by decide +kernel
theorem dX12_wayFrom_39 : decode cX12_wayFrom 39 = .ok (.iadd, 1) := by decide +kernel
theorem dX12_wayFrom_40 : decode cX12_wayFrom 40 = .ok (.iaload, 1) := by decide +kernel
theorem dX12_wayFrom_41 : decode cX12_wayFrom 41 = .ok (.iload_n 2, 1) := by decide +kernel
theorem dX12_wayFrom_42 : decode cX12_wayFrom 42 = .ok (.if_icmp .ne 7, 3) := by decide +kernel
theorem dX12_wayFrom_45 : decode cX12_wayFrom 45 = .ok (.iconst 1, 1) := by decide +kernel
theorem dX12_wayFrom_46 : decode cX12_wayFrom 46 = .ok (.goto 4, 3) := by decide +kernel
theorem dX12_wayFrom_49 : decode cX12_wayFrom 49 = .ok (.iconst 0, 1) := by decide +kernel
theorem dX12_wayFrom_50 : decode cX12_wayFrom 50 = .ok (.istore 5, 2) := by decide +kernel
theorem dX12_wayFrom_52 : decode cX12_wayFrom 52 = .ok (.aload_n 0, 1) := by decide +kernel
theorem dX12_wayFrom_53 : decode cX12_wayFrom 53 = .ok (.getfield 9, 3) := by decide +kernel
theorem dX12_wayFrom_56 : decode cX12_wayFrom 56 = .ok (.iload 4, 2) := by decide +kernel
theorem dX12_wayFrom_58 : decode cX12_wayFrom 58 = .ok (.iconst 1, 1) := by decide +kernel
theorem dX12_wayFrom_59 : decode cX12_wayFrom 59 = .ok (.iadd, 1) := by decide +kernel
theorem dX12_wayFrom_60 : decode cX12_wayFrom 60 = .ok (.iaload, 1) := by decide +kernel
theorem dX12_wayFrom_61 : decode cX12_wayFrom 61 = .ok (.iload_n 1, 1) := by decide +kernel
theorem dX12_wayFrom_62 : decode cX12_wayFrom 62 = .ok (.if_icmp .ne 25, 3) := by decide +kernel
theorem dX12_wayFrom_65 : decode cX12_wayFrom 65 = .ok (.aload_n 0, 1) := by decide +kernel
theorem dX12_wayFrom_66 : decode cX12_wayFrom 66 = .ok (.getfield 9, 3) := by decide +kernel
theorem dX12_wayFrom_69 : decode cX12_wayFrom 69 = .ok (.iload 4, 2) := by decide +kernel
theorem dX12_wayFrom_71 : decode cX12_wayFrom 71 = .ok (.iconst 2, 1) := by decide +kernel
theorem dX12_wayFrom_72 : decode cX12_wayFrom 72 = .ok (.iadd, 1) := by decide +kernel
theorem dX12_wayFrom_73 : decode cX12_wayFrom 73 = .ok (.iaload, 1) := by decide +kernel
theorem dX12_wayFrom_74 : decode cX12_wayFrom 74 = .ok (.iconst 4, 1) := by decide +kernel
theorem dX12_wayFrom_75 : decode cX12_wayFrom 75 = .ok (.iadd, 1) := by decide +kernel
theorem dX12_wayFrom_76 : decode cX12_wayFrom 76 = .ok (.bipush 8, 2) := by decide +kernel
theorem dX12_wayFrom_78 : decode cX12_wayFrom 78 = .ok (.irem, 1) := by decide +kernel
theorem dX12_wayFrom_79 : decode cX12_wayFrom 79 = .ok (.iload_n 2, 1) := by decide +kernel
theorem dX12_wayFrom_80 : decode cX12_wayFrom 80 = .ok (.if_icmp .ne 7, 3) := by decide +kernel
theorem dX12_wayFrom_83 : decode cX12_wayFrom 83 = .ok (.iconst 1, 1) := by decide +kernel
theorem dX12_wayFrom_84 : decode cX12_wayFrom 84 = .ok (.goto 4, 3) := by decide +kernel
theorem dX12_wayFrom_87 : decode cX12_wayFrom 87 = .ok (.iconst 0, 1) := by decide +kernel
theorem dX12_wayFrom_88 : decode cX12_wayFrom 88 = .ok (.istore 6, 2) := by decide +kernel
theorem dX12_wayFrom_90 : decode cX12_wayFrom 90 = .ok (.iload 5, 2) := by decide +kernel
theorem dX12_wayFrom_92 : decode cX12_wayFrom 92 = .ok (.ifCond .ne 8, 3) := by decide +kernel
theorem dX12_wayFrom_95 : decode cX12_wayFrom 95 = .ok (.iload 6, 2) := by decide +kernel
theorem dX12_wayFrom_97 : decode cX12_wayFrom 97 = .ok (.ifCond .eq 5, 3) := by decide +kernel
theorem dX12_wayFrom_100 : decode cX12_wayFrom 100 = .ok (.iload_n 3, 1) := by decide +kernel
theorem dX12_wayFrom_101 : decode cX12_wayFrom 101 = .ok (.ireturn, 1) := by decide +kernel
theorem dX12_wayFrom_102 : decode cX12_wayFrom 102 = .ok (.iinc 3 1, 3) := by decide +kernel
theorem dX12_wayFrom_105 : decode cX12_wayFrom 105 = .ok (.goto (-103), 3) := by decide +kernel
theorem dX12_wayFrom_108 : decode cX12_wayFrom 108 = .ok (.iconst (-1), 1) := by decide +kernel
theorem dX12_wayFrom_109 : decode cX12_wayFrom 109 = .ok (.ireturn, 1) := by decide +kernel
theorem dX12_way_0 : decode cX12_way 0 = .ok (.aload_n 0, 1) := by decide +kernel
theorem dX12_way_1 : decode cX12_way 1 = .ok (.iload_n 1, 1) := by decide +kernel
theorem dX12_way_2 : decode cX12_way 2 = .ok (.invokevirtual 107, 3) := by decide +kernel
theorem dX12_way_5 : decode cX12_way 5 = .ok (.ifCond .eq 54, 3) := by decide +kernel
theorem dX12_way_8 : decode cX12_way 8 = .ok (.aload_n 0, 1) := by decide +kernel
theorem dX12_way_9 : decode cX12_way 9 = .ok (.iload_n 2, 1) := by decide +kernel
theorem dX12_way_10 : decode cX12_way 10 = .ok (.invokevirtual 107, 3) := by decide +kernel
theorem dX12_way_13 : decode cX12_way 13 = .ok (.ifCond .eq 46, 3) := by decide +kernel
theorem dX12_way_16 : decode cX12_way 16 = .ok (.iload_n 1, 1) := by decide +kernel
theorem dX12_way_17 : decode cX12_way 17 = .ok (.iload_n 2, 1) := by decide +kernel
theorem dX12_way_18 : decode cX12_way 18 = .ok (.if_icmp .eq 41, 3) := by decide +kernel
theorem dX12_way_21 : decode cX12_way 21 = .ok (.iload_n 3, 1) := by decide +kernel
theorem dX12_way_22 : decode cX12_way 22 = .ok (.iconst 0, 1) := by decide +kernel
theorem dX12_way_23 : decode cX12_way 23 = .ok (.bipush 7, 2) := by decide +kernel
theorem dX12_way_25 : decode cX12_way 25 = .ok (.invokestatic 102, 3) := by decide +kernel
theorem dX12_way_28 : decode cX12_way 28 = .ok (.ifCond .eq 31, 3) := by decide +kernel
theorem dX12_way_31 : decode cX12_way 31 = .ok (.iload 4, 2) := by decide +kernel
theorem dX12_way_33 : decode cX12_way 33 = .ok (.ifCond .lt 26, 3) := by decide +kernel
theorem dX12_way_36 : decode cX12_way 36 = .ok (.iload 4, 2) := by decide +kernel
theorem dX12_way_38 : decode cX12_way 38 = .ok (.bipush 100, 2) := by decide +kernel
theorem dX12_way_40 : decode cX12_way 40 = .ok (.idiv, 1) := by decide +kernel
theorem dX12_way_41 : decode cX12_way 41 = .ok (.iconst 3, 1) := by decide +kernel
theorem dX12_way_42 : decode cX12_way 42 = .ok (.if_icmp .gt 17, 3) := by decide +kernel
theorem dX12_way_45 : decode cX12_way 45 = .ok (.iload 4, 2) := by decide +kernel
theorem dX12_way_47 : decode cX12_way 47 = .ok (.bipush 100, 2) := by decide +kernel
theorem dX12_way_49 : decode cX12_way 49 = .ok (.irem, 1) := by decide +kernel
theorem dX12_way_50 : decode cX12_way 50 = .ok (.iconst 1, 1) := by decide +kernel
theorem dX12_way_51 : decode cX12_way 51 = .ok (.bipush 30, 2) := by decide +kernel
theorem dX12_way_53 : decode cX12_way 53 = .ok (.invokestatic 102, 3) := by decide +kernel
theorem dX12_way_56 : decode cX12_way 56 = .ok (.ifCond .ne 6, 3) := by decide +kernel
theorem dX12_way_59 : decode cX12_way 59 = .ok (.ldc 111, 2) := by decide +kernel
theorem dX12_way_61 : decode cX12_way 61 = .ok (.ireturn, 1) := by decide +kernel
theorem dX12_way_62 : decode cX12_way 62 = .ok (.aload_n 0, 1) := by decide +kernel
theorem dX12_way_63 : decode cX12_way 63 = .ok (.getfield 9, 3) := by decide +kernel
theorem dX12_way_66 : decode cX12_way 66 = .ok (.iconst 4, 1) := by decide +kernel
theorem dX12_way_67 : decode cX12_way 67 = .ok (.iaload, 1) := by decide +kernel
theorem dX12_way_68 : decode cX12_way 68 = .ok (.bipush 20, 2) := by decide +kernel
theorem dX12_way_70 : decode cX12_way 70 = .ok (.if_icmp .ne 6, 3) := by decide +kernel
theorem dX12_way_73 : decode cX12_way 73 = .ok (.ldc 106, 2) := by decide +kernel
theorem dX12_way_75 : decode cX12_way 75 = .ok (.ireturn, 1) := by decide +kernel
theorem dX12_way_76 : decode cX12_way 76 = .ok (.aload_n 0, 1) := by decide +kernel
theorem dX12_way_77 : decode cX12_way 77 = .ok (.iload_n 1, 1) := by decide +kernel
theorem dX12_way_78 : decode cX12_way 78 = .ok (.iload_n 3, 1) := by decide +kernel
theorem dX12_way_79 : decode cX12_way 79 = .ok (.invokevirtual 112, 3) := by decide +kernel
theorem dX12_way_82 : decode cX12_way 82 = .ok (.ifCond .ge 17, 3) := by decide +kernel
theorem dX12_way_85 : decode cX12_way 85 = .ok (.aload_n 0, 1) := by decide +kernel
theorem dX12_way_86 : decode cX12_way 86 = .ok (.iload_n 2, 1) := by decide +kernel
theorem dX12_way_87 : decode cX12_way 87 = .ok (.iload_n 3, 1) := by decide +kernel
theorem dX12_way_88 : decode cX12_way 88 = .ok (.iconst 4, 1) := by decide +kernel
theorem dX12_way_89 : decode cX12_way 89 = .ok (.iadd, 1) := by decide +kernel
theorem dX12_way_90 : decode cX12_way 90 = .ok (.bipush 8, 2) := by decide +kernel
theorem dX12_way_92 : decode cX12_way 92 = .ok (.irem, 1) := by decide +kernel
theorem dX12_way_93 : decode cX12_way 93 = .ok (.invokevirtual 112, 3) := by decide +kernel
theorem dX12_way_96 : decode cX12_way 96 = .ok (.ifCond .lt 6, 3) := by decide +kernel
theorem dX12_way_99 : decode cX12_way 99 = .ok (.ldc 116, 2) := by decide +kernel
theorem dX12_way_101 : decode cX12_way 101 = .ok (.ireturn, 1) := by decide +kernel
theorem dX12_way_102 : decode cX12_way 102 = .ok (.bipush 15, 2) := by decide +kernel
theorem dX12_way_104 : decode cX12_way 104 = .ok (.bipush 6, 2) := by decide +kernel
theorem dX12_way_106 : decode cX12_way 106 = .ok (.aload_n 0, 1) := by decide +kernel
theorem dX12_way_107 : decode cX12_way 107 = .ok (.getfield 9, 3) := by decide +kernel
theorem dX12_way_110 : decode cX12_way 110 = .ok (.iconst 4, 1) := by decide +kernel
theorem dX12_way_111 : decode cX12_way 111 = .ok (.iaload, 1) := by decide +kernel
theorem dX12_way_112 : decode cX12_way 112 = .ok (.imul, 1) := by decide +kernel
theorem dX12_way_113 : decode cX12_way 113 = .ok (.iadd, 1) := by decide +kernel
theorem dX12_way_114 : decode cX12_way 114 = .ok (.istore 5, 2) := by decide +kernel
theorem dX12_way_116 : decode cX12_way 116 = .ok (.aload_n 0, 1) := by decide +kernel
theorem dX12_way_117 : decode cX12_way 117 = .ok (.getfield 9, 3) := by decide +kernel
theorem dX12_way_120 : decode cX12_way 120 = .ok (.iload 5, 2) := by decide +kernel
theorem dX12_way_122 : decode cX12_way 122 = .ok (.iload_n 1, 1) := by decide +kernel
theorem dX12_way_123 : decode cX12_way 123 = .ok (.iastore, 1) := by decide +kernel
theorem dX12_way_124 : decode cX12_way 124 = .ok (.aload_n 0, 1) := by decide +kernel
theorem dX12_way_125 : decode cX12_way 125 = .ok (.getfield 9, 3) := by decide +kernel
theorem dX12_way_128 : decode cX12_way 128 = .ok (.iload 5, 2) := by decide +kernel
theorem dX12_way_130 : decode cX12_way 130 = .ok (.iconst 1, 1) := by decide +kernel
theorem dX12_way_131 : decode cX12_way 131 = .ok (.iadd, 1) := by decide +kernel
theorem dX12_way_132 : decode cX12_way 132 = .ok (.iload_n 2, 1) := by decide +kernel
theorem dX12_way_133 : decode cX12_way 133 = .ok (.iastore, 1) := by decide +kernel
theorem dX12_way_134 : decode cX12_way 134 = .ok (.aload_n 0, 1) := by decide +kernel
theorem dX12_way_135 : decode cX12_way 135 = .ok (.getfield 9, 3) := by decide +kernel
theorem dX12_way_138 : decode cX12_way 138 = .ok (.iload 5, 2) := by decide +kernel
theorem dX12_way_140 : decode cX12_way 140 = .ok (.iconst 2, 1) := by decide +kernel
theorem dX12_way_141 : decode cX12_way 141 = .ok (.iadd, 1) := by decide +kernel
theorem dX12_way_142 : decode cX12_way 142 = .ok (.iload_n 3, 1) := by decide +kernel
theorem dX12_way_143 : decode cX12_way 143 = .ok (.iastore, 1) := by decide +kernel
theorem dX12_way_144 : decode cX12_way 144 = .ok (.aload_n 0, 1) := by decide +kernel
theorem dX12_way_145 : decode cX12_way 145 = .ok (.getfield 9, 3) := by decide +kernel
theorem dX12_way_148 : decode cX12_way 148 = .ok (.iload 5, 2) := by decide +kernel
theorem dX12_way_150 : decode cX12_way 150 = .ok (.iconst 3, 1) := by decide +kernel
theorem dX12_way_151 : decode cX12_way 151 = .ok (.iadd, 1) := by decide +kernel
theorem dX12_way_152 : decode cX12_way 152 = .ok (.iload 4, 2) := by decide +kernel
theorem dX12_way_154 : decode cX12_way 154 = .ok (.bipush 100, 2) := by decide +kernel
theorem dX12_way_156 : decode cX12_way 156 = .ok (.idiv, 1) := by decide +kernel
theorem dX12_way_157 : decode cX12_way 157 = .ok (.iastore, 1) := by decide +kernel
theorem dX12_way_158 : decode cX12_way 158 = .ok (.aload_n 0, 1) := by decide +kernel
theorem dX12_way_159 : decode cX12_way 159 = .ok (.getfield 9, 3) := by decide +kernel
theorem dX12_way_162 : decode cX12_way 162 = .ok (.iload 5, 2) := by decide +kernel
theorem dX12_way_164 : decode cX12_way 164 = .ok (.iconst 4, 1) := by decide +kernel
theorem dX12_way_165 : decode cX12_way 165 = .ok (.iadd, 1) := by decide +kernel
theorem dX12_way_166 : decode cX12_way 166 = .ok (.iload 4, 2) := by decide +kernel
theorem dX12_way_168 : decode cX12_way 168 = .ok (.bipush 100, 2) := by decide +kernel
theorem dX12_way_170 : decode cX12_way 170 = .ok (.irem, 1) := by decide +kernel
theorem dX12_way_171 : decode cX12_way 171 = .ok (.iastore, 1) := by decide +kernel
theorem dX12_way_172 : decode cX12_way 172 = .ok (.aload_n 0, 1) := by decide +kernel
theorem dX12_way_173 : decode cX12_way 173 = .ok (.getfield 9, 3) := by decide +kernel
theorem dX12_way_176 : decode cX12_way 176 = .ok (.iload 5, 2) := by decide +kernel
theorem dX12_way_178 : decode cX12_way 178 = .ok (.iconst 5, 1) := by decide +kernel
theorem dX12_way_179 : decode cX12_way 179 = .ok (.iadd, 1) := by decide +kernel
theorem dX12_way_180 : decode cX12_way 180 = .ok (.iconst 0, 1) := by decide +kernel
theorem dX12_way_181 : decode cX12_way 181 = .ok (.iastore, 1) := by decide +kernel
theorem dX12_way_182 : decode cX12_way 182 = .ok (.aload_n 0, 1) := by decide +kernel
theorem dX12_way_183 : decode cX12_way 183 = .ok (.getfield 9, 3) := by decide +kernel
theorem dX12_way_186 : decode cX12_way 186 = .ok (.iconst 4, 1) := by decide +kernel
theorem dX12_way_187 : decode cX12_way 187 = .ok (.dup2, 1) := by decide +kernel
theorem dX12_way_188 : decode cX12_way 188 = .ok (.iaload, 1) := by decide +kernel
theorem dX12_way_189 : decode cX12_way 189 = .ok (.iconst 1, 1) := by decide +kernel
theorem dX12_way_190 : decode cX12_way 190 = .ok (.iadd, 1) := by decide +kernel
theorem dX12_way_191 : decode cX12_way 191 = .ok (.iastore, 1) := by decide +kernel
theorem dX12_way_192 : decode cX12_way 192 = .ok (.aload_n 0, 1) := by decide +kernel
theorem dX12_way_193 : decode cX12_way 193 = .ok (.getfield 9, 3) := by decide +kernel
theorem dX12_way_196 : decode cX12_way 196 = .ok (.iconst 4, 1) := by decide +kernel
theorem dX12_way_197 : decode cX12_way 197 = .ok (.iaload, 1) := by decide +kernel
theorem dX12_way_198 : decode cX12_way 198 = .ok (.iconst 1, 1) := by decide +kernel
theorem dX12_way_199 : decode cX12_way 199 = .ok (.isub, 1) := by decide +kernel
theorem dX12_way_200 : decode cX12_way 200 = .ok (.ireturn, 1) := by decide +kernel
theorem dX12_passes_0 : decode cX12_passes 0 = .ok (.bipush 15, 2) := by decide +kernel
theorem dX12_passes_2 : decode cX12_passes 2 = .ok (.bipush 6, 2) := by decide +kernel
theorem dX12_passes_4 : decode cX12_passes 4 = .ok (.iload_n 1, 1) := by decide +kernel
theorem dX12_passes_5 : decode cX12_passes 5 = .ok (.imul, 1) := by decide +kernel
theorem dX12_passes_6 : decode cX12_passes 6 = .ok (.iadd, 1) := by decide +kernel
theorem dX12_passes_7 : decode cX12_passes 7 = .ok (.istore_n 3, 1) := by decide +kernel
theorem dX12_passes_8 : decode cX12_passes 8 = .ok (.aload_n 0, 1) := by decide +kernel
theorem dX12_passes_9 : decode cX12_passes 9 = .ok (.getfield 9, 3) := by decide +kernel
theorem dX12_passes_12 : decode cX12_passes 12 = .ok (.iload_n 3, 1) := by decide +kernel
theorem dX12_passes_13 : decode cX12_passes 13 = .ok (.iconst 5, 1) := by decide +kernel
theorem dX12_passes_14 : decode cX12_passes 14 = .ok (.iadd, 1) := by decide +kernel
theorem dX12_passes_15 : decode cX12_passes 15 = .ok (.iaload, 1) := by decide +kernel
theorem dX12_passes_16 : decode cX12_passes 16 = .ok (.iconst 1, 1) := by decide +kernel
theorem dX12_passes_17 : decode cX12_passes 17 = .ok (.if_icmp .eq 20, 3) := by decide +kernel
theorem dX12_passes_20 : decode cX12_passes 20 = .ok (.aload_n 0, 1) := by decide +kernel
theorem dX12_passes_21 : decode cX12_passes 21 = .ok (.getfield 9, 3) := by decide +kernel
theorem dX12_passes_24 : decode cX12_passes 24 = .ok (.iload_n 3, 1) := by decide +kernel
theorem dX12_passes_25 : decode cX12_passes 25 = .ok (.iconst 3, 1) := by decide +kernel
theorem dX12_passes_26 : decode cX12_passes 26 = .ok (.iadd, 1) := by decide +kernel
theorem dX12_passes_27 : decode cX12_passes 27 = .ok (.iaload, 1) := by decide +kernel
theorem dX12_passes_28 : decode cX12_passes 28 = .ok (.iconst 1, 1) := by decide +kernel
theorem dX12_passes_29 : decode cX12_passes 29 = .ok (.if_icmp .ne 10, 3) := by decide +kernel
theorem dX12_passes_32 : decode cX12_passes 32 = .ok (.iload_n 2, 1) := by decide +kernel
theorem dX12_passes_33 : decode cX12_passes 33 = .ok (.iconst 1, 1) := by decide +kernel
theorem dX12_passes_34 : decode cX12_passes 34 = .ok (.if_icmp .ne 5, 3) := by decide +kernel
theorem dX12_passes_37 : decode cX12_passes 37 = .ok (.iconst 0, 1) := by decide +kernel
theorem dX12_passes_38 : decode cX12_passes 38 = .ok (.ireturn, 1) := by decide +kernel
theorem dX12_passes_39 : decode cX12_passes 39 = .ok (.aload_n 0, 1) := by decide +kernel
theorem dX12_passes_40 : decode cX12_passes 40 = .ok (.getfield 9, 3) := by decide +kernel
theorem dX12_passes_43 : decode cX12_passes 43 = .ok (.iload_n 3, 1) := by decide +kernel
theorem dX12_passes_44 : decode cX12_passes 44 = .ok (.iconst 3, 1) := by decide +kernel
theorem dX12_passes_45 : decode cX12_passes 45 = .ok (.iadd, 1) := by decide +kernel
theorem dX12_passes_46 : decode cX12_passes 46 = .ok (.iaload, 1) := by decide +kernel
theorem dX12_passes_47 : decode cX12_passes 47 = .ok (.iconst 3, 1) := by decide +kernel
theorem dX12_passes_48 : decode cX12_passes 48 = .ok (.if_icmp .eq 5, 3) := by decide +kernel
theorem dX12_passes_51 : decode cX12_passes 51 = .ok (.iconst 1, 1) := by decide +kernel
theorem dX12_passes_52 : decode cX12_passes 52 = .ok (.ireturn, 1) := by decide +kernel
theorem dX12_passes_53 : decode cX12_passes 53 = .ok (.aload_n 0, 1) := by decide +kernel
theorem dX12_passes_54 : decode cX12_passes 54 = .ok (.iconst 1, 1) := by decide +kernel
theorem dX12_passes_55 : decode cX12_passes 55 = .ok (.invokevirtual 117, 3) := by decide +kernel
theorem dX12_passes_58 : decode cX12_passes 58 = .ok (.istore 4, 2) := by decide +kernel
theorem dX12_passes_60 : decode cX12_passes 60 = .ok (.aload_n 0, 1) := by decide +kernel
theorem dX12_passes_61 : decode cX12_passes 61 = .ok (.getfield 45, 3) := by decide +kernel
theorem dX12_passes_64 : decode cX12_passes 64 = .ok (.iconst 0, 1) := by decide +kernel
theorem dX12_passes_65 : decode cX12_passes 65 = .ok (.aload_n 0, 1) := by decide +kernel
theorem dX12_passes_66 : decode cX12_passes 66 = .ok (.getfield 9, 3) := by decide +kernel
theorem dX12_passes_69 : decode cX12_passes 69 = .ok (.iconst 1, 1) := by decide +kernel
theorem dX12_passes_70 : decode cX12_passes 70 = .ok (.iaload, 1) := by decide +kernel
theorem dX12_passes_71 : decode cX12_passes 71 = .ok (.iastore, 1) := by decide +kernel
theorem dX12_passes_72 : decode cX12_passes 72 = .ok (.aload_n 0, 1) := by decide +kernel
theorem dX12_passes_73 : decode cX12_passes 73 = .ok (.getfield 45, 3) := by decide +kernel
theorem dX12_passes_76 : decode cX12_passes 76 = .ok (.iconst 1, 1) := by decide +kernel
theorem dX12_passes_77 : decode cX12_passes 77 = .ok (.aload_n 0, 1) := by decide +kernel
theorem dX12_passes_78 : decode cX12_passes 78 = .ok (.getfield 9, 3) := by decide +kernel
theorem dX12_passes_81 : decode cX12_passes 81 = .ok (.iconst 2, 1) := by decide +kernel
theorem dX12_passes_82 : decode cX12_passes 82 = .ok (.iaload, 1) := by decide +kernel
theorem dX12_passes_83 : decode cX12_passes 83 = .ok (.iastore, 1) := by decide +kernel
theorem dX12_passes_84 : decode cX12_passes 84 = .ok (.aload_n 0, 1) := by decide +kernel
theorem dX12_passes_85 : decode cX12_passes 85 = .ok (.getfield 45, 3) := by decide +kernel
theorem dX12_passes_88 : decode cX12_passes 88 = .ok (.iconst 2, 1) := by decide +kernel
theorem dX12_passes_89 : decode cX12_passes 89 = .ok (.aload_n 0, 1) := by decide +kernel
theorem dX12_passes_90 : decode cX12_passes 90 = .ok (.getfield 9, 3) := by decide +kernel
theorem dX12_passes_93 : decode cX12_passes 93 = .ok (.iload_n 3, 1) := by decide +kernel
theorem dX12_passes_94 : decode cX12_passes 94 = .ok (.iconst 4, 1) := by decide +kernel
theorem dX12_passes_95 : decode cX12_passes 95 = .ok (.iadd, 1) := by decide +kernel
theorem dX12_passes_96 : decode cX12_passes 96 = .ok (.iaload, 1) := by decide +kernel
theorem dX12_passes_97 : decode cX12_passes 97 = .ok (.iastore, 1) := by decide +kernel
theorem dX12_passes_98 : decode cX12_passes 98 = .ok (.iload 4, 2) := by decide +kernel
theorem dX12_passes_100 : decode cX12_passes 100 = .ok (.ifCond .ge 19, 3) := by decide +kernel
theorem dX12_passes_103 : decode cX12_passes 103 = .ok (.aload_n 0, 1) := by decide +kernel
theorem dX12_passes_104 : decode cX12_passes 104 = .ok (.getfield 9, 3) := by decide +kernel
theorem dX12_passes_107 : decode cX12_passes 107 = .ok (.iconst 1, 1) := by decide +kernel
theorem dX12_passes_108 : decode cX12_passes 108 = .ok (.iaload, 1) := by decide +kernel
theorem dX12_passes_109 : decode cX12_passes 109 = .ok (.bipush 6, 2) := by decide +kernel
theorem dX12_passes_111 : decode cX12_passes 111 = .ok (.bipush 21, 2) := by decide +kernel
theorem dX12_passes_113 : decode cX12_passes 113 = .ok (.invokestatic 102, 3) := by decide +kernel
theorem dX12_passes_116 : decode cX12_passes 116 = .ok (.goto 17, 3) := by decide +kernel
theorem dX12_passes_119 : decode cX12_passes 119 = .ok (.aload_n 0, 1) := by decide +kernel
theorem dX12_passes_120 : decode cX12_passes 120 = .ok (.iload 4, 2) := by decide +kernel
theorem dX12_passes_122 : decode cX12_passes 122 = .ok (.invokevirtual 121, 3) := by decide +kernel
theorem dX12_passes_125 : decode cX12_passes 125 = .ok (.ifCond .eq 7, 3) := by decide +kernel
theorem dX12_passes_128 : decode cX12_passes 128 = .ok (.iconst 1, 1) := by decide +kernel
theorem dX12_passes_129 : decode cX12_passes 129 = .ok (.goto 4, 3) := by decide +kernel
theorem dX12_passes_132 : decode cX12_passes 132 = .ok (.iconst 0, 1) := by decide +kernel
theorem dX12_passes_133 : decode cX12_passes 133 = .ok (.ireturn, 1) := by decide +kernel
theorem dX12_wayTold_0 : decode cX12_wayTold 0 = .ok (.iload_n 1, 1) := by decide +kernel
theorem dX12_wayTold_1 : decode cX12_wayTold 1 = .ok (.iconst 0, 1) := by decide +kernel
theorem dX12_wayTold_2 : decode cX12_wayTold 2 = .ok (.aload_n 0, 1) := by decide +kernel
theorem dX12_wayTold_3 : decode cX12_wayTold 3 = .ok (.getfield 9, 3) := by decide +kernel
theorem dX12_wayTold_6 : decode cX12_wayTold 6 = .ok (.iconst 4, 1) := by decide +kernel
theorem dX12_wayTold_7 : decode cX12_wayTold 7 = .ok (.iaload, 1) := by decide +kernel
theorem dX12_wayTold_8 : decode cX12_wayTold 8 = .ok (.iconst 1, 1) := by decide +kernel
theorem dX12_wayTold_9 : decode cX12_wayTold 9 = .ok (.isub, 1) := by decide +kernel
theorem dX12_wayTold_10 : decode cX12_wayTold 10 = .ok (.invokestatic 102, 3) := by decide +kernel
theorem dX12_wayTold_13 : decode cX12_wayTold 13 = .ok (.ifCond .eq 13, 3) := by decide +kernel
theorem dX12_wayTold_16 : decode cX12_wayTold 16 = .ok (.iload_n 2, 1) := by decide +kernel
theorem dX12_wayTold_17 : decode cX12_wayTold 17 = .ok (.iconst 0, 1) := by decide +kernel
theorem dX12_wayTold_18 : decode cX12_wayTold 18 = .ok (.bipush 7, 2) := by decide +kernel
theorem dX12_wayTold_20 : decode cX12_wayTold 20 = .ok (.invokestatic 102, 3) := by decide +kernel
theorem dX12_wayTold_23 : decode cX12_wayTold 23 = .ok (.ifCond .ne 6, 3) := by decide +kernel
theorem dX12_wayTold_26 : decode cX12_wayTold 26 = .ok (.ldc 111, 2) := by decide +kernel
theorem dX12_wayTold_28 : decode cX12_wayTold 28 = .ok (.ireturn, 1) := by decide +kernel
theorem dX12_wayTold_29 : decode cX12_wayTold 29 = .ok (.iload_n 2, 1) := by decide +kernel
theorem dX12_wayTold_30 : decode cX12_wayTold 30 = .ok (.bipush 6, 2) := by decide +kernel
theorem dX12_wayTold_32 : decode cX12_wayTold 32 = .ok (.if_icmp .ge 20, 3) := by decide +kernel
theorem dX12_wayTold_35 : decode cX12_wayTold 35 = .ok (.aload_n 0, 1) := by decide +kernel
theorem dX12_wayTold_36 : decode cX12_wayTold 36 = .ok (.getfield 9, 3) := by decide +kernel
theorem dX12_wayTold_39 : decode cX12_wayTold 39 = .ok (.bipush 15, 2) := by decide +kernel
theorem dX12_wayTold_41 : decode cX12_wayTold 41 = .ok (.bipush 6, 2) := by decide +kernel
theorem dX12_wayTold_43 : decode cX12_wayTold 43 = .ok (.iload_n 1, 1) := by decide +kernel
theorem dX12_wayTold_44 : decode cX12_wayTold 44 = .ok (.imul, 1) := by decide +kernel
theorem dX12_wayTold_45 : decode cX12_wayTold 45 = .ok (.iadd, 1) := by decide +kernel
theorem dX12_wayTold_46 : decode cX12_wayTold 46 = .ok (.iload_n 2, 1) := by decide +kernel
theorem dX12_wayTold_47 : decode cX12_wayTold 47 = .ok (.iadd, 1) := by decide +kernel
theorem dX12_wayTold_48 : decode cX12_wayTold 48 = .ok (.iaload, 1) := by decide +kernel
theorem dX12_wayTold_49 : decode cX12_wayTold 49 = .ok (.goto 20, 3) := by decide +kernel
theorem dX12_wayTold_52 : decode cX12_wayTold 52 = .ok (.aload_n 0, 1) := by decide +kernel
theorem dX12_wayTold_53 : decode cX12_wayTold 53 = .ok (.iload_n 1, 1) := by decide +kernel
theorem dX12_wayTold_54 : decode cX12_wayTold 54 = .ok (.iload_n 2, 1) := by decide +kernel
theorem dX12_wayTold_55 : decode cX12_wayTold 55 = .ok (.bipush 6, 2) := by decide +kernel
theorem dX12_wayTold_57 : decode cX12_wayTold 57 = .ok (.isub, 1) := by decide +kernel
theorem dX12_wayTold_58 : decode cX12_wayTold 58 = .ok (.invokevirtual 124, 3) := by decide +kernel
theorem dX12_wayTold_61 : decode cX12_wayTold 61 = .ok (.ifCond .eq 7, 3) := by decide +kernel
theorem dX12_wayTold_64 : decode cX12_wayTold 64 = .ok (.iconst 1, 1) := by decide +kernel
theorem dX12_wayTold_65 : decode cX12_wayTold 65 = .ok (.goto 4, 3) := by decide +kernel
theorem dX12_wayTold_68 : decode cX12_wayTold 68 = .ok (.iconst 0, 1) := by decide +kernel
theorem dX12_wayTold_69 : decode cX12_wayTold 69 = .ok (.ireturn, 1) := by decide +kernel
theorem dX12_shut_0 : decode cX12_shut 0 = .ok (.iload_n 1, 1) := by decide +kernel
theorem dX12_shut_1 : decode cX12_shut 1 = .ok (.iconst 0, 1) := by decide +kernel
theorem dX12_shut_2 : decode cX12_shut 2 = .ok (.aload_n 0, 1) := by decide +kernel
theorem dX12_shut_3 : decode cX12_shut 3 = .ok (.getfield 9, 3) := by decide +kernel
theorem dX12_shut_6 : decode cX12_shut 6 = .ok (.iconst 4, 1) := by decide +kernel
theorem dX12_shut_7 : decode cX12_shut 7 = .ok (.iaload, 1) := by decide +kernel
theorem dX12_shut_8 : decode cX12_shut 8 = .ok (.iconst 1, 1) := by decide +kernel
theorem dX12_shut_9 : decode cX12_shut 9 = .ok (.isub, 1) := by decide +kernel
theorem dX12_shut_10 : decode cX12_shut 10 = .ok (.invokestatic 102, 3) := by decide +kernel
theorem dX12_shut_13 : decode cX12_shut 13 = .ok (.ifCond .ne 6, 3) := by decide +kernel
theorem dX12_shut_16 : decode cX12_shut 16 = .ok (.ldc 111, 2) := by decide +kernel
theorem dX12_shut_18 : decode cX12_shut 18 = .ok (.ireturn, 1) := by decide +kernel
theorem dX12_shut_19 : decode cX12_shut 19 = .ok (.bipush 15, 2) := by decide +kernel
theorem dX12_shut_21 : decode cX12_shut 21 = .ok (.bipush 6, 2) := by decide +kernel
theorem dX12_shut_23 : decode cX12_shut 23 = .ok (.iload_n 1, 1) := by decide +kernel
theorem dX12_shut_24 : decode cX12_shut 24 = .ok (.imul, 1) := by decide +kernel
theorem dX12_shut_25 : decode cX12_shut 25 = .ok (.iadd, 1) := by decide +kernel
theorem dX12_shut_26 : decode cX12_shut 26 = .ok (.iconst 5, 1) := by decide +kernel
theorem dX12_shut_27 : decode cX12_shut 27 = .ok (.iadd, 1) := by decide +kernel
theorem dX12_shut_28 : decode cX12_shut 28 = .ok (.istore_n 3, 1) := by decide +kernel
theorem dX12_shut_29 : decode cX12_shut 29 = .ok (.aload_n 0, 1) := by decide +kernel
theorem dX12_shut_30 : decode cX12_shut 30 = .ok (.getfield 9, 3) := by decide +kernel
theorem dX12_shut_33 : decode cX12_shut 33 = .ok (.iload_n 3, 1) := by decide +kernel
theorem dX12_shut_34 : decode cX12_shut 34 = .ok (.iaload, 1) := by decide +kernel
theorem dX12_shut_35 : decode cX12_shut 35 = .ok (.istore 4, 2) := by decide +kernel
theorem dX12_shut_37 : decode cX12_shut 37 = .ok (.aload_n 0, 1) := by decide +kernel
theorem dX12_shut_38 : decode cX12_shut 38 = .ok (.getfield 9, 3) := by decide +kernel
theorem dX12_shut_41 : decode cX12_shut 41 = .ok (.iload_n 3, 1) := by decide +kernel
theorem dX12_shut_42 : decode cX12_shut 42 = .ok (.iload_n 2, 1) := by decide +kernel
theorem dX12_shut_43 : decode cX12_shut 43 = .ok (.ifCond .eq 7, 3) := by decide +kernel
theorem dX12_shut_46 : decode cX12_shut 46 = .ok (.iconst 1, 1) := by decide +kernel
theorem dX12_shut_47 : decode cX12_shut 47 = .ok (.goto 4, 3) := by decide +kernel
theorem dX12_shut_50 : decode cX12_shut 50 = .ok (.iconst 0, 1) := by decide +kernel
theorem dX12_shut_51 : decode cX12_shut 51 = .ok (.iastore, 1) := by decide +kernel
theorem dX12_shut_52 : decode cX12_shut 52 = .ok (.iload 4, 2) := by decide +kernel
theorem dX12_shut_54 : decode cX12_shut 54 = .ok (.aload_n 0, 1) := by decide +kernel
theorem dX12_shut_55 : decode cX12_shut 55 = .ok (.getfield 9, 3) := by decide +kernel
theorem dX12_shut_58 : decode cX12_shut 58 = .ok (.iload_n 3, 1) := by decide +kernel
theorem dX12_shut_59 : decode cX12_shut 59 = .ok (.iaload, 1) := by decide +kernel
theorem dX12_shut_60 : decode cX12_shut 60 = .ok (.if_icmp .ne 7, 3) := by decide +kernel
theorem dX12_shut_63 : decode cX12_shut 63 = .ok (.iconst 0, 1) := by decide +kernel
theorem dX12_shut_64 : decode cX12_shut 64 = .ok (.goto 4, 3) := by decide +kernel
theorem dX12_shut_67 : decode cX12_shut 67 = .ok (.iconst 1, 1) := by decide +kernel
theorem dX12_shut_68 : decode cX12_shut 68 = .ok (.ireturn, 1) := by decide +kernel
theorem dX12_goal_0 : decode cX12_goal 0 = .ok (.aload_n 0, 1) := by decide +kernel
theorem dX12_goal_1 : decode cX12_goal 1 = .ok (.iload_n 1, 1) := by decide +kernel
theorem dX12_goal_2 : decode cX12_goal 2 = .ok (.invokevirtual 107, 3) := by decide +kernel
theorem dX12_goal_5 : decode cX12_goal 5 = .ok (.ifCond .eq 12, 3) := by decide +kernel
theorem dX12_goal_8 : decode cX12_goal 8 = .ok (.iload_n 2, 1) := by decide +kernel
theorem dX12_goal_9 : decode cX12_goal 9 = .ok (.iconst (-1), 1) := by decide +kernel
theorem dX12_goal_10 : decode cX12_goal 10 = .ok (.iconst 3, 1) := by decide +kernel
theorem dX12_goal_11 : decode cX12_goal 11 = .ok (.invokestatic 102, 3) := by decide +kernel
theorem dX12_goal_14 : decode cX12_goal 14 = .ok (.ifCond .ne 6, 3) := by decide +kernel
theorem dX12_goal_17 : decode cX12_goal 17 = .ok (.ldc 111, 2) := by decide +kernel
theorem dX12_goal_19 : decode cX12_goal 19 = .ok (.ireturn, 1) := by decide +kernel
theorem dX12_goal_20 : decode cX12_goal 20 = .ok (.aload_n 0, 1) := by decide +kernel
theorem dX12_goal_21 : decode cX12_goal 21 = .ok (.getfield 9, 3) := by decide +kernel
theorem dX12_goal_24 : decode cX12_goal 24 = .ok (.iconst 5, 1) := by decide +kernel
theorem dX12_goal_25 : decode cX12_goal 25 = .ok (.iaload, 1) := by decide +kernel
theorem dX12_goal_26 : decode cX12_goal 26 = .ok (.bipush 10, 2) := by decide +kernel
theorem dX12_goal_28 : decode cX12_goal 28 = .ok (.if_icmp .ne 6, 3) := by decide +kernel
theorem dX12_goal_31 : decode cX12_goal 31 = .ok (.ldc 106, 2) := by decide +kernel
theorem dX12_goal_33 : decode cX12_goal 33 = .ok (.ireturn, 1) := by decide +kernel
theorem dX12_goal_34 : decode cX12_goal 34 = .ok (.aload_n 0, 1) := by decide +kernel
theorem dX12_goal_35 : decode cX12_goal 35 = .ok (.getfield 9, 3) := by decide +kernel
theorem dX12_goal_38 : decode cX12_goal 38 = .ok (.sipush 135, 3) := by decide +kernel
theorem dX12_goal_41 : decode cX12_goal 41 = .ok (.iconst 2, 1) := by decide +kernel
theorem dX12_goal_42 : decode cX12_goal 42 = .ok (.aload_n 0, 1) := by decide +kernel
theorem dX12_goal_43 : decode cX12_goal 43 = .ok (.getfield 9, 3) := by decide +kernel
theorem dX12_goal_46 : decode cX12_goal 46 = .ok (.iconst 5, 1) := by decide +kernel
theorem dX12_goal_47 : decode cX12_goal 47 = .ok (.iaload, 1) := by decide +kernel
theorem dX12_goal_48 : decode cX12_goal 48 = .ok (.imul, 1) := by decide +kernel
theorem dX12_goal_49 : decode cX12_goal 49 = .ok (.iadd, 1) := by decide +kernel
theorem dX12_goal_50 : decode cX12_goal 50 = .ok (.iload_n 1, 1) := by decide +kernel
theorem dX12_goal_51 : decode cX12_goal 51 = .ok (.iastore, 1) := by decide +kernel
theorem dX12_goal_52 : decode cX12_goal 52 = .ok (.aload_n 0, 1) := by decide +kernel
theorem dX12_goal_53 : decode cX12_goal 53 = .ok (.getfield 9, 3) := by decide +kernel
theorem dX12_goal_56 : decode cX12_goal 56 = .ok (.sipush 135, 3) := by decide +kernel
theorem dX12_goal_59 : decode cX12_goal 59 = .ok (.iconst 2, 1) := by decide +kernel
theorem dX12_goal_60 : decode cX12_goal 60 = .ok (.aload_n 0, 1) := by decide +kernel
theorem dX12_goal_61 : decode cX12_goal 61 = .ok (.getfield 9, 3) := by decide +kernel
theorem dX12_goal_64 : decode cX12_goal 64 = .ok (.iconst 5, 1) := by decide +kernel
theorem dX12_goal_65 : decode cX12_goal 65 = .ok (.iaload, 1) := by decide +kernel
theorem dX12_goal_66 : decode cX12_goal 66 = .ok (.imul, 1) := by decide +kernel
theorem dX12_goal_67 : decode cX12_goal 67 = .ok (.iadd, 1) := by decide +kernel
theorem dX12_goal_68 : decode cX12_goal 68 = .ok (.iconst 1, 1) := by decide +kernel
theorem dX12_goal_69 : decode cX12_goal 69 = .ok (.iadd, 1) := by decide +kernel
theorem dX12_goal_70 : decode cX12_goal 70 = .ok (.iload_n 2, 1) := by decide +kernel
theorem dX12_goal_71 : decode cX12_goal 71 = .ok (.iastore, 1) := by decide +kernel
theorem dX12_goal_72 : decode cX12_goal 72 = .ok (.aload_n 0, 1) := by decide +kernel
theorem dX12_goal_73 : decode cX12_goal 73 = .ok (.getfield 9, 3) := by decide +kernel
theorem dX12_goal_76 : decode cX12_goal 76 = .ok (.iconst 5, 1) := by decide +kernel
theorem dX12_goal_77 : decode cX12_goal 77 = .ok (.dup2, 1) := by decide +kernel
theorem dX12_goal_78 : decode cX12_goal 78 = .ok (.iaload, 1) := by decide +kernel
theorem dX12_goal_79 : decode cX12_goal 79 = .ok (.iconst 1, 1) := by decide +kernel
theorem dX12_goal_80 : decode cX12_goal 80 = .ok (.iadd, 1) := by decide +kernel
theorem dX12_goal_81 : decode cX12_goal 81 = .ok (.iastore, 1) := by decide +kernel
theorem dX12_goal_82 : decode cX12_goal 82 = .ok (.aload_n 0, 1) := by decide +kernel
theorem dX12_goal_83 : decode cX12_goal 83 = .ok (.getfield 9, 3) := by decide +kernel
theorem dX12_goal_86 : decode cX12_goal 86 = .ok (.iconst 5, 1) := by decide +kernel
theorem dX12_goal_87 : decode cX12_goal 87 = .ok (.iaload, 1) := by decide +kernel
theorem dX12_goal_88 : decode cX12_goal 88 = .ok (.iconst 1, 1) := by decide +kernel
theorem dX12_goal_89 : decode cX12_goal 89 = .ok (.isub, 1) := by decide +kernel
theorem dX12_goal_90 : decode cX12_goal 90 = .ok (.ireturn, 1) := by decide +kernel
theorem dX12_placeOf_0 : decode cX12_placeOf 0 = .ok (.aload_n 0, 1) := by decide +kernel
theorem dX12_placeOf_1 : decode cX12_placeOf 1 = .ok (.getfield 9, 3) := by decide +kernel
theorem dX12_placeOf_4 : decode cX12_placeOf 4 = .ok (.sipush 135, 3) := by decide +kernel
theorem dX12_placeOf_7 : decode cX12_placeOf 7 = .ok (.iconst 2, 1) := by decide +kernel
theorem dX12_placeOf_8 : decode cX12_placeOf 8 = .ok (.iload_n 1, 1) := by decide +kernel
theorem dX12_placeOf_9 : decode cX12_placeOf 9 = .ok (.imul, 1) := by decide +kernel
theorem dX12_placeOf_10 : decode cX12_placeOf 10 = .ok (.iadd, 1) := by decide +kernel
theorem dX12_placeOf_11 : decode cX12_placeOf 11 = .ok (.iaload, 1) := by decide +kernel
theorem dX12_placeOf_12 : decode cX12_placeOf 12 = .ok (.ireturn, 1) := by decide +kernel
theorem dX12_groupOf_0 : decode cX12_groupOf 0 = .ok (.aload_n 0, 1) := by decide +kernel
theorem dX12_groupOf_1 : decode cX12_groupOf 1 = .ok (.getfield 9, 3) := by decide +kernel
theorem dX12_groupOf_4 : decode cX12_groupOf 4 = .ok (.sipush 135, 3) := by decide +kernel
theorem dX12_groupOf_7 : decode cX12_groupOf 7 = .ok (.iconst 2, 1) := by decide +kernel
theorem dX12_groupOf_8 : decode cX12_groupOf 8 = .ok (.iload_n 1, 1) := by decide +kernel
theorem dX12_groupOf_9 : decode cX12_groupOf 9 = .ok (.imul, 1) := by decide +kernel
theorem dX12_groupOf_10 : decode cX12_groupOf 10 = .ok (.iadd, 1) := by decide +kernel
theorem dX12_groupOf_11 : decode cX12_groupOf 11 = .ok (.iconst 1, 1) := by decide +kernel
theorem dX12_groupOf_12 : decode cX12_groupOf 12 = .ok (.iadd, 1) := by decide +kernel
theorem dX12_groupOf_13 : decode cX12_groupOf 13 = .ok (.iaload, 1) := by decide +kernel
theorem dX12_groupOf_14 : decode cX12_groupOf 14 = .ok (.ireturn, 1) := by decide +kernel
theorem dX12_goalTold_0 : decode cX12_goalTold 0 = .ok (.aload_n 0, 1) := by decide +kernel
theorem dX12_goalTold_1 : decode cX12_goalTold 1 = .ok (.iload_n 1, 1) := by decide +kernel
theorem dX12_goalTold_2 : decode cX12_goalTold 2 = .ok (.invokevirtual 128, 3) := by decide +kernel
theorem dX12_goalTold_5 : decode cX12_goalTold 5 = .ok (.ifCond .eq 12, 3) := by decide +kernel
theorem dX12_goalTold_8 : decode cX12_goalTold 8 = .ok (.iload_n 2, 1) := by decide +kernel
theorem dX12_goalTold_9 : decode cX12_goalTold 9 = .ok (.iconst 0, 1) := by decide +kernel
theorem dX12_goalTold_10 : decode cX12_goalTold 10 = .ok (.iconst 1, 1) := by decide +kernel
theorem dX12_goalTold_11 : decode cX12_goalTold 11 = .ok (.invokestatic 102, 3) := by decide +kernel
theorem dX12_goalTold_14 : decode cX12_goalTold 14 = .ok (.ifCond .ne 6, 3) := by decide +kernel
theorem dX12_goalTold_17 : decode cX12_goalTold 17 = .ok (.ldc 111, 2) := by decide +kernel
theorem dX12_goalTold_19 : decode cX12_goalTold 19 = .ok (.ireturn, 1) := by decide +kernel
theorem dX12_goalTold_20 : decode cX12_goalTold 20 = .ok (.iload_n 2, 1) := by decide +kernel
theorem dX12_goalTold_21 : decode cX12_goalTold 21 = .ok (.ifCond .ne 11, 3) := by decide +kernel
theorem dX12_goalTold_24 : decode cX12_goalTold 24 = .ok (.aload_n 0, 1) := by decide +kernel
theorem dX12_goalTold_25 : decode cX12_goalTold 25 = .ok (.iload_n 1, 1) := by decide +kernel
theorem dX12_goalTold_26 : decode cX12_goalTold 26 = .ok (.invokevirtual 131, 3) := by decide +kernel
theorem dX12_goalTold_29 : decode cX12_goalTold 29 = .ok (.goto 21, 3) := by decide +kernel
theorem dX12_goalTold_32 : decode cX12_goalTold 32 = .ok (.aload_n 0, 1) := by decide +kernel
theorem dX12_goalTold_33 : decode cX12_goalTold 33 = .ok (.iload_n 1, 1) := by decide +kernel
theorem dX12_goalTold_34 : decode cX12_goalTold 34 = .ok (.invokevirtual 134, 3) := by decide +kernel
theorem dX12_goalTold_37 : decode cX12_goalTold 37 = .ok (.ifCond .ge 8, 3) := by decide +kernel
theorem dX12_goalTold_40 : decode cX12_goalTold 40 = .ok (.ldc 137, 2) := by decide +kernel
theorem dX12_goalTold_42 : decode cX12_goalTold 42 = .ok (.goto 8, 3) := by decide +kernel
theorem dX12_goalTold_45 : decode cX12_goalTold 45 = .ok (.aload_n 0, 1) := by decide +kernel
theorem dX12_goalTold_46 : decode cX12_goalTold 46 = .ok (.iload_n 1, 1) := by decide +kernel
theorem dX12_goalTold_47 : decode cX12_goalTold 47 = .ok (.invokevirtual 134, 3) := by decide +kernel
theorem dX12_goalTold_50 : decode cX12_goalTold 50 = .ok (.ireturn, 1) := by decide +kernel
theorem dX12_hours_0 : decode cX12_hours 0 = .ok (.iload_n 1, 1) := by decide +kernel
theorem dX12_hours_1 : decode cX12_hours 1 = .ok (.iconst 1, 1) := by decide +kernel
theorem dX12_hours_2 : decode cX12_hours 2 = .ok (.bipush 48, 2) := by decide +kernel
theorem dX12_hours_4 : decode cX12_hours 4 = .ok (.invokestatic 102, 3) := by decide +kernel
theorem dX12_hours_7 : decode cX12_hours 7 = .ok (.ifCond .ne 6, 3) := by decide +kernel
theorem dX12_hours_10 : decode cX12_hours 10 = .ok (.ldc 111, 2) := by decide +kernel
theorem dX12_hours_12 : decode cX12_hours 12 = .ok (.ireturn, 1) := by decide +kernel
theorem dX12_hours_13 : decode cX12_hours 13 = .ok (.aload_n 0, 1) := by decide +kernel
theorem dX12_hours_14 : decode cX12_hours 14 = .ok (.getfield 9, 3) := by decide +kernel
theorem dX12_hours_17 : decode cX12_hours 17 = .ok (.iconst 1, 1) := by decide +kernel
theorem dX12_hours_18 : decode cX12_hours 18 = .ok (.iaload, 1) := by decide +kernel
theorem dX12_hours_19 : decode cX12_hours 19 = .ok (.iload_n 1, 1) := by decide +kernel
theorem dX12_hours_20 : decode cX12_hours 20 = .ok (.iadd, 1) := by decide +kernel
theorem dX12_hours_21 : decode cX12_hours 21 = .ok (.istore_n 2, 1) := by decide +kernel
theorem dX12_hours_22 : decode cX12_hours 22 = .ok (.aload_n 0, 1) := by decide +kernel
theorem dX12_hours_23 : decode cX12_hours 23 = .ok (.getfield 9, 3) := by decide +kernel
theorem dX12_hours_26 : decode cX12_hours 26 = .ok (.iconst 2, 1) := by decide +kernel
theorem dX12_hours_27 : decode cX12_hours 27 = .ok (.iaload, 1) := by decide +kernel
theorem dX12_hours_28 : decode cX12_hours 28 = .ok (.iload_n 2, 1) := by decide +kernel
theorem dX12_hours_29 : decode cX12_hours 29 = .ok (.bipush 24, 2) := by decide +kernel
theorem dX12_hours_31 : decode cX12_hours 31 = .ok (.idiv, 1) := by decide +kernel
theorem dX12_hours_32 : decode cX12_hours 32 = .ok (.iadd, 1) := by decide +kernel
theorem dX12_hours_33 : decode cX12_hours 33 = .ok (.sipush 999, 3) := by decide +kernel
theorem dX12_hours_36 : decode cX12_hours 36 = .ok (.if_icmp .le 6, 3) := by decide +kernel
theorem dX12_hours_39 : decode cX12_hours 39 = .ok (.ldc 106, 2) := by decide +kernel
theorem dX12_hours_41 : decode cX12_hours 41 = .ok (.ireturn, 1) := by decide +kernel
theorem dX12_hours_42 : decode cX12_hours 42 = .ok (.aload_n 0, 1) := by decide +kernel
theorem dX12_hours_43 : decode cX12_hours 43 = .ok (.getfield 9, 3) := by decide +kernel
theorem dX12_hours_46 : decode cX12_hours 46 = .ok (.iconst 2, 1) := by decide +kernel
theorem dX12_hours_47 : decode cX12_hours 47 = .ok (.dup2, 1) := by decide +kernel
theorem dX12_hours_48 : decode cX12_hours 48 = .ok (.iaload, 1) := by decide +kernel
theorem dX12_hours_49 : decode cX12_hours 49 = .ok (.iload_n 2, 1) := by decide +kernel
theorem dX12_hours_50 : decode cX12_hours 50 = .ok (.bipush 24, 2) := by decide +kernel
theorem dX12_hours_52 : decode cX12_hours 52 = .ok (.idiv, 1) := by decide +kernel
theorem dX12_hours_53 : decode cX12_hours 53 = .ok (.iadd, 1) := by decide +kernel
theorem dX12_hours_54 : decode cX12_hours 54 = .ok (.iastore, 1) := by decide +kernel
theorem dX12_hours_55 : decode cX12_hours 55 = .ok (.aload_n 0, 1) := by decide +kernel
theorem dX12_hours_56 : decode cX12_hours 56 = .ok (.getfield 9, 3) := by decide +kernel
theorem dX12_hours_59 : decode cX12_hours 59 = .ok (.iconst 1, 1) := by decide +kernel
theorem dX12_hours_60 : decode cX12_hours 60 = .ok (.iload_n 2, 1) := by decide +kernel
theorem dX12_hours_61 : decode cX12_hours 61 = .ok (.bipush 24, 2) := by decide +kernel
theorem dX12_hours_63 : decode cX12_hours 63 = .ok (.irem, 1) := by decide +kernel
theorem dX12_hours_64 : decode cX12_hours 64 = .ok (.iastore, 1) := by decide +kernel
theorem dX12_hours_65 : decode cX12_hours 65 = .ok (.aload_n 0, 1) := by decide +kernel
theorem dX12_hours_66 : decode cX12_hours 66 = .ok (.getfield 9, 3) := by decide +kernel
theorem dX12_hours_69 : decode cX12_hours 69 = .ok (.iconst 1, 1) := by decide +kernel
theorem dX12_hours_70 : decode cX12_hours 70 = .ok (.iaload, 1) := by decide +kernel
theorem dX12_hours_71 : decode cX12_hours 71 = .ok (.ireturn, 1) := by decide +kernel
theorem dX12_mostBy_0 : decode cX12_mostBy 0 = .ok (.iload_n 0, 1) := by decide +kernel
theorem dX12_mostBy_1 : decode cX12_mostBy 1 = .ok (.tableswitch 46 1 5 #[35, 37, 39, 41, 44], 35) := by decide +kernel
theorem dX12_mostBy_36 : decode cX12_mostBy 36 = .ok (.iconst 5, 1) := by decide +kernel
theorem dX12_mostBy_37 : decode cX12_mostBy 37 = .ok (.ireturn, 1) := by decide +kernel
theorem dX12_mostBy_38 : decode cX12_mostBy 38 = .ok (.iconst 2, 1) := by decide +kernel
theorem dX12_mostBy_39 : decode cX12_mostBy 39 = .ok (.ireturn, 1) := by decide +kernel
theorem dX12_mostBy_40 : decode cX12_mostBy 40 = .ok (.iconst 3, 1) := by decide +kernel
theorem dX12_mostBy_41 : decode cX12_mostBy 41 = .ok (.ireturn, 1) := by decide +kernel
theorem dX12_mostBy_42 : decode cX12_mostBy 42 = .ok (.bipush 6, 2) := by decide +kernel
theorem dX12_mostBy_44 : decode cX12_mostBy 44 = .ok (.ireturn, 1) := by decide +kernel
theorem dX12_mostBy_45 : decode cX12_mostBy 45 = .ok (.iconst 1, 1) := by decide +kernel
theorem dX12_mostBy_46 : decode cX12_mostBy 46 = .ok (.ireturn, 1) := by decide +kernel
theorem dX12_mostBy_47 : decode cX12_mostBy 47 = .ok (.iconst 4, 1) := by decide +kernel
theorem dX12_mostBy_48 : decode cX12_mostBy 48 = .ok (.ireturn, 1) := by decide +kernel
theorem dX12_seenBy_0 : decode cX12_seenBy 0 = .ok (.iload_n 0, 1) := by decide +kernel
theorem dX12_seenBy_1 : decode cX12_seenBy 1 = .ok (.ifCond .ne 7, 3) := by decide +kernel
theorem dX12_seenBy_4 : decode cX12_seenBy 4 = .ok (.iconst 3, 1) := by decide +kernel
theorem dX12_seenBy_5 : decode cX12_seenBy 5 = .ok (.goto 28, 3) := by decide +kernel
theorem dX12_seenBy_8 : decode cX12_seenBy 8 = .ok (.iload_n 0, 1) := by decide +kernel
theorem dX12_seenBy_9 : decode cX12_seenBy 9 = .ok (.iconst 1, 1) := by decide +kernel
theorem dX12_seenBy_10 : decode cX12_seenBy 10 = .ok (.if_icmp .eq 8, 3) := by decide +kernel
theorem dX12_seenBy_13 : decode cX12_seenBy 13 = .ok (.iload_n 0, 1) := by decide +kernel
theorem dX12_seenBy_14 : decode cX12_seenBy 14 = .ok (.iconst 3, 1) := by decide +kernel
theorem dX12_seenBy_15 : decode cX12_seenBy 15 = .ok (.if_icmp .ne 7, 3) := by decide +kernel
theorem dX12_seenBy_18 : decode cX12_seenBy 18 = .ok (.iconst 5, 1) := by decide +kernel
theorem dX12_seenBy_19 : decode cX12_seenBy 19 = .ok (.goto 14, 3) := by decide +kernel
theorem dX12_seenBy_22 : decode cX12_seenBy 22 = .ok (.iload_n 0, 1) := by decide +kernel
theorem dX12_seenBy_23 : decode cX12_seenBy 23 = .ok (.iconst 5, 1) := by decide +kernel
theorem dX12_seenBy_24 : decode cX12_seenBy 24 = .ok (.if_icmp .ne 8, 3) := by decide +kernel
theorem dX12_seenBy_27 : decode cX12_seenBy 27 = .ok (.bipush 6, 2) := by decide +kernel
theorem dX12_seenBy_29 : decode cX12_seenBy 29 = .ok (.goto 4, 3) := by decide +kernel
theorem dX12_seenBy_32 : decode cX12_seenBy 32 = .ok (.iconst 1, 1) := by decide +kernel
theorem dX12_seenBy_33 : decode cX12_seenBy 33 = .ok (.ireturn, 1) := by decide +kernel
theorem dX12_priceBy_0 : decode cX12_priceBy 0 = .ok (.bipush 10, 2) := by decide +kernel
theorem dX12_priceBy_2 : decode cX12_priceBy 2 = .ok (.iconst 2, 1) := by decide +kernel
theorem dX12_priceBy_3 : decode cX12_priceBy 3 = .ok (.iload_n 1, 1) := by decide +kernel
theorem dX12_priceBy_4 : decode cX12_priceBy 4 = .ok (.imul, 1) := by decide +kernel
theorem dX12_priceBy_5 : decode cX12_priceBy 5 = .ok (.iadd, 1) := by decide +kernel
theorem dX12_priceBy_6 : decode cX12_priceBy 6 = .ok (.istore_n 2, 1) := by decide +kernel
theorem dX12_priceBy_7 : decode cX12_priceBy 7 = .ok (.iload_n 0, 1) := by decide +kernel
theorem dX12_priceBy_8 : decode cX12_priceBy 8 = .ok (.tableswitch 59 1 5 #[36, 40, 44, 50, 57], 36) := by decide +kernel
theorem dX12_priceBy_44 : decode cX12_priceBy 44 = .ok (.iload_n 2, 1) := by decide +kernel
theorem dX12_priceBy_45 : decode cX12_priceBy 45 = .ok (.iconst 5, 1) := by decide +kernel
theorem dX12_priceBy_46 : decode cX12_priceBy 46 = .ok (.iadd, 1) := by decide +kernel
theorem dX12_priceBy_47 : decode cX12_priceBy 47 = .ok (.ireturn, 1) := by decide +kernel
theorem dX12_priceBy_48 : decode cX12_priceBy 48 = .ok (.iload_n 2, 1) := by decide +kernel
theorem dX12_priceBy_49 : decode cX12_priceBy 49 = .ok (.iconst 2, 1) := by decide +kernel
theorem dX12_priceBy_50 : decode cX12_priceBy 50 = .ok (.idiv, 1) := by decide +kernel
theorem dX12_priceBy_51 : decode cX12_priceBy 51 = .ok (.ireturn, 1) := by decide +kernel
theorem dX12_priceBy_52 : decode cX12_priceBy 52 = .ok (.iconst 2, 1) := by decide +kernel
theorem dX12_priceBy_53 : decode cX12_priceBy 53 = .ok (.iload_n 2, 1) := by decide +kernel
theorem dX12_priceBy_54 : decode cX12_priceBy 54 = .ok (.iconst 5, 1) := by decide +kernel
theorem dX12_priceBy_55 : decode cX12_priceBy 55 = .ok (.iadd, 1) := by decide +kernel
theorem dX12_priceBy_56 : decode cX12_priceBy 56 = .ok (.imul, 1) := by decide +kernel
theorem dX12_priceBy_57 : decode cX12_priceBy 57 = .ok (.ireturn, 1) := by decide +kernel
theorem dX12_priceBy_58 : decode cX12_priceBy 58 = .ok (.iload_n 2, 1) := by decide +kernel
theorem dX12_priceBy_59 : decode cX12_priceBy 59 = .ok (.iconst 2, 1) := by decide +kernel
theorem dX12_priceBy_60 : decode cX12_priceBy 60 = .ok (.idiv, 1) := by decide +kernel
theorem dX12_priceBy_61 : decode cX12_priceBy 61 = .ok (.bipush 8, 2) := by decide +kernel
theorem dX12_priceBy_63 : decode cX12_priceBy 63 = .ok (.iadd, 1) := by decide +kernel
theorem dX12_priceBy_64 : decode cX12_priceBy 64 = .ok (.ireturn, 1) := by decide +kernel
theorem dX12_priceBy_65 : decode cX12_priceBy 65 = .ok (.iconst 1, 1) := by decide +kernel
theorem dX12_priceBy_66 : decode cX12_priceBy 66 = .ok (.ireturn, 1) := by decide +kernel
theorem dX12_priceBy_67 : decode cX12_priceBy 67 = .ok (.iload_n 2, 1) := by decide +kernel
theorem dX12_priceBy_68 : decode cX12_priceBy 68 = .ok (.ireturn, 1) := by decide +kernel
theorem dX12_isUnder_0 : decode cX12_isUnder 0 = .ok (.iload_n 1, 1) := by decide +kernel
theorem dX12_isUnder_1 : decode cX12_isUnder 1 = .ok (.ifCond .eq 28, 3) := by decide +kernel
theorem dX12_isUnder_4 : decode cX12_isUnder 4 = .ok (.iload_n 0, 1) := by decide +kernel
theorem dX12_isUnder_5 : decode cX12_isUnder 5 = .ok (.iload_n 1, 1) := by decide +kernel
theorem dX12_isUnder_6 : decode cX12_isUnder 6 = .ok (.if_icmp .eq 23, 3) := by decide +kernel
theorem dX12_isUnder_9 : decode cX12_isUnder 9 = .ok (.iload_n 1, 1) := by decide +kernel
theorem dX12_isUnder_10 : decode cX12_isUnder 10 = .ok (.iconst 1, 1) := by decide +kernel
theorem dX12_isUnder_11 : decode cX12_isUnder 11 = .ok (.if_icmp .ne 8, 3) := by decide +kernel
theorem dX12_isUnder_14 : decode cX12_isUnder 14 = .ok (.iload_n 0, 1) := by decide +kernel
theorem dX12_isUnder_15 : decode cX12_isUnder 15 = .ok (.iconst 3, 1) := by decide +kernel
theorem dX12_isUnder_16 : decode cX12_isUnder 16 = .ok (.if_icmp .eq 13, 3) := by decide +kernel
theorem dX12_isUnder_19 : decode cX12_isUnder 19 = .ok (.iload_n 1, 1) := by decide +kernel
theorem dX12_isUnder_20 : decode cX12_isUnder 20 = .ok (.iconst 2, 1) := by decide +kernel
theorem dX12_isUnder_21 : decode cX12_isUnder 21 = .ok (.if_icmp .ne 12, 3) := by decide +kernel
theorem dX12_isUnder_24 : decode cX12_isUnder 24 = .ok (.iload_n 0, 1) := by decide +kernel
theorem dX12_isUnder_25 : decode cX12_isUnder 25 = .ok (.iconst 4, 1) := by decide +kernel
theorem dX12_isUnder_26 : decode cX12_isUnder 26 = .ok (.if_icmp .ne 7, 3) := by decide +kernel
theorem dX12_isUnder_29 : decode cX12_isUnder 29 = .ok (.iconst 1, 1) := by decide +kernel
theorem dX12_isUnder_30 : decode cX12_isUnder 30 = .ok (.goto 4, 3) := by decide +kernel
theorem dX12_isUnder_33 : decode cX12_isUnder 33 = .ok (.iconst 0, 1) := by decide +kernel
theorem dX12_isUnder_34 : decode cX12_isUnder 34 = .ok (.ireturn, 1) := by decide +kernel
theorem dX12_of5_0 : decode cX12_of5 0 = .ok (.aload_n 0, 1) := by decide +kernel
theorem dX12_of5_1 : decode cX12_of5 1 = .ok (.getfield 9, 3) := by decide +kernel
theorem dX12_of5_4 : decode cX12_of5 4 = .ok (.sipush 155, 3) := by decide +kernel
theorem dX12_of5_7 : decode cX12_of5 7 = .ok (.iconst 5, 1) := by decide +kernel
theorem dX12_of5_8 : decode cX12_of5 8 = .ok (.iload_n 1, 1) := by decide +kernel
theorem dX12_of5_9 : decode cX12_of5 9 = .ok (.imul, 1) := by decide +kernel
theorem dX12_of5_10 : decode cX12_of5 10 = .ok (.iadd, 1) := by decide +kernel
theorem dX12_of5_11 : decode cX12_of5 11 = .ok (.iload_n 2, 1) := by decide +kernel
theorem dX12_of5_12 : decode cX12_of5 12 = .ok (.iadd, 1) := by decide +kernel
theorem dX12_of5_13 : decode cX12_of5 13 = .ok (.iaload, 1) := by decide +kernel
theorem dX12_of5_14 : decode cX12_of5 14 = .ok (.ireturn, 1) := by decide +kernel
theorem dX12_rowsOf_0 : decode cX12_rowsOf 0 = .ok (.aload_n 0, 1) := by decide +kernel
theorem dX12_rowsOf_1 : decode cX12_rowsOf 1 = .ok (.iload_n 1, 1) := by decide +kernel
theorem dX12_rowsOf_2 : decode cX12_rowsOf 2 = .ok (.iconst 2, 1) := by decide +kernel
theorem dX12_rowsOf_3 : decode cX12_rowsOf 3 = .ok (.invokevirtual 138, 3) := by decide +kernel
theorem dX12_rowsOf_6 : decode cX12_rowsOf 6 = .ok (.ireturn, 1) := by decide +kernel
theorem dX12_nameAt_0 : decode cX12_nameAt 0 = .ok (.aload_n 0, 1) := by decide +kernel
theorem dX12_nameAt_1 : decode cX12_nameAt 1 = .ok (.getfield 9, 3) := by decide +kernel
theorem dX12_nameAt_4 : decode cX12_nameAt 4 = .ok (.sipush 225, 3) := by decide +kernel
theorem dX12_nameAt_7 : decode cX12_nameAt 7 = .ok (.bipush 12, 2) := by decide +kernel
theorem dX12_nameAt_9 : decode cX12_nameAt 9 = .ok (.iload_n 1, 1) := by decide +kernel
theorem dX12_nameAt_10 : decode cX12_nameAt 10 = .ok (.imul, 1) := by decide +kernel
theorem dX12_nameAt_11 : decode cX12_nameAt 11 = .ok (.iadd, 1) := by decide +kernel
theorem dX12_nameAt_12 : decode cX12_nameAt 12 = .ok (.iconst 2, 1) := by decide +kernel
theorem dX12_nameAt_13 : decode cX12_nameAt 13 = .ok (.iload_n 2, 1) := by decide +kernel
theorem dX12_nameAt_14 : decode cX12_nameAt 14 = .ok (.imul, 1) := by decide +kernel
theorem dX12_nameAt_15 : decode cX12_nameAt 15 = .ok (.iadd, 1) := by decide +kernel
theorem dX12_nameAt_16 : decode cX12_nameAt 16 = .ok (.iaload, 1) := by decide +kernel
theorem dX12_nameAt_17 : decode cX12_nameAt 17 = .ok (.ireturn, 1) := by decide +kernel
theorem dX12_arrowAt_0 : decode cX12_arrowAt 0 = .ok (.aload_n 0, 1) := by decide +kernel
theorem dX12_arrowAt_1 : decode cX12_arrowAt 1 = .ok (.getfield 9, 3) := by decide +kernel
theorem dX12_arrowAt_4 : decode cX12_arrowAt 4 = .ok (.sipush 225, 3) := by decide +kernel
theorem dX12_arrowAt_7 : decode cX12_arrowAt 7 = .ok (.bipush 12, 2) := by decide +kernel
theorem dX12_arrowAt_9 : decode cX12_arrowAt 9 = .ok (.iload_n 1, 1) := by decide +kernel
theorem dX12_arrowAt_10 : decode cX12_arrowAt 10 = .ok (.imul, 1) := by decide +kernel
theorem dX12_arrowAt_11 : decode cX12_arrowAt 11 = .ok (.iadd, 1) := by decide +kernel
theorem dX12_arrowAt_12 : decode cX12_arrowAt 12 = .ok (.iconst 2, 1) := by decide +kernel
theorem dX12_arrowAt_13 : decode cX12_arrowAt 13 = .ok (.iload_n 2, 1) := by decide +kernel
theorem dX12_arrowAt_14 : decode cX12_arrowAt 14 = .ok (.imul, 1) := by decide +kernel
theorem dX12_arrowAt_15 : decode cX12_arrowAt 15 = .ok (.iadd, 1) := by decide +kernel
theorem dX12_arrowAt_16 : decode cX12_arrowAt 16 = .ok (.iconst 1, 1) := by decide +kernel
theorem dX12_arrowAt_17 : decode cX12_arrowAt 17 = .ok (.iadd, 1) := by decide +kernel
theorem dX12_arrowAt_18 : decode cX12_arrowAt 18 = .ok (.iaload, 1) := by decide +kernel
theorem dX12_arrowAt_19 : decode cX12_arrowAt 19 = .ok (.ireturn, 1) := by decide +kernel
theorem dX12_isLit_0 : decode cX12_isLit 0 = .ok (.aload_n 0, 1) := by decide +kernel
theorem dX12_isLit_1 : decode cX12_isLit 1 = .ok (.iload_n 1, 1) := by decide +kernel
theorem dX12_isLit_2 : decode cX12_isLit 2 = .ok (.iconst 1, 1) := by decide +kernel
theorem dX12_isLit_3 : decode cX12_isLit 3 = .ok (.invokevirtual 138, 3) := by decide +kernel
theorem dX12_isLit_6 : decode cX12_isLit 6 = .ok (.istore_n 2, 1) := by decide +kernel
theorem dX12_isLit_7 : decode cX12_isLit 7 = .ok (.iload_n 2, 1) := by decide +kernel
theorem dX12_isLit_8 : decode cX12_isLit 8 = .ok (.iconst 5, 1) := by decide +kernel
theorem dX12_isLit_9 : decode cX12_isLit 9 = .ok (.if_icmp .ne 24, 3) := by decide +kernel
theorem dX12_isLit_12 : decode cX12_isLit 12 = .ok (.aload_n 0, 1) := by decide +kernel
theorem dX12_isLit_13 : decode cX12_isLit 13 = .ok (.getfield 9, 3) := by decide +kernel
theorem dX12_isLit_16 : decode cX12_isLit 16 = .ok (.iconst 2, 1) := by decide +kernel
theorem dX12_isLit_17 : decode cX12_isLit 17 = .ok (.iaload, 1) := by decide +kernel
theorem dX12_isLit_18 : decode cX12_isLit 18 = .ok (.aload_n 0, 1) := by decide +kernel
theorem dX12_isLit_19 : decode cX12_isLit 19 = .ok (.iload_n 1, 1) := by decide +kernel
theorem dX12_isLit_20 : decode cX12_isLit 20 = .ok (.iconst 4, 1) := by decide +kernel
theorem dX12_isLit_21 : decode cX12_isLit 21 = .ok (.invokevirtual 138, 3) := by decide +kernel
theorem dX12_isLit_24 : decode cX12_isLit 24 = .ok (.if_icmp .ge 7, 3) := by decide +kernel
theorem dX12_isLit_27 : decode cX12_isLit 27 = .ok (.iconst 1, 1) := by decide +kernel
theorem dX12_isLit_28 : decode cX12_isLit 28 = .ok (.goto 4, 3) := by decide +kernel
theorem dX12_isLit_31 : decode cX12_isLit 31 = .ok (.iconst 0, 1) := by decide +kernel
theorem dX12_isLit_32 : decode cX12_isLit 32 = .ok (.ireturn, 1) := by decide +kernel
theorem dX12_isLit_33 : decode cX12_isLit 33 = .ok (.iload_n 2, 1) := by decide +kernel
theorem dX12_isLit_34 : decode cX12_isLit 34 = .ok (.iconst 3, 1) := by decide +kernel
theorem dX12_isLit_35 : decode cX12_isLit 35 = .ok (.if_icmp .eq 5, 3) := by decide +kernel
theorem dX12_isLit_38 : decode cX12_isLit 38 = .ok (.iconst 1, 1) := by decide +kernel
theorem dX12_isLit_39 : decode cX12_isLit 39 = .ok (.ireturn, 1) := by decide +kernel
theorem dX12_isLit_40 : decode cX12_isLit 40 = .ok (.aload_n 0, 1) := by decide +kernel
theorem dX12_isLit_41 : decode cX12_isLit 41 = .ok (.iconst 0, 1) := by decide +kernel
theorem dX12_isLit_42 : decode cX12_isLit 42 = .ok (.invokevirtual 117, 3) := by decide +kernel
theorem dX12_isLit_45 : decode cX12_isLit 45 = .ok (.istore_n 3, 1) := by decide +kernel
theorem dX12_isLit_46 : decode cX12_isLit 46 = .ok (.aload_n 0, 1) := by decide +kernel
theorem dX12_isLit_47 : decode cX12_isLit 47 = .ok (.getfield 45, 3) := by decide +kernel
theorem dX12_isLit_50 : decode cX12_isLit 50 = .ok (.iconst 0, 1) := by decide +kernel
theorem dX12_isLit_51 : decode cX12_isLit 51 = .ok (.aload_n 0, 1) := by decide +kernel
theorem dX12_isLit_52 : decode cX12_isLit 52 = .ok (.getfield 9, 3) := by decide +kernel
theorem dX12_isLit_55 : decode cX12_isLit 55 = .ok (.iconst 1, 1) := by decide +kernel
theorem dX12_isLit_56 : decode cX12_isLit 56 = .ok (.iaload, 1) := by decide +kernel
theorem dX12_isLit_57 : decode cX12_isLit 57 = .ok (.iastore, 1) := by decide +kernel
theorem dX12_isLit_58 : decode cX12_isLit 58 = .ok (.aload_n 0, 1) := by decide +kernel
theorem dX12_isLit_59 : decode cX12_isLit 59 = .ok (.getfield 45, 3) := by decide +kernel
theorem dX12_isLit_62 : decode cX12_isLit 62 = .ok (.iconst 1, 1) := by decide +kernel
theorem dX12_isLit_63 : decode cX12_isLit 63 = .ok (.aload_n 0, 1) := by decide +kernel
theorem dX12_isLit_64 : decode cX12_isLit 64 = .ok (.getfield 9, 3) := by decide +kernel
theorem dX12_isLit_67 : decode cX12_isLit 67 = .ok (.iconst 2, 1) := by decide +kernel
theorem dX12_isLit_68 : decode cX12_isLit 68 = .ok (.iaload, 1) := by decide +kernel
theorem dX12_isLit_69 : decode cX12_isLit 69 = .ok (.iastore, 1) := by decide +kernel
theorem dX12_isLit_70 : decode cX12_isLit 70 = .ok (.aload_n 0, 1) := by decide +kernel
theorem dX12_isLit_71 : decode cX12_isLit 71 = .ok (.getfield 45, 3) := by decide +kernel
theorem dX12_isLit_74 : decode cX12_isLit 74 = .ok (.iconst 2, 1) := by decide +kernel
theorem dX12_isLit_75 : decode cX12_isLit 75 = .ok (.aload_n 0, 1) := by decide +kernel
theorem dX12_isLit_76 : decode cX12_isLit 76 = .ok (.iload_n 1, 1) := by decide +kernel
theorem dX12_isLit_77 : decode cX12_isLit 77 = .ok (.invokevirtual 141, 3) := by decide +kernel
theorem dX12_isLit_80 : decode cX12_isLit 80 = .ok (.iastore, 1) := by decide +kernel
theorem dX12_isLit_81 : decode cX12_isLit 81 = .ok (.iload_n 3, 1) := by decide +kernel
theorem dX12_isLit_82 : decode cX12_isLit 82 = .ok (.ifCond .ge 33, 3) := by decide +kernel
theorem dX12_isLit_85 : decode cX12_isLit 85 = .ok (.aload_n 0, 1) := by decide +kernel
theorem dX12_isLit_86 : decode cX12_isLit 86 = .ok (.getfield 9, 3) := by decide +kernel
theorem dX12_isLit_89 : decode cX12_isLit 89 = .ok (.iconst 1, 1) := by decide +kernel
theorem dX12_isLit_90 : decode cX12_isLit 90 = .ok (.iaload, 1) := by decide +kernel
theorem dX12_isLit_91 : decode cX12_isLit 91 = .ok (.bipush 18, 2) := by decide +kernel
theorem dX12_isLit_93 : decode cX12_isLit 93 = .ok (.if_icmp .ge 14, 3) := by decide +kernel
theorem dX12_isLit_96 : decode cX12_isLit 96 = .ok (.aload_n 0, 1) := by decide +kernel
theorem dX12_isLit_97 : decode cX12_isLit 97 = .ok (.getfield 9, 3) := by decide +kernel
theorem dX12_isLit_100 : decode cX12_isLit 100 = .ok (.iconst 1, 1) := by decide +kernel
theorem dX12_isLit_101 : decode cX12_isLit 101 = .ok (.iaload, 1) := by decide +kernel
theorem dX12_isLit_102 : decode cX12_isLit 102 = .ok (.bipush 6, 2) := by decide +kernel
theorem dX12_isLit_104 : decode cX12_isLit 104 = .ok (.if_icmp .ge 7, 3) := by decide +kernel
theorem dX12_isLit_107 : decode cX12_isLit 107 = .ok (.iconst 1, 1) := by decide +kernel
theorem dX12_isLit_108 : decode cX12_isLit 108 = .ok (.goto 20, 3) := by decide +kernel
theorem dX12_isLit_111 : decode cX12_isLit 111 = .ok (.iconst 0, 1) := by decide +kernel
theorem dX12_isLit_112 : decode cX12_isLit 112 = .ok (.goto 16, 3) := by decide +kernel
theorem dX12_isLit_115 : decode cX12_isLit 115 = .ok (.aload_n 0, 1) := by decide +kernel
theorem dX12_isLit_116 : decode cX12_isLit 116 = .ok (.iload_n 3, 1) := by decide +kernel
theorem dX12_isLit_117 : decode cX12_isLit 117 = .ok (.invokevirtual 121, 3) := by decide +kernel
theorem dX12_isLit_120 : decode cX12_isLit 120 = .ok (.ifCond .eq 7, 3) := by decide +kernel
theorem dX12_isLit_123 : decode cX12_isLit 123 = .ok (.iconst 1, 1) := by decide +kernel
theorem dX12_isLit_124 : decode cX12_isLit 124 = .ok (.goto 4, 3) := by decide +kernel
theorem dX12_isLit_127 : decode cX12_isLit 127 = .ok (.iconst 0, 1) := by decide +kernel
theorem dX12_isLit_128 : decode cX12_isLit 128 = .ok (.ireturn, 1) := by decide +kernel
theorem dX12_isObeyed_0 : decode cX12_isObeyed 0 = .ok (.aload_n 0, 1) := by decide +kernel
theorem dX12_isObeyed_1 : decode cX12_isObeyed 1 = .ok (.iconst 2, 1) := by decide +kernel
theorem dX12_isObeyed_2 : decode cX12_isObeyed 2 = .ok (.invokevirtual 117, 3) := by decide +kernel
theorem dX12_isObeyed_5 : decode cX12_isObeyed 5 = .ok (.istore_n 3, 1) := by decide +kernel
theorem dX12_isObeyed_6 : decode cX12_isObeyed 6 = .ok (.aload_n 0, 1) := by decide +kernel
theorem dX12_isObeyed_7 : decode cX12_isObeyed 7 = .ok (.getfield 45, 3) := by decide +kernel
theorem dX12_isObeyed_10 : decode cX12_isObeyed 10 = .ok (.iconst 0, 1) := by decide +kernel
theorem dX12_isObeyed_11 : decode cX12_isObeyed 11 = .ok (.aload_n 0, 1) := by decide +kernel
theorem dX12_isObeyed_12 : decode cX12_isObeyed 12 = .ok (.iload_n 1, 1) := by decide +kernel
theorem dX12_isObeyed_13 : decode cX12_isObeyed 13 = .ok (.iconst 1, 1) := by decide +kernel
theorem dX12_isObeyed_14 : decode cX12_isObeyed 14 = .ok (.invokevirtual 138, 3) := by decide +kernel
theorem dX12_isObeyed_17 : decode cX12_isObeyed 17 = .ok (.iastore, 1) := by decide +kernel
theorem dX12_isObeyed_18 : decode cX12_isObeyed 18 = .ok (.aload_n 0, 1) := by decide +kernel
theorem dX12_isObeyed_19 : decode cX12_isObeyed 19 = .ok (.getfield 45, 3) := by decide +kernel
theorem dX12_isObeyed_22 : decode cX12_isObeyed 22 = .ok (.iconst 1, 1) := by decide +kernel
theorem dX12_isObeyed_23 : decode cX12_isObeyed 23 = .ok (.aload_n 0, 1) := by decide +kernel
theorem dX12_isObeyed_24 : decode cX12_isObeyed 24 = .ok (.iload_n 1, 1) := by decide +kernel
theorem dX12_isObeyed_25 : decode cX12_isObeyed 25 = .ok (.iconst 1, 1) := by decide +kernel
theorem dX12_isObeyed_26 : decode cX12_isObeyed 26 = .ok (.invokevirtual 138, 3) := by decide +kernel
theorem dX12_isObeyed_29 : decode cX12_isObeyed 29 = .ok (.invokestatic 144, 3) := by decide +kernel
theorem dX12_isObeyed_32 : decode cX12_isObeyed 32 = .ok (.iastore, 1) := by decide +kernel
theorem dX12_isObeyed_33 : decode cX12_isObeyed 33 = .ok (.aload_n 0, 1) := by decide +kernel
theorem dX12_isObeyed_34 : decode cX12_isObeyed 34 = .ok (.getfield 45, 3) := by decide +kernel
theorem dX12_isObeyed_37 : decode cX12_isObeyed 37 = .ok (.iconst 2, 1) := by decide +kernel
theorem dX12_isObeyed_38 : decode cX12_isObeyed 38 = .ok (.iload_n 2, 1) := by decide +kernel
theorem dX12_isObeyed_39 : decode cX12_isObeyed 39 = .ok (.iastore, 1) := by decide +kernel
theorem dX12_isObeyed_40 : decode cX12_isObeyed 40 = .ok (.aload_n 0, 1) := by decide +kernel
theorem dX12_isObeyed_41 : decode cX12_isObeyed 41 = .ok (.getfield 45, 3) := by decide +kernel
theorem dX12_isObeyed_44 : decode cX12_isObeyed 44 = .ok (.iconst 3, 1) := by decide +kernel
theorem dX12_isObeyed_45 : decode cX12_isObeyed 45 = .ok (.aload_n 0, 1) := by decide +kernel
theorem dX12_isObeyed_46 : decode cX12_isObeyed 46 = .ok (.getfield 9, 3) := by decide +kernel
theorem dX12_isObeyed_49 : decode cX12_isObeyed 49 = .ok (.iconst 1, 1) := by decide +kernel
theorem dX12_isObeyed_50 : decode cX12_isObeyed 50 = .ok (.iaload, 1) := by decide +kernel
theorem dX12_isObeyed_51 : decode cX12_isObeyed 51 = .ok (.iastore, 1) := by decide +kernel
theorem dX12_isObeyed_52 : decode cX12_isObeyed 52 = .ok (.iload_n 3, 1) := by decide +kernel
theorem dX12_isObeyed_53 : decode cX12_isObeyed 53 = .ok (.ifCond .lt 11, 3) := by decide +kernel
theorem dX12_isObeyed_56 : decode cX12_isObeyed 56 = .ok (.aload_n 0, 1) := by decide +kernel
theorem dX12_isObeyed_57 : decode cX12_isObeyed 57 = .ok (.iload_n 3, 1) := by decide +kernel
theorem dX12_isObeyed_58 : decode cX12_isObeyed 58 = .ok (.invokevirtual 121, 3) := by decide +kernel
theorem dX12_isObeyed_61 : decode cX12_isObeyed 61 = .ok (.ifCond .eq 7, 3) := by decide +kernel
theorem dX12_isObeyed_64 : decode cX12_isObeyed 64 = .ok (.iconst 1, 1) := by decide +kernel
theorem dX12_isObeyed_65 : decode cX12_isObeyed 65 = .ok (.goto 4, 3) := by decide +kernel
theorem dX12_isObeyed_68 : decode cX12_isObeyed 68 = .ok (.iconst 0, 1) := by decide +kernel
theorem dX12_isObeyed_69 : decode cX12_isObeyed 69 = .ok (.ireturn, 1) := by decide +kernel
theorem dX12_sign_0 : decode cX12_sign 0 = .ok (.aload_n 0, 1) := by decide +kernel
theorem dX12_sign_1 : decode cX12_sign 1 = .ok (.iload_n 1, 1) := by decide +kernel
theorem dX12_sign_2 : decode cX12_sign 2 = .ok (.invokevirtual 107, 3) := by decide +kernel
theorem dX12_sign_5 : decode cX12_sign 5 = .ok (.ifCond .eq 27, 3) := by decide +kernel
theorem dX12_sign_8 : decode cX12_sign 8 = .ok (.iload_n 2, 1) := by decide +kernel
theorem dX12_sign_9 : decode cX12_sign 9 = .ok (.iconst 0, 1) := by decide +kernel
theorem dX12_sign_10 : decode cX12_sign 10 = .ok (.iconst 5, 1) := by decide +kernel
theorem dX12_sign_11 : decode cX12_sign 11 = .ok (.invokestatic 102, 3) := by decide +kernel
theorem dX12_sign_14 : decode cX12_sign 14 = .ok (.ifCond .eq 18, 3) := by decide +kernel
theorem dX12_sign_17 : decode cX12_sign 17 = .ok (.iload_n 2, 1) := by decide +kernel
theorem dX12_sign_18 : decode cX12_sign 18 = .ok (.iconst 5, 1) := by decide +kernel
theorem dX12_sign_19 : decode cX12_sign 19 = .ok (.if_icmp .ne 16, 3) := by decide +kernel
theorem dX12_sign_22 : decode cX12_sign 22 = .ok (.iload_n 3, 1) := by decide +kernel
theorem dX12_sign_23 : decode cX12_sign 23 = .ok (.iconst 1, 1) := by decide +kernel
theorem dX12_sign_24 : decode cX12_sign 24 = .ok (.bipush 99, 2) := by decide +kernel
theorem dX12_sign_26 : decode cX12_sign 26 = .ok (.invokestatic 102, 3) := by decide +kernel
theorem dX12_sign_29 : decode cX12_sign 29 = .ok (.ifCond .ne 6, 3) := by decide +kernel
theorem dX12_sign_32 : decode cX12_sign 32 = .ok (.ldc 111, 2) := by decide +kernel
theorem dX12_sign_34 : decode cX12_sign 34 = .ok (.ireturn, 1) := by decide +kernel
theorem dX12_sign_35 : decode cX12_sign 35 = .ok (.aload_n 0, 1) := by decide +kernel
theorem dX12_sign_36 : decode cX12_sign 36 = .ok (.getfield 9, 3) := by decide +kernel
theorem dX12_sign_39 : decode cX12_sign 39 = .ok (.bipush 6, 2) := by decide +kernel
theorem dX12_sign_41 : decode cX12_sign 41 = .ok (.iaload, 1) := by decide +kernel
theorem dX12_sign_42 : decode cX12_sign 42 = .ok (.bipush 14, 2) := by decide +kernel
theorem dX12_sign_44 : decode cX12_sign 44 = .ok (.if_icmp .ne 6, 3) := by decide +kernel
theorem dX12_sign_47 : decode cX12_sign 47 = .ok (.ldc 106, 2) := by decide +kernel
theorem dX12_sign_49 : decode cX12_sign 49 = .ok (.ireturn, 1) := by decide +kernel
theorem dX12_sign_50 : decode cX12_sign 50 = .ok (.sipush 155, 3) := by decide +kernel
theorem dX12_sign_53 : decode cX12_sign 53 = .ok (.iconst 5, 1) := by decide +kernel
theorem dX12_sign_54 : decode cX12_sign 54 = .ok (.aload_n 0, 1) := by decide +kernel
theorem dX12_sign_55 : decode cX12_sign 55 = .ok (.getfield 9, 3) := by decide +kernel
theorem dX12_sign_58 : decode cX12_sign 58 = .ok (.bipush 6, 2) := by decide +kernel
theorem dX12_sign_60 : decode cX12_sign 60 = .ok (.iaload, 1) := by decide +kernel
theorem dX12_sign_61 : decode cX12_sign 61 = .ok (.imul, 1) := by decide +kernel
theorem dX12_sign_62 : decode cX12_sign 62 = .ok (.iadd, 1) := by decide +kernel
theorem dX12_sign_63 : decode cX12_sign 63 = .ok (.istore 4, 2) := by decide +kernel
theorem dX12_sign_65 : decode cX12_sign 65 = .ok (.aload_n 0, 1) := by decide +kernel
theorem dX12_sign_66 : decode cX12_sign 66 = .ok (.getfield 9, 3) := by decide +kernel
theorem dX12_sign_69 : decode cX12_sign 69 = .ok (.iload 4, 2) := by decide +kernel
theorem dX12_sign_71 : decode cX12_sign 71 = .ok (.iload_n 1, 1) := by decide +kernel
theorem dX12_sign_72 : decode cX12_sign 72 = .ok (.iastore, 1) := by decide +kernel
theorem dX12_sign_73 : decode cX12_sign 73 = .ok (.aload_n 0, 1) := by decide +kernel
theorem dX12_sign_74 : decode cX12_sign 74 = .ok (.getfield 9, 3) := by decide +kernel
theorem dX12_sign_77 : decode cX12_sign 77 = .ok (.iload 4, 2) := by decide +kernel
theorem dX12_sign_79 : decode cX12_sign 79 = .ok (.iconst 1, 1) := by decide +kernel
theorem dX12_sign_80 : decode cX12_sign 80 = .ok (.iadd, 1) := by decide +kernel
theorem dX12_sign_81 : decode cX12_sign 81 = .ok (.iload_n 2, 1) := by decide +kernel
theorem dX12_sign_82 : decode cX12_sign 82 = .ok (.iastore, 1) := by decide +kernel
theorem dX12_sign_83 : decode cX12_sign 83 = .ok (.aload_n 0, 1) := by decide +kernel
theorem dX12_sign_84 : decode cX12_sign 84 = .ok (.getfield 9, 3) := by decide +kernel
theorem dX12_sign_87 : decode cX12_sign 87 = .ok (.iload 4, 2) := by decide +kernel
theorem dX12_sign_89 : decode cX12_sign 89 = .ok (.iconst 2, 1) := by decide +kernel
theorem dX12_sign_90 : decode cX12_sign 90 = .ok (.iadd, 1) := by decide +kernel
theorem dX12_sign_91 : decode cX12_sign 91 = .ok (.iconst 0, 1) := by decide +kernel
theorem dX12_sign_92 : decode cX12_sign 92 = .ok (.iastore, 1) := by decide +kernel
theorem dX12_sign_93 : decode cX12_sign 93 = .ok (.aload_n 0, 1) := by decide +kernel
theorem dX12_sign_94 : decode cX12_sign 94 = .ok (.getfield 9, 3) := by decide +kernel
theorem dX12_sign_97 : decode cX12_sign 97 = .ok (.iload 4, 2) := by decide +kernel
theorem dX12_sign_99 : decode cX12_sign 99 = .ok (.iconst 3, 1) := by decide +kernel
theorem dX12_sign_100 : decode cX12_sign 100 = .ok (.iadd, 1) := by decide +kernel
theorem dX12_sign_101 : decode cX12_sign 101 = .ok (.iconst 0, 1) := by decide +kernel
theorem dX12_sign_102 : decode cX12_sign 102 = .ok (.iastore, 1) := by decide +kernel
theorem dX12_sign_103 : decode cX12_sign 103 = .ok (.aload_n 0, 1) := by decide +kernel
theorem dX12_sign_104 : decode cX12_sign 104 = .ok (.getfield 9, 3) := by decide +kernel
theorem dX12_sign_107 : decode cX12_sign 107 = .ok (.iload 4, 2) := by decide +kernel
theorem dX12_sign_109 : decode cX12_sign 109 = .ok (.iconst 4, 1) := by decide +kernel
theorem dX12_sign_110 : decode cX12_sign 110 = .ok (.iadd, 1) := by decide +kernel
theorem dX12_sign_111 : decode cX12_sign 111 = .ok (.iload_n 2, 1) := by decide +kernel
theorem dX12_sign_112 : decode cX12_sign 112 = .ok (.iconst 5, 1) := by decide +kernel
theorem dX12_sign_113 : decode cX12_sign 113 = .ok (.if_icmp .ne 14, 3) := by decide +kernel
theorem dX12_sign_116 : decode cX12_sign 116 = .ok (.aload_n 0, 1) := by decide +kernel
theorem dX12_sign_117 : decode cX12_sign 117 = .ok (.getfield 9, 3) := by decide +kernel
theorem dX12_sign_120 : decode cX12_sign 120 = .ok (.iconst 2, 1) := by decide +kernel
theorem dX12_sign_121 : decode cX12_sign 121 = .ok (.iaload, 1) := by decide +kernel
theorem dX12_sign_122 : decode cX12_sign 122 = .ok (.iload_n 3, 1) := by decide +kernel
theorem dX12_sign_123 : decode cX12_sign 123 = .ok (.iadd, 1) := by decide +kernel
theorem dX12_sign_124 : decode cX12_sign 124 = .ok (.goto 4, 3) := by decide +kernel
theorem dX12_sign_127 : decode cX12_sign 127 = .ok (.iconst 0, 1) := by decide +kernel
theorem dX12_sign_128 : decode cX12_sign 128 = .ok (.iastore, 1) := by decide +kernel
theorem dX12_sign_129 : decode cX12_sign 129 = .ok (.aload_n 0, 1) := by decide +kernel
theorem dX12_sign_130 : decode cX12_sign 130 = .ok (.getfield 9, 3) := by decide +kernel
theorem dX12_sign_133 : decode cX12_sign 133 = .ok (.bipush 6, 2) := by decide +kernel
theorem dX12_sign_135 : decode cX12_sign 135 = .ok (.dup2, 1) := by decide +kernel
theorem dX12_sign_136 : decode cX12_sign 136 = .ok (.iaload, 1) := by decide +kernel
theorem dX12_sign_137 : decode cX12_sign 137 = .ok (.iconst 1, 1) := by decide +kernel
theorem dX12_sign_138 : decode cX12_sign 138 = .ok (.iadd, 1) := by decide +kernel
theorem dX12_sign_139 : decode cX12_sign 139 = .ok (.iastore, 1) := by decide +kernel
theorem dX12_sign_140 : decode cX12_sign 140 = .ok (.aload_n 0, 1) := by decide +kernel
theorem dX12_sign_141 : decode cX12_sign 141 = .ok (.iconst 0, 1) := by decide +kernel
theorem dX12_sign_142 : decode cX12_sign 142 = .ok (.putfield 147, 3) := by decide +kernel
theorem dX12_sign_145 : decode cX12_sign 145 = .ok (.aload_n 0, 1) := by decide +kernel
theorem dX12_sign_146 : decode cX12_sign 146 = .ok (.getfield 9, 3) := by decide +kernel
theorem dX12_sign_149 : decode cX12_sign 149 = .ok (.bipush 6, 2) := by decide +kernel
theorem dX12_sign_151 : decode cX12_sign 151 = .ok (.iaload, 1) := by decide +kernel
theorem dX12_sign_152 : decode cX12_sign 152 = .ok (.iconst 1, 1) := by decide +kernel
theorem dX12_sign_153 : decode cX12_sign 153 = .ok (.isub, 1) := by decide +kernel
theorem dX12_sign_154 : decode cX12_sign 154 = .ok (.ireturn, 1) := by decide +kernel
theorem dX12_told_0 : decode cX12_told 0 = .ok (.aload_n 0, 1) := by decide +kernel
theorem dX12_told_1 : decode cX12_told 1 = .ok (.iload_n 1, 1) := by decide +kernel
theorem dX12_told_2 : decode cX12_told 2 = .ok (.invokevirtual 151, 3) := by decide +kernel
theorem dX12_told_5 : decode cX12_told 5 = .ok (.ifCond .eq 13, 3) := by decide +kernel
theorem dX12_told_8 : decode cX12_told 8 = .ok (.iload_n 2, 1) := by decide +kernel
theorem dX12_told_9 : decode cX12_told 9 = .ok (.iconst 0, 1) := by decide +kernel
theorem dX12_told_10 : decode cX12_told 10 = .ok (.bipush 9, 2) := by decide +kernel
theorem dX12_told_12 : decode cX12_told 12 = .ok (.invokestatic 102, 3) := by decide +kernel
theorem dX12_told_15 : decode cX12_told 15 = .ok (.ifCond .ne 6, 3) := by decide +kernel
theorem dX12_told_18 : decode cX12_told 18 = .ok (.ldc 111, 2) := by decide +kernel
theorem dX12_told_20 : decode cX12_told 20 = .ok (.ireturn, 1) := by decide +kernel
theorem dX12_told_21 : decode cX12_told 21 = .ok (.aload_n 0, 1) := by decide +kernel
theorem dX12_told_22 : decode cX12_told 22 = .ok (.iload_n 1, 1) := by decide +kernel
theorem dX12_told_23 : decode cX12_told 23 = .ok (.iconst 1, 1) := by decide +kernel
theorem dX12_told_24 : decode cX12_told 24 = .ok (.invokevirtual 138, 3) := by decide +kernel
theorem dX12_told_27 : decode cX12_told 27 = .ok (.istore_n 3, 1) := by decide +kernel
theorem dX12_told_28 : decode cX12_told 28 = .ok (.iload_n 2, 1) := by decide +kernel
theorem dX12_told_29 : decode cX12_told 29 = .ok (.tableswitch 124 0 8 #[51, 58, 60, 66, 71, 76, 86, 100, 107], 51) := by decide +kernel
theorem dX12_told_80 : decode cX12_told 80 = .ok (.aload_n 0, 1) := by decide +kernel
theorem dX12_told_81 : decode cX12_told 81 = .ok (.iload_n 1, 1) := by decide +kernel
theorem dX12_told_82 : decode cX12_told 82 = .ok (.iconst 0, 1) := by decide +kernel
theorem dX12_told_83 : decode cX12_told 83 = .ok (.invokevirtual 138, 3) := by decide +kernel
theorem dX12_told_86 : decode cX12_told 86 = .ok (.ireturn, 1) := by decide +kernel
theorem dX12_told_87 : decode cX12_told 87 = .ok (.iload_n 3, 1) := by decide +kernel
theorem dX12_told_88 : decode cX12_told 88 = .ok (.ireturn, 1) := by decide +kernel
theorem dX12_told_89 : decode cX12_told 89 = .ok (.aload_n 0, 1) := by decide +kernel
theorem dX12_told_90 : decode cX12_told 90 = .ok (.iload_n 1, 1) := by decide +kernel
theorem dX12_told_91 : decode cX12_told 91 = .ok (.invokevirtual 141, 3) := by decide +kernel
theorem dX12_told_94 : decode cX12_told 94 = .ok (.ireturn, 1) := by decide +kernel
theorem dX12_told_95 : decode cX12_told 95 = .ok (.iload_n 3, 1) := by decide +kernel
theorem dX12_told_96 : decode cX12_told 96 = .ok (.invokestatic 154, 3) := by decide +kernel
theorem dX12_told_99 : decode cX12_told 99 = .ok (.ireturn, 1) := by decide +kernel
theorem dX12_told_100 : decode cX12_told 100 = .ok (.iload_n 3, 1) := by decide +kernel
theorem dX12_told_101 : decode cX12_told 101 = .ok (.invokestatic 144, 3) := by decide +kernel
theorem dX12_told_104 : decode cX12_told 104 = .ok (.ireturn, 1) := by decide +kernel
theorem dX12_told_105 : decode cX12_told 105 = .ok (.iload_n 3, 1) := by decide +kernel
theorem dX12_told_106 : decode cX12_told 106 = .ok (.aload_n 0, 1) := by decide +kernel
theorem dX12_told_107 : decode cX12_told 107 = .ok (.iload_n 1, 1) := by decide +kernel
theorem dX12_told_108 : decode cX12_told 108 = .ok (.invokevirtual 141, 3) := by decide +kernel
theorem dX12_told_111 : decode cX12_told 111 = .ok (.invokestatic 157, 3) := by decide +kernel
theorem dX12_told_114 : decode cX12_told 114 = .ok (.ireturn, 1) := by decide +kernel
theorem dX12_told_115 : decode cX12_told 115 = .ok (.aload_n 0, 1) := by decide +kernel
theorem dX12_told_116 : decode cX12_told 116 = .ok (.iload_n 1, 1) := by decide +kernel
theorem dX12_told_117 : decode cX12_told 117 = .ok (.invokevirtual 160, 3) := by decide +kernel
theorem dX12_told_120 : decode cX12_told 120 = .ok (.ifCond .eq 7, 3) := by decide +kernel
theorem dX12_told_123 : decode cX12_told 123 = .ok (.iconst 1, 1) := by decide +kernel
theorem dX12_told_124 : decode cX12_told 124 = .ok (.goto 4, 3) := by decide +kernel
theorem dX12_told_127 : decode cX12_told 127 = .ok (.iconst 0, 1) := by decide +kernel
theorem dX12_told_128 : decode cX12_told 128 = .ok (.ireturn, 1) := by decide +kernel
theorem dX12_told_129 : decode cX12_told 129 = .ok (.aload_n 0, 1) := by decide +kernel
theorem dX12_told_130 : decode cX12_told 130 = .ok (.iload_n 1, 1) := by decide +kernel
theorem dX12_told_131 : decode cX12_told 131 = .ok (.iconst 3, 1) := by decide +kernel
theorem dX12_told_132 : decode cX12_told 132 = .ok (.invokevirtual 138, 3) := by decide +kernel
theorem dX12_told_135 : decode cX12_told 135 = .ok (.ireturn, 1) := by decide +kernel
theorem dX12_told_136 : decode cX12_told 136 = .ok (.iload_n 3, 1) := by decide +kernel
theorem dX12_told_137 : decode cX12_told 137 = .ok (.iconst 5, 1) := by decide +kernel
theorem dX12_told_138 : decode cX12_told 138 = .ok (.if_icmp .ne 12, 3) := by decide +kernel
theorem dX12_told_141 : decode cX12_told 141 = .ok (.aload_n 0, 1) := by decide +kernel
theorem dX12_told_142 : decode cX12_told 142 = .ok (.iload_n 1, 1) := by decide +kernel
theorem dX12_told_143 : decode cX12_told 143 = .ok (.iconst 4, 1) := by decide +kernel
theorem dX12_told_144 : decode cX12_told 144 = .ok (.invokevirtual 138, 3) := by decide +kernel
theorem dX12_told_147 : decode cX12_told 147 = .ok (.goto 5, 3) := by decide +kernel
theorem dX12_told_150 : decode cX12_told 150 = .ok (.ldc 137, 2) := by decide +kernel
theorem dX12_told_152 : decode cX12_told 152 = .ok (.ireturn, 1) := by decide +kernel
theorem dX12_told_153 : decode cX12_told 153 = .ok (.aload_n 0, 1) := by decide +kernel
theorem dX12_told_154 : decode cX12_told 154 = .ok (.iload_n 1, 1) := by decide +kernel
theorem dX12_told_155 : decode cX12_told 155 = .ok (.iconst 0, 1) := by decide +kernel
theorem dX12_told_156 : decode cX12_told 156 = .ok (.invokevirtual 163, 3) := by decide +kernel
theorem dX12_told_159 : decode cX12_told 159 = .ok (.ifCond .eq 7, 3) := by decide +kernel
theorem dX12_told_162 : decode cX12_told 162 = .ok (.iconst 1, 1) := by decide +kernel
theorem dX12_told_163 : decode cX12_told 163 = .ok (.goto 4, 3) := by decide +kernel
theorem dX12_told_166 : decode cX12_told 166 = .ok (.iconst 0, 1) := by decide +kernel
theorem dX12_told_167 : decode cX12_told 167 = .ok (.ireturn, 1) := by decide +kernel
theorem dX12_as_0 : decode cX12_as 0 = .ok (.aload_n 0, 1) := by decide +kernel
theorem dX12_as_1 : decode cX12_as 1 = .ok (.iload_n 1, 1) := by decide +kernel
theorem dX12_as_2 : decode cX12_as 2 = .ok (.invokevirtual 151, 3) := by decide +kernel
theorem dX12_as_5 : decode cX12_as 5 = .ok (.ifCond .eq 12, 3) := by decide +kernel
theorem dX12_as_8 : decode cX12_as 8 = .ok (.iload_n 2, 1) := by decide +kernel
theorem dX12_as_9 : decode cX12_as 9 = .ok (.iconst 0, 1) := by decide +kernel
theorem dX12_as_10 : decode cX12_as 10 = .ok (.iconst 5, 1) := by decide +kernel
theorem dX12_as_11 : decode cX12_as 11 = .ok (.invokestatic 102, 3) := by decide +kernel
theorem dX12_as_14 : decode cX12_as 14 = .ok (.ifCond .ne 6, 3) := by decide +kernel
theorem dX12_as_17 : decode cX12_as 17 = .ok (.ldc 111, 2) := by decide +kernel
theorem dX12_as_19 : decode cX12_as 19 = .ok (.ireturn, 1) := by decide +kernel
theorem dX12_as_20 : decode cX12_as 20 = .ok (.aload_n 0, 1) := by decide +kernel
theorem dX12_as_21 : decode cX12_as 21 = .ok (.iload_n 1, 1) := by decide +kernel
theorem dX12_as_22 : decode cX12_as 22 = .ok (.iconst 1, 1) := by decide +kernel
theorem dX12_as_23 : decode cX12_as 23 = .ok (.invokevirtual 138, 3) := by decide +kernel
theorem dX12_as_26 : decode cX12_as 26 = .ok (.iload_n 2, 1) := by decide +kernel
theorem dX12_as_27 : decode cX12_as 27 = .ok (.invokestatic 166, 3) := by decide +kernel
theorem dX12_as_30 : decode cX12_as 30 = .ok (.ifCond .eq 11, 3) := by decide +kernel
theorem dX12_as_33 : decode cX12_as 33 = .ok (.aload_n 0, 1) := by decide +kernel
theorem dX12_as_34 : decode cX12_as 34 = .ok (.iload_n 1, 1) := by decide +kernel
theorem dX12_as_35 : decode cX12_as 35 = .ok (.invokevirtual 141, 3) := by decide +kernel
theorem dX12_as_38 : decode cX12_as 38 = .ok (.goto 5, 3) := by decide +kernel
theorem dX12_as_41 : decode cX12_as 41 = .ok (.ldc 169, 2) := by decide +kernel
theorem dX12_as_43 : decode cX12_as 43 = .ok (.ireturn, 1) := by decide +kernel
theorem dX12_turns_0 : decode cX12_turns 0 = .ok (.aload_n 0, 1) := by decide +kernel
theorem dX12_turns_1 : decode cX12_turns 1 = .ok (.iload_n 1, 1) := by decide +kernel
theorem dX12_turns_2 : decode cX12_turns 2 = .ok (.invokevirtual 151, 3) := by decide +kernel
theorem dX12_turns_5 : decode cX12_turns 5 = .ok (.ifCond .eq 12, 3) := by decide +kernel
theorem dX12_turns_8 : decode cX12_turns 8 = .ok (.iload_n 2, 1) := by decide +kernel
theorem dX12_turns_9 : decode cX12_turns 9 = .ok (.iconst 0, 1) := by decide +kernel
theorem dX12_turns_10 : decode cX12_turns 10 = .ok (.iconst 4, 1) := by decide +kernel
theorem dX12_turns_11 : decode cX12_turns 11 = .ok (.invokestatic 102, 3) := by decide +kernel
theorem dX12_turns_14 : decode cX12_turns 14 = .ok (.ifCond .ne 6, 3) := by decide +kernel
theorem dX12_turns_17 : decode cX12_turns 17 = .ok (.ldc 111, 2) := by decide +kernel
theorem dX12_turns_19 : decode cX12_turns 19 = .ok (.ireturn, 1) := by decide +kernel
theorem dX12_turns_20 : decode cX12_turns 20 = .ok (.aload_n 0, 1) := by decide +kernel
theorem dX12_turns_21 : decode cX12_turns 21 = .ok (.iload_n 1, 1) := by decide +kernel
theorem dX12_turns_22 : decode cX12_turns 22 = .ok (.iconst 1, 1) := by decide +kernel
theorem dX12_turns_23 : decode cX12_turns 23 = .ok (.invokevirtual 138, 3) := by decide +kernel
theorem dX12_turns_26 : decode cX12_turns 26 = .ok (.istore_n 3, 1) := by decide +kernel
theorem dX12_turns_27 : decode cX12_turns 27 = .ok (.iload_n 3, 1) := by decide +kernel
theorem dX12_turns_28 : decode cX12_turns 28 = .ok (.iconst 5, 1) := by decide +kernel
theorem dX12_turns_29 : decode cX12_turns 29 = .ok (.if_icmp .ne 6, 3) := by decide +kernel
theorem dX12_turns_32 : decode cX12_turns 32 = .ok (.ldc 116, 2) := by decide +kernel
theorem dX12_turns_34 : decode cX12_turns 34 = .ok (.ireturn, 1) := by decide +kernel
theorem dX12_turns_35 : decode cX12_turns 35 = .ok (.aload_n 0, 1) := by decide +kernel
theorem dX12_turns_36 : decode cX12_turns 36 = .ok (.getfield 9, 3) := by decide +kernel
theorem dX12_turns_39 : decode cX12_turns 39 = .ok (.sipush 155, 3) := by decide +kernel
theorem dX12_turns_42 : decode cX12_turns 42 = .ok (.iconst 5, 1) := by decide +kernel
theorem dX12_turns_43 : decode cX12_turns 43 = .ok (.iload_n 1, 1) := by decide +kernel
theorem dX12_turns_44 : decode cX12_turns 44 = .ok (.imul, 1) := by decide +kernel
theorem dX12_turns_45 : decode cX12_turns 45 = .ok (.iadd, 1) := by decide +kernel
theorem dX12_turns_46 : decode cX12_turns 46 = .ok (.iconst 1, 1) := by decide +kernel
theorem dX12_turns_47 : decode cX12_turns 47 = .ok (.iadd, 1) := by decide +kernel
theorem dX12_turns_48 : decode cX12_turns 48 = .ok (.iload_n 2, 1) := by decide +kernel
theorem dX12_turns_49 : decode cX12_turns 49 = .ok (.iastore, 1) := by decide +kernel
theorem dX12_turns_50 : decode cX12_turns 50 = .ok (.iload_n 3, 1) := by decide +kernel
theorem dX12_turns_51 : decode cX12_turns 51 = .ok (.ireturn, 1) := by decide +kernel
theorem dX12_saves_0 : decode cX12_saves 0 = .ok (.aload_n 0, 1) := by decide +kernel
theorem dX12_saves_1 : decode cX12_saves 1 = .ok (.getfield 147, 3) := by decide +kernel
theorem dX12_saves_4 : decode cX12_saves 4 = .ok (.bipush 16, 2) := by decide +kernel
theorem dX12_saves_6 : decode cX12_saves 6 = .ok (.if_icmp .ne 44, 3) := by decide +kernel
theorem dX12_saves_9 : decode cX12_saves 9 = .ok (.iconst 0, 1) := by decide +kernel
theorem dX12_saves_10 : decode cX12_saves 10 = .ok (.istore_n 1, 1) := by decide +kernel
theorem dX12_saves_11 : decode cX12_saves 11 = .ok (.iload_n 1, 1) := by decide +kernel
theorem dX12_saves_12 : decode cX12_saves 12 = .ok (.sipush 2730, 3) := by decide +kernel
theorem dX12_saves_15 : decode cX12_saves 15 = .ok (.if_icmp .ge 25, 3) := by decide +kernel
theorem dX12_saves_18 : decode cX12_saves 18 = .ok (.aload_n 0, 1) := by decide +kernel
theorem dX12_saves_19 : decode cX12_saves 19 = .ok (.getfield 19, 3) := by decide +kernel
theorem dX12_saves_22 : decode cX12_saves 22 = .ok (.iload_n 1, 1) := by decide +kernel
theorem dX12_saves_23 : decode cX12_saves 23 = .ok (.aload_n 0, 1) := by decide +kernel
theorem dX12_saves_24 : decode cX12_saves 24 = .ok (.getfield 19, 3) := by decide +kernel
theorem dX12_saves_27 : decode cX12_saves 27 = .ok (.iload_n 1, 1) := by decide +kernel
theorem dX12_saves_28 : decode cX12_saves 28 = .ok (.sipush 182, 3) := by decide +kernel
theorem dX12_saves_31 : decode cX12_saves 31 = .ok (.iadd, 1) := by decide +kernel
theorem dX12_saves_32 : decode cX12_saves 32 = .ok (.iaload, 1) := by decide +kernel
theorem dX12_saves_33 : decode cX12_saves 33 = .ok (.iastore, 1) := by decide +kernel
theorem dX12_saves_34 : decode cX12_saves 34 = .ok (.iinc 1 1, 3) := by decide +kernel
theorem dX12_saves_37 : decode cX12_saves 37 = .ok (.goto (-26), 3) := by decide +kernel
theorem dX12_saves_40 : decode cX12_saves 40 = .ok (.aload_n 0, 1) := by decide +kernel
theorem dX12_saves_41 : decode cX12_saves 41 = .ok (.dup, 1) := by decide +kernel
theorem dX12_saves_42 : decode cX12_saves 42 = .ok (.getfield 147, 3) := by decide +kernel
theorem dX12_saves_45 : decode cX12_saves 45 = .ok (.iconst 1, 1) := by decide +kernel
theorem dX12_saves_46 : decode cX12_saves 46 = .ok (.isub, 1) := by decide +kernel
theorem dX12_saves_47 : decode cX12_saves 47 = .ok (.putfield 147, 3) := by decide +kernel
theorem dX12_saves_50 : decode cX12_saves 50 = .ok (.iconst 0, 1) := by decide +kernel
theorem dX12_saves_51 : decode cX12_saves 51 = .ok (.istore_n 1, 1) := by decide +kernel
theorem dX12_saves_52 : decode cX12_saves 52 = .ok (.iload_n 1, 1) := by decide +kernel
theorem dX12_saves_53 : decode cX12_saves 53 = .ok (.bipush 14, 2) := by decide +kernel
theorem dX12_saves_55 : decode cX12_saves 55 = .ok (.if_icmp .ge 38, 3) := by decide +kernel
theorem dX12_saves_58 : decode cX12_saves 58 = .ok (.aload_n 0, 1) := by decide +kernel
theorem dX12_saves_59 : decode cX12_saves 59 = .ok (.getfield 19, 3) := by decide +kernel
theorem dX12_saves_62 : decode cX12_saves 62 = .ok (.sipush 182, 3) := by decide +kernel
theorem dX12_saves_65 : decode cX12_saves 65 = .ok (.aload_n 0, 1) := by decide +kernel
theorem dX12_saves_66 : decode cX12_saves 66 = .ok (.getfield 147, 3) := by decide +kernel
theorem dX12_saves_69 : decode cX12_saves 69 = .ok (.imul, 1) := by decide +kernel
theorem dX12_saves_70 : decode cX12_saves 70 = .ok (.iload_n 1, 1) := by decide +kernel
theorem dX12_saves_71 : decode cX12_saves 71 = .ok (.iadd, 1) := by decide +kernel
theorem dX12_saves_72 : decode cX12_saves 72 = .ok (.aload_n 0, 1) := by decide +kernel
theorem dX12_saves_73 : decode cX12_saves 73 = .ok (.getfield 9, 3) := by decide +kernel
theorem dX12_saves_76 : decode cX12_saves 76 = .ok (.sipush 155, 3) := by decide +kernel
theorem dX12_saves_79 : decode cX12_saves 79 = .ok (.iconst 5, 1) := by decide +kernel
theorem dX12_saves_80 : decode cX12_saves 80 = .ok (.iload_n 1, 1) := by decide +kernel
theorem dX12_saves_81 : decode cX12_saves 81 = .ok (.imul, 1) := by decide +kernel
theorem dX12_saves_82 : decode cX12_saves 82 = .ok (.iadd, 1) := by decide +kernel
theorem dX12_saves_83 : decode cX12_saves 83 = .ok (.iconst 2, 1) := by decide +kernel
theorem dX12_saves_84 : decode cX12_saves 84 = .ok (.iadd, 1) := by decide +kernel
theorem dX12_saves_85 : decode cX12_saves 85 = .ok (.iaload, 1) := by decide +kernel
theorem dX12_saves_86 : decode cX12_saves 86 = .ok (.iastore, 1) := by decide +kernel
theorem dX12_saves_87 : decode cX12_saves 87 = .ok (.iinc 1 1, 3) := by decide +kernel
theorem dX12_saves_90 : decode cX12_saves 90 = .ok (.goto (-38), 3) := by decide +kernel
theorem dX12_saves_93 : decode cX12_saves 93 = .ok (.iconst 0, 1) := by decide +kernel
theorem dX12_saves_94 : decode cX12_saves 94 = .ok (.istore_n 1, 1) := by decide +kernel
theorem dX12_saves_95 : decode cX12_saves 95 = .ok (.iload_n 1, 1) := by decide +kernel
theorem dX12_saves_96 : decode cX12_saves 96 = .ok (.sipush 168, 3) := by decide +kernel
theorem dX12_saves_99 : decode cX12_saves 99 = .ok (.if_icmp .ge 37, 3) := by decide +kernel
theorem dX12_saves_102 : decode cX12_saves 102 = .ok (.aload_n 0, 1) := by decide +kernel
theorem dX12_saves_103 : decode cX12_saves 103 = .ok (.getfield 19, 3) := by decide +kernel
theorem dX12_saves_106 : decode cX12_saves 106 = .ok (.sipush 182, 3) := by decide +kernel
theorem dX12_saves_109 : decode cX12_saves 109 = .ok (.aload_n 0, 1) := by decide +kernel
theorem dX12_saves_110 : decode cX12_saves 110 = .ok (.getfield 147, 3) := by decide +kernel
theorem dX12_saves_113 : decode cX12_saves 113 = .ok (.imul, 1) := by decide +kernel
theorem dX12_saves_114 : decode cX12_saves 114 = .ok (.bipush 14, 2) := by decide +kernel
theorem dX12_saves_116 : decode cX12_saves 116 = .ok (.iadd, 1) := by decide +kernel
theorem dX12_saves_117 : decode cX12_saves 117 = .ok (.iload_n 1, 1) := by decide +kernel
theorem dX12_saves_118 : decode cX12_saves 118 = .ok (.iadd, 1) := by decide +kernel
theorem dX12_saves_119 : decode cX12_saves 119 = .ok (.aload_n 0, 1) := by decide +kernel
theorem dX12_saves_120 : decode cX12_saves 120 = .ok (.getfield 9, 3) := by decide +kernel
theorem dX12_saves_123 : decode cX12_saves 123 = .ok (.sipush 225, 3) := by decide +kernel
theorem dX12_saves_126 : decode cX12_saves 126 = .ok (.iload_n 1, 1) := by decide +kernel
theorem dX12_saves_127 : decode cX12_saves 127 = .ok (.iadd, 1) := by decide +kernel
theorem dX12_saves_128 : decode cX12_saves 128 = .ok (.iaload, 1) := by decide +kernel
theorem dX12_saves_129 : decode cX12_saves 129 = .ok (.iastore, 1) := by decide +kernel
theorem dX12_saves_130 : decode cX12_saves 130 = .ok (.iinc 1 1, 3) := by decide +kernel
theorem dX12_saves_133 : decode cX12_saves 133 = .ok (.goto (-38), 3) := by decide +kernel
theorem dX12_saves_136 : decode cX12_saves 136 = .ok (.aload_n 0, 1) := by decide +kernel
theorem dX12_saves_137 : decode cX12_saves 137 = .ok (.dup, 1) := by decide +kernel
theorem dX12_saves_138 : decode cX12_saves 138 = .ok (.getfield 147, 3) := by decide +kernel
theorem dX12_saves_141 : decode cX12_saves 141 = .ok (.iconst 1, 1) := by decide +kernel
theorem dX12_saves_142 : decode cX12_saves 142 = .ok (.iadd, 1) := by decide +kernel
theorem dX12_saves_143 : decode cX12_saves 143 = .ok (.putfield 147, 3) := by decide +kernel
theorem dX12_saves_146 : decode cX12_saves 146 = .ok (.return_, 1) := by decide +kernel
theorem dX12_undo_0 : decode cX12_undo 0 = .ok (.aload_n 0, 1) := by decide +kernel
theorem dX12_undo_1 : decode cX12_undo 1 = .ok (.getfield 147, 3) := by decide +kernel
theorem dX12_undo_4 : decode cX12_undo 4 = .ok (.ifCond .ne 6, 3) := by decide +kernel
theorem dX12_undo_7 : decode cX12_undo 7 = .ok (.ldc 116, 2) := by decide +kernel
theorem dX12_undo_9 : decode cX12_undo 9 = .ok (.ireturn, 1) := by decide +kernel
theorem dX12_undo_10 : decode cX12_undo 10 = .ok (.aload_n 0, 1) := by decide +kernel
theorem dX12_undo_11 : decode cX12_undo 11 = .ok (.dup, 1) := by decide +kernel
theorem dX12_undo_12 : decode cX12_undo 12 = .ok (.getfield 147, 3) := by decide +kernel
theorem dX12_undo_15 : decode cX12_undo 15 = .ok (.iconst 1, 1) := by decide +kernel
theorem dX12_undo_16 : decode cX12_undo 16 = .ok (.isub, 1) := by decide +kernel
theorem dX12_undo_17 : decode cX12_undo 17 = .ok (.putfield 147, 3) := by decide +kernel
theorem dX12_undo_20 : decode cX12_undo 20 = .ok (.iconst 0, 1) := by decide +kernel
theorem dX12_undo_21 : decode cX12_undo 21 = .ok (.istore_n 1, 1) := by decide +kernel
theorem dX12_undo_22 : decode cX12_undo 22 = .ok (.iload_n 1, 1) := by decide +kernel
theorem dX12_undo_23 : decode cX12_undo 23 = .ok (.bipush 14, 2) := by decide +kernel
theorem dX12_undo_25 : decode cX12_undo 25 = .ok (.if_icmp .ge 38, 3) := by decide +kernel
theorem dX12_undo_28 : decode cX12_undo 28 = .ok (.aload_n 0, 1) := by decide +kernel
theorem dX12_undo_29 : decode cX12_undo 29 = .ok (.getfield 9, 3) := by decide +kernel
theorem dX12_undo_32 : decode cX12_undo 32 = .ok (.sipush 155, 3) := by decide +kernel
theorem dX12_undo_35 : decode cX12_undo 35 = .ok (.iconst 5, 1) := by decide +kernel
theorem dX12_undo_36 : decode cX12_undo 36 = .ok (.iload_n 1, 1) := by decide +kernel
theorem dX12_undo_37 : decode cX12_undo 37 = .ok (.imul, 1) := by decide +kernel
theorem dX12_undo_38 : decode cX12_undo 38 = .ok (.iadd, 1) := by decide +kernel
theorem dX12_undo_39 : decode cX12_undo 39 = .ok (.iconst 2, 1) := by decide +kernel
theorem dX12_undo_40 : decode cX12_undo 40 = .ok (.iadd, 1) := by decide +kernel
theorem dX12_undo_41 : decode cX12_undo 41 = .ok (.aload_n 0, 1) := by decide +kernel
theorem dX12_undo_42 : decode cX12_undo 42 = .ok (.getfield 19, 3) := by decide +kernel
theorem dX12_undo_45 : decode cX12_undo 45 = .ok (.sipush 182, 3) := by decide +kernel
theorem dX12_undo_48 : decode cX12_undo 48 = .ok (.aload_n 0, 1) := by decide +kernel
theorem dX12_undo_49 : decode cX12_undo 49 = .ok (.getfield 147, 3) := by decide +kernel
theorem dX12_undo_52 : decode cX12_undo 52 = .ok (.imul, 1) := by decide +kernel
theorem dX12_undo_53 : decode cX12_undo 53 = .ok (.iload_n 1, 1) := by decide +kernel
theorem dX12_undo_54 : decode cX12_undo 54 = .ok (.iadd, 1) := by decide +kernel
theorem dX12_undo_55 : decode cX12_undo 55 = .ok (.iaload, 1) := by decide +kernel
theorem dX12_undo_56 : decode cX12_undo 56 = .ok (.iastore, 1) := by decide +kernel
theorem dX12_undo_57 : decode cX12_undo 57 = .ok (.iinc 1 1, 3) := by decide +kernel
theorem dX12_undo_60 : decode cX12_undo 60 = .ok (.goto (-38), 3) := by decide +kernel
theorem dX12_undo_63 : decode cX12_undo 63 = .ok (.iconst 0, 1) := by decide +kernel
theorem dX12_undo_64 : decode cX12_undo 64 = .ok (.istore_n 1, 1) := by decide +kernel
theorem dX12_undo_65 : decode cX12_undo 65 = .ok (.iload_n 1, 1) := by decide +kernel
theorem dX12_undo_66 : decode cX12_undo 66 = .ok (.sipush 168, 3) := by decide +kernel
theorem dX12_undo_69 : decode cX12_undo 69 = .ok (.if_icmp .ge 37, 3) := by decide +kernel
theorem dX12_undo_72 : decode cX12_undo 72 = .ok (.aload_n 0, 1) := by decide +kernel
theorem dX12_undo_73 : decode cX12_undo 73 = .ok (.getfield 9, 3) := by decide +kernel
theorem dX12_undo_76 : decode cX12_undo 76 = .ok (.sipush 225, 3) := by decide +kernel
theorem dX12_undo_79 : decode cX12_undo 79 = .ok (.iload_n 1, 1) := by decide +kernel
theorem dX12_undo_80 : decode cX12_undo 80 = .ok (.iadd, 1) := by decide +kernel
theorem dX12_undo_81 : decode cX12_undo 81 = .ok (.aload_n 0, 1) := by decide +kernel
theorem dX12_undo_82 : decode cX12_undo 82 = .ok (.getfield 19, 3) := by decide +kernel
theorem dX12_undo_85 : decode cX12_undo 85 = .ok (.sipush 182, 3) := by decide +kernel
theorem dX12_undo_88 : decode cX12_undo 88 = .ok (.aload_n 0, 1) := by decide +kernel
theorem dX12_undo_89 : decode cX12_undo 89 = .ok (.getfield 147, 3) := by decide +kernel
theorem dX12_undo_92 : decode cX12_undo 92 = .ok (.imul, 1) := by decide +kernel
theorem dX12_undo_93 : decode cX12_undo 93 = .ok (.bipush 14, 2) := by decide +kernel
theorem dX12_undo_95 : decode cX12_undo 95 = .ok (.iadd, 1) := by decide +kernel
theorem dX12_undo_96 : decode cX12_undo 96 = .ok (.iload_n 1, 1) := by decide +kernel
theorem dX12_undo_97 : decode cX12_undo 97 = .ok (.iadd, 1) := by decide +kernel
theorem dX12_undo_98 : decode cX12_undo 98 = .ok (.iaload, 1) := by decide +kernel
theorem dX12_undo_99 : decode cX12_undo 99 = .ok (.iastore, 1) := by decide +kernel
theorem dX12_undo_100 : decode cX12_undo 100 = .ok (.iinc 1 1, 3) := by decide +kernel
theorem dX12_undo_103 : decode cX12_undo 103 = .ok (.goto (-38), 3) := by decide +kernel
theorem dX12_undo_106 : decode cX12_undo 106 = .ok (.aload_n 0, 1) := by decide +kernel
theorem dX12_undo_107 : decode cX12_undo 107 = .ok (.getfield 147, 3) := by decide +kernel
theorem dX12_undo_110 : decode cX12_undo 110 = .ok (.ireturn, 1) := by decide +kernel
theorem dX12_setsRow_0 : decode cX12_setsRow 0 = .ok (.aload_n 0, 1) := by decide +kernel
theorem dX12_setsRow_1 : decode cX12_setsRow 1 = .ok (.getfield 9, 3) := by decide +kernel
theorem dX12_setsRow_4 : decode cX12_setsRow 4 = .ok (.sipush 225, 3) := by decide +kernel
theorem dX12_setsRow_7 : decode cX12_setsRow 7 = .ok (.bipush 12, 2) := by decide +kernel
theorem dX12_setsRow_9 : decode cX12_setsRow 9 = .ok (.iload_n 1, 1) := by decide +kernel
theorem dX12_setsRow_10 : decode cX12_setsRow 10 = .ok (.imul, 1) := by decide +kernel
theorem dX12_setsRow_11 : decode cX12_setsRow 11 = .ok (.iadd, 1) := by decide +kernel
theorem dX12_setsRow_12 : decode cX12_setsRow 12 = .ok (.iconst 2, 1) := by decide +kernel
theorem dX12_setsRow_13 : decode cX12_setsRow 13 = .ok (.iload_n 2, 1) := by decide +kernel
theorem dX12_setsRow_14 : decode cX12_setsRow 14 = .ok (.imul, 1) := by decide +kernel
theorem dX12_setsRow_15 : decode cX12_setsRow 15 = .ok (.iadd, 1) := by decide +kernel
theorem dX12_setsRow_16 : decode cX12_setsRow 16 = .ok (.iload_n 3, 1) := by decide +kernel
theorem dX12_setsRow_17 : decode cX12_setsRow 17 = .ok (.iastore, 1) := by decide +kernel
theorem dX12_setsRow_18 : decode cX12_setsRow 18 = .ok (.aload_n 0, 1) := by decide +kernel
theorem dX12_setsRow_19 : decode cX12_setsRow 19 = .ok (.getfield 9, 3) := by decide +kernel
theorem dX12_setsRow_22 : decode cX12_setsRow 22 = .ok (.sipush 225, 3) := by decide +kernel
theorem dX12_setsRow_25 : decode cX12_setsRow 25 = .ok (.bipush 12, 2) := by decide +kernel
theorem dX12_setsRow_27 : decode cX12_setsRow 27 = .ok (.iload_n 1, 1) := by decide +kernel
theorem dX12_setsRow_28 : decode cX12_setsRow 28 = .ok (.imul, 1) := by decide +kernel
theorem dX12_setsRow_29 : decode cX12_setsRow 29 = .ok (.iadd, 1) := by decide +kernel
theorem dX12_setsRow_30 : decode cX12_setsRow 30 = .ok (.iconst 2, 1) := by decide +kernel
theorem dX12_setsRow_31 : decode cX12_setsRow 31 = .ok (.iload_n 2, 1) := by decide +kernel
theorem dX12_setsRow_32 : decode cX12_setsRow 32 = .ok (.imul, 1) := by decide +kernel
theorem dX12_setsRow_33 : decode cX12_setsRow 33 = .ok (.iadd, 1) := by decide +kernel
theorem dX12_setsRow_34 : decode cX12_setsRow 34 = .ok (.iconst 1, 1) := by decide +kernel
theorem dX12_setsRow_35 : decode cX12_setsRow 35 = .ok (.iadd, 1) := by decide +kernel
theorem dX12_setsRow_36 : decode cX12_setsRow 36 = .ok (.iload 4, 2) := by decide +kernel
theorem dX12_setsRow_38 : decode cX12_setsRow 38 = .ok (.iastore, 1) := by decide +kernel
theorem dX12_setsRow_39 : decode cX12_setsRow 39 = .ok (.return_, 1) := by decide +kernel
theorem dX12_row_0 : decode cX12_row 0 = .ok (.aload_n 0, 1) := by decide +kernel
theorem dX12_row_1 : decode cX12_row 1 = .ok (.iload_n 1, 1) := by decide +kernel
theorem dX12_row_2 : decode cX12_row 2 = .ok (.invokevirtual 151, 3) := by decide +kernel
theorem dX12_row_5 : decode cX12_row 5 = .ok (.ifCond .eq 23, 3) := by decide +kernel
theorem dX12_row_8 : decode cX12_row 8 = .ok (.iload_n 2, 1) := by decide +kernel
theorem dX12_row_9 : decode cX12_row 9 = .ok (.iconst 0, 1) := by decide +kernel
theorem dX12_row_10 : decode cX12_row 10 = .ok (.bipush 13, 2) := by decide +kernel
theorem dX12_row_12 : decode cX12_row 12 = .ok (.invokestatic 102, 3) := by decide +kernel
theorem dX12_row_15 : decode cX12_row 15 = .ok (.ifCond .eq 13, 3) := by decide +kernel
theorem dX12_row_18 : decode cX12_row 18 = .ok (.iload_n 3, 1) := by decide +kernel
theorem dX12_row_19 : decode cX12_row 19 = .ok (.iconst 0, 1) := by decide +kernel
theorem dX12_row_20 : decode cX12_row 20 = .ok (.bipush 7, 2) := by decide +kernel
theorem dX12_row_22 : decode cX12_row 22 = .ok (.invokestatic 102, 3) := by decide +kernel
theorem dX12_row_25 : decode cX12_row 25 = .ok (.ifCond .ne 6, 3) := by decide +kernel
theorem dX12_row_28 : decode cX12_row 28 = .ok (.ldc 111, 2) := by decide +kernel
theorem dX12_row_30 : decode cX12_row 30 = .ok (.ireturn, 1) := by decide +kernel
theorem dX12_row_31 : decode cX12_row 31 = .ok (.aload_n 0, 1) := by decide +kernel
theorem dX12_row_32 : decode cX12_row 32 = .ok (.iload_n 1, 1) := by decide +kernel
theorem dX12_row_33 : decode cX12_row 33 = .ok (.invokevirtual 141, 3) := by decide +kernel
theorem dX12_row_36 : decode cX12_row 36 = .ok (.istore 4, 2) := by decide +kernel
theorem dX12_row_38 : decode cX12_row 38 = .ok (.iload 4, 2) := by decide +kernel
theorem dX12_row_40 : decode cX12_row 40 = .ok (.aload_n 0, 1) := by decide +kernel
theorem dX12_row_41 : decode cX12_row 41 = .ok (.iload_n 1, 1) := by decide +kernel
theorem dX12_row_42 : decode cX12_row 42 = .ok (.iconst 1, 1) := by decide +kernel
theorem dX12_row_43 : decode cX12_row 43 = .ok (.invokevirtual 138, 3) := by decide +kernel
theorem dX12_row_46 : decode cX12_row 46 = .ok (.invokestatic 154, 3) := by decide +kernel
theorem dX12_row_49 : decode cX12_row 49 = .ok (.if_icmp .lt 6, 3) := by decide +kernel
theorem dX12_row_52 : decode cX12_row 52 = .ok (.ldc 106, 2) := by decide +kernel
theorem dX12_row_54 : decode cX12_row 54 = .ok (.ireturn, 1) := by decide +kernel
theorem dX12_row_55 : decode cX12_row 55 = .ok (.aload_n 0, 1) := by decide +kernel
theorem dX12_row_56 : decode cX12_row 56 = .ok (.invokevirtual 170, 3) := by decide +kernel
theorem dX12_row_59 : decode cX12_row 59 = .ok (.aload_n 0, 1) := by decide +kernel
theorem dX12_row_60 : decode cX12_row 60 = .ok (.iload_n 1, 1) := by decide +kernel
theorem dX12_row_61 : decode cX12_row 61 = .ok (.iload 4, 2) := by decide +kernel
theorem dX12_row_63 : decode cX12_row 63 = .ok (.iload_n 2, 1) := by decide +kernel
theorem dX12_row_64 : decode cX12_row 64 = .ok (.iload_n 3, 1) := by decide +kernel
theorem dX12_row_65 : decode cX12_row 65 = .ok (.invokevirtual 173, 3) := by decide +kernel
theorem dX12_row_68 : decode cX12_row 68 = .ok (.aload_n 0, 1) := by decide +kernel
theorem dX12_row_69 : decode cX12_row 69 = .ok (.getfield 9, 3) := by decide +kernel
theorem dX12_row_72 : decode cX12_row 72 = .ok (.sipush 155, 3) := by decide +kernel
theorem dX12_row_75 : decode cX12_row 75 = .ok (.iconst 5, 1) := by decide +kernel
theorem dX12_row_76 : decode cX12_row 76 = .ok (.iload_n 1, 1) := by decide +kernel
theorem dX12_row_77 : decode cX12_row 77 = .ok (.imul, 1) := by decide +kernel
theorem dX12_row_78 : decode cX12_row 78 = .ok (.iadd, 1) := by decide +kernel
theorem dX12_row_79 : decode cX12_row 79 = .ok (.iconst 2, 1) := by decide +kernel
theorem dX12_row_80 : decode cX12_row 80 = .ok (.iadd, 1) := by decide +kernel
theorem dX12_row_81 : decode cX12_row 81 = .ok (.iload 4, 2) := by decide +kernel
theorem dX12_row_83 : decode cX12_row 83 = .ok (.iconst 1, 1) := by decide +kernel
theorem dX12_row_84 : decode cX12_row 84 = .ok (.iadd, 1) := by decide +kernel
theorem dX12_row_85 : decode cX12_row 85 = .ok (.iastore, 1) := by decide +kernel
theorem dX12_row_86 : decode cX12_row 86 = .ok (.iload 4, 2) := by decide +kernel
theorem dX12_row_88 : decode cX12_row 88 = .ok (.iconst 1, 1) := by decide +kernel
theorem dX12_row_89 : decode cX12_row 89 = .ok (.iadd, 1) := by decide +kernel
theorem dX12_row_90 : decode cX12_row 90 = .ok (.ireturn, 1) := by decide +kernel
theorem dX12_rowTold_0 : decode cX12_rowTold 0 = .ok (.aload_n 0, 1) := by decide +kernel
theorem dX12_rowTold_1 : decode cX12_rowTold 1 = .ok (.iload_n 1, 1) := by decide +kernel
theorem dX12_rowTold_2 : decode cX12_rowTold 2 = .ok (.invokevirtual 151, 3) := by decide +kernel
theorem dX12_rowTold_5 : decode cX12_rowTold 5 = .ok (.ifCond .eq 12, 3) := by decide +kernel
theorem dX12_rowTold_8 : decode cX12_rowTold 8 = .ok (.iload_n 3, 1) := by decide +kernel
theorem dX12_rowTold_9 : decode cX12_rowTold 9 = .ok (.iconst 0, 1) := by decide +kernel
theorem dX12_rowTold_10 : decode cX12_rowTold 10 = .ok (.iconst 1, 1) := by decide +kernel
theorem dX12_rowTold_11 : decode cX12_rowTold 11 = .ok (.invokestatic 102, 3) := by decide +kernel
theorem dX12_rowTold_14 : decode cX12_rowTold 14 = .ok (.ifCond .ne 6, 3) := by decide +kernel
theorem dX12_rowTold_17 : decode cX12_rowTold 17 = .ok (.ldc 111, 2) := by decide +kernel
theorem dX12_rowTold_19 : decode cX12_rowTold 19 = .ok (.ireturn, 1) := by decide +kernel
theorem dX12_rowTold_20 : decode cX12_rowTold 20 = .ok (.iload_n 2, 1) := by decide +kernel
theorem dX12_rowTold_21 : decode cX12_rowTold 21 = .ok (.iconst 0, 1) := by decide +kernel
theorem dX12_rowTold_22 : decode cX12_rowTold 22 = .ok (.aload_n 0, 1) := by decide +kernel
theorem dX12_rowTold_23 : decode cX12_rowTold 23 = .ok (.iload_n 1, 1) := by decide +kernel
theorem dX12_rowTold_24 : decode cX12_rowTold 24 = .ok (.invokevirtual 141, 3) := by decide +kernel
theorem dX12_rowTold_27 : decode cX12_rowTold 27 = .ok (.iconst 1, 1) := by decide +kernel
theorem dX12_rowTold_28 : decode cX12_rowTold 28 = .ok (.isub, 1) := by decide +kernel
theorem dX12_rowTold_29 : decode cX12_rowTold 29 = .ok (.invokestatic 102, 3) := by decide +kernel
theorem dX12_rowTold_32 : decode cX12_rowTold 32 = .ok (.ifCond .ne 6, 3) := by decide +kernel
theorem dX12_rowTold_35 : decode cX12_rowTold 35 = .ok (.ldc 137, 2) := by decide +kernel
theorem dX12_rowTold_37 : decode cX12_rowTold 37 = .ok (.ireturn, 1) := by decide +kernel
theorem dX12_rowTold_38 : decode cX12_rowTold 38 = .ok (.iload_n 3, 1) := by decide +kernel
theorem dX12_rowTold_39 : decode cX12_rowTold 39 = .ok (.ifCond .ne 12, 3) := by decide +kernel
theorem dX12_rowTold_42 : decode cX12_rowTold 42 = .ok (.aload_n 0, 1) := by decide +kernel
theorem dX12_rowTold_43 : decode cX12_rowTold 43 = .ok (.iload_n 1, 1) := by decide +kernel
theorem dX12_rowTold_44 : decode cX12_rowTold 44 = .ok (.iload_n 2, 1) := by decide +kernel
theorem dX12_rowTold_45 : decode cX12_rowTold 45 = .ok (.invokevirtual 177, 3) := by decide +kernel
theorem dX12_rowTold_48 : decode cX12_rowTold 48 = .ok (.goto 9, 3) := by decide +kernel
theorem dX12_rowTold_51 : decode cX12_rowTold 51 = .ok (.aload_n 0, 1) := by decide +kernel
theorem dX12_rowTold_52 : decode cX12_rowTold 52 = .ok (.iload_n 1, 1) := by decide +kernel
theorem dX12_rowTold_53 : decode cX12_rowTold 53 = .ok (.iload_n 2, 1) := by decide +kernel
theorem dX12_rowTold_54 : decode cX12_rowTold 54 = .ok (.invokevirtual 180, 3) := by decide +kernel
theorem dX12_rowTold_57 : decode cX12_rowTold 57 = .ok (.ireturn, 1) := by decide +kernel
theorem dX12_drop_0 : decode cX12_drop 0 = .ok (.aload_n 0, 1) := by decide +kernel
theorem dX12_drop_1 : decode cX12_drop 1 = .ok (.iload_n 1, 1) := by decide +kernel
theorem dX12_drop_2 : decode cX12_drop 2 = .ok (.invokevirtual 151, 3) := by decide +kernel
theorem dX12_drop_5 : decode cX12_drop 5 = .ok (.ifCond .eq 18, 3) := by decide +kernel
theorem dX12_drop_8 : decode cX12_drop 8 = .ok (.iload_n 2, 1) := by decide +kernel
theorem dX12_drop_9 : decode cX12_drop 9 = .ok (.iconst 0, 1) := by decide +kernel
theorem dX12_drop_10 : decode cX12_drop 10 = .ok (.aload_n 0, 1) := by decide +kernel
theorem dX12_drop_11 : decode cX12_drop 11 = .ok (.iload_n 1, 1) := by decide +kernel
theorem dX12_drop_12 : decode cX12_drop 12 = .ok (.invokevirtual 141, 3) := by decide +kernel
theorem dX12_drop_15 : decode cX12_drop 15 = .ok (.iconst 1, 1) := by decide +kernel
theorem dX12_drop_16 : decode cX12_drop 16 = .ok (.isub, 1) := by decide +kernel
theorem dX12_drop_17 : decode cX12_drop 17 = .ok (.invokestatic 102, 3) := by decide +kernel
theorem dX12_drop_20 : decode cX12_drop 20 = .ok (.ifCond .ne 6, 3) := by decide +kernel
theorem dX12_drop_23 : decode cX12_drop 23 = .ok (.ldc 111, 2) := by decide +kernel
theorem dX12_drop_25 : decode cX12_drop 25 = .ok (.ireturn, 1) := by decide +kernel
theorem dX12_drop_26 : decode cX12_drop 26 = .ok (.aload_n 0, 1) := by decide +kernel
theorem dX12_drop_27 : decode cX12_drop 27 = .ok (.invokevirtual 170, 3) := by decide +kernel
theorem dX12_drop_30 : decode cX12_drop 30 = .ok (.aload_n 0, 1) := by decide +kernel
theorem dX12_drop_31 : decode cX12_drop 31 = .ok (.iload_n 1, 1) := by decide +kernel
theorem dX12_drop_32 : decode cX12_drop 32 = .ok (.invokevirtual 141, 3) := by decide +kernel
theorem dX12_drop_35 : decode cX12_drop 35 = .ok (.iconst 1, 1) := by decide +kernel
theorem dX12_drop_36 : decode cX12_drop 36 = .ok (.isub, 1) := by decide +kernel
theorem dX12_drop_37 : decode cX12_drop 37 = .ok (.istore_n 3, 1) := by decide +kernel
theorem dX12_drop_38 : decode cX12_drop 38 = .ok (.iload_n 2, 1) := by decide +kernel
theorem dX12_drop_39 : decode cX12_drop 39 = .ok (.istore 4, 2) := by decide +kernel
theorem dX12_drop_41 : decode cX12_drop 41 = .ok (.iload 4, 2) := by decide +kernel
theorem dX12_drop_43 : decode cX12_drop 43 = .ok (.iload_n 3, 1) := by decide +kernel
theorem dX12_drop_44 : decode cX12_drop 44 = .ok (.if_icmp .ge 34, 3) := by decide +kernel
theorem dX12_drop_47 : decode cX12_drop 47 = .ok (.aload_n 0, 1) := by decide +kernel
theorem dX12_drop_48 : decode cX12_drop 48 = .ok (.iload_n 1, 1) := by decide +kernel
theorem dX12_drop_49 : decode cX12_drop 49 = .ok (.iload 4, 2) := by decide +kernel
theorem dX12_drop_51 : decode cX12_drop 51 = .ok (.aload_n 0, 1) := by decide +kernel
theorem dX12_drop_52 : decode cX12_drop 52 = .ok (.iload_n 1, 1) := by decide +kernel
theorem dX12_drop_53 : decode cX12_drop 53 = .ok (.iload 4, 2) := by decide +kernel
theorem dX12_drop_55 : decode cX12_drop 55 = .ok (.iconst 1, 1) := by decide +kernel
theorem dX12_drop_56 : decode cX12_drop 56 = .ok (.iadd, 1) := by decide +kernel
theorem dX12_drop_57 : decode cX12_drop 57 = .ok (.invokevirtual 177, 3) := by decide +kernel
theorem dX12_drop_60 : decode cX12_drop 60 = .ok (.aload_n 0, 1) := by decide +kernel
theorem dX12_drop_61 : decode cX12_drop 61 = .ok (.iload_n 1, 1) := by decide +kernel
theorem dX12_drop_62 : decode cX12_drop 62 = .ok (.iload 4, 2) := by decide +kernel
theorem dX12_drop_64 : decode cX12_drop 64 = .ok (.iconst 1, 1) := by decide +kernel
theorem dX12_drop_65 : decode cX12_drop 65 = .ok (.iadd, 1) := by decide +kernel
theorem dX12_drop_66 : decode cX12_drop 66 = .ok (.invokevirtual 180, 3) := by decide +kernel
theorem dX12_drop_69 : decode cX12_drop 69 = .ok (.invokevirtual 173, 3) := by decide +kernel
theorem dX12_drop_72 : decode cX12_drop 72 = .ok (.iinc 4 1, 3) := by decide +kernel
theorem dX12_drop_75 : decode cX12_drop 75 = .ok (.goto (-34), 3) := by decide +kernel
theorem dX12_drop_78 : decode cX12_drop 78 = .ok (.aload_n 0, 1) := by decide +kernel
theorem dX12_drop_79 : decode cX12_drop 79 = .ok (.getfield 9, 3) := by decide +kernel
theorem dX12_drop_82 : decode cX12_drop 82 = .ok (.sipush 155, 3) := by decide +kernel
theorem dX12_drop_85 : decode cX12_drop 85 = .ok (.iconst 5, 1) := by decide +kernel
theorem dX12_drop_86 : decode cX12_drop 86 = .ok (.iload_n 1, 1) := by decide +kernel
theorem dX12_drop_87 : decode cX12_drop 87 = .ok (.imul, 1) := by decide +kernel
theorem dX12_drop_88 : decode cX12_drop 88 = .ok (.iadd, 1) := by decide +kernel
theorem dX12_drop_89 : decode cX12_drop 89 = .ok (.iconst 2, 1) := by decide +kernel
theorem dX12_drop_90 : decode cX12_drop 90 = .ok (.iadd, 1) := by decide +kernel
theorem dX12_drop_91 : decode cX12_drop 91 = .ok (.iload_n 3, 1) := by decide +kernel
theorem dX12_drop_92 : decode cX12_drop 92 = .ok (.iastore, 1) := by decide +kernel
theorem dX12_drop_93 : decode cX12_drop 93 = .ok (.iload_n 3, 1) := by decide +kernel
theorem dX12_drop_94 : decode cX12_drop 94 = .ok (.ireturn, 1) := by decide +kernel
theorem dX12_aim_0 : decode cX12_aim 0 = .ok (.aload_n 0, 1) := by decide +kernel
theorem dX12_aim_1 : decode cX12_aim 1 = .ok (.iload_n 1, 1) := by decide +kernel
theorem dX12_aim_2 : decode cX12_aim 2 = .ok (.invokevirtual 151, 3) := by decide +kernel
theorem dX12_aim_5 : decode cX12_aim 5 = .ok (.ifCond .eq 28, 3) := by decide +kernel
theorem dX12_aim_8 : decode cX12_aim 8 = .ok (.iload_n 2, 1) := by decide +kernel
theorem dX12_aim_9 : decode cX12_aim 9 = .ok (.iconst 0, 1) := by decide +kernel
theorem dX12_aim_10 : decode cX12_aim 10 = .ok (.aload_n 0, 1) := by decide +kernel
theorem dX12_aim_11 : decode cX12_aim 11 = .ok (.iload_n 1, 1) := by decide +kernel
theorem dX12_aim_12 : decode cX12_aim 12 = .ok (.invokevirtual 141, 3) := by decide +kernel
theorem dX12_aim_15 : decode cX12_aim 15 = .ok (.iconst 1, 1) := by decide +kernel
theorem dX12_aim_16 : decode cX12_aim 16 = .ok (.isub, 1) := by decide +kernel
theorem dX12_aim_17 : decode cX12_aim 17 = .ok (.invokestatic 102, 3) := by decide +kernel
theorem dX12_aim_20 : decode cX12_aim 20 = .ok (.ifCond .eq 13, 3) := by decide +kernel
theorem dX12_aim_23 : decode cX12_aim 23 = .ok (.iload_n 3, 1) := by decide +kernel
theorem dX12_aim_24 : decode cX12_aim 24 = .ok (.iconst 0, 1) := by decide +kernel
theorem dX12_aim_25 : decode cX12_aim 25 = .ok (.bipush 7, 2) := by decide +kernel
theorem dX12_aim_27 : decode cX12_aim 27 = .ok (.invokestatic 102, 3) := by decide +kernel
theorem dX12_aim_30 : decode cX12_aim 30 = .ok (.ifCond .ne 6, 3) := by decide +kernel
theorem dX12_aim_33 : decode cX12_aim 33 = .ok (.ldc 111, 2) := by decide +kernel
theorem dX12_aim_35 : decode cX12_aim 35 = .ok (.ireturn, 1) := by decide +kernel
theorem dX12_aim_36 : decode cX12_aim 36 = .ok (.aload_n 0, 1) := by decide +kernel
theorem dX12_aim_37 : decode cX12_aim 37 = .ok (.invokevirtual 170, 3) := by decide +kernel
theorem dX12_aim_40 : decode cX12_aim 40 = .ok (.aload_n 0, 1) := by decide +kernel
theorem dX12_aim_41 : decode cX12_aim 41 = .ok (.iload_n 1, 1) := by decide +kernel
theorem dX12_aim_42 : decode cX12_aim 42 = .ok (.iload_n 2, 1) := by decide +kernel
theorem dX12_aim_43 : decode cX12_aim 43 = .ok (.invokevirtual 180, 3) := by decide +kernel
theorem dX12_aim_46 : decode cX12_aim 46 = .ok (.istore 4, 2) := by decide +kernel
theorem dX12_aim_48 : decode cX12_aim 48 = .ok (.aload_n 0, 1) := by decide +kernel
theorem dX12_aim_49 : decode cX12_aim 49 = .ok (.iload_n 1, 1) := by decide +kernel
theorem dX12_aim_50 : decode cX12_aim 50 = .ok (.iload_n 2, 1) := by decide +kernel
theorem dX12_aim_51 : decode cX12_aim 51 = .ok (.aload_n 0, 1) := by decide +kernel
theorem dX12_aim_52 : decode cX12_aim 52 = .ok (.iload_n 1, 1) := by decide +kernel
theorem dX12_aim_53 : decode cX12_aim 53 = .ok (.iload_n 2, 1) := by decide +kernel
theorem dX12_aim_54 : decode cX12_aim 54 = .ok (.invokevirtual 177, 3) := by decide +kernel
theorem dX12_aim_57 : decode cX12_aim 57 = .ok (.iload_n 3, 1) := by decide +kernel
theorem dX12_aim_58 : decode cX12_aim 58 = .ok (.invokevirtual 173, 3) := by decide +kernel
theorem dX12_aim_61 : decode cX12_aim 61 = .ok (.iload 4, 2) := by decide +kernel
theorem dX12_aim_63 : decode cX12_aim 63 = .ok (.ireturn, 1) := by decide +kernel
theorem dX12_feed_0 : decode cX12_feed 0 = .ok (.aload_n 0, 1) := by decide +kernel
theorem dX12_feed_1 : decode cX12_feed 1 = .ok (.getfield 183, 3) := by decide +kernel
theorem dX12_feed_4 : decode cX12_feed 4 = .ok (.bipush 12, 2) := by decide +kernel
theorem dX12_feed_6 : decode cX12_feed 6 = .ok (.iadd, 1) := by decide +kernel
theorem dX12_feed_7 : decode cX12_feed 7 = .ok (.bipush 96, 2) := by decide +kernel
theorem dX12_feed_9 : decode cX12_feed 9 = .ok (.if_icmp .le 6, 3) := by decide +kernel
theorem dX12_feed_12 : decode cX12_feed 12 = .ok (.ldc 106, 2) := by decide +kernel
theorem dX12_feed_14 : decode cX12_feed 14 = .ok (.ireturn, 1) := by decide +kernel
theorem dX12_feed_15 : decode cX12_feed 15 = .ok (.iconst 0, 1) := by decide +kernel
theorem dX12_feed_16 : decode cX12_feed 16 = .ok (.istore 4, 2) := by decide +kernel
theorem dX12_feed_18 : decode cX12_feed 18 = .ok (.iload 4, 2) := by decide +kernel
theorem dX12_feed_20 : decode cX12_feed 20 = .ok (.bipush 12, 2) := by decide +kernel
theorem dX12_feed_22 : decode cX12_feed 22 = .ok (.if_icmp .ge 62, 3) := by decide +kernel
theorem dX12_feed_25 : decode cX12_feed 25 = .ok (.iload 4, 2) := by decide +kernel
theorem dX12_feed_27 : decode cX12_feed 27 = .ok (.iconst 4, 1) := by decide +kernel
theorem dX12_feed_28 : decode cX12_feed 28 = .ok (.if_icmp .ge 7, 3) := by decide +kernel
theorem dX12_feed_31 : decode cX12_feed 31 = .ok (.iload_n 1, 1) := by decide +kernel
theorem dX12_feed_32 : decode cX12_feed 32 = .ok (.goto 15, 3) := by decide +kernel
theorem dX12_feed_35 : decode cX12_feed 35 = .ok (.iload 4, 2) := by decide +kernel
theorem dX12_feed_37 : decode cX12_feed 37 = .ok (.bipush 8, 2) := by decide +kernel
theorem dX12_feed_39 : decode cX12_feed 39 = .ok (.if_icmp .ge 7, 3) := by decide +kernel
theorem dX12_feed_42 : decode cX12_feed 42 = .ok (.iload_n 2, 1) := by decide +kernel
theorem dX12_feed_43 : decode cX12_feed 43 = .ok (.goto 4, 3) := by decide +kernel
theorem dX12_feed_46 : decode cX12_feed 46 = .ok (.iload_n 3, 1) := by decide +kernel
theorem dX12_feed_47 : decode cX12_feed 47 = .ok (.istore 5, 2) := by decide +kernel
theorem dX12_feed_49 : decode cX12_feed 49 = .ok (.aload_n 0, 1) := by decide +kernel
theorem dX12_feed_50 : decode cX12_feed 50 = .ok (.getfield 22, 3) := by decide +kernel
theorem dX12_feed_53 : decode cX12_feed 53 = .ok (.aload_n 0, 1) := by decide +kernel
theorem dX12_feed_54 : decode cX12_feed 54 = .ok (.getfield 183, 3) := by decide +kernel
theorem dX12_feed_57 : decode cX12_feed 57 = .ok (.iload 4, 2) := by decide +kernel
theorem dX12_feed_59 : decode cX12_feed 59 = .ok (.iadd, 1) := by decide +kernel
theorem dX12_feed_60 : decode cX12_feed 60 = .ok (.iload 5, 2) := by decide +kernel
theorem dX12_feed_62 : decode cX12_feed 62 = .ok (.bipush 24, 2) := by decide +kernel
theorem dX12_feed_64 : decode cX12_feed 64 = .ok (.bipush 8, 2) := by decide +kernel
theorem dX12_feed_66 : decode cX12_feed 66 = .ok (.iload 4, 2) := by decide +kernel
theorem dX12_feed_68 : decode cX12_feed 68 = .ok (.iconst 4, 1) := by decide +kernel
theorem dX12_feed_69 : decode cX12_feed 69 = .ok (.irem, 1) := by decide +kernel
theorem dX12_feed_70 : decode cX12_feed 70 = .ok (.imul, 1) := by decide +kernel
theorem dX12_feed_71 : decode cX12_feed 71 = .ok (.isub, 1) := by decide +kernel
theorem dX12_feed_72 : decode cX12_feed 72 = .ok (.ishr, 1) := by decide +kernel
theorem dX12_feed_73 : decode cX12_feed 73 = .ok (.sipush 255, 3) := by decide +kernel
theorem dX12_feed_76 : decode cX12_feed 76 = .ok (.iand, 1) := by decide +kernel
theorem dX12_feed_77 : decode cX12_feed 77 = .ok (.iastore, 1) := by decide +kernel
theorem dX12_feed_78 : decode cX12_feed 78 = .ok (.iinc 4 1, 3) := by decide +kernel
theorem dX12_feed_81 : decode cX12_feed 81 = .ok (.goto (-63), 3) := by decide +kernel
theorem dX12_feed_84 : decode cX12_feed 84 = .ok (.aload_n 0, 1) := by decide +kernel
theorem dX12_feed_85 : decode cX12_feed 85 = .ok (.dup, 1) := by decide +kernel
theorem dX12_feed_86 : decode cX12_feed 86 = .ok (.getfield 183, 3) := by decide +kernel
theorem dX12_feed_89 : decode cX12_feed 89 = .ok (.bipush 12, 2) := by decide +kernel
theorem dX12_feed_91 : decode cX12_feed 91 = .ok (.iadd, 1) := by decide +kernel
theorem dX12_feed_92 : decode cX12_feed 92 = .ok (.putfield 183, 3) := by decide +kernel
theorem dX12_feed_95 : decode cX12_feed 95 = .ok (.aload_n 0, 1) := by decide +kernel
theorem dX12_feed_96 : decode cX12_feed 96 = .ok (.getfield 183, 3) := by decide +kernel
theorem dX12_feed_99 : decode cX12_feed 99 = .ok (.ireturn, 1) := by decide +kernel
theorem dX12_trim_0 : decode cX12_trim 0 = .ok (.iload_n 1, 1) := by decide +kernel
theorem dX12_trim_1 : decode cX12_trim 1 = .ok (.iconst 0, 1) := by decide +kernel
theorem dX12_trim_2 : decode cX12_trim 2 = .ok (.aload_n 0, 1) := by decide +kernel
theorem dX12_trim_3 : decode cX12_trim 3 = .ok (.getfield 183, 3) := by decide +kernel
theorem dX12_trim_6 : decode cX12_trim 6 = .ok (.invokestatic 102, 3) := by decide +kernel
theorem dX12_trim_9 : decode cX12_trim 9 = .ok (.ifCond .ne 6, 3) := by decide +kernel
theorem dX12_trim_12 : decode cX12_trim 12 = .ok (.ldc 111, 2) := by decide +kernel
theorem dX12_trim_14 : decode cX12_trim 14 = .ok (.ireturn, 1) := by decide +kernel
theorem dX12_trim_15 : decode cX12_trim 15 = .ok (.aload_n 0, 1) := by decide +kernel
theorem dX12_trim_16 : decode cX12_trim 16 = .ok (.iload_n 1, 1) := by decide +kernel
theorem dX12_trim_17 : decode cX12_trim 17 = .ok (.putfield 183, 3) := by decide +kernel
theorem dX12_trim_20 : decode cX12_trim 20 = .ok (.iload_n 1, 1) := by decide +kernel
theorem dX12_trim_21 : decode cX12_trim 21 = .ok (.ireturn, 1) := by decide +kernel
theorem dX12_isLetter_0 : decode cX12_isLetter 0 = .ok (.iload_n 1, 1) := by decide +kernel
theorem dX12_isLetter_1 : decode cX12_isLetter 1 = .ok (.aload_n 0, 1) := by decide +kernel
theorem dX12_isLetter_2 : decode cX12_isLetter 2 = .ok (.getfield 183, 3) := by decide +kernel
theorem dX12_isLetter_5 : decode cX12_isLetter 5 = .ok (.if_icmp .ge 29, 3) := by decide +kernel
theorem dX12_isLetter_8 : decode cX12_isLetter 8 = .ok (.aload_n 0, 1) := by decide +kernel
theorem dX12_isLetter_9 : decode cX12_isLetter 9 = .ok (.getfield 22, 3) := by decide +kernel
theorem dX12_isLetter_12 : decode cX12_isLetter 12 = .ok (.iload_n 1, 1) := by decide +kernel
theorem dX12_isLetter_13 : decode cX12_isLetter 13 = .ok (.iaload, 1) := by decide +kernel
theorem dX12_isLetter_14 : decode cX12_isLetter 14 = .ok (.bipush 97, 2) := by decide +kernel
theorem dX12_isLetter_16 : decode cX12_isLetter 16 = .ok (.if_icmp .lt 18, 3) := by decide +kernel
theorem dX12_isLetter_19 : decode cX12_isLetter 19 = .ok (.aload_n 0, 1) := by decide +kernel
theorem dX12_isLetter_20 : decode cX12_isLetter 20 = .ok (.getfield 22, 3) := by decide +kernel
theorem dX12_isLetter_23 : decode cX12_isLetter 23 = .ok (.iload_n 1, 1) := by decide +kernel
theorem dX12_isLetter_24 : decode cX12_isLetter 24 = .ok (.iaload, 1) := by decide +kernel
theorem dX12_isLetter_25 : decode cX12_isLetter 25 = .ok (.bipush 122, 2) := by decide +kernel
theorem dX12_isLetter_27 : decode cX12_isLetter 27 = .ok (.if_icmp .gt 7, 3) := by decide +kernel
theorem dX12_isLetter_30 : decode cX12_isLetter 30 = .ok (.iconst 1, 1) := by decide +kernel
theorem dX12_isLetter_31 : decode cX12_isLetter 31 = .ok (.goto 4, 3) := by decide +kernel
theorem dX12_isLetter_34 : decode cX12_isLetter 34 = .ok (.iconst 0, 1) := by decide +kernel
theorem dX12_isLetter_35 : decode cX12_isLetter 35 = .ok (.ireturn, 1) := by decide +kernel
theorem dX12_isFigure_0 : decode cX12_isFigure 0 = .ok (.iload_n 1, 1) := by decide +kernel
theorem dX12_isFigure_1 : decode cX12_isFigure 1 = .ok (.aload_n 0, 1) := by decide +kernel
theorem dX12_isFigure_2 : decode cX12_isFigure 2 = .ok (.getfield 183, 3) := by decide +kernel
theorem dX12_isFigure_5 : decode cX12_isFigure 5 = .ok (.if_icmp .ge 29, 3) := by decide +kernel
theorem dX12_isFigure_8 : decode cX12_isFigure 8 = .ok (.aload_n 0, 1) := by decide +kernel
theorem dX12_isFigure_9 : decode cX12_isFigure 9 = .ok (.getfield 22, 3) := by decide +kernel
theorem dX12_isFigure_12 : decode cX12_isFigure 12 = .ok (.iload_n 1, 1) := by decide +kernel
theorem dX12_isFigure_13 : decode cX12_isFigure 13 = .ok (.iaload, 1) := by decide +kernel
theorem dX12_isFigure_14 : decode cX12_isFigure 14 = .ok (.bipush 48, 2) := by decide +kernel
theorem dX12_isFigure_16 : decode cX12_isFigure 16 = .ok (.if_icmp .lt 18, 3) := by decide +kernel
theorem dX12_isFigure_19 : decode cX12_isFigure 19 = .ok (.aload_n 0, 1) := by decide +kernel
theorem dX12_isFigure_20 : decode cX12_isFigure 20 = .ok (.getfield 22, 3) := by decide +kernel
theorem dX12_isFigure_23 : decode cX12_isFigure 23 = .ok (.iload_n 1, 1) := by decide +kernel
theorem dX12_isFigure_24 : decode cX12_isFigure 24 = .ok (.iaload, 1) := by decide +kernel
theorem dX12_isFigure_25 : decode cX12_isFigure 25 = .ok (.bipush 57, 2) := by decide +kernel
theorem dX12_isFigure_27 : decode cX12_isFigure 27 = .ok (.if_icmp .gt 7, 3) := by decide +kernel
theorem dX12_isFigure_30 : decode cX12_isFigure 30 = .ok (.iconst 1, 1) := by decide +kernel
theorem dX12_isFigure_31 : decode cX12_isFigure 31 = .ok (.goto 4, 3) := by decide +kernel
theorem dX12_isFigure_34 : decode cX12_isFigure 34 = .ok (.iconst 0, 1) := by decide +kernel
theorem dX12_isFigure_35 : decode cX12_isFigure 35 = .ok (.ireturn, 1) := by decide +kernel
theorem dX12_go_0 : decode cX12_go 0 = .ok (.aload_n 0, 1) := by decide +kernel
theorem dX12_go_1 : decode cX12_go 1 = .ok (.getfield 186, 3) := by decide +kernel
theorem dX12_go_4 : decode cX12_go 4 = .ok (.aload_n 0, 1) := by decide +kernel
theorem dX12_go_5 : decode cX12_go 5 = .ok (.getfield 183, 3) := by decide +kernel
theorem dX12_go_8 : decode cX12_go 8 = .ok (.if_icmp .ge 30, 3) := by decide +kernel
theorem dX12_go_11 : decode cX12_go 11 = .ok (.aload_n 0, 1) := by decide +kernel
theorem dX12_go_12 : decode cX12_go 12 = .ok (.getfield 22, 3) := by decide +kernel
theorem dX12_go_15 : decode cX12_go 15 = .ok (.aload_n 0, 1) := by decide +kernel
theorem dX12_go_16 : decode cX12_go 16 = .ok (.getfield 186, 3) := by decide +kernel
theorem dX12_go_19 : decode cX12_go 19 = .ok (.iaload, 1) := by decide +kernel
theorem dX12_go_20 : decode cX12_go 20 = .ok (.bipush 32, 2) := by decide +kernel
theorem dX12_go_22 : decode cX12_go 22 = .ok (.if_icmp .ne 16, 3) := by decide +kernel
theorem dX12_go_25 : decode cX12_go 25 = .ok (.aload_n 0, 1) := by decide +kernel
theorem dX12_go_26 : decode cX12_go 26 = .ok (.dup, 1) := by decide +kernel
theorem dX12_go_27 : decode cX12_go 27 = .ok (.getfield 186, 3) := by decide +kernel
theorem dX12_go_30 : decode cX12_go 30 = .ok (.iconst 1, 1) := by decide +kernel
theorem dX12_go_31 : decode cX12_go 31 = .ok (.iadd, 1) := by decide +kernel
theorem dX12_go_32 : decode cX12_go 32 = .ok (.putfield 186, 3) := by decide +kernel
theorem dX12_go_35 : decode cX12_go 35 = .ok (.goto (-35), 3) := by decide +kernel
theorem dX12_go_38 : decode cX12_go 38 = .ok (.aload_n 0, 1) := by decide +kernel
theorem dX12_go_39 : decode cX12_go 39 = .ok (.aload_n 0, 1) := by decide +kernel
theorem dX12_go_40 : decode cX12_go 40 = .ok (.getfield 186, 3) := by decide +kernel
theorem dX12_go_43 : decode cX12_go 43 = .ok (.putfield 189, 3) := by decide +kernel
theorem dX12_go_46 : decode cX12_go 46 = .ok (.aload_n 0, 1) := by decide +kernel
theorem dX12_go_47 : decode cX12_go 47 = .ok (.getfield 189, 3) := by decide +kernel
theorem dX12_go_50 : decode cX12_go 50 = .ok (.aload_n 0, 1) := by decide +kernel
theorem dX12_go_51 : decode cX12_go 51 = .ok (.getfield 192, 3) := by decide +kernel
theorem dX12_go_54 : decode cX12_go 54 = .ok (.if_icmp .ne 7, 3) := by decide +kernel
theorem dX12_go_57 : decode cX12_go 57 = .ok (.iconst 1, 1) := by decide +kernel
theorem dX12_go_58 : decode cX12_go 58 = .ok (.goto 4, 3) := by decide +kernel
theorem dX12_go_61 : decode cX12_go 61 = .ok (.iconst 0, 1) := by decide +kernel
theorem dX12_go_62 : decode cX12_go 62 = .ok (.istore_n 1, 1) := by decide +kernel
theorem dX12_go_63 : decode cX12_go 63 = .ok (.aload_n 0, 1) := by decide +kernel
theorem dX12_go_64 : decode cX12_go 64 = .ok (.getfield 189, 3) := by decide +kernel
theorem dX12_go_67 : decode cX12_go 67 = .ok (.aload_n 0, 1) := by decide +kernel
theorem dX12_go_68 : decode cX12_go 68 = .ok (.getfield 183, 3) := by decide +kernel
theorem dX12_go_71 : decode cX12_go 71 = .ok (.if_icmp .ne 11, 3) := by decide +kernel
theorem dX12_go_74 : decode cX12_go 74 = .ok (.aload_n 0, 1) := by decide +kernel
theorem dX12_go_75 : decode cX12_go 75 = .ok (.iconst 0, 1) := by decide +kernel
theorem dX12_go_76 : decode cX12_go 76 = .ok (.putfield 195, 3) := by decide +kernel
theorem dX12_go_79 : decode cX12_go 79 = .ok (.goto 224, 3) := by decide +kernel
theorem dX12_go_82 : decode cX12_go 82 = .ok (.aload_n 0, 1) := by decide +kernel
theorem dX12_go_83 : decode cX12_go 83 = .ok (.aload_n 0, 1) := by decide +kernel
theorem dX12_go_84 : decode cX12_go 84 = .ok (.getfield 189, 3) := by decide +kernel
theorem dX12_go_87 : decode cX12_go 87 = .ok (.invokevirtual 198, 3) := by decide +kernel
theorem dX12_go_90 : decode cX12_go 90 = .ok (.ifCond .eq 64, 3) := by decide +kernel
theorem dX12_go_93 : decode cX12_go 93 = .ok (.aload_n 0, 1) := by decide +kernel
theorem dX12_go_94 : decode cX12_go 94 = .ok (.aload_n 0, 1) := by decide +kernel
theorem dX12_go_95 : decode cX12_go 95 = .ok (.getfield 186, 3) := by decide +kernel
theorem dX12_go_98 : decode cX12_go 98 = .ok (.invokevirtual 198, 3) := by decide +kernel
theorem dX12_go_101 : decode cX12_go 101 = .ok (.ifCond .eq 16, 3) := by decide +kernel
theorem dX12_go_104 : decode cX12_go 104 = .ok (.aload_n 0, 1) := by decide +kernel
theorem dX12_go_105 : decode cX12_go 105 = .ok (.dup, 1) := by decide +kernel
theorem dX12_go_106 : decode cX12_go 106 = .ok (.getfield 186, 3) := by decide +kernel
theorem dX12_go_109 : decode cX12_go 109 = .ok (.iconst 1, 1) := by decide +kernel
theorem dX12_go_110 : decode cX12_go 110 = .ok (.iadd, 1) := by decide +kernel
theorem dX12_go_111 : decode cX12_go 111 = .ok (.putfield 186, 3) := by decide +kernel
theorem dX12_go_114 : decode cX12_go 114 = .ok (.goto (-21), 3) := by decide +kernel
theorem dX12_go_117 : decode cX12_go 117 = .ok (.aload_n 0, 1) := by decide +kernel
theorem dX12_go_118 : decode cX12_go 118 = .ok (.iload_n 1, 1) := by decide +kernel
theorem dX12_go_119 : decode cX12_go 119 = .ok (.ifCond .eq 7, 3) := by decide +kernel
theorem dX12_go_122 : decode cX12_go 122 = .ok (.iconst 4, 1) := by decide +kernel
theorem dX12_go_123 : decode cX12_go 123 = .ok (.goto 4, 3) := by decide +kernel
theorem dX12_go_126 : decode cX12_go 126 = .ok (.iconst 1, 1) := by decide +kernel
theorem dX12_go_127 : decode cX12_go 127 = .ok (.putfield 195, 3) := by decide +kernel
theorem dX12_go_130 : decode cX12_go 130 = .ok (.aload_n 0, 1) := by decide +kernel
theorem dX12_go_131 : decode cX12_go 131 = .ok (.aload_n 0, 1) := by decide +kernel
theorem dX12_go_132 : decode cX12_go 132 = .ok (.getfield 22, 3) := by decide +kernel
theorem dX12_go_135 : decode cX12_go 135 = .ok (.aload_n 0, 1) := by decide +kernel
theorem dX12_go_136 : decode cX12_go 136 = .ok (.getfield 189, 3) := by decide +kernel
theorem dX12_go_139 : decode cX12_go 139 = .ok (.iaload, 1) := by decide +kernel
theorem dX12_go_140 : decode cX12_go 140 = .ok (.putfield 201, 3) := by decide +kernel
theorem dX12_go_143 : decode cX12_go 143 = .ok (.aload_n 0, 1) := by decide +kernel
theorem dX12_go_144 : decode cX12_go 144 = .ok (.aload_n 0, 1) := by decide +kernel
theorem dX12_go_145 : decode cX12_go 145 = .ok (.getfield 186, 3) := by decide +kernel
theorem dX12_go_148 : decode cX12_go 148 = .ok (.putfield 192, 3) := by decide +kernel
theorem dX12_go_151 : decode cX12_go 151 = .ok (.goto 152, 3) := by decide +kernel
theorem dX12_go_154 : decode cX12_go 154 = .ok (.aload_n 0, 1) := by decide +kernel
theorem dX12_go_155 : decode cX12_go 155 = .ok (.aload_n 0, 1) := by decide +kernel
theorem dX12_go_156 : decode cX12_go 156 = .ok (.getfield 189, 3) := by decide +kernel
theorem dX12_go_159 : decode cX12_go 159 = .ok (.invokevirtual 204, 3) := by decide +kernel
theorem dX12_go_162 : decode cX12_go 162 = .ok (.ifCond .eq 113, 3) := by decide +kernel
theorem dX12_go_165 : decode cX12_go 165 = .ok (.aload_n 0, 1) := by decide +kernel
theorem dX12_go_166 : decode cX12_go 166 = .ok (.iconst 0, 1) := by decide +kernel
theorem dX12_go_167 : decode cX12_go 167 = .ok (.putfield 201, 3) := by decide +kernel
theorem dX12_go_170 : decode cX12_go 170 = .ok (.aload_n 0, 1) := by decide +kernel
theorem dX12_go_171 : decode cX12_go 171 = .ok (.aload_n 0, 1) := by decide +kernel
theorem dX12_go_172 : decode cX12_go 172 = .ok (.getfield 186, 3) := by decide +kernel
theorem dX12_go_175 : decode cX12_go 175 = .ok (.invokevirtual 204, 3) := by decide +kernel
theorem dX12_go_178 : decode cX12_go 178 = .ok (.ifCond .eq 60, 3) := by decide +kernel
theorem dX12_go_181 : decode cX12_go 181 = .ok (.aload_n 0, 1) := by decide +kernel
theorem dX12_go_182 : decode cX12_go 182 = .ok (.aload_n 0, 1) := by decide +kernel
theorem dX12_go_183 : decode cX12_go 183 = .ok (.getfield 186, 3) := by decide +kernel
theorem dX12_go_186 : decode cX12_go 186 = .ok (.aload_n 0, 1) := by decide +kernel
theorem dX12_go_187 : decode cX12_go 187 = .ok (.getfield 189, 3) := by decide +kernel
theorem dX12_go_190 : decode cX12_go 190 = .ok (.isub, 1) := by decide +kernel
theorem dX12_go_191 : decode cX12_go 191 = .ok (.iconst 4, 1) := by decide +kernel
theorem dX12_go_192 : decode cX12_go 192 = .ok (.if_icmp .ge 26, 3) := by decide +kernel
theorem dX12_go_195 : decode cX12_go 195 = .ok (.bipush 10, 2) := by decide +kernel
theorem dX12_go_197 : decode cX12_go 197 = .ok (.aload_n 0, 1) := by decide +kernel
theorem dX12_go_198 : decode cX12_go 198 = .ok (.getfield 201, 3) := by decide +kernel
theorem dX12_go_201 : decode cX12_go 201 = .ok (.imul, 1) := by decide +kernel
theorem dX12_go_202 : decode cX12_go 202 = .ok (.aload_n 0, 1) := by decide +kernel
theorem dX12_go_203 : decode cX12_go 203 = .ok (.getfield 22, 3) := by decide +kernel
theorem dX12_go_206 : decode cX12_go 206 = .ok (.aload_n 0, 1) := by decide +kernel
theorem dX12_go_207 : decode cX12_go 207 = .ok (.getfield 186, 3) := by decide +kernel
theorem dX12_go_210 : decode cX12_go 210 = .ok (.iaload, 1) := by decide +kernel
theorem dX12_go_211 : decode cX12_go 211 = .ok (.iadd, 1) := by decide +kernel
theorem dX12_go_212 : decode cX12_go 212 = .ok (.bipush 48, 2) := by decide +kernel
theorem dX12_go_214 : decode cX12_go 214 = .ok (.isub, 1) := by decide +kernel
theorem dX12_go_215 : decode cX12_go 215 = .ok (.goto 7, 3) := by decide +kernel
theorem dX12_go_218 : decode cX12_go 218 = .ok (.aload_n 0, 1) := by decide +kernel
theorem dX12_go_219 : decode cX12_go 219 = .ok (.getfield 201, 3) := by decide +kernel
theorem dX12_go_222 : decode cX12_go 222 = .ok (.putfield 201, 3) := by decide +kernel
theorem dX12_go_225 : decode cX12_go 225 = .ok (.aload_n 0, 1) := by decide +kernel
theorem dX12_go_226 : decode cX12_go 226 = .ok (.dup, 1) := by decide +kernel
theorem dX12_go_227 : decode cX12_go 227 = .ok (.getfield 186, 3) := by decide +kernel
theorem dX12_go_230 : decode cX12_go 230 = .ok (.iconst 1, 1) := by decide +kernel
theorem dX12_go_231 : decode cX12_go 231 = .ok (.iadd, 1) := by decide +kernel
theorem dX12_go_232 : decode cX12_go 232 = .ok (.putfield 186, 3) := by decide +kernel
theorem dX12_go_235 : decode cX12_go 235 = .ok (.goto (-65), 3) := by decide +kernel
theorem dX12_go_238 : decode cX12_go 238 = .ok (.aload_n 0, 1) := by decide +kernel
theorem dX12_go_239 : decode cX12_go 239 = .ok (.iload_n 1, 1) := by decide +kernel
theorem dX12_go_240 : decode cX12_go 240 = .ok (.ifCond .ne 16, 3) := by decide +kernel
theorem dX12_go_243 : decode cX12_go 243 = .ok (.aload_n 0, 1) := by decide +kernel
theorem dX12_go_244 : decode cX12_go 244 = .ok (.getfield 186, 3) := by decide +kernel
theorem dX12_go_247 : decode cX12_go 247 = .ok (.aload_n 0, 1) := by decide +kernel
theorem dX12_go_248 : decode cX12_go 248 = .ok (.getfield 189, 3) := by decide +kernel
theorem dX12_go_251 : decode cX12_go 251 = .ok (.isub, 1) := by decide +kernel
theorem dX12_go_252 : decode cX12_go 252 = .ok (.iconst 4, 1) := by decide +kernel
theorem dX12_go_253 : decode cX12_go 253 = .ok (.if_icmp .le 7, 3) := by decide +kernel
theorem dX12_go_256 : decode cX12_go 256 = .ok (.iconst 4, 1) := by decide +kernel
theorem dX12_go_257 : decode cX12_go 257 = .ok (.goto 4, 3) := by decide +kernel
theorem dX12_go_260 : decode cX12_go 260 = .ok (.iconst 2, 1) := by decide +kernel
theorem dX12_go_261 : decode cX12_go 261 = .ok (.putfield 195, 3) := by decide +kernel
theorem dX12_go_264 : decode cX12_go 264 = .ok (.aload_n 0, 1) := by decide +kernel
theorem dX12_go_265 : decode cX12_go 265 = .ok (.aload_n 0, 1) := by decide +kernel
theorem dX12_go_266 : decode cX12_go 266 = .ok (.getfield 186, 3) := by decide +kernel
theorem dX12_go_269 : decode cX12_go 269 = .ok (.putfield 192, 3) := by decide +kernel
theorem dX12_go_272 : decode cX12_go 272 = .ok (.goto 31, 3) := by decide +kernel
theorem dX12_go_275 : decode cX12_go 275 = .ok (.aload_n 0, 1) := by decide +kernel
theorem dX12_go_276 : decode cX12_go 276 = .ok (.iconst 3, 1) := by decide +kernel
theorem dX12_go_277 : decode cX12_go 277 = .ok (.putfield 195, 3) := by decide +kernel
theorem dX12_go_280 : decode cX12_go 280 = .ok (.aload_n 0, 1) := by decide +kernel
theorem dX12_go_281 : decode cX12_go 281 = .ok (.aload_n 0, 1) := by decide +kernel
theorem dX12_go_282 : decode cX12_go 282 = .ok (.getfield 22, 3) := by decide +kernel
theorem dX12_go_285 : decode cX12_go 285 = .ok (.aload_n 0, 1) := by decide +kernel
theorem dX12_go_286 : decode cX12_go 286 = .ok (.getfield 189, 3) := by decide +kernel
theorem dX12_go_289 : decode cX12_go 289 = .ok (.iaload, 1) := by decide +kernel
theorem dX12_go_290 : decode cX12_go 290 = .ok (.putfield 201, 3) := by decide +kernel
theorem dX12_go_293 : decode cX12_go 293 = .ok (.aload_n 0, 1) := by decide +kernel
theorem dX12_go_294 : decode cX12_go 294 = .ok (.dup, 1) := by decide +kernel
theorem dX12_go_295 : decode cX12_go 295 = .ok (.getfield 186, 3) := by decide +kernel
theorem dX12_go_298 : decode cX12_go 298 = .ok (.iconst 1, 1) := by decide +kernel
theorem dX12_go_299 : decode cX12_go 299 = .ok (.iadd, 1) := by decide +kernel
theorem dX12_go_300 : decode cX12_go 300 = .ok (.putfield 186, 3) := by decide +kernel
theorem dX12_go_303 : decode cX12_go 303 = .ok (.return_, 1) := by decide +kernel
theorem dX12_takesKey_0 : decode cX12_takesKey 0 = .ok (.aload_n 0, 1) := by decide +kernel
theorem dX12_takesKey_1 : decode cX12_takesKey 1 = .ok (.getfield 195, 3) := by decide +kernel
theorem dX12_takesKey_4 : decode cX12_takesKey 4 = .ok (.iconst 1, 1) := by decide +kernel
theorem dX12_takesKey_5 : decode cX12_takesKey 5 = .ok (.if_icmp .eq 5, 3) := by decide +kernel
theorem dX12_takesKey_8 : decode cX12_takesKey 8 = .ok (.iconst 0, 1) := by decide +kernel
theorem dX12_takesKey_9 : decode cX12_takesKey 9 = .ok (.ireturn, 1) := by decide +kernel
theorem dX12_takesKey_10 : decode cX12_takesKey 10 = .ok (.iconst 0, 1) := by decide +kernel
theorem dX12_takesKey_11 : decode cX12_takesKey 11 = .ok (.istore_n 1, 1) := by decide +kernel
theorem dX12_takesKey_12 : decode cX12_takesKey 12 = .ok (.iload_n 1, 1) := by decide +kernel
theorem dX12_takesKey_13 : decode cX12_takesKey 13 = .ok (.iconst 3, 1) := by decide +kernel
theorem dX12_takesKey_14 : decode cX12_takesKey 14 = .ok (.if_icmp .ge 113, 3) := by decide +kernel
theorem dX12_takesKey_17 : decode cX12_takesKey 17 = .ok (.aload_n 0, 1) := by decide +kernel
theorem dX12_takesKey_18 : decode cX12_takesKey 18 = .ok (.getfield 29, 3) := by decide +kernel
theorem dX12_takesKey_21 : decode cX12_takesKey 21 = .ok (.iload_n 1, 1) := by decide +kernel
theorem dX12_takesKey_22 : decode cX12_takesKey 22 = .ok (.iconst 1, 1) := by decide +kernel
theorem dX12_takesKey_23 : decode cX12_takesKey 23 = .ok (.iadd, 1) := by decide +kernel
theorem dX12_takesKey_24 : decode cX12_takesKey 24 = .ok (.iaload, 1) := by decide +kernel
theorem dX12_takesKey_25 : decode cX12_takesKey 25 = .ok (.aload_n 0, 1) := by decide +kernel
theorem dX12_takesKey_26 : decode cX12_takesKey 26 = .ok (.getfield 29, 3) := by decide +kernel
theorem dX12_takesKey_29 : decode cX12_takesKey 29 = .ok (.iload_n 1, 1) := by decide +kernel
theorem dX12_takesKey_30 : decode cX12_takesKey 30 = .ok (.iaload, 1) := by decide +kernel
theorem dX12_takesKey_31 : decode cX12_takesKey 31 = .ok (.isub, 1) := by decide +kernel
theorem dX12_takesKey_32 : decode cX12_takesKey 32 = .ok (.istore_n 2, 1) := by decide +kernel
theorem dX12_takesKey_33 : decode cX12_takesKey 33 = .ok (.iload_n 2, 1) := by decide +kernel
theorem dX12_takesKey_34 : decode cX12_takesKey 34 = .ok (.aload_n 0, 1) := by decide +kernel
theorem dX12_takesKey_35 : decode cX12_takesKey 35 = .ok (.getfield 186, 3) := by decide +kernel
theorem dX12_takesKey_38 : decode cX12_takesKey 38 = .ok (.aload_n 0, 1) := by decide +kernel
theorem dX12_takesKey_39 : decode cX12_takesKey 39 = .ok (.getfield 189, 3) := by decide +kernel
theorem dX12_takesKey_42 : decode cX12_takesKey 42 = .ok (.isub, 1) := by decide +kernel
theorem dX12_takesKey_43 : decode cX12_takesKey 43 = .ok (.if_icmp .ne 7, 3) := by decide +kernel
theorem dX12_takesKey_46 : decode cX12_takesKey 46 = .ok (.iconst 1, 1) := by decide +kernel
theorem dX12_takesKey_47 : decode cX12_takesKey 47 = .ok (.goto 4, 3) := by decide +kernel
theorem dX12_takesKey_50 : decode cX12_takesKey 50 = .ok (.iconst 0, 1) := by decide +kernel
theorem dX12_takesKey_51 : decode cX12_takesKey 51 = .ok (.istore_n 3, 1) := by decide +kernel
theorem dX12_takesKey_52 : decode cX12_takesKey 52 = .ok (.iconst 0, 1) := by decide +kernel
theorem dX12_takesKey_53 : decode cX12_takesKey 53 = .ok (.istore 4, 2) := by decide +kernel
theorem dX12_takesKey_55 : decode cX12_takesKey 55 = .ok (.iload 4, 2) := by decide +kernel
theorem dX12_takesKey_57 : decode cX12_takesKey 57 = .ok (.iload_n 2, 1) := by decide +kernel
theorem dX12_takesKey_58 : decode cX12_takesKey 58 = .ok (.if_icmp .ge 48, 3) := by decide +kernel
theorem dX12_takesKey_61 : decode cX12_takesKey 61 = .ok (.iload_n 3, 1) := by decide +kernel
theorem dX12_takesKey_62 : decode cX12_takesKey 62 = .ok (.ifCond .eq 44, 3) := by decide +kernel
theorem dX12_takesKey_65 : decode cX12_takesKey 65 = .ok (.aload_n 0, 1) := by decide +kernel
theorem dX12_takesKey_66 : decode cX12_takesKey 66 = .ok (.getfield 22, 3) := by decide +kernel
theorem dX12_takesKey_69 : decode cX12_takesKey 69 = .ok (.aload_n 0, 1) := by decide +kernel
theorem dX12_takesKey_70 : decode cX12_takesKey 70 = .ok (.getfield 189, 3) := by decide +kernel
theorem dX12_takesKey_73 : decode cX12_takesKey 73 = .ok (.iload 4, 2) := by decide +kernel
theorem dX12_takesKey_75 : decode cX12_takesKey 75 = .ok (.iadd, 1) := by decide +kernel
theorem dX12_takesKey_76 : decode cX12_takesKey 76 = .ok (.iaload, 1) := by decide +kernel
theorem dX12_takesKey_77 : decode cX12_takesKey 77 = .ok (.aload_n 0, 1) := by decide +kernel
theorem dX12_takesKey_78 : decode cX12_takesKey 78 = .ok (.getfield 25, 3) := by decide +kernel
theorem dX12_takesKey_81 : decode cX12_takesKey 81 = .ok (.aload_n 0, 1) := by decide +kernel
theorem dX12_takesKey_82 : decode cX12_takesKey 82 = .ok (.getfield 29, 3) := by decide +kernel
theorem dX12_takesKey_85 : decode cX12_takesKey 85 = .ok (.iload_n 1, 1) := by decide +kernel
theorem dX12_takesKey_86 : decode cX12_takesKey 86 = .ok (.iaload, 1) := by decide +kernel
theorem dX12_takesKey_87 : decode cX12_takesKey 87 = .ok (.iload 4, 2) := by decide +kernel
theorem dX12_takesKey_89 : decode cX12_takesKey 89 = .ok (.iadd, 1) := by decide +kernel
theorem dX12_takesKey_90 : decode cX12_takesKey 90 = .ok (.caload, 1) := by decide +kernel
theorem dX12_takesKey_91 : decode cX12_takesKey 91 = .ok (.if_icmp .ne 7, 3) := by decide +kernel
theorem dX12_takesKey_94 : decode cX12_takesKey 94 = .ok (.iconst 1, 1) := by decide +kernel
theorem dX12_takesKey_95 : decode cX12_takesKey 95 = .ok (.goto 4, 3) := by decide +kernel
theorem dX12_takesKey_98 : decode cX12_takesKey 98 = .ok (.iconst 0, 1) := by decide +kernel
theorem dX12_takesKey_99 : decode cX12_takesKey 99 = .ok (.istore_n 3, 1) := by decide +kernel
theorem dX12_takesKey_100 : decode cX12_takesKey 100 = .ok (.iinc 4 1, 3) := by decide +kernel
theorem dX12_takesKey_103 : decode cX12_takesKey 103 = .ok (.goto (-48), 3) := by decide +kernel
theorem dX12_takesKey_106 : decode cX12_takesKey 106 = .ok (.iload_n 3, 1) := by decide +kernel
theorem dX12_takesKey_107 : decode cX12_takesKey 107 = .ok (.ifCond .eq 14, 3) := by decide +kernel
theorem dX12_takesKey_110 : decode cX12_takesKey 110 = .ok (.aload_n 0, 1) := by decide +kernel
theorem dX12_takesKey_111 : decode cX12_takesKey 111 = .ok (.iload_n 1, 1) := by decide +kernel
theorem dX12_takesKey_112 : decode cX12_takesKey 112 = .ok (.putfield 207, 3) := by decide +kernel
theorem dX12_takesKey_115 : decode cX12_takesKey 115 = .ok (.aload_n 0, 1) := by decide +kernel
theorem dX12_takesKey_116 : decode cX12_takesKey 116 = .ok (.invokevirtual 210, 3) := by decide +kernel
theorem dX12_takesKey_119 : decode cX12_takesKey 119 = .ok (.iconst 1, 1) := by decide +kernel
theorem dX12_takesKey_120 : decode cX12_takesKey 120 = .ok (.ireturn, 1) := by decide +kernel
theorem dX12_takesKey_121 : decode cX12_takesKey 121 = .ok (.iinc 1 1, 3) := by decide +kernel
theorem dX12_takesKey_124 : decode cX12_takesKey 124 = .ok (.goto (-112), 3) := by decide +kernel
theorem dX12_takesKey_127 : decode cX12_takesKey 127 = .ok (.iconst 0, 1) := by decide +kernel
theorem dX12_takesKey_128 : decode cX12_takesKey 128 = .ok (.ireturn, 1) := by decide +kernel
theorem dX12_nameOf_0 : decode cX12_nameOf 0 = .ok (.aload_n 0, 1) := by decide +kernel
theorem dX12_nameOf_1 : decode cX12_nameOf 1 = .ok (.getfield 207, 3) := by decide +kernel
theorem dX12_nameOf_4 : decode cX12_nameOf 4 = .ok (.lookupswitch 92 #[(0, 28), (1, 60)], 28) := by decide +kernel
theorem dX12_nameOf_32 : decode cX12_nameOf 32 = .ok (.iload_n 1, 1) := by decide +kernel
theorem dX12_nameOf_33 : decode cX12_nameOf 33 = .ok (.bipush 104, 2) := by decide +kernel
theorem dX12_nameOf_35 : decode cX12_nameOf 35 = .ok (.if_icmp .ne 7, 3) := by decide +kernel
theorem dX12_nameOf_38 : decode cX12_nameOf 38 = .ok (.iconst 0, 1) := by decide +kernel
theorem dX12_nameOf_39 : decode cX12_nameOf 39 = .ok (.goto 24, 3) := by decide +kernel
theorem dX12_nameOf_42 : decode cX12_nameOf 42 = .ok (.iload_n 1, 1) := by decide +kernel
theorem dX12_nameOf_43 : decode cX12_nameOf 43 = .ok (.bipush 100, 2) := by decide +kernel
theorem dX12_nameOf_45 : decode cX12_nameOf 45 = .ok (.if_icmp .ne 7, 3) := by decide +kernel
theorem dX12_nameOf_48 : decode cX12_nameOf 48 = .ok (.iconst 1, 1) := by decide +kernel
theorem dX12_nameOf_49 : decode cX12_nameOf 49 = .ok (.goto 14, 3) := by decide +kernel
theorem dX12_nameOf_52 : decode cX12_nameOf 52 = .ok (.iload_n 1, 1) := by decide +kernel
theorem dX12_nameOf_53 : decode cX12_nameOf 53 = .ok (.bipush 114, 2) := by decide +kernel
theorem dX12_nameOf_55 : decode cX12_nameOf 55 = .ok (.if_icmp .ne 7, 3) := by decide +kernel
theorem dX12_nameOf_58 : decode cX12_nameOf 58 = .ok (.iconst 2, 1) := by decide +kernel
theorem dX12_nameOf_59 : decode cX12_nameOf 59 = .ok (.goto 4, 3) := by decide +kernel
theorem dX12_nameOf_62 : decode cX12_nameOf 62 = .ok (.iconst (-1), 1) := by decide +kernel
theorem dX12_nameOf_63 : decode cX12_nameOf 63 = .ok (.ireturn, 1) := by decide +kernel
theorem dX12_nameOf_64 : decode cX12_nameOf 64 = .ok (.iload_n 1, 1) := by decide +kernel
theorem dX12_nameOf_65 : decode cX12_nameOf 65 = .ok (.bipush 104, 2) := by decide +kernel
theorem dX12_nameOf_67 : decode cX12_nameOf 67 = .ok (.if_icmp .ne 7, 3) := by decide +kernel
theorem dX12_nameOf_70 : decode cX12_nameOf 70 = .ok (.iconst 0, 1) := by decide +kernel
theorem dX12_nameOf_71 : decode cX12_nameOf 71 = .ok (.goto 24, 3) := by decide +kernel
theorem dX12_nameOf_74 : decode cX12_nameOf 74 = .ok (.iload_n 1, 1) := by decide +kernel
theorem dX12_nameOf_75 : decode cX12_nameOf 75 = .ok (.bipush 100, 2) := by decide +kernel
theorem dX12_nameOf_77 : decode cX12_nameOf 77 = .ok (.if_icmp .ne 7, 3) := by decide +kernel
theorem dX12_nameOf_80 : decode cX12_nameOf 80 = .ok (.iconst 1, 1) := by decide +kernel
theorem dX12_nameOf_81 : decode cX12_nameOf 81 = .ok (.goto 14, 3) := by decide +kernel
theorem dX12_nameOf_84 : decode cX12_nameOf 84 = .ok (.iload_n 1, 1) := by decide +kernel
theorem dX12_nameOf_85 : decode cX12_nameOf 85 = .ok (.bipush 109, 2) := by decide +kernel
theorem dX12_nameOf_87 : decode cX12_nameOf 87 = .ok (.if_icmp .ne 7, 3) := by decide +kernel
theorem dX12_nameOf_90 : decode cX12_nameOf 90 = .ok (.iconst 2, 1) := by decide +kernel
theorem dX12_nameOf_91 : decode cX12_nameOf 91 = .ok (.goto 4, 3) := by decide +kernel
theorem dX12_nameOf_94 : decode cX12_nameOf 94 = .ok (.iconst (-1), 1) := by decide +kernel
theorem dX12_nameOf_95 : decode cX12_nameOf 95 = .ok (.ireturn, 1) := by decide +kernel
theorem dX12_nameOf_96 : decode cX12_nameOf 96 = .ok (.iload_n 1, 1) := by decide +kernel
theorem dX12_nameOf_97 : decode cX12_nameOf 97 = .ok (.bipush 107, 2) := by decide +kernel
theorem dX12_nameOf_99 : decode cX12_nameOf 99 = .ok (.if_icmp .ne 7, 3) := by decide +kernel
theorem dX12_nameOf_102 : decode cX12_nameOf 102 = .ok (.iconst 0, 1) := by decide +kernel
theorem dX12_nameOf_103 : decode cX12_nameOf 103 = .ok (.goto 34, 3) := by decide +kernel
theorem dX12_nameOf_106 : decode cX12_nameOf 106 = .ok (.iload_n 1, 1) := by decide +kernel
theorem dX12_nameOf_107 : decode cX12_nameOf 107 = .ok (.bipush 115, 2) := by decide +kernel
theorem dX12_nameOf_109 : decode cX12_nameOf 109 = .ok (.if_icmp .ne 7, 3) := by decide +kernel
theorem dX12_nameOf_112 : decode cX12_nameOf 112 = .ok (.iconst 1, 1) := by decide +kernel
theorem dX12_nameOf_113 : decode cX12_nameOf 113 = .ok (.goto 24, 3) := by decide +kernel
theorem dX12_nameOf_116 : decode cX12_nameOf 116 = .ok (.iload_n 1, 1) := by decide +kernel
theorem dX12_nameOf_117 : decode cX12_nameOf 117 = .ok (.bipush 119, 2) := by decide +kernel
theorem dX12_nameOf_119 : decode cX12_nameOf 119 = .ok (.if_icmp .ne 7, 3) := by decide +kernel
theorem dX12_nameOf_122 : decode cX12_nameOf 122 = .ok (.iconst 2, 1) := by decide +kernel
theorem dX12_nameOf_123 : decode cX12_nameOf 123 = .ok (.goto 14, 3) := by decide +kernel
theorem dX12_nameOf_126 : decode cX12_nameOf 126 = .ok (.iload_n 1, 1) := by decide +kernel
theorem dX12_nameOf_127 : decode cX12_nameOf 127 = .ok (.bipush 104, 2) := by decide +kernel
theorem dX12_nameOf_129 : decode cX12_nameOf 129 = .ok (.if_icmp .ne 7, 3) := by decide +kernel
theorem dX12_nameOf_132 : decode cX12_nameOf 132 = .ok (.iconst 3, 1) := by decide +kernel
theorem dX12_nameOf_133 : decode cX12_nameOf 133 = .ok (.goto 4, 3) := by decide +kernel
theorem dX12_nameOf_136 : decode cX12_nameOf 136 = .ok (.iconst (-1), 1) := by decide +kernel
theorem dX12_nameOf_137 : decode cX12_nameOf 137 = .ok (.ireturn, 1) := by decide +kernel
theorem dX12_rank_0 : decode cX12_rank 0 = .ok (.iload_n 0, 1) := by decide +kernel
theorem dX12_rank_1 : decode cX12_rank 1 = .ok (.iconst (-1), 1) := by decide +kernel
theorem dX12_rank_2 : decode cX12_rank 2 = .ok (.if_icmp .ne 7, 3) := by decide +kernel
theorem dX12_rank_5 : decode cX12_rank 5 = .ok (.iconst 1, 1) := by decide +kernel
theorem dX12_rank_6 : decode cX12_rank 6 = .ok (.goto 45, 3) := by decide +kernel
theorem dX12_rank_9 : decode cX12_rank 9 = .ok (.iload_n 0, 1) := by decide +kernel
theorem dX12_rank_10 : decode cX12_rank 10 = .ok (.bipush (-2), 2) := by decide +kernel
theorem dX12_rank_12 : decode cX12_rank 12 = .ok (.if_icmp .ne 7, 3) := by decide +kernel
theorem dX12_rank_15 : decode cX12_rank 15 = .ok (.iconst 2, 1) := by decide +kernel
theorem dX12_rank_16 : decode cX12_rank 16 = .ok (.goto 35, 3) := by decide +kernel
theorem dX12_rank_19 : decode cX12_rank 19 = .ok (.iload_n 0, 1) := by decide +kernel
theorem dX12_rank_20 : decode cX12_rank 20 = .ok (.bipush (-5), 2) := by decide +kernel
theorem dX12_rank_22 : decode cX12_rank 22 = .ok (.if_icmp .lt 7, 3) := by decide +kernel
theorem dX12_rank_25 : decode cX12_rank 25 = .ok (.iconst 3, 1) := by decide +kernel
theorem dX12_rank_26 : decode cX12_rank 26 = .ok (.goto 25, 3) := by decide +kernel
theorem dX12_rank_29 : decode cX12_rank 29 = .ok (.iload_n 0, 1) := by decide +kernel
theorem dX12_rank_30 : decode cX12_rank 30 = .ok (.bipush (-7), 2) := by decide +kernel
theorem dX12_rank_32 : decode cX12_rank 32 = .ok (.if_icmp .lt 7, 3) := by decide +kernel
theorem dX12_rank_35 : decode cX12_rank 35 = .ok (.iconst 4, 1) := by decide +kernel
theorem dX12_rank_36 : decode cX12_rank 36 = .ok (.goto 15, 3) := by decide +kernel
theorem dX12_rank_39 : decode cX12_rank 39 = .ok (.iload_n 0, 1) := by decide +kernel
theorem dX12_rank_40 : decode cX12_rank 40 = .ok (.bipush (-9), 2) := by decide +kernel
theorem dX12_rank_42 : decode cX12_rank 42 = .ok (.if_icmp .lt 7, 3) := by decide +kernel
theorem dX12_rank_45 : decode cX12_rank 45 = .ok (.iconst 5, 1) := by decide +kernel
theorem dX12_rank_46 : decode cX12_rank 46 = .ok (.goto 5, 3) := by decide +kernel
theorem dX12_rank_49 : decode cX12_rank 49 = .ok (.bipush 6, 2) := by decide +kernel
theorem dX12_rank_51 : decode cX12_rank 51 = .ok (.ireturn, 1) := by decide +kernel
theorem dX12_settle_0 : decode cX12_settle 0 = .ok (.aload_n 0, 1) := by decide +kernel
theorem dX12_settle_1 : decode cX12_settle 1 = .ok (.getfield 213, 3) := by decide +kernel
theorem dX12_settle_4 : decode cX12_settle 4 = .ok (.ifCond .le 78, 3) := by decide +kernel
theorem dX12_settle_7 : decode cX12_settle 7 = .ok (.aload_n 0, 1) := by decide +kernel
theorem dX12_settle_8 : decode cX12_settle 8 = .ok (.getfield 35, 3) := by decide +kernel
theorem dX12_settle_11 : decode cX12_settle 11 = .ok (.aload_n 0, 1) := by decide +kernel
theorem dX12_settle_12 : decode cX12_settle 12 = .ok (.getfield 213, 3) := by decide +kernel
theorem dX12_settle_15 : decode cX12_settle 15 = .ok (.iconst 1, 1) := by decide +kernel
theorem dX12_settle_16 : decode cX12_settle 16 = .ok (.isub, 1) := by decide +kernel
theorem dX12_settle_17 : decode cX12_settle 17 = .ok (.iaload, 1) := by decide +kernel
theorem dX12_settle_18 : decode cX12_settle 18 = .ok (.bipush (-11), 2) := by decide +kernel
theorem dX12_settle_20 : decode cX12_settle 20 = .ok (.if_icmp .eq 62, 3) := by decide +kernel
theorem dX12_settle_23 : decode cX12_settle 23 = .ok (.aload_n 0, 1) := by decide +kernel
theorem dX12_settle_24 : decode cX12_settle 24 = .ok (.getfield 35, 3) := by decide +kernel
theorem dX12_settle_27 : decode cX12_settle 27 = .ok (.aload_n 0, 1) := by decide +kernel
theorem dX12_settle_28 : decode cX12_settle 28 = .ok (.getfield 213, 3) := by decide +kernel
theorem dX12_settle_31 : decode cX12_settle 31 = .ok (.iconst 1, 1) := by decide +kernel
theorem dX12_settle_32 : decode cX12_settle 32 = .ok (.isub, 1) := by decide +kernel
theorem dX12_settle_33 : decode cX12_settle 33 = .ok (.iaload, 1) := by decide +kernel
theorem dX12_settle_34 : decode cX12_settle 34 = .ok (.invokestatic 216, 3) := by decide +kernel
theorem dX12_settle_37 : decode cX12_settle 37 = .ok (.iload_n 1, 1) := by decide +kernel
theorem dX12_settle_38 : decode cX12_settle 38 = .ok (.if_icmp .lt 44, 3) := by decide +kernel
theorem dX12_settle_41 : decode cX12_settle 41 = .ok (.aload_n 0, 1) := by decide +kernel
theorem dX12_settle_42 : decode cX12_settle 42 = .ok (.dup, 1) := by decide +kernel
theorem dX12_settle_43 : decode cX12_settle 43 = .ok (.getfield 213, 3) := by decide +kernel
theorem dX12_settle_46 : decode cX12_settle 46 = .ok (.iconst 1, 1) := by decide +kernel
theorem dX12_settle_47 : decode cX12_settle 47 = .ok (.isub, 1) := by decide +kernel
theorem dX12_settle_48 : decode cX12_settle 48 = .ok (.putfield 213, 3) := by decide +kernel
theorem dX12_settle_51 : decode cX12_settle 51 = .ok (.aload_n 0, 1) := by decide +kernel
theorem dX12_settle_52 : decode cX12_settle 52 = .ok (.getfield 32, 3) := by decide +kernel
theorem dX12_settle_55 : decode cX12_settle 55 = .ok (.aload_n 0, 1) := by decide +kernel
theorem dX12_settle_56 : decode cX12_settle 56 = .ok (.getfield 219, 3) := by decide +kernel
theorem dX12_settle_59 : decode cX12_settle 59 = .ok (.aload_n 0, 1) := by decide +kernel
theorem dX12_settle_60 : decode cX12_settle 60 = .ok (.getfield 35, 3) := by decide +kernel
theorem dX12_settle_63 : decode cX12_settle 63 = .ok (.aload_n 0, 1) := by decide +kernel
theorem dX12_settle_64 : decode cX12_settle 64 = .ok (.getfield 213, 3) := by decide +kernel
theorem dX12_settle_67 : decode cX12_settle 67 = .ok (.iaload, 1) := by decide +kernel
theorem dX12_settle_68 : decode cX12_settle 68 = .ok (.iastore, 1) := by decide +kernel
theorem dX12_settle_69 : decode cX12_settle 69 = .ok (.aload_n 0, 1) := by decide +kernel
theorem dX12_settle_70 : decode cX12_settle 70 = .ok (.dup, 1) := by decide +kernel
theorem dX12_settle_71 : decode cX12_settle 71 = .ok (.getfield 219, 3) := by decide +kernel
theorem dX12_settle_74 : decode cX12_settle 74 = .ok (.iconst 1, 1) := by decide +kernel
theorem dX12_settle_75 : decode cX12_settle 75 = .ok (.iadd, 1) := by decide +kernel
theorem dX12_settle_76 : decode cX12_settle 76 = .ok (.putfield 219, 3) := by decide +kernel
theorem dX12_settle_79 : decode cX12_settle 79 = .ok (.goto (-79), 3) := by decide +kernel
theorem dX12_settle_82 : decode cX12_settle 82 = .ok (.return_, 1) := by decide +kernel
theorem dX12_signHere_0 : decode cX12_signHere 0 = .ok (.aload_n 0, 1) := by decide +kernel
theorem dX12_signHere_1 : decode cX12_signHere 1 = .ok (.getfield 195, 3) := by decide +kernel
theorem dX12_signHere_4 : decode cX12_signHere 4 = .ok (.iconst 3, 1) := by decide +kernel
theorem dX12_signHere_5 : decode cX12_signHere 5 = .ok (.if_icmp .eq 5, 3) := by decide +kernel
theorem dX12_signHere_8 : decode cX12_signHere 8 = .ok (.iconst 0, 1) := by decide +kernel
theorem dX12_signHere_9 : decode cX12_signHere 9 = .ok (.ireturn, 1) := by decide +kernel
theorem dX12_signHere_10 : decode cX12_signHere 10 = .ok (.aload_n 0, 1) := by decide +kernel
theorem dX12_signHere_11 : decode cX12_signHere 11 = .ok (.getfield 201, 3) := by decide +kernel
theorem dX12_signHere_14 : decode cX12_signHere 14 = .ok (.lookupswitch 108 #[(38, 84), (42, 102), (43, 96), (45, 99), (47, 105), (60, 87), (61, 90), (62, 93), (124, 82)], 82) := by decide +kernel
theorem dX12_signHere_96 : decode cX12_signHere 96 = .ok (.iconst (-1), 1) := by decide +kernel
theorem dX12_signHere_97 : decode cX12_signHere 97 = .ok (.ireturn, 1) := by decide +kernel
theorem dX12_signHere_98 : decode cX12_signHere 98 = .ok (.bipush (-2), 2) := by decide +kernel
theorem dX12_signHere_100 : decode cX12_signHere 100 = .ok (.ireturn, 1) := by decide +kernel
theorem dX12_signHere_101 : decode cX12_signHere 101 = .ok (.bipush (-3), 2) := by decide +kernel
theorem dX12_signHere_103 : decode cX12_signHere 103 = .ok (.ireturn, 1) := by decide +kernel
theorem dX12_signHere_104 : decode cX12_signHere 104 = .ok (.bipush (-4), 2) := by decide +kernel
theorem dX12_signHere_106 : decode cX12_signHere 106 = .ok (.ireturn, 1) := by decide +kernel
theorem dX12_signHere_107 : decode cX12_signHere 107 = .ok (.bipush (-5), 2) := by decide +kernel
theorem dX12_signHere_109 : decode cX12_signHere 109 = .ok (.ireturn, 1) := by decide +kernel
theorem dX12_signHere_110 : decode cX12_signHere 110 = .ok (.bipush (-6), 2) := by decide +kernel
theorem dX12_signHere_112 : decode cX12_signHere 112 = .ok (.ireturn, 1) := by decide +kernel
theorem dX12_signHere_113 : decode cX12_signHere 113 = .ok (.bipush (-7), 2) := by decide +kernel
theorem dX12_signHere_115 : decode cX12_signHere 115 = .ok (.ireturn, 1) := by decide +kernel
theorem dX12_signHere_116 : decode cX12_signHere 116 = .ok (.bipush (-8), 2) := by decide +kernel
theorem dX12_signHere_118 : decode cX12_signHere 118 = .ok (.ireturn, 1) := by decide +kernel
theorem dX12_signHere_119 : decode cX12_signHere 119 = .ok (.bipush (-9), 2) := by decide +kernel
theorem dX12_signHere_121 : decode cX12_signHere 121 = .ok (.ireturn, 1) := by decide +kernel
theorem dX12_signHere_122 : decode cX12_signHere 122 = .ok (.iconst 0, 1) := by decide +kernel
theorem dX12_signHere_123 : decode cX12_signHere 123 = .ok (.ireturn, 1) := by decide +kernel
theorem dX12_takesPart_0 : decode cX12_takesPart 0 = .ok (.aload_n 0, 1) := by decide +kernel
theorem dX12_takesPart_1 : decode cX12_takesPart 1 = .ok (.getfield 195, 3) := by decide +kernel
theorem dX12_takesPart_4 : decode cX12_takesPart 4 = .ok (.iconst 1, 1) := by decide +kernel
theorem dX12_takesPart_5 : decode cX12_takesPart 5 = .ok (.if_icmp .ne 31, 3) := by decide +kernel
theorem dX12_takesPart_8 : decode cX12_takesPart 8 = .ok (.aload_n 0, 1) := by decide +kernel
theorem dX12_takesPart_9 : decode cX12_takesPart 9 = .ok (.getfield 186, 3) := by decide +kernel
theorem dX12_takesPart_12 : decode cX12_takesPart 12 = .ok (.aload_n 0, 1) := by decide +kernel
theorem dX12_takesPart_13 : decode cX12_takesPart 13 = .ok (.getfield 189, 3) := by decide +kernel
theorem dX12_takesPart_16 : decode cX12_takesPart 16 = .ok (.isub, 1) := by decide +kernel
theorem dX12_takesPart_17 : decode cX12_takesPart 17 = .ok (.iconst 1, 1) := by decide +kernel
theorem dX12_takesPart_18 : decode cX12_takesPart 18 = .ok (.if_icmp .ne 18, 3) := by decide +kernel
theorem dX12_takesPart_21 : decode cX12_takesPart 21 = .ok (.aload_n 0, 1) := by decide +kernel
theorem dX12_takesPart_22 : decode cX12_takesPart 22 = .ok (.aload_n 0, 1) := by decide +kernel
theorem dX12_takesPart_23 : decode cX12_takesPart 23 = .ok (.getfield 201, 3) := by decide +kernel
theorem dX12_takesPart_26 : decode cX12_takesPart 26 = .ok (.invokevirtual 222, 3) := by decide +kernel
theorem dX12_takesPart_29 : decode cX12_takesPart 29 = .ok (.ifCond .lt 7, 3) := by decide +kernel
theorem dX12_takesPart_32 : decode cX12_takesPart 32 = .ok (.iconst 1, 1) := by decide +kernel
theorem dX12_takesPart_33 : decode cX12_takesPart 33 = .ok (.goto 4, 3) := by decide +kernel
theorem dX12_takesPart_36 : decode cX12_takesPart 36 = .ok (.iconst 0, 1) := by decide +kernel
theorem dX12_takesPart_37 : decode cX12_takesPart 37 = .ok (.istore_n 1, 1) := by decide +kernel
theorem dX12_takesPart_38 : decode cX12_takesPart 38 = .ok (.aload_n 0, 1) := by decide +kernel
theorem dX12_takesPart_39 : decode cX12_takesPart 39 = .ok (.getfield 195, 3) := by decide +kernel
theorem dX12_takesPart_42 : decode cX12_takesPart 42 = .ok (.iconst 2, 1) := by decide +kernel
theorem dX12_takesPart_43 : decode cX12_takesPart 43 = .ok (.if_icmp .eq 9, 3) := by decide +kernel
theorem dX12_takesPart_46 : decode cX12_takesPart 46 = .ok (.iload_n 1, 1) := by decide +kernel
theorem dX12_takesPart_47 : decode cX12_takesPart 47 = .ok (.ifCond .ne 5, 3) := by decide +kernel
theorem dX12_takesPart_50 : decode cX12_takesPart 50 = .ok (.iconst 0, 1) := by decide +kernel
theorem dX12_takesPart_51 : decode cX12_takesPart 51 = .ok (.ireturn, 1) := by decide +kernel
theorem dX12_takesPart_52 : decode cX12_takesPart 52 = .ok (.aload_n 0, 1) := by decide +kernel
theorem dX12_takesPart_53 : decode cX12_takesPart 53 = .ok (.getfield 32, 3) := by decide +kernel
theorem dX12_takesPart_56 : decode cX12_takesPart 56 = .ok (.aload_n 0, 1) := by decide +kernel
theorem dX12_takesPart_57 : decode cX12_takesPart 57 = .ok (.getfield 219, 3) := by decide +kernel
theorem dX12_takesPart_60 : decode cX12_takesPart 60 = .ok (.aload_n 0, 1) := by decide +kernel
theorem dX12_takesPart_61 : decode cX12_takesPart 61 = .ok (.getfield 195, 3) := by decide +kernel
theorem dX12_takesPart_64 : decode cX12_takesPart 64 = .ok (.iconst 2, 1) := by decide +kernel
theorem dX12_takesPart_65 : decode cX12_takesPart 65 = .ok (.if_icmp .ne 10, 3) := by decide +kernel
theorem dX12_takesPart_68 : decode cX12_takesPart 68 = .ok (.aload_n 0, 1) := by decide +kernel
theorem dX12_takesPart_69 : decode cX12_takesPart 69 = .ok (.getfield 201, 3) := by decide +kernel
theorem dX12_takesPart_72 : decode cX12_takesPart 72 = .ok (.goto 15, 3) := by decide +kernel
theorem dX12_takesPart_75 : decode cX12_takesPart 75 = .ok (.sipush 10000, 3) := by decide +kernel
theorem dX12_takesPart_78 : decode cX12_takesPart 78 = .ok (.aload_n 0, 1) := by decide +kernel
theorem dX12_takesPart_79 : decode cX12_takesPart 79 = .ok (.aload_n 0, 1) := by decide +kernel
theorem dX12_takesPart_80 : decode cX12_takesPart 80 = .ok (.getfield 201, 3) := by decide +kernel
theorem dX12_takesPart_83 : decode cX12_takesPart 83 = .ok (.invokevirtual 222, 3) := by decide +kernel
theorem dX12_takesPart_86 : decode cX12_takesPart 86 = .ok (.iadd, 1) := by decide +kernel
theorem dX12_takesPart_87 : decode cX12_takesPart 87 = .ok (.iastore, 1) := by decide +kernel
theorem dX12_takesPart_88 : decode cX12_takesPart 88 = .ok (.aload_n 0, 1) := by decide +kernel
theorem dX12_takesPart_89 : decode cX12_takesPart 89 = .ok (.dup, 1) := by decide +kernel
theorem dX12_takesPart_90 : decode cX12_takesPart 90 = .ok (.getfield 219, 3) := by decide +kernel
theorem dX12_takesPart_93 : decode cX12_takesPart 93 = .ok (.iconst 1, 1) := by decide +kernel
theorem dX12_takesPart_94 : decode cX12_takesPart 94 = .ok (.iadd, 1) := by decide +kernel
theorem dX12_takesPart_95 : decode cX12_takesPart 95 = .ok (.putfield 219, 3) := by decide +kernel
theorem dX12_takesPart_98 : decode cX12_takesPart 98 = .ok (.aload_n 0, 1) := by decide +kernel
theorem dX12_takesPart_99 : decode cX12_takesPart 99 = .ok (.dup, 1) := by decide +kernel
theorem dX12_takesPart_100 : decode cX12_takesPart 100 = .ok (.getfield 225, 3) := by decide +kernel
theorem dX12_takesPart_103 : decode cX12_takesPart 103 = .ok (.iconst 1, 1) := by decide +kernel
theorem dX12_takesPart_104 : decode cX12_takesPart 104 = .ok (.iadd, 1) := by decide +kernel
theorem dX12_takesPart_105 : decode cX12_takesPart 105 = .ok (.putfield 225, 3) := by decide +kernel
theorem dX12_takesPart_108 : decode cX12_takesPart 108 = .ok (.aload_n 0, 1) := by decide +kernel
theorem dX12_takesPart_109 : decode cX12_takesPart 109 = .ok (.bipush 6, 2) := by decide +kernel
theorem dX12_takesPart_111 : decode cX12_takesPart 111 = .ok (.invokevirtual 228, 3) := by decide +kernel
theorem dX12_takesPart_114 : decode cX12_takesPart 114 = .ok (.aload_n 0, 1) := by decide +kernel
theorem dX12_takesPart_115 : decode cX12_takesPart 115 = .ok (.invokevirtual 210, 3) := by decide +kernel
theorem dX12_takesPart_118 : decode cX12_takesPart 118 = .ok (.iconst 1, 1) := by decide +kernel
theorem dX12_takesPart_119 : decode cX12_takesPart 119 = .ok (.ireturn, 1) := by decide +kernel
theorem dX12_takesE_0 : decode cX12_takesE 0 = .ok (.iconst 0, 1) := by decide +kernel
theorem dX12_takesE_1 : decode cX12_takesE 1 = .ok (.istore_n 1, 1) := by decide +kernel
theorem dX12_takesE_2 : decode cX12_takesE 2 = .ok (.iconst 0, 1) := by decide +kernel
theorem dX12_takesE_3 : decode cX12_takesE 3 = .ok (.istore_n 2, 1) := by decide +kernel
theorem dX12_takesE_4 : decode cX12_takesE 4 = .ok (.iconst 1, 1) := by decide +kernel
theorem dX12_takesE_5 : decode cX12_takesE 5 = .ok (.istore_n 3, 1) := by decide +kernel
theorem dX12_takesE_6 : decode cX12_takesE 6 = .ok (.aload_n 0, 1) := by decide +kernel
theorem dX12_takesE_7 : decode cX12_takesE 7 = .ok (.iconst 0, 1) := by decide +kernel
theorem dX12_takesE_8 : decode cX12_takesE 8 = .ok (.putfield 219, 3) := by decide +kernel
theorem dX12_takesE_11 : decode cX12_takesE 11 = .ok (.aload_n 0, 1) := by decide +kernel
theorem dX12_takesE_12 : decode cX12_takesE 12 = .ok (.iconst 0, 1) := by decide +kernel
theorem dX12_takesE_13 : decode cX12_takesE 13 = .ok (.putfield 225, 3) := by decide +kernel
theorem dX12_takesE_16 : decode cX12_takesE 16 = .ok (.aload_n 0, 1) := by decide +kernel
theorem dX12_takesE_17 : decode cX12_takesE 17 = .ok (.iconst 0, 1) := by decide +kernel
theorem dX12_takesE_18 : decode cX12_takesE 18 = .ok (.putfield 213, 3) := by decide +kernel
theorem dX12_takesE_21 : decode cX12_takesE 21 = .ok (.aload_n 0, 1) := by decide +kernel
theorem dX12_takesE_22 : decode cX12_takesE 22 = .ok (.getfield 38, 3) := by decide +kernel
theorem dX12_takesE_25 : decode cX12_takesE 25 = .ok (.iconst 0, 1) := by decide +kernel
theorem dX12_takesE_26 : decode cX12_takesE 26 = .ok (.iconst 0, 1) := by decide +kernel
theorem dX12_takesE_27 : decode cX12_takesE 27 = .ok (.bastore, 1) := by decide +kernel
theorem dX12_takesE_28 : decode cX12_takesE 28 = .ok (.iload_n 3, 1) := by decide +kernel
theorem dX12_takesE_29 : decode cX12_takesE 29 = .ok (.ifCond .ne 10, 3) := by decide +kernel
theorem dX12_takesE_32 : decode cX12_takesE 32 = .ok (.aload_n 0, 1) := by decide +kernel
theorem dX12_takesE_33 : decode cX12_takesE 33 = .ok (.getfield 195, 3) := by decide +kernel
theorem dX12_takesE_36 : decode cX12_takesE 36 = .ok (.ifCond .eq 309, 3) := by decide +kernel
theorem dX12_takesE_39 : decode cX12_takesE 39 = .ok (.iload_n 3, 1) := by decide +kernel
theorem dX12_takesE_40 : decode cX12_takesE 40 = .ok (.ifCond .eq 140, 3) := by decide +kernel
theorem dX12_takesE_43 : decode cX12_takesE 43 = .ok (.aload_n 0, 1) := by decide +kernel
theorem dX12_takesE_44 : decode cX12_takesE 44 = .ok (.getfield 195, 3) := by decide +kernel
theorem dX12_takesE_47 : decode cX12_takesE 47 = .ok (.iconst 3, 1) := by decide +kernel
theorem dX12_takesE_48 : decode cX12_takesE 48 = .ok (.if_icmp .ne 49, 3) := by decide +kernel
theorem dX12_takesE_51 : decode cX12_takesE 51 = .ok (.aload_n 0, 1) := by decide +kernel
theorem dX12_takesE_52 : decode cX12_takesE 52 = .ok (.getfield 201, 3) := by decide +kernel
theorem dX12_takesE_55 : decode cX12_takesE 55 = .ok (.bipush 33, 2) := by decide +kernel
theorem dX12_takesE_57 : decode cX12_takesE 57 = .ok (.if_icmp .ne 40, 3) := by decide +kernel
theorem dX12_takesE_60 : decode cX12_takesE 60 = .ok (.iload_n 2, 1) := by decide +kernel
theorem dX12_takesE_61 : decode cX12_takesE 61 = .ok (.bipush 8, 2) := by decide +kernel
theorem dX12_takesE_63 : decode cX12_takesE 63 = .ok (.if_icmp .ge 34, 3) := by decide +kernel
theorem dX12_takesE_66 : decode cX12_takesE 66 = .ok (.aload_n 0, 1) := by decide +kernel
theorem dX12_takesE_67 : decode cX12_takesE 67 = .ok (.getfield 35, 3) := by decide +kernel
theorem dX12_takesE_70 : decode cX12_takesE 70 = .ok (.aload_n 0, 1) := by decide +kernel
theorem dX12_takesE_71 : decode cX12_takesE 71 = .ok (.getfield 213, 3) := by decide +kernel
theorem dX12_takesE_74 : decode cX12_takesE 74 = .ok (.bipush (-10), 2) := by decide +kernel
theorem dX12_takesE_76 : decode cX12_takesE 76 = .ok (.iastore, 1) := by decide +kernel
theorem dX12_takesE_77 : decode cX12_takesE 77 = .ok (.aload_n 0, 1) := by decide +kernel
theorem dX12_takesE_78 : decode cX12_takesE 78 = .ok (.dup, 1) := by decide +kernel
theorem dX12_takesE_79 : decode cX12_takesE 79 = .ok (.getfield 213, 3) := by decide +kernel
theorem dX12_takesE_82 : decode cX12_takesE 82 = .ok (.iconst 1, 1) := by decide +kernel
theorem dX12_takesE_83 : decode cX12_takesE 83 = .ok (.iadd, 1) := by decide +kernel
theorem dX12_takesE_84 : decode cX12_takesE 84 = .ok (.putfield 213, 3) := by decide +kernel
theorem dX12_takesE_87 : decode cX12_takesE 87 = .ok (.iinc 2 1, 3) := by decide +kernel
theorem dX12_takesE_90 : decode cX12_takesE 90 = .ok (.aload_n 0, 1) := by decide +kernel
theorem dX12_takesE_91 : decode cX12_takesE 91 = .ok (.invokevirtual 210, 3) := by decide +kernel
theorem dX12_takesE_94 : decode cX12_takesE 94 = .ok (.goto 78, 3) := by decide +kernel
