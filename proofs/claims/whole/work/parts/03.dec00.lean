theorem dX0_init_0 : decode cX0_init 0 = .ok (.aload_n 0, 1) := by decide +kernel
theorem dX0_init_1 : decode cX0_init 1 = .ok (.invokespecial 3, 3) := by decide +kernel
theorem dX0_init_4 : decode cX0_init 4 = .ok (.aload_n 0, 1) := by decide +kernel
theorem dX0_init_5 : decode cX0_init 5 = .ok (.bipush 16, 2) := by decide +kernel
theorem dX0_init_7 : decode cX0_init 7 = .ok (.bipush 98, 2) := by decide +kernel
theorem dX0_init_9 : decode cX0_init 9 = .ok (.multianewarray 11 2, 4) := by decide +kernel
theorem dX0_init_13 : decode cX0_init 13 = .ok (.putfield 13, 3) := by decide +kernel
theorem dX0_init_16 : decode cX0_init 16 = .ok (.aload_n 0, 1) := by decide +kernel
theorem dX0_init_17 : decode cX0_init 17 = .ok (.iconst 0, 1) := by decide +kernel
theorem dX0_init_18 : decode cX0_init 18 = .ok (.putfield 16, 3) := by decide +kernel
theorem dX0_init_21 : decode cX0_init 21 = .ok (.aload_n 0, 1) := by decide +kernel
theorem dX0_init_22 : decode cX0_init 22 = .ok (.iconst 0, 1) := by decide +kernel
theorem dX0_init_23 : decode cX0_init 23 = .ok (.putfield 20, 3) := by decide +kernel
theorem dX0_init_26 : decode cX0_init 26 = .ok (.return_, 1) := by decide +kernel
theorem dX0_forget_0 : decode cX0_forget 0 = .ok (.aload_n 0, 1) := by decide +kernel
theorem dX0_forget_1 : decode cX0_forget 1 = .ok (.iconst 0, 1) := by decide +kernel
theorem dX0_forget_2 : decode cX0_forget 2 = .ok (.putfield 20, 3) := by decide +kernel
theorem dX0_forget_5 : decode cX0_forget 5 = .ok (.return_, 1) := by decide +kernel
theorem dX0_note_0 : decode cX0_note 0 = .ok (.aload_n 0, 1) := by decide +kernel
theorem dX0_note_1 : decode cX0_note 1 = .ok (.aload_n 0, 1) := by decide +kernel
theorem dX0_note_2 : decode cX0_note 2 = .ok (.getfield 16, 3) := by decide +kernel
theorem dX0_note_5 : decode cX0_note 5 = .ok (.iconst 1, 1) := by decide +kernel
theorem dX0_note_6 : decode cX0_note 6 = .ok (.iadd, 1) := by decide +kernel
theorem dX0_note_7 : decode cX0_note 7 = .ok (.bipush 16, 2) := by decide +kernel
theorem dX0_note_9 : decode cX0_note 9 = .ok (.irem, 1) := by decide +kernel
theorem dX0_note_10 : decode cX0_note 10 = .ok (.putfield 16, 3) := by decide +kernel
theorem dX0_note_13 : decode cX0_note 13 = .ok (.aload_n 0, 1) := by decide +kernel
theorem dX0_note_14 : decode cX0_note 14 = .ok (.aload_n 0, 1) := by decide +kernel
theorem dX0_note_15 : decode cX0_note 15 = .ok (.getfield 20, 3) := by decide +kernel
theorem dX0_note_18 : decode cX0_note 18 = .ok (.iconst 1, 1) := by decide +kernel
theorem dX0_note_19 : decode cX0_note 19 = .ok (.iadd, 1) := by decide +kernel
theorem dX0_note_20 : decode cX0_note 20 = .ok (.bipush 16, 2) := by decide +kernel
theorem dX0_note_22 : decode cX0_note 22 = .ok (.invokestatic 23, 3) := by decide +kernel
theorem dX0_note_25 : decode cX0_note 25 = .ok (.putfield 20, 3) := by decide +kernel
theorem dX0_note_28 : decode cX0_note 28 = .ok (.aload_n 0, 1) := by decide +kernel
theorem dX0_note_29 : decode cX0_note 29 = .ok (.getfield 13, 3) := by decide +kernel
theorem dX0_note_32 : decode cX0_note 32 = .ok (.aload_n 0, 1) := by decide +kernel
theorem dX0_note_33 : decode cX0_note 33 = .ok (.getfield 16, 3) := by decide +kernel
theorem dX0_note_36 : decode cX0_note 36 = .ok (.aaload, 1) := by decide +kernel
theorem dX0_note_37 : decode cX0_note 37 = .ok (.astore_n 2, 1) := by decide +kernel
theorem dX0_note_38 : decode cX0_note 38 = .ok (.iconst 0, 1) := by decide +kernel
theorem dX0_note_39 : decode cX0_note 39 = .ok (.istore_n 3, 1) := by decide +kernel
theorem dX0_note_40 : decode cX0_note 40 = .ok (.iload_n 3, 1) := by decide +kernel
theorem dX0_note_41 : decode cX0_note 41 = .ok (.aload_n 1, 1) := by decide +kernel
theorem dX0_note_42 : decode cX0_note 42 = .ok (.getfield 29, 3) := by decide +kernel
theorem dX0_note_45 : decode cX0_note 45 = .ok (.if_icmp .ge 78, 3) := by decide +kernel
theorem dX0_note_48 : decode cX0_note 48 = .ok (.aload_n 1, 1) := by decide +kernel
theorem dX0_note_49 : decode cX0_note 49 = .ok (.getfield 34, 3) := by decide +kernel
theorem dX0_note_52 : decode cX0_note 52 = .ok (.iload_n 3, 1) := by decide +kernel
theorem dX0_note_53 : decode cX0_note 53 = .ok (.aaload, 1) := by decide +kernel
theorem dX0_note_54 : decode cX0_note 54 = .ok (.astore 4, 2) := by decide +kernel
theorem dX0_note_56 : decode cX0_note 56 = .ok (.aload_n 2, 1) := by decide +kernel
theorem dX0_note_57 : decode cX0_note 57 = .ok (.iload_n 3, 1) := by decide +kernel
theorem dX0_note_58 : decode cX0_note 58 = .ok (.bipush 7, 2) := by decide +kernel
theorem dX0_note_60 : decode cX0_note 60 = .ok (.imul, 1) := by decide +kernel
theorem dX0_note_61 : decode cX0_note 61 = .ok (.aload 4, 2) := by decide +kernel
theorem dX0_note_63 : decode cX0_note 63 = .ok (.getfield 38, 3) := by decide +kernel
theorem dX0_note_66 : decode cX0_note 66 = .ok (.iastore, 1) := by decide +kernel
theorem dX0_note_67 : decode cX0_note 67 = .ok (.iconst 0, 1) := by decide +kernel
theorem dX0_note_68 : decode cX0_note 68 = .ok (.istore 5, 2) := by decide +kernel
theorem dX0_note_70 : decode cX0_note 70 = .ok (.iload 5, 2) := by decide +kernel
theorem dX0_note_72 : decode cX0_note 72 = .ok (.aload 4, 2) := by decide +kernel
theorem dX0_note_74 : decode cX0_note 74 = .ok (.getfield 38, 3) := by decide +kernel
theorem dX0_note_77 : decode cX0_note 77 = .ok (.if_icmp .ge 40, 3) := by decide +kernel
theorem dX0_note_80 : decode cX0_note 80 = .ok (.aload_n 2, 1) := by decide +kernel
theorem dX0_note_81 : decode cX0_note 81 = .ok (.iload_n 3, 1) := by decide +kernel
theorem dX0_note_82 : decode cX0_note 82 = .ok (.bipush 7, 2) := by decide +kernel
theorem dX0_note_84 : decode cX0_note 84 = .ok (.imul, 1) := by decide +kernel
theorem dX0_note_85 : decode cX0_note 85 = .ok (.iconst 1, 1) := by decide +kernel
theorem dX0_note_86 : decode cX0_note 86 = .ok (.iadd, 1) := by decide +kernel
theorem dX0_note_87 : decode cX0_note 87 = .ok (.iload 5, 2) := by decide +kernel
theorem dX0_note_89 : decode cX0_note 89 = .ok (.iadd, 1) := by decide +kernel
theorem dX0_note_90 : decode cX0_note 90 = .ok (.aload 4, 2) := by decide +kernel
theorem dX0_note_92 : decode cX0_note 92 = .ok (.getfield 43, 3) := by decide +kernel
theorem dX0_note_95 : decode cX0_note 95 = .ok (.iload 5, 2) := by decide +kernel
theorem dX0_note_97 : decode cX0_note 97 = .ok (.iaload, 1) := by decide +kernel
theorem dX0_note_98 : decode cX0_note 98 = .ok (.bipush 8, 2) := by decide +kernel
theorem dX0_note_100 : decode cX0_note 100 = .ok (.imul, 1) := by decide +kernel
theorem dX0_note_101 : decode cX0_note 101 = .ok (.aload 4, 2) := by decide +kernel
theorem dX0_note_103 : decode cX0_note 103 = .ok (.getfield 47, 3) := by decide +kernel
theorem dX0_note_106 : decode cX0_note 106 = .ok (.iload 5, 2) := by decide +kernel
theorem dX0_note_108 : decode cX0_note 108 = .ok (.iaload, 1) := by decide +kernel
theorem dX0_note_109 : decode cX0_note 109 = .ok (.iadd, 1) := by decide +kernel
theorem dX0_note_110 : decode cX0_note 110 = .ok (.iastore, 1) := by decide +kernel
theorem dX0_note_111 : decode cX0_note 111 = .ok (.iinc 5 1, 3) := by decide +kernel
theorem dX0_note_114 : decode cX0_note 114 = .ok (.goto (-44), 3) := by decide +kernel
theorem dX0_note_117 : decode cX0_note 117 = .ok (.iinc 3 1, 3) := by decide +kernel
theorem dX0_note_120 : decode cX0_note 120 = .ok (.goto (-80), 3) := by decide +kernel
theorem dX0_note_123 : decode cX0_note 123 = .ok (.return_, 1) := by decide +kernel
theorem dX0_takeBack_0 : decode cX0_takeBack 0 = .ok (.aload_n 0, 1) := by decide +kernel
theorem dX0_takeBack_1 : decode cX0_takeBack 1 = .ok (.getfield 13, 3) := by decide +kernel
theorem dX0_takeBack_4 : decode cX0_takeBack 4 = .ok (.aload_n 0, 1) := by decide +kernel
theorem dX0_takeBack_5 : decode cX0_takeBack 5 = .ok (.getfield 16, 3) := by decide +kernel
theorem dX0_takeBack_8 : decode cX0_takeBack 8 = .ok (.aaload, 1) := by decide +kernel
theorem dX0_takeBack_9 : decode cX0_takeBack 9 = .ok (.astore_n 2, 1) := by decide +kernel
theorem dX0_takeBack_10 : decode cX0_takeBack 10 = .ok (.iconst 0, 1) := by decide +kernel
theorem dX0_takeBack_11 : decode cX0_takeBack 11 = .ok (.istore_n 3, 1) := by decide +kernel
theorem dX0_takeBack_12 : decode cX0_takeBack 12 = .ok (.iload_n 3, 1) := by decide +kernel
theorem dX0_takeBack_13 : decode cX0_takeBack 13 = .ok (.aload_n 1, 1) := by decide +kernel
theorem dX0_takeBack_14 : decode cX0_takeBack 14 = .ok (.getfield 29, 3) := by decide +kernel
theorem dX0_takeBack_17 : decode cX0_takeBack 17 = .ok (.if_icmp .ge 71, 3) := by decide +kernel
theorem dX0_takeBack_20 : decode cX0_takeBack 20 = .ok (.aload_n 1, 1) := by decide +kernel
theorem dX0_takeBack_21 : decode cX0_takeBack 21 = .ok (.getfield 34, 3) := by decide +kernel
theorem dX0_takeBack_24 : decode cX0_takeBack 24 = .ok (.iload_n 3, 1) := by decide +kernel
theorem dX0_takeBack_25 : decode cX0_takeBack 25 = .ok (.aaload, 1) := by decide +kernel
theorem dX0_takeBack_26 : decode cX0_takeBack 26 = .ok (.astore 4, 2) := by decide +kernel
theorem dX0_takeBack_28 : decode cX0_takeBack 28 = .ok (.aload 4, 2) := by decide +kernel
theorem dX0_takeBack_30 : decode cX0_takeBack 30 = .ok (.iconst 0, 1) := by decide +kernel
theorem dX0_takeBack_31 : decode cX0_takeBack 31 = .ok (.putfield 38, 3) := by decide +kernel
theorem dX0_takeBack_34 : decode cX0_takeBack 34 = .ok (.iconst 0, 1) := by decide +kernel
theorem dX0_takeBack_35 : decode cX0_takeBack 35 = .ok (.istore 5, 2) := by decide +kernel
theorem dX0_takeBack_37 : decode cX0_takeBack 37 = .ok (.iload 5, 2) := by decide +kernel
theorem dX0_takeBack_39 : decode cX0_takeBack 39 = .ok (.aload_n 2, 1) := by decide +kernel
theorem dX0_takeBack_40 : decode cX0_takeBack 40 = .ok (.iload_n 3, 1) := by decide +kernel
theorem dX0_takeBack_41 : decode cX0_takeBack 41 = .ok (.bipush 7, 2) := by decide +kernel
theorem dX0_takeBack_43 : decode cX0_takeBack 43 = .ok (.imul, 1) := by decide +kernel
theorem dX0_takeBack_44 : decode cX0_takeBack 44 = .ok (.iaload, 1) := by decide +kernel
theorem dX0_takeBack_45 : decode cX0_takeBack 45 = .ok (.if_icmp .ge 37, 3) := by decide +kernel
theorem dX0_takeBack_48 : decode cX0_takeBack 48 = .ok (.aload_n 2, 1) := by decide +kernel
theorem dX0_takeBack_49 : decode cX0_takeBack 49 = .ok (.iload_n 3, 1) := by decide +kernel
theorem dX0_takeBack_50 : decode cX0_takeBack 50 = .ok (.bipush 7, 2) := by decide +kernel
theorem dX0_takeBack_52 : decode cX0_takeBack 52 = .ok (.imul, 1) := by decide +kernel
theorem dX0_takeBack_53 : decode cX0_takeBack 53 = .ok (.iconst 1, 1) := by decide +kernel
theorem dX0_takeBack_54 : decode cX0_takeBack 54 = .ok (.iadd, 1) := by decide +kernel
theorem dX0_takeBack_55 : decode cX0_takeBack 55 = .ok (.iload 5, 2) := by decide +kernel
theorem dX0_takeBack_57 : decode cX0_takeBack 57 = .ok (.iadd, 1) := by decide +kernel
theorem dX0_takeBack_58 : decode cX0_takeBack 58 = .ok (.iaload, 1) := by decide +kernel
theorem dX0_takeBack_59 : decode cX0_takeBack 59 = .ok (.istore 6, 2) := by decide +kernel
theorem dX0_takeBack_61 : decode cX0_takeBack 61 = .ok (.aload 4, 2) := by decide +kernel
theorem dX0_takeBack_63 : decode cX0_takeBack 63 = .ok (.iload 6, 2) := by decide +kernel
theorem dX0_takeBack_65 : decode cX0_takeBack 65 = .ok (.bipush 8, 2) := by decide +kernel
theorem dX0_takeBack_67 : decode cX0_takeBack 67 = .ok (.idiv, 1) := by decide +kernel
theorem dX0_takeBack_68 : decode cX0_takeBack 68 = .ok (.iload 6, 2) := by decide +kernel
theorem dX0_takeBack_70 : decode cX0_takeBack 70 = .ok (.bipush 8, 2) := by decide +kernel
theorem dX0_takeBack_72 : decode cX0_takeBack 72 = .ok (.irem, 1) := by decide +kernel
theorem dX0_takeBack_73 : decode cX0_takeBack 73 = .ok (.invokevirtual 50, 3) := by decide +kernel
theorem dX0_takeBack_76 : decode cX0_takeBack 76 = .ok (.iinc 5 1, 3) := by decide +kernel
theorem dX0_takeBack_79 : decode cX0_takeBack 79 = .ok (.goto (-42), 3) := by decide +kernel
theorem dX0_takeBack_82 : decode cX0_takeBack 82 = .ok (.iinc 3 1, 3) := by decide +kernel
theorem dX0_takeBack_85 : decode cX0_takeBack 85 = .ok (.goto (-73), 3) := by decide +kernel
theorem dX0_takeBack_88 : decode cX0_takeBack 88 = .ok (.aload_n 0, 1) := by decide +kernel
theorem dX0_takeBack_89 : decode cX0_takeBack 89 = .ok (.aload_n 0, 1) := by decide +kernel
theorem dX0_takeBack_90 : decode cX0_takeBack 90 = .ok (.getfield 16, 3) := by decide +kernel
theorem dX0_takeBack_93 : decode cX0_takeBack 93 = .ok (.bipush 16, 2) := by decide +kernel
theorem dX0_takeBack_95 : decode cX0_takeBack 95 = .ok (.iadd, 1) := by decide +kernel
theorem dX0_takeBack_96 : decode cX0_takeBack 96 = .ok (.iconst 1, 1) := by decide +kernel
theorem dX0_takeBack_97 : decode cX0_takeBack 97 = .ok (.isub, 1) := by decide +kernel
theorem dX0_takeBack_98 : decode cX0_takeBack 98 = .ok (.bipush 16, 2) := by decide +kernel
theorem dX0_takeBack_100 : decode cX0_takeBack 100 = .ok (.irem, 1) := by decide +kernel
theorem dX0_takeBack_101 : decode cX0_takeBack 101 = .ok (.putfield 16, 3) := by decide +kernel
theorem dX0_takeBack_104 : decode cX0_takeBack 104 = .ok (.aload_n 0, 1) := by decide +kernel
theorem dX0_takeBack_105 : decode cX0_takeBack 105 = .ok (.dup, 1) := by decide +kernel
theorem dX0_takeBack_106 : decode cX0_takeBack 106 = .ok (.getfield 20, 3) := by decide +kernel
theorem dX0_takeBack_109 : decode cX0_takeBack 109 = .ok (.iconst 1, 1) := by decide +kernel
theorem dX0_takeBack_110 : decode cX0_takeBack 110 = .ok (.isub, 1) := by decide +kernel
theorem dX0_takeBack_111 : decode cX0_takeBack 111 = .ok (.putfield 20, 3) := by decide +kernel
theorem dX0_takeBack_114 : decode cX0_takeBack 114 = .ok (.return_, 1) := by decide +kernel
theorem dX1_init_0 : decode cX1_init 0 = .ok (.aload_n 0, 1) := by decide +kernel
theorem dX1_init_1 : decode cX1_init 1 = .ok (.invokespecial 3, 3) := by decide +kernel
theorem dX1_init_4 : decode cX1_init 4 = .ok (.aload_n 0, 1) := by decide +kernel
theorem dX1_init_5 : decode cX1_init 5 = .ok (.bipush 20, 2) := by decide +kernel
theorem dX1_init_7 : decode cX1_init 7 = .ok (.anewarray 9, 3) := by decide +kernel
theorem dX1_init_10 : decode cX1_init 10 = .ok (.putfield 11, 3) := by decide +kernel
theorem dX1_init_13 : decode cX1_init 13 = .ok (.aload_n 0, 1) := by decide +kernel
theorem dX1_init_14 : decode cX1_init 14 = .ok (.bipush 96, 2) := by decide +kernel
theorem dX1_init_16 : decode cX1_init 16 = .ok (.newarray .int, 2) := by decide +kernel
theorem dX1_init_18 : decode cX1_init 18 = .ok (.putfield 17, 3) := by decide +kernel
theorem dX1_init_21 : decode cX1_init 21 = .ok (.aload_n 0, 1) := by decide +kernel
theorem dX1_init_22 : decode cX1_init 22 = .ok (.bipush 10, 2) := by decide +kernel
theorem dX1_init_24 : decode cX1_init 24 = .ok (.newarray .int, 2) := by decide +kernel
theorem dX1_init_26 : decode cX1_init 26 = .ok (.putfield 21, 3) := by decide +kernel
theorem dX1_init_29 : decode cX1_init 29 = .ok (.aload_n 0, 1) := by decide +kernel
theorem dX1_init_30 : decode cX1_init 30 = .ok (.bipush 10, 2) := by decide +kernel
theorem dX1_init_32 : decode cX1_init 32 = .ok (.newarray .int, 2) := by decide +kernel
theorem dX1_init_34 : decode cX1_init 34 = .ok (.putfield 24, 3) := by decide +kernel
theorem dX1_init_37 : decode cX1_init 37 = .ok (.aload_n 0, 1) := by decide +kernel
theorem dX1_init_38 : decode cX1_init 38 = .ok (.bipush 14, 2) := by decide +kernel
theorem dX1_init_40 : decode cX1_init 40 = .ok (.anewarray 27, 3) := by decide +kernel
theorem dX1_init_43 : decode cX1_init 43 = .ok (.putfield 29, 3) := by decide +kernel
theorem dX1_init_46 : decode cX1_init 46 = .ok (.aload_n 0, 1) := by decide +kernel
theorem dX1_init_47 : decode cX1_init 47 = .ok (.bipush 14, 2) := by decide +kernel
theorem dX1_init_49 : decode cX1_init 49 = .ok (.anewarray 33, 3) := by decide +kernel
theorem dX1_init_52 : decode cX1_init 52 = .ok (.putfield 35, 3) := by decide +kernel
theorem dX1_init_55 : decode cX1_init 55 = .ok (.aload_n 0, 1) := by decide +kernel
theorem dX1_init_56 : decode cX1_init 56 = .ok (.iconst 3, 1) := by decide +kernel
theorem dX1_init_57 : decode cX1_init 57 = .ok (.newarray .int, 2) := by decide +kernel
theorem dX1_init_59 : decode cX1_init 59 = .ok (.putfield 39, 3) := by decide +kernel
theorem dX1_init_62 : decode cX1_init 62 = .ok (.aload_n 0, 1) := by decide +kernel
theorem dX1_init_63 : decode cX1_init 63 = .ok (.bipush 6, 2) := by decide +kernel
theorem dX1_init_65 : decode cX1_init 65 = .ok (.newarray .int, 2) := by decide +kernel
theorem dX1_init_67 : decode cX1_init 67 = .ok (.putfield 42, 3) := by decide +kernel
theorem dX1_init_70 : decode cX1_init 70 = .ok (.aload_n 0, 1) := by decide +kernel
theorem dX1_init_71 : decode cX1_init 71 = .ok (.iconst 0, 1) := by decide +kernel
theorem dX1_init_72 : decode cX1_init 72 = .ok (.putfield 45, 3) := by decide +kernel
theorem dX1_init_75 : decode cX1_init 75 = .ok (.aload_n 0, 1) := by decide +kernel
theorem dX1_init_76 : decode cX1_init 76 = .ok (.iconst 0, 1) := by decide +kernel
theorem dX1_init_77 : decode cX1_init 77 = .ok (.putfield 49, 3) := by decide +kernel
theorem dX1_init_80 : decode cX1_init 80 = .ok (.aload_n 0, 1) := by decide +kernel
theorem dX1_init_81 : decode cX1_init 81 = .ok (.iconst 0, 1) := by decide +kernel
theorem dX1_init_82 : decode cX1_init 82 = .ok (.putfield 52, 3) := by decide +kernel
theorem dX1_init_85 : decode cX1_init 85 = .ok (.aload_n 0, 1) := by decide +kernel
theorem dX1_init_86 : decode cX1_init 86 = .ok (.iconst 0, 1) := by decide +kernel
theorem dX1_init_87 : decode cX1_init 87 = .ok (.putfield 55, 3) := by decide +kernel
theorem dX1_init_90 : decode cX1_init 90 = .ok (.aload_n 0, 1) := by decide +kernel
theorem dX1_init_91 : decode cX1_init 91 = .ok (.iconst 0, 1) := by decide +kernel
theorem dX1_init_92 : decode cX1_init 92 = .ok (.putfield 58, 3) := by decide +kernel
theorem dX1_init_95 : decode cX1_init 95 = .ok (.aload_n 0, 1) := by decide +kernel
theorem dX1_init_96 : decode cX1_init 96 = .ok (.iconst 0, 1) := by decide +kernel
theorem dX1_init_97 : decode cX1_init 97 = .ok (.putfield 61, 3) := by decide +kernel
theorem dX1_init_100 : decode cX1_init 100 = .ok (.aload_n 0, 1) := by decide +kernel
theorem dX1_init_101 : decode cX1_init 101 = .ok (.bipush 8, 2) := by decide +kernel
theorem dX1_init_103 : decode cX1_init 103 = .ok (.putfield 64, 3) := by decide +kernel
theorem dX1_init_106 : decode cX1_init 106 = .ok (.aload_n 0, 1) := by decide +kernel
theorem dX1_init_107 : decode cX1_init 107 = .ok (.iconst 0, 1) := by decide +kernel
theorem dX1_init_108 : decode cX1_init 108 = .ok (.putfield 67, 3) := by decide +kernel
theorem dX1_init_111 : decode cX1_init 111 = .ok (.aload_n 0, 1) := by decide +kernel
theorem dX1_init_112 : decode cX1_init 112 = .ok (.iconst 1, 1) := by decide +kernel
theorem dX1_init_113 : decode cX1_init 113 = .ok (.putfield 70, 3) := by decide +kernel
theorem dX1_init_116 : decode cX1_init 116 = .ok (.iconst 0, 1) := by decide +kernel
theorem dX1_init_117 : decode cX1_init 117 = .ok (.istore_n 1, 1) := by decide +kernel
theorem dX1_init_118 : decode cX1_init 118 = .ok (.iload_n 1, 1) := by decide +kernel
theorem dX1_init_119 : decode cX1_init 119 = .ok (.bipush 20, 2) := by decide +kernel
theorem dX1_init_121 : decode cX1_init 121 = .ok (.if_icmp .ge 22, 3) := by decide +kernel
theorem dX1_init_124 : decode cX1_init 124 = .ok (.aload_n 0, 1) := by decide +kernel
theorem dX1_init_125 : decode cX1_init 125 = .ok (.getfield 11, 3) := by decide +kernel
theorem dX1_init_128 : decode cX1_init 128 = .ok (.iload_n 1, 1) := by decide +kernel
theorem dX1_init_129 : decode cX1_init 129 = .ok (.new 9, 3) := by decide +kernel
theorem dX1_init_132 : decode cX1_init 132 = .ok (.dup, 1) := by decide +kernel
theorem dX1_init_133 : decode cX1_init 133 = .ok (.invokespecial 73, 3) := by decide +kernel
theorem dX1_init_136 : decode cX1_init 136 = .ok (.aastore, 1) := by decide +kernel
theorem dX1_init_137 : decode cX1_init 137 = .ok (.iinc 1 1, 3) := by decide +kernel
theorem dX1_init_140 : decode cX1_init 140 = .ok (.goto (-22), 3) := by decide +kernel
theorem dX1_init_143 : decode cX1_init 143 = .ok (.iconst 0, 1) := by decide +kernel
theorem dX1_init_144 : decode cX1_init 144 = .ok (.istore_n 1, 1) := by decide +kernel
theorem dX1_init_145 : decode cX1_init 145 = .ok (.iload_n 1, 1) := by decide +kernel
theorem dX1_init_146 : decode cX1_init 146 = .ok (.bipush 14, 2) := by decide +kernel
theorem dX1_init_148 : decode cX1_init 148 = .ok (.if_icmp .ge 22, 3) := by decide +kernel
theorem dX1_init_151 : decode cX1_init 151 = .ok (.aload_n 0, 1) := by decide +kernel
theorem dX1_init_152 : decode cX1_init 152 = .ok (.getfield 29, 3) := by decide +kernel
theorem dX1_init_155 : decode cX1_init 155 = .ok (.iload_n 1, 1) := by decide +kernel
theorem dX1_init_156 : decode cX1_init 156 = .ok (.new 27, 3) := by decide +kernel
theorem dX1_init_159 : decode cX1_init 159 = .ok (.dup, 1) := by decide +kernel
theorem dX1_init_160 : decode cX1_init 160 = .ok (.invokespecial 74, 3) := by decide +kernel
theorem dX1_init_163 : decode cX1_init 163 = .ok (.aastore, 1) := by decide +kernel
theorem dX1_init_164 : decode cX1_init 164 = .ok (.iinc 1 1, 3) := by decide +kernel
theorem dX1_init_167 : decode cX1_init 167 = .ok (.goto (-22), 3) := by decide +kernel
theorem dX1_init_170 : decode cX1_init 170 = .ok (.aload_n 0, 1) := by decide +kernel
theorem dX1_init_171 : decode cX1_init 171 = .ok (.getfield 17, 3) := by decide +kernel
theorem dX1_init_174 : decode cX1_init 174 = .ok (.iconst (-1), 1) := by decide +kernel
theorem dX1_init_175 : decode cX1_init 175 = .ok (.invokestatic 75, 3) := by decide +kernel
theorem dX1_init_178 : decode cX1_init 178 = .ok (.aload_n 0, 1) := by decide +kernel
theorem dX1_init_179 : decode cX1_init 179 = .ok (.getfield 39, 3) := by decide +kernel
theorem dX1_init_182 : decode cX1_init 182 = .ok (.iconst (-1), 1) := by decide +kernel
theorem dX1_init_183 : decode cX1_init 183 = .ok (.invokestatic 75, 3) := by decide +kernel
theorem dX1_init_186 : decode cX1_init 186 = .ok (.return_, 1) := by decide +kernel
theorem dX1_becomeLike_0 : decode cX1_becomeLike 0 = .ok (.iconst 0, 1) := by decide +kernel
theorem dX1_becomeLike_1 : decode cX1_becomeLike 1 = .ok (.istore_n 2, 1) := by decide +kernel
theorem dX1_becomeLike_2 : decode cX1_becomeLike 2 = .ok (.iload_n 2, 1) := by decide +kernel
theorem dX1_becomeLike_3 : decode cX1_becomeLike 3 = .ok (.aload_n 1, 1) := by decide +kernel
theorem dX1_becomeLike_4 : decode cX1_becomeLike 4 = .ok (.getfield 49, 3) := by decide +kernel
theorem dX1_becomeLike_7 : decode cX1_becomeLike 7 = .ok (.if_icmp .ge 24, 3) := by decide +kernel
theorem dX1_becomeLike_10 : decode cX1_becomeLike 10 = .ok (.aload_n 0, 1) := by decide +kernel
theorem dX1_becomeLike_11 : decode cX1_becomeLike 11 = .ok (.getfield 11, 3) := by decide +kernel
theorem dX1_becomeLike_14 : decode cX1_becomeLike 14 = .ok (.iload_n 2, 1) := by decide +kernel
theorem dX1_becomeLike_15 : decode cX1_becomeLike 15 = .ok (.aaload, 1) := by decide +kernel
theorem dX1_becomeLike_16 : decode cX1_becomeLike 16 = .ok (.aload_n 1, 1) := by decide +kernel
theorem dX1_becomeLike_17 : decode cX1_becomeLike 17 = .ok (.getfield 11, 3) := by decide +kernel
theorem dX1_becomeLike_20 : decode cX1_becomeLike 20 = .ok (.iload_n 2, 1) := by decide +kernel
theorem dX1_becomeLike_21 : decode cX1_becomeLike 21 = .ok (.aaload, 1) := by decide +kernel
theorem dX1_becomeLike_22 : decode cX1_becomeLike 22 = .ok (.invokevirtual 81, 3) := by decide +kernel
theorem dX1_becomeLike_25 : decode cX1_becomeLike 25 = .ok (.iinc 2 1, 3) := by decide +kernel
theorem dX1_becomeLike_28 : decode cX1_becomeLike 28 = .ok (.goto (-26), 3) := by decide +kernel
theorem dX1_becomeLike_31 : decode cX1_becomeLike 31 = .ok (.iconst 0, 1) := by decide +kernel
theorem dX1_becomeLike_32 : decode cX1_becomeLike 32 = .ok (.istore_n 2, 1) := by decide +kernel
theorem dX1_becomeLike_33 : decode cX1_becomeLike 33 = .ok (.iload_n 2, 1) := by decide +kernel
theorem dX1_becomeLike_34 : decode cX1_becomeLike 34 = .ok (.aload_n 1, 1) := by decide +kernel
theorem dX1_becomeLike_35 : decode cX1_becomeLike 35 = .ok (.getfield 55, 3) := by decide +kernel
theorem dX1_becomeLike_38 : decode cX1_becomeLike 38 = .ok (.if_icmp .ge 24, 3) := by decide +kernel
theorem dX1_becomeLike_41 : decode cX1_becomeLike 41 = .ok (.aload_n 0, 1) := by decide +kernel
theorem dX1_becomeLike_42 : decode cX1_becomeLike 42 = .ok (.getfield 29, 3) := by decide +kernel
theorem dX1_becomeLike_45 : decode cX1_becomeLike 45 = .ok (.iload_n 2, 1) := by decide +kernel
theorem dX1_becomeLike_46 : decode cX1_becomeLike 46 = .ok (.aaload, 1) := by decide +kernel
theorem dX1_becomeLike_47 : decode cX1_becomeLike 47 = .ok (.aload_n 1, 1) := by decide +kernel
theorem dX1_becomeLike_48 : decode cX1_becomeLike 48 = .ok (.getfield 29, 3) := by decide +kernel
theorem dX1_becomeLike_51 : decode cX1_becomeLike 51 = .ok (.iload_n 2, 1) := by decide +kernel
theorem dX1_becomeLike_52 : decode cX1_becomeLike 52 = .ok (.aaload, 1) := by decide +kernel
theorem dX1_becomeLike_53 : decode cX1_becomeLike 53 = .ok (.invokevirtual 85, 3) := by decide +kernel
theorem dX1_becomeLike_56 : decode cX1_becomeLike 56 = .ok (.iinc 2 1, 3) := by decide +kernel
theorem dX1_becomeLike_59 : decode cX1_becomeLike 59 = .ok (.goto (-26), 3) := by decide +kernel
theorem dX1_becomeLike_62 : decode cX1_becomeLike 62 = .ok (.iconst 0, 1) := by decide +kernel
theorem dX1_becomeLike_63 : decode cX1_becomeLike 63 = .ok (.istore_n 2, 1) := by decide +kernel
theorem dX1_becomeLike_64 : decode cX1_becomeLike 64 = .ok (.iload_n 2, 1) := by decide +kernel
theorem dX1_becomeLike_65 : decode cX1_becomeLike 65 = .ok (.aload_n 1, 1) := by decide +kernel
theorem dX1_becomeLike_66 : decode cX1_becomeLike 66 = .ok (.getfield 58, 3) := by decide +kernel
theorem dX1_becomeLike_69 : decode cX1_becomeLike 69 = .ok (.if_icmp .ge 21, 3) := by decide +kernel
theorem dX1_becomeLike_72 : decode cX1_becomeLike 72 = .ok (.aload_n 0, 1) := by decide +kernel
theorem dX1_becomeLike_73 : decode cX1_becomeLike 73 = .ok (.getfield 35, 3) := by decide +kernel
theorem dX1_becomeLike_76 : decode cX1_becomeLike 76 = .ok (.iload_n 2, 1) := by decide +kernel
theorem dX1_becomeLike_77 : decode cX1_becomeLike 77 = .ok (.aload_n 1, 1) := by decide +kernel
theorem dX1_becomeLike_78 : decode cX1_becomeLike 78 = .ok (.getfield 35, 3) := by decide +kernel
theorem dX1_becomeLike_81 : decode cX1_becomeLike 81 = .ok (.iload_n 2, 1) := by decide +kernel
theorem dX1_becomeLike_82 : decode cX1_becomeLike 82 = .ok (.aaload, 1) := by decide +kernel
theorem dX1_becomeLike_83 : decode cX1_becomeLike 83 = .ok (.aastore, 1) := by decide +kernel
theorem dX1_becomeLike_84 : decode cX1_becomeLike 84 = .ok (.iinc 2 1, 3) := by decide +kernel
theorem dX1_becomeLike_87 : decode cX1_becomeLike 87 = .ok (.goto (-23), 3) := by decide +kernel
theorem dX1_becomeLike_90 : decode cX1_becomeLike 90 = .ok (.aload_n 1, 1) := by decide +kernel
theorem dX1_becomeLike_91 : decode cX1_becomeLike 91 = .ok (.getfield 17, 3) := by decide +kernel
theorem dX1_becomeLike_94 : decode cX1_becomeLike 94 = .ok (.iconst 0, 1) := by decide +kernel
theorem dX1_becomeLike_95 : decode cX1_becomeLike 95 = .ok (.aload_n 0, 1) := by decide +kernel
theorem dX1_becomeLike_96 : decode cX1_becomeLike 96 = .ok (.getfield 17, 3) := by decide +kernel
theorem dX1_becomeLike_99 : decode cX1_becomeLike 99 = .ok (.iconst 0, 1) := by decide +kernel
theorem dX1_becomeLike_100 : decode cX1_becomeLike 100 = .ok (.bipush 96, 2) := by decide +kernel
theorem dX1_becomeLike_102 : decode cX1_becomeLike 102 = .ok (.invokestatic 88, 3) := by decide +kernel
theorem dX1_becomeLike_105 : decode cX1_becomeLike 105 = .ok (.aload_n 1, 1) := by decide +kernel
theorem dX1_becomeLike_106 : decode cX1_becomeLike 106 = .ok (.getfield 21, 3) := by decide +kernel
theorem dX1_becomeLike_109 : decode cX1_becomeLike 109 = .ok (.iconst 0, 1) := by decide +kernel
theorem dX1_becomeLike_110 : decode cX1_becomeLike 110 = .ok (.aload_n 0, 1) := by decide +kernel
theorem dX1_becomeLike_111 : decode cX1_becomeLike 111 = .ok (.getfield 21, 3) := by decide +kernel
theorem dX1_becomeLike_114 : decode cX1_becomeLike 114 = .ok (.iconst 0, 1) := by decide +kernel
theorem dX1_becomeLike_115 : decode cX1_becomeLike 115 = .ok (.bipush 10, 2) := by decide +kernel
theorem dX1_becomeLike_117 : decode cX1_becomeLike 117 = .ok (.invokestatic 88, 3) := by decide +kernel
theorem dX1_becomeLike_120 : decode cX1_becomeLike 120 = .ok (.aload_n 1, 1) := by decide +kernel
theorem dX1_becomeLike_121 : decode cX1_becomeLike 121 = .ok (.getfield 24, 3) := by decide +kernel
theorem dX1_becomeLike_124 : decode cX1_becomeLike 124 = .ok (.iconst 0, 1) := by decide +kernel
theorem dX1_becomeLike_125 : decode cX1_becomeLike 125 = .ok (.aload_n 0, 1) := by decide +kernel
theorem dX1_becomeLike_126 : decode cX1_becomeLike 126 = .ok (.getfield 24, 3) := by decide +kernel
theorem dX1_becomeLike_129 : decode cX1_becomeLike 129 = .ok (.iconst 0, 1) := by decide +kernel
theorem dX1_becomeLike_130 : decode cX1_becomeLike 130 = .ok (.bipush 10, 2) := by decide +kernel
theorem dX1_becomeLike_132 : decode cX1_becomeLike 132 = .ok (.invokestatic 88, 3) := by decide +kernel
theorem dX1_becomeLike_135 : decode cX1_becomeLike 135 = .ok (.aload_n 1, 1) := by decide +kernel
theorem dX1_becomeLike_136 : decode cX1_becomeLike 136 = .ok (.getfield 39, 3) := by decide +kernel
theorem dX1_becomeLike_139 : decode cX1_becomeLike 139 = .ok (.iconst 0, 1) := by decide +kernel
theorem dX1_becomeLike_140 : decode cX1_becomeLike 140 = .ok (.aload_n 0, 1) := by decide +kernel
theorem dX1_becomeLike_141 : decode cX1_becomeLike 141 = .ok (.getfield 39, 3) := by decide +kernel
theorem dX1_becomeLike_144 : decode cX1_becomeLike 144 = .ok (.iconst 0, 1) := by decide +kernel
theorem dX1_becomeLike_145 : decode cX1_becomeLike 145 = .ok (.iconst 3, 1) := by decide +kernel
theorem dX1_becomeLike_146 : decode cX1_becomeLike 146 = .ok (.invokestatic 88, 3) := by decide +kernel
theorem dX1_becomeLike_149 : decode cX1_becomeLike 149 = .ok (.aload_n 1, 1) := by decide +kernel
theorem dX1_becomeLike_150 : decode cX1_becomeLike 150 = .ok (.getfield 42, 3) := by decide +kernel
theorem dX1_becomeLike_153 : decode cX1_becomeLike 153 = .ok (.iconst 0, 1) := by decide +kernel
theorem dX1_becomeLike_154 : decode cX1_becomeLike 154 = .ok (.aload_n 0, 1) := by decide +kernel
theorem dX1_becomeLike_155 : decode cX1_becomeLike 155 = .ok (.getfield 42, 3) := by decide +kernel
theorem dX1_becomeLike_158 : decode cX1_becomeLike 158 = .ok (.iconst 0, 1) := by decide +kernel
theorem dX1_becomeLike_159 : decode cX1_becomeLike 159 = .ok (.bipush 6, 2) := by decide +kernel
theorem dX1_becomeLike_161 : decode cX1_becomeLike 161 = .ok (.invokestatic 88, 3) := by decide +kernel
theorem dX1_becomeLike_164 : decode cX1_becomeLike 164 = .ok (.aload_n 0, 1) := by decide +kernel
theorem dX1_becomeLike_165 : decode cX1_becomeLike 165 = .ok (.aload_n 1, 1) := by decide +kernel
theorem dX1_becomeLike_166 : decode cX1_becomeLike 166 = .ok (.getfield 45, 3) := by decide +kernel
theorem dX1_becomeLike_169 : decode cX1_becomeLike 169 = .ok (.putfield 45, 3) := by decide +kernel
theorem dX1_becomeLike_172 : decode cX1_becomeLike 172 = .ok (.aload_n 0, 1) := by decide +kernel
theorem dX1_becomeLike_173 : decode cX1_becomeLike 173 = .ok (.aload_n 1, 1) := by decide +kernel
theorem dX1_becomeLike_174 : decode cX1_becomeLike 174 = .ok (.getfield 49, 3) := by decide +kernel
theorem dX1_becomeLike_177 : decode cX1_becomeLike 177 = .ok (.putfield 49, 3) := by decide +kernel
theorem dX1_becomeLike_180 : decode cX1_becomeLike 180 = .ok (.aload_n 0, 1) := by decide +kernel
theorem dX1_becomeLike_181 : decode cX1_becomeLike 181 = .ok (.aload_n 1, 1) := by decide +kernel
theorem dX1_becomeLike_182 : decode cX1_becomeLike 182 = .ok (.getfield 52, 3) := by decide +kernel
theorem dX1_becomeLike_185 : decode cX1_becomeLike 185 = .ok (.putfield 52, 3) := by decide +kernel
theorem dX1_becomeLike_188 : decode cX1_becomeLike 188 = .ok (.aload_n 0, 1) := by decide +kernel
theorem dX1_becomeLike_189 : decode cX1_becomeLike 189 = .ok (.aload_n 1, 1) := by decide +kernel
theorem dX1_becomeLike_190 : decode cX1_becomeLike 190 = .ok (.getfield 55, 3) := by decide +kernel
theorem dX1_becomeLike_193 : decode cX1_becomeLike 193 = .ok (.putfield 55, 3) := by decide +kernel
theorem dX1_becomeLike_196 : decode cX1_becomeLike 196 = .ok (.aload_n 0, 1) := by decide +kernel
theorem dX1_becomeLike_197 : decode cX1_becomeLike 197 = .ok (.aload_n 1, 1) := by decide +kernel
theorem dX1_becomeLike_198 : decode cX1_becomeLike 198 = .ok (.getfield 58, 3) := by decide +kernel
theorem dX1_becomeLike_201 : decode cX1_becomeLike 201 = .ok (.putfield 58, 3) := by decide +kernel
theorem dX1_becomeLike_204 : decode cX1_becomeLike 204 = .ok (.aload_n 0, 1) := by decide +kernel
theorem dX1_becomeLike_205 : decode cX1_becomeLike 205 = .ok (.aload_n 1, 1) := by decide +kernel
theorem dX1_becomeLike_206 : decode cX1_becomeLike 206 = .ok (.getfield 61, 3) := by decide +kernel
theorem dX1_becomeLike_209 : decode cX1_becomeLike 209 = .ok (.putfield 61, 3) := by decide +kernel
theorem dX1_becomeLike_212 : decode cX1_becomeLike 212 = .ok (.aload_n 0, 1) := by decide +kernel
theorem dX1_becomeLike_213 : decode cX1_becomeLike 213 = .ok (.aload_n 1, 1) := by decide +kernel
theorem dX1_becomeLike_214 : decode cX1_becomeLike 214 = .ok (.getfield 64, 3) := by decide +kernel
theorem dX1_becomeLike_217 : decode cX1_becomeLike 217 = .ok (.putfield 64, 3) := by decide +kernel
theorem dX1_becomeLike_220 : decode cX1_becomeLike 220 = .ok (.aload_n 0, 1) := by decide +kernel
theorem dX1_becomeLike_221 : decode cX1_becomeLike 221 = .ok (.aload_n 1, 1) := by decide +kernel
theorem dX1_becomeLike_222 : decode cX1_becomeLike 222 = .ok (.getfield 67, 3) := by decide +kernel
theorem dX1_becomeLike_225 : decode cX1_becomeLike 225 = .ok (.putfield 67, 3) := by decide +kernel
theorem dX1_becomeLike_228 : decode cX1_becomeLike 228 = .ok (.aload_n 0, 1) := by decide +kernel
theorem dX1_becomeLike_229 : decode cX1_becomeLike 229 = .ok (.aload_n 1, 1) := by decide +kernel
theorem dX1_becomeLike_230 : decode cX1_becomeLike 230 = .ok (.getfield 70, 3) := by decide +kernel
theorem dX1_becomeLike_233 : decode cX1_becomeLike 233 = .ok (.putfield 70, 3) := by decide +kernel
theorem dX1_becomeLike_236 : decode cX1_becomeLike 236 = .ok (.return_, 1) := by decide +kernel
theorem dX1_hasPlace_0 : decode cX1_hasPlace 0 = .ok (.iload_n 1, 1) := by decide +kernel
theorem dX1_hasPlace_1 : decode cX1_hasPlace 1 = .ok (.aload_n 0, 1) := by decide +kernel
theorem dX1_hasPlace_2 : decode cX1_hasPlace 2 = .ok (.getfield 45, 3) := by decide +kernel
theorem dX1_hasPlace_5 : decode cX1_hasPlace 5 = .ok (.invokestatic 94, 3) := by decide +kernel
theorem dX1_hasPlace_8 : decode cX1_hasPlace 8 = .ok (.ireturn, 1) := by decide +kernel
theorem dX1_hasGoal_0 : decode cX1_hasGoal 0 = .ok (.iload_n 1, 1) := by decide +kernel
theorem dX1_hasGoal_1 : decode cX1_hasGoal 1 = .ok (.aload_n 0, 1) := by decide +kernel
theorem dX1_hasGoal_2 : decode cX1_hasGoal 2 = .ok (.getfield 52, 3) := by decide +kernel
theorem dX1_hasGoal_5 : decode cX1_hasGoal 5 = .ok (.invokestatic 94, 3) := by decide +kernel
theorem dX1_hasGoal_8 : decode cX1_hasGoal 8 = .ok (.ireturn, 1) := by decide +kernel
theorem dX1_hasSign_0 : decode cX1_hasSign 0 = .ok (.iload_n 1, 1) := by decide +kernel
theorem dX1_hasSign_1 : decode cX1_hasSign 1 = .ok (.aload_n 0, 1) := by decide +kernel
theorem dX1_hasSign_2 : decode cX1_hasSign 2 = .ok (.getfield 55, 3) := by decide +kernel
theorem dX1_hasSign_5 : decode cX1_hasSign 5 = .ok (.invokestatic 94, 3) := by decide +kernel
theorem dX1_hasSign_8 : decode cX1_hasSign 8 = .ok (.ireturn, 1) := by decide +kernel
theorem dX1_hasRow_0 : decode cX1_hasRow 0 = .ok (.aload_n 0, 1) := by decide +kernel
theorem dX1_hasRow_1 : decode cX1_hasRow 1 = .ok (.iload_n 1, 1) := by decide +kernel
theorem dX1_hasRow_2 : decode cX1_hasRow 2 = .ok (.invokevirtual 98, 3) := by decide +kernel
theorem dX1_hasRow_5 : decode cX1_hasRow 5 = .ok (.ifCond .eq 23, 3) := by decide +kernel
theorem dX1_hasRow_8 : decode cX1_hasRow 8 = .ok (.iload_n 2, 1) := by decide +kernel
theorem dX1_hasRow_9 : decode cX1_hasRow 9 = .ok (.aload_n 0, 1) := by decide +kernel
theorem dX1_hasRow_10 : decode cX1_hasRow 10 = .ok (.getfield 29, 3) := by decide +kernel
theorem dX1_hasRow_13 : decode cX1_hasRow 13 = .ok (.iload_n 1, 1) := by decide +kernel
theorem dX1_hasRow_14 : decode cX1_hasRow 14 = .ok (.aaload, 1) := by decide +kernel
theorem dX1_hasRow_15 : decode cX1_hasRow 15 = .ok (.getfield 102, 3) := by decide +kernel
theorem dX1_hasRow_18 : decode cX1_hasRow 18 = .ok (.invokestatic 94, 3) := by decide +kernel
theorem dX1_hasRow_21 : decode cX1_hasRow 21 = .ok (.ifCond .eq 7, 3) := by decide +kernel
theorem dX1_hasRow_24 : decode cX1_hasRow 24 = .ok (.iconst 1, 1) := by decide +kernel
theorem dX1_hasRow_25 : decode cX1_hasRow 25 = .ok (.goto 4, 3) := by decide +kernel
theorem dX1_hasRow_28 : decode cX1_hasRow 28 = .ok (.iconst 0, 1) := by decide +kernel
theorem dX1_hasRow_29 : decode cX1_hasRow 29 = .ok (.ireturn, 1) := by decide +kernel
theorem dX1_rowsOfAll_0 : decode cX1_rowsOfAll 0 = .ok (.iconst 0, 1) := by decide +kernel
theorem dX1_rowsOfAll_1 : decode cX1_rowsOfAll 1 = .ok (.istore_n 1, 1) := by decide +kernel
theorem dX1_rowsOfAll_2 : decode cX1_rowsOfAll 2 = .ok (.iconst 0, 1) := by decide +kernel
theorem dX1_rowsOfAll_3 : decode cX1_rowsOfAll 3 = .ok (.istore_n 2, 1) := by decide +kernel
theorem dX1_rowsOfAll_4 : decode cX1_rowsOfAll 4 = .ok (.iload_n 2, 1) := by decide +kernel
theorem dX1_rowsOfAll_5 : decode cX1_rowsOfAll 5 = .ok (.aload_n 0, 1) := by decide +kernel
theorem dX1_rowsOfAll_6 : decode cX1_rowsOfAll 6 = .ok (.getfield 55, 3) := by decide +kernel
theorem dX1_rowsOfAll_9 : decode cX1_rowsOfAll 9 = .ok (.if_icmp .ge 21, 3) := by decide +kernel
theorem dX1_rowsOfAll_12 : decode cX1_rowsOfAll 12 = .ok (.iload_n 1, 1) := by decide +kernel
theorem dX1_rowsOfAll_13 : decode cX1_rowsOfAll 13 = .ok (.aload_n 0, 1) := by decide +kernel
theorem dX1_rowsOfAll_14 : decode cX1_rowsOfAll 14 = .ok (.getfield 29, 3) := by decide +kernel
theorem dX1_rowsOfAll_17 : decode cX1_rowsOfAll 17 = .ok (.iload_n 2, 1) := by decide +kernel
theorem dX1_rowsOfAll_18 : decode cX1_rowsOfAll 18 = .ok (.aaload, 1) := by decide +kernel
theorem dX1_rowsOfAll_19 : decode cX1_rowsOfAll 19 = .ok (.getfield 102, 3) := by decide +kernel
theorem dX1_rowsOfAll_22 : decode cX1_rowsOfAll 22 = .ok (.iadd, 1) := by decide +kernel
theorem dX1_rowsOfAll_23 : decode cX1_rowsOfAll 23 = .ok (.istore_n 1, 1) := by decide +kernel
theorem dX1_rowsOfAll_24 : decode cX1_rowsOfAll 24 = .ok (.iinc 2 1, 3) := by decide +kernel
theorem dX1_rowsOfAll_27 : decode cX1_rowsOfAll 27 = .ok (.goto (-23), 3) := by decide +kernel
theorem dX1_rowsOfAll_30 : decode cX1_rowsOfAll 30 = .ok (.iload_n 1, 1) := by decide +kernel
theorem dX1_rowsOfAll_31 : decode cX1_rowsOfAll 31 = .ok (.ireturn, 1) := by decide +kernel
theorem dX1_addWay_0 : decode cX1_addWay 0 = .ok (.aload_n 0, 1) := by decide +kernel
theorem dX1_addWay_1 : decode cX1_addWay 1 = .ok (.getfield 11, 3) := by decide +kernel
theorem dX1_addWay_4 : decode cX1_addWay 4 = .ok (.aload_n 0, 1) := by decide +kernel
theorem dX1_addWay_5 : decode cX1_addWay 5 = .ok (.getfield 49, 3) := by decide +kernel
theorem dX1_addWay_8 : decode cX1_addWay 8 = .ok (.aaload, 1) := by decide +kernel
theorem dX1_addWay_9 : decode cX1_addWay 9 = .ok (.astore 5, 2) := by decide +kernel
theorem dX1_addWay_11 : decode cX1_addWay 11 = .ok (.aload 5, 2) := by decide +kernel
theorem dX1_addWay_13 : decode cX1_addWay 13 = .ok (.iload_n 1, 1) := by decide +kernel
theorem dX1_addWay_14 : decode cX1_addWay 14 = .ok (.putfield 105, 3) := by decide +kernel
theorem dX1_addWay_17 : decode cX1_addWay 17 = .ok (.aload 5, 2) := by decide +kernel
theorem dX1_addWay_19 : decode cX1_addWay 19 = .ok (.iload_n 2, 1) := by decide +kernel
theorem dX1_addWay_20 : decode cX1_addWay 20 = .ok (.putfield 108, 3) := by decide +kernel
theorem dX1_addWay_23 : decode cX1_addWay 23 = .ok (.aload 5, 2) := by decide +kernel
theorem dX1_addWay_25 : decode cX1_addWay 25 = .ok (.iload_n 3, 1) := by decide +kernel
theorem dX1_addWay_26 : decode cX1_addWay 26 = .ok (.putfield 111, 3) := by decide +kernel
theorem dX1_addWay_29 : decode cX1_addWay 29 = .ok (.aload 5, 2) := by decide +kernel
theorem dX1_addWay_31 : decode cX1_addWay 31 = .ok (.iload 4, 2) := by decide +kernel
theorem dX1_addWay_33 : decode cX1_addWay 33 = .ok (.bipush 100, 2) := by decide +kernel
theorem dX1_addWay_35 : decode cX1_addWay 35 = .ok (.idiv, 1) := by decide +kernel
theorem dX1_addWay_36 : decode cX1_addWay 36 = .ok (.putfield 114, 3) := by decide +kernel
theorem dX1_addWay_39 : decode cX1_addWay 39 = .ok (.aload 5, 2) := by decide +kernel
theorem dX1_addWay_41 : decode cX1_addWay 41 = .ok (.iload 4, 2) := by decide +kernel
theorem dX1_addWay_43 : decode cX1_addWay 43 = .ok (.bipush 100, 2) := by decide +kernel
theorem dX1_addWay_45 : decode cX1_addWay 45 = .ok (.irem, 1) := by decide +kernel
theorem dX1_addWay_46 : decode cX1_addWay 46 = .ok (.putfield 117, 3) := by decide +kernel
theorem dX1_addWay_49 : decode cX1_addWay 49 = .ok (.aload 5, 2) := by decide +kernel
theorem dX1_addWay_51 : decode cX1_addWay 51 = .ok (.iconst 0, 1) := by decide +kernel
theorem dX1_addWay_52 : decode cX1_addWay 52 = .ok (.putfield 120, 3) := by decide +kernel
theorem dX1_addWay_55 : decode cX1_addWay 55 = .ok (.aload_n 0, 1) := by decide +kernel
theorem dX1_addWay_56 : decode cX1_addWay 56 = .ok (.getfield 17, 3) := by decide +kernel
theorem dX1_addWay_59 : decode cX1_addWay 59 = .ok (.iload_n 1, 1) := by decide +kernel
theorem dX1_addWay_60 : decode cX1_addWay 60 = .ok (.bipush 8, 2) := by decide +kernel
theorem dX1_addWay_62 : decode cX1_addWay 62 = .ok (.imul, 1) := by decide +kernel
theorem dX1_addWay_63 : decode cX1_addWay 63 = .ok (.iload_n 3, 1) := by decide +kernel
theorem dX1_addWay_64 : decode cX1_addWay 64 = .ok (.iadd, 1) := by decide +kernel
theorem dX1_addWay_65 : decode cX1_addWay 65 = .ok (.aload_n 0, 1) := by decide +kernel
theorem dX1_addWay_66 : decode cX1_addWay 66 = .ok (.getfield 49, 3) := by decide +kernel
theorem dX1_addWay_69 : decode cX1_addWay 69 = .ok (.iastore, 1) := by decide +kernel
theorem dX1_addWay_70 : decode cX1_addWay 70 = .ok (.aload_n 0, 1) := by decide +kernel
theorem dX1_addWay_71 : decode cX1_addWay 71 = .ok (.getfield 17, 3) := by decide +kernel
theorem dX1_addWay_74 : decode cX1_addWay 74 = .ok (.iload_n 2, 1) := by decide +kernel
theorem dX1_addWay_75 : decode cX1_addWay 75 = .ok (.bipush 8, 2) := by decide +kernel
theorem dX1_addWay_77 : decode cX1_addWay 77 = .ok (.imul, 1) := by decide +kernel
theorem dX1_addWay_78 : decode cX1_addWay 78 = .ok (.iload_n 3, 1) := by decide +kernel
theorem dX1_addWay_79 : decode cX1_addWay 79 = .ok (.invokestatic 124, 3) := by decide +kernel
theorem dX1_addWay_82 : decode cX1_addWay 82 = .ok (.iadd, 1) := by decide +kernel
theorem dX1_addWay_83 : decode cX1_addWay 83 = .ok (.aload_n 0, 1) := by decide +kernel
theorem dX1_addWay_84 : decode cX1_addWay 84 = .ok (.getfield 49, 3) := by decide +kernel
theorem dX1_addWay_87 : decode cX1_addWay 87 = .ok (.iastore, 1) := by decide +kernel
theorem dX1_addWay_88 : decode cX1_addWay 88 = .ok (.aload_n 0, 1) := by decide +kernel
theorem dX1_addWay_89 : decode cX1_addWay 89 = .ok (.dup, 1) := by decide +kernel
theorem dX1_addWay_90 : decode cX1_addWay 90 = .ok (.getfield 49, 3) := by decide +kernel
theorem dX1_addWay_93 : decode cX1_addWay 93 = .ok (.dup_x1, 1) := by decide +kernel
theorem dX1_addWay_94 : decode cX1_addWay 94 = .ok (.iconst 1, 1) := by decide +kernel
theorem dX1_addWay_95 : decode cX1_addWay 95 = .ok (.iadd, 1) := by decide +kernel
theorem dX1_addWay_96 : decode cX1_addWay 96 = .ok (.putfield 49, 3) := by decide +kernel
theorem dX1_addWay_99 : decode cX1_addWay 99 = .ok (.ireturn, 1) := by decide +kernel
theorem dX1_wayFrom_0 : decode cX1_wayFrom 0 = .ok (.iload_n 1, 1) := by decide +kernel
theorem dX1_wayFrom_1 : decode cX1_wayFrom 1 = .ok (.ifCond .lt 23, 3) := by decide +kernel
theorem dX1_wayFrom_4 : decode cX1_wayFrom 4 = .ok (.iload_n 1, 1) := by decide +kernel
theorem dX1_wayFrom_5 : decode cX1_wayFrom 5 = .ok (.bipush 12, 2) := by decide +kernel
theorem dX1_wayFrom_7 : decode cX1_wayFrom 7 = .ok (.if_icmp .ge 17, 3) := by decide +kernel
theorem dX1_wayFrom_10 : decode cX1_wayFrom 10 = .ok (.iload_n 2, 1) := by decide +kernel
theorem dX1_wayFrom_11 : decode cX1_wayFrom 11 = .ok (.ifCond .lt 13, 3) := by decide +kernel
theorem dX1_wayFrom_14 : decode cX1_wayFrom 14 = .ok (.iload_n 2, 1) := by decide +kernel
theorem dX1_wayFrom_15 : decode cX1_wayFrom 15 = .ok (.bipush 8, 2) := by decide +kernel
theorem dX1_wayFrom_17 : decode cX1_wayFrom 17 = .ok (.if_icmp .ge 7, 3) := by decide +kernel
theorem dX1_wayFrom_20 : decode cX1_wayFrom 20 = .ok (.iconst 1, 1) := by decide +kernel
theorem dX1_wayFrom_21 : decode cX1_wayFrom 21 = .ok (.goto 4, 3) := by decide +kernel
theorem dX1_wayFrom_24 : decode cX1_wayFrom 24 = .ok (.iconst 0, 1) := by decide +kernel
theorem dX1_wayFrom_25 : decode cX1_wayFrom 25 = .ok (.istore_n 3, 1) := by decide +kernel
theorem dX1_wayFrom_26 : decode cX1_wayFrom 26 = .ok (.iload_n 3, 1) := by decide +kernel
theorem dX1_wayFrom_27 : decode cX1_wayFrom 27 = .ok (.ifCond .eq 17, 3) := by decide +kernel
theorem dX1_wayFrom_30 : decode cX1_wayFrom 30 = .ok (.aload_n 0, 1) := by decide +kernel
theorem dX1_wayFrom_31 : decode cX1_wayFrom 31 = .ok (.getfield 17, 3) := by decide +kernel
theorem dX1_wayFrom_34 : decode cX1_wayFrom 34 = .ok (.iload_n 1, 1) := by decide +kernel
theorem dX1_wayFrom_35 : decode cX1_wayFrom 35 = .ok (.bipush 8, 2) := by decide +kernel
theorem dX1_wayFrom_37 : decode cX1_wayFrom 37 = .ok (.imul, 1) := by decide +kernel
theorem dX1_wayFrom_38 : decode cX1_wayFrom 38 = .ok (.iload_n 2, 1) := by decide +kernel
theorem dX1_wayFrom_39 : decode cX1_wayFrom 39 = .ok (.iadd, 1) := by decide +kernel
theorem dX1_wayFrom_40 : decode cX1_wayFrom 40 = .ok (.iaload, 1) := by decide +kernel
theorem dX1_wayFrom_41 : decode cX1_wayFrom 41 = .ok (.goto 4, 3) := by decide +kernel
theorem dX1_wayFrom_44 : decode cX1_wayFrom 44 = .ok (.iconst (-1), 1) := by decide +kernel
theorem dX1_wayFrom_45 : decode cX1_wayFrom 45 = .ok (.ireturn, 1) := by decide +kernel
theorem dX1_waysFrom_0 : decode cX1_waysFrom 0 = .ok (.iconst 0, 1) := by decide +kernel
theorem dX1_waysFrom_1 : decode cX1_waysFrom 1 = .ok (.istore_n 2, 1) := by decide +kernel
theorem dX1_waysFrom_2 : decode cX1_waysFrom 2 = .ok (.iconst 0, 1) := by decide +kernel
theorem dX1_waysFrom_3 : decode cX1_waysFrom 3 = .ok (.istore_n 3, 1) := by decide +kernel
theorem dX1_waysFrom_4 : decode cX1_waysFrom 4 = .ok (.iload_n 3, 1) := by decide +kernel
theorem dX1_waysFrom_5 : decode cX1_waysFrom 5 = .ok (.bipush 8, 2) := by decide +kernel
theorem dX1_waysFrom_7 : decode cX1_waysFrom 7 = .ok (.if_icmp .ge 30, 3) := by decide +kernel
theorem dX1_waysFrom_10 : decode cX1_waysFrom 10 = .ok (.iload_n 2, 1) := by decide +kernel
theorem dX1_waysFrom_11 : decode cX1_waysFrom 11 = .ok (.aload_n 0, 1) := by decide +kernel
theorem dX1_waysFrom_12 : decode cX1_waysFrom 12 = .ok (.iload_n 1, 1) := by decide +kernel
theorem dX1_waysFrom_13 : decode cX1_waysFrom 13 = .ok (.iload_n 3, 1) := by decide +kernel
theorem dX1_waysFrom_14 : decode cX1_waysFrom 14 = .ok (.invokevirtual 128, 3) := by decide +kernel
theorem dX1_waysFrom_17 : decode cX1_waysFrom 17 = .ok (.iconst (-1), 1) := by decide +kernel
theorem dX1_waysFrom_18 : decode cX1_waysFrom 18 = .ok (.if_icmp .eq 7, 3) := by decide +kernel
theorem dX1_waysFrom_21 : decode cX1_waysFrom 21 = .ok (.iconst 1, 1) := by decide +kernel
theorem dX1_waysFrom_22 : decode cX1_waysFrom 22 = .ok (.goto 4, 3) := by decide +kernel
theorem dX1_waysFrom_25 : decode cX1_waysFrom 25 = .ok (.iconst 0, 1) := by decide +kernel
theorem dX1_waysFrom_26 : decode cX1_waysFrom 26 = .ok (.invokestatic 132, 3) := by decide +kernel
theorem dX1_waysFrom_29 : decode cX1_waysFrom 29 = .ok (.iadd, 1) := by decide +kernel
theorem dX1_waysFrom_30 : decode cX1_waysFrom 30 = .ok (.istore_n 2, 1) := by decide +kernel
theorem dX1_waysFrom_31 : decode cX1_waysFrom 31 = .ok (.iinc 3 1, 3) := by decide +kernel
theorem dX1_waysFrom_34 : decode cX1_waysFrom 34 = .ok (.goto (-30), 3) := by decide +kernel
theorem dX1_waysFrom_37 : decode cX1_waysFrom 37 = .ok (.iload_n 2, 1) := by decide +kernel
theorem dX1_waysFrom_38 : decode cX1_waysFrom 38 = .ok (.ireturn, 1) := by decide +kernel
theorem dX1_passes_0 : decode cX1_passes 0 = .ok (.aload_n 1, 1) := by decide +kernel
theorem dX1_passes_1 : decode cX1_passes 1 = .ok (.getfield 120, 3) := by decide +kernel
theorem dX1_passes_4 : decode cX1_passes 4 = .ok (.ifCond .ne 16, 3) := by decide +kernel
theorem dX1_passes_7 : decode cX1_passes 7 = .ok (.aload_n 1, 1) := by decide +kernel
theorem dX1_passes_8 : decode cX1_passes 8 = .ok (.getfield 114, 3) := by decide +kernel
theorem dX1_passes_11 : decode cX1_passes 11 = .ok (.iconst 1, 1) := by decide +kernel
theorem dX1_passes_12 : decode cX1_passes 12 = .ok (.if_icmp .ne 10, 3) := by decide +kernel
theorem dX1_passes_15 : decode cX1_passes 15 = .ok (.iload_n 2, 1) := by decide +kernel
theorem dX1_passes_16 : decode cX1_passes 16 = .ok (.iconst 1, 1) := by decide +kernel
theorem dX1_passes_17 : decode cX1_passes 17 = .ok (.if_icmp .ne 5, 3) := by decide +kernel
theorem dX1_passes_20 : decode cX1_passes 20 = .ok (.iconst 0, 1) := by decide +kernel
theorem dX1_passes_21 : decode cX1_passes 21 = .ok (.ireturn, 1) := by decide +kernel
theorem dX1_passes_22 : decode cX1_passes 22 = .ok (.aload_n 1, 1) := by decide +kernel
theorem dX1_passes_23 : decode cX1_passes 23 = .ok (.getfield 114, 3) := by decide +kernel
theorem dX1_passes_26 : decode cX1_passes 26 = .ok (.iconst 3, 1) := by decide +kernel
theorem dX1_passes_27 : decode cX1_passes 27 = .ok (.if_icmp .eq 5, 3) := by decide +kernel
theorem dX1_passes_30 : decode cX1_passes 30 = .ok (.iconst 1, 1) := by decide +kernel
theorem dX1_passes_31 : decode cX1_passes 31 = .ok (.ireturn, 1) := by decide +kernel
theorem dX1_passes_32 : decode cX1_passes 32 = .ok (.aload_n 0, 1) := by decide +kernel
theorem dX1_passes_33 : decode cX1_passes 33 = .ok (.iconst 1, 1) := by decide +kernel
theorem dX1_passes_34 : decode cX1_passes 34 = .ok (.invokevirtual 136, 3) := by decide +kernel
theorem dX1_passes_37 : decode cX1_passes 37 = .ok (.astore_n 3, 1) := by decide +kernel
theorem dX1_passes_38 : decode cX1_passes 38 = .ok (.aload_n 3, 1) := by decide +kernel
theorem dX1_passes_39 : decode cX1_passes 39 = .ok (.ifnonnull 29, 3) := by decide +kernel
theorem dX1_passes_42 : decode cX1_passes 42 = .ok (.aload_n 0, 1) := by decide +kernel
theorem dX1_passes_43 : decode cX1_passes 43 = .ok (.getfield 64, 3) := by decide +kernel
theorem dX1_passes_46 : decode cX1_passes 46 = .ok (.bipush 6, 2) := by decide +kernel
theorem dX1_passes_48 : decode cX1_passes 48 = .ok (.if_icmp .lt 16, 3) := by decide +kernel
theorem dX1_passes_51 : decode cX1_passes 51 = .ok (.aload_n 0, 1) := by decide +kernel
theorem dX1_passes_52 : decode cX1_passes 52 = .ok (.getfield 64, 3) := by decide +kernel
theorem dX1_passes_55 : decode cX1_passes 55 = .ok (.bipush 21, 2) := by decide +kernel
theorem dX1_passes_57 : decode cX1_passes 57 = .ok (.if_icmp .gt 7, 3) := by decide +kernel
theorem dX1_passes_60 : decode cX1_passes 60 = .ok (.iconst 1, 1) := by decide +kernel
theorem dX1_passes_61 : decode cX1_passes 61 = .ok (.goto 32, 3) := by decide +kernel
theorem dX1_passes_64 : decode cX1_passes 64 = .ok (.iconst 0, 1) := by decide +kernel
theorem dX1_passes_65 : decode cX1_passes 65 = .ok (.goto 28, 3) := by decide +kernel
theorem dX1_passes_68 : decode cX1_passes 68 = .ok (.aload_n 3, 1) := by decide +kernel
theorem dX1_passes_69 : decode cX1_passes 69 = .ok (.aload_n 0, 1) := by decide +kernel
theorem dX1_passes_70 : decode cX1_passes 70 = .ok (.getfield 64, 3) := by decide +kernel
theorem dX1_passes_73 : decode cX1_passes 73 = .ok (.aload_n 0, 1) := by decide +kernel
theorem dX1_passes_74 : decode cX1_passes 74 = .ok (.getfield 67, 3) := by decide +kernel
theorem dX1_passes_77 : decode cX1_passes 77 = .ok (.aload_n 1, 1) := by decide +kernel
theorem dX1_passes_78 : decode cX1_passes 78 = .ok (.getfield 117, 3) := by decide +kernel
theorem dX1_passes_81 : decode cX1_passes 81 = .ok (.iconst 0, 1) := by decide +kernel
theorem dX1_passes_82 : decode cX1_passes 82 = .ok (.invokevirtual 140, 3) := by decide +kernel
theorem dX1_passes_85 : decode cX1_passes 85 = .ok (.ifCond .eq 7, 3) := by decide +kernel
theorem dX1_passes_88 : decode cX1_passes 88 = .ok (.iconst 1, 1) := by decide +kernel
theorem dX1_passes_89 : decode cX1_passes 89 = .ok (.goto 4, 3) := by decide +kernel
theorem dX1_passes_92 : decode cX1_passes 92 = .ok (.iconst 0, 1) := by decide +kernel
theorem dX1_passes_93 : decode cX1_passes 93 = .ok (.ireturn, 1) := by decide +kernel
theorem dX1_isLit_0 : decode cX1_isLit 0 = .ok (.aload_n 1, 1) := by decide +kernel
theorem dX1_isLit_1 : decode cX1_isLit 1 = .ok (.getfield 144, 3) := by decide +kernel
theorem dX1_isLit_4 : decode cX1_isLit 4 = .ok (.iconst 5, 1) := by decide +kernel
theorem dX1_isLit_5 : decode cX1_isLit 5 = .ok (.if_icmp .ne 20, 3) := by decide +kernel
theorem dX1_isLit_8 : decode cX1_isLit 8 = .ok (.aload_n 0, 1) := by decide +kernel
theorem dX1_isLit_9 : decode cX1_isLit 9 = .ok (.getfield 67, 3) := by decide +kernel
theorem dX1_isLit_12 : decode cX1_isLit 12 = .ok (.aload_n 1, 1) := by decide +kernel
theorem dX1_isLit_13 : decode cX1_isLit 13 = .ok (.getfield 147, 3) := by decide +kernel
theorem dX1_isLit_16 : decode cX1_isLit 16 = .ok (.if_icmp .ge 7, 3) := by decide +kernel
theorem dX1_isLit_19 : decode cX1_isLit 19 = .ok (.iconst 1, 1) := by decide +kernel
theorem dX1_isLit_20 : decode cX1_isLit 20 = .ok (.goto 4, 3) := by decide +kernel
theorem dX1_isLit_23 : decode cX1_isLit 23 = .ok (.iconst 0, 1) := by decide +kernel
theorem dX1_isLit_24 : decode cX1_isLit 24 = .ok (.ireturn, 1) := by decide +kernel
theorem dX1_isLit_25 : decode cX1_isLit 25 = .ok (.aload_n 1, 1) := by decide +kernel
theorem dX1_isLit_26 : decode cX1_isLit 26 = .ok (.getfield 144, 3) := by decide +kernel
theorem dX1_isLit_29 : decode cX1_isLit 29 = .ok (.iconst 3, 1) := by decide +kernel
theorem dX1_isLit_30 : decode cX1_isLit 30 = .ok (.if_icmp .eq 5, 3) := by decide +kernel
theorem dX1_isLit_33 : decode cX1_isLit 33 = .ok (.iconst 1, 1) := by decide +kernel
theorem dX1_isLit_34 : decode cX1_isLit 34 = .ok (.ireturn, 1) := by decide +kernel
theorem dX1_isLit_35 : decode cX1_isLit 35 = .ok (.aload_n 0, 1) := by decide +kernel
theorem dX1_isLit_36 : decode cX1_isLit 36 = .ok (.iconst 0, 1) := by decide +kernel
theorem dX1_isLit_37 : decode cX1_isLit 37 = .ok (.invokevirtual 136, 3) := by decide +kernel
theorem dX1_isLit_40 : decode cX1_isLit 40 = .ok (.astore_n 2, 1) := by decide +kernel
theorem dX1_isLit_41 : decode cX1_isLit 41 = .ok (.aload_n 2, 1) := by decide +kernel
theorem dX1_isLit_42 : decode cX1_isLit 42 = .ok (.ifnonnull 29, 3) := by decide +kernel
theorem dX1_isLit_45 : decode cX1_isLit 45 = .ok (.aload_n 0, 1) := by decide +kernel
theorem dX1_isLit_46 : decode cX1_isLit 46 = .ok (.getfield 64, 3) := by decide +kernel
theorem dX1_isLit_49 : decode cX1_isLit 49 = .ok (.bipush 18, 2) := by decide +kernel
theorem dX1_isLit_51 : decode cX1_isLit 51 = .ok (.if_icmp .ge 12, 3) := by decide +kernel
theorem dX1_isLit_54 : decode cX1_isLit 54 = .ok (.aload_n 0, 1) := by decide +kernel
theorem dX1_isLit_55 : decode cX1_isLit 55 = .ok (.getfield 64, 3) := by decide +kernel
theorem dX1_isLit_58 : decode cX1_isLit 58 = .ok (.bipush 6, 2) := by decide +kernel
theorem dX1_isLit_60 : decode cX1_isLit 60 = .ok (.if_icmp .ge 7, 3) := by decide +kernel
theorem dX1_isLit_63 : decode cX1_isLit 63 = .ok (.iconst 1, 1) := by decide +kernel
theorem dX1_isLit_64 : decode cX1_isLit 64 = .ok (.goto 32, 3) := by decide +kernel
theorem dX1_isLit_67 : decode cX1_isLit 67 = .ok (.iconst 0, 1) := by decide +kernel
theorem dX1_isLit_68 : decode cX1_isLit 68 = .ok (.goto 28, 3) := by decide +kernel
theorem dX1_isLit_71 : decode cX1_isLit 71 = .ok (.aload_n 2, 1) := by decide +kernel
theorem dX1_isLit_72 : decode cX1_isLit 72 = .ok (.aload_n 0, 1) := by decide +kernel
theorem dX1_isLit_73 : decode cX1_isLit 73 = .ok (.getfield 64, 3) := by decide +kernel
theorem dX1_isLit_76 : decode cX1_isLit 76 = .ok (.aload_n 0, 1) := by decide +kernel
theorem dX1_isLit_77 : decode cX1_isLit 77 = .ok (.getfield 67, 3) := by decide +kernel
theorem dX1_isLit_80 : decode cX1_isLit 80 = .ok (.aload_n 1, 1) := by decide +kernel
theorem dX1_isLit_81 : decode cX1_isLit 81 = .ok (.getfield 102, 3) := by decide +kernel
theorem dX1_isLit_84 : decode cX1_isLit 84 = .ok (.iconst 0, 1) := by decide +kernel
theorem dX1_isLit_85 : decode cX1_isLit 85 = .ok (.invokevirtual 140, 3) := by decide +kernel
theorem dX1_isLit_88 : decode cX1_isLit 88 = .ok (.ifCond .eq 7, 3) := by decide +kernel
theorem dX1_isLit_91 : decode cX1_isLit 91 = .ok (.iconst 1, 1) := by decide +kernel
theorem dX1_isLit_92 : decode cX1_isLit 92 = .ok (.goto 4, 3) := by decide +kernel
theorem dX1_isLit_95 : decode cX1_isLit 95 = .ok (.iconst 0, 1) := by decide +kernel
theorem dX1_isLit_96 : decode cX1_isLit 96 = .ok (.ireturn, 1) := by decide +kernel
theorem dX1_isObeyed_0 : decode cX1_isObeyed 0 = .ok (.aload_n 0, 1) := by decide +kernel
theorem dX1_isObeyed_1 : decode cX1_isObeyed 1 = .ok (.iconst 2, 1) := by decide +kernel
theorem dX1_isObeyed_2 : decode cX1_isObeyed 2 = .ok (.invokevirtual 136, 3) := by decide +kernel
theorem dX1_isObeyed_5 : decode cX1_isObeyed 5 = .ok (.astore_n 3, 1) := by decide +kernel
theorem dX1_isObeyed_6 : decode cX1_isObeyed 6 = .ok (.aload_n 3, 1) := by decide +kernel
theorem dX1_isObeyed_7 : decode cX1_isObeyed 7 = .ok (.ifnull 26, 3) := by decide +kernel
theorem dX1_isObeyed_10 : decode cX1_isObeyed 10 = .ok (.aload_n 3, 1) := by decide +kernel
theorem dX1_isObeyed_11 : decode cX1_isObeyed 11 = .ok (.aload_n 1, 1) := by decide +kernel
theorem dX1_isObeyed_12 : decode cX1_isObeyed 12 = .ok (.getfield 144, 3) := by decide +kernel
theorem dX1_isObeyed_15 : decode cX1_isObeyed 15 = .ok (.aload_n 1, 1) := by decide +kernel
theorem dX1_isObeyed_16 : decode cX1_isObeyed 16 = .ok (.getfield 144, 3) := by decide +kernel
theorem dX1_isObeyed_19 : decode cX1_isObeyed 19 = .ok (.invokestatic 150, 3) := by decide +kernel
theorem dX1_isObeyed_22 : decode cX1_isObeyed 22 = .ok (.iload_n 2, 1) := by decide +kernel
theorem dX1_isObeyed_23 : decode cX1_isObeyed 23 = .ok (.aload_n 0, 1) := by decide +kernel
theorem dX1_isObeyed_24 : decode cX1_isObeyed 24 = .ok (.getfield 64, 3) := by decide +kernel
theorem dX1_isObeyed_27 : decode cX1_isObeyed 27 = .ok (.invokevirtual 140, 3) := by decide +kernel
theorem dX1_isObeyed_30 : decode cX1_isObeyed 30 = .ok (.ifCond .eq 7, 3) := by decide +kernel
theorem dX1_isObeyed_33 : decode cX1_isObeyed 33 = .ok (.iconst 1, 1) := by decide +kernel
theorem dX1_isObeyed_34 : decode cX1_isObeyed 34 = .ok (.goto 4, 3) := by decide +kernel
theorem dX1_isObeyed_37 : decode cX1_isObeyed 37 = .ok (.iconst 0, 1) := by decide +kernel
theorem dX1_isObeyed_38 : decode cX1_isObeyed 38 = .ok (.ireturn, 1) := by decide +kernel
theorem dX1_textFor_0 : decode cX1_textFor 0 = .ok (.aload_n 0, 1) := by decide +kernel
theorem dX1_textFor_1 : decode cX1_textFor 1 = .ok (.getfield 39, 3) := by decide +kernel
theorem dX1_textFor_4 : decode cX1_textFor 4 = .ok (.iload_n 1, 1) := by decide +kernel
theorem dX1_textFor_5 : decode cX1_textFor 5 = .ok (.iaload, 1) := by decide +kernel
theorem dX1_textFor_6 : decode cX1_textFor 6 = .ok (.istore_n 2, 1) := by decide +kernel
theorem dX1_textFor_7 : decode cX1_textFor 7 = .ok (.iload_n 2, 1) := by decide +kernel
theorem dX1_textFor_8 : decode cX1_textFor 8 = .ok (.aload_n 0, 1) := by decide +kernel
theorem dX1_textFor_9 : decode cX1_textFor 9 = .ok (.getfield 58, 3) := by decide +kernel
theorem dX1_textFor_12 : decode cX1_textFor 12 = .ok (.invokestatic 94, 3) := by decide +kernel
theorem dX1_textFor_15 : decode cX1_textFor 15 = .ok (.ifCond .eq 12, 3) := by decide +kernel
theorem dX1_textFor_18 : decode cX1_textFor 18 = .ok (.aload_n 0, 1) := by decide +kernel
theorem dX1_textFor_19 : decode cX1_textFor 19 = .ok (.getfield 35, 3) := by decide +kernel
theorem dX1_textFor_22 : decode cX1_textFor 22 = .ok (.iload_n 2, 1) := by decide +kernel
theorem dX1_textFor_23 : decode cX1_textFor 23 = .ok (.aaload, 1) := by decide +kernel
theorem dX1_textFor_24 : decode cX1_textFor 24 = .ok (.goto 4, 3) := by decide +kernel
theorem dX1_textFor_27 : decode cX1_textFor 27 = .ok (.aconst_null, 1) := by decide +kernel
theorem dX1_textFor_28 : decode cX1_textFor 28 = .ok (.areturn, 1) := by decide +kernel
theorem dX1_draw_0 : decode cX1_draw 0 = .ok (.aload_n 0, 1) := by decide +kernel
theorem dX1_draw_1 : decode cX1_draw 1 = .ok (.aload_n 0, 1) := by decide +kernel
theorem dX1_draw_2 : decode cX1_draw 2 = .ok (.getfield 70, 3) := by decide +kernel
theorem dX1_draw_5 : decode cX1_draw 5 = .ok (.ldc 153, 2) := by decide +kernel
theorem dX1_draw_7 : decode cX1_draw 7 = .ok (.imul, 1) := by decide +kernel
theorem dX1_draw_8 : decode cX1_draw 8 = .ok (.sipush 12345, 3) := by decide +kernel
theorem dX1_draw_11 : decode cX1_draw 11 = .ok (.iadd, 1) := by decide +kernel
theorem dX1_draw_12 : decode cX1_draw 12 = .ok (.putfield 70, 3) := by decide +kernel
theorem dX1_draw_15 : decode cX1_draw 15 = .ok (.iload_n 1, 1) := by decide +kernel
theorem dX1_draw_16 : decode cX1_draw 16 = .ok (.iconst 1, 1) := by decide +kernel
theorem dX1_draw_17 : decode cX1_draw 17 = .ok (.if_icmp .ge 7, 3) := by decide +kernel
theorem dX1_draw_20 : decode cX1_draw 20 = .ok (.iconst 0, 1) := by decide +kernel
theorem dX1_draw_21 : decode cX1_draw 21 = .ok (.goto 12, 3) := by decide +kernel
theorem dX1_draw_24 : decode cX1_draw 24 = .ok (.aload_n 0, 1) := by decide +kernel
theorem dX1_draw_25 : decode cX1_draw 25 = .ok (.getfield 70, 3) := by decide +kernel
theorem dX1_draw_28 : decode cX1_draw 28 = .ok (.bipush 8, 2) := by decide +kernel
theorem dX1_draw_30 : decode cX1_draw 30 = .ok (.iushr, 1) := by decide +kernel
theorem dX1_draw_31 : decode cX1_draw 31 = .ok (.iload_n 1, 1) := by decide +kernel
theorem dX1_draw_32 : decode cX1_draw 32 = .ok (.irem, 1) := by decide +kernel
theorem dX1_draw_33 : decode cX1_draw 33 = .ok (.ireturn, 1) := by decide +kernel
theorem dX2_isBroken_0 : decode cX2_isBroken 0 = .ok (.aload_n 0, 1) := by decide +kernel
theorem dX2_isBroken_1 : decode cX2_isBroken 1 = .ok (.getfield 9, 3) := by decide +kernel
theorem dX2_isBroken_4 : decode cX2_isBroken 4 = .ok (.iload_n 1, 1) := by decide +kernel
theorem dX2_isBroken_5 : decode cX2_isBroken 5 = .ok (.aaload, 1) := by decide +kernel
theorem dX2_isBroken_6 : decode cX2_isBroken 6 = .ok (.astore 4, 2) := by decide +kernel
theorem dX2_isBroken_8 : decode cX2_isBroken 8 = .ok (.aload_n 0, 1) := by decide +kernel
theorem dX2_isBroken_9 : decode cX2_isBroken 9 = .ok (.aload 4, 2) := by decide +kernel
theorem dX2_isBroken_11 : decode cX2_isBroken 11 = .ok (.getfield 15, 3) := by decide +kernel
theorem dX2_isBroken_14 : decode cX2_isBroken 14 = .ok (.aload 4, 2) := by decide +kernel
theorem dX2_isBroken_16 : decode cX2_isBroken 16 = .ok (.getfield 21, 3) := by decide +kernel
theorem dX2_isBroken_19 : decode cX2_isBroken 19 = .ok (.iload_n 2, 1) := by decide +kernel
theorem dX2_isBroken_20 : decode cX2_isBroken 20 = .ok (.iaload, 1) := by decide +kernel
theorem dX2_isBroken_21 : decode cX2_isBroken 21 = .ok (.invokevirtual 25, 3) := by decide +kernel
theorem dX2_isBroken_24 : decode cX2_isBroken 24 = .ok (.istore 5, 2) := by decide +kernel
theorem dX2_isBroken_26 : decode cX2_isBroken 26 = .ok (.iload_n 3, 1) := by decide +kernel
theorem dX2_isBroken_27 : decode cX2_isBroken 27 = .ok (.tableswitch 107 1 4 #[29, 47, 54, 66], 29) := by decide +kernel
theorem dX2_isBroken_56 : decode cX2_isBroken 56 = .ok (.iload_n 2, 1) := by decide +kernel
theorem dX2_isBroken_57 : decode cX2_isBroken 57 = .ok (.aload 4, 2) := by decide +kernel
theorem dX2_isBroken_59 : decode cX2_isBroken 59 = .ok (.getfield 29, 3) := by decide +kernel
theorem dX2_isBroken_62 : decode cX2_isBroken 62 = .ok (.invokestatic 32, 3) := by decide +kernel
theorem dX2_isBroken_65 : decode cX2_isBroken 65 = .ok (.if_icmp .lt 7, 3) := by decide +kernel
theorem dX2_isBroken_68 : decode cX2_isBroken 68 = .ok (.iconst 1, 1) := by decide +kernel
theorem dX2_isBroken_69 : decode cX2_isBroken 69 = .ok (.goto 4, 3) := by decide +kernel
theorem dX2_isBroken_72 : decode cX2_isBroken 72 = .ok (.iconst 0, 1) := by decide +kernel
theorem dX2_isBroken_73 : decode cX2_isBroken 73 = .ok (.ireturn, 1) := by decide +kernel
theorem dX2_isBroken_74 : decode cX2_isBroken 74 = .ok (.aload_n 0, 1) := by decide +kernel
theorem dX2_isBroken_75 : decode cX2_isBroken 75 = .ok (.iload_n 1, 1) := by decide +kernel
theorem dX2_isBroken_76 : decode cX2_isBroken 76 = .ok (.iload_n 2, 1) := by decide +kernel
theorem dX2_isBroken_77 : decode cX2_isBroken 77 = .ok (.invokestatic 36, 3) := by decide +kernel
theorem dX2_isBroken_80 : decode cX2_isBroken 80 = .ok (.ireturn, 1) := by decide +kernel
theorem dX2_isBroken_81 : decode cX2_isBroken 81 = .ok (.iload 5, 2) := by decide +kernel
theorem dX2_isBroken_83 : decode cX2_isBroken 83 = .ok (.iconst (-1), 1) := by decide +kernel
theorem dX2_isBroken_84 : decode cX2_isBroken 84 = .ok (.if_icmp .ne 7, 3) := by decide +kernel
theorem dX2_isBroken_87 : decode cX2_isBroken 87 = .ok (.iconst 1, 1) := by decide +kernel
theorem dX2_isBroken_88 : decode cX2_isBroken 88 = .ok (.goto 4, 3) := by decide +kernel
theorem dX2_isBroken_91 : decode cX2_isBroken 91 = .ok (.iconst 0, 1) := by decide +kernel
theorem dX2_isBroken_92 : decode cX2_isBroken 92 = .ok (.ireturn, 1) := by decide +kernel
theorem dX2_isBroken_93 : decode cX2_isBroken 93 = .ok (.iload 5, 2) := by decide +kernel
theorem dX2_isBroken_95 : decode cX2_isBroken 95 = .ok (.iconst (-1), 1) := by decide +kernel
theorem dX2_isBroken_96 : decode cX2_isBroken 96 = .ok (.if_icmp .eq 36, 3) := by decide +kernel
theorem dX2_isBroken_99 : decode cX2_isBroken 99 = .ok (.aload_n 0, 1) := by decide +kernel
theorem dX2_isBroken_100 : decode cX2_isBroken 100 = .ok (.aload 4, 2) := by decide +kernel
theorem dX2_isBroken_102 : decode cX2_isBroken 102 = .ok (.getfield 42, 3) := by decide +kernel
theorem dX2_isBroken_105 : decode cX2_isBroken 105 = .ok (.iload_n 2, 1) := by decide +kernel
theorem dX2_isBroken_106 : decode cX2_isBroken 106 = .ok (.iaload, 1) := by decide +kernel
theorem dX2_isBroken_107 : decode cX2_isBroken 107 = .ok (.aload_n 0, 1) := by decide +kernel
theorem dX2_isBroken_108 : decode cX2_isBroken 108 = .ok (.getfield 45, 3) := by decide +kernel
theorem dX2_isBroken_111 : decode cX2_isBroken 111 = .ok (.iload 5, 2) := by decide +kernel
theorem dX2_isBroken_113 : decode cX2_isBroken 113 = .ok (.aaload, 1) := by decide +kernel
theorem dX2_isBroken_114 : decode cX2_isBroken 114 = .ok (.aload 4, 2) := by decide +kernel
theorem dX2_isBroken_116 : decode cX2_isBroken 116 = .ok (.getfield 15, 3) := by decide +kernel
theorem dX2_isBroken_119 : decode cX2_isBroken 119 = .ok (.invokevirtual 49, 3) := by decide +kernel
theorem dX2_isBroken_122 : decode cX2_isBroken 122 = .ok (.invokestatic 54, 3) := by decide +kernel
theorem dX2_isBroken_125 : decode cX2_isBroken 125 = .ok (.ifCond .eq 7, 3) := by decide +kernel
theorem dX2_isBroken_128 : decode cX2_isBroken 128 = .ok (.iconst 1, 1) := by decide +kernel
theorem dX2_isBroken_129 : decode cX2_isBroken 129 = .ok (.goto 4, 3) := by decide +kernel
theorem dX2_isBroken_132 : decode cX2_isBroken 132 = .ok (.iconst 0, 1) := by decide +kernel
theorem dX2_isBroken_133 : decode cX2_isBroken 133 = .ok (.ireturn, 1) := by decide +kernel
theorem dX2_isBroken_134 : decode cX2_isBroken 134 = .ok (.iconst 0, 1) := by decide +kernel
theorem dX2_isBroken_135 : decode cX2_isBroken 135 = .ok (.ireturn, 1) := by decide +kernel
theorem dX2_isQuarrel_0 : decode cX2_isQuarrel 0 = .ok (.aload_n 0, 1) := by decide +kernel
theorem dX2_isQuarrel_1 : decode cX2_isQuarrel 1 = .ok (.getfield 9, 3) := by decide +kernel
theorem dX2_isQuarrel_4 : decode cX2_isQuarrel 4 = .ok (.iload_n 1, 1) := by decide +kernel
theorem dX2_isQuarrel_5 : decode cX2_isQuarrel 5 = .ok (.aaload, 1) := by decide +kernel
theorem dX2_isQuarrel_6 : decode cX2_isQuarrel 6 = .ok (.astore_n 3, 1) := by decide +kernel
theorem dX2_isQuarrel_7 : decode cX2_isQuarrel 7 = .ok (.iconst 0, 1) := by decide +kernel
theorem dX2_isQuarrel_8 : decode cX2_isQuarrel 8 = .ok (.istore 4, 2) := by decide +kernel
theorem dX2_isQuarrel_10 : decode cX2_isQuarrel 10 = .ok (.iload 4, 2) := by decide +kernel
theorem dX2_isQuarrel_12 : decode cX2_isQuarrel 12 = .ok (.iload_n 1, 1) := by decide +kernel
theorem dX2_isQuarrel_13 : decode cX2_isQuarrel 13 = .ok (.if_icmp .ge 57, 3) := by decide +kernel
theorem dX2_isQuarrel_16 : decode cX2_isQuarrel 16 = .ok (.aload_n 0, 1) := by decide +kernel
theorem dX2_isQuarrel_17 : decode cX2_isQuarrel 17 = .ok (.getfield 9, 3) := by decide +kernel
theorem dX2_isQuarrel_20 : decode cX2_isQuarrel 20 = .ok (.iload 4, 2) := by decide +kernel
theorem dX2_isQuarrel_22 : decode cX2_isQuarrel 22 = .ok (.aaload, 1) := by decide +kernel
theorem dX2_isQuarrel_23 : decode cX2_isQuarrel 23 = .ok (.astore 5, 2) := by decide +kernel
theorem dX2_isQuarrel_25 : decode cX2_isQuarrel 25 = .ok (.aload 5, 2) := by decide +kernel
theorem dX2_isQuarrel_27 : decode cX2_isQuarrel 27 = .ok (.getfield 15, 3) := by decide +kernel
theorem dX2_isQuarrel_30 : decode cX2_isQuarrel 30 = .ok (.aload_n 3, 1) := by decide +kernel
theorem dX2_isQuarrel_31 : decode cX2_isQuarrel 31 = .ok (.getfield 15, 3) := by decide +kernel
theorem dX2_isQuarrel_34 : decode cX2_isQuarrel 34 = .ok (.if_icmp .ne 30, 3) := by decide +kernel
theorem dX2_isQuarrel_37 : decode cX2_isQuarrel 37 = .ok (.aload 5, 2) := by decide +kernel
theorem dX2_isQuarrel_39 : decode cX2_isQuarrel 39 = .ok (.aload_n 3, 1) := by decide +kernel
theorem dX2_isQuarrel_40 : decode cX2_isQuarrel 40 = .ok (.getfield 42, 3) := by decide +kernel
theorem dX2_isQuarrel_43 : decode cX2_isQuarrel 43 = .ok (.iload_n 2, 1) := by decide +kernel
theorem dX2_isQuarrel_44 : decode cX2_isQuarrel 44 = .ok (.iaload, 1) := by decide +kernel
theorem dX2_isQuarrel_45 : decode cX2_isQuarrel 45 = .ok (.aload_n 3, 1) := by decide +kernel
theorem dX2_isQuarrel_46 : decode cX2_isQuarrel 46 = .ok (.getfield 21, 3) := by decide +kernel
theorem dX2_isQuarrel_49 : decode cX2_isQuarrel 49 = .ok (.iload_n 2, 1) := by decide +kernel
theorem dX2_isQuarrel_50 : decode cX2_isQuarrel 50 = .ok (.iaload, 1) := by decide +kernel
theorem dX2_isQuarrel_51 : decode cX2_isQuarrel 51 = .ok (.aload 5, 2) := by decide +kernel
theorem dX2_isQuarrel_53 : decode cX2_isQuarrel 53 = .ok (.getfield 57, 3) := by decide +kernel
theorem dX2_isQuarrel_56 : decode cX2_isQuarrel 56 = .ok (.invokevirtual 60, 3) := by decide +kernel
theorem dX2_isQuarrel_59 : decode cX2_isQuarrel 59 = .ok (.ifCond .eq 5, 3) := by decide +kernel
theorem dX2_isQuarrel_62 : decode cX2_isQuarrel 62 = .ok (.iconst 1, 1) := by decide +kernel
theorem dX2_isQuarrel_63 : decode cX2_isQuarrel 63 = .ok (.ireturn, 1) := by decide +kernel
theorem dX2_isQuarrel_64 : decode cX2_isQuarrel 64 = .ok (.iinc 4 1, 3) := by decide +kernel
theorem dX2_isQuarrel_67 : decode cX2_isQuarrel 67 = .ok (.goto (-57), 3) := by decide +kernel
theorem dX2_isQuarrel_70 : decode cX2_isQuarrel 70 = .ok (.aload_n 3, 1) := by decide +kernel
theorem dX2_isQuarrel_71 : decode cX2_isQuarrel 71 = .ok (.aload_n 3, 1) := by decide +kernel
theorem dX2_isQuarrel_72 : decode cX2_isQuarrel 72 = .ok (.getfield 42, 3) := by decide +kernel
theorem dX2_isQuarrel_75 : decode cX2_isQuarrel 75 = .ok (.iload_n 2, 1) := by decide +kernel
theorem dX2_isQuarrel_76 : decode cX2_isQuarrel 76 = .ok (.iaload, 1) := by decide +kernel
theorem dX2_isQuarrel_77 : decode cX2_isQuarrel 77 = .ok (.aload_n 3, 1) := by decide +kernel
theorem dX2_isQuarrel_78 : decode cX2_isQuarrel 78 = .ok (.getfield 21, 3) := by decide +kernel
theorem dX2_isQuarrel_81 : decode cX2_isQuarrel 81 = .ok (.iload_n 2, 1) := by decide +kernel
theorem dX2_isQuarrel_82 : decode cX2_isQuarrel 82 = .ok (.iaload, 1) := by decide +kernel
theorem dX2_isQuarrel_83 : decode cX2_isQuarrel 83 = .ok (.iload_n 2, 1) := by decide +kernel
theorem dX2_isQuarrel_84 : decode cX2_isQuarrel 84 = .ok (.invokevirtual 60, 3) := by decide +kernel
theorem dX2_isQuarrel_87 : decode cX2_isQuarrel 87 = .ok (.ireturn, 1) := by decide +kernel
theorem dX2_isDropped_0 : decode cX2_isDropped 0 = .ok (.aload_n 0, 1) := by decide +kernel
theorem dX2_isDropped_1 : decode cX2_isDropped 1 = .ok (.iload_n 2, 1) := by decide +kernel
theorem dX2_isDropped_2 : decode cX2_isDropped 2 = .ok (.invokevirtual 64, 3) := by decide +kernel
theorem dX2_isDropped_5 : decode cX2_isDropped 5 = .ok (.iconst 3, 1) := by decide +kernel
theorem dX2_isDropped_6 : decode cX2_isDropped 6 = .ok (.if_icmp .lt 12, 3) := by decide +kernel
theorem dX2_isDropped_9 : decode cX2_isDropped 9 = .ok (.aload_n 0, 1) := by decide +kernel
theorem dX2_isDropped_10 : decode cX2_isDropped 10 = .ok (.iload_n 1, 1) := by decide +kernel
theorem dX2_isDropped_11 : decode cX2_isDropped 11 = .ok (.iload_n 2, 1) := by decide +kernel
theorem dX2_isDropped_12 : decode cX2_isDropped 12 = .ok (.invokestatic 67, 3) := by decide +kernel
theorem dX2_isDropped_15 : decode cX2_isDropped 15 = .ok (.ifCond .eq 5, 3) := by decide +kernel
theorem dX2_isDropped_18 : decode cX2_isDropped 18 = .ok (.iconst 0, 1) := by decide +kernel
theorem dX2_isDropped_19 : decode cX2_isDropped 19 = .ok (.ireturn, 1) := by decide +kernel
theorem dX2_isDropped_20 : decode cX2_isDropped 20 = .ok (.iconst 0, 1) := by decide +kernel
theorem dX2_isDropped_21 : decode cX2_isDropped 21 = .ok (.istore_n 3, 1) := by decide +kernel
theorem dX2_isDropped_22 : decode cX2_isDropped 22 = .ok (.iload_n 3, 1) := by decide +kernel
theorem dX2_isDropped_23 : decode cX2_isDropped 23 = .ok (.aload_n 0, 1) := by decide +kernel
theorem dX2_isDropped_24 : decode cX2_isDropped 24 = .ok (.getfield 70, 3) := by decide +kernel
theorem dX2_isDropped_27 : decode cX2_isDropped 27 = .ok (.if_icmp .ge 38, 3) := by decide +kernel
theorem dX2_isDropped_30 : decode cX2_isDropped 30 = .ok (.aload_n 0, 1) := by decide +kernel
theorem dX2_isDropped_31 : decode cX2_isDropped 31 = .ok (.getfield 9, 3) := by decide +kernel
theorem dX2_isDropped_34 : decode cX2_isDropped 34 = .ok (.iload_n 3, 1) := by decide +kernel
theorem dX2_isDropped_35 : decode cX2_isDropped 35 = .ok (.aaload, 1) := by decide +kernel
theorem dX2_isDropped_36 : decode cX2_isDropped 36 = .ok (.astore 4, 2) := by decide +kernel
theorem dX2_isDropped_38 : decode cX2_isDropped 38 = .ok (.aload 4, 2) := by decide +kernel
theorem dX2_isDropped_40 : decode cX2_isDropped 40 = .ok (.getfield 15, 3) := by decide +kernel
theorem dX2_isDropped_43 : decode cX2_isDropped 43 = .ok (.iload_n 2, 1) := by decide +kernel
theorem dX2_isDropped_44 : decode cX2_isDropped 44 = .ok (.if_icmp .ne 15, 3) := by decide +kernel
theorem dX2_isDropped_47 : decode cX2_isDropped 47 = .ok (.aload_n 0, 1) := by decide +kernel
theorem dX2_isDropped_48 : decode cX2_isDropped 48 = .ok (.aload 4, 2) := by decide +kernel
theorem dX2_isDropped_50 : decode cX2_isDropped 50 = .ok (.iload_n 1, 1) := by decide +kernel
theorem dX2_isDropped_51 : decode cX2_isDropped 51 = .ok (.invokestatic 73, 3) := by decide +kernel
theorem dX2_isDropped_54 : decode cX2_isDropped 54 = .ok (.ifCond .eq 5, 3) := by decide +kernel
theorem dX2_isDropped_57 : decode cX2_isDropped 57 = .ok (.iconst 0, 1) := by decide +kernel
theorem dX2_isDropped_58 : decode cX2_isDropped 58 = .ok (.ireturn, 1) := by decide +kernel
theorem dX2_isDropped_59 : decode cX2_isDropped 59 = .ok (.iinc 3 1, 3) := by decide +kernel
theorem dX2_isDropped_62 : decode cX2_isDropped 62 = .ok (.goto (-40), 3) := by decide +kernel
theorem dX2_isDropped_65 : decode cX2_isDropped 65 = .ok (.iconst 1, 1) := by decide +kernel
theorem dX2_isDropped_66 : decode cX2_isDropped 66 = .ok (.ireturn, 1) := by decide +kernel
theorem dX2_isThere_0 : decode cX2_isThere 0 = .ok (.iconst 0, 1) := by decide +kernel
theorem dX2_isThere_1 : decode cX2_isThere 1 = .ok (.istore_n 3, 1) := by decide +kernel
theorem dX2_isThere_2 : decode cX2_isThere 2 = .ok (.iload_n 3, 1) := by decide +kernel
theorem dX2_isThere_3 : decode cX2_isThere 3 = .ok (.aload_n 0, 1) := by decide +kernel
theorem dX2_isThere_4 : decode cX2_isThere 4 = .ok (.getfield 77, 3) := by decide +kernel
theorem dX2_isThere_7 : decode cX2_isThere 7 = .ok (.if_icmp .ge 35, 3) := by decide +kernel
theorem dX2_isThere_10 : decode cX2_isThere 10 = .ok (.aload_n 0, 1) := by decide +kernel
theorem dX2_isThere_11 : decode cX2_isThere 11 = .ok (.getfield 80, 3) := by decide +kernel
theorem dX2_isThere_14 : decode cX2_isThere 14 = .ok (.iload_n 3, 1) := by decide +kernel
theorem dX2_isThere_15 : decode cX2_isThere 15 = .ok (.iaload, 1) := by decide +kernel
theorem dX2_isThere_16 : decode cX2_isThere 16 = .ok (.iload_n 2, 1) := by decide +kernel
theorem dX2_isThere_17 : decode cX2_isThere 17 = .ok (.if_icmp .ne 19, 3) := by decide +kernel
theorem dX2_isThere_20 : decode cX2_isThere 20 = .ok (.iload_n 3, 1) := by decide +kernel
theorem dX2_isThere_21 : decode cX2_isThere 21 = .ok (.iload_n 1, 1) := by decide +kernel
theorem dX2_isThere_22 : decode cX2_isThere 22 = .ok (.if_icmp .eq 12, 3) := by decide +kernel
theorem dX2_isThere_25 : decode cX2_isThere 25 = .ok (.aload_n 0, 1) := by decide +kernel
theorem dX2_isThere_26 : decode cX2_isThere 26 = .ok (.iload_n 3, 1) := by decide +kernel
theorem dX2_isThere_27 : decode cX2_isThere 27 = .ok (.invokestatic 83, 3) := by decide +kernel
theorem dX2_isThere_30 : decode cX2_isThere 30 = .ok (.iload_n 1, 1) := by decide +kernel
theorem dX2_isThere_31 : decode cX2_isThere 31 = .ok (.if_icmp .ne 5, 3) := by decide +kernel
theorem dX2_isThere_34 : decode cX2_isThere 34 = .ok (.iconst 1, 1) := by decide +kernel
theorem dX2_isThere_35 : decode cX2_isThere 35 = .ok (.ireturn, 1) := by decide +kernel
theorem dX2_isThere_36 : decode cX2_isThere 36 = .ok (.iinc 3 1, 3) := by decide +kernel
theorem dX2_isThere_39 : decode cX2_isThere 39 = .ok (.goto (-37), 3) := by decide +kernel
theorem dX2_isThere_42 : decode cX2_isThere 42 = .ok (.iconst 0, 1) := by decide +kernel
theorem dX2_isThere_43 : decode cX2_isThere 43 = .ok (.ireturn, 1) := by decide +kernel
theorem dX2_goesOnAt_0 : decode cX2_goesOnAt 0 = .ok (.iconst 0, 1) := by decide +kernel
theorem dX2_goesOnAt_1 : decode cX2_goesOnAt 1 = .ok (.istore_n 3, 1) := by decide +kernel
theorem dX2_goesOnAt_2 : decode cX2_goesOnAt 2 = .ok (.iload_n 3, 1) := by decide +kernel
theorem dX2_goesOnAt_3 : decode cX2_goesOnAt 3 = .ok (.aload_n 1, 1) := by decide +kernel
theorem dX2_goesOnAt_4 : decode cX2_goesOnAt 4 = .ok (.getfield 57, 3) := by decide +kernel
theorem dX2_goesOnAt_7 : decode cX2_goesOnAt 7 = .ok (.if_icmp .ge 45, 3) := by decide +kernel
theorem dX2_goesOnAt_10 : decode cX2_goesOnAt 10 = .ok (.aload_n 1, 1) := by decide +kernel
theorem dX2_goesOnAt_11 : decode cX2_goesOnAt 11 = .ok (.getfield 42, 3) := by decide +kernel
theorem dX2_goesOnAt_14 : decode cX2_goesOnAt 14 = .ok (.iload_n 3, 1) := by decide +kernel
theorem dX2_goesOnAt_15 : decode cX2_goesOnAt 15 = .ok (.iaload, 1) := by decide +kernel
theorem dX2_goesOnAt_16 : decode cX2_goesOnAt 16 = .ok (.istore 4, 2) := by decide +kernel
theorem dX2_goesOnAt_18 : decode cX2_goesOnAt 18 = .ok (.iload 4, 2) := by decide +kernel
theorem dX2_goesOnAt_20 : decode cX2_goesOnAt 20 = .ok (.iload_n 2, 1) := by decide +kernel
theorem dX2_goesOnAt_21 : decode cX2_goesOnAt 21 = .ok (.if_icmp .eq 23, 3) := by decide +kernel
theorem dX2_goesOnAt_24 : decode cX2_goesOnAt 24 = .ok (.aload_n 0, 1) := by decide +kernel
theorem dX2_goesOnAt_25 : decode cX2_goesOnAt 25 = .ok (.iload_n 2, 1) := by decide +kernel
theorem dX2_goesOnAt_26 : decode cX2_goesOnAt 26 = .ok (.invokestatic 83, 3) := by decide +kernel
theorem dX2_goesOnAt_29 : decode cX2_goesOnAt 29 = .ok (.iload 4, 2) := by decide +kernel
theorem dX2_goesOnAt_31 : decode cX2_goesOnAt 31 = .ok (.if_icmp .eq 13, 3) := by decide +kernel
theorem dX2_goesOnAt_34 : decode cX2_goesOnAt 34 = .ok (.aload_n 0, 1) := by decide +kernel
theorem dX2_goesOnAt_35 : decode cX2_goesOnAt 35 = .ok (.iload 4, 2) := by decide +kernel
theorem dX2_goesOnAt_37 : decode cX2_goesOnAt 37 = .ok (.invokestatic 83, 3) := by decide +kernel
theorem dX2_goesOnAt_40 : decode cX2_goesOnAt 40 = .ok (.iload_n 2, 1) := by decide +kernel
theorem dX2_goesOnAt_41 : decode cX2_goesOnAt 41 = .ok (.if_icmp .ne 5, 3) := by decide +kernel
theorem dX2_goesOnAt_44 : decode cX2_goesOnAt 44 = .ok (.iconst 1, 1) := by decide +kernel
theorem dX2_goesOnAt_45 : decode cX2_goesOnAt 45 = .ok (.ireturn, 1) := by decide +kernel
theorem dX2_goesOnAt_46 : decode cX2_goesOnAt 46 = .ok (.iinc 3 1, 3) := by decide +kernel
theorem dX2_goesOnAt_49 : decode cX2_goesOnAt 49 = .ok (.goto (-47), 3) := by decide +kernel
theorem dX2_goesOnAt_52 : decode cX2_goesOnAt 52 = .ok (.iconst 0, 1) := by decide +kernel
theorem dX2_goesOnAt_53 : decode cX2_goesOnAt 53 = .ok (.ireturn, 1) := by decide +kernel
theorem dX2_groupName_0 : decode cX2_groupName 0 = .ok (.aload_n 0, 1) := by decide +kernel
theorem dX2_groupName_1 : decode cX2_groupName 1 = .ok (.iload_n 1, 1) := by decide +kernel
theorem dX2_groupName_2 : decode cX2_groupName 2 = .ok (.invokevirtual 87, 3) := by decide +kernel
theorem dX2_groupName_5 : decode cX2_groupName 5 = .ok (.ifCond .eq 17, 3) := by decide +kernel
theorem dX2_groupName_8 : decode cX2_groupName 8 = .ok (.aload_n 0, 1) := by decide +kernel
theorem dX2_groupName_9 : decode cX2_groupName 9 = .ok (.getfield 91, 3) := by decide +kernel
theorem dX2_groupName_12 : decode cX2_groupName 12 = .ok (.iload_n 1, 1) := by decide +kernel
theorem dX2_groupName_13 : decode cX2_groupName 13 = .ok (.iaload, 1) := by decide +kernel
theorem dX2_groupName_14 : decode cX2_groupName 14 = .ok (.iconst (-1), 1) := by decide +kernel
theorem dX2_groupName_15 : decode cX2_groupName 15 = .ok (.if_icmp .eq 7, 3) := by decide +kernel
theorem dX2_groupName_18 : decode cX2_groupName 18 = .ok (.iconst 1, 1) := by decide +kernel
theorem dX2_groupName_19 : decode cX2_groupName 19 = .ok (.goto 4, 3) := by decide +kernel
theorem dX2_groupName_22 : decode cX2_groupName 22 = .ok (.iconst 0, 1) := by decide +kernel
theorem dX2_groupName_23 : decode cX2_groupName 23 = .ok (.istore_n 2, 1) := by decide +kernel
theorem dX2_groupName_24 : decode cX2_groupName 24 = .ok (.iload_n 2, 1) := by decide +kernel
theorem dX2_groupName_25 : decode cX2_groupName 25 = .ok (.ifCond .eq 15, 3) := by decide +kernel
theorem dX2_groupName_28 : decode cX2_groupName 28 = .ok (.bipush 10, 2) := by decide +kernel
theorem dX2_groupName_30 : decode cX2_groupName 30 = .ok (.aload_n 0, 1) := by decide +kernel
theorem dX2_groupName_31 : decode cX2_groupName 31 = .ok (.getfield 91, 3) := by decide +kernel
theorem dX2_groupName_34 : decode cX2_groupName 34 = .ok (.iload_n 1, 1) := by decide +kernel
theorem dX2_groupName_35 : decode cX2_groupName 35 = .ok (.iaload, 1) := by decide +kernel
theorem dX2_groupName_36 : decode cX2_groupName 36 = .ok (.iadd, 1) := by decide +kernel
theorem dX2_groupName_37 : decode cX2_groupName 37 = .ok (.goto 4, 3) := by decide +kernel
theorem dX2_groupName_40 : decode cX2_groupName 40 = .ok (.iconst (-1), 1) := by decide +kernel
theorem dX2_groupName_41 : decode cX2_groupName 41 = .ok (.ireturn, 1) := by decide +kernel
theorem dX3_init_0 : decode cX3_init 0 = .ok (.aload_n 0, 1) := by decide +kernel
theorem dX3_init_1 : decode cX3_init 1 = .ok (.invokespecial 3, 3) := by decide +kernel
theorem dX3_init_4 : decode cX3_init 4 = .ok (.aload_n 0, 1) := by decide +kernel
theorem dX3_init_5 : decode cX3_init 5 = .ok (.bipush 96, 2) := by decide +kernel
theorem dX3_init_7 : decode cX3_init 7 = .ok (.newarray .byte, 2) := by decide +kernel
theorem dX3_init_9 : decode cX3_init 9 = .ok (.putfield 9, 3) := by decide +kernel
theorem dX3_init_12 : decode cX3_init 12 = .ok (.aload_n 0, 1) := by decide +kernel
theorem dX3_init_13 : decode cX3_init 13 = .ok (.iconst 0, 1) := by decide +kernel
theorem dX3_init_14 : decode cX3_init 14 = .ok (.putfield 15, 3) := by decide +kernel
theorem dX3_init_17 : decode cX3_init 17 = .ok (.aload_n 0, 1) := by decide +kernel
theorem dX3_init_18 : decode cX3_init 18 = .ok (.iconst (-1), 1) := by decide +kernel
theorem dX3_init_19 : decode cX3_init 19 = .ok (.putfield 19, 3) := by decide +kernel
theorem dX3_init_22 : decode cX3_init 22 = .ok (.aload_n 0, 1) := by decide +kernel
theorem dX3_init_23 : decode cX3_init 23 = .ok (.iconst 0, 1) := by decide +kernel
theorem dX3_init_24 : decode cX3_init 24 = .ok (.putfield 22, 3) := by decide +kernel
theorem dX3_init_27 : decode cX3_init 27 = .ok (.aload_n 0, 1) := by decide +kernel
theorem dX3_init_28 : decode cX3_init 28 = .ok (.iconst 0, 1) := by decide +kernel
theorem dX3_init_29 : decode cX3_init 29 = .ok (.putfield 25, 3) := by decide +kernel
theorem dX3_init_32 : decode cX3_init 32 = .ok (.aload_n 0, 1) := by decide +kernel
theorem dX3_init_33 : decode cX3_init 33 = .ok (.iconst (-1), 1) := by decide +kernel
theorem dX3_init_34 : decode cX3_init 34 = .ok (.putfield 28, 3) := by decide +kernel
theorem dX3_init_37 : decode cX3_init 37 = .ok (.aload_n 0, 1) := by decide +kernel
theorem dX3_init_38 : decode cX3_init 38 = .ok (.iconst 0, 1) := by decide +kernel
theorem dX3_init_39 : decode cX3_init 39 = .ok (.putfield 31, 3) := by decide +kernel
theorem dX3_init_42 : decode cX3_init 42 = .ok (.aload_n 0, 1) := by decide +kernel
theorem dX3_init_43 : decode cX3_init 43 = .ok (.bipush 96, 2) := by decide +kernel
theorem dX3_init_45 : decode cX3_init 45 = .ok (.newarray .int, 2) := by decide +kernel
theorem dX3_init_47 : decode cX3_init 47 = .ok (.putfield 34, 3) := by decide +kernel
theorem dX3_init_50 : decode cX3_init 50 = .ok (.aload_n 0, 1) := by decide +kernel
theorem dX3_init_51 : decode cX3_init 51 = .ok (.iconst 0, 1) := by decide +kernel
theorem dX3_init_52 : decode cX3_init 52 = .ok (.putfield 38, 3) := by decide +kernel
theorem dX3_init_55 : decode cX3_init 55 = .ok (.aload_n 0, 1) := by decide +kernel
theorem dX3_init_56 : decode cX3_init 56 = .ok (.iconst 0, 1) := by decide +kernel
theorem dX3_init_57 : decode cX3_init 57 = .ok (.putfield 41, 3) := by decide +kernel
theorem dX3_init_60 : decode cX3_init 60 = .ok (.aload_n 0, 1) := by decide +kernel
theorem dX3_init_61 : decode cX3_init 61 = .ok (.iconst 0, 1) := by decide +kernel
theorem dX3_init_62 : decode cX3_init 62 = .ok (.putfield 44, 3) := by decide +kernel
theorem dX3_init_65 : decode cX3_init 65 = .ok (.aload_n 0, 1) := by decide +kernel
theorem dX3_init_66 : decode cX3_init 66 = .ok (.iconst 0, 1) := by decide +kernel
theorem dX3_init_67 : decode cX3_init 67 = .ok (.putfield 47, 3) := by decide +kernel
theorem dX3_init_70 : decode cX3_init 70 = .ok (.return_, 1) := by decide +kernel
theorem dX3_append_0 : decode cX3_append 0 = .ok (.bipush 24, 2) := by decide +kernel
theorem dX3_append_2 : decode cX3_append 2 = .ok (.istore_n 2, 1) := by decide +kernel
theorem dX3_append_3 : decode cX3_append 3 = .ok (.iload_n 2, 1) := by decide +kernel
theorem dX3_append_4 : decode cX3_append 4 = .ok (.ifCond .lt 41, 3) := by decide +kernel
theorem dX3_append_7 : decode cX3_append 7 = .ok (.aload_n 0, 1) := by decide +kernel
theorem dX3_append_8 : decode cX3_append 8 = .ok (.getfield 15, 3) := by decide +kernel
theorem dX3_append_11 : decode cX3_append 11 = .ok (.bipush 96, 2) := by decide +kernel
theorem dX3_append_13 : decode cX3_append 13 = .ok (.if_icmp .ge 32, 3) := by decide +kernel
theorem dX3_append_16 : decode cX3_append 16 = .ok (.aload_n 0, 1) := by decide +kernel
theorem dX3_append_17 : decode cX3_append 17 = .ok (.getfield 9, 3) := by decide +kernel
theorem dX3_append_20 : decode cX3_append 20 = .ok (.aload_n 0, 1) := by decide +kernel
theorem dX3_append_21 : decode cX3_append 21 = .ok (.getfield 15, 3) := by decide +kernel
theorem dX3_append_24 : decode cX3_append 24 = .ok (.iload_n 1, 1) := by decide +kernel
theorem dX3_append_25 : decode cX3_append 25 = .ok (.iload_n 2, 1) := by decide +kernel
theorem dX3_append_26 : decode cX3_append 26 = .ok (.ishr, 1) := by decide +kernel
theorem dX3_append_27 : decode cX3_append 27 = .ok (.i2b, 1) := by decide +kernel
theorem dX3_append_28 : decode cX3_append 28 = .ok (.bastore, 1) := by decide +kernel
theorem dX3_append_29 : decode cX3_append 29 = .ok (.aload_n 0, 1) := by decide +kernel
theorem dX3_append_30 : decode cX3_append 30 = .ok (.dup, 1) := by decide +kernel
theorem dX3_append_31 : decode cX3_append 31 = .ok (.getfield 15, 3) := by decide +kernel
theorem dX3_append_34 : decode cX3_append 34 = .ok (.iconst 1, 1) := by decide +kernel
theorem dX3_append_35 : decode cX3_append 35 = .ok (.iadd, 1) := by decide +kernel
theorem dX3_append_36 : decode cX3_append 36 = .ok (.putfield 15, 3) := by decide +kernel
theorem dX3_append_39 : decode cX3_append 39 = .ok (.iinc 2 (-8), 3) := by decide +kernel
theorem dX3_append_42 : decode cX3_append 42 = .ok (.goto (-39), 3) := by decide +kernel
theorem dX3_append_45 : decode cX3_append 45 = .ok (.return_, 1) := by decide +kernel
theorem dX3_readTape_0 : decode cX3_readTape 0 = .ok (.aload_n 0, 1) := by decide +kernel
theorem dX3_readTape_1 : decode cX3_readTape 1 = .ok (.iconst (-1), 1) := by decide +kernel
theorem dX3_readTape_2 : decode cX3_readTape 2 = .ok (.putfield 19, 3) := by decide +kernel
theorem dX3_readTape_5 : decode cX3_readTape 5 = .ok (.aload_n 0, 1) := by decide +kernel
theorem dX3_readTape_6 : decode cX3_readTape 6 = .ok (.iconst 0, 1) := by decide +kernel
theorem dX3_readTape_7 : decode cX3_readTape 7 = .ok (.putfield 25, 3) := by decide +kernel
theorem dX3_readTape_10 : decode cX3_readTape 10 = .ok (.aload_n 0, 1) := by decide +kernel
theorem dX3_readTape_11 : decode cX3_readTape 11 = .ok (.iconst (-1), 1) := by decide +kernel
theorem dX3_readTape_12 : decode cX3_readTape 12 = .ok (.putfield 28, 3) := by decide +kernel
theorem dX3_readTape_15 : decode cX3_readTape 15 = .ok (.aload_n 0, 1) := by decide +kernel
theorem dX3_readTape_16 : decode cX3_readTape 16 = .ok (.iconst 0, 1) := by decide +kernel
theorem dX3_readTape_17 : decode cX3_readTape 17 = .ok (.putfield 38, 3) := by decide +kernel
theorem dX3_readTape_20 : decode cX3_readTape 20 = .ok (.aload_n 0, 1) := by decide +kernel
theorem dX3_readTape_21 : decode cX3_readTape 21 = .ok (.iconst 0, 1) := by decide +kernel
theorem dX3_readTape_22 : decode cX3_readTape 22 = .ok (.putfield 41, 3) := by decide +kernel
theorem dX3_readTape_25 : decode cX3_readTape 25 = .ok (.aload_n 0, 1) := by decide +kernel
theorem dX3_readTape_26 : decode cX3_readTape 26 = .ok (.iconst 0, 1) := by decide +kernel
theorem dX3_readTape_27 : decode cX3_readTape 27 = .ok (.putfield 44, 3) := by decide +kernel
theorem dX3_readTape_30 : decode cX3_readTape 30 = .ok (.aload_n 0, 1) := by decide +kernel
theorem dX3_readTape_31 : decode cX3_readTape 31 = .ok (.iconst 0, 1) := by decide +kernel
theorem dX3_readTape_32 : decode cX3_readTape 32 = .ok (.putfield 47, 3) := by decide +kernel
theorem dX3_readTape_35 : decode cX3_readTape 35 = .ok (.aload_n 0, 1) := by decide +kernel
theorem dX3_readTape_36 : decode cX3_readTape 36 = .ok (.invokevirtual 50, 3) := by decide +kernel
theorem dX3_readTape_39 : decode cX3_readTape 39 = .ok (.aload_n 0, 1) := by decide +kernel
theorem dX3_readTape_40 : decode cX3_readTape 40 = .ok (.invokevirtual 53, 3) := by decide +kernel
theorem dX3_readTape_43 : decode cX3_readTape 43 = .ok (.aload_n 0, 1) := by decide +kernel
theorem dX3_readTape_44 : decode cX3_readTape 44 = .ok (.iconst 0, 1) := by decide +kernel
theorem dX3_readTape_45 : decode cX3_readTape 45 = .ok (.invokevirtual 56, 3) := by decide +kernel
theorem dX3_readTape_48 : decode cX3_readTape 48 = .ok (.aload_n 0, 1) := by decide +kernel
theorem dX3_readTape_49 : decode cX3_readTape 49 = .ok (.getfield 28, 3) := by decide +kernel
theorem dX3_readTape_52 : decode cX3_readTape 52 = .ok (.iconst (-1), 1) := by decide +kernel
theorem dX3_readTape_53 : decode cX3_readTape 53 = .ok (.if_icmp .ne 19, 3) := by decide +kernel
theorem dX3_readTape_56 : decode cX3_readTape 56 = .ok (.aload_n 0, 1) := by decide +kernel
theorem dX3_readTape_57 : decode cX3_readTape 57 = .ok (.getfield 19, 3) := by decide +kernel
theorem dX3_readTape_60 : decode cX3_readTape 60 = .ok (.iconst (-1), 1) := by decide +kernel
theorem dX3_readTape_61 : decode cX3_readTape 61 = .ok (.if_icmp .eq 11, 3) := by decide +kernel
theorem dX3_readTape_64 : decode cX3_readTape 64 = .ok (.aload_n 0, 1) := by decide +kernel
theorem dX3_readTape_65 : decode cX3_readTape 65 = .ok (.aload_n 0, 1) := by decide +kernel
theorem dX3_readTape_66 : decode cX3_readTape 66 = .ok (.getfield 22, 3) := by decide +kernel
theorem dX3_readTape_69 : decode cX3_readTape 69 = .ok (.putfield 28, 3) := by decide +kernel
theorem dX3_readTape_72 : decode cX3_readTape 72 = .ok (.aload_n 0, 1) := by decide +kernel
theorem dX3_readTape_73 : decode cX3_readTape 73 = .ok (.iconst 0, 1) := by decide +kernel
theorem dX3_readTape_74 : decode cX3_readTape 74 = .ok (.putfield 15, 3) := by decide +kernel
theorem dX3_readTape_77 : decode cX3_readTape 77 = .ok (.aload_n 0, 1) := by decide +kernel
theorem dX3_readTape_78 : decode cX3_readTape 78 = .ok (.getfield 28, 3) := by decide +kernel
theorem dX3_readTape_81 : decode cX3_readTape 81 = .ok (.ireturn, 1) := by decide +kernel
theorem dX3_makeText_0 : decode cX3_makeText 0 = .ok (.new 60, 3) := by decide +kernel
theorem dX3_makeText_3 : decode cX3_makeText 3 = .ok (.dup, 1) := by decide +kernel
theorem dX3_makeText_4 : decode cX3_makeText 4 = .ok (.aload_n 0, 1) := by decide +kernel
theorem dX3_makeText_5 : decode cX3_makeText 5 = .ok (.getfield 31, 3) := by decide +kernel
theorem dX3_makeText_8 : decode cX3_makeText 8 = .ok (.aload_n 0, 1) := by decide +kernel
theorem dX3_makeText_9 : decode cX3_makeText 9 = .ok (.getfield 41, 3) := by decide +kernel
theorem dX3_makeText_12 : decode cX3_makeText 12 = .ok (.aload_n 0, 1) := by decide +kernel
theorem dX3_makeText_13 : decode cX3_makeText 13 = .ok (.getfield 34, 3) := by decide +kernel
theorem dX3_makeText_16 : decode cX3_makeText 16 = .ok (.aload_n 0, 1) := by decide +kernel
theorem dX3_makeText_17 : decode cX3_makeText 17 = .ok (.getfield 38, 3) := by decide +kernel
theorem dX3_makeText_20 : decode cX3_makeText 20 = .ok (.invokestatic 62, 3) := by decide +kernel
theorem dX3_makeText_23 : decode cX3_makeText 23 = .ok (.invokespecial 68, 3) := by decide +kernel
theorem dX3_makeText_26 : decode cX3_makeText 26 = .ok (.areturn, 1) := by decide +kernel
theorem dX3_look_0 : decode cX3_look 0 = .ok (.aload_n 0, 1) := by decide +kernel
theorem dX3_look_1 : decode cX3_look 1 = .ok (.getfield 19, 3) := by decide +kernel
theorem dX3_look_4 : decode cX3_look 4 = .ok (.bipush (-2), 2) := by decide +kernel
theorem dX3_look_6 : decode cX3_look 6 = .ok (.if_icmp .eq 12, 3) := by decide +kernel
theorem dX3_look_9 : decode cX3_look 9 = .ok (.aload_n 0, 1) := by decide +kernel
theorem dX3_look_10 : decode cX3_look 10 = .ok (.getfield 19, 3) := by decide +kernel
theorem dX3_look_13 : decode cX3_look 13 = .ok (.bipush (-3), 2) := by decide +kernel
theorem dX3_look_15 : decode cX3_look 15 = .ok (.if_icmp .ne 10, 3) := by decide +kernel
theorem dX3_look_18 : decode cX3_look 18 = .ok (.aload_n 0, 1) := by decide +kernel
theorem dX3_look_19 : decode cX3_look 19 = .ok (.getfield 25, 3) := by decide +kernel
theorem dX3_look_22 : decode cX3_look 22 = .ok (.goto 4, 3) := by decide +kernel
theorem dX3_look_25 : decode cX3_look 25 = .ok (.iconst (-1), 1) := by decide +kernel
theorem dX3_look_26 : decode cX3_look 26 = .ok (.istore_n 1, 1) := by decide +kernel
theorem dX3_look_27 : decode cX3_look 27 = .ok (.aload_n 0, 1) := by decide +kernel
theorem dX3_look_28 : decode cX3_look 28 = .ok (.aload_n 0, 1) := by decide +kernel
theorem dX3_look_29 : decode cX3_look 29 = .ok (.getfield 25, 3) := by decide +kernel
theorem dX3_look_32 : decode cX3_look 32 = .ok (.putfield 22, 3) := by decide +kernel
theorem dX3_look_35 : decode cX3_look 35 = .ok (.aload_n 0, 1) := by decide +kernel
theorem dX3_look_36 : decode cX3_look 36 = .ok (.getfield 22, 3) := by decide +kernel
theorem dX3_look_39 : decode cX3_look 39 = .ok (.aload_n 0, 1) := by decide +kernel
theorem dX3_look_40 : decode cX3_look 40 = .ok (.getfield 15, 3) := by decide +kernel
theorem dX3_look_43 : decode cX3_look 43 = .ok (.if_icmp .ge 30, 3) := by decide +kernel
theorem dX3_look_46 : decode cX3_look 46 = .ok (.aload_n 0, 1) := by decide +kernel
theorem dX3_look_47 : decode cX3_look 47 = .ok (.getfield 9, 3) := by decide +kernel
theorem dX3_look_50 : decode cX3_look 50 = .ok (.aload_n 0, 1) := by decide +kernel
theorem dX3_look_51 : decode cX3_look 51 = .ok (.getfield 22, 3) := by decide +kernel
theorem dX3_look_54 : decode cX3_look 54 = .ok (.baload, 1) := by decide +kernel
theorem dX3_look_55 : decode cX3_look 55 = .ok (.bipush 32, 2) := by decide +kernel
theorem dX3_look_57 : decode cX3_look 57 = .ok (.if_icmp .ne 16, 3) := by decide +kernel
theorem dX3_look_60 : decode cX3_look 60 = .ok (.aload_n 0, 1) := by decide +kernel
theorem dX3_look_61 : decode cX3_look 61 = .ok (.dup, 1) := by decide +kernel
theorem dX3_look_62 : decode cX3_look 62 = .ok (.getfield 22, 3) := by decide +kernel
theorem dX3_look_65 : decode cX3_look 65 = .ok (.iconst 1, 1) := by decide +kernel
theorem dX3_look_66 : decode cX3_look 66 = .ok (.iadd, 1) := by decide +kernel
theorem dX3_look_67 : decode cX3_look 67 = .ok (.putfield 22, 3) := by decide +kernel
theorem dX3_look_70 : decode cX3_look 70 = .ok (.goto (-35), 3) := by decide +kernel
theorem dX3_look_73 : decode cX3_look 73 = .ok (.aload_n 0, 1) := by decide +kernel
theorem dX3_look_74 : decode cX3_look 74 = .ok (.aload_n 0, 1) := by decide +kernel
theorem dX3_look_75 : decode cX3_look 75 = .ok (.getfield 22, 3) := by decide +kernel
theorem dX3_look_78 : decode cX3_look 78 = .ok (.putfield 25, 3) := by decide +kernel
theorem dX3_look_81 : decode cX3_look 81 = .ok (.aload_n 0, 1) := by decide +kernel
theorem dX3_look_82 : decode cX3_look 82 = .ok (.getfield 22, 3) := by decide +kernel
theorem dX3_look_85 : decode cX3_look 85 = .ok (.aload_n 0, 1) := by decide +kernel
theorem dX3_look_86 : decode cX3_look 86 = .ok (.getfield 15, 3) := by decide +kernel
theorem dX3_look_89 : decode cX3_look 89 = .ok (.if_icmp .lt 11, 3) := by decide +kernel
theorem dX3_look_92 : decode cX3_look 92 = .ok (.aload_n 0, 1) := by decide +kernel
theorem dX3_look_93 : decode cX3_look 93 = .ok (.iconst (-1), 1) := by decide +kernel
theorem dX3_look_94 : decode cX3_look 94 = .ok (.putfield 19, 3) := by decide +kernel
theorem dX3_look_97 : decode cX3_look 97 = .ok (.goto 60, 3) := by decide +kernel
theorem dX3_look_100 : decode cX3_look 100 = .ok (.aload_n 0, 1) := by decide +kernel
theorem dX3_look_101 : decode cX3_look 101 = .ok (.aload_n 0, 1) := by decide +kernel
theorem dX3_look_102 : decode cX3_look 102 = .ok (.getfield 22, 3) := by decide +kernel
theorem dX3_look_105 : decode cX3_look 105 = .ok (.invokevirtual 71, 3) := by decide +kernel
theorem dX3_look_108 : decode cX3_look 108 = .ok (.ifCond .ne 14, 3) := by decide +kernel
theorem dX3_look_111 : decode cX3_look 111 = .ok (.aload_n 0, 1) := by decide +kernel
theorem dX3_look_112 : decode cX3_look 112 = .ok (.aload_n 0, 1) := by decide +kernel
theorem dX3_look_113 : decode cX3_look 113 = .ok (.getfield 22, 3) := by decide +kernel
theorem dX3_look_116 : decode cX3_look 116 = .ok (.invokevirtual 75, 3) := by decide +kernel
theorem dX3_look_119 : decode cX3_look 119 = .ok (.ifCond .eq 11, 3) := by decide +kernel
theorem dX3_look_122 : decode cX3_look 122 = .ok (.aload_n 0, 1) := by decide +kernel
theorem dX3_look_123 : decode cX3_look 123 = .ok (.iload_n 1, 1) := by decide +kernel
theorem dX3_look_124 : decode cX3_look 124 = .ok (.invokevirtual 78, 3) := by decide +kernel
theorem dX3_look_127 : decode cX3_look 127 = .ok (.goto 30, 3) := by decide +kernel
theorem dX3_look_130 : decode cX3_look 130 = .ok (.aload_n 0, 1) := by decide +kernel
theorem dX3_look_131 : decode cX3_look 131 = .ok (.aload_n 0, 1) := by decide +kernel
theorem dX3_look_132 : decode cX3_look 132 = .ok (.getfield 9, 3) := by decide +kernel
theorem dX3_look_135 : decode cX3_look 135 = .ok (.aload_n 0, 1) := by decide +kernel
theorem dX3_look_136 : decode cX3_look 136 = .ok (.getfield 22, 3) := by decide +kernel
theorem dX3_look_139 : decode cX3_look 139 = .ok (.baload, 1) := by decide +kernel
theorem dX3_look_140 : decode cX3_look 140 = .ok (.sipush 255, 3) := by decide +kernel
theorem dX3_look_143 : decode cX3_look 143 = .ok (.iand, 1) := by decide +kernel
theorem dX3_look_144 : decode cX3_look 144 = .ok (.putfield 19, 3) := by decide +kernel
theorem dX3_look_147 : decode cX3_look 147 = .ok (.aload_n 0, 1) := by decide +kernel
theorem dX3_look_148 : decode cX3_look 148 = .ok (.aload_n 0, 1) := by decide +kernel
theorem dX3_look_149 : decode cX3_look 149 = .ok (.getfield 22, 3) := by decide +kernel
theorem dX3_look_152 : decode cX3_look 152 = .ok (.iconst 1, 1) := by decide +kernel
theorem dX3_look_153 : decode cX3_look 153 = .ok (.iadd, 1) := by decide +kernel
theorem dX3_look_154 : decode cX3_look 154 = .ok (.putfield 25, 3) := by decide +kernel
theorem dX3_look_157 : decode cX3_look 157 = .ok (.return_, 1) := by decide +kernel
theorem dX3_lookAtWord_0 : decode cX3_lookAtWord 0 = .ok (.aload_n 0, 1) := by decide +kernel
theorem dX3_lookAtWord_1 : decode cX3_lookAtWord 1 = .ok (.aload_n 0, 1) := by decide +kernel
theorem dX3_lookAtWord_2 : decode cX3_lookAtWord 2 = .ok (.getfield 22, 3) := by decide +kernel
theorem dX3_lookAtWord_5 : decode cX3_lookAtWord 5 = .ok (.invokevirtual 71, 3) := by decide +kernel
theorem dX3_lookAtWord_8 : decode cX3_lookAtWord 8 = .ok (.istore_n 2, 1) := by decide +kernel
theorem dX3_lookAtWord_9 : decode cX3_lookAtWord 9 = .ok (.aload_n 0, 1) := by decide +kernel
theorem dX3_lookAtWord_10 : decode cX3_lookAtWord 10 = .ok (.getfield 25, 3) := by decide +kernel
theorem dX3_lookAtWord_13 : decode cX3_lookAtWord 13 = .ok (.aload_n 0, 1) := by decide +kernel
theorem dX3_lookAtWord_14 : decode cX3_lookAtWord 14 = .ok (.getfield 15, 3) := by decide +kernel
theorem dX3_lookAtWord_17 : decode cX3_lookAtWord 17 = .ok (.if_icmp .ge 45, 3) := by decide +kernel
theorem dX3_lookAtWord_20 : decode cX3_lookAtWord 20 = .ok (.iload_n 2, 1) := by decide +kernel
theorem dX3_lookAtWord_21 : decode cX3_lookAtWord 21 = .ok (.ifCond .eq 17, 3) := by decide +kernel
theorem dX3_lookAtWord_24 : decode cX3_lookAtWord 24 = .ok (.aload_n 0, 1) := by decide +kernel
theorem dX3_lookAtWord_25 : decode cX3_lookAtWord 25 = .ok (.aload_n 0, 1) := by decide +kernel
theorem dX3_lookAtWord_26 : decode cX3_lookAtWord 26 = .ok (.getfield 25, 3) := by decide +kernel
theorem dX3_lookAtWord_29 : decode cX3_lookAtWord 29 = .ok (.invokevirtual 71, 3) := by decide +kernel
theorem dX3_lookAtWord_32 : decode cX3_lookAtWord 32 = .ok (.ifCond .eq 30, 3) := by decide +kernel
theorem dX3_lookAtWord_35 : decode cX3_lookAtWord 35 = .ok (.goto 14, 3) := by decide +kernel
theorem dX3_lookAtWord_38 : decode cX3_lookAtWord 38 = .ok (.aload_n 0, 1) := by decide +kernel
theorem dX3_lookAtWord_39 : decode cX3_lookAtWord 39 = .ok (.aload_n 0, 1) := by decide +kernel
theorem dX3_lookAtWord_40 : decode cX3_lookAtWord 40 = .ok (.getfield 25, 3) := by decide +kernel
theorem dX3_lookAtWord_43 : decode cX3_lookAtWord 43 = .ok (.invokevirtual 75, 3) := by decide +kernel
theorem dX3_lookAtWord_46 : decode cX3_lookAtWord 46 = .ok (.ifCond .eq 16, 3) := by decide +kernel
theorem dX3_lookAtWord_49 : decode cX3_lookAtWord 49 = .ok (.aload_n 0, 1) := by decide +kernel
theorem dX3_lookAtWord_50 : decode cX3_lookAtWord 50 = .ok (.dup, 1) := by decide +kernel
theorem dX3_lookAtWord_51 : decode cX3_lookAtWord 51 = .ok (.getfield 25, 3) := by decide +kernel
theorem dX3_lookAtWord_54 : decode cX3_lookAtWord 54 = .ok (.iconst 1, 1) := by decide +kernel
theorem dX3_lookAtWord_55 : decode cX3_lookAtWord 55 = .ok (.iadd, 1) := by decide +kernel
theorem dX3_lookAtWord_56 : decode cX3_lookAtWord 56 = .ok (.putfield 25, 3) := by decide +kernel
theorem dX3_lookAtWord_59 : decode cX3_lookAtWord 59 = .ok (.goto (-50), 3) := by decide +kernel
theorem dX3_lookAtWord_62 : decode cX3_lookAtWord 62 = .ok (.aload_n 0, 1) := by decide +kernel
theorem dX3_lookAtWord_63 : decode cX3_lookAtWord 63 = .ok (.aload_n 0, 1) := by decide +kernel
theorem dX3_lookAtWord_64 : decode cX3_lookAtWord 64 = .ok (.getfield 22, 3) := by decide +kernel
theorem dX3_lookAtWord_67 : decode cX3_lookAtWord 67 = .ok (.iload_n 1, 1) := by decide +kernel
theorem dX3_lookAtWord_68 : decode cX3_lookAtWord 68 = .ok (.if_icmp .ne 8, 3) := by decide +kernel
theorem dX3_lookAtWord_71 : decode cX3_lookAtWord 71 = .ok (.bipush (-4), 2) := by decide +kernel
theorem dX3_lookAtWord_73 : decode cX3_lookAtWord 73 = .ok (.goto 14, 3) := by decide +kernel
theorem dX3_lookAtWord_76 : decode cX3_lookAtWord 76 = .ok (.iload_n 2, 1) := by decide +kernel
theorem dX3_lookAtWord_77 : decode cX3_lookAtWord 77 = .ok (.ifCond .eq 8, 3) := by decide +kernel
theorem dX3_lookAtWord_80 : decode cX3_lookAtWord 80 = .ok (.bipush (-2), 2) := by decide +kernel
theorem dX3_lookAtWord_82 : decode cX3_lookAtWord 82 = .ok (.goto 5, 3) := by decide +kernel
theorem dX3_lookAtWord_85 : decode cX3_lookAtWord 85 = .ok (.bipush (-3), 2) := by decide +kernel
theorem dX3_lookAtWord_87 : decode cX3_lookAtWord 87 = .ok (.putfield 19, 3) := by decide +kernel
theorem dX3_lookAtWord_90 : decode cX3_lookAtWord 90 = .ok (.return_, 1) := by decide +kernel
theorem dX3_isLetter_0 : decode cX3_isLetter 0 = .ok (.iload_n 1, 1) := by decide +kernel
theorem dX3_isLetter_1 : decode cX3_isLetter 1 = .ok (.aload_n 0, 1) := by decide +kernel
theorem dX3_isLetter_2 : decode cX3_isLetter 2 = .ok (.getfield 15, 3) := by decide +kernel
theorem dX3_isLetter_5 : decode cX3_isLetter 5 = .ok (.if_icmp .ge 29, 3) := by decide +kernel
theorem dX3_isLetter_8 : decode cX3_isLetter 8 = .ok (.aload_n 0, 1) := by decide +kernel
theorem dX3_isLetter_9 : decode cX3_isLetter 9 = .ok (.getfield 9, 3) := by decide +kernel
theorem dX3_isLetter_12 : decode cX3_isLetter 12 = .ok (.iload_n 1, 1) := by decide +kernel
theorem dX3_isLetter_13 : decode cX3_isLetter 13 = .ok (.baload, 1) := by decide +kernel
theorem dX3_isLetter_14 : decode cX3_isLetter 14 = .ok (.bipush 97, 2) := by decide +kernel
theorem dX3_isLetter_16 : decode cX3_isLetter 16 = .ok (.if_icmp .lt 18, 3) := by decide +kernel
theorem dX3_isLetter_19 : decode cX3_isLetter 19 = .ok (.aload_n 0, 1) := by decide +kernel
theorem dX3_isLetter_20 : decode cX3_isLetter 20 = .ok (.getfield 9, 3) := by decide +kernel
theorem dX3_isLetter_23 : decode cX3_isLetter 23 = .ok (.iload_n 1, 1) := by decide +kernel
theorem dX3_isLetter_24 : decode cX3_isLetter 24 = .ok (.baload, 1) := by decide +kernel
theorem dX3_isLetter_25 : decode cX3_isLetter 25 = .ok (.bipush 122, 2) := by decide +kernel
theorem dX3_isLetter_27 : decode cX3_isLetter 27 = .ok (.if_icmp .gt 7, 3) := by decide +kernel
theorem dX3_isLetter_30 : decode cX3_isLetter 30 = .ok (.iconst 1, 1) := by decide +kernel
theorem dX3_isLetter_31 : decode cX3_isLetter 31 = .ok (.goto 4, 3) := by decide +kernel
theorem dX3_isLetter_34 : decode cX3_isLetter 34 = .ok (.iconst 0, 1) := by decide +kernel
theorem dX3_isLetter_35 : decode cX3_isLetter 35 = .ok (.ireturn, 1) := by decide +kernel
theorem dX3_isDigit_0 : decode cX3_isDigit 0 = .ok (.iload_n 1, 1) := by decide +kernel
theorem dX3_isDigit_1 : decode cX3_isDigit 1 = .ok (.aload_n 0, 1) := by decide +kernel
theorem dX3_isDigit_2 : decode cX3_isDigit 2 = .ok (.getfield 15, 3) := by decide +kernel
theorem dX3_isDigit_5 : decode cX3_isDigit 5 = .ok (.if_icmp .ge 29, 3) := by decide +kernel
theorem dX3_isDigit_8 : decode cX3_isDigit 8 = .ok (.aload_n 0, 1) := by decide +kernel
theorem dX3_isDigit_9 : decode cX3_isDigit 9 = .ok (.getfield 9, 3) := by decide +kernel
theorem dX3_isDigit_12 : decode cX3_isDigit 12 = .ok (.iload_n 1, 1) := by decide +kernel
theorem dX3_isDigit_13 : decode cX3_isDigit 13 = .ok (.baload, 1) := by decide +kernel
theorem dX3_isDigit_14 : decode cX3_isDigit 14 = .ok (.bipush 48, 2) := by decide +kernel
theorem dX3_isDigit_16 : decode cX3_isDigit 16 = .ok (.if_icmp .lt 18, 3) := by decide +kernel
theorem dX3_isDigit_19 : decode cX3_isDigit 19 = .ok (.aload_n 0, 1) := by decide +kernel
theorem dX3_isDigit_20 : decode cX3_isDigit 20 = .ok (.getfield 9, 3) := by decide +kernel
theorem dX3_isDigit_23 : decode cX3_isDigit 23 = .ok (.iload_n 1, 1) := by decide +kernel
theorem dX3_isDigit_24 : decode cX3_isDigit 24 = .ok (.baload, 1) := by decide +kernel
theorem dX3_isDigit_25 : decode cX3_isDigit 25 = .ok (.bipush 57, 2) := by decide +kernel
theorem dX3_isDigit_27 : decode cX3_isDigit 27 = .ok (.if_icmp .gt 7, 3) := by decide +kernel
theorem dX3_isDigit_30 : decode cX3_isDigit 30 = .ok (.iconst 1, 1) := by decide +kernel
theorem dX3_isDigit_31 : decode cX3_isDigit 31 = .ok (.goto 4, 3) := by decide +kernel
theorem dX3_isDigit_34 : decode cX3_isDigit 34 = .ok (.iconst 0, 1) := by decide +kernel
theorem dX3_isDigit_35 : decode cX3_isDigit 35 = .ok (.ireturn, 1) := by decide +kernel
theorem dX3_readKey_0 : decode cX3_readKey 0 = .ok (.aload_n 0, 1) := by decide +kernel
theorem dX3_readKey_1 : decode cX3_readKey 1 = .ok (.aload_n 0, 1) := by decide +kernel
theorem dX3_readKey_2 : decode cX3_readKey 2 = .ok (.ldc 81, 2) := by decide +kernel
theorem dX3_readKey_4 : decode cX3_readKey 4 = .ok (.invokevirtual 83, 3) := by decide +kernel
theorem dX3_readKey_7 : decode cX3_readKey 7 = .ok (.ifCond .eq 7, 3) := by decide +kernel
theorem dX3_readKey_10 : decode cX3_readKey 10 = .ok (.iconst 0, 1) := by decide +kernel
theorem dX3_readKey_11 : decode cX3_readKey 11 = .ok (.goto 17, 3) := by decide +kernel
theorem dX3_readKey_14 : decode cX3_readKey 14 = .ok (.aload_n 0, 1) := by decide +kernel
theorem dX3_readKey_15 : decode cX3_readKey 15 = .ok (.ldc 87, 2) := by decide +kernel
theorem dX3_readKey_17 : decode cX3_readKey 17 = .ok (.invokevirtual 83, 3) := by decide +kernel
theorem dX3_readKey_20 : decode cX3_readKey 20 = .ok (.ifCond .eq 7, 3) := by decide +kernel
theorem dX3_readKey_23 : decode cX3_readKey 23 = .ok (.iconst 1, 1) := by decide +kernel
theorem dX3_readKey_24 : decode cX3_readKey 24 = .ok (.goto 4, 3) := by decide +kernel
theorem dX3_readKey_27 : decode cX3_readKey 27 = .ok (.iconst 2, 1) := by decide +kernel
theorem dX3_readKey_28 : decode cX3_readKey 28 = .ok (.putfield 31, 3) := by decide +kernel
theorem dX3_readKey_31 : decode cX3_readKey 31 = .ok (.aload_n 0, 1) := by decide +kernel
theorem dX3_readKey_32 : decode cX3_readKey 32 = .ok (.getfield 31, 3) := by decide +kernel
theorem dX3_readKey_35 : decode cX3_readKey 35 = .ok (.iconst 2, 1) := by decide +kernel
theorem dX3_readKey_36 : decode cX3_readKey 36 = .ok (.if_icmp .ne 21, 3) := by decide +kernel
theorem dX3_readKey_39 : decode cX3_readKey 39 = .ok (.aload_n 0, 1) := by decide +kernel
theorem dX3_readKey_40 : decode cX3_readKey 40 = .ok (.ldc 89, 2) := by decide +kernel
theorem dX3_readKey_42 : decode cX3_readKey 42 = .ok (.invokevirtual 83, 3) := by decide +kernel
theorem dX3_readKey_45 : decode cX3_readKey 45 = .ok (.ifCond .ne 12, 3) := by decide +kernel
theorem dX3_readKey_48 : decode cX3_readKey 48 = .ok (.aload_n 0, 1) := by decide +kernel
theorem dX3_readKey_49 : decode cX3_readKey 49 = .ok (.aload_n 0, 1) := by decide +kernel
theorem dX3_readKey_50 : decode cX3_readKey 50 = .ok (.getfield 22, 3) := by decide +kernel
theorem dX3_readKey_53 : decode cX3_readKey 53 = .ok (.putfield 28, 3) := by decide +kernel
theorem dX3_readKey_56 : decode cX3_readKey 56 = .ok (.return_, 1) := by decide +kernel
theorem dX3_readKey_57 : decode cX3_readKey 57 = .ok (.aload_n 0, 1) := by decide +kernel
theorem dX3_readKey_58 : decode cX3_readKey 58 = .ok (.invokevirtual 50, 3) := by decide +kernel
theorem dX3_readKey_61 : decode cX3_readKey 61 = .ok (.return_, 1) := by decide +kernel
theorem dX3_isWord_0 : decode cX3_isWord 0 = .ok (.aload_n 0, 1) := by decide +kernel
theorem dX3_isWord_1 : decode cX3_isWord 1 = .ok (.getfield 19, 3) := by decide +kernel
theorem dX3_isWord_4 : decode cX3_isWord 4 = .ok (.bipush (-2), 2) := by decide +kernel
theorem dX3_isWord_6 : decode cX3_isWord 6 = .ok (.if_icmp .ne 19, 3) := by decide +kernel
theorem dX3_isWord_9 : decode cX3_isWord 9 = .ok (.aload_n 0, 1) := by decide +kernel
theorem dX3_isWord_10 : decode cX3_isWord 10 = .ok (.getfield 25, 3) := by decide +kernel
theorem dX3_isWord_13 : decode cX3_isWord 13 = .ok (.aload_n 0, 1) := by decide +kernel
theorem dX3_isWord_14 : decode cX3_isWord 14 = .ok (.getfield 22, 3) := by decide +kernel
theorem dX3_isWord_17 : decode cX3_isWord 17 = .ok (.isub, 1) := by decide +kernel
theorem dX3_isWord_18 : decode cX3_isWord 18 = .ok (.aload_n 1, 1) := by decide +kernel
theorem dX3_isWord_19 : decode cX3_isWord 19 = .ok (.invokevirtual 91, 3) := by decide +kernel
theorem dX3_isWord_22 : decode cX3_isWord 22 = .ok (.if_icmp .eq 5, 3) := by decide +kernel
theorem dX3_isWord_25 : decode cX3_isWord 25 = .ok (.iconst 0, 1) := by decide +kernel
theorem dX3_isWord_26 : decode cX3_isWord 26 = .ok (.ireturn, 1) := by decide +kernel
theorem dX3_isWord_27 : decode cX3_isWord 27 = .ok (.iconst 0, 1) := by decide +kernel
theorem dX3_isWord_28 : decode cX3_isWord 28 = .ok (.istore_n 2, 1) := by decide +kernel
theorem dX3_isWord_29 : decode cX3_isWord 29 = .ok (.iload_n 2, 1) := by decide +kernel
theorem dX3_isWord_30 : decode cX3_isWord 30 = .ok (.aload_n 1, 1) := by decide +kernel
theorem dX3_isWord_31 : decode cX3_isWord 31 = .ok (.invokevirtual 91, 3) := by decide +kernel
theorem dX3_isWord_34 : decode cX3_isWord 34 = .ok (.if_icmp .ge 30, 3) := by decide +kernel
theorem dX3_isWord_37 : decode cX3_isWord 37 = .ok (.aload_n 0, 1) := by decide +kernel
theorem dX3_isWord_38 : decode cX3_isWord 38 = .ok (.getfield 9, 3) := by decide +kernel
theorem dX3_isWord_41 : decode cX3_isWord 41 = .ok (.aload_n 0, 1) := by decide +kernel
theorem dX3_isWord_42 : decode cX3_isWord 42 = .ok (.getfield 22, 3) := by decide +kernel
theorem dX3_isWord_45 : decode cX3_isWord 45 = .ok (.iload_n 2, 1) := by decide +kernel
theorem dX3_isWord_46 : decode cX3_isWord 46 = .ok (.iadd, 1) := by decide +kernel
theorem dX3_isWord_47 : decode cX3_isWord 47 = .ok (.baload, 1) := by decide +kernel
theorem dX3_isWord_48 : decode cX3_isWord 48 = .ok (.aload_n 1, 1) := by decide +kernel
theorem dX3_isWord_49 : decode cX3_isWord 49 = .ok (.iload_n 2, 1) := by decide +kernel
theorem dX3_isWord_50 : decode cX3_isWord 50 = .ok (.invokevirtual 96, 3) := by decide +kernel
theorem dX3_isWord_53 : decode cX3_isWord 53 = .ok (.if_icmp .eq 5, 3) := by decide +kernel
theorem dX3_isWord_56 : decode cX3_isWord 56 = .ok (.iconst 0, 1) := by decide +kernel
theorem dX3_isWord_57 : decode cX3_isWord 57 = .ok (.ireturn, 1) := by decide +kernel
theorem dX3_isWord_58 : decode cX3_isWord 58 = .ok (.iinc 2 1, 3) := by decide +kernel
theorem dX3_isWord_61 : decode cX3_isWord 61 = .ok (.goto (-32), 3) := by decide +kernel
theorem dX3_isWord_64 : decode cX3_isWord 64 = .ok (.iconst 1, 1) := by decide +kernel
theorem dX3_isWord_65 : decode cX3_isWord 65 = .ok (.ireturn, 1) := by decide +kernel
theorem dX3_readLevel_0 : decode cX3_readLevel 0 = .ok (.iload_n 1, 1) := by decide +kernel
theorem dX3_readLevel_1 : decode cX3_readLevel 1 = .ok (.iconst 5, 1) := by decide +kernel
theorem dX3_readLevel_2 : decode cX3_readLevel 2 = .ok (.if_icmp .ne 8, 3) := by decide +kernel
theorem dX3_readLevel_5 : decode cX3_readLevel 5 = .ok (.aload_n 0, 1) := by decide +kernel
theorem dX3_readLevel_6 : decode cX3_readLevel 6 = .ok (.invokevirtual 100, 3) := by decide +kernel
theorem dX3_readLevel_9 : decode cX3_readLevel 9 = .ok (.return_, 1) := by decide +kernel
theorem dX3_readLevel_10 : decode cX3_readLevel 10 = .ok (.aload_n 0, 1) := by decide +kernel
theorem dX3_readLevel_11 : decode cX3_readLevel 11 = .ok (.iload_n 1, 1) := by decide +kernel
theorem dX3_readLevel_12 : decode cX3_readLevel 12 = .ok (.iconst 1, 1) := by decide +kernel
theorem dX3_readLevel_13 : decode cX3_readLevel 13 = .ok (.iadd, 1) := by decide +kernel
theorem dX3_readLevel_14 : decode cX3_readLevel 14 = .ok (.invokevirtual 56, 3) := by decide +kernel
theorem dX3_readLevel_17 : decode cX3_readLevel 17 = .ok (.iload_n 1, 1) := by decide +kernel
theorem dX3_readLevel_18 : decode cX3_readLevel 18 = .ok (.iconst 2, 1) := by decide +kernel
theorem dX3_readLevel_19 : decode cX3_readLevel 19 = .ok (.if_icmp .ne 7, 3) := by decide +kernel
theorem dX3_readLevel_22 : decode cX3_readLevel 22 = .ok (.iconst 1, 1) := by decide +kernel
theorem dX3_readLevel_23 : decode cX3_readLevel 23 = .ok (.goto 5, 3) := by decide +kernel
theorem dX3_readLevel_26 : decode cX3_readLevel 26 = .ok (.bipush 96, 2) := by decide +kernel
theorem dX3_readLevel_28 : decode cX3_readLevel 28 = .ok (.istore_n 2, 1) := by decide +kernel
theorem dX3_readLevel_29 : decode cX3_readLevel 29 = .ok (.iconst 0, 1) := by decide +kernel
theorem dX3_readLevel_30 : decode cX3_readLevel 30 = .ok (.istore_n 3, 1) := by decide +kernel
theorem dX3_readLevel_31 : decode cX3_readLevel 31 = .ok (.iload_n 3, 1) := by decide +kernel
theorem dX3_readLevel_32 : decode cX3_readLevel 32 = .ok (.iload_n 2, 1) := by decide +kernel
theorem dX3_readLevel_33 : decode cX3_readLevel 33 = .ok (.if_icmp .ge 49, 3) := by decide +kernel
theorem dX3_readLevel_36 : decode cX3_readLevel 36 = .ok (.aload_n 0, 1) := by decide +kernel
theorem dX3_readLevel_37 : decode cX3_readLevel 37 = .ok (.getfield 28, 3) := by decide +kernel
theorem dX3_readLevel_40 : decode cX3_readLevel 40 = .ok (.iconst (-1), 1) := by decide +kernel
theorem dX3_readLevel_41 : decode cX3_readLevel 41 = .ok (.if_icmp .ne 41, 3) := by decide +kernel
theorem dX3_readLevel_44 : decode cX3_readLevel 44 = .ok (.aload_n 0, 1) := by decide +kernel
theorem dX3_readLevel_45 : decode cX3_readLevel 45 = .ok (.iload_n 1, 1) := by decide +kernel
theorem dX3_readLevel_46 : decode cX3_readLevel 46 = .ok (.invokevirtual 103, 3) := by decide +kernel
theorem dX3_readLevel_49 : decode cX3_readLevel 49 = .ok (.ifCond .eq 33, 3) := by decide +kernel
theorem dX3_readLevel_52 : decode cX3_readLevel 52 = .ok (.aload_n 0, 1) := by decide +kernel
theorem dX3_readLevel_53 : decode cX3_readLevel 53 = .ok (.getfield 19, 3) := by decide +kernel
theorem dX3_readLevel_56 : decode cX3_readLevel 56 = .ok (.istore 4, 2) := by decide +kernel
theorem dX3_readLevel_58 : decode cX3_readLevel 58 = .ok (.aload_n 0, 1) := by decide +kernel
theorem dX3_readLevel_59 : decode cX3_readLevel 59 = .ok (.invokevirtual 50, 3) := by decide +kernel
theorem dX3_readLevel_62 : decode cX3_readLevel 62 = .ok (.aload_n 0, 1) := by decide +kernel
theorem dX3_readLevel_63 : decode cX3_readLevel 63 = .ok (.iload_n 1, 1) := by decide +kernel
theorem dX3_readLevel_64 : decode cX3_readLevel 64 = .ok (.iconst 1, 1) := by decide +kernel
theorem dX3_readLevel_65 : decode cX3_readLevel 65 = .ok (.iadd, 1) := by decide +kernel
theorem dX3_readLevel_66 : decode cX3_readLevel 66 = .ok (.invokevirtual 56, 3) := by decide +kernel
theorem dX3_readLevel_69 : decode cX3_readLevel 69 = .ok (.aload_n 0, 1) := by decide +kernel
theorem dX3_readLevel_70 : decode cX3_readLevel 70 = .ok (.iload 4, 2) := by decide +kernel
theorem dX3_readLevel_72 : decode cX3_readLevel 72 = .ok (.ineg, 1) := by decide +kernel
theorem dX3_readLevel_73 : decode cX3_readLevel 73 = .ok (.invokevirtual 106, 3) := by decide +kernel
theorem dX3_readLevel_76 : decode cX3_readLevel 76 = .ok (.iinc 3 1, 3) := by decide +kernel
theorem dX3_readLevel_79 : decode cX3_readLevel 79 = .ok (.goto (-48), 3) := by decide +kernel
theorem dX3_readLevel_82 : decode cX3_readLevel 82 = .ok (.return_, 1) := by decide +kernel
theorem dX3_isJoining_0 : decode cX3_isJoining 0 = .ok (.iload_n 1, 1) := by decide +kernel
theorem dX3_isJoining_1 : decode cX3_isJoining 1 = .ok (.tableswitch 118 0 3 #[31, 46, 61, 94], 31) := by decide +kernel
theorem dX3_isJoining_32 : decode cX3_isJoining 32 = .ok (.aload_n 0, 1) := by decide +kernel
theorem dX3_isJoining_33 : decode cX3_isJoining 33 = .ok (.getfield 19, 3) := by decide +kernel
theorem dX3_isJoining_36 : decode cX3_isJoining 36 = .ok (.bipush 124, 2) := by decide +kernel
theorem dX3_isJoining_38 : decode cX3_isJoining 38 = .ok (.if_icmp .ne 7, 3) := by decide +kernel
theorem dX3_isJoining_41 : decode cX3_isJoining 41 = .ok (.iconst 1, 1) := by decide +kernel
theorem dX3_isJoining_42 : decode cX3_isJoining 42 = .ok (.goto 4, 3) := by decide +kernel
theorem dX3_isJoining_45 : decode cX3_isJoining 45 = .ok (.iconst 0, 1) := by decide +kernel
theorem dX3_isJoining_46 : decode cX3_isJoining 46 = .ok (.ireturn, 1) := by decide +kernel
theorem dX3_isJoining_47 : decode cX3_isJoining 47 = .ok (.aload_n 0, 1) := by decide +kernel
theorem dX3_isJoining_48 : decode cX3_isJoining 48 = .ok (.getfield 19, 3) := by decide +kernel
theorem dX3_isJoining_51 : decode cX3_isJoining 51 = .ok (.bipush 38, 2) := by decide +kernel
theorem dX3_isJoining_53 : decode cX3_isJoining 53 = .ok (.if_icmp .ne 7, 3) := by decide +kernel
theorem dX3_isJoining_56 : decode cX3_isJoining 56 = .ok (.iconst 1, 1) := by decide +kernel
theorem dX3_isJoining_57 : decode cX3_isJoining 57 = .ok (.goto 4, 3) := by decide +kernel
theorem dX3_isJoining_60 : decode cX3_isJoining 60 = .ok (.iconst 0, 1) := by decide +kernel
theorem dX3_isJoining_61 : decode cX3_isJoining 61 = .ok (.ireturn, 1) := by decide +kernel
theorem dX3_isJoining_62 : decode cX3_isJoining 62 = .ok (.aload_n 0, 1) := by decide +kernel
theorem dX3_isJoining_63 : decode cX3_isJoining 63 = .ok (.getfield 19, 3) := by decide +kernel
theorem dX3_isJoining_66 : decode cX3_isJoining 66 = .ok (.bipush 60, 2) := by decide +kernel
theorem dX3_isJoining_68 : decode cX3_isJoining 68 = .ok (.if_icmp .eq 21, 3) := by decide +kernel
theorem dX3_isJoining_71 : decode cX3_isJoining 71 = .ok (.aload_n 0, 1) := by decide +kernel
theorem dX3_isJoining_72 : decode cX3_isJoining 72 = .ok (.getfield 19, 3) := by decide +kernel
theorem dX3_isJoining_75 : decode cX3_isJoining 75 = .ok (.bipush 61, 2) := by decide +kernel
theorem dX3_isJoining_77 : decode cX3_isJoining 77 = .ok (.if_icmp .eq 12, 3) := by decide +kernel
theorem dX3_isJoining_80 : decode cX3_isJoining 80 = .ok (.aload_n 0, 1) := by decide +kernel
theorem dX3_isJoining_81 : decode cX3_isJoining 81 = .ok (.getfield 19, 3) := by decide +kernel
theorem dX3_isJoining_84 : decode cX3_isJoining 84 = .ok (.bipush 62, 2) := by decide +kernel
theorem dX3_isJoining_86 : decode cX3_isJoining 86 = .ok (.if_icmp .ne 7, 3) := by decide +kernel
theorem dX3_isJoining_89 : decode cX3_isJoining 89 = .ok (.iconst 1, 1) := by decide +kernel
theorem dX3_isJoining_90 : decode cX3_isJoining 90 = .ok (.goto 4, 3) := by decide +kernel
theorem dX3_isJoining_93 : decode cX3_isJoining 93 = .ok (.iconst 0, 1) := by decide +kernel
theorem dX3_isJoining_94 : decode cX3_isJoining 94 = .ok (.ireturn, 1) := by decide +kernel
theorem dX3_isJoining_95 : decode cX3_isJoining 95 = .ok (.aload_n 0, 1) := by decide +kernel
theorem dX3_isJoining_96 : decode cX3_isJoining 96 = .ok (.getfield 19, 3) := by decide +kernel
theorem dX3_isJoining_99 : decode cX3_isJoining 99 = .ok (.bipush 43, 2) := by decide +kernel
theorem dX3_isJoining_101 : decode cX3_isJoining 101 = .ok (.if_icmp .eq 12, 3) := by decide +kernel
theorem dX3_isJoining_104 : decode cX3_isJoining 104 = .ok (.aload_n 0, 1) := by decide +kernel
theorem dX3_isJoining_105 : decode cX3_isJoining 105 = .ok (.getfield 19, 3) := by decide +kernel
theorem dX3_isJoining_108 : decode cX3_isJoining 108 = .ok (.bipush 45, 2) := by decide +kernel
theorem dX3_isJoining_110 : decode cX3_isJoining 110 = .ok (.if_icmp .ne 7, 3) := by decide +kernel
theorem dX3_isJoining_113 : decode cX3_isJoining 113 = .ok (.iconst 1, 1) := by decide +kernel
theorem dX3_isJoining_114 : decode cX3_isJoining 114 = .ok (.goto 4, 3) := by decide +kernel
theorem dX3_isJoining_117 : decode cX3_isJoining 117 = .ok (.iconst 0, 1) := by decide +kernel
theorem dX3_isJoining_118 : decode cX3_isJoining 118 = .ok (.ireturn, 1) := by decide +kernel
theorem dX3_isJoining_119 : decode cX3_isJoining 119 = .ok (.aload_n 0, 1) := by decide +kernel
theorem dX3_isJoining_120 : decode cX3_isJoining 120 = .ok (.getfield 19, 3) := by decide +kernel
theorem dX3_isJoining_123 : decode cX3_isJoining 123 = .ok (.bipush 42, 2) := by decide +kernel
theorem dX3_isJoining_125 : decode cX3_isJoining 125 = .ok (.if_icmp .eq 12, 3) := by decide +kernel
theorem dX3_isJoining_128 : decode cX3_isJoining 128 = .ok (.aload_n 0, 1) := by decide +kernel
theorem dX3_isJoining_129 : decode cX3_isJoining 129 = .ok (.getfield 19, 3) := by decide +kernel
theorem dX3_isJoining_132 : decode cX3_isJoining 132 = .ok (.bipush 47, 2) := by decide +kernel
theorem dX3_isJoining_134 : decode cX3_isJoining 134 = .ok (.if_icmp .ne 7, 3) := by decide +kernel
theorem dX3_isJoining_137 : decode cX3_isJoining 137 = .ok (.iconst 1, 1) := by decide +kernel
theorem dX3_isJoining_138 : decode cX3_isJoining 138 = .ok (.goto 4, 3) := by decide +kernel
theorem dX3_isJoining_141 : decode cX3_isJoining 141 = .ok (.iconst 0, 1) := by decide +kernel
theorem dX3_isJoining_142 : decode cX3_isJoining 142 = .ok (.ireturn, 1) := by decide +kernel
theorem dX3_readPiece_0 : decode cX3_readPiece 0 = .ok (.aload_n 0, 1) := by decide +kernel
theorem dX3_readPiece_1 : decode cX3_readPiece 1 = .ok (.getfield 28, 3) := by decide +kernel
theorem dX3_readPiece_4 : decode cX3_readPiece 4 = .ok (.iconst (-1), 1) := by decide +kernel
theorem dX3_readPiece_5 : decode cX3_readPiece 5 = .ok (.if_icmp .eq 4, 3) := by decide +kernel
theorem dX3_readPiece_8 : decode cX3_readPiece 8 = .ok (.return_, 1) := by decide +kernel
theorem dX3_readPiece_9 : decode cX3_readPiece 9 = .ok (.aload_n 0, 1) := by decide +kernel
theorem dX3_readPiece_10 : decode cX3_readPiece 10 = .ok (.getfield 19, 3) := by decide +kernel
theorem dX3_readPiece_13 : decode cX3_readPiece 13 = .ok (.bipush (-3), 2) := by decide +kernel
theorem dX3_readPiece_15 : decode cX3_readPiece 15 = .ok (.if_icmp .ne 16, 3) := by decide +kernel
theorem dX3_readPiece_18 : decode cX3_readPiece 18 = .ok (.aload_n 0, 1) := by decide +kernel
theorem dX3_readPiece_19 : decode cX3_readPiece 19 = .ok (.getfield 25, 3) := by decide +kernel
theorem dX3_readPiece_22 : decode cX3_readPiece 22 = .ok (.aload_n 0, 1) := by decide +kernel
theorem dX3_readPiece_23 : decode cX3_readPiece 23 = .ok (.getfield 22, 3) := by decide +kernel
theorem dX3_readPiece_26 : decode cX3_readPiece 26 = .ok (.isub, 1) := by decide +kernel
theorem dX3_readPiece_27 : decode cX3_readPiece 27 = .ok (.iconst 4, 1) := by decide +kernel
theorem dX3_readPiece_28 : decode cX3_readPiece 28 = .ok (.if_icmp .le 20, 3) := by decide +kernel
theorem dX3_readPiece_31 : decode cX3_readPiece 31 = .ok (.aload_n 0, 1) := by decide +kernel
theorem dX3_readPiece_32 : decode cX3_readPiece 32 = .ok (.getfield 19, 3) := by decide +kernel
theorem dX3_readPiece_35 : decode cX3_readPiece 35 = .ok (.bipush (-2), 2) := by decide +kernel
theorem dX3_readPiece_37 : decode cX3_readPiece 37 = .ok (.if_icmp .ne 54, 3) := by decide +kernel
theorem dX3_readPiece_40 : decode cX3_readPiece 40 = .ok (.aload_n 0, 1) := by decide +kernel
theorem dX3_readPiece_41 : decode cX3_readPiece 41 = .ok (.invokevirtual 109, 3) := by decide +kernel
theorem dX3_readPiece_44 : decode cX3_readPiece 44 = .ok (.iconst (-1), 1) := by decide +kernel
theorem dX3_readPiece_45 : decode cX3_readPiece 45 = .ok (.if_icmp .eq 46, 3) := by decide +kernel
theorem dX3_readPiece_48 : decode cX3_readPiece 48 = .ok (.aload_n 0, 1) := by decide +kernel
theorem dX3_readPiece_49 : decode cX3_readPiece 49 = .ok (.aload_n 0, 1) := by decide +kernel
theorem dX3_readPiece_50 : decode cX3_readPiece 50 = .ok (.getfield 19, 3) := by decide +kernel
theorem dX3_readPiece_53 : decode cX3_readPiece 53 = .ok (.bipush (-3), 2) := by decide +kernel
theorem dX3_readPiece_55 : decode cX3_readPiece 55 = .ok (.if_icmp .ne 10, 3) := by decide +kernel
theorem dX3_readPiece_58 : decode cX3_readPiece 58 = .ok (.aload_n 0, 1) := by decide +kernel
theorem dX3_readPiece_59 : decode cX3_readPiece 59 = .ok (.invokevirtual 112, 3) := by decide +kernel
theorem dX3_readPiece_62 : decode cX3_readPiece 62 = .ok (.goto 9, 3) := by decide +kernel
theorem dX3_readPiece_65 : decode cX3_readPiece 65 = .ok (.iconst (-1), 1) := by decide +kernel
theorem dX3_readPiece_66 : decode cX3_readPiece 66 = .ok (.aload_n 0, 1) := by decide +kernel
theorem dX3_readPiece_67 : decode cX3_readPiece 67 = .ok (.invokevirtual 109, 3) := by decide +kernel
theorem dX3_readPiece_70 : decode cX3_readPiece 70 = .ok (.isub, 1) := by decide +kernel
theorem dX3_readPiece_71 : decode cX3_readPiece 71 = .ok (.invokevirtual 106, 3) := by decide +kernel
theorem dX3_readPiece_74 : decode cX3_readPiece 74 = .ok (.aload_n 0, 1) := by decide +kernel
theorem dX3_readPiece_75 : decode cX3_readPiece 75 = .ok (.dup, 1) := by decide +kernel
theorem dX3_readPiece_76 : decode cX3_readPiece 76 = .ok (.getfield 41, 3) := by decide +kernel
theorem dX3_readPiece_79 : decode cX3_readPiece 79 = .ok (.iconst 1, 1) := by decide +kernel
theorem dX3_readPiece_80 : decode cX3_readPiece 80 = .ok (.iadd, 1) := by decide +kernel
theorem dX3_readPiece_81 : decode cX3_readPiece 81 = .ok (.putfield 41, 3) := by decide +kernel
theorem dX3_readPiece_84 : decode cX3_readPiece 84 = .ok (.aload_n 0, 1) := by decide +kernel
theorem dX3_readPiece_85 : decode cX3_readPiece 85 = .ok (.invokevirtual 50, 3) := by decide +kernel
theorem dX3_readPiece_88 : decode cX3_readPiece 88 = .ok (.goto 120, 3) := by decide +kernel
theorem dX3_readPiece_91 : decode cX3_readPiece 91 = .ok (.aload_n 0, 1) := by decide +kernel
theorem dX3_readPiece_92 : decode cX3_readPiece 92 = .ok (.getfield 19, 3) := by decide +kernel
theorem dX3_readPiece_95 : decode cX3_readPiece 95 = .ok (.bipush 33, 2) := by decide +kernel
theorem dX3_readPiece_97 : decode cX3_readPiece 97 = .ok (.if_icmp .ne 49, 3) := by decide +kernel
theorem dX3_readPiece_100 : decode cX3_readPiece 100 = .ok (.aload_n 0, 1) := by decide +kernel
theorem dX3_readPiece_101 : decode cX3_readPiece 101 = .ok (.getfield 47, 3) := by decide +kernel
theorem dX3_readPiece_104 : decode cX3_readPiece 104 = .ok (.bipush 8, 2) := by decide +kernel
theorem dX3_readPiece_106 : decode cX3_readPiece 106 = .ok (.if_icmp .ge 40, 3) := by decide +kernel
theorem dX3_readPiece_109 : decode cX3_readPiece 109 = .ok (.aload_n 0, 1) := by decide +kernel
theorem dX3_readPiece_110 : decode cX3_readPiece 110 = .ok (.dup, 1) := by decide +kernel
theorem dX3_readPiece_111 : decode cX3_readPiece 111 = .ok (.getfield 47, 3) := by decide +kernel
theorem dX3_readPiece_114 : decode cX3_readPiece 114 = .ok (.iconst 1, 1) := by decide +kernel
theorem dX3_readPiece_115 : decode cX3_readPiece 115 = .ok (.iadd, 1) := by decide +kernel
theorem dX3_readPiece_116 : decode cX3_readPiece 116 = .ok (.putfield 47, 3) := by decide +kernel
theorem dX3_readPiece_119 : decode cX3_readPiece 119 = .ok (.aload_n 0, 1) := by decide +kernel
theorem dX3_readPiece_120 : decode cX3_readPiece 120 = .ok (.invokevirtual 50, 3) := by decide +kernel
theorem dX3_readPiece_123 : decode cX3_readPiece 123 = .ok (.aload_n 0, 1) := by decide +kernel
theorem dX3_readPiece_124 : decode cX3_readPiece 124 = .ok (.invokevirtual 100, 3) := by decide +kernel
theorem dX3_readPiece_127 : decode cX3_readPiece 127 = .ok (.aload_n 0, 1) := by decide +kernel
theorem dX3_readPiece_128 : decode cX3_readPiece 128 = .ok (.dup, 1) := by decide +kernel
theorem dX3_readPiece_129 : decode cX3_readPiece 129 = .ok (.getfield 47, 3) := by decide +kernel
theorem dX3_readPiece_132 : decode cX3_readPiece 132 = .ok (.iconst 1, 1) := by decide +kernel
theorem dX3_readPiece_133 : decode cX3_readPiece 133 = .ok (.isub, 1) := by decide +kernel
theorem dX3_readPiece_134 : decode cX3_readPiece 134 = .ok (.putfield 47, 3) := by decide +kernel
theorem dX3_readPiece_137 : decode cX3_readPiece 137 = .ok (.aload_n 0, 1) := by decide +kernel
theorem dX3_readPiece_138 : decode cX3_readPiece 138 = .ok (.bipush (-33), 2) := by decide +kernel
theorem dX3_readPiece_140 : decode cX3_readPiece 140 = .ok (.invokevirtual 106, 3) := by decide +kernel
theorem dX3_readPiece_143 : decode cX3_readPiece 143 = .ok (.goto 65, 3) := by decide +kernel
theorem dX3_readPiece_146 : decode cX3_readPiece 146 = .ok (.aload_n 0, 1) := by decide +kernel
theorem dX3_readPiece_147 : decode cX3_readPiece 147 = .ok (.getfield 19, 3) := by decide +kernel
theorem dX3_readPiece_150 : decode cX3_readPiece 150 = .ok (.bipush 40, 2) := by decide +kernel
theorem dX3_readPiece_152 : decode cX3_readPiece 152 = .ok (.if_icmp .ne 48, 3) := by decide +kernel
theorem dX3_readPiece_155 : decode cX3_readPiece 155 = .ok (.aload_n 0, 1) := by decide +kernel
theorem dX3_readPiece_156 : decode cX3_readPiece 156 = .ok (.getfield 44, 3) := by decide +kernel
theorem dX3_readPiece_159 : decode cX3_readPiece 159 = .ok (.bipush 8, 2) := by decide +kernel
theorem dX3_readPiece_161 : decode cX3_readPiece 161 = .ok (.if_icmp .ge 39, 3) := by decide +kernel
theorem dX3_readPiece_164 : decode cX3_readPiece 164 = .ok (.aload_n 0, 1) := by decide +kernel
theorem dX3_readPiece_165 : decode cX3_readPiece 165 = .ok (.dup, 1) := by decide +kernel
theorem dX3_readPiece_166 : decode cX3_readPiece 166 = .ok (.getfield 44, 3) := by decide +kernel
theorem dX3_readPiece_169 : decode cX3_readPiece 169 = .ok (.iconst 1, 1) := by decide +kernel
theorem dX3_readPiece_170 : decode cX3_readPiece 170 = .ok (.iadd, 1) := by decide +kernel
theorem dX3_readPiece_171 : decode cX3_readPiece 171 = .ok (.putfield 44, 3) := by decide +kernel
theorem dX3_readPiece_174 : decode cX3_readPiece 174 = .ok (.aload_n 0, 1) := by decide +kernel
theorem dX3_readPiece_175 : decode cX3_readPiece 175 = .ok (.invokevirtual 50, 3) := by decide +kernel
theorem dX3_readPiece_178 : decode cX3_readPiece 178 = .ok (.aload_n 0, 1) := by decide +kernel
theorem dX3_readPiece_179 : decode cX3_readPiece 179 = .ok (.iconst 0, 1) := by decide +kernel
theorem dX3_readPiece_180 : decode cX3_readPiece 180 = .ok (.invokevirtual 56, 3) := by decide +kernel
theorem dX3_readPiece_183 : decode cX3_readPiece 183 = .ok (.aload_n 0, 1) := by decide +kernel
theorem dX3_readPiece_184 : decode cX3_readPiece 184 = .ok (.invokevirtual 115, 3) := by decide +kernel
theorem dX3_readPiece_187 : decode cX3_readPiece 187 = .ok (.aload_n 0, 1) := by decide +kernel
theorem dX3_readPiece_188 : decode cX3_readPiece 188 = .ok (.dup, 1) := by decide +kernel
theorem dX3_readPiece_189 : decode cX3_readPiece 189 = .ok (.getfield 44, 3) := by decide +kernel
theorem dX3_readPiece_192 : decode cX3_readPiece 192 = .ok (.iconst 1, 1) := by decide +kernel
theorem dX3_readPiece_193 : decode cX3_readPiece 193 = .ok (.isub, 1) := by decide +kernel
theorem dX3_readPiece_194 : decode cX3_readPiece 194 = .ok (.putfield 44, 3) := by decide +kernel
theorem dX3_readPiece_197 : decode cX3_readPiece 197 = .ok (.goto 11, 3) := by decide +kernel
theorem dX3_readPiece_200 : decode cX3_readPiece 200 = .ok (.aload_n 0, 1) := by decide +kernel
theorem dX3_readPiece_201 : decode cX3_readPiece 201 = .ok (.aload_n 0, 1) := by decide +kernel
theorem dX3_readPiece_202 : decode cX3_readPiece 202 = .ok (.getfield 22, 3) := by decide +kernel
theorem dX3_readPiece_205 : decode cX3_readPiece 205 = .ok (.putfield 28, 3) := by decide +kernel
theorem dX3_readPiece_208 : decode cX3_readPiece 208 = .ok (.return_, 1) := by decide +kernel
theorem dX3_readClosing_0 : decode cX3_readClosing 0 = .ok (.aload_n 0, 1) := by decide +kernel
theorem dX3_readClosing_1 : decode cX3_readClosing 1 = .ok (.getfield 28, 3) := by decide +kernel
theorem dX3_readClosing_4 : decode cX3_readClosing 4 = .ok (.iconst (-1), 1) := by decide +kernel
theorem dX3_readClosing_5 : decode cX3_readClosing 5 = .ok (.if_icmp .eq 4, 3) := by decide +kernel
theorem dX3_readClosing_8 : decode cX3_readClosing 8 = .ok (.return_, 1) := by decide +kernel
theorem dX3_readClosing_9 : decode cX3_readClosing 9 = .ok (.aload_n 0, 1) := by decide +kernel
theorem dX3_readClosing_10 : decode cX3_readClosing 10 = .ok (.getfield 19, 3) := by decide +kernel
theorem dX3_readClosing_13 : decode cX3_readClosing 13 = .ok (.bipush 41, 2) := by decide +kernel
theorem dX3_readClosing_15 : decode cX3_readClosing 15 = .ok (.if_icmp .ne 10, 3) := by decide +kernel
theorem dX3_readClosing_18 : decode cX3_readClosing 18 = .ok (.aload_n 0, 1) := by decide +kernel
theorem dX3_readClosing_19 : decode cX3_readClosing 19 = .ok (.invokevirtual 50, 3) := by decide +kernel
theorem dX3_readClosing_22 : decode cX3_readClosing 22 = .ok (.goto 11, 3) := by decide +kernel
theorem dX3_readClosing_25 : decode cX3_readClosing 25 = .ok (.aload_n 0, 1) := by decide +kernel
theorem dX3_readClosing_26 : decode cX3_readClosing 26 = .ok (.aload_n 0, 1) := by decide +kernel
theorem dX3_readClosing_27 : decode cX3_readClosing 27 = .ok (.getfield 22, 3) := by decide +kernel
theorem dX3_readClosing_30 : decode cX3_readClosing 30 = .ok (.putfield 28, 3) := by decide +kernel
theorem dX3_readClosing_33 : decode cX3_readClosing 33 = .ok (.return_, 1) := by decide +kernel
theorem dX3_numberRead_0 : decode cX3_numberRead 0 = .ok (.iconst 0, 1) := by decide +kernel
theorem dX3_numberRead_1 : decode cX3_numberRead 1 = .ok (.istore_n 1, 1) := by decide +kernel
theorem dX3_numberRead_2 : decode cX3_numberRead 2 = .ok (.aload_n 0, 1) := by decide +kernel
theorem dX3_numberRead_3 : decode cX3_numberRead 3 = .ok (.getfield 22, 3) := by decide +kernel
theorem dX3_numberRead_6 : decode cX3_numberRead 6 = .ok (.istore_n 2, 1) := by decide +kernel
theorem dX3_numberRead_7 : decode cX3_numberRead 7 = .ok (.iload_n 2, 1) := by decide +kernel
theorem dX3_numberRead_8 : decode cX3_numberRead 8 = .ok (.aload_n 0, 1) := by decide +kernel
theorem dX3_numberRead_9 : decode cX3_numberRead 9 = .ok (.getfield 25, 3) := by decide +kernel
theorem dX3_numberRead_12 : decode cX3_numberRead 12 = .ok (.if_icmp .ge 24, 3) := by decide +kernel
theorem dX3_numberRead_15 : decode cX3_numberRead 15 = .ok (.bipush 10, 2) := by decide +kernel
theorem dX3_numberRead_17 : decode cX3_numberRead 17 = .ok (.iload_n 1, 1) := by decide +kernel
theorem dX3_numberRead_18 : decode cX3_numberRead 18 = .ok (.imul, 1) := by decide +kernel
theorem dX3_numberRead_19 : decode cX3_numberRead 19 = .ok (.aload_n 0, 1) := by decide +kernel
theorem dX3_numberRead_20 : decode cX3_numberRead 20 = .ok (.getfield 9, 3) := by decide +kernel
theorem dX3_numberRead_23 : decode cX3_numberRead 23 = .ok (.iload_n 2, 1) := by decide +kernel
theorem dX3_numberRead_24 : decode cX3_numberRead 24 = .ok (.baload, 1) := by decide +kernel
theorem dX3_numberRead_25 : decode cX3_numberRead 25 = .ok (.iadd, 1) := by decide +kernel
theorem dX3_numberRead_26 : decode cX3_numberRead 26 = .ok (.bipush 48, 2) := by decide +kernel
theorem dX3_numberRead_28 : decode cX3_numberRead 28 = .ok (.isub, 1) := by decide +kernel
theorem dX3_numberRead_29 : decode cX3_numberRead 29 = .ok (.istore_n 1, 1) := by decide +kernel
theorem dX3_numberRead_30 : decode cX3_numberRead 30 = .ok (.iinc 2 1, 3) := by decide +kernel
theorem dX3_numberRead_33 : decode cX3_numberRead 33 = .ok (.goto (-26), 3) := by decide +kernel
theorem dX3_numberRead_36 : decode cX3_numberRead 36 = .ok (.iload_n 1, 1) := by decide +kernel
theorem dX3_numberRead_37 : decode cX3_numberRead 37 = .ok (.ireturn, 1) := by decide +kernel
theorem dX3_nameRead_0 : decode cX3_nameRead 0 = .ok (.aload_n 0, 1) := by decide +kernel
theorem dX3_nameRead_1 : decode cX3_nameRead 1 = .ok (.getfield 25, 3) := by decide +kernel
theorem dX3_nameRead_4 : decode cX3_nameRead 4 = .ok (.aload_n 0, 1) := by decide +kernel
theorem dX3_nameRead_5 : decode cX3_nameRead 5 = .ok (.getfield 22, 3) := by decide +kernel
theorem dX3_nameRead_8 : decode cX3_nameRead 8 = .ok (.isub, 1) := by decide +kernel
theorem dX3_nameRead_9 : decode cX3_nameRead 9 = .ok (.iconst 1, 1) := by decide +kernel
theorem dX3_nameRead_10 : decode cX3_nameRead 10 = .ok (.if_icmp .eq 5, 3) := by decide +kernel
theorem dX3_nameRead_13 : decode cX3_nameRead 13 = .ok (.iconst (-1), 1) := by decide +kernel
theorem dX3_nameRead_14 : decode cX3_nameRead 14 = .ok (.ireturn, 1) := by decide +kernel
theorem dX3_nameRead_15 : decode cX3_nameRead 15 = .ok (.aload_n 0, 1) := by decide +kernel
theorem dX3_nameRead_16 : decode cX3_nameRead 16 = .ok (.getfield 31, 3) := by decide +kernel
theorem dX3_nameRead_19 : decode cX3_nameRead 19 = .ok (.ifCond .ne 8, 3) := by decide +kernel
theorem dX3_nameRead_22 : decode cX3_nameRead 22 = .ok (.ldc 118, 2) := by decide +kernel
theorem dX3_nameRead_24 : decode cX3_nameRead 24 = .ok (.goto 18, 3) := by decide +kernel
theorem dX3_nameRead_27 : decode cX3_nameRead 27 = .ok (.aload_n 0, 1) := by decide +kernel
theorem dX3_nameRead_28 : decode cX3_nameRead 28 = .ok (.getfield 31, 3) := by decide +kernel
theorem dX3_nameRead_31 : decode cX3_nameRead 31 = .ok (.iconst 1, 1) := by decide +kernel
theorem dX3_nameRead_32 : decode cX3_nameRead 32 = .ok (.if_icmp .ne 8, 3) := by decide +kernel
theorem dX3_nameRead_35 : decode cX3_nameRead 35 = .ok (.ldc 120, 2) := by decide +kernel
theorem dX3_nameRead_37 : decode cX3_nameRead 37 = .ok (.goto 5, 3) := by decide +kernel
theorem dX3_nameRead_40 : decode cX3_nameRead 40 = .ok (.ldc 122, 2) := by decide +kernel
theorem dX3_nameRead_42 : decode cX3_nameRead 42 = .ok (.astore_n 1, 1) := by decide +kernel
theorem dX3_nameRead_43 : decode cX3_nameRead 43 = .ok (.aload_n 1, 1) := by decide +kernel
theorem dX3_nameRead_44 : decode cX3_nameRead 44 = .ok (.aload_n 0, 1) := by decide +kernel
theorem dX3_nameRead_45 : decode cX3_nameRead 45 = .ok (.getfield 9, 3) := by decide +kernel
theorem dX3_nameRead_48 : decode cX3_nameRead 48 = .ok (.aload_n 0, 1) := by decide +kernel
theorem dX3_nameRead_49 : decode cX3_nameRead 49 = .ok (.getfield 22, 3) := by decide +kernel
theorem dX3_nameRead_52 : decode cX3_nameRead 52 = .ok (.baload, 1) := by decide +kernel
theorem dX3_nameRead_53 : decode cX3_nameRead 53 = .ok (.i2c, 1) := by decide +kernel
theorem dX3_nameRead_54 : decode cX3_nameRead 54 = .ok (.invokevirtual 124, 3) := by decide +kernel
theorem dX3_nameRead_57 : decode cX3_nameRead 57 = .ok (.ireturn, 1) := by decide +kernel
theorem dX3_put_0 : decode cX3_put 0 = .ok (.aload_n 0, 1) := by decide +kernel
theorem dX3_put_1 : decode cX3_put 1 = .ok (.getfield 38, 3) := by decide +kernel
theorem dX3_put_4 : decode cX3_put 4 = .ok (.bipush 96, 2) := by decide +kernel
theorem dX3_put_6 : decode cX3_put 6 = .ok (.if_icmp .ge 23, 3) := by decide +kernel
theorem dX3_put_9 : decode cX3_put 9 = .ok (.aload_n 0, 1) := by decide +kernel
theorem dX3_put_10 : decode cX3_put 10 = .ok (.getfield 34, 3) := by decide +kernel
theorem dX3_put_13 : decode cX3_put 13 = .ok (.aload_n 0, 1) := by decide +kernel
theorem dX3_put_14 : decode cX3_put 14 = .ok (.getfield 38, 3) := by decide +kernel
theorem dX3_put_17 : decode cX3_put 17 = .ok (.iload_n 1, 1) := by decide +kernel
theorem dX3_put_18 : decode cX3_put 18 = .ok (.iastore, 1) := by decide +kernel
theorem dX3_put_19 : decode cX3_put 19 = .ok (.aload_n 0, 1) := by decide +kernel
theorem dX3_put_20 : decode cX3_put 20 = .ok (.dup, 1) := by decide +kernel
theorem dX3_put_21 : decode cX3_put 21 = .ok (.getfield 38, 3) := by decide +kernel
theorem dX3_put_24 : decode cX3_put 24 = .ok (.iconst 1, 1) := by decide +kernel
theorem dX3_put_25 : decode cX3_put 25 = .ok (.iadd, 1) := by decide +kernel
theorem dX3_put_26 : decode cX3_put 26 = .ok (.putfield 38, 3) := by decide +kernel
theorem dX3_put_29 : decode cX3_put 29 = .ok (.return_, 1) := by decide +kernel
theorem dX4_init_0 : decode cX4_init 0 = .ok (.aload_n 0, 1) := by decide +kernel
theorem dX4_init_1 : decode cX4_init 1 = .ok (.invokespecial 3, 3) := by decide +kernel
theorem dX4_init_4 : decode cX4_init 4 = .ok (.aload_n 0, 1) := by decide +kernel
theorem dX4_init_5 : decode cX4_init 5 = .ok (.bipush 20, 2) := by decide +kernel
theorem dX4_init_7 : decode cX4_init 7 = .ok (.newarray .boolean, 2) := by decide +kernel
theorem dX4_init_9 : decode cX4_init 9 = .ok (.putfield 9, 3) := by decide +kernel
theorem dX4_init_12 : decode cX4_init 12 = .ok (.aload_n 0, 1) := by decide +kernel
theorem dX4_init_13 : decode cX4_init 13 = .ok (.bipush 120, 2) := by decide +kernel
theorem dX4_init_15 : decode cX4_init 15 = .ok (.newarray .int, 2) := by decide +kernel
theorem dX4_init_17 : decode cX4_init 17 = .ok (.putfield 15, 3) := by decide +kernel
theorem dX4_init_20 : decode cX4_init 20 = .ok (.aload_n 0, 1) := by decide +kernel
theorem dX4_init_21 : decode cX4_init 21 = .ok (.aload_n 1, 1) := by decide +kernel
theorem dX4_init_22 : decode cX4_init 22 = .ok (.putfield 19, 3) := by decide +kernel
theorem dX4_init_25 : decode cX4_init 25 = .ok (.aload_n 0, 1) := by decide +kernel
theorem dX4_init_26 : decode cX4_init 26 = .ok (.iload_n 2, 1) := by decide +kernel
theorem dX4_init_27 : decode cX4_init 27 = .ok (.putfield 23, 3) := by decide +kernel
theorem dX4_init_30 : decode cX4_init 30 = .ok (.return_, 1) := by decide +kernel
theorem dX4_survey_0 : decode cX4_survey 0 = .ok (.aload_n 0, 1) := by decide +kernel
theorem dX4_survey_1 : decode cX4_survey 1 = .ok (.aload_n 1, 1) := by decide +kernel
theorem dX4_survey_2 : decode cX4_survey 2 = .ok (.putfield 19, 3) := by decide +kernel
theorem dX4_survey_5 : decode cX4_survey 5 = .ok (.iconst 0, 1) := by decide +kernel
theorem dX4_survey_6 : decode cX4_survey 6 = .ok (.istore_n 2, 1) := by decide +kernel
theorem dX4_survey_7 : decode cX4_survey 7 = .ok (.iload_n 2, 1) := by decide +kernel
theorem dX4_survey_8 : decode cX4_survey 8 = .ok (.aload_n 0, 1) := by decide +kernel
theorem dX4_survey_9 : decode cX4_survey 9 = .ok (.getfield 19, 3) := by decide +kernel
theorem dX4_survey_12 : decode cX4_survey 12 = .ok (.getfield 27, 3) := by decide +kernel
theorem dX4_survey_15 : decode cX4_survey 15 = .ok (.if_icmp .ge 35, 3) := by decide +kernel
theorem dX4_survey_18 : decode cX4_survey 18 = .ok (.aload_n 0, 1) := by decide +kernel
theorem dX4_survey_19 : decode cX4_survey 19 = .ok (.getfield 9, 3) := by decide +kernel
theorem dX4_survey_22 : decode cX4_survey 22 = .ok (.iload_n 2, 1) := by decide +kernel
theorem dX4_survey_23 : decode cX4_survey 23 = .ok (.aload_n 0, 1) := by decide +kernel
theorem dX4_survey_24 : decode cX4_survey 24 = .ok (.getfield 19, 3) := by decide +kernel
theorem dX4_survey_27 : decode cX4_survey 27 = .ok (.aload_n 0, 1) := by decide +kernel
theorem dX4_survey_28 : decode cX4_survey 28 = .ok (.getfield 19, 3) := by decide +kernel
theorem dX4_survey_31 : decode cX4_survey 31 = .ok (.getfield 32, 3) := by decide +kernel
theorem dX4_survey_34 : decode cX4_survey 34 = .ok (.iload_n 2, 1) := by decide +kernel
theorem dX4_survey_35 : decode cX4_survey 35 = .ok (.aaload, 1) := by decide +kernel
theorem dX4_survey_36 : decode cX4_survey 36 = .ok (.aload_n 0, 1) := by decide +kernel
theorem dX4_survey_37 : decode cX4_survey 37 = .ok (.getfield 23, 3) := by decide +kernel
theorem dX4_survey_40 : decode cX4_survey 40 = .ok (.invokevirtual 36, 3) := by decide +kernel
theorem dX4_survey_43 : decode cX4_survey 43 = .ok (.bastore, 1) := by decide +kernel
theorem dX4_survey_44 : decode cX4_survey 44 = .ok (.iinc 2 1, 3) := by decide +kernel
theorem dX4_survey_47 : decode cX4_survey 47 = .ok (.goto (-40), 3) := by decide +kernel
theorem dX4_survey_50 : decode cX4_survey 50 = .ok (.return_, 1) := by decide +kernel
theorem dX4_openWay_0 : decode cX4_openWay 0 = .ok (.aload_n 0, 1) := by decide +kernel
theorem dX4_openWay_1 : decode cX4_openWay 1 = .ok (.getfield 19, 3) := by decide +kernel
theorem dX4_openWay_4 : decode cX4_openWay 4 = .ok (.iload_n 1, 1) := by decide +kernel
theorem dX4_openWay_5 : decode cX4_openWay 5 = .ok (.iload_n 2, 1) := by decide +kernel
theorem dX4_openWay_6 : decode cX4_openWay 6 = .ok (.invokevirtual 40, 3) := by decide +kernel
theorem dX4_openWay_9 : decode cX4_openWay 9 = .ok (.istore_n 3, 1) := by decide +kernel
theorem dX4_openWay_10 : decode cX4_openWay 10 = .ok (.iload_n 3, 1) := by decide +kernel
theorem dX4_openWay_11 : decode cX4_openWay 11 = .ok (.iconst (-1), 1) := by decide +kernel
theorem dX4_openWay_12 : decode cX4_openWay 12 = .ok (.if_icmp .eq 16, 3) := by decide +kernel
theorem dX4_openWay_15 : decode cX4_openWay 15 = .ok (.aload_n 0, 1) := by decide +kernel
theorem dX4_openWay_16 : decode cX4_openWay 16 = .ok (.getfield 9, 3) := by decide +kernel
theorem dX4_openWay_19 : decode cX4_openWay 19 = .ok (.iload_n 3, 1) := by decide +kernel
theorem dX4_openWay_20 : decode cX4_openWay 20 = .ok (.baload, 1) := by decide +kernel
theorem dX4_openWay_21 : decode cX4_openWay 21 = .ok (.ifCond .eq 7, 3) := by decide +kernel
theorem dX4_openWay_24 : decode cX4_openWay 24 = .ok (.iload_n 3, 1) := by decide +kernel
theorem dX4_openWay_25 : decode cX4_openWay 25 = .ok (.goto 4, 3) := by decide +kernel
theorem dX4_openWay_28 : decode cX4_openWay 28 = .ok (.iconst (-1), 1) := by decide +kernel
theorem dX4_openWay_29 : decode cX4_openWay 29 = .ok (.ireturn, 1) := by decide +kernel
theorem dX4_measure_0 : decode cX4_measure 0 = .ok (.iload_n 1, 1) := by decide +kernel
theorem dX4_measure_1 : decode cX4_measure 1 = .ok (.bipush 12, 2) := by decide +kernel
theorem dX4_measure_3 : decode cX4_measure 3 = .ok (.imul, 1) := by decide +kernel
theorem dX4_measure_4 : decode cX4_measure 4 = .ok (.istore_n 2, 1) := by decide +kernel
theorem dX4_measure_5 : decode cX4_measure 5 = .ok (.iconst 0, 1) := by decide +kernel
theorem dX4_measure_6 : decode cX4_measure 6 = .ok (.istore_n 3, 1) := by decide +kernel
theorem dX4_measure_7 : decode cX4_measure 7 = .ok (.iload_n 3, 1) := by decide +kernel
theorem dX4_measure_8 : decode cX4_measure 8 = .ok (.bipush 12, 2) := by decide +kernel
theorem dX4_measure_10 : decode cX4_measure 10 = .ok (.if_icmp .ge 19, 3) := by decide +kernel
theorem dX4_measure_13 : decode cX4_measure 13 = .ok (.aload_n 0, 1) := by decide +kernel
theorem dX4_measure_14 : decode cX4_measure 14 = .ok (.getfield 15, 3) := by decide +kernel
theorem dX4_measure_17 : decode cX4_measure 17 = .ok (.iload_n 2, 1) := by decide +kernel
theorem dX4_measure_18 : decode cX4_measure 18 = .ok (.iload_n 3, 1) := by decide +kernel
theorem dX4_measure_19 : decode cX4_measure 19 = .ok (.iadd, 1) := by decide +kernel
theorem dX4_measure_20 : decode cX4_measure 20 = .ok (.ldc 44, 2) := by decide +kernel
theorem dX4_measure_22 : decode cX4_measure 22 = .ok (.iastore, 1) := by decide +kernel
theorem dX4_measure_23 : decode cX4_measure 23 = .ok (.iinc 3 1, 3) := by decide +kernel
theorem dX4_measure_26 : decode cX4_measure 26 = .ok (.goto (-19), 3) := by decide +kernel
theorem dX4_measure_29 : decode cX4_measure 29 = .ok (.aload_n 0, 1) := by decide +kernel
theorem dX4_measure_30 : decode cX4_measure 30 = .ok (.getfield 15, 3) := by decide +kernel
theorem dX4_measure_33 : decode cX4_measure 33 = .ok (.iload_n 2, 1) := by decide +kernel
theorem dX4_measure_34 : decode cX4_measure 34 = .ok (.aload_n 0, 1) := by decide +kernel
theorem dX4_measure_35 : decode cX4_measure 35 = .ok (.getfield 19, 3) := by decide +kernel
theorem dX4_measure_38 : decode cX4_measure 38 = .ok (.getfield 45, 3) := by decide +kernel
theorem dX4_measure_41 : decode cX4_measure 41 = .ok (.iload_n 1, 1) := by decide +kernel
theorem dX4_measure_42 : decode cX4_measure 42 = .ok (.iaload, 1) := by decide +kernel
theorem dX4_measure_43 : decode cX4_measure 43 = .ok (.iadd, 1) := by decide +kernel
theorem dX4_measure_44 : decode cX4_measure 44 = .ok (.iconst 0, 1) := by decide +kernel
theorem dX4_measure_45 : decode cX4_measure 45 = .ok (.iastore, 1) := by decide +kernel
theorem dX4_measure_46 : decode cX4_measure 46 = .ok (.iconst 1, 1) := by decide +kernel
theorem dX4_measure_47 : decode cX4_measure 47 = .ok (.istore_n 3, 1) := by decide +kernel
theorem dX4_measure_48 : decode cX4_measure 48 = .ok (.iconst 0, 1) := by decide +kernel
theorem dX4_measure_49 : decode cX4_measure 49 = .ok (.istore 4, 2) := by decide +kernel
theorem dX4_measure_51 : decode cX4_measure 51 = .ok (.iload 4, 2) := by decide +kernel
theorem dX4_measure_53 : decode cX4_measure 53 = .ok (.bipush 12, 2) := by decide +kernel
theorem dX4_measure_55 : decode cX4_measure 55 = .ok (.if_icmp .ge 19, 3) := by decide +kernel
theorem dX4_measure_58 : decode cX4_measure 58 = .ok (.iload_n 3, 1) := by decide +kernel
theorem dX4_measure_59 : decode cX4_measure 59 = .ok (.ifCond .eq 15, 3) := by decide +kernel
theorem dX4_measure_62 : decode cX4_measure 62 = .ok (.aload_n 0, 1) := by decide +kernel
theorem dX4_measure_63 : decode cX4_measure 63 = .ok (.iload_n 2, 1) := by decide +kernel
theorem dX4_measure_64 : decode cX4_measure 64 = .ok (.invokevirtual 48, 3) := by decide +kernel
theorem dX4_measure_67 : decode cX4_measure 67 = .ok (.istore_n 3, 1) := by decide +kernel
theorem dX4_measure_68 : decode cX4_measure 68 = .ok (.iinc 4 1, 3) := by decide +kernel
theorem dX4_measure_71 : decode cX4_measure 71 = .ok (.goto (-20), 3) := by decide +kernel
theorem dX4_measure_74 : decode cX4_measure 74 = .ok (.return_, 1) := by decide +kernel
theorem dX4_measureAll_0 : decode cX4_measureAll 0 = .ok (.iconst 0, 1) := by decide +kernel
theorem dX4_measureAll_1 : decode cX4_measureAll 1 = .ok (.istore_n 1, 1) := by decide +kernel
theorem dX4_measureAll_2 : decode cX4_measureAll 2 = .ok (.iload_n 1, 1) := by decide +kernel
theorem dX4_measureAll_3 : decode cX4_measureAll 3 = .ok (.aload_n 0, 1) := by decide +kernel
theorem dX4_measureAll_4 : decode cX4_measureAll 4 = .ok (.getfield 19, 3) := by decide +kernel
theorem dX4_measureAll_7 : decode cX4_measureAll 7 = .ok (.getfield 52, 3) := by decide +kernel
theorem dX4_measureAll_10 : decode cX4_measureAll 10 = .ok (.if_icmp .ge 14, 3) := by decide +kernel
theorem dX4_measureAll_13 : decode cX4_measureAll 13 = .ok (.aload_n 0, 1) := by decide +kernel
theorem dX4_measureAll_14 : decode cX4_measureAll 14 = .ok (.iload_n 1, 1) := by decide +kernel
theorem dX4_measureAll_15 : decode cX4_measureAll 15 = .ok (.invokevirtual 55, 3) := by decide +kernel
theorem dX4_measureAll_18 : decode cX4_measureAll 18 = .ok (.iinc 1 1, 3) := by decide +kernel
theorem dX4_measureAll_21 : decode cX4_measureAll 21 = .ok (.goto (-19), 3) := by decide +kernel
theorem dX4_measureAll_24 : decode cX4_measureAll 24 = .ok (.return_, 1) := by decide +kernel
theorem dX4_shorten_0 : decode cX4_shorten 0 = .ok (.iconst 0, 1) := by decide +kernel
theorem dX4_shorten_1 : decode cX4_shorten 1 = .ok (.istore_n 2, 1) := by decide +kernel
theorem dX4_shorten_2 : decode cX4_shorten 2 = .ok (.iconst 0, 1) := by decide +kernel
theorem dX4_shorten_3 : decode cX4_shorten 3 = .ok (.istore_n 3, 1) := by decide +kernel
theorem dX4_shorten_4 : decode cX4_shorten 4 = .ok (.iload_n 3, 1) := by decide +kernel
theorem dX4_shorten_5 : decode cX4_shorten 5 = .ok (.aload_n 0, 1) := by decide +kernel
theorem dX4_shorten_6 : decode cX4_shorten 6 = .ok (.getfield 19, 3) := by decide +kernel
theorem dX4_shorten_9 : decode cX4_shorten 9 = .ok (.getfield 27, 3) := by decide +kernel
theorem dX4_shorten_12 : decode cX4_shorten 12 = .ok (.if_icmp .ge 97, 3) := by decide +kernel
theorem dX4_shorten_15 : decode cX4_shorten 15 = .ok (.aload_n 0, 1) := by decide +kernel
theorem dX4_shorten_16 : decode cX4_shorten 16 = .ok (.getfield 19, 3) := by decide +kernel
theorem dX4_shorten_19 : decode cX4_shorten 19 = .ok (.getfield 32, 3) := by decide +kernel
theorem dX4_shorten_22 : decode cX4_shorten 22 = .ok (.iload_n 3, 1) := by decide +kernel
theorem dX4_shorten_23 : decode cX4_shorten 23 = .ok (.aaload, 1) := by decide +kernel
theorem dX4_shorten_24 : decode cX4_shorten 24 = .ok (.astore 4, 2) := by decide +kernel
theorem dX4_shorten_26 : decode cX4_shorten 26 = .ok (.aload_n 0, 1) := by decide +kernel
theorem dX4_shorten_27 : decode cX4_shorten 27 = .ok (.getfield 9, 3) := by decide +kernel
theorem dX4_shorten_30 : decode cX4_shorten 30 = .ok (.iload_n 3, 1) := by decide +kernel
theorem dX4_shorten_31 : decode cX4_shorten 31 = .ok (.baload, 1) := by decide +kernel
theorem dX4_shorten_32 : decode cX4_shorten 32 = .ok (.ifCond .eq 34, 3) := by decide +kernel
theorem dX4_shorten_35 : decode cX4_shorten 35 = .ok (.aload_n 0, 1) := by decide +kernel
theorem dX4_shorten_36 : decode cX4_shorten 36 = .ok (.iload_n 1, 1) := by decide +kernel
theorem dX4_shorten_37 : decode cX4_shorten 37 = .ok (.aload 4, 2) := by decide +kernel
theorem dX4_shorten_39 : decode cX4_shorten 39 = .ok (.getfield 59, 3) := by decide +kernel
theorem dX4_shorten_42 : decode cX4_shorten 42 = .ok (.iadd, 1) := by decide +kernel
theorem dX4_shorten_43 : decode cX4_shorten 43 = .ok (.iload_n 1, 1) := by decide +kernel
theorem dX4_shorten_44 : decode cX4_shorten 44 = .ok (.aload 4, 2) := by decide +kernel
theorem dX4_shorten_46 : decode cX4_shorten 46 = .ok (.getfield 64, 3) := by decide +kernel
theorem dX4_shorten_49 : decode cX4_shorten 49 = .ok (.iadd, 1) := by decide +kernel
theorem dX4_shorten_50 : decode cX4_shorten 50 = .ok (.aload 4, 2) := by decide +kernel
theorem dX4_shorten_52 : decode cX4_shorten 52 = .ok (.getfield 67, 3) := by decide +kernel
theorem dX4_shorten_55 : decode cX4_shorten 55 = .ok (.invokevirtual 70, 3) := by decide +kernel
theorem dX4_shorten_58 : decode cX4_shorten 58 = .ok (.ifCond .eq 8, 3) := by decide +kernel
theorem dX4_shorten_61 : decode cX4_shorten 61 = .ok (.iconst 1, 1) := by decide +kernel
theorem dX4_shorten_62 : decode cX4_shorten 62 = .ok (.istore_n 2, 1) := by decide +kernel
theorem dX4_shorten_63 : decode cX4_shorten 63 = .ok (.goto 40, 3) := by decide +kernel
theorem dX4_shorten_66 : decode cX4_shorten 66 = .ok (.aload_n 0, 1) := by decide +kernel
theorem dX4_shorten_67 : decode cX4_shorten 67 = .ok (.getfield 9, 3) := by decide +kernel
theorem dX4_shorten_70 : decode cX4_shorten 70 = .ok (.iload_n 3, 1) := by decide +kernel
theorem dX4_shorten_71 : decode cX4_shorten 71 = .ok (.baload, 1) := by decide +kernel
theorem dX4_shorten_72 : decode cX4_shorten 72 = .ok (.ifCond .eq 31, 3) := by decide +kernel
theorem dX4_shorten_75 : decode cX4_shorten 75 = .ok (.aload_n 0, 1) := by decide +kernel
theorem dX4_shorten_76 : decode cX4_shorten 76 = .ok (.iload_n 1, 1) := by decide +kernel
theorem dX4_shorten_77 : decode cX4_shorten 77 = .ok (.aload 4, 2) := by decide +kernel
theorem dX4_shorten_79 : decode cX4_shorten 79 = .ok (.getfield 64, 3) := by decide +kernel
theorem dX4_shorten_82 : decode cX4_shorten 82 = .ok (.iadd, 1) := by decide +kernel
theorem dX4_shorten_83 : decode cX4_shorten 83 = .ok (.iload_n 1, 1) := by decide +kernel
theorem dX4_shorten_84 : decode cX4_shorten 84 = .ok (.aload 4, 2) := by decide +kernel
theorem dX4_shorten_86 : decode cX4_shorten 86 = .ok (.getfield 59, 3) := by decide +kernel
theorem dX4_shorten_89 : decode cX4_shorten 89 = .ok (.iadd, 1) := by decide +kernel
theorem dX4_shorten_90 : decode cX4_shorten 90 = .ok (.aload 4, 2) := by decide +kernel
theorem dX4_shorten_92 : decode cX4_shorten 92 = .ok (.getfield 67, 3) := by decide +kernel
theorem dX4_shorten_95 : decode cX4_shorten 95 = .ok (.invokevirtual 70, 3) := by decide +kernel
theorem dX4_shorten_98 : decode cX4_shorten 98 = .ok (.ifCond .eq 5, 3) := by decide +kernel
theorem dX4_shorten_101 : decode cX4_shorten 101 = .ok (.iconst 1, 1) := by decide +kernel
theorem dX4_shorten_102 : decode cX4_shorten 102 = .ok (.istore_n 2, 1) := by decide +kernel
theorem dX4_shorten_103 : decode cX4_shorten 103 = .ok (.iinc 3 1, 3) := by decide +kernel
theorem dX4_shorten_106 : decode cX4_shorten 106 = .ok (.goto (-102), 3) := by decide +kernel
theorem dX4_shorten_109 : decode cX4_shorten 109 = .ok (.iload_n 2, 1) := by decide +kernel
theorem dX4_shorten_110 : decode cX4_shorten 110 = .ok (.ireturn, 1) := by decide +kernel
theorem dX4_shortenOne_0 : decode cX4_shortenOne 0 = .ok (.aload_n 0, 1) := by decide +kernel
theorem dX4_shortenOne_1 : decode cX4_shortenOne 1 = .ok (.getfield 15, 3) := by decide +kernel
theorem dX4_shortenOne_4 : decode cX4_shortenOne 4 = .ok (.iload_n 2, 1) := by decide +kernel
theorem dX4_shortenOne_5 : decode cX4_shortenOne 5 = .ok (.iaload, 1) := by decide +kernel
theorem dX4_shortenOne_6 : decode cX4_shortenOne 6 = .ok (.iload_n 3, 1) := by decide +kernel
theorem dX4_shortenOne_7 : decode cX4_shortenOne 7 = .ok (.iadd, 1) := by decide +kernel
theorem dX4_shortenOne_8 : decode cX4_shortenOne 8 = .ok (.aload_n 0, 1) := by decide +kernel
theorem dX4_shortenOne_9 : decode cX4_shortenOne 9 = .ok (.getfield 15, 3) := by decide +kernel
theorem dX4_shortenOne_12 : decode cX4_shortenOne 12 = .ok (.iload_n 1, 1) := by decide +kernel
theorem dX4_shortenOne_13 : decode cX4_shortenOne 13 = .ok (.iaload, 1) := by decide +kernel
theorem dX4_shortenOne_14 : decode cX4_shortenOne 14 = .ok (.if_icmp .ge 7, 3) := by decide +kernel
theorem dX4_shortenOne_17 : decode cX4_shortenOne 17 = .ok (.iconst 1, 1) := by decide +kernel
theorem dX4_shortenOne_18 : decode cX4_shortenOne 18 = .ok (.goto 4, 3) := by decide +kernel
theorem dX4_shortenOne_21 : decode cX4_shortenOne 21 = .ok (.iconst 0, 1) := by decide +kernel
theorem dX4_shortenOne_22 : decode cX4_shortenOne 22 = .ok (.istore 4, 2) := by decide +kernel
theorem dX4_shortenOne_24 : decode cX4_shortenOne 24 = .ok (.iload 4, 2) := by decide +kernel
theorem dX4_shortenOne_26 : decode cX4_shortenOne 26 = .ok (.ifCond .eq 17, 3) := by decide +kernel
theorem dX4_shortenOne_29 : decode cX4_shortenOne 29 = .ok (.aload_n 0, 1) := by decide +kernel
theorem dX4_shortenOne_30 : decode cX4_shortenOne 30 = .ok (.getfield 15, 3) := by decide +kernel
theorem dX4_shortenOne_33 : decode cX4_shortenOne 33 = .ok (.iload_n 1, 1) := by decide +kernel
theorem dX4_shortenOne_34 : decode cX4_shortenOne 34 = .ok (.aload_n 0, 1) := by decide +kernel
theorem dX4_shortenOne_35 : decode cX4_shortenOne 35 = .ok (.getfield 15, 3) := by decide +kernel
theorem dX4_shortenOne_38 : decode cX4_shortenOne 38 = .ok (.iload_n 2, 1) := by decide +kernel
theorem dX4_shortenOne_39 : decode cX4_shortenOne 39 = .ok (.iaload, 1) := by decide +kernel
theorem dX4_shortenOne_40 : decode cX4_shortenOne 40 = .ok (.iload_n 3, 1) := by decide +kernel
theorem dX4_shortenOne_41 : decode cX4_shortenOne 41 = .ok (.iadd, 1) := by decide +kernel
theorem dX4_shortenOne_42 : decode cX4_shortenOne 42 = .ok (.iastore, 1) := by decide +kernel
theorem dX4_shortenOne_43 : decode cX4_shortenOne 43 = .ok (.iload 4, 2) := by decide +kernel
theorem dX4_shortenOne_45 : decode cX4_shortenOne 45 = .ok (.ireturn, 1) := by decide +kernel
theorem dX4_minutesFrom_0 : decode cX4_minutesFrom 0 = .ok (.aload_n 0, 1) := by decide +kernel
theorem dX4_minutesFrom_1 : decode cX4_minutesFrom 1 = .ok (.getfield 15, 3) := by decide +kernel
theorem dX4_minutesFrom_4 : decode cX4_minutesFrom 4 = .ok (.iload_n 2, 1) := by decide +kernel
theorem dX4_minutesFrom_5 : decode cX4_minutesFrom 5 = .ok (.bipush 12, 2) := by decide +kernel
theorem dX4_minutesFrom_7 : decode cX4_minutesFrom 7 = .ok (.imul, 1) := by decide +kernel
theorem dX4_minutesFrom_8 : decode cX4_minutesFrom 8 = .ok (.iload_n 1, 1) := by decide +kernel
theorem dX4_minutesFrom_9 : decode cX4_minutesFrom 9 = .ok (.iadd, 1) := by decide +kernel
theorem dX4_minutesFrom_10 : decode cX4_minutesFrom 10 = .ok (.iaload, 1) := by decide +kernel
theorem dX4_minutesFrom_11 : decode cX4_minutesFrom 11 = .ok (.ireturn, 1) := by decide +kernel
theorem dX4_heading_0 : decode cX4_heading 0 = .ok (.aload_n 0, 1) := by decide +kernel
theorem dX4_heading_1 : decode cX4_heading 1 = .ok (.iload_n 1, 1) := by decide +kernel
theorem dX4_heading_2 : decode cX4_heading 2 = .ok (.iload_n 2, 1) := by decide +kernel
theorem dX4_heading_3 : decode cX4_heading 3 = .ok (.invokevirtual 74, 3) := by decide +kernel
theorem dX4_heading_6 : decode cX4_heading 6 = .ok (.istore_n 3, 1) := by decide +kernel
theorem dX4_heading_7 : decode cX4_heading 7 = .ok (.iload_n 3, 1) := by decide +kernel
theorem dX4_heading_8 : decode cX4_heading 8 = .ok (.ifCond .eq 9, 3) := by decide +kernel
theorem dX4_heading_11 : decode cX4_heading 11 = .ok (.iload_n 3, 1) := by decide +kernel
theorem dX4_heading_12 : decode cX4_heading 12 = .ok (.ldc 44, 2) := by decide +kernel
theorem dX4_heading_14 : decode cX4_heading 14 = .ok (.if_icmp .lt 5, 3) := by decide +kernel
theorem dX4_heading_17 : decode cX4_heading 17 = .ok (.iconst (-1), 1) := by decide +kernel
theorem dX4_heading_18 : decode cX4_heading 18 = .ok (.ireturn, 1) := by decide +kernel
theorem dX4_heading_19 : decode cX4_heading 19 = .ok (.iconst 0, 1) := by decide +kernel
theorem dX4_heading_20 : decode cX4_heading 20 = .ok (.istore 4, 2) := by decide +kernel
theorem dX4_heading_22 : decode cX4_heading 22 = .ok (.iload 4, 2) := by decide +kernel
theorem dX4_heading_24 : decode cX4_heading 24 = .ok (.bipush 8, 2) := by decide +kernel
theorem dX4_heading_26 : decode cX4_heading 26 = .ok (.if_icmp .ge 47, 3) := by decide +kernel
theorem dX4_heading_29 : decode cX4_heading 29 = .ok (.aload_n 0, 1) := by decide +kernel
theorem dX4_heading_30 : decode cX4_heading 30 = .ok (.iload_n 1, 1) := by decide +kernel
theorem dX4_heading_31 : decode cX4_heading 31 = .ok (.iload 4, 2) := by decide +kernel
theorem dX4_heading_33 : decode cX4_heading 33 = .ok (.invokevirtual 77, 3) := by decide +kernel
theorem dX4_heading_36 : decode cX4_heading 36 = .ok (.istore 5, 2) := by decide +kernel
theorem dX4_heading_38 : decode cX4_heading 38 = .ok (.iload 5, 2) := by decide +kernel
theorem dX4_heading_40 : decode cX4_heading 40 = .ok (.iconst (-1), 1) := by decide +kernel
theorem dX4_heading_41 : decode cX4_heading 41 = .ok (.if_icmp .eq 26, 3) := by decide +kernel
theorem dX4_heading_44 : decode cX4_heading 44 = .ok (.aload_n 0, 1) := by decide +kernel
theorem dX4_heading_45 : decode cX4_heading 45 = .ok (.aload_n 0, 1) := by decide +kernel
theorem dX4_heading_46 : decode cX4_heading 46 = .ok (.getfield 19, 3) := by decide +kernel
theorem dX4_heading_49 : decode cX4_heading 49 = .ok (.getfield 32, 3) := by decide +kernel
theorem dX4_heading_52 : decode cX4_heading 52 = .ok (.iload 5, 2) := by decide +kernel
theorem dX4_heading_54 : decode cX4_heading 54 = .ok (.aaload, 1) := by decide +kernel
theorem dX4_heading_55 : decode cX4_heading 55 = .ok (.iload_n 1, 1) := by decide +kernel
theorem dX4_heading_56 : decode cX4_heading 56 = .ok (.iload_n 2, 1) := by decide +kernel
theorem dX4_heading_57 : decode cX4_heading 57 = .ok (.invokevirtual 80, 3) := by decide +kernel
theorem dX4_heading_60 : decode cX4_heading 60 = .ok (.iload_n 3, 1) := by decide +kernel
theorem dX4_heading_61 : decode cX4_heading 61 = .ok (.if_icmp .ne 6, 3) := by decide +kernel
theorem dX4_heading_64 : decode cX4_heading 64 = .ok (.iload 4, 2) := by decide +kernel
theorem dX4_heading_66 : decode cX4_heading 66 = .ok (.ireturn, 1) := by decide +kernel
theorem dX4_heading_67 : decode cX4_heading 67 = .ok (.iinc 4 1, 3) := by decide +kernel
theorem dX4_heading_70 : decode cX4_heading 70 = .ok (.goto (-48), 3) := by decide +kernel
theorem dX4_heading_73 : decode cX4_heading 73 = .ok (.iconst (-1), 1) := by decide +kernel
theorem dX4_heading_74 : decode cX4_heading 74 = .ok (.ireturn, 1) := by decide +kernel
theorem dX4_minutesBy_0 : decode cX4_minutesBy 0 = .ok (.aload_n 1, 1) := by decide +kernel
theorem dX4_minutesBy_1 : decode cX4_minutesBy 1 = .ok (.getfield 67, 3) := by decide +kernel
theorem dX4_minutesBy_4 : decode cX4_minutesBy 4 = .ok (.aload_n 0, 1) := by decide +kernel
theorem dX4_minutesBy_5 : decode cX4_minutesBy 5 = .ok (.aload_n 1, 1) := by decide +kernel
theorem dX4_minutesBy_6 : decode cX4_minutesBy 6 = .ok (.iload_n 2, 1) := by decide +kernel
theorem dX4_minutesBy_7 : decode cX4_minutesBy 7 = .ok (.invokevirtual 84, 3) := by decide +kernel
theorem dX4_minutesBy_10 : decode cX4_minutesBy 10 = .ok (.iload_n 3, 1) := by decide +kernel
theorem dX4_minutesBy_11 : decode cX4_minutesBy 11 = .ok (.invokevirtual 74, 3) := by decide +kernel
theorem dX4_minutesBy_14 : decode cX4_minutesBy 14 = .ok (.iadd, 1) := by decide +kernel
theorem dX4_minutesBy_15 : decode cX4_minutesBy 15 = .ok (.ireturn, 1) := by decide +kernel
theorem dX4_headingOfName_0 : decode cX4_headingOfName 0 = .ok (.iload_n 2, 1) := by decide +kernel
theorem dX4_headingOfName_1 : decode cX4_headingOfName 1 = .ok (.bipush 10, 2) := by decide +kernel
theorem dX4_headingOfName_3 : decode cX4_headingOfName 3 = .ok (.if_icmp .lt 13, 3) := by decide +kernel
theorem dX4_headingOfName_6 : decode cX4_headingOfName 6 = .ok (.aload_n 0, 1) := by decide +kernel
theorem dX4_headingOfName_7 : decode cX4_headingOfName 7 = .ok (.iload_n 1, 1) := by decide +kernel
theorem dX4_headingOfName_8 : decode cX4_headingOfName 8 = .ok (.iload_n 2, 1) := by decide +kernel
theorem dX4_headingOfName_9 : decode cX4_headingOfName 9 = .ok (.bipush 10, 2) := by decide +kernel
theorem dX4_headingOfName_11 : decode cX4_headingOfName 11 = .ok (.isub, 1) := by decide +kernel
theorem dX4_headingOfName_12 : decode cX4_headingOfName 12 = .ok (.invokevirtual 88, 3) := by decide +kernel
theorem dX4_headingOfName_15 : decode cX4_headingOfName 15 = .ok (.ireturn, 1) := by decide +kernel
theorem dX4_headingOfName_16 : decode cX4_headingOfName 16 = .ok (.aload_n 0, 1) := by decide +kernel
theorem dX4_headingOfName_17 : decode cX4_headingOfName 17 = .ok (.getfield 19, 3) := by decide +kernel
theorem dX4_headingOfName_20 : decode cX4_headingOfName 20 = .ok (.iload_n 2, 1) := by decide +kernel
theorem dX4_headingOfName_21 : decode cX4_headingOfName 21 = .ok (.invokevirtual 91, 3) := by decide +kernel
theorem dX4_headingOfName_24 : decode cX4_headingOfName 24 = .ok (.ifCond .eq 12, 3) := by decide +kernel
theorem dX4_headingOfName_27 : decode cX4_headingOfName 27 = .ok (.aload_n 0, 1) := by decide +kernel
theorem dX4_headingOfName_28 : decode cX4_headingOfName 28 = .ok (.iload_n 1, 1) := by decide +kernel
theorem dX4_headingOfName_29 : decode cX4_headingOfName 29 = .ok (.iload_n 2, 1) := by decide +kernel
theorem dX4_headingOfName_30 : decode cX4_headingOfName 30 = .ok (.invokevirtual 94, 3) := by decide +kernel
theorem dX4_headingOfName_33 : decode cX4_headingOfName 33 = .ok (.goto 4, 3) := by decide +kernel
theorem dX4_headingOfName_36 : decode cX4_headingOfName 36 = .ok (.iconst (-1), 1) := by decide +kernel
theorem dX4_headingOfName_37 : decode cX4_headingOfName 37 = .ok (.ireturn, 1) := by decide +kernel
theorem dX4_headingOfGroup_0 : decode cX4_headingOfGroup 0 = .ok (.ldc 44, 2) := by decide +kernel
theorem dX4_headingOfGroup_2 : decode cX4_headingOfGroup 2 = .ok (.istore_n 3, 1) := by decide +kernel
theorem dX4_headingOfGroup_3 : decode cX4_headingOfGroup 3 = .ok (.iconst (-1), 1) := by decide +kernel
theorem dX4_headingOfGroup_4 : decode cX4_headingOfGroup 4 = .ok (.istore 4, 2) := by decide +kernel
theorem dX4_headingOfGroup_6 : decode cX4_headingOfGroup 6 = .ok (.iconst 0, 1) := by decide +kernel
theorem dX4_headingOfGroup_7 : decode cX4_headingOfGroup 7 = .ok (.istore 5, 2) := by decide +kernel
theorem dX4_headingOfGroup_9 : decode cX4_headingOfGroup 9 = .ok (.iload 5, 2) := by decide +kernel
theorem dX4_headingOfGroup_11 : decode cX4_headingOfGroup 11 = .ok (.aload_n 0, 1) := by decide +kernel
theorem dX4_headingOfGroup_12 : decode cX4_headingOfGroup 12 = .ok (.getfield 19, 3) := by decide +kernel
theorem dX4_headingOfGroup_15 : decode cX4_headingOfGroup 15 = .ok (.getfield 52, 3) := by decide +kernel
theorem dX4_headingOfGroup_18 : decode cX4_headingOfGroup 18 = .ok (.if_icmp .ge 55, 3) := by decide +kernel
theorem dX4_headingOfGroup_21 : decode cX4_headingOfGroup 21 = .ok (.aload_n 0, 1) := by decide +kernel
theorem dX4_headingOfGroup_22 : decode cX4_headingOfGroup 22 = .ok (.iload_n 1, 1) := by decide +kernel
theorem dX4_headingOfGroup_23 : decode cX4_headingOfGroup 23 = .ok (.iload 5, 2) := by decide +kernel
theorem dX4_headingOfGroup_25 : decode cX4_headingOfGroup 25 = .ok (.invokevirtual 74, 3) := by decide +kernel
theorem dX4_headingOfGroup_28 : decode cX4_headingOfGroup 28 = .ok (.istore 6, 2) := by decide +kernel
theorem dX4_headingOfGroup_30 : decode cX4_headingOfGroup 30 = .ok (.aload_n 0, 1) := by decide +kernel
theorem dX4_headingOfGroup_31 : decode cX4_headingOfGroup 31 = .ok (.getfield 19, 3) := by decide +kernel
theorem dX4_headingOfGroup_34 : decode cX4_headingOfGroup 34 = .ok (.getfield 97, 3) := by decide +kernel
theorem dX4_headingOfGroup_37 : decode cX4_headingOfGroup 37 = .ok (.iload 5, 2) := by decide +kernel
theorem dX4_headingOfGroup_39 : decode cX4_headingOfGroup 39 = .ok (.iaload, 1) := by decide +kernel
theorem dX4_headingOfGroup_40 : decode cX4_headingOfGroup 40 = .ok (.iload_n 2, 1) := by decide +kernel
theorem dX4_headingOfGroup_41 : decode cX4_headingOfGroup 41 = .ok (.if_icmp .ne 26, 3) := by decide +kernel
theorem dX4_headingOfGroup_44 : decode cX4_headingOfGroup 44 = .ok (.iload 6, 2) := by decide +kernel
theorem dX4_headingOfGroup_46 : decode cX4_headingOfGroup 46 = .ok (.ifCond .le 21, 3) := by decide +kernel
theorem dX4_headingOfGroup_49 : decode cX4_headingOfGroup 49 = .ok (.iload 6, 2) := by decide +kernel
theorem dX4_headingOfGroup_51 : decode cX4_headingOfGroup 51 = .ok (.iload_n 3, 1) := by decide +kernel
theorem dX4_headingOfGroup_52 : decode cX4_headingOfGroup 52 = .ok (.if_icmp .ge 15, 3) := by decide +kernel
theorem dX4_headingOfGroup_55 : decode cX4_headingOfGroup 55 = .ok (.iload 6, 2) := by decide +kernel
theorem dX4_headingOfGroup_57 : decode cX4_headingOfGroup 57 = .ok (.istore_n 3, 1) := by decide +kernel
theorem dX4_headingOfGroup_58 : decode cX4_headingOfGroup 58 = .ok (.aload_n 0, 1) := by decide +kernel
theorem dX4_headingOfGroup_59 : decode cX4_headingOfGroup 59 = .ok (.iload_n 1, 1) := by decide +kernel
theorem dX4_headingOfGroup_60 : decode cX4_headingOfGroup 60 = .ok (.iload 5, 2) := by decide +kernel
theorem dX4_headingOfGroup_62 : decode cX4_headingOfGroup 62 = .ok (.invokevirtual 94, 3) := by decide +kernel
theorem dX4_headingOfGroup_65 : decode cX4_headingOfGroup 65 = .ok (.istore 4, 2) := by decide +kernel
theorem dX4_headingOfGroup_67 : decode cX4_headingOfGroup 67 = .ok (.iinc 5 1, 3) := by decide +kernel
theorem dX4_headingOfGroup_70 : decode cX4_headingOfGroup 70 = .ok (.goto (-61), 3) := by decide +kernel
theorem dX4_headingOfGroup_73 : decode cX4_headingOfGroup 73 = .ok (.iload 4, 2) := by decide +kernel
theorem dX4_headingOfGroup_75 : decode cX4_headingOfGroup 75 = .ok (.ireturn, 1) := by decide +kernel
theorem dX4_needsOf_0 : decode cX4_needsOf 0 = .ok (.iconst 0, 1) := by decide +kernel
theorem dX4_needsOf_1 : decode cX4_needsOf 1 = .ok (.istore_n 3, 1) := by decide +kernel
theorem dX4_needsOf_2 : decode cX4_needsOf 2 = .ok (.iconst (-1), 1) := by decide +kernel
theorem dX4_needsOf_3 : decode cX4_needsOf 3 = .ok (.istore 4, 2) := by decide +kernel
theorem dX4_needsOf_5 : decode cX4_needsOf 5 = .ok (.iload_n 2, 1) := by decide +kernel
theorem dX4_needsOf_6 : decode cX4_needsOf 6 = .ok (.iconst (-1), 1) := by decide +kernel
theorem dX4_needsOf_7 : decode cX4_needsOf 7 = .ok (.if_icmp .eq 7, 3) := by decide +kernel
theorem dX4_needsOf_10 : decode cX4_needsOf 10 = .ok (.iconst 1, 1) := by decide +kernel
theorem dX4_needsOf_11 : decode cX4_needsOf 11 = .ok (.goto 4, 3) := by decide +kernel
theorem dX4_needsOf_14 : decode cX4_needsOf 14 = .ok (.iconst 0, 1) := by decide +kernel
theorem dX4_needsOf_15 : decode cX4_needsOf 15 = .ok (.istore 5, 2) := by decide +kernel
theorem dX4_needsOf_17 : decode cX4_needsOf 17 = .ok (.iconst 0, 1) := by decide +kernel
theorem dX4_needsOf_18 : decode cX4_needsOf 18 = .ok (.istore 6, 2) := by decide +kernel
theorem dX4_needsOf_20 : decode cX4_needsOf 20 = .ok (.iload 6, 2) := by decide +kernel
theorem dX4_needsOf_22 : decode cX4_needsOf 22 = .ok (.aload_n 0, 1) := by decide +kernel
theorem dX4_needsOf_23 : decode cX4_needsOf 23 = .ok (.getfield 19, 3) := by decide +kernel
theorem dX4_needsOf_26 : decode cX4_needsOf 26 = .ok (.getfield 52, 3) := by decide +kernel
theorem dX4_needsOf_29 : decode cX4_needsOf 29 = .ok (.if_icmp .ge 77, 3) := by decide +kernel
theorem dX4_needsOf_32 : decode cX4_needsOf 32 = .ok (.aload_n 0, 1) := by decide +kernel
theorem dX4_needsOf_33 : decode cX4_needsOf 33 = .ok (.getfield 19, 3) := by decide +kernel
theorem dX4_needsOf_36 : decode cX4_needsOf 36 = .ok (.getfield 97, 3) := by decide +kernel
theorem dX4_needsOf_39 : decode cX4_needsOf 39 = .ok (.iload 6, 2) := by decide +kernel
theorem dX4_needsOf_41 : decode cX4_needsOf 41 = .ok (.iaload, 1) := by decide +kernel
theorem dX4_needsOf_42 : decode cX4_needsOf 42 = .ok (.iload_n 2, 1) := by decide +kernel
theorem dX4_needsOf_43 : decode cX4_needsOf 43 = .ok (.if_icmp .ne 13, 3) := by decide +kernel
theorem dX4_needsOf_46 : decode cX4_needsOf 46 = .ok (.aload_n 0, 1) := by decide +kernel
theorem dX4_needsOf_47 : decode cX4_needsOf 47 = .ok (.iload_n 1, 1) := by decide +kernel
theorem dX4_needsOf_48 : decode cX4_needsOf 48 = .ok (.iload 6, 2) := by decide +kernel
theorem dX4_needsOf_50 : decode cX4_needsOf 50 = .ok (.invokevirtual 94, 3) := by decide +kernel
theorem dX4_needsOf_53 : decode cX4_needsOf 53 = .ok (.goto 4, 3) := by decide +kernel
theorem dX4_needsOf_56 : decode cX4_needsOf 56 = .ok (.iconst (-1), 1) := by decide +kernel
theorem dX4_needsOf_57 : decode cX4_needsOf 57 = .ok (.istore 7, 2) := by decide +kernel
theorem dX4_needsOf_59 : decode cX4_needsOf 59 = .ok (.iload 7, 2) := by decide +kernel
theorem dX4_needsOf_61 : decode cX4_needsOf 61 = .ok (.iconst (-1), 1) := by decide +kernel
theorem dX4_needsOf_62 : decode cX4_needsOf 62 = .ok (.if_icmp .eq 38, 3) := by decide +kernel
theorem dX4_needsOf_65 : decode cX4_needsOf 65 = .ok (.iload_n 3, 1) := by decide +kernel
theorem dX4_needsOf_66 : decode cX4_needsOf 66 = .ok (.ifCond .ne 8, 3) := by decide +kernel
theorem dX4_needsOf_69 : decode cX4_needsOf 69 = .ok (.iload 7, 2) := by decide +kernel
theorem dX4_needsOf_71 : decode cX4_needsOf 71 = .ok (.goto 5, 3) := by decide +kernel
theorem dX4_needsOf_74 : decode cX4_needsOf 74 = .ok (.iload 4, 2) := by decide +kernel
theorem dX4_needsOf_76 : decode cX4_needsOf 76 = .ok (.istore 4, 2) := by decide +kernel
theorem dX4_needsOf_78 : decode cX4_needsOf 78 = .ok (.iload 5, 2) := by decide +kernel
theorem dX4_needsOf_80 : decode cX4_needsOf 80 = .ok (.ifCond .eq 14, 3) := by decide +kernel
theorem dX4_needsOf_83 : decode cX4_needsOf 83 = .ok (.iload 7, 2) := by decide +kernel
theorem dX4_needsOf_85 : decode cX4_needsOf 85 = .ok (.iload 4, 2) := by decide +kernel
theorem dX4_needsOf_87 : decode cX4_needsOf 87 = .ok (.if_icmp .ne 7, 3) := by decide +kernel
theorem dX4_needsOf_90 : decode cX4_needsOf 90 = .ok (.iconst 1, 1) := by decide +kernel
theorem dX4_needsOf_91 : decode cX4_needsOf 91 = .ok (.goto 4, 3) := by decide +kernel
theorem dX4_needsOf_94 : decode cX4_needsOf 94 = .ok (.iconst 0, 1) := by decide +kernel
theorem dX4_needsOf_95 : decode cX4_needsOf 95 = .ok (.istore 5, 2) := by decide +kernel
theorem dX4_needsOf_97 : decode cX4_needsOf 97 = .ok (.iinc 3 1, 3) := by decide +kernel
theorem dX4_needsOf_100 : decode cX4_needsOf 100 = .ok (.iinc 6 1, 3) := by decide +kernel
theorem dX4_needsOf_103 : decode cX4_needsOf 103 = .ok (.goto (-83), 3) := by decide +kernel
theorem dX4_needsOf_106 : decode cX4_needsOf 106 = .ok (.iload 5, 2) := by decide +kernel
theorem dX4_needsOf_108 : decode cX4_needsOf 108 = .ok (.ifCond .eq 11, 3) := by decide +kernel
theorem dX4_needsOf_111 : decode cX4_needsOf 111 = .ok (.iload_n 3, 1) := by decide +kernel
theorem dX4_needsOf_112 : decode cX4_needsOf 112 = .ok (.iconst 1, 1) := by decide +kernel
theorem dX4_needsOf_113 : decode cX4_needsOf 113 = .ok (.invokestatic 100, 3) := by decide +kernel
theorem dX4_needsOf_116 : decode cX4_needsOf 116 = .ok (.goto 4, 3) := by decide +kernel
theorem dX4_needsOf_119 : decode cX4_needsOf 119 = .ok (.iload_n 3, 1) := by decide +kernel
theorem dX4_needsOf_120 : decode cX4_needsOf 120 = .ok (.ireturn, 1) := by decide +kernel
theorem dX5_init_0 : decode cX5_init 0 = .ok (.aload_n 0, 1) := by decide +kernel
theorem dX5_init_1 : decode cX5_init 1 = .ok (.invokespecial 3, 3) := by decide +kernel
theorem dX5_init_4 : decode cX5_init 4 = .ok (.aload_n 0, 1) := by decide +kernel
theorem dX5_init_5 : decode cX5_init 5 = .ok (.iconst (-1), 1) := by decide +kernel
theorem dX5_init_6 : decode cX5_init 6 = .ok (.putfield 9, 3) := by decide +kernel
theorem dX5_init_9 : decode cX5_init 9 = .ok (.aload_n 0, 1) := by decide +kernel
theorem dX5_init_10 : decode cX5_init 10 = .ok (.iconst 0, 1) := by decide +kernel
theorem dX5_init_11 : decode cX5_init 11 = .ok (.putfield 15, 3) := by decide +kernel
theorem dX5_init_14 : decode cX5_init 14 = .ok (.aload_n 0, 1) := by decide +kernel
theorem dX5_init_15 : decode cX5_init 15 = .ok (.bipush 24, 2) := by decide +kernel
theorem dX5_init_17 : decode cX5_init 17 = .ok (.newarray .short, 2) := by decide +kernel
theorem dX5_init_19 : decode cX5_init 19 = .ok (.putfield 18, 3) := by decide +kernel
theorem dX5_init_22 : decode cX5_init 22 = .ok (.return_, 1) := by decide +kernel
theorem dX5_become_0 : decode cX5_become 0 = .ok (.aload_n 0, 1) := by decide +kernel
theorem dX5_become_1 : decode cX5_become 1 = .ok (.iload_n 1, 1) := by decide +kernel
theorem dX5_become_2 : decode cX5_become 2 = .ok (.putfield 9, 3) := by decide +kernel
theorem dX5_become_5 : decode cX5_become 5 = .ok (.aload_n 0, 1) := by decide +kernel
theorem dX5_become_6 : decode cX5_become 6 = .ok (.iload_n 2, 1) := by decide +kernel
theorem dX5_become_7 : decode cX5_become 7 = .ok (.putfield 15, 3) := by decide +kernel
theorem dX5_become_10 : decode cX5_become 10 = .ok (.aload_n 0, 1) := by decide +kernel
theorem dX5_become_11 : decode cX5_become 11 = .ok (.getfield 18, 3) := by decide +kernel
theorem dX5_become_14 : decode cX5_become 14 = .ok (.iconst 0, 1) := by decide +kernel
theorem dX5_become_15 : decode cX5_become 15 = .ok (.invokestatic 22, 3) := by decide +kernel
theorem dX5_become_18 : decode cX5_become 18 = .ok (.return_, 1) := by decide +kernel
theorem dX5_becomeAs_0 : decode cX5_becomeAs 0 = .ok (.aload_n 0, 1) := by decide +kernel
theorem dX5_becomeAs_1 : decode cX5_becomeAs 1 = .ok (.aload_n 1, 1) := by decide +kernel
theorem dX5_becomeAs_2 : decode cX5_becomeAs 2 = .ok (.getfield 9, 3) := by decide +kernel
theorem dX5_becomeAs_5 : decode cX5_becomeAs 5 = .ok (.putfield 9, 3) := by decide +kernel
theorem dX5_becomeAs_8 : decode cX5_becomeAs 8 = .ok (.aload_n 0, 1) := by decide +kernel
theorem dX5_becomeAs_9 : decode cX5_becomeAs 9 = .ok (.aload_n 1, 1) := by decide +kernel
theorem dX5_becomeAs_10 : decode cX5_becomeAs 10 = .ok (.getfield 15, 3) := by decide +kernel
theorem dX5_becomeAs_13 : decode cX5_becomeAs 13 = .ok (.putfield 15, 3) := by decide +kernel
theorem dX5_becomeAs_16 : decode cX5_becomeAs 16 = .ok (.aload_n 1, 1) := by decide +kernel
theorem dX5_becomeAs_17 : decode cX5_becomeAs 17 = .ok (.getfield 18, 3) := by decide +kernel
theorem dX5_becomeAs_20 : decode cX5_becomeAs 20 = .ok (.iconst 0, 1) := by decide +kernel
theorem dX5_becomeAs_21 : decode cX5_becomeAs 21 = .ok (.aload_n 0, 1) := by decide +kernel
theorem dX5_becomeAs_22 : decode cX5_becomeAs 22 = .ok (.getfield 18, 3) := by decide +kernel
theorem dX5_becomeAs_25 : decode cX5_becomeAs 25 = .ok (.iconst 0, 1) := by decide +kernel
theorem dX5_becomeAs_26 : decode cX5_becomeAs 26 = .ok (.bipush 24, 2) := by decide +kernel
theorem dX5_becomeAs_28 : decode cX5_becomeAs 28 = .ok (.invokestatic 28, 3) := by decide +kernel
theorem dX5_becomeAs_31 : decode cX5_becomeAs 31 = .ok (.return_, 1) := by decide +kernel
theorem dX5_put_0 : decode cX5_put 0 = .ok (.aload_n 0, 1) := by decide +kernel
theorem dX5_put_1 : decode cX5_put 1 = .ok (.getfield 18, 3) := by decide +kernel
theorem dX5_put_4 : decode cX5_put 4 = .ok (.iload_n 1, 1) := by decide +kernel
theorem dX5_put_5 : decode cX5_put 5 = .ok (.aload_n 0, 1) := by decide +kernel
theorem dX5_put_6 : decode cX5_put 6 = .ok (.getfield 9, 3) := by decide +kernel
theorem dX5_put_9 : decode cX5_put 9 = .ok (.ifCond .ne 9, 3) := by decide +kernel
theorem dX5_put_12 : decode cX5_put 12 = .ok (.iload_n 2, 1) := by decide +kernel
theorem dX5_put_13 : decode cX5_put 13 = .ok (.i2b, 1) := by decide +kernel
theorem dX5_put_14 : decode cX5_put 14 = .ok (.i2s, 1) := by decide +kernel
theorem dX5_put_15 : decode cX5_put 15 = .ok (.goto 5, 3) := by decide +kernel
theorem dX5_put_18 : decode cX5_put 18 = .ok (.iload_n 2, 1) := by decide +kernel
theorem dX5_put_19 : decode cX5_put 19 = .ok (.i2s, 1) := by decide +kernel
theorem dX5_put_20 : decode cX5_put 20 = .ok (.sastore, 1) := by decide +kernel
theorem dX5_put_21 : decode cX5_put 21 = .ok (.return_, 1) := by decide +kernel
theorem dX5_hasCells_0 : decode cX5_hasCells 0 = .ok (.iload_n 1, 1) := by decide +kernel
theorem dX5_hasCells_1 : decode cX5_hasCells 1 = .ok (.ifCond .lt 29, 3) := by decide +kernel
theorem dX5_hasCells_4 : decode cX5_hasCells 4 = .ok (.iload_n 2, 1) := by decide +kernel
theorem dX5_hasCells_5 : decode cX5_hasCells 5 = .ok (.ifCond .lt 25, 3) := by decide +kernel
theorem dX5_hasCells_8 : decode cX5_hasCells 8 = .ok (.iload_n 1, 1) := by decide +kernel
theorem dX5_hasCells_9 : decode cX5_hasCells 9 = .ok (.aload_n 0, 1) := by decide +kernel
theorem dX5_hasCells_10 : decode cX5_hasCells 10 = .ok (.getfield 15, 3) := by decide +kernel
theorem dX5_hasCells_13 : decode cX5_hasCells 13 = .ok (.if_icmp .gt 17, 3) := by decide +kernel
theorem dX5_hasCells_16 : decode cX5_hasCells 16 = .ok (.iload_n 2, 1) := by decide +kernel
theorem dX5_hasCells_17 : decode cX5_hasCells 17 = .ok (.aload_n 0, 1) := by decide +kernel
theorem dX5_hasCells_18 : decode cX5_hasCells 18 = .ok (.getfield 15, 3) := by decide +kernel
theorem dX5_hasCells_21 : decode cX5_hasCells 21 = .ok (.iload_n 1, 1) := by decide +kernel
theorem dX5_hasCells_22 : decode cX5_hasCells 22 = .ok (.isub, 1) := by decide +kernel
theorem dX5_hasCells_23 : decode cX5_hasCells 23 = .ok (.if_icmp .gt 7, 3) := by decide +kernel
theorem dX5_hasCells_26 : decode cX5_hasCells 26 = .ok (.iconst 1, 1) := by decide +kernel
theorem dX5_hasCells_27 : decode cX5_hasCells 27 = .ok (.goto 4, 3) := by decide +kernel
theorem dX5_hasCells_30 : decode cX5_hasCells 30 = .ok (.iconst 0, 1) := by decide +kernel
theorem dX5_hasCells_31 : decode cX5_hasCells 31 = .ok (.ireturn, 1) := by decide +kernel
theorem dX6_init_0 : decode cX6_init 0 = .ok (.aload_n 0, 1) := by decide +kernel
theorem dX6_init_1 : decode cX6_init 1 = .ok (.invokespecial 3, 3) := by decide +kernel
theorem dX6_init_4 : decode cX6_init 4 = .ok (.aload_n 0, 1) := by decide +kernel
theorem dX6_init_5 : decode cX6_init 5 = .ok (.bipush 6, 2) := by decide +kernel
theorem dX6_init_7 : decode cX6_init 7 = .ok (.newarray .int, 2) := by decide +kernel
theorem dX6_init_9 : decode cX6_init 9 = .ok (.putfield 9, 3) := by decide +kernel
theorem dX6_init_12 : decode cX6_init 12 = .ok (.aload_n 0, 1) := by decide +kernel
theorem dX6_init_13 : decode cX6_init 13 = .ok (.bipush 6, 2) := by decide +kernel
theorem dX6_init_15 : decode cX6_init 15 = .ok (.newarray .int, 2) := by decide +kernel
theorem dX6_init_17 : decode cX6_init 17 = .ok (.putfield 15, 3) := by decide +kernel
theorem dX6_init_20 : decode cX6_init 20 = .ok (.return_, 1) := by decide +kernel
theorem dX6_mostOf_0 : decode cX6_mostOf 0 = .ok (.iload_n 0, 1) := by decide +kernel
theorem dX6_mostOf_1 : decode cX6_mostOf 1 = .ok (.tableswitch 65 1 5 #[35, 49, 42, 51, 58], 35) := by decide +kernel
theorem dX6_mostOf_36 : decode cX6_mostOf 36 = .ok (.iconst 0, 1) := by decide +kernel
theorem dX6_mostOf_37 : decode cX6_mostOf 37 = .ok (.invokestatic 18, 3) := by decide +kernel
theorem dX6_mostOf_40 : decode cX6_mostOf 40 = .ok (.iconst 1, 1) := by decide +kernel
theorem dX6_mostOf_41 : decode cX6_mostOf 41 = .ok (.iadd, 1) := by decide +kernel
theorem dX6_mostOf_42 : decode cX6_mostOf 42 = .ok (.ireturn, 1) := by decide +kernel
theorem dX6_mostOf_43 : decode cX6_mostOf 43 = .ok (.iconst 1, 1) := by decide +kernel
theorem dX6_mostOf_44 : decode cX6_mostOf 44 = .ok (.invokestatic 18, 3) := by decide +kernel
theorem dX6_mostOf_47 : decode cX6_mostOf 47 = .ok (.iconst 2, 1) := by decide +kernel
theorem dX6_mostOf_48 : decode cX6_mostOf 48 = .ok (.isub, 1) := by decide +kernel
theorem dX6_mostOf_49 : decode cX6_mostOf 49 = .ok (.ireturn, 1) := by decide +kernel
theorem dX6_mostOf_50 : decode cX6_mostOf 50 = .ok (.iconst 2, 1) := by decide +kernel
theorem dX6_mostOf_51 : decode cX6_mostOf 51 = .ok (.ireturn, 1) := by decide +kernel
theorem dX6_mostOf_52 : decode cX6_mostOf 52 = .ok (.iconst 3, 1) := by decide +kernel
theorem dX6_mostOf_53 : decode cX6_mostOf 53 = .ok (.iconst 2, 1) := by decide +kernel
theorem dX6_mostOf_54 : decode cX6_mostOf 54 = .ok (.invokestatic 18, 3) := by decide +kernel
theorem dX6_mostOf_57 : decode cX6_mostOf 57 = .ok (.imul, 1) := by decide +kernel
theorem dX6_mostOf_58 : decode cX6_mostOf 58 = .ok (.ireturn, 1) := by decide +kernel
theorem dX6_mostOf_59 : decode cX6_mostOf 59 = .ok (.iconst 0, 1) := by decide +kernel
theorem dX6_mostOf_60 : decode cX6_mostOf 60 = .ok (.invokestatic 18, 3) := by decide +kernel
theorem dX6_mostOf_63 : decode cX6_mostOf 63 = .ok (.iconst 3, 1) := by decide +kernel
theorem dX6_mostOf_64 : decode cX6_mostOf 64 = .ok (.isub, 1) := by decide +kernel
theorem dX6_mostOf_65 : decode cX6_mostOf 65 = .ok (.ireturn, 1) := by decide +kernel
theorem dX6_mostOf_66 : decode cX6_mostOf 66 = .ok (.iconst 4, 1) := by decide +kernel
theorem dX6_mostOf_67 : decode cX6_mostOf 67 = .ok (.ireturn, 1) := by decide +kernel
theorem dX6_seenOf_0 : decode cX6_seenOf 0 = .ok (.iload_n 0, 1) := by decide +kernel
theorem dX6_seenOf_1 : decode cX6_seenOf 1 = .ok (.tableswitch 61 1 5 #[35, 47, 42, 49, 54], 35) := by decide +kernel
theorem dX6_seenOf_36 : decode cX6_seenOf 36 = .ok (.iconst 0, 1) := by decide +kernel
theorem dX6_seenOf_37 : decode cX6_seenOf 37 = .ok (.invokestatic 22, 3) := by decide +kernel
theorem dX6_seenOf_40 : decode cX6_seenOf 40 = .ok (.iconst 2, 1) := by decide +kernel
theorem dX6_seenOf_41 : decode cX6_seenOf 41 = .ok (.iadd, 1) := by decide +kernel
theorem dX6_seenOf_42 : decode cX6_seenOf 42 = .ok (.ireturn, 1) := by decide +kernel
theorem dX6_seenOf_43 : decode cX6_seenOf 43 = .ok (.iconst 1, 1) := by decide +kernel
theorem dX6_seenOf_44 : decode cX6_seenOf 44 = .ok (.invokestatic 22, 3) := by decide +kernel
theorem dX6_seenOf_47 : decode cX6_seenOf 47 = .ok (.ireturn, 1) := by decide +kernel
theorem dX6_seenOf_48 : decode cX6_seenOf 48 = .ok (.iconst 1, 1) := by decide +kernel
theorem dX6_seenOf_49 : decode cX6_seenOf 49 = .ok (.ireturn, 1) := by decide +kernel
theorem dX6_seenOf_50 : decode cX6_seenOf 50 = .ok (.iconst 2, 1) := by decide +kernel
theorem dX6_seenOf_51 : decode cX6_seenOf 51 = .ok (.invokestatic 22, 3) := by decide +kernel
theorem dX6_seenOf_54 : decode cX6_seenOf 54 = .ok (.ireturn, 1) := by decide +kernel
theorem dX6_seenOf_55 : decode cX6_seenOf 55 = .ok (.iconst 2, 1) := by decide +kernel
theorem dX6_seenOf_56 : decode cX6_seenOf 56 = .ok (.iconst 0, 1) := by decide +kernel
theorem dX6_seenOf_57 : decode cX6_seenOf 57 = .ok (.invokestatic 22, 3) := by decide +kernel
theorem dX6_seenOf_60 : decode cX6_seenOf 60 = .ok (.imul, 1) := by decide +kernel
theorem dX6_seenOf_61 : decode cX6_seenOf 61 = .ok (.ireturn, 1) := by decide +kernel
theorem dX6_seenOf_62 : decode cX6_seenOf 62 = .ok (.iconst 3, 1) := by decide +kernel
theorem dX6_seenOf_63 : decode cX6_seenOf 63 = .ok (.ireturn, 1) := by decide +kernel
theorem dX6_priceOf_0 : decode cX6_priceOf 0 = .ok (.iload_n 0, 1) := by decide +kernel
theorem dX6_priceOf_1 : decode cX6_priceOf 1 = .ok (.tableswitch 70 1 5 #[35, 51, 43, 59, 68], 35) := by decide +kernel
theorem dX6_priceOf_36 : decode cX6_priceOf 36 = .ok (.iconst 0, 1) := by decide +kernel
theorem dX6_priceOf_37 : decode cX6_priceOf 37 = .ok (.iload_n 1, 1) := by decide +kernel
theorem dX6_priceOf_38 : decode cX6_priceOf 38 = .ok (.invokestatic 25, 3) := by decide +kernel
theorem dX6_priceOf_41 : decode cX6_priceOf 41 = .ok (.iconst 5, 1) := by decide +kernel
theorem dX6_priceOf_42 : decode cX6_priceOf 42 = .ok (.iadd, 1) := by decide +kernel
theorem dX6_priceOf_43 : decode cX6_priceOf 43 = .ok (.ireturn, 1) := by decide +kernel
theorem dX6_priceOf_44 : decode cX6_priceOf 44 = .ok (.iconst 2, 1) := by decide +kernel
theorem dX6_priceOf_45 : decode cX6_priceOf 45 = .ok (.iconst 1, 1) := by decide +kernel
theorem dX6_priceOf_46 : decode cX6_priceOf 46 = .ok (.iload_n 1, 1) := by decide +kernel
theorem dX6_priceOf_47 : decode cX6_priceOf 47 = .ok (.invokestatic 25, 3) := by decide +kernel
theorem dX6_priceOf_50 : decode cX6_priceOf 50 = .ok (.imul, 1) := by decide +kernel
theorem dX6_priceOf_51 : decode cX6_priceOf 51 = .ok (.ireturn, 1) := by decide +kernel
theorem dX6_priceOf_52 : decode cX6_priceOf 52 = .ok (.iconst 0, 1) := by decide +kernel
theorem dX6_priceOf_53 : decode cX6_priceOf 53 = .ok (.iload_n 1, 1) := by decide +kernel
theorem dX6_priceOf_54 : decode cX6_priceOf 54 = .ok (.invokestatic 25, 3) := by decide +kernel
theorem dX6_priceOf_57 : decode cX6_priceOf 57 = .ok (.iconst 2, 1) := by decide +kernel
theorem dX6_priceOf_58 : decode cX6_priceOf 58 = .ok (.idiv, 1) := by decide +kernel
theorem dX6_priceOf_59 : decode cX6_priceOf 59 = .ok (.ireturn, 1) := by decide +kernel
theorem dX6_priceOf_60 : decode cX6_priceOf 60 = .ok (.iconst 2, 1) := by decide +kernel
theorem dX6_priceOf_61 : decode cX6_priceOf 61 = .ok (.iload_n 1, 1) := by decide +kernel
theorem dX6_priceOf_62 : decode cX6_priceOf 62 = .ok (.invokestatic 25, 3) := by decide +kernel
theorem dX6_priceOf_65 : decode cX6_priceOf 65 = .ok (.bipush 8, 2) := by decide +kernel
theorem dX6_priceOf_67 : decode cX6_priceOf 67 = .ok (.iadd, 1) := by decide +kernel
theorem dX6_priceOf_68 : decode cX6_priceOf 68 = .ok (.ireturn, 1) := by decide +kernel
theorem dX6_priceOf_69 : decode cX6_priceOf 69 = .ok (.iconst 1, 1) := by decide +kernel
theorem dX6_priceOf_70 : decode cX6_priceOf 70 = .ok (.ireturn, 1) := by decide +kernel
theorem dX6_priceOf_71 : decode cX6_priceOf 71 = .ok (.bipush 10, 2) := by decide +kernel
theorem dX6_priceOf_73 : decode cX6_priceOf 73 = .ok (.iconst 2, 1) := by decide +kernel
theorem dX6_priceOf_74 : decode cX6_priceOf 74 = .ok (.iload_n 1, 1) := by decide +kernel
theorem dX6_priceOf_75 : decode cX6_priceOf 75 = .ok (.imul, 1) := by decide +kernel
theorem dX6_priceOf_76 : decode cX6_priceOf 76 = .ok (.iadd, 1) := by decide +kernel
theorem dX6_priceOf_77 : decode cX6_priceOf 77 = .ok (.ireturn, 1) := by decide +kernel
theorem dX6_isOfKind_0 : decode cX6_isOfKind 0 = .ok (.iload_n 0, 1) := by decide +kernel
theorem dX6_isOfKind_1 : decode cX6_isOfKind 1 = .ok (.istore_n 2, 1) := by decide +kernel
theorem dX6_isOfKind_2 : decode cX6_isOfKind 2 = .ok (.iconst 0, 1) := by decide +kernel
theorem dX6_isOfKind_3 : decode cX6_isOfKind 3 = .ok (.istore_n 3, 1) := by decide +kernel
theorem dX6_isOfKind_4 : decode cX6_isOfKind 4 = .ok (.iload_n 3, 1) := by decide +kernel
theorem dX6_isOfKind_5 : decode cX6_isOfKind 5 = .ok (.bipush 6, 2) := by decide +kernel
theorem dX6_isOfKind_7 : decode cX6_isOfKind 7 = .ok (.if_icmp .ge 31, 3) := by decide +kernel
theorem dX6_isOfKind_10 : decode cX6_isOfKind 10 = .ok (.iload_n 2, 1) := by decide +kernel
theorem dX6_isOfKind_11 : decode cX6_isOfKind 11 = .ok (.bipush 6, 2) := by decide +kernel
theorem dX6_isOfKind_13 : decode cX6_isOfKind 13 = .ok (.invokestatic 29, 3) := by decide +kernel
theorem dX6_isOfKind_16 : decode cX6_isOfKind 16 = .ok (.ifCond .eq 22, 3) := by decide +kernel
theorem dX6_isOfKind_19 : decode cX6_isOfKind 19 = .ok (.iload_n 2, 1) := by decide +kernel
theorem dX6_isOfKind_20 : decode cX6_isOfKind 20 = .ok (.iload_n 1, 1) := by decide +kernel
theorem dX6_isOfKind_21 : decode cX6_isOfKind 21 = .ok (.if_icmp .ne 5, 3) := by decide +kernel
theorem dX6_isOfKind_24 : decode cX6_isOfKind 24 = .ok (.iconst 1, 1) := by decide +kernel
theorem dX6_isOfKind_25 : decode cX6_isOfKind 25 = .ok (.ireturn, 1) := by decide +kernel
theorem dX6_isOfKind_26 : decode cX6_isOfKind 26 = .ok (.getstatic 33, 3) := by decide +kernel
theorem dX6_isOfKind_29 : decode cX6_isOfKind 29 = .ok (.iload_n 2, 1) := by decide +kernel
theorem dX6_isOfKind_30 : decode cX6_isOfKind 30 = .ok (.iaload, 1) := by decide +kernel
theorem dX6_isOfKind_31 : decode cX6_isOfKind 31 = .ok (.istore_n 2, 1) := by decide +kernel
theorem dX6_isOfKind_32 : decode cX6_isOfKind 32 = .ok (.iinc 3 1, 3) := by decide +kernel
theorem dX6_isOfKind_35 : decode cX6_isOfKind 35 = .ok (.goto (-31), 3) := by decide +kernel
theorem dX6_isOfKind_38 : decode cX6_isOfKind 38 = .ok (.iconst 0, 1) := by decide +kernel
theorem dX6_isOfKind_39 : decode cX6_isOfKind 39 = .ok (.ireturn, 1) := by decide +kernel
theorem dX6_begin_0 : decode cX6_begin 0 = .ok (.aload_n 0, 1) := by decide +kernel
theorem dX6_begin_1 : decode cX6_begin 1 = .ok (.iload_n 1, 1) := by decide +kernel
theorem dX6_begin_2 : decode cX6_begin 2 = .ok (.putfield 36, 3) := by decide +kernel
theorem dX6_begin_5 : decode cX6_begin 5 = .ok (.aload_n 0, 1) := by decide +kernel
theorem dX6_begin_6 : decode cX6_begin 6 = .ok (.iload_n 2, 1) := by decide +kernel
theorem dX6_begin_7 : decode cX6_begin 7 = .ok (.putfield 40, 3) := by decide +kernel
theorem dX6_begin_10 : decode cX6_begin 10 = .ok (.aload_n 0, 1) := by decide +kernel
theorem dX6_begin_11 : decode cX6_begin 11 = .ok (.iload_n 3, 1) := by decide +kernel
theorem dX6_begin_12 : decode cX6_begin 12 = .ok (.putfield 43, 3) := by decide +kernel
theorem dX6_begin_15 : decode cX6_begin 15 = .ok (.aload_n 0, 1) := by decide +kernel
theorem dX6_begin_16 : decode cX6_begin 16 = .ok (.iconst 0, 1) := by decide +kernel
theorem dX6_begin_17 : decode cX6_begin 17 = .ok (.putfield 46, 3) := by decide +kernel
theorem dX6_begin_20 : decode cX6_begin 20 = .ok (.aload_n 0, 1) := by decide +kernel
theorem dX6_begin_21 : decode cX6_begin 21 = .ok (.iconst 0, 1) := by decide +kernel
theorem dX6_begin_22 : decode cX6_begin 22 = .ok (.putfield 49, 3) := by decide +kernel
theorem dX6_begin_25 : decode cX6_begin 25 = .ok (.return_, 1) := by decide +kernel
theorem dX6_becomeAs_0 : decode cX6_becomeAs 0 = .ok (.aload_n 0, 1) := by decide +kernel
theorem dX6_becomeAs_1 : decode cX6_becomeAs 1 = .ok (.aload_n 1, 1) := by decide +kernel
theorem dX6_becomeAs_2 : decode cX6_becomeAs 2 = .ok (.getfield 36, 3) := by decide +kernel
theorem dX6_becomeAs_5 : decode cX6_becomeAs 5 = .ok (.putfield 36, 3) := by decide +kernel
theorem dX6_becomeAs_8 : decode cX6_becomeAs 8 = .ok (.aload_n 0, 1) := by decide +kernel
theorem dX6_becomeAs_9 : decode cX6_becomeAs 9 = .ok (.aload_n 1, 1) := by decide +kernel
theorem dX6_becomeAs_10 : decode cX6_becomeAs 10 = .ok (.getfield 40, 3) := by decide +kernel
theorem dX6_becomeAs_13 : decode cX6_becomeAs 13 = .ok (.putfield 40, 3) := by decide +kernel
theorem dX6_becomeAs_16 : decode cX6_becomeAs 16 = .ok (.aload_n 0, 1) := by decide +kernel
theorem dX6_becomeAs_17 : decode cX6_becomeAs 17 = .ok (.aload_n 1, 1) := by decide +kernel
theorem dX6_becomeAs_18 : decode cX6_becomeAs 18 = .ok (.getfield 43, 3) := by decide +kernel
theorem dX6_becomeAs_21 : decode cX6_becomeAs 21 = .ok (.putfield 43, 3) := by decide +kernel
theorem dX6_becomeAs_24 : decode cX6_becomeAs 24 = .ok (.aload_n 0, 1) := by decide +kernel
theorem dX6_becomeAs_25 : decode cX6_becomeAs 25 = .ok (.aload_n 1, 1) := by decide +kernel
theorem dX6_becomeAs_26 : decode cX6_becomeAs 26 = .ok (.getfield 46, 3) := by decide +kernel
theorem dX6_becomeAs_29 : decode cX6_becomeAs 29 = .ok (.putfield 46, 3) := by decide +kernel
theorem dX6_becomeAs_32 : decode cX6_becomeAs 32 = .ok (.aload_n 0, 1) := by decide +kernel
theorem dX6_becomeAs_33 : decode cX6_becomeAs 33 = .ok (.aload_n 1, 1) := by decide +kernel
theorem dX6_becomeAs_34 : decode cX6_becomeAs 34 = .ok (.getfield 49, 3) := by decide +kernel
theorem dX6_becomeAs_37 : decode cX6_becomeAs 37 = .ok (.putfield 49, 3) := by decide +kernel
theorem dX6_becomeAs_40 : decode cX6_becomeAs 40 = .ok (.aload_n 1, 1) := by decide +kernel
theorem dX6_becomeAs_41 : decode cX6_becomeAs 41 = .ok (.getfield 9, 3) := by decide +kernel
theorem dX6_becomeAs_44 : decode cX6_becomeAs 44 = .ok (.iconst 0, 1) := by decide +kernel
theorem dX6_becomeAs_45 : decode cX6_becomeAs 45 = .ok (.aload_n 0, 1) := by decide +kernel
theorem dX6_becomeAs_46 : decode cX6_becomeAs 46 = .ok (.getfield 9, 3) := by decide +kernel
theorem dX6_becomeAs_49 : decode cX6_becomeAs 49 = .ok (.iconst 0, 1) := by decide +kernel
theorem dX6_becomeAs_50 : decode cX6_becomeAs 50 = .ok (.bipush 6, 2) := by decide +kernel
theorem dX6_becomeAs_52 : decode cX6_becomeAs 52 = .ok (.invokestatic 52, 3) := by decide +kernel
theorem dX6_becomeAs_55 : decode cX6_becomeAs 55 = .ok (.aload_n 1, 1) := by decide +kernel
theorem dX6_becomeAs_56 : decode cX6_becomeAs 56 = .ok (.getfield 15, 3) := by decide +kernel
theorem dX6_becomeAs_59 : decode cX6_becomeAs 59 = .ok (.iconst 0, 1) := by decide +kernel
theorem dX6_becomeAs_60 : decode cX6_becomeAs 60 = .ok (.aload_n 0, 1) := by decide +kernel
theorem dX6_becomeAs_61 : decode cX6_becomeAs 61 = .ok (.getfield 15, 3) := by decide +kernel
theorem dX6_becomeAs_64 : decode cX6_becomeAs 64 = .ok (.iconst 0, 1) := by decide +kernel
theorem dX6_becomeAs_65 : decode cX6_becomeAs 65 = .ok (.bipush 6, 2) := by decide +kernel
theorem dX6_becomeAs_67 : decode cX6_becomeAs 67 = .ok (.invokestatic 52, 3) := by decide +kernel
theorem dX6_becomeAs_70 : decode cX6_becomeAs 70 = .ok (.return_, 1) := by decide +kernel
theorem dX6_addRow_0 : decode cX6_addRow 0 = .ok (.aload_n 0, 1) := by decide +kernel
theorem dX6_addRow_1 : decode cX6_addRow 1 = .ok (.getfield 49, 3) := by decide +kernel
theorem dX6_addRow_4 : decode cX6_addRow 4 = .ok (.bipush 6, 2) := by decide +kernel
theorem dX6_addRow_6 : decode cX6_addRow 6 = .ok (.if_icmp .ge 33, 3) := by decide +kernel
theorem dX6_addRow_9 : decode cX6_addRow 9 = .ok (.aload_n 0, 1) := by decide +kernel
theorem dX6_addRow_10 : decode cX6_addRow 10 = .ok (.getfield 9, 3) := by decide +kernel
theorem dX6_addRow_13 : decode cX6_addRow 13 = .ok (.aload_n 0, 1) := by decide +kernel
theorem dX6_addRow_14 : decode cX6_addRow 14 = .ok (.getfield 49, 3) := by decide +kernel
theorem dX6_addRow_17 : decode cX6_addRow 17 = .ok (.iload_n 1, 1) := by decide +kernel
theorem dX6_addRow_18 : decode cX6_addRow 18 = .ok (.iastore, 1) := by decide +kernel
theorem dX6_addRow_19 : decode cX6_addRow 19 = .ok (.aload_n 0, 1) := by decide +kernel
theorem dX6_addRow_20 : decode cX6_addRow 20 = .ok (.getfield 15, 3) := by decide +kernel
theorem dX6_addRow_23 : decode cX6_addRow 23 = .ok (.aload_n 0, 1) := by decide +kernel
theorem dX6_addRow_24 : decode cX6_addRow 24 = .ok (.getfield 49, 3) := by decide +kernel
theorem dX6_addRow_27 : decode cX6_addRow 27 = .ok (.iload_n 2, 1) := by decide +kernel
theorem dX6_addRow_28 : decode cX6_addRow 28 = .ok (.iastore, 1) := by decide +kernel
theorem dX6_addRow_29 : decode cX6_addRow 29 = .ok (.aload_n 0, 1) := by decide +kernel
theorem dX6_addRow_30 : decode cX6_addRow 30 = .ok (.dup, 1) := by decide +kernel
theorem dX6_addRow_31 : decode cX6_addRow 31 = .ok (.getfield 49, 3) := by decide +kernel
theorem dX6_addRow_34 : decode cX6_addRow 34 = .ok (.iconst 1, 1) := by decide +kernel
theorem dX6_addRow_35 : decode cX6_addRow 35 = .ok (.iadd, 1) := by decide +kernel
theorem dX6_addRow_36 : decode cX6_addRow 36 = .ok (.putfield 49, 3) := by decide +kernel
theorem dX6_addRow_39 : decode cX6_addRow 39 = .ok (.return_, 1) := by decide +kernel
theorem dX6_removeRow_0 : decode cX6_removeRow 0 = .ok (.iload_n 1, 1) := by decide +kernel
theorem dX6_removeRow_1 : decode cX6_removeRow 1 = .ok (.istore_n 2, 1) := by decide +kernel
theorem dX6_removeRow_2 : decode cX6_removeRow 2 = .ok (.iload_n 2, 1) := by decide +kernel
theorem dX6_removeRow_3 : decode cX6_removeRow 3 = .ok (.iconst 1, 1) := by decide +kernel
theorem dX6_removeRow_4 : decode cX6_removeRow 4 = .ok (.iadd, 1) := by decide +kernel
theorem dX6_removeRow_5 : decode cX6_removeRow 5 = .ok (.aload_n 0, 1) := by decide +kernel
theorem dX6_removeRow_6 : decode cX6_removeRow 6 = .ok (.getfield 49, 3) := by decide +kernel
theorem dX6_removeRow_9 : decode cX6_removeRow 9 = .ok (.if_icmp .ge 37, 3) := by decide +kernel
theorem dX6_removeRow_12 : decode cX6_removeRow 12 = .ok (.aload_n 0, 1) := by decide +kernel
theorem dX6_removeRow_13 : decode cX6_removeRow 13 = .ok (.getfield 9, 3) := by decide +kernel
theorem dX6_removeRow_16 : decode cX6_removeRow 16 = .ok (.iload_n 2, 1) := by decide +kernel
theorem dX6_removeRow_17 : decode cX6_removeRow 17 = .ok (.aload_n 0, 1) := by decide +kernel
theorem dX6_removeRow_18 : decode cX6_removeRow 18 = .ok (.getfield 9, 3) := by decide +kernel
theorem dX6_removeRow_21 : decode cX6_removeRow 21 = .ok (.iload_n 2, 1) := by decide +kernel
theorem dX6_removeRow_22 : decode cX6_removeRow 22 = .ok (.iconst 1, 1) := by decide +kernel
theorem dX6_removeRow_23 : decode cX6_removeRow 23 = .ok (.iadd, 1) := by decide +kernel
theorem dX6_removeRow_24 : decode cX6_removeRow 24 = .ok (.iaload, 1) := by decide +kernel
theorem dX6_removeRow_25 : decode cX6_removeRow 25 = .ok (.iastore, 1) := by decide +kernel
theorem dX6_removeRow_26 : decode cX6_removeRow 26 = .ok (.aload_n 0, 1) := by decide +kernel
theorem dX6_removeRow_27 : decode cX6_removeRow 27 = .ok (.getfield 15, 3) := by decide +kernel
theorem dX6_removeRow_30 : decode cX6_removeRow 30 = .ok (.iload_n 2, 1) := by decide +kernel
theorem dX6_removeRow_31 : decode cX6_removeRow 31 = .ok (.aload_n 0, 1) := by decide +kernel
theorem dX6_removeRow_32 : decode cX6_removeRow 32 = .ok (.getfield 15, 3) := by decide +kernel
theorem dX6_removeRow_35 : decode cX6_removeRow 35 = .ok (.iload_n 2, 1) := by decide +kernel
theorem dX6_removeRow_36 : decode cX6_removeRow 36 = .ok (.iconst 1, 1) := by decide +kernel
theorem dX6_removeRow_37 : decode cX6_removeRow 37 = .ok (.iadd, 1) := by decide +kernel
theorem dX6_removeRow_38 : decode cX6_removeRow 38 = .ok (.iaload, 1) := by decide +kernel
theorem dX6_removeRow_39 : decode cX6_removeRow 39 = .ok (.iastore, 1) := by decide +kernel
theorem dX6_removeRow_40 : decode cX6_removeRow 40 = .ok (.iinc 2 1, 3) := by decide +kernel
theorem dX6_removeRow_43 : decode cX6_removeRow 43 = .ok (.goto (-41), 3) := by decide +kernel
theorem dX6_removeRow_46 : decode cX6_removeRow 46 = .ok (.aload_n 0, 1) := by decide +kernel
theorem dX6_removeRow_47 : decode cX6_removeRow 47 = .ok (.dup, 1) := by decide +kernel
theorem dX6_removeRow_48 : decode cX6_removeRow 48 = .ok (.getfield 49, 3) := by decide +kernel
theorem dX6_removeRow_51 : decode cX6_removeRow 51 = .ok (.iconst 1, 1) := by decide +kernel
theorem dX6_removeRow_52 : decode cX6_removeRow 52 = .ok (.isub, 1) := by decide +kernel
theorem dX6_removeRow_53 : decode cX6_removeRow 53 = .ok (.putfield 49, 3) := by decide +kernel
theorem dX6_removeRow_56 : decode cX6_removeRow 56 = .ok (.return_, 1) := by decide +kernel
theorem dX6_takeRows_0 : decode cX6_takeRows 0 = .ok (.aload_n 0, 1) := by decide +kernel
theorem dX6_takeRows_1 : decode cX6_takeRows 1 = .ok (.getfield 40, 3) := by decide +kernel
theorem dX6_takeRows_4 : decode cX6_takeRows 4 = .ok (.invokestatic 18, 3) := by decide +kernel
theorem dX6_takeRows_7 : decode cX6_takeRows 7 = .ok (.istore_n 2, 1) := by decide +kernel
theorem dX6_takeRows_8 : decode cX6_takeRows 8 = .ok (.aload_n 0, 1) := by decide +kernel
theorem dX6_takeRows_9 : decode cX6_takeRows 9 = .ok (.iconst 0, 1) := by decide +kernel
theorem dX6_takeRows_10 : decode cX6_takeRows 10 = .ok (.putfield 49, 3) := by decide +kernel
theorem dX6_takeRows_13 : decode cX6_takeRows 13 = .ok (.iconst 0, 1) := by decide +kernel
theorem dX6_takeRows_14 : decode cX6_takeRows 14 = .ok (.istore_n 3, 1) := by decide +kernel
theorem dX6_takeRows_15 : decode cX6_takeRows 15 = .ok (.iload_n 3, 1) := by decide +kernel
theorem dX6_takeRows_16 : decode cX6_takeRows 16 = .ok (.iload_n 2, 1) := by decide +kernel
theorem dX6_takeRows_17 : decode cX6_takeRows 17 = .ok (.if_icmp .ge 72, 3) := by decide +kernel
theorem dX6_takeRows_20 : decode cX6_takeRows 20 = .ok (.iconst 2, 1) := by decide +kernel
theorem dX6_takeRows_21 : decode cX6_takeRows 21 = .ok (.iload_n 3, 1) := by decide +kernel
theorem dX6_takeRows_22 : decode cX6_takeRows 22 = .ok (.imul, 1) := by decide +kernel
theorem dX6_takeRows_23 : decode cX6_takeRows 23 = .ok (.iconst 1, 1) := by decide +kernel
theorem dX6_takeRows_24 : decode cX6_takeRows 24 = .ok (.iadd, 1) := by decide +kernel
theorem dX6_takeRows_25 : decode cX6_takeRows 25 = .ok (.aload_n 1, 1) := by decide +kernel
theorem dX6_takeRows_26 : decode cX6_takeRows 26 = .ok (.getfield 58, 3) := by decide +kernel
theorem dX6_takeRows_29 : decode cX6_takeRows 29 = .ok (.if_icmp .ge 60, 3) := by decide +kernel
theorem dX6_takeRows_32 : decode cX6_takeRows 32 = .ok (.aload_n 1, 1) := by decide +kernel
theorem dX6_takeRows_33 : decode cX6_takeRows 33 = .ok (.getfield 63, 3) := by decide +kernel
theorem dX6_takeRows_36 : decode cX6_takeRows 36 = .ok (.iconst 2, 1) := by decide +kernel
theorem dX6_takeRows_37 : decode cX6_takeRows 37 = .ok (.iload_n 3, 1) := by decide +kernel
theorem dX6_takeRows_38 : decode cX6_takeRows 38 = .ok (.imul, 1) := by decide +kernel
theorem dX6_takeRows_39 : decode cX6_takeRows 39 = .ok (.saload, 1) := by decide +kernel
theorem dX6_takeRows_40 : decode cX6_takeRows 40 = .ok (.istore 4, 2) := by decide +kernel
theorem dX6_takeRows_42 : decode cX6_takeRows 42 = .ok (.aload_n 1, 1) := by decide +kernel
theorem dX6_takeRows_43 : decode cX6_takeRows 43 = .ok (.getfield 63, 3) := by decide +kernel
theorem dX6_takeRows_46 : decode cX6_takeRows 46 = .ok (.iconst 2, 1) := by decide +kernel
theorem dX6_takeRows_47 : decode cX6_takeRows 47 = .ok (.iload_n 3, 1) := by decide +kernel
theorem dX6_takeRows_48 : decode cX6_takeRows 48 = .ok (.imul, 1) := by decide +kernel
theorem dX6_takeRows_49 : decode cX6_takeRows 49 = .ok (.iconst 1, 1) := by decide +kernel
theorem dX6_takeRows_50 : decode cX6_takeRows 50 = .ok (.iadd, 1) := by decide +kernel
theorem dX6_takeRows_51 : decode cX6_takeRows 51 = .ok (.saload, 1) := by decide +kernel
theorem dX6_takeRows_52 : decode cX6_takeRows 52 = .ok (.istore 5, 2) := by decide +kernel
theorem dX6_takeRows_54 : decode cX6_takeRows 54 = .ok (.iload 4, 2) := by decide +kernel
theorem dX6_takeRows_56 : decode cX6_takeRows 56 = .ok (.bipush 14, 2) := by decide +kernel
theorem dX6_takeRows_58 : decode cX6_takeRows 58 = .ok (.invokestatic 29, 3) := by decide +kernel
theorem dX6_takeRows_61 : decode cX6_takeRows 61 = .ok (.ifCond .eq 13, 3) := by decide +kernel
theorem dX6_takeRows_64 : decode cX6_takeRows 64 = .ok (.iload 5, 2) := by decide +kernel
theorem dX6_takeRows_66 : decode cX6_takeRows 66 = .ok (.bipush 8, 2) := by decide +kernel
theorem dX6_takeRows_68 : decode cX6_takeRows 68 = .ok (.invokestatic 29, 3) := by decide +kernel
theorem dX6_takeRows_71 : decode cX6_takeRows 71 = .ok (.ifCond .ne 4, 3) := by decide +kernel
theorem dX6_takeRows_74 : decode cX6_takeRows 74 = .ok (.return_, 1) := by decide +kernel
theorem dX6_takeRows_75 : decode cX6_takeRows 75 = .ok (.aload_n 0, 1) := by decide +kernel
theorem dX6_takeRows_76 : decode cX6_takeRows 76 = .ok (.iload 4, 2) := by decide +kernel
theorem dX6_takeRows_78 : decode cX6_takeRows 78 = .ok (.iload 5, 2) := by decide +kernel
theorem dX6_takeRows_80 : decode cX6_takeRows 80 = .ok (.invokevirtual 67, 3) := by decide +kernel
theorem dX6_takeRows_83 : decode cX6_takeRows 83 = .ok (.iinc 3 1, 3) := by decide +kernel
theorem dX6_takeRows_86 : decode cX6_takeRows 86 = .ok (.goto (-71), 3) := by decide +kernel
theorem dX6_takeRows_89 : decode cX6_takeRows 89 = .ok (.return_, 1) := by decide +kernel
theorem dX6_firstRowOf_0 : decode cX6_firstRowOf 0 = .ok (.iconst 0, 1) := by decide +kernel
theorem dX6_firstRowOf_1 : decode cX6_firstRowOf 1 = .ok (.istore_n 2, 1) := by decide +kernel
theorem dX6_firstRowOf_2 : decode cX6_firstRowOf 2 = .ok (.iload_n 2, 1) := by decide +kernel
theorem dX6_firstRowOf_3 : decode cX6_firstRowOf 3 = .ok (.aload_n 0, 1) := by decide +kernel
theorem dX6_firstRowOf_4 : decode cX6_firstRowOf 4 = .ok (.getfield 49, 3) := by decide +kernel
theorem dX6_firstRowOf_7 : decode cX6_firstRowOf 7 = .ok (.if_icmp .ge 21, 3) := by decide +kernel
theorem dX6_firstRowOf_10 : decode cX6_firstRowOf 10 = .ok (.aload_n 0, 1) := by decide +kernel
theorem dX6_firstRowOf_11 : decode cX6_firstRowOf 11 = .ok (.getfield 9, 3) := by decide +kernel
theorem dX6_firstRowOf_14 : decode cX6_firstRowOf 14 = .ok (.iload_n 2, 1) := by decide +kernel
theorem dX6_firstRowOf_15 : decode cX6_firstRowOf 15 = .ok (.iaload, 1) := by decide +kernel
theorem dX6_firstRowOf_16 : decode cX6_firstRowOf 16 = .ok (.iload_n 1, 1) := by decide +kernel
theorem dX6_firstRowOf_17 : decode cX6_firstRowOf 17 = .ok (.if_icmp .ne 5, 3) := by decide +kernel
theorem dX6_firstRowOf_20 : decode cX6_firstRowOf 20 = .ok (.iload_n 2, 1) := by decide +kernel
theorem dX6_firstRowOf_21 : decode cX6_firstRowOf 21 = .ok (.ireturn, 1) := by decide +kernel
theorem dX6_firstRowOf_22 : decode cX6_firstRowOf 22 = .ok (.iinc 2 1, 3) := by decide +kernel
theorem dX6_firstRowOf_25 : decode cX6_firstRowOf 25 = .ok (.goto (-23), 3) := by decide +kernel
theorem dX6_firstRowOf_28 : decode cX6_firstRowOf 28 = .ok (.iconst (-1), 1) := by decide +kernel
theorem dX6_firstRowOf_29 : decode cX6_firstRowOf 29 = .ok (.ireturn, 1) := by decide +kernel
theorem dX6_quarrels_0 : decode cX6_quarrels 0 = .ok (.iconst 0, 1) := by decide +kernel
theorem dX6_quarrels_1 : decode cX6_quarrels 1 = .ok (.istore 4, 2) := by decide +kernel
theorem dX6_quarrels_3 : decode cX6_quarrels 3 = .ok (.iload 4, 2) := by decide +kernel
theorem dX6_quarrels_5 : decode cX6_quarrels 5 = .ok (.iload_n 3, 1) := by decide +kernel
theorem dX6_quarrels_6 : decode cX6_quarrels 6 = .ok (.if_icmp .ge 42, 3) := by decide +kernel
theorem dX6_quarrels_9 : decode cX6_quarrels 9 = .ok (.iload 4, 2) := by decide +kernel
theorem dX6_quarrels_11 : decode cX6_quarrels 11 = .ok (.aload_n 0, 1) := by decide +kernel
theorem dX6_quarrels_12 : decode cX6_quarrels 12 = .ok (.getfield 49, 3) := by decide +kernel
theorem dX6_quarrels_15 : decode cX6_quarrels 15 = .ok (.if_icmp .ge 33, 3) := by decide +kernel
theorem dX6_quarrels_18 : decode cX6_quarrels 18 = .ok (.aload_n 0, 1) := by decide +kernel
theorem dX6_quarrels_19 : decode cX6_quarrels 19 = .ok (.getfield 9, 3) := by decide +kernel
theorem dX6_quarrels_22 : decode cX6_quarrels 22 = .ok (.iload 4, 2) := by decide +kernel
theorem dX6_quarrels_24 : decode cX6_quarrels 24 = .ok (.iaload, 1) := by decide +kernel
theorem dX6_quarrels_25 : decode cX6_quarrels 25 = .ok (.iload_n 1, 1) := by decide +kernel
theorem dX6_quarrels_26 : decode cX6_quarrels 26 = .ok (.if_icmp .ne 16, 3) := by decide +kernel
theorem dX6_quarrels_29 : decode cX6_quarrels 29 = .ok (.aload_n 0, 1) := by decide +kernel
theorem dX6_quarrels_30 : decode cX6_quarrels 30 = .ok (.getfield 15, 3) := by decide +kernel
theorem dX6_quarrels_33 : decode cX6_quarrels 33 = .ok (.iload 4, 2) := by decide +kernel
theorem dX6_quarrels_35 : decode cX6_quarrels 35 = .ok (.iaload, 1) := by decide +kernel
theorem dX6_quarrels_36 : decode cX6_quarrels 36 = .ok (.iload_n 2, 1) := by decide +kernel
theorem dX6_quarrels_37 : decode cX6_quarrels 37 = .ok (.if_icmp .eq 5, 3) := by decide +kernel
theorem dX6_quarrels_40 : decode cX6_quarrels 40 = .ok (.iconst 1, 1) := by decide +kernel
theorem dX6_quarrels_41 : decode cX6_quarrels 41 = .ok (.ireturn, 1) := by decide +kernel
theorem dX6_quarrels_42 : decode cX6_quarrels 42 = .ok (.iinc 4 1, 3) := by decide +kernel
theorem dX6_quarrels_45 : decode cX6_quarrels 45 = .ok (.goto (-42), 3) := by decide +kernel
theorem dX6_quarrels_48 : decode cX6_quarrels 48 = .ok (.iconst 0, 1) := by decide +kernel
theorem dX6_quarrels_49 : decode cX6_quarrels 49 = .ok (.ireturn, 1) := by decide +kernel
theorem dX6_leadAstray_0 : decode cX6_leadAstray 0 = .ok (.aload_n 0, 1) := by decide +kernel
theorem dX6_leadAstray_1 : decode cX6_leadAstray 1 = .ok (.aload_n 0, 1) := by decide +kernel
theorem dX6_leadAstray_2 : decode cX6_leadAstray 2 = .ok (.getfield 46, 3) := by decide +kernel
theorem dX6_leadAstray_5 : decode cX6_leadAstray 5 = .ok (.iconst 1, 1) := by decide +kernel
theorem dX6_leadAstray_6 : decode cX6_leadAstray 6 = .ok (.iadd, 1) := by decide +kernel
theorem dX6_leadAstray_7 : decode cX6_leadAstray 7 = .ok (.sipush 9999, 3) := by decide +kernel
theorem dX6_leadAstray_10 : decode cX6_leadAstray 10 = .ok (.invokestatic 71, 3) := by decide +kernel
theorem dX6_leadAstray_13 : decode cX6_leadAstray 13 = .ok (.putfield 46, 3) := by decide +kernel
theorem dX6_leadAstray_16 : decode cX6_leadAstray 16 = .ok (.return_, 1) := by decide +kernel
theorem dX7_init_0 : decode cX7_init 0 = .ok (.aload_n 0, 1) := by decide +kernel
theorem dX7_init_1 : decode cX7_init 1 = .ok (.invokespecial 3, 3) := by decide +kernel
theorem dX7_init_4 : decode cX7_init 4 = .ok (.aload_n 0, 1) := by decide +kernel
theorem dX7_init_5 : decode cX7_init 5 = .ok (.iconst 0, 1) := by decide +kernel
theorem dX7_init_6 : decode cX7_init 6 = .ok (.putfield 9, 3) := by decide +kernel
theorem dX7_init_9 : decode cX7_init 9 = .ok (.aload_n 0, 1) := by decide +kernel
theorem dX7_init_10 : decode cX7_init 10 = .ok (.iconst 0, 1) := by decide +kernel
theorem dX7_init_11 : decode cX7_init 11 = .ok (.putfield 15, 3) := by decide +kernel
theorem dX7_init_14 : decode cX7_init 14 = .ok (.aload_n 0, 1) := by decide +kernel
theorem dX7_init_15 : decode cX7_init 15 = .ok (.iconst 0, 1) := by decide +kernel
theorem dX7_init_16 : decode cX7_init 16 = .ok (.putfield 18, 3) := by decide +kernel
theorem dX7_init_19 : decode cX7_init 19 = .ok (.aload_n 0, 1) := by decide +kernel
theorem dX7_init_20 : decode cX7_init 20 = .ok (.iconst 0, 1) := by decide +kernel
theorem dX7_init_21 : decode cX7_init 21 = .ok (.putfield 21, 3) := by decide +kernel
theorem dX7_init_24 : decode cX7_init 24 = .ok (.aload_n 0, 1) := by decide +kernel
theorem dX7_init_25 : decode cX7_init 25 = .ok (.new 24, 3) := by decide +kernel
theorem dX7_init_28 : decode cX7_init 28 = .ok (.dup, 1) := by decide +kernel
theorem dX7_init_29 : decode cX7_init 29 = .ok (.invokespecial 26, 3) := by decide +kernel
theorem dX7_init_32 : decode cX7_init 32 = .ok (.putfield 27, 3) := by decide +kernel
theorem dX7_init_35 : decode cX7_init 35 = .ok (.return_, 1) := by decide +kernel
theorem dX8_init_0 : decode cX8_init 0 = .ok (.aload_n 0, 1) := by decide +kernel
theorem dX8_init_1 : decode cX8_init 1 = .ok (.invokespecial 1, 3) := by decide +kernel
theorem dX8_init_4 : decode cX8_init 4 = .ok (.aload_n 0, 1) := by decide +kernel
theorem dX8_init_5 : decode cX8_init 5 = .ok (.iload_n 1, 1) := by decide +kernel
theorem dX8_init_6 : decode cX8_init 6 = .ok (.putfield 7, 3) := by decide +kernel
theorem dX8_init_9 : decode cX8_init 9 = .ok (.aload_n 0, 1) := by decide +kernel
theorem dX8_init_10 : decode cX8_init 10 = .ok (.iload_n 2, 1) := by decide +kernel
theorem dX8_init_11 : decode cX8_init 11 = .ok (.putfield 13, 3) := by decide +kernel
theorem dX8_init_14 : decode cX8_init 14 = .ok (.aload_n 0, 1) := by decide +kernel
theorem dX8_init_15 : decode cX8_init 15 = .ok (.aload_n 3, 1) := by decide +kernel
theorem dX8_init_16 : decode cX8_init 16 = .ok (.putfield 16, 3) := by decide +kernel
theorem dX8_init_19 : decode cX8_init 19 = .ok (.aload_n 0, 1) := by decide +kernel
theorem dX8_init_20 : decode cX8_init 20 = .ok (.iload_n 2, 1) := by decide +kernel
theorem dX8_init_21 : decode cX8_init 21 = .ok (.newarray .int, 2) := by decide +kernel
theorem dX8_init_23 : decode cX8_init 23 = .ok (.putfield 20, 3) := by decide +kernel
theorem dX8_init_26 : decode cX8_init 26 = .ok (.return_, 1) := by decide +kernel
theorem dX8_value_0 : decode cX8_value 0 = .ok (.iconst 0, 1) := by decide +kernel
theorem dX8_value_1 : decode cX8_value 1 = .ok (.istore 5, 2) := by decide +kernel
theorem dX8_value_3 : decode cX8_value 3 = .ok (.iconst 0, 1) := by decide +kernel
theorem dX8_value_4 : decode cX8_value 4 = .ok (.istore 6, 2) := by decide +kernel
theorem dX8_value_6 : decode cX8_value 6 = .ok (.iload 6, 2) := by decide +kernel
theorem dX8_value_8 : decode cX8_value 8 = .ok (.aload_n 0, 1) := by decide +kernel
theorem dX8_value_9 : decode cX8_value 9 = .ok (.getfield 16, 3) := by decide +kernel
theorem dX8_value_12 : decode cX8_value 12 = .ok (.arraylength, 1) := by decide +kernel
theorem dX8_value_13 : decode cX8_value 13 = .ok (.if_icmp .ge 177, 3) := by decide +kernel
theorem dX8_value_16 : decode cX8_value 16 = .ok (.aload_n 0, 1) := by decide +kernel
theorem dX8_value_17 : decode cX8_value 17 = .ok (.getfield 16, 3) := by decide +kernel
theorem dX8_value_20 : decode cX8_value 20 = .ok (.iload 6, 2) := by decide +kernel
theorem dX8_value_22 : decode cX8_value 22 = .ok (.iaload, 1) := by decide +kernel
theorem dX8_value_23 : decode cX8_value 23 = .ok (.istore 7, 2) := by decide +kernel
theorem dX8_value_25 : decode cX8_value 25 = .ok (.iload 7, 2) := by decide +kernel
theorem dX8_value_27 : decode cX8_value 27 = .ok (.bipush (-4), 2) := by decide +kernel
theorem dX8_value_29 : decode cX8_value 29 = .ok (.if_icmp .lt 70, 3) := by decide +kernel
theorem dX8_value_32 : decode cX8_value 32 = .ok (.iload 5, 2) := by decide +kernel
theorem dX8_value_34 : decode cX8_value 34 = .ok (.aload_n 0, 1) := by decide +kernel
theorem dX8_value_35 : decode cX8_value 35 = .ok (.getfield 20, 3) := by decide +kernel
theorem dX8_value_38 : decode cX8_value 38 = .ok (.arraylength, 1) := by decide +kernel
theorem dX8_value_39 : decode cX8_value 39 = .ok (.if_icmp .ge 60, 3) := by decide +kernel
theorem dX8_value_42 : decode cX8_value 42 = .ok (.aload_n 0, 1) := by decide +kernel
theorem dX8_value_43 : decode cX8_value 43 = .ok (.getfield 20, 3) := by decide +kernel
theorem dX8_value_46 : decode cX8_value 46 = .ok (.iload 5, 2) := by decide +kernel
theorem dX8_value_48 : decode cX8_value 48 = .ok (.iload 7, 2) := by decide +kernel
theorem dX8_value_50 : decode cX8_value 50 = .ok (.ifCond .lt 8, 3) := by decide +kernel
theorem dX8_value_53 : decode cX8_value 53 = .ok (.iload 7, 2) := by decide +kernel
theorem dX8_value_55 : decode cX8_value 55 = .ok (.goto 37, 3) := by decide +kernel
theorem dX8_value_58 : decode cX8_value 58 = .ok (.iload 7, 2) := by decide +kernel
theorem dX8_value_60 : decode cX8_value 60 = .ok (.iconst (-1), 1) := by decide +kernel
theorem dX8_value_61 : decode cX8_value 61 = .ok (.if_icmp .ne 7, 3) := by decide +kernel
theorem dX8_value_64 : decode cX8_value 64 = .ok (.iload_n 1, 1) := by decide +kernel
theorem dX8_value_65 : decode cX8_value 65 = .ok (.goto 27, 3) := by decide +kernel
theorem dX8_value_68 : decode cX8_value 68 = .ok (.iload 7, 2) := by decide +kernel
theorem dX8_value_70 : decode cX8_value 70 = .ok (.bipush (-2), 2) := by decide +kernel
theorem dX8_value_72 : decode cX8_value 72 = .ok (.if_icmp .ne 7, 3) := by decide +kernel
theorem dX8_value_75 : decode cX8_value 75 = .ok (.iload_n 2, 1) := by decide +kernel
theorem dX8_value_76 : decode cX8_value 76 = .ok (.goto 16, 3) := by decide +kernel
theorem dX8_value_79 : decode cX8_value 79 = .ok (.iload 7, 2) := by decide +kernel
theorem dX8_value_81 : decode cX8_value 81 = .ok (.bipush (-3), 2) := by decide +kernel
theorem dX8_value_83 : decode cX8_value 83 = .ok (.if_icmp .ne 7, 3) := by decide +kernel
theorem dX8_value_86 : decode cX8_value 86 = .ok (.iload_n 3, 1) := by decide +kernel
theorem dX8_value_87 : decode cX8_value 87 = .ok (.goto 5, 3) := by decide +kernel
theorem dX8_value_90 : decode cX8_value 90 = .ok (.iload 4, 2) := by decide +kernel
theorem dX8_value_92 : decode cX8_value 92 = .ok (.iastore, 1) := by decide +kernel
theorem dX8_value_93 : decode cX8_value 93 = .ok (.iinc 5 1, 3) := by decide +kernel
theorem dX8_value_96 : decode cX8_value 96 = .ok (.goto 88, 3) := by decide +kernel
theorem dX8_value_99 : decode cX8_value 99 = .ok (.iload 7, 2) := by decide +kernel
theorem dX8_value_101 : decode cX8_value 101 = .ok (.bipush (-33), 2) := by decide +kernel
theorem dX8_value_103 : decode cX8_value 103 = .ok (.if_icmp .ne 41, 3) := by decide +kernel
theorem dX8_value_106 : decode cX8_value 106 = .ok (.iload 5, 2) := by decide +kernel
theorem dX8_value_108 : decode cX8_value 108 = .ok (.iconst 1, 1) := by decide +kernel
theorem dX8_value_109 : decode cX8_value 109 = .ok (.if_icmp .lt 35, 3) := by decide +kernel
theorem dX8_value_112 : decode cX8_value 112 = .ok (.aload_n 0, 1) := by decide +kernel
theorem dX8_value_113 : decode cX8_value 113 = .ok (.getfield 20, 3) := by decide +kernel
theorem dX8_value_116 : decode cX8_value 116 = .ok (.iload 5, 2) := by decide +kernel
theorem dX8_value_118 : decode cX8_value 118 = .ok (.iconst 1, 1) := by decide +kernel
theorem dX8_value_119 : decode cX8_value 119 = .ok (.isub, 1) := by decide +kernel
theorem dX8_value_120 : decode cX8_value 120 = .ok (.aload_n 0, 1) := by decide +kernel
theorem dX8_value_121 : decode cX8_value 121 = .ok (.getfield 20, 3) := by decide +kernel
theorem dX8_value_124 : decode cX8_value 124 = .ok (.iload 5, 2) := by decide +kernel
theorem dX8_value_126 : decode cX8_value 126 = .ok (.iconst 1, 1) := by decide +kernel
theorem dX8_value_127 : decode cX8_value 127 = .ok (.isub, 1) := by decide +kernel
theorem dX8_value_128 : decode cX8_value 128 = .ok (.iaload, 1) := by decide +kernel
theorem dX8_value_129 : decode cX8_value 129 = .ok (.ifCond .ne 7, 3) := by decide +kernel
theorem dX8_value_132 : decode cX8_value 132 = .ok (.iconst 1, 1) := by decide +kernel
theorem dX8_value_133 : decode cX8_value 133 = .ok (.goto 4, 3) := by decide +kernel
theorem dX8_value_136 : decode cX8_value 136 = .ok (.iconst 0, 1) := by decide +kernel
theorem dX8_value_137 : decode cX8_value 137 = .ok (.invokestatic 23, 3) := by decide +kernel
theorem dX8_value_140 : decode cX8_value 140 = .ok (.iastore, 1) := by decide +kernel
theorem dX8_value_141 : decode cX8_value 141 = .ok (.goto 43, 3) := by decide +kernel
theorem dX8_value_144 : decode cX8_value 144 = .ok (.iload 5, 2) := by decide +kernel
theorem dX8_value_146 : decode cX8_value 146 = .ok (.iconst 2, 1) := by decide +kernel
theorem dX8_value_147 : decode cX8_value 147 = .ok (.if_icmp .lt 37, 3) := by decide +kernel
theorem dX8_value_150 : decode cX8_value 150 = .ok (.iinc 5 (-1), 3) := by decide +kernel
