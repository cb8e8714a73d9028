theorem dX8_value_153 : decode cX8_value 153 = .ok (.aload_n 0, 1) := by decide +kernel
theorem dX8_value_154 : decode cX8_value 154 = .ok (.getfield 20, 3) := by decide +kernel
theorem dX8_value_157 : decode cX8_value 157 = .ok (.iload 5, 2) := by decide +kernel
theorem dX8_value_159 : decode cX8_value 159 = .ok (.iconst 1, 1) := by decide +kernel
theorem dX8_value_160 : decode cX8_value 160 = .ok (.isub, 1) := by decide +kernel
theorem dX8_value_161 : decode cX8_value 161 = .ok (.aload_n 0, 1) := by decide +kernel
theorem dX8_value_162 : decode cX8_value 162 = .ok (.getfield 20, 3) := by decide +kernel
theorem dX8_value_165 : decode cX8_value 165 = .ok (.iload 5, 2) := by decide +kernel
theorem dX8_value_167 : decode cX8_value 167 = .ok (.iconst 1, 1) := by decide +kernel
theorem dX8_value_168 : decode cX8_value 168 = .ok (.isub, 1) := by decide +kernel
theorem dX8_value_169 : decode cX8_value 169 = .ok (.iaload, 1) := by decide +kernel
theorem dX8_value_170 : decode cX8_value 170 = .ok (.iload 7, 2) := by decide +kernel
theorem dX8_value_172 : decode cX8_value 172 = .ok (.ineg, 1) := by decide +kernel
theorem dX8_value_173 : decode cX8_value 173 = .ok (.aload_n 0, 1) := by decide +kernel
theorem dX8_value_174 : decode cX8_value 174 = .ok (.getfield 20, 3) := by decide +kernel
theorem dX8_value_177 : decode cX8_value 177 = .ok (.iload 5, 2) := by decide +kernel
theorem dX8_value_179 : decode cX8_value 179 = .ok (.iaload, 1) := by decide +kernel
theorem dX8_value_180 : decode cX8_value 180 = .ok (.invokestatic 29, 3) := by decide +kernel
theorem dX8_value_183 : decode cX8_value 183 = .ok (.iastore, 1) := by decide +kernel
theorem dX8_value_184 : decode cX8_value 184 = .ok (.iinc 6 1, 3) := by decide +kernel
theorem dX8_value_187 : decode cX8_value 187 = .ok (.goto (-181), 3) := by decide +kernel
theorem dX8_value_190 : decode cX8_value 190 = .ok (.iload 5, 2) := by decide +kernel
theorem dX8_value_192 : decode cX8_value 192 = .ok (.iconst 1, 1) := by decide +kernel
theorem dX8_value_193 : decode cX8_value 193 = .ok (.if_icmp .lt 12, 3) := by decide +kernel
theorem dX8_value_196 : decode cX8_value 196 = .ok (.aload_n 0, 1) := by decide +kernel
theorem dX8_value_197 : decode cX8_value 197 = .ok (.getfield 20, 3) := by decide +kernel
theorem dX8_value_200 : decode cX8_value 200 = .ok (.iconst 0, 1) := by decide +kernel
theorem dX8_value_201 : decode cX8_value 201 = .ok (.iaload, 1) := by decide +kernel
theorem dX8_value_202 : decode cX8_value 202 = .ok (.goto 4, 3) := by decide +kernel
theorem dX8_value_205 : decode cX8_value 205 = .ok (.iconst 0, 1) := by decide +kernel
theorem dX8_value_206 : decode cX8_value 206 = .ok (.ireturn, 1) := by decide +kernel
theorem dX8_joined_0 : decode cX8_joined 0 = .ok (.iload_n 1, 1) := by decide +kernel
theorem dX8_joined_1 : decode cX8_joined 1 = .ok (.lookupswitch 148 #[(38, 89), (42, 144), (43, 136), (45, 140), (60, 103), (61, 114), (62, 125), (124, 75)], 75) := by decide +kernel
theorem dX8_joined_76 : decode cX8_joined 76 = .ok (.iload_n 0, 1) := by decide +kernel
theorem dX8_joined_77 : decode cX8_joined 77 = .ok (.ifCond .ne 7, 3) := by decide +kernel
theorem dX8_joined_80 : decode cX8_joined 80 = .ok (.iload_n 2, 1) := by decide +kernel
theorem dX8_joined_81 : decode cX8_joined 81 = .ok (.ifCond .eq 7, 3) := by decide +kernel
theorem dX8_joined_84 : decode cX8_joined 84 = .ok (.iconst 1, 1) := by decide +kernel
theorem dX8_joined_85 : decode cX8_joined 85 = .ok (.goto 4, 3) := by decide +kernel
theorem dX8_joined_88 : decode cX8_joined 88 = .ok (.iconst 0, 1) := by decide +kernel
theorem dX8_joined_89 : decode cX8_joined 89 = .ok (.ireturn, 1) := by decide +kernel
theorem dX8_joined_90 : decode cX8_joined 90 = .ok (.iload_n 0, 1) := by decide +kernel
theorem dX8_joined_91 : decode cX8_joined 91 = .ok (.ifCond .eq 11, 3) := by decide +kernel
theorem dX8_joined_94 : decode cX8_joined 94 = .ok (.iload_n 2, 1) := by decide +kernel
theorem dX8_joined_95 : decode cX8_joined 95 = .ok (.ifCond .eq 7, 3) := by decide +kernel
theorem dX8_joined_98 : decode cX8_joined 98 = .ok (.iconst 1, 1) := by decide +kernel
theorem dX8_joined_99 : decode cX8_joined 99 = .ok (.goto 4, 3) := by decide +kernel
theorem dX8_joined_102 : decode cX8_joined 102 = .ok (.iconst 0, 1) := by decide +kernel
theorem dX8_joined_103 : decode cX8_joined 103 = .ok (.ireturn, 1) := by decide +kernel
theorem dX8_joined_104 : decode cX8_joined 104 = .ok (.iload_n 0, 1) := by decide +kernel
theorem dX8_joined_105 : decode cX8_joined 105 = .ok (.iload_n 2, 1) := by decide +kernel
theorem dX8_joined_106 : decode cX8_joined 106 = .ok (.if_icmp .ge 7, 3) := by decide +kernel
theorem dX8_joined_109 : decode cX8_joined 109 = .ok (.iconst 1, 1) := by decide +kernel
theorem dX8_joined_110 : decode cX8_joined 110 = .ok (.goto 4, 3) := by decide +kernel
theorem dX8_joined_113 : decode cX8_joined 113 = .ok (.iconst 0, 1) := by decide +kernel
theorem dX8_joined_114 : decode cX8_joined 114 = .ok (.ireturn, 1) := by decide +kernel
theorem dX8_joined_115 : decode cX8_joined 115 = .ok (.iload_n 0, 1) := by decide +kernel
theorem dX8_joined_116 : decode cX8_joined 116 = .ok (.iload_n 2, 1) := by decide +kernel
theorem dX8_joined_117 : decode cX8_joined 117 = .ok (.if_icmp .ne 7, 3) := by decide +kernel
theorem dX8_joined_120 : decode cX8_joined 120 = .ok (.iconst 1, 1) := by decide +kernel
theorem dX8_joined_121 : decode cX8_joined 121 = .ok (.goto 4, 3) := by decide +kernel
theorem dX8_joined_124 : decode cX8_joined 124 = .ok (.iconst 0, 1) := by decide +kernel
theorem dX8_joined_125 : decode cX8_joined 125 = .ok (.ireturn, 1) := by decide +kernel
theorem dX8_joined_126 : decode cX8_joined 126 = .ok (.iload_n 0, 1) := by decide +kernel
theorem dX8_joined_127 : decode cX8_joined 127 = .ok (.iload_n 2, 1) := by decide +kernel
theorem dX8_joined_128 : decode cX8_joined 128 = .ok (.if_icmp .le 7, 3) := by decide +kernel
theorem dX8_joined_131 : decode cX8_joined 131 = .ok (.iconst 1, 1) := by decide +kernel
theorem dX8_joined_132 : decode cX8_joined 132 = .ok (.goto 4, 3) := by decide +kernel
theorem dX8_joined_135 : decode cX8_joined 135 = .ok (.iconst 0, 1) := by decide +kernel
theorem dX8_joined_136 : decode cX8_joined 136 = .ok (.ireturn, 1) := by decide +kernel
theorem dX8_joined_137 : decode cX8_joined 137 = .ok (.iload_n 0, 1) := by decide +kernel
theorem dX8_joined_138 : decode cX8_joined 138 = .ok (.iload_n 2, 1) := by decide +kernel
theorem dX8_joined_139 : decode cX8_joined 139 = .ok (.iadd, 1) := by decide +kernel
theorem dX8_joined_140 : decode cX8_joined 140 = .ok (.ireturn, 1) := by decide +kernel
theorem dX8_joined_141 : decode cX8_joined 141 = .ok (.iload_n 0, 1) := by decide +kernel
theorem dX8_joined_142 : decode cX8_joined 142 = .ok (.iload_n 2, 1) := by decide +kernel
theorem dX8_joined_143 : decode cX8_joined 143 = .ok (.isub, 1) := by decide +kernel
theorem dX8_joined_144 : decode cX8_joined 144 = .ok (.ireturn, 1) := by decide +kernel
theorem dX8_joined_145 : decode cX8_joined 145 = .ok (.iload_n 0, 1) := by decide +kernel
theorem dX8_joined_146 : decode cX8_joined 146 = .ok (.iload_n 2, 1) := by decide +kernel
theorem dX8_joined_147 : decode cX8_joined 147 = .ok (.imul, 1) := by decide +kernel
theorem dX8_joined_148 : decode cX8_joined 148 = .ok (.ireturn, 1) := by decide +kernel
theorem dX8_joined_149 : decode cX8_joined 149 = .ok (.iload_n 2, 1) := by decide +kernel
theorem dX8_joined_150 : decode cX8_joined 150 = .ok (.ifCond .ne 7, 3) := by decide +kernel
theorem dX8_joined_153 : decode cX8_joined 153 = .ok (.iconst 0, 1) := by decide +kernel
theorem dX8_joined_154 : decode cX8_joined 154 = .ok (.goto 6, 3) := by decide +kernel
theorem dX8_joined_157 : decode cX8_joined 157 = .ok (.iload_n 0, 1) := by decide +kernel
theorem dX8_joined_158 : decode cX8_joined 158 = .ok (.iload_n 2, 1) := by decide +kernel
theorem dX8_joined_159 : decode cX8_joined 159 = .ok (.idiv, 1) := by decide +kernel
theorem dX8_joined_160 : decode cX8_joined 160 = .ok (.ireturn, 1) := by decide +kernel
theorem dX9_init_0 : decode cX9_init 0 = .ok (.aload_n 0, 1) := by decide +kernel
theorem dX9_init_1 : decode cX9_init 1 = .ok (.invokespecial 3, 3) := by decide +kernel
theorem dX9_init_4 : decode cX9_init 4 = .ok (.aload_n 0, 1) := by decide +kernel
theorem dX9_init_5 : decode cX9_init 5 = .ok (.bipush 14, 2) := by decide +kernel
theorem dX9_init_7 : decode cX9_init 7 = .ok (.newarray .int, 2) := by decide +kernel
theorem dX9_init_9 : decode cX9_init 9 = .ok (.putfield 9, 3) := by decide +kernel
theorem dX9_init_12 : decode cX9_init 12 = .ok (.aload_n 0, 1) := by decide +kernel
theorem dX9_init_13 : decode cX9_init 13 = .ok (.iconst 0, 1) := by decide +kernel
theorem dX9_init_14 : decode cX9_init 14 = .ok (.putfield 15, 3) := by decide +kernel
theorem dX9_init_17 : decode cX9_init 17 = .ok (.aload_n 0, 1) := by decide +kernel
theorem dX9_init_18 : decode cX9_init 18 = .ok (.iconst 0, 1) := by decide +kernel
theorem dX9_init_19 : decode cX9_init 19 = .ok (.putfield 19, 3) := by decide +kernel
theorem dX9_init_22 : decode cX9_init 22 = .ok (.aload_n 0, 1) := by decide +kernel
theorem dX9_init_23 : decode cX9_init 23 = .ok (.bipush 12, 2) := by decide +kernel
theorem dX9_init_25 : decode cX9_init 25 = .ok (.newarray .int, 2) := by decide +kernel
theorem dX9_init_27 : decode cX9_init 27 = .ok (.putfield 22, 3) := by decide +kernel
theorem dX9_init_30 : decode cX9_init 30 = .ok (.aload_n 0, 1) := by decide +kernel
theorem dX9_init_31 : decode cX9_init 31 = .ok (.bipush 12, 2) := by decide +kernel
theorem dX9_init_33 : decode cX9_init 33 = .ok (.newarray .int, 2) := by decide +kernel
theorem dX9_init_35 : decode cX9_init 35 = .ok (.putfield 25, 3) := by decide +kernel
theorem dX9_init_38 : decode cX9_init 38 = .ok (.aload_n 0, 1) := by decide +kernel
theorem dX9_init_39 : decode cX9_init 39 = .ok (.bipush 12, 2) := by decide +kernel
theorem dX9_init_41 : decode cX9_init 41 = .ok (.newarray .int, 2) := by decide +kernel
theorem dX9_init_43 : decode cX9_init 43 = .ok (.putfield 28, 3) := by decide +kernel
theorem dX9_init_46 : decode cX9_init 46 = .ok (.aload_n 0, 1) := by decide +kernel
theorem dX9_init_47 : decode cX9_init 47 = .ok (.bipush 96, 2) := by decide +kernel
theorem dX9_init_49 : decode cX9_init 49 = .ok (.newarray .int, 2) := by decide +kernel
theorem dX9_init_51 : decode cX9_init 51 = .ok (.putfield 31, 3) := by decide +kernel
theorem dX9_init_54 : decode cX9_init 54 = .ok (.aload_n 0, 1) := by decide +kernel
theorem dX9_init_55 : decode cX9_init 55 = .ok (.iconst 0, 1) := by decide +kernel
theorem dX9_init_56 : decode cX9_init 56 = .ok (.putfield 34, 3) := by decide +kernel
theorem dX9_init_59 : decode cX9_init 59 = .ok (.aload_n 0, 1) := by decide +kernel
theorem dX9_init_60 : decode cX9_init 60 = .ok (.bipush 61, 2) := by decide +kernel
theorem dX9_init_62 : decode cX9_init 62 = .ok (.newarray .int, 2) := by decide +kernel
theorem dX9_init_64 : decode cX9_init 64 = .ok (.putfield 37, 3) := by decide +kernel
theorem dX9_init_67 : decode cX9_init 67 = .ok (.aload_n 0, 1) := by decide +kernel
theorem dX9_init_68 : decode cX9_init 68 = .ok (.iconst 2, 1) := by decide +kernel
theorem dX9_init_69 : decode cX9_init 69 = .ok (.putfield 40, 3) := by decide +kernel
theorem dX9_init_72 : decode cX9_init 72 = .ok (.aload_n 0, 1) := by decide +kernel
theorem dX9_init_73 : decode cX9_init 73 = .ok (.iconst 0, 1) := by decide +kernel
theorem dX9_init_74 : decode cX9_init 74 = .ok (.putfield 43, 3) := by decide +kernel
theorem dX9_init_77 : decode cX9_init 77 = .ok (.aload_n 0, 1) := by decide +kernel
theorem dX9_init_78 : decode cX9_init 78 = .ok (.iconst 0, 1) := by decide +kernel
theorem dX9_init_79 : decode cX9_init 79 = .ok (.putfield 46, 3) := by decide +kernel
theorem dX9_init_82 : decode cX9_init 82 = .ok (.aload_n 0, 1) := by decide +kernel
theorem dX9_init_83 : decode cX9_init 83 = .ok (.iconst 0, 1) := by decide +kernel
theorem dX9_init_84 : decode cX9_init 84 = .ok (.putfield 49, 3) := by decide +kernel
theorem dX9_init_87 : decode cX9_init 87 = .ok (.aload_n 0, 1) := by decide +kernel
theorem dX9_init_88 : decode cX9_init 88 = .ok (.iconst (-1), 1) := by decide +kernel
theorem dX9_init_89 : decode cX9_init 89 = .ok (.putfield 52, 3) := by decide +kernel
theorem dX9_init_92 : decode cX9_init 92 = .ok (.aload_n 0, 1) := by decide +kernel
theorem dX9_init_93 : decode cX9_init 93 = .ok (.aload_n 1, 1) := by decide +kernel
theorem dX9_init_94 : decode cX9_init 94 = .ok (.putfield 55, 3) := by decide +kernel
theorem dX9_init_97 : decode cX9_init 97 = .ok (.aload_n 0, 1) := by decide +kernel
theorem dX9_init_98 : decode cX9_init 98 = .ok (.aload_n 1, 1) := by decide +kernel
theorem dX9_init_99 : decode cX9_init 99 = .ok (.getfield 59, 3) := by decide +kernel
theorem dX9_init_102 : decode cX9_init 102 = .ok (.putfield 65, 3) := by decide +kernel
theorem dX9_init_105 : decode cX9_init 105 = .ok (.return_, 1) := by decide +kernel
theorem dX9_enter_0 : decode cX9_enter 0 = .ok (.aload_n 0, 1) := by decide +kernel
theorem dX9_enter_1 : decode cX9_enter 1 = .ok (.aload_n 1, 1) := by decide +kernel
theorem dX9_enter_2 : decode cX9_enter 2 = .ok (.putfield 65, 3) := by decide +kernel
theorem dX9_enter_5 : decode cX9_enter 5 = .ok (.aload_n 0, 1) := by decide +kernel
theorem dX9_enter_6 : decode cX9_enter 6 = .ok (.getfield 55, 3) := by decide +kernel
theorem dX9_enter_9 : decode cX9_enter 9 = .ok (.aload_n 1, 1) := by decide +kernel
theorem dX9_enter_10 : decode cX9_enter 10 = .ok (.invokevirtual 66, 3) := by decide +kernel
theorem dX9_enter_13 : decode cX9_enter 13 = .ok (.aload_n 0, 1) := by decide +kernel
theorem dX9_enter_14 : decode cX9_enter 14 = .ok (.iconst 0, 1) := by decide +kernel
theorem dX9_enter_15 : decode cX9_enter 15 = .ok (.putfield 15, 3) := by decide +kernel
theorem dX9_enter_18 : decode cX9_enter 18 = .ok (.bipush 6, 2) := by decide +kernel
theorem dX9_enter_20 : decode cX9_enter 20 = .ok (.istore_n 2, 1) := by decide +kernel
theorem dX9_enter_21 : decode cX9_enter 21 = .ok (.iload_n 2, 1) := by decide +kernel
theorem dX9_enter_22 : decode cX9_enter 22 = .ok (.ifCond .le 102, 3) := by decide +kernel
theorem dX9_enter_25 : decode cX9_enter 25 = .ok (.iconst 0, 1) := by decide +kernel
theorem dX9_enter_26 : decode cX9_enter 26 = .ok (.istore_n 3, 1) := by decide +kernel
theorem dX9_enter_27 : decode cX9_enter 27 = .ok (.iload_n 3, 1) := by decide +kernel
theorem dX9_enter_28 : decode cX9_enter 28 = .ok (.aload_n 0, 1) := by decide +kernel
theorem dX9_enter_29 : decode cX9_enter 29 = .ok (.getfield 65, 3) := by decide +kernel
theorem dX9_enter_32 : decode cX9_enter 32 = .ok (.getfield 70, 3) := by decide +kernel
theorem dX9_enter_35 : decode cX9_enter 35 = .ok (.if_icmp .ge 83, 3) := by decide +kernel
theorem dX9_enter_38 : decode cX9_enter 38 = .ok (.aload_n 0, 1) := by decide +kernel
theorem dX9_enter_39 : decode cX9_enter 39 = .ok (.getfield 65, 3) := by decide +kernel
theorem dX9_enter_42 : decode cX9_enter 42 = .ok (.getfield 75, 3) := by decide +kernel
theorem dX9_enter_45 : decode cX9_enter 45 = .ok (.iload_n 3, 1) := by decide +kernel
theorem dX9_enter_46 : decode cX9_enter 46 = .ok (.aaload, 1) := by decide +kernel
theorem dX9_enter_47 : decode cX9_enter 47 = .ok (.astore 4, 2) := by decide +kernel
theorem dX9_enter_49 : decode cX9_enter 49 = .ok (.aload 4, 2) := by decide +kernel
theorem dX9_enter_51 : decode cX9_enter 51 = .ok (.getfield 79, 3) := by decide +kernel
theorem dX9_enter_54 : decode cX9_enter 54 = .ok (.invokestatic 84, 3) := by decide +kernel
theorem dX9_enter_57 : decode cX9_enter 57 = .ok (.iload_n 2, 1) := by decide +kernel
theorem dX9_enter_58 : decode cX9_enter 58 = .ok (.if_icmp .ne 54, 3) := by decide +kernel
theorem dX9_enter_61 : decode cX9_enter 61 = .ok (.aload_n 0, 1) := by decide +kernel
theorem dX9_enter_62 : decode cX9_enter 62 = .ok (.getfield 65, 3) := by decide +kernel
theorem dX9_enter_65 : decode cX9_enter 65 = .ok (.aload 4, 2) := by decide +kernel
theorem dX9_enter_67 : decode cX9_enter 67 = .ok (.invokevirtual 88, 3) := by decide +kernel
theorem dX9_enter_70 : decode cX9_enter 70 = .ok (.ifCond .eq 42, 3) := by decide +kernel
theorem dX9_enter_73 : decode cX9_enter 73 = .ok (.aload_n 0, 1) := by decide +kernel
theorem dX9_enter_74 : decode cX9_enter 74 = .ok (.getfield 65, 3) := by decide +kernel
theorem dX9_enter_77 : decode cX9_enter 77 = .ok (.aload 4, 2) := by decide +kernel
theorem dX9_enter_79 : decode cX9_enter 79 = .ok (.aload_n 0, 1) := by decide +kernel
theorem dX9_enter_80 : decode cX9_enter 80 = .ok (.getfield 55, 3) := by decide +kernel
theorem dX9_enter_83 : decode cX9_enter 83 = .ok (.getfield 92, 3) := by decide +kernel
theorem dX9_enter_86 : decode cX9_enter 86 = .ok (.invokevirtual 95, 3) := by decide +kernel
theorem dX9_enter_89 : decode cX9_enter 89 = .ok (.ifCond .eq 23, 3) := by decide +kernel
theorem dX9_enter_92 : decode cX9_enter 92 = .ok (.aload_n 0, 1) := by decide +kernel
theorem dX9_enter_93 : decode cX9_enter 93 = .ok (.getfield 9, 3) := by decide +kernel
theorem dX9_enter_96 : decode cX9_enter 96 = .ok (.aload_n 0, 1) := by decide +kernel
theorem dX9_enter_97 : decode cX9_enter 97 = .ok (.getfield 15, 3) := by decide +kernel
theorem dX9_enter_100 : decode cX9_enter 100 = .ok (.iload_n 3, 1) := by decide +kernel
theorem dX9_enter_101 : decode cX9_enter 101 = .ok (.iastore, 1) := by decide +kernel
theorem dX9_enter_102 : decode cX9_enter 102 = .ok (.aload_n 0, 1) := by decide +kernel
theorem dX9_enter_103 : decode cX9_enter 103 = .ok (.dup, 1) := by decide +kernel
theorem dX9_enter_104 : decode cX9_enter 104 = .ok (.getfield 15, 3) := by decide +kernel
theorem dX9_enter_107 : decode cX9_enter 107 = .ok (.iconst 1, 1) := by decide +kernel
theorem dX9_enter_108 : decode cX9_enter 108 = .ok (.iadd, 1) := by decide +kernel
theorem dX9_enter_109 : decode cX9_enter 109 = .ok (.putfield 15, 3) := by decide +kernel
theorem dX9_enter_112 : decode cX9_enter 112 = .ok (.iinc 3 1, 3) := by decide +kernel
theorem dX9_enter_115 : decode cX9_enter 115 = .ok (.goto (-88), 3) := by decide +kernel
theorem dX9_enter_118 : decode cX9_enter 118 = .ok (.iinc 2 (-1), 3) := by decide +kernel
theorem dX9_enter_121 : decode cX9_enter 121 = .ok (.goto (-100), 3) := by decide +kernel
theorem dX9_enter_124 : decode cX9_enter 124 = .ok (.return_, 1) := by decide +kernel
theorem dX9_headFor_0 : decode cX9_headFor 0 = .ok (.aload_n 0, 1) := by decide +kernel
theorem dX9_headFor_1 : decode cX9_headFor 1 = .ok (.iload_n 1, 1) := by decide +kernel
theorem dX9_headFor_2 : decode cX9_headFor 2 = .ok (.putfield 19, 3) := by decide +kernel
theorem dX9_headFor_5 : decode cX9_headFor 5 = .ok (.aload_n 0, 1) := by decide +kernel
theorem dX9_headFor_6 : decode cX9_headFor 6 = .ok (.getfield 22, 3) := by decide +kernel
theorem dX9_headFor_9 : decode cX9_headFor 9 = .ok (.iconst (-1), 1) := by decide +kernel
theorem dX9_headFor_10 : decode cX9_headFor 10 = .ok (.invokestatic 99, 3) := by decide +kernel
theorem dX9_headFor_13 : decode cX9_headFor 13 = .ok (.aload_n 0, 1) := by decide +kernel
theorem dX9_headFor_14 : decode cX9_headFor 14 = .ok (.getfield 28, 3) := by decide +kernel
theorem dX9_headFor_17 : decode cX9_headFor 17 = .ok (.iconst (-1), 1) := by decide +kernel
theorem dX9_headFor_18 : decode cX9_headFor 18 = .ok (.invokestatic 99, 3) := by decide +kernel
theorem dX9_headFor_21 : decode cX9_headFor 21 = .ok (.aload_n 0, 1) := by decide +kernel
theorem dX9_headFor_22 : decode cX9_headFor 22 = .ok (.aload_n 0, 1) := by decide +kernel
theorem dX9_headFor_23 : decode cX9_headFor 23 = .ok (.getfield 19, 3) := by decide +kernel
theorem dX9_headFor_26 : decode cX9_headFor 26 = .ok (.invokevirtual 105, 3) := by decide +kernel
theorem dX9_headFor_29 : decode cX9_headFor 29 = .ok (.aload_n 0, 1) := by decide +kernel
theorem dX9_headFor_30 : decode cX9_headFor 30 = .ok (.getfield 65, 3) := by decide +kernel
theorem dX9_headFor_33 : decode cX9_headFor 33 = .ok (.getfield 109, 3) := by decide +kernel
theorem dX9_headFor_36 : decode cX9_headFor 36 = .ok (.aload_n 0, 1) := by decide +kernel
theorem dX9_headFor_37 : decode cX9_headFor 37 = .ok (.getfield 19, 3) := by decide +kernel
theorem dX9_headFor_40 : decode cX9_headFor 40 = .ok (.iaload, 1) := by decide +kernel
theorem dX9_headFor_41 : decode cX9_headFor 41 = .ok (.iconst (-1), 1) := by decide +kernel
theorem dX9_headFor_42 : decode cX9_headFor 42 = .ok (.if_icmp .eq 22, 3) := by decide +kernel
theorem dX9_headFor_45 : decode cX9_headFor 45 = .ok (.aload_n 0, 1) := by decide +kernel
theorem dX9_headFor_46 : decode cX9_headFor 46 = .ok (.bipush 10, 2) := by decide +kernel
theorem dX9_headFor_48 : decode cX9_headFor 48 = .ok (.aload_n 0, 1) := by decide +kernel
theorem dX9_headFor_49 : decode cX9_headFor 49 = .ok (.getfield 65, 3) := by decide +kernel
theorem dX9_headFor_52 : decode cX9_headFor 52 = .ok (.getfield 109, 3) := by decide +kernel
theorem dX9_headFor_55 : decode cX9_headFor 55 = .ok (.aload_n 0, 1) := by decide +kernel
theorem dX9_headFor_56 : decode cX9_headFor 56 = .ok (.getfield 19, 3) := by decide +kernel
theorem dX9_headFor_59 : decode cX9_headFor 59 = .ok (.iaload, 1) := by decide +kernel
theorem dX9_headFor_60 : decode cX9_headFor 60 = .ok (.iadd, 1) := by decide +kernel
theorem dX9_headFor_61 : decode cX9_headFor 61 = .ok (.invokevirtual 105, 3) := by decide +kernel
theorem dX9_headFor_64 : decode cX9_headFor 64 = .ok (.return_, 1) := by decide +kernel
theorem dX9_follow_0 : decode cX9_follow 0 = .ok (.iconst 0, 1) := by decide +kernel
theorem dX9_follow_1 : decode cX9_follow 1 = .ok (.istore_n 2, 1) := by decide +kernel
theorem dX9_follow_2 : decode cX9_follow 2 = .ok (.iload_n 2, 1) := by decide +kernel
theorem dX9_follow_3 : decode cX9_follow 3 = .ok (.aload_n 0, 1) := by decide +kernel
theorem dX9_follow_4 : decode cX9_follow 4 = .ok (.getfield 15, 3) := by decide +kernel
theorem dX9_follow_7 : decode cX9_follow 7 = .ok (.if_icmp .ge 81, 3) := by decide +kernel
theorem dX9_follow_10 : decode cX9_follow 10 = .ok (.aload_n 0, 1) := by decide +kernel
theorem dX9_follow_11 : decode cX9_follow 11 = .ok (.getfield 65, 3) := by decide +kernel
theorem dX9_follow_14 : decode cX9_follow 14 = .ok (.getfield 75, 3) := by decide +kernel
theorem dX9_follow_17 : decode cX9_follow 17 = .ok (.aload_n 0, 1) := by decide +kernel
theorem dX9_follow_18 : decode cX9_follow 18 = .ok (.getfield 9, 3) := by decide +kernel
theorem dX9_follow_21 : decode cX9_follow 21 = .ok (.iload_n 2, 1) := by decide +kernel
theorem dX9_follow_22 : decode cX9_follow 22 = .ok (.iaload, 1) := by decide +kernel
theorem dX9_follow_23 : decode cX9_follow 23 = .ok (.aaload, 1) := by decide +kernel
theorem dX9_follow_24 : decode cX9_follow 24 = .ok (.astore_n 3, 1) := by decide +kernel
theorem dX9_follow_25 : decode cX9_follow 25 = .ok (.aload_n 3, 1) := by decide +kernel
theorem dX9_follow_26 : decode cX9_follow 26 = .ok (.iload_n 1, 1) := by decide +kernel
theorem dX9_follow_27 : decode cX9_follow 27 = .ok (.invokevirtual 112, 3) := by decide +kernel
theorem dX9_follow_30 : decode cX9_follow 30 = .ok (.istore 4, 2) := by decide +kernel
theorem dX9_follow_32 : decode cX9_follow 32 = .ok (.iload 4, 2) := by decide +kernel
theorem dX9_follow_34 : decode cX9_follow 34 = .ok (.iconst (-1), 1) := by decide +kernel
theorem dX9_follow_35 : decode cX9_follow 35 = .ok (.if_icmp .eq 47, 3) := by decide +kernel
theorem dX9_follow_38 : decode cX9_follow 38 = .ok (.aload_n 0, 1) := by decide +kernel
theorem dX9_follow_39 : decode cX9_follow 39 = .ok (.getfield 22, 3) := by decide +kernel
theorem dX9_follow_42 : decode cX9_follow 42 = .ok (.aload_n 3, 1) := by decide +kernel
theorem dX9_follow_43 : decode cX9_follow 43 = .ok (.getfield 115, 3) := by decide +kernel
theorem dX9_follow_46 : decode cX9_follow 46 = .ok (.iaload, 1) := by decide +kernel
theorem dX9_follow_47 : decode cX9_follow 47 = .ok (.iconst (-1), 1) := by decide +kernel
theorem dX9_follow_48 : decode cX9_follow 48 = .ok (.if_icmp .ne 34, 3) := by decide +kernel
theorem dX9_follow_51 : decode cX9_follow 51 = .ok (.aload_n 0, 1) := by decide +kernel
theorem dX9_follow_52 : decode cX9_follow 52 = .ok (.getfield 22, 3) := by decide +kernel
theorem dX9_follow_55 : decode cX9_follow 55 = .ok (.aload_n 3, 1) := by decide +kernel
theorem dX9_follow_56 : decode cX9_follow 56 = .ok (.getfield 115, 3) := by decide +kernel
theorem dX9_follow_59 : decode cX9_follow 59 = .ok (.aload_n 0, 1) := by decide +kernel
theorem dX9_follow_60 : decode cX9_follow 60 = .ok (.getfield 9, 3) := by decide +kernel
theorem dX9_follow_63 : decode cX9_follow 63 = .ok (.iload_n 2, 1) := by decide +kernel
theorem dX9_follow_64 : decode cX9_follow 64 = .ok (.iaload, 1) := by decide +kernel
theorem dX9_follow_65 : decode cX9_follow 65 = .ok (.iastore, 1) := by decide +kernel
theorem dX9_follow_66 : decode cX9_follow 66 = .ok (.aload_n 0, 1) := by decide +kernel
theorem dX9_follow_67 : decode cX9_follow 67 = .ok (.getfield 25, 3) := by decide +kernel
theorem dX9_follow_70 : decode cX9_follow 70 = .ok (.aload_n 3, 1) := by decide +kernel
theorem dX9_follow_71 : decode cX9_follow 71 = .ok (.getfield 115, 3) := by decide +kernel
theorem dX9_follow_74 : decode cX9_follow 74 = .ok (.aload_n 3, 1) := by decide +kernel
theorem dX9_follow_75 : decode cX9_follow 75 = .ok (.getfield 118, 3) := by decide +kernel
theorem dX9_follow_78 : decode cX9_follow 78 = .ok (.iload 4, 2) := by decide +kernel
theorem dX9_follow_80 : decode cX9_follow 80 = .ok (.iaload, 1) := by decide +kernel
theorem dX9_follow_81 : decode cX9_follow 81 = .ok (.iastore, 1) := by decide +kernel
theorem dX9_follow_82 : decode cX9_follow 82 = .ok (.iinc 2 1, 3) := by decide +kernel
theorem dX9_follow_85 : decode cX9_follow 85 = .ok (.goto (-83), 3) := by decide +kernel
theorem dX9_follow_88 : decode cX9_follow 88 = .ok (.return_, 1) := by decide +kernel
theorem dX9_go_0 : decode cX9_go 0 = .ok (.aload_n 0, 1) := by decide +kernel
theorem dX9_go_1 : decode cX9_go 1 = .ok (.dup, 1) := by decide +kernel
theorem dX9_go_2 : decode cX9_go 2 = .ok (.getfield 34, 3) := by decide +kernel
theorem dX9_go_5 : decode cX9_go 5 = .ok (.iconst 1, 1) := by decide +kernel
theorem dX9_go_6 : decode cX9_go 6 = .ok (.iadd, 1) := by decide +kernel
theorem dX9_go_7 : decode cX9_go 7 = .ok (.putfield 34, 3) := by decide +kernel
theorem dX9_go_10 : decode cX9_go 10 = .ok (.aload_n 0, 1) := by decide +kernel
theorem dX9_go_11 : decode cX9_go 11 = .ok (.iconst 0, 1) := by decide +kernel
theorem dX9_go_12 : decode cX9_go 12 = .ok (.putfield 43, 3) := by decide +kernel
theorem dX9_go_15 : decode cX9_go 15 = .ok (.aload_n 0, 1) := by decide +kernel
theorem dX9_go_16 : decode cX9_go 16 = .ok (.iconst 0, 1) := by decide +kernel
theorem dX9_go_17 : decode cX9_go 17 = .ok (.putfield 46, 3) := by decide +kernel
theorem dX9_go_20 : decode cX9_go 20 = .ok (.aload_n 0, 1) := by decide +kernel
theorem dX9_go_21 : decode cX9_go 21 = .ok (.iconst (-1), 1) := by decide +kernel
theorem dX9_go_22 : decode cX9_go 22 = .ok (.putfield 52, 3) := by decide +kernel
theorem dX9_go_25 : decode cX9_go 25 = .ok (.aload_n 0, 1) := by decide +kernel
theorem dX9_go_26 : decode cX9_go 26 = .ok (.iload_n 1, 1) := by decide +kernel
theorem dX9_go_27 : decode cX9_go 27 = .ok (.putfield 49, 3) := by decide +kernel
theorem dX9_go_30 : decode cX9_go 30 = .ok (.aload_n 0, 1) := by decide +kernel
theorem dX9_go_31 : decode cX9_go 31 = .ok (.getfield 37, 3) := by decide +kernel
theorem dX9_go_34 : decode cX9_go 34 = .ok (.iconst 0, 1) := by decide +kernel
theorem dX9_go_35 : decode cX9_go 35 = .ok (.iload_n 1, 1) := by decide +kernel
theorem dX9_go_36 : decode cX9_go 36 = .ok (.iastore, 1) := by decide +kernel
theorem dX9_go_37 : decode cX9_go 37 = .ok (.aload_n 0, 1) := by decide +kernel
theorem dX9_go_38 : decode cX9_go 38 = .ok (.iconst 0, 1) := by decide +kernel
theorem dX9_go_39 : decode cX9_go 39 = .ok (.putfield 40, 3) := by decide +kernel
theorem dX9_go_42 : decode cX9_go 42 = .ok (.iconst (-1), 1) := by decide +kernel
theorem dX9_go_43 : decode cX9_go 43 = .ok (.istore_n 2, 1) := by decide +kernel
theorem dX9_go_44 : decode cX9_go 44 = .ok (.iconst 0, 1) := by decide +kernel
theorem dX9_go_45 : decode cX9_go 45 = .ok (.istore_n 3, 1) := by decide +kernel
theorem dX9_go_46 : decode cX9_go 46 = .ok (.iload_n 3, 1) := by decide +kernel
theorem dX9_go_47 : decode cX9_go 47 = .ok (.bipush 60, 2) := by decide +kernel
theorem dX9_go_49 : decode cX9_go 49 = .ok (.if_icmp .ge 54, 3) := by decide +kernel
theorem dX9_go_52 : decode cX9_go 52 = .ok (.aload_n 0, 1) := by decide +kernel
theorem dX9_go_53 : decode cX9_go 53 = .ok (.getfield 40, 3) := by decide +kernel
theorem dX9_go_56 : decode cX9_go 56 = .ok (.ifCond .ne 47, 3) := by decide +kernel
theorem dX9_go_59 : decode cX9_go 59 = .ok (.aload_n 0, 1) := by decide +kernel
theorem dX9_go_60 : decode cX9_go 60 = .ok (.getfield 49, 3) := by decide +kernel
theorem dX9_go_63 : decode cX9_go 63 = .ok (.aload_n 0, 1) := by decide +kernel
theorem dX9_go_64 : decode cX9_go 64 = .ok (.getfield 65, 3) := by decide +kernel
theorem dX9_go_67 : decode cX9_go 67 = .ok (.getfield 119, 3) := by decide +kernel
theorem dX9_go_70 : decode cX9_go 70 = .ok (.aload_n 0, 1) := by decide +kernel
theorem dX9_go_71 : decode cX9_go 71 = .ok (.getfield 19, 3) := by decide +kernel
theorem dX9_go_74 : decode cX9_go 74 = .ok (.iaload, 1) := by decide +kernel
theorem dX9_go_75 : decode cX9_go 75 = .ok (.if_icmp .ne 11, 3) := by decide +kernel
theorem dX9_go_78 : decode cX9_go 78 = .ok (.aload_n 0, 1) := by decide +kernel
theorem dX9_go_79 : decode cX9_go 79 = .ok (.iconst 1, 1) := by decide +kernel
theorem dX9_go_80 : decode cX9_go 80 = .ok (.putfield 40, 3) := by decide +kernel
theorem dX9_go_83 : decode cX9_go 83 = .ok (.goto 14, 3) := by decide +kernel
theorem dX9_go_86 : decode cX9_go 86 = .ok (.aload_n 0, 1) := by decide +kernel
theorem dX9_go_87 : decode cX9_go 87 = .ok (.iload_n 2, 1) := by decide +kernel
theorem dX9_go_88 : decode cX9_go 88 = .ok (.invokevirtual 122, 3) := by decide +kernel
theorem dX9_go_91 : decode cX9_go 91 = .ok (.istore_n 2, 1) := by decide +kernel
theorem dX9_go_92 : decode cX9_go 92 = .ok (.aload_n 0, 1) := by decide +kernel
theorem dX9_go_93 : decode cX9_go 93 = .ok (.iload_n 2, 1) := by decide +kernel
theorem dX9_go_94 : decode cX9_go 94 = .ok (.invokevirtual 125, 3) := by decide +kernel
theorem dX9_go_97 : decode cX9_go 97 = .ok (.iinc 3 1, 3) := by decide +kernel
theorem dX9_go_100 : decode cX9_go 100 = .ok (.goto (-54), 3) := by decide +kernel
theorem dX9_go_103 : decode cX9_go 103 = .ok (.aload_n 0, 1) := by decide +kernel
theorem dX9_go_104 : decode cX9_go 104 = .ok (.getfield 40, 3) := by decide +kernel
theorem dX9_go_107 : decode cX9_go 107 = .ok (.ireturn, 1) := by decide +kernel
theorem dX9_take_0 : decode cX9_take 0 = .ok (.aload_n 0, 1) := by decide +kernel
theorem dX9_take_1 : decode cX9_take 1 = .ok (.getfield 55, 3) := by decide +kernel
theorem dX9_take_4 : decode cX9_take 4 = .ok (.aload_n 0, 1) := by decide +kernel
theorem dX9_take_5 : decode cX9_take 5 = .ok (.getfield 49, 3) := by decide +kernel
theorem dX9_take_8 : decode cX9_take 8 = .ok (.iload_n 1, 1) := by decide +kernel
theorem dX9_take_9 : decode cX9_take 9 = .ok (.invokevirtual 128, 3) := by decide +kernel
theorem dX9_take_12 : decode cX9_take 12 = .ok (.istore_n 2, 1) := by decide +kernel
theorem dX9_take_13 : decode cX9_take 13 = .ok (.iload_n 2, 1) := by decide +kernel
theorem dX9_take_14 : decode cX9_take 14 = .ok (.iconst (-1), 1) := by decide +kernel
theorem dX9_take_15 : decode cX9_take 15 = .ok (.if_icmp .ne 9, 3) := by decide +kernel
theorem dX9_take_18 : decode cX9_take 18 = .ok (.aload_n 0, 1) := by decide +kernel
theorem dX9_take_19 : decode cX9_take 19 = .ok (.iconst 2, 1) := by decide +kernel
theorem dX9_take_20 : decode cX9_take 20 = .ok (.putfield 40, 3) := by decide +kernel
theorem dX9_take_23 : decode cX9_take 23 = .ok (.return_, 1) := by decide +kernel
theorem dX9_take_24 : decode cX9_take 24 = .ok (.aload_n 0, 1) := by decide +kernel
theorem dX9_take_25 : decode cX9_take 25 = .ok (.dup, 1) := by decide +kernel
theorem dX9_take_26 : decode cX9_take 26 = .ok (.getfield 43, 3) := by decide +kernel
theorem dX9_take_29 : decode cX9_take 29 = .ok (.aload_n 0, 1) := by decide +kernel
theorem dX9_take_30 : decode cX9_take 30 = .ok (.getfield 65, 3) := by decide +kernel
theorem dX9_take_33 : decode cX9_take 33 = .ok (.getfield 132, 3) := by decide +kernel
theorem dX9_take_36 : decode cX9_take 36 = .ok (.iload_n 2, 1) := by decide +kernel
theorem dX9_take_37 : decode cX9_take 37 = .ok (.aaload, 1) := by decide +kernel
theorem dX9_take_38 : decode cX9_take 38 = .ok (.getfield 136, 3) := by decide +kernel
theorem dX9_take_41 : decode cX9_take 41 = .ok (.iadd, 1) := by decide +kernel
theorem dX9_take_42 : decode cX9_take 42 = .ok (.putfield 43, 3) := by decide +kernel
theorem dX9_take_45 : decode cX9_take 45 = .ok (.aload_n 0, 1) := by decide +kernel
theorem dX9_take_46 : decode cX9_take 46 = .ok (.aload_n 0, 1) := by decide +kernel
theorem dX9_take_47 : decode cX9_take 47 = .ok (.getfield 65, 3) := by decide +kernel
theorem dX9_take_50 : decode cX9_take 50 = .ok (.getfield 132, 3) := by decide +kernel
theorem dX9_take_53 : decode cX9_take 53 = .ok (.iload_n 2, 1) := by decide +kernel
theorem dX9_take_54 : decode cX9_take 54 = .ok (.aaload, 1) := by decide +kernel
theorem dX9_take_55 : decode cX9_take 55 = .ok (.aload_n 0, 1) := by decide +kernel
theorem dX9_take_56 : decode cX9_take 56 = .ok (.getfield 49, 3) := by decide +kernel
theorem dX9_take_59 : decode cX9_take 59 = .ok (.invokevirtual 139, 3) := by decide +kernel
theorem dX9_take_62 : decode cX9_take 62 = .ok (.putfield 49, 3) := by decide +kernel
theorem dX9_take_65 : decode cX9_take 65 = .ok (.aload_n 0, 1) := by decide +kernel
theorem dX9_take_66 : decode cX9_take 66 = .ok (.dup, 1) := by decide +kernel
theorem dX9_take_67 : decode cX9_take 67 = .ok (.getfield 46, 3) := by decide +kernel
theorem dX9_take_70 : decode cX9_take 70 = .ok (.iconst 1, 1) := by decide +kernel
theorem dX9_take_71 : decode cX9_take 71 = .ok (.iadd, 1) := by decide +kernel
theorem dX9_take_72 : decode cX9_take 72 = .ok (.putfield 46, 3) := by decide +kernel
theorem dX9_take_75 : decode cX9_take 75 = .ok (.aload_n 0, 1) := by decide +kernel
theorem dX9_take_76 : decode cX9_take 76 = .ok (.getfield 37, 3) := by decide +kernel
theorem dX9_take_79 : decode cX9_take 79 = .ok (.aload_n 0, 1) := by decide +kernel
theorem dX9_take_80 : decode cX9_take 80 = .ok (.getfield 46, 3) := by decide +kernel
theorem dX9_take_83 : decode cX9_take 83 = .ok (.aload_n 0, 1) := by decide +kernel
theorem dX9_take_84 : decode cX9_take 84 = .ok (.getfield 49, 3) := by decide +kernel
theorem dX9_take_87 : decode cX9_take 87 = .ok (.iastore, 1) := by decide +kernel
theorem dX9_take_88 : decode cX9_take 88 = .ok (.aload_n 0, 1) := by decide +kernel
theorem dX9_take_89 : decode cX9_take 89 = .ok (.getfield 49, 3) := by decide +kernel
theorem dX9_take_92 : decode cX9_take 92 = .ok (.bipush 8, 2) := by decide +kernel
theorem dX9_take_94 : decode cX9_take 94 = .ok (.imul, 1) := by decide +kernel
theorem dX9_take_95 : decode cX9_take 95 = .ok (.iload_n 1, 1) := by decide +kernel
theorem dX9_take_96 : decode cX9_take 96 = .ok (.iadd, 1) := by decide +kernel
theorem dX9_take_97 : decode cX9_take 97 = .ok (.istore_n 3, 1) := by decide +kernel
theorem dX9_take_98 : decode cX9_take 98 = .ok (.aload_n 0, 1) := by decide +kernel
theorem dX9_take_99 : decode cX9_take 99 = .ok (.getfield 31, 3) := by decide +kernel
theorem dX9_take_102 : decode cX9_take 102 = .ok (.iload_n 3, 1) := by decide +kernel
theorem dX9_take_103 : decode cX9_take 103 = .ok (.iaload, 1) := by decide +kernel
theorem dX9_take_104 : decode cX9_take 104 = .ok (.aload_n 0, 1) := by decide +kernel
theorem dX9_take_105 : decode cX9_take 105 = .ok (.getfield 34, 3) := by decide +kernel
theorem dX9_take_108 : decode cX9_take 108 = .ok (.if_icmp .ne 8, 3) := by decide +kernel
theorem dX9_take_111 : decode cX9_take 111 = .ok (.aload_n 0, 1) := by decide +kernel
theorem dX9_take_112 : decode cX9_take 112 = .ok (.iconst 3, 1) := by decide +kernel
theorem dX9_take_113 : decode cX9_take 113 = .ok (.putfield 40, 3) := by decide +kernel
theorem dX9_take_116 : decode cX9_take 116 = .ok (.aload_n 0, 1) := by decide +kernel
theorem dX9_take_117 : decode cX9_take 117 = .ok (.getfield 31, 3) := by decide +kernel
theorem dX9_take_120 : decode cX9_take 120 = .ok (.iload_n 3, 1) := by decide +kernel
theorem dX9_take_121 : decode cX9_take 121 = .ok (.aload_n 0, 1) := by decide +kernel
theorem dX9_take_122 : decode cX9_take 122 = .ok (.getfield 34, 3) := by decide +kernel
theorem dX9_take_125 : decode cX9_take 125 = .ok (.iastore, 1) := by decide +kernel
theorem dX9_take_126 : decode cX9_take 126 = .ok (.return_, 1) := by decide +kernel
theorem dX9_directionFrom_0 : decode cX9_directionFrom 0 = .ok (.aload_n 0, 1) := by decide +kernel
theorem dX9_directionFrom_1 : decode cX9_directionFrom 1 = .ok (.getfield 28, 3) := by decide +kernel
theorem dX9_directionFrom_4 : decode cX9_directionFrom 4 = .ok (.aload_n 0, 1) := by decide +kernel
theorem dX9_directionFrom_5 : decode cX9_directionFrom 5 = .ok (.getfield 49, 3) := by decide +kernel
theorem dX9_directionFrom_8 : decode cX9_directionFrom 8 = .ok (.iaload, 1) := by decide +kernel
theorem dX9_directionFrom_9 : decode cX9_directionFrom 9 = .ok (.iconst (-1), 1) := by decide +kernel
theorem dX9_directionFrom_10 : decode cX9_directionFrom 10 = .ok (.if_icmp .eq 13, 3) := by decide +kernel
theorem dX9_directionFrom_13 : decode cX9_directionFrom 13 = .ok (.aload_n 0, 1) := by decide +kernel
theorem dX9_directionFrom_14 : decode cX9_directionFrom 14 = .ok (.getfield 28, 3) := by decide +kernel
theorem dX9_directionFrom_17 : decode cX9_directionFrom 17 = .ok (.aload_n 0, 1) := by decide +kernel
theorem dX9_directionFrom_18 : decode cX9_directionFrom 18 = .ok (.getfield 49, 3) := by decide +kernel
theorem dX9_directionFrom_21 : decode cX9_directionFrom 21 = .ok (.iaload, 1) := by decide +kernel
theorem dX9_directionFrom_22 : decode cX9_directionFrom 22 = .ok (.ireturn, 1) := by decide +kernel
theorem dX9_directionFrom_23 : decode cX9_directionFrom 23 = .ok (.aload_n 0, 1) := by decide +kernel
theorem dX9_directionFrom_24 : decode cX9_directionFrom 24 = .ok (.getfield 22, 3) := by decide +kernel
theorem dX9_directionFrom_27 : decode cX9_directionFrom 27 = .ok (.aload_n 0, 1) := by decide +kernel
theorem dX9_directionFrom_28 : decode cX9_directionFrom 28 = .ok (.getfield 49, 3) := by decide +kernel
theorem dX9_directionFrom_31 : decode cX9_directionFrom 31 = .ok (.iaload, 1) := by decide +kernel
theorem dX9_directionFrom_32 : decode cX9_directionFrom 32 = .ok (.iconst (-1), 1) := by decide +kernel
theorem dX9_directionFrom_33 : decode cX9_directionFrom 33 = .ok (.if_icmp .eq 26, 3) := by decide +kernel
theorem dX9_directionFrom_36 : decode cX9_directionFrom 36 = .ok (.aload_n 0, 1) := by decide +kernel
theorem dX9_directionFrom_37 : decode cX9_directionFrom 37 = .ok (.aload_n 0, 1) := by decide +kernel
theorem dX9_directionFrom_38 : decode cX9_directionFrom 38 = .ok (.getfield 22, 3) := by decide +kernel
theorem dX9_directionFrom_41 : decode cX9_directionFrom 41 = .ok (.aload_n 0, 1) := by decide +kernel
theorem dX9_directionFrom_42 : decode cX9_directionFrom 42 = .ok (.getfield 49, 3) := by decide +kernel
theorem dX9_directionFrom_45 : decode cX9_directionFrom 45 = .ok (.iaload, 1) := by decide +kernel
theorem dX9_directionFrom_46 : decode cX9_directionFrom 46 = .ok (.putfield 52, 3) := by decide +kernel
theorem dX9_directionFrom_49 : decode cX9_directionFrom 49 = .ok (.aload_n 0, 1) := by decide +kernel
theorem dX9_directionFrom_50 : decode cX9_directionFrom 50 = .ok (.getfield 25, 3) := by decide +kernel
theorem dX9_directionFrom_53 : decode cX9_directionFrom 53 = .ok (.aload_n 0, 1) := by decide +kernel
theorem dX9_directionFrom_54 : decode cX9_directionFrom 54 = .ok (.getfield 49, 3) := by decide +kernel
theorem dX9_directionFrom_57 : decode cX9_directionFrom 57 = .ok (.iaload, 1) := by decide +kernel
theorem dX9_directionFrom_58 : decode cX9_directionFrom 58 = .ok (.ireturn, 1) := by decide +kernel
theorem dX9_directionFrom_59 : decode cX9_directionFrom 59 = .ok (.aload_n 0, 1) := by decide +kernel
theorem dX9_directionFrom_60 : decode cX9_directionFrom 60 = .ok (.getfield 55, 3) := by decide +kernel
theorem dX9_directionFrom_63 : decode cX9_directionFrom 63 = .ok (.aload_n 0, 1) := by decide +kernel
theorem dX9_directionFrom_64 : decode cX9_directionFrom 64 = .ok (.getfield 49, 3) := by decide +kernel
theorem dX9_directionFrom_67 : decode cX9_directionFrom 67 = .ok (.iload_n 1, 1) := by decide +kernel
theorem dX9_directionFrom_68 : decode cX9_directionFrom 68 = .ok (.invokevirtual 128, 3) := by decide +kernel
theorem dX9_directionFrom_71 : decode cX9_directionFrom 71 = .ok (.iconst (-1), 1) := by decide +kernel
theorem dX9_directionFrom_72 : decode cX9_directionFrom 72 = .ok (.if_icmp .eq 5, 3) := by decide +kernel
theorem dX9_directionFrom_75 : decode cX9_directionFrom 75 = .ok (.iload_n 1, 1) := by decide +kernel
theorem dX9_directionFrom_76 : decode cX9_directionFrom 76 = .ok (.ireturn, 1) := by decide +kernel
theorem dX9_directionFrom_77 : decode cX9_directionFrom 77 = .ok (.aload_n 0, 1) := by decide +kernel
theorem dX9_directionFrom_78 : decode cX9_directionFrom 78 = .ok (.iload_n 1, 1) := by decide +kernel
theorem dX9_directionFrom_79 : decode cX9_directionFrom 79 = .ok (.iconst (-1), 1) := by decide +kernel
theorem dX9_directionFrom_80 : decode cX9_directionFrom 80 = .ok (.if_icmp .ne 7, 3) := by decide +kernel
theorem dX9_directionFrom_83 : decode cX9_directionFrom 83 = .ok (.iconst (-1), 1) := by decide +kernel
theorem dX9_directionFrom_84 : decode cX9_directionFrom 84 = .ok (.goto 7, 3) := by decide +kernel
theorem dX9_directionFrom_87 : decode cX9_directionFrom 87 = .ok (.iload_n 1, 1) := by decide +kernel
theorem dX9_directionFrom_88 : decode cX9_directionFrom 88 = .ok (.invokestatic 142, 3) := by decide +kernel
theorem dX9_directionFrom_91 : decode cX9_directionFrom 91 = .ok (.invokevirtual 145, 3) := by decide +kernel
theorem dX9_directionFrom_94 : decode cX9_directionFrom 94 = .ok (.ireturn, 1) := by decide +kernel
theorem dX9_onlyDirection_0 : decode cX9_onlyDirection 0 = .ok (.iconst (-1), 1) := by decide +kernel
theorem dX9_onlyDirection_1 : decode cX9_onlyDirection 1 = .ok (.istore_n 2, 1) := by decide +kernel
theorem dX9_onlyDirection_2 : decode cX9_onlyDirection 2 = .ok (.iconst 0, 1) := by decide +kernel
theorem dX9_onlyDirection_3 : decode cX9_onlyDirection 3 = .ok (.istore_n 3, 1) := by decide +kernel
theorem dX9_onlyDirection_4 : decode cX9_onlyDirection 4 = .ok (.iload_n 3, 1) := by decide +kernel
theorem dX9_onlyDirection_5 : decode cX9_onlyDirection 5 = .ok (.bipush 8, 2) := by decide +kernel
theorem dX9_onlyDirection_7 : decode cX9_onlyDirection 7 = .ok (.if_icmp .ge 39, 3) := by decide +kernel
theorem dX9_onlyDirection_10 : decode cX9_onlyDirection 10 = .ok (.iload_n 3, 1) := by decide +kernel
theorem dX9_onlyDirection_11 : decode cX9_onlyDirection 11 = .ok (.iload_n 1, 1) := by decide +kernel
theorem dX9_onlyDirection_12 : decode cX9_onlyDirection 12 = .ok (.if_icmp .eq 28, 3) := by decide +kernel
theorem dX9_onlyDirection_15 : decode cX9_onlyDirection 15 = .ok (.aload_n 0, 1) := by decide +kernel
theorem dX9_onlyDirection_16 : decode cX9_onlyDirection 16 = .ok (.getfield 55, 3) := by decide +kernel
theorem dX9_onlyDirection_19 : decode cX9_onlyDirection 19 = .ok (.aload_n 0, 1) := by decide +kernel
theorem dX9_onlyDirection_20 : decode cX9_onlyDirection 20 = .ok (.getfield 49, 3) := by decide +kernel
theorem dX9_onlyDirection_23 : decode cX9_onlyDirection 23 = .ok (.iload_n 3, 1) := by decide +kernel
theorem dX9_onlyDirection_24 : decode cX9_onlyDirection 24 = .ok (.invokevirtual 128, 3) := by decide +kernel
theorem dX9_onlyDirection_27 : decode cX9_onlyDirection 27 = .ok (.iconst (-1), 1) := by decide +kernel
theorem dX9_onlyDirection_28 : decode cX9_onlyDirection 28 = .ok (.if_icmp .eq 12, 3) := by decide +kernel
theorem dX9_onlyDirection_31 : decode cX9_onlyDirection 31 = .ok (.iload_n 2, 1) := by decide +kernel
theorem dX9_onlyDirection_32 : decode cX9_onlyDirection 32 = .ok (.iconst (-1), 1) := by decide +kernel
theorem dX9_onlyDirection_33 : decode cX9_onlyDirection 33 = .ok (.if_icmp .eq 5, 3) := by decide +kernel
theorem dX9_onlyDirection_36 : decode cX9_onlyDirection 36 = .ok (.iconst (-1), 1) := by decide +kernel
theorem dX9_onlyDirection_37 : decode cX9_onlyDirection 37 = .ok (.ireturn, 1) := by decide +kernel
theorem dX9_onlyDirection_38 : decode cX9_onlyDirection 38 = .ok (.iload_n 3, 1) := by decide +kernel
theorem dX9_onlyDirection_39 : decode cX9_onlyDirection 39 = .ok (.istore_n 2, 1) := by decide +kernel
theorem dX9_onlyDirection_40 : decode cX9_onlyDirection 40 = .ok (.iinc 3 1, 3) := by decide +kernel
theorem dX9_onlyDirection_43 : decode cX9_onlyDirection 43 = .ok (.goto (-39), 3) := by decide +kernel
theorem dX9_onlyDirection_46 : decode cX9_onlyDirection 46 = .ok (.iload_n 2, 1) := by decide +kernel
theorem dX9_onlyDirection_47 : decode cX9_onlyDirection 47 = .ok (.ireturn, 1) := by decide +kernel
theorem dX9_allArriveWith_0 : decode cX9_allArriveWith 0 = .ok (.aload_n 0, 1) := by decide +kernel
theorem dX9_allArriveWith_1 : decode cX9_allArriveWith 1 = .ok (.getfield 28, 3) := by decide +kernel
theorem dX9_allArriveWith_4 : decode cX9_allArriveWith 4 = .ok (.iconst (-1), 1) := by decide +kernel
theorem dX9_allArriveWith_5 : decode cX9_allArriveWith 5 = .ok (.invokestatic 99, 3) := by decide +kernel
theorem dX9_allArriveWith_8 : decode cX9_allArriveWith 8 = .ok (.iconst 0, 1) := by decide +kernel
theorem dX9_allArriveWith_9 : decode cX9_allArriveWith 9 = .ok (.istore_n 2, 1) := by decide +kernel
theorem dX9_allArriveWith_10 : decode cX9_allArriveWith 10 = .ok (.iload_n 2, 1) := by decide +kernel
theorem dX9_allArriveWith_11 : decode cX9_allArriveWith 11 = .ok (.aload_n 0, 1) := by decide +kernel
theorem dX9_allArriveWith_12 : decode cX9_allArriveWith 12 = .ok (.getfield 65, 3) := by decide +kernel
theorem dX9_allArriveWith_15 : decode cX9_allArriveWith 15 = .ok (.getfield 148, 3) := by decide +kernel
theorem dX9_allArriveWith_18 : decode cX9_allArriveWith 18 = .ok (.if_icmp .ge 52, 3) := by decide +kernel
theorem dX9_allArriveWith_21 : decode cX9_allArriveWith 21 = .ok (.iload_n 1, 1) := by decide +kernel
theorem dX9_allArriveWith_22 : decode cX9_allArriveWith 22 = .ok (.iload_n 2, 1) := by decide +kernel
theorem dX9_allArriveWith_23 : decode cX9_allArriveWith 23 = .ok (.ishr, 1) := by decide +kernel
theorem dX9_allArriveWith_24 : decode cX9_allArriveWith 24 = .ok (.iconst 1, 1) := by decide +kernel
theorem dX9_allArriveWith_25 : decode cX9_allArriveWith 25 = .ok (.iand, 1) := by decide +kernel
theorem dX9_allArriveWith_26 : decode cX9_allArriveWith 26 = .ok (.iconst 1, 1) := by decide +kernel
theorem dX9_allArriveWith_27 : decode cX9_allArriveWith 27 = .ok (.if_icmp .ne 37, 3) := by decide +kernel
theorem dX9_allArriveWith_30 : decode cX9_allArriveWith 30 = .ok (.aload_n 0, 1) := by decide +kernel
theorem dX9_allArriveWith_31 : decode cX9_allArriveWith 31 = .ok (.getfield 28, 3) := by decide +kernel
theorem dX9_allArriveWith_34 : decode cX9_allArriveWith 34 = .ok (.aload_n 0, 1) := by decide +kernel
theorem dX9_allArriveWith_35 : decode cX9_allArriveWith 35 = .ok (.getfield 65, 3) := by decide +kernel
theorem dX9_allArriveWith_38 : decode cX9_allArriveWith 38 = .ok (.getfield 151, 3) := by decide +kernel
theorem dX9_allArriveWith_41 : decode cX9_allArriveWith 41 = .ok (.iload_n 2, 1) := by decide +kernel
theorem dX9_allArriveWith_42 : decode cX9_allArriveWith 42 = .ok (.iaload, 1) := by decide +kernel
theorem dX9_allArriveWith_43 : decode cX9_allArriveWith 43 = .ok (.aload_n 0, 1) := by decide +kernel
theorem dX9_allArriveWith_44 : decode cX9_allArriveWith 44 = .ok (.getfield 55, 3) := by decide +kernel
theorem dX9_allArriveWith_47 : decode cX9_allArriveWith 47 = .ok (.aload_n 0, 1) := by decide +kernel
theorem dX9_allArriveWith_48 : decode cX9_allArriveWith 48 = .ok (.getfield 65, 3) := by decide +kernel
theorem dX9_allArriveWith_51 : decode cX9_allArriveWith 51 = .ok (.getfield 151, 3) := by decide +kernel
theorem dX9_allArriveWith_54 : decode cX9_allArriveWith 54 = .ok (.iload_n 2, 1) := by decide +kernel
theorem dX9_allArriveWith_55 : decode cX9_allArriveWith 55 = .ok (.iaload, 1) := by decide +kernel
theorem dX9_allArriveWith_56 : decode cX9_allArriveWith 56 = .ok (.aload_n 0, 1) := by decide +kernel
theorem dX9_allArriveWith_57 : decode cX9_allArriveWith 57 = .ok (.getfield 19, 3) := by decide +kernel
theorem dX9_allArriveWith_60 : decode cX9_allArriveWith 60 = .ok (.invokevirtual 154, 3) := by decide +kernel
theorem dX9_allArriveWith_63 : decode cX9_allArriveWith 63 = .ok (.iastore, 1) := by decide +kernel
theorem dX9_allArriveWith_64 : decode cX9_allArriveWith 64 = .ok (.iinc 2 1, 3) := by decide +kernel
theorem dX9_allArriveWith_67 : decode cX9_allArriveWith 67 = .ok (.goto (-57), 3) := by decide +kernel
theorem dX9_allArriveWith_70 : decode cX9_allArriveWith 70 = .ok (.iconst 0, 1) := by decide +kernel
theorem dX9_allArriveWith_71 : decode cX9_allArriveWith 71 = .ok (.istore_n 2, 1) := by decide +kernel
theorem dX9_allArriveWith_72 : decode cX9_allArriveWith 72 = .ok (.iload_n 2, 1) := by decide +kernel
theorem dX9_allArriveWith_73 : decode cX9_allArriveWith 73 = .ok (.aload_n 0, 1) := by decide +kernel
theorem dX9_allArriveWith_74 : decode cX9_allArriveWith 74 = .ok (.getfield 65, 3) := by decide +kernel
theorem dX9_allArriveWith_77 : decode cX9_allArriveWith 77 = .ok (.getfield 157, 3) := by decide +kernel
theorem dX9_allArriveWith_80 : decode cX9_allArriveWith 80 = .ok (.if_icmp .ge 36, 3) := by decide +kernel
theorem dX9_allArriveWith_83 : decode cX9_allArriveWith 83 = .ok (.aload_n 0, 1) := by decide +kernel
theorem dX9_allArriveWith_84 : decode cX9_allArriveWith 84 = .ok (.getfield 55, 3) := by decide +kernel
theorem dX9_allArriveWith_87 : decode cX9_allArriveWith 87 = .ok (.iload_n 2, 1) := by decide +kernel
theorem dX9_allArriveWith_88 : decode cX9_allArriveWith 88 = .ok (.aload_n 0, 1) := by decide +kernel
theorem dX9_allArriveWith_89 : decode cX9_allArriveWith 89 = .ok (.getfield 19, 3) := by decide +kernel
theorem dX9_allArriveWith_92 : decode cX9_allArriveWith 92 = .ok (.invokevirtual 154, 3) := by decide +kernel
theorem dX9_allArriveWith_95 : decode cX9_allArriveWith 95 = .ok (.iconst (-1), 1) := by decide +kernel
theorem dX9_allArriveWith_96 : decode cX9_allArriveWith 96 = .ok (.if_icmp .eq 14, 3) := by decide +kernel
theorem dX9_allArriveWith_99 : decode cX9_allArriveWith 99 = .ok (.aload_n 0, 1) := by decide +kernel
theorem dX9_allArriveWith_100 : decode cX9_allArriveWith 100 = .ok (.iload_n 2, 1) := by decide +kernel
theorem dX9_allArriveWith_101 : decode cX9_allArriveWith 101 = .ok (.invokevirtual 160, 3) := by decide +kernel
theorem dX9_allArriveWith_104 : decode cX9_allArriveWith 104 = .ok (.iconst 1, 1) := by decide +kernel
theorem dX9_allArriveWith_105 : decode cX9_allArriveWith 105 = .ok (.if_icmp .eq 5, 3) := by decide +kernel
theorem dX9_allArriveWith_108 : decode cX9_allArriveWith 108 = .ok (.iconst 0, 1) := by decide +kernel
theorem dX9_allArriveWith_109 : decode cX9_allArriveWith 109 = .ok (.ireturn, 1) := by decide +kernel
theorem dX9_allArriveWith_110 : decode cX9_allArriveWith 110 = .ok (.iinc 2 1, 3) := by decide +kernel
theorem dX9_allArriveWith_113 : decode cX9_allArriveWith 113 = .ok (.goto (-41), 3) := by decide +kernel
theorem dX9_allArriveWith_116 : decode cX9_allArriveWith 116 = .ok (.iconst 1, 1) := by decide +kernel
theorem dX9_allArriveWith_117 : decode cX9_allArriveWith 117 = .ok (.ireturn, 1) := by decide +kernel
theorem dX10_init_0 : decode cX10_init 0 = .ok (.aload_n 0, 1) := by decide +kernel
theorem dX10_init_1 : decode cX10_init 1 = .ok (.invokespecial 1, 3) := by decide +kernel
theorem dX10_init_4 : decode cX10_init 4 = .ok (.return_, 1) := by decide +kernel
theorem dX10_becomeAs_0 : decode cX10_becomeAs 0 = .ok (.aload_n 0, 1) := by decide +kernel
theorem dX10_becomeAs_1 : decode cX10_becomeAs 1 = .ok (.aload_n 1, 1) := by decide +kernel
theorem dX10_becomeAs_2 : decode cX10_becomeAs 2 = .ok (.getfield 7, 3) := by decide +kernel
theorem dX10_becomeAs_5 : decode cX10_becomeAs 5 = .ok (.putfield 7, 3) := by decide +kernel
theorem dX10_becomeAs_8 : decode cX10_becomeAs 8 = .ok (.aload_n 0, 1) := by decide +kernel
theorem dX10_becomeAs_9 : decode cX10_becomeAs 9 = .ok (.aload_n 1, 1) := by decide +kernel
theorem dX10_becomeAs_10 : decode cX10_becomeAs 10 = .ok (.getfield 13, 3) := by decide +kernel
theorem dX10_becomeAs_13 : decode cX10_becomeAs 13 = .ok (.putfield 13, 3) := by decide +kernel
theorem dX10_becomeAs_16 : decode cX10_becomeAs 16 = .ok (.aload_n 0, 1) := by decide +kernel
theorem dX10_becomeAs_17 : decode cX10_becomeAs 17 = .ok (.aload_n 1, 1) := by decide +kernel
theorem dX10_becomeAs_18 : decode cX10_becomeAs 18 = .ok (.getfield 16, 3) := by decide +kernel
theorem dX10_becomeAs_21 : decode cX10_becomeAs 21 = .ok (.putfield 16, 3) := by decide +kernel
theorem dX10_becomeAs_24 : decode cX10_becomeAs 24 = .ok (.aload_n 0, 1) := by decide +kernel
theorem dX10_becomeAs_25 : decode cX10_becomeAs 25 = .ok (.aload_n 1, 1) := by decide +kernel
theorem dX10_becomeAs_26 : decode cX10_becomeAs 26 = .ok (.getfield 19, 3) := by decide +kernel
theorem dX10_becomeAs_29 : decode cX10_becomeAs 29 = .ok (.putfield 19, 3) := by decide +kernel
theorem dX10_becomeAs_32 : decode cX10_becomeAs 32 = .ok (.aload_n 0, 1) := by decide +kernel
theorem dX10_becomeAs_33 : decode cX10_becomeAs 33 = .ok (.aload_n 1, 1) := by decide +kernel
theorem dX10_becomeAs_34 : decode cX10_becomeAs 34 = .ok (.getfield 22, 3) := by decide +kernel
theorem dX10_becomeAs_37 : decode cX10_becomeAs 37 = .ok (.putfield 22, 3) := by decide +kernel
theorem dX10_becomeAs_40 : decode cX10_becomeAs 40 = .ok (.aload_n 0, 1) := by decide +kernel
theorem dX10_becomeAs_41 : decode cX10_becomeAs 41 = .ok (.aload_n 1, 1) := by decide +kernel
theorem dX10_becomeAs_42 : decode cX10_becomeAs 42 = .ok (.getfield 25, 3) := by decide +kernel
theorem dX10_becomeAs_45 : decode cX10_becomeAs 45 = .ok (.putfield 25, 3) := by decide +kernel
theorem dX10_becomeAs_48 : decode cX10_becomeAs 48 = .ok (.return_, 1) := by decide +kernel
theorem dX10_endFrom_0 : decode cX10_endFrom 0 = .ok (.iload_n 1, 1) := by decide +kernel
theorem dX10_endFrom_1 : decode cX10_endFrom 1 = .ok (.aload_n 0, 1) := by decide +kernel
theorem dX10_endFrom_2 : decode cX10_endFrom 2 = .ok (.getfield 7, 3) := by decide +kernel
theorem dX10_endFrom_5 : decode cX10_endFrom 5 = .ok (.if_icmp .ne 10, 3) := by decide +kernel
theorem dX10_endFrom_8 : decode cX10_endFrom 8 = .ok (.aload_n 0, 1) := by decide +kernel
theorem dX10_endFrom_9 : decode cX10_endFrom 9 = .ok (.getfield 13, 3) := by decide +kernel
theorem dX10_endFrom_12 : decode cX10_endFrom 12 = .ok (.goto 7, 3) := by decide +kernel
theorem dX10_endFrom_15 : decode cX10_endFrom 15 = .ok (.aload_n 0, 1) := by decide +kernel
theorem dX10_endFrom_16 : decode cX10_endFrom 16 = .ok (.getfield 7, 3) := by decide +kernel
theorem dX10_endFrom_19 : decode cX10_endFrom 19 = .ok (.ireturn, 1) := by decide +kernel
theorem dX11_init_0 : decode cX11_init 0 = .ok (.aload_n 0, 1) := by decide +kernel
theorem dX11_init_1 : decode cX11_init 1 = .ok (.invokespecial 3, 3) := by decide +kernel
theorem dX11_init_4 : decode cX11_init 4 = .ok (.aload_n 0, 1) := by decide +kernel
theorem dX11_init_5 : decode cX11_init 5 = .ok (.new 9, 3) := by decide +kernel
theorem dX11_init_8 : decode cX11_init 8 = .ok (.dup, 1) := by decide +kernel
theorem dX11_init_9 : decode cX11_init 9 = .ok (.invokespecial 11, 3) := by decide +kernel
theorem dX11_init_12 : decode cX11_init 12 = .ok (.putfield 12, 3) := by decide +kernel
theorem dX11_init_15 : decode cX11_init 15 = .ok (.aload_n 0, 1) := by decide +kernel
theorem dX11_init_16 : decode cX11_init 16 = .ok (.new 9, 3) := by decide +kernel
theorem dX11_init_19 : decode cX11_init 19 = .ok (.dup, 1) := by decide +kernel
theorem dX11_init_20 : decode cX11_init 20 = .ok (.invokespecial 11, 3) := by decide +kernel
theorem dX11_init_23 : decode cX11_init 23 = .ok (.putfield 16, 3) := by decide +kernel
theorem dX11_init_26 : decode cX11_init 26 = .ok (.aload_n 0, 1) := by decide +kernel
theorem dX11_init_27 : decode cX11_init 27 = .ok (.iconst 0, 1) := by decide +kernel
theorem dX11_init_28 : decode cX11_init 28 = .ok (.putfield 19, 3) := by decide +kernel
theorem dX11_init_31 : decode cX11_init 31 = .ok (.aload_n 0, 1) := by decide +kernel
theorem dX11_init_32 : decode cX11_init 32 = .ok (.iconst 2, 1) := by decide +kernel
theorem dX11_init_33 : decode cX11_init 33 = .ok (.anewarray 23, 3) := by decide +kernel
theorem dX11_init_36 : decode cX11_init 36 = .ok (.dup, 1) := by decide +kernel
theorem dX11_init_37 : decode cX11_init 37 = .ok (.iconst 0, 1) := by decide +kernel
theorem dX11_init_38 : decode cX11_init 38 = .ok (.new 23, 3) := by decide +kernel
theorem dX11_init_41 : decode cX11_init 41 = .ok (.dup, 1) := by decide +kernel
theorem dX11_init_42 : decode cX11_init 42 = .ok (.new 25, 3) := by decide +kernel
theorem dX11_init_45 : decode cX11_init 45 = .ok (.dup, 1) := by decide +kernel
theorem dX11_init_46 : decode cX11_init 46 = .ok (.aload_n 0, 1) := by decide +kernel
theorem dX11_init_47 : decode cX11_init 47 = .ok (.getfield 12, 3) := by decide +kernel
theorem dX11_init_50 : decode cX11_init 50 = .ok (.iconst 0, 1) := by decide +kernel
theorem dX11_init_51 : decode cX11_init 51 = .ok (.invokespecial 27, 3) := by decide +kernel
theorem dX11_init_54 : decode cX11_init 54 = .ok (.invokespecial 30, 3) := by decide +kernel
theorem dX11_init_57 : decode cX11_init 57 = .ok (.aastore, 1) := by decide +kernel
theorem dX11_init_58 : decode cX11_init 58 = .ok (.dup, 1) := by decide +kernel
theorem dX11_init_59 : decode cX11_init 59 = .ok (.iconst 1, 1) := by decide +kernel
theorem dX11_init_60 : decode cX11_init 60 = .ok (.new 23, 3) := by decide +kernel
theorem dX11_init_63 : decode cX11_init 63 = .ok (.dup, 1) := by decide +kernel
theorem dX11_init_64 : decode cX11_init 64 = .ok (.new 25, 3) := by decide +kernel
theorem dX11_init_67 : decode cX11_init 67 = .ok (.dup, 1) := by decide +kernel
theorem dX11_init_68 : decode cX11_init 68 = .ok (.aload_n 0, 1) := by decide +kernel
theorem dX11_init_69 : decode cX11_init 69 = .ok (.getfield 12, 3) := by decide +kernel
theorem dX11_init_72 : decode cX11_init 72 = .ok (.iconst 1, 1) := by decide +kernel
theorem dX11_init_73 : decode cX11_init 73 = .ok (.invokespecial 27, 3) := by decide +kernel
theorem dX11_init_76 : decode cX11_init 76 = .ok (.invokespecial 30, 3) := by decide +kernel
theorem dX11_init_79 : decode cX11_init 79 = .ok (.aastore, 1) := by decide +kernel
theorem dX11_init_80 : decode cX11_init 80 = .ok (.putfield 33, 3) := by decide +kernel
theorem dX11_init_83 : decode cX11_init 83 = .ok (.aload_n 0, 1) := by decide +kernel
theorem dX11_init_84 : decode cX11_init 84 = .ok (.new 37, 3) := by decide +kernel
theorem dX11_init_87 : decode cX11_init 87 = .ok (.dup, 1) := by decide +kernel
theorem dX11_init_88 : decode cX11_init 88 = .ok (.invokespecial 39, 3) := by decide +kernel
theorem dX11_init_91 : decode cX11_init 91 = .ok (.putfield 40, 3) := by decide +kernel
theorem dX11_init_94 : decode cX11_init 94 = .ok (.aload_n 0, 1) := by decide +kernel
theorem dX11_init_95 : decode cX11_init 95 = .ok (.new 44, 3) := by decide +kernel
theorem dX11_init_98 : decode cX11_init 98 = .ok (.dup, 1) := by decide +kernel
theorem dX11_init_99 : decode cX11_init 99 = .ok (.invokespecial 46, 3) := by decide +kernel
theorem dX11_init_102 : decode cX11_init 102 = .ok (.putfield 47, 3) := by decide +kernel
theorem dX11_init_105 : decode cX11_init 105 = .ok (.aload_n 0, 1) := by decide +kernel
theorem dX11_init_106 : decode cX11_init 106 = .ok (.iconst 4, 1) := by decide +kernel
theorem dX11_init_107 : decode cX11_init 107 = .ok (.anewarray 51, 3) := by decide +kernel
theorem dX11_init_110 : decode cX11_init 110 = .ok (.putfield 53, 3) := by decide +kernel
theorem dX11_init_113 : decode cX11_init 113 = .ok (.aload_n 0, 1) := by decide +kernel
theorem dX11_init_114 : decode cX11_init 114 = .ok (.iconst 5, 1) := by decide +kernel
theorem dX11_init_115 : decode cX11_init 115 = .ok (.anewarray 57, 3) := by decide +kernel
theorem dX11_init_118 : decode cX11_init 118 = .ok (.putfield 59, 3) := by decide +kernel
theorem dX11_init_121 : decode cX11_init 121 = .ok (.aload_n 0, 1) := by decide +kernel
theorem dX11_init_122 : decode cX11_init 122 = .ok (.bipush 60, 2) := by decide +kernel
theorem dX11_init_124 : decode cX11_init 124 = .ok (.newarray .int, 2) := by decide +kernel
theorem dX11_init_126 : decode cX11_init 126 = .ok (.putfield 63, 3) := by decide +kernel
theorem dX11_init_129 : decode cX11_init 129 = .ok (.aload_n 0, 1) := by decide +kernel
theorem dX11_init_130 : decode cX11_init 130 = .ok (.iconst 0, 1) := by decide +kernel
theorem dX11_init_131 : decode cX11_init 131 = .ok (.putfield 67, 3) := by decide +kernel
theorem dX11_init_134 : decode cX11_init 134 = .ok (.iconst 0, 1) := by decide +kernel
theorem dX11_init_135 : decode cX11_init 135 = .ok (.istore_n 1, 1) := by decide +kernel
theorem dX11_init_136 : decode cX11_init 136 = .ok (.iload_n 1, 1) := by decide +kernel
theorem dX11_init_137 : decode cX11_init 137 = .ok (.iconst 4, 1) := by decide +kernel
theorem dX11_init_138 : decode cX11_init 138 = .ok (.if_icmp .ge 22, 3) := by decide +kernel
theorem dX11_init_141 : decode cX11_init 141 = .ok (.aload_n 0, 1) := by decide +kernel
theorem dX11_init_142 : decode cX11_init 142 = .ok (.getfield 53, 3) := by decide +kernel
theorem dX11_init_145 : decode cX11_init 145 = .ok (.iload_n 1, 1) := by decide +kernel
theorem dX11_init_146 : decode cX11_init 146 = .ok (.new 51, 3) := by decide +kernel
theorem dX11_init_149 : decode cX11_init 149 = .ok (.dup, 1) := by decide +kernel
theorem dX11_init_150 : decode cX11_init 150 = .ok (.invokespecial 71, 3) := by decide +kernel
theorem dX11_init_153 : decode cX11_init 153 = .ok (.aastore, 1) := by decide +kernel
theorem dX11_init_154 : decode cX11_init 154 = .ok (.iinc 1 1, 3) := by decide +kernel
theorem dX11_init_157 : decode cX11_init 157 = .ok (.goto (-21), 3) := by decide +kernel
theorem dX11_init_160 : decode cX11_init 160 = .ok (.iconst 0, 1) := by decide +kernel
theorem dX11_init_161 : decode cX11_init 161 = .ok (.istore_n 1, 1) := by decide +kernel
theorem dX11_init_162 : decode cX11_init 162 = .ok (.iload_n 1, 1) := by decide +kernel
theorem dX11_init_163 : decode cX11_init 163 = .ok (.iconst 5, 1) := by decide +kernel
theorem dX11_init_164 : decode cX11_init 164 = .ok (.if_icmp .ge 22, 3) := by decide +kernel
theorem dX11_init_167 : decode cX11_init 167 = .ok (.aload_n 0, 1) := by decide +kernel
theorem dX11_init_168 : decode cX11_init 168 = .ok (.getfield 59, 3) := by decide +kernel
theorem dX11_init_171 : decode cX11_init 171 = .ok (.iload_n 1, 1) := by decide +kernel
theorem dX11_init_172 : decode cX11_init 172 = .ok (.new 57, 3) := by decide +kernel
theorem dX11_init_175 : decode cX11_init 175 = .ok (.dup, 1) := by decide +kernel
theorem dX11_init_176 : decode cX11_init 176 = .ok (.invokespecial 72, 3) := by decide +kernel
theorem dX11_init_179 : decode cX11_init 179 = .ok (.aastore, 1) := by decide +kernel
theorem dX11_init_180 : decode cX11_init 180 = .ok (.iinc 1 1, 3) := by decide +kernel
theorem dX11_init_183 : decode cX11_init 183 = .ok (.goto (-21), 3) := by decide +kernel
theorem dX11_init_186 : decode cX11_init 186 = .ok (.return_, 1) := by decide +kernel
theorem dX11_place_0 : decode cX11_place 0 = .ok (.aload_n 0, 1) := by decide +kernel
theorem dX11_place_1 : decode cX11_place 1 = .ok (.getfield 12, 3) := by decide +kernel
theorem dX11_place_4 : decode cX11_place 4 = .ok (.getfield 73, 3) := by decide +kernel
theorem dX11_place_7 : decode cX11_place 7 = .ok (.bipush 12, 2) := by decide +kernel
theorem dX11_place_9 : decode cX11_place 9 = .ok (.if_icmp .lt 6, 3) := by decide +kernel
theorem dX11_place_12 : decode cX11_place 12 = .ok (.ldc 76, 2) := by decide +kernel
theorem dX11_place_14 : decode cX11_place 14 = .ok (.ireturn, 1) := by decide +kernel
theorem dX11_place_15 : decode cX11_place 15 = .ok (.aload_n 0, 1) := by decide +kernel
theorem dX11_place_16 : decode cX11_place 16 = .ok (.getfield 12, 3) := by decide +kernel
theorem dX11_place_19 : decode cX11_place 19 = .ok (.dup, 1) := by decide +kernel
theorem dX11_place_20 : decode cX11_place 20 = .ok (.getfield 73, 3) := by decide +kernel
theorem dX11_place_23 : decode cX11_place 23 = .ok (.dup_x1, 1) := by decide +kernel
theorem dX11_place_24 : decode cX11_place 24 = .ok (.iconst 1, 1) := by decide +kernel
theorem dX11_place_25 : decode cX11_place 25 = .ok (.iadd, 1) := by decide +kernel
theorem dX11_place_26 : decode cX11_place 26 = .ok (.putfield 73, 3) := by decide +kernel
theorem dX11_place_29 : decode cX11_place 29 = .ok (.ireturn, 1) := by decide +kernel
theorem dX11_way_0 : decode cX11_way 0 = .ok (.aload_n 0, 1) := by decide +kernel
theorem dX11_way_1 : decode cX11_way 1 = .ok (.getfield 12, 3) := by decide +kernel
theorem dX11_way_4 : decode cX11_way 4 = .ok (.iload_n 1, 1) := by decide +kernel
theorem dX11_way_5 : decode cX11_way 5 = .ok (.invokevirtual 77, 3) := by decide +kernel
theorem dX11_way_8 : decode cX11_way 8 = .ok (.ifCond .eq 19, 3) := by decide +kernel
theorem dX11_way_11 : decode cX11_way 11 = .ok (.aload_n 0, 1) := by decide +kernel
theorem dX11_way_12 : decode cX11_way 12 = .ok (.getfield 12, 3) := by decide +kernel
theorem dX11_way_15 : decode cX11_way 15 = .ok (.iload_n 2, 1) := by decide +kernel
theorem dX11_way_16 : decode cX11_way 16 = .ok (.invokevirtual 77, 3) := by decide +kernel
theorem dX11_way_19 : decode cX11_way 19 = .ok (.ifCond .eq 8, 3) := by decide +kernel
theorem dX11_way_22 : decode cX11_way 22 = .ok (.iload_n 1, 1) := by decide +kernel
theorem dX11_way_23 : decode cX11_way 23 = .ok (.iload_n 2, 1) := by decide +kernel
theorem dX11_way_24 : decode cX11_way 24 = .ok (.if_icmp .ne 6, 3) := by decide +kernel
theorem dX11_way_27 : decode cX11_way 27 = .ok (.ldc 81, 2) := by decide +kernel
theorem dX11_way_29 : decode cX11_way 29 = .ok (.ireturn, 1) := by decide +kernel
theorem dX11_way_30 : decode cX11_way 30 = .ok (.iload_n 3, 1) := by decide +kernel
theorem dX11_way_31 : decode cX11_way 31 = .ok (.bipush 8, 2) := by decide +kernel
theorem dX11_way_33 : decode cX11_way 33 = .ok (.invokestatic 82, 3) := by decide +kernel
theorem dX11_way_36 : decode cX11_way 36 = .ok (.ifCond .eq 11, 3) := by decide +kernel
theorem dX11_way_39 : decode cX11_way 39 = .ok (.iload 4, 2) := by decide +kernel
theorem dX11_way_41 : decode cX11_way 41 = .ok (.invokestatic 86, 3) := by decide +kernel
theorem dX11_way_44 : decode cX11_way 44 = .ok (.ifCond .ne 6, 3) := by decide +kernel
theorem dX11_way_47 : decode cX11_way 47 = .ok (.ldc 81, 2) := by decide +kernel
theorem dX11_way_49 : decode cX11_way 49 = .ok (.ireturn, 1) := by decide +kernel
theorem dX11_way_50 : decode cX11_way 50 = .ok (.aload_n 0, 1) := by decide +kernel
theorem dX11_way_51 : decode cX11_way 51 = .ok (.getfield 12, 3) := by decide +kernel
theorem dX11_way_54 : decode cX11_way 54 = .ok (.getfield 89, 3) := by decide +kernel
theorem dX11_way_57 : decode cX11_way 57 = .ok (.bipush 20, 2) := by decide +kernel
theorem dX11_way_59 : decode cX11_way 59 = .ok (.if_icmp .lt 6, 3) := by decide +kernel
theorem dX11_way_62 : decode cX11_way 62 = .ok (.ldc 76, 2) := by decide +kernel
theorem dX11_way_64 : decode cX11_way 64 = .ok (.ireturn, 1) := by decide +kernel
theorem dX11_way_65 : decode cX11_way 65 = .ok (.aload_n 0, 1) := by decide +kernel
theorem dX11_way_66 : decode cX11_way 66 = .ok (.getfield 12, 3) := by decide +kernel
theorem dX11_way_69 : decode cX11_way 69 = .ok (.iload_n 1, 1) := by decide +kernel
theorem dX11_way_70 : decode cX11_way 70 = .ok (.iload_n 3, 1) := by decide +kernel
theorem dX11_way_71 : decode cX11_way 71 = .ok (.invokevirtual 92, 3) := by decide +kernel
theorem dX11_way_74 : decode cX11_way 74 = .ok (.iconst (-1), 1) := by decide +kernel
theorem dX11_way_75 : decode cX11_way 75 = .ok (.if_icmp .ne 19, 3) := by decide +kernel
theorem dX11_way_78 : decode cX11_way 78 = .ok (.aload_n 0, 1) := by decide +kernel
theorem dX11_way_79 : decode cX11_way 79 = .ok (.getfield 12, 3) := by decide +kernel
theorem dX11_way_82 : decode cX11_way 82 = .ok (.iload_n 2, 1) := by decide +kernel
theorem dX11_way_83 : decode cX11_way 83 = .ok (.iload_n 3, 1) := by decide +kernel
theorem dX11_way_84 : decode cX11_way 84 = .ok (.invokestatic 96, 3) := by decide +kernel
theorem dX11_way_87 : decode cX11_way 87 = .ok (.invokevirtual 92, 3) := by decide +kernel
theorem dX11_way_90 : decode cX11_way 90 = .ok (.iconst (-1), 1) := by decide +kernel
theorem dX11_way_91 : decode cX11_way 91 = .ok (.if_icmp .eq 6, 3) := by decide +kernel
theorem dX11_way_94 : decode cX11_way 94 = .ok (.ldc 100, 2) := by decide +kernel
theorem dX11_way_96 : decode cX11_way 96 = .ok (.ireturn, 1) := by decide +kernel
theorem dX11_way_97 : decode cX11_way 97 = .ok (.aload_n 0, 1) := by decide +kernel
theorem dX11_way_98 : decode cX11_way 98 = .ok (.getfield 12, 3) := by decide +kernel
theorem dX11_way_101 : decode cX11_way 101 = .ok (.iload_n 1, 1) := by decide +kernel
theorem dX11_way_102 : decode cX11_way 102 = .ok (.iload_n 2, 1) := by decide +kernel
theorem dX11_way_103 : decode cX11_way 103 = .ok (.iload_n 3, 1) := by decide +kernel
theorem dX11_way_104 : decode cX11_way 104 = .ok (.iload 4, 2) := by decide +kernel
theorem dX11_way_106 : decode cX11_way 106 = .ok (.invokevirtual 101, 3) := by decide +kernel
theorem dX11_way_109 : decode cX11_way 109 = .ok (.ireturn, 1) := by decide +kernel
theorem dX11_wayTold_0 : decode cX11_wayTold 0 = .ok (.iload_n 1, 1) := by decide +kernel
theorem dX11_wayTold_1 : decode cX11_wayTold 1 = .ok (.aload_n 0, 1) := by decide +kernel
theorem dX11_wayTold_2 : decode cX11_wayTold 2 = .ok (.getfield 12, 3) := by decide +kernel
theorem dX11_wayTold_5 : decode cX11_wayTold 5 = .ok (.getfield 89, 3) := by decide +kernel
theorem dX11_wayTold_8 : decode cX11_wayTold 8 = .ok (.invokestatic 82, 3) := by decide +kernel
theorem dX11_wayTold_11 : decode cX11_wayTold 11 = .ok (.ifCond .ne 6, 3) := by decide +kernel
theorem dX11_wayTold_14 : decode cX11_wayTold 14 = .ok (.ldc 81, 2) := by decide +kernel
theorem dX11_wayTold_16 : decode cX11_wayTold 16 = .ok (.ireturn, 1) := by decide +kernel
theorem dX11_wayTold_17 : decode cX11_wayTold 17 = .ok (.aload_n 0, 1) := by decide +kernel
theorem dX11_wayTold_18 : decode cX11_wayTold 18 = .ok (.getfield 12, 3) := by decide +kernel
theorem dX11_wayTold_21 : decode cX11_wayTold 21 = .ok (.getfield 105, 3) := by decide +kernel
theorem dX11_wayTold_24 : decode cX11_wayTold 24 = .ok (.iload_n 1, 1) := by decide +kernel
theorem dX11_wayTold_25 : decode cX11_wayTold 25 = .ok (.aaload, 1) := by decide +kernel
theorem dX11_wayTold_26 : decode cX11_wayTold 26 = .ok (.astore_n 3, 1) := by decide +kernel
theorem dX11_wayTold_27 : decode cX11_wayTold 27 = .ok (.iload_n 2, 1) := by decide +kernel
theorem dX11_wayTold_28 : decode cX11_wayTold 28 = .ok (.tableswitch 107 0 7 #[48, 53, 58, 63, 68, 73, 81, 94], 48) := by decide +kernel
theorem dX11_wayTold_76 : decode cX11_wayTold 76 = .ok (.aload_n 3, 1) := by decide +kernel
theorem dX11_wayTold_77 : decode cX11_wayTold 77 = .ok (.getfield 109, 3) := by decide +kernel
theorem dX11_wayTold_80 : decode cX11_wayTold 80 = .ok (.ireturn, 1) := by decide +kernel
theorem dX11_wayTold_81 : decode cX11_wayTold 81 = .ok (.aload_n 3, 1) := by decide +kernel
theorem dX11_wayTold_82 : decode cX11_wayTold 82 = .ok (.getfield 114, 3) := by decide +kernel
theorem dX11_wayTold_85 : decode cX11_wayTold 85 = .ok (.ireturn, 1) := by decide +kernel
theorem dX11_wayTold_86 : decode cX11_wayTold 86 = .ok (.aload_n 3, 1) := by decide +kernel
theorem dX11_wayTold_87 : decode cX11_wayTold 87 = .ok (.getfield 117, 3) := by decide +kernel
theorem dX11_wayTold_90 : decode cX11_wayTold 90 = .ok (.ireturn, 1) := by decide +kernel
theorem dX11_wayTold_91 : decode cX11_wayTold 91 = .ok (.aload_n 3, 1) := by decide +kernel
theorem dX11_wayTold_92 : decode cX11_wayTold 92 = .ok (.getfield 120, 3) := by decide +kernel
theorem dX11_wayTold_95 : decode cX11_wayTold 95 = .ok (.ireturn, 1) := by decide +kernel
theorem dX11_wayTold_96 : decode cX11_wayTold 96 = .ok (.aload_n 3, 1) := by decide +kernel
theorem dX11_wayTold_97 : decode cX11_wayTold 97 = .ok (.getfield 123, 3) := by decide +kernel
theorem dX11_wayTold_100 : decode cX11_wayTold 100 = .ok (.ireturn, 1) := by decide +kernel
theorem dX11_wayTold_101 : decode cX11_wayTold 101 = .ok (.aload_n 3, 1) := by decide +kernel
theorem dX11_wayTold_102 : decode cX11_wayTold 102 = .ok (.getfield 126, 3) := by decide +kernel
theorem dX11_wayTold_105 : decode cX11_wayTold 105 = .ok (.invokestatic 129, 3) := by decide +kernel
theorem dX11_wayTold_108 : decode cX11_wayTold 108 = .ok (.ireturn, 1) := by decide +kernel
theorem dX11_wayTold_109 : decode cX11_wayTold 109 = .ok (.aload_n 0, 1) := by decide +kernel
theorem dX11_wayTold_110 : decode cX11_wayTold 110 = .ok (.getfield 12, 3) := by decide +kernel
theorem dX11_wayTold_113 : decode cX11_wayTold 113 = .ok (.aload_n 3, 1) := by decide +kernel
theorem dX11_wayTold_114 : decode cX11_wayTold 114 = .ok (.iconst 0, 1) := by decide +kernel
theorem dX11_wayTold_115 : decode cX11_wayTold 115 = .ok (.invokevirtual 133, 3) := by decide +kernel
theorem dX11_wayTold_118 : decode cX11_wayTold 118 = .ok (.invokestatic 129, 3) := by decide +kernel
theorem dX11_wayTold_121 : decode cX11_wayTold 121 = .ok (.ireturn, 1) := by decide +kernel
theorem dX11_wayTold_122 : decode cX11_wayTold 122 = .ok (.aload_n 0, 1) := by decide +kernel
theorem dX11_wayTold_123 : decode cX11_wayTold 123 = .ok (.getfield 12, 3) := by decide +kernel
theorem dX11_wayTold_126 : decode cX11_wayTold 126 = .ok (.aload_n 3, 1) := by decide +kernel
theorem dX11_wayTold_127 : decode cX11_wayTold 127 = .ok (.iconst 1, 1) := by decide +kernel
theorem dX11_wayTold_128 : decode cX11_wayTold 128 = .ok (.invokevirtual 133, 3) := by decide +kernel
theorem dX11_wayTold_131 : decode cX11_wayTold 131 = .ok (.invokestatic 129, 3) := by decide +kernel
theorem dX11_wayTold_134 : decode cX11_wayTold 134 = .ok (.ireturn, 1) := by decide +kernel
theorem dX11_wayTold_135 : decode cX11_wayTold 135 = .ok (.ldc 81, 2) := by decide +kernel
theorem dX11_wayTold_137 : decode cX11_wayTold 137 = .ok (.ireturn, 1) := by decide +kernel
theorem dX11_shut_0 : decode cX11_shut 0 = .ok (.iload_n 1, 1) := by decide +kernel
theorem dX11_shut_1 : decode cX11_shut 1 = .ok (.aload_n 0, 1) := by decide +kernel
theorem dX11_shut_2 : decode cX11_shut 2 = .ok (.getfield 12, 3) := by decide +kernel
theorem dX11_shut_5 : decode cX11_shut 5 = .ok (.getfield 89, 3) := by decide +kernel
theorem dX11_shut_8 : decode cX11_shut 8 = .ok (.invokestatic 82, 3) := by decide +kernel
theorem dX11_shut_11 : decode cX11_shut 11 = .ok (.ifCond .ne 6, 3) := by decide +kernel
theorem dX11_shut_14 : decode cX11_shut 14 = .ok (.ldc 81, 2) := by decide +kernel
theorem dX11_shut_16 : decode cX11_shut 16 = .ok (.ireturn, 1) := by decide +kernel
theorem dX11_shut_17 : decode cX11_shut 17 = .ok (.aload_n 0, 1) := by decide +kernel
theorem dX11_shut_18 : decode cX11_shut 18 = .ok (.getfield 12, 3) := by decide +kernel
theorem dX11_shut_21 : decode cX11_shut 21 = .ok (.getfield 105, 3) := by decide +kernel
theorem dX11_shut_24 : decode cX11_shut 24 = .ok (.iload_n 1, 1) := by decide +kernel
theorem dX11_shut_25 : decode cX11_shut 25 = .ok (.aaload, 1) := by decide +kernel
theorem dX11_shut_26 : decode cX11_shut 26 = .ok (.astore_n 3, 1) := by decide +kernel
theorem dX11_shut_27 : decode cX11_shut 27 = .ok (.aload_n 3, 1) := by decide +kernel
theorem dX11_shut_28 : decode cX11_shut 28 = .ok (.getfield 126, 3) := by decide +kernel
theorem dX11_shut_31 : decode cX11_shut 31 = .ok (.iload_n 2, 1) := by decide +kernel
theorem dX11_shut_32 : decode cX11_shut 32 = .ok (.if_icmp .eq 7, 3) := by decide +kernel
theorem dX11_shut_35 : decode cX11_shut 35 = .ok (.iconst 1, 1) := by decide +kernel
theorem dX11_shut_36 : decode cX11_shut 36 = .ok (.goto 4, 3) := by decide +kernel
theorem dX11_shut_39 : decode cX11_shut 39 = .ok (.iconst 0, 1) := by decide +kernel
theorem dX11_shut_40 : decode cX11_shut 40 = .ok (.istore 4, 2) := by decide +kernel
theorem dX11_shut_42 : decode cX11_shut 42 = .ok (.aload_n 3, 1) := by decide +kernel
theorem dX11_shut_43 : decode cX11_shut 43 = .ok (.iload_n 2, 1) := by decide +kernel
theorem dX11_shut_44 : decode cX11_shut 44 = .ok (.putfield 126, 3) := by decide +kernel
theorem dX11_shut_47 : decode cX11_shut 47 = .ok (.iload 4, 2) := by decide +kernel
theorem dX11_shut_49 : decode cX11_shut 49 = .ok (.invokestatic 129, 3) := by decide +kernel
theorem dX11_shut_52 : decode cX11_shut 52 = .ok (.ireturn, 1) := by decide +kernel
theorem dX11_goal_0 : decode cX11_goal 0 = .ok (.aload_n 0, 1) := by decide +kernel
theorem dX11_goal_1 : decode cX11_goal 1 = .ok (.getfield 12, 3) := by decide +kernel
theorem dX11_goal_4 : decode cX11_goal 4 = .ok (.iload_n 1, 1) := by decide +kernel
theorem dX11_goal_5 : decode cX11_goal 5 = .ok (.invokevirtual 77, 3) := by decide +kernel
theorem dX11_goal_8 : decode cX11_goal 8 = .ok (.ifCond .eq 13, 3) := by decide +kernel
theorem dX11_goal_11 : decode cX11_goal 11 = .ok (.iload_n 2, 1) := by decide +kernel
theorem dX11_goal_12 : decode cX11_goal 12 = .ok (.iconst (-1), 1) := by decide +kernel
theorem dX11_goal_13 : decode cX11_goal 13 = .ok (.if_icmp .lt 8, 3) := by decide +kernel
theorem dX11_goal_16 : decode cX11_goal 16 = .ok (.iload_n 2, 1) := by decide +kernel
theorem dX11_goal_17 : decode cX11_goal 17 = .ok (.iconst 4, 1) := by decide +kernel
theorem dX11_goal_18 : decode cX11_goal 18 = .ok (.if_icmp .lt 6, 3) := by decide +kernel
theorem dX11_goal_21 : decode cX11_goal 21 = .ok (.ldc 81, 2) := by decide +kernel
theorem dX11_goal_23 : decode cX11_goal 23 = .ok (.ireturn, 1) := by decide +kernel
theorem dX11_goal_24 : decode cX11_goal 24 = .ok (.aload_n 0, 1) := by decide +kernel
theorem dX11_goal_25 : decode cX11_goal 25 = .ok (.getfield 12, 3) := by decide +kernel
theorem dX11_goal_28 : decode cX11_goal 28 = .ok (.getfield 137, 3) := by decide +kernel
theorem dX11_goal_31 : decode cX11_goal 31 = .ok (.bipush 10, 2) := by decide +kernel
theorem dX11_goal_33 : decode cX11_goal 33 = .ok (.if_icmp .lt 6, 3) := by decide +kernel
theorem dX11_goal_36 : decode cX11_goal 36 = .ok (.ldc 76, 2) := by decide +kernel
theorem dX11_goal_38 : decode cX11_goal 38 = .ok (.ireturn, 1) := by decide +kernel
theorem dX11_goal_39 : decode cX11_goal 39 = .ok (.aload_n 0, 1) := by decide +kernel
theorem dX11_goal_40 : decode cX11_goal 40 = .ok (.getfield 12, 3) := by decide +kernel
theorem dX11_goal_43 : decode cX11_goal 43 = .ok (.getfield 140, 3) := by decide +kernel
theorem dX11_goal_46 : decode cX11_goal 46 = .ok (.aload_n 0, 1) := by decide +kernel
theorem dX11_goal_47 : decode cX11_goal 47 = .ok (.getfield 12, 3) := by decide +kernel
theorem dX11_goal_50 : decode cX11_goal 50 = .ok (.getfield 137, 3) := by decide +kernel
theorem dX11_goal_53 : decode cX11_goal 53 = .ok (.iload_n 1, 1) := by decide +kernel
theorem dX11_goal_54 : decode cX11_goal 54 = .ok (.iastore, 1) := by decide +kernel
theorem dX11_goal_55 : decode cX11_goal 55 = .ok (.aload_n 0, 1) := by decide +kernel
theorem dX11_goal_56 : decode cX11_goal 56 = .ok (.getfield 12, 3) := by decide +kernel
theorem dX11_goal_59 : decode cX11_goal 59 = .ok (.getfield 143, 3) := by decide +kernel
theorem dX11_goal_62 : decode cX11_goal 62 = .ok (.aload_n 0, 1) := by decide +kernel
theorem dX11_goal_63 : decode cX11_goal 63 = .ok (.getfield 12, 3) := by decide +kernel
theorem dX11_goal_66 : decode cX11_goal 66 = .ok (.getfield 137, 3) := by decide +kernel
theorem dX11_goal_69 : decode cX11_goal 69 = .ok (.iload_n 2, 1) := by decide +kernel
theorem dX11_goal_70 : decode cX11_goal 70 = .ok (.iastore, 1) := by decide +kernel
theorem dX11_goal_71 : decode cX11_goal 71 = .ok (.aload_n 0, 1) := by decide +kernel
theorem dX11_goal_72 : decode cX11_goal 72 = .ok (.getfield 12, 3) := by decide +kernel
theorem dX11_goal_75 : decode cX11_goal 75 = .ok (.dup, 1) := by decide +kernel
theorem dX11_goal_76 : decode cX11_goal 76 = .ok (.getfield 137, 3) := by decide +kernel
theorem dX11_goal_79 : decode cX11_goal 79 = .ok (.dup_x1, 1) := by decide +kernel
theorem dX11_goal_80 : decode cX11_goal 80 = .ok (.iconst 1, 1) := by decide +kernel
theorem dX11_goal_81 : decode cX11_goal 81 = .ok (.iadd, 1) := by decide +kernel
theorem dX11_goal_82 : decode cX11_goal 82 = .ok (.putfield 137, 3) := by decide +kernel
theorem dX11_goal_85 : decode cX11_goal 85 = .ok (.ireturn, 1) := by decide +kernel
theorem dX11_goalTold_0 : decode cX11_goalTold 0 = .ok (.aload_n 0, 1) := by decide +kernel
theorem dX11_goalTold_1 : decode cX11_goalTold 1 = .ok (.getfield 12, 3) := by decide +kernel
theorem dX11_goalTold_4 : decode cX11_goalTold 4 = .ok (.iload_n 1, 1) := by decide +kernel
theorem dX11_goalTold_5 : decode cX11_goalTold 5 = .ok (.invokevirtual 146, 3) := by decide +kernel
theorem dX11_goalTold_8 : decode cX11_goalTold 8 = .ok (.ifCond .eq 11, 3) := by decide +kernel
theorem dX11_goalTold_11 : decode cX11_goalTold 11 = .ok (.iload_n 2, 1) := by decide +kernel
theorem dX11_goalTold_12 : decode cX11_goalTold 12 = .ok (.iconst 2, 1) := by decide +kernel
theorem dX11_goalTold_13 : decode cX11_goalTold 13 = .ok (.invokestatic 82, 3) := by decide +kernel
theorem dX11_goalTold_16 : decode cX11_goalTold 16 = .ok (.ifCond .ne 6, 3) := by decide +kernel
theorem dX11_goalTold_19 : decode cX11_goalTold 19 = .ok (.ldc 81, 2) := by decide +kernel
theorem dX11_goalTold_21 : decode cX11_goalTold 21 = .ok (.ireturn, 1) := by decide +kernel
theorem dX11_goalTold_22 : decode cX11_goalTold 22 = .ok (.iload_n 2, 1) := by decide +kernel
theorem dX11_goalTold_23 : decode cX11_goalTold 23 = .ok (.ifCond .ne 15, 3) := by decide +kernel
theorem dX11_goalTold_26 : decode cX11_goalTold 26 = .ok (.aload_n 0, 1) := by decide +kernel
theorem dX11_goalTold_27 : decode cX11_goalTold 27 = .ok (.getfield 12, 3) := by decide +kernel
theorem dX11_goalTold_30 : decode cX11_goalTold 30 = .ok (.getfield 140, 3) := by decide +kernel
theorem dX11_goalTold_33 : decode cX11_goalTold 33 = .ok (.iload_n 1, 1) := by decide +kernel
theorem dX11_goalTold_34 : decode cX11_goalTold 34 = .ok (.iaload, 1) := by decide +kernel
theorem dX11_goalTold_35 : decode cX11_goalTold 35 = .ok (.goto 15, 3) := by decide +kernel
theorem dX11_goalTold_38 : decode cX11_goalTold 38 = .ok (.aload_n 0, 1) := by decide +kernel
theorem dX11_goalTold_39 : decode cX11_goalTold 39 = .ok (.getfield 12, 3) := by decide +kernel
theorem dX11_goalTold_42 : decode cX11_goalTold 42 = .ok (.getfield 143, 3) := by decide +kernel
theorem dX11_goalTold_45 : decode cX11_goalTold 45 = .ok (.iload_n 1, 1) := by decide +kernel
theorem dX11_goalTold_46 : decode cX11_goalTold 46 = .ok (.iaload, 1) := by decide +kernel
theorem dX11_goalTold_47 : decode cX11_goalTold 47 = .ok (.invokestatic 149, 3) := by decide +kernel
theorem dX11_goalTold_50 : decode cX11_goalTold 50 = .ok (.ireturn, 1) := by decide +kernel
theorem dX11_hours_0 : decode cX11_hours 0 = .ok (.iload_n 1, 1) := by decide +kernel
theorem dX11_hours_1 : decode cX11_hours 1 = .ok (.iconst 1, 1) := by decide +kernel
theorem dX11_hours_2 : decode cX11_hours 2 = .ok (.if_icmp .lt 9, 3) := by decide +kernel
theorem dX11_hours_5 : decode cX11_hours 5 = .ok (.iload_n 1, 1) := by decide +kernel
theorem dX11_hours_6 : decode cX11_hours 6 = .ok (.bipush 48, 2) := by decide +kernel
theorem dX11_hours_8 : decode cX11_hours 8 = .ok (.if_icmp .le 6, 3) := by decide +kernel
theorem dX11_hours_11 : decode cX11_hours 11 = .ok (.ldc 81, 2) := by decide +kernel
theorem dX11_hours_13 : decode cX11_hours 13 = .ok (.ireturn, 1) := by decide +kernel
theorem dX11_hours_14 : decode cX11_hours 14 = .ok (.aload_n 0, 1) := by decide +kernel
theorem dX11_hours_15 : decode cX11_hours 15 = .ok (.getfield 12, 3) := by decide +kernel
theorem dX11_hours_18 : decode cX11_hours 18 = .ok (.getfield 152, 3) := by decide +kernel
theorem dX11_hours_21 : decode cX11_hours 21 = .ok (.iload_n 1, 1) := by decide +kernel
theorem dX11_hours_22 : decode cX11_hours 22 = .ok (.iadd, 1) := by decide +kernel
theorem dX11_hours_23 : decode cX11_hours 23 = .ok (.istore_n 2, 1) := by decide +kernel
theorem dX11_hours_24 : decode cX11_hours 24 = .ok (.aload_n 0, 1) := by decide +kernel
theorem dX11_hours_25 : decode cX11_hours 25 = .ok (.getfield 12, 3) := by decide +kernel
theorem dX11_hours_28 : decode cX11_hours 28 = .ok (.getfield 155, 3) := by decide +kernel
theorem dX11_hours_31 : decode cX11_hours 31 = .ok (.iload_n 2, 1) := by decide +kernel
theorem dX11_hours_32 : decode cX11_hours 32 = .ok (.bipush 24, 2) := by decide +kernel
theorem dX11_hours_34 : decode cX11_hours 34 = .ok (.idiv, 1) := by decide +kernel
theorem dX11_hours_35 : decode cX11_hours 35 = .ok (.iadd, 1) := by decide +kernel
theorem dX11_hours_36 : decode cX11_hours 36 = .ok (.istore_n 3, 1) := by decide +kernel
theorem dX11_hours_37 : decode cX11_hours 37 = .ok (.iload_n 3, 1) := by decide +kernel
theorem dX11_hours_38 : decode cX11_hours 38 = .ok (.sipush 999, 3) := by decide +kernel
theorem dX11_hours_41 : decode cX11_hours 41 = .ok (.if_icmp .le 6, 3) := by decide +kernel
theorem dX11_hours_44 : decode cX11_hours 44 = .ok (.ldc 76, 2) := by decide +kernel
theorem dX11_hours_46 : decode cX11_hours 46 = .ok (.ireturn, 1) := by decide +kernel
theorem dX11_hours_47 : decode cX11_hours 47 = .ok (.aload_n 0, 1) := by decide +kernel
theorem dX11_hours_48 : decode cX11_hours 48 = .ok (.getfield 12, 3) := by decide +kernel
theorem dX11_hours_51 : decode cX11_hours 51 = .ok (.iload_n 2, 1) := by decide +kernel
theorem dX11_hours_52 : decode cX11_hours 52 = .ok (.bipush 24, 2) := by decide +kernel
theorem dX11_hours_54 : decode cX11_hours 54 = .ok (.irem, 1) := by decide +kernel
theorem dX11_hours_55 : decode cX11_hours 55 = .ok (.putfield 152, 3) := by decide +kernel
theorem dX11_hours_58 : decode cX11_hours 58 = .ok (.aload_n 0, 1) := by decide +kernel
theorem dX11_hours_59 : decode cX11_hours 59 = .ok (.getfield 12, 3) := by decide +kernel
theorem dX11_hours_62 : decode cX11_hours 62 = .ok (.iload_n 3, 1) := by decide +kernel
theorem dX11_hours_63 : decode cX11_hours 63 = .ok (.putfield 155, 3) := by decide +kernel
theorem dX11_hours_66 : decode cX11_hours 66 = .ok (.aload_n 0, 1) := by decide +kernel
theorem dX11_hours_67 : decode cX11_hours 67 = .ok (.getfield 12, 3) := by decide +kernel
theorem dX11_hours_70 : decode cX11_hours 70 = .ok (.getfield 152, 3) := by decide +kernel
theorem dX11_hours_73 : decode cX11_hours 73 = .ok (.ireturn, 1) := by decide +kernel
theorem dX11_sign_0 : decode cX11_sign 0 = .ok (.aload_n 0, 1) := by decide +kernel
theorem dX11_sign_1 : decode cX11_sign 1 = .ok (.getfield 12, 3) := by decide +kernel
theorem dX11_sign_4 : decode cX11_sign 4 = .ok (.iload_n 1, 1) := by decide +kernel
theorem dX11_sign_5 : decode cX11_sign 5 = .ok (.invokevirtual 77, 3) := by decide +kernel
theorem dX11_sign_8 : decode cX11_sign 8 = .ok (.ifCond .eq 12, 3) := by decide +kernel
theorem dX11_sign_11 : decode cX11_sign 11 = .ok (.iload_n 2, 1) := by decide +kernel
theorem dX11_sign_12 : decode cX11_sign 12 = .ok (.bipush 6, 2) := by decide +kernel
theorem dX11_sign_14 : decode cX11_sign 14 = .ok (.invokestatic 82, 3) := by decide +kernel
theorem dX11_sign_17 : decode cX11_sign 17 = .ok (.ifCond .ne 6, 3) := by decide +kernel
theorem dX11_sign_20 : decode cX11_sign 20 = .ok (.ldc 81, 2) := by decide +kernel
theorem dX11_sign_22 : decode cX11_sign 22 = .ok (.ireturn, 1) := by decide +kernel
theorem dX11_sign_23 : decode cX11_sign 23 = .ok (.iload_n 2, 1) := by decide +kernel
theorem dX11_sign_24 : decode cX11_sign 24 = .ok (.iconst 5, 1) := by decide +kernel
theorem dX11_sign_25 : decode cX11_sign 25 = .ok (.if_icmp .ne 17, 3) := by decide +kernel
theorem dX11_sign_28 : decode cX11_sign 28 = .ok (.iload_n 3, 1) := by decide +kernel
theorem dX11_sign_29 : decode cX11_sign 29 = .ok (.iconst 1, 1) := by decide +kernel
theorem dX11_sign_30 : decode cX11_sign 30 = .ok (.if_icmp .lt 9, 3) := by decide +kernel
theorem dX11_sign_33 : decode cX11_sign 33 = .ok (.iload_n 3, 1) := by decide +kernel
theorem dX11_sign_34 : decode cX11_sign 34 = .ok (.bipush 99, 2) := by decide +kernel
theorem dX11_sign_36 : decode cX11_sign 36 = .ok (.if_icmp .le 6, 3) := by decide +kernel
theorem dX11_sign_39 : decode cX11_sign 39 = .ok (.ldc 81, 2) := by decide +kernel
theorem dX11_sign_41 : decode cX11_sign 41 = .ok (.ireturn, 1) := by decide +kernel
theorem dX11_sign_42 : decode cX11_sign 42 = .ok (.aload_n 0, 1) := by decide +kernel
theorem dX11_sign_43 : decode cX11_sign 43 = .ok (.getfield 12, 3) := by decide +kernel
theorem dX11_sign_46 : decode cX11_sign 46 = .ok (.getfield 158, 3) := by decide +kernel
theorem dX11_sign_49 : decode cX11_sign 49 = .ok (.bipush 14, 2) := by decide +kernel
theorem dX11_sign_51 : decode cX11_sign 51 = .ok (.if_icmp .lt 6, 3) := by decide +kernel
theorem dX11_sign_54 : decode cX11_sign 54 = .ok (.ldc 76, 2) := by decide +kernel
theorem dX11_sign_56 : decode cX11_sign 56 = .ok (.ireturn, 1) := by decide +kernel
theorem dX11_sign_57 : decode cX11_sign 57 = .ok (.aload_n 0, 1) := by decide +kernel
theorem dX11_sign_58 : decode cX11_sign 58 = .ok (.getfield 12, 3) := by decide +kernel
theorem dX11_sign_61 : decode cX11_sign 61 = .ok (.getfield 161, 3) := by decide +kernel
theorem dX11_sign_64 : decode cX11_sign 64 = .ok (.aload_n 0, 1) := by decide +kernel
theorem dX11_sign_65 : decode cX11_sign 65 = .ok (.getfield 12, 3) := by decide +kernel
theorem dX11_sign_68 : decode cX11_sign 68 = .ok (.getfield 158, 3) := by decide +kernel
theorem dX11_sign_71 : decode cX11_sign 71 = .ok (.aaload, 1) := by decide +kernel
theorem dX11_sign_72 : decode cX11_sign 72 = .ok (.iload_n 1, 1) := by decide +kernel
theorem dX11_sign_73 : decode cX11_sign 73 = .ok (.iload_n 2, 1) := by decide +kernel
theorem dX11_sign_74 : decode cX11_sign 74 = .ok (.iload_n 2, 1) := by decide +kernel
theorem dX11_sign_75 : decode cX11_sign 75 = .ok (.iconst 5, 1) := by decide +kernel
theorem dX11_sign_76 : decode cX11_sign 76 = .ok (.if_icmp .ne 15, 3) := by decide +kernel
theorem dX11_sign_79 : decode cX11_sign 79 = .ok (.aload_n 0, 1) := by decide +kernel
theorem dX11_sign_80 : decode cX11_sign 80 = .ok (.getfield 12, 3) := by decide +kernel
theorem dX11_sign_83 : decode cX11_sign 83 = .ok (.getfield 155, 3) := by decide +kernel
theorem dX11_sign_86 : decode cX11_sign 86 = .ok (.iload_n 3, 1) := by decide +kernel
theorem dX11_sign_87 : decode cX11_sign 87 = .ok (.iadd, 1) := by decide +kernel
theorem dX11_sign_88 : decode cX11_sign 88 = .ok (.goto 5, 3) := by decide +kernel
theorem dX11_sign_91 : decode cX11_sign 91 = .ok (.ldc 165, 2) := by decide +kernel
theorem dX11_sign_93 : decode cX11_sign 93 = .ok (.invokevirtual 166, 3) := by decide +kernel
theorem dX11_sign_96 : decode cX11_sign 96 = .ok (.aload_n 0, 1) := by decide +kernel
theorem dX11_sign_97 : decode cX11_sign 97 = .ok (.getfield 40, 3) := by decide +kernel
theorem dX11_sign_100 : decode cX11_sign 100 = .ok (.invokevirtual 172, 3) := by decide +kernel
theorem dX11_sign_103 : decode cX11_sign 103 = .ok (.aload_n 0, 1) := by decide +kernel
theorem dX11_sign_104 : decode cX11_sign 104 = .ok (.getfield 12, 3) := by decide +kernel
theorem dX11_sign_107 : decode cX11_sign 107 = .ok (.dup, 1) := by decide +kernel
theorem dX11_sign_108 : decode cX11_sign 108 = .ok (.getfield 158, 3) := by decide +kernel
theorem dX11_sign_111 : decode cX11_sign 111 = .ok (.dup_x1, 1) := by decide +kernel
theorem dX11_sign_112 : decode cX11_sign 112 = .ok (.iconst 1, 1) := by decide +kernel
theorem dX11_sign_113 : decode cX11_sign 113 = .ok (.iadd, 1) := by decide +kernel
theorem dX11_sign_114 : decode cX11_sign 114 = .ok (.putfield 158, 3) := by decide +kernel
theorem dX11_sign_117 : decode cX11_sign 117 = .ok (.ireturn, 1) := by decide +kernel
theorem dX11_told_0 : decode cX11_told 0 = .ok (.aload_n 0, 1) := by decide +kernel
theorem dX11_told_1 : decode cX11_told 1 = .ok (.getfield 12, 3) := by decide +kernel
theorem dX11_told_4 : decode cX11_told 4 = .ok (.iload_n 1, 1) := by decide +kernel
theorem dX11_told_5 : decode cX11_told 5 = .ok (.invokevirtual 175, 3) := by decide +kernel
theorem dX11_told_8 : decode cX11_told 8 = .ok (.ifCond .ne 6, 3) := by decide +kernel
theorem dX11_told_11 : decode cX11_told 11 = .ok (.ldc 81, 2) := by decide +kernel
theorem dX11_told_13 : decode cX11_told 13 = .ok (.ireturn, 1) := by decide +kernel
theorem dX11_told_14 : decode cX11_told 14 = .ok (.aload_n 0, 1) := by decide +kernel
theorem dX11_told_15 : decode cX11_told 15 = .ok (.getfield 12, 3) := by decide +kernel
theorem dX11_told_18 : decode cX11_told 18 = .ok (.getfield 161, 3) := by decide +kernel
theorem dX11_told_21 : decode cX11_told 21 = .ok (.iload_n 1, 1) := by decide +kernel
theorem dX11_told_22 : decode cX11_told 22 = .ok (.aaload, 1) := by decide +kernel
theorem dX11_told_23 : decode cX11_told 23 = .ok (.astore_n 3, 1) := by decide +kernel
theorem dX11_told_24 : decode cX11_told 24 = .ok (.iload_n 2, 1) := by decide +kernel
theorem dX11_told_25 : decode cX11_told 25 = .ok (.tableswitch 133 0 9 #[55, 60, 65, 70, 78, 86, 98, 110, 115, 120], 55) := by decide +kernel
theorem dX11_told_80 : decode cX11_told 80 = .ok (.aload_n 3, 1) := by decide +kernel
theorem dX11_told_81 : decode cX11_told 81 = .ok (.getfield 178, 3) := by decide +kernel
theorem dX11_told_84 : decode cX11_told 84 = .ok (.ireturn, 1) := by decide +kernel
theorem dX11_told_85 : decode cX11_told 85 = .ok (.aload_n 3, 1) := by decide +kernel
theorem dX11_told_86 : decode cX11_told 86 = .ok (.getfield 181, 3) := by decide +kernel
theorem dX11_told_89 : decode cX11_told 89 = .ok (.ireturn, 1) := by decide +kernel
theorem dX11_told_90 : decode cX11_told 90 = .ok (.aload_n 3, 1) := by decide +kernel
theorem dX11_told_91 : decode cX11_told 91 = .ok (.getfield 184, 3) := by decide +kernel
theorem dX11_told_94 : decode cX11_told 94 = .ok (.ireturn, 1) := by decide +kernel
theorem dX11_told_95 : decode cX11_told 95 = .ok (.aload_n 3, 1) := by decide +kernel
theorem dX11_told_96 : decode cX11_told 96 = .ok (.getfield 181, 3) := by decide +kernel
theorem dX11_told_99 : decode cX11_told 99 = .ok (.invokestatic 187, 3) := by decide +kernel
theorem dX11_told_102 : decode cX11_told 102 = .ok (.ireturn, 1) := by decide +kernel
theorem dX11_told_103 : decode cX11_told 103 = .ok (.aload_n 3, 1) := by decide +kernel
theorem dX11_told_104 : decode cX11_told 104 = .ok (.getfield 181, 3) := by decide +kernel
theorem dX11_told_107 : decode cX11_told 107 = .ok (.invokestatic 190, 3) := by decide +kernel
theorem dX11_told_110 : decode cX11_told 110 = .ok (.ireturn, 1) := by decide +kernel
theorem dX11_told_111 : decode cX11_told 111 = .ok (.aload_n 3, 1) := by decide +kernel
theorem dX11_told_112 : decode cX11_told 112 = .ok (.getfield 181, 3) := by decide +kernel
theorem dX11_told_115 : decode cX11_told 115 = .ok (.aload_n 3, 1) := by decide +kernel
theorem dX11_told_116 : decode cX11_told 116 = .ok (.getfield 184, 3) := by decide +kernel
theorem dX11_told_119 : decode cX11_told 119 = .ok (.invokestatic 193, 3) := by decide +kernel
theorem dX11_told_122 : decode cX11_told 122 = .ok (.ireturn, 1) := by decide +kernel
theorem dX11_told_123 : decode cX11_told 123 = .ok (.aload_n 0, 1) := by decide +kernel
theorem dX11_told_124 : decode cX11_told 124 = .ok (.getfield 12, 3) := by decide +kernel
theorem dX11_told_127 : decode cX11_told 127 = .ok (.aload_n 3, 1) := by decide +kernel
theorem dX11_told_128 : decode cX11_told 128 = .ok (.invokevirtual 196, 3) := by decide +kernel
theorem dX11_told_131 : decode cX11_told 131 = .ok (.invokestatic 129, 3) := by decide +kernel
theorem dX11_told_134 : decode cX11_told 134 = .ok (.ireturn, 1) := by decide +kernel
theorem dX11_told_135 : decode cX11_told 135 = .ok (.aload_n 3, 1) := by decide +kernel
theorem dX11_told_136 : decode cX11_told 136 = .ok (.getfield 200, 3) := by decide +kernel
theorem dX11_told_139 : decode cX11_told 139 = .ok (.ireturn, 1) := by decide +kernel
theorem dX11_told_140 : decode cX11_told 140 = .ok (.aload_n 3, 1) := by decide +kernel
theorem dX11_told_141 : decode cX11_told 141 = .ok (.getfield 203, 3) := by decide +kernel
theorem dX11_told_144 : decode cX11_told 144 = .ok (.ireturn, 1) := by decide +kernel
theorem dX11_told_145 : decode cX11_told 145 = .ok (.aload_n 0, 1) := by decide +kernel
theorem dX11_told_146 : decode cX11_told 146 = .ok (.getfield 12, 3) := by decide +kernel
theorem dX11_told_149 : decode cX11_told 149 = .ok (.aload_n 3, 1) := by decide +kernel
theorem dX11_told_150 : decode cX11_told 150 = .ok (.iconst 0, 1) := by decide +kernel
theorem dX11_told_151 : decode cX11_told 151 = .ok (.invokevirtual 206, 3) := by decide +kernel
theorem dX11_told_154 : decode cX11_told 154 = .ok (.invokestatic 129, 3) := by decide +kernel
theorem dX11_told_157 : decode cX11_told 157 = .ok (.ireturn, 1) := by decide +kernel
theorem dX11_told_158 : decode cX11_told 158 = .ok (.ldc 81, 2) := by decide +kernel
theorem dX11_told_160 : decode cX11_told 160 = .ok (.ireturn, 1) := by decide +kernel
theorem dX11_as_0 : decode cX11_as 0 = .ok (.aload_n 0, 1) := by decide +kernel
theorem dX11_as_1 : decode cX11_as 1 = .ok (.getfield 12, 3) := by decide +kernel
theorem dX11_as_4 : decode cX11_as 4 = .ok (.iload_n 1, 1) := by decide +kernel
theorem dX11_as_5 : decode cX11_as 5 = .ok (.invokevirtual 175, 3) := by decide +kernel
theorem dX11_as_8 : decode cX11_as 8 = .ok (.ifCond .eq 12, 3) := by decide +kernel
theorem dX11_as_11 : decode cX11_as 11 = .ok (.iload_n 2, 1) := by decide +kernel
theorem dX11_as_12 : decode cX11_as 12 = .ok (.bipush 6, 2) := by decide +kernel
theorem dX11_as_14 : decode cX11_as 14 = .ok (.invokestatic 82, 3) := by decide +kernel
theorem dX11_as_17 : decode cX11_as 17 = .ok (.ifCond .ne 6, 3) := by decide +kernel
theorem dX11_as_20 : decode cX11_as 20 = .ok (.ldc 81, 2) := by decide +kernel
theorem dX11_as_22 : decode cX11_as 22 = .ok (.ireturn, 1) := by decide +kernel
theorem dX11_as_23 : decode cX11_as 23 = .ok (.aload_n 0, 1) := by decide +kernel
theorem dX11_as_24 : decode cX11_as 24 = .ok (.getfield 12, 3) := by decide +kernel
theorem dX11_as_27 : decode cX11_as 27 = .ok (.getfield 161, 3) := by decide +kernel
theorem dX11_as_30 : decode cX11_as 30 = .ok (.iload_n 1, 1) := by decide +kernel
theorem dX11_as_31 : decode cX11_as 31 = .ok (.aaload, 1) := by decide +kernel
theorem dX11_as_32 : decode cX11_as 32 = .ok (.astore_n 3, 1) := by decide +kernel
theorem dX11_as_33 : decode cX11_as 33 = .ok (.aload_n 3, 1) := by decide +kernel
theorem dX11_as_34 : decode cX11_as 34 = .ok (.getfield 181, 3) := by decide +kernel
theorem dX11_as_37 : decode cX11_as 37 = .ok (.iload_n 2, 1) := by decide +kernel
theorem dX11_as_38 : decode cX11_as 38 = .ok (.invokestatic 210, 3) := by decide +kernel
theorem dX11_as_41 : decode cX11_as 41 = .ok (.ifCond .eq 10, 3) := by decide +kernel
theorem dX11_as_44 : decode cX11_as 44 = .ok (.aload_n 3, 1) := by decide +kernel
theorem dX11_as_45 : decode cX11_as 45 = .ok (.getfield 184, 3) := by decide +kernel
theorem dX11_as_48 : decode cX11_as 48 = .ok (.goto 5, 3) := by decide +kernel
theorem dX11_as_51 : decode cX11_as 51 = .ok (.ldc 213, 2) := by decide +kernel
theorem dX11_as_53 : decode cX11_as 53 = .ok (.ireturn, 1) := by decide +kernel
theorem dX11_turns_0 : decode cX11_turns 0 = .ok (.aload_n 0, 1) := by decide +kernel
theorem dX11_turns_1 : decode cX11_turns 1 = .ok (.getfield 12, 3) := by decide +kernel
theorem dX11_turns_4 : decode cX11_turns 4 = .ok (.iload_n 1, 1) := by decide +kernel
theorem dX11_turns_5 : decode cX11_turns 5 = .ok (.invokevirtual 175, 3) := by decide +kernel
theorem dX11_turns_8 : decode cX11_turns 8 = .ok (.ifCond .eq 11, 3) := by decide +kernel
theorem dX11_turns_11 : decode cX11_turns 11 = .ok (.iload_n 2, 1) := by decide +kernel
theorem dX11_turns_12 : decode cX11_turns 12 = .ok (.iconst 5, 1) := by decide +kernel
theorem dX11_turns_13 : decode cX11_turns 13 = .ok (.invokestatic 82, 3) := by decide +kernel
theorem dX11_turns_16 : decode cX11_turns 16 = .ok (.ifCond .ne 6, 3) := by decide +kernel
theorem dX11_turns_19 : decode cX11_turns 19 = .ok (.ldc 81, 2) := by decide +kernel
theorem dX11_turns_21 : decode cX11_turns 21 = .ok (.ireturn, 1) := by decide +kernel
theorem dX11_turns_22 : decode cX11_turns 22 = .ok (.aload_n 0, 1) := by decide +kernel
theorem dX11_turns_23 : decode cX11_turns 23 = .ok (.getfield 12, 3) := by decide +kernel
theorem dX11_turns_26 : decode cX11_turns 26 = .ok (.getfield 161, 3) := by decide +kernel
theorem dX11_turns_29 : decode cX11_turns 29 = .ok (.iload_n 1, 1) := by decide +kernel
theorem dX11_turns_30 : decode cX11_turns 30 = .ok (.aaload, 1) := by decide +kernel
theorem dX11_turns_31 : decode cX11_turns 31 = .ok (.astore_n 3, 1) := by decide +kernel
theorem dX11_turns_32 : decode cX11_turns 32 = .ok (.aload_n 3, 1) := by decide +kernel
theorem dX11_turns_33 : decode cX11_turns 33 = .ok (.getfield 181, 3) := by decide +kernel
theorem dX11_turns_36 : decode cX11_turns 36 = .ok (.istore 4, 2) := by decide +kernel
theorem dX11_turns_38 : decode cX11_turns 38 = .ok (.iload 4, 2) := by decide +kernel
theorem dX11_turns_40 : decode cX11_turns 40 = .ok (.iconst 5, 1) := by decide +kernel
theorem dX11_turns_41 : decode cX11_turns 41 = .ok (.if_icmp .ne 6, 3) := by decide +kernel
theorem dX11_turns_44 : decode cX11_turns 44 = .ok (.ldc 100, 2) := by decide +kernel
theorem dX11_turns_46 : decode cX11_turns 46 = .ok (.ireturn, 1) := by decide +kernel
theorem dX11_turns_47 : decode cX11_turns 47 = .ok (.aload_n 3, 1) := by decide +kernel
theorem dX11_turns_48 : decode cX11_turns 48 = .ok (.iload_n 2, 1) := by decide +kernel
theorem dX11_turns_49 : decode cX11_turns 49 = .ok (.putfield 181, 3) := by decide +kernel
theorem dX11_turns_52 : decode cX11_turns 52 = .ok (.iload 4, 2) := by decide +kernel
theorem dX11_turns_54 : decode cX11_turns 54 = .ok (.ireturn, 1) := by decide +kernel
theorem dX11_row_0 : decode cX11_row 0 = .ok (.aload_n 0, 1) := by decide +kernel
theorem dX11_row_1 : decode cX11_row 1 = .ok (.getfield 12, 3) := by decide +kernel
theorem dX11_row_4 : decode cX11_row 4 = .ok (.iload_n 1, 1) := by decide +kernel
theorem dX11_row_5 : decode cX11_row 5 = .ok (.invokevirtual 175, 3) := by decide +kernel
theorem dX11_row_8 : decode cX11_row 8 = .ok (.ifCond .eq 21, 3) := by decide +kernel
theorem dX11_row_11 : decode cX11_row 11 = .ok (.iload_n 2, 1) := by decide +kernel
theorem dX11_row_12 : decode cX11_row 12 = .ok (.bipush 14, 2) := by decide +kernel
theorem dX11_row_14 : decode cX11_row 14 = .ok (.invokestatic 82, 3) := by decide +kernel
theorem dX11_row_17 : decode cX11_row 17 = .ok (.ifCond .eq 12, 3) := by decide +kernel
theorem dX11_row_20 : decode cX11_row 20 = .ok (.iload_n 3, 1) := by decide +kernel
theorem dX11_row_21 : decode cX11_row 21 = .ok (.bipush 8, 2) := by decide +kernel
theorem dX11_row_23 : decode cX11_row 23 = .ok (.invokestatic 82, 3) := by decide +kernel
theorem dX11_row_26 : decode cX11_row 26 = .ok (.ifCond .ne 6, 3) := by decide +kernel
theorem dX11_row_29 : decode cX11_row 29 = .ok (.ldc 81, 2) := by decide +kernel
theorem dX11_row_31 : decode cX11_row 31 = .ok (.ireturn, 1) := by decide +kernel
theorem dX11_row_32 : decode cX11_row 32 = .ok (.aload_n 0, 1) := by decide +kernel
theorem dX11_row_33 : decode cX11_row 33 = .ok (.getfield 12, 3) := by decide +kernel
theorem dX11_row_36 : decode cX11_row 36 = .ok (.getfield 161, 3) := by decide +kernel
theorem dX11_row_39 : decode cX11_row 39 = .ok (.iload_n 1, 1) := by decide +kernel
theorem dX11_row_40 : decode cX11_row 40 = .ok (.aaload, 1) := by decide +kernel
theorem dX11_row_41 : decode cX11_row 41 = .ok (.astore 4, 2) := by decide +kernel
theorem dX11_row_43 : decode cX11_row 43 = .ok (.aload 4, 2) := by decide +kernel
theorem dX11_row_45 : decode cX11_row 45 = .ok (.getfield 184, 3) := by decide +kernel
theorem dX11_row_48 : decode cX11_row 48 = .ok (.aload 4, 2) := by decide +kernel
theorem dX11_row_50 : decode cX11_row 50 = .ok (.getfield 181, 3) := by decide +kernel
theorem dX11_row_53 : decode cX11_row 53 = .ok (.invokestatic 187, 3) := by decide +kernel
theorem dX11_row_56 : decode cX11_row 56 = .ok (.if_icmp .lt 6, 3) := by decide +kernel
theorem dX11_row_59 : decode cX11_row 59 = .ok (.ldc 76, 2) := by decide +kernel
theorem dX11_row_61 : decode cX11_row 61 = .ok (.ireturn, 1) := by decide +kernel
theorem dX11_row_62 : decode cX11_row 62 = .ok (.aload_n 0, 1) := by decide +kernel
theorem dX11_row_63 : decode cX11_row 63 = .ok (.getfield 40, 3) := by decide +kernel
theorem dX11_row_66 : decode cX11_row 66 = .ok (.aload_n 0, 1) := by decide +kernel
theorem dX11_row_67 : decode cX11_row 67 = .ok (.getfield 12, 3) := by decide +kernel
theorem dX11_row_70 : decode cX11_row 70 = .ok (.invokevirtual 214, 3) := by decide +kernel
theorem dX11_row_73 : decode cX11_row 73 = .ok (.aload 4, 2) := by decide +kernel
theorem dX11_row_75 : decode cX11_row 75 = .ok (.iload_n 2, 1) := by decide +kernel
theorem dX11_row_76 : decode cX11_row 76 = .ok (.iload_n 3, 1) := by decide +kernel
theorem dX11_row_77 : decode cX11_row 77 = .ok (.invokevirtual 218, 3) := by decide +kernel
theorem dX11_row_80 : decode cX11_row 80 = .ok (.aload 4, 2) := by decide +kernel
theorem dX11_row_82 : decode cX11_row 82 = .ok (.getfield 184, 3) := by decide +kernel
theorem dX11_row_85 : decode cX11_row 85 = .ok (.ireturn, 1) := by decide +kernel
theorem dX11_rowTold_0 : decode cX11_rowTold 0 = .ok (.aload_n 0, 1) := by decide +kernel
theorem dX11_rowTold_1 : decode cX11_rowTold 1 = .ok (.getfield 12, 3) := by decide +kernel
theorem dX11_rowTold_4 : decode cX11_rowTold 4 = .ok (.iload_n 1, 1) := by decide +kernel
theorem dX11_rowTold_5 : decode cX11_rowTold 5 = .ok (.invokevirtual 175, 3) := by decide +kernel
theorem dX11_rowTold_8 : decode cX11_rowTold 8 = .ok (.ifCond .eq 11, 3) := by decide +kernel
theorem dX11_rowTold_11 : decode cX11_rowTold 11 = .ok (.iload_n 3, 1) := by decide +kernel
theorem dX11_rowTold_12 : decode cX11_rowTold 12 = .ok (.iconst 2, 1) := by decide +kernel
theorem dX11_rowTold_13 : decode cX11_rowTold 13 = .ok (.invokestatic 82, 3) := by decide +kernel
theorem dX11_rowTold_16 : decode cX11_rowTold 16 = .ok (.ifCond .ne 6, 3) := by decide +kernel
theorem dX11_rowTold_19 : decode cX11_rowTold 19 = .ok (.ldc 81, 2) := by decide +kernel
theorem dX11_rowTold_21 : decode cX11_rowTold 21 = .ok (.ireturn, 1) := by decide +kernel
theorem dX11_rowTold_22 : decode cX11_rowTold 22 = .ok (.aload_n 0, 1) := by decide +kernel
theorem dX11_rowTold_23 : decode cX11_rowTold 23 = .ok (.getfield 12, 3) := by decide +kernel
theorem dX11_rowTold_26 : decode cX11_rowTold 26 = .ok (.getfield 161, 3) := by decide +kernel
theorem dX11_rowTold_29 : decode cX11_rowTold 29 = .ok (.iload_n 1, 1) := by decide +kernel
theorem dX11_rowTold_30 : decode cX11_rowTold 30 = .ok (.aaload, 1) := by decide +kernel
theorem dX11_rowTold_31 : decode cX11_rowTold 31 = .ok (.astore 4, 2) := by decide +kernel
theorem dX11_rowTold_33 : decode cX11_rowTold 33 = .ok (.iload_n 2, 1) := by decide +kernel
theorem dX11_rowTold_34 : decode cX11_rowTold 34 = .ok (.aload 4, 2) := by decide +kernel
theorem dX11_rowTold_36 : decode cX11_rowTold 36 = .ok (.getfield 184, 3) := by decide +kernel
theorem dX11_rowTold_39 : decode cX11_rowTold 39 = .ok (.invokestatic 82, 3) := by decide +kernel
theorem dX11_rowTold_42 : decode cX11_rowTold 42 = .ok (.ifCond .ne 6, 3) := by decide +kernel
theorem dX11_rowTold_45 : decode cX11_rowTold 45 = .ok (.ldc 165, 2) := by decide +kernel
theorem dX11_rowTold_47 : decode cX11_rowTold 47 = .ok (.ireturn, 1) := by decide +kernel
theorem dX11_rowTold_48 : decode cX11_rowTold 48 = .ok (.iload_n 3, 1) := by decide +kernel
theorem dX11_rowTold_49 : decode cX11_rowTold 49 = .ok (.ifCond .ne 13, 3) := by decide +kernel
theorem dX11_rowTold_52 : decode cX11_rowTold 52 = .ok (.aload 4, 2) := by decide +kernel
theorem dX11_rowTold_54 : decode cX11_rowTold 54 = .ok (.getfield 222, 3) := by decide +kernel
theorem dX11_rowTold_57 : decode cX11_rowTold 57 = .ok (.iload_n 2, 1) := by decide +kernel
theorem dX11_rowTold_58 : decode cX11_rowTold 58 = .ok (.iaload, 1) := by decide +kernel
theorem dX11_rowTold_59 : decode cX11_rowTold 59 = .ok (.goto 10, 3) := by decide +kernel
theorem dX11_rowTold_62 : decode cX11_rowTold 62 = .ok (.aload 4, 2) := by decide +kernel
theorem dX11_rowTold_64 : decode cX11_rowTold 64 = .ok (.getfield 225, 3) := by decide +kernel
theorem dX11_rowTold_67 : decode cX11_rowTold 67 = .ok (.iload_n 2, 1) := by decide +kernel
theorem dX11_rowTold_68 : decode cX11_rowTold 68 = .ok (.iaload, 1) := by decide +kernel
theorem dX11_rowTold_69 : decode cX11_rowTold 69 = .ok (.ireturn, 1) := by decide +kernel
theorem dX11_drop_0 : decode cX11_drop 0 = .ok (.aload_n 0, 1) := by decide +kernel
theorem dX11_drop_1 : decode cX11_drop 1 = .ok (.getfield 12, 3) := by decide +kernel
theorem dX11_drop_4 : decode cX11_drop 4 = .ok (.iload_n 1, 1) := by decide +kernel
theorem dX11_drop_5 : decode cX11_drop 5 = .ok (.iload_n 2, 1) := by decide +kernel
theorem dX11_drop_6 : decode cX11_drop 6 = .ok (.invokevirtual 228, 3) := by decide +kernel
theorem dX11_drop_9 : decode cX11_drop 9 = .ok (.ifCond .ne 6, 3) := by decide +kernel
theorem dX11_drop_12 : decode cX11_drop 12 = .ok (.ldc 81, 2) := by decide +kernel
theorem dX11_drop_14 : decode cX11_drop 14 = .ok (.ireturn, 1) := by decide +kernel
theorem dX11_drop_15 : decode cX11_drop 15 = .ok (.aload_n 0, 1) := by decide +kernel
theorem dX11_drop_16 : decode cX11_drop 16 = .ok (.getfield 40, 3) := by decide +kernel
theorem dX11_drop_19 : decode cX11_drop 19 = .ok (.aload_n 0, 1) := by decide +kernel
theorem dX11_drop_20 : decode cX11_drop 20 = .ok (.getfield 12, 3) := by decide +kernel
theorem dX11_drop_23 : decode cX11_drop 23 = .ok (.invokevirtual 214, 3) := by decide +kernel
theorem dX11_drop_26 : decode cX11_drop 26 = .ok (.aload_n 0, 1) := by decide +kernel
theorem dX11_drop_27 : decode cX11_drop 27 = .ok (.getfield 12, 3) := by decide +kernel
theorem dX11_drop_30 : decode cX11_drop 30 = .ok (.getfield 161, 3) := by decide +kernel
theorem dX11_drop_33 : decode cX11_drop 33 = .ok (.iload_n 1, 1) := by decide +kernel
theorem dX11_drop_34 : decode cX11_drop 34 = .ok (.aaload, 1) := by decide +kernel
theorem dX11_drop_35 : decode cX11_drop 35 = .ok (.iload_n 2, 1) := by decide +kernel
theorem dX11_drop_36 : decode cX11_drop 36 = .ok (.invokevirtual 231, 3) := by decide +kernel
theorem dX11_drop_39 : decode cX11_drop 39 = .ok (.aload_n 0, 1) := by decide +kernel
theorem dX11_drop_40 : decode cX11_drop 40 = .ok (.getfield 12, 3) := by decide +kernel
theorem dX11_drop_43 : decode cX11_drop 43 = .ok (.getfield 161, 3) := by decide +kernel
theorem dX11_drop_46 : decode cX11_drop 46 = .ok (.iload_n 1, 1) := by decide +kernel
theorem dX11_drop_47 : decode cX11_drop 47 = .ok (.aaload, 1) := by decide +kernel
theorem dX11_drop_48 : decode cX11_drop 48 = .ok (.getfield 184, 3) := by decide +kernel
theorem dX11_drop_51 : decode cX11_drop 51 = .ok (.ireturn, 1) := by decide +kernel
theorem dX11_aim_0 : decode cX11_aim 0 = .ok (.aload_n 0, 1) := by decide +kernel
theorem dX11_aim_1 : decode cX11_aim 1 = .ok (.getfield 12, 3) := by decide +kernel
theorem dX11_aim_4 : decode cX11_aim 4 = .ok (.iload_n 1, 1) := by decide +kernel
theorem dX11_aim_5 : decode cX11_aim 5 = .ok (.iload_n 2, 1) := by decide +kernel
theorem dX11_aim_6 : decode cX11_aim 6 = .ok (.invokevirtual 228, 3) := by decide +kernel
theorem dX11_aim_9 : decode cX11_aim 9 = .ok (.ifCond .eq 12, 3) := by decide +kernel
theorem dX11_aim_12 : decode cX11_aim 12 = .ok (.iload_n 3, 1) := by decide +kernel
theorem dX11_aim_13 : decode cX11_aim 13 = .ok (.bipush 8, 2) := by decide +kernel
theorem dX11_aim_15 : decode cX11_aim 15 = .ok (.invokestatic 82, 3) := by decide +kernel
theorem dX11_aim_18 : decode cX11_aim 18 = .ok (.ifCond .ne 6, 3) := by decide +kernel
theorem dX11_aim_21 : decode cX11_aim 21 = .ok (.ldc 81, 2) := by decide +kernel
theorem dX11_aim_23 : decode cX11_aim 23 = .ok (.ireturn, 1) := by decide +kernel
theorem dX11_aim_24 : decode cX11_aim 24 = .ok (.aload_n 0, 1) := by decide +kernel
theorem dX11_aim_25 : decode cX11_aim 25 = .ok (.getfield 40, 3) := by decide +kernel
theorem dX11_aim_28 : decode cX11_aim 28 = .ok (.aload_n 0, 1) := by decide +kernel
theorem dX11_aim_29 : decode cX11_aim 29 = .ok (.getfield 12, 3) := by decide +kernel
theorem dX11_aim_32 : decode cX11_aim 32 = .ok (.invokevirtual 214, 3) := by decide +kernel
theorem dX11_aim_35 : decode cX11_aim 35 = .ok (.aload_n 0, 1) := by decide +kernel
theorem dX11_aim_36 : decode cX11_aim 36 = .ok (.getfield 12, 3) := by decide +kernel
theorem dX11_aim_39 : decode cX11_aim 39 = .ok (.getfield 161, 3) := by decide +kernel
theorem dX11_aim_42 : decode cX11_aim 42 = .ok (.iload_n 1, 1) := by decide +kernel
theorem dX11_aim_43 : decode cX11_aim 43 = .ok (.aaload, 1) := by decide +kernel
theorem dX11_aim_44 : decode cX11_aim 44 = .ok (.getfield 225, 3) := by decide +kernel
theorem dX11_aim_47 : decode cX11_aim 47 = .ok (.iload_n 2, 1) := by decide +kernel
theorem dX11_aim_48 : decode cX11_aim 48 = .ok (.iaload, 1) := by decide +kernel
theorem dX11_aim_49 : decode cX11_aim 49 = .ok (.istore 4, 2) := by decide +kernel
theorem dX11_aim_51 : decode cX11_aim 51 = .ok (.aload_n 0, 1) := by decide +kernel
theorem dX11_aim_52 : decode cX11_aim 52 = .ok (.getfield 12, 3) := by decide +kernel
theorem dX11_aim_55 : decode cX11_aim 55 = .ok (.getfield 161, 3) := by decide +kernel
theorem dX11_aim_58 : decode cX11_aim 58 = .ok (.iload_n 1, 1) := by decide +kernel
theorem dX11_aim_59 : decode cX11_aim 59 = .ok (.aaload, 1) := by decide +kernel
theorem dX11_aim_60 : decode cX11_aim 60 = .ok (.getfield 225, 3) := by decide +kernel
theorem dX11_aim_63 : decode cX11_aim 63 = .ok (.iload_n 2, 1) := by decide +kernel
theorem dX11_aim_64 : decode cX11_aim 64 = .ok (.iload_n 3, 1) := by decide +kernel
theorem dX11_aim_65 : decode cX11_aim 65 = .ok (.iastore, 1) := by decide +kernel
theorem dX11_aim_66 : decode cX11_aim 66 = .ok (.iload 4, 2) := by decide +kernel
theorem dX11_aim_68 : decode cX11_aim 68 = .ok (.ireturn, 1) := by decide +kernel
theorem dX11_undo_0 : decode cX11_undo 0 = .ok (.aload_n 0, 1) := by decide +kernel
theorem dX11_undo_1 : decode cX11_undo 1 = .ok (.getfield 40, 3) := by decide +kernel
theorem dX11_undo_4 : decode cX11_undo 4 = .ok (.getfield 235, 3) := by decide +kernel
theorem dX11_undo_7 : decode cX11_undo 7 = .ok (.ifCond .ne 6, 3) := by decide +kernel
theorem dX11_undo_10 : decode cX11_undo 10 = .ok (.ldc 100, 2) := by decide +kernel
theorem dX11_undo_12 : decode cX11_undo 12 = .ok (.ireturn, 1) := by decide +kernel
theorem dX11_undo_13 : decode cX11_undo 13 = .ok (.aload_n 0, 1) := by decide +kernel
theorem dX11_undo_14 : decode cX11_undo 14 = .ok (.getfield 40, 3) := by decide +kernel
theorem dX11_undo_17 : decode cX11_undo 17 = .ok (.aload_n 0, 1) := by decide +kernel
theorem dX11_undo_18 : decode cX11_undo 18 = .ok (.getfield 12, 3) := by decide +kernel
theorem dX11_undo_21 : decode cX11_undo 21 = .ok (.invokevirtual 238, 3) := by decide +kernel
theorem dX11_undo_24 : decode cX11_undo 24 = .ok (.aload_n 0, 1) := by decide +kernel
theorem dX11_undo_25 : decode cX11_undo 25 = .ok (.getfield 40, 3) := by decide +kernel
theorem dX11_undo_28 : decode cX11_undo 28 = .ok (.getfield 235, 3) := by decide +kernel
theorem dX11_undo_31 : decode cX11_undo 31 = .ok (.ireturn, 1) := by decide +kernel
theorem dX11_feed_0 : decode cX11_feed 0 = .ok (.aload_n 0, 1) := by decide +kernel
theorem dX11_feed_1 : decode cX11_feed 1 = .ok (.getfield 47, 3) := by decide +kernel
theorem dX11_feed_4 : decode cX11_feed 4 = .ok (.getfield 241, 3) := by decide +kernel
theorem dX11_feed_7 : decode cX11_feed 7 = .ok (.bipush 12, 2) := by decide +kernel
theorem dX11_feed_9 : decode cX11_feed 9 = .ok (.iadd, 1) := by decide +kernel
theorem dX11_feed_10 : decode cX11_feed 10 = .ok (.bipush 96, 2) := by decide +kernel
theorem dX11_feed_12 : decode cX11_feed 12 = .ok (.if_icmp .le 6, 3) := by decide +kernel
theorem dX11_feed_15 : decode cX11_feed 15 = .ok (.ldc 76, 2) := by decide +kernel
theorem dX11_feed_17 : decode cX11_feed 17 = .ok (.ireturn, 1) := by decide +kernel
theorem dX11_feed_18 : decode cX11_feed 18 = .ok (.aload_n 0, 1) := by decide +kernel
theorem dX11_feed_19 : decode cX11_feed 19 = .ok (.getfield 47, 3) := by decide +kernel
theorem dX11_feed_22 : decode cX11_feed 22 = .ok (.iload_n 1, 1) := by decide +kernel
theorem dX11_feed_23 : decode cX11_feed 23 = .ok (.invokevirtual 244, 3) := by decide +kernel
theorem dX11_feed_26 : decode cX11_feed 26 = .ok (.aload_n 0, 1) := by decide +kernel
theorem dX11_feed_27 : decode cX11_feed 27 = .ok (.getfield 47, 3) := by decide +kernel
theorem dX11_feed_30 : decode cX11_feed 30 = .ok (.iload_n 2, 1) := by decide +kernel
theorem dX11_feed_31 : decode cX11_feed 31 = .ok (.invokevirtual 244, 3) := by decide +kernel
theorem dX11_feed_34 : decode cX11_feed 34 = .ok (.aload_n 0, 1) := by decide +kernel
theorem dX11_feed_35 : decode cX11_feed 35 = .ok (.getfield 47, 3) := by decide +kernel
theorem dX11_feed_38 : decode cX11_feed 38 = .ok (.iload_n 3, 1) := by decide +kernel
theorem dX11_feed_39 : decode cX11_feed 39 = .ok (.invokevirtual 244, 3) := by decide +kernel
theorem dX11_feed_42 : decode cX11_feed 42 = .ok (.aload_n 0, 1) := by decide +kernel
theorem dX11_feed_43 : decode cX11_feed 43 = .ok (.getfield 47, 3) := by decide +kernel
theorem dX11_feed_46 : decode cX11_feed 46 = .ok (.getfield 241, 3) := by decide +kernel
theorem dX11_feed_49 : decode cX11_feed 49 = .ok (.ireturn, 1) := by decide +kernel
theorem dX11_trim_0 : decode cX11_trim 0 = .ok (.iload_n 1, 1) := by decide +kernel
theorem dX11_trim_1 : decode cX11_trim 1 = .ok (.ifCond .lt 14, 3) := by decide +kernel
theorem dX11_trim_4 : decode cX11_trim 4 = .ok (.iload_n 1, 1) := by decide +kernel
theorem dX11_trim_5 : decode cX11_trim 5 = .ok (.aload_n 0, 1) := by decide +kernel
theorem dX11_trim_6 : decode cX11_trim 6 = .ok (.getfield 47, 3) := by decide +kernel
theorem dX11_trim_9 : decode cX11_trim 9 = .ok (.getfield 241, 3) := by decide +kernel
theorem dX11_trim_12 : decode cX11_trim 12 = .ok (.if_icmp .le 6, 3) := by decide +kernel
theorem dX11_trim_15 : decode cX11_trim 15 = .ok (.ldc 81, 2) := by decide +kernel
theorem dX11_trim_17 : decode cX11_trim 17 = .ok (.ireturn, 1) := by decide +kernel
theorem dX11_trim_18 : decode cX11_trim 18 = .ok (.aload_n 0, 1) := by decide +kernel
theorem dX11_trim_19 : decode cX11_trim 19 = .ok (.getfield 47, 3) := by decide +kernel
theorem dX11_trim_22 : decode cX11_trim 22 = .ok (.iload_n 1, 1) := by decide +kernel
theorem dX11_trim_23 : decode cX11_trim 23 = .ok (.putfield 241, 3) := by decide +kernel
theorem dX11_trim_26 : decode cX11_trim 26 = .ok (.iload_n 1, 1) := by decide +kernel
theorem dX11_trim_27 : decode cX11_trim 27 = .ok (.ireturn, 1) := by decide +kernel
theorem dX11_text_0 : decode cX11_text 0 = .ok (.aload_n 0, 1) := by decide +kernel
theorem dX11_text_1 : decode cX11_text 1 = .ok (.getfield 47, 3) := by decide +kernel
theorem dX11_text_4 : decode cX11_text 4 = .ok (.invokevirtual 247, 3) := by decide +kernel
theorem dX11_text_7 : decode cX11_text 7 = .ok (.istore_n 1, 1) := by decide +kernel
theorem dX11_text_8 : decode cX11_text 8 = .ok (.iload_n 1, 1) := by decide +kernel
theorem dX11_text_9 : decode cX11_text 9 = .ok (.iconst (-1), 1) := by decide +kernel
theorem dX11_text_10 : decode cX11_text 10 = .ok (.if_icmp .eq 8, 3) := by decide +kernel
theorem dX11_text_13 : decode cX11_text 13 = .ok (.bipush (-100), 2) := by decide +kernel
theorem dX11_text_15 : decode cX11_text 15 = .ok (.iload_n 1, 1) := by decide +kernel
theorem dX11_text_16 : decode cX11_text 16 = .ok (.isub, 1) := by decide +kernel
theorem dX11_text_17 : decode cX11_text 17 = .ok (.ireturn, 1) := by decide +kernel
theorem dX11_text_18 : decode cX11_text 18 = .ok (.aload_n 0, 1) := by decide +kernel
theorem dX11_text_19 : decode cX11_text 19 = .ok (.getfield 12, 3) := by decide +kernel
theorem dX11_text_22 : decode cX11_text 22 = .ok (.getfield 251, 3) := by decide +kernel
theorem dX11_text_25 : decode cX11_text 25 = .ok (.bipush 14, 2) := by decide +kernel
theorem dX11_text_27 : decode cX11_text 27 = .ok (.if_icmp .lt 6, 3) := by decide +kernel
theorem dX11_text_30 : decode cX11_text 30 = .ok (.ldc 76, 2) := by decide +kernel
theorem dX11_text_32 : decode cX11_text 32 = .ok (.ireturn, 1) := by decide +kernel
theorem dX11_text_33 : decode cX11_text 33 = .ok (.aload_n 0, 1) := by decide +kernel
theorem dX11_text_34 : decode cX11_text 34 = .ok (.getfield 47, 3) := by decide +kernel
theorem dX11_text_37 : decode cX11_text 37 = .ok (.invokevirtual 254, 3) := by decide +kernel
theorem dX11_text_40 : decode cX11_text 40 = .ok (.astore_n 2, 1) := by decide +kernel
theorem dX11_text_41 : decode cX11_text 41 = .ok (.aload_n 0, 1) := by decide +kernel
theorem dX11_text_42 : decode cX11_text 42 = .ok (.getfield 12, 3) := by decide +kernel
theorem dX11_text_45 : decode cX11_text 45 = .ok (.getfield 258, 3) := by decide +kernel
theorem dX11_text_48 : decode cX11_text 48 = .ok (.aload_n 0, 1) := by decide +kernel
theorem dX11_text_49 : decode cX11_text 49 = .ok (.getfield 12, 3) := by decide +kernel
theorem dX11_text_52 : decode cX11_text 52 = .ok (.getfield 251, 3) := by decide +kernel
theorem dX11_text_55 : decode cX11_text 55 = .ok (.aload_n 2, 1) := by decide +kernel
theorem dX11_text_56 : decode cX11_text 56 = .ok (.aastore, 1) := by decide +kernel
theorem dX11_text_57 : decode cX11_text 57 = .ok (.aload_n 0, 1) := by decide +kernel
theorem dX11_text_58 : decode cX11_text 58 = .ok (.getfield 12, 3) := by decide +kernel
theorem dX11_text_61 : decode cX11_text 61 = .ok (.getfield 262, 3) := by decide +kernel
theorem dX11_text_64 : decode cX11_text 64 = .ok (.aload_n 2, 1) := by decide +kernel
theorem dX11_text_65 : decode cX11_text 65 = .ok (.getfield 265, 3) := by decide +kernel
theorem dX11_text_68 : decode cX11_text 68 = .ok (.aload_n 0, 1) := by decide +kernel
theorem dX11_text_69 : decode cX11_text 69 = .ok (.getfield 12, 3) := by decide +kernel
theorem dX11_text_72 : decode cX11_text 72 = .ok (.getfield 251, 3) := by decide +kernel
theorem dX11_text_75 : decode cX11_text 75 = .ok (.iastore, 1) := by decide +kernel
theorem dX11_text_76 : decode cX11_text 76 = .ok (.aload_n 0, 1) := by decide +kernel
theorem dX11_text_77 : decode cX11_text 77 = .ok (.getfield 12, 3) := by decide +kernel
theorem dX11_text_80 : decode cX11_text 80 = .ok (.dup, 1) := by decide +kernel
theorem dX11_text_81 : decode cX11_text 81 = .ok (.getfield 251, 3) := by decide +kernel
theorem dX11_text_84 : decode cX11_text 84 = .ok (.dup_x1, 1) := by decide +kernel
theorem dX11_text_85 : decode cX11_text 85 = .ok (.iconst 1, 1) := by decide +kernel
theorem dX11_text_86 : decode cX11_text 86 = .ok (.iadd, 1) := by decide +kernel
theorem dX11_text_87 : decode cX11_text 87 = .ok (.putfield 251, 3) := by decide +kernel
theorem dX11_text_90 : decode cX11_text 90 = .ok (.ireturn, 1) := by decide +kernel
theorem dX11_textTold_0 : decode cX11_textTold 0 = .ok (.iload_n 1, 1) := by decide +kernel
theorem dX11_textTold_1 : decode cX11_textTold 1 = .ok (.aload_n 0, 1) := by decide +kernel
theorem dX11_textTold_2 : decode cX11_textTold 2 = .ok (.getfield 12, 3) := by decide +kernel
theorem dX11_textTold_5 : decode cX11_textTold 5 = .ok (.getfield 251, 3) := by decide +kernel
theorem dX11_textTold_8 : decode cX11_textTold 8 = .ok (.invokestatic 82, 3) := by decide +kernel
theorem dX11_textTold_11 : decode cX11_textTold 11 = .ok (.ifCond .eq 11, 3) := by decide +kernel
theorem dX11_textTold_14 : decode cX11_textTold 14 = .ok (.iload_n 2, 1) := by decide +kernel
theorem dX11_textTold_15 : decode cX11_textTold 15 = .ok (.iconst 2, 1) := by decide +kernel
theorem dX11_textTold_16 : decode cX11_textTold 16 = .ok (.invokestatic 82, 3) := by decide +kernel
theorem dX11_textTold_19 : decode cX11_textTold 19 = .ok (.ifCond .ne 6, 3) := by decide +kernel
theorem dX11_textTold_22 : decode cX11_textTold 22 = .ok (.ldc 81, 2) := by decide +kernel
theorem dX11_textTold_24 : decode cX11_textTold 24 = .ok (.ireturn, 1) := by decide +kernel
theorem dX11_textTold_25 : decode cX11_textTold 25 = .ok (.aload_n 0, 1) := by decide +kernel
theorem dX11_textTold_26 : decode cX11_textTold 26 = .ok (.getfield 12, 3) := by decide +kernel
theorem dX11_textTold_29 : decode cX11_textTold 29 = .ok (.getfield 258, 3) := by decide +kernel
theorem dX11_textTold_32 : decode cX11_textTold 32 = .ok (.iload_n 1, 1) := by decide +kernel
theorem dX11_textTold_33 : decode cX11_textTold 33 = .ok (.aaload, 1) := by decide +kernel
theorem dX11_textTold_34 : decode cX11_textTold 34 = .ok (.astore_n 3, 1) := by decide +kernel
theorem dX11_textTold_35 : decode cX11_textTold 35 = .ok (.aload_n 3, 1) := by decide +kernel
theorem dX11_textTold_36 : decode cX11_textTold 36 = .ok (.ifnonnull 6, 3) := by decide +kernel
theorem dX11_textTold_39 : decode cX11_textTold 39 = .ok (.ldc 81, 2) := by decide +kernel
theorem dX11_textTold_41 : decode cX11_textTold 41 = .ok (.ireturn, 1) := by decide +kernel
theorem dX11_textTold_42 : decode cX11_textTold 42 = .ok (.iload_n 2, 1) := by decide +kernel
theorem dX11_textTold_43 : decode cX11_textTold 43 = .ok (.ifCond .ne 10, 3) := by decide +kernel
theorem dX11_textTold_46 : decode cX11_textTold 46 = .ok (.aload_n 3, 1) := by decide +kernel
theorem dX11_textTold_47 : decode cX11_textTold 47 = .ok (.getfield 265, 3) := by decide +kernel
theorem dX11_textTold_50 : decode cX11_textTold 50 = .ok (.goto 7, 3) := by decide +kernel
theorem dX11_textTold_53 : decode cX11_textTold 53 = .ok (.aload_n 3, 1) := by decide +kernel
theorem dX11_textTold_54 : decode cX11_textTold 54 = .ok (.getfield 270, 3) := by decide +kernel
theorem dX11_textTold_57 : decode cX11_textTold 57 = .ok (.ireturn, 1) := by decide +kernel
theorem dX11_why_0 : decode cX11_why 0 = .ok (.iload_n 1, 1) := by decide +kernel
theorem dX11_why_1 : decode cX11_why 1 = .ok (.iconst 3, 1) := by decide +kernel
theorem dX11_why_2 : decode cX11_why 2 = .ok (.invokestatic 82, 3) := by decide +kernel
theorem dX11_why_5 : decode cX11_why 5 = .ok (.ifCond .eq 18, 3) := by decide +kernel
theorem dX11_why_8 : decode cX11_why 8 = .ok (.aload_n 0, 1) := by decide +kernel
theorem dX11_why_9 : decode cX11_why 9 = .ok (.getfield 12, 3) := by decide +kernel
theorem dX11_why_12 : decode cX11_why 12 = .ok (.getfield 262, 3) := by decide +kernel
theorem dX11_why_15 : decode cX11_why 15 = .ok (.iload_n 1, 1) := by decide +kernel
theorem dX11_why_16 : decode cX11_why 16 = .ok (.iaload, 1) := by decide +kernel
theorem dX11_why_17 : decode cX11_why 17 = .ok (.invokestatic 149, 3) := by decide +kernel
theorem dX11_why_20 : decode cX11_why 20 = .ok (.goto 5, 3) := by decide +kernel
theorem dX11_why_23 : decode cX11_why 23 = .ok (.ldc 81, 2) := by decide +kernel
theorem dX11_why_25 : decode cX11_why 25 = .ok (.ireturn, 1) := by decide +kernel
theorem dX11_walk_0 : decode cX11_walk 0 = .ok (.aload_n 0, 1) := by decide +kernel
theorem dX11_walk_1 : decode cX11_walk 1 = .ok (.iload_n 1, 1) := by decide +kernel
theorem dX11_walk_2 : decode cX11_walk 2 = .ok (.iload_n 2, 1) := by decide +kernel
theorem dX11_walk_3 : decode cX11_walk 3 = .ok (.iload_n 3, 1) := by decide +kernel
theorem dX11_walk_4 : decode cX11_walk 4 = .ok (.invokevirtual 273, 3) := by decide +kernel
theorem dX11_walk_7 : decode cX11_walk 7 = .ok (.ifCond .eq 12, 3) := by decide +kernel
theorem dX11_walk_10 : decode cX11_walk 10 = .ok (.iload 4, 2) := by decide +kernel
theorem dX11_walk_12 : decode cX11_walk 12 = .ok (.iconst 5, 1) := by decide +kernel
theorem dX11_walk_13 : decode cX11_walk 13 = .ok (.invokestatic 82, 3) := by decide +kernel
theorem dX11_walk_16 : decode cX11_walk 16 = .ok (.ifCond .ne 6, 3) := by decide +kernel
theorem dX11_walk_19 : decode cX11_walk 19 = .ok (.ldc 81, 2) := by decide +kernel
theorem dX11_walk_21 : decode cX11_walk 21 = .ok (.ireturn, 1) := by decide +kernel
theorem dX11_walk_22 : decode cX11_walk 22 = .ok (.aload_n 0, 1) := by decide +kernel
theorem dX11_walk_23 : decode cX11_walk 23 = .ok (.iload_n 1, 1) := by decide +kernel
theorem dX11_walk_24 : decode cX11_walk 24 = .ok (.iload_n 2, 1) := by decide +kernel
theorem dX11_walk_25 : decode cX11_walk 25 = .ok (.iload_n 3, 1) := by decide +kernel
theorem dX11_walk_26 : decode cX11_walk 26 = .ok (.invokevirtual 277, 3) := by decide +kernel
theorem dX11_walk_29 : decode cX11_walk 29 = .ok (.astore 5, 2) := by decide +kernel
theorem dX11_walk_31 : decode cX11_walk 31 = .ok (.iload 4, 2) := by decide +kernel
theorem dX11_walk_33 : decode cX11_walk 33 = .ok (.tableswitch 55 0 3 #[31, 37, 43, 49], 31) := by decide +kernel
theorem dX11_walk_64 : decode cX11_walk 64 = .ok (.aload 5, 2) := by decide +kernel
theorem dX11_walk_66 : decode cX11_walk 66 = .ok (.getfield 281, 3) := by decide +kernel
theorem dX11_walk_69 : decode cX11_walk 69 = .ok (.ireturn, 1) := by decide +kernel
theorem dX11_walk_70 : decode cX11_walk 70 = .ok (.aload 5, 2) := by decide +kernel
theorem dX11_walk_72 : decode cX11_walk 72 = .ok (.getfield 284, 3) := by decide +kernel
theorem dX11_walk_75 : decode cX11_walk 75 = .ok (.ireturn, 1) := by decide +kernel
theorem dX11_walk_76 : decode cX11_walk 76 = .ok (.aload 5, 2) := by decide +kernel
theorem dX11_walk_78 : decode cX11_walk 78 = .ok (.getfield 285, 3) := by decide +kernel
theorem dX11_walk_81 : decode cX11_walk 81 = .ok (.ireturn, 1) := by decide +kernel
theorem dX11_walk_82 : decode cX11_walk 82 = .ok (.aload 5, 2) := by decide +kernel
theorem dX11_walk_84 : decode cX11_walk 84 = .ok (.getfield 288, 3) := by decide +kernel
theorem dX11_walk_87 : decode cX11_walk 87 = .ok (.ireturn, 1) := by decide +kernel
theorem dX11_walk_88 : decode cX11_walk 88 = .ok (.aload 5, 2) := by decide +kernel
theorem dX11_walk_90 : decode cX11_walk 90 = .ok (.getfield 291, 3) := by decide +kernel
theorem dX11_walk_93 : decode cX11_walk 93 = .ok (.invokestatic 149, 3) := by decide +kernel
theorem dX11_walk_96 : decode cX11_walk 96 = .ok (.ireturn, 1) := by decide +kernel
theorem dX11_via_0 : decode cX11_via 0 = .ok (.aload_n 0, 1) := by decide +kernel
theorem dX11_via_1 : decode cX11_via 1 = .ok (.iload_n 1, 1) := by decide +kernel
theorem dX11_via_2 : decode cX11_via 2 = .ok (.iload_n 2, 1) := by decide +kernel
theorem dX11_via_3 : decode cX11_via 3 = .ok (.iload_n 3, 1) := by decide +kernel
theorem dX11_via_4 : decode cX11_via 4 = .ok (.invokevirtual 273, 3) := by decide +kernel
theorem dX11_via_7 : decode cX11_via 7 = .ok (.ifCond .eq 8, 3) := by decide +kernel
theorem dX11_via_10 : decode cX11_via 10 = .ok (.iload 4, 2) := by decide +kernel
theorem dX11_via_12 : decode cX11_via 12 = .ok (.ifCond .ge 6, 3) := by decide +kernel
theorem dX11_via_15 : decode cX11_via 15 = .ok (.ldc 81, 2) := by decide +kernel
theorem dX11_via_17 : decode cX11_via 17 = .ok (.ireturn, 1) := by decide +kernel
theorem dX11_via_18 : decode cX11_via 18 = .ok (.aload_n 0, 1) := by decide +kernel
theorem dX11_via_19 : decode cX11_via 19 = .ok (.iload_n 1, 1) := by decide +kernel
theorem dX11_via_20 : decode cX11_via 20 = .ok (.iload_n 2, 1) := by decide +kernel
theorem dX11_via_21 : decode cX11_via 21 = .ok (.iload_n 3, 1) := by decide +kernel
theorem dX11_via_22 : decode cX11_via 22 = .ok (.invokevirtual 277, 3) := by decide +kernel
theorem dX11_via_25 : decode cX11_via 25 = .ok (.astore 5, 2) := by decide +kernel
theorem dX11_via_27 : decode cX11_via 27 = .ok (.iload 4, 2) := by decide +kernel
theorem dX11_via_29 : decode cX11_via 29 = .ok (.aload 5, 2) := by decide +kernel
theorem dX11_via_31 : decode cX11_via 31 = .ok (.getfield 288, 3) := by decide +kernel
theorem dX11_via_34 : decode cX11_via 34 = .ok (.if_icmp .gt 25, 3) := by decide +kernel
theorem dX11_via_37 : decode cX11_via 37 = .ok (.iload 4, 2) := by decide +kernel
theorem dX11_via_39 : decode cX11_via 39 = .ok (.aload 5, 2) := by decide +kernel
theorem dX11_via_41 : decode cX11_via 41 = .ok (.getfield 294, 3) := by decide +kernel
theorem dX11_via_44 : decode cX11_via 44 = .ok (.arraylength, 1) := by decide +kernel
theorem dX11_via_45 : decode cX11_via 45 = .ok (.if_icmp .ge 14, 3) := by decide +kernel
theorem dX11_via_48 : decode cX11_via 48 = .ok (.aload 5, 2) := by decide +kernel
theorem dX11_via_50 : decode cX11_via 50 = .ok (.getfield 294, 3) := by decide +kernel
theorem dX11_via_53 : decode cX11_via 53 = .ok (.iload 4, 2) := by decide +kernel
theorem dX11_via_55 : decode cX11_via 55 = .ok (.iaload, 1) := by decide +kernel
theorem dX11_via_56 : decode cX11_via 56 = .ok (.goto 5, 3) := by decide +kernel
theorem dX11_via_59 : decode cX11_via 59 = .ok (.ldc 165, 2) := by decide +kernel
theorem dX11_via_61 : decode cX11_via 61 = .ok (.ireturn, 1) := by decide +kernel
theorem dX11_far_0 : decode cX11_far 0 = .ok (.aload_n 0, 1) := by decide +kernel
theorem dX11_far_1 : decode cX11_far 1 = .ok (.iload_n 1, 1) := by decide +kernel
theorem dX11_far_2 : decode cX11_far 2 = .ok (.iload_n 2, 1) := by decide +kernel
theorem dX11_far_3 : decode cX11_far 3 = .ok (.iload_n 3, 1) := by decide +kernel
theorem dX11_far_4 : decode cX11_far 4 = .ok (.invokevirtual 273, 3) := by decide +kernel
theorem dX11_far_7 : decode cX11_far 7 = .ok (.ifCond .ne 6, 3) := by decide +kernel
theorem dX11_far_10 : decode cX11_far 10 = .ok (.ldc 81, 2) := by decide +kernel
theorem dX11_far_12 : decode cX11_far 12 = .ok (.ireturn, 1) := by decide +kernel
theorem dX11_far_13 : decode cX11_far 13 = .ok (.aload_n 0, 1) := by decide +kernel
theorem dX11_far_14 : decode cX11_far 14 = .ok (.iload_n 3, 1) := by decide +kernel
theorem dX11_far_15 : decode cX11_far 15 = .ok (.invokevirtual 297, 3) := by decide +kernel
theorem dX11_far_18 : decode cX11_far 18 = .ok (.astore 4, 2) := by decide +kernel
theorem dX11_far_20 : decode cX11_far 20 = .ok (.aload 4, 2) := by decide +kernel
theorem dX11_far_22 : decode cX11_far 22 = .ok (.iload_n 2, 1) := by decide +kernel
theorem dX11_far_23 : decode cX11_far 23 = .ok (.invokevirtual 301, 3) := by decide +kernel
theorem dX11_far_26 : decode cX11_far 26 = .ok (.aload 4, 2) := by decide +kernel
theorem dX11_far_28 : decode cX11_far 28 = .ok (.iload_n 1, 1) := by decide +kernel
theorem dX11_far_29 : decode cX11_far 29 = .ok (.iload_n 2, 1) := by decide +kernel
theorem dX11_far_30 : decode cX11_far 30 = .ok (.invokevirtual 304, 3) := by decide +kernel
theorem dX11_far_33 : decode cX11_far 33 = .ok (.istore 5, 2) := by decide +kernel
theorem dX11_far_35 : decode cX11_far 35 = .ok (.iload 5, 2) := by decide +kernel
theorem dX11_far_37 : decode cX11_far 37 = .ok (.ldc_w 307, 3) := by decide +kernel
theorem dX11_far_40 : decode cX11_far 40 = .ok (.if_icmp .ge 8, 3) := by decide +kernel
theorem dX11_far_43 : decode cX11_far 43 = .ok (.iload 5, 2) := by decide +kernel
theorem dX11_far_45 : decode cX11_far 45 = .ok (.goto 5, 3) := by decide +kernel
theorem dX11_far_48 : decode cX11_far 48 = .ok (.ldc 165, 2) := by decide +kernel
theorem dX11_far_50 : decode cX11_far 50 = .ok (.ireturn, 1) := by decide +kernel
theorem dX11_next_0 : decode cX11_next 0 = .ok (.aload_n 0, 1) := by decide +kernel
theorem dX11_next_1 : decode cX11_next 1 = .ok (.iload_n 1, 1) := by decide +kernel
theorem dX11_next_2 : decode cX11_next 2 = .ok (.iload_n 2, 1) := by decide +kernel
theorem dX11_next_3 : decode cX11_next 3 = .ok (.iload_n 3, 1) := by decide +kernel
theorem dX11_next_4 : decode cX11_next 4 = .ok (.invokevirtual 273, 3) := by decide +kernel
theorem dX11_next_7 : decode cX11_next 7 = .ok (.ifCond .ne 6, 3) := by decide +kernel
theorem dX11_next_10 : decode cX11_next 10 = .ok (.ldc 81, 2) := by decide +kernel
theorem dX11_next_12 : decode cX11_next 12 = .ok (.ireturn, 1) := by decide +kernel
theorem dX11_next_13 : decode cX11_next 13 = .ok (.aload_n 0, 1) := by decide +kernel
theorem dX11_next_14 : decode cX11_next 14 = .ok (.iload_n 3, 1) := by decide +kernel
theorem dX11_next_15 : decode cX11_next 15 = .ok (.invokevirtual 297, 3) := by decide +kernel
theorem dX11_next_18 : decode cX11_next 18 = .ok (.astore 4, 2) := by decide +kernel
theorem dX11_next_20 : decode cX11_next 20 = .ok (.aload 4, 2) := by decide +kernel
theorem dX11_next_22 : decode cX11_next 22 = .ok (.iload_n 2, 1) := by decide +kernel
theorem dX11_next_23 : decode cX11_next 23 = .ok (.invokevirtual 301, 3) := by decide +kernel
theorem dX11_next_26 : decode cX11_next 26 = .ok (.aload 4, 2) := by decide +kernel
theorem dX11_next_28 : decode cX11_next 28 = .ok (.iload_n 1, 1) := by decide +kernel
theorem dX11_next_29 : decode cX11_next 29 = .ok (.iload_n 2, 1) := by decide +kernel
theorem dX11_next_30 : decode cX11_next 30 = .ok (.invokevirtual 308, 3) := by decide +kernel
theorem dX11_next_33 : decode cX11_next 33 = .ok (.invokestatic 149, 3) := by decide +kernel
theorem dX11_next_36 : decode cX11_next 36 = .ok (.ireturn, 1) := by decide +kernel
theorem dX11_breaches_0 : decode cX11_breaches 0 = .ok (.iload_n 1, 1) := by decide +kernel
theorem dX11_breaches_1 : decode cX11_breaches 1 = .ok (.ifCond .lt 8, 3) := by decide +kernel
theorem dX11_breaches_4 : decode cX11_breaches 4 = .ok (.iload_n 1, 1) := by decide +kernel
theorem dX11_breaches_5 : decode cX11_breaches 5 = .ok (.iconst 4, 1) := by decide +kernel
theorem dX11_breaches_6 : decode cX11_breaches 6 = .ok (.if_icmp .le 6, 3) := by decide +kernel
theorem dX11_breaches_9 : decode cX11_breaches 9 = .ok (.ldc 81, 2) := by decide +kernel
theorem dX11_breaches_11 : decode cX11_breaches 11 = .ok (.ireturn, 1) := by decide +kernel
theorem dX11_breaches_12 : decode cX11_breaches 12 = .ok (.iconst 0, 1) := by decide +kernel
theorem dX11_breaches_13 : decode cX11_breaches 13 = .ok (.istore_n 2, 1) := by decide +kernel
theorem dX11_breaches_14 : decode cX11_breaches 14 = .ok (.iconst 0, 1) := by decide +kernel
theorem dX11_breaches_15 : decode cX11_breaches 15 = .ok (.istore_n 3, 1) := by decide +kernel
theorem dX11_breaches_16 : decode cX11_breaches 16 = .ok (.iload_n 3, 1) := by decide +kernel
theorem dX11_breaches_17 : decode cX11_breaches 17 = .ok (.aload_n 0, 1) := by decide +kernel
theorem dX11_breaches_18 : decode cX11_breaches 18 = .ok (.getfield 12, 3) := by decide +kernel
theorem dX11_breaches_21 : decode cX11_breaches 21 = .ok (.getfield 158, 3) := by decide +kernel
theorem dX11_breaches_24 : decode cX11_breaches 24 = .ok (.if_icmp .ge 78, 3) := by decide +kernel
theorem dX11_breaches_27 : decode cX11_breaches 27 = .ok (.iconst 0, 1) := by decide +kernel
theorem dX11_breaches_28 : decode cX11_breaches 28 = .ok (.istore 4, 2) := by decide +kernel
theorem dX11_breaches_30 : decode cX11_breaches 30 = .ok (.iload 4, 2) := by decide +kernel
theorem dX11_breaches_32 : decode cX11_breaches 32 = .ok (.aload_n 0, 1) := by decide +kernel
theorem dX11_breaches_33 : decode cX11_breaches 33 = .ok (.getfield 12, 3) := by decide +kernel
theorem dX11_breaches_36 : decode cX11_breaches 36 = .ok (.getfield 161, 3) := by decide +kernel
theorem dX11_breaches_39 : decode cX11_breaches 39 = .ok (.iload_n 3, 1) := by decide +kernel
theorem dX11_breaches_40 : decode cX11_breaches 40 = .ok (.aaload, 1) := by decide +kernel
theorem dX11_breaches_41 : decode cX11_breaches 41 = .ok (.getfield 184, 3) := by decide +kernel
theorem dX11_breaches_44 : decode cX11_breaches 44 = .ok (.if_icmp .ge 52, 3) := by decide +kernel
theorem dX11_breaches_47 : decode cX11_breaches 47 = .ok (.iconst 1, 1) := by decide +kernel
theorem dX11_breaches_48 : decode cX11_breaches 48 = .ok (.istore 5, 2) := by decide +kernel
theorem dX11_breaches_50 : decode cX11_breaches 50 = .ok (.iload 5, 2) := by decide +kernel
theorem dX11_breaches_52 : decode cX11_breaches 52 = .ok (.iconst 4, 1) := by decide +kernel
theorem dX11_breaches_53 : decode cX11_breaches 53 = .ok (.if_icmp .gt 37, 3) := by decide +kernel
theorem dX11_breaches_56 : decode cX11_breaches 56 = .ok (.iload_n 1, 1) := by decide +kernel
theorem dX11_breaches_57 : decode cX11_breaches 57 = .ok (.ifCond .eq 9, 3) := by decide +kernel
theorem dX11_breaches_60 : decode cX11_breaches 60 = .ok (.iload_n 1, 1) := by decide +kernel
theorem dX11_breaches_61 : decode cX11_breaches 61 = .ok (.iload 5, 2) := by decide +kernel
theorem dX11_breaches_63 : decode cX11_breaches 63 = .ok (.if_icmp .ne 21, 3) := by decide +kernel
theorem dX11_breaches_66 : decode cX11_breaches 66 = .ok (.aload_n 0, 1) := by decide +kernel
theorem dX11_breaches_67 : decode cX11_breaches 67 = .ok (.getfield 12, 3) := by decide +kernel
theorem dX11_breaches_70 : decode cX11_breaches 70 = .ok (.iload_n 3, 1) := by decide +kernel
theorem dX11_breaches_71 : decode cX11_breaches 71 = .ok (.iload 4, 2) := by decide +kernel
theorem dX11_breaches_73 : decode cX11_breaches 73 = .ok (.iload 5, 2) := by decide +kernel
theorem dX11_breaches_75 : decode cX11_breaches 75 = .ok (.invokestatic 311, 3) := by decide +kernel
theorem dX11_breaches_78 : decode cX11_breaches 78 = .ok (.ifCond .eq 6, 3) := by decide +kernel
theorem dX11_breaches_81 : decode cX11_breaches 81 = .ok (.iinc 2 1, 3) := by decide +kernel
theorem dX11_breaches_84 : decode cX11_breaches 84 = .ok (.iinc 5 1, 3) := by decide +kernel
theorem dX11_breaches_87 : decode cX11_breaches 87 = .ok (.goto (-37), 3) := by decide +kernel
theorem dX11_breaches_90 : decode cX11_breaches 90 = .ok (.iinc 4 1, 3) := by decide +kernel
theorem dX11_breaches_93 : decode cX11_breaches 93 = .ok (.goto (-63), 3) := by decide +kernel
theorem dX11_breaches_96 : decode cX11_breaches 96 = .ok (.iinc 3 1, 3) := by decide +kernel
theorem dX11_breaches_99 : decode cX11_breaches 99 = .ok (.goto (-83), 3) := by decide +kernel
theorem dX11_breaches_102 : decode cX11_breaches 102 = .ok (.iload_n 2, 1) := by decide +kernel
theorem dX11_breaches_103 : decode cX11_breaches 103 = .ok (.ireturn, 1) := by decide +kernel
theorem dX11_breach_0 : decode cX11_breach 0 = .ok (.iload_n 2, 1) := by decide +kernel
theorem dX11_breach_1 : decode cX11_breach 1 = .ok (.iconst 3, 1) := by decide +kernel
theorem dX11_breach_2 : decode cX11_breach 2 = .ok (.invokestatic 82, 3) := by decide +kernel
theorem dX11_breach_5 : decode cX11_breach 5 = .ok (.ifCond .eq 7, 3) := by decide +kernel
theorem dX11_breach_8 : decode cX11_breach 8 = .ok (.iload_n 1, 1) := by decide +kernel
theorem dX11_breach_9 : decode cX11_breach 9 = .ok (.ifCond .ge 6, 3) := by decide +kernel
theorem dX11_breach_12 : decode cX11_breach 12 = .ok (.ldc 81, 2) := by decide +kernel
theorem dX11_breach_14 : decode cX11_breach 14 = .ok (.ireturn, 1) := by decide +kernel
theorem dX11_breach_15 : decode cX11_breach 15 = .ok (.iconst 0, 1) := by decide +kernel
theorem dX11_breach_16 : decode cX11_breach 16 = .ok (.istore_n 3, 1) := by decide +kernel
theorem dX11_breach_17 : decode cX11_breach 17 = .ok (.iconst 0, 1) := by decide +kernel
theorem dX11_breach_18 : decode cX11_breach 18 = .ok (.istore 4, 2) := by decide +kernel
theorem dX11_breach_20 : decode cX11_breach 20 = .ok (.iload 4, 2) := by decide +kernel
theorem dX11_breach_22 : decode cX11_breach 22 = .ok (.aload_n 0, 1) := by decide +kernel
theorem dX11_breach_23 : decode cX11_breach 23 = .ok (.getfield 12, 3) := by decide +kernel
theorem dX11_breach_26 : decode cX11_breach 26 = .ok (.getfield 158, 3) := by decide +kernel
theorem dX11_breach_29 : decode cX11_breach 29 = .ok (.if_icmp .ge 100, 3) := by decide +kernel
theorem dX11_breach_32 : decode cX11_breach 32 = .ok (.iconst 0, 1) := by decide +kernel
theorem dX11_breach_33 : decode cX11_breach 33 = .ok (.istore 5, 2) := by decide +kernel
theorem dX11_breach_35 : decode cX11_breach 35 = .ok (.iload 5, 2) := by decide +kernel
theorem dX11_breach_37 : decode cX11_breach 37 = .ok (.aload_n 0, 1) := by decide +kernel
theorem dX11_breach_38 : decode cX11_breach 38 = .ok (.getfield 12, 3) := by decide +kernel
theorem dX11_breach_41 : decode cX11_breach 41 = .ok (.getfield 161, 3) := by decide +kernel
theorem dX11_breach_44 : decode cX11_breach 44 = .ok (.iload 4, 2) := by decide +kernel
theorem dX11_breach_46 : decode cX11_breach 46 = .ok (.aaload, 1) := by decide +kernel
theorem dX11_breach_47 : decode cX11_breach 47 = .ok (.getfield 184, 3) := by decide +kernel
theorem dX11_breach_50 : decode cX11_breach 50 = .ok (.if_icmp .ge 73, 3) := by decide +kernel
theorem dX11_breach_53 : decode cX11_breach 53 = .ok (.iconst 1, 1) := by decide +kernel
theorem dX11_breach_54 : decode cX11_breach 54 = .ok (.istore 6, 2) := by decide +kernel
theorem dX11_breach_56 : decode cX11_breach 56 = .ok (.iload 6, 2) := by decide +kernel
theorem dX11_breach_58 : decode cX11_breach 58 = .ok (.iconst 4, 1) := by decide +kernel
theorem dX11_breach_59 : decode cX11_breach 59 = .ok (.if_icmp .gt 58, 3) := by decide +kernel
theorem dX11_breach_62 : decode cX11_breach 62 = .ok (.aload_n 0, 1) := by decide +kernel
theorem dX11_breach_63 : decode cX11_breach 63 = .ok (.getfield 12, 3) := by decide +kernel
theorem dX11_breach_66 : decode cX11_breach 66 = .ok (.iload 4, 2) := by decide +kernel
theorem dX11_breach_68 : decode cX11_breach 68 = .ok (.iload 5, 2) := by decide +kernel
theorem dX11_breach_70 : decode cX11_breach 70 = .ok (.iload 6, 2) := by decide +kernel
theorem dX11_breach_72 : decode cX11_breach 72 = .ok (.invokestatic 311, 3) := by decide +kernel
theorem dX11_breach_75 : decode cX11_breach 75 = .ok (.ifCond .ne 6, 3) := by decide +kernel
theorem dX11_breach_78 : decode cX11_breach 78 = .ok (.goto 33, 3) := by decide +kernel
theorem dX11_breach_81 : decode cX11_breach 81 = .ok (.iload_n 3, 1) := by decide +kernel
theorem dX11_breach_82 : decode cX11_breach 82 = .ok (.iload_n 1, 1) := by decide +kernel
theorem dX11_breach_83 : decode cX11_breach 83 = .ok (.if_icmp .ne 25, 3) := by decide +kernel
theorem dX11_breach_86 : decode cX11_breach 86 = .ok (.iload_n 2, 1) := by decide +kernel
theorem dX11_breach_87 : decode cX11_breach 87 = .ok (.ifCond .ne 8, 3) := by decide +kernel
theorem dX11_breach_90 : decode cX11_breach 90 = .ok (.iload 4, 2) := by decide +kernel
theorem dX11_breach_92 : decode cX11_breach 92 = .ok (.goto 15, 3) := by decide +kernel
theorem dX11_breach_95 : decode cX11_breach 95 = .ok (.iload_n 2, 1) := by decide +kernel
theorem dX11_breach_96 : decode cX11_breach 96 = .ok (.iconst 1, 1) := by decide +kernel
theorem dX11_breach_97 : decode cX11_breach 97 = .ok (.if_icmp .ne 8, 3) := by decide +kernel
theorem dX11_breach_100 : decode cX11_breach 100 = .ok (.iload 5, 2) := by decide +kernel
theorem dX11_breach_102 : decode cX11_breach 102 = .ok (.goto 5, 3) := by decide +kernel
theorem dX11_breach_105 : decode cX11_breach 105 = .ok (.iload 6, 2) := by decide +kernel
theorem dX11_breach_107 : decode cX11_breach 107 = .ok (.ireturn, 1) := by decide +kernel
theorem dX11_breach_108 : decode cX11_breach 108 = .ok (.iinc 3 1, 3) := by decide +kernel
theorem dX11_breach_111 : decode cX11_breach 111 = .ok (.iinc 6 1, 3) := by decide +kernel
theorem dX11_breach_114 : decode cX11_breach 114 = .ok (.goto (-58), 3) := by decide +kernel
theorem dX11_breach_117 : decode cX11_breach 117 = .ok (.iinc 5 1, 3) := by decide +kernel
theorem dX11_breach_120 : decode cX11_breach 120 = .ok (.goto (-85), 3) := by decide +kernel
theorem dX11_breach_123 : decode cX11_breach 123 = .ok (.iinc 4 1, 3) := by decide +kernel
theorem dX11_breach_126 : decode cX11_breach 126 = .ok (.goto (-106), 3) := by decide +kernel
theorem dX11_breach_129 : decode cX11_breach 129 = .ok (.ldc 165, 2) := by decide +kernel
theorem dX11_breach_131 : decode cX11_breach 131 = .ok (.ireturn, 1) := by decide +kernel
theorem dX11_needs_0 : decode cX11_needs 0 = .ok (.aload_n 0, 1) := by decide +kernel
theorem dX11_needs_1 : decode cX11_needs 1 = .ok (.getfield 12, 3) := by decide +kernel
theorem dX11_needs_4 : decode cX11_needs 4 = .ok (.iload_n 1, 1) := by decide +kernel
theorem dX11_needs_5 : decode cX11_needs 5 = .ok (.invokevirtual 77, 3) := by decide +kernel
theorem dX11_needs_8 : decode cX11_needs 8 = .ok (.ifCond .eq 11, 3) := by decide +kernel
theorem dX11_needs_11 : decode cX11_needs 11 = .ok (.iload_n 2, 1) := by decide +kernel
theorem dX11_needs_12 : decode cX11_needs 12 = .ok (.iconst 2, 1) := by decide +kernel
theorem dX11_needs_13 : decode cX11_needs 13 = .ok (.invokestatic 82, 3) := by decide +kernel
theorem dX11_needs_16 : decode cX11_needs 16 = .ok (.ifCond .ne 6, 3) := by decide +kernel
theorem dX11_needs_19 : decode cX11_needs 19 = .ok (.ldc 81, 2) := by decide +kernel
theorem dX11_needs_21 : decode cX11_needs 21 = .ok (.ireturn, 1) := by decide +kernel
theorem dX11_needs_22 : decode cX11_needs 22 = .ok (.aload_n 0, 1) := by decide +kernel
theorem dX11_needs_23 : decode cX11_needs 23 = .ok (.iload_n 2, 1) := by decide +kernel
theorem dX11_needs_24 : decode cX11_needs 24 = .ok (.invokevirtual 297, 3) := by decide +kernel
theorem dX11_needs_27 : decode cX11_needs 27 = .ok (.astore_n 3, 1) := by decide +kernel
theorem dX11_needs_28 : decode cX11_needs 28 = .ok (.aload_n 3, 1) := by decide +kernel
theorem dX11_needs_29 : decode cX11_needs 29 = .ok (.invokevirtual 317, 3) := by decide +kernel
theorem dX11_needs_32 : decode cX11_needs 32 = .ok (.iconst 0, 1) := by decide +kernel
theorem dX11_needs_33 : decode cX11_needs 33 = .ok (.istore 4, 2) := by decide +kernel
theorem dX11_needs_35 : decode cX11_needs 35 = .ok (.iconst (-1), 1) := by decide +kernel
theorem dX11_needs_36 : decode cX11_needs 36 = .ok (.istore 5, 2) := by decide +kernel
theorem dX11_needs_38 : decode cX11_needs 38 = .ok (.iload 5, 2) := by decide +kernel
theorem dX11_needs_40 : decode cX11_needs 40 = .ok (.iconst 4, 1) := by decide +kernel
theorem dX11_needs_41 : decode cX11_needs 41 = .ok (.if_icmp .ge 21, 3) := by decide +kernel
theorem dX11_needs_44 : decode cX11_needs 44 = .ok (.iload 4, 2) := by decide +kernel
theorem dX11_needs_46 : decode cX11_needs 46 = .ok (.aload_n 3, 1) := by decide +kernel
theorem dX11_needs_47 : decode cX11_needs 47 = .ok (.iload_n 1, 1) := by decide +kernel
theorem dX11_needs_48 : decode cX11_needs 48 = .ok (.iload 5, 2) := by decide +kernel
theorem dX11_needs_50 : decode cX11_needs 50 = .ok (.invokevirtual 320, 3) := by decide +kernel
theorem dX11_needs_53 : decode cX11_needs 53 = .ok (.iadd, 1) := by decide +kernel
theorem dX11_needs_54 : decode cX11_needs 54 = .ok (.istore 4, 2) := by decide +kernel
theorem dX11_needs_56 : decode cX11_needs 56 = .ok (.iinc 5 1, 3) := by decide +kernel
theorem dX11_needs_59 : decode cX11_needs 59 = .ok (.goto (-21), 3) := by decide +kernel
theorem dX11_needs_62 : decode cX11_needs 62 = .ok (.iload 4, 2) := by decide +kernel
theorem dX11_needs_64 : decode cX11_needs 64 = .ok (.ireturn, 1) := by decide +kernel
theorem dX11_wrong_0 : decode cX11_wrong 0 = .ok (.iload_n 1, 1) := by decide +kernel
theorem dX11_wrong_1 : decode cX11_wrong 1 = .ok (.iconst 2, 1) := by decide +kernel
theorem dX11_wrong_2 : decode cX11_wrong 2 = .ok (.invokestatic 82, 3) := by decide +kernel
theorem dX11_wrong_5 : decode cX11_wrong 5 = .ok (.ifCond .eq 12, 3) := by decide +kernel
theorem dX11_wrong_8 : decode cX11_wrong 8 = .ok (.aload_n 0, 1) := by decide +kernel
theorem dX11_wrong_9 : decode cX11_wrong 9 = .ok (.iload_n 1, 1) := by decide +kernel
theorem dX11_wrong_10 : decode cX11_wrong 10 = .ok (.iconst 0, 1) := by decide +kernel
theorem dX11_wrong_11 : decode cX11_wrong 11 = .ok (.invokevirtual 323, 3) := by decide +kernel
theorem dX11_wrong_14 : decode cX11_wrong 14 = .ok (.goto 5, 3) := by decide +kernel
theorem dX11_wrong_17 : decode cX11_wrong 17 = .ok (.ldc 81, 2) := by decide +kernel
theorem dX11_wrong_19 : decode cX11_wrong 19 = .ok (.ireturn, 1) := by decide +kernel
theorem dX11_mend_0 : decode cX11_mend 0 = .ok (.iload_n 1, 1) := by decide +kernel
theorem dX11_mend_1 : decode cX11_mend 1 = .ok (.iconst 2, 1) := by decide +kernel
theorem dX11_mend_2 : decode cX11_mend 2 = .ok (.invokestatic 82, 3) := by decide +kernel
theorem dX11_mend_5 : decode cX11_mend 5 = .ok (.ifCond .ne 6, 3) := by decide +kernel
theorem dX11_mend_8 : decode cX11_mend 8 = .ok (.ldc 81, 2) := by decide +kernel
theorem dX11_mend_10 : decode cX11_mend 10 = .ok (.ireturn, 1) := by decide +kernel
theorem dX11_mend_11 : decode cX11_mend 11 = .ok (.aload_n 0, 1) := by decide +kernel
theorem dX11_mend_12 : decode cX11_mend 12 = .ok (.getfield 40, 3) := by decide +kernel
theorem dX11_mend_15 : decode cX11_mend 15 = .ok (.aload_n 0, 1) := by decide +kernel
theorem dX11_mend_16 : decode cX11_mend 16 = .ok (.getfield 12, 3) := by decide +kernel
theorem dX11_mend_19 : decode cX11_mend 19 = .ok (.invokevirtual 214, 3) := by decide +kernel
theorem dX11_mend_22 : decode cX11_mend 22 = .ok (.aload_n 0, 1) := by decide +kernel
theorem dX11_mend_23 : decode cX11_mend 23 = .ok (.iload_n 1, 1) := by decide +kernel
theorem dX11_mend_24 : decode cX11_mend 24 = .ok (.iconst 1, 1) := by decide +kernel
theorem dX11_mend_25 : decode cX11_mend 25 = .ok (.invokevirtual 323, 3) := by decide +kernel
theorem dX11_mend_28 : decode cX11_mend 28 = .ok (.ireturn, 1) := by decide +kernel
theorem dX11_choose_0 : decode cX11_choose 0 = .ok (.aload_n 0, 1) := by decide +kernel
theorem dX11_choose_1 : decode cX11_choose 1 = .ok (.getfield 12, 3) := by decide +kernel
theorem dX11_choose_4 : decode cX11_choose 4 = .ok (.iload_n 1, 1) := by decide +kernel
theorem dX11_choose_5 : decode cX11_choose 5 = .ok (.invokevirtual 77, 3) := by decide +kernel
theorem dX11_choose_8 : decode cX11_choose 8 = .ok (.ifCond .ne 6, 3) := by decide +kernel
theorem dX11_choose_11 : decode cX11_choose 11 = .ok (.ldc 81, 2) := by decide +kernel
theorem dX11_choose_13 : decode cX11_choose 13 = .ok (.ireturn, 1) := by decide +kernel
theorem dX11_choose_14 : decode cX11_choose 14 = .ok (.iconst 0, 1) := by decide +kernel
theorem dX11_choose_15 : decode cX11_choose 15 = .ok (.istore_n 2, 1) := by decide +kernel
theorem dX11_choose_16 : decode cX11_choose 16 = .ok (.iload_n 2, 1) := by decide +kernel
theorem dX11_choose_17 : decode cX11_choose 17 = .ok (.aload_n 0, 1) := by decide +kernel
theorem dX11_choose_18 : decode cX11_choose 18 = .ok (.getfield 12, 3) := by decide +kernel
theorem dX11_choose_21 : decode cX11_choose 21 = .ok (.getfield 327, 3) := by decide +kernel
theorem dX11_choose_24 : decode cX11_choose 24 = .ok (.if_icmp .ge 25, 3) := by decide +kernel
theorem dX11_choose_27 : decode cX11_choose 27 = .ok (.aload_n 0, 1) := by decide +kernel
theorem dX11_choose_28 : decode cX11_choose 28 = .ok (.getfield 12, 3) := by decide +kernel
theorem dX11_choose_31 : decode cX11_choose 31 = .ok (.getfield 330, 3) := by decide +kernel
theorem dX11_choose_34 : decode cX11_choose 34 = .ok (.iload_n 2, 1) := by decide +kernel
theorem dX11_choose_35 : decode cX11_choose 35 = .ok (.iaload, 1) := by decide +kernel
theorem dX11_choose_36 : decode cX11_choose 36 = .ok (.iload_n 1, 1) := by decide +kernel
theorem dX11_choose_37 : decode cX11_choose 37 = .ok (.if_icmp .ne 6, 3) := by decide +kernel
theorem dX11_choose_40 : decode cX11_choose 40 = .ok (.ldc 100, 2) := by decide +kernel
theorem dX11_choose_42 : decode cX11_choose 42 = .ok (.ireturn, 1) := by decide +kernel
theorem dX11_choose_43 : decode cX11_choose 43 = .ok (.iinc 2 1, 3) := by decide +kernel
theorem dX11_choose_46 : decode cX11_choose 46 = .ok (.goto (-30), 3) := by decide +kernel
theorem dX11_choose_49 : decode cX11_choose 49 = .ok (.aload_n 0, 1) := by decide +kernel
theorem dX11_choose_50 : decode cX11_choose 50 = .ok (.getfield 12, 3) := by decide +kernel
theorem dX11_choose_53 : decode cX11_choose 53 = .ok (.getfield 327, 3) := by decide +kernel
theorem dX11_choose_56 : decode cX11_choose 56 = .ok (.bipush 6, 2) := by decide +kernel
theorem dX11_choose_58 : decode cX11_choose 58 = .ok (.if_icmp .lt 6, 3) := by decide +kernel
theorem dX11_choose_61 : decode cX11_choose 61 = .ok (.ldc 76, 2) := by decide +kernel
theorem dX11_choose_63 : decode cX11_choose 63 = .ok (.ireturn, 1) := by decide +kernel
theorem dX11_choose_64 : decode cX11_choose 64 = .ok (.aload_n 0, 1) := by decide +kernel
theorem dX11_choose_65 : decode cX11_choose 65 = .ok (.getfield 12, 3) := by decide +kernel
theorem dX11_choose_68 : decode cX11_choose 68 = .ok (.getfield 330, 3) := by decide +kernel
theorem dX11_choose_71 : decode cX11_choose 71 = .ok (.aload_n 0, 1) := by decide +kernel
theorem dX11_choose_72 : decode cX11_choose 72 = .ok (.getfield 12, 3) := by decide +kernel
theorem dX11_choose_75 : decode cX11_choose 75 = .ok (.getfield 327, 3) := by decide +kernel
theorem dX11_choose_78 : decode cX11_choose 78 = .ok (.iload_n 1, 1) := by decide +kernel
theorem dX11_choose_79 : decode cX11_choose 79 = .ok (.iastore, 1) := by decide +kernel
theorem dX11_choose_80 : decode cX11_choose 80 = .ok (.aload_n 0, 1) := by decide +kernel
theorem dX11_choose_81 : decode cX11_choose 81 = .ok (.getfield 12, 3) := by decide +kernel
theorem dX11_choose_84 : decode cX11_choose 84 = .ok (.dup, 1) := by decide +kernel
theorem dX11_choose_85 : decode cX11_choose 85 = .ok (.getfield 327, 3) := by decide +kernel
theorem dX11_choose_88 : decode cX11_choose 88 = .ok (.iconst 1, 1) := by decide +kernel
theorem dX11_choose_89 : decode cX11_choose 89 = .ok (.iadd, 1) := by decide +kernel
theorem dX11_choose_90 : decode cX11_choose 90 = .ok (.putfield 327, 3) := by decide +kernel
theorem dX11_choose_93 : decode cX11_choose 93 = .ok (.aload_n 0, 1) := by decide +kernel
theorem dX11_choose_94 : decode cX11_choose 94 = .ok (.getfield 12, 3) := by decide +kernel
theorem dX11_choose_97 : decode cX11_choose 97 = .ok (.getfield 327, 3) := by decide +kernel
theorem dX11_choose_100 : decode cX11_choose 100 = .ok (.ireturn, 1) := by decide +kernel
theorem dX11_clear_0 : decode cX11_clear 0 = .ok (.aload_n 0, 1) := by decide +kernel
theorem dX11_clear_1 : decode cX11_clear 1 = .ok (.getfield 12, 3) := by decide +kernel
theorem dX11_clear_4 : decode cX11_clear 4 = .ok (.getfield 327, 3) := by decide +kernel
theorem dX11_clear_7 : decode cX11_clear 7 = .ok (.istore_n 1, 1) := by decide +kernel
theorem dX11_clear_8 : decode cX11_clear 8 = .ok (.aload_n 0, 1) := by decide +kernel
theorem dX11_clear_9 : decode cX11_clear 9 = .ok (.getfield 12, 3) := by decide +kernel
theorem dX11_clear_12 : decode cX11_clear 12 = .ok (.iconst 0, 1) := by decide +kernel
theorem dX11_clear_13 : decode cX11_clear 13 = .ok (.putfield 327, 3) := by decide +kernel
theorem dX11_clear_16 : decode cX11_clear 16 = .ok (.iload_n 1, 1) := by decide +kernel
theorem dX11_clear_17 : decode cX11_clear 17 = .ok (.ireturn, 1) := by decide +kernel
theorem dX11_fewest_0 : decode cX11_fewest 0 = .ok (.aload_n 0, 1) := by decide +kernel
theorem dX11_fewest_1 : decode cX11_fewest 1 = .ok (.getfield 12, 3) := by decide +kernel
theorem dX11_fewest_4 : decode cX11_fewest 4 = .ok (.iload_n 1, 1) := by decide +kernel
theorem dX11_fewest_5 : decode cX11_fewest 5 = .ok (.invokevirtual 146, 3) := by decide +kernel
theorem dX11_fewest_8 : decode cX11_fewest 8 = .ok (.ifCond .eq 11, 3) := by decide +kernel
theorem dX11_fewest_11 : decode cX11_fewest 11 = .ok (.iload_n 2, 1) := by decide +kernel
theorem dX11_fewest_12 : decode cX11_fewest 12 = .ok (.iconst 2, 1) := by decide +kernel
theorem dX11_fewest_13 : decode cX11_fewest 13 = .ok (.invokestatic 82, 3) := by decide +kernel
theorem dX11_fewest_16 : decode cX11_fewest 16 = .ok (.ifCond .ne 6, 3) := by decide +kernel
theorem dX11_fewest_19 : decode cX11_fewest 19 = .ok (.ldc 81, 2) := by decide +kernel
theorem dX11_fewest_21 : decode cX11_fewest 21 = .ok (.ireturn, 1) := by decide +kernel
theorem dX11_fewest_22 : decode cX11_fewest 22 = .ok (.aload_n 0, 1) := by decide +kernel
theorem dX11_fewest_23 : decode cX11_fewest 23 = .ok (.getfield 33, 3) := by decide +kernel
theorem dX11_fewest_26 : decode cX11_fewest 26 = .ok (.iload_n 2, 1) := by decide +kernel
theorem dX11_fewest_27 : decode cX11_fewest 27 = .ok (.aaload, 1) := by decide +kernel
theorem dX11_fewest_28 : decode cX11_fewest 28 = .ok (.astore_n 3, 1) := by decide +kernel
theorem dX11_fewest_29 : decode cX11_fewest 29 = .ok (.aload_n 3, 1) := by decide +kernel
theorem dX11_fewest_30 : decode cX11_fewest 30 = .ok (.aload_n 0, 1) := by decide +kernel
theorem dX11_fewest_31 : decode cX11_fewest 31 = .ok (.getfield 12, 3) := by decide +kernel
theorem dX11_fewest_34 : decode cX11_fewest 34 = .ok (.invokevirtual 333, 3) := by decide +kernel
theorem dX11_fewest_37 : decode cX11_fewest 37 = .ok (.aload_n 3, 1) := by decide +kernel
theorem dX11_fewest_38 : decode cX11_fewest 38 = .ok (.iload_n 1, 1) := by decide +kernel
theorem dX11_fewest_39 : decode cX11_fewest 39 = .ok (.invokevirtual 336, 3) := by decide +kernel
theorem dX11_fewest_42 : decode cX11_fewest 42 = .ok (.aload_n 3, 1) := by decide +kernel
theorem dX11_fewest_43 : decode cX11_fewest 43 = .ok (.getfield 339, 3) := by decide +kernel
theorem dX11_fewest_46 : decode cX11_fewest 46 = .ok (.iload_n 1, 1) := by decide +kernel
theorem dX11_fewest_47 : decode cX11_fewest 47 = .ok (.invokevirtual 301, 3) := by decide +kernel
theorem dX11_fewest_50 : decode cX11_fewest 50 = .ok (.iconst 1, 1) := by decide +kernel
theorem dX11_fewest_51 : decode cX11_fewest 51 = .ok (.aload_n 0, 1) := by decide +kernel
theorem dX11_fewest_52 : decode cX11_fewest 52 = .ok (.getfield 12, 3) := by decide +kernel
theorem dX11_fewest_55 : decode cX11_fewest 55 = .ok (.getfield 327, 3) := by decide +kernel
theorem dX11_fewest_58 : decode cX11_fewest 58 = .ok (.ishl, 1) := by decide +kernel
theorem dX11_fewest_59 : decode cX11_fewest 59 = .ok (.istore 4, 2) := by decide +kernel
theorem dX11_fewest_61 : decode cX11_fewest 61 = .ok (.iconst 0, 1) := by decide +kernel
theorem dX11_fewest_62 : decode cX11_fewest 62 = .ok (.istore 5, 2) := by decide +kernel
theorem dX11_fewest_64 : decode cX11_fewest 64 = .ok (.iload 5, 2) := by decide +kernel
theorem dX11_fewest_66 : decode cX11_fewest 66 = .ok (.aload_n 0, 1) := by decide +kernel
theorem dX11_fewest_67 : decode cX11_fewest 67 = .ok (.getfield 12, 3) := by decide +kernel
theorem dX11_fewest_70 : decode cX11_fewest 70 = .ok (.getfield 327, 3) := by decide +kernel
theorem dX11_fewest_73 : decode cX11_fewest 73 = .ok (.if_icmp .gt 47, 3) := by decide +kernel
theorem dX11_fewest_76 : decode cX11_fewest 76 = .ok (.iconst 0, 1) := by decide +kernel
theorem dX11_fewest_77 : decode cX11_fewest 77 = .ok (.istore 6, 2) := by decide +kernel
theorem dX11_fewest_79 : decode cX11_fewest 79 = .ok (.iload 6, 2) := by decide +kernel
theorem dX11_fewest_81 : decode cX11_fewest 81 = .ok (.iload 4, 2) := by decide +kernel
theorem dX11_fewest_83 : decode cX11_fewest 83 = .ok (.if_icmp .ge 31, 3) := by decide +kernel
theorem dX11_fewest_86 : decode cX11_fewest 86 = .ok (.iload 6, 2) := by decide +kernel
theorem dX11_fewest_88 : decode cX11_fewest 88 = .ok (.invokestatic 343, 3) := by decide +kernel
theorem dX11_fewest_91 : decode cX11_fewest 91 = .ok (.iload 5, 2) := by decide +kernel
theorem dX11_fewest_93 : decode cX11_fewest 93 = .ok (.if_icmp .ne 15, 3) := by decide +kernel
theorem dX11_fewest_96 : decode cX11_fewest 96 = .ok (.aload_n 3, 1) := by decide +kernel
theorem dX11_fewest_97 : decode cX11_fewest 97 = .ok (.iload 6, 2) := by decide +kernel
theorem dX11_fewest_99 : decode cX11_fewest 99 = .ok (.invokevirtual 348, 3) := by decide +kernel
theorem dX11_fewest_102 : decode cX11_fewest 102 = .ok (.ifCond .eq 6, 3) := by decide +kernel
theorem dX11_fewest_105 : decode cX11_fewest 105 = .ok (.iload 6, 2) := by decide +kernel
theorem dX11_fewest_107 : decode cX11_fewest 107 = .ok (.ireturn, 1) := by decide +kernel
theorem dX11_fewest_108 : decode cX11_fewest 108 = .ok (.iinc 6 1, 3) := by decide +kernel
theorem dX11_fewest_111 : decode cX11_fewest 111 = .ok (.goto (-32), 3) := by decide +kernel
theorem dX11_fewest_114 : decode cX11_fewest 114 = .ok (.iinc 5 1, 3) := by decide +kernel
theorem dX11_fewest_117 : decode cX11_fewest 117 = .ok (.goto (-53), 3) := by decide +kernel
theorem dX11_fewest_120 : decode cX11_fewest 120 = .ok (.ldc 165, 2) := by decide +kernel
theorem dX11_fewest_122 : decode cX11_fewest 122 = .ok (.ireturn, 1) := by decide +kernel
theorem dX11_seed_0 : decode cX11_seed 0 = .ok (.aload_n 0, 1) := by decide +kernel
theorem dX11_seed_1 : decode cX11_seed 1 = .ok (.getfield 12, 3) := by decide +kernel
theorem dX11_seed_4 : decode cX11_seed 4 = .ok (.getfield 351, 3) := by decide +kernel
theorem dX11_seed_7 : decode cX11_seed 7 = .ok (.istore_n 2, 1) := by decide +kernel
theorem dX11_seed_8 : decode cX11_seed 8 = .ok (.aload_n 0, 1) := by decide +kernel
theorem dX11_seed_9 : decode cX11_seed 9 = .ok (.getfield 12, 3) := by decide +kernel
theorem dX11_seed_12 : decode cX11_seed 12 = .ok (.iload_n 1, 1) := by decide +kernel
theorem dX11_seed_13 : decode cX11_seed 13 = .ok (.putfield 351, 3) := by decide +kernel
theorem dX11_seed_16 : decode cX11_seed 16 = .ok (.iload_n 2, 1) := by decide +kernel
theorem dX11_seed_17 : decode cX11_seed 17 = .ok (.ireturn, 1) := by decide +kernel
theorem dX11_strangers_0 : decode cX11_strangers 0 = .ok (.iload_n 1, 1) := by decide +kernel
theorem dX11_strangers_1 : decode cX11_strangers 1 = .ok (.iconst 1, 1) := by decide +kernel
theorem dX11_strangers_2 : decode cX11_strangers 2 = .ok (.if_icmp .lt 9, 3) := by decide +kernel
theorem dX11_strangers_5 : decode cX11_strangers 5 = .ok (.iload_n 1, 1) := by decide +kernel
theorem dX11_strangers_6 : decode cX11_strangers 6 = .ok (.bipush 60, 2) := by decide +kernel
theorem dX11_strangers_8 : decode cX11_strangers 8 = .ok (.if_icmp .le 6, 3) := by decide +kernel
theorem dX11_strangers_11 : decode cX11_strangers 11 = .ok (.ldc 81, 2) := by decide +kernel
theorem dX11_strangers_13 : decode cX11_strangers 13 = .ok (.ireturn, 1) := by decide +kernel
theorem dX11_strangers_14 : decode cX11_strangers 14 = .ok (.aload_n 0, 1) := by decide +kernel
theorem dX11_strangers_15 : decode cX11_strangers 15 = .ok (.getfield 12, 3) := by decide +kernel
theorem dX11_strangers_18 : decode cX11_strangers 18 = .ok (.getfield 73, 3) := by decide +kernel
theorem dX11_strangers_21 : decode cX11_strangers 21 = .ok (.ifCond .eq 13, 3) := by decide +kernel
theorem dX11_strangers_24 : decode cX11_strangers 24 = .ok (.aload_n 0, 1) := by decide +kernel
theorem dX11_strangers_25 : decode cX11_strangers 25 = .ok (.getfield 12, 3) := by decide +kernel
theorem dX11_strangers_28 : decode cX11_strangers 28 = .ok (.getfield 137, 3) := by decide +kernel
theorem dX11_strangers_31 : decode cX11_strangers 31 = .ok (.ifCond .ne 6, 3) := by decide +kernel
theorem dX11_strangers_34 : decode cX11_strangers 34 = .ok (.ldc 100, 2) := by decide +kernel
theorem dX11_strangers_36 : decode cX11_strangers 36 = .ok (.ireturn, 1) := by decide +kernel
theorem dX11_strangers_37 : decode cX11_strangers 37 = .ok (.aload_n 0, 1) := by decide +kernel
theorem dX11_strangers_38 : decode cX11_strangers 38 = .ok (.aload_n 0, 1) := by decide +kernel
theorem dX11_strangers_39 : decode cX11_strangers 39 = .ok (.getfield 12, 3) := by decide +kernel
theorem dX11_strangers_42 : decode cX11_strangers 42 = .ok (.invokevirtual 354, 3) := by decide +kernel
theorem dX11_strangers_45 : decode cX11_strangers 45 = .ok (.iconst 0, 1) := by decide +kernel
theorem dX11_strangers_46 : decode cX11_strangers 46 = .ok (.istore_n 2, 1) := by decide +kernel
theorem dX11_strangers_47 : decode cX11_strangers 47 = .ok (.iconst 0, 1) := by decide +kernel
theorem dX11_strangers_48 : decode cX11_strangers 48 = .ok (.istore_n 3, 1) := by decide +kernel
theorem dX11_strangers_49 : decode cX11_strangers 49 = .ok (.iload_n 3, 1) := by decide +kernel
theorem dX11_strangers_50 : decode cX11_strangers 50 = .ok (.iload_n 1, 1) := by decide +kernel
theorem dX11_strangers_51 : decode cX11_strangers 51 = .ok (.if_icmp .ge 59, 3) := by decide +kernel
theorem dX11_strangers_54 : decode cX11_strangers 54 = .ok (.aload_n 0, 1) := by decide +kernel
theorem dX11_strangers_55 : decode cX11_strangers 55 = .ok (.aload_n 0, 1) := by decide +kernel
theorem dX11_strangers_56 : decode cX11_strangers 56 = .ok (.getfield 12, 3) := by decide +kernel
theorem dX11_strangers_59 : decode cX11_strangers 59 = .ok (.invokevirtual 357, 3) := by decide +kernel
theorem dX11_strangers_62 : decode cX11_strangers 62 = .ok (.astore 4, 2) := by decide +kernel
theorem dX11_strangers_64 : decode cX11_strangers 64 = .ok (.aload 4, 2) := by decide +kernel
theorem dX11_strangers_66 : decode cX11_strangers 66 = .ok (.getfield 281, 3) := by decide +kernel
theorem dX11_strangers_69 : decode cX11_strangers 69 = .ok (.iconst 1, 1) := by decide +kernel
theorem dX11_strangers_70 : decode cX11_strangers 70 = .ok (.if_icmp .ne 9, 3) := by decide +kernel
theorem dX11_strangers_73 : decode cX11_strangers 73 = .ok (.iinc 2 1, 3) := by decide +kernel
theorem dX11_strangers_76 : decode cX11_strangers 76 = .ok (.goto 28, 3) := by decide +kernel
theorem dX11_strangers_79 : decode cX11_strangers 79 = .ok (.aload 4, 2) := by decide +kernel
theorem dX11_strangers_81 : decode cX11_strangers 81 = .ok (.getfield 291, 3) := by decide +kernel
theorem dX11_strangers_84 : decode cX11_strangers 84 = .ok (.iconst (-1), 1) := by decide +kernel
theorem dX11_strangers_85 : decode cX11_strangers 85 = .ok (.if_icmp .eq 19, 3) := by decide +kernel
theorem dX11_strangers_88 : decode cX11_strangers 88 = .ok (.aload_n 0, 1) := by decide +kernel
theorem dX11_strangers_89 : decode cX11_strangers 89 = .ok (.getfield 12, 3) := by decide +kernel
theorem dX11_strangers_92 : decode cX11_strangers 92 = .ok (.getfield 161, 3) := by decide +kernel
theorem dX11_strangers_95 : decode cX11_strangers 95 = .ok (.aload 4, 2) := by decide +kernel
theorem dX11_strangers_97 : decode cX11_strangers 97 = .ok (.getfield 291, 3) := by decide +kernel
theorem dX11_strangers_100 : decode cX11_strangers 100 = .ok (.aaload, 1) := by decide +kernel
theorem dX11_strangers_101 : decode cX11_strangers 101 = .ok (.invokevirtual 361, 3) := by decide +kernel
theorem dX11_strangers_104 : decode cX11_strangers 104 = .ok (.iinc 3 1, 3) := by decide +kernel
theorem dX11_strangers_107 : decode cX11_strangers 107 = .ok (.goto (-58), 3) := by decide +kernel
theorem dX11_strangers_110 : decode cX11_strangers 110 = .ok (.iload_n 2, 1) := by decide +kernel
theorem dX11_strangers_111 : decode cX11_strangers 111 = .ok (.ireturn, 1) := by decide +kernel
theorem dX11_led_0 : decode cX11_led 0 = .ok (.ldc 165, 2) := by decide +kernel
theorem dX11_led_2 : decode cX11_led 2 = .ok (.istore_n 1, 1) := by decide +kernel
theorem dX11_led_3 : decode cX11_led 3 = .ok (.iconst 0, 1) := by decide +kernel
theorem dX11_led_4 : decode cX11_led 4 = .ok (.istore_n 2, 1) := by decide +kernel
theorem dX11_led_5 : decode cX11_led 5 = .ok (.iconst 0, 1) := by decide +kernel
theorem dX11_led_6 : decode cX11_led 6 = .ok (.istore_n 3, 1) := by decide +kernel
theorem dX11_led_7 : decode cX11_led 7 = .ok (.iload_n 3, 1) := by decide +kernel
theorem dX11_led_8 : decode cX11_led 8 = .ok (.aload_n 0, 1) := by decide +kernel
theorem dX11_led_9 : decode cX11_led 9 = .ok (.getfield 12, 3) := by decide +kernel
theorem dX11_led_12 : decode cX11_led 12 = .ok (.getfield 158, 3) := by decide +kernel
theorem dX11_led_15 : decode cX11_led 15 = .ok (.if_icmp .ge 40, 3) := by decide +kernel
theorem dX11_led_18 : decode cX11_led 18 = .ok (.aload_n 0, 1) := by decide +kernel
theorem dX11_led_19 : decode cX11_led 19 = .ok (.getfield 12, 3) := by decide +kernel
theorem dX11_led_22 : decode cX11_led 22 = .ok (.getfield 161, 3) := by decide +kernel
theorem dX11_led_25 : decode cX11_led 25 = .ok (.iload_n 3, 1) := by decide +kernel
theorem dX11_led_26 : decode cX11_led 26 = .ok (.aaload, 1) := by decide +kernel
theorem dX11_led_27 : decode cX11_led 27 = .ok (.getfield 200, 3) := by decide +kernel
theorem dX11_led_30 : decode cX11_led 30 = .ok (.iload_n 2, 1) := by decide +kernel
theorem dX11_led_31 : decode cX11_led 31 = .ok (.if_icmp .le 18, 3) := by decide +kernel
theorem dX11_led_34 : decode cX11_led 34 = .ok (.iload_n 3, 1) := by decide +kernel
theorem dX11_led_35 : decode cX11_led 35 = .ok (.istore_n 1, 1) := by decide +kernel
theorem dX11_led_36 : decode cX11_led 36 = .ok (.aload_n 0, 1) := by decide +kernel
theorem dX11_led_37 : decode cX11_led 37 = .ok (.getfield 12, 3) := by decide +kernel
theorem dX11_led_40 : decode cX11_led 40 = .ok (.getfield 161, 3) := by decide +kernel
theorem dX11_led_43 : decode cX11_led 43 = .ok (.iload_n 3, 1) := by decide +kernel
theorem dX11_led_44 : decode cX11_led 44 = .ok (.aaload, 1) := by decide +kernel
theorem dX11_led_45 : decode cX11_led 45 = .ok (.getfield 200, 3) := by decide +kernel
theorem dX11_led_48 : decode cX11_led 48 = .ok (.istore_n 2, 1) := by decide +kernel
theorem dX11_led_49 : decode cX11_led 49 = .ok (.iinc 3 1, 3) := by decide +kernel
theorem dX11_led_52 : decode cX11_led 52 = .ok (.goto (-45), 3) := by decide +kernel
theorem dX11_led_55 : decode cX11_led 55 = .ok (.iload_n 1, 1) := by decide +kernel
theorem dX11_led_56 : decode cX11_led 56 = .ok (.ireturn, 1) := by decide +kernel
theorem dX11_sheet_0 : decode cX11_sheet 0 = .ok (.iload_n 1, 1) := by decide +kernel
theorem dX11_sheet_1 : decode cX11_sheet 1 = .ok (.iconst 4, 1) := by decide +kernel
theorem dX11_sheet_2 : decode cX11_sheet 2 = .ok (.invokestatic 82, 3) := by decide +kernel
theorem dX11_sheet_5 : decode cX11_sheet 5 = .ok (.ifCond .eq 13, 3) := by decide +kernel
theorem dX11_sheet_8 : decode cX11_sheet 8 = .ok (.iload_n 2, 1) := by decide +kernel
theorem dX11_sheet_9 : decode cX11_sheet 9 = .ok (.iconst (-1), 1) := by decide +kernel
theorem dX11_sheet_10 : decode cX11_sheet 10 = .ok (.if_icmp .lt 8, 3) := by decide +kernel
theorem dX11_sheet_13 : decode cX11_sheet 13 = .ok (.iload_n 2, 1) := by decide +kernel
theorem dX11_sheet_14 : decode cX11_sheet 14 = .ok (.iconst 1, 1) := by decide +kernel
theorem dX11_sheet_15 : decode cX11_sheet 15 = .ok (.if_icmp .le 6, 3) := by decide +kernel
theorem dX11_sheet_18 : decode cX11_sheet 18 = .ok (.ldc 81, 2) := by decide +kernel
theorem dX11_sheet_20 : decode cX11_sheet 20 = .ok (.ireturn, 1) := by decide +kernel
theorem dX11_sheet_21 : decode cX11_sheet 21 = .ok (.iload_n 2, 1) := by decide +kernel
theorem dX11_sheet_22 : decode cX11_sheet 22 = .ok (.iconst (-1), 1) := by decide +kernel
theorem dX11_sheet_23 : decode cX11_sheet 23 = .ok (.if_icmp .ne 16, 3) := by decide +kernel
theorem dX11_sheet_26 : decode cX11_sheet 26 = .ok (.aload_n 0, 1) := by decide +kernel
theorem dX11_sheet_27 : decode cX11_sheet 27 = .ok (.getfield 53, 3) := by decide +kernel
theorem dX11_sheet_30 : decode cX11_sheet 30 = .ok (.iload_n 1, 1) := by decide +kernel
theorem dX11_sheet_31 : decode cX11_sheet 31 = .ok (.aaload, 1) := by decide +kernel
theorem dX11_sheet_32 : decode cX11_sheet 32 = .ok (.iconst (-1), 1) := by decide +kernel
theorem dX11_sheet_33 : decode cX11_sheet 33 = .ok (.iconst 0, 1) := by decide +kernel
theorem dX11_sheet_34 : decode cX11_sheet 34 = .ok (.invokevirtual 364, 3) := by decide +kernel
theorem dX11_sheet_37 : decode cX11_sheet 37 = .ok (.iconst 0, 1) := by decide +kernel
theorem dX11_sheet_38 : decode cX11_sheet 38 = .ok (.ireturn, 1) := by decide +kernel
theorem dX11_sheet_39 : decode cX11_sheet 39 = .ok (.iload_n 3, 1) := by decide +kernel
theorem dX11_sheet_40 : decode cX11_sheet 40 = .ok (.bipush 24, 2) := by decide +kernel
theorem dX11_sheet_42 : decode cX11_sheet 42 = .ok (.if_icmp .le 6, 3) := by decide +kernel
theorem dX11_sheet_45 : decode cX11_sheet 45 = .ok (.ldc 81, 2) := by decide +kernel
theorem dX11_sheet_47 : decode cX11_sheet 47 = .ok (.ireturn, 1) := by decide +kernel
theorem dX11_sheet_48 : decode cX11_sheet 48 = .ok (.iload_n 3, 1) := by decide +kernel
theorem dX11_sheet_49 : decode cX11_sheet 49 = .ok (.ifCond .ge 7, 3) := by decide +kernel
theorem dX11_sheet_52 : decode cX11_sheet 52 = .ok (.ldc_w 367, 3) := by decide +kernel
theorem dX11_sheet_55 : decode cX11_sheet 55 = .ok (.ireturn, 1) := by decide +kernel
theorem dX11_sheet_56 : decode cX11_sheet 56 = .ok (.aload_n 0, 1) := by decide +kernel
theorem dX11_sheet_57 : decode cX11_sheet 57 = .ok (.getfield 53, 3) := by decide +kernel
theorem dX11_sheet_60 : decode cX11_sheet 60 = .ok (.iload_n 1, 1) := by decide +kernel
theorem dX11_sheet_61 : decode cX11_sheet 61 = .ok (.aaload, 1) := by decide +kernel
theorem dX11_sheet_62 : decode cX11_sheet 62 = .ok (.iload_n 2, 1) := by decide +kernel
theorem dX11_sheet_63 : decode cX11_sheet 63 = .ok (.iload_n 3, 1) := by decide +kernel
theorem dX11_sheet_64 : decode cX11_sheet 64 = .ok (.invokevirtual 364, 3) := by decide +kernel
theorem dX11_sheet_67 : decode cX11_sheet 67 = .ok (.iload_n 3, 1) := by decide +kernel
theorem dX11_sheet_68 : decode cX11_sheet 68 = .ok (.ireturn, 1) := by decide +kernel
theorem dX11_mark_0 : decode cX11_mark 0 = .ok (.iload_n 1, 1) := by decide +kernel
theorem dX11_mark_1 : decode cX11_mark 1 = .ok (.iconst 4, 1) := by decide +kernel
theorem dX11_mark_2 : decode cX11_mark 2 = .ok (.invokestatic 82, 3) := by decide +kernel
theorem dX11_mark_5 : decode cX11_mark 5 = .ok (.ifCond .ne 6, 3) := by decide +kernel
theorem dX11_mark_8 : decode cX11_mark 8 = .ok (.ldc 81, 2) := by decide +kernel
theorem dX11_mark_10 : decode cX11_mark 10 = .ok (.ireturn, 1) := by decide +kernel
theorem dX11_mark_11 : decode cX11_mark 11 = .ok (.aload_n 0, 1) := by decide +kernel
theorem dX11_mark_12 : decode cX11_mark 12 = .ok (.getfield 53, 3) := by decide +kernel
theorem dX11_mark_15 : decode cX11_mark 15 = .ok (.iload_n 1, 1) := by decide +kernel
theorem dX11_mark_16 : decode cX11_mark 16 = .ok (.aaload, 1) := by decide +kernel
theorem dX11_mark_17 : decode cX11_mark 17 = .ok (.astore 4, 2) := by decide +kernel
theorem dX11_mark_19 : decode cX11_mark 19 = .ok (.aload 4, 2) := by decide +kernel
theorem dX11_mark_21 : decode cX11_mark 21 = .ok (.getfield 368, 3) := by decide +kernel
theorem dX11_mark_24 : decode cX11_mark 24 = .ok (.iconst (-1), 1) := by decide +kernel
theorem dX11_mark_25 : decode cX11_mark 25 = .ok (.if_icmp .ne 7, 3) := by decide +kernel
theorem dX11_mark_28 : decode cX11_mark 28 = .ok (.ldc_w 369, 3) := by decide +kernel
theorem dX11_mark_31 : decode cX11_mark 31 = .ok (.ireturn, 1) := by decide +kernel
theorem dX11_mark_32 : decode cX11_mark 32 = .ok (.iload_n 2, 1) := by decide +kernel
theorem dX11_mark_33 : decode cX11_mark 33 = .ok (.aload 4, 2) := by decide +kernel
theorem dX11_mark_35 : decode cX11_mark 35 = .ok (.getfield 370, 3) := by decide +kernel
theorem dX11_mark_38 : decode cX11_mark 38 = .ok (.invokestatic 82, 3) := by decide +kernel
theorem dX11_mark_41 : decode cX11_mark 41 = .ok (.ifCond .ne 7, 3) := by decide +kernel
theorem dX11_mark_44 : decode cX11_mark 44 = .ok (.ldc_w 373, 3) := by decide +kernel
theorem dX11_mark_47 : decode cX11_mark 47 = .ok (.ireturn, 1) := by decide +kernel
theorem dX11_mark_48 : decode cX11_mark 48 = .ok (.aload 4, 2) := by decide +kernel
theorem dX11_mark_50 : decode cX11_mark 50 = .ok (.getfield 374, 3) := by decide +kernel
theorem dX11_mark_53 : decode cX11_mark 53 = .ok (.iload_n 2, 1) := by decide +kernel
theorem dX11_mark_54 : decode cX11_mark 54 = .ok (.saload, 1) := by decide +kernel
theorem dX11_mark_55 : decode cX11_mark 55 = .ok (.istore 5, 2) := by decide +kernel
theorem dX11_mark_57 : decode cX11_mark 57 = .ok (.aload 4, 2) := by decide +kernel
theorem dX11_mark_59 : decode cX11_mark 59 = .ok (.iload_n 2, 1) := by decide +kernel
theorem dX11_mark_60 : decode cX11_mark 60 = .ok (.iload_n 3, 1) := by decide +kernel
theorem dX11_mark_61 : decode cX11_mark 61 = .ok (.invokevirtual 378, 3) := by decide +kernel
theorem dX11_mark_64 : decode cX11_mark 64 = .ok (.iload 5, 2) := by decide +kernel
theorem dX11_mark_66 : decode cX11_mark 66 = .ok (.ireturn, 1) := by decide +kernel
theorem dX11_fill_0 : decode cX11_fill 0 = .ok (.aload_n 0, 1) := by decide +kernel
theorem dX11_fill_1 : decode cX11_fill 1 = .ok (.getfield 12, 3) := by decide +kernel
theorem dX11_fill_4 : decode cX11_fill 4 = .ok (.iload_n 1, 1) := by decide +kernel
theorem dX11_fill_5 : decode cX11_fill 5 = .ok (.invokevirtual 175, 3) := by decide +kernel
theorem dX11_fill_8 : decode cX11_fill 8 = .ok (.ifCond .eq 11, 3) := by decide +kernel
theorem dX11_fill_11 : decode cX11_fill 11 = .ok (.iload_n 2, 1) := by decide +kernel
theorem dX11_fill_12 : decode cX11_fill 12 = .ok (.iconst 4, 1) := by decide +kernel
theorem dX11_fill_13 : decode cX11_fill 13 = .ok (.invokestatic 82, 3) := by decide +kernel
theorem dX11_fill_16 : decode cX11_fill 16 = .ok (.ifCond .ne 6, 3) := by decide +kernel
theorem dX11_fill_19 : decode cX11_fill 19 = .ok (.ldc 81, 2) := by decide +kernel
theorem dX11_fill_21 : decode cX11_fill 21 = .ok (.ireturn, 1) := by decide +kernel
theorem dX11_fill_22 : decode cX11_fill 22 = .ok (.aload_n 0, 1) := by decide +kernel
theorem dX11_fill_23 : decode cX11_fill 23 = .ok (.getfield 53, 3) := by decide +kernel
theorem dX11_fill_26 : decode cX11_fill 26 = .ok (.iload_n 2, 1) := by decide +kernel
theorem dX11_fill_27 : decode cX11_fill 27 = .ok (.aaload, 1) := by decide +kernel
theorem dX11_fill_28 : decode cX11_fill 28 = .ok (.getfield 368, 3) := by decide +kernel
theorem dX11_fill_31 : decode cX11_fill 31 = .ok (.iconst (-1), 1) := by decide +kernel
theorem dX11_fill_32 : decode cX11_fill 32 = .ok (.if_icmp .ne 7, 3) := by decide +kernel
theorem dX11_fill_35 : decode cX11_fill 35 = .ok (.ldc_w 369, 3) := by decide +kernel
theorem dX11_fill_38 : decode cX11_fill 38 = .ok (.ireturn, 1) := by decide +kernel
theorem dX11_fill_39 : decode cX11_fill 39 = .ok (.aload_n 0, 1) := by decide +kernel
theorem dX11_fill_40 : decode cX11_fill 40 = .ok (.getfield 40, 3) := by decide +kernel
theorem dX11_fill_43 : decode cX11_fill 43 = .ok (.aload_n 0, 1) := by decide +kernel
theorem dX11_fill_44 : decode cX11_fill 44 = .ok (.getfield 12, 3) := by decide +kernel
theorem dX11_fill_47 : decode cX11_fill 47 = .ok (.invokevirtual 214, 3) := by decide +kernel
theorem dX11_fill_50 : decode cX11_fill 50 = .ok (.aload_n 0, 1) := by decide +kernel
theorem dX11_fill_51 : decode cX11_fill 51 = .ok (.getfield 12, 3) := by decide +kernel
theorem dX11_fill_54 : decode cX11_fill 54 = .ok (.getfield 161, 3) := by decide +kernel
theorem dX11_fill_57 : decode cX11_fill 57 = .ok (.iload_n 1, 1) := by decide +kernel
theorem dX11_fill_58 : decode cX11_fill 58 = .ok (.aaload, 1) := by decide +kernel
theorem dX11_fill_59 : decode cX11_fill 59 = .ok (.aload_n 0, 1) := by decide +kernel
theorem dX11_fill_60 : decode cX11_fill 60 = .ok (.getfield 53, 3) := by decide +kernel
theorem dX11_fill_63 : decode cX11_fill 63 = .ok (.iload_n 2, 1) := by decide +kernel
theorem dX11_fill_64 : decode cX11_fill 64 = .ok (.aaload, 1) := by decide +kernel
theorem dX11_fill_65 : decode cX11_fill 65 = .ok (.invokevirtual 381, 3) := by decide +kernel
theorem dX11_fill_68 : decode cX11_fill 68 = .ok (.aload_n 0, 1) := by decide +kernel
theorem dX11_fill_69 : decode cX11_fill 69 = .ok (.getfield 12, 3) := by decide +kernel
theorem dX11_fill_72 : decode cX11_fill 72 = .ok (.getfield 161, 3) := by decide +kernel
theorem dX11_fill_75 : decode cX11_fill 75 = .ok (.iload_n 1, 1) := by decide +kernel
theorem dX11_fill_76 : decode cX11_fill 76 = .ok (.aaload, 1) := by decide +kernel
theorem dX11_fill_77 : decode cX11_fill 77 = .ok (.getfield 184, 3) := by decide +kernel
theorem dX11_fill_80 : decode cX11_fill 80 = .ok (.ireturn, 1) := by decide +kernel
theorem dX11_copy_0 : decode cX11_copy 0 = .ok (.iload_n 1, 1) := by decide +kernel
theorem dX11_copy_1 : decode cX11_copy 1 = .ok (.iconst 4, 1) := by decide +kernel
theorem dX11_copy_2 : decode cX11_copy 2 = .ok (.invokestatic 82, 3) := by decide +kernel
theorem dX11_copy_5 : decode cX11_copy 5 = .ok (.ifCond .eq 11, 3) := by decide +kernel
theorem dX11_copy_8 : decode cX11_copy 8 = .ok (.iload_n 3, 1) := by decide +kernel
theorem dX11_copy_9 : decode cX11_copy 9 = .ok (.iconst 4, 1) := by decide +kernel
theorem dX11_copy_10 : decode cX11_copy 10 = .ok (.invokestatic 82, 3) := by decide +kernel
theorem dX11_copy_13 : decode cX11_copy 13 = .ok (.ifCond .ne 6, 3) := by decide +kernel
theorem dX11_copy_16 : decode cX11_copy 16 = .ok (.ldc 81, 2) := by decide +kernel
theorem dX11_copy_18 : decode cX11_copy 18 = .ok (.ireturn, 1) := by decide +kernel
theorem dX11_copy_19 : decode cX11_copy 19 = .ok (.aload_n 0, 1) := by decide +kernel
theorem dX11_copy_20 : decode cX11_copy 20 = .ok (.getfield 53, 3) := by decide +kernel
theorem dX11_copy_23 : decode cX11_copy 23 = .ok (.iload_n 1, 1) := by decide +kernel
theorem dX11_copy_24 : decode cX11_copy 24 = .ok (.aaload, 1) := by decide +kernel
theorem dX11_copy_25 : decode cX11_copy 25 = .ok (.astore 6, 2) := by decide +kernel
theorem dX11_copy_27 : decode cX11_copy 27 = .ok (.aload_n 0, 1) := by decide +kernel
theorem dX11_copy_28 : decode cX11_copy 28 = .ok (.getfield 53, 3) := by decide +kernel
theorem dX11_copy_31 : decode cX11_copy 31 = .ok (.iload_n 3, 1) := by decide +kernel
theorem dX11_copy_32 : decode cX11_copy 32 = .ok (.aaload, 1) := by decide +kernel
theorem dX11_copy_33 : decode cX11_copy 33 = .ok (.astore 7, 2) := by decide +kernel
theorem dX11_copy_35 : decode cX11_copy 35 = .ok (.aload 6, 2) := by decide +kernel
theorem dX11_copy_37 : decode cX11_copy 37 = .ok (.getfield 368, 3) := by decide +kernel
theorem dX11_copy_40 : decode cX11_copy 40 = .ok (.iconst (-1), 1) := by decide +kernel
theorem dX11_copy_41 : decode cX11_copy 41 = .ok (.if_icmp .eq 12, 3) := by decide +kernel
theorem dX11_copy_44 : decode cX11_copy 44 = .ok (.aload 7, 2) := by decide +kernel
theorem dX11_copy_46 : decode cX11_copy 46 = .ok (.getfield 368, 3) := by decide +kernel
theorem dX11_copy_49 : decode cX11_copy 49 = .ok (.iconst (-1), 1) := by decide +kernel
theorem dX11_copy_50 : decode cX11_copy 50 = .ok (.if_icmp .ne 7, 3) := by decide +kernel
theorem dX11_copy_53 : decode cX11_copy 53 = .ok (.ldc_w 369, 3) := by decide +kernel
theorem dX11_copy_56 : decode cX11_copy 56 = .ok (.ireturn, 1) := by decide +kernel
theorem dX11_copy_57 : decode cX11_copy 57 = .ok (.aload 6, 2) := by decide +kernel
theorem dX11_copy_59 : decode cX11_copy 59 = .ok (.getfield 368, 3) := by decide +kernel
theorem dX11_copy_62 : decode cX11_copy 62 = .ok (.aload 7, 2) := by decide +kernel
theorem dX11_copy_64 : decode cX11_copy 64 = .ok (.getfield 368, 3) := by decide +kernel
theorem dX11_copy_67 : decode cX11_copy 67 = .ok (.if_icmp .eq 6, 3) := by decide +kernel
theorem dX11_copy_70 : decode cX11_copy 70 = .ok (.ldc 213, 2) := by decide +kernel
theorem dX11_copy_72 : decode cX11_copy 72 = .ok (.ireturn, 1) := by decide +kernel
theorem dX11_copy_73 : decode cX11_copy 73 = .ok (.aload 6, 2) := by decide +kernel
theorem dX11_copy_75 : decode cX11_copy 75 = .ok (.iload_n 2, 1) := by decide +kernel
theorem dX11_copy_76 : decode cX11_copy 76 = .ok (.iload 5, 2) := by decide +kernel
theorem dX11_copy_78 : decode cX11_copy 78 = .ok (.invokevirtual 385, 3) := by decide +kernel
theorem dX11_copy_81 : decode cX11_copy 81 = .ok (.ifCond .eq 15, 3) := by decide +kernel
theorem dX11_copy_84 : decode cX11_copy 84 = .ok (.aload 7, 2) := by decide +kernel
theorem dX11_copy_86 : decode cX11_copy 86 = .ok (.iload 4, 2) := by decide +kernel
theorem dX11_copy_88 : decode cX11_copy 88 = .ok (.iload 5, 2) := by decide +kernel
theorem dX11_copy_90 : decode cX11_copy 90 = .ok (.invokevirtual 385, 3) := by decide +kernel
theorem dX11_copy_93 : decode cX11_copy 93 = .ok (.ifCond .ne 7, 3) := by decide +kernel
theorem dX11_copy_96 : decode cX11_copy 96 = .ok (.ldc_w 373, 3) := by decide +kernel
theorem dX11_copy_99 : decode cX11_copy 99 = .ok (.ireturn, 1) := by decide +kernel
theorem dX11_copy_100 : decode cX11_copy 100 = .ok (.aload 6, 2) := by decide +kernel
theorem dX11_copy_102 : decode cX11_copy 102 = .ok (.getfield 374, 3) := by decide +kernel
theorem dX11_copy_105 : decode cX11_copy 105 = .ok (.iload_n 2, 1) := by decide +kernel
theorem dX11_copy_106 : decode cX11_copy 106 = .ok (.aload 7, 2) := by decide +kernel
theorem dX11_copy_108 : decode cX11_copy 108 = .ok (.getfield 374, 3) := by decide +kernel
theorem dX11_copy_111 : decode cX11_copy 111 = .ok (.iload 4, 2) := by decide +kernel
theorem dX11_copy_113 : decode cX11_copy 113 = .ok (.iload 5, 2) := by decide +kernel
theorem dX11_copy_115 : decode cX11_copy 115 = .ok (.invokestatic 388, 3) := by decide +kernel
theorem dX11_copy_118 : decode cX11_copy 118 = .ok (.iload 5, 2) := by decide +kernel
theorem dX11_copy_120 : decode cX11_copy 120 = .ok (.ireturn, 1) := by decide +kernel
theorem dX11_lay_0 : decode cX11_lay 0 = .ok (.iload_n 1, 1) := by decide +kernel
theorem dX11_lay_1 : decode cX11_lay 1 = .ok (.iconst 5, 1) := by decide +kernel
theorem dX11_lay_2 : decode cX11_lay 2 = .ok (.invokestatic 82, 3) := by decide +kernel
theorem dX11_lay_5 : decode cX11_lay 5 = .ok (.ifCond .eq 11, 3) := by decide +kernel
theorem dX11_lay_8 : decode cX11_lay 8 = .ok (.iload_n 2, 1) := by decide +kernel
theorem dX11_lay_9 : decode cX11_lay 9 = .ok (.iconst 4, 1) := by decide +kernel
theorem dX11_lay_10 : decode cX11_lay 10 = .ok (.invokestatic 82, 3) := by decide +kernel
theorem dX11_lay_13 : decode cX11_lay 13 = .ok (.ifCond .ne 6, 3) := by decide +kernel
theorem dX11_lay_16 : decode cX11_lay 16 = .ok (.ldc 81, 2) := by decide +kernel
theorem dX11_lay_18 : decode cX11_lay 18 = .ok (.ireturn, 1) := by decide +kernel
theorem dX11_lay_19 : decode cX11_lay 19 = .ok (.iload_n 2, 1) := by decide +kernel
theorem dX11_lay_20 : decode cX11_lay 20 = .ok (.iconst 1, 1) := by decide +kernel
theorem dX11_lay_21 : decode cX11_lay 21 = .ok (.if_icmp .ne 14, 3) := by decide +kernel
theorem dX11_lay_24 : decode cX11_lay 24 = .ok (.aload_n 0, 1) := by decide +kernel
theorem dX11_lay_25 : decode cX11_lay 25 = .ok (.getfield 12, 3) := by decide +kernel
theorem dX11_lay_28 : decode cX11_lay 28 = .ok (.iload_n 3, 1) := by decide +kernel
theorem dX11_lay_29 : decode cX11_lay 29 = .ok (.invokevirtual 175, 3) := by decide +kernel
theorem dX11_lay_32 : decode cX11_lay 32 = .ok (.ifCond .eq 16, 3) := by decide +kernel
theorem dX11_lay_35 : decode cX11_lay 35 = .ok (.iload_n 2, 1) := by decide +kernel
theorem dX11_lay_36 : decode cX11_lay 36 = .ok (.iconst 2, 1) := by decide +kernel
theorem dX11_lay_37 : decode cX11_lay 37 = .ok (.if_icmp .ne 14, 3) := by decide +kernel
theorem dX11_lay_40 : decode cX11_lay 40 = .ok (.iload_n 3, 1) := by decide +kernel
theorem dX11_lay_41 : decode cX11_lay 41 = .ok (.iconst 4, 1) := by decide +kernel
theorem dX11_lay_42 : decode cX11_lay 42 = .ok (.invokestatic 82, 3) := by decide +kernel
theorem dX11_lay_45 : decode cX11_lay 45 = .ok (.ifCond .ne 6, 3) := by decide +kernel
theorem dX11_lay_48 : decode cX11_lay 48 = .ok (.ldc 81, 2) := by decide +kernel
theorem dX11_lay_50 : decode cX11_lay 50 = .ok (.ireturn, 1) := by decide +kernel
theorem dX11_lay_51 : decode cX11_lay 51 = .ok (.iload_n 2, 1) := by decide +kernel
theorem dX11_lay_52 : decode cX11_lay 52 = .ok (.iconst 2, 1) := by decide +kernel
theorem dX11_lay_53 : decode cX11_lay 53 = .ok (.if_icmp .ne 20, 3) := by decide +kernel
theorem dX11_lay_56 : decode cX11_lay 56 = .ok (.aload_n 0, 1) := by decide +kernel
theorem dX11_lay_57 : decode cX11_lay 57 = .ok (.getfield 53, 3) := by decide +kernel
theorem dX11_lay_60 : decode cX11_lay 60 = .ok (.iload_n 3, 1) := by decide +kernel
theorem dX11_lay_61 : decode cX11_lay 61 = .ok (.aaload, 1) := by decide +kernel
theorem dX11_lay_62 : decode cX11_lay 62 = .ok (.getfield 368, 3) := by decide +kernel
theorem dX11_lay_65 : decode cX11_lay 65 = .ok (.iconst (-1), 1) := by decide +kernel
theorem dX11_lay_66 : decode cX11_lay 66 = .ok (.if_icmp .ne 7, 3) := by decide +kernel
theorem dX11_lay_69 : decode cX11_lay 69 = .ok (.ldc_w 369, 3) := by decide +kernel
theorem dX11_lay_72 : decode cX11_lay 72 = .ok (.ireturn, 1) := by decide +kernel
theorem dX11_lay_73 : decode cX11_lay 73 = .ok (.aload_n 0, 1) := by decide +kernel
theorem dX11_lay_74 : decode cX11_lay 74 = .ok (.getfield 59, 3) := by decide +kernel
theorem dX11_lay_77 : decode cX11_lay 77 = .ok (.iload_n 1, 1) := by decide +kernel
theorem dX11_lay_78 : decode cX11_lay 78 = .ok (.aaload, 1) := by decide +kernel
theorem dX11_lay_79 : decode cX11_lay 79 = .ok (.astore 4, 2) := by decide +kernel
theorem dX11_lay_81 : decode cX11_lay 81 = .ok (.aload 4, 2) := by decide +kernel
theorem dX11_lay_83 : decode cX11_lay 83 = .ok (.getfield 394, 3) := by decide +kernel
theorem dX11_lay_86 : decode cX11_lay 86 = .ok (.istore 5, 2) := by decide +kernel
theorem dX11_lay_88 : decode cX11_lay 88 = .ok (.aload 4, 2) := by decide +kernel
theorem dX11_lay_90 : decode cX11_lay 90 = .ok (.iload_n 2, 1) := by decide +kernel
theorem dX11_lay_91 : decode cX11_lay 91 = .ok (.putfield 394, 3) := by decide +kernel
theorem dX11_lay_94 : decode cX11_lay 94 = .ok (.iload_n 2, 1) := by decide +kernel
theorem dX11_lay_95 : decode cX11_lay 95 = .ok (.iconst 1, 1) := by decide +kernel
theorem dX11_lay_96 : decode cX11_lay 96 = .ok (.if_icmp .ne 40, 3) := by decide +kernel
theorem dX11_lay_99 : decode cX11_lay 99 = .ok (.aload 4, 2) := by decide +kernel
theorem dX11_lay_101 : decode cX11_lay 101 = .ok (.aload_n 0, 1) := by decide +kernel
theorem dX11_lay_102 : decode cX11_lay 102 = .ok (.getfield 12, 3) := by decide +kernel
theorem dX11_lay_105 : decode cX11_lay 105 = .ok (.getfield 161, 3) := by decide +kernel
theorem dX11_lay_108 : decode cX11_lay 108 = .ok (.iload_n 3, 1) := by decide +kernel
theorem dX11_lay_109 : decode cX11_lay 109 = .ok (.aaload, 1) := by decide +kernel
theorem dX11_lay_110 : decode cX11_lay 110 = .ok (.getfield 181, 3) := by decide +kernel
theorem dX11_lay_113 : decode cX11_lay 113 = .ok (.putfield 397, 3) := by decide +kernel
theorem dX11_lay_116 : decode cX11_lay 116 = .ok (.aload 4, 2) := by decide +kernel
theorem dX11_lay_118 : decode cX11_lay 118 = .ok (.aload_n 0, 1) := by decide +kernel
theorem dX11_lay_119 : decode cX11_lay 119 = .ok (.getfield 12, 3) := by decide +kernel
theorem dX11_lay_122 : decode cX11_lay 122 = .ok (.getfield 161, 3) := by decide +kernel
theorem dX11_lay_125 : decode cX11_lay 125 = .ok (.iload_n 3, 1) := by decide +kernel
theorem dX11_lay_126 : decode cX11_lay 126 = .ok (.aaload, 1) := by decide +kernel
theorem dX11_lay_127 : decode cX11_lay 127 = .ok (.getfield 184, 3) := by decide +kernel
theorem dX11_lay_130 : decode cX11_lay 130 = .ok (.putfield 398, 3) := by decide +kernel
theorem dX11_lay_133 : decode cX11_lay 133 = .ok (.goto 31, 3) := by decide +kernel
theorem dX11_lay_136 : decode cX11_lay 136 = .ok (.iload_n 2, 1) := by decide +kernel
theorem dX11_lay_137 : decode cX11_lay 137 = .ok (.iconst 2, 1) := by decide +kernel
theorem dX11_lay_138 : decode cX11_lay 138 = .ok (.if_icmp .ne 20, 3) := by decide +kernel
theorem dX11_lay_141 : decode cX11_lay 141 = .ok (.aload 4, 2) := by decide +kernel
theorem dX11_lay_143 : decode cX11_lay 143 = .ok (.getfield 399, 3) := by decide +kernel
theorem dX11_lay_146 : decode cX11_lay 146 = .ok (.aload_n 0, 1) := by decide +kernel
theorem dX11_lay_147 : decode cX11_lay 147 = .ok (.getfield 53, 3) := by decide +kernel
theorem dX11_lay_150 : decode cX11_lay 150 = .ok (.iload_n 3, 1) := by decide +kernel
theorem dX11_lay_151 : decode cX11_lay 151 = .ok (.aaload, 1) := by decide +kernel
theorem dX11_lay_152 : decode cX11_lay 152 = .ok (.invokevirtual 403, 3) := by decide +kernel
theorem dX11_lay_155 : decode cX11_lay 155 = .ok (.goto 9, 3) := by decide +kernel
theorem dX11_lay_158 : decode cX11_lay 158 = .ok (.aload 4, 2) := by decide +kernel
theorem dX11_lay_160 : decode cX11_lay 160 = .ok (.iload_n 3, 1) := by decide +kernel
theorem dX11_lay_161 : decode cX11_lay 161 = .ok (.putfield 406, 3) := by decide +kernel
theorem dX11_lay_164 : decode cX11_lay 164 = .ok (.iload 5, 2) := by decide +kernel
theorem dX11_lay_166 : decode cX11_lay 166 = .ok (.ireturn, 1) := by decide +kernel
theorem dX11_ask_0 : decode cX11_ask 0 = .ok (.iload_n 1, 1) := by decide +kernel
theorem dX11_ask_1 : decode cX11_ask 1 = .ok (.iconst 5, 1) := by decide +kernel
theorem dX11_ask_2 : decode cX11_ask 2 = .ok (.invokestatic 82, 3) := by decide +kernel
theorem dX11_ask_5 : decode cX11_ask 5 = .ok (.ifCond .eq 12, 3) := by decide +kernel
theorem dX11_ask_8 : decode cX11_ask 8 = .ok (.iload_n 2, 1) := by decide +kernel
theorem dX11_ask_9 : decode cX11_ask 9 = .ok (.bipush 6, 2) := by decide +kernel
theorem dX11_ask_11 : decode cX11_ask 11 = .ok (.invokestatic 82, 3) := by decide +kernel
theorem dX11_ask_14 : decode cX11_ask 14 = .ok (.ifCond .ne 6, 3) := by decide +kernel
theorem dX11_ask_17 : decode cX11_ask 17 = .ok (.ldc 81, 2) := by decide +kernel
theorem dX11_ask_19 : decode cX11_ask 19 = .ok (.ireturn, 1) := by decide +kernel
theorem dX11_ask_20 : decode cX11_ask 20 = .ok (.aload_n 0, 1) := by decide +kernel
theorem dX11_ask_21 : decode cX11_ask 21 = .ok (.getfield 59, 3) := by decide +kernel
theorem dX11_ask_24 : decode cX11_ask 24 = .ok (.iload_n 1, 1) := by decide +kernel
theorem dX11_ask_25 : decode cX11_ask 25 = .ok (.aaload, 1) := by decide +kernel
theorem dX11_ask_26 : decode cX11_ask 26 = .ok (.astore_n 3, 1) := by decide +kernel
theorem dX11_ask_27 : decode cX11_ask 27 = .ok (.aload_n 3, 1) := by decide +kernel
theorem dX11_ask_28 : decode cX11_ask 28 = .ok (.getfield 394, 3) := by decide +kernel
theorem dX11_ask_31 : decode cX11_ask 31 = .ok (.ifCond .ne 7, 3) := by decide +kernel
theorem dX11_ask_34 : decode cX11_ask 34 = .ok (.ldc_w 369, 3) := by decide +kernel
theorem dX11_ask_37 : decode cX11_ask 37 = .ok (.ireturn, 1) := by decide +kernel
theorem dX11_ask_38 : decode cX11_ask 38 = .ok (.aload_n 3, 1) := by decide +kernel
theorem dX11_ask_39 : decode cX11_ask 39 = .ok (.getfield 394, 3) := by decide +kernel
theorem dX11_ask_42 : decode cX11_ask 42 = .ok (.iconst 1, 1) := by decide +kernel
theorem dX11_ask_43 : decode cX11_ask 43 = .ok (.if_icmp .ne 14, 3) := by decide +kernel
theorem dX11_ask_46 : decode cX11_ask 46 = .ok (.aload_n 3, 1) := by decide +kernel
theorem dX11_ask_47 : decode cX11_ask 47 = .ok (.getfield 397, 3) := by decide +kernel
theorem dX11_ask_50 : decode cX11_ask 50 = .ok (.iload_n 2, 1) := by decide +kernel
theorem dX11_ask_51 : decode cX11_ask 51 = .ok (.invokestatic 210, 3) := by decide +kernel
theorem dX11_ask_54 : decode cX11_ask 54 = .ok (.ifCond .ne 6, 3) := by decide +kernel
theorem dX11_ask_57 : decode cX11_ask 57 = .ok (.ldc 213, 2) := by decide +kernel
theorem dX11_ask_59 : decode cX11_ask 59 = .ok (.ireturn, 1) := by decide +kernel
theorem dX11_ask_60 : decode cX11_ask 60 = .ok (.aload_n 3, 1) := by decide +kernel
theorem dX11_ask_61 : decode cX11_ask 61 = .ok (.getfield 397, 3) := by decide +kernel
theorem dX11_ask_64 : decode cX11_ask 64 = .ok (.aload_n 3, 1) := by decide +kernel
theorem dX11_ask_65 : decode cX11_ask 65 = .ok (.getfield 398, 3) := by decide +kernel
theorem dX11_ask_68 : decode cX11_ask 68 = .ok (.invokestatic 193, 3) := by decide +kernel
theorem dX11_ask_71 : decode cX11_ask 71 = .ok (.ireturn, 1) := by decide +kernel
theorem dX11_item_0 : decode cX11_item 0 = .ok (.iload_n 1, 1) := by decide +kernel
theorem dX11_item_1 : decode cX11_item 1 = .ok (.iconst 5, 1) := by decide +kernel
theorem dX11_item_2 : decode cX11_item 2 = .ok (.invokestatic 82, 3) := by decide +kernel
theorem dX11_item_5 : decode cX11_item 5 = .ok (.ifCond .ne 6, 3) := by decide +kernel
theorem dX11_item_8 : decode cX11_item 8 = .ok (.ldc 81, 2) := by decide +kernel
theorem dX11_item_10 : decode cX11_item 10 = .ok (.ireturn, 1) := by decide +kernel
theorem dX11_item_11 : decode cX11_item 11 = .ok (.aload_n 0, 1) := by decide +kernel
theorem dX11_item_12 : decode cX11_item 12 = .ok (.getfield 59, 3) := by decide +kernel
theorem dX11_item_15 : decode cX11_item 15 = .ok (.iload_n 1, 1) := by decide +kernel
theorem dX11_item_16 : decode cX11_item 16 = .ok (.aaload, 1) := by decide +kernel
theorem dX11_item_17 : decode cX11_item 17 = .ok (.astore_n 3, 1) := by decide +kernel
theorem dX11_item_18 : decode cX11_item 18 = .ok (.aload_n 3, 1) := by decide +kernel
theorem dX11_item_19 : decode cX11_item 19 = .ok (.getfield 394, 3) := by decide +kernel
theorem dX11_item_22 : decode cX11_item 22 = .ok (.ifCond .ne 7, 3) := by decide +kernel
theorem dX11_item_25 : decode cX11_item 25 = .ok (.ldc_w 369, 3) := by decide +kernel
theorem dX11_item_28 : decode cX11_item 28 = .ok (.ireturn, 1) := by decide +kernel
theorem dX11_item_29 : decode cX11_item 29 = .ok (.aload_n 3, 1) := by decide +kernel
theorem dX11_item_30 : decode cX11_item 30 = .ok (.getfield 394, 3) := by decide +kernel
theorem dX11_item_33 : decode cX11_item 33 = .ok (.iconst 2, 1) := by decide +kernel
theorem dX11_item_34 : decode cX11_item 34 = .ok (.if_icmp .eq 6, 3) := by decide +kernel
theorem dX11_item_37 : decode cX11_item 37 = .ok (.ldc 213, 2) := by decide +kernel
theorem dX11_item_39 : decode cX11_item 39 = .ok (.ireturn, 1) := by decide +kernel
theorem dX11_item_40 : decode cX11_item 40 = .ok (.iload_n 2, 1) := by decide +kernel
theorem dX11_item_41 : decode cX11_item 41 = .ok (.aload_n 3, 1) := by decide +kernel
theorem dX11_item_42 : decode cX11_item 42 = .ok (.getfield 399, 3) := by decide +kernel
theorem dX11_item_45 : decode cX11_item 45 = .ok (.getfield 370, 3) := by decide +kernel
theorem dX11_item_48 : decode cX11_item 48 = .ok (.invokestatic 82, 3) := by decide +kernel
theorem dX11_item_51 : decode cX11_item 51 = .ok (.ifCond .eq 15, 3) := by decide +kernel
theorem dX11_item_54 : decode cX11_item 54 = .ok (.aload_n 3, 1) := by decide +kernel
theorem dX11_item_55 : decode cX11_item 55 = .ok (.getfield 399, 3) := by decide +kernel
theorem dX11_item_58 : decode cX11_item 58 = .ok (.getfield 374, 3) := by decide +kernel
theorem dX11_item_61 : decode cX11_item 61 = .ok (.iload_n 2, 1) := by decide +kernel
theorem dX11_item_62 : decode cX11_item 62 = .ok (.saload, 1) := by decide +kernel
theorem dX11_item_63 : decode cX11_item 63 = .ok (.goto 6, 3) := by decide +kernel
theorem dX11_item_66 : decode cX11_item 66 = .ok (.ldc_w 373, 3) := by decide +kernel
theorem dX11_item_69 : decode cX11_item 69 = .ok (.ireturn, 1) := by decide +kernel
theorem dX11_rest_0 : decode cX11_rest 0 = .ok (.iload_n 1, 1) := by decide +kernel
theorem dX11_rest_1 : decode cX11_rest 1 = .ok (.iconst 5, 1) := by decide +kernel
theorem dX11_rest_2 : decode cX11_rest 2 = .ok (.invokestatic 82, 3) := by decide +kernel
theorem dX11_rest_5 : decode cX11_rest 5 = .ok (.ifCond .ne 6, 3) := by decide +kernel
theorem dX11_rest_8 : decode cX11_rest 8 = .ok (.ldc 81, 2) := by decide +kernel
theorem dX11_rest_10 : decode cX11_rest 10 = .ok (.ireturn, 1) := by decide +kernel
theorem dX11_rest_11 : decode cX11_rest 11 = .ok (.aload_n 0, 1) := by decide +kernel
theorem dX11_rest_12 : decode cX11_rest 12 = .ok (.getfield 59, 3) := by decide +kernel
theorem dX11_rest_15 : decode cX11_rest 15 = .ok (.iload_n 1, 1) := by decide +kernel
theorem dX11_rest_16 : decode cX11_rest 16 = .ok (.aaload, 1) := by decide +kernel
theorem dX11_rest_17 : decode cX11_rest 17 = .ok (.astore_n 3, 1) := by decide +kernel
theorem dX11_rest_18 : decode cX11_rest 18 = .ok (.aload_n 3, 1) := by decide +kernel
theorem dX11_rest_19 : decode cX11_rest 19 = .ok (.getfield 394, 3) := by decide +kernel
theorem dX11_rest_22 : decode cX11_rest 22 = .ok (.ifCond .ne 7, 3) := by decide +kernel
theorem dX11_rest_25 : decode cX11_rest 25 = .ok (.ldc_w 369, 3) := by decide +kernel
theorem dX11_rest_28 : decode cX11_rest 28 = .ok (.ireturn, 1) := by decide +kernel
theorem dX11_rest_29 : decode cX11_rest 29 = .ok (.aload_n 3, 1) := by decide +kernel
theorem dX11_rest_30 : decode cX11_rest 30 = .ok (.getfield 394, 3) := by decide +kernel
theorem dX11_rest_33 : decode cX11_rest 33 = .ok (.iconst 3, 1) := by decide +kernel
theorem dX11_rest_34 : decode cX11_rest 34 = .ok (.if_icmp .eq 6, 3) := by decide +kernel
theorem dX11_rest_37 : decode cX11_rest 37 = .ok (.ldc 213, 2) := by decide +kernel
theorem dX11_rest_39 : decode cX11_rest 39 = .ok (.ireturn, 1) := by decide +kernel
theorem dX11_rest_40 : decode cX11_rest 40 = .ok (.iload_n 2, 1) := by decide +kernel
theorem dX11_rest_41 : decode cX11_rest 41 = .ok (.ifCond .ne 8, 3) := by decide +kernel
theorem dX11_rest_44 : decode cX11_rest 44 = .ok (.ldc 100, 2) := by decide +kernel
theorem dX11_rest_46 : decode cX11_rest 46 = .ok (.goto 9, 3) := by decide +kernel
theorem dX11_rest_49 : decode cX11_rest 49 = .ok (.aload_n 3, 1) := by decide +kernel
theorem dX11_rest_50 : decode cX11_rest 50 = .ok (.getfield 406, 3) := by decide +kernel
theorem dX11_rest_53 : decode cX11_rest 53 = .ok (.iload_n 2, 1) := by decide +kernel
theorem dX11_rest_54 : decode cX11_rest 54 = .ok (.irem, 1) := by decide +kernel
theorem dX11_rest_55 : decode cX11_rest 55 = .ok (.ireturn, 1) := by decide +kernel
theorem dX11_tell_0 : decode cX11_tell 0 = .ok (.aload_n 0, 1) := by decide +kernel
theorem dX11_tell_1 : decode cX11_tell 1 = .ok (.getfield 67, 3) := by decide +kernel
theorem dX11_tell_4 : decode cX11_tell 4 = .ok (.bipush 60, 2) := by decide +kernel
theorem dX11_tell_6 : decode cX11_tell 6 = .ok (.if_icmp .lt 6, 3) := by decide +kernel
theorem dX11_tell_9 : decode cX11_tell 9 = .ok (.ldc 76, 2) := by decide +kernel
theorem dX11_tell_11 : decode cX11_tell 11 = .ok (.ireturn, 1) := by decide +kernel
theorem dX11_tell_12 : decode cX11_tell 12 = .ok (.aload_n 0, 1) := by decide +kernel
theorem dX11_tell_13 : decode cX11_tell 13 = .ok (.getfield 63, 3) := by decide +kernel
theorem dX11_tell_16 : decode cX11_tell 16 = .ok (.aload_n 0, 1) := by decide +kernel
theorem dX11_tell_17 : decode cX11_tell 17 = .ok (.getfield 67, 3) := by decide +kernel
theorem dX11_tell_20 : decode cX11_tell 20 = .ok (.iload_n 1, 1) := by decide +kernel
theorem dX11_tell_21 : decode cX11_tell 21 = .ok (.iastore, 1) := by decide +kernel
theorem dX11_tell_22 : decode cX11_tell 22 = .ok (.aload_n 0, 1) := by decide +kernel
theorem dX11_tell_23 : decode cX11_tell 23 = .ok (.dup, 1) := by decide +kernel
theorem dX11_tell_24 : decode cX11_tell 24 = .ok (.getfield 67, 3) := by decide +kernel
theorem dX11_tell_27 : decode cX11_tell 27 = .ok (.iconst 1, 1) := by decide +kernel
theorem dX11_tell_28 : decode cX11_tell 28 = .ok (.iadd, 1) := by decide +kernel
theorem dX11_tell_29 : decode cX11_tell 29 = .ok (.putfield 67, 3) := by decide +kernel
theorem dX11_tell_32 : decode cX11_tell 32 = .ok (.aload_n 0, 1) := by decide +kernel
theorem dX11_tell_33 : decode cX11_tell 33 = .ok (.getfield 67, 3) := by decide +kernel
theorem dX11_tell_36 : decode cX11_tell 36 = .ok (.ireturn, 1) := by decide +kernel
theorem dX11_check_0 : decode cX11_check 0 = .ok (.aload_n 0, 1) := by decide +kernel
theorem dX11_check_1 : decode cX11_check 1 = .ok (.getfield 67, 3) := by decide +kernel
theorem dX11_check_4 : decode cX11_check 4 = .ok (.istore_n 2, 1) := by decide +kernel
theorem dX11_check_5 : decode cX11_check 5 = .ok (.aload_n 0, 1) := by decide +kernel
theorem dX11_check_6 : decode cX11_check 6 = .ok (.iconst 0, 1) := by decide +kernel
theorem dX11_check_7 : decode cX11_check 7 = .ok (.putfield 67, 3) := by decide +kernel
theorem dX11_check_10 : decode cX11_check 10 = .ok (.iload_n 1, 1) := by decide +kernel
theorem dX11_check_11 : decode cX11_check 11 = .ok (.iconst 1, 1) := by decide +kernel
theorem dX11_check_12 : decode cX11_check 12 = .ok (.if_icmp .lt 9, 3) := by decide +kernel
theorem dX11_check_15 : decode cX11_check 15 = .ok (.iload_n 1, 1) := by decide +kernel
theorem dX11_check_16 : decode cX11_check 16 = .ok (.bipush 30, 2) := by decide +kernel
theorem dX11_check_18 : decode cX11_check 18 = .ok (.if_icmp .le 6, 3) := by decide +kernel
theorem dX11_check_21 : decode cX11_check 21 = .ok (.ldc 81, 2) := by decide +kernel
theorem dX11_check_23 : decode cX11_check 23 = .ok (.ireturn, 1) := by decide +kernel
theorem dX11_check_24 : decode cX11_check 24 = .ok (.aload_n 0, 1) := by decide +kernel
theorem dX11_check_25 : decode cX11_check 25 = .ok (.getfield 19, 3) := by decide +kernel
theorem dX11_check_28 : decode cX11_check 28 = .ok (.ifCond .eq 23, 3) := by decide +kernel
theorem dX11_check_31 : decode cX11_check 31 = .ok (.aload_n 0, 1) := by decide +kernel
theorem dX11_check_32 : decode cX11_check 32 = .ok (.getfield 16, 3) := by decide +kernel
theorem dX11_check_35 : decode cX11_check 35 = .ok (.getfield 73, 3) := by decide +kernel
theorem dX11_check_38 : decode cX11_check 38 = .ok (.ifCond .eq 13, 3) := by decide +kernel
theorem dX11_check_41 : decode cX11_check 41 = .ok (.aload_n 0, 1) := by decide +kernel
theorem dX11_check_42 : decode cX11_check 42 = .ok (.getfield 16, 3) := by decide +kernel
theorem dX11_check_45 : decode cX11_check 45 = .ok (.getfield 137, 3) := by decide +kernel
theorem dX11_check_48 : decode cX11_check 48 = .ok (.ifCond .ne 6, 3) := by decide +kernel
theorem dX11_check_51 : decode cX11_check 51 = .ok (.ldc 100, 2) := by decide +kernel
theorem dX11_check_53 : decode cX11_check 53 = .ok (.ireturn, 1) := by decide +kernel
theorem dX11_check_54 : decode cX11_check 54 = .ok (.aload_n 0, 1) := by decide +kernel
theorem dX11_check_55 : decode cX11_check 55 = .ok (.getfield 16, 3) := by decide +kernel
theorem dX11_check_58 : decode cX11_check 58 = .ok (.getfield 351, 3) := by decide +kernel
theorem dX11_check_61 : decode cX11_check 61 = .ok (.istore_n 3, 1) := by decide +kernel
theorem dX11_check_62 : decode cX11_check 62 = .ok (.aload_n 0, 1) := by decide +kernel
theorem dX11_check_63 : decode cX11_check 63 = .ok (.aload_n 0, 1) := by decide +kernel
theorem dX11_check_64 : decode cX11_check 64 = .ok (.getfield 16, 3) := by decide +kernel
theorem dX11_check_67 : decode cX11_check 67 = .ok (.invokevirtual 354, 3) := by decide +kernel
theorem dX11_check_70 : decode cX11_check 70 = .ok (.aload_n 0, 1) := by decide +kernel
theorem dX11_check_71 : decode cX11_check 71 = .ok (.iload_n 1, 1) := by decide +kernel
theorem dX11_check_72 : decode cX11_check 72 = .ok (.iload_n 2, 1) := by decide +kernel
theorem dX11_check_73 : decode cX11_check 73 = .ok (.invokevirtual 409, 3) := by decide +kernel
theorem dX11_check_76 : decode cX11_check 76 = .ok (.istore 4, 2) := by decide +kernel
theorem dX11_check_78 : decode cX11_check 78 = .ok (.aload_n 0, 1) := by decide +kernel
theorem dX11_check_79 : decode cX11_check 79 = .ok (.getfield 16, 3) := by decide +kernel
theorem dX11_check_82 : decode cX11_check 82 = .ok (.iload_n 3, 1) := by decide +kernel
theorem dX11_check_83 : decode cX11_check 83 = .ok (.putfield 351, 3) := by decide +kernel
theorem dX11_check_86 : decode cX11_check 86 = .ok (.iload 4, 2) := by decide +kernel
theorem dX11_check_88 : decode cX11_check 88 = .ok (.iconst 2, 1) := by decide +kernel
theorem dX11_check_89 : decode cX11_check 89 = .ok (.iload_n 1, 1) := by decide +kernel
theorem dX11_check_90 : decode cX11_check 90 = .ok (.imul, 1) := by decide +kernel
theorem dX11_check_91 : decode cX11_check 91 = .ok (.if_icmp .ne 14, 3) := by decide +kernel
theorem dX11_check_94 : decode cX11_check 94 = .ok (.iload_n 2, 1) := by decide +kernel
theorem dX11_check_95 : decode cX11_check 95 = .ok (.iconst 2, 1) := by decide +kernel
theorem dX11_check_96 : decode cX11_check 96 = .ok (.iload_n 1, 1) := by decide +kernel
theorem dX11_check_97 : decode cX11_check 97 = .ok (.imul, 1) := by decide +kernel
theorem dX11_check_98 : decode cX11_check 98 = .ok (.if_icmp .ne 7, 3) := by decide +kernel
theorem dX11_check_101 : decode cX11_check 101 = .ok (.iconst 0, 1) := by decide +kernel
theorem dX11_check_102 : decode cX11_check 102 = .ok (.goto 7, 3) := by decide +kernel
theorem dX11_check_105 : decode cX11_check 105 = .ok (.iconst 1, 1) := by decide +kernel
theorem dX11_check_106 : decode cX11_check 106 = .ok (.iload 4, 2) := by decide +kernel
theorem dX11_check_108 : decode cX11_check 108 = .ok (.iadd, 1) := by decide +kernel
theorem dX11_check_109 : decode cX11_check 109 = .ok (.ireturn, 1) := by decide +kernel
theorem dX11_keep_0 : decode cX11_keep 0 = .ok (.aload_n 0, 1) := by decide +kernel
theorem dX11_keep_1 : decode cX11_keep 1 = .ok (.getfield 16, 3) := by decide +kernel
theorem dX11_keep_4 : decode cX11_keep 4 = .ok (.aload_n 0, 1) := by decide +kernel
theorem dX11_keep_5 : decode cX11_keep 5 = .ok (.getfield 12, 3) := by decide +kernel
theorem dX11_keep_8 : decode cX11_keep 8 = .ok (.invokevirtual 412, 3) := by decide +kernel
theorem dX11_keep_11 : decode cX11_keep 11 = .ok (.aload_n 0, 1) := by decide +kernel
theorem dX11_keep_12 : decode cX11_keep 12 = .ok (.iconst 1, 1) := by decide +kernel
theorem dX11_keep_13 : decode cX11_keep 13 = .ok (.putfield 19, 3) := by decide +kernel
theorem dX11_keep_16 : decode cX11_keep 16 = .ok (.aload_n 0, 1) := by decide +kernel
theorem dX11_keep_17 : decode cX11_keep 17 = .ok (.getfield 12, 3) := by decide +kernel
theorem dX11_keep_20 : decode cX11_keep 20 = .ok (.getfield 158, 3) := by decide +kernel
theorem dX11_keep_23 : decode cX11_keep 23 = .ok (.ireturn, 1) := by decide +kernel
theorem dX11_back_0 : decode cX11_back 0 = .ok (.aload_n 0, 1) := by decide +kernel
theorem dX11_back_1 : decode cX11_back 1 = .ok (.getfield 19, 3) := by decide +kernel
theorem dX11_back_4 : decode cX11_back 4 = .ok (.ifCond .ne 6, 3) := by decide +kernel
theorem dX11_back_7 : decode cX11_back 7 = .ok (.ldc 100, 2) := by decide +kernel
theorem dX11_back_9 : decode cX11_back 9 = .ok (.ireturn, 1) := by decide +kernel
theorem dX11_back_10 : decode cX11_back 10 = .ok (.aload_n 0, 1) := by decide +kernel
theorem dX11_back_11 : decode cX11_back 11 = .ok (.getfield 12, 3) := by decide +kernel
theorem dX11_back_14 : decode cX11_back 14 = .ok (.aload_n 0, 1) := by decide +kernel
theorem dX11_back_15 : decode cX11_back 15 = .ok (.getfield 16, 3) := by decide +kernel
theorem dX11_back_18 : decode cX11_back 18 = .ok (.invokevirtual 412, 3) := by decide +kernel
theorem dX11_back_21 : decode cX11_back 21 = .ok (.aload_n 0, 1) := by decide +kernel
theorem dX11_back_22 : decode cX11_back 22 = .ok (.getfield 40, 3) := by decide +kernel
theorem dX11_back_25 : decode cX11_back 25 = .ok (.invokevirtual 172, 3) := by decide +kernel
theorem dX11_back_28 : decode cX11_back 28 = .ok (.aload_n 0, 1) := by decide +kernel
theorem dX11_back_29 : decode cX11_back 29 = .ok (.getfield 12, 3) := by decide +kernel
theorem dX11_back_32 : decode cX11_back 32 = .ok (.getfield 158, 3) := by decide +kernel
theorem dX11_back_35 : decode cX11_back 35 = .ok (.ireturn, 1) := by decide +kernel
theorem dX11_count_0 : decode cX11_count 0 = .ok (.iload_n 1, 1) := by decide +kernel
theorem dX11_count_1 : decode cX11_count 1 = .ok (.tableswitch 168 0 12 #[67, 75, 83, 91, 99, 107, 115, 123, 131, 136, 144, 152, 160], 67) := by decide +kernel
theorem dX11_count_68 : decode cX11_count 68 = .ok (.aload_n 0, 1) := by decide +kernel
theorem dX11_count_69 : decode cX11_count 69 = .ok (.getfield 12, 3) := by decide +kernel
theorem dX11_count_72 : decode cX11_count 72 = .ok (.getfield 73, 3) := by decide +kernel
theorem dX11_count_75 : decode cX11_count 75 = .ok (.ireturn, 1) := by decide +kernel
theorem dX11_count_76 : decode cX11_count 76 = .ok (.aload_n 0, 1) := by decide +kernel
theorem dX11_count_77 : decode cX11_count 77 = .ok (.getfield 12, 3) := by decide +kernel
theorem dX11_count_80 : decode cX11_count 80 = .ok (.getfield 89, 3) := by decide +kernel
theorem dX11_count_83 : decode cX11_count 83 = .ok (.ireturn, 1) := by decide +kernel
theorem dX11_count_84 : decode cX11_count 84 = .ok (.aload_n 0, 1) := by decide +kernel
theorem dX11_count_85 : decode cX11_count 85 = .ok (.getfield 12, 3) := by decide +kernel
theorem dX11_count_88 : decode cX11_count 88 = .ok (.getfield 137, 3) := by decide +kernel
theorem dX11_count_91 : decode cX11_count 91 = .ok (.ireturn, 1) := by decide +kernel
theorem dX11_count_92 : decode cX11_count 92 = .ok (.aload_n 0, 1) := by decide +kernel
theorem dX11_count_93 : decode cX11_count 93 = .ok (.getfield 12, 3) := by decide +kernel
theorem dX11_count_96 : decode cX11_count 96 = .ok (.getfield 158, 3) := by decide +kernel
theorem dX11_count_99 : decode cX11_count 99 = .ok (.ireturn, 1) := by decide +kernel
theorem dX11_count_100 : decode cX11_count 100 = .ok (.aload_n 0, 1) := by decide +kernel
theorem dX11_count_101 : decode cX11_count 101 = .ok (.getfield 12, 3) := by decide +kernel
theorem dX11_count_104 : decode cX11_count 104 = .ok (.invokevirtual 415, 3) := by decide +kernel
theorem dX11_count_107 : decode cX11_count 107 = .ok (.ireturn, 1) := by decide +kernel
theorem dX11_count_108 : decode cX11_count 108 = .ok (.aload_n 0, 1) := by decide +kernel
theorem dX11_count_109 : decode cX11_count 109 = .ok (.getfield 12, 3) := by decide +kernel
theorem dX11_count_112 : decode cX11_count 112 = .ok (.getfield 251, 3) := by decide +kernel
theorem dX11_count_115 : decode cX11_count 115 = .ok (.ireturn, 1) := by decide +kernel
theorem dX11_count_116 : decode cX11_count 116 = .ok (.aload_n 0, 1) := by decide +kernel
theorem dX11_count_117 : decode cX11_count 117 = .ok (.getfield 12, 3) := by decide +kernel
theorem dX11_count_120 : decode cX11_count 120 = .ok (.getfield 327, 3) := by decide +kernel
theorem dX11_count_123 : decode cX11_count 123 = .ok (.ireturn, 1) := by decide +kernel
theorem dX11_count_124 : decode cX11_count 124 = .ok (.aload_n 0, 1) := by decide +kernel
theorem dX11_count_125 : decode cX11_count 125 = .ok (.getfield 40, 3) := by decide +kernel
theorem dX11_count_128 : decode cX11_count 128 = .ok (.getfield 235, 3) := by decide +kernel
theorem dX11_count_131 : decode cX11_count 131 = .ok (.ireturn, 1) := by decide +kernel
theorem dX11_count_132 : decode cX11_count 132 = .ok (.aload_n 0, 1) := by decide +kernel
theorem dX11_count_133 : decode cX11_count 133 = .ok (.getfield 67, 3) := by decide +kernel
theorem dX11_count_136 : decode cX11_count 136 = .ok (.ireturn, 1) := by decide +kernel
theorem dX11_count_137 : decode cX11_count 137 = .ok (.aload_n 0, 1) := by decide +kernel
theorem dX11_count_138 : decode cX11_count 138 = .ok (.getfield 47, 3) := by decide +kernel
theorem dX11_count_141 : decode cX11_count 141 = .ok (.getfield 241, 3) := by decide +kernel
theorem dX11_count_144 : decode cX11_count 144 = .ok (.ireturn, 1) := by decide +kernel
theorem dX11_count_145 : decode cX11_count 145 = .ok (.aload_n 0, 1) := by decide +kernel
theorem dX11_count_146 : decode cX11_count 146 = .ok (.getfield 12, 3) := by decide +kernel
theorem dX11_count_149 : decode cX11_count 149 = .ok (.getfield 152, 3) := by decide +kernel
theorem dX11_count_152 : decode cX11_count 152 = .ok (.ireturn, 1) := by decide +kernel
theorem dX11_count_153 : decode cX11_count 153 = .ok (.aload_n 0, 1) := by decide +kernel
theorem dX11_count_154 : decode cX11_count 154 = .ok (.getfield 12, 3) := by decide +kernel
theorem dX11_count_157 : decode cX11_count 157 = .ok (.getfield 155, 3) := by decide +kernel
theorem dX11_count_160 : decode cX11_count 160 = .ok (.ireturn, 1) := by decide +kernel
theorem dX11_count_161 : decode cX11_count 161 = .ok (.aload_n 0, 1) := by decide +kernel
theorem dX11_count_162 : decode cX11_count 162 = .ok (.getfield 12, 3) := by decide +kernel
theorem dX11_count_165 : decode cX11_count 165 = .ok (.getfield 351, 3) := by decide +kernel
theorem dX11_count_168 : decode cX11_count 168 = .ok (.ireturn, 1) := by decide +kernel
theorem dX11_count_169 : decode cX11_count 169 = .ok (.ldc 81, 2) := by decide +kernel
theorem dX11_count_171 : decode cX11_count 171 = .ok (.ireturn, 1) := by decide +kernel
theorem dX11_isWithin_0 : decode cX11_isWithin 0 = .ok (.iload_n 0, 1) := by decide +kernel
theorem dX11_isWithin_1 : decode cX11_isWithin 1 = .ok (.ifCond .lt 12, 3) := by decide +kernel
theorem dX11_isWithin_4 : decode cX11_isWithin 4 = .ok (.iload_n 0, 1) := by decide +kernel
theorem dX11_isWithin_5 : decode cX11_isWithin 5 = .ok (.iload_n 1, 1) := by decide +kernel
theorem dX11_isWithin_6 : decode cX11_isWithin 6 = .ok (.if_icmp .ge 7, 3) := by decide +kernel
theorem dX11_isWithin_9 : decode cX11_isWithin 9 = .ok (.iconst 1, 1) := by decide +kernel
theorem dX11_isWithin_10 : decode cX11_isWithin 10 = .ok (.goto 4, 3) := by decide +kernel
theorem dX11_isWithin_13 : decode cX11_isWithin 13 = .ok (.iconst 0, 1) := by decide +kernel
theorem dX11_isWithin_14 : decode cX11_isWithin 14 = .ok (.ireturn, 1) := by decide +kernel
theorem dX11_bit_0 : decode cX11_bit 0 = .ok (.iload_n 0, 1) := by decide +kernel
theorem dX11_bit_1 : decode cX11_bit 1 = .ok (.ifCond .eq 7, 3) := by decide +kernel
theorem dX11_bit_4 : decode cX11_bit 4 = .ok (.iconst 1, 1) := by decide +kernel
theorem dX11_bit_5 : decode cX11_bit 5 = .ok (.goto 4, 3) := by decide +kernel
theorem dX11_bit_8 : decode cX11_bit 8 = .ok (.iconst 0, 1) := by decide +kernel
theorem dX11_bit_9 : decode cX11_bit 9 = .ok (.ireturn, 1) := by decide +kernel
theorem dX11_orNone_0 : decode cX11_orNone 0 = .ok (.iload_n 0, 1) := by decide +kernel
theorem dX11_orNone_1 : decode cX11_orNone 1 = .ok (.iconst (-1), 1) := by decide +kernel
theorem dX11_orNone_2 : decode cX11_orNone 2 = .ok (.if_icmp .ne 8, 3) := by decide +kernel
theorem dX11_orNone_5 : decode cX11_orNone 5 = .ok (.ldc 165, 2) := by decide +kernel
theorem dX11_orNone_7 : decode cX11_orNone 7 = .ok (.goto 4, 3) := by decide +kernel
