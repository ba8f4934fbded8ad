theorem dX4_clear_0 : decode cX4_clear 0 = .ok (.aload_n 0, 1) := by decide +kernel
theorem dX4_clear_1 : decode cX4_clear 1 = .ok (.bipush 6, 2) := by decide +kernel
theorem dX4_clear_3 : decode cX4_clear 3 = .ok (.putfield 40, 3) := by decide +kernel
theorem dX4_clear_6 : decode cX4_clear 6 = .ok (.aload_n 0, 1) := by decide +kernel
theorem dX4_clear_7 : decode cX4_clear 7 = .ok (.bipush 6, 2) := by decide +kernel
theorem dX4_clear_9 : decode cX4_clear 9 = .ok (.putfield 44, 3) := by decide +kernel
theorem dX4_clear_12 : decode cX4_clear 12 = .ok (.aload_n 0, 1) := by decide +kernel
theorem dX4_clear_13 : decode cX4_clear 13 = .ok (.iconst 0, 1) := by decide +kernel
theorem dX4_clear_14 : decode cX4_clear 14 = .ok (.putfield 47, 3) := by decide +kernel
theorem dX4_clear_17 : decode cX4_clear 17 = .ok (.aload_n 0, 1) := by decide +kernel
theorem dX4_clear_18 : decode cX4_clear 18 = .ok (.iconst 0, 1) := by decide +kernel
theorem dX4_clear_19 : decode cX4_clear 19 = .ok (.putfield 50, 3) := by decide +kernel
theorem dX4_clear_22 : decode cX4_clear 22 = .ok (.aload_n 0, 1) := by decide +kernel
theorem dX4_clear_23 : decode cX4_clear 23 = .ok (.iconst 0, 1) := by decide +kernel
theorem dX4_clear_24 : decode cX4_clear 24 = .ok (.putfield 53, 3) := by decide +kernel
theorem dX4_clear_27 : decode cX4_clear 27 = .ok (.aload_n 0, 1) := by decide +kernel
theorem dX4_clear_28 : decode cX4_clear 28 = .ok (.iconst 0, 1) := by decide +kernel
theorem dX4_clear_29 : decode cX4_clear 29 = .ok (.putfield 56, 3) := by decide +kernel
theorem dX4_clear_32 : decode cX4_clear 32 = .ok (.aload_n 0, 1) := by decide +kernel
theorem dX4_clear_33 : decode cX4_clear 33 = .ok (.iconst 0, 1) := by decide +kernel
theorem dX4_clear_34 : decode cX4_clear 34 = .ok (.putfield 59, 3) := by decide +kernel
theorem dX4_clear_37 : decode cX4_clear 37 = .ok (.iconst 0, 1) := by decide +kernel
theorem dX4_clear_38 : decode cX4_clear 38 = .ok (.istore_n 1, 1) := by decide +kernel
theorem dX4_clear_39 : decode cX4_clear 39 = .ok (.iload_n 1, 1) := by decide +kernel
theorem dX4_clear_40 : decode cX4_clear 40 = .ok (.bipush 100, 2) := by decide +kernel
theorem dX4_clear_42 : decode cX4_clear 42 = .ok (.if_icmp .ge 16, 3) := by decide +kernel
theorem dX4_clear_45 : decode cX4_clear 45 = .ok (.aload_n 0, 1) := by decide +kernel
theorem dX4_clear_46 : decode cX4_clear 46 = .ok (.getfield 37, 3) := by decide +kernel
theorem dX4_clear_49 : decode cX4_clear 49 = .ok (.iload_n 1, 1) := by decide +kernel
theorem dX4_clear_50 : decode cX4_clear 50 = .ok (.iconst 0, 1) := by decide +kernel
theorem dX4_clear_51 : decode cX4_clear 51 = .ok (.bastore, 1) := by decide +kernel
theorem dX4_clear_52 : decode cX4_clear 52 = .ok (.iinc 1 1, 3) := by decide +kernel
theorem dX4_clear_55 : decode cX4_clear 55 = .ok (.goto (-16), 3) := by decide +kernel
theorem dX4_clear_58 : decode cX4_clear 58 = .ok (.return_, 1) := by decide +kernel
theorem dX4_take_0 : decode cX4_take 0 = .ok (.aload_n 0, 1) := by decide +kernel
theorem dX4_take_1 : decode cX4_take 1 = .ok (.aload_n 1, 1) := by decide +kernel
theorem dX4_take_2 : decode cX4_take 2 = .ok (.getfield 40, 3) := by decide +kernel
theorem dX4_take_5 : decode cX4_take 5 = .ok (.putfield 40, 3) := by decide +kernel
theorem dX4_take_8 : decode cX4_take 8 = .ok (.aload_n 0, 1) := by decide +kernel
theorem dX4_take_9 : decode cX4_take 9 = .ok (.aload_n 1, 1) := by decide +kernel
theorem dX4_take_10 : decode cX4_take 10 = .ok (.getfield 44, 3) := by decide +kernel
theorem dX4_take_13 : decode cX4_take 13 = .ok (.putfield 44, 3) := by decide +kernel
theorem dX4_take_16 : decode cX4_take 16 = .ok (.aload_n 0, 1) := by decide +kernel
theorem dX4_take_17 : decode cX4_take 17 = .ok (.aload_n 1, 1) := by decide +kernel
theorem dX4_take_18 : decode cX4_take 18 = .ok (.getfield 47, 3) := by decide +kernel
theorem dX4_take_21 : decode cX4_take 21 = .ok (.putfield 47, 3) := by decide +kernel
theorem dX4_take_24 : decode cX4_take 24 = .ok (.aload_n 0, 1) := by decide +kernel
theorem dX4_take_25 : decode cX4_take 25 = .ok (.aload_n 1, 1) := by decide +kernel
theorem dX4_take_26 : decode cX4_take 26 = .ok (.getfield 50, 3) := by decide +kernel
theorem dX4_take_29 : decode cX4_take 29 = .ok (.putfield 50, 3) := by decide +kernel
theorem dX4_take_32 : decode cX4_take 32 = .ok (.aload_n 0, 1) := by decide +kernel
theorem dX4_take_33 : decode cX4_take 33 = .ok (.aload_n 1, 1) := by decide +kernel
theorem dX4_take_34 : decode cX4_take 34 = .ok (.getfield 53, 3) := by decide +kernel
theorem dX4_take_37 : decode cX4_take 37 = .ok (.putfield 53, 3) := by decide +kernel
theorem dX4_take_40 : decode cX4_take 40 = .ok (.aload_n 0, 1) := by decide +kernel
theorem dX4_take_41 : decode cX4_take 41 = .ok (.aload_n 1, 1) := by decide +kernel
theorem dX4_take_42 : decode cX4_take 42 = .ok (.getfield 56, 3) := by decide +kernel
theorem dX4_take_45 : decode cX4_take 45 = .ok (.putfield 56, 3) := by decide +kernel
theorem dX4_take_48 : decode cX4_take 48 = .ok (.aload_n 0, 1) := by decide +kernel
theorem dX4_take_49 : decode cX4_take 49 = .ok (.aload_n 1, 1) := by decide +kernel
theorem dX4_take_50 : decode cX4_take 50 = .ok (.getfield 59, 3) := by decide +kernel
theorem dX4_take_53 : decode cX4_take 53 = .ok (.putfield 59, 3) := by decide +kernel
theorem dX4_take_56 : decode cX4_take 56 = .ok (.iconst 0, 1) := by decide +kernel
theorem dX4_take_57 : decode cX4_take 57 = .ok (.istore_n 2, 1) := by decide +kernel
theorem dX4_take_58 : decode cX4_take 58 = .ok (.iload_n 2, 1) := by decide +kernel
theorem dX4_take_59 : decode cX4_take 59 = .ok (.iconst 5, 1) := by decide +kernel
theorem dX4_take_60 : decode cX4_take 60 = .ok (.if_icmp .ge 69, 3) := by decide +kernel
theorem dX4_take_63 : decode cX4_take 63 = .ok (.aload_n 0, 1) := by decide +kernel
theorem dX4_take_64 : decode cX4_take 64 = .ok (.getfield 9, 3) := by decide +kernel
theorem dX4_take_67 : decode cX4_take 67 = .ok (.iload_n 2, 1) := by decide +kernel
theorem dX4_take_68 : decode cX4_take 68 = .ok (.aload_n 1, 1) := by decide +kernel
theorem dX4_take_69 : decode cX4_take 69 = .ok (.getfield 9, 3) := by decide +kernel
theorem dX4_take_72 : decode cX4_take 72 = .ok (.iload_n 2, 1) := by decide +kernel
theorem dX4_take_73 : decode cX4_take 73 = .ok (.iaload, 1) := by decide +kernel
theorem dX4_take_74 : decode cX4_take 74 = .ok (.iastore, 1) := by decide +kernel
theorem dX4_take_75 : decode cX4_take 75 = .ok (.aload_n 0, 1) := by decide +kernel
theorem dX4_take_76 : decode cX4_take 76 = .ok (.getfield 15, 3) := by decide +kernel
theorem dX4_take_79 : decode cX4_take 79 = .ok (.iload_n 2, 1) := by decide +kernel
theorem dX4_take_80 : decode cX4_take 80 = .ok (.aload_n 1, 1) := by decide +kernel
theorem dX4_take_81 : decode cX4_take 81 = .ok (.getfield 15, 3) := by decide +kernel
theorem dX4_take_84 : decode cX4_take 84 = .ok (.iload_n 2, 1) := by decide +kernel
theorem dX4_take_85 : decode cX4_take 85 = .ok (.iaload, 1) := by decide +kernel
theorem dX4_take_86 : decode cX4_take 86 = .ok (.iastore, 1) := by decide +kernel
theorem dX4_take_87 : decode cX4_take 87 = .ok (.aload_n 0, 1) := by decide +kernel
theorem dX4_take_88 : decode cX4_take 88 = .ok (.getfield 18, 3) := by decide +kernel
theorem dX4_take_91 : decode cX4_take 91 = .ok (.iload_n 2, 1) := by decide +kernel
theorem dX4_take_92 : decode cX4_take 92 = .ok (.aload_n 1, 1) := by decide +kernel
theorem dX4_take_93 : decode cX4_take 93 = .ok (.getfield 18, 3) := by decide +kernel
theorem dX4_take_96 : decode cX4_take 96 = .ok (.iload_n 2, 1) := by decide +kernel
theorem dX4_take_97 : decode cX4_take 97 = .ok (.iaload, 1) := by decide +kernel
theorem dX4_take_98 : decode cX4_take 98 = .ok (.iastore, 1) := by decide +kernel
theorem dX4_take_99 : decode cX4_take 99 = .ok (.aload_n 0, 1) := by decide +kernel
theorem dX4_take_100 : decode cX4_take 100 = .ok (.getfield 21, 3) := by decide +kernel
theorem dX4_take_103 : decode cX4_take 103 = .ok (.iload_n 2, 1) := by decide +kernel
theorem dX4_take_104 : decode cX4_take 104 = .ok (.aload_n 1, 1) := by decide +kernel
theorem dX4_take_105 : decode cX4_take 105 = .ok (.getfield 21, 3) := by decide +kernel
theorem dX4_take_108 : decode cX4_take 108 = .ok (.iload_n 2, 1) := by decide +kernel
theorem dX4_take_109 : decode cX4_take 109 = .ok (.iaload, 1) := by decide +kernel
theorem dX4_take_110 : decode cX4_take 110 = .ok (.iastore, 1) := by decide +kernel
theorem dX4_take_111 : decode cX4_take 111 = .ok (.aload_n 0, 1) := by decide +kernel
theorem dX4_take_112 : decode cX4_take 112 = .ok (.getfield 24, 3) := by decide +kernel
theorem dX4_take_115 : decode cX4_take 115 = .ok (.iload_n 2, 1) := by decide +kernel
theorem dX4_take_116 : decode cX4_take 116 = .ok (.aload_n 1, 1) := by decide +kernel
theorem dX4_take_117 : decode cX4_take 117 = .ok (.getfield 24, 3) := by decide +kernel
theorem dX4_take_120 : decode cX4_take 120 = .ok (.iload_n 2, 1) := by decide +kernel
theorem dX4_take_121 : decode cX4_take 121 = .ok (.baload, 1) := by decide +kernel
theorem dX4_take_122 : decode cX4_take 122 = .ok (.bastore, 1) := by decide +kernel
theorem dX4_take_123 : decode cX4_take 123 = .ok (.iinc 2 1, 3) := by decide +kernel
theorem dX4_take_126 : decode cX4_take 126 = .ok (.goto (-68), 3) := by decide +kernel
theorem dX4_take_129 : decode cX4_take 129 = .ok (.iconst 0, 1) := by decide +kernel
theorem dX4_take_130 : decode cX4_take 130 = .ok (.istore_n 2, 1) := by decide +kernel
theorem dX4_take_131 : decode cX4_take 131 = .ok (.iload_n 2, 1) := by decide +kernel
theorem dX4_take_132 : decode cX4_take 132 = .ok (.iconst 4, 1) := by decide +kernel
theorem dX4_take_133 : decode cX4_take 133 = .ok (.if_icmp .ge 45, 3) := by decide +kernel
theorem dX4_take_136 : decode cX4_take 136 = .ok (.aload_n 0, 1) := by decide +kernel
theorem dX4_take_137 : decode cX4_take 137 = .ok (.getfield 28, 3) := by decide +kernel
theorem dX4_take_140 : decode cX4_take 140 = .ok (.iload_n 2, 1) := by decide +kernel
theorem dX4_take_141 : decode cX4_take 141 = .ok (.aload_n 1, 1) := by decide +kernel
theorem dX4_take_142 : decode cX4_take 142 = .ok (.getfield 28, 3) := by decide +kernel
theorem dX4_take_145 : decode cX4_take 145 = .ok (.iload_n 2, 1) := by decide +kernel
theorem dX4_take_146 : decode cX4_take 146 = .ok (.iaload, 1) := by decide +kernel
theorem dX4_take_147 : decode cX4_take 147 = .ok (.iastore, 1) := by decide +kernel
theorem dX4_take_148 : decode cX4_take 148 = .ok (.aload_n 0, 1) := by decide +kernel
theorem dX4_take_149 : decode cX4_take 149 = .ok (.getfield 31, 3) := by decide +kernel
theorem dX4_take_152 : decode cX4_take 152 = .ok (.iload_n 2, 1) := by decide +kernel
theorem dX4_take_153 : decode cX4_take 153 = .ok (.aload_n 1, 1) := by decide +kernel
theorem dX4_take_154 : decode cX4_take 154 = .ok (.getfield 31, 3) := by decide +kernel
theorem dX4_take_157 : decode cX4_take 157 = .ok (.iload_n 2, 1) := by decide +kernel
theorem dX4_take_158 : decode cX4_take 158 = .ok (.iaload, 1) := by decide +kernel
theorem dX4_take_159 : decode cX4_take 159 = .ok (.iastore, 1) := by decide +kernel
theorem dX4_take_160 : decode cX4_take 160 = .ok (.aload_n 0, 1) := by decide +kernel
theorem dX4_take_161 : decode cX4_take 161 = .ok (.getfield 34, 3) := by decide +kernel
theorem dX4_take_164 : decode cX4_take 164 = .ok (.iload_n 2, 1) := by decide +kernel
theorem dX4_take_165 : decode cX4_take 165 = .ok (.aload_n 1, 1) := by decide +kernel
theorem dX4_take_166 : decode cX4_take 166 = .ok (.getfield 34, 3) := by decide +kernel
theorem dX4_take_169 : decode cX4_take 169 = .ok (.iload_n 2, 1) := by decide +kernel
theorem dX4_take_170 : decode cX4_take 170 = .ok (.iaload, 1) := by decide +kernel
theorem dX4_take_171 : decode cX4_take 171 = .ok (.iastore, 1) := by decide +kernel
theorem dX4_take_172 : decode cX4_take 172 = .ok (.iinc 2 1, 3) := by decide +kernel
theorem dX4_take_175 : decode cX4_take 175 = .ok (.goto (-44), 3) := by decide +kernel
theorem dX4_take_178 : decode cX4_take 178 = .ok (.iconst 0, 1) := by decide +kernel
theorem dX4_take_179 : decode cX4_take 179 = .ok (.istore_n 2, 1) := by decide +kernel
theorem dX4_take_180 : decode cX4_take 180 = .ok (.iload_n 2, 1) := by decide +kernel
theorem dX4_take_181 : decode cX4_take 181 = .ok (.bipush 100, 2) := by decide +kernel
theorem dX4_take_183 : decode cX4_take 183 = .ok (.if_icmp .ge 21, 3) := by decide +kernel
theorem dX4_take_186 : decode cX4_take 186 = .ok (.aload_n 0, 1) := by decide +kernel
theorem dX4_take_187 : decode cX4_take 187 = .ok (.getfield 37, 3) := by decide +kernel
theorem dX4_take_190 : decode cX4_take 190 = .ok (.iload_n 2, 1) := by decide +kernel
theorem dX4_take_191 : decode cX4_take 191 = .ok (.aload_n 1, 1) := by decide +kernel
theorem dX4_take_192 : decode cX4_take 192 = .ok (.getfield 37, 3) := by decide +kernel
theorem dX4_take_195 : decode cX4_take 195 = .ok (.iload_n 2, 1) := by decide +kernel
theorem dX4_take_196 : decode cX4_take 196 = .ok (.baload, 1) := by decide +kernel
theorem dX4_take_197 : decode cX4_take 197 = .ok (.bastore, 1) := by decide +kernel
theorem dX4_take_198 : decode cX4_take 198 = .ok (.iinc 2 1, 3) := by decide +kernel
theorem dX4_take_201 : decode cX4_take 201 = .ok (.goto (-21), 3) := by decide +kernel
theorem dX4_take_204 : decode cX4_take 204 = .ok (.return_, 1) := by decide +kernel
theorem dX4_cells_0 : decode cX4_cells 0 = .ok (.aload_n 0, 1) := by decide +kernel
theorem dX4_cells_1 : decode cX4_cells 1 = .ok (.getfield 40, 3) := by decide +kernel
theorem dX4_cells_4 : decode cX4_cells 4 = .ok (.aload_n 0, 1) := by decide +kernel
theorem dX4_cells_5 : decode cX4_cells 5 = .ok (.getfield 44, 3) := by decide +kernel
theorem dX4_cells_8 : decode cX4_cells 8 = .ok (.imul, 1) := by decide +kernel
theorem dX4_cells_9 : decode cX4_cells 9 = .ok (.ireturn, 1) := by decide +kernel
theorem dX4_xOf_0 : decode cX4_xOf 0 = .ok (.aload_n 0, 1) := by decide +kernel
theorem dX4_xOf_1 : decode cX4_xOf 1 = .ok (.getfield 40, 3) := by decide +kernel
theorem dX4_xOf_4 : decode cX4_xOf 4 = .ok (.ifCond .le 12, 3) := by decide +kernel
theorem dX4_xOf_7 : decode cX4_xOf 7 = .ok (.iload_n 1, 1) := by decide +kernel
theorem dX4_xOf_8 : decode cX4_xOf 8 = .ok (.aload_n 0, 1) := by decide +kernel
theorem dX4_xOf_9 : decode cX4_xOf 9 = .ok (.getfield 40, 3) := by decide +kernel
theorem dX4_xOf_12 : decode cX4_xOf 12 = .ok (.irem, 1) := by decide +kernel
theorem dX4_xOf_13 : decode cX4_xOf 13 = .ok (.goto 4, 3) := by decide +kernel
theorem dX4_xOf_16 : decode cX4_xOf 16 = .ok (.iconst 0, 1) := by decide +kernel
theorem dX4_xOf_17 : decode cX4_xOf 17 = .ok (.ireturn, 1) := by decide +kernel
theorem dX4_yOf_0 : decode cX4_yOf 0 = .ok (.aload_n 0, 1) := by decide +kernel
theorem dX4_yOf_1 : decode cX4_yOf 1 = .ok (.getfield 40, 3) := by decide +kernel
theorem dX4_yOf_4 : decode cX4_yOf 4 = .ok (.ifCond .le 12, 3) := by decide +kernel
theorem dX4_yOf_7 : decode cX4_yOf 7 = .ok (.iload_n 1, 1) := by decide +kernel
theorem dX4_yOf_8 : decode cX4_yOf 8 = .ok (.aload_n 0, 1) := by decide +kernel
theorem dX4_yOf_9 : decode cX4_yOf 9 = .ok (.getfield 40, 3) := by decide +kernel
theorem dX4_yOf_12 : decode cX4_yOf 12 = .ok (.idiv, 1) := by decide +kernel
theorem dX4_yOf_13 : decode cX4_yOf 13 = .ok (.goto 4, 3) := by decide +kernel
theorem dX4_yOf_16 : decode cX4_yOf 16 = .ok (.iconst 0, 1) := by decide +kernel
theorem dX4_yOf_17 : decode cX4_yOf 17 = .ok (.ireturn, 1) := by decide +kernel
theorem dX4_hasTowers_0 : decode cX4_hasTowers 0 = .ok (.iload_n 1, 1) := by decide +kernel
theorem dX4_hasTowers_1 : decode cX4_hasTowers 1 = .ok (.aload_n 0, 1) := by decide +kernel
theorem dX4_hasTowers_2 : decode cX4_hasTowers 2 = .ok (.getfield 47, 3) := by decide +kernel
theorem dX4_hasTowers_5 : decode cX4_hasTowers 5 = .ok (.iushr, 1) := by decide +kernel
theorem dX4_hasTowers_6 : decode cX4_hasTowers 6 = .ok (.ifCond .ne 7, 3) := by decide +kernel
theorem dX4_hasTowers_9 : decode cX4_hasTowers 9 = .ok (.iconst 1, 1) := by decide +kernel
theorem dX4_hasTowers_10 : decode cX4_hasTowers 10 = .ok (.goto 4, 3) := by decide +kernel
theorem dX4_hasTowers_13 : decode cX4_hasTowers 13 = .ok (.iconst 0, 1) := by decide +kernel
theorem dX4_hasTowers_14 : decode cX4_hasTowers 14 = .ok (.ireturn, 1) := by decide +kernel
theorem dX4_hasTowerAt_0 : decode cX4_hasTowerAt 0 = .ok (.iconst 0, 1) := by decide +kernel
theorem dX4_hasTowerAt_1 : decode cX4_hasTowerAt 1 = .ok (.istore_n 2, 1) := by decide +kernel
theorem dX4_hasTowerAt_2 : decode cX4_hasTowerAt 2 = .ok (.iload_n 2, 1) := by decide +kernel
theorem dX4_hasTowerAt_3 : decode cX4_hasTowerAt 3 = .ok (.aload_n 0, 1) := by decide +kernel
theorem dX4_hasTowerAt_4 : decode cX4_hasTowerAt 4 = .ok (.getfield 47, 3) := by decide +kernel
theorem dX4_hasTowerAt_7 : decode cX4_hasTowerAt 7 = .ok (.if_icmp .ge 21, 3) := by decide +kernel
theorem dX4_hasTowerAt_10 : decode cX4_hasTowerAt 10 = .ok (.aload_n 0, 1) := by decide +kernel
theorem dX4_hasTowerAt_11 : decode cX4_hasTowerAt 11 = .ok (.getfield 9, 3) := by decide +kernel
theorem dX4_hasTowerAt_14 : decode cX4_hasTowerAt 14 = .ok (.iload_n 2, 1) := by decide +kernel
theorem dX4_hasTowerAt_15 : decode cX4_hasTowerAt 15 = .ok (.iaload, 1) := by decide +kernel
theorem dX4_hasTowerAt_16 : decode cX4_hasTowerAt 16 = .ok (.iload_n 1, 1) := by decide +kernel
theorem dX4_hasTowerAt_17 : decode cX4_hasTowerAt 17 = .ok (.if_icmp .ne 5, 3) := by decide +kernel
theorem dX4_hasTowerAt_20 : decode cX4_hasTowerAt 20 = .ok (.iconst 1, 1) := by decide +kernel
theorem dX4_hasTowerAt_21 : decode cX4_hasTowerAt 21 = .ok (.ireturn, 1) := by decide +kernel
theorem dX4_hasTowerAt_22 : decode cX4_hasTowerAt 22 = .ok (.iinc 2 1, 3) := by decide +kernel
theorem dX4_hasTowerAt_25 : decode cX4_hasTowerAt 25 = .ok (.goto (-23), 3) := by decide +kernel
theorem dX4_hasTowerAt_28 : decode cX4_hasTowerAt 28 = .ok (.iconst 0, 1) := by decide +kernel
theorem dX4_hasTowerAt_29 : decode cX4_hasTowerAt 29 = .ok (.ireturn, 1) := by decide +kernel
theorem dX4_distance_0 : decode cX4_distance 0 = .ok (.aload_n 0, 1) := by decide +kernel
theorem dX4_distance_1 : decode cX4_distance 1 = .ok (.iload_n 2, 1) := by decide +kernel
theorem dX4_distance_2 : decode cX4_distance 2 = .ok (.invokevirtual 62, 3) := by decide +kernel
theorem dX4_distance_5 : decode cX4_distance 5 = .ok (.aload_n 0, 1) := by decide +kernel
theorem dX4_distance_6 : decode cX4_distance 6 = .ok (.aload_n 0, 1) := by decide +kernel
theorem dX4_distance_7 : decode cX4_distance 7 = .ok (.getfield 9, 3) := by decide +kernel
theorem dX4_distance_10 : decode cX4_distance 10 = .ok (.iload_n 1, 1) := by decide +kernel
theorem dX4_distance_11 : decode cX4_distance 11 = .ok (.iaload, 1) := by decide +kernel
theorem dX4_distance_12 : decode cX4_distance 12 = .ok (.invokevirtual 62, 3) := by decide +kernel
theorem dX4_distance_15 : decode cX4_distance 15 = .ok (.isub, 1) := by decide +kernel
theorem dX4_distance_16 : decode cX4_distance 16 = .ok (.istore_n 3, 1) := by decide +kernel
theorem dX4_distance_17 : decode cX4_distance 17 = .ok (.aload_n 0, 1) := by decide +kernel
theorem dX4_distance_18 : decode cX4_distance 18 = .ok (.iload_n 2, 1) := by decide +kernel
theorem dX4_distance_19 : decode cX4_distance 19 = .ok (.invokevirtual 66, 3) := by decide +kernel
theorem dX4_distance_22 : decode cX4_distance 22 = .ok (.aload_n 0, 1) := by decide +kernel
theorem dX4_distance_23 : decode cX4_distance 23 = .ok (.aload_n 0, 1) := by decide +kernel
theorem dX4_distance_24 : decode cX4_distance 24 = .ok (.getfield 9, 3) := by decide +kernel
theorem dX4_distance_27 : decode cX4_distance 27 = .ok (.iload_n 1, 1) := by decide +kernel
theorem dX4_distance_28 : decode cX4_distance 28 = .ok (.iaload, 1) := by decide +kernel
theorem dX4_distance_29 : decode cX4_distance 29 = .ok (.invokevirtual 66, 3) := by decide +kernel
theorem dX4_distance_32 : decode cX4_distance 32 = .ok (.isub, 1) := by decide +kernel
theorem dX4_distance_33 : decode cX4_distance 33 = .ok (.istore 4, 2) := by decide +kernel
theorem dX4_distance_35 : decode cX4_distance 35 = .ok (.aload_n 0, 1) := by decide +kernel
theorem dX4_distance_36 : decode cX4_distance 36 = .ok (.getfield 53, 3) := by decide +kernel
theorem dX4_distance_39 : decode cX4_distance 39 = .ok (.tableswitch 46 0 2 #[25, 33, 39], 25) := by decide +kernel
theorem dX4_distance_64 : decode cX4_distance 64 = .ok (.iload 4, 2) := by decide +kernel
theorem dX4_distance_66 : decode cX4_distance 66 = .ok (.ineg, 1) := by decide +kernel
theorem dX4_distance_67 : decode cX4_distance 67 = .ok (.istore 5, 2) := by decide +kernel
theorem dX4_distance_69 : decode cX4_distance 69 = .ok (.goto 20, 3) := by decide +kernel
theorem dX4_distance_72 : decode cX4_distance 72 = .ok (.iload_n 3, 1) := by decide +kernel
theorem dX4_distance_73 : decode cX4_distance 73 = .ok (.istore 5, 2) := by decide +kernel
theorem dX4_distance_75 : decode cX4_distance 75 = .ok (.goto 14, 3) := by decide +kernel
theorem dX4_distance_78 : decode cX4_distance 78 = .ok (.iload 4, 2) := by decide +kernel
theorem dX4_distance_80 : decode cX4_distance 80 = .ok (.istore 5, 2) := by decide +kernel
theorem dX4_distance_82 : decode cX4_distance 82 = .ok (.goto 7, 3) := by decide +kernel
theorem dX4_distance_85 : decode cX4_distance 85 = .ok (.iload_n 3, 1) := by decide +kernel
theorem dX4_distance_86 : decode cX4_distance 86 = .ok (.ineg, 1) := by decide +kernel
theorem dX4_distance_87 : decode cX4_distance 87 = .ok (.istore 5, 2) := by decide +kernel
theorem dX4_distance_89 : decode cX4_distance 89 = .ok (.iconst 4, 1) := by decide +kernel
theorem dX4_distance_90 : decode cX4_distance 90 = .ok (.iload_n 3, 1) := by decide +kernel
theorem dX4_distance_91 : decode cX4_distance 91 = .ok (.invokestatic 69, 3) := by decide +kernel
theorem dX4_distance_94 : decode cX4_distance 94 = .ok (.iload 4, 2) := by decide +kernel
theorem dX4_distance_96 : decode cX4_distance 96 = .ok (.invokestatic 69, 3) := by decide +kernel
theorem dX4_distance_99 : decode cX4_distance 99 = .ok (.iadd, 1) := by decide +kernel
theorem dX4_distance_100 : decode cX4_distance 100 = .ok (.imul, 1) := by decide +kernel
theorem dX4_distance_101 : decode cX4_distance 101 = .ok (.aload_n 0, 1) := by decide +kernel
theorem dX4_distance_102 : decode cX4_distance 102 = .ok (.getfield 56, 3) := by decide +kernel
theorem dX4_distance_105 : decode cX4_distance 105 = .ok (.iload 5, 2) := by decide +kernel
theorem dX4_distance_107 : decode cX4_distance 107 = .ok (.imul, 1) := by decide +kernel
theorem dX4_distance_108 : decode cX4_distance 108 = .ok (.isub, 1) := by decide +kernel
theorem dX4_distance_109 : decode cX4_distance 109 = .ok (.ireturn, 1) := by decide +kernel
theorem dX4_carries_0 : decode cX4_carries 0 = .ok (.aload_n 0, 1) := by decide +kernel
theorem dX4_carries_1 : decode cX4_carries 1 = .ok (.iload_n 1, 1) := by decide +kernel
theorem dX4_carries_2 : decode cX4_carries 2 = .ok (.iload_n 2, 1) := by decide +kernel
theorem dX4_carries_3 : decode cX4_carries 3 = .ok (.invokevirtual 74, 3) := by decide +kernel
theorem dX4_carries_6 : decode cX4_carries 6 = .ok (.iconst 4, 1) := by decide +kernel
theorem dX4_carries_7 : decode cX4_carries 7 = .ok (.aload_n 0, 1) := by decide +kernel
theorem dX4_carries_8 : decode cX4_carries 8 = .ok (.getfield 15, 3) := by decide +kernel
theorem dX4_carries_11 : decode cX4_carries 11 = .ok (.iload_n 1, 1) := by decide +kernel
theorem dX4_carries_12 : decode cX4_carries 12 = .ok (.iaload, 1) := by decide +kernel
theorem dX4_carries_13 : decode cX4_carries 13 = .ok (.aload_n 0, 1) := by decide +kernel
theorem dX4_carries_14 : decode cX4_carries 14 = .ok (.getfield 59, 3) := by decide +kernel
theorem dX4_carries_17 : decode cX4_carries 17 = .ok (.iadd, 1) := by decide +kernel
theorem dX4_carries_18 : decode cX4_carries 18 = .ok (.imul, 1) := by decide +kernel
theorem dX4_carries_19 : decode cX4_carries 19 = .ok (.if_icmp .gt 7, 3) := by decide +kernel
theorem dX4_carries_22 : decode cX4_carries 22 = .ok (.iconst 1, 1) := by decide +kernel
theorem dX4_carries_23 : decode cX4_carries 23 = .ok (.goto 4, 3) := by decide +kernel
theorem dX4_carries_26 : decode cX4_carries 26 = .ok (.iconst 0, 1) := by decide +kernel
theorem dX4_carries_27 : decode cX4_carries 27 = .ok (.ireturn, 1) := by decide +kernel
def wpX4_clear_L39 (sG : AR) (kx58 : AR → Int32 → Prop) (post : AR → AR → Prop) : Nat → AR → Int32 → Prop
  | 0, _, _ => False
  | nf39 + 1, G_mirage, l1 => (((100 : Int32) ≤ l1 → kx58 G_mirage l1) ∧ (¬ (100 : Int32) ≤ l1 → vp_in l1 100 ∧ ∀ G_mirage_51 : AR, G_mirage_51 = upd G_mirage l1.toNatClampNeg (0 : Int32) → ∀ l1_52 : Int32, l1_52 = (l1 + (1 : Int32)) → wpX4_clear_L39 sG kx58 post nf39 G_mirage_51 l1_52))
def wpX4_clear (sG : AR) (G_mirage : AR) (post : AR → AR → Prop) : Prop := ∃ nf39 : Nat, wpX4_clear_L39 (upd (upd (upd (upd (upd (upd (upd sG 0 (6 : Int32)) 1 (6 : Int32)) 2 (0 : Int32)) 3 (0 : Int32)) 4 (0 : Int32)) 5 (0 : Int32)) 6 (0 : Int32)) (fun G_mirage_58 l1_58 => post (upd (upd (upd (upd (upd (upd (upd sG 0 (6 : Int32)) 1 (6 : Int32)) 2 (0 : Int32)) 3 (0 : Int32)) 4 (0 : Int32)) 5 (0 : Int32)) 6 (0 : Int32)) G_mirage_58) post nf39 G_mirage (0 : Int32)
set_option maxHeartbeats 4000000 in
set_option maxRecDepth 100000 in
theorem ctX4_clear (l : Launch) (D : va_G) (cy : Nat → ClassId) (ev : Nat → Nat) (h0 : Nat) (rG : Nat → Nat) (sG : AR) (G_mirage : AR) (sz : Nat) (post : AR → AR → Prop) (h : wpX4_clear sG G_mirage post) : Met l yX4_clear (Cond.code yX4_clear cX4_clear 2 none :: TB) ({ frames := 0, cells := 0, slots := 0, locals := 0 }) (va_Pc [.ref h0] (PreX D cy ev [(h0, .inr (4, oX4 rG sG)), ((rG 15), .inl (cy 2, 100, .inl G_mirage))] sz)) (va_Qv (fun (u : AR × AR) => post (u.1) (u.2)) (fun u => BkX D cy [(h0, .inr (4, oX4 rG sG)), ((rG 15), .inl (cy 2, 100, .inl G_mirage))] sz [(h0, .inr (4, oX4 rG (u.1))), ((rG 15), .inl (cy 2, 100, .inl (u.2)))]) (va_A [(h0, .inr (4, oX4 rG sG)), ((rG 15), .inl (cy 2, 100, .inl G_mirage))] sz)) 0 0 (va_A [(h0, .inr (4, oX4 rG sG)), ((rG 15), .inl (cy 2, 100, .inl G_mirage))] sz) := by
  refine ofWv (by decide) (Nat.le_of_ble_eq_true rfl) ?_
  intro p e s m args below meth c ls A R QQ hx hb hml hown hts hR hlk hE hK hP hD hS hA hl hret
  have hown : s.vm.findClass RX4 = some m.cls := hown
  have hRf : 0 ≤ R.frames := by rw [hR]; exact Nat.le_refl _
  have hRl : 0 ≤ R.locals := by rw [hR]; exact Nat.le_refl _
  clear hR
  have hl : lv_has ls 2 [(0, .ref h0)] := hl
  have L39 : ∀ (sG : AR) (kx58 : AR → Int32 → Prop), (∀ (G_mirage : AR) (l1 : Int32) (H : Heap) (locs : List Loc) (ls : Array Slot), kx58 G_mirage l1 → va_P D clsX [(h0, .inr (4, oX4 rG sG)), ((rG 15), .inl (cy 2, 100, .inl G_mirage))] H → va_D A [(h0, .inr (4, oX4 rG sG)), ((rG 15), .inl (cy 2, 100, .inl G_mirage))] → va_S A s.heap H locs → lv_has ls 2 [(0, .ref h0)] → W p l e R s m args below meth c H locs 0 0 QQ (F0 m 58 ls [])) → ∀ (nf39 : Nat) (G_mirage : AR) (l1 : Int32) (H : Heap) (locs : List Loc) (ls : Array Slot), wpX4_clear_L39 sG kx58 post nf39 G_mirage l1 → va_P D clsX [(h0, .inr (4, oX4 rG sG)), ((rG 15), .inl (cy 2, 100, .inl G_mirage))] H → va_D A [(h0, .inr (4, oX4 rG sG)), ((rG 15), .inl (cy 2, 100, .inl G_mirage))] → va_S A s.heap H locs → lv_has ls 2 [(0, .ref h0), (1, .int l1)] → W p l e R s m args below meth c H locs 0 0 QQ (F0 m 39 ls []) := by
    intro sG kx58 hk39_58 nf39
    induction nf39 with
    | zero =>
      intro G_mirage l1 H locs ls h
      exact (show False from h).elim
    | succ nf39 ih39 =>
      intro G_mirage l1 H locs ls h hP hD hS hl
      refine lv_iload_n hx hb dX4_clear_39 rfl (lv_at hl 1 rfl) ?_
      refine lv_bipush (v := (100 : Int32)) hx hb dX4_clear_40 (by decide) ?_
      refine lv_icmp_ge (tgt := 58) hx hb dX4_clear_42 (by decide) (fun c42 => ?_) (fun c42 => ?_)
      · have h := h.1 c42
        exact hk39_58 G_mirage l1 _ _ _ h hP hD hS (lv_sub hl [0] rfl)
      · have h := h.2 c42
        refine lv_aload_n hx hb dX4_clear_45 rfl (lv_at hl 0 rfl) ?_
        refine gfX4_37 hx hb hts hown hK hP 0 rfl dX4_clear_46 ?_
        refine lv_iload_n hx hb dX4_clear_49 rfl (lv_at hl 1 rfl) ?_
        refine lv_iconst (v := (0 : Int32)) hx hb dX4_clear_50 (by decide) ?_
        obtain ⟨hin, h⟩ := h
        refine stz (k := l1.toNatClampNeg) (y := (0 : Int32)) hx hb hK hP hD hS 1 rfl hin rfl (by decide) dX4_clear_51 (fun G_mirage_51 eG_mirage_51 H locs hP hD hS => ?_)
        have h := h G_mirage_51 eG_mirage_51
        have hP : va_P D clsX [(h0, .inr (4, oX4 rG sG)), ((rG 15), .inl (cy 2, 100, .inl G_mirage_51))] H := hP
        have hD : va_D A [(h0, .inr (4, oX4 rG sG)), ((rG 15), .inl (cy 2, 100, .inl G_mirage_51))] := hD
        obtain ⟨l1_52, el1_52⟩ : ∃ y : Int32, y = l1 + (1 : Int32) := ⟨_, rfl⟩
        have h := h l1_52 el1_52
        refine lv_iinc (v := l1_52) (lv' := [(1, .int l1_52), (0, .ref h0)]) hx hb dX4_clear_52 hl (k := 1) rfl (by rw [el1_52]; rfl) (by decide) rfl (fun ls hl => ?_)
        refine lv_goto (tgt := 39) hx hb dX4_clear_55 (by decide) ?_
        exact ih39 G_mirage_51 l1_52 _ _ _ h hP hD hS (lv_sub hl [1, 0] rfl)
  refine lv_aload_n hx hb dX4_clear_0 rfl (lv_at hl 0 rfl) ?_
  refine lv_bipush (v := (6 : Int32)) hx hb dX4_clear_1 (by decide) ?_
  refine pfX4_40 hx hb hts hown hK hP hD hS 0 rfl dX4_clear_3 (fun H locs hP hD hS => ?_)
  have hP : va_P D clsX [(h0, .inr (4, oX4 rG (upd sG 0 (6 : Int32)))), ((rG 15), .inl (cy 2, 100, .inl G_mirage))] H := hP
  have hD : va_D A [(h0, .inr (4, oX4 rG (upd sG 0 (6 : Int32)))), ((rG 15), .inl (cy 2, 100, .inl G_mirage))] := hD
  refine lv_aload_n hx hb dX4_clear_6 rfl (lv_at hl 0 rfl) ?_
  refine lv_bipush (v := (6 : Int32)) hx hb dX4_clear_7 (by decide) ?_
  refine pfX4_44 hx hb hts hown hK hP hD hS 0 rfl dX4_clear_9 (fun H locs hP hD hS => ?_)
  have hP : va_P D clsX [(h0, .inr (4, oX4 rG (upd (upd sG 0 (6 : Int32)) 1 (6 : Int32)))), ((rG 15), .inl (cy 2, 100, .inl G_mirage))] H := hP
  have hD : va_D A [(h0, .inr (4, oX4 rG (upd (upd sG 0 (6 : Int32)) 1 (6 : Int32)))), ((rG 15), .inl (cy 2, 100, .inl G_mirage))] := hD
  refine lv_aload_n hx hb dX4_clear_12 rfl (lv_at hl 0 rfl) ?_
  refine lv_iconst (v := (0 : Int32)) hx hb dX4_clear_13 (by decide) ?_
  refine pfX4_47 hx hb hts hown hK hP hD hS 0 rfl dX4_clear_14 (fun H locs hP hD hS => ?_)
  have hP : va_P D clsX [(h0, .inr (4, oX4 rG (upd (upd (upd sG 0 (6 : Int32)) 1 (6 : Int32)) 2 (0 : Int32)))), ((rG 15), .inl (cy 2, 100, .inl G_mirage))] H := hP
  have hD : va_D A [(h0, .inr (4, oX4 rG (upd (upd (upd sG 0 (6 : Int32)) 1 (6 : Int32)) 2 (0 : Int32)))), ((rG 15), .inl (cy 2, 100, .inl G_mirage))] := hD
  refine lv_aload_n hx hb dX4_clear_17 rfl (lv_at hl 0 rfl) ?_
  refine lv_iconst (v := (0 : Int32)) hx hb dX4_clear_18 (by decide) ?_
  refine pfX4_50 hx hb hts hown hK hP hD hS 0 rfl dX4_clear_19 (fun H locs hP hD hS => ?_)
  have hP : va_P D clsX [(h0, .inr (4, oX4 rG (upd (upd (upd (upd sG 0 (6 : Int32)) 1 (6 : Int32)) 2 (0 : Int32)) 3 (0 : Int32)))), ((rG 15), .inl (cy 2, 100, .inl G_mirage))] H := hP
  have hD : va_D A [(h0, .inr (4, oX4 rG (upd (upd (upd (upd sG 0 (6 : Int32)) 1 (6 : Int32)) 2 (0 : Int32)) 3 (0 : Int32)))), ((rG 15), .inl (cy 2, 100, .inl G_mirage))] := hD
  refine lv_aload_n hx hb dX4_clear_22 rfl (lv_at hl 0 rfl) ?_
  refine lv_iconst (v := (0 : Int32)) hx hb dX4_clear_23 (by decide) ?_
  refine pfX4_53 hx hb hts hown hK hP hD hS 0 rfl dX4_clear_24 (fun H locs hP hD hS => ?_)
  have hP : va_P D clsX [(h0, .inr (4, oX4 rG (upd (upd (upd (upd (upd sG 0 (6 : Int32)) 1 (6 : Int32)) 2 (0 : Int32)) 3 (0 : Int32)) 4 (0 : Int32)))), ((rG 15), .inl (cy 2, 100, .inl G_mirage))] H := hP
  have hD : va_D A [(h0, .inr (4, oX4 rG (upd (upd (upd (upd (upd sG 0 (6 : Int32)) 1 (6 : Int32)) 2 (0 : Int32)) 3 (0 : Int32)) 4 (0 : Int32)))), ((rG 15), .inl (cy 2, 100, .inl G_mirage))] := hD
  refine lv_aload_n hx hb dX4_clear_27 rfl (lv_at hl 0 rfl) ?_
  refine lv_iconst (v := (0 : Int32)) hx hb dX4_clear_28 (by decide) ?_
  refine pfX4_56 hx hb hts hown hK hP hD hS 0 rfl dX4_clear_29 (fun H locs hP hD hS => ?_)
  have hP : va_P D clsX [(h0, .inr (4, oX4 rG (upd (upd (upd (upd (upd (upd sG 0 (6 : Int32)) 1 (6 : Int32)) 2 (0 : Int32)) 3 (0 : Int32)) 4 (0 : Int32)) 5 (0 : Int32)))), ((rG 15), .inl (cy 2, 100, .inl G_mirage))] H := hP
  have hD : va_D A [(h0, .inr (4, oX4 rG (upd (upd (upd (upd (upd (upd sG 0 (6 : Int32)) 1 (6 : Int32)) 2 (0 : Int32)) 3 (0 : Int32)) 4 (0 : Int32)) 5 (0 : Int32)))), ((rG 15), .inl (cy 2, 100, .inl G_mirage))] := hD
  refine lv_aload_n hx hb dX4_clear_32 rfl (lv_at hl 0 rfl) ?_
  refine lv_iconst (v := (0 : Int32)) hx hb dX4_clear_33 (by decide) ?_
  refine pfX4_59 hx hb hts hown hK hP hD hS 0 rfl dX4_clear_34 (fun H locs hP hD hS => ?_)
  have hP : va_P D clsX [(h0, .inr (4, oX4 rG (upd (upd (upd (upd (upd (upd (upd sG 0 (6 : Int32)) 1 (6 : Int32)) 2 (0 : Int32)) 3 (0 : Int32)) 4 (0 : Int32)) 5 (0 : Int32)) 6 (0 : Int32)))), ((rG 15), .inl (cy 2, 100, .inl G_mirage))] H := hP
  have hD : va_D A [(h0, .inr (4, oX4 rG (upd (upd (upd (upd (upd (upd (upd sG 0 (6 : Int32)) 1 (6 : Int32)) 2 (0 : Int32)) 3 (0 : Int32)) 4 (0 : Int32)) 5 (0 : Int32)) 6 (0 : Int32)))), ((rG 15), .inl (cy 2, 100, .inl G_mirage))] := hD
  refine lv_iconst (v := (0 : Int32)) hx hb dX4_clear_37 (by decide) ?_
  refine lv_istore_n (lv' := [(1, .int (0 : Int32)), (0, .ref h0)]) hx hb dX4_clear_38 rfl hl (by decide) rfl (fun ls hl => ?_)
  obtain ⟨nf39, h⟩ := h
  refine L39 (upd (upd (upd (upd (upd (upd (upd sG 0 (6 : Int32)) 1 (6 : Int32)) 2 (0 : Int32)) 3 (0 : Int32)) 4 (0 : Int32)) 5 (0 : Int32)) 6 (0 : Int32)) _ (fun G_mirage_58 l1_58 H locs ls h hP hD hS hl => ?_) nf39 G_mirage (0 : Int32) _ _ _ h hP hD hS (lv_sub hl [1, 0] rfl)
  exact hret ((upd (upd (upd (upd (upd (upd (upd sG 0 (6 : Int32)) 1 (6 : Int32)) 2 (0 : Int32)) 3 (0 : Int32)) 4 (0 : Int32)) 5 (0 : Int32)) 6 (0 : Int32)), G_mirage_58) _ _ _ _ dX4_clear_58 h hP hD hS
def wpX4_take_L58 (sH : AR) (sG : AR) (H_towerCell : AR) (H_range : AR) (H_voice : AR) (H_strokes : AR) (H_isFalse : AR) (H_kind : AR) (H_home : AR) (H_water : AR) (H_mirage : AR) (G_kind : AR) (G_home : AR) (G_water : AR) (G_mirage : AR) (kx129 : AR → AR → AR → AR → AR → Int32 → Prop) (post : AR → AR → AR → AR → AR → AR → AR → AR → AR → AR → Prop) : Nat → AR → AR → AR → AR → AR → Int32 → Prop
  | 0, _, _, _, _, _, _ => False
  | nf58 + 1, G_towerCell, G_range, G_voice, G_strokes, G_isFalse, l2 => (((5 : Int32) ≤ l2 → kx129 G_towerCell G_range G_voice G_strokes G_isFalse l2) ∧ (¬ (5 : Int32) ≤ l2 → vp_in l2 5 ∧ vp_in l2 5 ∧ ∀ G_towerCell_74 : AR, G_towerCell_74 = upd G_towerCell l2.toNatClampNeg (H_towerCell l2.toNatClampNeg) → vp_in l2 5 ∧ vp_in l2 5 ∧ ∀ G_range_86 : AR, G_range_86 = upd G_range l2.toNatClampNeg (H_range l2.toNatClampNeg) → vp_in l2 5 ∧ vp_in l2 5 ∧ ∀ G_voice_98 : AR, G_voice_98 = upd G_voice l2.toNatClampNeg (H_voice l2.toNatClampNeg) → vp_in l2 5 ∧ vp_in l2 5 ∧ ∀ G_strokes_110 : AR, G_strokes_110 = upd G_strokes l2.toNatClampNeg (H_strokes l2.toNatClampNeg) → vp_in l2 5 ∧ vp_in l2 5 ∧ ∀ G_isFalse_122 : AR, G_isFalse_122 = upd G_isFalse l2.toNatClampNeg (vp_nar .boolean (H_isFalse l2.toNatClampNeg)) → ∀ l2_123 : Int32, l2_123 = (l2 + (1 : Int32)) → wpX4_take_L58 sH sG H_towerCell H_range H_voice H_strokes H_isFalse H_kind H_home H_water H_mirage G_kind G_home G_water G_mirage kx129 post nf58 G_towerCell_74 G_range_86 G_voice_98 G_strokes_110 G_isFalse_122 l2_123))
def wpX4_take_L131 (sH : AR) (sG : AR) (H_towerCell : AR) (H_range : AR) (H_voice : AR) (H_strokes : AR) (H_isFalse : AR) (H_kind : AR) (H_home : AR) (H_water : AR) (H_mirage : AR) (G_towerCell : AR) (G_range : AR) (G_voice : AR) (G_strokes : AR) (G_isFalse : AR) (G_mirage : AR) (kx178 : AR → AR → AR → Int32 → Prop) (post : AR → AR → AR → AR → AR → AR → AR → AR → AR → AR → Prop) : Nat → AR → AR → AR → Int32 → Prop
  | 0, _, _, _, _ => False
  | nf131 + 1, G_kind, G_home, G_water, l2 => (((4 : Int32) ≤ l2 → kx178 G_kind G_home G_water l2) ∧ (¬ (4 : Int32) ≤ l2 → vp_in l2 4 ∧ vp_in l2 4 ∧ ∀ G_kind_147 : AR, G_kind_147 = upd G_kind l2.toNatClampNeg (H_kind l2.toNatClampNeg) → vp_in l2 4 ∧ vp_in l2 4 ∧ ∀ G_home_159 : AR, G_home_159 = upd G_home l2.toNatClampNeg (H_home l2.toNatClampNeg) → vp_in l2 4 ∧ vp_in l2 4 ∧ ∀ G_water_171 : AR, G_water_171 = upd G_water l2.toNatClampNeg (H_water l2.toNatClampNeg) → ∀ l2_172 : Int32, l2_172 = (l2 + (1 : Int32)) → wpX4_take_L131 sH sG H_towerCell H_range H_voice H_strokes H_isFalse H_kind H_home H_water H_mirage G_towerCell G_range G_voice G_strokes G_isFalse G_mirage kx178 post nf131 G_kind_147 G_home_159 G_water_171 l2_172))
def wpX4_take_L180 (sH : AR) (sG : AR) (H_towerCell : AR) (H_range : AR) (H_voice : AR) (H_strokes : AR) (H_isFalse : AR) (H_kind : AR) (H_home : AR) (H_water : AR) (H_mirage : AR) (G_towerCell : AR) (G_range : AR) (G_voice : AR) (G_strokes : AR) (G_isFalse : AR) (G_kind : AR) (G_home : AR) (G_water : AR) (kx204 : AR → Int32 → Prop) (post : AR → AR → AR → AR → AR → AR → AR → AR → AR → AR → Prop) : Nat → AR → Int32 → Prop
  | 0, _, _ => False
  | nf180 + 1, G_mirage, l2 => (((100 : Int32) ≤ l2 → kx204 G_mirage l2) ∧ (¬ (100 : Int32) ≤ l2 → vp_in l2 100 ∧ vp_in l2 100 ∧ ∀ G_mirage_197 : AR, G_mirage_197 = upd G_mirage l2.toNatClampNeg (vp_nar .boolean (H_mirage l2.toNatClampNeg)) → ∀ l2_198 : Int32, l2_198 = (l2 + (1 : Int32)) → wpX4_take_L180 sH sG H_towerCell H_range H_voice H_strokes H_isFalse H_kind H_home H_water H_mirage G_towerCell G_range G_voice G_strokes G_isFalse G_kind G_home G_water kx204 post nf180 G_mirage_197 l2_198))
def wpX4_take (sH : AR) (sG : AR) (H_towerCell : AR) (H_range : AR) (H_voice : AR) (H_strokes : AR) (H_isFalse : AR) (H_kind : AR) (H_home : AR) (H_water : AR) (H_mirage : AR) (G_towerCell : AR) (G_range : AR) (G_voice : AR) (G_strokes : AR) (G_isFalse : AR) (G_kind : AR) (G_home : AR) (G_water : AR) (G_mirage : AR) (post : AR → AR → AR → AR → AR → AR → AR → AR → AR → AR → Prop) : Prop := ∀ f0_5 : Int32, f0_5 = (sH 0) → ∀ f1_13 : Int32, f1_13 = (sH 1) → ∀ f2_21 : Int32, f2_21 = (sH 2) → ∀ f3_29 : Int32, f3_29 = (sH 3) → ∀ f4_37 : Int32, f4_37 = (sH 4) → ∀ f5_45 : Int32, f5_45 = (sH 5) → ∀ f6_53 : Int32, f6_53 = (sH 6) → ∃ nf58 : Nat, wpX4_take_L58 sH (upd (upd (upd (upd (upd (upd (upd sG 0 f0_5) 1 f1_13) 2 f2_21) 3 f3_29) 4 f4_37) 5 f5_45) 6 f6_53) H_towerCell H_range H_voice H_strokes H_isFalse H_kind H_home H_water H_mirage G_kind G_home G_water G_mirage (fun G_towerCell_129 G_range_129 G_voice_129 G_strokes_129 G_isFalse_129 l2_129 => ∃ nf131 : Nat, wpX4_take_L131 sH (upd (upd (upd (upd (upd (upd (upd sG 0 f0_5) 1 f1_13) 2 f2_21) 3 f3_29) 4 f4_37) 5 f5_45) 6 f6_53) H_towerCell H_range H_voice H_strokes H_isFalse H_kind H_home H_water H_mirage G_towerCell_129 G_range_129 G_voice_129 G_strokes_129 G_isFalse_129 G_mirage (fun G_kind_178 G_home_178 G_water_178 l2_178 => ∃ nf180 : Nat, wpX4_take_L180 sH (upd (upd (upd (upd (upd (upd (upd sG 0 f0_5) 1 f1_13) 2 f2_21) 3 f3_29) 4 f4_37) 5 f5_45) 6 f6_53) H_towerCell H_range H_voice H_strokes H_isFalse H_kind H_home H_water H_mirage G_towerCell_129 G_range_129 G_voice_129 G_strokes_129 G_isFalse_129 G_kind_178 G_home_178 G_water_178 (fun G_mirage_204 l2_204 => post (upd (upd (upd (upd (upd (upd (upd sG 0 f0_5) 1 f1_13) 2 f2_21) 3 f3_29) 4 f4_37) 5 f5_45) 6 f6_53) G_towerCell_129 G_range_129 G_voice_129 G_strokes_129 G_isFalse_129 G_kind_178 G_home_178 G_water_178 G_mirage_204) post nf180 G_mirage (0 : Int32)) post nf131 G_kind G_home G_water (0 : Int32)) post nf58 G_towerCell G_range G_voice G_strokes G_isFalse (0 : Int32)
set_option maxHeartbeats 4000000 in
set_option maxRecDepth 100000 in
theorem ctX4_take (l : Launch) (D : va_G) (cy : Nat → ClassId) (ev : Nat → Nat) (h0 : Nat) (a1 : Nat) (rH : Nat → Nat) (rG : Nat → Nat) (sH : AR) (sG : AR) (H_towerCell : AR) (H_range : AR) (H_voice : AR) (H_strokes : AR) (H_isFalse : AR) (H_kind : AR) (H_home : AR) (H_water : AR) (H_mirage : AR) (G_towerCell : AR) (G_range : AR) (G_voice : AR) (G_strokes : AR) (G_isFalse : AR) (G_kind : AR) (G_home : AR) (G_water : AR) (G_mirage : AR) (sz : Nat) (post : AR → AR → AR → AR → AR → AR → AR → AR → AR → AR → Prop) (h : wpX4_take sH sG H_towerCell H_range H_voice H_strokes H_isFalse H_kind H_home H_water H_mirage G_towerCell G_range G_voice G_strokes G_isFalse G_kind G_home G_water G_mirage post) : Met l yX4_take (Cond.code yX4_take cX4_take 3 none :: TB) ({ frames := 0, cells := 0, slots := 0, locals := 0 }) (va_Pc [.ref h0, .ref a1] (PreX D cy ev [(a1, .inr (4, oX4 rH sH)), (h0, .inr (4, oX4 rG sG)), ((rH 7), .inl (cy 0, 5, .inl H_towerCell)), ((rH 8), .inl (cy 0, 5, .inl H_range)), ((rH 9), .inl (cy 0, 5, .inl H_voice)), ((rH 10), .inl (cy 0, 5, .inl H_strokes)), ((rH 11), .inl (cy 2, 5, .inl H_isFalse)), ((rH 12), .inl (cy 0, 4, .inl H_kind)), ((rH 13), .inl (cy 0, 4, .inl H_home)), ((rH 14), .inl (cy 0, 4, .inl H_water)), ((rH 15), .inl (cy 2, 100, .inl H_mirage)), ((rG 7), .inl (cy 0, 5, .inl G_towerCell)), ((rG 8), .inl (cy 0, 5, .inl G_range)), ((rG 9), .inl (cy 0, 5, .inl G_voice)), ((rG 10), .inl (cy 0, 5, .inl G_strokes)), ((rG 11), .inl (cy 2, 5, .inl G_isFalse)), ((rG 12), .inl (cy 0, 4, .inl G_kind)), ((rG 13), .inl (cy 0, 4, .inl G_home)), ((rG 14), .inl (cy 0, 4, .inl G_water)), ((rG 15), .inl (cy 2, 100, .inl G_mirage))] sz)) (va_Qv (fun (u : AR × AR × AR × AR × AR × AR × AR × AR × AR × AR) => post (u.1) (u.2.1) (u.2.2.1) (u.2.2.2.1) (u.2.2.2.2.1) (u.2.2.2.2.2.1) (u.2.2.2.2.2.2.1) (u.2.2.2.2.2.2.2.1) (u.2.2.2.2.2.2.2.2.1) (u.2.2.2.2.2.2.2.2.2)) (fun u => BkX D cy [(a1, .inr (4, oX4 rH sH)), (h0, .inr (4, oX4 rG sG)), ((rH 7), .inl (cy 0, 5, .inl H_towerCell)), ((rH 8), .inl (cy 0, 5, .inl H_range)), ((rH 9), .inl (cy 0, 5, .inl H_voice)), ((rH 10), .inl (cy 0, 5, .inl H_strokes)), ((rH 11), .inl (cy 2, 5, .inl H_isFalse)), ((rH 12), .inl (cy 0, 4, .inl H_kind)), ((rH 13), .inl (cy 0, 4, .inl H_home)), ((rH 14), .inl (cy 0, 4, .inl H_water)), ((rH 15), .inl (cy 2, 100, .inl H_mirage)), ((rG 7), .inl (cy 0, 5, .inl G_towerCell)), ((rG 8), .inl (cy 0, 5, .inl G_range)), ((rG 9), .inl (cy 0, 5, .inl G_voice)), ((rG 10), .inl (cy 0, 5, .inl G_strokes)), ((rG 11), .inl (cy 2, 5, .inl G_isFalse)), ((rG 12), .inl (cy 0, 4, .inl G_kind)), ((rG 13), .inl (cy 0, 4, .inl G_home)), ((rG 14), .inl (cy 0, 4, .inl G_water)), ((rG 15), .inl (cy 2, 100, .inl G_mirage))] sz [(a1, .inr (4, oX4 rH sH)), (h0, .inr (4, oX4 rG (u.1))), ((rH 7), .inl (cy 0, 5, .inl H_towerCell)), ((rH 8), .inl (cy 0, 5, .inl H_range)), ((rH 9), .inl (cy 0, 5, .inl H_voice)), ((rH 10), .inl (cy 0, 5, .inl H_strokes)), ((rH 11), .inl (cy 2, 5, .inl H_isFalse)), ((rH 12), .inl (cy 0, 4, .inl H_kind)), ((rH 13), .inl (cy 0, 4, .inl H_home)), ((rH 14), .inl (cy 0, 4, .inl H_water)), ((rH 15), .inl (cy 2, 100, .inl H_mirage)), ((rG 7), .inl (cy 0, 5, .inl (u.2.1))), ((rG 8), .inl (cy 0, 5, .inl (u.2.2.1))), ((rG 9), .inl (cy 0, 5, .inl (u.2.2.2.1))), ((rG 10), .inl (cy 0, 5, .inl (u.2.2.2.2.1))), ((rG 11), .inl (cy 2, 5, .inl (u.2.2.2.2.2.1))), ((rG 12), .inl (cy 0, 4, .inl (u.2.2.2.2.2.2.1))), ((rG 13), .inl (cy 0, 4, .inl (u.2.2.2.2.2.2.2.1))), ((rG 14), .inl (cy 0, 4, .inl (u.2.2.2.2.2.2.2.2.1))), ((rG 15), .inl (cy 2, 100, .inl (u.2.2.2.2.2.2.2.2.2)))]) (va_A [(a1, .inr (4, oX4 rH sH)), (h0, .inr (4, oX4 rG sG)), ((rH 7), .inl (cy 0, 5, .inl H_towerCell)), ((rH 8), .inl (cy 0, 5, .inl H_range)), ((rH 9), .inl (cy 0, 5, .inl H_voice)), ((rH 10), .inl (cy 0, 5, .inl H_strokes)), ((rH 11), .inl (cy 2, 5, .inl H_isFalse)), ((rH 12), .inl (cy 0, 4, .inl H_kind)), ((rH 13), .inl (cy 0, 4, .inl H_home)), ((rH 14), .inl (cy 0, 4, .inl H_water)), ((rH 15), .inl (cy 2, 100, .inl H_mirage)), ((rG 7), .inl (cy 0, 5, .inl G_towerCell)), ((rG 8), .inl (cy 0, 5, .inl G_range)), ((rG 9), .inl (cy 0, 5, .inl G_voice)), ((rG 10), .inl (cy 0, 5, .inl G_strokes)), ((rG 11), .inl (cy 2, 5, .inl G_isFalse)), ((rG 12), .inl (cy 0, 4, .inl G_kind)), ((rG 13), .inl (cy 0, 4, .inl G_home)), ((rG 14), .inl (cy 0, 4, .inl G_water)), ((rG 15), .inl (cy 2, 100, .inl G_mirage))] sz)) 0 0 (va_A [(a1, .inr (4, oX4 rH sH)), (h0, .inr (4, oX4 rG sG)), ((rH 7), .inl (cy 0, 5, .inl H_towerCell)), ((rH 8), .inl (cy 0, 5, .inl H_range)), ((rH 9), .inl (cy 0, 5, .inl H_voice)), ((rH 10), .inl (cy 0, 5, .inl H_strokes)), ((rH 11), .inl (cy 2, 5, .inl H_isFalse)), ((rH 12), .inl (cy 0, 4, .inl H_kind)), ((rH 13), .inl (cy 0, 4, .inl H_home)), ((rH 14), .inl (cy 0, 4, .inl H_water)), ((rH 15), .inl (cy 2, 100, .inl H_mirage)), ((rG 7), .inl (cy 0, 5, .inl G_towerCell)), ((rG 8), .inl (cy 0, 5, .inl G_range)), ((rG 9), .inl (cy 0, 5, .inl G_voice)), ((rG 10), .inl (cy 0, 5, .inl G_strokes)), ((rG 11), .inl (cy 2, 5, .inl G_isFalse)), ((rG 12), .inl (cy 0, 4, .inl G_kind)), ((rG 13), .inl (cy 0, 4, .inl G_home)), ((rG 14), .inl (cy 0, 4, .inl G_water)), ((rG 15), .inl (cy 2, 100, .inl G_mirage))] sz) := by
  refine ofWv (by decide) (Nat.le_of_ble_eq_true rfl) ?_
  intro p e s m args below meth c ls A R QQ hx hb hml hown hts hR hlk hE hK hP hD hS hA hl hret
  have hown : s.vm.findClass RX4 = some m.cls := hown
  have hRf : 0 ≤ R.frames := by rw [hR]; exact Nat.le_refl _
  have hRl : 0 ≤ R.locals := by rw [hR]; exact Nat.le_refl _
  clear hR
  have hl : lv_has ls 3 [(0, .ref h0), (1, .ref a1)] := hl
  have L180 : ∀ (sG : AR) (G_towerCell : AR) (G_range : AR) (G_voice : AR) (G_strokes : AR) (G_isFalse : AR) (G_kind : AR) (G_home : AR) (G_water : AR) (kx204 : AR → Int32 → Prop), (∀ (G_mirage : AR) (l2 : Int32) (H : Heap) (locs : List Loc) (ls : Array Slot), kx204 G_mirage l2 → va_P D clsX [(a1, .inr (4, oX4 rH sH)), (h0, .inr (4, oX4 rG sG)), ((rH 7), .inl (cy 0, 5, .inl H_towerCell)), ((rH 8), .inl (cy 0, 5, .inl H_range)), ((rH 9), .inl (cy 0, 5, .inl H_voice)), ((rH 10), .inl (cy 0, 5, .inl H_strokes)), ((rH 11), .inl (cy 2, 5, .inl H_isFalse)), ((rH 12), .inl (cy 0, 4, .inl H_kind)), ((rH 13), .inl (cy 0, 4, .inl H_home)), ((rH 14), .inl (cy 0, 4, .inl H_water)), ((rH 15), .inl (cy 2, 100, .inl H_mirage)), ((rG 7), .inl (cy 0, 5, .inl G_towerCell)), ((rG 8), .inl (cy 0, 5, .inl G_range)), ((rG 9), .inl (cy 0, 5, .inl G_voice)), ((rG 10), .inl (cy 0, 5, .inl G_strokes)), ((rG 11), .inl (cy 2, 5, .inl G_isFalse)), ((rG 12), .inl (cy 0, 4, .inl G_kind)), ((rG 13), .inl (cy 0, 4, .inl G_home)), ((rG 14), .inl (cy 0, 4, .inl G_water)), ((rG 15), .inl (cy 2, 100, .inl G_mirage))] H → va_D A [(a1, .inr (4, oX4 rH sH)), (h0, .inr (4, oX4 rG sG)), ((rH 7), .inl (cy 0, 5, .inl H_towerCell)), ((rH 8), .inl (cy 0, 5, .inl H_range)), ((rH 9), .inl (cy 0, 5, .inl H_voice)), ((rH 10), .inl (cy 0, 5, .inl H_strokes)), ((rH 11), .inl (cy 2, 5, .inl H_isFalse)), ((rH 12), .inl (cy 0, 4, .inl H_kind)), ((rH 13), .inl (cy 0, 4, .inl H_home)), ((rH 14), .inl (cy 0, 4, .inl H_water)), ((rH 15), .inl (cy 2, 100, .inl H_mirage)), ((rG 7), .inl (cy 0, 5, .inl G_towerCell)), ((rG 8), .inl (cy 0, 5, .inl G_range)), ((rG 9), .inl (cy 0, 5, .inl G_voice)), ((rG 10), .inl (cy 0, 5, .inl G_strokes)), ((rG 11), .inl (cy 2, 5, .inl G_isFalse)), ((rG 12), .inl (cy 0, 4, .inl G_kind)), ((rG 13), .inl (cy 0, 4, .inl G_home)), ((rG 14), .inl (cy 0, 4, .inl G_water)), ((rG 15), .inl (cy 2, 100, .inl G_mirage))] → va_S A s.heap H locs → lv_has ls 3 [(0, .ref h0), (1, .ref a1)] → W p l e R s m args below meth c H locs 0 0 QQ (F0 m 204 ls [])) → ∀ (nf180 : Nat) (G_mirage : AR) (l2 : Int32) (H : Heap) (locs : List Loc) (ls : Array Slot), wpX4_take_L180 sH sG H_towerCell H_range H_voice H_strokes H_isFalse H_kind H_home H_water H_mirage G_towerCell G_range G_voice G_strokes G_isFalse G_kind G_home G_water kx204 post nf180 G_mirage l2 → va_P D clsX [(a1, .inr (4, oX4 rH sH)), (h0, .inr (4, oX4 rG sG)), ((rH 7), .inl (cy 0, 5, .inl H_towerCell)), ((rH 8), .inl (cy 0, 5, .inl H_range)), ((rH 9), .inl (cy 0, 5, .inl H_voice)), ((rH 10), .inl (cy 0, 5, .inl H_strokes)), ((rH 11), .inl (cy 2, 5, .inl H_isFalse)), ((rH 12), .inl (cy 0, 4, .inl H_kind)), ((rH 13), .inl (cy 0, 4, .inl H_home)), ((rH 14), .inl (cy 0, 4, .inl H_water)), ((rH 15), .inl (cy 2, 100, .inl H_mirage)), ((rG 7), .inl (cy 0, 5, .inl G_towerCell)), ((rG 8), .inl (cy 0, 5, .inl G_range)), ((rG 9), .inl (cy 0, 5, .inl G_voice)), ((rG 10), .inl (cy 0, 5, .inl G_strokes)), ((rG 11), .inl (cy 2, 5, .inl G_isFalse)), ((rG 12), .inl (cy 0, 4, .inl G_kind)), ((rG 13), .inl (cy 0, 4, .inl G_home)), ((rG 14), .inl (cy 0, 4, .inl G_water)), ((rG 15), .inl (cy 2, 100, .inl G_mirage))] H → va_D A [(a1, .inr (4, oX4 rH sH)), (h0, .inr (4, oX4 rG sG)), ((rH 7), .inl (cy 0, 5, .inl H_towerCell)), ((rH 8), .inl (cy 0, 5, .inl H_range)), ((rH 9), .inl (cy 0, 5, .inl H_voice)), ((rH 10), .inl (cy 0, 5, .inl H_strokes)), ((rH 11), .inl (cy 2, 5, .inl H_isFalse)), ((rH 12), .inl (cy 0, 4, .inl H_kind)), ((rH 13), .inl (cy 0, 4, .inl H_home)), ((rH 14), .inl (cy 0, 4, .inl H_water)), ((rH 15), .inl (cy 2, 100, .inl H_mirage)), ((rG 7), .inl (cy 0, 5, .inl G_towerCell)), ((rG 8), .inl (cy 0, 5, .inl G_range)), ((rG 9), .inl (cy 0, 5, .inl G_voice)), ((rG 10), .inl (cy 0, 5, .inl G_strokes)), ((rG 11), .inl (cy 2, 5, .inl G_isFalse)), ((rG 12), .inl (cy 0, 4, .inl G_kind)), ((rG 13), .inl (cy 0, 4, .inl G_home)), ((rG 14), .inl (cy 0, 4, .inl G_water)), ((rG 15), .inl (cy 2, 100, .inl G_mirage))] → va_S A s.heap H locs → lv_has ls 3 [(0, .ref h0), (1, .ref a1), (2, .int l2)] → W p l e R s m args below meth c H locs 0 0 QQ (F0 m 180 ls []) := by
    intro sG G_towerCell G_range G_voice G_strokes G_isFalse G_kind G_home G_water kx204 hk180_204 nf180
    induction nf180 with
    | zero =>
      intro G_mirage l2 H locs ls h
      exact (show False from h).elim
    | succ nf180 ih180 =>
      intro G_mirage l2 H locs ls h hP hD hS hl
      refine lv_iload_n hx hb dX4_take_180 rfl (lv_at hl 2 rfl) ?_
      refine lv_bipush (v := (100 : Int32)) hx hb dX4_take_181 (by decide) ?_
      refine lv_icmp_ge (tgt := 204) hx hb dX4_take_183 (by decide) (fun c183 => ?_) (fun c183 => ?_)
      · have h := h.1 c183
        exact hk180_204 G_mirage l2 _ _ _ h hP hD hS (lv_sub hl [0, 1] rfl)
      · have h := h.2 c183
        refine lv_aload_n hx hb dX4_take_186 rfl (lv_at hl 0 rfl) ?_
        refine gfX4_37 hx hb hts hown hK hP 1 rfl dX4_take_187 ?_
        refine lv_iload_n hx hb dX4_take_190 rfl (lv_at hl 2 rfl) ?_
        refine lv_aload_n hx hb dX4_take_191 rfl (lv_at hl 1 rfl) ?_
        refine gfX4_37 hx hb hts hown hK hP 0 rfl dX4_take_192 ?_
        refine lv_iload_n hx hb dX4_take_195 rfl (lv_at hl 2 rfl) ?_
        obtain ⟨hin, h⟩ := h
        refine ldz (k := l2.toNatClampNeg) hx hb hK hP 10 rfl hin rfl dX4_take_196 ?_
        obtain ⟨hin, h⟩ := h
        refine stz (k := l2.toNatClampNeg) (y := (vp_nar .boolean (H_mirage l2.toNatClampNeg))) hx hb hK hP hD hS 19 rfl hin rfl rfl dX4_take_197 (fun G_mirage_197 eG_mirage_197 H locs hP hD hS => ?_)
        have h := h G_mirage_197 eG_mirage_197
        have hP : va_P D clsX [(a1, .inr (4, oX4 rH sH)), (h0, .inr (4, oX4 rG sG)), ((rH 7), .inl (cy 0, 5, .inl H_towerCell)), ((rH 8), .inl (cy 0, 5, .inl H_range)), ((rH 9), .inl (cy 0, 5, .inl H_voice)), ((rH 10), .inl (cy 0, 5, .inl H_strokes)), ((rH 11), .inl (cy 2, 5, .inl H_isFalse)), ((rH 12), .inl (cy 0, 4, .inl H_kind)), ((rH 13), .inl (cy 0, 4, .inl H_home)), ((rH 14), .inl (cy 0, 4, .inl H_water)), ((rH 15), .inl (cy 2, 100, .inl H_mirage)), ((rG 7), .inl (cy 0, 5, .inl G_towerCell)), ((rG 8), .inl (cy 0, 5, .inl G_range)), ((rG 9), .inl (cy 0, 5, .inl G_voice)), ((rG 10), .inl (cy 0, 5, .inl G_strokes)), ((rG 11), .inl (cy 2, 5, .inl G_isFalse)), ((rG 12), .inl (cy 0, 4, .inl G_kind)), ((rG 13), .inl (cy 0, 4, .inl G_home)), ((rG 14), .inl (cy 0, 4, .inl G_water)), ((rG 15), .inl (cy 2, 100, .inl G_mirage_197))] H := hP
        have hD : va_D A [(a1, .inr (4, oX4 rH sH)), (h0, .inr (4, oX4 rG sG)), ((rH 7), .inl (cy 0, 5, .inl H_towerCell)), ((rH 8), .inl (cy 0, 5, .inl H_range)), ((rH 9), .inl (cy 0, 5, .inl H_voice)), ((rH 10), .inl (cy 0, 5, .inl H_strokes)), ((rH 11), .inl (cy 2, 5, .inl H_isFalse)), ((rH 12), .inl (cy 0, 4, .inl H_kind)), ((rH 13), .inl (cy 0, 4, .inl H_home)), ((rH 14), .inl (cy 0, 4, .inl H_water)), ((rH 15), .inl (cy 2, 100, .inl H_mirage)), ((rG 7), .inl (cy 0, 5, .inl G_towerCell)), ((rG 8), .inl (cy 0, 5, .inl G_range)), ((rG 9), .inl (cy 0, 5, .inl G_voice)), ((rG 10), .inl (cy 0, 5, .inl G_strokes)), ((rG 11), .inl (cy 2, 5, .inl G_isFalse)), ((rG 12), .inl (cy 0, 4, .inl G_kind)), ((rG 13), .inl (cy 0, 4, .inl G_home)), ((rG 14), .inl (cy 0, 4, .inl G_water)), ((rG 15), .inl (cy 2, 100, .inl G_mirage_197))] := hD
        obtain ⟨l2_198, el2_198⟩ : ∃ y : Int32, y = l2 + (1 : Int32) := ⟨_, rfl⟩
        have h := h l2_198 el2_198
        refine lv_iinc (v := l2_198) (lv' := [(2, .int l2_198), (0, .ref h0), (1, .ref a1)]) hx hb dX4_take_198 hl (k := 2) rfl (by rw [el2_198]; rfl) (by decide) rfl (fun ls hl => ?_)
        refine lv_goto (tgt := 180) hx hb dX4_take_201 (by decide) ?_
        exact ih180 G_mirage_197 l2_198 _ _ _ h hP hD hS (lv_sub hl [1, 2, 0] rfl)
  have L131 : ∀ (sG : AR) (G_towerCell : AR) (G_range : AR) (G_voice : AR) (G_strokes : AR) (G_isFalse : AR) (kx178 : AR → AR → AR → Int32 → Prop), (∀ (G_kind : AR) (G_home : AR) (G_water : AR) (l2 : Int32) (H : Heap) (locs : List Loc) (ls : Array Slot), kx178 G_kind G_home G_water l2 → va_P D clsX [(a1, .inr (4, oX4 rH sH)), (h0, .inr (4, oX4 rG sG)), ((rH 7), .inl (cy 0, 5, .inl H_towerCell)), ((rH 8), .inl (cy 0, 5, .inl H_range)), ((rH 9), .inl (cy 0, 5, .inl H_voice)), ((rH 10), .inl (cy 0, 5, .inl H_strokes)), ((rH 11), .inl (cy 2, 5, .inl H_isFalse)), ((rH 12), .inl (cy 0, 4, .inl H_kind)), ((rH 13), .inl (cy 0, 4, .inl H_home)), ((rH 14), .inl (cy 0, 4, .inl H_water)), ((rH 15), .inl (cy 2, 100, .inl H_mirage)), ((rG 7), .inl (cy 0, 5, .inl G_towerCell)), ((rG 8), .inl (cy 0, 5, .inl G_range)), ((rG 9), .inl (cy 0, 5, .inl G_voice)), ((rG 10), .inl (cy 0, 5, .inl G_strokes)), ((rG 11), .inl (cy 2, 5, .inl G_isFalse)), ((rG 12), .inl (cy 0, 4, .inl G_kind)), ((rG 13), .inl (cy 0, 4, .inl G_home)), ((rG 14), .inl (cy 0, 4, .inl G_water)), ((rG 15), .inl (cy 2, 100, .inl G_mirage))] H → va_D A [(a1, .inr (4, oX4 rH sH)), (h0, .inr (4, oX4 rG sG)), ((rH 7), .inl (cy 0, 5, .inl H_towerCell)), ((rH 8), .inl (cy 0, 5, .inl H_range)), ((rH 9), .inl (cy 0, 5, .inl H_voice)), ((rH 10), .inl (cy 0, 5, .inl H_strokes)), ((rH 11), .inl (cy 2, 5, .inl H_isFalse)), ((rH 12), .inl (cy 0, 4, .inl H_kind)), ((rH 13), .inl (cy 0, 4, .inl H_home)), ((rH 14), .inl (cy 0, 4, .inl H_water)), ((rH 15), .inl (cy 2, 100, .inl H_mirage)), ((rG 7), .inl (cy 0, 5, .inl G_towerCell)), ((rG 8), .inl (cy 0, 5, .inl G_range)), ((rG 9), .inl (cy 0, 5, .inl G_voice)), ((rG 10), .inl (cy 0, 5, .inl G_strokes)), ((rG 11), .inl (cy 2, 5, .inl G_isFalse)), ((rG 12), .inl (cy 0, 4, .inl G_kind)), ((rG 13), .inl (cy 0, 4, .inl G_home)), ((rG 14), .inl (cy 0, 4, .inl G_water)), ((rG 15), .inl (cy 2, 100, .inl G_mirage))] → va_S A s.heap H locs → lv_has ls 3 [(0, .ref h0), (1, .ref a1)] → W p l e R s m args below meth c H locs 0 0 QQ (F0 m 178 ls [])) → ∀ (nf131 : Nat) (G_kind : AR) (G_home : AR) (G_water : AR) (l2 : Int32) (H : Heap) (locs : List Loc) (ls : Array Slot), wpX4_take_L131 sH sG H_towerCell H_range H_voice H_strokes H_isFalse H_kind H_home H_water H_mirage G_towerCell G_range G_voice G_strokes G_isFalse G_mirage kx178 post nf131 G_kind G_home G_water l2 → va_P D clsX [(a1, .inr (4, oX4 rH sH)), (h0, .inr (4, oX4 rG sG)), ((rH 7), .inl (cy 0, 5, .inl H_towerCell)), ((rH 8), .inl (cy 0, 5, .inl H_range)), ((rH 9), .inl (cy 0, 5, .inl H_voice)), ((rH 10), .inl (cy 0, 5, .inl H_strokes)), ((rH 11), .inl (cy 2, 5, .inl H_isFalse)), ((rH 12), .inl (cy 0, 4, .inl H_kind)), ((rH 13), .inl (cy 0, 4, .inl H_home)), ((rH 14), .inl (cy 0, 4, .inl H_water)), ((rH 15), .inl (cy 2, 100, .inl H_mirage)), ((rG 7), .inl (cy 0, 5, .inl G_towerCell)), ((rG 8), .inl (cy 0, 5, .inl G_range)), ((rG 9), .inl (cy 0, 5, .inl G_voice)), ((rG 10), .inl (cy 0, 5, .inl G_strokes)), ((rG 11), .inl (cy 2, 5, .inl G_isFalse)), ((rG 12), .inl (cy 0, 4, .inl G_kind)), ((rG 13), .inl (cy 0, 4, .inl G_home)), ((rG 14), .inl (cy 0, 4, .inl G_water)), ((rG 15), .inl (cy 2, 100, .inl G_mirage))] H → va_D A [(a1, .inr (4, oX4 rH sH)), (h0, .inr (4, oX4 rG sG)), ((rH 7), .inl (cy 0, 5, .inl H_towerCell)), ((rH 8), .inl (cy 0, 5, .inl H_range)), ((rH 9), .inl (cy 0, 5, .inl H_voice)), ((rH 10), .inl (cy 0, 5, .inl H_strokes)), ((rH 11), .inl (cy 2, 5, .inl H_isFalse)), ((rH 12), .inl (cy 0, 4, .inl H_kind)), ((rH 13), .inl (cy 0, 4, .inl H_home)), ((rH 14), .inl (cy 0, 4, .inl H_water)), ((rH 15), .inl (cy 2, 100, .inl H_mirage)), ((rG 7), .inl (cy 0, 5, .inl G_towerCell)), ((rG 8), .inl (cy 0, 5, .inl G_range)), ((rG 9), .inl (cy 0, 5, .inl G_voice)), ((rG 10), .inl (cy 0, 5, .inl G_strokes)), ((rG 11), .inl (cy 2, 5, .inl G_isFalse)), ((rG 12), .inl (cy 0, 4, .inl G_kind)), ((rG 13), .inl (cy 0, 4, .inl G_home)), ((rG 14), .inl (cy 0, 4, .inl G_water)), ((rG 15), .inl (cy 2, 100, .inl G_mirage))] → va_S A s.heap H locs → lv_has ls 3 [(0, .ref h0), (1, .ref a1), (2, .int l2)] → W p l e R s m args below meth c H locs 0 0 QQ (F0 m 131 ls []) := by
    intro sG G_towerCell G_range G_voice G_strokes G_isFalse kx178 hk131_178 nf131
    induction nf131 with
    | zero =>
      intro G_kind G_home G_water l2 H locs ls h
      exact (show False from h).elim
    | succ nf131 ih131 =>
      intro G_kind G_home G_water l2 H locs ls h hP hD hS hl
      refine lv_iload_n hx hb dX4_take_131 rfl (lv_at hl 2 rfl) ?_
      refine lv_iconst (v := (4 : Int32)) hx hb dX4_take_132 (by decide) ?_
      refine lv_icmp_ge (tgt := 178) hx hb dX4_take_133 (by decide) (fun c133 => ?_) (fun c133 => ?_)
      · have h := h.1 c133
        exact hk131_178 G_kind G_home G_water l2 _ _ _ h hP hD hS (lv_sub hl [0, 1] rfl)
      · have h := h.2 c133
        refine lv_aload_n hx hb dX4_take_136 rfl (lv_at hl 0 rfl) ?_
        refine gfX4_28 hx hb hts hown hK hP 1 rfl dX4_take_137 ?_
        refine lv_iload_n hx hb dX4_take_140 rfl (lv_at hl 2 rfl) ?_
        refine lv_aload_n hx hb dX4_take_141 rfl (lv_at hl 1 rfl) ?_
        refine gfX4_28 hx hb hts hown hK hP 0 rfl dX4_take_142 ?_
        refine lv_iload_n hx hb dX4_take_145 rfl (lv_at hl 2 rfl) ?_
        obtain ⟨hin, h⟩ := h
        refine ldi (k := l2.toNatClampNeg) hx hb hK hP 7 rfl hin rfl dX4_take_146 ?_
        obtain ⟨hin, h⟩ := h
        refine sti (k := l2.toNatClampNeg) (y := (H_kind l2.toNatClampNeg)) hx hb hK hP hD hS 16 rfl hin rfl rfl dX4_take_147 (fun G_kind_147 eG_kind_147 H locs hP hD hS => ?_)
        have h := h G_kind_147 eG_kind_147
        have hP : va_P D clsX [(a1, .inr (4, oX4 rH sH)), (h0, .inr (4, oX4 rG sG)), ((rH 7), .inl (cy 0, 5, .inl H_towerCell)), ((rH 8), .inl (cy 0, 5, .inl H_range)), ((rH 9), .inl (cy 0, 5, .inl H_voice)), ((rH 10), .inl (cy 0, 5, .inl H_strokes)), ((rH 11), .inl (cy 2, 5, .inl H_isFalse)), ((rH 12), .inl (cy 0, 4, .inl H_kind)), ((rH 13), .inl (cy 0, 4, .inl H_home)), ((rH 14), .inl (cy 0, 4, .inl H_water)), ((rH 15), .inl (cy 2, 100, .inl H_mirage)), ((rG 7), .inl (cy 0, 5, .inl G_towerCell)), ((rG 8), .inl (cy 0, 5, .inl G_range)), ((rG 9), .inl (cy 0, 5, .inl G_voice)), ((rG 10), .inl (cy 0, 5, .inl G_strokes)), ((rG 11), .inl (cy 2, 5, .inl G_isFalse)), ((rG 12), .inl (cy 0, 4, .inl G_kind_147)), ((rG 13), .inl (cy 0, 4, .inl G_home)), ((rG 14), .inl (cy 0, 4, .inl G_water)), ((rG 15), .inl (cy 2, 100, .inl G_mirage))] H := hP
        have hD : va_D A [(a1, .inr (4, oX4 rH sH)), (h0, .inr (4, oX4 rG sG)), ((rH 7), .inl (cy 0, 5, .inl H_towerCell)), ((rH 8), .inl (cy 0, 5, .inl H_range)), ((rH 9), .inl (cy 0, 5, .inl H_voice)), ((rH 10), .inl (cy 0, 5, .inl H_strokes)), ((rH 11), .inl (cy 2, 5, .inl H_isFalse)), ((rH 12), .inl (cy 0, 4, .inl H_kind)), ((rH 13), .inl (cy 0, 4, .inl H_home)), ((rH 14), .inl (cy 0, 4, .inl H_water)), ((rH 15), .inl (cy 2, 100, .inl H_mirage)), ((rG 7), .inl (cy 0, 5, .inl G_towerCell)), ((rG 8), .inl (cy 0, 5, .inl G_range)), ((rG 9), .inl (cy 0, 5, .inl G_voice)), ((rG 10), .inl (cy 0, 5, .inl G_strokes)), ((rG 11), .inl (cy 2, 5, .inl G_isFalse)), ((rG 12), .inl (cy 0, 4, .inl G_kind_147)), ((rG 13), .inl (cy 0, 4, .inl G_home)), ((rG 14), .inl (cy 0, 4, .inl G_water)), ((rG 15), .inl (cy 2, 100, .inl G_mirage))] := hD
        refine lv_aload_n hx hb dX4_take_148 rfl (lv_at hl 0 rfl) ?_
        refine gfX4_31 hx hb hts hown hK hP 1 rfl dX4_take_149 ?_
        refine lv_iload_n hx hb dX4_take_152 rfl (lv_at hl 2 rfl) ?_
        refine lv_aload_n hx hb dX4_take_153 rfl (lv_at hl 1 rfl) ?_
        refine gfX4_31 hx hb hts hown hK hP 0 rfl dX4_take_154 ?_
        refine lv_iload_n hx hb dX4_take_157 rfl (lv_at hl 2 rfl) ?_
        obtain ⟨hin, h⟩ := h
        refine ldi (k := l2.toNatClampNeg) hx hb hK hP 8 rfl hin rfl dX4_take_158 ?_
        obtain ⟨hin, h⟩ := h
        refine sti (k := l2.toNatClampNeg) (y := (H_home l2.toNatClampNeg)) hx hb hK hP hD hS 17 rfl hin rfl rfl dX4_take_159 (fun G_home_159 eG_home_159 H locs hP hD hS => ?_)
        have h := h G_home_159 eG_home_159
        have hP : va_P D clsX [(a1, .inr (4, oX4 rH sH)), (h0, .inr (4, oX4 rG sG)), ((rH 7), .inl (cy 0, 5, .inl H_towerCell)), ((rH 8), .inl (cy 0, 5, .inl H_range)), ((rH 9), .inl (cy 0, 5, .inl H_voice)), ((rH 10), .inl (cy 0, 5, .inl H_strokes)), ((rH 11), .inl (cy 2, 5, .inl H_isFalse)), ((rH 12), .inl (cy 0, 4, .inl H_kind)), ((rH 13), .inl (cy 0, 4, .inl H_home)), ((rH 14), .inl (cy 0, 4, .inl H_water)), ((rH 15), .inl (cy 2, 100, .inl H_mirage)), ((rG 7), .inl (cy 0, 5, .inl G_towerCell)), ((rG 8), .inl (cy 0, 5, .inl G_range)), ((rG 9), .inl (cy 0, 5, .inl G_voice)), ((rG 10), .inl (cy 0, 5, .inl G_strokes)), ((rG 11), .inl (cy 2, 5, .inl G_isFalse)), ((rG 12), .inl (cy 0, 4, .inl G_kind_147)), ((rG 13), .inl (cy 0, 4, .inl G_home_159)), ((rG 14), .inl (cy 0, 4, .inl G_water)), ((rG 15), .inl (cy 2, 100, .inl G_mirage))] H := hP
        have hD : va_D A [(a1, .inr (4, oX4 rH sH)), (h0, .inr (4, oX4 rG sG)), ((rH 7), .inl (cy 0, 5, .inl H_towerCell)), ((rH 8), .inl (cy 0, 5, .inl H_range)), ((rH 9), .inl (cy 0, 5, .inl H_voice)), ((rH 10), .inl (cy 0, 5, .inl H_strokes)), ((rH 11), .inl (cy 2, 5, .inl H_isFalse)), ((rH 12), .inl (cy 0, 4, .inl H_kind)), ((rH 13), .inl (cy 0, 4, .inl H_home)), ((rH 14), .inl (cy 0, 4, .inl H_water)), ((rH 15), .inl (cy 2, 100, .inl H_mirage)), ((rG 7), .inl (cy 0, 5, .inl G_towerCell)), ((rG 8), .inl (cy 0, 5, .inl G_range)), ((rG 9), .inl (cy 0, 5, .inl G_voice)), ((rG 10), .inl (cy 0, 5, .inl G_strokes)), ((rG 11), .inl (cy 2, 5, .inl G_isFalse)), ((rG 12), .inl (cy 0, 4, .inl G_kind_147)), ((rG 13), .inl (cy 0, 4, .inl G_home_159)), ((rG 14), .inl (cy 0, 4, .inl G_water)), ((rG 15), .inl (cy 2, 100, .inl G_mirage))] := hD
        refine lv_aload_n hx hb dX4_take_160 rfl (lv_at hl 0 rfl) ?_
        refine gfX4_34 hx hb hts hown hK hP 1 rfl dX4_take_161 ?_
        refine lv_iload_n hx hb dX4_take_164 rfl (lv_at hl 2 rfl) ?_
        refine lv_aload_n hx hb dX4_take_165 rfl (lv_at hl 1 rfl) ?_
        refine gfX4_34 hx hb hts hown hK hP 0 rfl dX4_take_166 ?_
        refine lv_iload_n hx hb dX4_take_169 rfl (lv_at hl 2 rfl) ?_
        obtain ⟨hin, h⟩ := h
        refine ldi (k := l2.toNatClampNeg) hx hb hK hP 9 rfl hin rfl dX4_take_170 ?_
        obtain ⟨hin, h⟩ := h
        refine sti (k := l2.toNatClampNeg) (y := (H_water l2.toNatClampNeg)) hx hb hK hP hD hS 18 rfl hin rfl rfl dX4_take_171 (fun G_water_171 eG_water_171 H locs hP hD hS => ?_)
        have h := h G_water_171 eG_water_171
        have hP : va_P D clsX [(a1, .inr (4, oX4 rH sH)), (h0, .inr (4, oX4 rG sG)), ((rH 7), .inl (cy 0, 5, .inl H_towerCell)), ((rH 8), .inl (cy 0, 5, .inl H_range)), ((rH 9), .inl (cy 0, 5, .inl H_voice)), ((rH 10), .inl (cy 0, 5, .inl H_strokes)), ((rH 11), .inl (cy 2, 5, .inl H_isFalse)), ((rH 12), .inl (cy 0, 4, .inl H_kind)), ((rH 13), .inl (cy 0, 4, .inl H_home)), ((rH 14), .inl (cy 0, 4, .inl H_water)), ((rH 15), .inl (cy 2, 100, .inl H_mirage)), ((rG 7), .inl (cy 0, 5, .inl G_towerCell)), ((rG 8), .inl (cy 0, 5, .inl G_range)), ((rG 9), .inl (cy 0, 5, .inl G_voice)), ((rG 10), .inl (cy 0, 5, .inl G_strokes)), ((rG 11), .inl (cy 2, 5, .inl G_isFalse)), ((rG 12), .inl (cy 0, 4, .inl G_kind_147)), ((rG 13), .inl (cy 0, 4, .inl G_home_159)), ((rG 14), .inl (cy 0, 4, .inl G_water_171)), ((rG 15), .inl (cy 2, 100, .inl G_mirage))] H := hP
        have hD : va_D A [(a1, .inr (4, oX4 rH sH)), (h0, .inr (4, oX4 rG sG)), ((rH 7), .inl (cy 0, 5, .inl H_towerCell)), ((rH 8), .inl (cy 0, 5, .inl H_range)), ((rH 9), .inl (cy 0, 5, .inl H_voice)), ((rH 10), .inl (cy 0, 5, .inl H_strokes)), ((rH 11), .inl (cy 2, 5, .inl H_isFalse)), ((rH 12), .inl (cy 0, 4, .inl H_kind)), ((rH 13), .inl (cy 0, 4, .inl H_home)), ((rH 14), .inl (cy 0, 4, .inl H_water)), ((rH 15), .inl (cy 2, 100, .inl H_mirage)), ((rG 7), .inl (cy 0, 5, .inl G_towerCell)), ((rG 8), .inl (cy 0, 5, .inl G_range)), ((rG 9), .inl (cy 0, 5, .inl G_voice)), ((rG 10), .inl (cy 0, 5, .inl G_strokes)), ((rG 11), .inl (cy 2, 5, .inl G_isFalse)), ((rG 12), .inl (cy 0, 4, .inl G_kind_147)), ((rG 13), .inl (cy 0, 4, .inl G_home_159)), ((rG 14), .inl (cy 0, 4, .inl G_water_171)), ((rG 15), .inl (cy 2, 100, .inl G_mirage))] := hD
        obtain ⟨l2_172, el2_172⟩ : ∃ y : Int32, y = l2 + (1 : Int32) := ⟨_, rfl⟩
        have h := h l2_172 el2_172
        refine lv_iinc (v := l2_172) (lv' := [(2, .int l2_172), (0, .ref h0), (1, .ref a1)]) hx hb dX4_take_172 hl (k := 2) rfl (by rw [el2_172]; rfl) (by decide) rfl (fun ls hl => ?_)
        refine lv_goto (tgt := 131) hx hb dX4_take_175 (by decide) ?_
        exact ih131 G_kind_147 G_home_159 G_water_171 l2_172 _ _ _ h hP hD hS (lv_sub hl [1, 2, 0] rfl)
  have L58 : ∀ (sG : AR) (kx129 : AR → AR → AR → AR → AR → Int32 → Prop), (∀ (G_towerCell : AR) (G_range : AR) (G_voice : AR) (G_strokes : AR) (G_isFalse : AR) (l2 : Int32) (H : Heap) (locs : List Loc) (ls : Array Slot), kx129 G_towerCell G_range G_voice G_strokes G_isFalse l2 → va_P D clsX [(a1, .inr (4, oX4 rH sH)), (h0, .inr (4, oX4 rG sG)), ((rH 7), .inl (cy 0, 5, .inl H_towerCell)), ((rH 8), .inl (cy 0, 5, .inl H_range)), ((rH 9), .inl (cy 0, 5, .inl H_voice)), ((rH 10), .inl (cy 0, 5, .inl H_strokes)), ((rH 11), .inl (cy 2, 5, .inl H_isFalse)), ((rH 12), .inl (cy 0, 4, .inl H_kind)), ((rH 13), .inl (cy 0, 4, .inl H_home)), ((rH 14), .inl (cy 0, 4, .inl H_water)), ((rH 15), .inl (cy 2, 100, .inl H_mirage)), ((rG 7), .inl (cy 0, 5, .inl G_towerCell)), ((rG 8), .inl (cy 0, 5, .inl G_range)), ((rG 9), .inl (cy 0, 5, .inl G_voice)), ((rG 10), .inl (cy 0, 5, .inl G_strokes)), ((rG 11), .inl (cy 2, 5, .inl G_isFalse)), ((rG 12), .inl (cy 0, 4, .inl G_kind)), ((rG 13), .inl (cy 0, 4, .inl G_home)), ((rG 14), .inl (cy 0, 4, .inl G_water)), ((rG 15), .inl (cy 2, 100, .inl G_mirage))] H → va_D A [(a1, .inr (4, oX4 rH sH)), (h0, .inr (4, oX4 rG sG)), ((rH 7), .inl (cy 0, 5, .inl H_towerCell)), ((rH 8), .inl (cy 0, 5, .inl H_range)), ((rH 9), .inl (cy 0, 5, .inl H_voice)), ((rH 10), .inl (cy 0, 5, .inl H_strokes)), ((rH 11), .inl (cy 2, 5, .inl H_isFalse)), ((rH 12), .inl (cy 0, 4, .inl H_kind)), ((rH 13), .inl (cy 0, 4, .inl H_home)), ((rH 14), .inl (cy 0, 4, .inl H_water)), ((rH 15), .inl (cy 2, 100, .inl H_mirage)), ((rG 7), .inl (cy 0, 5, .inl G_towerCell)), ((rG 8), .inl (cy 0, 5, .inl G_range)), ((rG 9), .inl (cy 0, 5, .inl G_voice)), ((rG 10), .inl (cy 0, 5, .inl G_strokes)), ((rG 11), .inl (cy 2, 5, .inl G_isFalse)), ((rG 12), .inl (cy 0, 4, .inl G_kind)), ((rG 13), .inl (cy 0, 4, .inl G_home)), ((rG 14), .inl (cy 0, 4, .inl G_water)), ((rG 15), .inl (cy 2, 100, .inl G_mirage))] → va_S A s.heap H locs → lv_has ls 3 [(0, .ref h0), (1, .ref a1)] → W p l e R s m args below meth c H locs 0 0 QQ (F0 m 129 ls [])) → ∀ (nf58 : Nat) (G_towerCell : AR) (G_range : AR) (G_voice : AR) (G_strokes : AR) (G_isFalse : AR) (l2 : Int32) (H : Heap) (locs : List Loc) (ls : Array Slot), wpX4_take_L58 sH sG H_towerCell H_range H_voice H_strokes H_isFalse H_kind H_home H_water H_mirage G_kind G_home G_water G_mirage kx129 post nf58 G_towerCell G_range G_voice G_strokes G_isFalse l2 → va_P D clsX [(a1, .inr (4, oX4 rH sH)), (h0, .inr (4, oX4 rG sG)), ((rH 7), .inl (cy 0, 5, .inl H_towerCell)), ((rH 8), .inl (cy 0, 5, .inl H_range)), ((rH 9), .inl (cy 0, 5, .inl H_voice)), ((rH 10), .inl (cy 0, 5, .inl H_strokes)), ((rH 11), .inl (cy 2, 5, .inl H_isFalse)), ((rH 12), .inl (cy 0, 4, .inl H_kind)), ((rH 13), .inl (cy 0, 4, .inl H_home)), ((rH 14), .inl (cy 0, 4, .inl H_water)), ((rH 15), .inl (cy 2, 100, .inl H_mirage)), ((rG 7), .inl (cy 0, 5, .inl G_towerCell)), ((rG 8), .inl (cy 0, 5, .inl G_range)), ((rG 9), .inl (cy 0, 5, .inl G_voice)), ((rG 10), .inl (cy 0, 5, .inl G_strokes)), ((rG 11), .inl (cy 2, 5, .inl G_isFalse)), ((rG 12), .inl (cy 0, 4, .inl G_kind)), ((rG 13), .inl (cy 0, 4, .inl G_home)), ((rG 14), .inl (cy 0, 4, .inl G_water)), ((rG 15), .inl (cy 2, 100, .inl G_mirage))] H → va_D A [(a1, .inr (4, oX4 rH sH)), (h0, .inr (4, oX4 rG sG)), ((rH 7), .inl (cy 0, 5, .inl H_towerCell)), ((rH 8), .inl (cy 0, 5, .inl H_range)), ((rH 9), .inl (cy 0, 5, .inl H_voice)), ((rH 10), .inl (cy 0, 5, .inl H_strokes)), ((rH 11), .inl (cy 2, 5, .inl H_isFalse)), ((rH 12), .inl (cy 0, 4, .inl H_kind)), ((rH 13), .inl (cy 0, 4, .inl H_home)), ((rH 14), .inl (cy 0, 4, .inl H_water)), ((rH 15), .inl (cy 2, 100, .inl H_mirage)), ((rG 7), .inl (cy 0, 5, .inl G_towerCell)), ((rG 8), .inl (cy 0, 5, .inl G_range)), ((rG 9), .inl (cy 0, 5, .inl G_voice)), ((rG 10), .inl (cy 0, 5, .inl G_strokes)), ((rG 11), .inl (cy 2, 5, .inl G_isFalse)), ((rG 12), .inl (cy 0, 4, .inl G_kind)), ((rG 13), .inl (cy 0, 4, .inl G_home)), ((rG 14), .inl (cy 0, 4, .inl G_water)), ((rG 15), .inl (cy 2, 100, .inl G_mirage))] → va_S A s.heap H locs → lv_has ls 3 [(0, .ref h0), (1, .ref a1), (2, .int l2)] → W p l e R s m args below meth c H locs 0 0 QQ (F0 m 58 ls []) := by
    intro sG kx129 hk58_129 nf58
    induction nf58 with
    | zero =>
      intro G_towerCell G_range G_voice G_strokes G_isFalse l2 H locs ls h
      exact (show False from h).elim
    | succ nf58 ih58 =>
      intro G_towerCell G_range G_voice G_strokes G_isFalse l2 H locs ls h hP hD hS hl
      refine lv_iload_n hx hb dX4_take_58 rfl (lv_at hl 2 rfl) ?_
      refine lv_iconst (v := (5 : Int32)) hx hb dX4_take_59 (by decide) ?_
      refine lv_icmp_ge (tgt := 129) hx hb dX4_take_60 (by decide) (fun c60 => ?_) (fun c60 => ?_)
      · have h := h.1 c60
        exact hk58_129 G_towerCell G_range G_voice G_strokes G_isFalse l2 _ _ _ h hP hD hS (lv_sub hl [0, 1] rfl)
      · have h := h.2 c60
        refine lv_aload_n hx hb dX4_take_63 rfl (lv_at hl 0 rfl) ?_
        refine gfX4_9 hx hb hts hown hK hP 1 rfl dX4_take_64 ?_
        refine lv_iload_n hx hb dX4_take_67 rfl (lv_at hl 2 rfl) ?_
        refine lv_aload_n hx hb dX4_take_68 rfl (lv_at hl 1 rfl) ?_
        refine gfX4_9 hx hb hts hown hK hP 0 rfl dX4_take_69 ?_
        refine lv_iload_n hx hb dX4_take_72 rfl (lv_at hl 2 rfl) ?_
        obtain ⟨hin, h⟩ := h
        refine ldi (k := l2.toNatClampNeg) hx hb hK hP 2 rfl hin rfl dX4_take_73 ?_
        obtain ⟨hin, h⟩ := h
        refine sti (k := l2.toNatClampNeg) (y := (H_towerCell l2.toNatClampNeg)) hx hb hK hP hD hS 11 rfl hin rfl rfl dX4_take_74 (fun G_towerCell_74 eG_towerCell_74 H locs hP hD hS => ?_)
        have h := h G_towerCell_74 eG_towerCell_74
        have hP : va_P D clsX [(a1, .inr (4, oX4 rH sH)), (h0, .inr (4, oX4 rG sG)), ((rH 7), .inl (cy 0, 5, .inl H_towerCell)), ((rH 8), .inl (cy 0, 5, .inl H_range)), ((rH 9), .inl (cy 0, 5, .inl H_voice)), ((rH 10), .inl (cy 0, 5, .inl H_strokes)), ((rH 11), .inl (cy 2, 5, .inl H_isFalse)), ((rH 12), .inl (cy 0, 4, .inl H_kind)), ((rH 13), .inl (cy 0, 4, .inl H_home)), ((rH 14), .inl (cy 0, 4, .inl H_water)), ((rH 15), .inl (cy 2, 100, .inl H_mirage)), ((rG 7), .inl (cy 0, 5, .inl G_towerCell_74)), ((rG 8), .inl (cy 0, 5, .inl G_range)), ((rG 9), .inl (cy 0, 5, .inl G_voice)), ((rG 10), .inl (cy 0, 5, .inl G_strokes)), ((rG 11), .inl (cy 2, 5, .inl G_isFalse)), ((rG 12), .inl (cy 0, 4, .inl G_kind)), ((rG 13), .inl (cy 0, 4, .inl G_home)), ((rG 14), .inl (cy 0, 4, .inl G_water)), ((rG 15), .inl (cy 2, 100, .inl G_mirage))] H := hP
        have hD : va_D A [(a1, .inr (4, oX4 rH sH)), (h0, .inr (4, oX4 rG sG)), ((rH 7), .inl (cy 0, 5, .inl H_towerCell)), ((rH 8), .inl (cy 0, 5, .inl H_range)), ((rH 9), .inl (cy 0, 5, .inl H_voice)), ((rH 10), .inl (cy 0, 5, .inl H_strokes)), ((rH 11), .inl (cy 2, 5, .inl H_isFalse)), ((rH 12), .inl (cy 0, 4, .inl H_kind)), ((rH 13), .inl (cy 0, 4, .inl H_home)), ((rH 14), .inl (cy 0, 4, .inl H_water)), ((rH 15), .inl (cy 2, 100, .inl H_mirage)), ((rG 7), .inl (cy 0, 5, .inl G_towerCell_74)), ((rG 8), .inl (cy 0, 5, .inl G_range)), ((rG 9), .inl (cy 0, 5, .inl G_voice)), ((rG 10), .inl (cy 0, 5, .inl G_strokes)), ((rG 11), .inl (cy 2, 5, .inl G_isFalse)), ((rG 12), .inl (cy 0, 4, .inl G_kind)), ((rG 13), .inl (cy 0, 4, .inl G_home)), ((rG 14), .inl (cy 0, 4, .inl G_water)), ((rG 15), .inl (cy 2, 100, .inl G_mirage))] := hD
        refine lv_aload_n hx hb dX4_take_75 rfl (lv_at hl 0 rfl) ?_
        refine gfX4_15 hx hb hts hown hK hP 1 rfl dX4_take_76 ?_
        refine lv_iload_n hx hb dX4_take_79 rfl (lv_at hl 2 rfl) ?_
        refine lv_aload_n hx hb dX4_take_80 rfl (lv_at hl 1 rfl) ?_
        refine gfX4_15 hx hb hts hown hK hP 0 rfl dX4_take_81 ?_
        refine lv_iload_n hx hb dX4_take_84 rfl (lv_at hl 2 rfl) ?_
        obtain ⟨hin, h⟩ := h
        refine ldi (k := l2.toNatClampNeg) hx hb hK hP 3 rfl hin rfl dX4_take_85 ?_
        obtain ⟨hin, h⟩ := h
        refine sti (k := l2.toNatClampNeg) (y := (H_range l2.toNatClampNeg)) hx hb hK hP hD hS 12 rfl hin rfl rfl dX4_take_86 (fun G_range_86 eG_range_86 H locs hP hD hS => ?_)
        have h := h G_range_86 eG_range_86
        have hP : va_P D clsX [(a1, .inr (4, oX4 rH sH)), (h0, .inr (4, oX4 rG sG)), ((rH 7), .inl (cy 0, 5, .inl H_towerCell)), ((rH 8), .inl (cy 0, 5, .inl H_range)), ((rH 9), .inl (cy 0, 5, .inl H_voice)), ((rH 10), .inl (cy 0, 5, .inl H_strokes)), ((rH 11), .inl (cy 2, 5, .inl H_isFalse)), ((rH 12), .inl (cy 0, 4, .inl H_kind)), ((rH 13), .inl (cy 0, 4, .inl H_home)), ((rH 14), .inl (cy 0, 4, .inl H_water)), ((rH 15), .inl (cy 2, 100, .inl H_mirage)), ((rG 7), .inl (cy 0, 5, .inl G_towerCell_74)), ((rG 8), .inl (cy 0, 5, .inl G_range_86)), ((rG 9), .inl (cy 0, 5, .inl G_voice)), ((rG 10), .inl (cy 0, 5, .inl G_strokes)), ((rG 11), .inl (cy 2, 5, .inl G_isFalse)), ((rG 12), .inl (cy 0, 4, .inl G_kind)), ((rG 13), .inl (cy 0, 4, .inl G_home)), ((rG 14), .inl (cy 0, 4, .inl G_water)), ((rG 15), .inl (cy 2, 100, .inl G_mirage))] H := hP
        have hD : va_D A [(a1, .inr (4, oX4 rH sH)), (h0, .inr (4, oX4 rG sG)), ((rH 7), .inl (cy 0, 5, .inl H_towerCell)), ((rH 8), .inl (cy 0, 5, .inl H_range)), ((rH 9), .inl (cy 0, 5, .inl H_voice)), ((rH 10), .inl (cy 0, 5, .inl H_strokes)), ((rH 11), .inl (cy 2, 5, .inl H_isFalse)), ((rH 12), .inl (cy 0, 4, .inl H_kind)), ((rH 13), .inl (cy 0, 4, .inl H_home)), ((rH 14), .inl (cy 0, 4, .inl H_water)), ((rH 15), .inl (cy 2, 100, .inl H_mirage)), ((rG 7), .inl (cy 0, 5, .inl G_towerCell_74)), ((rG 8), .inl (cy 0, 5, .inl G_range_86)), ((rG 9), .inl (cy 0, 5, .inl G_voice)), ((rG 10), .inl (cy 0, 5, .inl G_strokes)), ((rG 11), .inl (cy 2, 5, .inl G_isFalse)), ((rG 12), .inl (cy 0, 4, .inl G_kind)), ((rG 13), .inl (cy 0, 4, .inl G_home)), ((rG 14), .inl (cy 0, 4, .inl G_water)), ((rG 15), .inl (cy 2, 100, .inl G_mirage))] := hD
        refine lv_aload_n hx hb dX4_take_87 rfl (lv_at hl 0 rfl) ?_
        refine gfX4_18 hx hb hts hown hK hP 1 rfl dX4_take_88 ?_
        refine lv_iload_n hx hb dX4_take_91 rfl (lv_at hl 2 rfl) ?_
        refine lv_aload_n hx hb dX4_take_92 rfl (lv_at hl 1 rfl) ?_
        refine gfX4_18 hx hb hts hown hK hP 0 rfl dX4_take_93 ?_
        refine lv_iload_n hx hb dX4_take_96 rfl (lv_at hl 2 rfl) ?_
        obtain ⟨hin, h⟩ := h
        refine ldi (k := l2.toNatClampNeg) hx hb hK hP 4 rfl hin rfl dX4_take_97 ?_
        obtain ⟨hin, h⟩ := h
        refine sti (k := l2.toNatClampNeg) (y := (H_voice l2.toNatClampNeg)) hx hb hK hP hD hS 13 rfl hin rfl rfl dX4_take_98 (fun G_voice_98 eG_voice_98 H locs hP hD hS => ?_)
        have h := h G_voice_98 eG_voice_98
        have hP : va_P D clsX [(a1, .inr (4, oX4 rH sH)), (h0, .inr (4, oX4 rG sG)), ((rH 7), .inl (cy 0, 5, .inl H_towerCell)), ((rH 8), .inl (cy 0, 5, .inl H_range)), ((rH 9), .inl (cy 0, 5, .inl H_voice)), ((rH 10), .inl (cy 0, 5, .inl H_strokes)), ((rH 11), .inl (cy 2, 5, .inl H_isFalse)), ((rH 12), .inl (cy 0, 4, .inl H_kind)), ((rH 13), .inl (cy 0, 4, .inl H_home)), ((rH 14), .inl (cy 0, 4, .inl H_water)), ((rH 15), .inl (cy 2, 100, .inl H_mirage)), ((rG 7), .inl (cy 0, 5, .inl G_towerCell_74)), ((rG 8), .inl (cy 0, 5, .inl G_range_86)), ((rG 9), .inl (cy 0, 5, .inl G_voice_98)), ((rG 10), .inl (cy 0, 5, .inl G_strokes)), ((rG 11), .inl (cy 2, 5, .inl G_isFalse)), ((rG 12), .inl (cy 0, 4, .inl G_kind)), ((rG 13), .inl (cy 0, 4, .inl G_home)), ((rG 14), .inl (cy 0, 4, .inl G_water)), ((rG 15), .inl (cy 2, 100, .inl G_mirage))] H := hP
        have hD : va_D A [(a1, .inr (4, oX4 rH sH)), (h0, .inr (4, oX4 rG sG)), ((rH 7), .inl (cy 0, 5, .inl H_towerCell)), ((rH 8), .inl (cy 0, 5, .inl H_range)), ((rH 9), .inl (cy 0, 5, .inl H_voice)), ((rH 10), .inl (cy 0, 5, .inl H_strokes)), ((rH 11), .inl (cy 2, 5, .inl H_isFalse)), ((rH 12), .inl (cy 0, 4, .inl H_kind)), ((rH 13), .inl (cy 0, 4, .inl H_home)), ((rH 14), .inl (cy 0, 4, .inl H_water)), ((rH 15), .inl (cy 2, 100, .inl H_mirage)), ((rG 7), .inl (cy 0, 5, .inl G_towerCell_74)), ((rG 8), .inl (cy 0, 5, .inl G_range_86)), ((rG 9), .inl (cy 0, 5, .inl G_voice_98)), ((rG 10), .inl (cy 0, 5, .inl G_strokes)), ((rG 11), .inl (cy 2, 5, .inl G_isFalse)), ((rG 12), .inl (cy 0, 4, .inl G_kind)), ((rG 13), .inl (cy 0, 4, .inl G_home)), ((rG 14), .inl (cy 0, 4, .inl G_water)), ((rG 15), .inl (cy 2, 100, .inl G_mirage))] := hD
        refine lv_aload_n hx hb dX4_take_99 rfl (lv_at hl 0 rfl) ?_
        refine gfX4_21 hx hb hts hown hK hP 1 rfl dX4_take_100 ?_
        refine lv_iload_n hx hb dX4_take_103 rfl (lv_at hl 2 rfl) ?_
        refine lv_aload_n hx hb dX4_take_104 rfl (lv_at hl 1 rfl) ?_
        refine gfX4_21 hx hb hts hown hK hP 0 rfl dX4_take_105 ?_
        refine lv_iload_n hx hb dX4_take_108 rfl (lv_at hl 2 rfl) ?_
        obtain ⟨hin, h⟩ := h
        refine ldi (k := l2.toNatClampNeg) hx hb hK hP 5 rfl hin rfl dX4_take_109 ?_
        obtain ⟨hin, h⟩ := h
        refine sti (k := l2.toNatClampNeg) (y := (H_strokes l2.toNatClampNeg)) hx hb hK hP hD hS 14 rfl hin rfl rfl dX4_take_110 (fun G_strokes_110 eG_strokes_110 H locs hP hD hS => ?_)
        have h := h G_strokes_110 eG_strokes_110
        have hP : va_P D clsX [(a1, .inr (4, oX4 rH sH)), (h0, .inr (4, oX4 rG sG)), ((rH 7), .inl (cy 0, 5, .inl H_towerCell)), ((rH 8), .inl (cy 0, 5, .inl H_range)), ((rH 9), .inl (cy 0, 5, .inl H_voice)), ((rH 10), .inl (cy 0, 5, .inl H_strokes)), ((rH 11), .inl (cy 2, 5, .inl H_isFalse)), ((rH 12), .inl (cy 0, 4, .inl H_kind)), ((rH 13), .inl (cy 0, 4, .inl H_home)), ((rH 14), .inl (cy 0, 4, .inl H_water)), ((rH 15), .inl (cy 2, 100, .inl H_mirage)), ((rG 7), .inl (cy 0, 5, .inl G_towerCell_74)), ((rG 8), .inl (cy 0, 5, .inl G_range_86)), ((rG 9), .inl (cy 0, 5, .inl G_voice_98)), ((rG 10), .inl (cy 0, 5, .inl G_strokes_110)), ((rG 11), .inl (cy 2, 5, .inl G_isFalse)), ((rG 12), .inl (cy 0, 4, .inl G_kind)), ((rG 13), .inl (cy 0, 4, .inl G_home)), ((rG 14), .inl (cy 0, 4, .inl G_water)), ((rG 15), .inl (cy 2, 100, .inl G_mirage))] H := hP
        have hD : va_D A [(a1, .inr (4, oX4 rH sH)), (h0, .inr (4, oX4 rG sG)), ((rH 7), .inl (cy 0, 5, .inl H_towerCell)), ((rH 8), .inl (cy 0, 5, .inl H_range)), ((rH 9), .inl (cy 0, 5, .inl H_voice)), ((rH 10), .inl (cy 0, 5, .inl H_strokes)), ((rH 11), .inl (cy 2, 5, .inl H_isFalse)), ((rH 12), .inl (cy 0, 4, .inl H_kind)), ((rH 13), .inl (cy 0, 4, .inl H_home)), ((rH 14), .inl (cy 0, 4, .inl H_water)), ((rH 15), .inl (cy 2, 100, .inl H_mirage)), ((rG 7), .inl (cy 0, 5, .inl G_towerCell_74)), ((rG 8), .inl (cy 0, 5, .inl G_range_86)), ((rG 9), .inl (cy 0, 5, .inl G_voice_98)), ((rG 10), .inl (cy 0, 5, .inl G_strokes_110)), ((rG 11), .inl (cy 2, 5, .inl G_isFalse)), ((rG 12), .inl (cy 0, 4, .inl G_kind)), ((rG 13), .inl (cy 0, 4, .inl G_home)), ((rG 14), .inl (cy 0, 4, .inl G_water)), ((rG 15), .inl (cy 2, 100, .inl G_mirage))] := hD
        refine lv_aload_n hx hb dX4_take_111 rfl (lv_at hl 0 rfl) ?_
        refine gfX4_24 hx hb hts hown hK hP 1 rfl dX4_take_112 ?_
        refine lv_iload_n hx hb dX4_take_115 rfl (lv_at hl 2 rfl) ?_
        refine lv_aload_n hx hb dX4_take_116 rfl (lv_at hl 1 rfl) ?_
        refine gfX4_24 hx hb hts hown hK hP 0 rfl dX4_take_117 ?_
        refine lv_iload_n hx hb dX4_take_120 rfl (lv_at hl 2 rfl) ?_
        obtain ⟨hin, h⟩ := h
        refine ldz (k := l2.toNatClampNeg) hx hb hK hP 6 rfl hin rfl dX4_take_121 ?_
        obtain ⟨hin, h⟩ := h
        refine stz (k := l2.toNatClampNeg) (y := (vp_nar .boolean (H_isFalse l2.toNatClampNeg))) hx hb hK hP hD hS 15 rfl hin rfl rfl dX4_take_122 (fun G_isFalse_122 eG_isFalse_122 H locs hP hD hS => ?_)
        have h := h G_isFalse_122 eG_isFalse_122
        have hP : va_P D clsX [(a1, .inr (4, oX4 rH sH)), (h0, .inr (4, oX4 rG sG)), ((rH 7), .inl (cy 0, 5, .inl H_towerCell)), ((rH 8), .inl (cy 0, 5, .inl H_range)), ((rH 9), .inl (cy 0, 5, .inl H_voice)), ((rH 10), .inl (cy 0, 5, .inl H_strokes)), ((rH 11), .inl (cy 2, 5, .inl H_isFalse)), ((rH 12), .inl (cy 0, 4, .inl H_kind)), ((rH 13), .inl (cy 0, 4, .inl H_home)), ((rH 14), .inl (cy 0, 4, .inl H_water)), ((rH 15), .inl (cy 2, 100, .inl H_mirage)), ((rG 7), .inl (cy 0, 5, .inl G_towerCell_74)), ((rG 8), .inl (cy 0, 5, .inl G_range_86)), ((rG 9), .inl (cy 0, 5, .inl G_voice_98)), ((rG 10), .inl (cy 0, 5, .inl G_strokes_110)), ((rG 11), .inl (cy 2, 5, .inl G_isFalse_122)), ((rG 12), .inl (cy 0, 4, .inl G_kind)), ((rG 13), .inl (cy 0, 4, .inl G_home)), ((rG 14), .inl (cy 0, 4, .inl G_water)), ((rG 15), .inl (cy 2, 100, .inl G_mirage))] H := hP
        have hD : va_D A [(a1, .inr (4, oX4 rH sH)), (h0, .inr (4, oX4 rG sG)), ((rH 7), .inl (cy 0, 5, .inl H_towerCell)), ((rH 8), .inl (cy 0, 5, .inl H_range)), ((rH 9), .inl (cy 0, 5, .inl H_voice)), ((rH 10), .inl (cy 0, 5, .inl H_strokes)), ((rH 11), .inl (cy 2, 5, .inl H_isFalse)), ((rH 12), .inl (cy 0, 4, .inl H_kind)), ((rH 13), .inl (cy 0, 4, .inl H_home)), ((rH 14), .inl (cy 0, 4, .inl H_water)), ((rH 15), .inl (cy 2, 100, .inl H_mirage)), ((rG 7), .inl (cy 0, 5, .inl G_towerCell_74)), ((rG 8), .inl (cy 0, 5, .inl G_range_86)), ((rG 9), .inl (cy 0, 5, .inl G_voice_98)), ((rG 10), .inl (cy 0, 5, .inl G_strokes_110)), ((rG 11), .inl (cy 2, 5, .inl G_isFalse_122)), ((rG 12), .inl (cy 0, 4, .inl G_kind)), ((rG 13), .inl (cy 0, 4, .inl G_home)), ((rG 14), .inl (cy 0, 4, .inl G_water)), ((rG 15), .inl (cy 2, 100, .inl G_mirage))] := hD
        obtain ⟨l2_123, el2_123⟩ : ∃ y : Int32, y = l2 + (1 : Int32) := ⟨_, rfl⟩
        have h := h l2_123 el2_123
        refine lv_iinc (v := l2_123) (lv' := [(2, .int l2_123), (0, .ref h0), (1, .ref a1)]) hx hb dX4_take_123 hl (k := 2) rfl (by rw [el2_123]; rfl) (by decide) rfl (fun ls hl => ?_)
        refine lv_goto (tgt := 58) hx hb dX4_take_126 (by decide) ?_
        exact ih58 G_towerCell_74 G_range_86 G_voice_98 G_strokes_110 G_isFalse_122 l2_123 _ _ _ h hP hD hS (lv_sub hl [1, 2, 0] rfl)
  refine lv_aload_n hx hb dX4_take_0 rfl (lv_at hl 0 rfl) ?_
  refine lv_aload_n hx hb dX4_take_1 rfl (lv_at hl 1 rfl) ?_
  refine gfX4_40 (v := (sH 0)) hx hb hts hown hK hP 0 rfl rfl dX4_take_2 ?_
  refine lv_topi (fun f0_5 ef0_5 => ?_)
  have h := h f0_5 ef0_5
  refine pfX4_40 hx hb hts hown hK hP hD hS 1 rfl dX4_take_5 (fun H locs hP hD hS => ?_)
  have hP : va_P D clsX [(a1, .inr (4, oX4 rH sH)), (h0, .inr (4, oX4 rG (upd sG 0 f0_5))), ((rH 7), .inl (cy 0, 5, .inl H_towerCell)), ((rH 8), .inl (cy 0, 5, .inl H_range)), ((rH 9), .inl (cy 0, 5, .inl H_voice)), ((rH 10), .inl (cy 0, 5, .inl H_strokes)), ((rH 11), .inl (cy 2, 5, .inl H_isFalse)), ((rH 12), .inl (cy 0, 4, .inl H_kind)), ((rH 13), .inl (cy 0, 4, .inl H_home)), ((rH 14), .inl (cy 0, 4, .inl H_water)), ((rH 15), .inl (cy 2, 100, .inl H_mirage)), ((rG 7), .inl (cy 0, 5, .inl G_towerCell)), ((rG 8), .inl (cy 0, 5, .inl G_range)), ((rG 9), .inl (cy 0, 5, .inl G_voice)), ((rG 10), .inl (cy 0, 5, .inl G_strokes)), ((rG 11), .inl (cy 2, 5, .inl G_isFalse)), ((rG 12), .inl (cy 0, 4, .inl G_kind)), ((rG 13), .inl (cy 0, 4, .inl G_home)), ((rG 14), .inl (cy 0, 4, .inl G_water)), ((rG 15), .inl (cy 2, 100, .inl G_mirage))] H := hP
  have hD : va_D A [(a1, .inr (4, oX4 rH sH)), (h0, .inr (4, oX4 rG (upd sG 0 f0_5))), ((rH 7), .inl (cy 0, 5, .inl H_towerCell)), ((rH 8), .inl (cy 0, 5, .inl H_range)), ((rH 9), .inl (cy 0, 5, .inl H_voice)), ((rH 10), .inl (cy 0, 5, .inl H_strokes)), ((rH 11), .inl (cy 2, 5, .inl H_isFalse)), ((rH 12), .inl (cy 0, 4, .inl H_kind)), ((rH 13), .inl (cy 0, 4, .inl H_home)), ((rH 14), .inl (cy 0, 4, .inl H_water)), ((rH 15), .inl (cy 2, 100, .inl H_mirage)), ((rG 7), .inl (cy 0, 5, .inl G_towerCell)), ((rG 8), .inl (cy 0, 5, .inl G_range)), ((rG 9), .inl (cy 0, 5, .inl G_voice)), ((rG 10), .inl (cy 0, 5, .inl G_strokes)), ((rG 11), .inl (cy 2, 5, .inl G_isFalse)), ((rG 12), .inl (cy 0, 4, .inl G_kind)), ((rG 13), .inl (cy 0, 4, .inl G_home)), ((rG 14), .inl (cy 0, 4, .inl G_water)), ((rG 15), .inl (cy 2, 100, .inl G_mirage))] := hD
  refine lv_aload_n hx hb dX4_take_8 rfl (lv_at hl 0 rfl) ?_
  refine lv_aload_n hx hb dX4_take_9 rfl (lv_at hl 1 rfl) ?_
  refine gfX4_44 (v := (sH 1)) hx hb hts hown hK hP 0 rfl rfl dX4_take_10 ?_
  refine lv_topi (fun f1_13 ef1_13 => ?_)
  have h := h f1_13 ef1_13
  refine pfX4_44 hx hb hts hown hK hP hD hS 1 rfl dX4_take_13 (fun H locs hP hD hS => ?_)
  have hP : va_P D clsX [(a1, .inr (4, oX4 rH sH)), (h0, .inr (4, oX4 rG (upd (upd sG 0 f0_5) 1 f1_13))), ((rH 7), .inl (cy 0, 5, .inl H_towerCell)), ((rH 8), .inl (cy 0, 5, .inl H_range)), ((rH 9), .inl (cy 0, 5, .inl H_voice)), ((rH 10), .inl (cy 0, 5, .inl H_strokes)), ((rH 11), .inl (cy 2, 5, .inl H_isFalse)), ((rH 12), .inl (cy 0, 4, .inl H_kind)), ((rH 13), .inl (cy 0, 4, .inl H_home)), ((rH 14), .inl (cy 0, 4, .inl H_water)), ((rH 15), .inl (cy 2, 100, .inl H_mirage)), ((rG 7), .inl (cy 0, 5, .inl G_towerCell)), ((rG 8), .inl (cy 0, 5, .inl G_range)), ((rG 9), .inl (cy 0, 5, .inl G_voice)), ((rG 10), .inl (cy 0, 5, .inl G_strokes)), ((rG 11), .inl (cy 2, 5, .inl G_isFalse)), ((rG 12), .inl (cy 0, 4, .inl G_kind)), ((rG 13), .inl (cy 0, 4, .inl G_home)), ((rG 14), .inl (cy 0, 4, .inl G_water)), ((rG 15), .inl (cy 2, 100, .inl G_mirage))] H := hP
  have hD : va_D A [(a1, .inr (4, oX4 rH sH)), (h0, .inr (4, oX4 rG (upd (upd sG 0 f0_5) 1 f1_13))), ((rH 7), .inl (cy 0, 5, .inl H_towerCell)), ((rH 8), .inl (cy 0, 5, .inl H_range)), ((rH 9), .inl (cy 0, 5, .inl H_voice)), ((rH 10), .inl (cy 0, 5, .inl H_strokes)), ((rH 11), .inl (cy 2, 5, .inl H_isFalse)), ((rH 12), .inl (cy 0, 4, .inl H_kind)), ((rH 13), .inl (cy 0, 4, .inl H_home)), ((rH 14), .inl (cy 0, 4, .inl H_water)), ((rH 15), .inl (cy 2, 100, .inl H_mirage)), ((rG 7), .inl (cy 0, 5, .inl G_towerCell)), ((rG 8), .inl (cy 0, 5, .inl G_range)), ((rG 9), .inl (cy 0, 5, .inl G_voice)), ((rG 10), .inl (cy 0, 5, .inl G_strokes)), ((rG 11), .inl (cy 2, 5, .inl G_isFalse)), ((rG 12), .inl (cy 0, 4, .inl G_kind)), ((rG 13), .inl (cy 0, 4, .inl G_home)), ((rG 14), .inl (cy 0, 4, .inl G_water)), ((rG 15), .inl (cy 2, 100, .inl G_mirage))] := hD
  refine lv_aload_n hx hb dX4_take_16 rfl (lv_at hl 0 rfl) ?_
  refine lv_aload_n hx hb dX4_take_17 rfl (lv_at hl 1 rfl) ?_
  refine gfX4_47 (v := (sH 2)) hx hb hts hown hK hP 0 rfl rfl dX4_take_18 ?_
  refine lv_topi (fun f2_21 ef2_21 => ?_)
  have h := h f2_21 ef2_21
  refine pfX4_47 hx hb hts hown hK hP hD hS 1 rfl dX4_take_21 (fun H locs hP hD hS => ?_)
  have hP : va_P D clsX [(a1, .inr (4, oX4 rH sH)), (h0, .inr (4, oX4 rG (upd (upd (upd sG 0 f0_5) 1 f1_13) 2 f2_21))), ((rH 7), .inl (cy 0, 5, .inl H_towerCell)), ((rH 8), .inl (cy 0, 5, .inl H_range)), ((rH 9), .inl (cy 0, 5, .inl H_voice)), ((rH 10), .inl (cy 0, 5, .inl H_strokes)), ((rH 11), .inl (cy 2, 5, .inl H_isFalse)), ((rH 12), .inl (cy 0, 4, .inl H_kind)), ((rH 13), .inl (cy 0, 4, .inl H_home)), ((rH 14), .inl (cy 0, 4, .inl H_water)), ((rH 15), .inl (cy 2, 100, .inl H_mirage)), ((rG 7), .inl (cy 0, 5, .inl G_towerCell)), ((rG 8), .inl (cy 0, 5, .inl G_range)), ((rG 9), .inl (cy 0, 5, .inl G_voice)), ((rG 10), .inl (cy 0, 5, .inl G_strokes)), ((rG 11), .inl (cy 2, 5, .inl G_isFalse)), ((rG 12), .inl (cy 0, 4, .inl G_kind)), ((rG 13), .inl (cy 0, 4, .inl G_home)), ((rG 14), .inl (cy 0, 4, .inl G_water)), ((rG 15), .inl (cy 2, 100, .inl G_mirage))] H := hP
  have hD : va_D A [(a1, .inr (4, oX4 rH sH)), (h0, .inr (4, oX4 rG (upd (upd (upd sG 0 f0_5) 1 f1_13) 2 f2_21))), ((rH 7), .inl (cy 0, 5, .inl H_towerCell)), ((rH 8), .inl (cy 0, 5, .inl H_range)), ((rH 9), .inl (cy 0, 5, .inl H_voice)), ((rH 10), .inl (cy 0, 5, .inl H_strokes)), ((rH 11), .inl (cy 2, 5, .inl H_isFalse)), ((rH 12), .inl (cy 0, 4, .inl H_kind)), ((rH 13), .inl (cy 0, 4, .inl H_home)), ((rH 14), .inl (cy 0, 4, .inl H_water)), ((rH 15), .inl (cy 2, 100, .inl H_mirage)), ((rG 7), .inl (cy 0, 5, .inl G_towerCell)), ((rG 8), .inl (cy 0, 5, .inl G_range)), ((rG 9), .inl (cy 0, 5, .inl G_voice)), ((rG 10), .inl (cy 0, 5, .inl G_strokes)), ((rG 11), .inl (cy 2, 5, .inl G_isFalse)), ((rG 12), .inl (cy 0, 4, .inl G_kind)), ((rG 13), .inl (cy 0, 4, .inl G_home)), ((rG 14), .inl (cy 0, 4, .inl G_water)), ((rG 15), .inl (cy 2, 100, .inl G_mirage))] := hD
  refine lv_aload_n hx hb dX4_take_24 rfl (lv_at hl 0 rfl) ?_
  refine lv_aload_n hx hb dX4_take_25 rfl (lv_at hl 1 rfl) ?_
  refine gfX4_50 (v := (sH 3)) hx hb hts hown hK hP 0 rfl rfl dX4_take_26 ?_
  refine lv_topi (fun f3_29 ef3_29 => ?_)
  have h := h f3_29 ef3_29
  refine pfX4_50 hx hb hts hown hK hP hD hS 1 rfl dX4_take_29 (fun H locs hP hD hS => ?_)
  have hP : va_P D clsX [(a1, .inr (4, oX4 rH sH)), (h0, .inr (4, oX4 rG (upd (upd (upd (upd sG 0 f0_5) 1 f1_13) 2 f2_21) 3 f3_29))), ((rH 7), .inl (cy 0, 5, .inl H_towerCell)), ((rH 8), .inl (cy 0, 5, .inl H_range)), ((rH 9), .inl (cy 0, 5, .inl H_voice)), ((rH 10), .inl (cy 0, 5, .inl H_strokes)), ((rH 11), .inl (cy 2, 5, .inl H_isFalse)), ((rH 12), .inl (cy 0, 4, .inl H_kind)), ((rH 13), .inl (cy 0, 4, .inl H_home)), ((rH 14), .inl (cy 0, 4, .inl H_water)), ((rH 15), .inl (cy 2, 100, .inl H_mirage)), ((rG 7), .inl (cy 0, 5, .inl G_towerCell)), ((rG 8), .inl (cy 0, 5, .inl G_range)), ((rG 9), .inl (cy 0, 5, .inl G_voice)), ((rG 10), .inl (cy 0, 5, .inl G_strokes)), ((rG 11), .inl (cy 2, 5, .inl G_isFalse)), ((rG 12), .inl (cy 0, 4, .inl G_kind)), ((rG 13), .inl (cy 0, 4, .inl G_home)), ((rG 14), .inl (cy 0, 4, .inl G_water)), ((rG 15), .inl (cy 2, 100, .inl G_mirage))] H := hP
  have hD : va_D A [(a1, .inr (4, oX4 rH sH)), (h0, .inr (4, oX4 rG (upd (upd (upd (upd sG 0 f0_5) 1 f1_13) 2 f2_21) 3 f3_29))), ((rH 7), .inl (cy 0, 5, .inl H_towerCell)), ((rH 8), .inl (cy 0, 5, .inl H_range)), ((rH 9), .inl (cy 0, 5, .inl H_voice)), ((rH 10), .inl (cy 0, 5, .inl H_strokes)), ((rH 11), .inl (cy 2, 5, .inl H_isFalse)), ((rH 12), .inl (cy 0, 4, .inl H_kind)), ((rH 13), .inl (cy 0, 4, .inl H_home)), ((rH 14), .inl (cy 0, 4, .inl H_water)), ((rH 15), .inl (cy 2, 100, .inl H_mirage)), ((rG 7), .inl (cy 0, 5, .inl G_towerCell)), ((rG 8), .inl (cy 0, 5, .inl G_range)), ((rG 9), .inl (cy 0, 5, .inl G_voice)), ((rG 10), .inl (cy 0, 5, .inl G_strokes)), ((rG 11), .inl (cy 2, 5, .inl G_isFalse)), ((rG 12), .inl (cy 0, 4, .inl G_kind)), ((rG 13), .inl (cy 0, 4, .inl G_home)), ((rG 14), .inl (cy 0, 4, .inl G_water)), ((rG 15), .inl (cy 2, 100, .inl G_mirage))] := hD
  refine lv_aload_n hx hb dX4_take_32 rfl (lv_at hl 0 rfl) ?_
  refine lv_aload_n hx hb dX4_take_33 rfl (lv_at hl 1 rfl) ?_
  refine gfX4_53 (v := (sH 4)) hx hb hts hown hK hP 0 rfl rfl dX4_take_34 ?_
  refine lv_topi (fun f4_37 ef4_37 => ?_)
  have h := h f4_37 ef4_37
  refine pfX4_53 hx hb hts hown hK hP hD hS 1 rfl dX4_take_37 (fun H locs hP hD hS => ?_)
  have hP : va_P D clsX [(a1, .inr (4, oX4 rH sH)), (h0, .inr (4, oX4 rG (upd (upd (upd (upd (upd sG 0 f0_5) 1 f1_13) 2 f2_21) 3 f3_29) 4 f4_37))), ((rH 7), .inl (cy 0, 5, .inl H_towerCell)), ((rH 8), .inl (cy 0, 5, .inl H_range)), ((rH 9), .inl (cy 0, 5, .inl H_voice)), ((rH 10), .inl (cy 0, 5, .inl H_strokes)), ((rH 11), .inl (cy 2, 5, .inl H_isFalse)), ((rH 12), .inl (cy 0, 4, .inl H_kind)), ((rH 13), .inl (cy 0, 4, .inl H_home)), ((rH 14), .inl (cy 0, 4, .inl H_water)), ((rH 15), .inl (cy 2, 100, .inl H_mirage)), ((rG 7), .inl (cy 0, 5, .inl G_towerCell)), ((rG 8), .inl (cy 0, 5, .inl G_range)), ((rG 9), .inl (cy 0, 5, .inl G_voice)), ((rG 10), .inl (cy 0, 5, .inl G_strokes)), ((rG 11), .inl (cy 2, 5, .inl G_isFalse)), ((rG 12), .inl (cy 0, 4, .inl G_kind)), ((rG 13), .inl (cy 0, 4, .inl G_home)), ((rG 14), .inl (cy 0, 4, .inl G_water)), ((rG 15), .inl (cy 2, 100, .inl G_mirage))] H := hP
  have hD : va_D A [(a1, .inr (4, oX4 rH sH)), (h0, .inr (4, oX4 rG (upd (upd (upd (upd (upd sG 0 f0_5) 1 f1_13) 2 f2_21) 3 f3_29) 4 f4_37))), ((rH 7), .inl (cy 0, 5, .inl H_towerCell)), ((rH 8), .inl (cy 0, 5, .inl H_range)), ((rH 9), .inl (cy 0, 5, .inl H_voice)), ((rH 10), .inl (cy 0, 5, .inl H_strokes)), ((rH 11), .inl (cy 2, 5, .inl H_isFalse)), ((rH 12), .inl (cy 0, 4, .inl H_kind)), ((rH 13), .inl (cy 0, 4, .inl H_home)), ((rH 14), .inl (cy 0, 4, .inl H_water)), ((rH 15), .inl (cy 2, 100, .inl H_mirage)), ((rG 7), .inl (cy 0, 5, .inl G_towerCell)), ((rG 8), .inl (cy 0, 5, .inl G_range)), ((rG 9), .inl (cy 0, 5, .inl G_voice)), ((rG 10), .inl (cy 0, 5, .inl G_strokes)), ((rG 11), .inl (cy 2, 5, .inl G_isFalse)), ((rG 12), .inl (cy 0, 4, .inl G_kind)), ((rG 13), .inl (cy 0, 4, .inl G_home)), ((rG 14), .inl (cy 0, 4, .inl G_water)), ((rG 15), .inl (cy 2, 100, .inl G_mirage))] := hD
  refine lv_aload_n hx hb dX4_take_40 rfl (lv_at hl 0 rfl) ?_
  refine lv_aload_n hx hb dX4_take_41 rfl (lv_at hl 1 rfl) ?_
  refine gfX4_56 (v := (sH 5)) hx hb hts hown hK hP 0 rfl rfl dX4_take_42 ?_
  refine lv_topi (fun f5_45 ef5_45 => ?_)
  have h := h f5_45 ef5_45
  refine pfX4_56 hx hb hts hown hK hP hD hS 1 rfl dX4_take_45 (fun H locs hP hD hS => ?_)
  have hP : va_P D clsX [(a1, .inr (4, oX4 rH sH)), (h0, .inr (4, oX4 rG (upd (upd (upd (upd (upd (upd sG 0 f0_5) 1 f1_13) 2 f2_21) 3 f3_29) 4 f4_37) 5 f5_45))), ((rH 7), .inl (cy 0, 5, .inl H_towerCell)), ((rH 8), .inl (cy 0, 5, .inl H_range)), ((rH 9), .inl (cy 0, 5, .inl H_voice)), ((rH 10), .inl (cy 0, 5, .inl H_strokes)), ((rH 11), .inl (cy 2, 5, .inl H_isFalse)), ((rH 12), .inl (cy 0, 4, .inl H_kind)), ((rH 13), .inl (cy 0, 4, .inl H_home)), ((rH 14), .inl (cy 0, 4, .inl H_water)), ((rH 15), .inl (cy 2, 100, .inl H_mirage)), ((rG 7), .inl (cy 0, 5, .inl G_towerCell)), ((rG 8), .inl (cy 0, 5, .inl G_range)), ((rG 9), .inl (cy 0, 5, .inl G_voice)), ((rG 10), .inl (cy 0, 5, .inl G_strokes)), ((rG 11), .inl (cy 2, 5, .inl G_isFalse)), ((rG 12), .inl (cy 0, 4, .inl G_kind)), ((rG 13), .inl (cy 0, 4, .inl G_home)), ((rG 14), .inl (cy 0, 4, .inl G_water)), ((rG 15), .inl (cy 2, 100, .inl G_mirage))] H := hP
  have hD : va_D A [(a1, .inr (4, oX4 rH sH)), (h0, .inr (4, oX4 rG (upd (upd (upd (upd (upd (upd sG 0 f0_5) 1 f1_13) 2 f2_21) 3 f3_29) 4 f4_37) 5 f5_45))), ((rH 7), .inl (cy 0, 5, .inl H_towerCell)), ((rH 8), .inl (cy 0, 5, .inl H_range)), ((rH 9), .inl (cy 0, 5, .inl H_voice)), ((rH 10), .inl (cy 0, 5, .inl H_strokes)), ((rH 11), .inl (cy 2, 5, .inl H_isFalse)), ((rH 12), .inl (cy 0, 4, .inl H_kind)), ((rH 13), .inl (cy 0, 4, .inl H_home)), ((rH 14), .inl (cy 0, 4, .inl H_water)), ((rH 15), .inl (cy 2, 100, .inl H_mirage)), ((rG 7), .inl (cy 0, 5, .inl G_towerCell)), ((rG 8), .inl (cy 0, 5, .inl G_range)), ((rG 9), .inl (cy 0, 5, .inl G_voice)), ((rG 10), .inl (cy 0, 5, .inl G_strokes)), ((rG 11), .inl (cy 2, 5, .inl G_isFalse)), ((rG 12), .inl (cy 0, 4, .inl G_kind)), ((rG 13), .inl (cy 0, 4, .inl G_home)), ((rG 14), .inl (cy 0, 4, .inl G_water)), ((rG 15), .inl (cy 2, 100, .inl G_mirage))] := hD
  refine lv_aload_n hx hb dX4_take_48 rfl (lv_at hl 0 rfl) ?_
  refine lv_aload_n hx hb dX4_take_49 rfl (lv_at hl 1 rfl) ?_
  refine gfX4_59 (v := (sH 6)) hx hb hts hown hK hP 0 rfl rfl dX4_take_50 ?_
  refine lv_topi (fun f6_53 ef6_53 => ?_)
  have h := h f6_53 ef6_53
  refine pfX4_59 hx hb hts hown hK hP hD hS 1 rfl dX4_take_53 (fun H locs hP hD hS => ?_)
  have hP : va_P D clsX [(a1, .inr (4, oX4 rH sH)), (h0, .inr (4, oX4 rG (upd (upd (upd (upd (upd (upd (upd sG 0 f0_5) 1 f1_13) 2 f2_21) 3 f3_29) 4 f4_37) 5 f5_45) 6 f6_53))), ((rH 7), .inl (cy 0, 5, .inl H_towerCell)), ((rH 8), .inl (cy 0, 5, .inl H_range)), ((rH 9), .inl (cy 0, 5, .inl H_voice)), ((rH 10), .inl (cy 0, 5, .inl H_strokes)), ((rH 11), .inl (cy 2, 5, .inl H_isFalse)), ((rH 12), .inl (cy 0, 4, .inl H_kind)), ((rH 13), .inl (cy 0, 4, .inl H_home)), ((rH 14), .inl (cy 0, 4, .inl H_water)), ((rH 15), .inl (cy 2, 100, .inl H_mirage)), ((rG 7), .inl (cy 0, 5, .inl G_towerCell)), ((rG 8), .inl (cy 0, 5, .inl G_range)), ((rG 9), .inl (cy 0, 5, .inl G_voice)), ((rG 10), .inl (cy 0, 5, .inl G_strokes)), ((rG 11), .inl (cy 2, 5, .inl G_isFalse)), ((rG 12), .inl (cy 0, 4, .inl G_kind)), ((rG 13), .inl (cy 0, 4, .inl G_home)), ((rG 14), .inl (cy 0, 4, .inl G_water)), ((rG 15), .inl (cy 2, 100, .inl G_mirage))] H := hP
  have hD : va_D A [(a1, .inr (4, oX4 rH sH)), (h0, .inr (4, oX4 rG (upd (upd (upd (upd (upd (upd (upd sG 0 f0_5) 1 f1_13) 2 f2_21) 3 f3_29) 4 f4_37) 5 f5_45) 6 f6_53))), ((rH 7), .inl (cy 0, 5, .inl H_towerCell)), ((rH 8), .inl (cy 0, 5, .inl H_range)), ((rH 9), .inl (cy 0, 5, .inl H_voice)), ((rH 10), .inl (cy 0, 5, .inl H_strokes)), ((rH 11), .inl (cy 2, 5, .inl H_isFalse)), ((rH 12), .inl (cy 0, 4, .inl H_kind)), ((rH 13), .inl (cy 0, 4, .inl H_home)), ((rH 14), .inl (cy 0, 4, .inl H_water)), ((rH 15), .inl (cy 2, 100, .inl H_mirage)), ((rG 7), .inl (cy 0, 5, .inl G_towerCell)), ((rG 8), .inl (cy 0, 5, .inl G_range)), ((rG 9), .inl (cy 0, 5, .inl G_voice)), ((rG 10), .inl (cy 0, 5, .inl G_strokes)), ((rG 11), .inl (cy 2, 5, .inl G_isFalse)), ((rG 12), .inl (cy 0, 4, .inl G_kind)), ((rG 13), .inl (cy 0, 4, .inl G_home)), ((rG 14), .inl (cy 0, 4, .inl G_water)), ((rG 15), .inl (cy 2, 100, .inl G_mirage))] := hD
  refine lv_iconst (v := (0 : Int32)) hx hb dX4_take_56 (by decide) ?_
  refine lv_istore_n (lv' := [(2, .int (0 : Int32)), (0, .ref h0), (1, .ref a1)]) hx hb dX4_take_57 rfl hl (by decide) rfl (fun ls hl => ?_)
  obtain ⟨nf58, h⟩ := h
  refine L58 (upd (upd (upd (upd (upd (upd (upd sG 0 f0_5) 1 f1_13) 2 f2_21) 3 f3_29) 4 f4_37) 5 f5_45) 6 f6_53) _ (fun G_towerCell_129 G_range_129 G_voice_129 G_strokes_129 G_isFalse_129 l2_129 H locs ls h hP hD hS hl => ?_) nf58 G_towerCell G_range G_voice G_strokes G_isFalse (0 : Int32) _ _ _ h hP hD hS (lv_sub hl [1, 2, 0] rfl)
  refine lv_iconst (v := (0 : Int32)) hx hb dX4_take_129 (by decide) ?_
  refine lv_istore_n (lv' := [(2, .int (0 : Int32)), (0, .ref h0), (1, .ref a1)]) hx hb dX4_take_130 rfl hl (by decide) rfl (fun ls hl => ?_)
  obtain ⟨nf131, h⟩ := h
  refine L131 (upd (upd (upd (upd (upd (upd (upd sG 0 f0_5) 1 f1_13) 2 f2_21) 3 f3_29) 4 f4_37) 5 f5_45) 6 f6_53) G_towerCell_129 G_range_129 G_voice_129 G_strokes_129 G_isFalse_129 _ (fun G_kind_178 G_home_178 G_water_178 l2_178 H locs ls h hP hD hS hl => ?_) nf131 G_kind G_home G_water (0 : Int32) _ _ _ h hP hD hS (lv_sub hl [1, 2, 0] rfl)
  refine lv_iconst (v := (0 : Int32)) hx hb dX4_take_178 (by decide) ?_
  refine lv_istore_n (lv' := [(2, .int (0 : Int32)), (0, .ref h0), (1, .ref a1)]) hx hb dX4_take_179 rfl hl (by decide) rfl (fun ls hl => ?_)
  obtain ⟨nf180, h⟩ := h
  refine L180 (upd (upd (upd (upd (upd (upd (upd sG 0 f0_5) 1 f1_13) 2 f2_21) 3 f3_29) 4 f4_37) 5 f5_45) 6 f6_53) G_towerCell_129 G_range_129 G_voice_129 G_strokes_129 G_isFalse_129 G_kind_178 G_home_178 G_water_178 _ (fun G_mirage_204 l2_204 H locs ls h hP hD hS hl => ?_) nf180 G_mirage (0 : Int32) _ _ _ h hP hD hS (lv_sub hl [1, 2, 0] rfl)
  exact hret ((upd (upd (upd (upd (upd (upd (upd sG 0 f0_5) 1 f1_13) 2 f2_21) 3 f3_29) 4 f4_37) 5 f5_45) 6 f6_53), G_towerCell_129, G_range_129, G_voice_129, G_strokes_129, G_isFalse_129, G_kind_178, G_home_178, G_water_178, G_mirage_204) _ _ _ _ dX4_take_204 h hP hD hS
def wpX4_cells (sG : AR) (post : Int32 → Prop) : Prop := post ((sG 0) * (sG 1))
set_option maxHeartbeats 4000000 in
set_option maxRecDepth 100000 in
theorem ctX4_cells (l : Launch) (D : va_G) (cy : Nat → ClassId) (ev : Nat → Nat) (h0 : Nat) (rG : Nat → Nat) (sG : AR) (sz : Nat) (post : Int32 → Prop) (h : wpX4_cells sG post) : Met l yX4_cells (Cond.code yX4_cells cX4_cells 1 (some .int) :: TB) ({ frames := 0, cells := 0, slots := 0, locals := 0 }) (va_Pc [.ref h0] (PreX D cy ev [(h0, .inr (4, oX4 rG sG))] sz)) (va_Qi (fun (r : Int32) (u : Unit) => post r) (fun u => BkX D cy [(h0, .inr (4, oX4 rG sG))] sz [(h0, .inr (4, oX4 rG sG))]) (va_A [(h0, .inr (4, oX4 rG sG))] sz)) 0 0 (va_A [(h0, .inr (4, oX4 rG sG))] sz) := by
  refine ofWi (by decide) (Nat.le_of_ble_eq_true rfl) ?_
  intro p e s m args below meth c ls A R QQ hx hb hml hown hts hR hlk hE hK hP hD hS hA hl hret
  have hown : s.vm.findClass RX4 = some m.cls := hown
  have hRf : 0 ≤ R.frames := by rw [hR]; exact Nat.le_refl _
  have hRl : 0 ≤ R.locals := by rw [hR]; exact Nat.le_refl _
  clear hR
  have hl : lv_has ls 1 [(0, .ref h0)] := hl
  refine lv_aload_n hx hb dX4_cells_0 rfl (lv_at hl 0 rfl) ?_
  refine gfX4_40 (v := (sG 0)) hx hb hts hown hK hP 0 rfl rfl dX4_cells_1 ?_
  refine lv_aload_n hx hb dX4_cells_4 rfl (lv_at hl 0 rfl) ?_
  refine gfX4_44 (v := (sG 1)) hx hb hts hown hK hP 0 rfl rfl dX4_cells_5 ?_
  refine lv_imul hx hb dX4_cells_8 ?_
  exact hret ((sG 0) * (sG 1)) () _ _ _ _ rfl dX4_cells_9 h hP hD hS
def wpX4_xOf (sG : AR) (x1 : Int32) (post : Int32 → Prop) : Prop := (((sG 0) ≤ 0 → post (0 : Int32)) ∧ (¬ (sG 0) ≤ 0 → ¬ (sG 0) = 0 ∧ post (jrem x1 (sG 0))))
set_option maxHeartbeats 4000000 in
set_option maxRecDepth 100000 in
theorem ctX4_xOf (l : Launch) (D : va_G) (cy : Nat → ClassId) (ev : Nat → Nat) (h0 : Nat) (rG : Nat → Nat) (sG : AR) (x1 : Int32) (sz : Nat) (post : Int32 → Prop) (h : wpX4_xOf sG x1 post) : Met l yX4_xOf (Cond.code yX4_xOf cX4_xOf 2 (some .int) :: TB) ({ frames := 0, cells := 0, slots := 0, locals := 0 }) (va_Pc [.ref h0, .int x1] (PreX D cy ev [(h0, .inr (4, oX4 rG sG))] sz)) (va_Qi (fun (r : Int32) (u : Unit) => post r) (fun u => BkX D cy [(h0, .inr (4, oX4 rG sG))] sz [(h0, .inr (4, oX4 rG sG))]) (va_A [(h0, .inr (4, oX4 rG sG))] sz)) 0 0 (va_A [(h0, .inr (4, oX4 rG sG))] sz) := by
  refine ofWi (by decide) (Nat.le_of_ble_eq_true rfl) ?_
  intro p e s m args below meth c ls A R QQ hx hb hml hown hts hR hlk hE hK hP hD hS hA hl hret
  have hown : s.vm.findClass RX4 = some m.cls := hown
  have hRf : 0 ≤ R.frames := by rw [hR]; exact Nat.le_refl _
  have hRl : 0 ≤ R.locals := by rw [hR]; exact Nat.le_refl _
  clear hR
  have hl : lv_has ls 2 [(0, .ref h0), (1, .int x1)] := hl
  refine lv_aload_n hx hb dX4_xOf_0 rfl (lv_at hl 0 rfl) ?_
  refine gfX4_40 (v := (sG 0)) hx hb hts hown hK hP 0 rfl rfl dX4_xOf_1 ?_
  refine lv_if_le (tgt := 16) hx hb dX4_xOf_4 (by decide) (fun c4 => ?_) (fun c4 => ?_)
  · have h := h.1 c4
    refine lv_iconst (v := (0 : Int32)) hx hb dX4_xOf_16 (by decide) ?_
    exact hret (0 : Int32) () _ _ _ _ rfl dX4_xOf_17 h hP hD hS
  · have h := h.2 c4
    refine lv_iload_n hx hb dX4_xOf_7 rfl (lv_at hl 1 rfl) ?_
    refine lv_aload_n hx hb dX4_xOf_8 rfl (lv_at hl 0 rfl) ?_
    refine gfX4_40 (v := (sG 0)) hx hb hts hown hK hP 0 rfl rfl dX4_xOf_9 ?_
    obtain ⟨hne, h⟩ := h
    refine lv_irem hx hb dX4_xOf_12 hne ?_
    refine lv_goto (tgt := 17) hx hb dX4_xOf_13 (by decide) ?_
    exact hret (jrem x1 (sG 0)) () _ _ _ _ rfl dX4_xOf_17 h hP hD hS
def wpX4_yOf (sG : AR) (x1 : Int32) (post : Int32 → Prop) : Prop := (((sG 0) ≤ 0 → post (0 : Int32)) ∧ (¬ (sG 0) ≤ 0 → ¬ (sG 0) = 0 ∧ post (x1 / (sG 0))))
set_option maxHeartbeats 4000000 in
set_option maxRecDepth 100000 in
theorem ctX4_yOf (l : Launch) (D : va_G) (cy : Nat → ClassId) (ev : Nat → Nat) (h0 : Nat) (rG : Nat → Nat) (sG : AR) (x1 : Int32) (sz : Nat) (post : Int32 → Prop) (h : wpX4_yOf sG x1 post) : Met l yX4_yOf (Cond.code yX4_yOf cX4_yOf 2 (some .int) :: TB) ({ frames := 0, cells := 0, slots := 0, locals := 0 }) (va_Pc [.ref h0, .int x1] (PreX D cy ev [(h0, .inr (4, oX4 rG sG))] sz)) (va_Qi (fun (r : Int32) (u : Unit) => post r) (fun u => BkX D cy [(h0, .inr (4, oX4 rG sG))] sz [(h0, .inr (4, oX4 rG sG))]) (va_A [(h0, .inr (4, oX4 rG sG))] sz)) 0 0 (va_A [(h0, .inr (4, oX4 rG sG))] sz) := by
  refine ofWi (by decide) (Nat.le_of_ble_eq_true rfl) ?_
  intro p e s m args below meth c ls A R QQ hx hb hml hown hts hR hlk hE hK hP hD hS hA hl hret
  have hown : s.vm.findClass RX4 = some m.cls := hown
  have hRf : 0 ≤ R.frames := by rw [hR]; exact Nat.le_refl _
  have hRl : 0 ≤ R.locals := by rw [hR]; exact Nat.le_refl _
  clear hR
  have hl : lv_has ls 2 [(0, .ref h0), (1, .int x1)] := hl
  refine lv_aload_n hx hb dX4_yOf_0 rfl (lv_at hl 0 rfl) ?_
  refine gfX4_40 (v := (sG 0)) hx hb hts hown hK hP 0 rfl rfl dX4_yOf_1 ?_
  refine lv_if_le (tgt := 16) hx hb dX4_yOf_4 (by decide) (fun c4 => ?_) (fun c4 => ?_)
  · have h := h.1 c4
    refine lv_iconst (v := (0 : Int32)) hx hb dX4_yOf_16 (by decide) ?_
    exact hret (0 : Int32) () _ _ _ _ rfl dX4_yOf_17 h hP hD hS
  · have h := h.2 c4
    refine lv_iload_n hx hb dX4_yOf_7 rfl (lv_at hl 1 rfl) ?_
    refine lv_aload_n hx hb dX4_yOf_8 rfl (lv_at hl 0 rfl) ?_
    refine gfX4_40 (v := (sG 0)) hx hb hts hown hK hP 0 rfl rfl dX4_yOf_9 ?_
    obtain ⟨hne, h⟩ := h
    refine lv_idiv hx hb dX4_yOf_12 hne ?_
    refine lv_goto (tgt := 17) hx hb dX4_yOf_13 (by decide) ?_
    exact hret (x1 / (sG 0)) () _ _ _ _ rfl dX4_yOf_17 h hP hD hS
def wpX4_hasTowers (sG : AR) (x1 : Int32) (post : Int32 → Prop) : Prop := ((¬ (jush x1 (sG 2)) = 0 → post (0 : Int32)) ∧ ((jush x1 (sG 2)) = 0 → post (1 : Int32)))
set_option maxHeartbeats 4000000 in
set_option maxRecDepth 100000 in
theorem ctX4_hasTowers (l : Launch) (D : va_G) (cy : Nat → ClassId) (ev : Nat → Nat) (h0 : Nat) (rG : Nat → Nat) (sG : AR) (x1 : Int32) (sz : Nat) (post : Int32 → Prop) (h : wpX4_hasTowers sG x1 post) : Met l yX4_hasTowers (Cond.code yX4_hasTowers cX4_hasTowers 2 (some .boolean) :: TB) ({ frames := 0, cells := 0, slots := 0, locals := 0 }) (va_Pc [.ref h0, .int x1] (PreX D cy ev [(h0, .inr (4, oX4 rG sG))] sz)) (va_Qi (fun (r : Int32) (u : Unit) => post r) (fun u => BkX D cy [(h0, .inr (4, oX4 rG sG))] sz [(h0, .inr (4, oX4 rG sG))]) (va_A [(h0, .inr (4, oX4 rG sG))] sz)) 0 0 (va_A [(h0, .inr (4, oX4 rG sG))] sz) := by
  refine ofWi (by decide) (Nat.le_of_ble_eq_true rfl) ?_
  intro p e s m args below meth c ls A R QQ hx hb hml hown hts hR hlk hE hK hP hD hS hA hl hret
  have hown : s.vm.findClass RX4 = some m.cls := hown
  have hRf : 0 ≤ R.frames := by rw [hR]; exact Nat.le_refl _
  have hRl : 0 ≤ R.locals := by rw [hR]; exact Nat.le_refl _
  clear hR
  have hl : lv_has ls 2 [(0, .ref h0), (1, .int x1)] := hl
  refine lv_iload_n hx hb dX4_hasTowers_0 rfl (lv_at hl 1 rfl) ?_
  refine lv_aload_n hx hb dX4_hasTowers_1 rfl (lv_at hl 0 rfl) ?_
  refine gfX4_47 (v := (sG 2)) hx hb hts hown hK hP 0 rfl rfl dX4_hasTowers_2 ?_
  refine lv_iushr hx hb dX4_hasTowers_5 rfl ?_
  refine lv_if_ne (tgt := 13) hx hb dX4_hasTowers_6 (by decide) (fun c6 => ?_) (fun c6 => ?_)
  · have h := h.1 c6
    refine lv_iconst (v := (0 : Int32)) hx hb dX4_hasTowers_13 (by decide) ?_
    exact hret (0 : Int32) () _ _ _ _ rfl dX4_hasTowers_14 h hP hD hS
  · have h := h.2 c6
    refine lv_iconst (v := (1 : Int32)) hx hb dX4_hasTowers_9 (by decide) ?_
    refine lv_goto (tgt := 14) hx hb dX4_hasTowers_10 (by decide) ?_
    exact hret (1 : Int32) () _ _ _ _ rfl dX4_hasTowers_14 h hP hD hS
def wpX4_hasTowerAt_L2 (sG : AR) (G_towerCell : AR) (l1 : Int32) (kx28 : Int32 → Prop) (post : Int32 → Prop) : Nat → Int32 → Prop
  | 0, _ => False
  | nf2 + 1, l2 => (((sG 2) ≤ l2 → kx28 l2) ∧ (¬ (sG 2) ≤ l2 → vp_in l2 5 ∧ ((¬ (G_towerCell l2.toNatClampNeg) = l1 → ∀ l2_22 : Int32, l2_22 = (l2 + (1 : Int32)) → wpX4_hasTowerAt_L2 sG G_towerCell l1 kx28 post nf2 l2_22) ∧ ((G_towerCell l2.toNatClampNeg) = l1 → post (1 : Int32)))))
def wpX4_hasTowerAt (sG : AR) (G_towerCell : AR) (x1 : Int32) (post : Int32 → Prop) : Prop := ∃ nf2 : Nat, wpX4_hasTowerAt_L2 sG G_towerCell x1 (fun l2_28 => post (0 : Int32)) post nf2 (0 : Int32)
set_option maxHeartbeats 4000000 in
set_option maxRecDepth 100000 in
theorem ctX4_hasTowerAt (l : Launch) (D : va_G) (cy : Nat → ClassId) (ev : Nat → Nat) (h0 : Nat) (rG : Nat → Nat) (sG : AR) (G_towerCell : AR) (x1 : Int32) (sz : Nat) (post : Int32 → Prop) (h : wpX4_hasTowerAt sG G_towerCell x1 post) : Met l yX4_hasTowerAt (Cond.code yX4_hasTowerAt cX4_hasTowerAt 3 (some .boolean) :: TB) ({ frames := 0, cells := 0, slots := 0, locals := 0 }) (va_Pc [.ref h0, .int x1] (PreX D cy ev [(h0, .inr (4, oX4 rG sG)), ((rG 7), .inl (cy 0, 5, .inl G_towerCell))] sz)) (va_Qi (fun (r : Int32) (u : Unit) => post r) (fun u => BkX D cy [(h0, .inr (4, oX4 rG sG)), ((rG 7), .inl (cy 0, 5, .inl G_towerCell))] sz [(h0, .inr (4, oX4 rG sG)), ((rG 7), .inl (cy 0, 5, .inl G_towerCell))]) (va_A [(h0, .inr (4, oX4 rG sG)), ((rG 7), .inl (cy 0, 5, .inl G_towerCell))] sz)) 0 0 (va_A [(h0, .inr (4, oX4 rG sG)), ((rG 7), .inl (cy 0, 5, .inl G_towerCell))] sz) := by
  refine ofWi (by decide) (Nat.le_of_ble_eq_true rfl) ?_
  intro p e s m args below meth c ls A R QQ hx hb hml hown hts hR hlk hE hK hP hD hS hA hl hret
  have hown : s.vm.findClass RX4 = some m.cls := hown
  have hRf : 0 ≤ R.frames := by rw [hR]; exact Nat.le_refl _
  have hRl : 0 ≤ R.locals := by rw [hR]; exact Nat.le_refl _
  clear hR
  have hl : lv_has ls 3 [(0, .ref h0), (1, .int x1)] := hl
  have L2 : ∀ (l1 : Int32) (kx28 : Int32 → Prop), (∀ (l2 : Int32) (H : Heap) (locs : List Loc) (ls : Array Slot), kx28 l2 → va_P D clsX [(h0, .inr (4, oX4 rG sG)), ((rG 7), .inl (cy 0, 5, .inl G_towerCell))] H → va_D A [(h0, .inr (4, oX4 rG sG)), ((rG 7), .inl (cy 0, 5, .inl G_towerCell))] → va_S A s.heap H locs → lv_has ls 3 [(0, .ref h0)] → W p l e R s m args below meth c H locs 0 0 QQ (F0 m 28 ls [])) → ∀ (nf2 : Nat) (l2 : Int32) (H : Heap) (locs : List Loc) (ls : Array Slot), wpX4_hasTowerAt_L2 sG G_towerCell l1 kx28 post nf2 l2 → va_P D clsX [(h0, .inr (4, oX4 rG sG)), ((rG 7), .inl (cy 0, 5, .inl G_towerCell))] H → va_D A [(h0, .inr (4, oX4 rG sG)), ((rG 7), .inl (cy 0, 5, .inl G_towerCell))] → va_S A s.heap H locs → lv_has ls 3 [(0, .ref h0), (1, .int l1), (2, .int l2)] → W p l e R s m args below meth c H locs 0 0 QQ (F0 m 2 ls []) := by
    intro l1 kx28 hk2_28 nf2
    induction nf2 with
    | zero =>
      intro l2 H locs ls h
      exact (show False from h).elim
    | succ nf2 ih2 =>
      intro l2 H locs ls h hP hD hS hl
      refine lv_iload_n hx hb dX4_hasTowerAt_2 rfl (lv_at hl 2 rfl) ?_
      refine lv_aload_n hx hb dX4_hasTowerAt_3 rfl (lv_at hl 0 rfl) ?_
      refine gfX4_47 (v := (sG 2)) hx hb hts hown hK hP 0 rfl rfl dX4_hasTowerAt_4 ?_
      refine lv_icmp_ge (tgt := 28) hx hb dX4_hasTowerAt_7 (by decide) (fun c7 => ?_) (fun c7 => ?_)
      · have h := h.1 c7
        exact hk2_28 l2 _ _ _ h hP hD hS (lv_sub hl [0] rfl)
      · have h := h.2 c7
        refine lv_aload_n hx hb dX4_hasTowerAt_10 rfl (lv_at hl 0 rfl) ?_
        refine gfX4_9 hx hb hts hown hK hP 0 rfl dX4_hasTowerAt_11 ?_
        refine lv_iload_n hx hb dX4_hasTowerAt_14 rfl (lv_at hl 2 rfl) ?_
        obtain ⟨hin, h⟩ := h
        refine ldi (k := l2.toNatClampNeg) hx hb hK hP 1 rfl hin rfl dX4_hasTowerAt_15 ?_
        refine lv_iload_n hx hb dX4_hasTowerAt_16 rfl (lv_at hl 1 rfl) ?_
        refine lv_icmp_ne (tgt := 22) hx hb dX4_hasTowerAt_17 (by decide) (fun c17 => ?_) (fun c17 => ?_)
        · have h := h.1 c17
          obtain ⟨l2_22, el2_22⟩ : ∃ y : Int32, y = l2 + (1 : Int32) := ⟨_, rfl⟩
          have h := h l2_22 el2_22
          refine lv_iinc (v := l2_22) (lv' := [(2, .int l2_22), (0, .ref h0), (1, .int l1)]) hx hb dX4_hasTowerAt_22 hl (k := 2) rfl (by rw [el2_22]; rfl) (by decide) rfl (fun ls hl => ?_)
          refine lv_goto (tgt := 2) hx hb dX4_hasTowerAt_25 (by decide) ?_
          exact ih2 l2_22 _ _ _ h hP hD hS (lv_sub hl [1, 2, 0] rfl)
        · have h := h.2 c17
          refine lv_iconst (v := (1 : Int32)) hx hb dX4_hasTowerAt_20 (by decide) ?_
          exact hret (1 : Int32) () _ _ _ _ rfl dX4_hasTowerAt_21 h hP hD hS
  refine lv_iconst (v := (0 : Int32)) hx hb dX4_hasTowerAt_0 (by decide) ?_
  refine lv_istore_n (lv' := [(2, .int (0 : Int32)), (0, .ref h0), (1, .int x1)]) hx hb dX4_hasTowerAt_1 rfl hl (by decide) rfl (fun ls hl => ?_)
  obtain ⟨nf2, h⟩ := h
  refine L2 x1 _ (fun l2_28 H locs ls h hP hD hS hl => ?_) nf2 (0 : Int32) _ _ _ h hP hD hS (lv_sub hl [1, 2, 0] rfl)
  refine lv_iconst (v := (0 : Int32)) hx hb dX4_hasTowerAt_28 (by decide) ?_
  exact hret (0 : Int32) () _ _ _ _ rfl dX4_hasTowerAt_29 h hP hD hS
def wpX4_distance_J89 (sG : AR) (G_towerCell : AR) (l3 : Int32) (l4 : Int32) (l5 : Int32) (post : Int32 → Prop) : Prop := post (((4 : Int32) * ((jabs l3) + (jabs l4))) - ((sG 5) * l5))
def wpX4_distance (sG : AR) (G_towerCell : AR) (x1 : Int32) (x2 : Int32) (post : Int32 → Prop) : Prop := wpX4_xOf sG x2 (fun r2 => vp_in x1 5 ∧ wpX4_xOf sG (G_towerCell x1.toNatClampNeg) (fun r12 => ∀ l3_16 : Int32, l3_16 = (r2 - r12) → wpX4_yOf sG x2 (fun r19 => vp_in x1 5 ∧ wpX4_yOf sG (G_towerCell x1.toNatClampNeg) (fun r29 => ∀ l4_33 : Int32, l4_33 = (r19 - r29) → (((sG 4) = (0 : Int32) → ∀ l5_67 : Int32, l5_67 = (-l4_33) → wpX4_distance_J89 sG G_towerCell l3_16 l4_33 l5_67 post) ∧ (¬ (sG 4) = (0 : Int32) → (((sG 4) = (1 : Int32) → wpX4_distance_J89 sG G_towerCell l3_16 l4_33 l3_16 post) ∧ (¬ (sG 4) = (1 : Int32) → (((sG 4) = (2 : Int32) → wpX4_distance_J89 sG G_towerCell l3_16 l4_33 l4_33 post) ∧ (¬ (sG 4) = (2 : Int32) → ∀ l5_87 : Int32, l5_87 = (-l3_16) → wpX4_distance_J89 sG G_towerCell l3_16 l4_33 l5_87 post))))))))))
set_option maxHeartbeats 4000000 in
set_option maxRecDepth 100000 in
theorem ctX4_distance (l : Launch) (D : va_G) (cy : Nat → ClassId) (ev : Nat → Nat) (h0 : Nat) (rG : Nat → Nat) (sG : AR) (G_towerCell : AR) (x1 : Int32) (x2 : Int32) (sz : Nat) (post : Int32 → Prop) (h : wpX4_distance sG G_towerCell x1 x2 post) : Met l yX4_distance (Cond.code yX4_distance cX4_distance 6 (some .int) :: TB) ({ frames := 1, cells := 0, slots := 0, locals := 60 }) (va_Pc [.ref h0, .int x1, .int x2] (PreX D cy ev [(h0, .inr (4, oX4 rG sG)), ((rG 7), .inl (cy 0, 5, .inl G_towerCell))] sz)) (va_Qi (fun (r : Int32) (u : Unit) => post r) (fun u => BkX D cy [(h0, .inr (4, oX4 rG sG)), ((rG 7), .inl (cy 0, 5, .inl G_towerCell))] sz [(h0, .inr (4, oX4 rG sG)), ((rG 7), .inl (cy 0, 5, .inl G_towerCell))]) (va_A [(h0, .inr (4, oX4 rG sG)), ((rG 7), .inl (cy 0, 5, .inl G_towerCell))] sz)) 0 0 (va_A [(h0, .inr (4, oX4 rG sG)), ((rG 7), .inl (cy 0, 5, .inl G_towerCell))] sz) := by
  refine ofWi (by decide) (Nat.le_of_ble_eq_true rfl) ?_
  intro p e s m args below meth c ls A R QQ hx hb hml hown hts hR hlk hE hK hP hD hS hA hl hret
  have hown : s.vm.findClass RX4 = some m.cls := hown
  have hRf : 1 ≤ R.frames := by rw [hR]; exact Nat.le_refl _
  have hRl : 60 ≤ R.locals := by rw [hR]; exact Nat.le_refl _
  clear hR
  have hl : lv_has ls 6 [(0, .ref h0), (1, .int x1), (2, .int x2)] := hl
  have J89 : ∀ (l3 : Int32) (l4 : Int32) (l5 : Int32) (H : Heap) (locs : List Loc) (ls : Array Slot), wpX4_distance_J89 sG G_towerCell l3 l4 l5 post → va_P D clsX [(h0, .inr (4, oX4 rG sG)), ((rG 7), .inl (cy 0, 5, .inl G_towerCell))] H → va_D A [(h0, .inr (4, oX4 rG sG)), ((rG 7), .inl (cy 0, 5, .inl G_towerCell))] → va_S A s.heap H locs → lv_has ls 6 [(0, .ref h0), (3, .int l3), (4, .int l4), (5, .int l5)] → W p l e R s m args below meth c H locs 0 0 QQ (F0 m 89 ls []) := by
    intro l3 l4 l5 H locs ls h hP hD hS hl
    refine lv_iconst (v := (4 : Int32)) hx hb dX4_distance_89 (by decide) ?_
    refine lv_iload_n hx hb dX4_distance_90 rfl (lv_at hl 1 rfl) ?_
    refine mabs hx hb (hml.trans hl.1.symm) hts hown mw417 (Nat.le_trans (by decide) hRf) (Nat.le_trans (Nat.le_of_ble_eq_true rfl) hRl) (Nat.zero_le _) (Nat.zero_le _) dX4_distance_91 ?_
    refine lv_iload hx hb dX4_distance_94 (lv_at hl 2 rfl) ?_
    refine mabs hx hb (hml.trans hl.1.symm) hts hown mw417 (Nat.le_trans (by decide) hRf) (Nat.le_trans (Nat.le_of_ble_eq_true rfl) hRl) (Nat.zero_le _) (Nat.zero_le _) dX4_distance_96 ?_
    refine lv_iadd hx hb dX4_distance_99 ?_
    refine lv_imul hx hb dX4_distance_100 ?_
    refine lv_aload_n hx hb dX4_distance_101 rfl (lv_at hl 0 rfl) ?_
    refine gfX4_56 (v := (sG 5)) hx hb hts hown hK hP 0 rfl rfl dX4_distance_102 ?_
    refine lv_iload hx hb dX4_distance_105 (lv_at hl 3 rfl) ?_
    refine lv_imul hx hb dX4_distance_107 ?_
    refine lv_isub hx hb dX4_distance_108 ?_
    exact hret (((4 : Int32) * ((jabs l3) + (jabs l4))) - ((sG 5) * l5)) () _ _ _ _ rfl dX4_distance_109 h hP hD hS
  refine lv_aload_n hx hb dX4_distance_0 rfl (lv_at hl 0 rfl) ?_
  refine lv_iload_n hx hb dX4_distance_1 rfl (lv_at hl 2 rfl) ?_
  refine clVi (As := [.int x2]) (rest := []) (Wr := [((rG 7), .inl (cy 0, 5, .inl G_towerCell))]) (cq := (RX4, TX4, 16)) ⟨hx, hb, hml, hown, hts⟩ ⟨callB_of 1 hts (goodC mw412) rfl rfl rfl (hts _ (tb mw3)) (hts _ (tb mw409)) kdX4_xOf ⟨Nat.le_trans (by decide) hRf, Nat.le_trans (by decide) hRl⟩, hts _ (tb mw410), hts _ (tb mw411)⟩ (ctX4_xOf l D cy ev h0 rG sG x2 _ _ h) hE hK hP hD hS hA [0] [1] rfl rfl (by decide) (by decide) (by decide) 0 rfl rfl rfl hl.1 rfl (Nat.le_of_ble_eq_true rfl) ⟨Nat.zero_le _, Nat.zero_le _⟩ dX4_distance_2 (fun r2 u H locs h hP hD hS => ?_)
  have hP : va_P D clsX [((rG 7), .inl (cy 0, 5, .inl G_towerCell)), (h0, .inr (4, oX4 rG sG))] H := hP
  have hD : va_D A [((rG 7), .inl (cy 0, 5, .inl G_towerCell)), (h0, .inr (4, oX4 rG sG))] := hD
  refine lv_aload_n hx hb dX4_distance_5 rfl (lv_at hl 0 rfl) ?_
  refine lv_aload_n hx hb dX4_distance_6 rfl (lv_at hl 0 rfl) ?_
  refine gfX4_9 hx hb hts hown hK hP 1 rfl dX4_distance_7 ?_
  refine lv_iload_n hx hb dX4_distance_10 rfl (lv_at hl 1 rfl) ?_
  obtain ⟨hin, h⟩ := h
  refine ldi (k := x1.toNatClampNeg) hx hb hK hP 0 rfl hin rfl dX4_distance_11 ?_
  refine clVi (As := [.int (G_towerCell x1.toNatClampNeg)]) (rest := [.int r2]) (Wr := [((rG 7), .inl (cy 0, 5, .inl G_towerCell))]) (cq := (RX4, TX4, 16)) ⟨hx, hb, hml, hown, hts⟩ ⟨callB_of 1 hts (goodC mw412) rfl rfl rfl (hts _ (tb mw3)) (hts _ (tb mw409)) kdX4_xOf ⟨Nat.le_trans (by decide) hRf, Nat.le_trans (by decide) hRl⟩, hts _ (tb mw410), hts _ (tb mw411)⟩ (ctX4_xOf l D cy ev h0 rG sG (G_towerCell x1.toNatClampNeg) _ _ h) hE hK hP hD hS hA [1] [0] rfl rfl (by decide) (by decide) (by decide) 0 rfl rfl rfl hl.1 rfl (Nat.le_of_ble_eq_true rfl) ⟨Nat.zero_le _, Nat.zero_le _⟩ dX4_distance_12 (fun r12 u H locs h hP hD hS => ?_)
  have hP : va_P D clsX [((rG 7), .inl (cy 0, 5, .inl G_towerCell)), (h0, .inr (4, oX4 rG sG))] H := hP
  have hD : va_D A [((rG 7), .inl (cy 0, 5, .inl G_towerCell)), (h0, .inr (4, oX4 rG sG))] := hD
  refine lv_isub hx hb dX4_distance_15 ?_
  refine lv_topi (fun l3_16 el3_16 => ?_)
  have h := h l3_16 el3_16
  refine lv_istore_n (lv' := [(3, .int l3_16), (0, .ref h0), (1, .int x1), (2, .int x2)]) hx hb dX4_distance_16 rfl hl (by decide) rfl (fun ls hl => ?_)
  refine lv_aload_n hx hb dX4_distance_17 rfl (lv_at hl 1 rfl) ?_
  refine lv_iload_n hx hb dX4_distance_18 rfl (lv_at hl 3 rfl) ?_
  refine clVi (As := [.int x2]) (rest := []) (Wr := [((rG 7), .inl (cy 0, 5, .inl G_towerCell))]) (cq := (RX4, TX4, 16)) ⟨hx, hb, hml, hown, hts⟩ ⟨callB_of 1 hts (goodC mw416) rfl rfl rfl (hts _ (tb mw3)) (hts _ (tb mw413)) kdX4_yOf ⟨Nat.le_trans (by decide) hRf, Nat.le_trans (by decide) hRl⟩, hts _ (tb mw414), hts _ (tb mw415)⟩ (ctX4_yOf l D cy ev h0 rG sG x2 _ _ h) hE hK hP hD hS hA [1] [0] rfl rfl (by decide) (by decide) (by decide) 0 rfl rfl rfl hl.1 rfl (Nat.le_of_ble_eq_true rfl) ⟨Nat.zero_le _, Nat.zero_le _⟩ dX4_distance_19 (fun r19 u H locs h hP hD hS => ?_)
  have hP : va_P D clsX [((rG 7), .inl (cy 0, 5, .inl G_towerCell)), (h0, .inr (4, oX4 rG sG))] H := hP
  have hD : va_D A [((rG 7), .inl (cy 0, 5, .inl G_towerCell)), (h0, .inr (4, oX4 rG sG))] := hD
  refine lv_aload_n hx hb dX4_distance_22 rfl (lv_at hl 1 rfl) ?_
  refine lv_aload_n hx hb dX4_distance_23 rfl (lv_at hl 1 rfl) ?_
  refine gfX4_9 hx hb hts hown hK hP 1 rfl dX4_distance_24 ?_
  refine lv_iload_n hx hb dX4_distance_27 rfl (lv_at hl 2 rfl) ?_
  obtain ⟨hin, h⟩ := h
  refine ldi (k := x1.toNatClampNeg) hx hb hK hP 0 rfl hin rfl dX4_distance_28 ?_
  refine clVi (As := [.int (G_towerCell x1.toNatClampNeg)]) (rest := [.int r19]) (Wr := [((rG 7), .inl (cy 0, 5, .inl G_towerCell))]) (cq := (RX4, TX4, 16)) ⟨hx, hb, hml, hown, hts⟩ ⟨callB_of 1 hts (goodC mw416) rfl rfl rfl (hts _ (tb mw3)) (hts _ (tb mw413)) kdX4_yOf ⟨Nat.le_trans (by decide) hRf, Nat.le_trans (by decide) hRl⟩, hts _ (tb mw414), hts _ (tb mw415)⟩ (ctX4_yOf l D cy ev h0 rG sG (G_towerCell x1.toNatClampNeg) _ _ h) hE hK hP hD hS hA [1] [0] rfl rfl (by decide) (by decide) (by decide) 0 rfl rfl rfl hl.1 rfl (Nat.le_of_ble_eq_true rfl) ⟨Nat.zero_le _, Nat.zero_le _⟩ dX4_distance_29 (fun r29 u H locs h hP hD hS => ?_)
  have hP : va_P D clsX [((rG 7), .inl (cy 0, 5, .inl G_towerCell)), (h0, .inr (4, oX4 rG sG))] H := hP
  have hD : va_D A [((rG 7), .inl (cy 0, 5, .inl G_towerCell)), (h0, .inr (4, oX4 rG sG))] := hD
  refine lv_isub hx hb dX4_distance_32 ?_
  refine lv_topi (fun l4_33 el4_33 => ?_)
  have h := h l4_33 el4_33
  refine lv_istore (lv' := [(4, .int l4_33), (3, .int l3_16), (0, .ref h0), (1, .int x1), (2, .int x2)]) hx hb dX4_distance_33 hl (by decide) rfl (fun ls hl => ?_)
  refine lv_aload_n hx hb dX4_distance_35 rfl (lv_at hl 2 rfl) ?_
  refine gfX4_53 (v := (sG 4)) hx hb hts hown hK hP 1 rfl rfl dX4_distance_36 ?_
  by_cases c39_0 : (sG 4) = (0 : Int32)
  · have h := h.1 c39_0
    refine lv_tableIn (off := 25) (tgt := 64) hx hb dX4_distance_39 (by rw [c39_0]; decide) (by rw [c39_0]; decide) (by rw [c39_0]; rfl) (by decide) ?_
    refine lv_iload hx hb dX4_distance_64 (lv_at hl 0 rfl) ?_
    refine lv_ineg hx hb dX4_distance_66 ?_
    refine lv_topi (fun l5_67 el5_67 => ?_)
    have h := h l5_67 el5_67
    refine lv_istore (lv' := [(5, .int l5_67), (4, .int l4_33), (3, .int l3_16), (0, .ref h0), (1, .int x1), (2, .int x2)]) hx hb dX4_distance_67 hl (by decide) rfl (fun ls hl => ?_)
    refine lv_goto (tgt := 89) hx hb dX4_distance_69 (by decide) ?_
    exact J89 l3_16 l4_33 l5_67 _ _ _ h (hP.sub [1, 0] rfl) (hD.sub [1, 0] (by decide) rfl) hS (lv_sub hl [3, 2, 1, 0] rfl)
  · have h := h.2 c39_0
    by_cases c39_1 : (sG 4) = (1 : Int32)
    · have h := h.1 c39_1
      refine lv_tableIn (off := 33) (tgt := 72) hx hb dX4_distance_39 (by rw [c39_1]; decide) (by rw [c39_1]; decide) (by rw [c39_1]; rfl) (by decide) ?_
      refine lv_iload_n hx hb dX4_distance_72 rfl (lv_at hl 1 rfl) ?_
      refine lv_istore (lv' := [(5, .int l3_16), (4, .int l4_33), (3, .int l3_16), (0, .ref h0), (1, .int x1), (2, .int x2)]) hx hb dX4_distance_73 hl (by decide) rfl (fun ls hl => ?_)
      refine lv_goto (tgt := 89) hx hb dX4_distance_75 (by decide) ?_
      exact J89 l3_16 l4_33 l3_16 _ _ _ h (hP.sub [1, 0] rfl) (hD.sub [1, 0] (by decide) rfl) hS (lv_sub hl [3, 2, 1, 0] rfl)
    · have h := h.2 c39_1
      by_cases c39_2 : (sG 4) = (2 : Int32)
      · have h := h.1 c39_2
        refine lv_tableIn (off := 39) (tgt := 78) hx hb dX4_distance_39 (by rw [c39_2]; decide) (by rw [c39_2]; decide) (by rw [c39_2]; rfl) (by decide) ?_
        refine lv_iload hx hb dX4_distance_78 (lv_at hl 0 rfl) ?_
        refine lv_istore (lv' := [(5, .int l4_33), (4, .int l4_33), (3, .int l3_16), (0, .ref h0), (1, .int x1), (2, .int x2)]) hx hb dX4_distance_80 hl (by decide) rfl (fun ls hl => ?_)
        refine lv_goto (tgt := 89) hx hb dX4_distance_82 (by decide) ?_
        exact J89 l3_16 l4_33 l4_33 _ _ _ h (hP.sub [1, 0] rfl) (hD.sub [1, 0] (by decide) rfl) hS (lv_sub hl [3, 2, 1, 0] rfl)
      · have h := h.2 c39_2
        have k0 := ne_iN (n := 0) (by decide) c39_0
        have k1 := ne_iN (n := 1) (by decide) c39_1
        have k2 := ne_iN (n := 2) (by decide) c39_2
        refine lv_tableOut (tgt := 85) hx hb dX4_distance_39 (by omega) (by decide) ?_
        refine lv_iload_n hx hb dX4_distance_85 rfl (lv_at hl 1 rfl) ?_
        refine lv_ineg hx hb dX4_distance_86 ?_
        refine lv_topi (fun l5_87 el5_87 => ?_)
        have h := h l5_87 el5_87
        refine lv_istore (lv' := [(5, .int l5_87), (4, .int l4_33), (3, .int l3_16), (0, .ref h0), (1, .int x1), (2, .int x2)]) hx hb dX4_distance_87 hl (by decide) rfl (fun ls hl => ?_)
        exact J89 l3_16 l4_33 l5_87 _ _ _ h (hP.sub [1, 0] rfl) (hD.sub [1, 0] (by decide) rfl) hS (lv_sub hl [3, 2, 1, 0] rfl)
def wpX4_carries (sG : AR) (G_towerCell : AR) (G_range : AR) (x1 : Int32) (x2 : Int32) (post : Int32 → Prop) : Prop := wpX4_distance sG G_towerCell x1 x2 (fun r3 => vp_in x1 5 ∧ ((((4 : Int32) * ((G_range x1.toNatClampNeg) + (sG 6))) < r3 → post (0 : Int32)) ∧ (¬ ((4 : Int32) * ((G_range x1.toNatClampNeg) + (sG 6))) < r3 → post (1 : Int32))))
set_option maxHeartbeats 4000000 in
set_option maxRecDepth 100000 in
theorem ctX4_carries (l : Launch) (D : va_G) (cy : Nat → ClassId) (ev : Nat → Nat) (h0 : Nat) (rG : Nat → Nat) (sG : AR) (G_towerCell : AR) (G_range : AR) (x1 : Int32) (x2 : Int32) (sz : Nat) (post : Int32 → Prop) (h : wpX4_carries sG G_towerCell G_range x1 x2 post) : Met l yX4_carries (Cond.code yX4_carries cX4_carries 3 (some .boolean) :: TB) ({ frames := 2, cells := 0, slots := 0, locals := 85 }) (va_Pc [.ref h0, .int x1, .int x2] (PreX D cy ev [(h0, .inr (4, oX4 rG sG)), ((rG 7), .inl (cy 0, 5, .inl G_towerCell)), ((rG 8), .inl (cy 0, 5, .inl G_range))] sz)) (va_Qi (fun (r : Int32) (u : Unit) => post r) (fun u => BkX D cy [(h0, .inr (4, oX4 rG sG)), ((rG 7), .inl (cy 0, 5, .inl G_towerCell)), ((rG 8), .inl (cy 0, 5, .inl G_range))] sz [(h0, .inr (4, oX4 rG sG)), ((rG 7), .inl (cy 0, 5, .inl G_towerCell)), ((rG 8), .inl (cy 0, 5, .inl G_range))]) (va_A [(h0, .inr (4, oX4 rG sG)), ((rG 7), .inl (cy 0, 5, .inl G_towerCell)), ((rG 8), .inl (cy 0, 5, .inl G_range))] sz)) 0 0 (va_A [(h0, .inr (4, oX4 rG sG)), ((rG 7), .inl (cy 0, 5, .inl G_towerCell)), ((rG 8), .inl (cy 0, 5, .inl G_range))] sz) := by
  refine ofWi (by decide) (Nat.le_of_ble_eq_true rfl) ?_
  intro p e s m args below meth c ls A R QQ hx hb hml hown hts hR hlk hE hK hP hD hS hA hl hret
  have hown : s.vm.findClass RX4 = some m.cls := hown
  have hRf : 2 ≤ R.frames := by rw [hR]; exact Nat.le_refl _
  have hRl : 85 ≤ R.locals := by rw [hR]; exact Nat.le_refl _
  clear hR
  have hl : lv_has ls 3 [(0, .ref h0), (1, .int x1), (2, .int x2)] := hl
  refine lv_aload_n hx hb dX4_carries_0 rfl (lv_at hl 0 rfl) ?_
  refine lv_iload_n hx hb dX4_carries_1 rfl (lv_at hl 1 rfl) ?_
  refine lv_iload_n hx hb dX4_carries_2 rfl (lv_at hl 2 rfl) ?_
  refine clVi (As := [.int x1, .int x2]) (rest := []) (Wr := [((rG 8), .inl (cy 0, 5, .inl G_range))]) (cq := (RX4, TX4, 16)) ⟨hx, hb, hml, hown, hts⟩ ⟨callB_of 2 hts (goodC mw408) rfl rfl rfl (hts _ (tb mw3)) (hts _ (tb mw424)) kdX4_distance ⟨Nat.le_trans (by decide) hRf, Nat.le_trans (by decide) hRl⟩, hts _ (tb mw406), hts _ (tb mw407)⟩ (ctX4_distance l D cy ev h0 rG sG G_towerCell x1 x2 _ _ h) hE hK hP hD hS hA [0, 1] [2] rfl rfl (by decide) (by decide) (by decide) 0 rfl rfl rfl hl.1 rfl (Nat.le_of_ble_eq_true rfl) ⟨Nat.zero_le _, Nat.zero_le _⟩ dX4_carries_3 (fun r3 u H locs h hP hD hS => ?_)
  have hP : va_P D clsX [((rG 8), .inl (cy 0, 5, .inl G_range)), (h0, .inr (4, oX4 rG sG)), ((rG 7), .inl (cy 0, 5, .inl G_towerCell))] H := hP
  have hD : va_D A [((rG 8), .inl (cy 0, 5, .inl G_range)), (h0, .inr (4, oX4 rG sG)), ((rG 7), .inl (cy 0, 5, .inl G_towerCell))] := hD
  refine lv_iconst (v := (4 : Int32)) hx hb dX4_carries_6 (by decide) ?_
  refine lv_aload_n hx hb dX4_carries_7 rfl (lv_at hl 0 rfl) ?_
  refine gfX4_15 hx hb hts hown hK hP 1 rfl dX4_carries_8 ?_
  refine lv_iload_n hx hb dX4_carries_11 rfl (lv_at hl 1 rfl) ?_
  obtain ⟨hin, h⟩ := h
  refine ldi (k := x1.toNatClampNeg) hx hb hK hP 0 rfl hin rfl dX4_carries_12 ?_
  refine lv_aload_n hx hb dX4_carries_13 rfl (lv_at hl 0 rfl) ?_
  refine gfX4_59 (v := (sG 6)) hx hb hts hown hK hP 1 rfl rfl dX4_carries_14 ?_
  refine lv_iadd hx hb dX4_carries_17 ?_
  refine lv_imul hx hb dX4_carries_18 ?_
  refine lv_icmp_gt (tgt := 26) hx hb dX4_carries_19 (by decide) (fun c19 => ?_) (fun c19 => ?_)
  · have h := h.1 c19
    refine lv_iconst (v := (0 : Int32)) hx hb dX4_carries_26 (by decide) ?_
    exact hret (0 : Int32) () _ _ _ _ rfl dX4_carries_27 h (hP.sub [1, 2, 0] rfl) (hD.sub [1, 2, 0] (by decide) rfl) hS
  · have h := h.2 c19
    refine lv_iconst (v := (1 : Int32)) hx hb dX4_carries_22 (by decide) ?_
    refine lv_goto (tgt := 27) hx hb dX4_carries_23 (by decide) ?_
    exact hret (1 : Int32) () _ _ _ _ rfl dX4_carries_27 h (hP.sub [1, 2, 0] rfl) (hD.sub [1, 2, 0] (by decide) rfl) hS
