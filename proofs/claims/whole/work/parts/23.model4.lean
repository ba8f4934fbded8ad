theorem dX11_is_0 : decode cX11_is 0 = .ok (.aload_n 0, 1) := by decide +kernel
theorem dX11_is_1 : decode cX11_is 1 = .ok (.getfield 181, 3) := by decide +kernel
theorem dX11_is_4 : decode cX11_is 4 = .ok (.ifCond .ne 31, 3) := by decide +kernel
theorem dX11_is_7 : decode cX11_is 7 = .ok (.aload_n 0, 1) := by decide +kernel
theorem dX11_is_8 : decode cX11_is 8 = .ok (.getfield 159, 3) := by decide +kernel
theorem dX11_is_11 : decode cX11_is 11 = .ok (.iconst 1, 1) := by decide +kernel
theorem dX11_is_12 : decode cX11_is 12 = .ok (.if_icmp .ne 23, 3) := by decide +kernel
theorem dX11_is_15 : decode cX11_is 15 = .ok (.aload_n 1, 1) := by decide +kernel
theorem dX11_is_16 : decode cX11_is 16 = .ok (.invokevirtual 187, 3) := by decide +kernel
theorem dX11_is_19 : decode cX11_is 19 = .ok (.aload_n 0, 1) := by decide +kernel
theorem dX11_is_20 : decode cX11_is 20 = .ok (.getfield 178, 3) := by decide +kernel
theorem dX11_is_23 : decode cX11_is 23 = .ok (.aload_n 0, 1) := by decide +kernel
theorem dX11_is_24 : decode cX11_is 24 = .ok (.getfield 156, 3) := by decide +kernel
theorem dX11_is_27 : decode cX11_is 27 = .ok (.isub, 1) := by decide +kernel
theorem dX11_is_28 : decode cX11_is 28 = .ok (.if_icmp .ne 7, 3) := by decide +kernel
theorem dX11_is_31 : decode cX11_is 31 = .ok (.iconst 1, 1) := by decide +kernel
theorem dX11_is_32 : decode cX11_is 32 = .ok (.goto 4, 3) := by decide +kernel
theorem dX11_is_35 : decode cX11_is 35 = .ok (.iconst 0, 1) := by decide +kernel
theorem dX11_is_36 : decode cX11_is 36 = .ok (.istore_n 2, 1) := by decide +kernel
theorem dX11_is_37 : decode cX11_is 37 = .ok (.iconst 0, 1) := by decide +kernel
theorem dX11_is_38 : decode cX11_is 38 = .ok (.istore_n 3, 1) := by decide +kernel
theorem dX11_is_39 : decode cX11_is 39 = .ok (.iload_n 2, 1) := by decide +kernel
theorem dX11_is_40 : decode cX11_is 40 = .ok (.ifCond .eq 42, 3) := by decide +kernel
theorem dX11_is_43 : decode cX11_is 43 = .ok (.iload_n 3, 1) := by decide +kernel
theorem dX11_is_44 : decode cX11_is 44 = .ok (.aload_n 1, 1) := by decide +kernel
theorem dX11_is_45 : decode cX11_is 45 = .ok (.invokevirtual 187, 3) := by decide +kernel
theorem dX11_is_48 : decode cX11_is 48 = .ok (.if_icmp .ge 34, 3) := by decide +kernel
theorem dX11_is_51 : decode cX11_is 51 = .ok (.aload_n 1, 1) := by decide +kernel
theorem dX11_is_52 : decode cX11_is 52 = .ok (.iload_n 3, 1) := by decide +kernel
theorem dX11_is_53 : decode cX11_is 53 = .ok (.invokevirtual 190, 3) := by decide +kernel
theorem dX11_is_56 : decode cX11_is 56 = .ok (.aload_n 0, 1) := by decide +kernel
theorem dX11_is_57 : decode cX11_is 57 = .ok (.getfield 68, 3) := by decide +kernel
theorem dX11_is_60 : decode cX11_is 60 = .ok (.aload_n 0, 1) := by decide +kernel
theorem dX11_is_61 : decode cX11_is 61 = .ok (.getfield 156, 3) := by decide +kernel
theorem dX11_is_64 : decode cX11_is 64 = .ok (.iload_n 3, 1) := by decide +kernel
theorem dX11_is_65 : decode cX11_is 65 = .ok (.iadd, 1) := by decide +kernel
theorem dX11_is_66 : decode cX11_is 66 = .ok (.iaload, 1) := by decide +kernel
theorem dX11_is_67 : decode cX11_is 67 = .ok (.if_icmp .ne 7, 3) := by decide +kernel
theorem dX11_is_70 : decode cX11_is 70 = .ok (.iconst 1, 1) := by decide +kernel
theorem dX11_is_71 : decode cX11_is 71 = .ok (.goto 4, 3) := by decide +kernel
theorem dX11_is_74 : decode cX11_is 74 = .ok (.iconst 0, 1) := by decide +kernel
theorem dX11_is_75 : decode cX11_is 75 = .ok (.istore_n 2, 1) := by decide +kernel
theorem dX11_is_76 : decode cX11_is 76 = .ok (.iinc 3 1, 3) := by decide +kernel
theorem dX11_is_79 : decode cX11_is 79 = .ok (.goto (-40), 3) := by decide +kernel
theorem dX11_is_82 : decode cX11_is 82 = .ok (.iload_n 2, 1) := by decide +kernel
theorem dX11_is_83 : decode cX11_is 83 = .ok (.ireturn, 1) := by decide +kernel
theorem dX11_passes_0 : decode cX11_passes 0 = .ok (.aload_n 0, 1) := by decide +kernel
theorem dX11_passes_1 : decode cX11_passes 1 = .ok (.aload_n 1, 1) := by decide +kernel
theorem dX11_passes_2 : decode cX11_passes 2 = .ok (.invokevirtual 194, 3) := by decide +kernel
theorem dX11_passes_5 : decode cX11_passes 5 = .ok (.istore_n 2, 1) := by decide +kernel
theorem dX11_passes_6 : decode cX11_passes 6 = .ok (.iload_n 2, 1) := by decide +kernel
theorem dX11_passes_7 : decode cX11_passes 7 = .ok (.ifCond .eq 7, 3) := by decide +kernel
theorem dX11_passes_10 : decode cX11_passes 10 = .ok (.aload_n 0, 1) := by decide +kernel
theorem dX11_passes_11 : decode cX11_passes 11 = .ok (.invokevirtual 198, 3) := by decide +kernel
theorem dX11_passes_14 : decode cX11_passes 14 = .ok (.iload_n 2, 1) := by decide +kernel
theorem dX11_passes_15 : decode cX11_passes 15 = .ok (.ireturn, 1) := by decide +kernel
theorem dX11_which_0 : decode cX11_which 0 = .ok (.iconst 0, 1) := by decide +kernel
theorem dX11_which_1 : decode cX11_which 1 = .ok (.istore_n 2, 1) := by decide +kernel
theorem dX11_which_2 : decode cX11_which 2 = .ok (.iload_n 2, 1) := by decide +kernel
theorem dX11_which_3 : decode cX11_which 3 = .ok (.aload_n 1, 1) := by decide +kernel
theorem dX11_which_4 : decode cX11_which 4 = .ok (.arraylength, 1) := by decide +kernel
theorem dX11_which_5 : decode cX11_which 5 = .ok (.if_icmp .ge 21, 3) := by decide +kernel
theorem dX11_which_8 : decode cX11_which 8 = .ok (.aload_n 0, 1) := by decide +kernel
theorem dX11_which_9 : decode cX11_which 9 = .ok (.aload_n 1, 1) := by decide +kernel
theorem dX11_which_10 : decode cX11_which 10 = .ok (.iload_n 2, 1) := by decide +kernel
theorem dX11_which_11 : decode cX11_which 11 = .ok (.aaload, 1) := by decide +kernel
theorem dX11_which_12 : decode cX11_which 12 = .ok (.invokevirtual 194, 3) := by decide +kernel
theorem dX11_which_15 : decode cX11_which 15 = .ok (.ifCond .eq 5, 3) := by decide +kernel
theorem dX11_which_18 : decode cX11_which 18 = .ok (.iload_n 2, 1) := by decide +kernel
theorem dX11_which_19 : decode cX11_which 19 = .ok (.ireturn, 1) := by decide +kernel
theorem dX11_which_20 : decode cX11_which 20 = .ok (.iinc 2 1, 3) := by decide +kernel
theorem dX11_which_23 : decode cX11_which 23 = .ok (.goto (-21), 3) := by decide +kernel
theorem dX11_which_26 : decode cX11_which 26 = .ok (.iconst (-1), 1) := by decide +kernel
theorem dX11_which_27 : decode cX11_which 27 = .ok (.ireturn, 1) := by decide +kernel
theorem dX11_readTower_0 : decode cX11_readTower 0 = .ok (.aload_n 0, 1) := by decide +kernel
theorem dX11_readTower_1 : decode cX11_readTower 1 = .ok (.getfield 36, 3) := by decide +kernel
theorem dX11_readTower_4 : decode cX11_readTower 4 = .ok (.bipush 9, 2) := by decide +kernel
theorem dX11_readTower_6 : decode cX11_readTower 6 = .ok (.iaload, 1) := by decide +kernel
theorem dX11_readTower_7 : decode cX11_readTower 7 = .ok (.iconst 5, 1) := by decide +kernel
theorem dX11_readTower_8 : decode cX11_readTower 8 = .ok (.if_icmp .ne 8, 3) := by decide +kernel
theorem dX11_readTower_11 : decode cX11_readTower 11 = .ok (.aload_n 0, 1) := by decide +kernel
theorem dX11_readTower_12 : decode cX11_readTower 12 = .ok (.iconst 2, 1) := by decide +kernel
theorem dX11_readTower_13 : decode cX11_readTower 13 = .ok (.invokevirtual 204, 3) := by decide +kernel
theorem dX11_readTower_16 : decode cX11_readTower 16 = .ok (.aload_n 0, 1) := by decide +kernel
theorem dX11_readTower_17 : decode cX11_readTower 17 = .ok (.getfield 181, 3) := by decide +kernel
theorem dX11_readTower_20 : decode cX11_readTower 20 = .ok (.ifCond .eq 4, 3) := by decide +kernel
theorem dX11_readTower_23 : decode cX11_readTower 23 = .ok (.return_, 1) := by decide +kernel
theorem dX11_readTower_24 : decode cX11_readTower 24 = .ok (.aload_n 0, 1) := by decide +kernel
theorem dX11_readTower_25 : decode cX11_readTower 25 = .ok (.invokevirtual 198, 3) := by decide +kernel
theorem dX11_readTower_28 : decode cX11_readTower 28 = .ok (.iconst 5, 1) := by decide +kernel
theorem dX11_readTower_29 : decode cX11_readTower 29 = .ok (.aload_n 0, 1) := by decide +kernel
theorem dX11_readTower_30 : decode cX11_readTower 30 = .ok (.getfield 36, 3) := by decide +kernel
theorem dX11_readTower_33 : decode cX11_readTower 33 = .ok (.bipush 9, 2) := by decide +kernel
theorem dX11_readTower_35 : decode cX11_readTower 35 = .ok (.iaload, 1) := by decide +kernel
theorem dX11_readTower_36 : decode cX11_readTower 36 = .ok (.iadd, 1) := by decide +kernel
theorem dX11_readTower_37 : decode cX11_readTower 37 = .ok (.istore_n 1, 1) := by decide +kernel
theorem dX11_readTower_38 : decode cX11_readTower 38 = .ok (.aload_n 0, 1) := by decide +kernel
theorem dX11_readTower_39 : decode cX11_readTower 39 = .ok (.iconst 0, 1) := by decide +kernel
theorem dX11_readTower_40 : decode cX11_readTower 40 = .ok (.aload_n 0, 1) := by decide +kernel
theorem dX11_readTower_41 : decode cX11_readTower 41 = .ok (.getfield 36, 3) := by decide +kernel
theorem dX11_readTower_44 : decode cX11_readTower 44 = .ok (.bipush 7, 2) := by decide +kernel
theorem dX11_readTower_46 : decode cX11_readTower 46 = .ok (.iaload, 1) := by decide +kernel
theorem dX11_readTower_47 : decode cX11_readTower 47 = .ok (.iconst 1, 1) := by decide +kernel
theorem dX11_readTower_48 : decode cX11_readTower 48 = .ok (.isub, 1) := by decide +kernel
theorem dX11_readTower_49 : decode cX11_readTower 49 = .ok (.invokevirtual 211, 3) := by decide +kernel
theorem dX11_readTower_52 : decode cX11_readTower 52 = .ok (.istore_n 2, 1) := by decide +kernel
theorem dX11_readTower_53 : decode cX11_readTower 53 = .ok (.aload_n 0, 1) := by decide +kernel
theorem dX11_readTower_54 : decode cX11_readTower 54 = .ok (.getfield 36, 3) := by decide +kernel
theorem dX11_readTower_57 : decode cX11_readTower 57 = .ok (.bipush 7, 2) := by decide +kernel
theorem dX11_readTower_59 : decode cX11_readTower 59 = .ok (.iaload, 1) := by decide +kernel
theorem dX11_readTower_60 : decode cX11_readTower 60 = .ok (.aload_n 0, 1) := by decide +kernel
theorem dX11_readTower_61 : decode cX11_readTower 61 = .ok (.iconst 0, 1) := by decide +kernel
theorem dX11_readTower_62 : decode cX11_readTower 62 = .ok (.aload_n 0, 1) := by decide +kernel
theorem dX11_readTower_63 : decode cX11_readTower 63 = .ok (.getfield 36, 3) := by decide +kernel
theorem dX11_readTower_66 : decode cX11_readTower 66 = .ok (.bipush 8, 2) := by decide +kernel
theorem dX11_readTower_68 : decode cX11_readTower 68 = .ok (.iaload, 1) := by decide +kernel
theorem dX11_readTower_69 : decode cX11_readTower 69 = .ok (.iconst 1, 1) := by decide +kernel
theorem dX11_readTower_70 : decode cX11_readTower 70 = .ok (.isub, 1) := by decide +kernel
theorem dX11_readTower_71 : decode cX11_readTower 71 = .ok (.invokevirtual 208, 3) := by decide +kernel
theorem dX11_readTower_74 : decode cX11_readTower 74 = .ok (.imul, 1) := by decide +kernel
theorem dX11_readTower_75 : decode cX11_readTower 75 = .ok (.iload_n 2, 1) := by decide +kernel
theorem dX11_readTower_76 : decode cX11_readTower 76 = .ok (.iadd, 1) := by decide +kernel
theorem dX11_readTower_77 : decode cX11_readTower 77 = .ok (.istore_n 3, 1) := by decide +kernel
theorem dX11_readTower_78 : decode cX11_readTower 78 = .ok (.iconst 5, 1) := by decide +kernel
theorem dX11_readTower_79 : decode cX11_readTower 79 = .ok (.istore 4, 2) := by decide +kernel
theorem dX11_readTower_81 : decode cX11_readTower 81 = .ok (.iload 4, 2) := by decide +kernel
theorem dX11_readTower_83 : decode cX11_readTower 83 = .ok (.iload_n 1, 1) := by decide +kernel
theorem dX11_readTower_84 : decode cX11_readTower 84 = .ok (.if_icmp .ge 32, 3) := by decide +kernel
theorem dX11_readTower_87 : decode cX11_readTower 87 = .ok (.aload_n 0, 1) := by decide +kernel
theorem dX11_readTower_88 : decode cX11_readTower 88 = .ok (.getfield 181, 3) := by decide +kernel
theorem dX11_readTower_91 : decode cX11_readTower 91 = .ok (.ifCond .ne 25, 3) := by decide +kernel
theorem dX11_readTower_94 : decode cX11_readTower 94 = .ok (.aload_n 0, 1) := by decide +kernel
theorem dX11_readTower_95 : decode cX11_readTower 95 = .ok (.getfield 40, 3) := by decide +kernel
theorem dX11_readTower_98 : decode cX11_readTower 98 = .ok (.iload 4, 2) := by decide +kernel
theorem dX11_readTower_100 : decode cX11_readTower 100 = .ok (.iaload, 1) := by decide +kernel
theorem dX11_readTower_101 : decode cX11_readTower 101 = .ok (.iload_n 3, 1) := by decide +kernel
theorem dX11_readTower_102 : decode cX11_readTower 102 = .ok (.if_icmp .ne 8, 3) := by decide +kernel
theorem dX11_readTower_105 : decode cX11_readTower 105 = .ok (.aload_n 0, 1) := by decide +kernel
theorem dX11_readTower_106 : decode cX11_readTower 106 = .ok (.iconst 4, 1) := by decide +kernel
theorem dX11_readTower_107 : decode cX11_readTower 107 = .ok (.invokevirtual 204, 3) := by decide +kernel
theorem dX11_readTower_110 : decode cX11_readTower 110 = .ok (.iinc 4 1, 3) := by decide +kernel
theorem dX11_readTower_113 : decode cX11_readTower 113 = .ok (.goto (-32), 3) := by decide +kernel
theorem dX11_readTower_116 : decode cX11_readTower 116 = .ok (.aload_n 0, 1) := by decide +kernel
theorem dX11_readTower_117 : decode cX11_readTower 117 = .ok (.getfield 181, 3) := by decide +kernel
theorem dX11_readTower_120 : decode cX11_readTower 120 = .ok (.ifCond .eq 4, 3) := by decide +kernel
theorem dX11_readTower_123 : decode cX11_readTower 123 = .ok (.return_, 1) := by decide +kernel
theorem dX11_readTower_124 : decode cX11_readTower 124 = .ok (.aload_n 0, 1) := by decide +kernel
theorem dX11_readTower_125 : decode cX11_readTower 125 = .ok (.invokevirtual 198, 3) := by decide +kernel
theorem dX11_readTower_128 : decode cX11_readTower 128 = .ok (.aload_n 0, 1) := by decide +kernel
theorem dX11_readTower_129 : decode cX11_readTower 129 = .ok (.getfield 40, 3) := by decide +kernel
theorem dX11_readTower_132 : decode cX11_readTower 132 = .ok (.iload_n 1, 1) := by decide +kernel
theorem dX11_readTower_133 : decode cX11_readTower 133 = .ok (.iload_n 3, 1) := by decide +kernel
theorem dX11_readTower_134 : decode cX11_readTower 134 = .ok (.iastore, 1) := by decide +kernel
theorem dX11_readTower_135 : decode cX11_readTower 135 = .ok (.aload_n 0, 1) := by decide +kernel
theorem dX11_readTower_136 : decode cX11_readTower 136 = .ok (.getfield 43, 3) := by decide +kernel
theorem dX11_readTower_139 : decode cX11_readTower 139 = .ok (.iload_n 1, 1) := by decide +kernel
theorem dX11_readTower_140 : decode cX11_readTower 140 = .ok (.aload_n 0, 1) := by decide +kernel
theorem dX11_readTower_141 : decode cX11_readTower 141 = .ok (.iconst 1, 1) := by decide +kernel
theorem dX11_readTower_142 : decode cX11_readTower 142 = .ok (.bipush 20, 2) := by decide +kernel
theorem dX11_readTower_144 : decode cX11_readTower 144 = .ok (.invokevirtual 211, 3) := by decide +kernel
theorem dX11_readTower_147 : decode cX11_readTower 147 = .ok (.iastore, 1) := by decide +kernel
theorem dX11_readTower_148 : decode cX11_readTower 148 = .ok (.aload_n 0, 1) := by decide +kernel
theorem dX11_readTower_149 : decode cX11_readTower 149 = .ok (.getfield 46, 3) := by decide +kernel
theorem dX11_readTower_152 : decode cX11_readTower 152 = .ok (.iload_n 1, 1) := by decide +kernel
theorem dX11_readTower_153 : decode cX11_readTower 153 = .ok (.aload_n 0, 1) := by decide +kernel
theorem dX11_readTower_154 : decode cX11_readTower 154 = .ok (.iconst 0, 1) := by decide +kernel
theorem dX11_readTower_155 : decode cX11_readTower 155 = .ok (.iconst 3, 1) := by decide +kernel
theorem dX11_readTower_156 : decode cX11_readTower 156 = .ok (.invokevirtual 211, 3) := by decide +kernel
theorem dX11_readTower_159 : decode cX11_readTower 159 = .ok (.iastore, 1) := by decide +kernel
theorem dX11_readTower_160 : decode cX11_readTower 160 = .ok (.aload_n 0, 1) := by decide +kernel
theorem dX11_readTower_161 : decode cX11_readTower 161 = .ok (.getfield 55, 3) := by decide +kernel
theorem dX11_readTower_164 : decode cX11_readTower 164 = .ok (.bipush 24, 2) := by decide +kernel
theorem dX11_readTower_166 : decode cX11_readTower 166 = .ok (.aload_n 0, 1) := by decide +kernel
theorem dX11_readTower_167 : decode cX11_readTower 167 = .ok (.getfield 36, 3) := by decide +kernel
theorem dX11_readTower_170 : decode cX11_readTower 170 = .ok (.bipush 9, 2) := by decide +kernel
theorem dX11_readTower_172 : decode cX11_readTower 172 = .ok (.iaload, 1) := by decide +kernel
theorem dX11_readTower_173 : decode cX11_readTower 173 = .ok (.iadd, 1) := by decide +kernel
theorem dX11_readTower_174 : decode cX11_readTower 174 = .ok (.aload_n 0, 1) := by decide +kernel
theorem dX11_readTower_175 : decode cX11_readTower 175 = .ok (.ldc 214, 2) := by decide +kernel
theorem dX11_readTower_177 : decode cX11_readTower 177 = .ok (.invokevirtual 216, 3) := by decide +kernel
theorem dX11_readTower_180 : decode cX11_readTower 180 = .ok (.ifCond .eq 13, 3) := by decide +kernel
theorem dX11_readTower_183 : decode cX11_readTower 183 = .ok (.aload_n 0, 1) := by decide +kernel
theorem dX11_readTower_184 : decode cX11_readTower 184 = .ok (.iconst 1, 1) := by decide +kernel
theorem dX11_readTower_185 : decode cX11_readTower 185 = .ok (.bipush 99, 2) := by decide +kernel
theorem dX11_readTower_187 : decode cX11_readTower 187 = .ok (.invokevirtual 211, 3) := by decide +kernel
theorem dX11_readTower_190 : decode cX11_readTower 190 = .ok (.goto 5, 3) := by decide +kernel
theorem dX11_readTower_193 : decode cX11_readTower 193 = .ok (.bipush 99, 2) := by decide +kernel
theorem dX11_readTower_195 : decode cX11_readTower 195 = .ok (.iastore, 1) := by decide +kernel
theorem dX11_readTower_196 : decode cX11_readTower 196 = .ok (.aload_n 0, 1) := by decide +kernel
theorem dX11_readTower_197 : decode cX11_readTower 197 = .ok (.getfield 61, 3) := by decide +kernel
theorem dX11_readTower_200 : decode cX11_readTower 200 = .ok (.iload_n 1, 1) := by decide +kernel
theorem dX11_readTower_201 : decode cX11_readTower 201 = .ok (.aload_n 0, 1) := by decide +kernel
theorem dX11_readTower_202 : decode cX11_readTower 202 = .ok (.ldc 219, 2) := by decide +kernel
theorem dX11_readTower_204 : decode cX11_readTower 204 = .ok (.invokevirtual 216, 3) := by decide +kernel
theorem dX11_readTower_207 : decode cX11_readTower 207 = .ok (.bastore, 1) := by decide +kernel
theorem dX11_readTower_208 : decode cX11_readTower 208 = .ok (.aload_n 0, 1) := by decide +kernel
theorem dX11_readTower_209 : decode cX11_readTower 209 = .ok (.getfield 36, 3) := by decide +kernel
theorem dX11_readTower_212 : decode cX11_readTower 212 = .ok (.bipush 9, 2) := by decide +kernel
theorem dX11_readTower_214 : decode cX11_readTower 214 = .ok (.dup2, 1) := by decide +kernel
theorem dX11_readTower_215 : decode cX11_readTower 215 = .ok (.iaload, 1) := by decide +kernel
theorem dX11_readTower_216 : decode cX11_readTower 216 = .ok (.iconst 1, 1) := by decide +kernel
theorem dX11_readTower_217 : decode cX11_readTower 217 = .ok (.iadd, 1) := by decide +kernel
theorem dX11_readTower_218 : decode cX11_readTower 218 = .ok (.iastore, 1) := by decide +kernel
theorem dX11_readTower_219 : decode cX11_readTower 219 = .ok (.return_, 1) := by decide +kernel
theorem dX11_readWind_0 : decode cX11_readWind 0 = .ok (.aload_n 0, 1) := by decide +kernel
theorem dX11_readWind_1 : decode cX11_readWind 1 = .ok (.aload_n 0, 1) := by decide +kernel
theorem dX11_readWind_2 : decode cX11_readWind 2 = .ok (.getfield 33, 3) := by decide +kernel
theorem dX11_readWind_5 : decode cX11_readWind 5 = .ok (.invokevirtual 224, 3) := by decide +kernel
theorem dX11_readWind_8 : decode cX11_readWind 8 = .ok (.istore_n 1, 1) := by decide +kernel
theorem dX11_readWind_9 : decode cX11_readWind 9 = .ok (.iload_n 1, 1) := by decide +kernel
theorem dX11_readWind_10 : decode cX11_readWind 10 = .ok (.iconst (-1), 1) := by decide +kernel
theorem dX11_readWind_11 : decode cX11_readWind 11 = .ok (.if_icmp .ne 8, 3) := by decide +kernel
theorem dX11_readWind_14 : decode cX11_readWind 14 = .ok (.aload_n 0, 1) := by decide +kernel
theorem dX11_readWind_15 : decode cX11_readWind 15 = .ok (.iconst 1, 1) := by decide +kernel
theorem dX11_readWind_16 : decode cX11_readWind 16 = .ok (.invokevirtual 204, 3) := by decide +kernel
theorem dX11_readWind_19 : decode cX11_readWind 19 = .ok (.aload_n 0, 1) := by decide +kernel
theorem dX11_readWind_20 : decode cX11_readWind 20 = .ok (.getfield 181, 3) := by decide +kernel
theorem dX11_readWind_23 : decode cX11_readWind 23 = .ok (.ifCond .ne 7, 3) := by decide +kernel
theorem dX11_readWind_26 : decode cX11_readWind 26 = .ok (.aload_n 0, 1) := by decide +kernel
theorem dX11_readWind_27 : decode cX11_readWind 27 = .ok (.invokevirtual 198, 3) := by decide +kernel
theorem dX11_readWind_30 : decode cX11_readWind 30 = .ok (.aload_n 0, 1) := by decide +kernel
theorem dX11_readWind_31 : decode cX11_readWind 31 = .ok (.getfield 36, 3) := by decide +kernel
theorem dX11_readWind_34 : decode cX11_readWind 34 = .ok (.bipush 11, 2) := by decide +kernel
theorem dX11_readWind_36 : decode cX11_readWind 36 = .ok (.iload_n 1, 1) := by decide +kernel
theorem dX11_readWind_37 : decode cX11_readWind 37 = .ok (.iastore, 1) := by decide +kernel
theorem dX11_readWind_38 : decode cX11_readWind 38 = .ok (.aload_n 0, 1) := by decide +kernel
theorem dX11_readWind_39 : decode cX11_readWind 39 = .ok (.getfield 36, 3) := by decide +kernel
theorem dX11_readWind_42 : decode cX11_readWind 42 = .ok (.bipush 12, 2) := by decide +kernel
theorem dX11_readWind_44 : decode cX11_readWind 44 = .ok (.aload_n 0, 1) := by decide +kernel
theorem dX11_readWind_45 : decode cX11_readWind 45 = .ok (.iconst 0, 1) := by decide +kernel
theorem dX11_readWind_46 : decode cX11_readWind 46 = .ok (.iconst 3, 1) := by decide +kernel
theorem dX11_readWind_47 : decode cX11_readWind 47 = .ok (.invokevirtual 211, 3) := by decide +kernel
theorem dX11_readWind_50 : decode cX11_readWind 50 = .ok (.iastore, 1) := by decide +kernel
theorem dX11_readWind_51 : decode cX11_readWind 51 = .ok (.return_, 1) := by decide +kernel
theorem dX11_readLine_0 : decode cX11_readLine 0 = .ok (.aload_n 0, 1) := by decide +kernel
theorem dX11_readLine_1 : decode cX11_readLine 1 = .ok (.aload_n 0, 1) := by decide +kernel
theorem dX11_readLine_2 : decode cX11_readLine 2 = .ok (.getfield 19, 3) := by decide +kernel
theorem dX11_readLine_5 : decode cX11_readLine 5 = .ok (.invokevirtual 224, 3) := by decide +kernel
theorem dX11_readLine_8 : decode cX11_readLine 8 = .ok (.istore_n 2, 1) := by decide +kernel
theorem dX11_readLine_9 : decode cX11_readLine 9 = .ok (.aload_n 0, 1) := by decide +kernel
theorem dX11_readLine_10 : decode cX11_readLine 10 = .ok (.ldc 228, 2) := by decide +kernel
theorem dX11_readLine_12 : decode cX11_readLine 12 = .ok (.invokevirtual 194, 3) := by decide +kernel
theorem dX11_readLine_15 : decode cX11_readLine 15 = .ok (.ifCond .eq 7, 3) := by decide +kernel
theorem dX11_readLine_18 : decode cX11_readLine 18 = .ok (.iconst 1, 1) := by decide +kernel
theorem dX11_readLine_19 : decode cX11_readLine 19 = .ok (.goto 31, 3) := by decide +kernel
theorem dX11_readLine_22 : decode cX11_readLine 22 = .ok (.aload_n 0, 1) := by decide +kernel
theorem dX11_readLine_23 : decode cX11_readLine 23 = .ok (.ldc 230, 2) := by decide +kernel
theorem dX11_readLine_25 : decode cX11_readLine 25 = .ok (.invokevirtual 194, 3) := by decide +kernel
theorem dX11_readLine_28 : decode cX11_readLine 28 = .ok (.ifCond .eq 7, 3) := by decide +kernel
theorem dX11_readLine_31 : decode cX11_readLine 31 = .ok (.iconst 2, 1) := by decide +kernel
theorem dX11_readLine_32 : decode cX11_readLine 32 = .ok (.goto 18, 3) := by decide +kernel
theorem dX11_readLine_35 : decode cX11_readLine 35 = .ok (.aload_n 0, 1) := by decide +kernel
theorem dX11_readLine_36 : decode cX11_readLine 36 = .ok (.ldc 232, 2) := by decide +kernel
theorem dX11_readLine_38 : decode cX11_readLine 38 = .ok (.invokevirtual 194, 3) := by decide +kernel
theorem dX11_readLine_41 : decode cX11_readLine 41 = .ok (.ifCond .eq 7, 3) := by decide +kernel
theorem dX11_readLine_44 : decode cX11_readLine 44 = .ok (.iconst 4, 1) := by decide +kernel
theorem dX11_readLine_45 : decode cX11_readLine 45 = .ok (.goto 5, 3) := by decide +kernel
theorem dX11_readLine_48 : decode cX11_readLine 48 = .ok (.bipush 8, 2) := by decide +kernel
theorem dX11_readLine_50 : decode cX11_readLine 50 = .ok (.istore_n 3, 1) := by decide +kernel
theorem dX11_readLine_51 : decode cX11_readLine 51 = .ok (.iload_n 3, 1) := by decide +kernel
theorem dX11_readLine_52 : decode cX11_readLine 52 = .ok (.iconst 1, 1) := by decide +kernel
theorem dX11_readLine_53 : decode cX11_readLine 53 = .ok (.if_icmp .ne 12, 3) := by decide +kernel
theorem dX11_readLine_56 : decode cX11_readLine 56 = .ok (.iload_n 1, 1) := by decide +kernel
theorem dX11_readLine_57 : decode cX11_readLine 57 = .ok (.ifCond .eq 8, 3) := by decide +kernel
theorem dX11_readLine_60 : decode cX11_readLine 60 = .ok (.aload_n 0, 1) := by decide +kernel
theorem dX11_readLine_61 : decode cX11_readLine 61 = .ok (.iconst 3, 1) := by decide +kernel
theorem dX11_readLine_62 : decode cX11_readLine 62 = .ok (.invokevirtual 204, 3) := by decide +kernel
theorem dX11_readLine_65 : decode cX11_readLine 65 = .ok (.iload_n 3, 1) := by decide +kernel
theorem dX11_readLine_66 : decode cX11_readLine 66 = .ok (.iconst 2, 1) := by decide +kernel
theorem dX11_readLine_67 : decode cX11_readLine 67 = .ok (.if_icmp .eq 8, 3) := by decide +kernel
theorem dX11_readLine_70 : decode cX11_readLine 70 = .ok (.iload_n 3, 1) := by decide +kernel
theorem dX11_readLine_71 : decode cX11_readLine 71 = .ok (.iconst 4, 1) := by decide +kernel
theorem dX11_readLine_72 : decode cX11_readLine 72 = .ok (.if_icmp .ne 14, 3) := by decide +kernel
theorem dX11_readLine_75 : decode cX11_readLine 75 = .ok (.iload_n 1, 1) := by decide +kernel
theorem dX11_readLine_76 : decode cX11_readLine 76 = .ok (.iload_n 3, 1) := by decide +kernel
theorem dX11_readLine_77 : decode cX11_readLine 77 = .ok (.iand, 1) := by decide +kernel
theorem dX11_readLine_78 : decode cX11_readLine 78 = .ok (.ifCond .eq 8, 3) := by decide +kernel
theorem dX11_readLine_81 : decode cX11_readLine 81 = .ok (.aload_n 0, 1) := by decide +kernel
theorem dX11_readLine_82 : decode cX11_readLine 82 = .ok (.iconst 4, 1) := by decide +kernel
theorem dX11_readLine_83 : decode cX11_readLine 83 = .ok (.invokevirtual 204, 3) := by decide +kernel
theorem dX11_readLine_86 : decode cX11_readLine 86 = .ok (.iload_n 2, 1) := by decide +kernel
theorem dX11_readLine_87 : decode cX11_readLine 87 = .ok (.iconst (-1), 1) := by decide +kernel
theorem dX11_readLine_88 : decode cX11_readLine 88 = .ok (.if_icmp .eq 11, 3) := by decide +kernel
theorem dX11_readLine_91 : decode cX11_readLine 91 = .ok (.aload_n 0, 1) := by decide +kernel
theorem dX11_readLine_92 : decode cX11_readLine 92 = .ok (.iload_n 2, 1) := by decide +kernel
theorem dX11_readLine_93 : decode cX11_readLine 93 = .ok (.invokevirtual 234, 3) := by decide +kernel
theorem dX11_readLine_96 : decode cX11_readLine 96 = .ok (.goto 119, 3) := by decide +kernel
theorem dX11_readLine_99 : decode cX11_readLine 99 = .ok (.aload_n 0, 1) := by decide +kernel
theorem dX11_readLine_100 : decode cX11_readLine 100 = .ok (.ldc 237, 2) := by decide +kernel
theorem dX11_readLine_102 : decode cX11_readLine 102 = .ok (.invokevirtual 194, 3) := by decide +kernel
theorem dX11_readLine_105 : decode cX11_readLine 105 = .ok (.ifCond .eq 10, 3) := by decide +kernel
theorem dX11_readLine_108 : decode cX11_readLine 108 = .ok (.aload_n 0, 1) := by decide +kernel
theorem dX11_readLine_109 : decode cX11_readLine 109 = .ok (.invokevirtual 239, 3) := by decide +kernel
theorem dX11_readLine_112 : decode cX11_readLine 112 = .ok (.goto 103, 3) := by decide +kernel
theorem dX11_readLine_115 : decode cX11_readLine 115 = .ok (.aload_n 0, 1) := by decide +kernel
theorem dX11_readLine_116 : decode cX11_readLine 116 = .ok (.ldc 242, 2) := by decide +kernel
theorem dX11_readLine_118 : decode cX11_readLine 118 = .ok (.invokevirtual 216, 3) := by decide +kernel
theorem dX11_readLine_121 : decode cX11_readLine 121 = .ok (.ifCond .eq 10, 3) := by decide +kernel
theorem dX11_readLine_124 : decode cX11_readLine 124 = .ok (.aload_n 0, 1) := by decide +kernel
theorem dX11_readLine_125 : decode cX11_readLine 125 = .ok (.invokevirtual 244, 3) := by decide +kernel
theorem dX11_readLine_128 : decode cX11_readLine 128 = .ok (.goto 87, 3) := by decide +kernel
theorem dX11_readLine_131 : decode cX11_readLine 131 = .ok (.iload_n 3, 1) := by decide +kernel
theorem dX11_readLine_132 : decode cX11_readLine 132 = .ok (.bipush 8, 2) := by decide +kernel
theorem dX11_readLine_134 : decode cX11_readLine 134 = .ok (.if_icmp .ne 8, 3) := by decide +kernel
theorem dX11_readLine_137 : decode cX11_readLine 137 = .ok (.aload_n 0, 1) := by decide +kernel
theorem dX11_readLine_138 : decode cX11_readLine 138 = .ok (.iconst 1, 1) := by decide +kernel
theorem dX11_readLine_139 : decode cX11_readLine 139 = .ok (.invokevirtual 204, 3) := by decide +kernel
theorem dX11_readLine_142 : decode cX11_readLine 142 = .ok (.aload_n 0, 1) := by decide +kernel
theorem dX11_readLine_143 : decode cX11_readLine 143 = .ok (.getfield 181, 3) := by decide +kernel
theorem dX11_readLine_146 : decode cX11_readLine 146 = .ok (.ifCond .ne 7, 3) := by decide +kernel
theorem dX11_readLine_149 : decode cX11_readLine 149 = .ok (.aload_n 0, 1) := by decide +kernel
theorem dX11_readLine_150 : decode cX11_readLine 150 = .ok (.invokevirtual 198, 3) := by decide +kernel
theorem dX11_readLine_153 : decode cX11_readLine 153 = .ok (.iload_n 3, 1) := by decide +kernel
theorem dX11_readLine_154 : decode cX11_readLine 154 = .ok (.iconst 1, 1) := by decide +kernel
theorem dX11_readLine_155 : decode cX11_readLine 155 = .ok (.if_icmp .ne 34, 3) := by decide +kernel
theorem dX11_readLine_158 : decode cX11_readLine 158 = .ok (.aload_n 0, 1) := by decide +kernel
theorem dX11_readLine_159 : decode cX11_readLine 159 = .ok (.getfield 36, 3) := by decide +kernel
theorem dX11_readLine_162 : decode cX11_readLine 162 = .ok (.bipush 7, 2) := by decide +kernel
theorem dX11_readLine_164 : decode cX11_readLine 164 = .ok (.aload_n 0, 1) := by decide +kernel
theorem dX11_readLine_165 : decode cX11_readLine 165 = .ok (.iconst 2, 1) := by decide +kernel
theorem dX11_readLine_166 : decode cX11_readLine 166 = .ok (.bipush 10, 2) := by decide +kernel
theorem dX11_readLine_168 : decode cX11_readLine 168 = .ok (.invokevirtual 211, 3) := by decide +kernel
theorem dX11_readLine_171 : decode cX11_readLine 171 = .ok (.iastore, 1) := by decide +kernel
theorem dX11_readLine_172 : decode cX11_readLine 172 = .ok (.aload_n 0, 1) := by decide +kernel
theorem dX11_readLine_173 : decode cX11_readLine 173 = .ok (.getfield 36, 3) := by decide +kernel
theorem dX11_readLine_176 : decode cX11_readLine 176 = .ok (.bipush 8, 2) := by decide +kernel
theorem dX11_readLine_178 : decode cX11_readLine 178 = .ok (.aload_n 0, 1) := by decide +kernel
theorem dX11_readLine_179 : decode cX11_readLine 179 = .ok (.iconst 2, 1) := by decide +kernel
theorem dX11_readLine_180 : decode cX11_readLine 180 = .ok (.bipush 10, 2) := by decide +kernel
theorem dX11_readLine_182 : decode cX11_readLine 182 = .ok (.invokevirtual 211, 3) := by decide +kernel
theorem dX11_readLine_185 : decode cX11_readLine 185 = .ok (.iastore, 1) := by decide +kernel
theorem dX11_readLine_186 : decode cX11_readLine 186 = .ok (.goto 29, 3) := by decide +kernel
theorem dX11_readLine_189 : decode cX11_readLine 189 = .ok (.iload_n 3, 1) := by decide +kernel
theorem dX11_readLine_190 : decode cX11_readLine 190 = .ok (.iconst 2, 1) := by decide +kernel
theorem dX11_readLine_191 : decode cX11_readLine 191 = .ok (.if_icmp .ne 10, 3) := by decide +kernel
theorem dX11_readLine_194 : decode cX11_readLine 194 = .ok (.aload_n 0, 1) := by decide +kernel
theorem dX11_readLine_195 : decode cX11_readLine 195 = .ok (.invokevirtual 247, 3) := by decide +kernel
theorem dX11_readLine_198 : decode cX11_readLine 198 = .ok (.goto 17, 3) := by decide +kernel
theorem dX11_readLine_201 : decode cX11_readLine 201 = .ok (.aload_n 0, 1) := by decide +kernel
theorem dX11_readLine_202 : decode cX11_readLine 202 = .ok (.getfield 36, 3) := by decide +kernel
theorem dX11_readLine_205 : decode cX11_readLine 205 = .ok (.bipush 13, 2) := by decide +kernel
theorem dX11_readLine_207 : decode cX11_readLine 207 = .ok (.aload_n 0, 1) := by decide +kernel
theorem dX11_readLine_208 : decode cX11_readLine 208 = .ok (.iconst 0, 1) := by decide +kernel
theorem dX11_readLine_209 : decode cX11_readLine 209 = .ok (.bipush 9, 2) := by decide +kernel
theorem dX11_readLine_211 : decode cX11_readLine 211 = .ok (.invokevirtual 211, 3) := by decide +kernel
theorem dX11_readLine_214 : decode cX11_readLine 214 = .ok (.iastore, 1) := by decide +kernel
theorem dX11_readLine_215 : decode cX11_readLine 215 = .ok (.aload_n 0, 1) := by decide +kernel
theorem dX11_readLine_216 : decode cX11_readLine 216 = .ok (.bipush 59, 2) := by decide +kernel
theorem dX11_readLine_218 : decode cX11_readLine 218 = .ok (.invokevirtual 250, 3) := by decide +kernel
theorem dX11_readLine_221 : decode cX11_readLine 221 = .ok (.iload_n 1, 1) := by decide +kernel
theorem dX11_readLine_222 : decode cX11_readLine 222 = .ok (.iload_n 3, 1) := by decide +kernel
theorem dX11_readLine_223 : decode cX11_readLine 223 = .ok (.ior, 1) := by decide +kernel
theorem dX11_readLine_224 : decode cX11_readLine 224 = .ok (.ireturn, 1) := by decide +kernel
theorem dX11_flat_0 : decode cX11_flat 0 = .ok (.aload_n 0, 1) := by decide +kernel
theorem dX11_flat_1 : decode cX11_flat 1 = .ok (.iconst 0, 1) := by decide +kernel
theorem dX11_flat_2 : decode cX11_flat 2 = .ok (.putfield 132, 3) := by decide +kernel
theorem dX11_flat_5 : decode cX11_flat 5 = .ok (.aload_n 0, 1) := by decide +kernel
theorem dX11_flat_6 : decode cX11_flat 6 = .ok (.iload_n 1, 1) := by decide +kernel
theorem dX11_flat_7 : decode cX11_flat 7 = .ok (.invokevirtual 253, 3) := by decide +kernel
theorem dX11_flat_10 : decode cX11_flat 10 = .ok (.ifCond .ne 9, 3) := by decide +kernel
theorem dX11_flat_13 : decode cX11_flat 13 = .ok (.aload_n 0, 1) := by decide +kernel
theorem dX11_flat_14 : decode cX11_flat 14 = .ok (.iconst 1, 1) := by decide +kernel
theorem dX11_flat_15 : decode cX11_flat 15 = .ok (.invokevirtual 256, 3) := by decide +kernel
theorem dX11_flat_18 : decode cX11_flat 18 = .ok (.ireturn, 1) := by decide +kernel
theorem dX11_flat_19 : decode cX11_flat 19 = .ok (.bipush 7, 2) := by decide +kernel
theorem dX11_flat_21 : decode cX11_flat 21 = .ok (.istore_n 2, 1) := by decide +kernel
theorem dX11_flat_22 : decode cX11_flat 22 = .ok (.iload_n 2, 1) := by decide +kernel
theorem dX11_flat_23 : decode cX11_flat 23 = .ok (.bipush 14, 2) := by decide +kernel
theorem dX11_flat_25 : decode cX11_flat 25 = .ok (.if_icmp .ge 27, 3) := by decide +kernel
theorem dX11_flat_28 : decode cX11_flat 28 = .ok (.aload_n 0, 1) := by decide +kernel
theorem dX11_flat_29 : decode cX11_flat 29 = .ok (.getfield 36, 3) := by decide +kernel
theorem dX11_flat_32 : decode cX11_flat 32 = .ok (.iload_n 2, 1) := by decide +kernel
theorem dX11_flat_33 : decode cX11_flat 33 = .ok (.iload_n 2, 1) := by decide +kernel
theorem dX11_flat_34 : decode cX11_flat 34 = .ok (.bipush 9, 2) := by decide +kernel
theorem dX11_flat_36 : decode cX11_flat 36 = .ok (.if_icmp .ge 8, 3) := by decide +kernel
theorem dX11_flat_39 : decode cX11_flat 39 = .ok (.bipush 6, 2) := by decide +kernel
theorem dX11_flat_41 : decode cX11_flat 41 = .ok (.goto 4, 3) := by decide +kernel
theorem dX11_flat_44 : decode cX11_flat 44 = .ok (.iconst 0, 1) := by decide +kernel
theorem dX11_flat_45 : decode cX11_flat 45 = .ok (.iastore, 1) := by decide +kernel
theorem dX11_flat_46 : decode cX11_flat 46 = .ok (.iinc 2 1, 3) := by decide +kernel
theorem dX11_flat_49 : decode cX11_flat 49 = .ok (.goto (-27), 3) := by decide +kernel
theorem dX11_flat_52 : decode cX11_flat 52 = .ok (.iconst 0, 1) := by decide +kernel
theorem dX11_flat_53 : decode cX11_flat 53 = .ok (.istore_n 2, 1) := by decide +kernel
theorem dX11_flat_54 : decode cX11_flat 54 = .ok (.iload_n 2, 1) := by decide +kernel
theorem dX11_flat_55 : decode cX11_flat 55 = .ok (.bipush 100, 2) := by decide +kernel
theorem dX11_flat_57 : decode cX11_flat 57 = .ok (.if_icmp .ge 19, 3) := by decide +kernel
theorem dX11_flat_60 : decode cX11_flat 60 = .ok (.aload_n 0, 1) := by decide +kernel
theorem dX11_flat_61 : decode cX11_flat 61 = .ok (.getfield 65, 3) := by decide +kernel
theorem dX11_flat_64 : decode cX11_flat 64 = .ok (.bipush 100, 2) := by decide +kernel
theorem dX11_flat_66 : decode cX11_flat 66 = .ok (.iload_n 2, 1) := by decide +kernel
theorem dX11_flat_67 : decode cX11_flat 67 = .ok (.iadd, 1) := by decide +kernel
theorem dX11_flat_68 : decode cX11_flat 68 = .ok (.iconst 0, 1) := by decide +kernel
theorem dX11_flat_69 : decode cX11_flat 69 = .ok (.bastore, 1) := by decide +kernel
theorem dX11_flat_70 : decode cX11_flat 70 = .ok (.iinc 2 1, 3) := by decide +kernel
theorem dX11_flat_73 : decode cX11_flat 73 = .ok (.goto (-19), 3) := by decide +kernel
theorem dX11_flat_76 : decode cX11_flat 76 = .ok (.iconst 0, 1) := by decide +kernel
theorem dX11_flat_77 : decode cX11_flat 77 = .ok (.istore_n 2, 1) := by decide +kernel
theorem dX11_flat_78 : decode cX11_flat 78 = .ok (.iload_n 2, 1) := by decide +kernel
theorem dX11_flat_79 : decode cX11_flat 79 = .ok (.bipush 29, 2) := by decide +kernel
theorem dX11_flat_81 : decode cX11_flat 81 = .ok (.if_icmp .ge 16, 3) := by decide +kernel
theorem dX11_flat_84 : decode cX11_flat 84 = .ok (.aload_n 0, 1) := by decide +kernel
theorem dX11_flat_85 : decode cX11_flat 85 = .ok (.getfield 55, 3) := by decide +kernel
theorem dX11_flat_88 : decode cX11_flat 88 = .ok (.iload_n 2, 1) := by decide +kernel
theorem dX11_flat_89 : decode cX11_flat 89 = .ok (.iconst 0, 1) := by decide +kernel
theorem dX11_flat_90 : decode cX11_flat 90 = .ok (.iastore, 1) := by decide +kernel
theorem dX11_flat_91 : decode cX11_flat 91 = .ok (.iinc 2 1, 3) := by decide +kernel
theorem dX11_flat_94 : decode cX11_flat 94 = .ok (.goto (-16), 3) := by decide +kernel
theorem dX11_flat_97 : decode cX11_flat 97 = .ok (.iconst 0, 1) := by decide +kernel
theorem dX11_flat_98 : decode cX11_flat 98 = .ok (.istore_n 2, 1) := by decide +kernel
theorem dX11_flat_99 : decode cX11_flat 99 = .ok (.aload_n 0, 1) := by decide +kernel
theorem dX11_flat_100 : decode cX11_flat 100 = .ok (.getfield 181, 3) := by decide +kernel
theorem dX11_flat_103 : decode cX11_flat 103 = .ok (.ifCond .ne 19, 3) := by decide +kernel
theorem dX11_flat_106 : decode cX11_flat 106 = .ok (.aload_n 0, 1) := by decide +kernel
theorem dX11_flat_107 : decode cX11_flat 107 = .ok (.getfield 159, 3) := by decide +kernel
theorem dX11_flat_110 : decode cX11_flat 110 = .ok (.ifCond .eq 12, 3) := by decide +kernel
theorem dX11_flat_113 : decode cX11_flat 113 = .ok (.aload_n 0, 1) := by decide +kernel
theorem dX11_flat_114 : decode cX11_flat 114 = .ok (.iload_n 2, 1) := by decide +kernel
theorem dX11_flat_115 : decode cX11_flat 115 = .ok (.invokevirtual 259, 3) := by decide +kernel
theorem dX11_flat_118 : decode cX11_flat 118 = .ok (.istore_n 2, 1) := by decide +kernel
theorem dX11_flat_119 : decode cX11_flat 119 = .ok (.goto (-20), 3) := by decide +kernel
theorem dX11_flat_122 : decode cX11_flat 122 = .ok (.aload_n 0, 1) := by decide +kernel
theorem dX11_flat_123 : decode cX11_flat 123 = .ok (.invokevirtual 262, 3) := by decide +kernel
theorem dX11_flat_126 : decode cX11_flat 126 = .ok (.ifCond .eq 8, 3) := by decide +kernel
theorem dX11_flat_129 : decode cX11_flat 129 = .ok (.aload_n 0, 1) := by decide +kernel
theorem dX11_flat_130 : decode cX11_flat 130 = .ok (.getfield 181, 3) := by decide +kernel
theorem dX11_flat_133 : decode cX11_flat 133 = .ok (.ireturn, 1) := by decide +kernel
theorem dX11_flat_134 : decode cX11_flat 134 = .ok (.iconst 0, 1) := by decide +kernel
theorem dX11_flat_135 : decode cX11_flat 135 = .ok (.istore_n 3, 1) := by decide +kernel
theorem dX11_flat_136 : decode cX11_flat 136 = .ok (.iload_n 3, 1) := by decide +kernel
theorem dX11_flat_137 : decode cX11_flat 137 = .ok (.bipush 7, 2) := by decide +kernel
theorem dX11_flat_139 : decode cX11_flat 139 = .ok (.if_icmp .ge 24, 3) := by decide +kernel
theorem dX11_flat_142 : decode cX11_flat 142 = .ok (.aload_n 0, 1) := by decide +kernel
theorem dX11_flat_143 : decode cX11_flat 143 = .ok (.getfield 36, 3) := by decide +kernel
theorem dX11_flat_146 : decode cX11_flat 146 = .ok (.iload_n 3, 1) := by decide +kernel
theorem dX11_flat_147 : decode cX11_flat 147 = .ok (.aload_n 0, 1) := by decide +kernel
theorem dX11_flat_148 : decode cX11_flat 148 = .ok (.getfield 36, 3) := by decide +kernel
theorem dX11_flat_151 : decode cX11_flat 151 = .ok (.bipush 7, 2) := by decide +kernel
theorem dX11_flat_153 : decode cX11_flat 153 = .ok (.iload_n 3, 1) := by decide +kernel
theorem dX11_flat_154 : decode cX11_flat 154 = .ok (.iadd, 1) := by decide +kernel
theorem dX11_flat_155 : decode cX11_flat 155 = .ok (.iaload, 1) := by decide +kernel
theorem dX11_flat_156 : decode cX11_flat 156 = .ok (.iastore, 1) := by decide +kernel
theorem dX11_flat_157 : decode cX11_flat 157 = .ok (.iinc 3 1, 3) := by decide +kernel
theorem dX11_flat_160 : decode cX11_flat 160 = .ok (.goto (-24), 3) := by decide +kernel
theorem dX11_flat_163 : decode cX11_flat 163 = .ok (.iconst 0, 1) := by decide +kernel
theorem dX11_flat_164 : decode cX11_flat 164 = .ok (.istore_n 3, 1) := by decide +kernel
theorem dX11_flat_165 : decode cX11_flat 165 = .ok (.iload_n 3, 1) := by decide +kernel
theorem dX11_flat_166 : decode cX11_flat 166 = .ok (.iconst 5, 1) := by decide +kernel
theorem dX11_flat_167 : decode cX11_flat 167 = .ok (.if_icmp .ge 65, 3) := by decide +kernel
theorem dX11_flat_170 : decode cX11_flat 170 = .ok (.aload_n 0, 1) := by decide +kernel
theorem dX11_flat_171 : decode cX11_flat 171 = .ok (.getfield 40, 3) := by decide +kernel
theorem dX11_flat_174 : decode cX11_flat 174 = .ok (.iload_n 3, 1) := by decide +kernel
theorem dX11_flat_175 : decode cX11_flat 175 = .ok (.aload_n 0, 1) := by decide +kernel
theorem dX11_flat_176 : decode cX11_flat 176 = .ok (.getfield 40, 3) := by decide +kernel
theorem dX11_flat_179 : decode cX11_flat 179 = .ok (.iconst 5, 1) := by decide +kernel
theorem dX11_flat_180 : decode cX11_flat 180 = .ok (.iload_n 3, 1) := by decide +kernel
theorem dX11_flat_181 : decode cX11_flat 181 = .ok (.iadd, 1) := by decide +kernel
theorem dX11_flat_182 : decode cX11_flat 182 = .ok (.iaload, 1) := by decide +kernel
theorem dX11_flat_183 : decode cX11_flat 183 = .ok (.iastore, 1) := by decide +kernel
theorem dX11_flat_184 : decode cX11_flat 184 = .ok (.aload_n 0, 1) := by decide +kernel
theorem dX11_flat_185 : decode cX11_flat 185 = .ok (.getfield 43, 3) := by decide +kernel
theorem dX11_flat_188 : decode cX11_flat 188 = .ok (.iload_n 3, 1) := by decide +kernel
theorem dX11_flat_189 : decode cX11_flat 189 = .ok (.aload_n 0, 1) := by decide +kernel
theorem dX11_flat_190 : decode cX11_flat 190 = .ok (.getfield 43, 3) := by decide +kernel
theorem dX11_flat_193 : decode cX11_flat 193 = .ok (.iconst 5, 1) := by decide +kernel
theorem dX11_flat_194 : decode cX11_flat 194 = .ok (.iload_n 3, 1) := by decide +kernel
theorem dX11_flat_195 : decode cX11_flat 195 = .ok (.iadd, 1) := by decide +kernel
theorem dX11_flat_196 : decode cX11_flat 196 = .ok (.iaload, 1) := by decide +kernel
theorem dX11_flat_197 : decode cX11_flat 197 = .ok (.iastore, 1) := by decide +kernel
theorem dX11_flat_198 : decode cX11_flat 198 = .ok (.aload_n 0, 1) := by decide +kernel
theorem dX11_flat_199 : decode cX11_flat 199 = .ok (.getfield 46, 3) := by decide +kernel
theorem dX11_flat_202 : decode cX11_flat 202 = .ok (.iload_n 3, 1) := by decide +kernel
theorem dX11_flat_203 : decode cX11_flat 203 = .ok (.aload_n 0, 1) := by decide +kernel
theorem dX11_flat_204 : decode cX11_flat 204 = .ok (.getfield 46, 3) := by decide +kernel
theorem dX11_flat_207 : decode cX11_flat 207 = .ok (.iconst 5, 1) := by decide +kernel
theorem dX11_flat_208 : decode cX11_flat 208 = .ok (.iload_n 3, 1) := by decide +kernel
theorem dX11_flat_209 : decode cX11_flat 209 = .ok (.iadd, 1) := by decide +kernel
theorem dX11_flat_210 : decode cX11_flat 210 = .ok (.iaload, 1) := by decide +kernel
theorem dX11_flat_211 : decode cX11_flat 211 = .ok (.iastore, 1) := by decide +kernel
theorem dX11_flat_212 : decode cX11_flat 212 = .ok (.aload_n 0, 1) := by decide +kernel
theorem dX11_flat_213 : decode cX11_flat 213 = .ok (.getfield 61, 3) := by decide +kernel
theorem dX11_flat_216 : decode cX11_flat 216 = .ok (.iload_n 3, 1) := by decide +kernel
theorem dX11_flat_217 : decode cX11_flat 217 = .ok (.aload_n 0, 1) := by decide +kernel
theorem dX11_flat_218 : decode cX11_flat 218 = .ok (.getfield 61, 3) := by decide +kernel
theorem dX11_flat_221 : decode cX11_flat 221 = .ok (.iconst 5, 1) := by decide +kernel
theorem dX11_flat_222 : decode cX11_flat 222 = .ok (.iload_n 3, 1) := by decide +kernel
theorem dX11_flat_223 : decode cX11_flat 223 = .ok (.iadd, 1) := by decide +kernel
theorem dX11_flat_224 : decode cX11_flat 224 = .ok (.baload, 1) := by decide +kernel
theorem dX11_flat_225 : decode cX11_flat 225 = .ok (.bastore, 1) := by decide +kernel
theorem dX11_flat_226 : decode cX11_flat 226 = .ok (.iinc 3 1, 3) := by decide +kernel
theorem dX11_flat_229 : decode cX11_flat 229 = .ok (.goto (-64), 3) := by decide +kernel
theorem dX11_flat_232 : decode cX11_flat 232 = .ok (.iconst 0, 1) := by decide +kernel
theorem dX11_flat_233 : decode cX11_flat 233 = .ok (.istore_n 3, 1) := by decide +kernel
theorem dX11_flat_234 : decode cX11_flat 234 = .ok (.iload_n 3, 1) := by decide +kernel
theorem dX11_flat_235 : decode cX11_flat 235 = .ok (.iconst 4, 1) := by decide +kernel
theorem dX11_flat_236 : decode cX11_flat 236 = .ok (.if_icmp .ge 23, 3) := by decide +kernel
theorem dX11_flat_239 : decode cX11_flat 239 = .ok (.aload_n 0, 1) := by decide +kernel
theorem dX11_flat_240 : decode cX11_flat 240 = .ok (.getfield 49, 3) := by decide +kernel
theorem dX11_flat_243 : decode cX11_flat 243 = .ok (.iload_n 3, 1) := by decide +kernel
theorem dX11_flat_244 : decode cX11_flat 244 = .ok (.aload_n 0, 1) := by decide +kernel
theorem dX11_flat_245 : decode cX11_flat 245 = .ok (.getfield 49, 3) := by decide +kernel
theorem dX11_flat_248 : decode cX11_flat 248 = .ok (.iconst 4, 1) := by decide +kernel
theorem dX11_flat_249 : decode cX11_flat 249 = .ok (.iload_n 3, 1) := by decide +kernel
theorem dX11_flat_250 : decode cX11_flat 250 = .ok (.iadd, 1) := by decide +kernel
theorem dX11_flat_251 : decode cX11_flat 251 = .ok (.iaload, 1) := by decide +kernel
theorem dX11_flat_252 : decode cX11_flat 252 = .ok (.iastore, 1) := by decide +kernel
theorem dX11_flat_253 : decode cX11_flat 253 = .ok (.iinc 3 1, 3) := by decide +kernel
theorem dX11_flat_256 : decode cX11_flat 256 = .ok (.goto (-22), 3) := by decide +kernel
theorem dX11_flat_259 : decode cX11_flat 259 = .ok (.iconst 0, 1) := by decide +kernel
theorem dX11_flat_260 : decode cX11_flat 260 = .ok (.istore_n 3, 1) := by decide +kernel
theorem dX11_flat_261 : decode cX11_flat 261 = .ok (.iload_n 3, 1) := by decide +kernel
theorem dX11_flat_262 : decode cX11_flat 262 = .ok (.bipush 100, 2) := by decide +kernel
theorem dX11_flat_264 : decode cX11_flat 264 = .ok (.if_icmp .ge 24, 3) := by decide +kernel
theorem dX11_flat_267 : decode cX11_flat 267 = .ok (.aload_n 0, 1) := by decide +kernel
theorem dX11_flat_268 : decode cX11_flat 268 = .ok (.getfield 65, 3) := by decide +kernel
theorem dX11_flat_271 : decode cX11_flat 271 = .ok (.iload_n 3, 1) := by decide +kernel
theorem dX11_flat_272 : decode cX11_flat 272 = .ok (.aload_n 0, 1) := by decide +kernel
theorem dX11_flat_273 : decode cX11_flat 273 = .ok (.getfield 65, 3) := by decide +kernel
theorem dX11_flat_276 : decode cX11_flat 276 = .ok (.bipush 100, 2) := by decide +kernel
theorem dX11_flat_278 : decode cX11_flat 278 = .ok (.iload_n 3, 1) := by decide +kernel
theorem dX11_flat_279 : decode cX11_flat 279 = .ok (.iadd, 1) := by decide +kernel
theorem dX11_flat_280 : decode cX11_flat 280 = .ok (.baload, 1) := by decide +kernel
theorem dX11_flat_281 : decode cX11_flat 281 = .ok (.bastore, 1) := by decide +kernel
theorem dX11_flat_282 : decode cX11_flat 282 = .ok (.iinc 3 1, 3) := by decide +kernel
theorem dX11_flat_285 : decode cX11_flat 285 = .ok (.goto (-24), 3) := by decide +kernel
theorem dX11_flat_288 : decode cX11_flat 288 = .ok (.aload_n 0, 1) := by decide +kernel
theorem dX11_flat_289 : decode cX11_flat 289 = .ok (.getfield 52, 3) := by decide +kernel
theorem dX11_flat_292 : decode cX11_flat 292 = .ok (.aload_n 0, 1) := by decide +kernel
theorem dX11_flat_293 : decode cX11_flat 293 = .ok (.getfield 55, 3) := by decide +kernel
theorem dX11_flat_296 : decode cX11_flat 296 = .ok (.invokestatic 266, 3) := by decide +kernel
theorem dX11_flat_299 : decode cX11_flat 299 = .ok (.aload_n 0, 1) := by decide +kernel
theorem dX11_flat_300 : decode cX11_flat 300 = .ok (.iconst 0, 1) := by decide +kernel
theorem dX11_flat_301 : decode cX11_flat 301 = .ok (.putfield 270, 3) := by decide +kernel
theorem dX11_flat_304 : decode cX11_flat 304 = .ok (.aload_n 0, 1) := by decide +kernel
theorem dX11_flat_305 : decode cX11_flat 305 = .ok (.iconst 0, 1) := by decide +kernel
theorem dX11_flat_306 : decode cX11_flat 306 = .ok (.putfield 273, 3) := by decide +kernel
theorem dX11_flat_309 : decode cX11_flat 309 = .ok (.aload_n 0, 1) := by decide +kernel
theorem dX11_flat_310 : decode cX11_flat 310 = .ok (.iconst (-1), 1) := by decide +kernel
theorem dX11_flat_311 : decode cX11_flat 311 = .ok (.putfield 93, 3) := by decide +kernel
theorem dX11_flat_314 : decode cX11_flat 314 = .ok (.aload_n 0, 1) := by decide +kernel
theorem dX11_flat_315 : decode cX11_flat 315 = .ok (.iconst (-1), 1) := by decide +kernel
theorem dX11_flat_316 : decode cX11_flat 316 = .ok (.putfield 111, 3) := by decide +kernel
theorem dX11_flat_319 : decode cX11_flat 319 = .ok (.aload_n 0, 1) := by decide +kernel
theorem dX11_flat_320 : decode cX11_flat 320 = .ok (.iconst 0, 1) := by decide +kernel
theorem dX11_flat_321 : decode cX11_flat 321 = .ok (.putfield 276, 3) := by decide +kernel
theorem dX11_flat_324 : decode cX11_flat 324 = .ok (.iconst 0, 1) := by decide +kernel
theorem dX11_flat_325 : decode cX11_flat 325 = .ok (.ireturn, 1) := by decide +kernel
def wpX11_is_L39 (sM : AR) (M_tape : AR) (k1 : Nat) (kx82 : Int32 → Int32 → Prop) (post : Int32 → Prop) : Nat → Int32 → Int32 → Prop
  | 0, _, _ => False
  | nf39 + 1, l2, l3 => ((l2 = 0 → kx82 l2 l3) ∧ (¬ l2 = 0 → k1 < 50 ∧ (((nI (skB k1).length) ≤ l3 → kx82 l2 l3) ∧ (¬ (nI (skB k1).length) ≤ l3 → k1 < 50 ∧ vp_in l3 (skB k1).length ∧ vp_in ((sM 19) + l3) 500 ∧ ((¬ ((skB k1).getD l3.toNatClampNeg 0) = (M_tape ((sM 19) + l3).toNatClampNeg) → ∀ l3_76 : Int32, l3_76 = (l3 + (1 : Int32)) → wpX11_is_L39 sM M_tape k1 kx82 post nf39 (0 : Int32) l3_76) ∧ (((skB k1).getD l3.toNatClampNeg 0) = (M_tape ((sM 19) + l3).toNatClampNeg) → ∀ l3_76 : Int32, l3_76 = (l3 + (1 : Int32)) → wpX11_is_L39 sM M_tape k1 kx82 post nf39 (1 : Int32) l3_76))))))
def wpX11_is (sM : AR) (M_tape : AR) (k1 : Nat) (post : Int32 → Prop) : Prop := ((¬ (sM 21) = 0 → ∃ nf39 : Nat, wpX11_is_L39 sM M_tape k1 (fun l2_82 l3_82 => narrow .boolean (.int l2_82) = .int l2_82 ∧ post l2_82) post nf39 (0 : Int32) (0 : Int32)) ∧ ((sM 21) = 0 → ((¬ (sM 17) = (1 : Int32) → ∃ nf39 : Nat, wpX11_is_L39 sM M_tape k1 (fun l2_82 l3_82 => narrow .boolean (.int l2_82) = .int l2_82 ∧ post l2_82) post nf39 (0 : Int32) (0 : Int32)) ∧ ((sM 17) = (1 : Int32) → k1 < 50 ∧ ((¬ (nI (skB k1).length) = ((sM 20) - (sM 19)) → ∃ nf39 : Nat, wpX11_is_L39 sM M_tape k1 (fun l2_82 l3_82 => narrow .boolean (.int l2_82) = .int l2_82 ∧ post l2_82) post nf39 (0 : Int32) (0 : Int32)) ∧ ((nI (skB k1).length) = ((sM 20) - (sM 19)) → ∃ nf39 : Nat, wpX11_is_L39 sM M_tape k1 (fun l2_82 l3_82 => narrow .boolean (.int l2_82) = .int l2_82 ∧ post l2_82) post nf39 (1 : Int32) (0 : Int32)))))))
set_option maxHeartbeats 4000000 in
set_option maxRecDepth 100000 in
theorem ctX11_is (l : Launch) (D : va_G) (cy : Nat → ClassId) (ev : Nat → Nat) (h0 : Nat) (rM : Nat → Nat) (sM : AR) (M_tape : AR) (k1 : Nat) (sz : Nat) (post : Int32 → Prop) (h : wpX11_is sM M_tape k1 post) : Met l yX11_is (Cond.code yX11_is cX11_is 4 (some .boolean) :: TB) ({ frames := 4, cells := 0, slots := 0, locals := 200 }) (va_Pc [.ref h0, .ref (ev (2 * k1))] (PreX D cy ev [(h0, .inr (11, oX11 rM sM)), ((rM 13), .inl (cy 0, 500, .inl M_tape))] sz)) (va_Qi (fun (r : Int32) (u : Unit) => post r) (fun u => BkX D cy [(h0, .inr (11, oX11 rM sM)), ((rM 13), .inl (cy 0, 500, .inl M_tape))] sz [(h0, .inr (11, oX11 rM sM)), ((rM 13), .inl (cy 0, 500, .inl M_tape))]) (va_A [(h0, .inr (11, oX11 rM sM)), ((rM 13), .inl (cy 0, 500, .inl M_tape))] sz)) 0 0 (va_A [(h0, .inr (11, oX11 rM sM)), ((rM 13), .inl (cy 0, 500, .inl M_tape))] sz) := by
  refine ofWi (by decide) (Nat.le_of_ble_eq_true rfl) ?_
  intro p e s m args below meth c ls A R QQ hx hb hml hown hts hR hlk hE hK hP hD hS hA hl hret
  have hown : s.vm.findClass RX11 = some m.cls := hown
  have hRf : 4 ≤ R.frames := by rw [hR]; exact Nat.le_refl _
  have hRl : 200 ≤ R.locals := by rw [hR]; exact Nat.le_refl _
  clear hR
  have hl : lv_has ls 4 [(0, .ref h0), (1, .ref (ev (2 * k1)))] := hl
  have L39 : ∀ (kx82 : Int32 → Int32 → Prop), (∀ (l2 : Int32) (l3 : Int32) (H : Heap) (locs : List Loc) (ls : Array Slot), kx82 l2 l3 → va_P D clsX [(h0, .inr (11, oX11 rM sM)), ((rM 13), .inl (cy 0, 500, .inl M_tape))] H → va_D A [(h0, .inr (11, oX11 rM sM)), ((rM 13), .inl (cy 0, 500, .inl M_tape))] → va_S A s.heap H locs → lv_has ls 4 [(0, .ref h0), (1, .ref (ev (2 * k1))), (2, .int l2)] → W p l e R s m args below meth c H locs 0 0 QQ (F0 m 82 ls [])) → ∀ (nf39 : Nat) (l2 : Int32) (l3 : Int32) (H : Heap) (locs : List Loc) (ls : Array Slot), wpX11_is_L39 sM M_tape k1 kx82 post nf39 l2 l3 → va_P D clsX [(h0, .inr (11, oX11 rM sM)), ((rM 13), .inl (cy 0, 500, .inl M_tape))] H → va_D A [(h0, .inr (11, oX11 rM sM)), ((rM 13), .inl (cy 0, 500, .inl M_tape))] → va_S A s.heap H locs → lv_has ls 4 [(0, .ref h0), (1, .ref (ev (2 * k1))), (2, .int l2), (3, .int l3)] → W p l e R s m args below meth c H locs 0 0 QQ (F0 m 39 ls []) := by
    intro kx82 hk39_82 nf39
    induction nf39 with
    | zero =>
      intro l2 l3 H locs ls h
      exact (show False from h).elim
    | succ nf39 ih39 =>
      intro l2 l3 H locs ls h hP hD hS hl
      refine lv_iload_n hx hb dX11_is_39 rfl (lv_at hl 2 rfl) ?_
      refine lv_if_eq (tgt := 82) hx hb dX11_is_40 (by decide) (fun c40 => ?_) (fun c40 => ?_)
      · have h := h.1 c40
        exact hk39_82 l2 l3 _ _ _ h hP hD hS (lv_sub hl [0, 1, 2] rfl)
      · have h := h.2 c40
        refine lv_iload_n hx hb dX11_is_43 rfl (lv_at hl 3 rfl) ?_
        refine lv_aload_n hx hb dX11_is_44 rfl (lv_at hl 1 rfl) ?_
        obtain ⟨hk, h⟩ := h
        refine strlen hx hb (hml.trans hl.1.symm) hts hown mw1386 hE hK hP hD hS hA hk rfl (Nat.le_trans (by decide) hRf) (Nat.le_trans (by decide) hRl) (Nat.le_of_ble_eq_true rfl) ⟨Nat.zero_le _, Nat.zero_le _⟩ dX11_is_45 (fun H locs hP hD hS => ?_)
        refine lv_icmp_ge (tgt := 82) hx hb dX11_is_48 (by decide) (fun c48 => ?_) (fun c48 => ?_)
        · have h := h.1 c48
          exact hk39_82 l2 l3 _ _ _ h hP hD hS (lv_sub hl [0, 1, 2] rfl)
        · have h := h.2 c48
          refine lv_aload_n hx hb dX11_is_51 rfl (lv_at hl 1 rfl) ?_
          refine lv_iload_n hx hb dX11_is_52 rfl (lv_at hl 3 rfl) ?_
          obtain ⟨hk, h⟩ := h
          obtain ⟨hin, h⟩ := h
          refine strchr hx hb (hml.trans hl.1.symm) hts hown mw1387 hE hK hP hD hS hA hk hin rfl (Nat.le_trans (by decide) hRf) (Nat.le_trans (by decide) hRl) (Nat.le_of_ble_eq_true rfl) ⟨Nat.zero_le _, Nat.zero_le _⟩ dX11_is_53 (fun H locs hP hD hS => ?_)
          refine lv_aload_n hx hb dX11_is_56 rfl (lv_at hl 0 rfl) ?_
          refine gfX11_68 hx hb hts hown hK hP 0 rfl dX11_is_57 ?_
          refine lv_aload_n hx hb dX11_is_60 rfl (lv_at hl 0 rfl) ?_
          refine gfX11_156 (v := (sM 19)) hx hb hts hown hK hP 0 rfl rfl dX11_is_61 ?_
          refine lv_iload_n hx hb dX11_is_64 rfl (lv_at hl 3 rfl) ?_
          refine lv_iadd hx hb dX11_is_65 ?_
          obtain ⟨hin, h⟩ := h
          refine ldi (k := ((sM 19) + l3).toNatClampNeg) hx hb hK hP 1 rfl hin rfl dX11_is_66 ?_
          refine lv_icmp_ne (tgt := 74) hx hb dX11_is_67 (by decide) (fun c67 => ?_) (fun c67 => ?_)
          · have h := h.1 c67
            refine lv_iconst (v := (0 : Int32)) hx hb dX11_is_74 (by decide) ?_
            refine lv_istore_n (lv' := [(2, .int (0 : Int32)), (0, .ref h0), (1, .ref (ev (2 * k1))), (3, .int l3)]) hx hb dX11_is_75 rfl hl (by decide) rfl (fun ls hl => ?_)
            obtain ⟨l3_76, el3_76⟩ : ∃ y : Int32, y = l3 + (1 : Int32) := ⟨_, rfl⟩
            have h := h l3_76 el3_76
            refine lv_iinc (v := l3_76) (lv' := [(3, .int l3_76), (2, .int (0 : Int32)), (0, .ref h0), (1, .ref (ev (2 * k1)))]) hx hb dX11_is_76 hl (k := 3) rfl (by rw [el3_76]; rfl) (by decide) rfl (fun ls hl => ?_)
            refine lv_goto (tgt := 39) hx hb dX11_is_79 (by decide) ?_
            exact ih39 (0 : Int32) l3_76 _ _ _ h hP hD hS (lv_sub hl [2, 3, 1, 0] rfl)
          · have h := h.2 c67
            refine lv_iconst (v := (1 : Int32)) hx hb dX11_is_70 (by decide) ?_
            refine lv_goto (tgt := 75) hx hb dX11_is_71 (by decide) ?_
            refine lv_istore_n (lv' := [(2, .int (1 : Int32)), (0, .ref h0), (1, .ref (ev (2 * k1))), (3, .int l3)]) hx hb dX11_is_75 rfl hl (by decide) rfl (fun ls hl => ?_)
            obtain ⟨l3_76, el3_76⟩ : ∃ y : Int32, y = l3 + (1 : Int32) := ⟨_, rfl⟩
            have h := h l3_76 el3_76
            refine lv_iinc (v := l3_76) (lv' := [(3, .int l3_76), (2, .int (1 : Int32)), (0, .ref h0), (1, .ref (ev (2 * k1)))]) hx hb dX11_is_76 hl (k := 3) rfl (by rw [el3_76]; rfl) (by decide) rfl (fun ls hl => ?_)
            refine lv_goto (tgt := 39) hx hb dX11_is_79 (by decide) ?_
            exact ih39 (1 : Int32) l3_76 _ _ _ h hP hD hS (lv_sub hl [2, 3, 1, 0] rfl)
  refine lv_aload_n hx hb dX11_is_0 rfl (lv_at hl 0 rfl) ?_
  refine gfX11_181 (v := (sM 21)) hx hb hts hown hK hP 0 rfl rfl dX11_is_1 ?_
  refine lv_if_ne (tgt := 35) hx hb dX11_is_4 (by decide) (fun c4 => ?_) (fun c4 => ?_)
  · have h := h.1 c4
    refine lv_iconst (v := (0 : Int32)) hx hb dX11_is_35 (by decide) ?_
    refine lv_istore_n (lv' := [(2, .int (0 : Int32)), (0, .ref h0), (1, .ref (ev (2 * k1)))]) hx hb dX11_is_36 rfl hl (by decide) rfl (fun ls hl => ?_)
    refine lv_iconst (v := (0 : Int32)) hx hb dX11_is_37 (by decide) ?_
    refine lv_istore_n (lv' := [(3, .int (0 : Int32)), (2, .int (0 : Int32)), (0, .ref h0), (1, .ref (ev (2 * k1)))]) hx hb dX11_is_38 rfl hl (by decide) rfl (fun ls hl => ?_)
    obtain ⟨nf39, h⟩ := h
    refine L39  _ (fun l2_82 l3_82 H locs ls h hP hD hS hl => ?_) nf39 (0 : Int32) (0 : Int32) _ _ _ h hP hD hS (lv_sub hl [2, 3, 1, 0] rfl)
    refine lv_iload_n hx hb dX11_is_82 rfl (lv_at hl 2 rfl) ?_
    obtain ⟨hz, h⟩ := h
    exact hret l2_82 () _ _ _ _ hz dX11_is_83 h hP hD hS
  · have h := h.2 c4
    refine lv_aload_n hx hb dX11_is_7 rfl (lv_at hl 0 rfl) ?_
    refine gfX11_159 (v := (sM 17)) hx hb hts hown hK hP 0 rfl rfl dX11_is_8 ?_
    refine lv_iconst (v := (1 : Int32)) hx hb dX11_is_11 (by decide) ?_
    refine lv_icmp_ne (tgt := 35) hx hb dX11_is_12 (by decide) (fun c12 => ?_) (fun c12 => ?_)
    · have h := h.1 c12
      refine lv_iconst (v := (0 : Int32)) hx hb dX11_is_35 (by decide) ?_
      refine lv_istore_n (lv' := [(2, .int (0 : Int32)), (0, .ref h0), (1, .ref (ev (2 * k1)))]) hx hb dX11_is_36 rfl hl (by decide) rfl (fun ls hl => ?_)
      refine lv_iconst (v := (0 : Int32)) hx hb dX11_is_37 (by decide) ?_
      refine lv_istore_n (lv' := [(3, .int (0 : Int32)), (2, .int (0 : Int32)), (0, .ref h0), (1, .ref (ev (2 * k1)))]) hx hb dX11_is_38 rfl hl (by decide) rfl (fun ls hl => ?_)
      obtain ⟨nf39, h⟩ := h
      refine L39  _ (fun l2_82 l3_82 H locs ls h hP hD hS hl => ?_) nf39 (0 : Int32) (0 : Int32) _ _ _ h hP hD hS (lv_sub hl [2, 3, 1, 0] rfl)
      refine lv_iload_n hx hb dX11_is_82 rfl (lv_at hl 2 rfl) ?_
      obtain ⟨hz, h⟩ := h
      exact hret l2_82 () _ _ _ _ hz dX11_is_83 h hP hD hS
    · have h := h.2 c12
      refine lv_aload_n hx hb dX11_is_15 rfl (lv_at hl 1 rfl) ?_
      obtain ⟨hk, h⟩ := h
      refine strlen hx hb (hml.trans hl.1.symm) hts hown mw1386 hE hK hP hD hS hA hk rfl (Nat.le_trans (by decide) hRf) (Nat.le_trans (by decide) hRl) (Nat.le_of_ble_eq_true rfl) ⟨Nat.zero_le _, Nat.zero_le _⟩ dX11_is_16 (fun H locs hP hD hS => ?_)
      refine lv_aload_n hx hb dX11_is_19 rfl (lv_at hl 0 rfl) ?_
      refine gfX11_178 (v := (sM 20)) hx hb hts hown hK hP 0 rfl rfl dX11_is_20 ?_
      refine lv_aload_n hx hb dX11_is_23 rfl (lv_at hl 0 rfl) ?_
      refine gfX11_156 (v := (sM 19)) hx hb hts hown hK hP 0 rfl rfl dX11_is_24 ?_
      refine lv_isub hx hb dX11_is_27 ?_
      refine lv_icmp_ne (tgt := 35) hx hb dX11_is_28 (by decide) (fun c28 => ?_) (fun c28 => ?_)
      · have h := h.1 c28
        refine lv_iconst (v := (0 : Int32)) hx hb dX11_is_35 (by decide) ?_
        refine lv_istore_n (lv' := [(2, .int (0 : Int32)), (0, .ref h0), (1, .ref (ev (2 * k1)))]) hx hb dX11_is_36 rfl hl (by decide) rfl (fun ls hl => ?_)
        refine lv_iconst (v := (0 : Int32)) hx hb dX11_is_37 (by decide) ?_
        refine lv_istore_n (lv' := [(3, .int (0 : Int32)), (2, .int (0 : Int32)), (0, .ref h0), (1, .ref (ev (2 * k1)))]) hx hb dX11_is_38 rfl hl (by decide) rfl (fun ls hl => ?_)
        obtain ⟨nf39, h⟩ := h
        refine L39  _ (fun l2_82 l3_82 H locs ls h hP hD hS hl => ?_) nf39 (0 : Int32) (0 : Int32) _ _ _ h hP hD hS (lv_sub hl [2, 3, 1, 0] rfl)
        refine lv_iload_n hx hb dX11_is_82 rfl (lv_at hl 2 rfl) ?_
        obtain ⟨hz, h⟩ := h
        exact hret l2_82 () _ _ _ _ hz dX11_is_83 h hP hD hS
      · have h := h.2 c28
        refine lv_iconst (v := (1 : Int32)) hx hb dX11_is_31 (by decide) ?_
        refine lv_goto (tgt := 36) hx hb dX11_is_32 (by decide) ?_
        refine lv_istore_n (lv' := [(2, .int (1 : Int32)), (0, .ref h0), (1, .ref (ev (2 * k1)))]) hx hb dX11_is_36 rfl hl (by decide) rfl (fun ls hl => ?_)
        refine lv_iconst (v := (0 : Int32)) hx hb dX11_is_37 (by decide) ?_
        refine lv_istore_n (lv' := [(3, .int (0 : Int32)), (2, .int (1 : Int32)), (0, .ref h0), (1, .ref (ev (2 * k1)))]) hx hb dX11_is_38 rfl hl (by decide) rfl (fun ls hl => ?_)
        obtain ⟨nf39, h⟩ := h
        refine L39  _ (fun l2_82 l3_82 H locs ls h hP hD hS hl => ?_) nf39 (1 : Int32) (0 : Int32) _ _ _ h hP hD hS (lv_sub hl [2, 3, 1, 0] rfl)
        refine lv_iload_n hx hb dX11_is_82 rfl (lv_at hl 2 rfl) ?_
        obtain ⟨hz, h⟩ := h
        exact hret l2_82 () _ _ _ _ hz dX11_is_83 h hP hD hS
def wpX11_passes (sM : AR) (M_tape : AR) (k1 : Nat) (post : Int32 → AR → Prop) : Prop := wpX11_is sM M_tape k1 (fun r2 => ((r2 = 0 → narrow .boolean (.int r2) = .int r2 ∧ post r2 sM) ∧ (¬ r2 = 0 → wpX11_stepOn sM M_tape (fun sM_11 => narrow .boolean (.int r2) = .int r2 ∧ post r2 sM_11))))
set_option maxHeartbeats 4000000 in
set_option maxRecDepth 100000 in
theorem ctX11_passes (l : Launch) (D : va_G) (cy : Nat → ClassId) (ev : Nat → Nat) (h0 : Nat) (rM : Nat → Nat) (sM : AR) (M_tape : AR) (k1 : Nat) (sz : Nat) (post : Int32 → AR → Prop) (h : wpX11_passes sM M_tape k1 post) : Met l yX11_passes (Cond.code yX11_passes cX11_passes 3 (some .boolean) :: TB) ({ frames := 5, cells := 0, slots := 0, locals := 223 }) (va_Pc [.ref h0, .ref (ev (2 * k1))] (PreX D cy ev [(h0, .inr (11, oX11 rM sM)), ((rM 13), .inl (cy 0, 500, .inl M_tape))] sz)) (va_Qi (fun (r : Int32) (u : AR) => post r u) (fun u => BkX D cy [(h0, .inr (11, oX11 rM sM)), ((rM 13), .inl (cy 0, 500, .inl M_tape))] sz [(h0, .inr (11, oX11 rM u)), ((rM 13), .inl (cy 0, 500, .inl M_tape))]) (va_A [(h0, .inr (11, oX11 rM sM)), ((rM 13), .inl (cy 0, 500, .inl M_tape))] sz)) 0 0 (va_A [(h0, .inr (11, oX11 rM sM)), ((rM 13), .inl (cy 0, 500, .inl M_tape))] sz) := by
  refine ofWi (by decide) (Nat.le_of_ble_eq_true rfl) ?_
  intro p e s m args below meth c ls A R QQ hx hb hml hown hts hR hlk hE hK hP hD hS hA hl hret
  have hown : s.vm.findClass RX11 = some m.cls := hown
  have hRf : 5 ≤ R.frames := by rw [hR]; exact Nat.le_refl _
  have hRl : 223 ≤ R.locals := by rw [hR]; exact Nat.le_refl _
  clear hR
  have hl : lv_has ls 3 [(0, .ref h0), (1, .ref (ev (2 * k1)))] := hl
  refine lv_aload_n hx hb dX11_passes_0 rfl (lv_at hl 0 rfl) ?_
  refine lv_aload_n hx hb dX11_passes_1 rfl (lv_at hl 1 rfl) ?_
  refine clVi (As := [.ref (ev (2 * k1))]) (rest := []) (Wr := []) (cq := (RX11, TX11, 56)) ⟨hx, hb, hml, hown, hts⟩ ⟨callB_of 1 hts (goodC mw1385) rfl rfl rfl (hts _ (tb mw15)) (hts _ (tb mw1382)) kdX11_is ⟨Nat.le_trans (by decide) hRf, Nat.le_trans (by decide) hRl⟩, hts _ (tb mw1384), hts _ (tb ms44)⟩ (ctX11_is l D cy ev h0 rM sM M_tape k1  _ _ h) hE hK hP hD hS hA [0, 1] [] rfl rfl (by decide) (by decide) (by decide) 0 rfl rfl rfl hl.1 rfl (Nat.le_of_ble_eq_true rfl) ⟨Nat.zero_le _, Nat.zero_le _⟩ dX11_passes_2 (fun r2 u H locs h hP hD hS => ?_)
  have hP : va_P D clsX [(h0, .inr (11, oX11 rM sM)), ((rM 13), .inl (cy 0, 500, .inl M_tape))] H := hP
  have hD : va_D A [(h0, .inr (11, oX11 rM sM)), ((rM 13), .inl (cy 0, 500, .inl M_tape))] := hD
  refine lv_istore_n (lv' := [(2, .int r2), (0, .ref h0), (1, .ref (ev (2 * k1)))]) hx hb dX11_passes_5 rfl hl (by decide) rfl (fun ls hl => ?_)
  refine lv_iload_n hx hb dX11_passes_6 rfl (lv_at hl 0 rfl) ?_
  refine lv_if_eq (tgt := 14) hx hb dX11_passes_7 (by decide) (fun c7 => ?_) (fun c7 => ?_)
  · have h := h.1 c7
    refine lv_iload_n hx hb dX11_passes_14 rfl (lv_at hl 0 rfl) ?_
    obtain ⟨hz, h⟩ := h
    exact hret r2 (sM) _ _ _ _ hz dX11_passes_15 h hP hD hS
  · have h := h.2 c7
    refine lv_aload_n hx hb dX11_passes_10 rfl (lv_at hl 1 rfl) ?_
    refine clVv (As := []) (rest := []) (Wr := []) (cq := (RX11, TX11, 56)) ⟨hx, hb, hml, hown, hts⟩ ⟨callB_of 0 hts (goodC mw1358) rfl rfl rfl (hts _ (tb mw15)) (hts _ (tb mw1355)) kdX11_stepOn ⟨Nat.le_trans (by decide) hRf, Nat.le_trans (by decide) hRl⟩, hts _ (tb mw1357), hts _ (tb ms39)⟩ (ctX11_stepOn l D cy ev h0 rM sM M_tape  _ _ h) hE hK hP hD hS hA [0, 1] [] rfl rfl (by decide) (by decide) (by decide) 0 rfl rfl rfl hl.1 rfl (Nat.le_of_ble_eq_true rfl) ⟨Nat.zero_le _, Nat.zero_le _⟩ dX11_passes_11 (fun sM_11 H locs h hP hD hS => ?_)
    have hP : va_P D clsX [(h0, .inr (11, oX11 rM sM_11)), ((rM 13), .inl (cy 0, 500, .inl M_tape))] H := hP
    have hD : va_D A [(h0, .inr (11, oX11 rM sM_11)), ((rM 13), .inl (cy 0, 500, .inl M_tape))] := hD
    refine lv_iload_n hx hb dX11_passes_14 rfl (lv_at hl 0 rfl) ?_
    obtain ⟨hz, h⟩ := h
    exact hret r2 (sM_11) _ _ _ _ hz dX11_passes_15 h hP hD hS
def wpX11_which_L2 (sM : AR) (M_tape : AR) (b1 : Nat) (n1 : Nat) (kx26 : Int32 → Prop) (post : Int32 → Prop) : Nat → Int32 → Prop
  | 0, _ => False
  | nf2 + 1, l2 => (((Int32.ofNat n1) ≤ l2 → kx26 l2) ∧ (¬ (Int32.ofNat n1) ≤ l2 → vp_in l2 n1 ∧ wpX11_is sM M_tape (b1 + l2.toNatClampNeg) (fun r12 => ((r12 = 0 → ∀ l2_20 : Int32, l2_20 = (l2 + (1 : Int32)) → wpX11_which_L2 sM M_tape b1 n1 kx26 post nf2 l2_20) ∧ (¬ r12 = 0 → post l2)))))
def wpX11_which (sM : AR) (M_tape : AR) (b1 : Nat) (n1 : Nat) (post : Int32 → Prop) : Prop := ∃ nf2 : Nat, wpX11_which_L2 sM M_tape b1 n1 (fun l2_26 => post (-1 : Int32)) post nf2 (0 : Int32)
set_option maxHeartbeats 4000000 in
set_option maxRecDepth 100000 in
theorem ctX11_which (l : Launch) (D : va_G) (cy : Nat → ClassId) (ev : Nat → Nat) (h0 : Nat) (a1 : Nat) (rM : Nat → Nat) (sM : AR) (M_tape : AR) (b1 : Nat) (n1 : Nat) (sz : Nat) (post : Int32 → Prop) (h : wpX11_which sM M_tape b1 n1 post) : Met l yX11_which (Cond.code yX11_which cX11_which 3 (some .int) :: TB) ({ frames := 5, cells := 0, slots := 0, locals := 223 }) (va_Pc [.ref h0, .ref a1] (PreX D cy ev [(h0, .inr (11, oX11 rM sM)), ((rM 13), .inl (cy 0, 500, .inl M_tape)), (a1, .inl (cy 5, n1, .inr (.inr (.inr (.inr (fun i => some (ev (2 * (b1 + i)))))))))] sz)) (va_Qi (fun (r : Int32) (u : Unit) => post r) (fun u => BkX D cy [(h0, .inr (11, oX11 rM sM)), ((rM 13), .inl (cy 0, 500, .inl M_tape)), (a1, .inl (cy 5, n1, .inr (.inr (.inr (.inr (fun i => some (ev (2 * (b1 + i)))))))))] sz [(h0, .inr (11, oX11 rM sM)), ((rM 13), .inl (cy 0, 500, .inl M_tape)), (a1, .inl (cy 5, n1, .inr (.inr (.inr (.inr (fun i => some (ev (2 * (b1 + i)))))))))]) (va_A [(h0, .inr (11, oX11 rM sM)), ((rM 13), .inl (cy 0, 500, .inl M_tape)), (a1, .inl (cy 5, n1, .inr (.inr (.inr (.inr (fun i => some (ev (2 * (b1 + i)))))))))] sz)) 0 0 (va_A [(h0, .inr (11, oX11 rM sM)), ((rM 13), .inl (cy 0, 500, .inl M_tape)), (a1, .inl (cy 5, n1, .inr (.inr (.inr (.inr (fun i => some (ev (2 * (b1 + i)))))))))] sz) := by
  refine ofWi (by decide) (Nat.le_of_ble_eq_true rfl) ?_
  intro p e s m args below meth c ls A R QQ hx hb hml hown hts hR hlk hE hK hP hD hS hA hl hret
  have hown : s.vm.findClass RX11 = some m.cls := hown
  have hRf : 5 ≤ R.frames := by rw [hR]; exact Nat.le_refl _
  have hRl : 223 ≤ R.locals := by rw [hR]; exact Nat.le_refl _
  clear hR
  have hl : lv_has ls 3 [(0, .ref h0), (1, .ref a1)] := hl
  have L2 : ∀ (kx26 : Int32 → Prop), (∀ (l2 : Int32) (H : Heap) (locs : List Loc) (ls : Array Slot), kx26 l2 → va_P D clsX [(h0, .inr (11, oX11 rM sM)), ((rM 13), .inl (cy 0, 500, .inl M_tape)), (a1, .inl (cy 5, n1, .inr (.inr (.inr (.inr (fun i => some (ev (2 * (b1 + i)))))))))] H → va_D A [(h0, .inr (11, oX11 rM sM)), ((rM 13), .inl (cy 0, 500, .inl M_tape)), (a1, .inl (cy 5, n1, .inr (.inr (.inr (.inr (fun i => some (ev (2 * (b1 + i)))))))))] → va_S A s.heap H locs → lv_has ls 3 [(0, .ref h0), (1, .ref a1)] → W p l e R s m args below meth c H locs 0 0 QQ (F0 m 26 ls [])) → ∀ (nf2 : Nat) (l2 : Int32) (H : Heap) (locs : List Loc) (ls : Array Slot), wpX11_which_L2 sM M_tape b1 n1 kx26 post nf2 l2 → va_P D clsX [(h0, .inr (11, oX11 rM sM)), ((rM 13), .inl (cy 0, 500, .inl M_tape)), (a1, .inl (cy 5, n1, .inr (.inr (.inr (.inr (fun i => some (ev (2 * (b1 + i)))))))))] H → va_D A [(h0, .inr (11, oX11 rM sM)), ((rM 13), .inl (cy 0, 500, .inl M_tape)), (a1, .inl (cy 5, n1, .inr (.inr (.inr (.inr (fun i => some (ev (2 * (b1 + i)))))))))] → va_S A s.heap H locs → lv_has ls 3 [(0, .ref h0), (1, .ref a1), (2, .int l2)] → W p l e R s m args below meth c H locs 0 0 QQ (F0 m 2 ls []) := by
    intro kx26 hk2_26 nf2
    induction nf2 with
    | zero =>
      intro l2 H locs ls h
      exact (show False from h).elim
    | succ nf2 ih2 =>
      intro l2 H locs ls h hP hD hS hl
      refine lv_iload_n hx hb dX11_which_2 rfl (lv_at hl 2 rfl) ?_
      refine lv_aload_n hx hb dX11_which_3 rfl (lv_at hl 1 rfl) ?_
      refine va_alen hx hb hK hP 2 5 rfl rfl rfl dX11_which_4 ?_
      refine lv_icmp_ge (tgt := 26) hx hb dX11_which_5 (by decide) (fun c5 => ?_) (fun c5 => ?_)
      · have h := h.1 c5
        exact hk2_26 l2 _ _ _ h hP hD hS (lv_sub hl [0, 1] rfl)
      · have h := h.2 c5
        refine lv_aload_n hx hb dX11_which_8 rfl (lv_at hl 0 rfl) ?_
        refine lv_aload_n hx hb dX11_which_9 rfl (lv_at hl 1 rfl) ?_
        refine lv_iload_n hx hb dX11_which_10 rfl (lv_at hl 2 rfl) ?_
        obtain ⟨hin, h⟩ := h
        refine va_aldq hx hb hK hP 2 5 rfl rfl hin dX11_which_11 ?_
        refine clVi (As := [.ref (ev (2 * (b1 + l2.toNatClampNeg)))]) (rest := []) (Wr := [(a1, .inl (cy 5, n1, .inr (.inr (.inr (.inr (fun i => some (ev (2 * (b1 + i)))))))))]) (cq := (RX11, TX11, 56)) ⟨hx, hb, hml, hown, hts⟩ ⟨callB_of 1 hts (goodC mw1385) rfl rfl rfl (hts _ (tb mw15)) (hts _ (tb mw1382)) kdX11_is ⟨Nat.le_trans (by decide) hRf, Nat.le_trans (by decide) hRl⟩, hts _ (tb mw1384), hts _ (tb ms44)⟩ (ctX11_is l D cy ev h0 rM sM M_tape (b1 + l2.toNatClampNeg)  _ _ h) hE hK hP hD hS hA [0, 1] [2] rfl rfl (by decide) (by decide) (by decide) 0 rfl rfl rfl hl.1 rfl (Nat.le_of_ble_eq_true rfl) ⟨Nat.zero_le _, Nat.zero_le _⟩ dX11_which_12 (fun r12 u H locs h hP hD hS => ?_)
        have hP : va_P D clsX [(a1, .inl (cy 5, n1, .inr (.inr (.inr (.inr (fun i => some (ev (2 * (b1 + i))))))))), (h0, .inr (11, oX11 rM sM)), ((rM 13), .inl (cy 0, 500, .inl M_tape))] H := hP
        have hD : va_D A [(a1, .inl (cy 5, n1, .inr (.inr (.inr (.inr (fun i => some (ev (2 * (b1 + i))))))))), (h0, .inr (11, oX11 rM sM)), ((rM 13), .inl (cy 0, 500, .inl M_tape))] := hD
        refine lv_if_eq (tgt := 20) hx hb dX11_which_15 (by decide) (fun c15 => ?_) (fun c15 => ?_)
        · have h := h.1 c15
          obtain ⟨l2_20, el2_20⟩ : ∃ y : Int32, y = l2 + (1 : Int32) := ⟨_, rfl⟩
          have h := h l2_20 el2_20
          refine lv_iinc (v := l2_20) (lv' := [(2, .int l2_20), (0, .ref h0), (1, .ref a1)]) hx hb dX11_which_20 hl (k := 2) rfl (by rw [el2_20]; rfl) (by decide) rfl (fun ls hl => ?_)
          refine lv_goto (tgt := 2) hx hb dX11_which_23 (by decide) ?_
          exact ih2 l2_20 _ _ _ h (hP.sub [1, 2, 0] rfl) (hD.sub [1, 2, 0] (by decide) rfl) hS (lv_sub hl [1, 2, 0] rfl)
        · have h := h.2 c15
          refine lv_iload_n hx hb dX11_which_18 rfl (lv_at hl 2 rfl) ?_
          exact hret l2 () _ _ _ _ rfl dX11_which_19 h (hP.sub [1, 2, 0] rfl) (hD.sub [1, 2, 0] (by decide) rfl) hS
  refine lv_iconst (v := (0 : Int32)) hx hb dX11_which_0 (by decide) ?_
  refine lv_istore_n (lv' := [(2, .int (0 : Int32)), (0, .ref h0), (1, .ref a1)]) hx hb dX11_which_1 rfl hl (by decide) rfl (fun ls hl => ?_)
  obtain ⟨nf2, h⟩ := h
  refine L2  _ (fun l2_26 H locs ls h hP hD hS hl => ?_) nf2 (0 : Int32) _ _ _ h hP hD hS (lv_sub hl [1, 2, 0] rfl)
  refine lv_iconst (v := (-1 : Int32)) hx hb dX11_which_26 (by decide) ?_
  exact hret (-1 : Int32) () _ _ _ _ rfl dX11_which_27 h hP hD hS
def wpX11_readTower_L81 (M_told : AR) (M_place : AR) (M_range : AR) (M_voice : AR) (M_read : AR) (M_isFalse : AR) (M_tape : AR) (l1 : Int32) (l3 : Int32) (kx116 : AR → Int32 → Prop) (post : AR → AR → AR → AR → AR → AR → AR → Prop) : Nat → AR → Int32 → Prop
  | 0, _, _ => False
  | nf81 + 1, sM, l4 => ((l1 ≤ l4 → kx116 sM l4) ∧ (¬ l1 ≤ l4 → ((¬ (sM 21) = 0 → kx116 sM l4) ∧ ((sM 21) = 0 → vp_in l4 10 ∧ ((¬ (M_place l4.toNatClampNeg) = l3 → ∀ l4_110 : Int32, l4_110 = (l4 + (1 : Int32)) → wpX11_readTower_L81 M_told M_place M_range M_voice M_read M_isFalse M_tape l1 l3 kx116 post nf81 sM l4_110) ∧ ((M_place l4.toNatClampNeg) = l3 → wpX11_wrong sM (4 : Int32) (fun sM_107 => ∀ l4_110 : Int32, l4_110 = (l4 + (1 : Int32)) → wpX11_readTower_L81 M_told M_place M_range M_voice M_read M_isFalse M_tape l1 l3 kx116 post nf81 sM_107 l4_110)))))))
def wpX11_readTower_J195 (sM : AR) (M_told : AR) (M_place : AR) (M_range : AR) (M_voice : AR) (M_read : AR) (M_isFalse : AR) (M_tape : AR) (l1 : Int32) (t1 : Int32) (t2 : Int32) (post : AR → AR → AR → AR → AR → AR → AR → Prop) : Prop := vp_in t1 29 ∧ ∀ M_read_195 : AR, M_read_195 = upd M_read t1.toNatClampNeg t2 → wpX11_passes sM M_tape 46 (fun r204 sM_204 => vp_in l1 10 ∧ ∀ M_isFalse_207 : AR, M_isFalse_207 = upd M_isFalse l1.toNatClampNeg (vp_nar .boolean r204) → ∀ M_told_218 : AR, M_told_218 = upd M_told 9 ((M_told 9) + (1 : Int32)) → post sM_204 M_told_218 M_place M_range M_voice M_read_195 M_isFalse_207)
def wpX11_readTower_J116 (sM : AR) (M_told : AR) (M_place : AR) (M_range : AR) (M_voice : AR) (M_read : AR) (M_isFalse : AR) (M_tape : AR) (l1 : Int32) (l3 : Int32) (post : AR → AR → AR → AR → AR → AR → AR → Prop) : Prop := (((sM 21) = 0 → wpX11_stepOn sM M_tape (fun sM_125 => vp_in l1 10 ∧ ∀ M_place_134 : AR, M_place_134 = upd M_place l1.toNatClampNeg l3 → wpX11_readNumber sM_125 M_tape (1 : Int32) (20 : Int32) (fun r144 sM_144 => vp_in l1 10 ∧ ∀ M_range_147 : AR, M_range_147 = upd M_range l1.toNatClampNeg r144 → wpX11_readNumber sM_144 M_tape (0 : Int32) (3 : Int32) (fun r156 sM_156 => vp_in l1 10 ∧ ∀ M_voice_159 : AR, M_voice_159 = upd M_voice l1.toNatClampNeg r156 → wpX11_passes sM_156 M_tape 45 (fun r177 sM_177 => ((r177 = 0 → wpX11_readTower_J195 sM_177 M_told M_place_134 M_range_147 M_voice_159 M_read M_isFalse M_tape l1 ((24 : Int32) + (M_told 9)) (99 : Int32) post) ∧ (¬ r177 = 0 → wpX11_readNumber sM_177 M_tape (1 : Int32) (99 : Int32) (fun r187 sM_187 => wpX11_readTower_J195 sM_187 M_told M_place_134 M_range_147 M_voice_159 M_read M_isFalse M_tape l1 ((24 : Int32) + (M_told 9)) r187 post)))))))) ∧ (¬ (sM 21) = 0 → post sM M_told M_place M_range M_voice M_read M_isFalse))
def wpX11_readTower_J16 (sM : AR) (M_told : AR) (M_place : AR) (M_range : AR) (M_voice : AR) (M_read : AR) (M_isFalse : AR) (M_tape : AR) (post : AR → AR → AR → AR → AR → AR → AR → Prop) : Prop := (((sM 21) = 0 → wpX11_stepOn sM M_tape (fun sM_25 => ∀ l1_37 : Int32, l1_37 = ((5 : Int32) + (M_told 9)) → wpX11_readNumber sM_25 M_tape (0 : Int32) ((M_told 7) - (1 : Int32)) (fun r49 sM_49 => wpX11_numberNow sM_49 (0 : Int32) ((M_told 8) - (1 : Int32)) (fun r71 sM_71 => ∀ l3_77 : Int32, l3_77 = (((M_told 7) * r71) + r49) → ∃ nf81 : Nat, wpX11_readTower_L81 M_told M_place M_range M_voice M_read M_isFalse M_tape l1_37 l3_77 (fun sM_116 l4_116 => wpX11_readTower_J116 sM_116 M_told M_place M_range M_voice M_read M_isFalse M_tape l1_37 l3_77 post) post nf81 sM_71 (5 : Int32))))) ∧ (¬ (sM 21) = 0 → post sM M_told M_place M_range M_voice M_read M_isFalse))
def wpX11_readTower (sM : AR) (M_told : AR) (M_place : AR) (M_range : AR) (M_voice : AR) (M_read : AR) (M_isFalse : AR) (M_tape : AR) (post : AR → AR → AR → AR → AR → AR → AR → Prop) : Prop := ((¬ (M_told 9) = (5 : Int32) → wpX11_readTower_J16 sM M_told M_place M_range M_voice M_read M_isFalse M_tape post) ∧ ((M_told 9) = (5 : Int32) → wpX11_wrong sM (2 : Int32) (fun sM_13 => wpX11_readTower_J16 sM_13 M_told M_place M_range M_voice M_read M_isFalse M_tape post)))
set_option maxHeartbeats 4000000 in
set_option maxRecDepth 100000 in
theorem ctX11_readTower (l : Launch) (D : va_G) (cy : Nat → ClassId) (ev : Nat → Nat) (h0 : Nat) (rM : Nat → Nat) (sM : AR) (M_told : AR) (M_place : AR) (M_range : AR) (M_voice : AR) (M_read : AR) (M_isFalse : AR) (M_tape : AR) (sz : Nat) (post : AR → AR → AR → AR → AR → AR → AR → Prop) (h : wpX11_readTower sM M_told M_place M_range M_voice M_read M_isFalse M_tape post) : Met l yX11_readTower (Cond.code yX11_readTower cX11_readTower 5 none :: TB) ({ frames := 6, cells := 0, slots := 0, locals := 245 }) (va_Pc [.ref h0] (PreX D cy ev [(h0, .inr (11, oX11 rM sM)), ((rM 3), .inl (cy 0, 14, .inl M_told)), ((rM 4), .inl (cy 0, 10, .inl M_place)), ((rM 5), .inl (cy 0, 10, .inl M_range)), ((rM 6), .inl (cy 0, 10, .inl M_voice)), ((rM 9), .inl (cy 0, 29, .inl M_read)), ((rM 11), .inl (cy 2, 10, .inl M_isFalse)), ((rM 13), .inl (cy 0, 500, .inl M_tape))] sz)) (va_Qv (fun (u : AR × AR × AR × AR × AR × AR × AR) => post (u.1) (u.2.1) (u.2.2.1) (u.2.2.2.1) (u.2.2.2.2.1) (u.2.2.2.2.2.1) (u.2.2.2.2.2.2)) (fun u => BkX D cy [(h0, .inr (11, oX11 rM sM)), ((rM 3), .inl (cy 0, 14, .inl M_told)), ((rM 4), .inl (cy 0, 10, .inl M_place)), ((rM 5), .inl (cy 0, 10, .inl M_range)), ((rM 6), .inl (cy 0, 10, .inl M_voice)), ((rM 9), .inl (cy 0, 29, .inl M_read)), ((rM 11), .inl (cy 2, 10, .inl M_isFalse)), ((rM 13), .inl (cy 0, 500, .inl M_tape))] sz [(h0, .inr (11, oX11 rM (u.1))), ((rM 3), .inl (cy 0, 14, .inl (u.2.1))), ((rM 4), .inl (cy 0, 10, .inl (u.2.2.1))), ((rM 5), .inl (cy 0, 10, .inl (u.2.2.2.1))), ((rM 6), .inl (cy 0, 10, .inl (u.2.2.2.2.1))), ((rM 9), .inl (cy 0, 29, .inl (u.2.2.2.2.2.1))), ((rM 11), .inl (cy 2, 10, .inl (u.2.2.2.2.2.2))), ((rM 13), .inl (cy 0, 500, .inl M_tape))]) (va_A [(h0, .inr (11, oX11 rM sM)), ((rM 3), .inl (cy 0, 14, .inl M_told)), ((rM 4), .inl (cy 0, 10, .inl M_place)), ((rM 5), .inl (cy 0, 10, .inl M_range)), ((rM 6), .inl (cy 0, 10, .inl M_voice)), ((rM 9), .inl (cy 0, 29, .inl M_read)), ((rM 11), .inl (cy 2, 10, .inl M_isFalse)), ((rM 13), .inl (cy 0, 500, .inl M_tape))] sz)) 0 0 (va_A [(h0, .inr (11, oX11 rM sM)), ((rM 3), .inl (cy 0, 14, .inl M_told)), ((rM 4), .inl (cy 0, 10, .inl M_place)), ((rM 5), .inl (cy 0, 10, .inl M_range)), ((rM 6), .inl (cy 0, 10, .inl M_voice)), ((rM 9), .inl (cy 0, 29, .inl M_read)), ((rM 11), .inl (cy 2, 10, .inl M_isFalse)), ((rM 13), .inl (cy 0, 500, .inl M_tape))] sz) := by
  refine ofWv (by decide) (Nat.le_of_ble_eq_true rfl) ?_
  intro p e s m args below meth c ls A R QQ hx hb hml hown hts hR hlk hE hK hP hD hS hA hl hret
  have hown : s.vm.findClass RX11 = some m.cls := hown
  have hRf : 6 ≤ R.frames := by rw [hR]; exact Nat.le_refl _
  have hRl : 245 ≤ R.locals := by rw [hR]; exact Nat.le_refl _
  clear hR
  have hl : lv_has ls 5 [(0, .ref h0)] := hl
  have J16 : ∀ (sM : AR) (H : Heap) (locs : List Loc) (ls : Array Slot), wpX11_readTower_J16 sM M_told M_place M_range M_voice M_read M_isFalse M_tape post → va_P D clsX [(h0, .inr (11, oX11 rM sM)), ((rM 3), .inl (cy 0, 14, .inl M_told)), ((rM 4), .inl (cy 0, 10, .inl M_place)), ((rM 5), .inl (cy 0, 10, .inl M_range)), ((rM 6), .inl (cy 0, 10, .inl M_voice)), ((rM 9), .inl (cy 0, 29, .inl M_read)), ((rM 11), .inl (cy 2, 10, .inl M_isFalse)), ((rM 13), .inl (cy 0, 500, .inl M_tape))] H → va_D A [(h0, .inr (11, oX11 rM sM)), ((rM 3), .inl (cy 0, 14, .inl M_told)), ((rM 4), .inl (cy 0, 10, .inl M_place)), ((rM 5), .inl (cy 0, 10, .inl M_range)), ((rM 6), .inl (cy 0, 10, .inl M_voice)), ((rM 9), .inl (cy 0, 29, .inl M_read)), ((rM 11), .inl (cy 2, 10, .inl M_isFalse)), ((rM 13), .inl (cy 0, 500, .inl M_tape))] → va_S A s.heap H locs → lv_has ls 5 [(0, .ref h0)] → W p l e R s m args below meth c H locs 0 0 QQ (F0 m 16 ls []) := by
    intro sM H locs ls h hP hD hS hl
    have J116 : ∀ (sM : AR) (l1 : Int32) (l3 : Int32) (H : Heap) (locs : List Loc) (ls : Array Slot), wpX11_readTower_J116 sM M_told M_place M_range M_voice M_read M_isFalse M_tape l1 l3 post → va_P D clsX [(h0, .inr (11, oX11 rM sM)), ((rM 3), .inl (cy 0, 14, .inl M_told)), ((rM 4), .inl (cy 0, 10, .inl M_place)), ((rM 5), .inl (cy 0, 10, .inl M_range)), ((rM 6), .inl (cy 0, 10, .inl M_voice)), ((rM 9), .inl (cy 0, 29, .inl M_read)), ((rM 11), .inl (cy 2, 10, .inl M_isFalse)), ((rM 13), .inl (cy 0, 500, .inl M_tape))] H → va_D A [(h0, .inr (11, oX11 rM sM)), ((rM 3), .inl (cy 0, 14, .inl M_told)), ((rM 4), .inl (cy 0, 10, .inl M_place)), ((rM 5), .inl (cy 0, 10, .inl M_range)), ((rM 6), .inl (cy 0, 10, .inl M_voice)), ((rM 9), .inl (cy 0, 29, .inl M_read)), ((rM 11), .inl (cy 2, 10, .inl M_isFalse)), ((rM 13), .inl (cy 0, 500, .inl M_tape))] → va_S A s.heap H locs → lv_has ls 5 [(0, .ref h0), (1, .int l1), (3, .int l3)] → W p l e R s m args below meth c H locs 0 0 QQ (F0 m 116 ls []) := by
      intro sM l1 l3 H locs ls h hP hD hS hl
      have J195 : ∀ (sM : AR) (M_place : AR) (M_range : AR) (M_voice : AR) (l1 : Int32) (t1 : Int32) (t2 : Int32) (H : Heap) (locs : List Loc) (ls : Array Slot), wpX11_readTower_J195 sM M_told M_place M_range M_voice M_read M_isFalse M_tape l1 t1 t2 post → va_P D clsX [(h0, .inr (11, oX11 rM sM)), ((rM 3), .inl (cy 0, 14, .inl M_told)), ((rM 4), .inl (cy 0, 10, .inl M_place)), ((rM 5), .inl (cy 0, 10, .inl M_range)), ((rM 6), .inl (cy 0, 10, .inl M_voice)), ((rM 9), .inl (cy 0, 29, .inl M_read)), ((rM 11), .inl (cy 2, 10, .inl M_isFalse)), ((rM 13), .inl (cy 0, 500, .inl M_tape))] H → va_D A [(h0, .inr (11, oX11 rM sM)), ((rM 3), .inl (cy 0, 14, .inl M_told)), ((rM 4), .inl (cy 0, 10, .inl M_place)), ((rM 5), .inl (cy 0, 10, .inl M_range)), ((rM 6), .inl (cy 0, 10, .inl M_voice)), ((rM 9), .inl (cy 0, 29, .inl M_read)), ((rM 11), .inl (cy 2, 10, .inl M_isFalse)), ((rM 13), .inl (cy 0, 500, .inl M_tape))] → va_S A s.heap H locs → lv_has ls 5 [(0, .ref h0), (1, .int l1)] → W p l e R s m args below meth c H locs 0 0 QQ (F0 m 195 ls [.int t2, .int t1, .ref (rM 9)]) := by
        intro sM M_place M_range M_voice l1 t1 t2 H locs ls h hP hD hS hl
        obtain ⟨hin, h⟩ := h
        refine sti (k := t1.toNatClampNeg) (y := t2) hx hb hK hP hD hS 5 rfl hin rfl rfl dX11_readTower_195 (fun M_read_195 eM_read_195 H locs hP hD hS => ?_)
        have h := h M_read_195 eM_read_195
        have hP : va_P D clsX [(h0, .inr (11, oX11 rM sM)), ((rM 3), .inl (cy 0, 14, .inl M_told)), ((rM 4), .inl (cy 0, 10, .inl M_place)), ((rM 5), .inl (cy 0, 10, .inl M_range)), ((rM 6), .inl (cy 0, 10, .inl M_voice)), ((rM 9), .inl (cy 0, 29, .inl M_read_195)), ((rM 11), .inl (cy 2, 10, .inl M_isFalse)), ((rM 13), .inl (cy 0, 500, .inl M_tape))] H := hP
        have hD : va_D A [(h0, .inr (11, oX11 rM sM)), ((rM 3), .inl (cy 0, 14, .inl M_told)), ((rM 4), .inl (cy 0, 10, .inl M_place)), ((rM 5), .inl (cy 0, 10, .inl M_range)), ((rM 6), .inl (cy 0, 10, .inl M_voice)), ((rM 9), .inl (cy 0, 29, .inl M_read_195)), ((rM 11), .inl (cy 2, 10, .inl M_isFalse)), ((rM 13), .inl (cy 0, 500, .inl M_tape))] := hD
        refine lv_aload_n hx hb dX11_readTower_196 rfl (lv_at hl 0 rfl) ?_
        refine gfX11_61 hx hb hts hown hK hP 0 rfl dX11_readTower_197 ?_
        refine lv_iload_n hx hb dX11_readTower_200 rfl (lv_at hl 1 rfl) ?_
        refine lv_aload_n hx hb dX11_readTower_201 rfl (lv_at hl 0 rfl) ?_
        refine va_ldcS hx hb hown (hE.1 46 (by decide)).1 dX11_readTower_202 ?_
        refine clVi (As := [.ref (ev (2 * 46))]) (rest := [.int l1, .ref (rM 11)]) (Wr := [((rM 3), .inl (cy 0, 14, .inl M_told)), ((rM 4), .inl (cy 0, 10, .inl M_place)), ((rM 5), .inl (cy 0, 10, .inl M_range)), ((rM 6), .inl (cy 0, 10, .inl M_voice)), ((rM 9), .inl (cy 0, 29, .inl M_read_195)), ((rM 11), .inl (cy 2, 10, .inl M_isFalse))]) (cq := (RX11, TX11, 56)) ⟨hx, hb, hml, hown, hts⟩ ⟨callB_of 1 hts (goodC mw1420) rfl rfl rfl (hts _ (tb mw15)) (hts _ (tb mw1417)) kdX11_passes ⟨Nat.le_trans (by decide) hRf, Nat.le_trans (by decide) hRl⟩, hts _ (tb mw1419), hts _ (tb ms51)⟩ (ctX11_passes l D cy ev h0 rM sM M_tape 46  _ _ h) hE hK hP hD hS hA [0, 7] [1, 2, 3, 4, 5, 6] rfl rfl (by decide) (by decide) (by decide) 0 rfl rfl rfl hl.1 rfl (Nat.le_of_ble_eq_true rfl) ⟨Nat.zero_le _, Nat.zero_le _⟩ dX11_readTower_204 (fun r204 sM_204 H locs h hP hD hS => ?_)
        have hP : va_P D clsX [((rM 3), .inl (cy 0, 14, .inl M_told)), ((rM 4), .inl (cy 0, 10, .inl M_place)), ((rM 5), .inl (cy 0, 10, .inl M_range)), ((rM 6), .inl (cy 0, 10, .inl M_voice)), ((rM 9), .inl (cy 0, 29, .inl M_read_195)), ((rM 11), .inl (cy 2, 10, .inl M_isFalse)), (h0, .inr (11, oX11 rM sM_204)), ((rM 13), .inl (cy 0, 500, .inl M_tape))] H := hP
        have hD : va_D A [((rM 3), .inl (cy 0, 14, .inl M_told)), ((rM 4), .inl (cy 0, 10, .inl M_place)), ((rM 5), .inl (cy 0, 10, .inl M_range)), ((rM 6), .inl (cy 0, 10, .inl M_voice)), ((rM 9), .inl (cy 0, 29, .inl M_read_195)), ((rM 11), .inl (cy 2, 10, .inl M_isFalse)), (h0, .inr (11, oX11 rM sM_204)), ((rM 13), .inl (cy 0, 500, .inl M_tape))] := hD
        obtain ⟨hin, h⟩ := h
        refine stz (k := l1.toNatClampNeg) (y := (vp_nar .boolean r204)) hx hb hK hP hD hS 5 rfl hin rfl rfl dX11_readTower_207 (fun M_isFalse_207 eM_isFalse_207 H locs hP hD hS => ?_)
        have h := h M_isFalse_207 eM_isFalse_207
        have hP : va_P D clsX [((rM 3), .inl (cy 0, 14, .inl M_told)), ((rM 4), .inl (cy 0, 10, .inl M_place)), ((rM 5), .inl (cy 0, 10, .inl M_range)), ((rM 6), .inl (cy 0, 10, .inl M_voice)), ((rM 9), .inl (cy 0, 29, .inl M_read_195)), ((rM 11), .inl (cy 2, 10, .inl M_isFalse_207)), (h0, .inr (11, oX11 rM sM_204)), ((rM 13), .inl (cy 0, 500, .inl M_tape))] H := hP
        have hD : va_D A [((rM 3), .inl (cy 0, 14, .inl M_told)), ((rM 4), .inl (cy 0, 10, .inl M_place)), ((rM 5), .inl (cy 0, 10, .inl M_range)), ((rM 6), .inl (cy 0, 10, .inl M_voice)), ((rM 9), .inl (cy 0, 29, .inl M_read_195)), ((rM 11), .inl (cy 2, 10, .inl M_isFalse_207)), (h0, .inr (11, oX11 rM sM_204)), ((rM 13), .inl (cy 0, 500, .inl M_tape))] := hD
        refine lv_aload_n hx hb dX11_readTower_208 rfl (lv_at hl 0 rfl) ?_
        refine gfX11_36 hx hb hts hown hK hP 6 rfl dX11_readTower_209 ?_
        refine lv_bipush (v := (9 : Int32)) hx hb dX11_readTower_212 (by decide) ?_
        refine lv_dup2_11 hx hb dX11_readTower_214 rfl rfl ?_
        refine ldi (k := 9) hx hb hK hP 0 rfl (inL (by decide)) (by decide) dX11_readTower_215 ?_
        refine lv_iconst (v := (1 : Int32)) hx hb dX11_readTower_216 (by decide) ?_
        refine lv_iadd hx hb dX11_readTower_217 ?_
        refine sti (k := 9) (y := ((M_told 9) + (1 : Int32))) hx hb hK hP hD hS 0 rfl (inL (by decide)) (by decide) rfl dX11_readTower_218 (fun M_told_218 eM_told_218 H locs hP hD hS => ?_)
        have h := h M_told_218 eM_told_218
        have hP : va_P D clsX [((rM 3), .inl (cy 0, 14, .inl M_told_218)), ((rM 4), .inl (cy 0, 10, .inl M_place)), ((rM 5), .inl (cy 0, 10, .inl M_range)), ((rM 6), .inl (cy 0, 10, .inl M_voice)), ((rM 9), .inl (cy 0, 29, .inl M_read_195)), ((rM 11), .inl (cy 2, 10, .inl M_isFalse_207)), (h0, .inr (11, oX11 rM sM_204)), ((rM 13), .inl (cy 0, 500, .inl M_tape))] H := hP
        have hD : va_D A [((rM 3), .inl (cy 0, 14, .inl M_told_218)), ((rM 4), .inl (cy 0, 10, .inl M_place)), ((rM 5), .inl (cy 0, 10, .inl M_range)), ((rM 6), .inl (cy 0, 10, .inl M_voice)), ((rM 9), .inl (cy 0, 29, .inl M_read_195)), ((rM 11), .inl (cy 2, 10, .inl M_isFalse_207)), (h0, .inr (11, oX11 rM sM_204)), ((rM 13), .inl (cy 0, 500, .inl M_tape))] := hD
        exact hret (sM_204, M_told_218, M_place, M_range, M_voice, M_read_195, M_isFalse_207) _ _ _ _ dX11_readTower_219 h (hP.sub [6, 0, 1, 2, 3, 4, 5, 7] rfl) (hD.sub [6, 0, 1, 2, 3, 4, 5, 7] (by decide) rfl) hS
      refine lv_aload_n hx hb dX11_readTower_116 rfl (lv_at hl 0 rfl) ?_
      refine gfX11_181 (v := (sM 21)) hx hb hts hown hK hP 0 rfl rfl dX11_readTower_117 ?_
      refine lv_if_eq (tgt := 124) hx hb dX11_readTower_120 (by decide) (fun c120 => ?_) (fun c120 => ?_)
      · have h := h.1 c120
        refine lv_aload_n hx hb dX11_readTower_124 rfl (lv_at hl 0 rfl) ?_
        refine clVv (As := []) (rest := []) (Wr := [((rM 3), .inl (cy 0, 14, .inl M_told)), ((rM 4), .inl (cy 0, 10, .inl M_place)), ((rM 5), .inl (cy 0, 10, .inl M_range)), ((rM 6), .inl (cy 0, 10, .inl M_voice)), ((rM 9), .inl (cy 0, 29, .inl M_read)), ((rM 11), .inl (cy 2, 10, .inl M_isFalse))]) (cq := (RX11, TX11, 56)) ⟨hx, hb, hml, hown, hts⟩ ⟨callB_of 0 hts (goodC mw1358) rfl rfl rfl (hts _ (tb mw15)) (hts _ (tb mw1355)) kdX11_stepOn ⟨Nat.le_trans (by decide) hRf, Nat.le_trans (by decide) hRl⟩, hts _ (tb mw1357), hts _ (tb ms39)⟩ (ctX11_stepOn l D cy ev h0 rM sM M_tape  _ _ h) hE hK hP hD hS hA [0, 7] [1, 2, 3, 4, 5, 6] rfl rfl (by decide) (by decide) (by decide) 0 rfl rfl rfl hl.1 rfl (Nat.le_of_ble_eq_true rfl) ⟨Nat.zero_le _, Nat.zero_le _⟩ dX11_readTower_125 (fun sM_125 H locs h hP hD hS => ?_)
        have hP : va_P D clsX [((rM 3), .inl (cy 0, 14, .inl M_told)), ((rM 4), .inl (cy 0, 10, .inl M_place)), ((rM 5), .inl (cy 0, 10, .inl M_range)), ((rM 6), .inl (cy 0, 10, .inl M_voice)), ((rM 9), .inl (cy 0, 29, .inl M_read)), ((rM 11), .inl (cy 2, 10, .inl M_isFalse)), (h0, .inr (11, oX11 rM sM_125)), ((rM 13), .inl (cy 0, 500, .inl M_tape))] H := hP
        have hD : va_D A [((rM 3), .inl (cy 0, 14, .inl M_told)), ((rM 4), .inl (cy 0, 10, .inl M_place)), ((rM 5), .inl (cy 0, 10, .inl M_range)), ((rM 6), .inl (cy 0, 10, .inl M_voice)), ((rM 9), .inl (cy 0, 29, .inl M_read)), ((rM 11), .inl (cy 2, 10, .inl M_isFalse)), (h0, .inr (11, oX11 rM sM_125)), ((rM 13), .inl (cy 0, 500, .inl M_tape))] := hD
        refine lv_aload_n hx hb dX11_readTower_128 rfl (lv_at hl 0 rfl) ?_
        refine gfX11_40 hx hb hts hown hK hP 6 rfl dX11_readTower_129 ?_
        refine lv_iload_n hx hb dX11_readTower_132 rfl (lv_at hl 1 rfl) ?_
        refine lv_iload_n hx hb dX11_readTower_133 rfl (lv_at hl 2 rfl) ?_
        obtain ⟨hin, h⟩ := h
        refine sti (k := l1.toNatClampNeg) (y := l3) hx hb hK hP hD hS 1 rfl hin rfl rfl dX11_readTower_134 (fun M_place_134 eM_place_134 H locs hP hD hS => ?_)
        have h := h M_place_134 eM_place_134
        have hP : va_P D clsX [((rM 3), .inl (cy 0, 14, .inl M_told)), ((rM 4), .inl (cy 0, 10, .inl M_place_134)), ((rM 5), .inl (cy 0, 10, .inl M_range)), ((rM 6), .inl (cy 0, 10, .inl M_voice)), ((rM 9), .inl (cy 0, 29, .inl M_read)), ((rM 11), .inl (cy 2, 10, .inl M_isFalse)), (h0, .inr (11, oX11 rM sM_125)), ((rM 13), .inl (cy 0, 500, .inl M_tape))] H := hP
        have hD : va_D A [((rM 3), .inl (cy 0, 14, .inl M_told)), ((rM 4), .inl (cy 0, 10, .inl M_place_134)), ((rM 5), .inl (cy 0, 10, .inl M_range)), ((rM 6), .inl (cy 0, 10, .inl M_voice)), ((rM 9), .inl (cy 0, 29, .inl M_read)), ((rM 11), .inl (cy 2, 10, .inl M_isFalse)), (h0, .inr (11, oX11 rM sM_125)), ((rM 13), .inl (cy 0, 500, .inl M_tape))] := hD
        refine lv_aload_n hx hb dX11_readTower_135 rfl (lv_at hl 0 rfl) ?_
        refine gfX11_43 hx hb hts hown hK hP 6 rfl dX11_readTower_136 ?_
        refine lv_iload_n hx hb dX11_readTower_139 rfl (lv_at hl 1 rfl) ?_
        refine lv_aload_n hx hb dX11_readTower_140 rfl (lv_at hl 0 rfl) ?_
        refine lv_iconst (v := (1 : Int32)) hx hb dX11_readTower_141 (by decide) ?_
        refine lv_bipush (v := (20 : Int32)) hx hb dX11_readTower_142 (by decide) ?_
        refine clVi (As := [.int (1 : Int32), .int (20 : Int32)]) (rest := [.int l1, .ref (rM 5)]) (Wr := [((rM 3), .inl (cy 0, 14, .inl M_told)), ((rM 4), .inl (cy 0, 10, .inl M_place_134)), ((rM 5), .inl (cy 0, 10, .inl M_range)), ((rM 6), .inl (cy 0, 10, .inl M_voice)), ((rM 9), .inl (cy 0, 29, .inl M_read)), ((rM 11), .inl (cy 2, 10, .inl M_isFalse))]) (cq := (RX11, TX11, 56)) ⟨hx, hb, hml, hown, hts⟩ ⟨callB_of 2 hts (goodC mw1406) rfl rfl rfl (hts _ (tb mw15)) (hts _ (tb mw1403)) kdX11_readNumber ⟨Nat.le_trans (by decide) hRf, Nat.le_trans (by decide) hRl⟩, hts _ (tb mw1405), hts _ (tb ms48)⟩ (ctX11_readNumber l D cy ev h0 rM sM_125 M_tape (1 : Int32) (20 : Int32) _ _ h) hE hK hP hD hS hA [6, 7] [0, 1, 2, 3, 4, 5] rfl rfl (by decide) (by decide) (by decide) 0 rfl rfl rfl hl.1 rfl (Nat.le_of_ble_eq_true rfl) ⟨Nat.zero_le _, Nat.zero_le _⟩ dX11_readTower_144 (fun r144 sM_144 H locs h hP hD hS => ?_)
        have hP : va_P D clsX [((rM 3), .inl (cy 0, 14, .inl M_told)), ((rM 4), .inl (cy 0, 10, .inl M_place_134)), ((rM 5), .inl (cy 0, 10, .inl M_range)), ((rM 6), .inl (cy 0, 10, .inl M_voice)), ((rM 9), .inl (cy 0, 29, .inl M_read)), ((rM 11), .inl (cy 2, 10, .inl M_isFalse)), (h0, .inr (11, oX11 rM sM_144)), ((rM 13), .inl (cy 0, 500, .inl M_tape))] H := hP
        have hD : va_D A [((rM 3), .inl (cy 0, 14, .inl M_told)), ((rM 4), .inl (cy 0, 10, .inl M_place_134)), ((rM 5), .inl (cy 0, 10, .inl M_range)), ((rM 6), .inl (cy 0, 10, .inl M_voice)), ((rM 9), .inl (cy 0, 29, .inl M_read)), ((rM 11), .inl (cy 2, 10, .inl M_isFalse)), (h0, .inr (11, oX11 rM sM_144)), ((rM 13), .inl (cy 0, 500, .inl M_tape))] := hD
        obtain ⟨hin, h⟩ := h
        refine sti (k := l1.toNatClampNeg) (y := r144) hx hb hK hP hD hS 2 rfl hin rfl rfl dX11_readTower_147 (fun M_range_147 eM_range_147 H locs hP hD hS => ?_)
        have h := h M_range_147 eM_range_147
        have hP : va_P D clsX [((rM 3), .inl (cy 0, 14, .inl M_told)), ((rM 4), .inl (cy 0, 10, .inl M_place_134)), ((rM 5), .inl (cy 0, 10, .inl M_range_147)), ((rM 6), .inl (cy 0, 10, .inl M_voice)), ((rM 9), .inl (cy 0, 29, .inl M_read)), ((rM 11), .inl (cy 2, 10, .inl M_isFalse)), (h0, .inr (11, oX11 rM sM_144)), ((rM 13), .inl (cy 0, 500, .inl M_tape))] H := hP
        have hD : va_D A [((rM 3), .inl (cy 0, 14, .inl M_told)), ((rM 4), .inl (cy 0, 10, .inl M_place_134)), ((rM 5), .inl (cy 0, 10, .inl M_range_147)), ((rM 6), .inl (cy 0, 10, .inl M_voice)), ((rM 9), .inl (cy 0, 29, .inl M_read)), ((rM 11), .inl (cy 2, 10, .inl M_isFalse)), (h0, .inr (11, oX11 rM sM_144)), ((rM 13), .inl (cy 0, 500, .inl M_tape))] := hD
        refine lv_aload_n hx hb dX11_readTower_148 rfl (lv_at hl 0 rfl) ?_
        refine gfX11_46 hx hb hts hown hK hP 6 rfl dX11_readTower_149 ?_
        refine lv_iload_n hx hb dX11_readTower_152 rfl (lv_at hl 1 rfl) ?_
        refine lv_aload_n hx hb dX11_readTower_153 rfl (lv_at hl 0 rfl) ?_
        refine lv_iconst (v := (0 : Int32)) hx hb dX11_readTower_154 (by decide) ?_
        refine lv_iconst (v := (3 : Int32)) hx hb dX11_readTower_155 (by decide) ?_
        refine clVi (As := [.int (0 : Int32), .int (3 : Int32)]) (rest := [.int l1, .ref (rM 6)]) (Wr := [((rM 3), .inl (cy 0, 14, .inl M_told)), ((rM 4), .inl (cy 0, 10, .inl M_place_134)), ((rM 5), .inl (cy 0, 10, .inl M_range_147)), ((rM 6), .inl (cy 0, 10, .inl M_voice)), ((rM 9), .inl (cy 0, 29, .inl M_read)), ((rM 11), .inl (cy 2, 10, .inl M_isFalse))]) (cq := (RX11, TX11, 56)) ⟨hx, hb, hml, hown, hts⟩ ⟨callB_of 2 hts (goodC mw1406) rfl rfl rfl (hts _ (tb mw15)) (hts _ (tb mw1403)) kdX11_readNumber ⟨Nat.le_trans (by decide) hRf, Nat.le_trans (by decide) hRl⟩, hts _ (tb mw1405), hts _ (tb ms48)⟩ (ctX11_readNumber l D cy ev h0 rM sM_144 M_tape (0 : Int32) (3 : Int32) _ _ h) hE hK hP hD hS hA [6, 7] [0, 1, 2, 3, 4, 5] rfl rfl (by decide) (by decide) (by decide) 0 rfl rfl rfl hl.1 rfl (Nat.le_of_ble_eq_true rfl) ⟨Nat.zero_le _, Nat.zero_le _⟩ dX11_readTower_156 (fun r156 sM_156 H locs h hP hD hS => ?_)
        have hP : va_P D clsX [((rM 3), .inl (cy 0, 14, .inl M_told)), ((rM 4), .inl (cy 0, 10, .inl M_place_134)), ((rM 5), .inl (cy 0, 10, .inl M_range_147)), ((rM 6), .inl (cy 0, 10, .inl M_voice)), ((rM 9), .inl (cy 0, 29, .inl M_read)), ((rM 11), .inl (cy 2, 10, .inl M_isFalse)), (h0, .inr (11, oX11 rM sM_156)), ((rM 13), .inl (cy 0, 500, .inl M_tape))] H := hP
        have hD : va_D A [((rM 3), .inl (cy 0, 14, .inl M_told)), ((rM 4), .inl (cy 0, 10, .inl M_place_134)), ((rM 5), .inl (cy 0, 10, .inl M_range_147)), ((rM 6), .inl (cy 0, 10, .inl M_voice)), ((rM 9), .inl (cy 0, 29, .inl M_read)), ((rM 11), .inl (cy 2, 10, .inl M_isFalse)), (h0, .inr (11, oX11 rM sM_156)), ((rM 13), .inl (cy 0, 500, .inl M_tape))] := hD
        obtain ⟨hin, h⟩ := h
        refine sti (k := l1.toNatClampNeg) (y := r156) hx hb hK hP hD hS 3 rfl hin rfl rfl dX11_readTower_159 (fun M_voice_159 eM_voice_159 H locs hP hD hS => ?_)
        have h := h M_voice_159 eM_voice_159
        have hP : va_P D clsX [((rM 3), .inl (cy 0, 14, .inl M_told)), ((rM 4), .inl (cy 0, 10, .inl M_place_134)), ((rM 5), .inl (cy 0, 10, .inl M_range_147)), ((rM 6), .inl (cy 0, 10, .inl M_voice_159)), ((rM 9), .inl (cy 0, 29, .inl M_read)), ((rM 11), .inl (cy 2, 10, .inl M_isFalse)), (h0, .inr (11, oX11 rM sM_156)), ((rM 13), .inl (cy 0, 500, .inl M_tape))] H := hP
        have hD : va_D A [((rM 3), .inl (cy 0, 14, .inl M_told)), ((rM 4), .inl (cy 0, 10, .inl M_place_134)), ((rM 5), .inl (cy 0, 10, .inl M_range_147)), ((rM 6), .inl (cy 0, 10, .inl M_voice_159)), ((rM 9), .inl (cy 0, 29, .inl M_read)), ((rM 11), .inl (cy 2, 10, .inl M_isFalse)), (h0, .inr (11, oX11 rM sM_156)), ((rM 13), .inl (cy 0, 500, .inl M_tape))] := hD
        refine lv_aload_n hx hb dX11_readTower_160 rfl (lv_at hl 0 rfl) ?_
        refine gfX11_55 hx hb hts hown hK hP 6 rfl dX11_readTower_161 ?_
        refine lv_bipush (v := (24 : Int32)) hx hb dX11_readTower_164 (by decide) ?_
        refine lv_aload_n hx hb dX11_readTower_166 rfl (lv_at hl 0 rfl) ?_
        refine gfX11_36 hx hb hts hown hK hP 6 rfl dX11_readTower_167 ?_
        refine lv_bipush (v := (9 : Int32)) hx hb dX11_readTower_170 (by decide) ?_
        refine ldi (k := 9) hx hb hK hP 0 rfl (inL (by decide)) (by decide) dX11_readTower_172 ?_
        refine lv_iadd hx hb dX11_readTower_173 ?_
        refine lv_aload_n hx hb dX11_readTower_174 rfl (lv_at hl 0 rfl) ?_
        refine va_ldcS hx hb hown (hE.1 45 (by decide)).1 dX11_readTower_175 ?_
        refine clVi (As := [.ref (ev (2 * 45))]) (rest := [.int ((24 : Int32) + (M_told 9)), .ref (rM 9)]) (Wr := [((rM 3), .inl (cy 0, 14, .inl M_told)), ((rM 4), .inl (cy 0, 10, .inl M_place_134)), ((rM 5), .inl (cy 0, 10, .inl M_range_147)), ((rM 6), .inl (cy 0, 10, .inl M_voice_159)), ((rM 9), .inl (cy 0, 29, .inl M_read)), ((rM 11), .inl (cy 2, 10, .inl M_isFalse))]) (cq := (RX11, TX11, 56)) ⟨hx, hb, hml, hown, hts⟩ ⟨callB_of 1 hts (goodC mw1420) rfl rfl rfl (hts _ (tb mw15)) (hts _ (tb mw1417)) kdX11_passes ⟨Nat.le_trans (by decide) hRf, Nat.le_trans (by decide) hRl⟩, hts _ (tb mw1419), hts _ (tb ms51)⟩ (ctX11_passes l D cy ev h0 rM sM_156 M_tape 45  _ _ h) hE hK hP hD hS hA [6, 7] [0, 1, 2, 3, 4, 5] rfl rfl (by decide) (by decide) (by decide) 0 rfl rfl rfl hl.1 rfl (Nat.le_of_ble_eq_true rfl) ⟨Nat.zero_le _, Nat.zero_le _⟩ dX11_readTower_177 (fun r177 sM_177 H locs h hP hD hS => ?_)
        have hP : va_P D clsX [((rM 3), .inl (cy 0, 14, .inl M_told)), ((rM 4), .inl (cy 0, 10, .inl M_place_134)), ((rM 5), .inl (cy 0, 10, .inl M_range_147)), ((rM 6), .inl (cy 0, 10, .inl M_voice_159)), ((rM 9), .inl (cy 0, 29, .inl M_read)), ((rM 11), .inl (cy 2, 10, .inl M_isFalse)), (h0, .inr (11, oX11 rM sM_177)), ((rM 13), .inl (cy 0, 500, .inl M_tape))] H := hP
        have hD : va_D A [((rM 3), .inl (cy 0, 14, .inl M_told)), ((rM 4), .inl (cy 0, 10, .inl M_place_134)), ((rM 5), .inl (cy 0, 10, .inl M_range_147)), ((rM 6), .inl (cy 0, 10, .inl M_voice_159)), ((rM 9), .inl (cy 0, 29, .inl M_read)), ((rM 11), .inl (cy 2, 10, .inl M_isFalse)), (h0, .inr (11, oX11 rM sM_177)), ((rM 13), .inl (cy 0, 500, .inl M_tape))] := hD
        refine lv_if_eq (tgt := 193) hx hb dX11_readTower_180 (by decide) (fun c180 => ?_) (fun c180 => ?_)
        · have h := h.1 c180
          refine lv_bipush (v := (99 : Int32)) hx hb dX11_readTower_193 (by decide) ?_
          exact J195 sM_177 M_place_134 M_range_147 M_voice_159 l1 ((24 : Int32) + (M_told 9)) (99 : Int32) _ _ _ h (hP.sub [6, 0, 1, 2, 3, 4, 5, 7] rfl) (hD.sub [6, 0, 1, 2, 3, 4, 5, 7] (by decide) rfl) hS (lv_sub hl [0, 1] rfl)
        · have h := h.2 c180
          refine lv_aload_n hx hb dX11_readTower_183 rfl (lv_at hl 0 rfl) ?_
          refine lv_iconst (v := (1 : Int32)) hx hb dX11_readTower_184 (by decide) ?_
          refine lv_bipush (v := (99 : Int32)) hx hb dX11_readTower_185 (by decide) ?_
          refine clVi (As := [.int (1 : Int32), .int (99 : Int32)]) (rest := [.int ((24 : Int32) + (M_told 9)), .ref (rM 9)]) (Wr := [((rM 3), .inl (cy 0, 14, .inl M_told)), ((rM 4), .inl (cy 0, 10, .inl M_place_134)), ((rM 5), .inl (cy 0, 10, .inl M_range_147)), ((rM 6), .inl (cy 0, 10, .inl M_voice_159)), ((rM 9), .inl (cy 0, 29, .inl M_read)), ((rM 11), .inl (cy 2, 10, .inl M_isFalse))]) (cq := (RX11, TX11, 56)) ⟨hx, hb, hml, hown, hts⟩ ⟨callB_of 2 hts (goodC mw1406) rfl rfl rfl (hts _ (tb mw15)) (hts _ (tb mw1403)) kdX11_readNumber ⟨Nat.le_trans (by decide) hRf, Nat.le_trans (by decide) hRl⟩, hts _ (tb mw1405), hts _ (tb ms48)⟩ (ctX11_readNumber l D cy ev h0 rM sM_177 M_tape (1 : Int32) (99 : Int32) _ _ h) hE hK hP hD hS hA [6, 7] [0, 1, 2, 3, 4, 5] rfl rfl (by decide) (by decide) (by decide) 0 rfl rfl rfl hl.1 rfl (Nat.le_of_ble_eq_true rfl) ⟨Nat.zero_le _, Nat.zero_le _⟩ dX11_readTower_187 (fun r187 sM_187 H locs h hP hD hS => ?_)
          have hP : va_P D clsX [((rM 3), .inl (cy 0, 14, .inl M_told)), ((rM 4), .inl (cy 0, 10, .inl M_place_134)), ((rM 5), .inl (cy 0, 10, .inl M_range_147)), ((rM 6), .inl (cy 0, 10, .inl M_voice_159)), ((rM 9), .inl (cy 0, 29, .inl M_read)), ((rM 11), .inl (cy 2, 10, .inl M_isFalse)), (h0, .inr (11, oX11 rM sM_187)), ((rM 13), .inl (cy 0, 500, .inl M_tape))] H := hP
          have hD : va_D A [((rM 3), .inl (cy 0, 14, .inl M_told)), ((rM 4), .inl (cy 0, 10, .inl M_place_134)), ((rM 5), .inl (cy 0, 10, .inl M_range_147)), ((rM 6), .inl (cy 0, 10, .inl M_voice_159)), ((rM 9), .inl (cy 0, 29, .inl M_read)), ((rM 11), .inl (cy 2, 10, .inl M_isFalse)), (h0, .inr (11, oX11 rM sM_187)), ((rM 13), .inl (cy 0, 500, .inl M_tape))] := hD
          refine lv_goto (tgt := 195) hx hb dX11_readTower_190 (by decide) ?_
          exact J195 sM_187 M_place_134 M_range_147 M_voice_159 l1 ((24 : Int32) + (M_told 9)) r187 _ _ _ h (hP.sub [6, 0, 1, 2, 3, 4, 5, 7] rfl) (hD.sub [6, 0, 1, 2, 3, 4, 5, 7] (by decide) rfl) hS (lv_sub hl [0, 1] rfl)
      · have h := h.2 c120
        exact hret (sM, M_told, M_place, M_range, M_voice, M_read, M_isFalse) _ _ _ _ dX11_readTower_123 h hP hD hS
    have L81 : ∀ (l1 : Int32) (l3 : Int32) (kx116 : AR → Int32 → Prop), (∀ (sM : AR) (l4 : Int32) (H : Heap) (locs : List Loc) (ls : Array Slot), kx116 sM l4 → va_P D clsX [(h0, .inr (11, oX11 rM sM)), ((rM 3), .inl (cy 0, 14, .inl M_told)), ((rM 4), .inl (cy 0, 10, .inl M_place)), ((rM 5), .inl (cy 0, 10, .inl M_range)), ((rM 6), .inl (cy 0, 10, .inl M_voice)), ((rM 9), .inl (cy 0, 29, .inl M_read)), ((rM 11), .inl (cy 2, 10, .inl M_isFalse)), ((rM 13), .inl (cy 0, 500, .inl M_tape))] H → va_D A [(h0, .inr (11, oX11 rM sM)), ((rM 3), .inl (cy 0, 14, .inl M_told)), ((rM 4), .inl (cy 0, 10, .inl M_place)), ((rM 5), .inl (cy 0, 10, .inl M_range)), ((rM 6), .inl (cy 0, 10, .inl M_voice)), ((rM 9), .inl (cy 0, 29, .inl M_read)), ((rM 11), .inl (cy 2, 10, .inl M_isFalse)), ((rM 13), .inl (cy 0, 500, .inl M_tape))] → va_S A s.heap H locs → lv_has ls 5 [(0, .ref h0), (1, .int l1), (3, .int l3)] → W p l e R s m args below meth c H locs 0 0 QQ (F0 m 116 ls [])) → ∀ (nf81 : Nat) (sM : AR) (l4 : Int32) (H : Heap) (locs : List Loc) (ls : Array Slot), wpX11_readTower_L81 M_told M_place M_range M_voice M_read M_isFalse M_tape l1 l3 kx116 post nf81 sM l4 → va_P D clsX [(h0, .inr (11, oX11 rM sM)), ((rM 3), .inl (cy 0, 14, .inl M_told)), ((rM 4), .inl (cy 0, 10, .inl M_place)), ((rM 5), .inl (cy 0, 10, .inl M_range)), ((rM 6), .inl (cy 0, 10, .inl M_voice)), ((rM 9), .inl (cy 0, 29, .inl M_read)), ((rM 11), .inl (cy 2, 10, .inl M_isFalse)), ((rM 13), .inl (cy 0, 500, .inl M_tape))] H → va_D A [(h0, .inr (11, oX11 rM sM)), ((rM 3), .inl (cy 0, 14, .inl M_told)), ((rM 4), .inl (cy 0, 10, .inl M_place)), ((rM 5), .inl (cy 0, 10, .inl M_range)), ((rM 6), .inl (cy 0, 10, .inl M_voice)), ((rM 9), .inl (cy 0, 29, .inl M_read)), ((rM 11), .inl (cy 2, 10, .inl M_isFalse)), ((rM 13), .inl (cy 0, 500, .inl M_tape))] → va_S A s.heap H locs → lv_has ls 5 [(0, .ref h0), (1, .int l1), (3, .int l3), (4, .int l4)] → W p l e R s m args below meth c H locs 0 0 QQ (F0 m 81 ls []) := by
      intro l1 l3 kx116 hk81_116 nf81
      induction nf81 with
      | zero =>
        intro sM l4 H locs ls h
        exact (show False from h).elim
      | succ nf81 ih81 =>
        intro sM l4 H locs ls h hP hD hS hl
        refine lv_iload hx hb dX11_readTower_81 (lv_at hl 3 rfl) ?_
        refine lv_iload_n hx hb dX11_readTower_83 rfl (lv_at hl 1 rfl) ?_
        refine lv_icmp_ge (tgt := 116) hx hb dX11_readTower_84 (by decide) (fun c84 => ?_) (fun c84 => ?_)
        · have h := h.1 c84
          exact hk81_116 sM l4 _ _ _ h hP hD hS (lv_sub hl [0, 1, 2] rfl)
        · have h := h.2 c84
          refine lv_aload_n hx hb dX11_readTower_87 rfl (lv_at hl 0 rfl) ?_
          refine gfX11_181 (v := (sM 21)) hx hb hts hown hK hP 0 rfl rfl dX11_readTower_88 ?_
          refine lv_if_ne (tgt := 116) hx hb dX11_readTower_91 (by decide) (fun c91 => ?_) (fun c91 => ?_)
          · have h := h.1 c91
            exact hk81_116 sM l4 _ _ _ h hP hD hS (lv_sub hl [0, 1, 2] rfl)
          · have h := h.2 c91
            refine lv_aload_n hx hb dX11_readTower_94 rfl (lv_at hl 0 rfl) ?_
            refine gfX11_40 hx hb hts hown hK hP 0 rfl dX11_readTower_95 ?_
            refine lv_iload hx hb dX11_readTower_98 (lv_at hl 3 rfl) ?_
            obtain ⟨hin, h⟩ := h
            refine ldi (k := l4.toNatClampNeg) hx hb hK hP 2 rfl hin rfl dX11_readTower_100 ?_
            refine lv_iload_n hx hb dX11_readTower_101 rfl (lv_at hl 2 rfl) ?_
            refine lv_icmp_ne (tgt := 110) hx hb dX11_readTower_102 (by decide) (fun c102 => ?_) (fun c102 => ?_)
            · have h := h.1 c102
              obtain ⟨l4_110, el4_110⟩ : ∃ y : Int32, y = l4 + (1 : Int32) := ⟨_, rfl⟩
              have h := h l4_110 el4_110
              refine lv_iinc (v := l4_110) (lv' := [(4, .int l4_110), (0, .ref h0), (1, .int l1), (3, .int l3)]) hx hb dX11_readTower_110 hl (k := 3) rfl (by rw [el4_110]; rfl) (by decide) rfl (fun ls hl => ?_)
              refine lv_goto (tgt := 81) hx hb dX11_readTower_113 (by decide) ?_
              exact ih81 sM l4_110 _ _ _ h hP hD hS (lv_sub hl [1, 2, 3, 0] rfl)
            · have h := h.2 c102
              refine lv_aload_n hx hb dX11_readTower_105 rfl (lv_at hl 0 rfl) ?_
              refine lv_iconst (v := (4 : Int32)) hx hb dX11_readTower_106 (by decide) ?_
              refine clVv (As := [.int (4 : Int32)]) (rest := []) (Wr := [((rM 3), .inl (cy 0, 14, .inl M_told)), ((rM 4), .inl (cy 0, 10, .inl M_place)), ((rM 5), .inl (cy 0, 10, .inl M_range)), ((rM 6), .inl (cy 0, 10, .inl M_voice)), ((rM 9), .inl (cy 0, 29, .inl M_read)), ((rM 11), .inl (cy 2, 10, .inl M_isFalse)), ((rM 13), .inl (cy 0, 500, .inl M_tape))]) (cq := (RX11, TX11, 56)) ⟨hx, hb, hml, hown, hts⟩ ⟨callB_of 1 hts (goodC mw1394) rfl rfl rfl (hts _ (tb mw15)) (hts _ (tb mw1391)) kdX11_wrong ⟨Nat.le_trans (by decide) hRf, Nat.le_trans (by decide) hRl⟩, hts _ (tb mw1393), hts _ (tb ms45)⟩ (ctX11_wrong l D cy ev h0 rM sM (4 : Int32) _ _ h) hE hK hP hD hS hA [0] [1, 2, 3, 4, 5, 6, 7] rfl rfl (by decide) (by decide) (by decide) 0 rfl rfl rfl hl.1 rfl (Nat.le_of_ble_eq_true rfl) ⟨Nat.zero_le _, Nat.zero_le _⟩ dX11_readTower_107 (fun sM_107 H locs h hP hD hS => ?_)
              have hP : va_P D clsX [((rM 3), .inl (cy 0, 14, .inl M_told)), ((rM 4), .inl (cy 0, 10, .inl M_place)), ((rM 5), .inl (cy 0, 10, .inl M_range)), ((rM 6), .inl (cy 0, 10, .inl M_voice)), ((rM 9), .inl (cy 0, 29, .inl M_read)), ((rM 11), .inl (cy 2, 10, .inl M_isFalse)), ((rM 13), .inl (cy 0, 500, .inl M_tape)), (h0, .inr (11, oX11 rM sM_107))] H := hP
              have hD : va_D A [((rM 3), .inl (cy 0, 14, .inl M_told)), ((rM 4), .inl (cy 0, 10, .inl M_place)), ((rM 5), .inl (cy 0, 10, .inl M_range)), ((rM 6), .inl (cy 0, 10, .inl M_voice)), ((rM 9), .inl (cy 0, 29, .inl M_read)), ((rM 11), .inl (cy 2, 10, .inl M_isFalse)), ((rM 13), .inl (cy 0, 500, .inl M_tape)), (h0, .inr (11, oX11 rM sM_107))] := hD
              obtain ⟨l4_110, el4_110⟩ : ∃ y : Int32, y = l4 + (1 : Int32) := ⟨_, rfl⟩
              have h := h l4_110 el4_110
              refine lv_iinc (v := l4_110) (lv' := [(4, .int l4_110), (0, .ref h0), (1, .int l1), (3, .int l3)]) hx hb dX11_readTower_110 hl (k := 3) rfl (by rw [el4_110]; rfl) (by decide) rfl (fun ls hl => ?_)
              refine lv_goto (tgt := 81) hx hb dX11_readTower_113 (by decide) ?_
              exact ih81 sM_107 l4_110 _ _ _ h (hP.sub [7, 0, 1, 2, 3, 4, 5, 6] rfl) (hD.sub [7, 0, 1, 2, 3, 4, 5, 6] (by decide) rfl) hS (lv_sub hl [1, 2, 3, 0] rfl)
    refine lv_aload_n hx hb dX11_readTower_16 rfl (lv_at hl 0 rfl) ?_
    refine gfX11_181 (v := (sM 21)) hx hb hts hown hK hP 0 rfl rfl dX11_readTower_17 ?_
    refine lv_if_eq (tgt := 24) hx hb dX11_readTower_20 (by decide) (fun c20 => ?_) (fun c20 => ?_)
    · have h := h.1 c20
      refine lv_aload_n hx hb dX11_readTower_24 rfl (lv_at hl 0 rfl) ?_
      refine clVv (As := []) (rest := []) (Wr := [((rM 3), .inl (cy 0, 14, .inl M_told)), ((rM 4), .inl (cy 0, 10, .inl M_place)), ((rM 5), .inl (cy 0, 10, .inl M_range)), ((rM 6), .inl (cy 0, 10, .inl M_voice)), ((rM 9), .inl (cy 0, 29, .inl M_read)), ((rM 11), .inl (cy 2, 10, .inl M_isFalse))]) (cq := (RX11, TX11, 56)) ⟨hx, hb, hml, hown, hts⟩ ⟨callB_of 0 hts (goodC mw1358) rfl rfl rfl (hts _ (tb mw15)) (hts _ (tb mw1355)) kdX11_stepOn ⟨Nat.le_trans (by decide) hRf, Nat.le_trans (by decide) hRl⟩, hts _ (tb mw1357), hts _ (tb ms39)⟩ (ctX11_stepOn l D cy ev h0 rM sM M_tape  _ _ h) hE hK hP hD hS hA [0, 7] [1, 2, 3, 4, 5, 6] rfl rfl (by decide) (by decide) (by decide) 0 rfl rfl rfl hl.1 rfl (Nat.le_of_ble_eq_true rfl) ⟨Nat.zero_le _, Nat.zero_le _⟩ dX11_readTower_25 (fun sM_25 H locs h hP hD hS => ?_)
      have hP : va_P D clsX [((rM 3), .inl (cy 0, 14, .inl M_told)), ((rM 4), .inl (cy 0, 10, .inl M_place)), ((rM 5), .inl (cy 0, 10, .inl M_range)), ((rM 6), .inl (cy 0, 10, .inl M_voice)), ((rM 9), .inl (cy 0, 29, .inl M_read)), ((rM 11), .inl (cy 2, 10, .inl M_isFalse)), (h0, .inr (11, oX11 rM sM_25)), ((rM 13), .inl (cy 0, 500, .inl M_tape))] H := hP
      have hD : va_D A [((rM 3), .inl (cy 0, 14, .inl M_told)), ((rM 4), .inl (cy 0, 10, .inl M_place)), ((rM 5), .inl (cy 0, 10, .inl M_range)), ((rM 6), .inl (cy 0, 10, .inl M_voice)), ((rM 9), .inl (cy 0, 29, .inl M_read)), ((rM 11), .inl (cy 2, 10, .inl M_isFalse)), (h0, .inr (11, oX11 rM sM_25)), ((rM 13), .inl (cy 0, 500, .inl M_tape))] := hD
      refine lv_iconst (v := (5 : Int32)) hx hb dX11_readTower_28 (by decide) ?_
      refine lv_aload_n hx hb dX11_readTower_29 rfl (lv_at hl 0 rfl) ?_
      refine gfX11_36 hx hb hts hown hK hP 6 rfl dX11_readTower_30 ?_
      refine lv_bipush (v := (9 : Int32)) hx hb dX11_readTower_33 (by decide) ?_
      refine ldi (k := 9) hx hb hK hP 0 rfl (inL (by decide)) (by decide) dX11_readTower_35 ?_
      refine lv_iadd hx hb dX11_readTower_36 ?_
      refine lv_topi (fun l1_37 el1_37 => ?_)
      have h := h l1_37 el1_37
      refine lv_istore_n (lv' := [(1, .int l1_37), (0, .ref h0)]) hx hb dX11_readTower_37 rfl hl (by decide) rfl (fun ls hl => ?_)
      refine lv_aload_n hx hb dX11_readTower_38 rfl (lv_at hl 1 rfl) ?_
      refine lv_iconst (v := (0 : Int32)) hx hb dX11_readTower_39 (by decide) ?_
      refine lv_aload_n hx hb dX11_readTower_40 rfl (lv_at hl 1 rfl) ?_
      refine gfX11_36 hx hb hts hown hK hP 6 rfl dX11_readTower_41 ?_
      refine lv_bipush (v := (7 : Int32)) hx hb dX11_readTower_44 (by decide) ?_
      refine ldi (k := 7) hx hb hK hP 0 rfl (inL (by decide)) (by decide) dX11_readTower_46 ?_
      refine lv_iconst (v := (1 : Int32)) hx hb dX11_readTower_47 (by decide) ?_
      refine lv_isub hx hb dX11_readTower_48 ?_
      refine clVi (As := [.int (0 : Int32), .int ((M_told 7) - (1 : Int32))]) (rest := []) (Wr := [((rM 3), .inl (cy 0, 14, .inl M_told)), ((rM 4), .inl (cy 0, 10, .inl M_place)), ((rM 5), .inl (cy 0, 10, .inl M_range)), ((rM 6), .inl (cy 0, 10, .inl M_voice)), ((rM 9), .inl (cy 0, 29, .inl M_read)), ((rM 11), .inl (cy 2, 10, .inl M_isFalse))]) (cq := (RX11, TX11, 56)) ⟨hx, hb, hml, hown, hts⟩ ⟨callB_of 2 hts (goodC mw1406) rfl rfl rfl (hts _ (tb mw15)) (hts _ (tb mw1403)) kdX11_readNumber ⟨Nat.le_trans (by decide) hRf, Nat.le_trans (by decide) hRl⟩, hts _ (tb mw1405), hts _ (tb ms48)⟩ (ctX11_readNumber l D cy ev h0 rM sM_25 M_tape (0 : Int32) ((M_told 7) - (1 : Int32)) _ _ h) hE hK hP hD hS hA [6, 7] [0, 1, 2, 3, 4, 5] rfl rfl (by decide) (by decide) (by decide) 0 rfl rfl rfl hl.1 rfl (Nat.le_of_ble_eq_true rfl) ⟨Nat.zero_le _, Nat.zero_le _⟩ dX11_readTower_49 (fun r49 sM_49 H locs h hP hD hS => ?_)
      have hP : va_P D clsX [((rM 3), .inl (cy 0, 14, .inl M_told)), ((rM 4), .inl (cy 0, 10, .inl M_place)), ((rM 5), .inl (cy 0, 10, .inl M_range)), ((rM 6), .inl (cy 0, 10, .inl M_voice)), ((rM 9), .inl (cy 0, 29, .inl M_read)), ((rM 11), .inl (cy 2, 10, .inl M_isFalse)), (h0, .inr (11, oX11 rM sM_49)), ((rM 13), .inl (cy 0, 500, .inl M_tape))] H := hP
      have hD : va_D A [((rM 3), .inl (cy 0, 14, .inl M_told)), ((rM 4), .inl (cy 0, 10, .inl M_place)), ((rM 5), .inl (cy 0, 10, .inl M_range)), ((rM 6), .inl (cy 0, 10, .inl M_voice)), ((rM 9), .inl (cy 0, 29, .inl M_read)), ((rM 11), .inl (cy 2, 10, .inl M_isFalse)), (h0, .inr (11, oX11 rM sM_49)), ((rM 13), .inl (cy 0, 500, .inl M_tape))] := hD
      refine lv_istore_n (lv' := [(2, .int r49), (1, .int l1_37), (0, .ref h0)]) hx hb dX11_readTower_52 rfl hl (by decide) rfl (fun ls hl => ?_)
      refine lv_aload_n hx hb dX11_readTower_53 rfl (lv_at hl 2 rfl) ?_
      refine gfX11_36 hx hb hts hown hK hP 6 rfl dX11_readTower_54 ?_
      refine lv_bipush (v := (7 : Int32)) hx hb dX11_readTower_57 (by decide) ?_
      refine ldi (k := 7) hx hb hK hP 0 rfl (inL (by decide)) (by decide) dX11_readTower_59 ?_
      refine lv_aload_n hx hb dX11_readTower_60 rfl (lv_at hl 2 rfl) ?_
      refine lv_iconst (v := (0 : Int32)) hx hb dX11_readTower_61 (by decide) ?_
      refine lv_aload_n hx hb dX11_readTower_62 rfl (lv_at hl 2 rfl) ?_
      refine gfX11_36 hx hb hts hown hK hP 6 rfl dX11_readTower_63 ?_
      refine lv_bipush (v := (8 : Int32)) hx hb dX11_readTower_66 (by decide) ?_
      refine ldi (k := 8) hx hb hK hP 0 rfl (inL (by decide)) (by decide) dX11_readTower_68 ?_
      refine lv_iconst (v := (1 : Int32)) hx hb dX11_readTower_69 (by decide) ?_
      refine lv_isub hx hb dX11_readTower_70 ?_
      refine clVi (As := [.int (0 : Int32), .int ((M_told 8) - (1 : Int32))]) (rest := [.int (M_told 7)]) (Wr := [((rM 3), .inl (cy 0, 14, .inl M_told)), ((rM 4), .inl (cy 0, 10, .inl M_place)), ((rM 5), .inl (cy 0, 10, .inl M_range)), ((rM 6), .inl (cy 0, 10, .inl M_voice)), ((rM 9), .inl (cy 0, 29, .inl M_read)), ((rM 11), .inl (cy 2, 10, .inl M_isFalse)), ((rM 13), .inl (cy 0, 500, .inl M_tape))]) (cq := (RX11, TX11, 56)) ⟨hx, hb, hml, hown, hts⟩ ⟨callB_of 2 hts (goodC mw1410) rfl rfl rfl (hts _ (tb mw15)) (hts _ (tb mw1407)) kdX11_numberNow ⟨Nat.le_trans (by decide) hRf, Nat.le_trans (by decide) hRl⟩, hts _ (tb mw1409), hts _ (tb ms49)⟩ (ctX11_numberNow l D cy ev h0 rM sM_49 (0 : Int32) ((M_told 8) - (1 : Int32)) _ _ h) hE hK hP hD hS hA [6] [0, 1, 2, 3, 4, 5, 7] rfl rfl (by decide) (by decide) (by decide) 0 rfl rfl rfl hl.1 rfl (Nat.le_of_ble_eq_true rfl) ⟨Nat.zero_le _, Nat.zero_le _⟩ dX11_readTower_71 (fun r71 sM_71 H locs h hP hD hS => ?_)
      have hP : va_P D clsX [((rM 3), .inl (cy 0, 14, .inl M_told)), ((rM 4), .inl (cy 0, 10, .inl M_place)), ((rM 5), .inl (cy 0, 10, .inl M_range)), ((rM 6), .inl (cy 0, 10, .inl M_voice)), ((rM 9), .inl (cy 0, 29, .inl M_read)), ((rM 11), .inl (cy 2, 10, .inl M_isFalse)), ((rM 13), .inl (cy 0, 500, .inl M_tape)), (h0, .inr (11, oX11 rM sM_71))] H := hP
      have hD : va_D A [((rM 3), .inl (cy 0, 14, .inl M_told)), ((rM 4), .inl (cy 0, 10, .inl M_place)), ((rM 5), .inl (cy 0, 10, .inl M_range)), ((rM 6), .inl (cy 0, 10, .inl M_voice)), ((rM 9), .inl (cy 0, 29, .inl M_read)), ((rM 11), .inl (cy 2, 10, .inl M_isFalse)), ((rM 13), .inl (cy 0, 500, .inl M_tape)), (h0, .inr (11, oX11 rM sM_71))] := hD
      refine lv_imul hx hb dX11_readTower_74 ?_
      refine lv_iload_n hx hb dX11_readTower_75 rfl (lv_at hl 0 rfl) ?_
      refine lv_iadd hx hb dX11_readTower_76 ?_
      refine lv_topi (fun l3_77 el3_77 => ?_)
      have h := h l3_77 el3_77
      refine lv_istore_n (lv' := [(3, .int l3_77), (2, .int r49), (1, .int l1_37), (0, .ref h0)]) hx hb dX11_readTower_77 rfl hl (by decide) rfl (fun ls hl => ?_)
      refine lv_iconst (v := (5 : Int32)) hx hb dX11_readTower_78 (by decide) ?_
      refine lv_istore (lv' := [(4, .int (5 : Int32)), (3, .int l3_77), (2, .int r49), (1, .int l1_37), (0, .ref h0)]) hx hb dX11_readTower_79 hl (by decide) rfl (fun ls hl => ?_)
      obtain ⟨nf81, h⟩ := h
      refine L81 l1_37 l3_77 _ (fun sM_116 l4_116 H locs ls h hP hD hS hl => ?_) nf81 sM_71 (5 : Int32) _ _ _ h (hP.sub [7, 0, 1, 2, 3, 4, 5, 6] rfl) (hD.sub [7, 0, 1, 2, 3, 4, 5, 6] (by decide) rfl) hS (lv_sub hl [4, 3, 1, 0] rfl)
      exact J116 sM_116 l1_37 l3_77 _ _ _ h hP hD hS hl
    · have h := h.2 c20
      exact hret (sM, M_told, M_place, M_range, M_voice, M_read, M_isFalse) _ _ _ _ dX11_readTower_23 h hP hD hS
  refine lv_aload_n hx hb dX11_readTower_0 rfl (lv_at hl 0 rfl) ?_
  refine gfX11_36 hx hb hts hown hK hP 0 rfl dX11_readTower_1 ?_
  refine lv_bipush (v := (9 : Int32)) hx hb dX11_readTower_4 (by decide) ?_
  refine ldi (k := 9) hx hb hK hP 1 rfl (inL (by decide)) (by decide) dX11_readTower_6 ?_
  refine lv_iconst (v := (5 : Int32)) hx hb dX11_readTower_7 (by decide) ?_
  refine lv_icmp_ne (tgt := 16) hx hb dX11_readTower_8 (by decide) (fun c8 => ?_) (fun c8 => ?_)
  · have h := h.1 c8
    exact J16 sM _ _ _ h hP hD hS hl
  · have h := h.2 c8
    refine lv_aload_n hx hb dX11_readTower_11 rfl (lv_at hl 0 rfl) ?_
    refine lv_iconst (v := (2 : Int32)) hx hb dX11_readTower_12 (by decide) ?_
    refine clVv (As := [.int (2 : Int32)]) (rest := []) (Wr := [((rM 3), .inl (cy 0, 14, .inl M_told)), ((rM 4), .inl (cy 0, 10, .inl M_place)), ((rM 5), .inl (cy 0, 10, .inl M_range)), ((rM 6), .inl (cy 0, 10, .inl M_voice)), ((rM 9), .inl (cy 0, 29, .inl M_read)), ((rM 11), .inl (cy 2, 10, .inl M_isFalse)), ((rM 13), .inl (cy 0, 500, .inl M_tape))]) (cq := (RX11, TX11, 56)) ⟨hx, hb, hml, hown, hts⟩ ⟨callB_of 1 hts (goodC mw1394) rfl rfl rfl (hts _ (tb mw15)) (hts _ (tb mw1391)) kdX11_wrong ⟨Nat.le_trans (by decide) hRf, Nat.le_trans (by decide) hRl⟩, hts _ (tb mw1393), hts _ (tb ms45)⟩ (ctX11_wrong l D cy ev h0 rM sM (2 : Int32) _ _ h) hE hK hP hD hS hA [0] [1, 2, 3, 4, 5, 6, 7] rfl rfl (by decide) (by decide) (by decide) 0 rfl rfl rfl hl.1 rfl (Nat.le_of_ble_eq_true rfl) ⟨Nat.zero_le _, Nat.zero_le _⟩ dX11_readTower_13 (fun sM_13 H locs h hP hD hS => ?_)
    have hP : va_P D clsX [((rM 3), .inl (cy 0, 14, .inl M_told)), ((rM 4), .inl (cy 0, 10, .inl M_place)), ((rM 5), .inl (cy 0, 10, .inl M_range)), ((rM 6), .inl (cy 0, 10, .inl M_voice)), ((rM 9), .inl (cy 0, 29, .inl M_read)), ((rM 11), .inl (cy 2, 10, .inl M_isFalse)), ((rM 13), .inl (cy 0, 500, .inl M_tape)), (h0, .inr (11, oX11 rM sM_13))] H := hP
    have hD : va_D A [((rM 3), .inl (cy 0, 14, .inl M_told)), ((rM 4), .inl (cy 0, 10, .inl M_place)), ((rM 5), .inl (cy 0, 10, .inl M_range)), ((rM 6), .inl (cy 0, 10, .inl M_voice)), ((rM 9), .inl (cy 0, 29, .inl M_read)), ((rM 11), .inl (cy 2, 10, .inl M_isFalse)), ((rM 13), .inl (cy 0, 500, .inl M_tape)), (h0, .inr (11, oX11 rM sM_13))] := hD
    exact J16 sM_13 _ _ _ h (hP.sub [7, 0, 1, 2, 3, 4, 5, 6] rfl) (hD.sub [7, 0, 1, 2, 3, 4, 5, 6] (by decide) rfl) hS hl
def wpX11_readWind_J30 (sM : AR) (M_told : AR) (M_tape : AR) (l1 : Int32) (post : AR → AR → Prop) : Prop := ∀ M_told_37 : AR, M_told_37 = upd M_told 11 l1 → wpX11_readNumber sM M_tape (0 : Int32) (3 : Int32) (fun r47 sM_47 => ∀ M_told_50 : AR, M_told_50 = upd M_told_37 12 r47 → post sM_47 M_told_50)
def wpX11_readWind_J19 (sM : AR) (M_told : AR) (M_tape : AR) (l1 : Int32) (post : AR → AR → Prop) : Prop := ((¬ (sM 21) = 0 → wpX11_readWind_J30 sM M_told M_tape l1 post) ∧ ((sM 21) = 0 → wpX11_stepOn sM M_tape (fun sM_27 => wpX11_readWind_J30 sM_27 M_told M_tape l1 post)))
def wpX11_readWind (sM : AR) (M_told : AR) (M_tape : AR) (post : AR → AR → Prop) : Prop := wpX11_which sM M_tape 37 4 (fun r5 => ((¬ r5 = (-1 : Int32) → wpX11_readWind_J19 sM M_told M_tape r5 post) ∧ (r5 = (-1 : Int32) → wpX11_wrong sM (1 : Int32) (fun sM_16 => wpX11_readWind_J19 sM_16 M_told M_tape r5 post))))
set_option maxHeartbeats 4000000 in
set_option maxRecDepth 100000 in
theorem ctX11_readWind (l : Launch) (D : va_G) (cy : Nat → ClassId) (ev : Nat → Nat) (h0 : Nat) (rM : Nat → Nat) (sM : AR) (M_told : AR) (M_tape : AR) (sz : Nat) (post : AR → AR → Prop) (h : wpX11_readWind sM M_told M_tape post) : Met l yX11_readWind (Cond.code yX11_readWind cX11_readWind 2 none :: TB) ({ frames := 6, cells := 0, slots := 0, locals := 245 }) (va_Pc [.ref h0] (PreX D cy ev [(h0, .inr (11, oX11 rM sM)), ((rM 3), .inl (cy 0, 14, .inl M_told)), ((rM 13), .inl (cy 0, 500, .inl M_tape)), ((rM 1), .inl (cy 5, 4, .inr (.inr (.inr (.inr (fun i => some (ev (2 * (37 + i)))))))))] sz)) (va_Qv (fun (u : AR × AR) => post (u.1) (u.2)) (fun u => BkX D cy [(h0, .inr (11, oX11 rM sM)), ((rM 3), .inl (cy 0, 14, .inl M_told)), ((rM 13), .inl (cy 0, 500, .inl M_tape)), ((rM 1), .inl (cy 5, 4, .inr (.inr (.inr (.inr (fun i => some (ev (2 * (37 + i)))))))))] sz [(h0, .inr (11, oX11 rM (u.1))), ((rM 3), .inl (cy 0, 14, .inl (u.2))), ((rM 13), .inl (cy 0, 500, .inl M_tape)), ((rM 1), .inl (cy 5, 4, .inr (.inr (.inr (.inr (fun i => some (ev (2 * (37 + i)))))))))]) (va_A [(h0, .inr (11, oX11 rM sM)), ((rM 3), .inl (cy 0, 14, .inl M_told)), ((rM 13), .inl (cy 0, 500, .inl M_tape)), ((rM 1), .inl (cy 5, 4, .inr (.inr (.inr (.inr (fun i => some (ev (2 * (37 + i)))))))))] sz)) 0 0 (va_A [(h0, .inr (11, oX11 rM sM)), ((rM 3), .inl (cy 0, 14, .inl M_told)), ((rM 13), .inl (cy 0, 500, .inl M_tape)), ((rM 1), .inl (cy 5, 4, .inr (.inr (.inr (.inr (fun i => some (ev (2 * (37 + i)))))))))] sz) := by
  refine ofWv (by decide) (Nat.le_of_ble_eq_true rfl) ?_
  intro p e s m args below meth c ls A R QQ hx hb hml hown hts hR hlk hE hK hP hD hS hA hl hret
  have hown : s.vm.findClass RX11 = some m.cls := hown
  have hRf : 6 ≤ R.frames := by rw [hR]; exact Nat.le_refl _
  have hRl : 245 ≤ R.locals := by rw [hR]; exact Nat.le_refl _
  clear hR
  have hl : lv_has ls 2 [(0, .ref h0)] := hl
  have J19 : ∀ (sM : AR) (l1 : Int32) (H : Heap) (locs : List Loc) (ls : Array Slot), wpX11_readWind_J19 sM M_told M_tape l1 post → va_P D clsX [(h0, .inr (11, oX11 rM sM)), ((rM 3), .inl (cy 0, 14, .inl M_told)), ((rM 13), .inl (cy 0, 500, .inl M_tape)), ((rM 1), .inl (cy 5, 4, .inr (.inr (.inr (.inr (fun i => some (ev (2 * (37 + i)))))))))] H → va_D A [(h0, .inr (11, oX11 rM sM)), ((rM 3), .inl (cy 0, 14, .inl M_told)), ((rM 13), .inl (cy 0, 500, .inl M_tape)), ((rM 1), .inl (cy 5, 4, .inr (.inr (.inr (.inr (fun i => some (ev (2 * (37 + i)))))))))] → va_S A s.heap H locs → lv_has ls 2 [(0, .ref h0), (1, .int l1)] → W p l e R s m args below meth c H locs 0 0 QQ (F0 m 19 ls []) := by
    intro sM l1 H locs ls h hP hD hS hl
    have J30 : ∀ (sM : AR) (l1 : Int32) (H : Heap) (locs : List Loc) (ls : Array Slot), wpX11_readWind_J30 sM M_told M_tape l1 post → va_P D clsX [(h0, .inr (11, oX11 rM sM)), ((rM 3), .inl (cy 0, 14, .inl M_told)), ((rM 13), .inl (cy 0, 500, .inl M_tape)), ((rM 1), .inl (cy 5, 4, .inr (.inr (.inr (.inr (fun i => some (ev (2 * (37 + i)))))))))] H → va_D A [(h0, .inr (11, oX11 rM sM)), ((rM 3), .inl (cy 0, 14, .inl M_told)), ((rM 13), .inl (cy 0, 500, .inl M_tape)), ((rM 1), .inl (cy 5, 4, .inr (.inr (.inr (.inr (fun i => some (ev (2 * (37 + i)))))))))] → va_S A s.heap H locs → lv_has ls 2 [(0, .ref h0), (1, .int l1)] → W p l e R s m args below meth c H locs 0 0 QQ (F0 m 30 ls []) := by
      intro sM l1 H locs ls h hP hD hS hl
      refine lv_aload_n hx hb dX11_readWind_30 rfl (lv_at hl 0 rfl) ?_
      refine gfX11_36 hx hb hts hown hK hP 0 rfl dX11_readWind_31 ?_
      refine lv_bipush (v := (11 : Int32)) hx hb dX11_readWind_34 (by decide) ?_
      refine lv_iload_n hx hb dX11_readWind_36 rfl (lv_at hl 1 rfl) ?_
      refine sti (k := 11) (y := l1) hx hb hK hP hD hS 1 rfl (inL (by decide)) (by decide) rfl dX11_readWind_37 (fun M_told_37 eM_told_37 H locs hP hD hS => ?_)
      have h := h M_told_37 eM_told_37
      have hP : va_P D clsX [(h0, .inr (11, oX11 rM sM)), ((rM 3), .inl (cy 0, 14, .inl M_told_37)), ((rM 13), .inl (cy 0, 500, .inl M_tape)), ((rM 1), .inl (cy 5, 4, .inr (.inr (.inr (.inr (fun i => some (ev (2 * (37 + i)))))))))] H := hP
      have hD : va_D A [(h0, .inr (11, oX11 rM sM)), ((rM 3), .inl (cy 0, 14, .inl M_told_37)), ((rM 13), .inl (cy 0, 500, .inl M_tape)), ((rM 1), .inl (cy 5, 4, .inr (.inr (.inr (.inr (fun i => some (ev (2 * (37 + i)))))))))] := hD
      refine lv_aload_n hx hb dX11_readWind_38 rfl (lv_at hl 0 rfl) ?_
      refine gfX11_36 hx hb hts hown hK hP 0 rfl dX11_readWind_39 ?_
      refine lv_bipush (v := (12 : Int32)) hx hb dX11_readWind_42 (by decide) ?_
      refine lv_aload_n hx hb dX11_readWind_44 rfl (lv_at hl 0 rfl) ?_
      refine lv_iconst (v := (0 : Int32)) hx hb dX11_readWind_45 (by decide) ?_
      refine lv_iconst (v := (3 : Int32)) hx hb dX11_readWind_46 (by decide) ?_
      refine clVi (As := [.int (0 : Int32), .int (3 : Int32)]) (rest := [.int (12 : Int32), .ref (rM 3)]) (Wr := [((rM 3), .inl (cy 0, 14, .inl M_told_37)), ((rM 1), .inl (cy 5, 4, .inr (.inr (.inr (.inr (fun i => some (ev (2 * (37 + i)))))))))]) (cq := (RX11, TX11, 56)) ⟨hx, hb, hml, hown, hts⟩ ⟨callB_of 2 hts (goodC mw1406) rfl rfl rfl (hts _ (tb mw15)) (hts _ (tb mw1403)) kdX11_readNumber ⟨Nat.le_trans (by decide) hRf, Nat.le_trans (by decide) hRl⟩, hts _ (tb mw1405), hts _ (tb ms48)⟩ (ctX11_readNumber l D cy ev h0 rM sM M_tape (0 : Int32) (3 : Int32) _ _ h) hE hK hP hD hS hA [0, 2] [1, 3] rfl rfl (by decide) (by decide) (by decide) 0 rfl rfl rfl hl.1 rfl (Nat.le_of_ble_eq_true rfl) ⟨Nat.zero_le _, Nat.zero_le _⟩ dX11_readWind_47 (fun r47 sM_47 H locs h hP hD hS => ?_)
      have hP : va_P D clsX [((rM 3), .inl (cy 0, 14, .inl M_told_37)), ((rM 1), .inl (cy 5, 4, .inr (.inr (.inr (.inr (fun i => some (ev (2 * (37 + i))))))))), (h0, .inr (11, oX11 rM sM_47)), ((rM 13), .inl (cy 0, 500, .inl M_tape))] H := hP
      have hD : va_D A [((rM 3), .inl (cy 0, 14, .inl M_told_37)), ((rM 1), .inl (cy 5, 4, .inr (.inr (.inr (.inr (fun i => some (ev (2 * (37 + i))))))))), (h0, .inr (11, oX11 rM sM_47)), ((rM 13), .inl (cy 0, 500, .inl M_tape))] := hD
      refine sti (k := 12) (y := r47) hx hb hK hP hD hS 0 rfl (inL (by decide)) (by decide) rfl dX11_readWind_50 (fun M_told_50 eM_told_50 H locs hP hD hS => ?_)
      have h := h M_told_50 eM_told_50
      have hP : va_P D clsX [((rM 3), .inl (cy 0, 14, .inl M_told_50)), ((rM 1), .inl (cy 5, 4, .inr (.inr (.inr (.inr (fun i => some (ev (2 * (37 + i))))))))), (h0, .inr (11, oX11 rM sM_47)), ((rM 13), .inl (cy 0, 500, .inl M_tape))] H := hP
      have hD : va_D A [((rM 3), .inl (cy 0, 14, .inl M_told_50)), ((rM 1), .inl (cy 5, 4, .inr (.inr (.inr (.inr (fun i => some (ev (2 * (37 + i))))))))), (h0, .inr (11, oX11 rM sM_47)), ((rM 13), .inl (cy 0, 500, .inl M_tape))] := hD
      exact hret (sM_47, M_told_50) _ _ _ _ dX11_readWind_51 h (hP.sub [2, 0, 3, 1] rfl) (hD.sub [2, 0, 3, 1] (by decide) rfl) hS
    refine lv_aload_n hx hb dX11_readWind_19 rfl (lv_at hl 0 rfl) ?_
    refine gfX11_181 (v := (sM 21)) hx hb hts hown hK hP 0 rfl rfl dX11_readWind_20 ?_
    refine lv_if_ne (tgt := 30) hx hb dX11_readWind_23 (by decide) (fun c23 => ?_) (fun c23 => ?_)
    · have h := h.1 c23
      exact J30 sM l1 _ _ _ h hP hD hS hl
    · have h := h.2 c23
      refine lv_aload_n hx hb dX11_readWind_26 rfl (lv_at hl 0 rfl) ?_
      refine clVv (As := []) (rest := []) (Wr := [((rM 3), .inl (cy 0, 14, .inl M_told)), ((rM 1), .inl (cy 5, 4, .inr (.inr (.inr (.inr (fun i => some (ev (2 * (37 + i)))))))))]) (cq := (RX11, TX11, 56)) ⟨hx, hb, hml, hown, hts⟩ ⟨callB_of 0 hts (goodC mw1358) rfl rfl rfl (hts _ (tb mw15)) (hts _ (tb mw1355)) kdX11_stepOn ⟨Nat.le_trans (by decide) hRf, Nat.le_trans (by decide) hRl⟩, hts _ (tb mw1357), hts _ (tb ms39)⟩ (ctX11_stepOn l D cy ev h0 rM sM M_tape  _ _ h) hE hK hP hD hS hA [0, 2] [1, 3] rfl rfl (by decide) (by decide) (by decide) 0 rfl rfl rfl hl.1 rfl (Nat.le_of_ble_eq_true rfl) ⟨Nat.zero_le _, Nat.zero_le _⟩ dX11_readWind_27 (fun sM_27 H locs h hP hD hS => ?_)
      have hP : va_P D clsX [((rM 3), .inl (cy 0, 14, .inl M_told)), ((rM 1), .inl (cy 5, 4, .inr (.inr (.inr (.inr (fun i => some (ev (2 * (37 + i))))))))), (h0, .inr (11, oX11 rM sM_27)), ((rM 13), .inl (cy 0, 500, .inl M_tape))] H := hP
      have hD : va_D A [((rM 3), .inl (cy 0, 14, .inl M_told)), ((rM 1), .inl (cy 5, 4, .inr (.inr (.inr (.inr (fun i => some (ev (2 * (37 + i))))))))), (h0, .inr (11, oX11 rM sM_27)), ((rM 13), .inl (cy 0, 500, .inl M_tape))] := hD
      exact J30 sM_27 l1 _ _ _ h (hP.sub [2, 0, 3, 1] rfl) (hD.sub [2, 0, 3, 1] (by decide) rfl) hS hl
  refine lv_aload_n hx hb dX11_readWind_0 rfl (lv_at hl 0 rfl) ?_
  refine lv_aload_n hx hb dX11_readWind_1 rfl (lv_at hl 0 rfl) ?_
  refine gfX11_33 hx hb hts hown hK hP 0 rfl dX11_readWind_2 ?_
  refine clVi (As := [.ref (rM 1)]) (rest := []) (Wr := [((rM 3), .inl (cy 0, 14, .inl M_told))]) (cq := (RX11, TX11, 56)) ⟨hx, hb, hml, hown, hts⟩ ⟨callB_of 1 hts (goodC mw1381) rfl rfl rfl (hts _ (tb mw15)) (hts _ (tb mw1378)) kdX11_which ⟨Nat.le_trans (by decide) hRf, Nat.le_trans (by decide) hRl⟩, hts _ (tb mw1380), hts _ (tb ms43)⟩ (ctX11_which l D cy ev h0 (rM 1) rM sM M_tape 37 4  _ _ h) hE hK hP hD hS hA [0, 2, 3] [1] rfl rfl (by decide) (by decide) (by decide) 0 rfl rfl rfl hl.1 rfl (Nat.le_of_ble_eq_true rfl) ⟨Nat.zero_le _, Nat.zero_le _⟩ dX11_readWind_5 (fun r5 u H locs h hP hD hS => ?_)
  have hP : va_P D clsX [((rM 3), .inl (cy 0, 14, .inl M_told)), (h0, .inr (11, oX11 rM sM)), ((rM 13), .inl (cy 0, 500, .inl M_tape)), ((rM 1), .inl (cy 5, 4, .inr (.inr (.inr (.inr (fun i => some (ev (2 * (37 + i)))))))))] H := hP
  have hD : va_D A [((rM 3), .inl (cy 0, 14, .inl M_told)), (h0, .inr (11, oX11 rM sM)), ((rM 13), .inl (cy 0, 500, .inl M_tape)), ((rM 1), .inl (cy 5, 4, .inr (.inr (.inr (.inr (fun i => some (ev (2 * (37 + i)))))))))] := hD
  refine lv_istore_n (lv' := [(1, .int r5), (0, .ref h0)]) hx hb dX11_readWind_8 rfl hl (by decide) rfl (fun ls hl => ?_)
  refine lv_iload_n hx hb dX11_readWind_9 rfl (lv_at hl 0 rfl) ?_
  refine lv_iconst (v := (-1 : Int32)) hx hb dX11_readWind_10 (by decide) ?_
  refine lv_icmp_ne (tgt := 19) hx hb dX11_readWind_11 (by decide) (fun c11 => ?_) (fun c11 => ?_)
  · have h := h.1 c11
    exact J19 sM r5 _ _ _ h (hP.sub [1, 0, 2, 3] rfl) (hD.sub [1, 0, 2, 3] (by decide) rfl) hS (lv_sub hl [1, 0] rfl)
  · have h := h.2 c11
    refine lv_aload_n hx hb dX11_readWind_14 rfl (lv_at hl 1 rfl) ?_
    refine lv_iconst (v := (1 : Int32)) hx hb dX11_readWind_15 (by decide) ?_
    refine clVv (As := [.int (1 : Int32)]) (rest := []) (Wr := [((rM 3), .inl (cy 0, 14, .inl M_told)), ((rM 13), .inl (cy 0, 500, .inl M_tape)), ((rM 1), .inl (cy 5, 4, .inr (.inr (.inr (.inr (fun i => some (ev (2 * (37 + i)))))))))]) (cq := (RX11, TX11, 56)) ⟨hx, hb, hml, hown, hts⟩ ⟨callB_of 1 hts (goodC mw1394) rfl rfl rfl (hts _ (tb mw15)) (hts _ (tb mw1391)) kdX11_wrong ⟨Nat.le_trans (by decide) hRf, Nat.le_trans (by decide) hRl⟩, hts _ (tb mw1393), hts _ (tb ms45)⟩ (ctX11_wrong l D cy ev h0 rM sM (1 : Int32) _ _ h) hE hK hP hD hS hA [1] [0, 2, 3] rfl rfl (by decide) (by decide) (by decide) 0 rfl rfl rfl hl.1 rfl (Nat.le_of_ble_eq_true rfl) ⟨Nat.zero_le _, Nat.zero_le _⟩ dX11_readWind_16 (fun sM_16 H locs h hP hD hS => ?_)
    have hP : va_P D clsX [((rM 3), .inl (cy 0, 14, .inl M_told)), ((rM 13), .inl (cy 0, 500, .inl M_tape)), ((rM 1), .inl (cy 5, 4, .inr (.inr (.inr (.inr (fun i => some (ev (2 * (37 + i))))))))), (h0, .inr (11, oX11 rM sM_16))] H := hP
    have hD : va_D A [((rM 3), .inl (cy 0, 14, .inl M_told)), ((rM 13), .inl (cy 0, 500, .inl M_tape)), ((rM 1), .inl (cy 5, 4, .inr (.inr (.inr (.inr (fun i => some (ev (2 * (37 + i))))))))), (h0, .inr (11, oX11 rM sM_16))] := hD
    exact J19 sM_16 r5 _ _ _ h (hP.sub [3, 0, 1, 2] rfl) (hD.sub [3, 0, 1, 2] (by decide) rfl) hS (lv_sub hl [1, 0] rfl)
def wpX11_readLine_J215 (sM : AR) (M_told : AR) (M_place : AR) (M_range : AR) (M_voice : AR) (M_kind : AR) (M_read : AR) (M_isFalse : AR) (M_isMirage : AR) (M_tape : AR) (l1 : Int32) (l3 : Int32) (post : Int32 → AR → AR → AR → AR → AR → AR → AR → AR → AR → Prop) : Prop := wpX11_mark sM M_tape (59 : Int32) (fun sM_218 => post (l1 ||| l3) sM_218 M_told M_place M_range M_voice M_kind M_read M_isFalse M_isMirage)
def wpX11_readLine_J153 (sM : AR) (M_told : AR) (M_place : AR) (M_range : AR) (M_voice : AR) (M_kind : AR) (M_read : AR) (M_isFalse : AR) (M_isMirage : AR) (M_tape : AR) (l1 : Int32) (l3 : Int32) (post : Int32 → AR → AR → AR → AR → AR → AR → AR → AR → AR → Prop) : Prop := ((¬ l3 = (1 : Int32) → ((¬ l3 = (2 : Int32) → wpX11_readNumber sM M_tape (0 : Int32) (9 : Int32) (fun r211 sM_211 => ∀ M_told_214 : AR, M_told_214 = upd M_told 13 r211 → wpX11_readLine_J215 sM_211 M_told_214 M_place M_range M_voice M_kind M_read M_isFalse M_isMirage M_tape l1 l3 post)) ∧ (l3 = (2 : Int32) → wpX11_readWind sM M_told M_tape (fun sM_195 M_told_195 => wpX11_readLine_J215 sM_195 M_told_195 M_place M_range M_voice M_kind M_read M_isFalse M_isMirage M_tape l1 l3 post)))) ∧ (l3 = (1 : Int32) → wpX11_readNumber sM M_tape (2 : Int32) (10 : Int32) (fun r168 sM_168 => ∀ M_told_171 : AR, M_told_171 = upd M_told 7 r168 → wpX11_readNumber sM_168 M_tape (2 : Int32) (10 : Int32) (fun r182 sM_182 => ∀ M_told_185 : AR, M_told_185 = upd M_told_171 8 r182 → wpX11_readLine_J215 sM_182 M_told_185 M_place M_range M_voice M_kind M_read M_isFalse M_isMirage M_tape l1 l3 post))))
def wpX11_readLine_J142 (sM : AR) (M_told : AR) (M_place : AR) (M_range : AR) (M_voice : AR) (M_kind : AR) (M_read : AR) (M_isFalse : AR) (M_isMirage : AR) (M_tape : AR) (l1 : Int32) (l3 : Int32) (post : Int32 → AR → AR → AR → AR → AR → AR → AR → AR → AR → Prop) : Prop := ((¬ (sM 21) = 0 → wpX11_readLine_J153 sM M_told M_place M_range M_voice M_kind M_read M_isFalse M_isMirage M_tape l1 l3 post) ∧ ((sM 21) = 0 → wpX11_stepOn sM M_tape (fun sM_150 => wpX11_readLine_J153 sM_150 M_told M_place M_range M_voice M_kind M_read M_isFalse M_isMirage M_tape l1 l3 post)))
def wpX11_readLine_J86 (sM : AR) (M_told : AR) (M_place : AR) (M_range : AR) (M_voice : AR) (M_kind : AR) (M_read : AR) (M_isFalse : AR) (M_isMirage : AR) (M_tape : AR) (l1 : Int32) (l2 : Int32) (l3 : Int32) (post : Int32 → AR → AR → AR → AR → AR → AR → AR → AR → AR → Prop) : Prop := ((l2 = (-1 : Int32) → wpX11_is sM M_tape 44 (fun r102 => ((r102 = 0 → wpX11_passes sM M_tape 47 (fun r118 sM_118 => ((r118 = 0 → ((¬ l3 = (8 : Int32) → wpX11_readLine_J142 sM_118 M_told M_place M_range M_voice M_kind M_read M_isFalse M_isMirage M_tape l1 l3 post) ∧ (l3 = (8 : Int32) → wpX11_wrong sM_118 (1 : Int32) (fun sM_139 => wpX11_readLine_J142 sM_139 M_told M_place M_range M_voice M_kind M_read M_isFalse M_isMirage M_tape l1 l3 post)))) ∧ (¬ r118 = 0 → wpX11_readMirage sM_118 M_told M_isMirage M_tape (fun sM_125 M_isMirage_125 => wpX11_readLine_J215 sM_125 M_told M_place M_range M_voice M_kind M_read M_isFalse M_isMirage_125 M_tape l1 l3 post))))) ∧ (¬ r102 = 0 → wpX11_readTower sM M_told M_place M_range M_voice M_read M_isFalse M_tape (fun sM_109 M_told_109 M_place_109 M_range_109 M_voice_109 M_read_109 M_isFalse_109 => wpX11_readLine_J215 sM_109 M_told_109 M_place_109 M_range_109 M_voice_109 M_kind M_read_109 M_isFalse_109 M_isMirage M_tape l1 l3 post))))) ∧ (¬ l2 = (-1 : Int32) → wpX11_readWalker sM M_told M_kind M_read M_tape l2 (fun sM_93 M_told_93 M_kind_93 M_read_93 => wpX11_readLine_J215 sM_93 M_told_93 M_place M_range M_voice M_kind_93 M_read_93 M_isFalse M_isMirage M_tape l1 l3 post)))
def wpX11_readLine_J75 (sM : AR) (M_told : AR) (M_place : AR) (M_range : AR) (M_voice : AR) (M_kind : AR) (M_read : AR) (M_isFalse : AR) (M_isMirage : AR) (M_tape : AR) (l1 : Int32) (l2 : Int32) (l3 : Int32) (post : Int32 → AR → AR → AR → AR → AR → AR → AR → AR → AR → Prop) : Prop := (((l1 &&& l3) = 0 → wpX11_readLine_J86 sM M_told M_place M_range M_voice M_kind M_read M_isFalse M_isMirage M_tape l1 l2 l3 post) ∧ (¬ (l1 &&& l3) = 0 → wpX11_wrong sM (4 : Int32) (fun sM_83 => wpX11_readLine_J86 sM_83 M_told M_place M_range M_voice M_kind M_read M_isFalse M_isMirage M_tape l1 l2 l3 post)))
def wpX11_readLine_J65 (sM : AR) (M_told : AR) (M_place : AR) (M_range : AR) (M_voice : AR) (M_kind : AR) (M_read : AR) (M_isFalse : AR) (M_isMirage : AR) (M_tape : AR) (l1 : Int32) (l2 : Int32) (l3 : Int32) (post : Int32 → AR → AR → AR → AR → AR → AR → AR → AR → AR → Prop) : Prop := ((l3 = (2 : Int32) → wpX11_readLine_J75 sM M_told M_place M_range M_voice M_kind M_read M_isFalse M_isMirage M_tape l1 l2 l3 post) ∧ (¬ l3 = (2 : Int32) → ((¬ l3 = (4 : Int32) → wpX11_readLine_J86 sM M_told M_place M_range M_voice M_kind M_read M_isFalse M_isMirage M_tape l1 l2 l3 post) ∧ (l3 = (4 : Int32) → wpX11_readLine_J75 sM M_told M_place M_range M_voice M_kind M_read M_isFalse M_isMirage M_tape l1 l2 l3 post))))
def wpX11_readLine_J50 (sM : AR) (M_told : AR) (M_place : AR) (M_range : AR) (M_voice : AR) (M_kind : AR) (M_read : AR) (M_isFalse : AR) (M_isMirage : AR) (M_tape : AR) (l1 : Int32) (l2 : Int32) (t0 : Int32) (post : Int32 → AR → AR → AR → AR → AR → AR → AR → AR → AR → Prop) : Prop := ((¬ t0 = (1 : Int32) → wpX11_readLine_J65 sM M_told M_place M_range M_voice M_kind M_read M_isFalse M_isMirage M_tape l1 l2 t0 post) ∧ (t0 = (1 : Int32) → ((l1 = 0 → wpX11_readLine_J65 sM M_told M_place M_range M_voice M_kind M_read M_isFalse M_isMirage M_tape l1 l2 t0 post) ∧ (¬ l1 = 0 → wpX11_wrong sM (3 : Int32) (fun sM_62 => wpX11_readLine_J65 sM_62 M_told M_place M_range M_voice M_kind M_read M_isFalse M_isMirage M_tape l1 l2 t0 post)))))
def wpX11_readLine (sM : AR) (M_told : AR) (M_place : AR) (M_range : AR) (M_voice : AR) (M_kind : AR) (M_read : AR) (M_isFalse : AR) (M_isMirage : AR) (M_tape : AR) (x1 : Int32) (post : Int32 → AR → AR → AR → AR → AR → AR → AR → AR → AR → Prop) : Prop := wpX11_which sM M_tape 32 5 (fun r5 => wpX11_is sM M_tape 41 (fun r12 => ((r12 = 0 → wpX11_is sM M_tape 42 (fun r25 => ((r25 = 0 → wpX11_is sM M_tape 43 (fun r38 => ((r38 = 0 → wpX11_readLine_J50 sM M_told M_place M_range M_voice M_kind M_read M_isFalse M_isMirage M_tape x1 r5 (8 : Int32) post) ∧ (¬ r38 = 0 → wpX11_readLine_J50 sM M_told M_place M_range M_voice M_kind M_read M_isFalse M_isMirage M_tape x1 r5 (4 : Int32) post)))) ∧ (¬ r25 = 0 → wpX11_readLine_J50 sM M_told M_place M_range M_voice M_kind M_read M_isFalse M_isMirage M_tape x1 r5 (2 : Int32) post)))) ∧ (¬ r12 = 0 → wpX11_readLine_J50 sM M_told M_place M_range M_voice M_kind M_read M_isFalse M_isMirage M_tape x1 r5 (1 : Int32) post))))
set_option maxHeartbeats 4000000 in
set_option maxRecDepth 100000 in
theorem ctX11_readLine (l : Launch) (D : va_G) (cy : Nat → ClassId) (ev : Nat → Nat) (h0 : Nat) (rM : Nat → Nat) (sM : AR) (M_told : AR) (M_place : AR) (M_range : AR) (M_voice : AR) (M_kind : AR) (M_read : AR) (M_isFalse : AR) (M_isMirage : AR) (M_tape : AR) (x1 : Int32) (sz : Nat) (post : Int32 → AR → AR → AR → AR → AR → AR → AR → AR → AR → Prop) (h : wpX11_readLine sM M_told M_place M_range M_voice M_kind M_read M_isFalse M_isMirage M_tape x1 post) : Met l yX11_readLine (Cond.code yX11_readLine cX11_readLine 4 (some .int) :: TB) ({ frames := 7, cells := 0, slots := 0, locals := 269 }) (va_Pc [.ref h0, .int x1] (PreX D cy ev [(h0, .inr (11, oX11 rM sM)), ((rM 3), .inl (cy 0, 14, .inl M_told)), ((rM 4), .inl (cy 0, 10, .inl M_place)), ((rM 5), .inl (cy 0, 10, .inl M_range)), ((rM 6), .inl (cy 0, 10, .inl M_voice)), ((rM 7), .inl (cy 0, 8, .inl M_kind)), ((rM 9), .inl (cy 0, 29, .inl M_read)), ((rM 11), .inl (cy 2, 10, .inl M_isFalse)), ((rM 12), .inl (cy 2, 200, .inl M_isMirage)), ((rM 13), .inl (cy 0, 500, .inl M_tape)), ((rM 0), .inl (cy 5, 5, .inr (.inr (.inr (.inr (fun i => some (ev (2 * (32 + i))))))))), ((rM 1), .inl (cy 5, 4, .inr (.inr (.inr (.inr (fun i => some (ev (2 * (37 + i)))))))))] sz)) (va_Qi (fun (r : Int32) (u : AR × AR × AR × AR × AR × AR × AR × AR × AR) => post r (u.1) (u.2.1) (u.2.2.1) (u.2.2.2.1) (u.2.2.2.2.1) (u.2.2.2.2.2.1) (u.2.2.2.2.2.2.1) (u.2.2.2.2.2.2.2.1) (u.2.2.2.2.2.2.2.2)) (fun u => BkX D cy [(h0, .inr (11, oX11 rM sM)), ((rM 3), .inl (cy 0, 14, .inl M_told)), ((rM 4), .inl (cy 0, 10, .inl M_place)), ((rM 5), .inl (cy 0, 10, .inl M_range)), ((rM 6), .inl (cy 0, 10, .inl M_voice)), ((rM 7), .inl (cy 0, 8, .inl M_kind)), ((rM 9), .inl (cy 0, 29, .inl M_read)), ((rM 11), .inl (cy 2, 10, .inl M_isFalse)), ((rM 12), .inl (cy 2, 200, .inl M_isMirage)), ((rM 13), .inl (cy 0, 500, .inl M_tape)), ((rM 0), .inl (cy 5, 5, .inr (.inr (.inr (.inr (fun i => some (ev (2 * (32 + i))))))))), ((rM 1), .inl (cy 5, 4, .inr (.inr (.inr (.inr (fun i => some (ev (2 * (37 + i)))))))))] sz [(h0, .inr (11, oX11 rM (u.1))), ((rM 3), .inl (cy 0, 14, .inl (u.2.1))), ((rM 4), .inl (cy 0, 10, .inl (u.2.2.1))), ((rM 5), .inl (cy 0, 10, .inl (u.2.2.2.1))), ((rM 6), .inl (cy 0, 10, .inl (u.2.2.2.2.1))), ((rM 7), .inl (cy 0, 8, .inl (u.2.2.2.2.2.1))), ((rM 9), .inl (cy 0, 29, .inl (u.2.2.2.2.2.2.1))), ((rM 11), .inl (cy 2, 10, .inl (u.2.2.2.2.2.2.2.1))), ((rM 12), .inl (cy 2, 200, .inl (u.2.2.2.2.2.2.2.2))), ((rM 13), .inl (cy 0, 500, .inl M_tape)), ((rM 0), .inl (cy 5, 5, .inr (.inr (.inr (.inr (fun i => some (ev (2 * (32 + i))))))))), ((rM 1), .inl (cy 5, 4, .inr (.inr (.inr (.inr (fun i => some (ev (2 * (37 + i)))))))))]) (va_A [(h0, .inr (11, oX11 rM sM)), ((rM 3), .inl (cy 0, 14, .inl M_told)), ((rM 4), .inl (cy 0, 10, .inl M_place)), ((rM 5), .inl (cy 0, 10, .inl M_range)), ((rM 6), .inl (cy 0, 10, .inl M_voice)), ((rM 7), .inl (cy 0, 8, .inl M_kind)), ((rM 9), .inl (cy 0, 29, .inl M_read)), ((rM 11), .inl (cy 2, 10, .inl M_isFalse)), ((rM 12), .inl (cy 2, 200, .inl M_isMirage)), ((rM 13), .inl (cy 0, 500, .inl M_tape)), ((rM 0), .inl (cy 5, 5, .inr (.inr (.inr (.inr (fun i => some (ev (2 * (32 + i))))))))), ((rM 1), .inl (cy 5, 4, .inr (.inr (.inr (.inr (fun i => some (ev (2 * (37 + i)))))))))] sz)) 0 0 (va_A [(h0, .inr (11, oX11 rM sM)), ((rM 3), .inl (cy 0, 14, .inl M_told)), ((rM 4), .inl (cy 0, 10, .inl M_place)), ((rM 5), .inl (cy 0, 10, .inl M_range)), ((rM 6), .inl (cy 0, 10, .inl M_voice)), ((rM 7), .inl (cy 0, 8, .inl M_kind)), ((rM 9), .inl (cy 0, 29, .inl M_read)), ((rM 11), .inl (cy 2, 10, .inl M_isFalse)), ((rM 12), .inl (cy 2, 200, .inl M_isMirage)), ((rM 13), .inl (cy 0, 500, .inl M_tape)), ((rM 0), .inl (cy 5, 5, .inr (.inr (.inr (.inr (fun i => some (ev (2 * (32 + i))))))))), ((rM 1), .inl (cy 5, 4, .inr (.inr (.inr (.inr (fun i => some (ev (2 * (37 + i)))))))))] sz) := by
  refine ofWi (by decide) (Nat.le_of_ble_eq_true rfl) ?_
  intro p e s m args below meth c ls A R QQ hx hb hml hown hts hR hlk hE hK hP hD hS hA hl hret
  have hown : s.vm.findClass RX11 = some m.cls := hown
  have hRf : 7 ≤ R.frames := by rw [hR]; exact Nat.le_refl _
  have hRl : 269 ≤ R.locals := by rw [hR]; exact Nat.le_refl _
  clear hR
  have hl : lv_has ls 4 [(0, .ref h0), (1, .int x1)] := hl
  have J50 : ∀ (l1 : Int32) (l2 : Int32) (t0 : Int32) (H : Heap) (locs : List Loc) (ls : Array Slot), wpX11_readLine_J50 sM M_told M_place M_range M_voice M_kind M_read M_isFalse M_isMirage M_tape l1 l2 t0 post → va_P D clsX [(h0, .inr (11, oX11 rM sM)), ((rM 3), .inl (cy 0, 14, .inl M_told)), ((rM 4), .inl (cy 0, 10, .inl M_place)), ((rM 5), .inl (cy 0, 10, .inl M_range)), ((rM 6), .inl (cy 0, 10, .inl M_voice)), ((rM 7), .inl (cy 0, 8, .inl M_kind)), ((rM 9), .inl (cy 0, 29, .inl M_read)), ((rM 11), .inl (cy 2, 10, .inl M_isFalse)), ((rM 12), .inl (cy 2, 200, .inl M_isMirage)), ((rM 13), .inl (cy 0, 500, .inl M_tape)), ((rM 0), .inl (cy 5, 5, .inr (.inr (.inr (.inr (fun i => some (ev (2 * (32 + i))))))))), ((rM 1), .inl (cy 5, 4, .inr (.inr (.inr (.inr (fun i => some (ev (2 * (37 + i)))))))))] H → va_D A [(h0, .inr (11, oX11 rM sM)), ((rM 3), .inl (cy 0, 14, .inl M_told)), ((rM 4), .inl (cy 0, 10, .inl M_place)), ((rM 5), .inl (cy 0, 10, .inl M_range)), ((rM 6), .inl (cy 0, 10, .inl M_voice)), ((rM 7), .inl (cy 0, 8, .inl M_kind)), ((rM 9), .inl (cy 0, 29, .inl M_read)), ((rM 11), .inl (cy 2, 10, .inl M_isFalse)), ((rM 12), .inl (cy 2, 200, .inl M_isMirage)), ((rM 13), .inl (cy 0, 500, .inl M_tape)), ((rM 0), .inl (cy 5, 5, .inr (.inr (.inr (.inr (fun i => some (ev (2 * (32 + i))))))))), ((rM 1), .inl (cy 5, 4, .inr (.inr (.inr (.inr (fun i => some (ev (2 * (37 + i)))))))))] → va_S A s.heap H locs → lv_has ls 4 [(0, .ref h0), (1, .int l1), (2, .int l2)] → W p l e R s m args below meth c H locs 0 0 QQ (F0 m 50 ls [.int t0]) := by
    intro l1 l2 t0 H locs ls h hP hD hS hl
    have J65 : ∀ (sM : AR) (l1 : Int32) (l2 : Int32) (l3 : Int32) (H : Heap) (locs : List Loc) (ls : Array Slot), wpX11_readLine_J65 sM M_told M_place M_range M_voice M_kind M_read M_isFalse M_isMirage M_tape l1 l2 l3 post → va_P D clsX [(h0, .inr (11, oX11 rM sM)), ((rM 3), .inl (cy 0, 14, .inl M_told)), ((rM 4), .inl (cy 0, 10, .inl M_place)), ((rM 5), .inl (cy 0, 10, .inl M_range)), ((rM 6), .inl (cy 0, 10, .inl M_voice)), ((rM 7), .inl (cy 0, 8, .inl M_kind)), ((rM 9), .inl (cy 0, 29, .inl M_read)), ((rM 11), .inl (cy 2, 10, .inl M_isFalse)), ((rM 12), .inl (cy 2, 200, .inl M_isMirage)), ((rM 13), .inl (cy 0, 500, .inl M_tape)), ((rM 0), .inl (cy 5, 5, .inr (.inr (.inr (.inr (fun i => some (ev (2 * (32 + i))))))))), ((rM 1), .inl (cy 5, 4, .inr (.inr (.inr (.inr (fun i => some (ev (2 * (37 + i)))))))))] H → va_D A [(h0, .inr (11, oX11 rM sM)), ((rM 3), .inl (cy 0, 14, .inl M_told)), ((rM 4), .inl (cy 0, 10, .inl M_place)), ((rM 5), .inl (cy 0, 10, .inl M_range)), ((rM 6), .inl (cy 0, 10, .inl M_voice)), ((rM 7), .inl (cy 0, 8, .inl M_kind)), ((rM 9), .inl (cy 0, 29, .inl M_read)), ((rM 11), .inl (cy 2, 10, .inl M_isFalse)), ((rM 12), .inl (cy 2, 200, .inl M_isMirage)), ((rM 13), .inl (cy 0, 500, .inl M_tape)), ((rM 0), .inl (cy 5, 5, .inr (.inr (.inr (.inr (fun i => some (ev (2 * (32 + i))))))))), ((rM 1), .inl (cy 5, 4, .inr (.inr (.inr (.inr (fun i => some (ev (2 * (37 + i)))))))))] → va_S A s.heap H locs → lv_has ls 4 [(0, .ref h0), (1, .int l1), (2, .int l2), (3, .int l3)] → W p l e R s m args below meth c H locs 0 0 QQ (F0 m 65 ls []) := by
      intro sM l1 l2 l3 H locs ls h hP hD hS hl
      have J86 : ∀ (sM : AR) (l1 : Int32) (l2 : Int32) (l3 : Int32) (H : Heap) (locs : List Loc) (ls : Array Slot), wpX11_readLine_J86 sM M_told M_place M_range M_voice M_kind M_read M_isFalse M_isMirage M_tape l1 l2 l3 post → va_P D clsX [(h0, .inr (11, oX11 rM sM)), ((rM 3), .inl (cy 0, 14, .inl M_told)), ((rM 4), .inl (cy 0, 10, .inl M_place)), ((rM 5), .inl (cy 0, 10, .inl M_range)), ((rM 6), .inl (cy 0, 10, .inl M_voice)), ((rM 7), .inl (cy 0, 8, .inl M_kind)), ((rM 9), .inl (cy 0, 29, .inl M_read)), ((rM 11), .inl (cy 2, 10, .inl M_isFalse)), ((rM 12), .inl (cy 2, 200, .inl M_isMirage)), ((rM 13), .inl (cy 0, 500, .inl M_tape)), ((rM 0), .inl (cy 5, 5, .inr (.inr (.inr (.inr (fun i => some (ev (2 * (32 + i))))))))), ((rM 1), .inl (cy 5, 4, .inr (.inr (.inr (.inr (fun i => some (ev (2 * (37 + i)))))))))] H → va_D A [(h0, .inr (11, oX11 rM sM)), ((rM 3), .inl (cy 0, 14, .inl M_told)), ((rM 4), .inl (cy 0, 10, .inl M_place)), ((rM 5), .inl (cy 0, 10, .inl M_range)), ((rM 6), .inl (cy 0, 10, .inl M_voice)), ((rM 7), .inl (cy 0, 8, .inl M_kind)), ((rM 9), .inl (cy 0, 29, .inl M_read)), ((rM 11), .inl (cy 2, 10, .inl M_isFalse)), ((rM 12), .inl (cy 2, 200, .inl M_isMirage)), ((rM 13), .inl (cy 0, 500, .inl M_tape)), ((rM 0), .inl (cy 5, 5, .inr (.inr (.inr (.inr (fun i => some (ev (2 * (32 + i))))))))), ((rM 1), .inl (cy 5, 4, .inr (.inr (.inr (.inr (fun i => some (ev (2 * (37 + i)))))))))] → va_S A s.heap H locs → lv_has ls 4 [(0, .ref h0), (1, .int l1), (2, .int l2), (3, .int l3)] → W p l e R s m args below meth c H locs 0 0 QQ (F0 m 86 ls []) := by
        intro sM l1 l2 l3 H locs ls h hP hD hS hl
        have J215 : ∀ (sM : AR) (M_told : AR) (M_place : AR) (M_range : AR) (M_voice : AR) (M_kind : AR) (M_read : AR) (M_isFalse : AR) (M_isMirage : AR) (l1 : Int32) (l3 : Int32) (H : Heap) (locs : List Loc) (ls : Array Slot), wpX11_readLine_J215 sM M_told M_place M_range M_voice M_kind M_read M_isFalse M_isMirage M_tape l1 l3 post → va_P D clsX [(h0, .inr (11, oX11 rM sM)), ((rM 3), .inl (cy 0, 14, .inl M_told)), ((rM 4), .inl (cy 0, 10, .inl M_place)), ((rM 5), .inl (cy 0, 10, .inl M_range)), ((rM 6), .inl (cy 0, 10, .inl M_voice)), ((rM 7), .inl (cy 0, 8, .inl M_kind)), ((rM 9), .inl (cy 0, 29, .inl M_read)), ((rM 11), .inl (cy 2, 10, .inl M_isFalse)), ((rM 12), .inl (cy 2, 200, .inl M_isMirage)), ((rM 13), .inl (cy 0, 500, .inl M_tape)), ((rM 0), .inl (cy 5, 5, .inr (.inr (.inr (.inr (fun i => some (ev (2 * (32 + i))))))))), ((rM 1), .inl (cy 5, 4, .inr (.inr (.inr (.inr (fun i => some (ev (2 * (37 + i)))))))))] H → va_D A [(h0, .inr (11, oX11 rM sM)), ((rM 3), .inl (cy 0, 14, .inl M_told)), ((rM 4), .inl (cy 0, 10, .inl M_place)), ((rM 5), .inl (cy 0, 10, .inl M_range)), ((rM 6), .inl (cy 0, 10, .inl M_voice)), ((rM 7), .inl (cy 0, 8, .inl M_kind)), ((rM 9), .inl (cy 0, 29, .inl M_read)), ((rM 11), .inl (cy 2, 10, .inl M_isFalse)), ((rM 12), .inl (cy 2, 200, .inl M_isMirage)), ((rM 13), .inl (cy 0, 500, .inl M_tape)), ((rM 0), .inl (cy 5, 5, .inr (.inr (.inr (.inr (fun i => some (ev (2 * (32 + i))))))))), ((rM 1), .inl (cy 5, 4, .inr (.inr (.inr (.inr (fun i => some (ev (2 * (37 + i)))))))))] → va_S A s.heap H locs → lv_has ls 4 [(0, .ref h0), (1, .int l1), (3, .int l3)] → W p l e R s m args below meth c H locs 0 0 QQ (F0 m 215 ls []) := by
          intro sM M_told M_place M_range M_voice M_kind M_read M_isFalse M_isMirage l1 l3 H locs ls h hP hD hS hl
          refine lv_aload_n hx hb dX11_readLine_215 rfl (lv_at hl 0 rfl) ?_
          refine lv_bipush (v := (59 : Int32)) hx hb dX11_readLine_216 (by decide) ?_
          refine clVv (As := [.int (59 : Int32)]) (rest := []) (Wr := [((rM 3), .inl (cy 0, 14, .inl M_told)), ((rM 4), .inl (cy 0, 10, .inl M_place)), ((rM 5), .inl (cy 0, 10, .inl M_range)), ((rM 6), .inl (cy 0, 10, .inl M_voice)), ((rM 7), .inl (cy 0, 8, .inl M_kind)), ((rM 9), .inl (cy 0, 29, .inl M_read)), ((rM 11), .inl (cy 2, 10, .inl M_isFalse)), ((rM 12), .inl (cy 2, 200, .inl M_isMirage)), ((rM 0), .inl (cy 5, 5, .inr (.inr (.inr (.inr (fun i => some (ev (2 * (32 + i))))))))), ((rM 1), .inl (cy 5, 4, .inr (.inr (.inr (.inr (fun i => some (ev (2 * (37 + i)))))))))]) (cq := (RX11, TX11, 56)) ⟨hx, hb, hml, hown, hts⟩ ⟨callB_of 1 hts (goodC mw1434) rfl rfl rfl (hts _ (tb mw15)) (hts _ (tb mw1431)) kdX11_mark ⟨Nat.le_trans (by decide) hRf, Nat.le_trans (by decide) hRl⟩, hts _ (tb mw1433), hts _ (tb ms54)⟩ (ctX11_mark l D cy ev h0 rM sM M_tape (59 : Int32) _ _ h) hE hK hP hD hS hA [0, 9] [1, 2, 3, 4, 5, 6, 7, 8, 10, 11] rfl rfl (by decide) (by decide) (by decide) 0 rfl rfl rfl hl.1 rfl (Nat.le_of_ble_eq_true rfl) ⟨Nat.zero_le _, Nat.zero_le _⟩ dX11_readLine_218 (fun sM_218 H locs h hP hD hS => ?_)
          have hP : va_P D clsX [((rM 3), .inl (cy 0, 14, .inl M_told)), ((rM 4), .inl (cy 0, 10, .inl M_place)), ((rM 5), .inl (cy 0, 10, .inl M_range)), ((rM 6), .inl (cy 0, 10, .inl M_voice)), ((rM 7), .inl (cy 0, 8, .inl M_kind)), ((rM 9), .inl (cy 0, 29, .inl M_read)), ((rM 11), .inl (cy 2, 10, .inl M_isFalse)), ((rM 12), .inl (cy 2, 200, .inl M_isMirage)), ((rM 0), .inl (cy 5, 5, .inr (.inr (.inr (.inr (fun i => some (ev (2 * (32 + i))))))))), ((rM 1), .inl (cy 5, 4, .inr (.inr (.inr (.inr (fun i => some (ev (2 * (37 + i))))))))), (h0, .inr (11, oX11 rM sM_218)), ((rM 13), .inl (cy 0, 500, .inl M_tape))] H := hP
          have hD : va_D A [((rM 3), .inl (cy 0, 14, .inl M_told)), ((rM 4), .inl (cy 0, 10, .inl M_place)), ((rM 5), .inl (cy 0, 10, .inl M_range)), ((rM 6), .inl (cy 0, 10, .inl M_voice)), ((rM 7), .inl (cy 0, 8, .inl M_kind)), ((rM 9), .inl (cy 0, 29, .inl M_read)), ((rM 11), .inl (cy 2, 10, .inl M_isFalse)), ((rM 12), .inl (cy 2, 200, .inl M_isMirage)), ((rM 0), .inl (cy 5, 5, .inr (.inr (.inr (.inr (fun i => some (ev (2 * (32 + i))))))))), ((rM 1), .inl (cy 5, 4, .inr (.inr (.inr (.inr (fun i => some (ev (2 * (37 + i))))))))), (h0, .inr (11, oX11 rM sM_218)), ((rM 13), .inl (cy 0, 500, .inl M_tape))] := hD
          refine lv_iload_n hx hb dX11_readLine_221 rfl (lv_at hl 1 rfl) ?_
          refine lv_iload_n hx hb dX11_readLine_222 rfl (lv_at hl 2 rfl) ?_
          refine lv_ior hx hb dX11_readLine_223 ?_
          exact hret (l1 ||| l3) (sM_218, M_told, M_place, M_range, M_voice, M_kind, M_read, M_isFalse, M_isMirage) _ _ _ _ rfl dX11_readLine_224 h (hP.sub [10, 0, 1, 2, 3, 4, 5, 6, 7, 11, 8, 9] rfl) (hD.sub [10, 0, 1, 2, 3, 4, 5, 6, 7, 11, 8, 9] (by decide) rfl) hS
        have J142 : ∀ (sM : AR) (l1 : Int32) (l3 : Int32) (H : Heap) (locs : List Loc) (ls : Array Slot), wpX11_readLine_J142 sM M_told M_place M_range M_voice M_kind M_read M_isFalse M_isMirage M_tape l1 l3 post → va_P D clsX [(h0, .inr (11, oX11 rM sM)), ((rM 3), .inl (cy 0, 14, .inl M_told)), ((rM 4), .inl (cy 0, 10, .inl M_place)), ((rM 5), .inl (cy 0, 10, .inl M_range)), ((rM 6), .inl (cy 0, 10, .inl M_voice)), ((rM 7), .inl (cy 0, 8, .inl M_kind)), ((rM 9), .inl (cy 0, 29, .inl M_read)), ((rM 11), .inl (cy 2, 10, .inl M_isFalse)), ((rM 12), .inl (cy 2, 200, .inl M_isMirage)), ((rM 13), .inl (cy 0, 500, .inl M_tape)), ((rM 0), .inl (cy 5, 5, .inr (.inr (.inr (.inr (fun i => some (ev (2 * (32 + i))))))))), ((rM 1), .inl (cy 5, 4, .inr (.inr (.inr (.inr (fun i => some (ev (2 * (37 + i)))))))))] H → va_D A [(h0, .inr (11, oX11 rM sM)), ((rM 3), .inl (cy 0, 14, .inl M_told)), ((rM 4), .inl (cy 0, 10, .inl M_place)), ((rM 5), .inl (cy 0, 10, .inl M_range)), ((rM 6), .inl (cy 0, 10, .inl M_voice)), ((rM 7), .inl (cy 0, 8, .inl M_kind)), ((rM 9), .inl (cy 0, 29, .inl M_read)), ((rM 11), .inl (cy 2, 10, .inl M_isFalse)), ((rM 12), .inl (cy 2, 200, .inl M_isMirage)), ((rM 13), .inl (cy 0, 500, .inl M_tape)), ((rM 0), .inl (cy 5, 5, .inr (.inr (.inr (.inr (fun i => some (ev (2 * (32 + i))))))))), ((rM 1), .inl (cy 5, 4, .inr (.inr (.inr (.inr (fun i => some (ev (2 * (37 + i)))))))))] → va_S A s.heap H locs → lv_has ls 4 [(0, .ref h0), (1, .int l1), (3, .int l3)] → W p l e R s m args below meth c H locs 0 0 QQ (F0 m 142 ls []) := by
          intro sM l1 l3 H locs ls h hP hD hS hl
          have J153 : ∀ (sM : AR) (l1 : Int32) (l3 : Int32) (H : Heap) (locs : List Loc) (ls : Array Slot), wpX11_readLine_J153 sM M_told M_place M_range M_voice M_kind M_read M_isFalse M_isMirage M_tape l1 l3 post → va_P D clsX [(h0, .inr (11, oX11 rM sM)), ((rM 3), .inl (cy 0, 14, .inl M_told)), ((rM 4), .inl (cy 0, 10, .inl M_place)), ((rM 5), .inl (cy 0, 10, .inl M_range)), ((rM 6), .inl (cy 0, 10, .inl M_voice)), ((rM 7), .inl (cy 0, 8, .inl M_kind)), ((rM 9), .inl (cy 0, 29, .inl M_read)), ((rM 11), .inl (cy 2, 10, .inl M_isFalse)), ((rM 12), .inl (cy 2, 200, .inl M_isMirage)), ((rM 13), .inl (cy 0, 500, .inl M_tape)), ((rM 0), .inl (cy 5, 5, .inr (.inr (.inr (.inr (fun i => some (ev (2 * (32 + i))))))))), ((rM 1), .inl (cy 5, 4, .inr (.inr (.inr (.inr (fun i => some (ev (2 * (37 + i)))))))))] H → va_D A [(h0, .inr (11, oX11 rM sM)), ((rM 3), .inl (cy 0, 14, .inl M_told)), ((rM 4), .inl (cy 0, 10, .inl M_place)), ((rM 5), .inl (cy 0, 10, .inl M_range)), ((rM 6), .inl (cy 0, 10, .inl M_voice)), ((rM 7), .inl (cy 0, 8, .inl M_kind)), ((rM 9), .inl (cy 0, 29, .inl M_read)), ((rM 11), .inl (cy 2, 10, .inl M_isFalse)), ((rM 12), .inl (cy 2, 200, .inl M_isMirage)), ((rM 13), .inl (cy 0, 500, .inl M_tape)), ((rM 0), .inl (cy 5, 5, .inr (.inr (.inr (.inr (fun i => some (ev (2 * (32 + i))))))))), ((rM 1), .inl (cy 5, 4, .inr (.inr (.inr (.inr (fun i => some (ev (2 * (37 + i)))))))))] → va_S A s.heap H locs → lv_has ls 4 [(0, .ref h0), (1, .int l1), (3, .int l3)] → W p l e R s m args below meth c H locs 0 0 QQ (F0 m 153 ls []) := by
            intro sM l1 l3 H locs ls h hP hD hS hl
            refine lv_iload_n hx hb dX11_readLine_153 rfl (lv_at hl 2 rfl) ?_
            refine lv_iconst (v := (1 : Int32)) hx hb dX11_readLine_154 (by decide) ?_
            refine lv_icmp_ne (tgt := 189) hx hb dX11_readLine_155 (by decide) (fun c155 => ?_) (fun c155 => ?_)
            · have h := h.1 c155
              refine lv_iload_n hx hb dX11_readLine_189 rfl (lv_at hl 2 rfl) ?_
              refine lv_iconst (v := (2 : Int32)) hx hb dX11_readLine_190 (by decide) ?_
              refine lv_icmp_ne (tgt := 201) hx hb dX11_readLine_191 (by decide) (fun c191 => ?_) (fun c191 => ?_)
              · have h := h.1 c191
                refine lv_aload_n hx hb dX11_readLine_201 rfl (lv_at hl 0 rfl) ?_
                refine gfX11_36 hx hb hts hown hK hP 0 rfl dX11_readLine_202 ?_
                refine lv_bipush (v := (13 : Int32)) hx hb dX11_readLine_205 (by decide) ?_
                refine lv_aload_n hx hb dX11_readLine_207 rfl (lv_at hl 0 rfl) ?_
                refine lv_iconst (v := (0 : Int32)) hx hb dX11_readLine_208 (by decide) ?_
                refine lv_bipush (v := (9 : Int32)) hx hb dX11_readLine_209 (by decide) ?_
                refine clVi (As := [.int (0 : Int32), .int (9 : Int32)]) (rest := [.int (13 : Int32), .ref (rM 3)]) (Wr := [((rM 3), .inl (cy 0, 14, .inl M_told)), ((rM 4), .inl (cy 0, 10, .inl M_place)), ((rM 5), .inl (cy 0, 10, .inl M_range)), ((rM 6), .inl (cy 0, 10, .inl M_voice)), ((rM 7), .inl (cy 0, 8, .inl M_kind)), ((rM 9), .inl (cy 0, 29, .inl M_read)), ((rM 11), .inl (cy 2, 10, .inl M_isFalse)), ((rM 12), .inl (cy 2, 200, .inl M_isMirage)), ((rM 0), .inl (cy 5, 5, .inr (.inr (.inr (.inr (fun i => some (ev (2 * (32 + i))))))))), ((rM 1), .inl (cy 5, 4, .inr (.inr (.inr (.inr (fun i => some (ev (2 * (37 + i)))))))))]) (cq := (RX11, TX11, 56)) ⟨hx, hb, hml, hown, hts⟩ ⟨callB_of 2 hts (goodC mw1406) rfl rfl rfl (hts _ (tb mw15)) (hts _ (tb mw1403)) kdX11_readNumber ⟨Nat.le_trans (by decide) hRf, Nat.le_trans (by decide) hRl⟩, hts _ (tb mw1405), hts _ (tb ms48)⟩ (ctX11_readNumber l D cy ev h0 rM sM M_tape (0 : Int32) (9 : Int32) _ _ h) hE hK hP hD hS hA [0, 9] [1, 2, 3, 4, 5, 6, 7, 8, 10, 11] rfl rfl (by decide) (by decide) (by decide) 0 rfl rfl rfl hl.1 rfl (Nat.le_of_ble_eq_true rfl) ⟨Nat.zero_le _, Nat.zero_le _⟩ dX11_readLine_211 (fun r211 sM_211 H locs h hP hD hS => ?_)
                have hP : va_P D clsX [((rM 3), .inl (cy 0, 14, .inl M_told)), ((rM 4), .inl (cy 0, 10, .inl M_place)), ((rM 5), .inl (cy 0, 10, .inl M_range)), ((rM 6), .inl (cy 0, 10, .inl M_voice)), ((rM 7), .inl (cy 0, 8, .inl M_kind)), ((rM 9), .inl (cy 0, 29, .inl M_read)), ((rM 11), .inl (cy 2, 10, .inl M_isFalse)), ((rM 12), .inl (cy 2, 200, .inl M_isMirage)), ((rM 0), .inl (cy 5, 5, .inr (.inr (.inr (.inr (fun i => some (ev (2 * (32 + i))))))))), ((rM 1), .inl (cy 5, 4, .inr (.inr (.inr (.inr (fun i => some (ev (2 * (37 + i))))))))), (h0, .inr (11, oX11 rM sM_211)), ((rM 13), .inl (cy 0, 500, .inl M_tape))] H := hP
                have hD : va_D A [((rM 3), .inl (cy 0, 14, .inl M_told)), ((rM 4), .inl (cy 0, 10, .inl M_place)), ((rM 5), .inl (cy 0, 10, .inl M_range)), ((rM 6), .inl (cy 0, 10, .inl M_voice)), ((rM 7), .inl (cy 0, 8, .inl M_kind)), ((rM 9), .inl (cy 0, 29, .inl M_read)), ((rM 11), .inl (cy 2, 10, .inl M_isFalse)), ((rM 12), .inl (cy 2, 200, .inl M_isMirage)), ((rM 0), .inl (cy 5, 5, .inr (.inr (.inr (.inr (fun i => some (ev (2 * (32 + i))))))))), ((rM 1), .inl (cy 5, 4, .inr (.inr (.inr (.inr (fun i => some (ev (2 * (37 + i))))))))), (h0, .inr (11, oX11 rM sM_211)), ((rM 13), .inl (cy 0, 500, .inl M_tape))] := hD
                refine sti (k := 13) (y := r211) hx hb hK hP hD hS 0 rfl (inL (by decide)) (by decide) rfl dX11_readLine_214 (fun M_told_214 eM_told_214 H locs hP hD hS => ?_)
                have h := h M_told_214 eM_told_214
                have hP : va_P D clsX [((rM 3), .inl (cy 0, 14, .inl M_told_214)), ((rM 4), .inl (cy 0, 10, .inl M_place)), ((rM 5), .inl (cy 0, 10, .inl M_range)), ((rM 6), .inl (cy 0, 10, .inl M_voice)), ((rM 7), .inl (cy 0, 8, .inl M_kind)), ((rM 9), .inl (cy 0, 29, .inl M_read)), ((rM 11), .inl (cy 2, 10, .inl M_isFalse)), ((rM 12), .inl (cy 2, 200, .inl M_isMirage)), ((rM 0), .inl (cy 5, 5, .inr (.inr (.inr (.inr (fun i => some (ev (2 * (32 + i))))))))), ((rM 1), .inl (cy 5, 4, .inr (.inr (.inr (.inr (fun i => some (ev (2 * (37 + i))))))))), (h0, .inr (11, oX11 rM sM_211)), ((rM 13), .inl (cy 0, 500, .inl M_tape))] H := hP
                have hD : va_D A [((rM 3), .inl (cy 0, 14, .inl M_told_214)), ((rM 4), .inl (cy 0, 10, .inl M_place)), ((rM 5), .inl (cy 0, 10, .inl M_range)), ((rM 6), .inl (cy 0, 10, .inl M_voice)), ((rM 7), .inl (cy 0, 8, .inl M_kind)), ((rM 9), .inl (cy 0, 29, .inl M_read)), ((rM 11), .inl (cy 2, 10, .inl M_isFalse)), ((rM 12), .inl (cy 2, 200, .inl M_isMirage)), ((rM 0), .inl (cy 5, 5, .inr (.inr (.inr (.inr (fun i => some (ev (2 * (32 + i))))))))), ((rM 1), .inl (cy 5, 4, .inr (.inr (.inr (.inr (fun i => some (ev (2 * (37 + i))))))))), (h0, .inr (11, oX11 rM sM_211)), ((rM 13), .inl (cy 0, 500, .inl M_tape))] := hD
                exact J215 sM_211 M_told_214 M_place M_range M_voice M_kind M_read M_isFalse M_isMirage l1 l3 _ _ _ h (hP.sub [10, 0, 1, 2, 3, 4, 5, 6, 7, 11, 8, 9] rfl) (hD.sub [10, 0, 1, 2, 3, 4, 5, 6, 7, 11, 8, 9] (by decide) rfl) hS hl
              · have h := h.2 c191
                refine lv_aload_n hx hb dX11_readLine_194 rfl (lv_at hl 0 rfl) ?_
                refine clVv (As := []) (rest := []) (Wr := [((rM 4), .inl (cy 0, 10, .inl M_place)), ((rM 5), .inl (cy 0, 10, .inl M_range)), ((rM 6), .inl (cy 0, 10, .inl M_voice)), ((rM 7), .inl (cy 0, 8, .inl M_kind)), ((rM 9), .inl (cy 0, 29, .inl M_read)), ((rM 11), .inl (cy 2, 10, .inl M_isFalse)), ((rM 12), .inl (cy 2, 200, .inl M_isMirage)), ((rM 0), .inl (cy 5, 5, .inr (.inr (.inr (.inr (fun i => some (ev (2 * (32 + i)))))))))]) (cq := (RX11, TX11, 56)) ⟨hx, hb, hml, hown, hts⟩ ⟨callB_of 0 hts (goodC mw1430) rfl rfl rfl (hts _ (tb mw15)) (hts _ (tb mw1427)) kdX11_readWind ⟨Nat.le_trans (by decide) hRf, Nat.le_trans (by decide) hRl⟩, hts _ (tb mw1429), hts _ (tb ms53)⟩ (ctX11_readWind l D cy ev h0 rM sM M_told M_tape  _ _ h) hE hK hP hD hS hA [0, 1, 9, 11] [2, 3, 4, 5, 6, 7, 8, 10] rfl rfl (by decide) (by decide) (by decide) 0 rfl rfl rfl hl.1 rfl (Nat.le_of_ble_eq_true rfl) ⟨Nat.zero_le _, Nat.zero_le _⟩ dX11_readLine_195 (fun u H locs h hP hD hS => ?_)
                obtain ⟨sM_195, M_told_195⟩ := u
                have hP : va_P D clsX [((rM 4), .inl (cy 0, 10, .inl M_place)), ((rM 5), .inl (cy 0, 10, .inl M_range)), ((rM 6), .inl (cy 0, 10, .inl M_voice)), ((rM 7), .inl (cy 0, 8, .inl M_kind)), ((rM 9), .inl (cy 0, 29, .inl M_read)), ((rM 11), .inl (cy 2, 10, .inl M_isFalse)), ((rM 12), .inl (cy 2, 200, .inl M_isMirage)), ((rM 0), .inl (cy 5, 5, .inr (.inr (.inr (.inr (fun i => some (ev (2 * (32 + i))))))))), (h0, .inr (11, oX11 rM sM_195)), ((rM 3), .inl (cy 0, 14, .inl M_told_195)), ((rM 13), .inl (cy 0, 500, .inl M_tape)), ((rM 1), .inl (cy 5, 4, .inr (.inr (.inr (.inr (fun i => some (ev (2 * (37 + i)))))))))] H := hP
                have hD : va_D A [((rM 4), .inl (cy 0, 10, .inl M_place)), ((rM 5), .inl (cy 0, 10, .inl M_range)), ((rM 6), .inl (cy 0, 10, .inl M_voice)), ((rM 7), .inl (cy 0, 8, .inl M_kind)), ((rM 9), .inl (cy 0, 29, .inl M_read)), ((rM 11), .inl (cy 2, 10, .inl M_isFalse)), ((rM 12), .inl (cy 2, 200, .inl M_isMirage)), ((rM 0), .inl (cy 5, 5, .inr (.inr (.inr (.inr (fun i => some (ev (2 * (32 + i))))))))), (h0, .inr (11, oX11 rM sM_195)), ((rM 3), .inl (cy 0, 14, .inl M_told_195)), ((rM 13), .inl (cy 0, 500, .inl M_tape)), ((rM 1), .inl (cy 5, 4, .inr (.inr (.inr (.inr (fun i => some (ev (2 * (37 + i)))))))))] := hD
                refine lv_goto (tgt := 215) hx hb dX11_readLine_198 (by decide) ?_
                exact J215 sM_195 M_told_195 M_place M_range M_voice M_kind M_read M_isFalse M_isMirage l1 l3 _ _ _ h (hP.sub [8, 9, 0, 1, 2, 3, 4, 5, 6, 10, 7, 11] rfl) (hD.sub [8, 9, 0, 1, 2, 3, 4, 5, 6, 10, 7, 11] (by decide) rfl) hS hl
            · have h := h.2 c155
              refine lv_aload_n hx hb dX11_readLine_158 rfl (lv_at hl 0 rfl) ?_
              refine gfX11_36 hx hb hts hown hK hP 0 rfl dX11_readLine_159 ?_
              refine lv_bipush (v := (7 : Int32)) hx hb dX11_readLine_162 (by decide) ?_
              refine lv_aload_n hx hb dX11_readLine_164 rfl (lv_at hl 0 rfl) ?_
              refine lv_iconst (v := (2 : Int32)) hx hb dX11_readLine_165 (by decide) ?_
              refine lv_bipush (v := (10 : Int32)) hx hb dX11_readLine_166 (by decide) ?_
              refine clVi (As := [.int (2 : Int32), .int (10 : Int32)]) (rest := [.int (7 : Int32), .ref (rM 3)]) (Wr := [((rM 3), .inl (cy 0, 14, .inl M_told)), ((rM 4), .inl (cy 0, 10, .inl M_place)), ((rM 5), .inl (cy 0, 10, .inl M_range)), ((rM 6), .inl (cy 0, 10, .inl M_voice)), ((rM 7), .inl (cy 0, 8, .inl M_kind)), ((rM 9), .inl (cy 0, 29, .inl M_read)), ((rM 11), .inl (cy 2, 10, .inl M_isFalse)), ((rM 12), .inl (cy 2, 200, .inl M_isMirage)), ((rM 0), .inl (cy 5, 5, .inr (.inr (.inr (.inr (fun i => some (ev (2 * (32 + i))))))))), ((rM 1), .inl (cy 5, 4, .inr (.inr (.inr (.inr (fun i => some (ev (2 * (37 + i)))))))))]) (cq := (RX11, TX11, 56)) ⟨hx, hb, hml, hown, hts⟩ ⟨callB_of 2 hts (goodC mw1406) rfl rfl rfl (hts _ (tb mw15)) (hts _ (tb mw1403)) kdX11_readNumber ⟨Nat.le_trans (by decide) hRf, Nat.le_trans (by decide) hRl⟩, hts _ (tb mw1405), hts _ (tb ms48)⟩ (ctX11_readNumber l D cy ev h0 rM sM M_tape (2 : Int32) (10 : Int32) _ _ h) hE hK hP hD hS hA [0, 9] [1, 2, 3, 4, 5, 6, 7, 8, 10, 11] rfl rfl (by decide) (by decide) (by decide) 0 rfl rfl rfl hl.1 rfl (Nat.le_of_ble_eq_true rfl) ⟨Nat.zero_le _, Nat.zero_le _⟩ dX11_readLine_168 (fun r168 sM_168 H locs h hP hD hS => ?_)
              have hP : va_P D clsX [((rM 3), .inl (cy 0, 14, .inl M_told)), ((rM 4), .inl (cy 0, 10, .inl M_place)), ((rM 5), .inl (cy 0, 10, .inl M_range)), ((rM 6), .inl (cy 0, 10, .inl M_voice)), ((rM 7), .inl (cy 0, 8, .inl M_kind)), ((rM 9), .inl (cy 0, 29, .inl M_read)), ((rM 11), .inl (cy 2, 10, .inl M_isFalse)), ((rM 12), .inl (cy 2, 200, .inl M_isMirage)), ((rM 0), .inl (cy 5, 5, .inr (.inr (.inr (.inr (fun i => some (ev (2 * (32 + i))))))))), ((rM 1), .inl (cy 5, 4, .inr (.inr (.inr (.inr (fun i => some (ev (2 * (37 + i))))))))), (h0, .inr (11, oX11 rM sM_168)), ((rM 13), .inl (cy 0, 500, .inl M_tape))] H := hP
              have hD : va_D A [((rM 3), .inl (cy 0, 14, .inl M_told)), ((rM 4), .inl (cy 0, 10, .inl M_place)), ((rM 5), .inl (cy 0, 10, .inl M_range)), ((rM 6), .inl (cy 0, 10, .inl M_voice)), ((rM 7), .inl (cy 0, 8, .inl M_kind)), ((rM 9), .inl (cy 0, 29, .inl M_read)), ((rM 11), .inl (cy 2, 10, .inl M_isFalse)), ((rM 12), .inl (cy 2, 200, .inl M_isMirage)), ((rM 0), .inl (cy 5, 5, .inr (.inr (.inr (.inr (fun i => some (ev (2 * (32 + i))))))))), ((rM 1), .inl (cy 5, 4, .inr (.inr (.inr (.inr (fun i => some (ev (2 * (37 + i))))))))), (h0, .inr (11, oX11 rM sM_168)), ((rM 13), .inl (cy 0, 500, .inl M_tape))] := hD
              refine sti (k := 7) (y := r168) hx hb hK hP hD hS 0 rfl (inL (by decide)) (by decide) rfl dX11_readLine_171 (fun M_told_171 eM_told_171 H locs hP hD hS => ?_)
              have h := h M_told_171 eM_told_171
              have hP : va_P D clsX [((rM 3), .inl (cy 0, 14, .inl M_told_171)), ((rM 4), .inl (cy 0, 10, .inl M_place)), ((rM 5), .inl (cy 0, 10, .inl M_range)), ((rM 6), .inl (cy 0, 10, .inl M_voice)), ((rM 7), .inl (cy 0, 8, .inl M_kind)), ((rM 9), .inl (cy 0, 29, .inl M_read)), ((rM 11), .inl (cy 2, 10, .inl M_isFalse)), ((rM 12), .inl (cy 2, 200, .inl M_isMirage)), ((rM 0), .inl (cy 5, 5, .inr (.inr (.inr (.inr (fun i => some (ev (2 * (32 + i))))))))), ((rM 1), .inl (cy 5, 4, .inr (.inr (.inr (.inr (fun i => some (ev (2 * (37 + i))))))))), (h0, .inr (11, oX11 rM sM_168)), ((rM 13), .inl (cy 0, 500, .inl M_tape))] H := hP
              have hD : va_D A [((rM 3), .inl (cy 0, 14, .inl M_told_171)), ((rM 4), .inl (cy 0, 10, .inl M_place)), ((rM 5), .inl (cy 0, 10, .inl M_range)), ((rM 6), .inl (cy 0, 10, .inl M_voice)), ((rM 7), .inl (cy 0, 8, .inl M_kind)), ((rM 9), .inl (cy 0, 29, .inl M_read)), ((rM 11), .inl (cy 2, 10, .inl M_isFalse)), ((rM 12), .inl (cy 2, 200, .inl M_isMirage)), ((rM 0), .inl (cy 5, 5, .inr (.inr (.inr (.inr (fun i => some (ev (2 * (32 + i))))))))), ((rM 1), .inl (cy 5, 4, .inr (.inr (.inr (.inr (fun i => some (ev (2 * (37 + i))))))))), (h0, .inr (11, oX11 rM sM_168)), ((rM 13), .inl (cy 0, 500, .inl M_tape))] := hD
              refine lv_aload_n hx hb dX11_readLine_172 rfl (lv_at hl 0 rfl) ?_
              refine gfX11_36 hx hb hts hown hK hP 10 rfl dX11_readLine_173 ?_
              refine lv_bipush (v := (8 : Int32)) hx hb dX11_readLine_176 (by decide) ?_
              refine lv_aload_n hx hb dX11_readLine_178 rfl (lv_at hl 0 rfl) ?_
              refine lv_iconst (v := (2 : Int32)) hx hb dX11_readLine_179 (by decide) ?_
              refine lv_bipush (v := (10 : Int32)) hx hb dX11_readLine_180 (by decide) ?_
              refine clVi (As := [.int (2 : Int32), .int (10 : Int32)]) (rest := [.int (8 : Int32), .ref (rM 3)]) (Wr := [((rM 3), .inl (cy 0, 14, .inl M_told_171)), ((rM 4), .inl (cy 0, 10, .inl M_place)), ((rM 5), .inl (cy 0, 10, .inl M_range)), ((rM 6), .inl (cy 0, 10, .inl M_voice)), ((rM 7), .inl (cy 0, 8, .inl M_kind)), ((rM 9), .inl (cy 0, 29, .inl M_read)), ((rM 11), .inl (cy 2, 10, .inl M_isFalse)), ((rM 12), .inl (cy 2, 200, .inl M_isMirage)), ((rM 0), .inl (cy 5, 5, .inr (.inr (.inr (.inr (fun i => some (ev (2 * (32 + i))))))))), ((rM 1), .inl (cy 5, 4, .inr (.inr (.inr (.inr (fun i => some (ev (2 * (37 + i)))))))))]) (cq := (RX11, TX11, 56)) ⟨hx, hb, hml, hown, hts⟩ ⟨callB_of 2 hts (goodC mw1406) rfl rfl rfl (hts _ (tb mw15)) (hts _ (tb mw1403)) kdX11_readNumber ⟨Nat.le_trans (by decide) hRf, Nat.le_trans (by decide) hRl⟩, hts _ (tb mw1405), hts _ (tb ms48)⟩ (ctX11_readNumber l D cy ev h0 rM sM_168 M_tape (2 : Int32) (10 : Int32) _ _ h) hE hK hP hD hS hA [10, 11] [0, 1, 2, 3, 4, 5, 6, 7, 8, 9] rfl rfl (by decide) (by decide) (by decide) 0 rfl rfl rfl hl.1 rfl (Nat.le_of_ble_eq_true rfl) ⟨Nat.zero_le _, Nat.zero_le _⟩ dX11_readLine_182 (fun r182 sM_182 H locs h hP hD hS => ?_)
              have hP : va_P D clsX [((rM 3), .inl (cy 0, 14, .inl M_told_171)), ((rM 4), .inl (cy 0, 10, .inl M_place)), ((rM 5), .inl (cy 0, 10, .inl M_range)), ((rM 6), .inl (cy 0, 10, .inl M_voice)), ((rM 7), .inl (cy 0, 8, .inl M_kind)), ((rM 9), .inl (cy 0, 29, .inl M_read)), ((rM 11), .inl (cy 2, 10, .inl M_isFalse)), ((rM 12), .inl (cy 2, 200, .inl M_isMirage)), ((rM 0), .inl (cy 5, 5, .inr (.inr (.inr (.inr (fun i => some (ev (2 * (32 + i))))))))), ((rM 1), .inl (cy 5, 4, .inr (.inr (.inr (.inr (fun i => some (ev (2 * (37 + i))))))))), (h0, .inr (11, oX11 rM sM_182)), ((rM 13), .inl (cy 0, 500, .inl M_tape))] H := hP
              have hD : va_D A [((rM 3), .inl (cy 0, 14, .inl M_told_171)), ((rM 4), .inl (cy 0, 10, .inl M_place)), ((rM 5), .inl (cy 0, 10, .inl M_range)), ((rM 6), .inl (cy 0, 10, .inl M_voice)), ((rM 7), .inl (cy 0, 8, .inl M_kind)), ((rM 9), .inl (cy 0, 29, .inl M_read)), ((rM 11), .inl (cy 2, 10, .inl M_isFalse)), ((rM 12), .inl (cy 2, 200, .inl M_isMirage)), ((rM 0), .inl (cy 5, 5, .inr (.inr (.inr (.inr (fun i => some (ev (2 * (32 + i))))))))), ((rM 1), .inl (cy 5, 4, .inr (.inr (.inr (.inr (fun i => some (ev (2 * (37 + i))))))))), (h0, .inr (11, oX11 rM sM_182)), ((rM 13), .inl (cy 0, 500, .inl M_tape))] := hD
              refine sti (k := 8) (y := r182) hx hb hK hP hD hS 0 rfl (inL (by decide)) (by decide) rfl dX11_readLine_185 (fun M_told_185 eM_told_185 H locs hP hD hS => ?_)
              have h := h M_told_185 eM_told_185
              have hP : va_P D clsX [((rM 3), .inl (cy 0, 14, .inl M_told_185)), ((rM 4), .inl (cy 0, 10, .inl M_place)), ((rM 5), .inl (cy 0, 10, .inl M_range)), ((rM 6), .inl (cy 0, 10, .inl M_voice)), ((rM 7), .inl (cy 0, 8, .inl M_kind)), ((rM 9), .inl (cy 0, 29, .inl M_read)), ((rM 11), .inl (cy 2, 10, .inl M_isFalse)), ((rM 12), .inl (cy 2, 200, .inl M_isMirage)), ((rM 0), .inl (cy 5, 5, .inr (.inr (.inr (.inr (fun i => some (ev (2 * (32 + i))))))))), ((rM 1), .inl (cy 5, 4, .inr (.inr (.inr (.inr (fun i => some (ev (2 * (37 + i))))))))), (h0, .inr (11, oX11 rM sM_182)), ((rM 13), .inl (cy 0, 500, .inl M_tape))] H := hP
              have hD : va_D A [((rM 3), .inl (cy 0, 14, .inl M_told_185)), ((rM 4), .inl (cy 0, 10, .inl M_place)), ((rM 5), .inl (cy 0, 10, .inl M_range)), ((rM 6), .inl (cy 0, 10, .inl M_voice)), ((rM 7), .inl (cy 0, 8, .inl M_kind)), ((rM 9), .inl (cy 0, 29, .inl M_read)), ((rM 11), .inl (cy 2, 10, .inl M_isFalse)), ((rM 12), .inl (cy 2, 200, .inl M_isMirage)), ((rM 0), .inl (cy 5, 5, .inr (.inr (.inr (.inr (fun i => some (ev (2 * (32 + i))))))))), ((rM 1), .inl (cy 5, 4, .inr (.inr (.inr (.inr (fun i => some (ev (2 * (37 + i))))))))), (h0, .inr (11, oX11 rM sM_182)), ((rM 13), .inl (cy 0, 500, .inl M_tape))] := hD
              refine lv_goto (tgt := 215) hx hb dX11_readLine_186 (by decide) ?_
              exact J215 sM_182 M_told_185 M_place M_range M_voice M_kind M_read M_isFalse M_isMirage l1 l3 _ _ _ h (hP.sub [10, 0, 1, 2, 3, 4, 5, 6, 7, 11, 8, 9] rfl) (hD.sub [10, 0, 1, 2, 3, 4, 5, 6, 7, 11, 8, 9] (by decide) rfl) hS hl
          refine lv_aload_n hx hb dX11_readLine_142 rfl (lv_at hl 0 rfl) ?_
          refine gfX11_181 (v := (sM 21)) hx hb hts hown hK hP 0 rfl rfl dX11_readLine_143 ?_
          refine lv_if_ne (tgt := 153) hx hb dX11_readLine_146 (by decide) (fun c146 => ?_) (fun c146 => ?_)
          · have h := h.1 c146
            exact J153 sM l1 l3 _ _ _ h hP hD hS hl
          · have h := h.2 c146
            refine lv_aload_n hx hb dX11_readLine_149 rfl (lv_at hl 0 rfl) ?_
            refine clVv (As := []) (rest := []) (Wr := [((rM 3), .inl (cy 0, 14, .inl M_told)), ((rM 4), .inl (cy 0, 10, .inl M_place)), ((rM 5), .inl (cy 0, 10, .inl M_range)), ((rM 6), .inl (cy 0, 10, .inl M_voice)), ((rM 7), .inl (cy 0, 8, .inl M_kind)), ((rM 9), .inl (cy 0, 29, .inl M_read)), ((rM 11), .inl (cy 2, 10, .inl M_isFalse)), ((rM 12), .inl (cy 2, 200, .inl M_isMirage)), ((rM 0), .inl (cy 5, 5, .inr (.inr (.inr (.inr (fun i => some (ev (2 * (32 + i))))))))), ((rM 1), .inl (cy 5, 4, .inr (.inr (.inr (.inr (fun i => some (ev (2 * (37 + i)))))))))]) (cq := (RX11, TX11, 56)) ⟨hx, hb, hml, hown, hts⟩ ⟨callB_of 0 hts (goodC mw1358) rfl rfl rfl (hts _ (tb mw15)) (hts _ (tb mw1355)) kdX11_stepOn ⟨Nat.le_trans (by decide) hRf, Nat.le_trans (by decide) hRl⟩, hts _ (tb mw1357), hts _ (tb ms39)⟩ (ctX11_stepOn l D cy ev h0 rM sM M_tape  _ _ h) hE hK hP hD hS hA [0, 9] [1, 2, 3, 4, 5, 6, 7, 8, 10, 11] rfl rfl (by decide) (by decide) (by decide) 0 rfl rfl rfl hl.1 rfl (Nat.le_of_ble_eq_true rfl) ⟨Nat.zero_le _, Nat.zero_le _⟩ dX11_readLine_150 (fun sM_150 H locs h hP hD hS => ?_)
            have hP : va_P D clsX [((rM 3), .inl (cy 0, 14, .inl M_told)), ((rM 4), .inl (cy 0, 10, .inl M_place)), ((rM 5), .inl (cy 0, 10, .inl M_range)), ((rM 6), .inl (cy 0, 10, .inl M_voice)), ((rM 7), .inl (cy 0, 8, .inl M_kind)), ((rM 9), .inl (cy 0, 29, .inl M_read)), ((rM 11), .inl (cy 2, 10, .inl M_isFalse)), ((rM 12), .inl (cy 2, 200, .inl M_isMirage)), ((rM 0), .inl (cy 5, 5, .inr (.inr (.inr (.inr (fun i => some (ev (2 * (32 + i))))))))), ((rM 1), .inl (cy 5, 4, .inr (.inr (.inr (.inr (fun i => some (ev (2 * (37 + i))))))))), (h0, .inr (11, oX11 rM sM_150)), ((rM 13), .inl (cy 0, 500, .inl M_tape))] H := hP
            have hD : va_D A [((rM 3), .inl (cy 0, 14, .inl M_told)), ((rM 4), .inl (cy 0, 10, .inl M_place)), ((rM 5), .inl (cy 0, 10, .inl M_range)), ((rM 6), .inl (cy 0, 10, .inl M_voice)), ((rM 7), .inl (cy 0, 8, .inl M_kind)), ((rM 9), .inl (cy 0, 29, .inl M_read)), ((rM 11), .inl (cy 2, 10, .inl M_isFalse)), ((rM 12), .inl (cy 2, 200, .inl M_isMirage)), ((rM 0), .inl (cy 5, 5, .inr (.inr (.inr (.inr (fun i => some (ev (2 * (32 + i))))))))), ((rM 1), .inl (cy 5, 4, .inr (.inr (.inr (.inr (fun i => some (ev (2 * (37 + i))))))))), (h0, .inr (11, oX11 rM sM_150)), ((rM 13), .inl (cy 0, 500, .inl M_tape))] := hD
            exact J153 sM_150 l1 l3 _ _ _ h (hP.sub [10, 0, 1, 2, 3, 4, 5, 6, 7, 11, 8, 9] rfl) (hD.sub [10, 0, 1, 2, 3, 4, 5, 6, 7, 11, 8, 9] (by decide) rfl) hS hl
        refine lv_iload_n hx hb dX11_readLine_86 rfl (lv_at hl 2 rfl) ?_
        refine lv_iconst (v := (-1 : Int32)) hx hb dX11_readLine_87 (by decide) ?_
        refine lv_icmp_eq (tgt := 99) hx hb dX11_readLine_88 (by decide) (fun c88 => ?_) (fun c88 => ?_)
        · have h := h.1 c88
          refine lv_aload_n hx hb dX11_readLine_99 rfl (lv_at hl 0 rfl) ?_
          refine va_ldcS hx hb hown (hE.1 44 (by decide)).1 dX11_readLine_100 ?_
          refine clVi (As := [.ref (ev (2 * 44))]) (rest := []) (Wr := [((rM 3), .inl (cy 0, 14, .inl M_told)), ((rM 4), .inl (cy 0, 10, .inl M_place)), ((rM 5), .inl (cy 0, 10, .inl M_range)), ((rM 6), .inl (cy 0, 10, .inl M_voice)), ((rM 7), .inl (cy 0, 8, .inl M_kind)), ((rM 9), .inl (cy 0, 29, .inl M_read)), ((rM 11), .inl (cy 2, 10, .inl M_isFalse)), ((rM 12), .inl (cy 2, 200, .inl M_isMirage)), ((rM 0), .inl (cy 5, 5, .inr (.inr (.inr (.inr (fun i => some (ev (2 * (32 + i))))))))), ((rM 1), .inl (cy 5, 4, .inr (.inr (.inr (.inr (fun i => some (ev (2 * (37 + i)))))))))]) (cq := (RX11, TX11, 56)) ⟨hx, hb, hml, hown, hts⟩ ⟨callB_of 1 hts (goodC mw1385) rfl rfl rfl (hts _ (tb mw15)) (hts _ (tb mw1382)) kdX11_is ⟨Nat.le_trans (by decide) hRf, Nat.le_trans (by decide) hRl⟩, hts _ (tb mw1384), hts _ (tb ms44)⟩ (ctX11_is l D cy ev h0 rM sM M_tape 44  _ _ h) hE hK hP hD hS hA [0, 9] [1, 2, 3, 4, 5, 6, 7, 8, 10, 11] rfl rfl (by decide) (by decide) (by decide) 0 rfl rfl rfl hl.1 rfl (Nat.le_of_ble_eq_true rfl) ⟨Nat.zero_le _, Nat.zero_le _⟩ dX11_readLine_102 (fun r102 u H locs h hP hD hS => ?_)
          have hP : va_P D clsX [((rM 3), .inl (cy 0, 14, .inl M_told)), ((rM 4), .inl (cy 0, 10, .inl M_place)), ((rM 5), .inl (cy 0, 10, .inl M_range)), ((rM 6), .inl (cy 0, 10, .inl M_voice)), ((rM 7), .inl (cy 0, 8, .inl M_kind)), ((rM 9), .inl (cy 0, 29, .inl M_read)), ((rM 11), .inl (cy 2, 10, .inl M_isFalse)), ((rM 12), .inl (cy 2, 200, .inl M_isMirage)), ((rM 0), .inl (cy 5, 5, .inr (.inr (.inr (.inr (fun i => some (ev (2 * (32 + i))))))))), ((rM 1), .inl (cy 5, 4, .inr (.inr (.inr (.inr (fun i => some (ev (2 * (37 + i))))))))), (h0, .inr (11, oX11 rM sM)), ((rM 13), .inl (cy 0, 500, .inl M_tape))] H := hP
          have hD : va_D A [((rM 3), .inl (cy 0, 14, .inl M_told)), ((rM 4), .inl (cy 0, 10, .inl M_place)), ((rM 5), .inl (cy 0, 10, .inl M_range)), ((rM 6), .inl (cy 0, 10, .inl M_voice)), ((rM 7), .inl (cy 0, 8, .inl M_kind)), ((rM 9), .inl (cy 0, 29, .inl M_read)), ((rM 11), .inl (cy 2, 10, .inl M_isFalse)), ((rM 12), .inl (cy 2, 200, .inl M_isMirage)), ((rM 0), .inl (cy 5, 5, .inr (.inr (.inr (.inr (fun i => some (ev (2 * (32 + i))))))))), ((rM 1), .inl (cy 5, 4, .inr (.inr (.inr (.inr (fun i => some (ev (2 * (37 + i))))))))), (h0, .inr (11, oX11 rM sM)), ((rM 13), .inl (cy 0, 500, .inl M_tape))] := hD
          refine lv_if_eq (tgt := 115) hx hb dX11_readLine_105 (by decide) (fun c105 => ?_) (fun c105 => ?_)
          · have h := h.1 c105
            refine lv_aload_n hx hb dX11_readLine_115 rfl (lv_at hl 0 rfl) ?_
            refine va_ldcS hx hb hown (hE.1 47 (by decide)).1 dX11_readLine_116 ?_
            refine clVi (As := [.ref (ev (2 * 47))]) (rest := []) (Wr := [((rM 3), .inl (cy 0, 14, .inl M_told)), ((rM 4), .inl (cy 0, 10, .inl M_place)), ((rM 5), .inl (cy 0, 10, .inl M_range)), ((rM 6), .inl (cy 0, 10, .inl M_voice)), ((rM 7), .inl (cy 0, 8, .inl M_kind)), ((rM 9), .inl (cy 0, 29, .inl M_read)), ((rM 11), .inl (cy 2, 10, .inl M_isFalse)), ((rM 12), .inl (cy 2, 200, .inl M_isMirage)), ((rM 0), .inl (cy 5, 5, .inr (.inr (.inr (.inr (fun i => some (ev (2 * (32 + i))))))))), ((rM 1), .inl (cy 5, 4, .inr (.inr (.inr (.inr (fun i => some (ev (2 * (37 + i)))))))))]) (cq := (RX11, TX11, 56)) ⟨hx, hb, hml, hown, hts⟩ ⟨callB_of 1 hts (goodC mw1420) rfl rfl rfl (hts _ (tb mw15)) (hts _ (tb mw1417)) kdX11_passes ⟨Nat.le_trans (by decide) hRf, Nat.le_trans (by decide) hRl⟩, hts _ (tb mw1419), hts _ (tb ms51)⟩ (ctX11_passes l D cy ev h0 rM sM M_tape 47  _ _ h) hE hK hP hD hS hA [10, 11] [0, 1, 2, 3, 4, 5, 6, 7, 8, 9] rfl rfl (by decide) (by decide) (by decide) 0 rfl rfl rfl hl.1 rfl (Nat.le_of_ble_eq_true rfl) ⟨Nat.zero_le _, Nat.zero_le _⟩ dX11_readLine_118 (fun r118 sM_118 H locs h hP hD hS => ?_)
            have hP : va_P D clsX [((rM 3), .inl (cy 0, 14, .inl M_told)), ((rM 4), .inl (cy 0, 10, .inl M_place)), ((rM 5), .inl (cy 0, 10, .inl M_range)), ((rM 6), .inl (cy 0, 10, .inl M_voice)), ((rM 7), .inl (cy 0, 8, .inl M_kind)), ((rM 9), .inl (cy 0, 29, .inl M_read)), ((rM 11), .inl (cy 2, 10, .inl M_isFalse)), ((rM 12), .inl (cy 2, 200, .inl M_isMirage)), ((rM 0), .inl (cy 5, 5, .inr (.inr (.inr (.inr (fun i => some (ev (2 * (32 + i))))))))), ((rM 1), .inl (cy 5, 4, .inr (.inr (.inr (.inr (fun i => some (ev (2 * (37 + i))))))))), (h0, .inr (11, oX11 rM sM_118)), ((rM 13), .inl (cy 0, 500, .inl M_tape))] H := hP
            have hD : va_D A [((rM 3), .inl (cy 0, 14, .inl M_told)), ((rM 4), .inl (cy 0, 10, .inl M_place)), ((rM 5), .inl (cy 0, 10, .inl M_range)), ((rM 6), .inl (cy 0, 10, .inl M_voice)), ((rM 7), .inl (cy 0, 8, .inl M_kind)), ((rM 9), .inl (cy 0, 29, .inl M_read)), ((rM 11), .inl (cy 2, 10, .inl M_isFalse)), ((rM 12), .inl (cy 2, 200, .inl M_isMirage)), ((rM 0), .inl (cy 5, 5, .inr (.inr (.inr (.inr (fun i => some (ev (2 * (32 + i))))))))), ((rM 1), .inl (cy 5, 4, .inr (.inr (.inr (.inr (fun i => some (ev (2 * (37 + i))))))))), (h0, .inr (11, oX11 rM sM_118)), ((rM 13), .inl (cy 0, 500, .inl M_tape))] := hD
            refine lv_if_eq (tgt := 131) hx hb dX11_readLine_121 (by decide) (fun c121 => ?_) (fun c121 => ?_)
            · have h := h.1 c121
              refine lv_iload_n hx hb dX11_readLine_131 rfl (lv_at hl 3 rfl) ?_
              refine lv_bipush (v := (8 : Int32)) hx hb dX11_readLine_132 (by decide) ?_
              refine lv_icmp_ne (tgt := 142) hx hb dX11_readLine_134 (by decide) (fun c134 => ?_) (fun c134 => ?_)
              · have h := h.1 c134
                exact J142 sM_118 l1 l3 _ _ _ h (hP.sub [10, 0, 1, 2, 3, 4, 5, 6, 7, 11, 8, 9] rfl) (hD.sub [10, 0, 1, 2, 3, 4, 5, 6, 7, 11, 8, 9] (by decide) rfl) hS (lv_sub hl [0, 1, 3] rfl)
              · have h := h.2 c134
                refine lv_aload_n hx hb dX11_readLine_137 rfl (lv_at hl 0 rfl) ?_
                refine lv_iconst (v := (1 : Int32)) hx hb dX11_readLine_138 (by decide) ?_
                refine clVv (As := [.int (1 : Int32)]) (rest := []) (Wr := [((rM 3), .inl (cy 0, 14, .inl M_told)), ((rM 4), .inl (cy 0, 10, .inl M_place)), ((rM 5), .inl (cy 0, 10, .inl M_range)), ((rM 6), .inl (cy 0, 10, .inl M_voice)), ((rM 7), .inl (cy 0, 8, .inl M_kind)), ((rM 9), .inl (cy 0, 29, .inl M_read)), ((rM 11), .inl (cy 2, 10, .inl M_isFalse)), ((rM 12), .inl (cy 2, 200, .inl M_isMirage)), ((rM 0), .inl (cy 5, 5, .inr (.inr (.inr (.inr (fun i => some (ev (2 * (32 + i))))))))), ((rM 1), .inl (cy 5, 4, .inr (.inr (.inr (.inr (fun i => some (ev (2 * (37 + i))))))))), ((rM 13), .inl (cy 0, 500, .inl M_tape))]) (cq := (RX11, TX11, 56)) ⟨hx, hb, hml, hown, hts⟩ ⟨callB_of 1 hts (goodC mw1394) rfl rfl rfl (hts _ (tb mw15)) (hts _ (tb mw1391)) kdX11_wrong ⟨Nat.le_trans (by decide) hRf, Nat.le_trans (by decide) hRl⟩, hts _ (tb mw1393), hts _ (tb ms45)⟩ (ctX11_wrong l D cy ev h0 rM sM_118 (1 : Int32) _ _ h) hE hK hP hD hS hA [10] [0, 1, 2, 3, 4, 5, 6, 7, 8, 9, 11] rfl rfl (by decide) (by decide) (by decide) 0 rfl rfl rfl hl.1 rfl (Nat.le_of_ble_eq_true rfl) ⟨Nat.zero_le _, Nat.zero_le _⟩ dX11_readLine_139 (fun sM_139 H locs h hP hD hS => ?_)
                have hP : va_P D clsX [((rM 3), .inl (cy 0, 14, .inl M_told)), ((rM 4), .inl (cy 0, 10, .inl M_place)), ((rM 5), .inl (cy 0, 10, .inl M_range)), ((rM 6), .inl (cy 0, 10, .inl M_voice)), ((rM 7), .inl (cy 0, 8, .inl M_kind)), ((rM 9), .inl (cy 0, 29, .inl M_read)), ((rM 11), .inl (cy 2, 10, .inl M_isFalse)), ((rM 12), .inl (cy 2, 200, .inl M_isMirage)), ((rM 0), .inl (cy 5, 5, .inr (.inr (.inr (.inr (fun i => some (ev (2 * (32 + i))))))))), ((rM 1), .inl (cy 5, 4, .inr (.inr (.inr (.inr (fun i => some (ev (2 * (37 + i))))))))), ((rM 13), .inl (cy 0, 500, .inl M_tape)), (h0, .inr (11, oX11 rM sM_139))] H := hP
                have hD : va_D A [((rM 3), .inl (cy 0, 14, .inl M_told)), ((rM 4), .inl (cy 0, 10, .inl M_place)), ((rM 5), .inl (cy 0, 10, .inl M_range)), ((rM 6), .inl (cy 0, 10, .inl M_voice)), ((rM 7), .inl (cy 0, 8, .inl M_kind)), ((rM 9), .inl (cy 0, 29, .inl M_read)), ((rM 11), .inl (cy 2, 10, .inl M_isFalse)), ((rM 12), .inl (cy 2, 200, .inl M_isMirage)), ((rM 0), .inl (cy 5, 5, .inr (.inr (.inr (.inr (fun i => some (ev (2 * (32 + i))))))))), ((rM 1), .inl (cy 5, 4, .inr (.inr (.inr (.inr (fun i => some (ev (2 * (37 + i))))))))), ((rM 13), .inl (cy 0, 500, .inl M_tape)), (h0, .inr (11, oX11 rM sM_139))] := hD
                exact J142 sM_139 l1 l3 _ _ _ h (hP.sub [11, 0, 1, 2, 3, 4, 5, 6, 7, 10, 8, 9] rfl) (hD.sub [11, 0, 1, 2, 3, 4, 5, 6, 7, 10, 8, 9] (by decide) rfl) hS (lv_sub hl [0, 1, 3] rfl)
            · have h := h.2 c121
              refine lv_aload_n hx hb dX11_readLine_124 rfl (lv_at hl 0 rfl) ?_
              refine clVv (As := []) (rest := []) (Wr := [((rM 4), .inl (cy 0, 10, .inl M_place)), ((rM 5), .inl (cy 0, 10, .inl M_range)), ((rM 6), .inl (cy 0, 10, .inl M_voice)), ((rM 7), .inl (cy 0, 8, .inl M_kind)), ((rM 9), .inl (cy 0, 29, .inl M_read)), ((rM 11), .inl (cy 2, 10, .inl M_isFalse)), ((rM 0), .inl (cy 5, 5, .inr (.inr (.inr (.inr (fun i => some (ev (2 * (32 + i))))))))), ((rM 1), .inl (cy 5, 4, .inr (.inr (.inr (.inr (fun i => some (ev (2 * (37 + i)))))))))]) (cq := (RX11, TX11, 56)) ⟨hx, hb, hml, hown, hts⟩ ⟨callB_of 0 hts (goodC mw1426) rfl rfl rfl (hts _ (tb mw15)) (hts _ (tb mw1423)) kdX11_readMirage ⟨Nat.le_trans (by decide) hRf, Nat.le_trans (by decide) hRl⟩, hts _ (tb mw1425), hts _ (tb ms52)⟩ (ctX11_readMirage l D cy ev h0 rM sM_118 M_told M_isMirage M_tape  _ _ h) hE hK hP hD hS hA [10, 0, 7, 11] [1, 2, 3, 4, 5, 6, 8, 9] rfl rfl (by decide) (by decide) (by decide) 0 rfl rfl rfl hl.1 rfl (Nat.le_of_ble_eq_true rfl) ⟨Nat.zero_le _, Nat.zero_le _⟩ dX11_readLine_125 (fun u H locs h hP hD hS => ?_)
              obtain ⟨sM_125, M_isMirage_125⟩ := u
              have hP : va_P D clsX [((rM 4), .inl (cy 0, 10, .inl M_place)), ((rM 5), .inl (cy 0, 10, .inl M_range)), ((rM 6), .inl (cy 0, 10, .inl M_voice)), ((rM 7), .inl (cy 0, 8, .inl M_kind)), ((rM 9), .inl (cy 0, 29, .inl M_read)), ((rM 11), .inl (cy 2, 10, .inl M_isFalse)), ((rM 0), .inl (cy 5, 5, .inr (.inr (.inr (.inr (fun i => some (ev (2 * (32 + i))))))))), ((rM 1), .inl (cy 5, 4, .inr (.inr (.inr (.inr (fun i => some (ev (2 * (37 + i))))))))), (h0, .inr (11, oX11 rM sM_125)), ((rM 3), .inl (cy 0, 14, .inl M_told)), ((rM 12), .inl (cy 2, 200, .inl M_isMirage_125)), ((rM 13), .inl (cy 0, 500, .inl M_tape))] H := hP
              have hD : va_D A [((rM 4), .inl (cy 0, 10, .inl M_place)), ((rM 5), .inl (cy 0, 10, .inl M_range)), ((rM 6), .inl (cy 0, 10, .inl M_voice)), ((rM 7), .inl (cy 0, 8, .inl M_kind)), ((rM 9), .inl (cy 0, 29, .inl M_read)), ((rM 11), .inl (cy 2, 10, .inl M_isFalse)), ((rM 0), .inl (cy 5, 5, .inr (.inr (.inr (.inr (fun i => some (ev (2 * (32 + i))))))))), ((rM 1), .inl (cy 5, 4, .inr (.inr (.inr (.inr (fun i => some (ev (2 * (37 + i))))))))), (h0, .inr (11, oX11 rM sM_125)), ((rM 3), .inl (cy 0, 14, .inl M_told)), ((rM 12), .inl (cy 2, 200, .inl M_isMirage_125)), ((rM 13), .inl (cy 0, 500, .inl M_tape))] := hD
              refine lv_goto (tgt := 215) hx hb dX11_readLine_128 (by decide) ?_
              exact J215 sM_125 M_told M_place M_range M_voice M_kind M_read M_isFalse M_isMirage_125 l1 l3 _ _ _ h (hP.sub [8, 9, 0, 1, 2, 3, 4, 5, 10, 11, 6, 7] rfl) (hD.sub [8, 9, 0, 1, 2, 3, 4, 5, 10, 11, 6, 7] (by decide) rfl) hS (lv_sub hl [0, 1, 3] rfl)
          · have h := h.2 c105
            refine lv_aload_n hx hb dX11_readLine_108 rfl (lv_at hl 0 rfl) ?_
            refine clVv (As := []) (rest := []) (Wr := [((rM 7), .inl (cy 0, 8, .inl M_kind)), ((rM 12), .inl (cy 2, 200, .inl M_isMirage)), ((rM 0), .inl (cy 5, 5, .inr (.inr (.inr (.inr (fun i => some (ev (2 * (32 + i))))))))), ((rM 1), .inl (cy 5, 4, .inr (.inr (.inr (.inr (fun i => some (ev (2 * (37 + i)))))))))]) (cq := (RX11, TX11, 56)) ⟨hx, hb, hml, hown, hts⟩ ⟨callB_of 0 hts (goodC mw1415) rfl rfl rfl (hts _ (tb mw15)) (hts _ (tb mw1412)) kdX11_readTower ⟨Nat.le_trans (by decide) hRf, Nat.le_trans (by decide) hRl⟩, hts _ (tb mw1414), hts _ (tb ms50)⟩ (ctX11_readTower l D cy ev h0 rM sM M_told M_place M_range M_voice M_read M_isFalse M_tape  _ _ h) hE hK hP hD hS hA [10, 0, 1, 2, 3, 5, 6, 11] [4, 7, 8, 9] rfl rfl (by decide) (by decide) (by decide) 0 rfl rfl rfl hl.1 rfl (Nat.le_of_ble_eq_true rfl) ⟨Nat.zero_le _, Nat.zero_le _⟩ dX11_readLine_109 (fun u H locs h hP hD hS => ?_)
            obtain ⟨sM_109, M_told_109, M_place_109, M_range_109, M_voice_109, M_read_109, M_isFalse_109⟩ := u
            have hP : va_P D clsX [((rM 7), .inl (cy 0, 8, .inl M_kind)), ((rM 12), .inl (cy 2, 200, .inl M_isMirage)), ((rM 0), .inl (cy 5, 5, .inr (.inr (.inr (.inr (fun i => some (ev (2 * (32 + i))))))))), ((rM 1), .inl (cy 5, 4, .inr (.inr (.inr (.inr (fun i => some (ev (2 * (37 + i))))))))), (h0, .inr (11, oX11 rM sM_109)), ((rM 3), .inl (cy 0, 14, .inl M_told_109)), ((rM 4), .inl (cy 0, 10, .inl M_place_109)), ((rM 5), .inl (cy 0, 10, .inl M_range_109)), ((rM 6), .inl (cy 0, 10, .inl M_voice_109)), ((rM 9), .inl (cy 0, 29, .inl M_read_109)), ((rM 11), .inl (cy 2, 10, .inl M_isFalse_109)), ((rM 13), .inl (cy 0, 500, .inl M_tape))] H := hP
            have hD : va_D A [((rM 7), .inl (cy 0, 8, .inl M_kind)), ((rM 12), .inl (cy 2, 200, .inl M_isMirage)), ((rM 0), .inl (cy 5, 5, .inr (.inr (.inr (.inr (fun i => some (ev (2 * (32 + i))))))))), ((rM 1), .inl (cy 5, 4, .inr (.inr (.inr (.inr (fun i => some (ev (2 * (37 + i))))))))), (h0, .inr (11, oX11 rM sM_109)), ((rM 3), .inl (cy 0, 14, .inl M_told_109)), ((rM 4), .inl (cy 0, 10, .inl M_place_109)), ((rM 5), .inl (cy 0, 10, .inl M_range_109)), ((rM 6), .inl (cy 0, 10, .inl M_voice_109)), ((rM 9), .inl (cy 0, 29, .inl M_read_109)), ((rM 11), .inl (cy 2, 10, .inl M_isFalse_109)), ((rM 13), .inl (cy 0, 500, .inl M_tape))] := hD
            refine lv_goto (tgt := 215) hx hb dX11_readLine_112 (by decide) ?_
            exact J215 sM_109 M_told_109 M_place_109 M_range_109 M_voice_109 M_kind M_read_109 M_isFalse_109 M_isMirage l1 l3 _ _ _ h (hP.sub [4, 5, 6, 7, 8, 0, 9, 10, 1, 11, 2, 3] rfl) (hD.sub [4, 5, 6, 7, 8, 0, 9, 10, 1, 11, 2, 3] (by decide) rfl) hS (lv_sub hl [0, 1, 3] rfl)
        · have h := h.2 c88
          refine lv_aload_n hx hb dX11_readLine_91 rfl (lv_at hl 0 rfl) ?_
          refine lv_iload_n hx hb dX11_readLine_92 rfl (lv_at hl 2 rfl) ?_
          refine clVv (As := [.int l2]) (rest := []) (Wr := [((rM 4), .inl (cy 0, 10, .inl M_place)), ((rM 5), .inl (cy 0, 10, .inl M_range)), ((rM 6), .inl (cy 0, 10, .inl M_voice)), ((rM 11), .inl (cy 2, 10, .inl M_isFalse)), ((rM 12), .inl (cy 2, 200, .inl M_isMirage)), ((rM 0), .inl (cy 5, 5, .inr (.inr (.inr (.inr (fun i => some (ev (2 * (32 + i))))))))), ((rM 1), .inl (cy 5, 4, .inr (.inr (.inr (.inr (fun i => some (ev (2 * (37 + i)))))))))]) (cq := (RX11, TX11, 56)) ⟨hx, hb, hml, hown, hts⟩ ⟨callB_of 1 hts (goodC mw1398) rfl rfl rfl (hts _ (tb mw15)) (hts _ (tb mw1395)) kdX11_readWalker ⟨Nat.le_trans (by decide) hRf, Nat.le_trans (by decide) hRl⟩, hts _ (tb mw1397), hts _ (tb ms46)⟩ (ctX11_readWalker l D cy ev h0 rM sM M_told M_kind M_read M_tape l2 _ _ h) hE hK hP hD hS hA [0, 1, 5, 6, 9] [2, 3, 4, 7, 8, 10, 11] rfl rfl (by decide) (by decide) (by decide) 0 rfl rfl rfl hl.1 rfl (Nat.le_of_ble_eq_true rfl) ⟨Nat.zero_le _, Nat.zero_le _⟩ dX11_readLine_93 (fun u H locs h hP hD hS => ?_)
          obtain ⟨sM_93, M_told_93, M_kind_93, M_read_93⟩ := u
          have hP : va_P D clsX [((rM 4), .inl (cy 0, 10, .inl M_place)), ((rM 5), .inl (cy 0, 10, .inl M_range)), ((rM 6), .inl (cy 0, 10, .inl M_voice)), ((rM 11), .inl (cy 2, 10, .inl M_isFalse)), ((rM 12), .inl (cy 2, 200, .inl M_isMirage)), ((rM 0), .inl (cy 5, 5, .inr (.inr (.inr (.inr (fun i => some (ev (2 * (32 + i))))))))), ((rM 1), .inl (cy 5, 4, .inr (.inr (.inr (.inr (fun i => some (ev (2 * (37 + i))))))))), (h0, .inr (11, oX11 rM sM_93)), ((rM 3), .inl (cy 0, 14, .inl M_told_93)), ((rM 7), .inl (cy 0, 8, .inl M_kind_93)), ((rM 9), .inl (cy 0, 29, .inl M_read_93)), ((rM 13), .inl (cy 0, 500, .inl M_tape))] H := hP
          have hD : va_D A [((rM 4), .inl (cy 0, 10, .inl M_place)), ((rM 5), .inl (cy 0, 10, .inl M_range)), ((rM 6), .inl (cy 0, 10, .inl M_voice)), ((rM 11), .inl (cy 2, 10, .inl M_isFalse)), ((rM 12), .inl (cy 2, 200, .inl M_isMirage)), ((rM 0), .inl (cy 5, 5, .inr (.inr (.inr (.inr (fun i => some (ev (2 * (32 + i))))))))), ((rM 1), .inl (cy 5, 4, .inr (.inr (.inr (.inr (fun i => some (ev (2 * (37 + i))))))))), (h0, .inr (11, oX11 rM sM_93)), ((rM 3), .inl (cy 0, 14, .inl M_told_93)), ((rM 7), .inl (cy 0, 8, .inl M_kind_93)), ((rM 9), .inl (cy 0, 29, .inl M_read_93)), ((rM 13), .inl (cy 0, 500, .inl M_tape))] := hD
          refine lv_goto (tgt := 215) hx hb dX11_readLine_96 (by decide) ?_
          exact J215 sM_93 M_told_93 M_place M_range M_voice M_kind_93 M_read_93 M_isFalse M_isMirage l1 l3 _ _ _ h (hP.sub [7, 8, 0, 1, 2, 9, 10, 3, 4, 11, 5, 6] rfl) (hD.sub [7, 8, 0, 1, 2, 9, 10, 3, 4, 11, 5, 6] (by decide) rfl) hS (lv_sub hl [0, 1, 3] rfl)
      have J75 : ∀ (sM : AR) (l1 : Int32) (l2 : Int32) (l3 : Int32) (H : Heap) (locs : List Loc) (ls : Array Slot), wpX11_readLine_J75 sM M_told M_place M_range M_voice M_kind M_read M_isFalse M_isMirage M_tape l1 l2 l3 post → va_P D clsX [(h0, .inr (11, oX11 rM sM)), ((rM 3), .inl (cy 0, 14, .inl M_told)), ((rM 4), .inl (cy 0, 10, .inl M_place)), ((rM 5), .inl (cy 0, 10, .inl M_range)), ((rM 6), .inl (cy 0, 10, .inl M_voice)), ((rM 7), .inl (cy 0, 8, .inl M_kind)), ((rM 9), .inl (cy 0, 29, .inl M_read)), ((rM 11), .inl (cy 2, 10, .inl M_isFalse)), ((rM 12), .inl (cy 2, 200, .inl M_isMirage)), ((rM 13), .inl (cy 0, 500, .inl M_tape)), ((rM 0), .inl (cy 5, 5, .inr (.inr (.inr (.inr (fun i => some (ev (2 * (32 + i))))))))), ((rM 1), .inl (cy 5, 4, .inr (.inr (.inr (.inr (fun i => some (ev (2 * (37 + i)))))))))] H → va_D A [(h0, .inr (11, oX11 rM sM)), ((rM 3), .inl (cy 0, 14, .inl M_told)), ((rM 4), .inl (cy 0, 10, .inl M_place)), ((rM 5), .inl (cy 0, 10, .inl M_range)), ((rM 6), .inl (cy 0, 10, .inl M_voice)), ((rM 7), .inl (cy 0, 8, .inl M_kind)), ((rM 9), .inl (cy 0, 29, .inl M_read)), ((rM 11), .inl (cy 2, 10, .inl M_isFalse)), ((rM 12), .inl (cy 2, 200, .inl M_isMirage)), ((rM 13), .inl (cy 0, 500, .inl M_tape)), ((rM 0), .inl (cy 5, 5, .inr (.inr (.inr (.inr (fun i => some (ev (2 * (32 + i))))))))), ((rM 1), .inl (cy 5, 4, .inr (.inr (.inr (.inr (fun i => some (ev (2 * (37 + i)))))))))] → va_S A s.heap H locs → lv_has ls 4 [(0, .ref h0), (1, .int l1), (2, .int l2), (3, .int l3)] → W p l e R s m args below meth c H locs 0 0 QQ (F0 m 75 ls []) := by
        intro sM l1 l2 l3 H locs ls h hP hD hS hl
        refine lv_iload_n hx hb dX11_readLine_75 rfl (lv_at hl 1 rfl) ?_
        refine lv_iload_n hx hb dX11_readLine_76 rfl (lv_at hl 3 rfl) ?_
        refine lv_iand hx hb dX11_readLine_77 ?_
        refine lv_if_eq (tgt := 86) hx hb dX11_readLine_78 (by decide) (fun c78 => ?_) (fun c78 => ?_)
        · have h := h.1 c78
          exact J86 sM l1 l2 l3 _ _ _ h hP hD hS hl
        · have h := h.2 c78
          refine lv_aload_n hx hb dX11_readLine_81 rfl (lv_at hl 0 rfl) ?_
          refine lv_iconst (v := (4 : Int32)) hx hb dX11_readLine_82 (by decide) ?_
          refine clVv (As := [.int (4 : Int32)]) (rest := []) (Wr := [((rM 3), .inl (cy 0, 14, .inl M_told)), ((rM 4), .inl (cy 0, 10, .inl M_place)), ((rM 5), .inl (cy 0, 10, .inl M_range)), ((rM 6), .inl (cy 0, 10, .inl M_voice)), ((rM 7), .inl (cy 0, 8, .inl M_kind)), ((rM 9), .inl (cy 0, 29, .inl M_read)), ((rM 11), .inl (cy 2, 10, .inl M_isFalse)), ((rM 12), .inl (cy 2, 200, .inl M_isMirage)), ((rM 13), .inl (cy 0, 500, .inl M_tape)), ((rM 0), .inl (cy 5, 5, .inr (.inr (.inr (.inr (fun i => some (ev (2 * (32 + i))))))))), ((rM 1), .inl (cy 5, 4, .inr (.inr (.inr (.inr (fun i => some (ev (2 * (37 + i)))))))))]) (cq := (RX11, TX11, 56)) ⟨hx, hb, hml, hown, hts⟩ ⟨callB_of 1 hts (goodC mw1394) rfl rfl rfl (hts _ (tb mw15)) (hts _ (tb mw1391)) kdX11_wrong ⟨Nat.le_trans (by decide) hRf, Nat.le_trans (by decide) hRl⟩, hts _ (tb mw1393), hts _ (tb ms45)⟩ (ctX11_wrong l D cy ev h0 rM sM (4 : Int32) _ _ h) hE hK hP hD hS hA [0] [1, 2, 3, 4, 5, 6, 7, 8, 9, 10, 11] rfl rfl (by decide) (by decide) (by decide) 0 rfl rfl rfl hl.1 rfl (Nat.le_of_ble_eq_true rfl) ⟨Nat.zero_le _, Nat.zero_le _⟩ dX11_readLine_83 (fun sM_83 H locs h hP hD hS => ?_)
          have hP : va_P D clsX [((rM 3), .inl (cy 0, 14, .inl M_told)), ((rM 4), .inl (cy 0, 10, .inl M_place)), ((rM 5), .inl (cy 0, 10, .inl M_range)), ((rM 6), .inl (cy 0, 10, .inl M_voice)), ((rM 7), .inl (cy 0, 8, .inl M_kind)), ((rM 9), .inl (cy 0, 29, .inl M_read)), ((rM 11), .inl (cy 2, 10, .inl M_isFalse)), ((rM 12), .inl (cy 2, 200, .inl M_isMirage)), ((rM 13), .inl (cy 0, 500, .inl M_tape)), ((rM 0), .inl (cy 5, 5, .inr (.inr (.inr (.inr (fun i => some (ev (2 * (32 + i))))))))), ((rM 1), .inl (cy 5, 4, .inr (.inr (.inr (.inr (fun i => some (ev (2 * (37 + i))))))))), (h0, .inr (11, oX11 rM sM_83))] H := hP
          have hD : va_D A [((rM 3), .inl (cy 0, 14, .inl M_told)), ((rM 4), .inl (cy 0, 10, .inl M_place)), ((rM 5), .inl (cy 0, 10, .inl M_range)), ((rM 6), .inl (cy 0, 10, .inl M_voice)), ((rM 7), .inl (cy 0, 8, .inl M_kind)), ((rM 9), .inl (cy 0, 29, .inl M_read)), ((rM 11), .inl (cy 2, 10, .inl M_isFalse)), ((rM 12), .inl (cy 2, 200, .inl M_isMirage)), ((rM 13), .inl (cy 0, 500, .inl M_tape)), ((rM 0), .inl (cy 5, 5, .inr (.inr (.inr (.inr (fun i => some (ev (2 * (32 + i))))))))), ((rM 1), .inl (cy 5, 4, .inr (.inr (.inr (.inr (fun i => some (ev (2 * (37 + i))))))))), (h0, .inr (11, oX11 rM sM_83))] := hD
          exact J86 sM_83 l1 l2 l3 _ _ _ h (hP.sub [11, 0, 1, 2, 3, 4, 5, 6, 7, 8, 9, 10] rfl) (hD.sub [11, 0, 1, 2, 3, 4, 5, 6, 7, 8, 9, 10] (by decide) rfl) hS hl
      refine lv_iload_n hx hb dX11_readLine_65 rfl (lv_at hl 3 rfl) ?_
      refine lv_iconst (v := (2 : Int32)) hx hb dX11_readLine_66 (by decide) ?_
      refine lv_icmp_eq (tgt := 75) hx hb dX11_readLine_67 (by decide) (fun c67 => ?_) (fun c67 => ?_)
      · have h := h.1 c67
        exact J75 sM l1 l2 l3 _ _ _ h hP hD hS hl
      · have h := h.2 c67
        refine lv_iload_n hx hb dX11_readLine_70 rfl (lv_at hl 3 rfl) ?_
        refine lv_iconst (v := (4 : Int32)) hx hb dX11_readLine_71 (by decide) ?_
        refine lv_icmp_ne (tgt := 86) hx hb dX11_readLine_72 (by decide) (fun c72 => ?_) (fun c72 => ?_)
        · have h := h.1 c72
          exact J86 sM l1 l2 l3 _ _ _ h hP hD hS hl
        · have h := h.2 c72
          exact J75 sM l1 l2 l3 _ _ _ h hP hD hS hl
    refine lv_istore_n (lv' := [(3, .int t0), (0, .ref h0), (1, .int l1), (2, .int l2)]) hx hb dX11_readLine_50 rfl hl (by decide) rfl (fun ls hl => ?_)
    refine lv_iload_n hx hb dX11_readLine_51 rfl (lv_at hl 0 rfl) ?_
    refine lv_iconst (v := (1 : Int32)) hx hb dX11_readLine_52 (by decide) ?_
    refine lv_icmp_ne (tgt := 65) hx hb dX11_readLine_53 (by decide) (fun c53 => ?_) (fun c53 => ?_)
    · have h := h.1 c53
      exact J65 sM l1 l2 t0 _ _ _ h hP hD hS (lv_sub hl [1, 2, 3, 0] rfl)
    · have h := h.2 c53
      refine lv_iload_n hx hb dX11_readLine_56 rfl (lv_at hl 2 rfl) ?_
      refine lv_if_eq (tgt := 65) hx hb dX11_readLine_57 (by decide) (fun c57 => ?_) (fun c57 => ?_)
      · have h := h.1 c57
        exact J65 sM l1 l2 t0 _ _ _ h hP hD hS (lv_sub hl [1, 2, 3, 0] rfl)
      · have h := h.2 c57
        refine lv_aload_n hx hb dX11_readLine_60 rfl (lv_at hl 1 rfl) ?_
        refine lv_iconst (v := (3 : Int32)) hx hb dX11_readLine_61 (by decide) ?_
        refine clVv (As := [.int (3 : Int32)]) (rest := []) (Wr := [((rM 3), .inl (cy 0, 14, .inl M_told)), ((rM 4), .inl (cy 0, 10, .inl M_place)), ((rM 5), .inl (cy 0, 10, .inl M_range)), ((rM 6), .inl (cy 0, 10, .inl M_voice)), ((rM 7), .inl (cy 0, 8, .inl M_kind)), ((rM 9), .inl (cy 0, 29, .inl M_read)), ((rM 11), .inl (cy 2, 10, .inl M_isFalse)), ((rM 12), .inl (cy 2, 200, .inl M_isMirage)), ((rM 13), .inl (cy 0, 500, .inl M_tape)), ((rM 0), .inl (cy 5, 5, .inr (.inr (.inr (.inr (fun i => some (ev (2 * (32 + i))))))))), ((rM 1), .inl (cy 5, 4, .inr (.inr (.inr (.inr (fun i => some (ev (2 * (37 + i)))))))))]) (cq := (RX11, TX11, 56)) ⟨hx, hb, hml, hown, hts⟩ ⟨callB_of 1 hts (goodC mw1394) rfl rfl rfl (hts _ (tb mw15)) (hts _ (tb mw1391)) kdX11_wrong ⟨Nat.le_trans (by decide) hRf, Nat.le_trans (by decide) hRl⟩, hts _ (tb mw1393), hts _ (tb ms45)⟩ (ctX11_wrong l D cy ev h0 rM sM (3 : Int32) _ _ h) hE hK hP hD hS hA [0] [1, 2, 3, 4, 5, 6, 7, 8, 9, 10, 11] rfl rfl (by decide) (by decide) (by decide) 0 rfl rfl rfl hl.1 rfl (Nat.le_of_ble_eq_true rfl) ⟨Nat.zero_le _, Nat.zero_le _⟩ dX11_readLine_62 (fun sM_62 H locs h hP hD hS => ?_)
        have hP : va_P D clsX [((rM 3), .inl (cy 0, 14, .inl M_told)), ((rM 4), .inl (cy 0, 10, .inl M_place)), ((rM 5), .inl (cy 0, 10, .inl M_range)), ((rM 6), .inl (cy 0, 10, .inl M_voice)), ((rM 7), .inl (cy 0, 8, .inl M_kind)), ((rM 9), .inl (cy 0, 29, .inl M_read)), ((rM 11), .inl (cy 2, 10, .inl M_isFalse)), ((rM 12), .inl (cy 2, 200, .inl M_isMirage)), ((rM 13), .inl (cy 0, 500, .inl M_tape)), ((rM 0), .inl (cy 5, 5, .inr (.inr (.inr (.inr (fun i => some (ev (2 * (32 + i))))))))), ((rM 1), .inl (cy 5, 4, .inr (.inr (.inr (.inr (fun i => some (ev (2 * (37 + i))))))))), (h0, .inr (11, oX11 rM sM_62))] H := hP
        have hD : va_D A [((rM 3), .inl (cy 0, 14, .inl M_told)), ((rM 4), .inl (cy 0, 10, .inl M_place)), ((rM 5), .inl (cy 0, 10, .inl M_range)), ((rM 6), .inl (cy 0, 10, .inl M_voice)), ((rM 7), .inl (cy 0, 8, .inl M_kind)), ((rM 9), .inl (cy 0, 29, .inl M_read)), ((rM 11), .inl (cy 2, 10, .inl M_isFalse)), ((rM 12), .inl (cy 2, 200, .inl M_isMirage)), ((rM 13), .inl (cy 0, 500, .inl M_tape)), ((rM 0), .inl (cy 5, 5, .inr (.inr (.inr (.inr (fun i => some (ev (2 * (32 + i))))))))), ((rM 1), .inl (cy 5, 4, .inr (.inr (.inr (.inr (fun i => some (ev (2 * (37 + i))))))))), (h0, .inr (11, oX11 rM sM_62))] := hD
        exact J65 sM_62 l1 l2 t0 _ _ _ h (hP.sub [11, 0, 1, 2, 3, 4, 5, 6, 7, 8, 9, 10] rfl) (hD.sub [11, 0, 1, 2, 3, 4, 5, 6, 7, 8, 9, 10] (by decide) rfl) hS (lv_sub hl [1, 2, 3, 0] rfl)
  refine lv_aload_n hx hb dX11_readLine_0 rfl (lv_at hl 0 rfl) ?_
  refine lv_aload_n hx hb dX11_readLine_1 rfl (lv_at hl 0 rfl) ?_
  refine gfX11_19 hx hb hts hown hK hP 0 rfl dX11_readLine_2 ?_
  refine clVi (As := [.ref (rM 0)]) (rest := []) (Wr := [((rM 3), .inl (cy 0, 14, .inl M_told)), ((rM 4), .inl (cy 0, 10, .inl M_place)), ((rM 5), .inl (cy 0, 10, .inl M_range)), ((rM 6), .inl (cy 0, 10, .inl M_voice)), ((rM 7), .inl (cy 0, 8, .inl M_kind)), ((rM 9), .inl (cy 0, 29, .inl M_read)), ((rM 11), .inl (cy 2, 10, .inl M_isFalse)), ((rM 12), .inl (cy 2, 200, .inl M_isMirage)), ((rM 1), .inl (cy 5, 4, .inr (.inr (.inr (.inr (fun i => some (ev (2 * (37 + i)))))))))]) (cq := (RX11, TX11, 56)) ⟨hx, hb, hml, hown, hts⟩ ⟨callB_of 1 hts (goodC mw1381) rfl rfl rfl (hts _ (tb mw15)) (hts _ (tb mw1378)) kdX11_which ⟨Nat.le_trans (by decide) hRf, Nat.le_trans (by decide) hRl⟩, hts _ (tb mw1380), hts _ (tb ms43)⟩ (ctX11_which l D cy ev h0 (rM 0) rM sM M_tape 32 5  _ _ h) hE hK hP hD hS hA [0, 9, 10] [1, 2, 3, 4, 5, 6, 7, 8, 11] rfl rfl (by decide) (by decide) (by decide) 0 rfl rfl rfl hl.1 rfl (Nat.le_of_ble_eq_true rfl) ⟨Nat.zero_le _, Nat.zero_le _⟩ dX11_readLine_5 (fun r5 u H locs h hP hD hS => ?_)
  have hP : va_P D clsX [((rM 3), .inl (cy 0, 14, .inl M_told)), ((rM 4), .inl (cy 0, 10, .inl M_place)), ((rM 5), .inl (cy 0, 10, .inl M_range)), ((rM 6), .inl (cy 0, 10, .inl M_voice)), ((rM 7), .inl (cy 0, 8, .inl M_kind)), ((rM 9), .inl (cy 0, 29, .inl M_read)), ((rM 11), .inl (cy 2, 10, .inl M_isFalse)), ((rM 12), .inl (cy 2, 200, .inl M_isMirage)), ((rM 1), .inl (cy 5, 4, .inr (.inr (.inr (.inr (fun i => some (ev (2 * (37 + i))))))))), (h0, .inr (11, oX11 rM sM)), ((rM 13), .inl (cy 0, 500, .inl M_tape)), ((rM 0), .inl (cy 5, 5, .inr (.inr (.inr (.inr (fun i => some (ev (2 * (32 + i)))))))))] H := hP
  have hD : va_D A [((rM 3), .inl (cy 0, 14, .inl M_told)), ((rM 4), .inl (cy 0, 10, .inl M_place)), ((rM 5), .inl (cy 0, 10, .inl M_range)), ((rM 6), .inl (cy 0, 10, .inl M_voice)), ((rM 7), .inl (cy 0, 8, .inl M_kind)), ((rM 9), .inl (cy 0, 29, .inl M_read)), ((rM 11), .inl (cy 2, 10, .inl M_isFalse)), ((rM 12), .inl (cy 2, 200, .inl M_isMirage)), ((rM 1), .inl (cy 5, 4, .inr (.inr (.inr (.inr (fun i => some (ev (2 * (37 + i))))))))), (h0, .inr (11, oX11 rM sM)), ((rM 13), .inl (cy 0, 500, .inl M_tape)), ((rM 0), .inl (cy 5, 5, .inr (.inr (.inr (.inr (fun i => some (ev (2 * (32 + i)))))))))] := hD
  refine lv_istore_n (lv' := [(2, .int r5), (0, .ref h0), (1, .int x1)]) hx hb dX11_readLine_8 rfl hl (by decide) rfl (fun ls hl => ?_)
  refine lv_aload_n hx hb dX11_readLine_9 rfl (lv_at hl 1 rfl) ?_
  refine va_ldcS hx hb hown (hE.1 41 (by decide)).1 dX11_readLine_10 ?_
  refine clVi (As := [.ref (ev (2 * 41))]) (rest := []) (Wr := [((rM 3), .inl (cy 0, 14, .inl M_told)), ((rM 4), .inl (cy 0, 10, .inl M_place)), ((rM 5), .inl (cy 0, 10, .inl M_range)), ((rM 6), .inl (cy 0, 10, .inl M_voice)), ((rM 7), .inl (cy 0, 8, .inl M_kind)), ((rM 9), .inl (cy 0, 29, .inl M_read)), ((rM 11), .inl (cy 2, 10, .inl M_isFalse)), ((rM 12), .inl (cy 2, 200, .inl M_isMirage)), ((rM 1), .inl (cy 5, 4, .inr (.inr (.inr (.inr (fun i => some (ev (2 * (37 + i))))))))), ((rM 0), .inl (cy 5, 5, .inr (.inr (.inr (.inr (fun i => some (ev (2 * (32 + i)))))))))]) (cq := (RX11, TX11, 56)) ⟨hx, hb, hml, hown, hts⟩ ⟨callB_of 1 hts (goodC mw1385) rfl rfl rfl (hts _ (tb mw15)) (hts _ (tb mw1382)) kdX11_is ⟨Nat.le_trans (by decide) hRf, Nat.le_trans (by decide) hRl⟩, hts _ (tb mw1384), hts _ (tb ms44)⟩ (ctX11_is l D cy ev h0 rM sM M_tape 41  _ _ h) hE hK hP hD hS hA [9, 10] [0, 1, 2, 3, 4, 5, 6, 7, 8, 11] rfl rfl (by decide) (by decide) (by decide) 0 rfl rfl rfl hl.1 rfl (Nat.le_of_ble_eq_true rfl) ⟨Nat.zero_le _, Nat.zero_le _⟩ dX11_readLine_12 (fun r12 u H locs h hP hD hS => ?_)
  have hP : va_P D clsX [((rM 3), .inl (cy 0, 14, .inl M_told)), ((rM 4), .inl (cy 0, 10, .inl M_place)), ((rM 5), .inl (cy 0, 10, .inl M_range)), ((rM 6), .inl (cy 0, 10, .inl M_voice)), ((rM 7), .inl (cy 0, 8, .inl M_kind)), ((rM 9), .inl (cy 0, 29, .inl M_read)), ((rM 11), .inl (cy 2, 10, .inl M_isFalse)), ((rM 12), .inl (cy 2, 200, .inl M_isMirage)), ((rM 1), .inl (cy 5, 4, .inr (.inr (.inr (.inr (fun i => some (ev (2 * (37 + i))))))))), ((rM 0), .inl (cy 5, 5, .inr (.inr (.inr (.inr (fun i => some (ev (2 * (32 + i))))))))), (h0, .inr (11, oX11 rM sM)), ((rM 13), .inl (cy 0, 500, .inl M_tape))] H := hP
  have hD : va_D A [((rM 3), .inl (cy 0, 14, .inl M_told)), ((rM 4), .inl (cy 0, 10, .inl M_place)), ((rM 5), .inl (cy 0, 10, .inl M_range)), ((rM 6), .inl (cy 0, 10, .inl M_voice)), ((rM 7), .inl (cy 0, 8, .inl M_kind)), ((rM 9), .inl (cy 0, 29, .inl M_read)), ((rM 11), .inl (cy 2, 10, .inl M_isFalse)), ((rM 12), .inl (cy 2, 200, .inl M_isMirage)), ((rM 1), .inl (cy 5, 4, .inr (.inr (.inr (.inr (fun i => some (ev (2 * (37 + i))))))))), ((rM 0), .inl (cy 5, 5, .inr (.inr (.inr (.inr (fun i => some (ev (2 * (32 + i))))))))), (h0, .inr (11, oX11 rM sM)), ((rM 13), .inl (cy 0, 500, .inl M_tape))] := hD
  refine lv_if_eq (tgt := 22) hx hb dX11_readLine_15 (by decide) (fun c15 => ?_) (fun c15 => ?_)
  · have h := h.1 c15
    refine lv_aload_n hx hb dX11_readLine_22 rfl (lv_at hl 1 rfl) ?_
    refine va_ldcS hx hb hown (hE.1 42 (by decide)).1 dX11_readLine_23 ?_
    refine clVi (As := [.ref (ev (2 * 42))]) (rest := []) (Wr := [((rM 3), .inl (cy 0, 14, .inl M_told)), ((rM 4), .inl (cy 0, 10, .inl M_place)), ((rM 5), .inl (cy 0, 10, .inl M_range)), ((rM 6), .inl (cy 0, 10, .inl M_voice)), ((rM 7), .inl (cy 0, 8, .inl M_kind)), ((rM 9), .inl (cy 0, 29, .inl M_read)), ((rM 11), .inl (cy 2, 10, .inl M_isFalse)), ((rM 12), .inl (cy 2, 200, .inl M_isMirage)), ((rM 1), .inl (cy 5, 4, .inr (.inr (.inr (.inr (fun i => some (ev (2 * (37 + i))))))))), ((rM 0), .inl (cy 5, 5, .inr (.inr (.inr (.inr (fun i => some (ev (2 * (32 + i)))))))))]) (cq := (RX11, TX11, 56)) ⟨hx, hb, hml, hown, hts⟩ ⟨callB_of 1 hts (goodC mw1385) rfl rfl rfl (hts _ (tb mw15)) (hts _ (tb mw1382)) kdX11_is ⟨Nat.le_trans (by decide) hRf, Nat.le_trans (by decide) hRl⟩, hts _ (tb mw1384), hts _ (tb ms44)⟩ (ctX11_is l D cy ev h0 rM sM M_tape 42  _ _ h) hE hK hP hD hS hA [10, 11] [0, 1, 2, 3, 4, 5, 6, 7, 8, 9] rfl rfl (by decide) (by decide) (by decide) 0 rfl rfl rfl hl.1 rfl (Nat.le_of_ble_eq_true rfl) ⟨Nat.zero_le _, Nat.zero_le _⟩ dX11_readLine_25 (fun r25 u H locs h hP hD hS => ?_)
    have hP : va_P D clsX [((rM 3), .inl (cy 0, 14, .inl M_told)), ((rM 4), .inl (cy 0, 10, .inl M_place)), ((rM 5), .inl (cy 0, 10, .inl M_range)), ((rM 6), .inl (cy 0, 10, .inl M_voice)), ((rM 7), .inl (cy 0, 8, .inl M_kind)), ((rM 9), .inl (cy 0, 29, .inl M_read)), ((rM 11), .inl (cy 2, 10, .inl M_isFalse)), ((rM 12), .inl (cy 2, 200, .inl M_isMirage)), ((rM 1), .inl (cy 5, 4, .inr (.inr (.inr (.inr (fun i => some (ev (2 * (37 + i))))))))), ((rM 0), .inl (cy 5, 5, .inr (.inr (.inr (.inr (fun i => some (ev (2 * (32 + i))))))))), (h0, .inr (11, oX11 rM sM)), ((rM 13), .inl (cy 0, 500, .inl M_tape))] H := hP
    have hD : va_D A [((rM 3), .inl (cy 0, 14, .inl M_told)), ((rM 4), .inl (cy 0, 10, .inl M_place)), ((rM 5), .inl (cy 0, 10, .inl M_range)), ((rM 6), .inl (cy 0, 10, .inl M_voice)), ((rM 7), .inl (cy 0, 8, .inl M_kind)), ((rM 9), .inl (cy 0, 29, .inl M_read)), ((rM 11), .inl (cy 2, 10, .inl M_isFalse)), ((rM 12), .inl (cy 2, 200, .inl M_isMirage)), ((rM 1), .inl (cy 5, 4, .inr (.inr (.inr (.inr (fun i => some (ev (2 * (37 + i))))))))), ((rM 0), .inl (cy 5, 5, .inr (.inr (.inr (.inr (fun i => some (ev (2 * (32 + i))))))))), (h0, .inr (11, oX11 rM sM)), ((rM 13), .inl (cy 0, 500, .inl M_tape))] := hD
    refine lv_if_eq (tgt := 35) hx hb dX11_readLine_28 (by decide) (fun c28 => ?_) (fun c28 => ?_)
    · have h := h.1 c28
      refine lv_aload_n hx hb dX11_readLine_35 rfl (lv_at hl 1 rfl) ?_
      refine va_ldcS hx hb hown (hE.1 43 (by decide)).1 dX11_readLine_36 ?_
      refine clVi (As := [.ref (ev (2 * 43))]) (rest := []) (Wr := [((rM 3), .inl (cy 0, 14, .inl M_told)), ((rM 4), .inl (cy 0, 10, .inl M_place)), ((rM 5), .inl (cy 0, 10, .inl M_range)), ((rM 6), .inl (cy 0, 10, .inl M_voice)), ((rM 7), .inl (cy 0, 8, .inl M_kind)), ((rM 9), .inl (cy 0, 29, .inl M_read)), ((rM 11), .inl (cy 2, 10, .inl M_isFalse)), ((rM 12), .inl (cy 2, 200, .inl M_isMirage)), ((rM 1), .inl (cy 5, 4, .inr (.inr (.inr (.inr (fun i => some (ev (2 * (37 + i))))))))), ((rM 0), .inl (cy 5, 5, .inr (.inr (.inr (.inr (fun i => some (ev (2 * (32 + i)))))))))]) (cq := (RX11, TX11, 56)) ⟨hx, hb, hml, hown, hts⟩ ⟨callB_of 1 hts (goodC mw1385) rfl rfl rfl (hts _ (tb mw15)) (hts _ (tb mw1382)) kdX11_is ⟨Nat.le_trans (by decide) hRf, Nat.le_trans (by decide) hRl⟩, hts _ (tb mw1384), hts _ (tb ms44)⟩ (ctX11_is l D cy ev h0 rM sM M_tape 43  _ _ h) hE hK hP hD hS hA [10, 11] [0, 1, 2, 3, 4, 5, 6, 7, 8, 9] rfl rfl (by decide) (by decide) (by decide) 0 rfl rfl rfl hl.1 rfl (Nat.le_of_ble_eq_true rfl) ⟨Nat.zero_le _, Nat.zero_le _⟩ dX11_readLine_38 (fun r38 u H locs h hP hD hS => ?_)
      have hP : va_P D clsX [((rM 3), .inl (cy 0, 14, .inl M_told)), ((rM 4), .inl (cy 0, 10, .inl M_place)), ((rM 5), .inl (cy 0, 10, .inl M_range)), ((rM 6), .inl (cy 0, 10, .inl M_voice)), ((rM 7), .inl (cy 0, 8, .inl M_kind)), ((rM 9), .inl (cy 0, 29, .inl M_read)), ((rM 11), .inl (cy 2, 10, .inl M_isFalse)), ((rM 12), .inl (cy 2, 200, .inl M_isMirage)), ((rM 1), .inl (cy 5, 4, .inr (.inr (.inr (.inr (fun i => some (ev (2 * (37 + i))))))))), ((rM 0), .inl (cy 5, 5, .inr (.inr (.inr (.inr (fun i => some (ev (2 * (32 + i))))))))), (h0, .inr (11, oX11 rM sM)), ((rM 13), .inl (cy 0, 500, .inl M_tape))] H := hP
      have hD : va_D A [((rM 3), .inl (cy 0, 14, .inl M_told)), ((rM 4), .inl (cy 0, 10, .inl M_place)), ((rM 5), .inl (cy 0, 10, .inl M_range)), ((rM 6), .inl (cy 0, 10, .inl M_voice)), ((rM 7), .inl (cy 0, 8, .inl M_kind)), ((rM 9), .inl (cy 0, 29, .inl M_read)), ((rM 11), .inl (cy 2, 10, .inl M_isFalse)), ((rM 12), .inl (cy 2, 200, .inl M_isMirage)), ((rM 1), .inl (cy 5, 4, .inr (.inr (.inr (.inr (fun i => some (ev (2 * (37 + i))))))))), ((rM 0), .inl (cy 5, 5, .inr (.inr (.inr (.inr (fun i => some (ev (2 * (32 + i))))))))), (h0, .inr (11, oX11 rM sM)), ((rM 13), .inl (cy 0, 500, .inl M_tape))] := hD
      refine lv_if_eq (tgt := 48) hx hb dX11_readLine_41 (by decide) (fun c41 => ?_) (fun c41 => ?_)
      · have h := h.1 c41
        refine lv_bipush (v := (8 : Int32)) hx hb dX11_readLine_48 (by decide) ?_
        exact J50 x1 r5 (8 : Int32) _ _ _ h (hP.sub [10, 0, 1, 2, 3, 4, 5, 6, 7, 11, 9, 8] rfl) (hD.sub [10, 0, 1, 2, 3, 4, 5, 6, 7, 11, 9, 8] (by decide) rfl) hS (lv_sub hl [1, 2, 0] rfl)
      · have h := h.2 c41
        refine lv_iconst (v := (4 : Int32)) hx hb dX11_readLine_44 (by decide) ?_
        refine lv_goto (tgt := 50) hx hb dX11_readLine_45 (by decide) ?_
        exact J50 x1 r5 (4 : Int32) _ _ _ h (hP.sub [10, 0, 1, 2, 3, 4, 5, 6, 7, 11, 9, 8] rfl) (hD.sub [10, 0, 1, 2, 3, 4, 5, 6, 7, 11, 9, 8] (by decide) rfl) hS (lv_sub hl [1, 2, 0] rfl)
    · have h := h.2 c28
      refine lv_iconst (v := (2 : Int32)) hx hb dX11_readLine_31 (by decide) ?_
      refine lv_goto (tgt := 50) hx hb dX11_readLine_32 (by decide) ?_
      exact J50 x1 r5 (2 : Int32) _ _ _ h (hP.sub [10, 0, 1, 2, 3, 4, 5, 6, 7, 11, 9, 8] rfl) (hD.sub [10, 0, 1, 2, 3, 4, 5, 6, 7, 11, 9, 8] (by decide) rfl) hS (lv_sub hl [1, 2, 0] rfl)
  · have h := h.2 c15
    refine lv_iconst (v := (1 : Int32)) hx hb dX11_readLine_18 (by decide) ?_
    refine lv_goto (tgt := 50) hx hb dX11_readLine_19 (by decide) ?_
    exact J50 x1 r5 (1 : Int32) _ _ _ h (hP.sub [10, 0, 1, 2, 3, 4, 5, 6, 7, 11, 9, 8] rfl) (hD.sub [10, 0, 1, 2, 3, 4, 5, 6, 7, 11, 9, 8] (by decide) rfl) hS (lv_sub hl [1, 2, 0] rfl)
def wpX11_flat_J45 (sM : AR) (M_told : AR) (M_place : AR) (M_range : AR) (M_voice : AR) (M_kind : AR) (M_now : AR) (M_read : AR) (M_status : AR) (M_isFalse : AR) (M_isMirage : AR) (M_tape : AR) (l2 : Int32) (t1 : Int32) (t2 : Int32) (kb : AR → Int32 → Prop) (kx52 : AR → Int32 → Prop) (post : Int32 → AR → AR → AR → AR → AR → AR → AR → AR → AR → AR → AR → Prop) : Prop := vp_in t1 14 ∧ ∀ M_told_45 : AR, M_told_45 = upd M_told t1.toNatClampNeg t2 → ∀ l2_46 : Int32, l2_46 = (l2 + (1 : Int32)) → kb M_told_45 l2_46
def wpX11_flat_L22 (sM : AR) (M_place : AR) (M_range : AR) (M_voice : AR) (M_kind : AR) (M_now : AR) (M_read : AR) (M_status : AR) (M_isFalse : AR) (M_isMirage : AR) (M_tape : AR) (kx52 : AR → Int32 → Prop) (post : Int32 → AR → AR → AR → AR → AR → AR → AR → AR → AR → AR → AR → Prop) : Nat → AR → Int32 → Prop
  | 0, _, _ => False
  | nf22 + 1, M_told, l2 => (((14 : Int32) ≤ l2 → kx52 M_told l2) ∧ (¬ (14 : Int32) ≤ l2 → (((9 : Int32) ≤ l2 → wpX11_flat_J45 sM M_told M_place M_range M_voice M_kind M_now M_read M_status M_isFalse M_isMirage M_tape l2 l2 (0 : Int32) (fun b0 b1 => wpX11_flat_L22 sM M_place M_range M_voice M_kind M_now M_read M_status M_isFalse M_isMirage M_tape kx52 post nf22 b0 b1) kx52 post) ∧ (¬ (9 : Int32) ≤ l2 → wpX11_flat_J45 sM M_told M_place M_range M_voice M_kind M_now M_read M_status M_isFalse M_isMirage M_tape l2 l2 (6 : Int32) (fun b0 b1 => wpX11_flat_L22 sM M_place M_range M_voice M_kind M_now M_read M_status M_isFalse M_isMirage M_tape kx52 post nf22 b0 b1) kx52 post))))
def wpX11_flat_L54 (sM : AR) (M_told : AR) (M_place : AR) (M_range : AR) (M_voice : AR) (M_kind : AR) (M_now : AR) (M_read : AR) (M_status : AR) (M_isFalse : AR) (M_tape : AR) (kx76 : AR → Int32 → Prop) (post : Int32 → AR → AR → AR → AR → AR → AR → AR → AR → AR → AR → AR → Prop) : Nat → AR → Int32 → Prop
  | 0, _, _ => False
  | nf54 + 1, M_isMirage, l2 => (((100 : Int32) ≤ l2 → kx76 M_isMirage l2) ∧ (¬ (100 : Int32) ≤ l2 → vp_in ((100 : Int32) + l2) 200 ∧ ∀ M_isMirage_69 : AR, M_isMirage_69 = upd M_isMirage ((100 : Int32) + l2).toNatClampNeg (0 : Int32) → ∀ l2_70 : Int32, l2_70 = (l2 + (1 : Int32)) → wpX11_flat_L54 sM M_told M_place M_range M_voice M_kind M_now M_read M_status M_isFalse M_tape kx76 post nf54 M_isMirage_69 l2_70))
def wpX11_flat_L78 (sM : AR) (M_told : AR) (M_place : AR) (M_range : AR) (M_voice : AR) (M_kind : AR) (M_now : AR) (M_status : AR) (M_isFalse : AR) (M_isMirage : AR) (M_tape : AR) (kx97 : AR → Int32 → Prop) (post : Int32 → AR → AR → AR → AR → AR → AR → AR → AR → AR → AR → AR → Prop) : Nat → AR → Int32 → Prop
  | 0, _, _ => False
  | nf78 + 1, M_read, l2 => (((29 : Int32) ≤ l2 → kx97 M_read l2) ∧ (¬ (29 : Int32) ≤ l2 → vp_in l2 29 ∧ ∀ M_read_90 : AR, M_read_90 = upd M_read l2.toNatClampNeg (0 : Int32) → ∀ l2_91 : Int32, l2_91 = (l2 + (1 : Int32)) → wpX11_flat_L78 sM M_told M_place M_range M_voice M_kind M_now M_status M_isFalse M_isMirage M_tape kx97 post nf78 M_read_90 l2_91))
def wpX11_flat_L99 (M_now : AR) (M_status : AR) (M_tape : AR) (kx122 : AR → AR → AR → AR → AR → AR → AR → AR → AR → Int32 → Prop) (post : Int32 → AR → AR → AR → AR → AR → AR → AR → AR → AR → AR → AR → Prop) : Nat → AR → AR → AR → AR → AR → AR → AR → AR → AR → Int32 → Prop
  | 0, _, _, _, _, _, _, _, _, _, _ => False
  | nf99 + 1, sM, M_told, M_place, M_range, M_voice, M_kind, M_read, M_isFalse, M_isMirage, l2 => ((¬ (sM 21) = 0 → kx122 sM M_told M_place M_range M_voice M_kind M_read M_isFalse M_isMirage l2) ∧ ((sM 21) = 0 → (((sM 17) = 0 → kx122 sM M_told M_place M_range M_voice M_kind M_read M_isFalse M_isMirage l2) ∧ (¬ (sM 17) = 0 → wpX11_readLine sM M_told M_place M_range M_voice M_kind M_read M_isFalse M_isMirage M_tape l2 (fun r115 sM_115 M_told_115 M_place_115 M_range_115 M_voice_115 M_kind_115 M_read_115 M_isFalse_115 M_isMirage_115 => wpX11_flat_L99 M_now M_status M_tape kx122 post nf99 sM_115 M_told_115 M_place_115 M_range_115 M_voice_115 M_kind_115 M_read_115 M_isFalse_115 M_isMirage_115 r115)))))
def wpX11_flat_L136 (sM : AR) (M_place : AR) (M_range : AR) (M_voice : AR) (M_kind : AR) (M_now : AR) (M_read : AR) (M_status : AR) (M_isFalse : AR) (M_isMirage : AR) (M_tape : AR) (kx163 : AR → Int32 → Prop) (post : Int32 → AR → AR → AR → AR → AR → AR → AR → AR → AR → AR → AR → Prop) : Nat → AR → Int32 → Prop
  | 0, _, _ => False
  | nf136 + 1, M_told, l3 => (((7 : Int32) ≤ l3 → kx163 M_told l3) ∧ (¬ (7 : Int32) ≤ l3 → vp_in ((7 : Int32) + l3) 14 ∧ vp_in l3 14 ∧ ∀ M_told_156 : AR, M_told_156 = upd M_told l3.toNatClampNeg (M_told ((7 : Int32) + l3).toNatClampNeg) → ∀ l3_157 : Int32, l3_157 = (l3 + (1 : Int32)) → wpX11_flat_L136 sM M_place M_range M_voice M_kind M_now M_read M_status M_isFalse M_isMirage M_tape kx163 post nf136 M_told_156 l3_157))
def wpX11_flat_L165 (sM : AR) (M_told : AR) (M_kind : AR) (M_now : AR) (M_read : AR) (M_status : AR) (M_isMirage : AR) (M_tape : AR) (kx232 : AR → AR → AR → AR → Int32 → Prop) (post : Int32 → AR → AR → AR → AR → AR → AR → AR → AR → AR → AR → AR → Prop) : Nat → AR → AR → AR → AR → Int32 → Prop
  | 0, _, _, _, _, _ => False
  | nf165 + 1, M_place, M_range, M_voice, M_isFalse, l3 => (((5 : Int32) ≤ l3 → kx232 M_place M_range M_voice M_isFalse l3) ∧ (¬ (5 : Int32) ≤ l3 → vp_in ((5 : Int32) + l3) 10 ∧ vp_in l3 10 ∧ ∀ M_place_183 : AR, M_place_183 = upd M_place l3.toNatClampNeg (M_place ((5 : Int32) + l3).toNatClampNeg) → vp_in ((5 : Int32) + l3) 10 ∧ vp_in l3 10 ∧ ∀ M_range_197 : AR, M_range_197 = upd M_range l3.toNatClampNeg (M_range ((5 : Int32) + l3).toNatClampNeg) → vp_in ((5 : Int32) + l3) 10 ∧ vp_in l3 10 ∧ ∀ M_voice_211 : AR, M_voice_211 = upd M_voice l3.toNatClampNeg (M_voice ((5 : Int32) + l3).toNatClampNeg) → vp_in ((5 : Int32) + l3) 10 ∧ vp_in l3 10 ∧ ∀ M_isFalse_225 : AR, M_isFalse_225 = upd M_isFalse l3.toNatClampNeg (vp_nar .boolean (M_isFalse ((5 : Int32) + l3).toNatClampNeg)) → ∀ l3_226 : Int32, l3_226 = (l3 + (1 : Int32)) → wpX11_flat_L165 sM M_told M_kind M_now M_read M_status M_isMirage M_tape kx232 post nf165 M_place_183 M_range_197 M_voice_211 M_isFalse_225 l3_226))
def wpX11_flat_L234 (sM : AR) (M_told : AR) (M_place : AR) (M_range : AR) (M_voice : AR) (M_now : AR) (M_read : AR) (M_status : AR) (M_isFalse : AR) (M_isMirage : AR) (M_tape : AR) (kx259 : AR → Int32 → Prop) (post : Int32 → AR → AR → AR → AR → AR → AR → AR → AR → AR → AR → AR → Prop) : Nat → AR → Int32 → Prop
  | 0, _, _ => False
  | nf234 + 1, M_kind, l3 => (((4 : Int32) ≤ l3 → kx259 M_kind l3) ∧ (¬ (4 : Int32) ≤ l3 → vp_in ((4 : Int32) + l3) 8 ∧ vp_in l3 8 ∧ ∀ M_kind_252 : AR, M_kind_252 = upd M_kind l3.toNatClampNeg (M_kind ((4 : Int32) + l3).toNatClampNeg) → ∀ l3_253 : Int32, l3_253 = (l3 + (1 : Int32)) → wpX11_flat_L234 sM M_told M_place M_range M_voice M_now M_read M_status M_isFalse M_isMirage M_tape kx259 post nf234 M_kind_252 l3_253))
def wpX11_flat_L261 (sM : AR) (M_told : AR) (M_place : AR) (M_range : AR) (M_voice : AR) (M_kind : AR) (M_now : AR) (M_read : AR) (M_status : AR) (M_isFalse : AR) (M_tape : AR) (kx288 : AR → Int32 → Prop) (post : Int32 → AR → AR → AR → AR → AR → AR → AR → AR → AR → AR → AR → Prop) : Nat → AR → Int32 → Prop
  | 0, _, _ => False
  | nf261 + 1, M_isMirage, l3 => (((100 : Int32) ≤ l3 → kx288 M_isMirage l3) ∧ (¬ (100 : Int32) ≤ l3 → vp_in ((100 : Int32) + l3) 200 ∧ vp_in l3 200 ∧ ∀ M_isMirage_281 : AR, M_isMirage_281 = upd M_isMirage l3.toNatClampNeg (vp_nar .boolean (M_isMirage ((100 : Int32) + l3).toNatClampNeg)) → ∀ l3_282 : Int32, l3_282 = (l3 + (1 : Int32)) → wpX11_flat_L261 sM M_told M_place M_range M_voice M_kind M_now M_read M_status M_isFalse M_tape kx288 post nf261 M_isMirage_281 l3_282))
def wpX11_flat_J122 (sM : AR) (M_told : AR) (M_place : AR) (M_range : AR) (M_voice : AR) (M_kind : AR) (M_now : AR) (M_read : AR) (M_status : AR) (M_isFalse : AR) (M_isMirage : AR) (M_tape : AR) (post : Int32 → AR → AR → AR → AR → AR → AR → AR → AR → AR → AR → AR → Prop) : Prop := wpX11_isWrong sM M_status (fun r123 sM_123 M_status_123 => ((r123 = 0 → ∃ nf136 : Nat, wpX11_flat_L136 sM_123 M_place M_range M_voice M_kind M_now M_read M_status_123 M_isFalse M_isMirage M_tape (fun M_told_163 l3_163 => ∃ nf165 : Nat, wpX11_flat_L165 sM_123 M_told_163 M_kind M_now M_read M_status_123 M_isMirage M_tape (fun M_place_232 M_range_232 M_voice_232 M_isFalse_232 l3_232 => ∃ nf234 : Nat, wpX11_flat_L234 sM_123 M_told_163 M_place_232 M_range_232 M_voice_232 M_now M_read M_status_123 M_isFalse_232 M_isMirage M_tape (fun M_kind_259 l3_259 => ∃ nf261 : Nat, wpX11_flat_L261 sM_123 M_told_163 M_place_232 M_range_232 M_voice_232 M_kind_259 M_now M_read M_status_123 M_isFalse_232 M_tape (fun M_isMirage_288 l3_288 => wpX11_be M_now M_read 29 29 (fun M_now_296 => post (0 : Int32) (upd (upd (upd (upd (upd sM_123 30 (0 : Int32)) 31 (0 : Int32)) 36 (-1 : Int32)) 45 (-1 : Int32)) 48 (0 : Int32)) M_told_163 M_place_232 M_range_232 M_voice_232 M_kind_259 M_now_296 M_read M_status_123 M_isFalse_232 M_isMirage_288)) post nf261 M_isMirage (0 : Int32)) post nf234 M_kind (0 : Int32)) post nf165 M_place M_range M_voice M_isFalse (0 : Int32)) post nf136 M_told (0 : Int32)) ∧ (¬ r123 = 0 → post (sM_123 21) sM_123 M_told M_place M_range M_voice M_kind M_now M_read M_status_123 M_isFalse M_isMirage)))
def wpX11_flat (sM : AR) (M_told : AR) (M_place : AR) (M_range : AR) (M_voice : AR) (M_kind : AR) (M_now : AR) (M_read : AR) (M_status : AR) (M_isFalse : AR) (M_isMirage : AR) (M_tape : AR) (x1 : Int32) (post : Int32 → AR → AR → AR → AR → AR → AR → AR → AR → AR → AR → AR → Prop) : Prop := wpX11_beginText (upd sM 2 (0 : Int32)) M_tape x1 (fun r7 sM_7 => ((¬ r7 = 0 → ∃ nf22 : Nat, wpX11_flat_L22 sM_7 M_place M_range M_voice M_kind M_now M_read M_status M_isFalse M_isMirage M_tape (fun M_told_52 l2_52 => ∃ nf54 : Nat, wpX11_flat_L54 sM_7 M_told_52 M_place M_range M_voice M_kind M_now M_read M_status M_isFalse M_tape (fun M_isMirage_76 l2_76 => ∃ nf78 : Nat, wpX11_flat_L78 sM_7 M_told_52 M_place M_range M_voice M_kind M_now M_status M_isFalse M_isMirage_76 M_tape (fun M_read_97 l2_97 => ∃ nf99 : Nat, wpX11_flat_L99 M_now M_status M_tape (fun sM_122 M_told_122 M_place_122 M_range_122 M_voice_122 M_kind_122 M_read_122 M_isFalse_122 M_isMirage_122 l2_122 => wpX11_flat_J122 sM_122 M_told_122 M_place_122 M_range_122 M_voice_122 M_kind_122 M_now M_read_122 M_status M_isFalse_122 M_isMirage_122 M_tape post) post nf99 sM_7 M_told_52 M_place M_range M_voice M_kind M_read_97 M_isFalse M_isMirage_76 (0 : Int32)) post nf78 M_read (0 : Int32)) post nf54 M_isMirage (0 : Int32)) post nf22 M_told (7 : Int32)) ∧ (r7 = 0 → wpX11_fail sM_7 (1 : Int32) (fun r15 sM_15 => post r15 sM_15 M_told M_place M_range M_voice M_kind M_now M_read M_status M_isFalse M_isMirage))))
set_option maxHeartbeats 4000000 in
set_option maxRecDepth 100000 in
theorem ctX11_flat (l : Launch) (D : va_G) (cy : Nat → ClassId) (ev : Nat → Nat) (h0 : Nat) (rM : Nat → Nat) (sM : AR) (M_told : AR) (M_place : AR) (M_range : AR) (M_voice : AR) (M_kind : AR) (M_now : AR) (M_read : AR) (M_status : AR) (M_isFalse : AR) (M_isMirage : AR) (M_tape : AR) (x1 : Int32) (sz : Nat) (post : Int32 → AR → AR → AR → AR → AR → AR → AR → AR → AR → AR → AR → Prop) (h : wpX11_flat sM M_told M_place M_range M_voice M_kind M_now M_read M_status M_isFalse M_isMirage M_tape x1 post) : Met l yX11_flat (Cond.code yX11_flat cX11_flat 4 (some .int) :: TB) ({ frames := 8, cells := 0, slots := 0, locals := 292 }) (va_Pc [.ref h0, .int x1] (PreX D cy ev [(h0, .inr (11, oX11 rM sM)), ((rM 3), .inl (cy 0, 14, .inl M_told)), ((rM 4), .inl (cy 0, 10, .inl M_place)), ((rM 5), .inl (cy 0, 10, .inl M_range)), ((rM 6), .inl (cy 0, 10, .inl M_voice)), ((rM 7), .inl (cy 0, 8, .inl M_kind)), ((rM 8), .inl (cy 0, 29, .inl M_now)), ((rM 9), .inl (cy 0, 29, .inl M_read)), ((rM 10), .inl (cy 0, 2, .inl M_status)), ((rM 11), .inl (cy 2, 10, .inl M_isFalse)), ((rM 12), .inl (cy 2, 200, .inl M_isMirage)), ((rM 13), .inl (cy 0, 500, .inl M_tape)), ((rM 0), .inl (cy 5, 5, .inr (.inr (.inr (.inr (fun i => some (ev (2 * (32 + i))))))))), ((rM 1), .inl (cy 5, 4, .inr (.inr (.inr (.inr (fun i => some (ev (2 * (37 + i)))))))))] sz)) (va_Qi (fun (r : Int32) (u : AR × AR × AR × AR × AR × AR × AR × AR × AR × AR × AR) => post r (u.1) (u.2.1) (u.2.2.1) (u.2.2.2.1) (u.2.2.2.2.1) (u.2.2.2.2.2.1) (u.2.2.2.2.2.2.1) (u.2.2.2.2.2.2.2.1) (u.2.2.2.2.2.2.2.2.1) (u.2.2.2.2.2.2.2.2.2.1) (u.2.2.2.2.2.2.2.2.2.2)) (fun u => BkX D cy [(h0, .inr (11, oX11 rM sM)), ((rM 3), .inl (cy 0, 14, .inl M_told)), ((rM 4), .inl (cy 0, 10, .inl M_place)), ((rM 5), .inl (cy 0, 10, .inl M_range)), ((rM 6), .inl (cy 0, 10, .inl M_voice)), ((rM 7), .inl (cy 0, 8, .inl M_kind)), ((rM 8), .inl (cy 0, 29, .inl M_now)), ((rM 9), .inl (cy 0, 29, .inl M_read)), ((rM 10), .inl (cy 0, 2, .inl M_status)), ((rM 11), .inl (cy 2, 10, .inl M_isFalse)), ((rM 12), .inl (cy 2, 200, .inl M_isMirage)), ((rM 13), .inl (cy 0, 500, .inl M_tape)), ((rM 0), .inl (cy 5, 5, .inr (.inr (.inr (.inr (fun i => some (ev (2 * (32 + i))))))))), ((rM 1), .inl (cy 5, 4, .inr (.inr (.inr (.inr (fun i => some (ev (2 * (37 + i)))))))))] sz [(h0, .inr (11, oX11 rM (u.1))), ((rM 3), .inl (cy 0, 14, .inl (u.2.1))), ((rM 4), .inl (cy 0, 10, .inl (u.2.2.1))), ((rM 5), .inl (cy 0, 10, .inl (u.2.2.2.1))), ((rM 6), .inl (cy 0, 10, .inl (u.2.2.2.2.1))), ((rM 7), .inl (cy 0, 8, .inl (u.2.2.2.2.2.1))), ((rM 8), .inl (cy 0, 29, .inl (u.2.2.2.2.2.2.1))), ((rM 9), .inl (cy 0, 29, .inl (u.2.2.2.2.2.2.2.1))), ((rM 10), .inl (cy 0, 2, .inl (u.2.2.2.2.2.2.2.2.1))), ((rM 11), .inl (cy 2, 10, .inl (u.2.2.2.2.2.2.2.2.2.1))), ((rM 12), .inl (cy 2, 200, .inl (u.2.2.2.2.2.2.2.2.2.2))), ((rM 13), .inl (cy 0, 500, .inl M_tape)), ((rM 0), .inl (cy 5, 5, .inr (.inr (.inr (.inr (fun i => some (ev (2 * (32 + i))))))))), ((rM 1), .inl (cy 5, 4, .inr (.inr (.inr (.inr (fun i => some (ev (2 * (37 + i)))))))))]) (va_A [(h0, .inr (11, oX11 rM sM)), ((rM 3), .inl (cy 0, 14, .inl M_told)), ((rM 4), .inl (cy 0, 10, .inl M_place)), ((rM 5), .inl (cy 0, 10, .inl M_range)), ((rM 6), .inl (cy 0, 10, .inl M_voice)), ((rM 7), .inl (cy 0, 8, .inl M_kind)), ((rM 8), .inl (cy 0, 29, .inl M_now)), ((rM 9), .inl (cy 0, 29, .inl M_read)), ((rM 10), .inl (cy 0, 2, .inl M_status)), ((rM 11), .inl (cy 2, 10, .inl M_isFalse)), ((rM 12), .inl (cy 2, 200, .inl M_isMirage)), ((rM 13), .inl (cy 0, 500, .inl M_tape)), ((rM 0), .inl (cy 5, 5, .inr (.inr (.inr (.inr (fun i => some (ev (2 * (32 + i))))))))), ((rM 1), .inl (cy 5, 4, .inr (.inr (.inr (.inr (fun i => some (ev (2 * (37 + i)))))))))] sz)) 0 0 (va_A [(h0, .inr (11, oX11 rM sM)), ((rM 3), .inl (cy 0, 14, .inl M_told)), ((rM 4), .inl (cy 0, 10, .inl M_place)), ((rM 5), .inl (cy 0, 10, .inl M_range)), ((rM 6), .inl (cy 0, 10, .inl M_voice)), ((rM 7), .inl (cy 0, 8, .inl M_kind)), ((rM 8), .inl (cy 0, 29, .inl M_now)), ((rM 9), .inl (cy 0, 29, .inl M_read)), ((rM 10), .inl (cy 0, 2, .inl M_status)), ((rM 11), .inl (cy 2, 10, .inl M_isFalse)), ((rM 12), .inl (cy 2, 200, .inl M_isMirage)), ((rM 13), .inl (cy 0, 500, .inl M_tape)), ((rM 0), .inl (cy 5, 5, .inr (.inr (.inr (.inr (fun i => some (ev (2 * (32 + i))))))))), ((rM 1), .inl (cy 5, 4, .inr (.inr (.inr (.inr (fun i => some (ev (2 * (37 + i)))))))))] sz) := by
  refine ofWi (by decide) (Nat.le_of_ble_eq_true rfl) ?_
  intro p e s m args below meth c ls A R QQ hx hb hml hown hts hR hlk hE hK hP hD hS hA hl hret
  have hown : s.vm.findClass RX11 = some m.cls := hown
  have hRf : 8 ≤ R.frames := by rw [hR]; exact Nat.le_refl _
  have hRl : 292 ≤ R.locals := by rw [hR]; exact Nat.le_refl _
  clear hR
  have hl : lv_has ls 4 [(0, .ref h0), (1, .int x1)] := hl
  have J122 : ∀ (sM : AR) (M_told : AR) (M_place : AR) (M_range : AR) (M_voice : AR) (M_kind : AR) (M_read : AR) (M_isFalse : AR) (M_isMirage : AR) (H : Heap) (locs : List Loc) (ls : Array Slot), wpX11_flat_J122 sM M_told M_place M_range M_voice M_kind M_now M_read M_status M_isFalse M_isMirage M_tape post → va_P D clsX [(h0, .inr (11, oX11 rM sM)), ((rM 3), .inl (cy 0, 14, .inl M_told)), ((rM 4), .inl (cy 0, 10, .inl M_place)), ((rM 5), .inl (cy 0, 10, .inl M_range)), ((rM 6), .inl (cy 0, 10, .inl M_voice)), ((rM 7), .inl (cy 0, 8, .inl M_kind)), ((rM 8), .inl (cy 0, 29, .inl M_now)), ((rM 9), .inl (cy 0, 29, .inl M_read)), ((rM 10), .inl (cy 0, 2, .inl M_status)), ((rM 11), .inl (cy 2, 10, .inl M_isFalse)), ((rM 12), .inl (cy 2, 200, .inl M_isMirage)), ((rM 13), .inl (cy 0, 500, .inl M_tape)), ((rM 0), .inl (cy 5, 5, .inr (.inr (.inr (.inr (fun i => some (ev (2 * (32 + i))))))))), ((rM 1), .inl (cy 5, 4, .inr (.inr (.inr (.inr (fun i => some (ev (2 * (37 + i)))))))))] H → va_D A [(h0, .inr (11, oX11 rM sM)), ((rM 3), .inl (cy 0, 14, .inl M_told)), ((rM 4), .inl (cy 0, 10, .inl M_place)), ((rM 5), .inl (cy 0, 10, .inl M_range)), ((rM 6), .inl (cy 0, 10, .inl M_voice)), ((rM 7), .inl (cy 0, 8, .inl M_kind)), ((rM 8), .inl (cy 0, 29, .inl M_now)), ((rM 9), .inl (cy 0, 29, .inl M_read)), ((rM 10), .inl (cy 0, 2, .inl M_status)), ((rM 11), .inl (cy 2, 10, .inl M_isFalse)), ((rM 12), .inl (cy 2, 200, .inl M_isMirage)), ((rM 13), .inl (cy 0, 500, .inl M_tape)), ((rM 0), .inl (cy 5, 5, .inr (.inr (.inr (.inr (fun i => some (ev (2 * (32 + i))))))))), ((rM 1), .inl (cy 5, 4, .inr (.inr (.inr (.inr (fun i => some (ev (2 * (37 + i)))))))))] → va_S A s.heap H locs → lv_has ls 4 [(0, .ref h0)] → W p l e R s m args below meth c H locs 0 0 QQ (F0 m 122 ls []) := by
    intro sM M_told M_place M_range M_voice M_kind M_read M_isFalse M_isMirage H locs ls h hP hD hS hl
    have L261 : ∀ (sM : AR) (M_told : AR) (M_place : AR) (M_range : AR) (M_voice : AR) (M_kind : AR) (M_read : AR) (M_status : AR) (M_isFalse : AR) (kx288 : AR → Int32 → Prop), (∀ (M_isMirage : AR) (l3 : Int32) (H : Heap) (locs : List Loc) (ls : Array Slot), kx288 M_isMirage l3 → va_P D clsX [(h0, .inr (11, oX11 rM sM)), ((rM 3), .inl (cy 0, 14, .inl M_told)), ((rM 4), .inl (cy 0, 10, .inl M_place)), ((rM 5), .inl (cy 0, 10, .inl M_range)), ((rM 6), .inl (cy 0, 10, .inl M_voice)), ((rM 7), .inl (cy 0, 8, .inl M_kind)), ((rM 8), .inl (cy 0, 29, .inl M_now)), ((rM 9), .inl (cy 0, 29, .inl M_read)), ((rM 10), .inl (cy 0, 2, .inl M_status)), ((rM 11), .inl (cy 2, 10, .inl M_isFalse)), ((rM 12), .inl (cy 2, 200, .inl M_isMirage)), ((rM 13), .inl (cy 0, 500, .inl M_tape)), ((rM 0), .inl (cy 5, 5, .inr (.inr (.inr (.inr (fun i => some (ev (2 * (32 + i))))))))), ((rM 1), .inl (cy 5, 4, .inr (.inr (.inr (.inr (fun i => some (ev (2 * (37 + i)))))))))] H → va_D A [(h0, .inr (11, oX11 rM sM)), ((rM 3), .inl (cy 0, 14, .inl M_told)), ((rM 4), .inl (cy 0, 10, .inl M_place)), ((rM 5), .inl (cy 0, 10, .inl M_range)), ((rM 6), .inl (cy 0, 10, .inl M_voice)), ((rM 7), .inl (cy 0, 8, .inl M_kind)), ((rM 8), .inl (cy 0, 29, .inl M_now)), ((rM 9), .inl (cy 0, 29, .inl M_read)), ((rM 10), .inl (cy 0, 2, .inl M_status)), ((rM 11), .inl (cy 2, 10, .inl M_isFalse)), ((rM 12), .inl (cy 2, 200, .inl M_isMirage)), ((rM 13), .inl (cy 0, 500, .inl M_tape)), ((rM 0), .inl (cy 5, 5, .inr (.inr (.inr (.inr (fun i => some (ev (2 * (32 + i))))))))), ((rM 1), .inl (cy 5, 4, .inr (.inr (.inr (.inr (fun i => some (ev (2 * (37 + i)))))))))] → va_S A s.heap H locs → lv_has ls 4 [(0, .ref h0)] → W p l e R s m args below meth c H locs 0 0 QQ (F0 m 288 ls [])) → ∀ (nf261 : Nat) (M_isMirage : AR) (l3 : Int32) (H : Heap) (locs : List Loc) (ls : Array Slot), wpX11_flat_L261 sM M_told M_place M_range M_voice M_kind M_now M_read M_status M_isFalse M_tape kx288 post nf261 M_isMirage l3 → va_P D clsX [(h0, .inr (11, oX11 rM sM)), ((rM 3), .inl (cy 0, 14, .inl M_told)), ((rM 4), .inl (cy 0, 10, .inl M_place)), ((rM 5), .inl (cy 0, 10, .inl M_range)), ((rM 6), .inl (cy 0, 10, .inl M_voice)), ((rM 7), .inl (cy 0, 8, .inl M_kind)), ((rM 8), .inl (cy 0, 29, .inl M_now)), ((rM 9), .inl (cy 0, 29, .inl M_read)), ((rM 10), .inl (cy 0, 2, .inl M_status)), ((rM 11), .inl (cy 2, 10, .inl M_isFalse)), ((rM 12), .inl (cy 2, 200, .inl M_isMirage)), ((rM 13), .inl (cy 0, 500, .inl M_tape)), ((rM 0), .inl (cy 5, 5, .inr (.inr (.inr (.inr (fun i => some (ev (2 * (32 + i))))))))), ((rM 1), .inl (cy 5, 4, .inr (.inr (.inr (.inr (fun i => some (ev (2 * (37 + i)))))))))] H → va_D A [(h0, .inr (11, oX11 rM sM)), ((rM 3), .inl (cy 0, 14, .inl M_told)), ((rM 4), .inl (cy 0, 10, .inl M_place)), ((rM 5), .inl (cy 0, 10, .inl M_range)), ((rM 6), .inl (cy 0, 10, .inl M_voice)), ((rM 7), .inl (cy 0, 8, .inl M_kind)), ((rM 8), .inl (cy 0, 29, .inl M_now)), ((rM 9), .inl (cy 0, 29, .inl M_read)), ((rM 10), .inl (cy 0, 2, .inl M_status)), ((rM 11), .inl (cy 2, 10, .inl M_isFalse)), ((rM 12), .inl (cy 2, 200, .inl M_isMirage)), ((rM 13), .inl (cy 0, 500, .inl M_tape)), ((rM 0), .inl (cy 5, 5, .inr (.inr (.inr (.inr (fun i => some (ev (2 * (32 + i))))))))), ((rM 1), .inl (cy 5, 4, .inr (.inr (.inr (.inr (fun i => some (ev (2 * (37 + i)))))))))] → va_S A s.heap H locs → lv_has ls 4 [(0, .ref h0), (3, .int l3)] → W p l e R s m args below meth c H locs 0 0 QQ (F0 m 261 ls []) := by
      intro sM M_told M_place M_range M_voice M_kind M_read M_status M_isFalse kx288 hk261_288 nf261
      induction nf261 with
      | zero =>
        intro M_isMirage l3 H locs ls h
        exact (show False from h).elim
      | succ nf261 ih261 =>
        intro M_isMirage l3 H locs ls h hP hD hS hl
        refine lv_iload_n hx hb dX11_flat_261 rfl (lv_at hl 1 rfl) ?_
        refine lv_bipush (v := (100 : Int32)) hx hb dX11_flat_262 (by decide) ?_
        refine lv_icmp_ge (tgt := 288) hx hb dX11_flat_264 (by decide) (fun c264 => ?_) (fun c264 => ?_)
        · have h := h.1 c264
          exact hk261_288 M_isMirage l3 _ _ _ h hP hD hS (lv_sub hl [0] rfl)
        · have h := h.2 c264
          refine lv_aload_n hx hb dX11_flat_267 rfl (lv_at hl 0 rfl) ?_
          refine gfX11_65 hx hb hts hown hK hP 0 rfl dX11_flat_268 ?_
          refine lv_iload_n hx hb dX11_flat_271 rfl (lv_at hl 1 rfl) ?_
          refine lv_aload_n hx hb dX11_flat_272 rfl (lv_at hl 0 rfl) ?_
          refine gfX11_65 hx hb hts hown hK hP 0 rfl dX11_flat_273 ?_
          refine lv_bipush (v := (100 : Int32)) hx hb dX11_flat_276 (by decide) ?_
          refine lv_iload_n hx hb dX11_flat_278 rfl (lv_at hl 1 rfl) ?_
          refine lv_iadd hx hb dX11_flat_279 ?_
          obtain ⟨hin, h⟩ := h
          refine ldz (k := ((100 : Int32) + l3).toNatClampNeg) hx hb hK hP 10 rfl hin rfl dX11_flat_280 ?_
          obtain ⟨hin, h⟩ := h
          refine stz (k := l3.toNatClampNeg) (y := (vp_nar .boolean (M_isMirage ((100 : Int32) + l3).toNatClampNeg))) hx hb hK hP hD hS 10 rfl hin rfl rfl dX11_flat_281 (fun M_isMirage_281 eM_isMirage_281 H locs hP hD hS => ?_)
          have h := h M_isMirage_281 eM_isMirage_281
          have hP : va_P D clsX [(h0, .inr (11, oX11 rM sM)), ((rM 3), .inl (cy 0, 14, .inl M_told)), ((rM 4), .inl (cy 0, 10, .inl M_place)), ((rM 5), .inl (cy 0, 10, .inl M_range)), ((rM 6), .inl (cy 0, 10, .inl M_voice)), ((rM 7), .inl (cy 0, 8, .inl M_kind)), ((rM 8), .inl (cy 0, 29, .inl M_now)), ((rM 9), .inl (cy 0, 29, .inl M_read)), ((rM 10), .inl (cy 0, 2, .inl M_status)), ((rM 11), .inl (cy 2, 10, .inl M_isFalse)), ((rM 12), .inl (cy 2, 200, .inl M_isMirage_281)), ((rM 13), .inl (cy 0, 500, .inl M_tape)), ((rM 0), .inl (cy 5, 5, .inr (.inr (.inr (.inr (fun i => some (ev (2 * (32 + i))))))))), ((rM 1), .inl (cy 5, 4, .inr (.inr (.inr (.inr (fun i => some (ev (2 * (37 + i)))))))))] H := hP
          have hD : va_D A [(h0, .inr (11, oX11 rM sM)), ((rM 3), .inl (cy 0, 14, .inl M_told)), ((rM 4), .inl (cy 0, 10, .inl M_place)), ((rM 5), .inl (cy 0, 10, .inl M_range)), ((rM 6), .inl (cy 0, 10, .inl M_voice)), ((rM 7), .inl (cy 0, 8, .inl M_kind)), ((rM 8), .inl (cy 0, 29, .inl M_now)), ((rM 9), .inl (cy 0, 29, .inl M_read)), ((rM 10), .inl (cy 0, 2, .inl M_status)), ((rM 11), .inl (cy 2, 10, .inl M_isFalse)), ((rM 12), .inl (cy 2, 200, .inl M_isMirage_281)), ((rM 13), .inl (cy 0, 500, .inl M_tape)), ((rM 0), .inl (cy 5, 5, .inr (.inr (.inr (.inr (fun i => some (ev (2 * (32 + i))))))))), ((rM 1), .inl (cy 5, 4, .inr (.inr (.inr (.inr (fun i => some (ev (2 * (37 + i)))))))))] := hD
          obtain ⟨l3_282, el3_282⟩ : ∃ y : Int32, y = l3 + (1 : Int32) := ⟨_, rfl⟩
          have h := h l3_282 el3_282
          refine lv_iinc (v := l3_282) (lv' := [(3, .int l3_282), (0, .ref h0)]) hx hb dX11_flat_282 hl (k := 1) rfl (by rw [el3_282]; rfl) (by decide) rfl (fun ls hl => ?_)
          refine lv_goto (tgt := 261) hx hb dX11_flat_285 (by decide) ?_
          exact ih261 M_isMirage_281 l3_282 _ _ _ h hP hD hS (lv_sub hl [1, 0] rfl)
    have L234 : ∀ (sM : AR) (M_told : AR) (M_place : AR) (M_range : AR) (M_voice : AR) (M_read : AR) (M_status : AR) (M_isFalse : AR) (M_isMirage : AR) (kx259 : AR → Int32 → Prop), (∀ (M_kind : AR) (l3 : Int32) (H : Heap) (locs : List Loc) (ls : Array Slot), kx259 M_kind l3 → va_P D clsX [(h0, .inr (11, oX11 rM sM)), ((rM 3), .inl (cy 0, 14, .inl M_told)), ((rM 4), .inl (cy 0, 10, .inl M_place)), ((rM 5), .inl (cy 0, 10, .inl M_range)), ((rM 6), .inl (cy 0, 10, .inl M_voice)), ((rM 7), .inl (cy 0, 8, .inl M_kind)), ((rM 8), .inl (cy 0, 29, .inl M_now)), ((rM 9), .inl (cy 0, 29, .inl M_read)), ((rM 10), .inl (cy 0, 2, .inl M_status)), ((rM 11), .inl (cy 2, 10, .inl M_isFalse)), ((rM 12), .inl (cy 2, 200, .inl M_isMirage)), ((rM 13), .inl (cy 0, 500, .inl M_tape)), ((rM 0), .inl (cy 5, 5, .inr (.inr (.inr (.inr (fun i => some (ev (2 * (32 + i))))))))), ((rM 1), .inl (cy 5, 4, .inr (.inr (.inr (.inr (fun i => some (ev (2 * (37 + i)))))))))] H → va_D A [(h0, .inr (11, oX11 rM sM)), ((rM 3), .inl (cy 0, 14, .inl M_told)), ((rM 4), .inl (cy 0, 10, .inl M_place)), ((rM 5), .inl (cy 0, 10, .inl M_range)), ((rM 6), .inl (cy 0, 10, .inl M_voice)), ((rM 7), .inl (cy 0, 8, .inl M_kind)), ((rM 8), .inl (cy 0, 29, .inl M_now)), ((rM 9), .inl (cy 0, 29, .inl M_read)), ((rM 10), .inl (cy 0, 2, .inl M_status)), ((rM 11), .inl (cy 2, 10, .inl M_isFalse)), ((rM 12), .inl (cy 2, 200, .inl M_isMirage)), ((rM 13), .inl (cy 0, 500, .inl M_tape)), ((rM 0), .inl (cy 5, 5, .inr (.inr (.inr (.inr (fun i => some (ev (2 * (32 + i))))))))), ((rM 1), .inl (cy 5, 4, .inr (.inr (.inr (.inr (fun i => some (ev (2 * (37 + i)))))))))] → va_S A s.heap H locs → lv_has ls 4 [(0, .ref h0)] → W p l e R s m args below meth c H locs 0 0 QQ (F0 m 259 ls [])) → ∀ (nf234 : Nat) (M_kind : AR) (l3 : Int32) (H : Heap) (locs : List Loc) (ls : Array Slot), wpX11_flat_L234 sM M_told M_place M_range M_voice M_now M_read M_status M_isFalse M_isMirage M_tape kx259 post nf234 M_kind l3 → va_P D clsX [(h0, .inr (11, oX11 rM sM)), ((rM 3), .inl (cy 0, 14, .inl M_told)), ((rM 4), .inl (cy 0, 10, .inl M_place)), ((rM 5), .inl (cy 0, 10, .inl M_range)), ((rM 6), .inl (cy 0, 10, .inl M_voice)), ((rM 7), .inl (cy 0, 8, .inl M_kind)), ((rM 8), .inl (cy 0, 29, .inl M_now)), ((rM 9), .inl (cy 0, 29, .inl M_read)), ((rM 10), .inl (cy 0, 2, .inl M_status)), ((rM 11), .inl (cy 2, 10, .inl M_isFalse)), ((rM 12), .inl (cy 2, 200, .inl M_isMirage)), ((rM 13), .inl (cy 0, 500, .inl M_tape)), ((rM 0), .inl (cy 5, 5, .inr (.inr (.inr (.inr (fun i => some (ev (2 * (32 + i))))))))), ((rM 1), .inl (cy 5, 4, .inr (.inr (.inr (.inr (fun i => some (ev (2 * (37 + i)))))))))] H → va_D A [(h0, .inr (11, oX11 rM sM)), ((rM 3), .inl (cy 0, 14, .inl M_told)), ((rM 4), .inl (cy 0, 10, .inl M_place)), ((rM 5), .inl (cy 0, 10, .inl M_range)), ((rM 6), .inl (cy 0, 10, .inl M_voice)), ((rM 7), .inl (cy 0, 8, .inl M_kind)), ((rM 8), .inl (cy 0, 29, .inl M_now)), ((rM 9), .inl (cy 0, 29, .inl M_read)), ((rM 10), .inl (cy 0, 2, .inl M_status)), ((rM 11), .inl (cy 2, 10, .inl M_isFalse)), ((rM 12), .inl (cy 2, 200, .inl M_isMirage)), ((rM 13), .inl (cy 0, 500, .inl M_tape)), ((rM 0), .inl (cy 5, 5, .inr (.inr (.inr (.inr (fun i => some (ev (2 * (32 + i))))))))), ((rM 1), .inl (cy 5, 4, .inr (.inr (.inr (.inr (fun i => some (ev (2 * (37 + i)))))))))] → va_S A s.heap H locs → lv_has ls 4 [(0, .ref h0), (3, .int l3)] → W p l e R s m args below meth c H locs 0 0 QQ (F0 m 234 ls []) := by
      intro sM M_told M_place M_range M_voice M_read M_status M_isFalse M_isMirage kx259 hk234_259 nf234
      induction nf234 with
      | zero =>
        intro M_kind l3 H locs ls h
        exact (show False from h).elim
      | succ nf234 ih234 =>
        intro M_kind l3 H locs ls h hP hD hS hl
        refine lv_iload_n hx hb dX11_flat_234 rfl (lv_at hl 1 rfl) ?_
        refine lv_iconst (v := (4 : Int32)) hx hb dX11_flat_235 (by decide) ?_
        refine lv_icmp_ge (tgt := 259) hx hb dX11_flat_236 (by decide) (fun c236 => ?_) (fun c236 => ?_)
        · have h := h.1 c236
          exact hk234_259 M_kind l3 _ _ _ h hP hD hS (lv_sub hl [0] rfl)
        · have h := h.2 c236
          refine lv_aload_n hx hb dX11_flat_239 rfl (lv_at hl 0 rfl) ?_
          refine gfX11_49 hx hb hts hown hK hP 0 rfl dX11_flat_240 ?_
          refine lv_iload_n hx hb dX11_flat_243 rfl (lv_at hl 1 rfl) ?_
          refine lv_aload_n hx hb dX11_flat_244 rfl (lv_at hl 0 rfl) ?_
          refine gfX11_49 hx hb hts hown hK hP 0 rfl dX11_flat_245 ?_
          refine lv_iconst (v := (4 : Int32)) hx hb dX11_flat_248 (by decide) ?_
          refine lv_iload_n hx hb dX11_flat_249 rfl (lv_at hl 1 rfl) ?_
          refine lv_iadd hx hb dX11_flat_250 ?_
          obtain ⟨hin, h⟩ := h
          refine ldi (k := ((4 : Int32) + l3).toNatClampNeg) hx hb hK hP 5 rfl hin rfl dX11_flat_251 ?_
          obtain ⟨hin, h⟩ := h
          refine sti (k := l3.toNatClampNeg) (y := (M_kind ((4 : Int32) + l3).toNatClampNeg)) hx hb hK hP hD hS 5 rfl hin rfl rfl dX11_flat_252 (fun M_kind_252 eM_kind_252 H locs hP hD hS => ?_)
          have h := h M_kind_252 eM_kind_252
          have hP : va_P D clsX [(h0, .inr (11, oX11 rM sM)), ((rM 3), .inl (cy 0, 14, .inl M_told)), ((rM 4), .inl (cy 0, 10, .inl M_place)), ((rM 5), .inl (cy 0, 10, .inl M_range)), ((rM 6), .inl (cy 0, 10, .inl M_voice)), ((rM 7), .inl (cy 0, 8, .inl M_kind_252)), ((rM 8), .inl (cy 0, 29, .inl M_now)), ((rM 9), .inl (cy 0, 29, .inl M_read)), ((rM 10), .inl (cy 0, 2, .inl M_status)), ((rM 11), .inl (cy 2, 10, .inl M_isFalse)), ((rM 12), .inl (cy 2, 200, .inl M_isMirage)), ((rM 13), .inl (cy 0, 500, .inl M_tape)), ((rM 0), .inl (cy 5, 5, .inr (.inr (.inr (.inr (fun i => some (ev (2 * (32 + i))))))))), ((rM 1), .inl (cy 5, 4, .inr (.inr (.inr (.inr (fun i => some (ev (2 * (37 + i)))))))))] H := hP
          have hD : va_D A [(h0, .inr (11, oX11 rM sM)), ((rM 3), .inl (cy 0, 14, .inl M_told)), ((rM 4), .inl (cy 0, 10, .inl M_place)), ((rM 5), .inl (cy 0, 10, .inl M_range)), ((rM 6), .inl (cy 0, 10, .inl M_voice)), ((rM 7), .inl (cy 0, 8, .inl M_kind_252)), ((rM 8), .inl (cy 0, 29, .inl M_now)), ((rM 9), .inl (cy 0, 29, .inl M_read)), ((rM 10), .inl (cy 0, 2, .inl M_status)), ((rM 11), .inl (cy 2, 10, .inl M_isFalse)), ((rM 12), .inl (cy 2, 200, .inl M_isMirage)), ((rM 13), .inl (cy 0, 500, .inl M_tape)), ((rM 0), .inl (cy 5, 5, .inr (.inr (.inr (.inr (fun i => some (ev (2 * (32 + i))))))))), ((rM 1), .inl (cy 5, 4, .inr (.inr (.inr (.inr (fun i => some (ev (2 * (37 + i)))))))))] := hD
          obtain ⟨l3_253, el3_253⟩ : ∃ y : Int32, y = l3 + (1 : Int32) := ⟨_, rfl⟩
          have h := h l3_253 el3_253
          refine lv_iinc (v := l3_253) (lv' := [(3, .int l3_253), (0, .ref h0)]) hx hb dX11_flat_253 hl (k := 1) rfl (by rw [el3_253]; rfl) (by decide) rfl (fun ls hl => ?_)
          refine lv_goto (tgt := 234) hx hb dX11_flat_256 (by decide) ?_
          exact ih234 M_kind_252 l3_253 _ _ _ h hP hD hS (lv_sub hl [1, 0] rfl)
    have L165 : ∀ (sM : AR) (M_told : AR) (M_kind : AR) (M_read : AR) (M_status : AR) (M_isMirage : AR) (kx232 : AR → AR → AR → AR → Int32 → Prop), (∀ (M_place : AR) (M_range : AR) (M_voice : AR) (M_isFalse : AR) (l3 : Int32) (H : Heap) (locs : List Loc) (ls : Array Slot), kx232 M_place M_range M_voice M_isFalse l3 → va_P D clsX [(h0, .inr (11, oX11 rM sM)), ((rM 3), .inl (cy 0, 14, .inl M_told)), ((rM 4), .inl (cy 0, 10, .inl M_place)), ((rM 5), .inl (cy 0, 10, .inl M_range)), ((rM 6), .inl (cy 0, 10, .inl M_voice)), ((rM 7), .inl (cy 0, 8, .inl M_kind)), ((rM 8), .inl (cy 0, 29, .inl M_now)), ((rM 9), .inl (cy 0, 29, .inl M_read)), ((rM 10), .inl (cy 0, 2, .inl M_status)), ((rM 11), .inl (cy 2, 10, .inl M_isFalse)), ((rM 12), .inl (cy 2, 200, .inl M_isMirage)), ((rM 13), .inl (cy 0, 500, .inl M_tape)), ((rM 0), .inl (cy 5, 5, .inr (.inr (.inr (.inr (fun i => some (ev (2 * (32 + i))))))))), ((rM 1), .inl (cy 5, 4, .inr (.inr (.inr (.inr (fun i => some (ev (2 * (37 + i)))))))))] H → va_D A [(h0, .inr (11, oX11 rM sM)), ((rM 3), .inl (cy 0, 14, .inl M_told)), ((rM 4), .inl (cy 0, 10, .inl M_place)), ((rM 5), .inl (cy 0, 10, .inl M_range)), ((rM 6), .inl (cy 0, 10, .inl M_voice)), ((rM 7), .inl (cy 0, 8, .inl M_kind)), ((rM 8), .inl (cy 0, 29, .inl M_now)), ((rM 9), .inl (cy 0, 29, .inl M_read)), ((rM 10), .inl (cy 0, 2, .inl M_status)), ((rM 11), .inl (cy 2, 10, .inl M_isFalse)), ((rM 12), .inl (cy 2, 200, .inl M_isMirage)), ((rM 13), .inl (cy 0, 500, .inl M_tape)), ((rM 0), .inl (cy 5, 5, .inr (.inr (.inr (.inr (fun i => some (ev (2 * (32 + i))))))))), ((rM 1), .inl (cy 5, 4, .inr (.inr (.inr (.inr (fun i => some (ev (2 * (37 + i)))))))))] → va_S A s.heap H locs → lv_has ls 4 [(0, .ref h0)] → W p l e R s m args below meth c H locs 0 0 QQ (F0 m 232 ls [])) → ∀ (nf165 : Nat) (M_place : AR) (M_range : AR) (M_voice : AR) (M_isFalse : AR) (l3 : Int32) (H : Heap) (locs : List Loc) (ls : Array Slot), wpX11_flat_L165 sM M_told M_kind M_now M_read M_status M_isMirage M_tape kx232 post nf165 M_place M_range M_voice M_isFalse l3 → va_P D clsX [(h0, .inr (11, oX11 rM sM)), ((rM 3), .inl (cy 0, 14, .inl M_told)), ((rM 4), .inl (cy 0, 10, .inl M_place)), ((rM 5), .inl (cy 0, 10, .inl M_range)), ((rM 6), .inl (cy 0, 10, .inl M_voice)), ((rM 7), .inl (cy 0, 8, .inl M_kind)), ((rM 8), .inl (cy 0, 29, .inl M_now)), ((rM 9), .inl (cy 0, 29, .inl M_read)), ((rM 10), .inl (cy 0, 2, .inl M_status)), ((rM 11), .inl (cy 2, 10, .inl M_isFalse)), ((rM 12), .inl (cy 2, 200, .inl M_isMirage)), ((rM 13), .inl (cy 0, 500, .inl M_tape)), ((rM 0), .inl (cy 5, 5, .inr (.inr (.inr (.inr (fun i => some (ev (2 * (32 + i))))))))), ((rM 1), .inl (cy 5, 4, .inr (.inr (.inr (.inr (fun i => some (ev (2 * (37 + i)))))))))] H → va_D A [(h0, .inr (11, oX11 rM sM)), ((rM 3), .inl (cy 0, 14, .inl M_told)), ((rM 4), .inl (cy 0, 10, .inl M_place)), ((rM 5), .inl (cy 0, 10, .inl M_range)), ((rM 6), .inl (cy 0, 10, .inl M_voice)), ((rM 7), .inl (cy 0, 8, .inl M_kind)), ((rM 8), .inl (cy 0, 29, .inl M_now)), ((rM 9), .inl (cy 0, 29, .inl M_read)), ((rM 10), .inl (cy 0, 2, .inl M_status)), ((rM 11), .inl (cy 2, 10, .inl M_isFalse)), ((rM 12), .inl (cy 2, 200, .inl M_isMirage)), ((rM 13), .inl (cy 0, 500, .inl M_tape)), ((rM 0), .inl (cy 5, 5, .inr (.inr (.inr (.inr (fun i => some (ev (2 * (32 + i))))))))), ((rM 1), .inl (cy 5, 4, .inr (.inr (.inr (.inr (fun i => some (ev (2 * (37 + i)))))))))] → va_S A s.heap H locs → lv_has ls 4 [(0, .ref h0), (3, .int l3)] → W p l e R s m args below meth c H locs 0 0 QQ (F0 m 165 ls []) := by
      intro sM M_told M_kind M_read M_status M_isMirage kx232 hk165_232 nf165
      induction nf165 with
      | zero =>
        intro M_place M_range M_voice M_isFalse l3 H locs ls h
        exact (show False from h).elim
      | succ nf165 ih165 =>
        intro M_place M_range M_voice M_isFalse l3 H locs ls h hP hD hS hl
        refine lv_iload_n hx hb dX11_flat_165 rfl (lv_at hl 1 rfl) ?_
        refine lv_iconst (v := (5 : Int32)) hx hb dX11_flat_166 (by decide) ?_
        refine lv_icmp_ge (tgt := 232) hx hb dX11_flat_167 (by decide) (fun c167 => ?_) (fun c167 => ?_)
        · have h := h.1 c167
          exact hk165_232 M_place M_range M_voice M_isFalse l3 _ _ _ h hP hD hS (lv_sub hl [0] rfl)
        · have h := h.2 c167
          refine lv_aload_n hx hb dX11_flat_170 rfl (lv_at hl 0 rfl) ?_
          refine gfX11_40 hx hb hts hown hK hP 0 rfl dX11_flat_171 ?_
          refine lv_iload_n hx hb dX11_flat_174 rfl (lv_at hl 1 rfl) ?_
          refine lv_aload_n hx hb dX11_flat_175 rfl (lv_at hl 0 rfl) ?_
          refine gfX11_40 hx hb hts hown hK hP 0 rfl dX11_flat_176 ?_
          refine lv_iconst (v := (5 : Int32)) hx hb dX11_flat_179 (by decide) ?_
          refine lv_iload_n hx hb dX11_flat_180 rfl (lv_at hl 1 rfl) ?_
          refine lv_iadd hx hb dX11_flat_181 ?_
          obtain ⟨hin, h⟩ := h
          refine ldi (k := ((5 : Int32) + l3).toNatClampNeg) hx hb hK hP 2 rfl hin rfl dX11_flat_182 ?_
          obtain ⟨hin, h⟩ := h
          refine sti (k := l3.toNatClampNeg) (y := (M_place ((5 : Int32) + l3).toNatClampNeg)) hx hb hK hP hD hS 2 rfl hin rfl rfl dX11_flat_183 (fun M_place_183 eM_place_183 H locs hP hD hS => ?_)
          have h := h M_place_183 eM_place_183
          have hP : va_P D clsX [(h0, .inr (11, oX11 rM sM)), ((rM 3), .inl (cy 0, 14, .inl M_told)), ((rM 4), .inl (cy 0, 10, .inl M_place_183)), ((rM 5), .inl (cy 0, 10, .inl M_range)), ((rM 6), .inl (cy 0, 10, .inl M_voice)), ((rM 7), .inl (cy 0, 8, .inl M_kind)), ((rM 8), .inl (cy 0, 29, .inl M_now)), ((rM 9), .inl (cy 0, 29, .inl M_read)), ((rM 10), .inl (cy 0, 2, .inl M_status)), ((rM 11), .inl (cy 2, 10, .inl M_isFalse)), ((rM 12), .inl (cy 2, 200, .inl M_isMirage)), ((rM 13), .inl (cy 0, 500, .inl M_tape)), ((rM 0), .inl (cy 5, 5, .inr (.inr (.inr (.inr (fun i => some (ev (2 * (32 + i))))))))), ((rM 1), .inl (cy 5, 4, .inr (.inr (.inr (.inr (fun i => some (ev (2 * (37 + i)))))))))] H := hP
          have hD : va_D A [(h0, .inr (11, oX11 rM sM)), ((rM 3), .inl (cy 0, 14, .inl M_told)), ((rM 4), .inl (cy 0, 10, .inl M_place_183)), ((rM 5), .inl (cy 0, 10, .inl M_range)), ((rM 6), .inl (cy 0, 10, .inl M_voice)), ((rM 7), .inl (cy 0, 8, .inl M_kind)), ((rM 8), .inl (cy 0, 29, .inl M_now)), ((rM 9), .inl (cy 0, 29, .inl M_read)), ((rM 10), .inl (cy 0, 2, .inl M_status)), ((rM 11), .inl (cy 2, 10, .inl M_isFalse)), ((rM 12), .inl (cy 2, 200, .inl M_isMirage)), ((rM 13), .inl (cy 0, 500, .inl M_tape)), ((rM 0), .inl (cy 5, 5, .inr (.inr (.inr (.inr (fun i => some (ev (2 * (32 + i))))))))), ((rM 1), .inl (cy 5, 4, .inr (.inr (.inr (.inr (fun i => some (ev (2 * (37 + i)))))))))] := hD
          refine lv_aload_n hx hb dX11_flat_184 rfl (lv_at hl 0 rfl) ?_
          refine gfX11_43 hx hb hts hown hK hP 0 rfl dX11_flat_185 ?_
          refine lv_iload_n hx hb dX11_flat_188 rfl (lv_at hl 1 rfl) ?_
          refine lv_aload_n hx hb dX11_flat_189 rfl (lv_at hl 0 rfl) ?_
          refine gfX11_43 hx hb hts hown hK hP 0 rfl dX11_flat_190 ?_
          refine lv_iconst (v := (5 : Int32)) hx hb dX11_flat_193 (by decide) ?_
          refine lv_iload_n hx hb dX11_flat_194 rfl (lv_at hl 1 rfl) ?_
          refine lv_iadd hx hb dX11_flat_195 ?_
          obtain ⟨hin, h⟩ := h
          refine ldi (k := ((5 : Int32) + l3).toNatClampNeg) hx hb hK hP 3 rfl hin rfl dX11_flat_196 ?_
          obtain ⟨hin, h⟩ := h
          refine sti (k := l3.toNatClampNeg) (y := (M_range ((5 : Int32) + l3).toNatClampNeg)) hx hb hK hP hD hS 3 rfl hin rfl rfl dX11_flat_197 (fun M_range_197 eM_range_197 H locs hP hD hS => ?_)
          have h := h M_range_197 eM_range_197
          have hP : va_P D clsX [(h0, .inr (11, oX11 rM sM)), ((rM 3), .inl (cy 0, 14, .inl M_told)), ((rM 4), .inl (cy 0, 10, .inl M_place_183)), ((rM 5), .inl (cy 0, 10, .inl M_range_197)), ((rM 6), .inl (cy 0, 10, .inl M_voice)), ((rM 7), .inl (cy 0, 8, .inl M_kind)), ((rM 8), .inl (cy 0, 29, .inl M_now)), ((rM 9), .inl (cy 0, 29, .inl M_read)), ((rM 10), .inl (cy 0, 2, .inl M_status)), ((rM 11), .inl (cy 2, 10, .inl M_isFalse)), ((rM 12), .inl (cy 2, 200, .inl M_isMirage)), ((rM 13), .inl (cy 0, 500, .inl M_tape)), ((rM 0), .inl (cy 5, 5, .inr (.inr (.inr (.inr (fun i => some (ev (2 * (32 + i))))))))), ((rM 1), .inl (cy 5, 4, .inr (.inr (.inr (.inr (fun i => some (ev (2 * (37 + i)))))))))] H := hP
          have hD : va_D A [(h0, .inr (11, oX11 rM sM)), ((rM 3), .inl (cy 0, 14, .inl M_told)), ((rM 4), .inl (cy 0, 10, .inl M_place_183)), ((rM 5), .inl (cy 0, 10, .inl M_range_197)), ((rM 6), .inl (cy 0, 10, .inl M_voice)), ((rM 7), .inl (cy 0, 8, .inl M_kind)), ((rM 8), .inl (cy 0, 29, .inl M_now)), ((rM 9), .inl (cy 0, 29, .inl M_read)), ((rM 10), .inl (cy 0, 2, .inl M_status)), ((rM 11), .inl (cy 2, 10, .inl M_isFalse)), ((rM 12), .inl (cy 2, 200, .inl M_isMirage)), ((rM 13), .inl (cy 0, 500, .inl M_tape)), ((rM 0), .inl (cy 5, 5, .inr (.inr (.inr (.inr (fun i => some (ev (2 * (32 + i))))))))), ((rM 1), .inl (cy 5, 4, .inr (.inr (.inr (.inr (fun i => some (ev (2 * (37 + i)))))))))] := hD
          refine lv_aload_n hx hb dX11_flat_198 rfl (lv_at hl 0 rfl) ?_
          refine gfX11_46 hx hb hts hown hK hP 0 rfl dX11_flat_199 ?_
          refine lv_iload_n hx hb dX11_flat_202 rfl (lv_at hl 1 rfl) ?_
          refine lv_aload_n hx hb dX11_flat_203 rfl (lv_at hl 0 rfl) ?_
          refine gfX11_46 hx hb hts hown hK hP 0 rfl dX11_flat_204 ?_
          refine lv_iconst (v := (5 : Int32)) hx hb dX11_flat_207 (by decide) ?_
          refine lv_iload_n hx hb dX11_flat_208 rfl (lv_at hl 1 rfl) ?_
          refine lv_iadd hx hb dX11_flat_209 ?_
          obtain ⟨hin, h⟩ := h
          refine ldi (k := ((5 : Int32) + l3).toNatClampNeg) hx hb hK hP 4 rfl hin rfl dX11_flat_210 ?_
          obtain ⟨hin, h⟩ := h
          refine sti (k := l3.toNatClampNeg) (y := (M_voice ((5 : Int32) + l3).toNatClampNeg)) hx hb hK hP hD hS 4 rfl hin rfl rfl dX11_flat_211 (fun M_voice_211 eM_voice_211 H locs hP hD hS => ?_)
          have h := h M_voice_211 eM_voice_211
          have hP : va_P D clsX [(h0, .inr (11, oX11 rM sM)), ((rM 3), .inl (cy 0, 14, .inl M_told)), ((rM 4), .inl (cy 0, 10, .inl M_place_183)), ((rM 5), .inl (cy 0, 10, .inl M_range_197)), ((rM 6), .inl (cy 0, 10, .inl M_voice_211)), ((rM 7), .inl (cy 0, 8, .inl M_kind)), ((rM 8), .inl (cy 0, 29, .inl M_now)), ((rM 9), .inl (cy 0, 29, .inl M_read)), ((rM 10), .inl (cy 0, 2, .inl M_status)), ((rM 11), .inl (cy 2, 10, .inl M_isFalse)), ((rM 12), .inl (cy 2, 200, .inl M_isMirage)), ((rM 13), .inl (cy 0, 500, .inl M_tape)), ((rM 0), .inl (cy 5, 5, .inr (.inr (.inr (.inr (fun i => some (ev (2 * (32 + i))))))))), ((rM 1), .inl (cy 5, 4, .inr (.inr (.inr (.inr (fun i => some (ev (2 * (37 + i)))))))))] H := hP
          have hD : va_D A [(h0, .inr (11, oX11 rM sM)), ((rM 3), .inl (cy 0, 14, .inl M_told)), ((rM 4), .inl (cy 0, 10, .inl M_place_183)), ((rM 5), .inl (cy 0, 10, .inl M_range_197)), ((rM 6), .inl (cy 0, 10, .inl M_voice_211)), ((rM 7), .inl (cy 0, 8, .inl M_kind)), ((rM 8), .inl (cy 0, 29, .inl M_now)), ((rM 9), .inl (cy 0, 29, .inl M_read)), ((rM 10), .inl (cy 0, 2, .inl M_status)), ((rM 11), .inl (cy 2, 10, .inl M_isFalse)), ((rM 12), .inl (cy 2, 200, .inl M_isMirage)), ((rM 13), .inl (cy 0, 500, .inl M_tape)), ((rM 0), .inl (cy 5, 5, .inr (.inr (.inr (.inr (fun i => some (ev (2 * (32 + i))))))))), ((rM 1), .inl (cy 5, 4, .inr (.inr (.inr (.inr (fun i => some (ev (2 * (37 + i)))))))))] := hD
          refine lv_aload_n hx hb dX11_flat_212 rfl (lv_at hl 0 rfl) ?_
          refine gfX11_61 hx hb hts hown hK hP 0 rfl dX11_flat_213 ?_
          refine lv_iload_n hx hb dX11_flat_216 rfl (lv_at hl 1 rfl) ?_
          refine lv_aload_n hx hb dX11_flat_217 rfl (lv_at hl 0 rfl) ?_
          refine gfX11_61 hx hb hts hown hK hP 0 rfl dX11_flat_218 ?_
          refine lv_iconst (v := (5 : Int32)) hx hb dX11_flat_221 (by decide) ?_
          refine lv_iload_n hx hb dX11_flat_222 rfl (lv_at hl 1 rfl) ?_
          refine lv_iadd hx hb dX11_flat_223 ?_
          obtain ⟨hin, h⟩ := h
          refine ldz (k := ((5 : Int32) + l3).toNatClampNeg) hx hb hK hP 9 rfl hin rfl dX11_flat_224 ?_
          obtain ⟨hin, h⟩ := h
          refine stz (k := l3.toNatClampNeg) (y := (vp_nar .boolean (M_isFalse ((5 : Int32) + l3).toNatClampNeg))) hx hb hK hP hD hS 9 rfl hin rfl rfl dX11_flat_225 (fun M_isFalse_225 eM_isFalse_225 H locs hP hD hS => ?_)
          have h := h M_isFalse_225 eM_isFalse_225
          have hP : va_P D clsX [(h0, .inr (11, oX11 rM sM)), ((rM 3), .inl (cy 0, 14, .inl M_told)), ((rM 4), .inl (cy 0, 10, .inl M_place_183)), ((rM 5), .inl (cy 0, 10, .inl M_range_197)), ((rM 6), .inl (cy 0, 10, .inl M_voice_211)), ((rM 7), .inl (cy 0, 8, .inl M_kind)), ((rM 8), .inl (cy 0, 29, .inl M_now)), ((rM 9), .inl (cy 0, 29, .inl M_read)), ((rM 10), .inl (cy 0, 2, .inl M_status)), ((rM 11), .inl (cy 2, 10, .inl M_isFalse_225)), ((rM 12), .inl (cy 2, 200, .inl M_isMirage)), ((rM 13), .inl (cy 0, 500, .inl M_tape)), ((rM 0), .inl (cy 5, 5, .inr (.inr (.inr (.inr (fun i => some (ev (2 * (32 + i))))))))), ((rM 1), .inl (cy 5, 4, .inr (.inr (.inr (.inr (fun i => some (ev (2 * (37 + i)))))))))] H := hP
          have hD : va_D A [(h0, .inr (11, oX11 rM sM)), ((rM 3), .inl (cy 0, 14, .inl M_told)), ((rM 4), .inl (cy 0, 10, .inl M_place_183)), ((rM 5), .inl (cy 0, 10, .inl M_range_197)), ((rM 6), .inl (cy 0, 10, .inl M_voice_211)), ((rM 7), .inl (cy 0, 8, .inl M_kind)), ((rM 8), .inl (cy 0, 29, .inl M_now)), ((rM 9), .inl (cy 0, 29, .inl M_read)), ((rM 10), .inl (cy 0, 2, .inl M_status)), ((rM 11), .inl (cy 2, 10, .inl M_isFalse_225)), ((rM 12), .inl (cy 2, 200, .inl M_isMirage)), ((rM 13), .inl (cy 0, 500, .inl M_tape)), ((rM 0), .inl (cy 5, 5, .inr (.inr (.inr (.inr (fun i => some (ev (2 * (32 + i))))))))), ((rM 1), .inl (cy 5, 4, .inr (.inr (.inr (.inr (fun i => some (ev (2 * (37 + i)))))))))] := hD
          obtain ⟨l3_226, el3_226⟩ : ∃ y : Int32, y = l3 + (1 : Int32) := ⟨_, rfl⟩
          have h := h l3_226 el3_226
          refine lv_iinc (v := l3_226) (lv' := [(3, .int l3_226), (0, .ref h0)]) hx hb dX11_flat_226 hl (k := 1) rfl (by rw [el3_226]; rfl) (by decide) rfl (fun ls hl => ?_)
          refine lv_goto (tgt := 165) hx hb dX11_flat_229 (by decide) ?_
          exact ih165 M_place_183 M_range_197 M_voice_211 M_isFalse_225 l3_226 _ _ _ h hP hD hS (lv_sub hl [1, 0] rfl)
    have L136 : ∀ (sM : AR) (M_place : AR) (M_range : AR) (M_voice : AR) (M_kind : AR) (M_read : AR) (M_status : AR) (M_isFalse : AR) (M_isMirage : AR) (kx163 : AR → Int32 → Prop), (∀ (M_told : AR) (l3 : Int32) (H : Heap) (locs : List Loc) (ls : Array Slot), kx163 M_told l3 → va_P D clsX [(h0, .inr (11, oX11 rM sM)), ((rM 3), .inl (cy 0, 14, .inl M_told)), ((rM 4), .inl (cy 0, 10, .inl M_place)), ((rM 5), .inl (cy 0, 10, .inl M_range)), ((rM 6), .inl (cy 0, 10, .inl M_voice)), ((rM 7), .inl (cy 0, 8, .inl M_kind)), ((rM 8), .inl (cy 0, 29, .inl M_now)), ((rM 9), .inl (cy 0, 29, .inl M_read)), ((rM 10), .inl (cy 0, 2, .inl M_status)), ((rM 11), .inl (cy 2, 10, .inl M_isFalse)), ((rM 12), .inl (cy 2, 200, .inl M_isMirage)), ((rM 13), .inl (cy 0, 500, .inl M_tape)), ((rM 0), .inl (cy 5, 5, .inr (.inr (.inr (.inr (fun i => some (ev (2 * (32 + i))))))))), ((rM 1), .inl (cy 5, 4, .inr (.inr (.inr (.inr (fun i => some (ev (2 * (37 + i)))))))))] H → va_D A [(h0, .inr (11, oX11 rM sM)), ((rM 3), .inl (cy 0, 14, .inl M_told)), ((rM 4), .inl (cy 0, 10, .inl M_place)), ((rM 5), .inl (cy 0, 10, .inl M_range)), ((rM 6), .inl (cy 0, 10, .inl M_voice)), ((rM 7), .inl (cy 0, 8, .inl M_kind)), ((rM 8), .inl (cy 0, 29, .inl M_now)), ((rM 9), .inl (cy 0, 29, .inl M_read)), ((rM 10), .inl (cy 0, 2, .inl M_status)), ((rM 11), .inl (cy 2, 10, .inl M_isFalse)), ((rM 12), .inl (cy 2, 200, .inl M_isMirage)), ((rM 13), .inl (cy 0, 500, .inl M_tape)), ((rM 0), .inl (cy 5, 5, .inr (.inr (.inr (.inr (fun i => some (ev (2 * (32 + i))))))))), ((rM 1), .inl (cy 5, 4, .inr (.inr (.inr (.inr (fun i => some (ev (2 * (37 + i)))))))))] → va_S A s.heap H locs → lv_has ls 4 [(0, .ref h0)] → W p l e R s m args below meth c H locs 0 0 QQ (F0 m 163 ls [])) → ∀ (nf136 : Nat) (M_told : AR) (l3 : Int32) (H : Heap) (locs : List Loc) (ls : Array Slot), wpX11_flat_L136 sM M_place M_range M_voice M_kind M_now M_read M_status M_isFalse M_isMirage M_tape kx163 post nf136 M_told l3 → va_P D clsX [(h0, .inr (11, oX11 rM sM)), ((rM 3), .inl (cy 0, 14, .inl M_told)), ((rM 4), .inl (cy 0, 10, .inl M_place)), ((rM 5), .inl (cy 0, 10, .inl M_range)), ((rM 6), .inl (cy 0, 10, .inl M_voice)), ((rM 7), .inl (cy 0, 8, .inl M_kind)), ((rM 8), .inl (cy 0, 29, .inl M_now)), ((rM 9), .inl (cy 0, 29, .inl M_read)), ((rM 10), .inl (cy 0, 2, .inl M_status)), ((rM 11), .inl (cy 2, 10, .inl M_isFalse)), ((rM 12), .inl (cy 2, 200, .inl M_isMirage)), ((rM 13), .inl (cy 0, 500, .inl M_tape)), ((rM 0), .inl (cy 5, 5, .inr (.inr (.inr (.inr (fun i => some (ev (2 * (32 + i))))))))), ((rM 1), .inl (cy 5, 4, .inr (.inr (.inr (.inr (fun i => some (ev (2 * (37 + i)))))))))] H → va_D A [(h0, .inr (11, oX11 rM sM)), ((rM 3), .inl (cy 0, 14, .inl M_told)), ((rM 4), .inl (cy 0, 10, .inl M_place)), ((rM 5), .inl (cy 0, 10, .inl M_range)), ((rM 6), .inl (cy 0, 10, .inl M_voice)), ((rM 7), .inl (cy 0, 8, .inl M_kind)), ((rM 8), .inl (cy 0, 29, .inl M_now)), ((rM 9), .inl (cy 0, 29, .inl M_read)), ((rM 10), .inl (cy 0, 2, .inl M_status)), ((rM 11), .inl (cy 2, 10, .inl M_isFalse)), ((rM 12), .inl (cy 2, 200, .inl M_isMirage)), ((rM 13), .inl (cy 0, 500, .inl M_tape)), ((rM 0), .inl (cy 5, 5, .inr (.inr (.inr (.inr (fun i => some (ev (2 * (32 + i))))))))), ((rM 1), .inl (cy 5, 4, .inr (.inr (.inr (.inr (fun i => some (ev (2 * (37 + i)))))))))] → va_S A s.heap H locs → lv_has ls 4 [(0, .ref h0), (3, .int l3)] → W p l e R s m args below meth c H locs 0 0 QQ (F0 m 136 ls []) := by
      intro sM M_place M_range M_voice M_kind M_read M_status M_isFalse M_isMirage kx163 hk136_163 nf136
      induction nf136 with
      | zero =>
        intro M_told l3 H locs ls h
        exact (show False from h).elim
      | succ nf136 ih136 =>
        intro M_told l3 H locs ls h hP hD hS hl
        refine lv_iload_n hx hb dX11_flat_136 rfl (lv_at hl 1 rfl) ?_
        refine lv_bipush (v := (7 : Int32)) hx hb dX11_flat_137 (by decide) ?_
        refine lv_icmp_ge (tgt := 163) hx hb dX11_flat_139 (by decide) (fun c139 => ?_) (fun c139 => ?_)
        · have h := h.1 c139
          exact hk136_163 M_told l3 _ _ _ h hP hD hS (lv_sub hl [0] rfl)
        · have h := h.2 c139
          refine lv_aload_n hx hb dX11_flat_142 rfl (lv_at hl 0 rfl) ?_
          refine gfX11_36 hx hb hts hown hK hP 0 rfl dX11_flat_143 ?_
          refine lv_iload_n hx hb dX11_flat_146 rfl (lv_at hl 1 rfl) ?_
          refine lv_aload_n hx hb dX11_flat_147 rfl (lv_at hl 0 rfl) ?_
          refine gfX11_36 hx hb hts hown hK hP 0 rfl dX11_flat_148 ?_
          refine lv_bipush (v := (7 : Int32)) hx hb dX11_flat_151 (by decide) ?_
          refine lv_iload_n hx hb dX11_flat_153 rfl (lv_at hl 1 rfl) ?_
          refine lv_iadd hx hb dX11_flat_154 ?_
          obtain ⟨hin, h⟩ := h
          refine ldi (k := ((7 : Int32) + l3).toNatClampNeg) hx hb hK hP 1 rfl hin rfl dX11_flat_155 ?_
          obtain ⟨hin, h⟩ := h
          refine sti (k := l3.toNatClampNeg) (y := (M_told ((7 : Int32) + l3).toNatClampNeg)) hx hb hK hP hD hS 1 rfl hin rfl rfl dX11_flat_156 (fun M_told_156 eM_told_156 H locs hP hD hS => ?_)
          have h := h M_told_156 eM_told_156
          have hP : va_P D clsX [(h0, .inr (11, oX11 rM sM)), ((rM 3), .inl (cy 0, 14, .inl M_told_156)), ((rM 4), .inl (cy 0, 10, .inl M_place)), ((rM 5), .inl (cy 0, 10, .inl M_range)), ((rM 6), .inl (cy 0, 10, .inl M_voice)), ((rM 7), .inl (cy 0, 8, .inl M_kind)), ((rM 8), .inl (cy 0, 29, .inl M_now)), ((rM 9), .inl (cy 0, 29, .inl M_read)), ((rM 10), .inl (cy 0, 2, .inl M_status)), ((rM 11), .inl (cy 2, 10, .inl M_isFalse)), ((rM 12), .inl (cy 2, 200, .inl M_isMirage)), ((rM 13), .inl (cy 0, 500, .inl M_tape)), ((rM 0), .inl (cy 5, 5, .inr (.inr (.inr (.inr (fun i => some (ev (2 * (32 + i))))))))), ((rM 1), .inl (cy 5, 4, .inr (.inr (.inr (.inr (fun i => some (ev (2 * (37 + i)))))))))] H := hP
          have hD : va_D A [(h0, .inr (11, oX11 rM sM)), ((rM 3), .inl (cy 0, 14, .inl M_told_156)), ((rM 4), .inl (cy 0, 10, .inl M_place)), ((rM 5), .inl (cy 0, 10, .inl M_range)), ((rM 6), .inl (cy 0, 10, .inl M_voice)), ((rM 7), .inl (cy 0, 8, .inl M_kind)), ((rM 8), .inl (cy 0, 29, .inl M_now)), ((rM 9), .inl (cy 0, 29, .inl M_read)), ((rM 10), .inl (cy 0, 2, .inl M_status)), ((rM 11), .inl (cy 2, 10, .inl M_isFalse)), ((rM 12), .inl (cy 2, 200, .inl M_isMirage)), ((rM 13), .inl (cy 0, 500, .inl M_tape)), ((rM 0), .inl (cy 5, 5, .inr (.inr (.inr (.inr (fun i => some (ev (2 * (32 + i))))))))), ((rM 1), .inl (cy 5, 4, .inr (.inr (.inr (.inr (fun i => some (ev (2 * (37 + i)))))))))] := hD
          obtain ⟨l3_157, el3_157⟩ : ∃ y : Int32, y = l3 + (1 : Int32) := ⟨_, rfl⟩
          have h := h l3_157 el3_157
          refine lv_iinc (v := l3_157) (lv' := [(3, .int l3_157), (0, .ref h0)]) hx hb dX11_flat_157 hl (k := 1) rfl (by rw [el3_157]; rfl) (by decide) rfl (fun ls hl => ?_)
          refine lv_goto (tgt := 136) hx hb dX11_flat_160 (by decide) ?_
          exact ih136 M_told_156 l3_157 _ _ _ h hP hD hS (lv_sub hl [1, 0] rfl)
    refine lv_aload_n hx hb dX11_flat_122 rfl (lv_at hl 0 rfl) ?_
    refine clVi (As := []) (rest := []) (Wr := [((rM 3), .inl (cy 0, 14, .inl M_told)), ((rM 4), .inl (cy 0, 10, .inl M_place)), ((rM 5), .inl (cy 0, 10, .inl M_range)), ((rM 6), .inl (cy 0, 10, .inl M_voice)), ((rM 7), .inl (cy 0, 8, .inl M_kind)), ((rM 8), .inl (cy 0, 29, .inl M_now)), ((rM 9), .inl (cy 0, 29, .inl M_read)), ((rM 11), .inl (cy 2, 10, .inl M_isFalse)), ((rM 12), .inl (cy 2, 200, .inl M_isMirage)), ((rM 13), .inl (cy 0, 500, .inl M_tape)), ((rM 0), .inl (cy 5, 5, .inr (.inr (.inr (.inr (fun i => some (ev (2 * (32 + i))))))))), ((rM 1), .inl (cy 5, 4, .inr (.inr (.inr (.inr (fun i => some (ev (2 * (37 + i)))))))))]) (cq := (RX11, TX11, 56)) ⟨hx, hb, hml, hown, hts⟩ ⟨callB_of 0 hts (goodC mw1442) rfl rfl rfl (hts _ (tb mw15)) (hts _ (tb mw1439)) kdX11_isWrong ⟨Nat.le_trans (by decide) hRf, Nat.le_trans (by decide) hRl⟩, hts _ (tb mw1441), hts _ (tb ms56)⟩ (ctX11_isWrong l D cy ev h0 rM sM M_status  _ _ h) hE hK hP hD hS hA [0, 8] [1, 2, 3, 4, 5, 6, 7, 9, 10, 11, 12, 13] rfl rfl (by decide) (by decide) (by decide) 0 rfl rfl rfl hl.1 rfl (Nat.le_of_ble_eq_true rfl) ⟨Nat.zero_le _, Nat.zero_le _⟩ dX11_flat_123 (fun r123 u H locs h hP hD hS => ?_)
    obtain ⟨sM_123, M_status_123⟩ := u
    have hP : va_P D clsX [((rM 3), .inl (cy 0, 14, .inl M_told)), ((rM 4), .inl (cy 0, 10, .inl M_place)), ((rM 5), .inl (cy 0, 10, .inl M_range)), ((rM 6), .inl (cy 0, 10, .inl M_voice)), ((rM 7), .inl (cy 0, 8, .inl M_kind)), ((rM 8), .inl (cy 0, 29, .inl M_now)), ((rM 9), .inl (cy 0, 29, .inl M_read)), ((rM 11), .inl (cy 2, 10, .inl M_isFalse)), ((rM 12), .inl (cy 2, 200, .inl M_isMirage)), ((rM 13), .inl (cy 0, 500, .inl M_tape)), ((rM 0), .inl (cy 5, 5, .inr (.inr (.inr (.inr (fun i => some (ev (2 * (32 + i))))))))), ((rM 1), .inl (cy 5, 4, .inr (.inr (.inr (.inr (fun i => some (ev (2 * (37 + i))))))))), (h0, .inr (11, oX11 rM sM_123)), ((rM 10), .inl (cy 0, 2, .inl M_status_123))] H := hP
    have hD : va_D A [((rM 3), .inl (cy 0, 14, .inl M_told)), ((rM 4), .inl (cy 0, 10, .inl M_place)), ((rM 5), .inl (cy 0, 10, .inl M_range)), ((rM 6), .inl (cy 0, 10, .inl M_voice)), ((rM 7), .inl (cy 0, 8, .inl M_kind)), ((rM 8), .inl (cy 0, 29, .inl M_now)), ((rM 9), .inl (cy 0, 29, .inl M_read)), ((rM 11), .inl (cy 2, 10, .inl M_isFalse)), ((rM 12), .inl (cy 2, 200, .inl M_isMirage)), ((rM 13), .inl (cy 0, 500, .inl M_tape)), ((rM 0), .inl (cy 5, 5, .inr (.inr (.inr (.inr (fun i => some (ev (2 * (32 + i))))))))), ((rM 1), .inl (cy 5, 4, .inr (.inr (.inr (.inr (fun i => some (ev (2 * (37 + i))))))))), (h0, .inr (11, oX11 rM sM_123)), ((rM 10), .inl (cy 0, 2, .inl M_status_123))] := hD
    refine lv_if_eq (tgt := 134) hx hb dX11_flat_126 (by decide) (fun c126 => ?_) (fun c126 => ?_)
    · have h := h.1 c126
      refine lv_iconst (v := (0 : Int32)) hx hb dX11_flat_134 (by decide) ?_
      refine lv_istore_n (lv' := [(3, .int (0 : Int32)), (0, .ref h0)]) hx hb dX11_flat_135 rfl hl (by decide) rfl (fun ls hl => ?_)
      obtain ⟨nf136, h⟩ := h
      refine L136 sM_123 M_place M_range M_voice M_kind M_read M_status_123 M_isFalse M_isMirage _ (fun M_told_163 l3_163 H locs ls h hP hD hS hl => ?_) nf136 M_told (0 : Int32) _ _ _ h (hP.sub [12, 0, 1, 2, 3, 4, 5, 6, 13, 7, 8, 9, 10, 11] rfl) (hD.sub [12, 0, 1, 2, 3, 4, 5, 6, 13, 7, 8, 9, 10, 11] (by decide) rfl) hS (lv_sub hl [1, 0] rfl)
      refine lv_iconst (v := (0 : Int32)) hx hb dX11_flat_163 (by decide) ?_
      refine lv_istore_n (lv' := [(3, .int (0 : Int32)), (0, .ref h0)]) hx hb dX11_flat_164 rfl hl (by decide) rfl (fun ls hl => ?_)
      obtain ⟨nf165, h⟩ := h
      refine L165 sM_123 M_told_163 M_kind M_read M_status_123 M_isMirage _ (fun M_place_232 M_range_232 M_voice_232 M_isFalse_232 l3_232 H locs ls h hP hD hS hl => ?_) nf165 M_place M_range M_voice M_isFalse (0 : Int32) _ _ _ h hP hD hS (lv_sub hl [1, 0] rfl)
      refine lv_iconst (v := (0 : Int32)) hx hb dX11_flat_232 (by decide) ?_
      refine lv_istore_n (lv' := [(3, .int (0 : Int32)), (0, .ref h0)]) hx hb dX11_flat_233 rfl hl (by decide) rfl (fun ls hl => ?_)
      obtain ⟨nf234, h⟩ := h
      refine L234 sM_123 M_told_163 M_place_232 M_range_232 M_voice_232 M_read M_status_123 M_isFalse_232 M_isMirage _ (fun M_kind_259 l3_259 H locs ls h hP hD hS hl => ?_) nf234 M_kind (0 : Int32) _ _ _ h hP hD hS (lv_sub hl [1, 0] rfl)
      refine lv_iconst (v := (0 : Int32)) hx hb dX11_flat_259 (by decide) ?_
      refine lv_istore_n (lv' := [(3, .int (0 : Int32)), (0, .ref h0)]) hx hb dX11_flat_260 rfl hl (by decide) rfl (fun ls hl => ?_)
      obtain ⟨nf261, h⟩ := h
      refine L261 sM_123 M_told_163 M_place_232 M_range_232 M_voice_232 M_kind_259 M_read M_status_123 M_isFalse_232 _ (fun M_isMirage_288 l3_288 H locs ls h hP hD hS hl => ?_) nf261 M_isMirage (0 : Int32) _ _ _ h hP hD hS (lv_sub hl [1, 0] rfl)
      refine lv_aload_n hx hb dX11_flat_288 rfl (lv_at hl 0 rfl) ?_
      refine gfX11_52 hx hb hts hown hK hP 0 rfl dX11_flat_289 ?_
      refine lv_aload_n hx hb dX11_flat_292 rfl (lv_at hl 0 rfl) ?_
      refine gfX11_55 hx hb hts hown hK hP 0 rfl dX11_flat_293 ?_
      refine clSv (As := [.ref (rM 8), .ref (rM 9)]) (rest := []) (Wr := [(h0, .inr (11, oX11 rM sM_123)), ((rM 3), .inl (cy 0, 14, .inl M_told_163)), ((rM 4), .inl (cy 0, 10, .inl M_place_232)), ((rM 5), .inl (cy 0, 10, .inl M_range_232)), ((rM 6), .inl (cy 0, 10, .inl M_voice_232)), ((rM 7), .inl (cy 0, 8, .inl M_kind_259)), ((rM 10), .inl (cy 0, 2, .inl M_status_123)), ((rM 11), .inl (cy 2, 10, .inl M_isFalse_232)), ((rM 12), .inl (cy 2, 200, .inl M_isMirage_288)), ((rM 13), .inl (cy 0, 500, .inl M_tape)), ((rM 0), .inl (cy 5, 5, .inr (.inr (.inr (.inr (fun i => some (ev (2 * (32 + i))))))))), ((rM 1), .inl (cy 5, 4, .inr (.inr (.inr (.inr (fun i => some (ev (2 * (37 + i)))))))))]) ⟨hx, hb, hml, hown, hts⟩ ⟨callB_of 2 hts (goodC mw1445) rfl rfl rfl (hts _ (tb mw15)) (hts _ (tb mw1443)) kdX11_be ⟨Nat.le_trans (by decide) hRf, Nat.le_trans (by decide) hRl⟩, hts _ (tb mw1444)⟩ (ctX11_be l D cy ev (rM 8) (rM 9) M_now M_read 29 29  _ _ h) hE hK hP hD hS hA [6, 7] [0, 1, 2, 3, 4, 5, 8, 9, 10, 11, 12, 13] rfl rfl (by decide) (by decide) (by decide) rfl hl.1 rfl (Nat.le_of_ble_eq_true rfl) ⟨Nat.zero_le _, Nat.zero_le _⟩ dX11_flat_296 (fun M_now_296 H locs h hP hD hS => ?_)
      have hP : va_P D clsX [(h0, .inr (11, oX11 rM sM_123)), ((rM 3), .inl (cy 0, 14, .inl M_told_163)), ((rM 4), .inl (cy 0, 10, .inl M_place_232)), ((rM 5), .inl (cy 0, 10, .inl M_range_232)), ((rM 6), .inl (cy 0, 10, .inl M_voice_232)), ((rM 7), .inl (cy 0, 8, .inl M_kind_259)), ((rM 10), .inl (cy 0, 2, .inl M_status_123)), ((rM 11), .inl (cy 2, 10, .inl M_isFalse_232)), ((rM 12), .inl (cy 2, 200, .inl M_isMirage_288)), ((rM 13), .inl (cy 0, 500, .inl M_tape)), ((rM 0), .inl (cy 5, 5, .inr (.inr (.inr (.inr (fun i => some (ev (2 * (32 + i))))))))), ((rM 1), .inl (cy 5, 4, .inr (.inr (.inr (.inr (fun i => some (ev (2 * (37 + i))))))))), ((rM 8), .inl (cy 0, 29, .inl M_now_296)), ((rM 9), .inl (cy 0, 29, .inl M_read))] H := hP
      have hD : va_D A [(h0, .inr (11, oX11 rM sM_123)), ((rM 3), .inl (cy 0, 14, .inl M_told_163)), ((rM 4), .inl (cy 0, 10, .inl M_place_232)), ((rM 5), .inl (cy 0, 10, .inl M_range_232)), ((rM 6), .inl (cy 0, 10, .inl M_voice_232)), ((rM 7), .inl (cy 0, 8, .inl M_kind_259)), ((rM 10), .inl (cy 0, 2, .inl M_status_123)), ((rM 11), .inl (cy 2, 10, .inl M_isFalse_232)), ((rM 12), .inl (cy 2, 200, .inl M_isMirage_288)), ((rM 13), .inl (cy 0, 500, .inl M_tape)), ((rM 0), .inl (cy 5, 5, .inr (.inr (.inr (.inr (fun i => some (ev (2 * (32 + i))))))))), ((rM 1), .inl (cy 5, 4, .inr (.inr (.inr (.inr (fun i => some (ev (2 * (37 + i))))))))), ((rM 8), .inl (cy 0, 29, .inl M_now_296)), ((rM 9), .inl (cy 0, 29, .inl M_read))] := hD
      refine lv_aload_n hx hb dX11_flat_299 rfl (lv_at hl 0 rfl) ?_
      refine lv_iconst (v := (0 : Int32)) hx hb dX11_flat_300 (by decide) ?_
      refine pfX11_270 hx hb hts hown hK hP hD hS 0 rfl dX11_flat_301 (fun H locs hP hD hS => ?_)
      have hP : va_P D clsX [(h0, .inr (11, oX11 rM (upd sM_123 30 (0 : Int32)))), ((rM 3), .inl (cy 0, 14, .inl M_told_163)), ((rM 4), .inl (cy 0, 10, .inl M_place_232)), ((rM 5), .inl (cy 0, 10, .inl M_range_232)), ((rM 6), .inl (cy 0, 10, .inl M_voice_232)), ((rM 7), .inl (cy 0, 8, .inl M_kind_259)), ((rM 10), .inl (cy 0, 2, .inl M_status_123)), ((rM 11), .inl (cy 2, 10, .inl M_isFalse_232)), ((rM 12), .inl (cy 2, 200, .inl M_isMirage_288)), ((rM 13), .inl (cy 0, 500, .inl M_tape)), ((rM 0), .inl (cy 5, 5, .inr (.inr (.inr (.inr (fun i => some (ev (2 * (32 + i))))))))), ((rM 1), .inl (cy 5, 4, .inr (.inr (.inr (.inr (fun i => some (ev (2 * (37 + i))))))))), ((rM 8), .inl (cy 0, 29, .inl M_now_296)), ((rM 9), .inl (cy 0, 29, .inl M_read))] H := hP
      have hD : va_D A [(h0, .inr (11, oX11 rM (upd sM_123 30 (0 : Int32)))), ((rM 3), .inl (cy 0, 14, .inl M_told_163)), ((rM 4), .inl (cy 0, 10, .inl M_place_232)), ((rM 5), .inl (cy 0, 10, .inl M_range_232)), ((rM 6), .inl (cy 0, 10, .inl M_voice_232)), ((rM 7), .inl (cy 0, 8, .inl M_kind_259)), ((rM 10), .inl (cy 0, 2, .inl M_status_123)), ((rM 11), .inl (cy 2, 10, .inl M_isFalse_232)), ((rM 12), .inl (cy 2, 200, .inl M_isMirage_288)), ((rM 13), .inl (cy 0, 500, .inl M_tape)), ((rM 0), .inl (cy 5, 5, .inr (.inr (.inr (.inr (fun i => some (ev (2 * (32 + i))))))))), ((rM 1), .inl (cy 5, 4, .inr (.inr (.inr (.inr (fun i => some (ev (2 * (37 + i))))))))), ((rM 8), .inl (cy 0, 29, .inl M_now_296)), ((rM 9), .inl (cy 0, 29, .inl M_read))] := hD
      refine lv_aload_n hx hb dX11_flat_304 rfl (lv_at hl 0 rfl) ?_
      refine lv_iconst (v := (0 : Int32)) hx hb dX11_flat_305 (by decide) ?_
      refine pfX11_273 hx hb hts hown hK hP hD hS 0 rfl dX11_flat_306 (fun H locs hP hD hS => ?_)
      have hP : va_P D clsX [(h0, .inr (11, oX11 rM (upd (upd sM_123 30 (0 : Int32)) 31 (0 : Int32)))), ((rM 3), .inl (cy 0, 14, .inl M_told_163)), ((rM 4), .inl (cy 0, 10, .inl M_place_232)), ((rM 5), .inl (cy 0, 10, .inl M_range_232)), ((rM 6), .inl (cy 0, 10, .inl M_voice_232)), ((rM 7), .inl (cy 0, 8, .inl M_kind_259)), ((rM 10), .inl (cy 0, 2, .inl M_status_123)), ((rM 11), .inl (cy 2, 10, .inl M_isFalse_232)), ((rM 12), .inl (cy 2, 200, .inl M_isMirage_288)), ((rM 13), .inl (cy 0, 500, .inl M_tape)), ((rM 0), .inl (cy 5, 5, .inr (.inr (.inr (.inr (fun i => some (ev (2 * (32 + i))))))))), ((rM 1), .inl (cy 5, 4, .inr (.inr (.inr (.inr (fun i => some (ev (2 * (37 + i))))))))), ((rM 8), .inl (cy 0, 29, .inl M_now_296)), ((rM 9), .inl (cy 0, 29, .inl M_read))] H := hP
      have hD : va_D A [(h0, .inr (11, oX11 rM (upd (upd sM_123 30 (0 : Int32)) 31 (0 : Int32)))), ((rM 3), .inl (cy 0, 14, .inl M_told_163)), ((rM 4), .inl (cy 0, 10, .inl M_place_232)), ((rM 5), .inl (cy 0, 10, .inl M_range_232)), ((rM 6), .inl (cy 0, 10, .inl M_voice_232)), ((rM 7), .inl (cy 0, 8, .inl M_kind_259)), ((rM 10), .inl (cy 0, 2, .inl M_status_123)), ((rM 11), .inl (cy 2, 10, .inl M_isFalse_232)), ((rM 12), .inl (cy 2, 200, .inl M_isMirage_288)), ((rM 13), .inl (cy 0, 500, .inl M_tape)), ((rM 0), .inl (cy 5, 5, .inr (.inr (.inr (.inr (fun i => some (ev (2 * (32 + i))))))))), ((rM 1), .inl (cy 5, 4, .inr (.inr (.inr (.inr (fun i => some (ev (2 * (37 + i))))))))), ((rM 8), .inl (cy 0, 29, .inl M_now_296)), ((rM 9), .inl (cy 0, 29, .inl M_read))] := hD
      refine lv_aload_n hx hb dX11_flat_309 rfl (lv_at hl 0 rfl) ?_
      refine lv_iconst (v := (-1 : Int32)) hx hb dX11_flat_310 (by decide) ?_
      refine pfX11_93 hx hb hts hown hK hP hD hS 0 rfl dX11_flat_311 (fun H locs hP hD hS => ?_)
      have hP : va_P D clsX [(h0, .inr (11, oX11 rM (upd (upd (upd sM_123 30 (0 : Int32)) 31 (0 : Int32)) 36 (-1 : Int32)))), ((rM 3), .inl (cy 0, 14, .inl M_told_163)), ((rM 4), .inl (cy 0, 10, .inl M_place_232)), ((rM 5), .inl (cy 0, 10, .inl M_range_232)), ((rM 6), .inl (cy 0, 10, .inl M_voice_232)), ((rM 7), .inl (cy 0, 8, .inl M_kind_259)), ((rM 10), .inl (cy 0, 2, .inl M_status_123)), ((rM 11), .inl (cy 2, 10, .inl M_isFalse_232)), ((rM 12), .inl (cy 2, 200, .inl M_isMirage_288)), ((rM 13), .inl (cy 0, 500, .inl M_tape)), ((rM 0), .inl (cy 5, 5, .inr (.inr (.inr (.inr (fun i => some (ev (2 * (32 + i))))))))), ((rM 1), .inl (cy 5, 4, .inr (.inr (.inr (.inr (fun i => some (ev (2 * (37 + i))))))))), ((rM 8), .inl (cy 0, 29, .inl M_now_296)), ((rM 9), .inl (cy 0, 29, .inl M_read))] H := hP
      have hD : va_D A [(h0, .inr (11, oX11 rM (upd (upd (upd sM_123 30 (0 : Int32)) 31 (0 : Int32)) 36 (-1 : Int32)))), ((rM 3), .inl (cy 0, 14, .inl M_told_163)), ((rM 4), .inl (cy 0, 10, .inl M_place_232)), ((rM 5), .inl (cy 0, 10, .inl M_range_232)), ((rM 6), .inl (cy 0, 10, .inl M_voice_232)), ((rM 7), .inl (cy 0, 8, .inl M_kind_259)), ((rM 10), .inl (cy 0, 2, .inl M_status_123)), ((rM 11), .inl (cy 2, 10, .inl M_isFalse_232)), ((rM 12), .inl (cy 2, 200, .inl M_isMirage_288)), ((rM 13), .inl (cy 0, 500, .inl M_tape)), ((rM 0), .inl (cy 5, 5, .inr (.inr (.inr (.inr (fun i => some (ev (2 * (32 + i))))))))), ((rM 1), .inl (cy 5, 4, .inr (.inr (.inr (.inr (fun i => some (ev (2 * (37 + i))))))))), ((rM 8), .inl (cy 0, 29, .inl M_now_296)), ((rM 9), .inl (cy 0, 29, .inl M_read))] := hD
      refine lv_aload_n hx hb dX11_flat_314 rfl (lv_at hl 0 rfl) ?_
      refine lv_iconst (v := (-1 : Int32)) hx hb dX11_flat_315 (by decide) ?_
      refine pfX11_111 hx hb hts hown hK hP hD hS 0 rfl dX11_flat_316 (fun H locs hP hD hS => ?_)
      have hP : va_P D clsX [(h0, .inr (11, oX11 rM (upd (upd (upd (upd sM_123 30 (0 : Int32)) 31 (0 : Int32)) 36 (-1 : Int32)) 45 (-1 : Int32)))), ((rM 3), .inl (cy 0, 14, .inl M_told_163)), ((rM 4), .inl (cy 0, 10, .inl M_place_232)), ((rM 5), .inl (cy 0, 10, .inl M_range_232)), ((rM 6), .inl (cy 0, 10, .inl M_voice_232)), ((rM 7), .inl (cy 0, 8, .inl M_kind_259)), ((rM 10), .inl (cy 0, 2, .inl M_status_123)), ((rM 11), .inl (cy 2, 10, .inl M_isFalse_232)), ((rM 12), .inl (cy 2, 200, .inl M_isMirage_288)), ((rM 13), .inl (cy 0, 500, .inl M_tape)), ((rM 0), .inl (cy 5, 5, .inr (.inr (.inr (.inr (fun i => some (ev (2 * (32 + i))))))))), ((rM 1), .inl (cy 5, 4, .inr (.inr (.inr (.inr (fun i => some (ev (2 * (37 + i))))))))), ((rM 8), .inl (cy 0, 29, .inl M_now_296)), ((rM 9), .inl (cy 0, 29, .inl M_read))] H := hP
      have hD : va_D A [(h0, .inr (11, oX11 rM (upd (upd (upd (upd sM_123 30 (0 : Int32)) 31 (0 : Int32)) 36 (-1 : Int32)) 45 (-1 : Int32)))), ((rM 3), .inl (cy 0, 14, .inl M_told_163)), ((rM 4), .inl (cy 0, 10, .inl M_place_232)), ((rM 5), .inl (cy 0, 10, .inl M_range_232)), ((rM 6), .inl (cy 0, 10, .inl M_voice_232)), ((rM 7), .inl (cy 0, 8, .inl M_kind_259)), ((rM 10), .inl (cy 0, 2, .inl M_status_123)), ((rM 11), .inl (cy 2, 10, .inl M_isFalse_232)), ((rM 12), .inl (cy 2, 200, .inl M_isMirage_288)), ((rM 13), .inl (cy 0, 500, .inl M_tape)), ((rM 0), .inl (cy 5, 5, .inr (.inr (.inr (.inr (fun i => some (ev (2 * (32 + i))))))))), ((rM 1), .inl (cy 5, 4, .inr (.inr (.inr (.inr (fun i => some (ev (2 * (37 + i))))))))), ((rM 8), .inl (cy 0, 29, .inl M_now_296)), ((rM 9), .inl (cy 0, 29, .inl M_read))] := hD
      refine lv_aload_n hx hb dX11_flat_319 rfl (lv_at hl 0 rfl) ?_
      refine lv_iconst (v := (0 : Int32)) hx hb dX11_flat_320 (by decide) ?_
      refine pfX11_276 hx hb hts hown hK hP hD hS 0 rfl rfl dX11_flat_321 (fun H locs hP hD hS => ?_)
      have hP : va_P D clsX [(h0, .inr (11, oX11 rM (upd (upd (upd (upd (upd sM_123 30 (0 : Int32)) 31 (0 : Int32)) 36 (-1 : Int32)) 45 (-1 : Int32)) 48 (0 : Int32)))), ((rM 3), .inl (cy 0, 14, .inl M_told_163)), ((rM 4), .inl (cy 0, 10, .inl M_place_232)), ((rM 5), .inl (cy 0, 10, .inl M_range_232)), ((rM 6), .inl (cy 0, 10, .inl M_voice_232)), ((rM 7), .inl (cy 0, 8, .inl M_kind_259)), ((rM 10), .inl (cy 0, 2, .inl M_status_123)), ((rM 11), .inl (cy 2, 10, .inl M_isFalse_232)), ((rM 12), .inl (cy 2, 200, .inl M_isMirage_288)), ((rM 13), .inl (cy 0, 500, .inl M_tape)), ((rM 0), .inl (cy 5, 5, .inr (.inr (.inr (.inr (fun i => some (ev (2 * (32 + i))))))))), ((rM 1), .inl (cy 5, 4, .inr (.inr (.inr (.inr (fun i => some (ev (2 * (37 + i))))))))), ((rM 8), .inl (cy 0, 29, .inl M_now_296)), ((rM 9), .inl (cy 0, 29, .inl M_read))] H := hP
      have hD : va_D A [(h0, .inr (11, oX11 rM (upd (upd (upd (upd (upd sM_123 30 (0 : Int32)) 31 (0 : Int32)) 36 (-1 : Int32)) 45 (-1 : Int32)) 48 (0 : Int32)))), ((rM 3), .inl (cy 0, 14, .inl M_told_163)), ((rM 4), .inl (cy 0, 10, .inl M_place_232)), ((rM 5), .inl (cy 0, 10, .inl M_range_232)), ((rM 6), .inl (cy 0, 10, .inl M_voice_232)), ((rM 7), .inl (cy 0, 8, .inl M_kind_259)), ((rM 10), .inl (cy 0, 2, .inl M_status_123)), ((rM 11), .inl (cy 2, 10, .inl M_isFalse_232)), ((rM 12), .inl (cy 2, 200, .inl M_isMirage_288)), ((rM 13), .inl (cy 0, 500, .inl M_tape)), ((rM 0), .inl (cy 5, 5, .inr (.inr (.inr (.inr (fun i => some (ev (2 * (32 + i))))))))), ((rM 1), .inl (cy 5, 4, .inr (.inr (.inr (.inr (fun i => some (ev (2 * (37 + i))))))))), ((rM 8), .inl (cy 0, 29, .inl M_now_296)), ((rM 9), .inl (cy 0, 29, .inl M_read))] := hD
      refine lv_iconst (v := (0 : Int32)) hx hb dX11_flat_324 (by decide) ?_
      exact hret (0 : Int32) ((upd (upd (upd (upd (upd sM_123 30 (0 : Int32)) 31 (0 : Int32)) 36 (-1 : Int32)) 45 (-1 : Int32)) 48 (0 : Int32)), M_told_163, M_place_232, M_range_232, M_voice_232, M_kind_259, M_now_296, M_read, M_status_123, M_isFalse_232, M_isMirage_288) _ _ _ _ rfl dX11_flat_325 h (hP.sub [0, 1, 2, 3, 4, 5, 12, 13, 6, 7, 8, 9, 10, 11] rfl) (hD.sub [0, 1, 2, 3, 4, 5, 12, 13, 6, 7, 8, 9, 10, 11] (by decide) rfl) hS
    · have h := h.2 c126
      refine lv_aload_n hx hb dX11_flat_129 rfl (lv_at hl 0 rfl) ?_
      refine gfX11_181 (v := (sM_123 21)) hx hb hts hown hK hP 12 rfl rfl dX11_flat_130 ?_
      exact hret (sM_123 21) (sM_123, M_told, M_place, M_range, M_voice, M_kind, M_now, M_read, M_status_123, M_isFalse, M_isMirage) _ _ _ _ rfl dX11_flat_133 h (hP.sub [12, 0, 1, 2, 3, 4, 5, 6, 13, 7, 8, 9, 10, 11] rfl) (hD.sub [12, 0, 1, 2, 3, 4, 5, 6, 13, 7, 8, 9, 10, 11] (by decide) rfl) hS
  have L99 : ∀ (kx122 : AR → AR → AR → AR → AR → AR → AR → AR → AR → Int32 → Prop), (∀ (sM : AR) (M_told : AR) (M_place : AR) (M_range : AR) (M_voice : AR) (M_kind : AR) (M_read : AR) (M_isFalse : AR) (M_isMirage : AR) (l2 : Int32) (H : Heap) (locs : List Loc) (ls : Array Slot), kx122 sM M_told M_place M_range M_voice M_kind M_read M_isFalse M_isMirage l2 → va_P D clsX [(h0, .inr (11, oX11 rM sM)), ((rM 3), .inl (cy 0, 14, .inl M_told)), ((rM 4), .inl (cy 0, 10, .inl M_place)), ((rM 5), .inl (cy 0, 10, .inl M_range)), ((rM 6), .inl (cy 0, 10, .inl M_voice)), ((rM 7), .inl (cy 0, 8, .inl M_kind)), ((rM 8), .inl (cy 0, 29, .inl M_now)), ((rM 9), .inl (cy 0, 29, .inl M_read)), ((rM 10), .inl (cy 0, 2, .inl M_status)), ((rM 11), .inl (cy 2, 10, .inl M_isFalse)), ((rM 12), .inl (cy 2, 200, .inl M_isMirage)), ((rM 13), .inl (cy 0, 500, .inl M_tape)), ((rM 0), .inl (cy 5, 5, .inr (.inr (.inr (.inr (fun i => some (ev (2 * (32 + i))))))))), ((rM 1), .inl (cy 5, 4, .inr (.inr (.inr (.inr (fun i => some (ev (2 * (37 + i)))))))))] H → va_D A [(h0, .inr (11, oX11 rM sM)), ((rM 3), .inl (cy 0, 14, .inl M_told)), ((rM 4), .inl (cy 0, 10, .inl M_place)), ((rM 5), .inl (cy 0, 10, .inl M_range)), ((rM 6), .inl (cy 0, 10, .inl M_voice)), ((rM 7), .inl (cy 0, 8, .inl M_kind)), ((rM 8), .inl (cy 0, 29, .inl M_now)), ((rM 9), .inl (cy 0, 29, .inl M_read)), ((rM 10), .inl (cy 0, 2, .inl M_status)), ((rM 11), .inl (cy 2, 10, .inl M_isFalse)), ((rM 12), .inl (cy 2, 200, .inl M_isMirage)), ((rM 13), .inl (cy 0, 500, .inl M_tape)), ((rM 0), .inl (cy 5, 5, .inr (.inr (.inr (.inr (fun i => some (ev (2 * (32 + i))))))))), ((rM 1), .inl (cy 5, 4, .inr (.inr (.inr (.inr (fun i => some (ev (2 * (37 + i)))))))))] → va_S A s.heap H locs → lv_has ls 4 [(0, .ref h0)] → W p l e R s m args below meth c H locs 0 0 QQ (F0 m 122 ls [])) → ∀ (nf99 : Nat) (sM : AR) (M_told : AR) (M_place : AR) (M_range : AR) (M_voice : AR) (M_kind : AR) (M_read : AR) (M_isFalse : AR) (M_isMirage : AR) (l2 : Int32) (H : Heap) (locs : List Loc) (ls : Array Slot), wpX11_flat_L99 M_now M_status M_tape kx122 post nf99 sM M_told M_place M_range M_voice M_kind M_read M_isFalse M_isMirage l2 → va_P D clsX [(h0, .inr (11, oX11 rM sM)), ((rM 3), .inl (cy 0, 14, .inl M_told)), ((rM 4), .inl (cy 0, 10, .inl M_place)), ((rM 5), .inl (cy 0, 10, .inl M_range)), ((rM 6), .inl (cy 0, 10, .inl M_voice)), ((rM 7), .inl (cy 0, 8, .inl M_kind)), ((rM 8), .inl (cy 0, 29, .inl M_now)), ((rM 9), .inl (cy 0, 29, .inl M_read)), ((rM 10), .inl (cy 0, 2, .inl M_status)), ((rM 11), .inl (cy 2, 10, .inl M_isFalse)), ((rM 12), .inl (cy 2, 200, .inl M_isMirage)), ((rM 13), .inl (cy 0, 500, .inl M_tape)), ((rM 0), .inl (cy 5, 5, .inr (.inr (.inr (.inr (fun i => some (ev (2 * (32 + i))))))))), ((rM 1), .inl (cy 5, 4, .inr (.inr (.inr (.inr (fun i => some (ev (2 * (37 + i)))))))))] H → va_D A [(h0, .inr (11, oX11 rM sM)), ((rM 3), .inl (cy 0, 14, .inl M_told)), ((rM 4), .inl (cy 0, 10, .inl M_place)), ((rM 5), .inl (cy 0, 10, .inl M_range)), ((rM 6), .inl (cy 0, 10, .inl M_voice)), ((rM 7), .inl (cy 0, 8, .inl M_kind)), ((rM 8), .inl (cy 0, 29, .inl M_now)), ((rM 9), .inl (cy 0, 29, .inl M_read)), ((rM 10), .inl (cy 0, 2, .inl M_status)), ((rM 11), .inl (cy 2, 10, .inl M_isFalse)), ((rM 12), .inl (cy 2, 200, .inl M_isMirage)), ((rM 13), .inl (cy 0, 500, .inl M_tape)), ((rM 0), .inl (cy 5, 5, .inr (.inr (.inr (.inr (fun i => some (ev (2 * (32 + i))))))))), ((rM 1), .inl (cy 5, 4, .inr (.inr (.inr (.inr (fun i => some (ev (2 * (37 + i)))))))))] → va_S A s.heap H locs → lv_has ls 4 [(0, .ref h0), (2, .int l2)] → W p l e R s m args below meth c H locs 0 0 QQ (F0 m 99 ls []) := by
    intro kx122 hk99_122 nf99
    induction nf99 with
    | zero =>
      intro sM M_told M_place M_range M_voice M_kind M_read M_isFalse M_isMirage l2 H locs ls h
      exact (show False from h).elim
    | succ nf99 ih99 =>
      intro sM M_told M_place M_range M_voice M_kind M_read M_isFalse M_isMirage l2 H locs ls h hP hD hS hl
      refine lv_aload_n hx hb dX11_flat_99 rfl (lv_at hl 0 rfl) ?_
      refine gfX11_181 (v := (sM 21)) hx hb hts hown hK hP 0 rfl rfl dX11_flat_100 ?_
      refine lv_if_ne (tgt := 122) hx hb dX11_flat_103 (by decide) (fun c103 => ?_) (fun c103 => ?_)
      · have h := h.1 c103
        exact hk99_122 sM M_told M_place M_range M_voice M_kind M_read M_isFalse M_isMirage l2 _ _ _ h hP hD hS (lv_sub hl [0] rfl)
      · have h := h.2 c103
        refine lv_aload_n hx hb dX11_flat_106 rfl (lv_at hl 0 rfl) ?_
        refine gfX11_159 (v := (sM 17)) hx hb hts hown hK hP 0 rfl rfl dX11_flat_107 ?_
        refine lv_if_eq (tgt := 122) hx hb dX11_flat_110 (by decide) (fun c110 => ?_) (fun c110 => ?_)
        · have h := h.1 c110
          exact hk99_122 sM M_told M_place M_range M_voice M_kind M_read M_isFalse M_isMirage l2 _ _ _ h hP hD hS (lv_sub hl [0] rfl)
        · have h := h.2 c110
          refine lv_aload_n hx hb dX11_flat_113 rfl (lv_at hl 0 rfl) ?_
          refine lv_iload_n hx hb dX11_flat_114 rfl (lv_at hl 1 rfl) ?_
          refine clVi (As := [.int l2]) (rest := []) (Wr := [((rM 8), .inl (cy 0, 29, .inl M_now)), ((rM 10), .inl (cy 0, 2, .inl M_status))]) (cq := (RX11, TX11, 56)) ⟨hx, hb, hml, hown, hts⟩ ⟨callB_of 1 hts (goodC mw1377) rfl rfl rfl (hts _ (tb mw15)) (hts _ (tb mw1374)) kdX11_readLine ⟨Nat.le_trans (by decide) hRf, Nat.le_trans (by decide) hRl⟩, hts _ (tb mw1376), hts _ (tb ms42)⟩ (ctX11_readLine l D cy ev h0 rM sM M_told M_place M_range M_voice M_kind M_read M_isFalse M_isMirage M_tape l2 _ _ h) hE hK hP hD hS hA [0, 1, 2, 3, 4, 5, 7, 9, 10, 11, 12, 13] [6, 8] rfl rfl (by decide) (by decide) (by decide) 0 rfl rfl rfl hl.1 rfl (Nat.le_of_ble_eq_true rfl) ⟨Nat.zero_le _, Nat.zero_le _⟩ dX11_flat_115 (fun r115 u H locs h hP hD hS => ?_)
          obtain ⟨sM_115, M_told_115, M_place_115, M_range_115, M_voice_115, M_kind_115, M_read_115, M_isFalse_115, M_isMirage_115⟩ := u
          have hP : va_P D clsX [((rM 8), .inl (cy 0, 29, .inl M_now)), ((rM 10), .inl (cy 0, 2, .inl M_status)), (h0, .inr (11, oX11 rM sM_115)), ((rM 3), .inl (cy 0, 14, .inl M_told_115)), ((rM 4), .inl (cy 0, 10, .inl M_place_115)), ((rM 5), .inl (cy 0, 10, .inl M_range_115)), ((rM 6), .inl (cy 0, 10, .inl M_voice_115)), ((rM 7), .inl (cy 0, 8, .inl M_kind_115)), ((rM 9), .inl (cy 0, 29, .inl M_read_115)), ((rM 11), .inl (cy 2, 10, .inl M_isFalse_115)), ((rM 12), .inl (cy 2, 200, .inl M_isMirage_115)), ((rM 13), .inl (cy 0, 500, .inl M_tape)), ((rM 0), .inl (cy 5, 5, .inr (.inr (.inr (.inr (fun i => some (ev (2 * (32 + i))))))))), ((rM 1), .inl (cy 5, 4, .inr (.inr (.inr (.inr (fun i => some (ev (2 * (37 + i)))))))))] H := hP
          have hD : va_D A [((rM 8), .inl (cy 0, 29, .inl M_now)), ((rM 10), .inl (cy 0, 2, .inl M_status)), (h0, .inr (11, oX11 rM sM_115)), ((rM 3), .inl (cy 0, 14, .inl M_told_115)), ((rM 4), .inl (cy 0, 10, .inl M_place_115)), ((rM 5), .inl (cy 0, 10, .inl M_range_115)), ((rM 6), .inl (cy 0, 10, .inl M_voice_115)), ((rM 7), .inl (cy 0, 8, .inl M_kind_115)), ((rM 9), .inl (cy 0, 29, .inl M_read_115)), ((rM 11), .inl (cy 2, 10, .inl M_isFalse_115)), ((rM 12), .inl (cy 2, 200, .inl M_isMirage_115)), ((rM 13), .inl (cy 0, 500, .inl M_tape)), ((rM 0), .inl (cy 5, 5, .inr (.inr (.inr (.inr (fun i => some (ev (2 * (32 + i))))))))), ((rM 1), .inl (cy 5, 4, .inr (.inr (.inr (.inr (fun i => some (ev (2 * (37 + i)))))))))] := hD
          refine lv_istore_n (lv' := [(2, .int r115), (0, .ref h0)]) hx hb dX11_flat_118 rfl hl (by decide) rfl (fun ls hl => ?_)
          refine lv_goto (tgt := 99) hx hb dX11_flat_119 (by decide) ?_
          exact ih99 sM_115 M_told_115 M_place_115 M_range_115 M_voice_115 M_kind_115 M_read_115 M_isFalse_115 M_isMirage_115 r115 _ _ _ h (hP.sub [2, 3, 4, 5, 6, 7, 0, 8, 1, 9, 10, 11, 12, 13] rfl) (hD.sub [2, 3, 4, 5, 6, 7, 0, 8, 1, 9, 10, 11, 12, 13] (by decide) rfl) hS (lv_sub hl [1, 0] rfl)
  have L78 : ∀ (sM : AR) (M_told : AR) (M_isMirage : AR) (kx97 : AR → Int32 → Prop), (∀ (M_read : AR) (l2 : Int32) (H : Heap) (locs : List Loc) (ls : Array Slot), kx97 M_read l2 → va_P D clsX [(h0, .inr (11, oX11 rM sM)), ((rM 3), .inl (cy 0, 14, .inl M_told)), ((rM 4), .inl (cy 0, 10, .inl M_place)), ((rM 5), .inl (cy 0, 10, .inl M_range)), ((rM 6), .inl (cy 0, 10, .inl M_voice)), ((rM 7), .inl (cy 0, 8, .inl M_kind)), ((rM 8), .inl (cy 0, 29, .inl M_now)), ((rM 9), .inl (cy 0, 29, .inl M_read)), ((rM 10), .inl (cy 0, 2, .inl M_status)), ((rM 11), .inl (cy 2, 10, .inl M_isFalse)), ((rM 12), .inl (cy 2, 200, .inl M_isMirage)), ((rM 13), .inl (cy 0, 500, .inl M_tape)), ((rM 0), .inl (cy 5, 5, .inr (.inr (.inr (.inr (fun i => some (ev (2 * (32 + i))))))))), ((rM 1), .inl (cy 5, 4, .inr (.inr (.inr (.inr (fun i => some (ev (2 * (37 + i)))))))))] H → va_D A [(h0, .inr (11, oX11 rM sM)), ((rM 3), .inl (cy 0, 14, .inl M_told)), ((rM 4), .inl (cy 0, 10, .inl M_place)), ((rM 5), .inl (cy 0, 10, .inl M_range)), ((rM 6), .inl (cy 0, 10, .inl M_voice)), ((rM 7), .inl (cy 0, 8, .inl M_kind)), ((rM 8), .inl (cy 0, 29, .inl M_now)), ((rM 9), .inl (cy 0, 29, .inl M_read)), ((rM 10), .inl (cy 0, 2, .inl M_status)), ((rM 11), .inl (cy 2, 10, .inl M_isFalse)), ((rM 12), .inl (cy 2, 200, .inl M_isMirage)), ((rM 13), .inl (cy 0, 500, .inl M_tape)), ((rM 0), .inl (cy 5, 5, .inr (.inr (.inr (.inr (fun i => some (ev (2 * (32 + i))))))))), ((rM 1), .inl (cy 5, 4, .inr (.inr (.inr (.inr (fun i => some (ev (2 * (37 + i)))))))))] → va_S A s.heap H locs → lv_has ls 4 [(0, .ref h0)] → W p l e R s m args below meth c H locs 0 0 QQ (F0 m 97 ls [])) → ∀ (nf78 : Nat) (M_read : AR) (l2 : Int32) (H : Heap) (locs : List Loc) (ls : Array Slot), wpX11_flat_L78 sM M_told M_place M_range M_voice M_kind M_now M_status M_isFalse M_isMirage M_tape kx97 post nf78 M_read l2 → va_P D clsX [(h0, .inr (11, oX11 rM sM)), ((rM 3), .inl (cy 0, 14, .inl M_told)), ((rM 4), .inl (cy 0, 10, .inl M_place)), ((rM 5), .inl (cy 0, 10, .inl M_range)), ((rM 6), .inl (cy 0, 10, .inl M_voice)), ((rM 7), .inl (cy 0, 8, .inl M_kind)), ((rM 8), .inl (cy 0, 29, .inl M_now)), ((rM 9), .inl (cy 0, 29, .inl M_read)), ((rM 10), .inl (cy 0, 2, .inl M_status)), ((rM 11), .inl (cy 2, 10, .inl M_isFalse)), ((rM 12), .inl (cy 2, 200, .inl M_isMirage)), ((rM 13), .inl (cy 0, 500, .inl M_tape)), ((rM 0), .inl (cy 5, 5, .inr (.inr (.inr (.inr (fun i => some (ev (2 * (32 + i))))))))), ((rM 1), .inl (cy 5, 4, .inr (.inr (.inr (.inr (fun i => some (ev (2 * (37 + i)))))))))] H → va_D A [(h0, .inr (11, oX11 rM sM)), ((rM 3), .inl (cy 0, 14, .inl M_told)), ((rM 4), .inl (cy 0, 10, .inl M_place)), ((rM 5), .inl (cy 0, 10, .inl M_range)), ((rM 6), .inl (cy 0, 10, .inl M_voice)), ((rM 7), .inl (cy 0, 8, .inl M_kind)), ((rM 8), .inl (cy 0, 29, .inl M_now)), ((rM 9), .inl (cy 0, 29, .inl M_read)), ((rM 10), .inl (cy 0, 2, .inl M_status)), ((rM 11), .inl (cy 2, 10, .inl M_isFalse)), ((rM 12), .inl (cy 2, 200, .inl M_isMirage)), ((rM 13), .inl (cy 0, 500, .inl M_tape)), ((rM 0), .inl (cy 5, 5, .inr (.inr (.inr (.inr (fun i => some (ev (2 * (32 + i))))))))), ((rM 1), .inl (cy 5, 4, .inr (.inr (.inr (.inr (fun i => some (ev (2 * (37 + i)))))))))] → va_S A s.heap H locs → lv_has ls 4 [(0, .ref h0), (2, .int l2)] → W p l e R s m args below meth c H locs 0 0 QQ (F0 m 78 ls []) := by
    intro sM M_told M_isMirage kx97 hk78_97 nf78
    induction nf78 with
    | zero =>
      intro M_read l2 H locs ls h
      exact (show False from h).elim
    | succ nf78 ih78 =>
      intro M_read l2 H locs ls h hP hD hS hl
      refine lv_iload_n hx hb dX11_flat_78 rfl (lv_at hl 1 rfl) ?_
      refine lv_bipush (v := (29 : Int32)) hx hb dX11_flat_79 (by decide) ?_
      refine lv_icmp_ge (tgt := 97) hx hb dX11_flat_81 (by decide) (fun c81 => ?_) (fun c81 => ?_)
      · have h := h.1 c81
        exact hk78_97 M_read l2 _ _ _ h hP hD hS (lv_sub hl [0] rfl)
      · have h := h.2 c81
        refine lv_aload_n hx hb dX11_flat_84 rfl (lv_at hl 0 rfl) ?_
        refine gfX11_55 hx hb hts hown hK hP 0 rfl dX11_flat_85 ?_
        refine lv_iload_n hx hb dX11_flat_88 rfl (lv_at hl 1 rfl) ?_
        refine lv_iconst (v := (0 : Int32)) hx hb dX11_flat_89 (by decide) ?_
        obtain ⟨hin, h⟩ := h
        refine sti (k := l2.toNatClampNeg) (y := (0 : Int32)) hx hb hK hP hD hS 7 rfl hin rfl rfl dX11_flat_90 (fun M_read_90 eM_read_90 H locs hP hD hS => ?_)
        have h := h M_read_90 eM_read_90
        have hP : va_P D clsX [(h0, .inr (11, oX11 rM sM)), ((rM 3), .inl (cy 0, 14, .inl M_told)), ((rM 4), .inl (cy 0, 10, .inl M_place)), ((rM 5), .inl (cy 0, 10, .inl M_range)), ((rM 6), .inl (cy 0, 10, .inl M_voice)), ((rM 7), .inl (cy 0, 8, .inl M_kind)), ((rM 8), .inl (cy 0, 29, .inl M_now)), ((rM 9), .inl (cy 0, 29, .inl M_read_90)), ((rM 10), .inl (cy 0, 2, .inl M_status)), ((rM 11), .inl (cy 2, 10, .inl M_isFalse)), ((rM 12), .inl (cy 2, 200, .inl M_isMirage)), ((rM 13), .inl (cy 0, 500, .inl M_tape)), ((rM 0), .inl (cy 5, 5, .inr (.inr (.inr (.inr (fun i => some (ev (2 * (32 + i))))))))), ((rM 1), .inl (cy 5, 4, .inr (.inr (.inr (.inr (fun i => some (ev (2 * (37 + i)))))))))] H := hP
        have hD : va_D A [(h0, .inr (11, oX11 rM sM)), ((rM 3), .inl (cy 0, 14, .inl M_told)), ((rM 4), .inl (cy 0, 10, .inl M_place)), ((rM 5), .inl (cy 0, 10, .inl M_range)), ((rM 6), .inl (cy 0, 10, .inl M_voice)), ((rM 7), .inl (cy 0, 8, .inl M_kind)), ((rM 8), .inl (cy 0, 29, .inl M_now)), ((rM 9), .inl (cy 0, 29, .inl M_read_90)), ((rM 10), .inl (cy 0, 2, .inl M_status)), ((rM 11), .inl (cy 2, 10, .inl M_isFalse)), ((rM 12), .inl (cy 2, 200, .inl M_isMirage)), ((rM 13), .inl (cy 0, 500, .inl M_tape)), ((rM 0), .inl (cy 5, 5, .inr (.inr (.inr (.inr (fun i => some (ev (2 * (32 + i))))))))), ((rM 1), .inl (cy 5, 4, .inr (.inr (.inr (.inr (fun i => some (ev (2 * (37 + i)))))))))] := hD
        obtain ⟨l2_91, el2_91⟩ : ∃ y : Int32, y = l2 + (1 : Int32) := ⟨_, rfl⟩
        have h := h l2_91 el2_91
        refine lv_iinc (v := l2_91) (lv' := [(2, .int l2_91), (0, .ref h0)]) hx hb dX11_flat_91 hl (k := 1) rfl (by rw [el2_91]; rfl) (by decide) rfl (fun ls hl => ?_)
        refine lv_goto (tgt := 78) hx hb dX11_flat_94 (by decide) ?_
        exact ih78 M_read_90 l2_91 _ _ _ h hP hD hS (lv_sub hl [1, 0] rfl)
  have L54 : ∀ (sM : AR) (M_told : AR) (kx76 : AR → Int32 → Prop), (∀ (M_isMirage : AR) (l2 : Int32) (H : Heap) (locs : List Loc) (ls : Array Slot), kx76 M_isMirage l2 → va_P D clsX [(h0, .inr (11, oX11 rM sM)), ((rM 3), .inl (cy 0, 14, .inl M_told)), ((rM 4), .inl (cy 0, 10, .inl M_place)), ((rM 5), .inl (cy 0, 10, .inl M_range)), ((rM 6), .inl (cy 0, 10, .inl M_voice)), ((rM 7), .inl (cy 0, 8, .inl M_kind)), ((rM 8), .inl (cy 0, 29, .inl M_now)), ((rM 9), .inl (cy 0, 29, .inl M_read)), ((rM 10), .inl (cy 0, 2, .inl M_status)), ((rM 11), .inl (cy 2, 10, .inl M_isFalse)), ((rM 12), .inl (cy 2, 200, .inl M_isMirage)), ((rM 13), .inl (cy 0, 500, .inl M_tape)), ((rM 0), .inl (cy 5, 5, .inr (.inr (.inr (.inr (fun i => some (ev (2 * (32 + i))))))))), ((rM 1), .inl (cy 5, 4, .inr (.inr (.inr (.inr (fun i => some (ev (2 * (37 + i)))))))))] H → va_D A [(h0, .inr (11, oX11 rM sM)), ((rM 3), .inl (cy 0, 14, .inl M_told)), ((rM 4), .inl (cy 0, 10, .inl M_place)), ((rM 5), .inl (cy 0, 10, .inl M_range)), ((rM 6), .inl (cy 0, 10, .inl M_voice)), ((rM 7), .inl (cy 0, 8, .inl M_kind)), ((rM 8), .inl (cy 0, 29, .inl M_now)), ((rM 9), .inl (cy 0, 29, .inl M_read)), ((rM 10), .inl (cy 0, 2, .inl M_status)), ((rM 11), .inl (cy 2, 10, .inl M_isFalse)), ((rM 12), .inl (cy 2, 200, .inl M_isMirage)), ((rM 13), .inl (cy 0, 500, .inl M_tape)), ((rM 0), .inl (cy 5, 5, .inr (.inr (.inr (.inr (fun i => some (ev (2 * (32 + i))))))))), ((rM 1), .inl (cy 5, 4, .inr (.inr (.inr (.inr (fun i => some (ev (2 * (37 + i)))))))))] → va_S A s.heap H locs → lv_has ls 4 [(0, .ref h0)] → W p l e R s m args below meth c H locs 0 0 QQ (F0 m 76 ls [])) → ∀ (nf54 : Nat) (M_isMirage : AR) (l2 : Int32) (H : Heap) (locs : List Loc) (ls : Array Slot), wpX11_flat_L54 sM M_told M_place M_range M_voice M_kind M_now M_read M_status M_isFalse M_tape kx76 post nf54 M_isMirage l2 → va_P D clsX [(h0, .inr (11, oX11 rM sM)), ((rM 3), .inl (cy 0, 14, .inl M_told)), ((rM 4), .inl (cy 0, 10, .inl M_place)), ((rM 5), .inl (cy 0, 10, .inl M_range)), ((rM 6), .inl (cy 0, 10, .inl M_voice)), ((rM 7), .inl (cy 0, 8, .inl M_kind)), ((rM 8), .inl (cy 0, 29, .inl M_now)), ((rM 9), .inl (cy 0, 29, .inl M_read)), ((rM 10), .inl (cy 0, 2, .inl M_status)), ((rM 11), .inl (cy 2, 10, .inl M_isFalse)), ((rM 12), .inl (cy 2, 200, .inl M_isMirage)), ((rM 13), .inl (cy 0, 500, .inl M_tape)), ((rM 0), .inl (cy 5, 5, .inr (.inr (.inr (.inr (fun i => some (ev (2 * (32 + i))))))))), ((rM 1), .inl (cy 5, 4, .inr (.inr (.inr (.inr (fun i => some (ev (2 * (37 + i)))))))))] H → va_D A [(h0, .inr (11, oX11 rM sM)), ((rM 3), .inl (cy 0, 14, .inl M_told)), ((rM 4), .inl (cy 0, 10, .inl M_place)), ((rM 5), .inl (cy 0, 10, .inl M_range)), ((rM 6), .inl (cy 0, 10, .inl M_voice)), ((rM 7), .inl (cy 0, 8, .inl M_kind)), ((rM 8), .inl (cy 0, 29, .inl M_now)), ((rM 9), .inl (cy 0, 29, .inl M_read)), ((rM 10), .inl (cy 0, 2, .inl M_status)), ((rM 11), .inl (cy 2, 10, .inl M_isFalse)), ((rM 12), .inl (cy 2, 200, .inl M_isMirage)), ((rM 13), .inl (cy 0, 500, .inl M_tape)), ((rM 0), .inl (cy 5, 5, .inr (.inr (.inr (.inr (fun i => some (ev (2 * (32 + i))))))))), ((rM 1), .inl (cy 5, 4, .inr (.inr (.inr (.inr (fun i => some (ev (2 * (37 + i)))))))))] → va_S A s.heap H locs → lv_has ls 4 [(0, .ref h0), (2, .int l2)] → W p l e R s m args below meth c H locs 0 0 QQ (F0 m 54 ls []) := by
    intro sM M_told kx76 hk54_76 nf54
    induction nf54 with
    | zero =>
      intro M_isMirage l2 H locs ls h
      exact (show False from h).elim
    | succ nf54 ih54 =>
      intro M_isMirage l2 H locs ls h hP hD hS hl
      refine lv_iload_n hx hb dX11_flat_54 rfl (lv_at hl 1 rfl) ?_
      refine lv_bipush (v := (100 : Int32)) hx hb dX11_flat_55 (by decide) ?_
      refine lv_icmp_ge (tgt := 76) hx hb dX11_flat_57 (by decide) (fun c57 => ?_) (fun c57 => ?_)
      · have h := h.1 c57
        exact hk54_76 M_isMirage l2 _ _ _ h hP hD hS (lv_sub hl [0] rfl)
      · have h := h.2 c57
        refine lv_aload_n hx hb dX11_flat_60 rfl (lv_at hl 0 rfl) ?_
        refine gfX11_65 hx hb hts hown hK hP 0 rfl dX11_flat_61 ?_
        refine lv_bipush (v := (100 : Int32)) hx hb dX11_flat_64 (by decide) ?_
        refine lv_iload_n hx hb dX11_flat_66 rfl (lv_at hl 1 rfl) ?_
        refine lv_iadd hx hb dX11_flat_67 ?_
        refine lv_iconst (v := (0 : Int32)) hx hb dX11_flat_68 (by decide) ?_
        obtain ⟨hin, h⟩ := h
        refine stz (k := ((100 : Int32) + l2).toNatClampNeg) (y := (0 : Int32)) hx hb hK hP hD hS 10 rfl hin rfl (by decide) dX11_flat_69 (fun M_isMirage_69 eM_isMirage_69 H locs hP hD hS => ?_)
        have h := h M_isMirage_69 eM_isMirage_69
        have hP : va_P D clsX [(h0, .inr (11, oX11 rM sM)), ((rM 3), .inl (cy 0, 14, .inl M_told)), ((rM 4), .inl (cy 0, 10, .inl M_place)), ((rM 5), .inl (cy 0, 10, .inl M_range)), ((rM 6), .inl (cy 0, 10, .inl M_voice)), ((rM 7), .inl (cy 0, 8, .inl M_kind)), ((rM 8), .inl (cy 0, 29, .inl M_now)), ((rM 9), .inl (cy 0, 29, .inl M_read)), ((rM 10), .inl (cy 0, 2, .inl M_status)), ((rM 11), .inl (cy 2, 10, .inl M_isFalse)), ((rM 12), .inl (cy 2, 200, .inl M_isMirage_69)), ((rM 13), .inl (cy 0, 500, .inl M_tape)), ((rM 0), .inl (cy 5, 5, .inr (.inr (.inr (.inr (fun i => some (ev (2 * (32 + i))))))))), ((rM 1), .inl (cy 5, 4, .inr (.inr (.inr (.inr (fun i => some (ev (2 * (37 + i)))))))))] H := hP
        have hD : va_D A [(h0, .inr (11, oX11 rM sM)), ((rM 3), .inl (cy 0, 14, .inl M_told)), ((rM 4), .inl (cy 0, 10, .inl M_place)), ((rM 5), .inl (cy 0, 10, .inl M_range)), ((rM 6), .inl (cy 0, 10, .inl M_voice)), ((rM 7), .inl (cy 0, 8, .inl M_kind)), ((rM 8), .inl (cy 0, 29, .inl M_now)), ((rM 9), .inl (cy 0, 29, .inl M_read)), ((rM 10), .inl (cy 0, 2, .inl M_status)), ((rM 11), .inl (cy 2, 10, .inl M_isFalse)), ((rM 12), .inl (cy 2, 200, .inl M_isMirage_69)), ((rM 13), .inl (cy 0, 500, .inl M_tape)), ((rM 0), .inl (cy 5, 5, .inr (.inr (.inr (.inr (fun i => some (ev (2 * (32 + i))))))))), ((rM 1), .inl (cy 5, 4, .inr (.inr (.inr (.inr (fun i => some (ev (2 * (37 + i)))))))))] := hD
        obtain ⟨l2_70, el2_70⟩ : ∃ y : Int32, y = l2 + (1 : Int32) := ⟨_, rfl⟩
        have h := h l2_70 el2_70
        refine lv_iinc (v := l2_70) (lv' := [(2, .int l2_70), (0, .ref h0)]) hx hb dX11_flat_70 hl (k := 1) rfl (by rw [el2_70]; rfl) (by decide) rfl (fun ls hl => ?_)
        refine lv_goto (tgt := 54) hx hb dX11_flat_73 (by decide) ?_
        exact ih54 M_isMirage_69 l2_70 _ _ _ h hP hD hS (lv_sub hl [1, 0] rfl)
  have L22 : ∀ (sM : AR) (kx52 : AR → Int32 → Prop), (∀ (M_told : AR) (l2 : Int32) (H : Heap) (locs : List Loc) (ls : Array Slot), kx52 M_told l2 → va_P D clsX [(h0, .inr (11, oX11 rM sM)), ((rM 3), .inl (cy 0, 14, .inl M_told)), ((rM 4), .inl (cy 0, 10, .inl M_place)), ((rM 5), .inl (cy 0, 10, .inl M_range)), ((rM 6), .inl (cy 0, 10, .inl M_voice)), ((rM 7), .inl (cy 0, 8, .inl M_kind)), ((rM 8), .inl (cy 0, 29, .inl M_now)), ((rM 9), .inl (cy 0, 29, .inl M_read)), ((rM 10), .inl (cy 0, 2, .inl M_status)), ((rM 11), .inl (cy 2, 10, .inl M_isFalse)), ((rM 12), .inl (cy 2, 200, .inl M_isMirage)), ((rM 13), .inl (cy 0, 500, .inl M_tape)), ((rM 0), .inl (cy 5, 5, .inr (.inr (.inr (.inr (fun i => some (ev (2 * (32 + i))))))))), ((rM 1), .inl (cy 5, 4, .inr (.inr (.inr (.inr (fun i => some (ev (2 * (37 + i)))))))))] H → va_D A [(h0, .inr (11, oX11 rM sM)), ((rM 3), .inl (cy 0, 14, .inl M_told)), ((rM 4), .inl (cy 0, 10, .inl M_place)), ((rM 5), .inl (cy 0, 10, .inl M_range)), ((rM 6), .inl (cy 0, 10, .inl M_voice)), ((rM 7), .inl (cy 0, 8, .inl M_kind)), ((rM 8), .inl (cy 0, 29, .inl M_now)), ((rM 9), .inl (cy 0, 29, .inl M_read)), ((rM 10), .inl (cy 0, 2, .inl M_status)), ((rM 11), .inl (cy 2, 10, .inl M_isFalse)), ((rM 12), .inl (cy 2, 200, .inl M_isMirage)), ((rM 13), .inl (cy 0, 500, .inl M_tape)), ((rM 0), .inl (cy 5, 5, .inr (.inr (.inr (.inr (fun i => some (ev (2 * (32 + i))))))))), ((rM 1), .inl (cy 5, 4, .inr (.inr (.inr (.inr (fun i => some (ev (2 * (37 + i)))))))))] → va_S A s.heap H locs → lv_has ls 4 [(0, .ref h0)] → W p l e R s m args below meth c H locs 0 0 QQ (F0 m 52 ls [])) → ∀ (nf22 : Nat) (M_told : AR) (l2 : Int32) (H : Heap) (locs : List Loc) (ls : Array Slot), wpX11_flat_L22 sM M_place M_range M_voice M_kind M_now M_read M_status M_isFalse M_isMirage M_tape kx52 post nf22 M_told l2 → va_P D clsX [(h0, .inr (11, oX11 rM sM)), ((rM 3), .inl (cy 0, 14, .inl M_told)), ((rM 4), .inl (cy 0, 10, .inl M_place)), ((rM 5), .inl (cy 0, 10, .inl M_range)), ((rM 6), .inl (cy 0, 10, .inl M_voice)), ((rM 7), .inl (cy 0, 8, .inl M_kind)), ((rM 8), .inl (cy 0, 29, .inl M_now)), ((rM 9), .inl (cy 0, 29, .inl M_read)), ((rM 10), .inl (cy 0, 2, .inl M_status)), ((rM 11), .inl (cy 2, 10, .inl M_isFalse)), ((rM 12), .inl (cy 2, 200, .inl M_isMirage)), ((rM 13), .inl (cy 0, 500, .inl M_tape)), ((rM 0), .inl (cy 5, 5, .inr (.inr (.inr (.inr (fun i => some (ev (2 * (32 + i))))))))), ((rM 1), .inl (cy 5, 4, .inr (.inr (.inr (.inr (fun i => some (ev (2 * (37 + i)))))))))] H → va_D A [(h0, .inr (11, oX11 rM sM)), ((rM 3), .inl (cy 0, 14, .inl M_told)), ((rM 4), .inl (cy 0, 10, .inl M_place)), ((rM 5), .inl (cy 0, 10, .inl M_range)), ((rM 6), .inl (cy 0, 10, .inl M_voice)), ((rM 7), .inl (cy 0, 8, .inl M_kind)), ((rM 8), .inl (cy 0, 29, .inl M_now)), ((rM 9), .inl (cy 0, 29, .inl M_read)), ((rM 10), .inl (cy 0, 2, .inl M_status)), ((rM 11), .inl (cy 2, 10, .inl M_isFalse)), ((rM 12), .inl (cy 2, 200, .inl M_isMirage)), ((rM 13), .inl (cy 0, 500, .inl M_tape)), ((rM 0), .inl (cy 5, 5, .inr (.inr (.inr (.inr (fun i => some (ev (2 * (32 + i))))))))), ((rM 1), .inl (cy 5, 4, .inr (.inr (.inr (.inr (fun i => some (ev (2 * (37 + i)))))))))] → va_S A s.heap H locs → lv_has ls 4 [(0, .ref h0), (2, .int l2)] → W p l e R s m args below meth c H locs 0 0 QQ (F0 m 22 ls []) := by
    intro sM kx52 hk22_52 nf22
    induction nf22 with
    | zero =>
      intro M_told l2 H locs ls h
      exact (show False from h).elim
    | succ nf22 ih22 =>
      intro M_told l2 H locs ls h hP hD hS hl
      have J45 : ∀ (M_told : AR) (l2 : Int32) (t1 : Int32) (t2 : Int32) (H : Heap) (locs : List Loc) (ls : Array Slot), wpX11_flat_J45 sM M_told M_place M_range M_voice M_kind M_now M_read M_status M_isFalse M_isMirage M_tape l2 t1 t2 (fun b0 b1 => wpX11_flat_L22 sM M_place M_range M_voice M_kind M_now M_read M_status M_isFalse M_isMirage M_tape kx52 post nf22 b0 b1) kx52 post → va_P D clsX [(h0, .inr (11, oX11 rM sM)), ((rM 3), .inl (cy 0, 14, .inl M_told)), ((rM 4), .inl (cy 0, 10, .inl M_place)), ((rM 5), .inl (cy 0, 10, .inl M_range)), ((rM 6), .inl (cy 0, 10, .inl M_voice)), ((rM 7), .inl (cy 0, 8, .inl M_kind)), ((rM 8), .inl (cy 0, 29, .inl M_now)), ((rM 9), .inl (cy 0, 29, .inl M_read)), ((rM 10), .inl (cy 0, 2, .inl M_status)), ((rM 11), .inl (cy 2, 10, .inl M_isFalse)), ((rM 12), .inl (cy 2, 200, .inl M_isMirage)), ((rM 13), .inl (cy 0, 500, .inl M_tape)), ((rM 0), .inl (cy 5, 5, .inr (.inr (.inr (.inr (fun i => some (ev (2 * (32 + i))))))))), ((rM 1), .inl (cy 5, 4, .inr (.inr (.inr (.inr (fun i => some (ev (2 * (37 + i)))))))))] H → va_D A [(h0, .inr (11, oX11 rM sM)), ((rM 3), .inl (cy 0, 14, .inl M_told)), ((rM 4), .inl (cy 0, 10, .inl M_place)), ((rM 5), .inl (cy 0, 10, .inl M_range)), ((rM 6), .inl (cy 0, 10, .inl M_voice)), ((rM 7), .inl (cy 0, 8, .inl M_kind)), ((rM 8), .inl (cy 0, 29, .inl M_now)), ((rM 9), .inl (cy 0, 29, .inl M_read)), ((rM 10), .inl (cy 0, 2, .inl M_status)), ((rM 11), .inl (cy 2, 10, .inl M_isFalse)), ((rM 12), .inl (cy 2, 200, .inl M_isMirage)), ((rM 13), .inl (cy 0, 500, .inl M_tape)), ((rM 0), .inl (cy 5, 5, .inr (.inr (.inr (.inr (fun i => some (ev (2 * (32 + i))))))))), ((rM 1), .inl (cy 5, 4, .inr (.inr (.inr (.inr (fun i => some (ev (2 * (37 + i)))))))))] → va_S A s.heap H locs → lv_has ls 4 [(0, .ref h0), (2, .int l2)] → W p l e R s m args below meth c H locs 0 0 QQ (F0 m 45 ls [.int t2, .int t1, .ref (rM 3)]) := by
        intro M_told l2 t1 t2 H locs ls h hP hD hS hl
        obtain ⟨hin, h⟩ := h
        refine sti (k := t1.toNatClampNeg) (y := t2) hx hb hK hP hD hS 1 rfl hin rfl rfl dX11_flat_45 (fun M_told_45 eM_told_45 H locs hP hD hS => ?_)
        have h := h M_told_45 eM_told_45
        have hP : va_P D clsX [(h0, .inr (11, oX11 rM sM)), ((rM 3), .inl (cy 0, 14, .inl M_told_45)), ((rM 4), .inl (cy 0, 10, .inl M_place)), ((rM 5), .inl (cy 0, 10, .inl M_range)), ((rM 6), .inl (cy 0, 10, .inl M_voice)), ((rM 7), .inl (cy 0, 8, .inl M_kind)), ((rM 8), .inl (cy 0, 29, .inl M_now)), ((rM 9), .inl (cy 0, 29, .inl M_read)), ((rM 10), .inl (cy 0, 2, .inl M_status)), ((rM 11), .inl (cy 2, 10, .inl M_isFalse)), ((rM 12), .inl (cy 2, 200, .inl M_isMirage)), ((rM 13), .inl (cy 0, 500, .inl M_tape)), ((rM 0), .inl (cy 5, 5, .inr (.inr (.inr (.inr (fun i => some (ev (2 * (32 + i))))))))), ((rM 1), .inl (cy 5, 4, .inr (.inr (.inr (.inr (fun i => some (ev (2 * (37 + i)))))))))] H := hP
        have hD : va_D A [(h0, .inr (11, oX11 rM sM)), ((rM 3), .inl (cy 0, 14, .inl M_told_45)), ((rM 4), .inl (cy 0, 10, .inl M_place)), ((rM 5), .inl (cy 0, 10, .inl M_range)), ((rM 6), .inl (cy 0, 10, .inl M_voice)), ((rM 7), .inl (cy 0, 8, .inl M_kind)), ((rM 8), .inl (cy 0, 29, .inl M_now)), ((rM 9), .inl (cy 0, 29, .inl M_read)), ((rM 10), .inl (cy 0, 2, .inl M_status)), ((rM 11), .inl (cy 2, 10, .inl M_isFalse)), ((rM 12), .inl (cy 2, 200, .inl M_isMirage)), ((rM 13), .inl (cy 0, 500, .inl M_tape)), ((rM 0), .inl (cy 5, 5, .inr (.inr (.inr (.inr (fun i => some (ev (2 * (32 + i))))))))), ((rM 1), .inl (cy 5, 4, .inr (.inr (.inr (.inr (fun i => some (ev (2 * (37 + i)))))))))] := hD
        obtain ⟨l2_46, el2_46⟩ : ∃ y : Int32, y = l2 + (1 : Int32) := ⟨_, rfl⟩
        have h := h l2_46 el2_46
        refine lv_iinc (v := l2_46) (lv' := [(2, .int l2_46), (0, .ref h0)]) hx hb dX11_flat_46 hl (k := 1) rfl (by rw [el2_46]; rfl) (by decide) rfl (fun ls hl => ?_)
        refine lv_goto (tgt := 22) hx hb dX11_flat_49 (by decide) ?_
        exact ih22 M_told_45 l2_46 _ _ _ h hP hD hS (lv_sub hl [1, 0] rfl)
      refine lv_iload_n hx hb dX11_flat_22 rfl (lv_at hl 1 rfl) ?_
      refine lv_bipush (v := (14 : Int32)) hx hb dX11_flat_23 (by decide) ?_
      refine lv_icmp_ge (tgt := 52) hx hb dX11_flat_25 (by decide) (fun c25 => ?_) (fun c25 => ?_)
      · have h := h.1 c25
        exact hk22_52 M_told l2 _ _ _ h hP hD hS (lv_sub hl [0] rfl)
      · have h := h.2 c25
        refine lv_aload_n hx hb dX11_flat_28 rfl (lv_at hl 0 rfl) ?_
        refine gfX11_36 hx hb hts hown hK hP 0 rfl dX11_flat_29 ?_
        refine lv_iload_n hx hb dX11_flat_32 rfl (lv_at hl 1 rfl) ?_
        refine lv_iload_n hx hb dX11_flat_33 rfl (lv_at hl 1 rfl) ?_
        refine lv_bipush (v := (9 : Int32)) hx hb dX11_flat_34 (by decide) ?_
        refine lv_icmp_ge (tgt := 44) hx hb dX11_flat_36 (by decide) (fun c36 => ?_) (fun c36 => ?_)
        · have h := h.1 c36
          refine lv_iconst (v := (0 : Int32)) hx hb dX11_flat_44 (by decide) ?_
          exact J45 M_told l2 l2 (0 : Int32) _ _ _ h hP hD hS hl
        · have h := h.2 c36
          refine lv_bipush (v := (6 : Int32)) hx hb dX11_flat_39 (by decide) ?_
          refine lv_goto (tgt := 45) hx hb dX11_flat_41 (by decide) ?_
          exact J45 M_told l2 l2 (6 : Int32) _ _ _ h hP hD hS hl
  refine lv_aload_n hx hb dX11_flat_0 rfl (lv_at hl 0 rfl) ?_
  refine lv_iconst (v := (0 : Int32)) hx hb dX11_flat_1 (by decide) ?_
  refine pfX11_132 hx hb hts hown hK hP hD hS 0 rfl dX11_flat_2 (fun H locs hP hD hS => ?_)
  have hP : va_P D clsX [(h0, .inr (11, oX11 rM (upd sM 2 (0 : Int32)))), ((rM 3), .inl (cy 0, 14, .inl M_told)), ((rM 4), .inl (cy 0, 10, .inl M_place)), ((rM 5), .inl (cy 0, 10, .inl M_range)), ((rM 6), .inl (cy 0, 10, .inl M_voice)), ((rM 7), .inl (cy 0, 8, .inl M_kind)), ((rM 8), .inl (cy 0, 29, .inl M_now)), ((rM 9), .inl (cy 0, 29, .inl M_read)), ((rM 10), .inl (cy 0, 2, .inl M_status)), ((rM 11), .inl (cy 2, 10, .inl M_isFalse)), ((rM 12), .inl (cy 2, 200, .inl M_isMirage)), ((rM 13), .inl (cy 0, 500, .inl M_tape)), ((rM 0), .inl (cy 5, 5, .inr (.inr (.inr (.inr (fun i => some (ev (2 * (32 + i))))))))), ((rM 1), .inl (cy 5, 4, .inr (.inr (.inr (.inr (fun i => some (ev (2 * (37 + i)))))))))] H := hP
  have hD : va_D A [(h0, .inr (11, oX11 rM (upd sM 2 (0 : Int32)))), ((rM 3), .inl (cy 0, 14, .inl M_told)), ((rM 4), .inl (cy 0, 10, .inl M_place)), ((rM 5), .inl (cy 0, 10, .inl M_range)), ((rM 6), .inl (cy 0, 10, .inl M_voice)), ((rM 7), .inl (cy 0, 8, .inl M_kind)), ((rM 8), .inl (cy 0, 29, .inl M_now)), ((rM 9), .inl (cy 0, 29, .inl M_read)), ((rM 10), .inl (cy 0, 2, .inl M_status)), ((rM 11), .inl (cy 2, 10, .inl M_isFalse)), ((rM 12), .inl (cy 2, 200, .inl M_isMirage)), ((rM 13), .inl (cy 0, 500, .inl M_tape)), ((rM 0), .inl (cy 5, 5, .inr (.inr (.inr (.inr (fun i => some (ev (2 * (32 + i))))))))), ((rM 1), .inl (cy 5, 4, .inr (.inr (.inr (.inr (fun i => some (ev (2 * (37 + i)))))))))] := hD
  refine lv_aload_n hx hb dX11_flat_5 rfl (lv_at hl 0 rfl) ?_
  refine lv_iload_n hx hb dX11_flat_6 rfl (lv_at hl 1 rfl) ?_
  refine clVi (As := [.int x1]) (rest := []) (Wr := [((rM 3), .inl (cy 0, 14, .inl M_told)), ((rM 4), .inl (cy 0, 10, .inl M_place)), ((rM 5), .inl (cy 0, 10, .inl M_range)), ((rM 6), .inl (cy 0, 10, .inl M_voice)), ((rM 7), .inl (cy 0, 8, .inl M_kind)), ((rM 8), .inl (cy 0, 29, .inl M_now)), ((rM 9), .inl (cy 0, 29, .inl M_read)), ((rM 10), .inl (cy 0, 2, .inl M_status)), ((rM 11), .inl (cy 2, 10, .inl M_isFalse)), ((rM 12), .inl (cy 2, 200, .inl M_isMirage)), ((rM 0), .inl (cy 5, 5, .inr (.inr (.inr (.inr (fun i => some (ev (2 * (32 + i))))))))), ((rM 1), .inl (cy 5, 4, .inr (.inr (.inr (.inr (fun i => some (ev (2 * (37 + i)))))))))]) (cq := (RX11, TX11, 56)) ⟨hx, hb, hml, hown, hts⟩ ⟨callB_of 1 hts (goodC mw1354) rfl rfl rfl (hts _ (tb mw15)) (hts _ (tb mw1351)) kdX11_beginText ⟨Nat.le_trans (by decide) hRf, Nat.le_trans (by decide) hRl⟩, hts _ (tb mw1353), hts _ (tb ms38)⟩ (ctX11_beginText l D cy ev h0 rM (upd sM 2 (0 : Int32)) M_tape x1 _ _ h) hE hK hP hD hS hA [0, 11] [1, 2, 3, 4, 5, 6, 7, 8, 9, 10, 12, 13] rfl rfl (by decide) (by decide) (by decide) 0 rfl rfl rfl hl.1 rfl (Nat.le_of_ble_eq_true rfl) ⟨Nat.zero_le _, Nat.zero_le _⟩ dX11_flat_7 (fun r7 sM_7 H locs h hP hD hS => ?_)
  have hP : va_P D clsX [((rM 3), .inl (cy 0, 14, .inl M_told)), ((rM 4), .inl (cy 0, 10, .inl M_place)), ((rM 5), .inl (cy 0, 10, .inl M_range)), ((rM 6), .inl (cy 0, 10, .inl M_voice)), ((rM 7), .inl (cy 0, 8, .inl M_kind)), ((rM 8), .inl (cy 0, 29, .inl M_now)), ((rM 9), .inl (cy 0, 29, .inl M_read)), ((rM 10), .inl (cy 0, 2, .inl M_status)), ((rM 11), .inl (cy 2, 10, .inl M_isFalse)), ((rM 12), .inl (cy 2, 200, .inl M_isMirage)), ((rM 0), .inl (cy 5, 5, .inr (.inr (.inr (.inr (fun i => some (ev (2 * (32 + i))))))))), ((rM 1), .inl (cy 5, 4, .inr (.inr (.inr (.inr (fun i => some (ev (2 * (37 + i))))))))), (h0, .inr (11, oX11 rM sM_7)), ((rM 13), .inl (cy 0, 500, .inl M_tape))] H := hP
  have hD : va_D A [((rM 3), .inl (cy 0, 14, .inl M_told)), ((rM 4), .inl (cy 0, 10, .inl M_place)), ((rM 5), .inl (cy 0, 10, .inl M_range)), ((rM 6), .inl (cy 0, 10, .inl M_voice)), ((rM 7), .inl (cy 0, 8, .inl M_kind)), ((rM 8), .inl (cy 0, 29, .inl M_now)), ((rM 9), .inl (cy 0, 29, .inl M_read)), ((rM 10), .inl (cy 0, 2, .inl M_status)), ((rM 11), .inl (cy 2, 10, .inl M_isFalse)), ((rM 12), .inl (cy 2, 200, .inl M_isMirage)), ((rM 0), .inl (cy 5, 5, .inr (.inr (.inr (.inr (fun i => some (ev (2 * (32 + i))))))))), ((rM 1), .inl (cy 5, 4, .inr (.inr (.inr (.inr (fun i => some (ev (2 * (37 + i))))))))), (h0, .inr (11, oX11 rM sM_7)), ((rM 13), .inl (cy 0, 500, .inl M_tape))] := hD
  refine lv_if_ne (tgt := 19) hx hb dX11_flat_10 (by decide) (fun c10 => ?_) (fun c10 => ?_)
  · have h := h.1 c10
    refine lv_bipush (v := (7 : Int32)) hx hb dX11_flat_19 (by decide) ?_
    refine lv_istore_n (lv' := [(2, .int (7 : Int32)), (0, .ref h0), (1, .int x1)]) hx hb dX11_flat_21 rfl hl (by decide) rfl (fun ls hl => ?_)
    obtain ⟨nf22, h⟩ := h
    refine L22 sM_7 _ (fun M_told_52 l2_52 H locs ls h hP hD hS hl => ?_) nf22 M_told (7 : Int32) _ _ _ h (hP.sub [12, 0, 1, 2, 3, 4, 5, 6, 7, 8, 9, 13, 10, 11] rfl) (hD.sub [12, 0, 1, 2, 3, 4, 5, 6, 7, 8, 9, 13, 10, 11] (by decide) rfl) hS (lv_sub hl [1, 0] rfl)
    refine lv_iconst (v := (0 : Int32)) hx hb dX11_flat_52 (by decide) ?_
    refine lv_istore_n (lv' := [(2, .int (0 : Int32)), (0, .ref h0)]) hx hb dX11_flat_53 rfl hl (by decide) rfl (fun ls hl => ?_)
    obtain ⟨nf54, h⟩ := h
    refine L54 sM_7 M_told_52 _ (fun M_isMirage_76 l2_76 H locs ls h hP hD hS hl => ?_) nf54 M_isMirage (0 : Int32) _ _ _ h hP hD hS (lv_sub hl [1, 0] rfl)
    refine lv_iconst (v := (0 : Int32)) hx hb dX11_flat_76 (by decide) ?_
    refine lv_istore_n (lv' := [(2, .int (0 : Int32)), (0, .ref h0)]) hx hb dX11_flat_77 rfl hl (by decide) rfl (fun ls hl => ?_)
    obtain ⟨nf78, h⟩ := h
    refine L78 sM_7 M_told_52 M_isMirage_76 _ (fun M_read_97 l2_97 H locs ls h hP hD hS hl => ?_) nf78 M_read (0 : Int32) _ _ _ h hP hD hS (lv_sub hl [1, 0] rfl)
    refine lv_iconst (v := (0 : Int32)) hx hb dX11_flat_97 (by decide) ?_
    refine lv_istore_n (lv' := [(2, .int (0 : Int32)), (0, .ref h0)]) hx hb dX11_flat_98 rfl hl (by decide) rfl (fun ls hl => ?_)
    obtain ⟨nf99, h⟩ := h
    refine L99  _ (fun sM_122 M_told_122 M_place_122 M_range_122 M_voice_122 M_kind_122 M_read_122 M_isFalse_122 M_isMirage_122 l2_122 H locs ls h hP hD hS hl => ?_) nf99 sM_7 M_told_52 M_place M_range M_voice M_kind M_read_97 M_isFalse M_isMirage_76 (0 : Int32) _ _ _ h hP hD hS (lv_sub hl [1, 0] rfl)
    exact J122 sM_122 M_told_122 M_place_122 M_range_122 M_voice_122 M_kind_122 M_read_122 M_isFalse_122 M_isMirage_122 _ _ _ h hP hD hS hl
  · have h := h.2 c10
    refine lv_aload_n hx hb dX11_flat_13 rfl (lv_at hl 0 rfl) ?_
    refine lv_iconst (v := (1 : Int32)) hx hb dX11_flat_14 (by decide) ?_
    refine clVi (As := [.int (1 : Int32)]) (rest := []) (Wr := [((rM 3), .inl (cy 0, 14, .inl M_told)), ((rM 4), .inl (cy 0, 10, .inl M_place)), ((rM 5), .inl (cy 0, 10, .inl M_range)), ((rM 6), .inl (cy 0, 10, .inl M_voice)), ((rM 7), .inl (cy 0, 8, .inl M_kind)), ((rM 8), .inl (cy 0, 29, .inl M_now)), ((rM 9), .inl (cy 0, 29, .inl M_read)), ((rM 10), .inl (cy 0, 2, .inl M_status)), ((rM 11), .inl (cy 2, 10, .inl M_isFalse)), ((rM 12), .inl (cy 2, 200, .inl M_isMirage)), ((rM 0), .inl (cy 5, 5, .inr (.inr (.inr (.inr (fun i => some (ev (2 * (32 + i))))))))), ((rM 1), .inl (cy 5, 4, .inr (.inr (.inr (.inr (fun i => some (ev (2 * (37 + i))))))))), ((rM 13), .inl (cy 0, 500, .inl M_tape))]) (cq := (RX11, TX11, 56)) ⟨hx, hb, hml, hown, hts⟩ ⟨callB_of 1 hts (goodC mw1373) rfl rfl rfl (hts _ (tb mw15)) (hts _ (tb mw1370)) kdX11_fail ⟨Nat.le_trans (by decide) hRf, Nat.le_trans (by decide) hRl⟩, hts _ (tb mw1372), hts _ (tb ms41)⟩ (ctX11_fail l D cy ev h0 rM sM_7 (1 : Int32) _ _ h) hE hK hP hD hS hA [12] [0, 1, 2, 3, 4, 5, 6, 7, 8, 9, 10, 11, 13] rfl rfl (by decide) (by decide) (by decide) 0 rfl rfl rfl hl.1 rfl (Nat.le_of_ble_eq_true rfl) ⟨Nat.zero_le _, Nat.zero_le _⟩ dX11_flat_15 (fun r15 sM_15 H locs h hP hD hS => ?_)
    have hP : va_P D clsX [((rM 3), .inl (cy 0, 14, .inl M_told)), ((rM 4), .inl (cy 0, 10, .inl M_place)), ((rM 5), .inl (cy 0, 10, .inl M_range)), ((rM 6), .inl (cy 0, 10, .inl M_voice)), ((rM 7), .inl (cy 0, 8, .inl M_kind)), ((rM 8), .inl (cy 0, 29, .inl M_now)), ((rM 9), .inl (cy 0, 29, .inl M_read)), ((rM 10), .inl (cy 0, 2, .inl M_status)), ((rM 11), .inl (cy 2, 10, .inl M_isFalse)), ((rM 12), .inl (cy 2, 200, .inl M_isMirage)), ((rM 0), .inl (cy 5, 5, .inr (.inr (.inr (.inr (fun i => some (ev (2 * (32 + i))))))))), ((rM 1), .inl (cy 5, 4, .inr (.inr (.inr (.inr (fun i => some (ev (2 * (37 + i))))))))), ((rM 13), .inl (cy 0, 500, .inl M_tape)), (h0, .inr (11, oX11 rM sM_15))] H := hP
    have hD : va_D A [((rM 3), .inl (cy 0, 14, .inl M_told)), ((rM 4), .inl (cy 0, 10, .inl M_place)), ((rM 5), .inl (cy 0, 10, .inl M_range)), ((rM 6), .inl (cy 0, 10, .inl M_voice)), ((rM 7), .inl (cy 0, 8, .inl M_kind)), ((rM 8), .inl (cy 0, 29, .inl M_now)), ((rM 9), .inl (cy 0, 29, .inl M_read)), ((rM 10), .inl (cy 0, 2, .inl M_status)), ((rM 11), .inl (cy 2, 10, .inl M_isFalse)), ((rM 12), .inl (cy 2, 200, .inl M_isMirage)), ((rM 0), .inl (cy 5, 5, .inr (.inr (.inr (.inr (fun i => some (ev (2 * (32 + i))))))))), ((rM 1), .inl (cy 5, 4, .inr (.inr (.inr (.inr (fun i => some (ev (2 * (37 + i))))))))), ((rM 13), .inl (cy 0, 500, .inl M_tape)), (h0, .inr (11, oX11 rM sM_15))] := hD
    exact hret r15 (sM_15, M_told, M_place, M_range, M_voice, M_kind, M_now, M_read, M_status, M_isFalse, M_isMirage) _ _ _ _ rfl dX11_flat_18 h (hP.sub [13, 0, 1, 2, 3, 4, 5, 6, 7, 8, 9, 12, 10, 11] rfl) (hD.sub [13, 0, 1, 2, 3, 4, 5, 6, 7, 8, 9, 12, 10, 11] (by decide) rfl) hS
