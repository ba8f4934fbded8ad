theorem dJ7_fill_53178_0 : decode cJ7_fill_53178 0 = .ok (.iconst 0, 1) := by decide +kernel
theorem dJ7_fill_53178_1 : decode cJ7_fill_53178 1 = .ok (.istore_n 2, 1) := by decide +kernel
theorem dJ7_fill_53178_2 : decode cJ7_fill_53178 2 = .ok (.aload_n 0, 1) := by decide +kernel
theorem dJ7_fill_53178_3 : decode cJ7_fill_53178 3 = .ok (.arraylength, 1) := by decide +kernel
theorem dJ7_fill_53178_4 : decode cJ7_fill_53178 4 = .ok (.istore_n 3, 1) := by decide +kernel
theorem dJ7_fill_53178_5 : decode cJ7_fill_53178 5 = .ok (.iload_n 2, 1) := by decide +kernel
theorem dJ7_fill_53178_6 : decode cJ7_fill_53178 6 = .ok (.iload_n 3, 1) := by decide +kernel
theorem dJ7_fill_53178_7 : decode cJ7_fill_53178 7 = .ok (.if_icmp .ge 13, 3) := by decide +kernel
theorem dJ7_fill_53178_10 : decode cJ7_fill_53178 10 = .ok (.aload_n 0, 1) := by decide +kernel
theorem dJ7_fill_53178_11 : decode cJ7_fill_53178 11 = .ok (.iload_n 2, 1) := by decide +kernel
theorem dJ7_fill_53178_12 : decode cJ7_fill_53178 12 = .ok (.iload_n 1, 1) := by decide +kernel
theorem dJ7_fill_53178_13 : decode cJ7_fill_53178 13 = .ok (.iastore, 1) := by decide +kernel
theorem dJ7_fill_53178_14 : decode cJ7_fill_53178 14 = .ok (.iinc 2 1, 3) := by decide +kernel
theorem dJ7_fill_53178_17 : decode cJ7_fill_53178 17 = .ok (.goto (-12), 3) := by decide +kernel
theorem dJ7_fill_53178_20 : decode cJ7_fill_53178 20 = .ok (.return_, 1) := by decide +kernel
theorem dX1_listenAt_0 : decode cX1_listenAt 0 = .ok (.iconst 0, 1) := by decide +kernel
theorem dX1_listenAt_1 : decode cX1_listenAt 1 = .ok (.istore_n 3, 1) := by decide +kernel
theorem dX1_listenAt_2 : decode cX1_listenAt 2 = .ok (.aload_n 0, 1) := by decide +kernel
theorem dX1_listenAt_3 : decode cX1_listenAt 3 = .ok (.getfield 15, 3) := by decide +kernel
theorem dX1_listenAt_6 : decode cX1_listenAt 6 = .ok (.iload_n 2, 1) := by decide +kernel
theorem dX1_listenAt_7 : decode cX1_listenAt 7 = .ok (.iconst (-1), 1) := by decide +kernel
theorem dX1_listenAt_8 : decode cX1_listenAt 8 = .ok (.bastore, 1) := by decide +kernel
theorem dX1_listenAt_9 : decode cX1_listenAt 9 = .ok (.iconst 0, 1) := by decide +kernel
theorem dX1_listenAt_10 : decode cX1_listenAt 10 = .ok (.istore 4, 2) := by decide +kernel
theorem dX1_listenAt_12 : decode cX1_listenAt 12 = .ok (.iload 4, 2) := by decide +kernel
theorem dX1_listenAt_14 : decode cX1_listenAt 14 = .ok (.aload_n 1, 1) := by decide +kernel
theorem dX1_listenAt_15 : decode cX1_listenAt 15 = .ok (.getfield 34, 3) := by decide +kernel
theorem dX1_listenAt_18 : decode cX1_listenAt 18 = .ok (.if_icmp .ge 140, 3) := by decide +kernel
theorem dX1_listenAt_21 : decode cX1_listenAt 21 = .ok (.aload_n 0, 1) := by decide +kernel
theorem dX1_listenAt_22 : decode cX1_listenAt 22 = .ok (.getfield 18, 3) := by decide +kernel
theorem dX1_listenAt_25 : decode cX1_listenAt 25 = .ok (.iload 4, 2) := by decide +kernel
theorem dX1_listenAt_27 : decode cX1_listenAt 27 = .ok (.aload_n 1, 1) := by decide +kernel
theorem dX1_listenAt_28 : decode cX1_listenAt 28 = .ok (.iload 4, 2) := by decide +kernel
theorem dX1_listenAt_30 : decode cX1_listenAt 30 = .ok (.iload_n 2, 1) := by decide +kernel
theorem dX1_listenAt_31 : decode cX1_listenAt 31 = .ok (.invokevirtual 57, 3) := by decide +kernel
theorem dX1_listenAt_34 : decode cX1_listenAt 34 = .ok (.iastore, 1) := by decide +kernel
theorem dX1_listenAt_35 : decode cX1_listenAt 35 = .ok (.aload_n 1, 1) := by decide +kernel
theorem dX1_listenAt_36 : decode cX1_listenAt 36 = .ok (.iload 4, 2) := by decide +kernel
theorem dX1_listenAt_38 : decode cX1_listenAt 38 = .ok (.iload_n 2, 1) := by decide +kernel
theorem dX1_listenAt_39 : decode cX1_listenAt 39 = .ok (.invokevirtual 60, 3) := by decide +kernel
theorem dX1_listenAt_42 : decode cX1_listenAt 42 = .ok (.istore 5, 2) := by decide +kernel
theorem dX1_listenAt_44 : decode cX1_listenAt 44 = .ok (.iload 5, 2) := by decide +kernel
theorem dX1_listenAt_46 : decode cX1_listenAt 46 = .ok (.ifCond .eq 10, 3) := by decide +kernel
theorem dX1_listenAt_49 : decode cX1_listenAt 49 = .ok (.iload_n 3, 1) := by decide +kernel
theorem dX1_listenAt_50 : decode cX1_listenAt 50 = .ok (.iconst 1, 1) := by decide +kernel
theorem dX1_listenAt_51 : decode cX1_listenAt 51 = .ok (.iload 4, 2) := by decide +kernel
theorem dX1_listenAt_53 : decode cX1_listenAt 53 = .ok (.ishl, 1) := by decide +kernel
theorem dX1_listenAt_54 : decode cX1_listenAt 54 = .ok (.ior, 1) := by decide +kernel
theorem dX1_listenAt_55 : decode cX1_listenAt 55 = .ok (.istore_n 3, 1) := by decide +kernel
theorem dX1_listenAt_56 : decode cX1_listenAt 56 = .ok (.iconst 0, 1) := by decide +kernel
theorem dX1_listenAt_57 : decode cX1_listenAt 57 = .ok (.istore 6, 2) := by decide +kernel
theorem dX1_listenAt_59 : decode cX1_listenAt 59 = .ok (.iload 6, 2) := by decide +kernel
theorem dX1_listenAt_61 : decode cX1_listenAt 61 = .ok (.iconst 1, 1) := by decide +kernel
theorem dX1_listenAt_62 : decode cX1_listenAt 62 = .ok (.iload 4, 2) := by decide +kernel
theorem dX1_listenAt_64 : decode cX1_listenAt 64 = .ok (.ishl, 1) := by decide +kernel
theorem dX1_listenAt_65 : decode cX1_listenAt 65 = .ok (.if_icmp .ge 87, 3) := by decide +kernel
theorem dX1_listenAt_68 : decode cX1_listenAt 68 = .ok (.aload_n 0, 1) := by decide +kernel
theorem dX1_listenAt_69 : decode cX1_listenAt 69 = .ok (.getfield 15, 3) := by decide +kernel
theorem dX1_listenAt_72 : decode cX1_listenAt 72 = .ok (.iload 6, 2) := by decide +kernel
theorem dX1_listenAt_74 : decode cX1_listenAt 74 = .ok (.bipush 100, 2) := by decide +kernel
theorem dX1_listenAt_76 : decode cX1_listenAt 76 = .ok (.imul, 1) := by decide +kernel
theorem dX1_listenAt_77 : decode cX1_listenAt 77 = .ok (.iload_n 2, 1) := by decide +kernel
theorem dX1_listenAt_78 : decode cX1_listenAt 78 = .ok (.iadd, 1) := by decide +kernel
theorem dX1_listenAt_79 : decode cX1_listenAt 79 = .ok (.baload, 1) := by decide +kernel
theorem dX1_listenAt_80 : decode cX1_listenAt 80 = .ok (.istore 7, 2) := by decide +kernel
theorem dX1_listenAt_82 : decode cX1_listenAt 82 = .ok (.iload 5, 2) := by decide +kernel
theorem dX1_listenAt_84 : decode cX1_listenAt 84 = .ok (.ifCond .eq 29, 3) := by decide +kernel
theorem dX1_listenAt_87 : decode cX1_listenAt 87 = .ok (.iload 7, 2) := by decide +kernel
theorem dX1_listenAt_89 : decode cX1_listenAt 89 = .ok (.ifCond .lt 20, 3) := by decide +kernel
theorem dX1_listenAt_92 : decode cX1_listenAt 92 = .ok (.aload_n 0, 1) := by decide +kernel
theorem dX1_listenAt_93 : decode cX1_listenAt 93 = .ok (.getfield 18, 3) := by decide +kernel
theorem dX1_listenAt_96 : decode cX1_listenAt 96 = .ok (.iload 4, 2) := by decide +kernel
theorem dX1_listenAt_98 : decode cX1_listenAt 98 = .ok (.iaload, 1) := by decide +kernel
theorem dX1_listenAt_99 : decode cX1_listenAt 99 = .ok (.aload_n 0, 1) := by decide +kernel
theorem dX1_listenAt_100 : decode cX1_listenAt 100 = .ok (.getfield 18, 3) := by decide +kernel
theorem dX1_listenAt_103 : decode cX1_listenAt 103 = .ok (.iload 7, 2) := by decide +kernel
theorem dX1_listenAt_105 : decode cX1_listenAt 105 = .ok (.iaload, 1) := by decide +kernel
theorem dX1_listenAt_106 : decode cX1_listenAt 106 = .ok (.if_icmp .ge 7, 3) := by decide +kernel
theorem dX1_listenAt_109 : decode cX1_listenAt 109 = .ok (.iconst 1, 1) := by decide +kernel
theorem dX1_listenAt_110 : decode cX1_listenAt 110 = .ok (.goto 4, 3) := by decide +kernel
theorem dX1_listenAt_113 : decode cX1_listenAt 113 = .ok (.iconst 0, 1) := by decide +kernel
theorem dX1_listenAt_114 : decode cX1_listenAt 114 = .ok (.istore 8, 2) := by decide +kernel
theorem dX1_listenAt_116 : decode cX1_listenAt 116 = .ok (.aload_n 0, 1) := by decide +kernel
theorem dX1_listenAt_117 : decode cX1_listenAt 117 = .ok (.getfield 15, 3) := by decide +kernel
theorem dX1_listenAt_120 : decode cX1_listenAt 120 = .ok (.iload 6, 2) := by decide +kernel
theorem dX1_listenAt_122 : decode cX1_listenAt 122 = .ok (.iconst 1, 1) := by decide +kernel
theorem dX1_listenAt_123 : decode cX1_listenAt 123 = .ok (.iload 4, 2) := by decide +kernel
theorem dX1_listenAt_125 : decode cX1_listenAt 125 = .ok (.ishl, 1) := by decide +kernel
theorem dX1_listenAt_126 : decode cX1_listenAt 126 = .ok (.iadd, 1) := by decide +kernel
theorem dX1_listenAt_127 : decode cX1_listenAt 127 = .ok (.bipush 100, 2) := by decide +kernel
theorem dX1_listenAt_129 : decode cX1_listenAt 129 = .ok (.imul, 1) := by decide +kernel
theorem dX1_listenAt_130 : decode cX1_listenAt 130 = .ok (.iload_n 2, 1) := by decide +kernel
theorem dX1_listenAt_131 : decode cX1_listenAt 131 = .ok (.iadd, 1) := by decide +kernel
theorem dX1_listenAt_132 : decode cX1_listenAt 132 = .ok (.iload 8, 2) := by decide +kernel
theorem dX1_listenAt_134 : decode cX1_listenAt 134 = .ok (.ifCond .eq 8, 3) := by decide +kernel
theorem dX1_listenAt_137 : decode cX1_listenAt 137 = .ok (.iload 4, 2) := by decide +kernel
theorem dX1_listenAt_139 : decode cX1_listenAt 139 = .ok (.goto 5, 3) := by decide +kernel
theorem dX1_listenAt_142 : decode cX1_listenAt 142 = .ok (.iload 7, 2) := by decide +kernel
theorem dX1_listenAt_144 : decode cX1_listenAt 144 = .ok (.i2b, 1) := by decide +kernel
theorem dX1_listenAt_145 : decode cX1_listenAt 145 = .ok (.bastore, 1) := by decide +kernel
theorem dX1_listenAt_146 : decode cX1_listenAt 146 = .ok (.iinc 6 1, 3) := by decide +kernel
theorem dX1_listenAt_149 : decode cX1_listenAt 149 = .ok (.goto (-90), 3) := by decide +kernel
theorem dX1_listenAt_152 : decode cX1_listenAt 152 = .ok (.iinc 4 1, 3) := by decide +kernel
theorem dX1_listenAt_155 : decode cX1_listenAt 155 = .ok (.goto (-143), 3) := by decide +kernel
theorem dX1_listenAt_158 : decode cX1_listenAt 158 = .ok (.aload_n 0, 1) := by decide +kernel
theorem dX1_listenAt_159 : decode cX1_listenAt 159 = .ok (.getfield 9, 3) := by decide +kernel
theorem dX1_listenAt_162 : decode cX1_listenAt 162 = .ok (.iload_n 2, 1) := by decide +kernel
theorem dX1_listenAt_163 : decode cX1_listenAt 163 = .ok (.iload_n 3, 1) := by decide +kernel
theorem dX1_listenAt_164 : decode cX1_listenAt 164 = .ok (.i2b, 1) := by decide +kernel
theorem dX1_listenAt_165 : decode cX1_listenAt 165 = .ok (.bastore, 1) := by decide +kernel
theorem dX1_listenAt_166 : decode cX1_listenAt 166 = .ok (.return_, 1) := by decide +kernel
theorem dX1_listen_0 : decode cX1_listen 0 = .ok (.aload_n 0, 1) := by decide +kernel
theorem dX1_listen_1 : decode cX1_listen 1 = .ok (.getfield 22, 3) := by decide +kernel
theorem dX1_listen_4 : decode cX1_listen 4 = .ok (.iconst 0, 1) := by decide +kernel
theorem dX1_listen_5 : decode cX1_listen 5 = .ok (.invokestatic 28, 3) := by decide +kernel
theorem dX1_listen_8 : decode cX1_listen 8 = .ok (.iconst 0, 1) := by decide +kernel
theorem dX1_listen_9 : decode cX1_listen 9 = .ok (.istore_n 2, 1) := by decide +kernel
theorem dX1_listen_10 : decode cX1_listen 10 = .ok (.iload_n 2, 1) := by decide +kernel
theorem dX1_listen_11 : decode cX1_listen 11 = .ok (.aload_n 1, 1) := by decide +kernel
theorem dX1_listen_12 : decode cX1_listen 12 = .ok (.getfield 34, 3) := by decide +kernel
theorem dX1_listen_15 : decode cX1_listen 15 = .ok (.if_icmp .ge 26, 3) := by decide +kernel
theorem dX1_listen_18 : decode cX1_listen 18 = .ok (.aload_n 0, 1) := by decide +kernel
theorem dX1_listen_19 : decode cX1_listen 19 = .ok (.getfield 22, 3) := by decide +kernel
theorem dX1_listen_22 : decode cX1_listen 22 = .ok (.aload_n 1, 1) := by decide +kernel
theorem dX1_listen_23 : decode cX1_listen 23 = .ok (.getfield 40, 3) := by decide +kernel
theorem dX1_listen_26 : decode cX1_listen 26 = .ok (.iload_n 2, 1) := by decide +kernel
theorem dX1_listen_27 : decode cX1_listen 27 = .ok (.iaload, 1) := by decide +kernel
theorem dX1_listen_28 : decode cX1_listen 28 = .ok (.dup2, 1) := by decide +kernel
theorem dX1_listen_29 : decode cX1_listen 29 = .ok (.iaload, 1) := by decide +kernel
theorem dX1_listen_30 : decode cX1_listen 30 = .ok (.iconst 1, 1) := by decide +kernel
theorem dX1_listen_31 : decode cX1_listen 31 = .ok (.iload_n 2, 1) := by decide +kernel
theorem dX1_listen_32 : decode cX1_listen 32 = .ok (.ishl, 1) := by decide +kernel
theorem dX1_listen_33 : decode cX1_listen 33 = .ok (.ior, 1) := by decide +kernel
theorem dX1_listen_34 : decode cX1_listen 34 = .ok (.iastore, 1) := by decide +kernel
theorem dX1_listen_35 : decode cX1_listen 35 = .ok (.iinc 2 1, 3) := by decide +kernel
theorem dX1_listen_38 : decode cX1_listen 38 = .ok (.goto (-28), 3) := by decide +kernel
theorem dX1_listen_41 : decode cX1_listen 41 = .ok (.iconst 0, 1) := by decide +kernel
theorem dX1_listen_42 : decode cX1_listen 42 = .ok (.istore_n 2, 1) := by decide +kernel
theorem dX1_listen_43 : decode cX1_listen 43 = .ok (.iload_n 2, 1) := by decide +kernel
theorem dX1_listen_44 : decode cX1_listen 44 = .ok (.aload_n 1, 1) := by decide +kernel
theorem dX1_listen_45 : decode cX1_listen 45 = .ok (.getfield 34, 3) := by decide +kernel
theorem dX1_listen_48 : decode cX1_listen 48 = .ok (.if_icmp .ge 26, 3) := by decide +kernel
theorem dX1_listen_51 : decode cX1_listen 51 = .ok (.aload_n 0, 1) := by decide +kernel
theorem dX1_listen_52 : decode cX1_listen 52 = .ok (.getfield 25, 3) := by decide +kernel
theorem dX1_listen_55 : decode cX1_listen 55 = .ok (.iload_n 2, 1) := by decide +kernel
theorem dX1_listen_56 : decode cX1_listen 56 = .ok (.aload_n 0, 1) := by decide +kernel
theorem dX1_listen_57 : decode cX1_listen 57 = .ok (.getfield 22, 3) := by decide +kernel
theorem dX1_listen_60 : decode cX1_listen 60 = .ok (.aload_n 1, 1) := by decide +kernel
theorem dX1_listen_61 : decode cX1_listen 61 = .ok (.getfield 40, 3) := by decide +kernel
theorem dX1_listen_64 : decode cX1_listen 64 = .ok (.iload_n 2, 1) := by decide +kernel
theorem dX1_listen_65 : decode cX1_listen 65 = .ok (.iaload, 1) := by decide +kernel
theorem dX1_listen_66 : decode cX1_listen 66 = .ok (.iaload, 1) := by decide +kernel
theorem dX1_listen_67 : decode cX1_listen 67 = .ok (.iastore, 1) := by decide +kernel
theorem dX1_listen_68 : decode cX1_listen 68 = .ok (.iinc 2 1, 3) := by decide +kernel
theorem dX1_listen_71 : decode cX1_listen 71 = .ok (.goto (-28), 3) := by decide +kernel
theorem dX1_listen_74 : decode cX1_listen 74 = .ok (.aload_n 1, 1) := by decide +kernel
theorem dX1_listen_75 : decode cX1_listen 75 = .ok (.invokevirtual 43, 3) := by decide +kernel
theorem dX1_listen_78 : decode cX1_listen 78 = .ok (.bipush 100, 2) := by decide +kernel
theorem dX1_listen_80 : decode cX1_listen 80 = .ok (.invokestatic 47, 3) := by decide +kernel
theorem dX1_listen_83 : decode cX1_listen 83 = .ok (.istore_n 2, 1) := by decide +kernel
theorem dX1_listen_84 : decode cX1_listen 84 = .ok (.iconst 0, 1) := by decide +kernel
theorem dX1_listen_85 : decode cX1_listen 85 = .ok (.istore_n 3, 1) := by decide +kernel
theorem dX1_listen_86 : decode cX1_listen 86 = .ok (.iload_n 3, 1) := by decide +kernel
theorem dX1_listen_87 : decode cX1_listen 87 = .ok (.iload_n 2, 1) := by decide +kernel
theorem dX1_listen_88 : decode cX1_listen 88 = .ok (.if_icmp .ge 15, 3) := by decide +kernel
theorem dX1_listen_91 : decode cX1_listen 91 = .ok (.aload_n 0, 1) := by decide +kernel
theorem dX1_listen_92 : decode cX1_listen 92 = .ok (.aload_n 1, 1) := by decide +kernel
theorem dX1_listen_93 : decode cX1_listen 93 = .ok (.iload_n 3, 1) := by decide +kernel
theorem dX1_listen_94 : decode cX1_listen 94 = .ok (.invokevirtual 53, 3) := by decide +kernel
theorem dX1_listen_97 : decode cX1_listen 97 = .ok (.iinc 3 1, 3) := by decide +kernel
theorem dX1_listen_100 : decode cX1_listen 100 = .ok (.goto (-14), 3) := by decide +kernel
theorem dX1_listen_103 : decode cX1_listen 103 = .ok (.return_, 1) := by decide +kernel
theorem dX1_nearestOf_0 : decode cX1_nearestOf 0 = .ok (.aload_n 0, 1) := by decide +kernel
theorem dX1_nearestOf_1 : decode cX1_nearestOf 1 = .ok (.getfield 15, 3) := by decide +kernel
theorem dX1_nearestOf_4 : decode cX1_nearestOf 4 = .ok (.iload_n 1, 1) := by decide +kernel
theorem dX1_nearestOf_5 : decode cX1_nearestOf 5 = .ok (.bipush 100, 2) := by decide +kernel
theorem dX1_nearestOf_7 : decode cX1_nearestOf 7 = .ok (.imul, 1) := by decide +kernel
theorem dX1_nearestOf_8 : decode cX1_nearestOf 8 = .ok (.iload_n 2, 1) := by decide +kernel
theorem dX1_nearestOf_9 : decode cX1_nearestOf 9 = .ok (.iadd, 1) := by decide +kernel
theorem dX1_nearestOf_10 : decode cX1_nearestOf 10 = .ok (.baload, 1) := by decide +kernel
theorem dX1_nearestOf_11 : decode cX1_nearestOf 11 = .ok (.ireturn, 1) := by decide +kernel
theorem dX1_nearestLike_0 : decode cX1_nearestLike 0 = .ok (.aload_n 0, 1) := by decide +kernel
theorem dX1_nearestLike_1 : decode cX1_nearestLike 1 = .ok (.getfield 15, 3) := by decide +kernel
theorem dX1_nearestLike_4 : decode cX1_nearestLike 4 = .ok (.iload_n 2, 1) := by decide +kernel
theorem dX1_nearestLike_5 : decode cX1_nearestLike 5 = .ok (.aload_n 0, 1) := by decide +kernel
theorem dX1_nearestLike_6 : decode cX1_nearestLike 6 = .ok (.getfield 25, 3) := by decide +kernel
theorem dX1_nearestLike_9 : decode cX1_nearestLike 9 = .ok (.iload_n 1, 1) := by decide +kernel
theorem dX1_nearestLike_10 : decode cX1_nearestLike 10 = .ok (.iaload, 1) := by decide +kernel
theorem dX1_nearestLike_11 : decode cX1_nearestLike 11 = .ok (.iand, 1) := by decide +kernel
theorem dX1_nearestLike_12 : decode cX1_nearestLike 12 = .ok (.bipush 100, 2) := by decide +kernel
theorem dX1_nearestLike_14 : decode cX1_nearestLike 14 = .ok (.imul, 1) := by decide +kernel
theorem dX1_nearestLike_15 : decode cX1_nearestLike 15 = .ok (.iload_n 3, 1) := by decide +kernel
theorem dX1_nearestLike_16 : decode cX1_nearestLike 16 = .ok (.iadd, 1) := by decide +kernel
theorem dX1_nearestLike_17 : decode cX1_nearestLike 17 = .ok (.baload, 1) := by decide +kernel
theorem dX1_nearestLike_18 : decode cX1_nearestLike 18 = .ok (.ireturn, 1) := by decide +kernel
theorem dX1_confuse_0 : decode cX1_confuse 0 = .ok (.iload_n 1, 1) := by decide +kernel
theorem dX1_confuse_1 : decode cX1_confuse 1 = .ok (.aload_n 0, 1) := by decide +kernel
theorem dX1_confuse_2 : decode cX1_confuse 2 = .ok (.getfield 9, 3) := by decide +kernel
theorem dX1_confuse_5 : decode cX1_confuse 5 = .ok (.iload_n 2, 1) := by decide +kernel
theorem dX1_confuse_6 : decode cX1_confuse 6 = .ok (.baload, 1) := by decide +kernel
theorem dX1_confuse_7 : decode cX1_confuse 7 = .ok (.iand, 1) := by decide +kernel
theorem dX1_confuse_8 : decode cX1_confuse 8 = .ok (.istore_n 3, 1) := by decide +kernel
theorem dX1_confuse_9 : decode cX1_confuse 9 = .ok (.iconst 0, 1) := by decide +kernel
theorem dX1_confuse_10 : decode cX1_confuse 10 = .ok (.istore 4, 2) := by decide +kernel
theorem dX1_confuse_12 : decode cX1_confuse 12 = .ok (.iload 4, 2) := by decide +kernel
theorem dX1_confuse_14 : decode cX1_confuse 14 = .ok (.iconst 4, 1) := by decide +kernel
theorem dX1_confuse_15 : decode cX1_confuse 15 = .ok (.if_icmp .ge 32, 3) := by decide +kernel
theorem dX1_confuse_18 : decode cX1_confuse 18 = .ok (.iload_n 3, 1) := by decide +kernel
theorem dX1_confuse_19 : decode cX1_confuse 19 = .ok (.aload_n 0, 1) := by decide +kernel
theorem dX1_confuse_20 : decode cX1_confuse 20 = .ok (.getfield 22, 3) := by decide +kernel
theorem dX1_confuse_23 : decode cX1_confuse 23 = .ok (.iload 4, 2) := by decide +kernel
theorem dX1_confuse_25 : decode cX1_confuse 25 = .ok (.iaload, 1) := by decide +kernel
theorem dX1_confuse_26 : decode cX1_confuse 26 = .ok (.iand, 1) := by decide +kernel
theorem dX1_confuse_27 : decode cX1_confuse 27 = .ok (.istore 5, 2) := by decide +kernel
theorem dX1_confuse_29 : decode cX1_confuse 29 = .ok (.iload 5, 2) := by decide +kernel
theorem dX1_confuse_31 : decode cX1_confuse 31 = .ok (.iload 5, 2) := by decide +kernel
theorem dX1_confuse_33 : decode cX1_confuse 33 = .ok (.iconst 1, 1) := by decide +kernel
theorem dX1_confuse_34 : decode cX1_confuse 34 = .ok (.isub, 1) := by decide +kernel
theorem dX1_confuse_35 : decode cX1_confuse 35 = .ok (.iand, 1) := by decide +kernel
theorem dX1_confuse_36 : decode cX1_confuse 36 = .ok (.ifCond .eq 5, 3) := by decide +kernel
theorem dX1_confuse_39 : decode cX1_confuse 39 = .ok (.iconst 1, 1) := by decide +kernel
theorem dX1_confuse_40 : decode cX1_confuse 40 = .ok (.ireturn, 1) := by decide +kernel
theorem dX1_confuse_41 : decode cX1_confuse 41 = .ok (.iinc 4 1, 3) := by decide +kernel
theorem dX1_confuse_44 : decode cX1_confuse 44 = .ok (.goto (-32), 3) := by decide +kernel
theorem dX1_confuse_47 : decode cX1_confuse 47 = .ok (.iconst 0, 1) := by decide +kernel
theorem dX1_confuse_48 : decode cX1_confuse 48 = .ok (.ireturn, 1) := by decide +kernel
def wpJ7_fill_53178_L5 (nA : Nat) (l1 : Int32) (l3 : Int32) (kx20 : AR → Int32 → Prop) (post : AR → Prop) : Nat → AR → Int32 → Prop
  | 0, _, _ => False
  | nf5 + 1, arr, l2 => ((l3 ≤ l2 → kx20 arr l2) ∧ (¬ l3 ≤ l2 → vp_in l2 nA ∧ ∀ arr_13 : AR, arr_13 = upd arr l2.toNatClampNeg l1 → ∀ l2_14 : Int32, l2_14 = (l2 + (1 : Int32)) → wpJ7_fill_53178_L5 nA l1 l3 kx20 post nf5 arr_13 l2_14))
def wpJ7_fill_53178 (arr : AR) (nA : Nat) (x1 : Int32) (post : AR → Prop) : Prop := ∀ l3_4 : Int32, l3_4 = (Int32.ofNat nA) → ∃ nf5 : Nat, wpJ7_fill_53178_L5 nA x1 l3_4 (fun arr_20 l2_20 => post arr_20) post nf5 arr (0 : Int32)
set_option maxHeartbeats 4000000 in
set_option maxRecDepth 100000 in
theorem ctJ7_fill_53178 (l : Launch) (D : va_G) (cy : Nat → ClassId) (ev : Nat → Nat) (a0 : Nat) (arr : AR) (nA : Nat) (x1 : Int32) (sz : Nat) (post : AR → Prop) (h : wpJ7_fill_53178 arr nA x1 post) : Met l yJ7_fill_53178 (Cond.code yJ7_fill_53178 cJ7_fill_53178 4 none :: TB) ({ frames := 0, cells := 0, slots := 0, locals := 0 }) (va_Pc [.ref a0, .int x1] (PreX D cy ev [(a0, .inl (cy 0, nA, .inl arr))] sz)) (va_Qv (fun (u : AR) => post u) (fun u => BkX D cy [(a0, .inl (cy 0, nA, .inl arr))] sz [(a0, .inl (cy 0, nA, .inl u))]) (va_A [(a0, .inl (cy 0, nA, .inl arr))] sz)) 0 0 (va_A [(a0, .inl (cy 0, nA, .inl arr))] sz) := by
  refine ofWv (by decide) (Nat.le_of_ble_eq_true rfl) ?_
  intro p e s m args below meth c ls A R QQ hx hb hml hown hts hR hlk hE hK hP hD hS hA hl hret
  have hown : s.vm.findClass RJ7 = some m.cls := hown
  have hRf : 0 ≤ R.frames := by rw [hR]; exact Nat.le_refl _
  have hRl : 0 ≤ R.locals := by rw [hR]; exact Nat.le_refl _
  clear hR
  have hl : lv_has ls 4 [(0, .ref a0), (1, .int x1)] := hl
  have L5 : ∀ (l1 : Int32) (l3 : Int32) (kx20 : AR → Int32 → Prop), (∀ (arr : AR) (l2 : Int32) (H : Heap) (locs : List Loc) (ls : Array Slot), kx20 arr l2 → va_P D clsX [(a0, .inl (cy 0, nA, .inl arr))] H → va_D A [(a0, .inl (cy 0, nA, .inl arr))] → va_S A s.heap H locs → lv_has ls 4 [(0, .ref a0)] → W p l e R s m args below meth c H locs 0 0 QQ (F0 m 20 ls [])) → ∀ (nf5 : Nat) (arr : AR) (l2 : Int32) (H : Heap) (locs : List Loc) (ls : Array Slot), wpJ7_fill_53178_L5 nA l1 l3 kx20 post nf5 arr l2 → va_P D clsX [(a0, .inl (cy 0, nA, .inl arr))] H → va_D A [(a0, .inl (cy 0, nA, .inl arr))] → va_S A s.heap H locs → lv_has ls 4 [(0, .ref a0), (1, .int l1), (2, .int l2), (3, .int l3)] → W p l e R s m args below meth c H locs 0 0 QQ (F0 m 5 ls []) := by
    intro l1 l3 kx20 hk5_20 nf5
    induction nf5 with
    | zero =>
      intro arr l2 H locs ls h
      exact (show False from h).elim
    | succ nf5 ih5 =>
      intro arr l2 H locs ls h hP hD hS hl
      refine lv_iload_n hx hb dJ7_fill_53178_5 rfl (lv_at hl 2 rfl) ?_
      refine lv_iload_n hx hb dJ7_fill_53178_6 rfl (lv_at hl 3 rfl) ?_
      refine lv_icmp_ge (tgt := 20) hx hb dJ7_fill_53178_7 (by decide) (fun c7 => ?_) (fun c7 => ?_)
      · have h := h.1 c7
        exact hk5_20 arr l2 _ _ _ h hP hD hS (lv_sub hl [0] rfl)
      · have h := h.2 c7
        refine lv_aload_n hx hb dJ7_fill_53178_10 rfl (lv_at hl 0 rfl) ?_
        refine lv_iload_n hx hb dJ7_fill_53178_11 rfl (lv_at hl 2 rfl) ?_
        refine lv_iload_n hx hb dJ7_fill_53178_12 rfl (lv_at hl 1 rfl) ?_
        obtain ⟨hin, h⟩ := h
        refine sti (k := l2.toNatClampNeg) (y := l1) hx hb hK hP hD hS 0 rfl hin rfl rfl dJ7_fill_53178_13 (fun arr_13 earr_13 H locs hP hD hS => ?_)
        have h := h arr_13 earr_13
        have hP : va_P D clsX [(a0, .inl (cy 0, nA, .inl arr_13))] H := hP
        have hD : va_D A [(a0, .inl (cy 0, nA, .inl arr_13))] := hD
        obtain ⟨l2_14, el2_14⟩ : ∃ y : Int32, y = l2 + (1 : Int32) := ⟨_, rfl⟩
        have h := h l2_14 el2_14
        refine lv_iinc (v := l2_14) (lv' := [(2, .int l2_14), (0, .ref a0), (1, .int l1), (3, .int l3)]) hx hb dJ7_fill_53178_14 hl (k := 2) rfl (by rw [el2_14]; rfl) (by decide) rfl (fun ls hl => ?_)
        refine lv_goto (tgt := 5) hx hb dJ7_fill_53178_17 (by decide) ?_
        exact ih5 arr_13 l2_14 _ _ _ h hP hD hS (lv_sub hl [1, 2, 0, 3] rfl)
  refine lv_iconst (v := (0 : Int32)) hx hb dJ7_fill_53178_0 (by decide) ?_
  refine lv_istore_n (lv' := [(2, .int (0 : Int32)), (0, .ref a0), (1, .int x1)]) hx hb dJ7_fill_53178_1 rfl hl (by decide) rfl (fun ls hl => ?_)
  refine lv_aload_n hx hb dJ7_fill_53178_2 rfl (lv_at hl 1 rfl) ?_
  refine va_alen hx hb hK hP 0 0 rfl rfl rfl dJ7_fill_53178_3 ?_
  refine lv_topi (fun l3_4 el3_4 => ?_)
  have h := h l3_4 el3_4
  refine lv_istore_n (lv' := [(3, .int l3_4), (2, .int (0 : Int32)), (0, .ref a0), (1, .int x1)]) hx hb dJ7_fill_53178_4 rfl hl (by decide) rfl (fun ls hl => ?_)
  obtain ⟨nf5, h⟩ := h
  refine L5 x1 l3_4 _ (fun arr_20 l2_20 H locs ls h hP hD hS hl => ?_) nf5 arr (0 : Int32) _ _ _ h hP hD hS (lv_sub hl [2, 3, 1, 0] rfl)
  exact hret (arr_20) _ _ _ _ dJ7_fill_53178_20 h hP hD hS
def wpX1_listenAt_J144 (sG : AR) (E_heardAt : AR) (E_nearest : AR) (E_distances : AR) (G_towerCell : AR) (G_range : AR) (l2 : Int32) (l3 : Int32) (l4 : Int32) (l5 : Int32) (l6 : Int32) (t1 : Int32) (t2 : Int32) (kb : AR → Int32 → Prop) (kx152 : AR → Int32 → Prop) (post : AR → AR → AR → Prop) : Prop := vp_in t1 3200 ∧ ∀ E_nearest_145 : AR, E_nearest_145 = upd E_nearest t1.toNatClampNeg (vp_nar .byte (jbyte t2)) → ∀ l6_146 : Int32, l6_146 = (l6 + (1 : Int32)) → kb E_nearest_145 l6_146
def wpX1_listenAt_J114 (sG : AR) (E_heardAt : AR) (E_nearest : AR) (E_distances : AR) (G_towerCell : AR) (G_range : AR) (l2 : Int32) (l3 : Int32) (l4 : Int32) (l5 : Int32) (l6 : Int32) (l7 : Int32) (t0 : Int32) (kb : AR → Int32 → Prop) (kx152 : AR → Int32 → Prop) (post : AR → AR → AR → Prop) : Prop := ((t0 = 0 → wpX1_listenAt_J144 sG E_heardAt E_nearest E_distances G_towerCell G_range l2 l3 l4 l5 l6 (((l6 + (jshl (1 : Int32) l4)) * (100 : Int32)) + l2) l7 kb kx152 post) ∧ (¬ t0 = 0 → wpX1_listenAt_J144 sG E_heardAt E_nearest E_distances G_towerCell G_range l2 l3 l4 l5 l6 (((l6 + (jshl (1 : Int32) l4)) * (100 : Int32)) + l2) l4 kb kx152 post))
def wpX1_listenAt_L59 (sG : AR) (E_heardAt : AR) (E_distances : AR) (G_towerCell : AR) (G_range : AR) (l2 : Int32) (l3 : Int32) (l4 : Int32) (l5 : Int32) (kx152 : AR → Int32 → Prop) (post : AR → AR → AR → Prop) : Nat → AR → Int32 → Prop
  | 0, _, _ => False
  | nf59 + 1, E_nearest, l6 => (((jshl (1 : Int32) l4) ≤ l6 → kx152 E_nearest l6) ∧ (¬ (jshl (1 : Int32) l4) ≤ l6 → vp_in ((l6 * (100 : Int32)) + l2) 3200 ∧ ∀ l7_80 : Int32, l7_80 = (E_nearest ((l6 * (100 : Int32)) + l2).toNatClampNeg) → ((l5 = 0 → wpX1_listenAt_J114 sG E_heardAt E_nearest E_distances G_towerCell G_range l2 l3 l4 l5 l6 l7_80 (0 : Int32) (fun b0 b1 => wpX1_listenAt_L59 sG E_heardAt E_distances G_towerCell G_range l2 l3 l4 l5 kx152 post nf59 b0 b1) kx152 post) ∧ (¬ l5 = 0 → ((l7_80 < 0 → wpX1_listenAt_J114 sG E_heardAt E_nearest E_distances G_towerCell G_range l2 l3 l4 l5 l6 l7_80 (1 : Int32) (fun b0 b1 => wpX1_listenAt_L59 sG E_heardAt E_distances G_towerCell G_range l2 l3 l4 l5 kx152 post nf59 b0 b1) kx152 post) ∧ (¬ l7_80 < 0 → vp_in l4 5 ∧ vp_in l7_80 5 ∧ (((E_distances l7_80.toNatClampNeg) ≤ (E_distances l4.toNatClampNeg) → wpX1_listenAt_J114 sG E_heardAt E_nearest E_distances G_towerCell G_range l2 l3 l4 l5 l6 l7_80 (0 : Int32) (fun b0 b1 => wpX1_listenAt_L59 sG E_heardAt E_distances G_towerCell G_range l2 l3 l4 l5 kx152 post nf59 b0 b1) kx152 post) ∧ (¬ (E_distances l7_80.toNatClampNeg) ≤ (E_distances l4.toNatClampNeg) → wpX1_listenAt_J114 sG E_heardAt E_nearest E_distances G_towerCell G_range l2 l3 l4 l5 l6 l7_80 (1 : Int32) (fun b0 b1 => wpX1_listenAt_L59 sG E_heardAt E_distances G_towerCell G_range l2 l3 l4 l5 kx152 post nf59 b0 b1) kx152 post))))))))
def wpX1_listenAt_L12 (sG : AR) (E_heardAt : AR) (G_towerCell : AR) (G_range : AR) (l2 : Int32) (kx158 : AR → AR → Int32 → Int32 → Prop) (post : AR → AR → AR → Prop) : Nat → AR → AR → Int32 → Int32 → Prop
  | 0, _, _, _, _ => False
  | nf12 + 1, E_nearest, E_distances, l3, l4 => (((sG 2) ≤ l4 → kx158 E_nearest E_distances l3 l4) ∧ (¬ (sG 2) ≤ l4 → wpX4_distance sG G_towerCell l4 l2 (fun r31 => vp_in l4 5 ∧ ∀ E_distances_34 : AR, E_distances_34 = upd E_distances l4.toNatClampNeg r31 → wpX4_carries sG G_towerCell G_range l4 l2 (fun r39 => ((r39 = 0 → ∃ nf59 : Nat, wpX1_listenAt_L59 sG E_heardAt E_distances_34 G_towerCell G_range l2 l3 l4 r39 (fun E_nearest_152 l6_152 => ∀ l4_152 : Int32, l4_152 = (l4 + (1 : Int32)) → wpX1_listenAt_L12 sG E_heardAt G_towerCell G_range l2 kx158 post nf12 E_nearest_152 E_distances_34 l3 l4_152) post nf59 E_nearest (0 : Int32)) ∧ (¬ r39 = 0 → ∀ l3_55 : Int32, l3_55 = (l3 ||| (jshl (1 : Int32) l4)) → ∃ nf59 : Nat, wpX1_listenAt_L59 sG E_heardAt E_distances_34 G_towerCell G_range l2 l3_55 l4 r39 (fun E_nearest_152 l6_152 => ∀ l4_152 : Int32, l4_152 = (l4 + (1 : Int32)) → wpX1_listenAt_L12 sG E_heardAt G_towerCell G_range l2 kx158 post nf12 E_nearest_152 E_distances_34 l3_55 l4_152) post nf59 E_nearest (0 : Int32)))))))
def wpX1_listenAt (sG : AR) (E_heardAt : AR) (E_nearest : AR) (E_distances : AR) (G_towerCell : AR) (G_range : AR) (x2 : Int32) (post : AR → AR → AR → Prop) : Prop := vp_in x2 3200 ∧ ∀ E_nearest_8 : AR, E_nearest_8 = upd E_nearest x2.toNatClampNeg (vp_nar .byte (-1 : Int32)) → ∃ nf12 : Nat, wpX1_listenAt_L12 sG E_heardAt G_towerCell G_range x2 (fun E_nearest_158 E_distances_158 l3_158 l4_158 => vp_in x2 100 ∧ ∀ E_heardAt_165 : AR, E_heardAt_165 = upd E_heardAt x2.toNatClampNeg (vp_nar .byte (jbyte l3_158)) → post E_heardAt_165 E_nearest_158 E_distances_158) post nf12 E_nearest_8 E_distances (0 : Int32) (0 : Int32)
set_option maxHeartbeats 4000000 in
set_option maxRecDepth 100000 in
theorem ctX1_listenAt (l : Launch) (D : va_G) (cy : Nat → ClassId) (ev : Nat → Nat) (h0 : Nat) (a1 : Nat) (rE : Nat → Nat) (rG : Nat → Nat) (sG : AR) (E_heardAt : AR) (E_nearest : AR) (E_distances : AR) (G_towerCell : AR) (G_range : AR) (x2 : Int32) (sz : Nat) (post : AR → AR → AR → Prop) (h : wpX1_listenAt sG E_heardAt E_nearest E_distances G_towerCell G_range x2 post) : Met l yX1_listenAt (Cond.code yX1_listenAt cX1_listenAt 9 none :: TB) ({ frames := 3, cells := 0, slots := 0, locals := 107 }) (va_Pc [.ref h0, .ref a1, .int x2] (PreX D cy ev [(h0, .inr (1, oX1 rE)), (a1, .inr (4, oX4 rG sG)), ((rE 0), .inl (cy 1, 100, .inl E_heardAt)), ((rE 1), .inl (cy 1, 3200, .inl E_nearest)), ((rE 2), .inl (cy 0, 5, .inl E_distances)), ((rG 7), .inl (cy 0, 5, .inl G_towerCell)), ((rG 8), .inl (cy 0, 5, .inl G_range))] sz)) (va_Qv (fun (u : AR × AR × AR) => post (u.1) (u.2.1) (u.2.2)) (fun u => BkX D cy [(h0, .inr (1, oX1 rE)), (a1, .inr (4, oX4 rG sG)), ((rE 0), .inl (cy 1, 100, .inl E_heardAt)), ((rE 1), .inl (cy 1, 3200, .inl E_nearest)), ((rE 2), .inl (cy 0, 5, .inl E_distances)), ((rG 7), .inl (cy 0, 5, .inl G_towerCell)), ((rG 8), .inl (cy 0, 5, .inl G_range))] sz [(h0, .inr (1, oX1 rE)), (a1, .inr (4, oX4 rG sG)), ((rE 0), .inl (cy 1, 100, .inl (u.1))), ((rE 1), .inl (cy 1, 3200, .inl (u.2.1))), ((rE 2), .inl (cy 0, 5, .inl (u.2.2))), ((rG 7), .inl (cy 0, 5, .inl G_towerCell)), ((rG 8), .inl (cy 0, 5, .inl G_range))]) (va_A [(h0, .inr (1, oX1 rE)), (a1, .inr (4, oX4 rG sG)), ((rE 0), .inl (cy 1, 100, .inl E_heardAt)), ((rE 1), .inl (cy 1, 3200, .inl E_nearest)), ((rE 2), .inl (cy 0, 5, .inl E_distances)), ((rG 7), .inl (cy 0, 5, .inl G_towerCell)), ((rG 8), .inl (cy 0, 5, .inl G_range))] sz)) 0 0 (va_A [(h0, .inr (1, oX1 rE)), (a1, .inr (4, oX4 rG sG)), ((rE 0), .inl (cy 1, 100, .inl E_heardAt)), ((rE 1), .inl (cy 1, 3200, .inl E_nearest)), ((rE 2), .inl (cy 0, 5, .inl E_distances)), ((rG 7), .inl (cy 0, 5, .inl G_towerCell)), ((rG 8), .inl (cy 0, 5, .inl G_range))] sz) := by
  refine ofWv (by decide) (Nat.le_of_ble_eq_true rfl) ?_
  intro p e s m args below meth c ls A R QQ hx hb hml hown hts hR hlk hE hK hP hD hS hA hl hret
  have hown : s.vm.findClass RX1 = some m.cls := hown
  have hRf : 3 ≤ R.frames := by rw [hR]; exact Nat.le_refl _
  have hRl : 107 ≤ R.locals := by rw [hR]; exact Nat.le_refl _
  clear hR
  have hl : lv_has ls 9 [(0, .ref h0), (1, .ref a1), (2, .int x2)] := hl
  have L12 : ∀ (l2 : Int32) (kx158 : AR → AR → Int32 → Int32 → Prop), (∀ (E_nearest : AR) (E_distances : AR) (l3 : Int32) (l4 : Int32) (H : Heap) (locs : List Loc) (ls : Array Slot), kx158 E_nearest E_distances l3 l4 → va_P D clsX [(h0, .inr (1, oX1 rE)), (a1, .inr (4, oX4 rG sG)), ((rE 0), .inl (cy 1, 100, .inl E_heardAt)), ((rE 1), .inl (cy 1, 3200, .inl E_nearest)), ((rE 2), .inl (cy 0, 5, .inl E_distances)), ((rG 7), .inl (cy 0, 5, .inl G_towerCell)), ((rG 8), .inl (cy 0, 5, .inl G_range))] H → va_D A [(h0, .inr (1, oX1 rE)), (a1, .inr (4, oX4 rG sG)), ((rE 0), .inl (cy 1, 100, .inl E_heardAt)), ((rE 1), .inl (cy 1, 3200, .inl E_nearest)), ((rE 2), .inl (cy 0, 5, .inl E_distances)), ((rG 7), .inl (cy 0, 5, .inl G_towerCell)), ((rG 8), .inl (cy 0, 5, .inl G_range))] → va_S A s.heap H locs → lv_has ls 9 [(0, .ref h0), (1, .ref a1), (2, .int l2), (3, .int l3)] → W p l e R s m args below meth c H locs 0 0 QQ (F0 m 158 ls [])) → ∀ (nf12 : Nat) (E_nearest : AR) (E_distances : AR) (l3 : Int32) (l4 : Int32) (H : Heap) (locs : List Loc) (ls : Array Slot), wpX1_listenAt_L12 sG E_heardAt G_towerCell G_range l2 kx158 post nf12 E_nearest E_distances l3 l4 → va_P D clsX [(h0, .inr (1, oX1 rE)), (a1, .inr (4, oX4 rG sG)), ((rE 0), .inl (cy 1, 100, .inl E_heardAt)), ((rE 1), .inl (cy 1, 3200, .inl E_nearest)), ((rE 2), .inl (cy 0, 5, .inl E_distances)), ((rG 7), .inl (cy 0, 5, .inl G_towerCell)), ((rG 8), .inl (cy 0, 5, .inl G_range))] H → va_D A [(h0, .inr (1, oX1 rE)), (a1, .inr (4, oX4 rG sG)), ((rE 0), .inl (cy 1, 100, .inl E_heardAt)), ((rE 1), .inl (cy 1, 3200, .inl E_nearest)), ((rE 2), .inl (cy 0, 5, .inl E_distances)), ((rG 7), .inl (cy 0, 5, .inl G_towerCell)), ((rG 8), .inl (cy 0, 5, .inl G_range))] → va_S A s.heap H locs → lv_has ls 9 [(0, .ref h0), (1, .ref a1), (2, .int l2), (3, .int l3), (4, .int l4)] → W p l e R s m args below meth c H locs 0 0 QQ (F0 m 12 ls []) := by
    intro l2 kx158 hk12_158 nf12
    induction nf12 with
    | zero =>
      intro E_nearest E_distances l3 l4 H locs ls h
      exact (show False from h).elim
    | succ nf12 ih12 =>
      intro E_nearest E_distances l3 l4 H locs ls h hP hD hS hl
      have L59 : ∀ (E_distances : AR) (l2 : Int32) (l3 : Int32) (l4 : Int32) (l5 : Int32) (kx152 : AR → Int32 → Prop), (∀ (E_nearest : AR) (l6 : Int32) (H : Heap) (locs : List Loc) (ls : Array Slot), kx152 E_nearest l6 → va_P D clsX [(h0, .inr (1, oX1 rE)), (a1, .inr (4, oX4 rG sG)), ((rE 0), .inl (cy 1, 100, .inl E_heardAt)), ((rE 1), .inl (cy 1, 3200, .inl E_nearest)), ((rE 2), .inl (cy 0, 5, .inl E_distances)), ((rG 7), .inl (cy 0, 5, .inl G_towerCell)), ((rG 8), .inl (cy 0, 5, .inl G_range))] H → va_D A [(h0, .inr (1, oX1 rE)), (a1, .inr (4, oX4 rG sG)), ((rE 0), .inl (cy 1, 100, .inl E_heardAt)), ((rE 1), .inl (cy 1, 3200, .inl E_nearest)), ((rE 2), .inl (cy 0, 5, .inl E_distances)), ((rG 7), .inl (cy 0, 5, .inl G_towerCell)), ((rG 8), .inl (cy 0, 5, .inl G_range))] → va_S A s.heap H locs → lv_has ls 9 [(0, .ref h0), (1, .ref a1), (2, .int l2), (3, .int l3), (4, .int l4)] → W p l e R s m args below meth c H locs 0 0 QQ (F0 m 152 ls [])) → ∀ (nf59 : Nat) (E_nearest : AR) (l6 : Int32) (H : Heap) (locs : List Loc) (ls : Array Slot), wpX1_listenAt_L59 sG E_heardAt E_distances G_towerCell G_range l2 l3 l4 l5 kx152 post nf59 E_nearest l6 → va_P D clsX [(h0, .inr (1, oX1 rE)), (a1, .inr (4, oX4 rG sG)), ((rE 0), .inl (cy 1, 100, .inl E_heardAt)), ((rE 1), .inl (cy 1, 3200, .inl E_nearest)), ((rE 2), .inl (cy 0, 5, .inl E_distances)), ((rG 7), .inl (cy 0, 5, .inl G_towerCell)), ((rG 8), .inl (cy 0, 5, .inl G_range))] H → va_D A [(h0, .inr (1, oX1 rE)), (a1, .inr (4, oX4 rG sG)), ((rE 0), .inl (cy 1, 100, .inl E_heardAt)), ((rE 1), .inl (cy 1, 3200, .inl E_nearest)), ((rE 2), .inl (cy 0, 5, .inl E_distances)), ((rG 7), .inl (cy 0, 5, .inl G_towerCell)), ((rG 8), .inl (cy 0, 5, .inl G_range))] → va_S A s.heap H locs → lv_has ls 9 [(0, .ref h0), (1, .ref a1), (2, .int l2), (3, .int l3), (4, .int l4), (5, .int l5), (6, .int l6)] → W p l e R s m args below meth c H locs 0 0 QQ (F0 m 59 ls []) := by
        intro E_distances l2 l3 l4 l5 kx152 hk59_152 nf59
        induction nf59 with
        | zero =>
          intro E_nearest l6 H locs ls h
          exact (show False from h).elim
        | succ nf59 ih59 =>
          intro E_nearest l6 H locs ls h hP hD hS hl
          have J114 : ∀ (E_nearest : AR) (l6 : Int32) (l7 : Int32) (t0 : Int32) (H : Heap) (locs : List Loc) (ls : Array Slot), wpX1_listenAt_J114 sG E_heardAt E_nearest E_distances G_towerCell G_range l2 l3 l4 l5 l6 l7 t0 (fun b0 b1 => wpX1_listenAt_L59 sG E_heardAt E_distances G_towerCell G_range l2 l3 l4 l5 kx152 post nf59 b0 b1) kx152 post → va_P D clsX [(h0, .inr (1, oX1 rE)), (a1, .inr (4, oX4 rG sG)), ((rE 0), .inl (cy 1, 100, .inl E_heardAt)), ((rE 1), .inl (cy 1, 3200, .inl E_nearest)), ((rE 2), .inl (cy 0, 5, .inl E_distances)), ((rG 7), .inl (cy 0, 5, .inl G_towerCell)), ((rG 8), .inl (cy 0, 5, .inl G_range))] H → va_D A [(h0, .inr (1, oX1 rE)), (a1, .inr (4, oX4 rG sG)), ((rE 0), .inl (cy 1, 100, .inl E_heardAt)), ((rE 1), .inl (cy 1, 3200, .inl E_nearest)), ((rE 2), .inl (cy 0, 5, .inl E_distances)), ((rG 7), .inl (cy 0, 5, .inl G_towerCell)), ((rG 8), .inl (cy 0, 5, .inl G_range))] → va_S A s.heap H locs → lv_has ls 9 [(0, .ref h0), (1, .ref a1), (2, .int l2), (3, .int l3), (4, .int l4), (5, .int l5), (6, .int l6), (7, .int l7)] → W p l e R s m args below meth c H locs 0 0 QQ (F0 m 114 ls [.int t0]) := by
            intro E_nearest l6 l7 t0 H locs ls h hP hD hS hl
            have J144 : ∀ (E_nearest : AR) (l6 : Int32) (t1 : Int32) (t2 : Int32) (H : Heap) (locs : List Loc) (ls : Array Slot), wpX1_listenAt_J144 sG E_heardAt E_nearest E_distances G_towerCell G_range l2 l3 l4 l5 l6 t1 t2 (fun b0 b1 => wpX1_listenAt_L59 sG E_heardAt E_distances G_towerCell G_range l2 l3 l4 l5 kx152 post nf59 b0 b1) kx152 post → va_P D clsX [(h0, .inr (1, oX1 rE)), (a1, .inr (4, oX4 rG sG)), ((rE 0), .inl (cy 1, 100, .inl E_heardAt)), ((rE 1), .inl (cy 1, 3200, .inl E_nearest)), ((rE 2), .inl (cy 0, 5, .inl E_distances)), ((rG 7), .inl (cy 0, 5, .inl G_towerCell)), ((rG 8), .inl (cy 0, 5, .inl G_range))] H → va_D A [(h0, .inr (1, oX1 rE)), (a1, .inr (4, oX4 rG sG)), ((rE 0), .inl (cy 1, 100, .inl E_heardAt)), ((rE 1), .inl (cy 1, 3200, .inl E_nearest)), ((rE 2), .inl (cy 0, 5, .inl E_distances)), ((rG 7), .inl (cy 0, 5, .inl G_towerCell)), ((rG 8), .inl (cy 0, 5, .inl G_range))] → va_S A s.heap H locs → lv_has ls 9 [(0, .ref h0), (1, .ref a1), (2, .int l2), (3, .int l3), (4, .int l4), (5, .int l5), (6, .int l6)] → W p l e R s m args below meth c H locs 0 0 QQ (F0 m 144 ls [.int t2, .int t1, .ref (rE 1)]) := by
              intro E_nearest l6 t1 t2 H locs ls h hP hD hS hl
              refine lv_i2b hx hb dX1_listenAt_144 rfl ?_
              obtain ⟨hin, h⟩ := h
              refine stb (k := t1.toNatClampNeg) (y := (vp_nar .byte (jbyte t2))) hx hb hK hP hD hS 3 rfl hin rfl rfl dX1_listenAt_145 (fun E_nearest_145 eE_nearest_145 H locs hP hD hS => ?_)
              have h := h E_nearest_145 eE_nearest_145
              have hP : va_P D clsX [(h0, .inr (1, oX1 rE)), (a1, .inr (4, oX4 rG sG)), ((rE 0), .inl (cy 1, 100, .inl E_heardAt)), ((rE 1), .inl (cy 1, 3200, .inl E_nearest_145)), ((rE 2), .inl (cy 0, 5, .inl E_distances)), ((rG 7), .inl (cy 0, 5, .inl G_towerCell)), ((rG 8), .inl (cy 0, 5, .inl G_range))] H := hP
              have hD : va_D A [(h0, .inr (1, oX1 rE)), (a1, .inr (4, oX4 rG sG)), ((rE 0), .inl (cy 1, 100, .inl E_heardAt)), ((rE 1), .inl (cy 1, 3200, .inl E_nearest_145)), ((rE 2), .inl (cy 0, 5, .inl E_distances)), ((rG 7), .inl (cy 0, 5, .inl G_towerCell)), ((rG 8), .inl (cy 0, 5, .inl G_range))] := hD
              obtain ⟨l6_146, el6_146⟩ : ∃ y : Int32, y = l6 + (1 : Int32) := ⟨_, rfl⟩
              have h := h l6_146 el6_146
              refine lv_iinc (v := l6_146) (lv' := [(6, .int l6_146), (0, .ref h0), (1, .ref a1), (2, .int l2), (3, .int l3), (4, .int l4), (5, .int l5)]) hx hb dX1_listenAt_146 hl (k := 6) rfl (by rw [el6_146]; rfl) (by decide) rfl (fun ls hl => ?_)
              refine lv_goto (tgt := 59) hx hb dX1_listenAt_149 (by decide) ?_
              exact ih59 E_nearest_145 l6_146 _ _ _ h hP hD hS (lv_sub hl [1, 2, 3, 4, 5, 6, 0] rfl)
            refine lv_istore (lv' := [(8, .int t0), (0, .ref h0), (1, .ref a1), (2, .int l2), (3, .int l3), (4, .int l4), (5, .int l5), (6, .int l6), (7, .int l7)]) hx hb dX1_listenAt_114 hl (by decide) rfl (fun ls hl => ?_)
            refine lv_aload_n hx hb dX1_listenAt_116 rfl (lv_at hl 1 rfl) ?_
            refine gfX1_15 hx hb hts hown hK hP 0 rfl dX1_listenAt_117 ?_
            refine lv_iload hx hb dX1_listenAt_120 (lv_at hl 7 rfl) ?_
            refine lv_iconst (v := (1 : Int32)) hx hb dX1_listenAt_122 (by decide) ?_
            refine lv_iload hx hb dX1_listenAt_123 (lv_at hl 5 rfl) ?_
            refine lv_ishl hx hb dX1_listenAt_125 ?_
            refine lv_iadd hx hb dX1_listenAt_126 ?_
            refine lv_bipush (v := (100 : Int32)) hx hb dX1_listenAt_127 (by decide) ?_
            refine lv_imul hx hb dX1_listenAt_129 ?_
            refine lv_iload_n hx hb dX1_listenAt_130 rfl (lv_at hl 3 rfl) ?_
            refine lv_iadd hx hb dX1_listenAt_131 ?_
            refine lv_iload hx hb dX1_listenAt_132 (lv_at hl 0 rfl) ?_
            refine lv_if_eq (tgt := 142) hx hb dX1_listenAt_134 (by decide) (fun c134 => ?_) (fun c134 => ?_)
            · have h := h.1 c134
              refine lv_iload hx hb dX1_listenAt_142 (lv_at hl 8 rfl) ?_
              exact J144 E_nearest l6 (((l6 + (jshl (1 : Int32) l4)) * (100 : Int32)) + l2) l7 _ _ _ h hP hD hS (lv_sub hl [1, 2, 3, 4, 5, 6, 7] rfl)
            · have h := h.2 c134
              refine lv_iload hx hb dX1_listenAt_137 (lv_at hl 5 rfl) ?_
              refine lv_goto (tgt := 144) hx hb dX1_listenAt_139 (by decide) ?_
              exact J144 E_nearest l6 (((l6 + (jshl (1 : Int32) l4)) * (100 : Int32)) + l2) l4 _ _ _ h hP hD hS (lv_sub hl [1, 2, 3, 4, 5, 6, 7] rfl)
          refine lv_iload hx hb dX1_listenAt_59 (lv_at hl 6 rfl) ?_
          refine lv_iconst (v := (1 : Int32)) hx hb dX1_listenAt_61 (by decide) ?_
          refine lv_iload hx hb dX1_listenAt_62 (lv_at hl 4 rfl) ?_
          refine lv_ishl hx hb dX1_listenAt_64 ?_
          refine lv_icmp_ge (tgt := 152) hx hb dX1_listenAt_65 (by decide) (fun c65 => ?_) (fun c65 => ?_)
          · have h := h.1 c65
            exact hk59_152 E_nearest l6 _ _ _ h hP hD hS (lv_sub hl [0, 1, 2, 3, 4] rfl)
          · have h := h.2 c65
            refine lv_aload_n hx hb dX1_listenAt_68 rfl (lv_at hl 0 rfl) ?_
            refine gfX1_15 hx hb hts hown hK hP 0 rfl dX1_listenAt_69 ?_
            refine lv_iload hx hb dX1_listenAt_72 (lv_at hl 6 rfl) ?_
            refine lv_bipush (v := (100 : Int32)) hx hb dX1_listenAt_74 (by decide) ?_
            refine lv_imul hx hb dX1_listenAt_76 ?_
            refine lv_iload_n hx hb dX1_listenAt_77 rfl (lv_at hl 2 rfl) ?_
            refine lv_iadd hx hb dX1_listenAt_78 ?_
            obtain ⟨hin, h⟩ := h
            refine ldb (k := ((l6 * (100 : Int32)) + l2).toNatClampNeg) hx hb hK hP 3 rfl hin rfl dX1_listenAt_79 ?_
            refine lv_topi (fun l7_80 el7_80 => ?_)
            have h := h l7_80 el7_80
            refine lv_istore (lv' := [(7, .int l7_80), (0, .ref h0), (1, .ref a1), (2, .int l2), (3, .int l3), (4, .int l4), (5, .int l5), (6, .int l6)]) hx hb dX1_listenAt_80 hl (by decide) rfl (fun ls hl => ?_)
            refine lv_iload hx hb dX1_listenAt_82 (lv_at hl 6 rfl) ?_
            refine lv_if_eq (tgt := 113) hx hb dX1_listenAt_84 (by decide) (fun c84 => ?_) (fun c84 => ?_)
            · have h := h.1 c84
              refine lv_iconst (v := (0 : Int32)) hx hb dX1_listenAt_113 (by decide) ?_
              exact J114 E_nearest l6 l7_80 (0 : Int32) _ _ _ h hP hD hS (lv_sub hl [1, 2, 3, 4, 5, 6, 7, 0] rfl)
            · have h := h.2 c84
              refine lv_iload hx hb dX1_listenAt_87 (lv_at hl 0 rfl) ?_
              refine lv_if_lt (tgt := 109) hx hb dX1_listenAt_89 (by decide) (fun c89 => ?_) (fun c89 => ?_)
              · have h := h.1 c89
                refine lv_iconst (v := (1 : Int32)) hx hb dX1_listenAt_109 (by decide) ?_
                refine lv_goto (tgt := 114) hx hb dX1_listenAt_110 (by decide) ?_
                exact J114 E_nearest l6 l7_80 (1 : Int32) _ _ _ h hP hD hS (lv_sub hl [1, 2, 3, 4, 5, 6, 7, 0] rfl)
              · have h := h.2 c89
                refine lv_aload_n hx hb dX1_listenAt_92 rfl (lv_at hl 1 rfl) ?_
                refine gfX1_18 hx hb hts hown hK hP 0 rfl dX1_listenAt_93 ?_
                refine lv_iload hx hb dX1_listenAt_96 (lv_at hl 5 rfl) ?_
                obtain ⟨hin, h⟩ := h
                refine ldi (k := l4.toNatClampNeg) hx hb hK hP 4 rfl hin rfl dX1_listenAt_98 ?_
                refine lv_aload_n hx hb dX1_listenAt_99 rfl (lv_at hl 1 rfl) ?_
                refine gfX1_18 hx hb hts hown hK hP 0 rfl dX1_listenAt_100 ?_
                refine lv_iload hx hb dX1_listenAt_103 (lv_at hl 0 rfl) ?_
                obtain ⟨hin, h⟩ := h
                refine ldi (k := l7_80.toNatClampNeg) hx hb hK hP 4 rfl hin rfl dX1_listenAt_105 ?_
                refine lv_icmp_ge (tgt := 113) hx hb dX1_listenAt_106 (by decide) (fun c106 => ?_) (fun c106 => ?_)
                · have h := h.1 c106
                  refine lv_iconst (v := (0 : Int32)) hx hb dX1_listenAt_113 (by decide) ?_
                  exact J114 E_nearest l6 l7_80 (0 : Int32) _ _ _ h hP hD hS (lv_sub hl [1, 2, 3, 4, 5, 6, 7, 0] rfl)
                · have h := h.2 c106
                  refine lv_iconst (v := (1 : Int32)) hx hb dX1_listenAt_109 (by decide) ?_
                  refine lv_goto (tgt := 114) hx hb dX1_listenAt_110 (by decide) ?_
                  exact J114 E_nearest l6 l7_80 (1 : Int32) _ _ _ h hP hD hS (lv_sub hl [1, 2, 3, 4, 5, 6, 7, 0] rfl)
      refine lv_iload hx hb dX1_listenAt_12 (lv_at hl 4 rfl) ?_
      refine lv_aload_n hx hb dX1_listenAt_14 rfl (lv_at hl 1 rfl) ?_
      refine gfX1_34 (v := (sG 2)) hx hb hts hown hK hP 1 rfl rfl dX1_listenAt_15 ?_
      refine lv_icmp_ge (tgt := 158) hx hb dX1_listenAt_18 (by decide) (fun c18 => ?_) (fun c18 => ?_)
      · have h := h.1 c18
        exact hk12_158 E_nearest E_distances l3 l4 _ _ _ h hP hD hS (lv_sub hl [0, 1, 2, 3] rfl)
      · have h := h.2 c18
        refine lv_aload_n hx hb dX1_listenAt_21 rfl (lv_at hl 0 rfl) ?_
        refine gfX1_18 hx hb hts hown hK hP 0 rfl dX1_listenAt_22 ?_
        refine lv_iload hx hb dX1_listenAt_25 (lv_at hl 4 rfl) ?_
        refine lv_aload_n hx hb dX1_listenAt_27 rfl (lv_at hl 1 rfl) ?_
        refine lv_iload hx hb dX1_listenAt_28 (lv_at hl 4 rfl) ?_
        refine lv_iload_n hx hb dX1_listenAt_30 rfl (lv_at hl 2 rfl) ?_
        refine clVi (As := [.int l4, .int l2]) (rest := [.int l4, .ref (rE 2)]) (Wr := [(h0, .inr (1, oX1 rE)), ((rE 0), .inl (cy 1, 100, .inl E_heardAt)), ((rE 1), .inl (cy 1, 3200, .inl E_nearest)), ((rE 2), .inl (cy 0, 5, .inl E_distances)), ((rG 8), .inl (cy 0, 5, .inl G_range))]) (cq := (RX4, TX4, 16)) ⟨hx, hb, hml, hown, hts⟩ ⟨callB_of 2 hts (goodC mw408) rfl rfl rfl (hts _ (tb mw3)) (hts _ (tb mw405)) kdX4_distance ⟨Nat.le_trans (by decide) hRf, Nat.le_trans (by decide) hRl⟩, hts _ (tb mw406), hts _ (tb mw407)⟩ (ctX4_distance l D cy ev a1 rG sG G_towerCell l4 l2 _ _ h) hE hK hP hD hS hA [1, 5] [0, 2, 3, 4, 6] rfl rfl (by decide) (by decide) (by decide) 0 rfl rfl rfl hl.1 rfl (Nat.le_of_ble_eq_true rfl) ⟨Nat.zero_le _, Nat.zero_le _⟩ dX1_listenAt_31 (fun r31 u H locs h hP hD hS => ?_)
        have hP : va_P D clsX [(h0, .inr (1, oX1 rE)), ((rE 0), .inl (cy 1, 100, .inl E_heardAt)), ((rE 1), .inl (cy 1, 3200, .inl E_nearest)), ((rE 2), .inl (cy 0, 5, .inl E_distances)), ((rG 8), .inl (cy 0, 5, .inl G_range)), (a1, .inr (4, oX4 rG sG)), ((rG 7), .inl (cy 0, 5, .inl G_towerCell))] H := hP
        have hD : va_D A [(h0, .inr (1, oX1 rE)), ((rE 0), .inl (cy 1, 100, .inl E_heardAt)), ((rE 1), .inl (cy 1, 3200, .inl E_nearest)), ((rE 2), .inl (cy 0, 5, .inl E_distances)), ((rG 8), .inl (cy 0, 5, .inl G_range)), (a1, .inr (4, oX4 rG sG)), ((rG 7), .inl (cy 0, 5, .inl G_towerCell))] := hD
        obtain ⟨hin, h⟩ := h
        refine sti (k := l4.toNatClampNeg) (y := r31) hx hb hK hP hD hS 3 rfl hin rfl rfl dX1_listenAt_34 (fun E_distances_34 eE_distances_34 H locs hP hD hS => ?_)
        have h := h E_distances_34 eE_distances_34
        have hP : va_P D clsX [(h0, .inr (1, oX1 rE)), ((rE 0), .inl (cy 1, 100, .inl E_heardAt)), ((rE 1), .inl (cy 1, 3200, .inl E_nearest)), ((rE 2), .inl (cy 0, 5, .inl E_distances_34)), ((rG 8), .inl (cy 0, 5, .inl G_range)), (a1, .inr (4, oX4 rG sG)), ((rG 7), .inl (cy 0, 5, .inl G_towerCell))] H := hP
        have hD : va_D A [(h0, .inr (1, oX1 rE)), ((rE 0), .inl (cy 1, 100, .inl E_heardAt)), ((rE 1), .inl (cy 1, 3200, .inl E_nearest)), ((rE 2), .inl (cy 0, 5, .inl E_distances_34)), ((rG 8), .inl (cy 0, 5, .inl G_range)), (a1, .inr (4, oX4 rG sG)), ((rG 7), .inl (cy 0, 5, .inl G_towerCell))] := hD
        refine lv_aload_n hx hb dX1_listenAt_35 rfl (lv_at hl 1 rfl) ?_
        refine lv_iload hx hb dX1_listenAt_36 (lv_at hl 4 rfl) ?_
        refine lv_iload_n hx hb dX1_listenAt_38 rfl (lv_at hl 2 rfl) ?_
        refine clVi (As := [.int l4, .int l2]) (rest := []) (Wr := [(h0, .inr (1, oX1 rE)), ((rE 0), .inl (cy 1, 100, .inl E_heardAt)), ((rE 1), .inl (cy 1, 3200, .inl E_nearest)), ((rE 2), .inl (cy 0, 5, .inl E_distances_34))]) (cq := (RX4, TX4, 16)) ⟨hx, hb, hml, hown, hts⟩ ⟨callB_of 2 hts (goodC mw423) rfl rfl rfl (hts _ (tb mw3)) (hts _ (tb mw420)) kdX4_carries ⟨Nat.le_trans (by decide) hRf, Nat.le_trans (by decide) hRl⟩, hts _ (tb mw421), hts _ (tb mw422)⟩ (ctX4_carries l D cy ev a1 rG sG G_towerCell G_range l4 l2 _ _ h) hE hK hP hD hS hA [5, 6, 4] [0, 1, 2, 3] rfl rfl (by decide) (by decide) (by decide) 0 rfl rfl rfl hl.1 rfl (Nat.le_of_ble_eq_true rfl) ⟨Nat.zero_le _, Nat.zero_le _⟩ dX1_listenAt_39 (fun r39 u H locs h hP hD hS => ?_)
        have hP : va_P D clsX [(h0, .inr (1, oX1 rE)), ((rE 0), .inl (cy 1, 100, .inl E_heardAt)), ((rE 1), .inl (cy 1, 3200, .inl E_nearest)), ((rE 2), .inl (cy 0, 5, .inl E_distances_34)), (a1, .inr (4, oX4 rG sG)), ((rG 7), .inl (cy 0, 5, .inl G_towerCell)), ((rG 8), .inl (cy 0, 5, .inl G_range))] H := hP
        have hD : va_D A [(h0, .inr (1, oX1 rE)), ((rE 0), .inl (cy 1, 100, .inl E_heardAt)), ((rE 1), .inl (cy 1, 3200, .inl E_nearest)), ((rE 2), .inl (cy 0, 5, .inl E_distances_34)), (a1, .inr (4, oX4 rG sG)), ((rG 7), .inl (cy 0, 5, .inl G_towerCell)), ((rG 8), .inl (cy 0, 5, .inl G_range))] := hD
        refine lv_istore (lv' := [(5, .int r39), (0, .ref h0), (1, .ref a1), (2, .int l2), (3, .int l3), (4, .int l4)]) hx hb dX1_listenAt_42 hl (by decide) rfl (fun ls hl => ?_)
        refine lv_iload hx hb dX1_listenAt_44 (lv_at hl 0 rfl) ?_
        refine lv_if_eq (tgt := 56) hx hb dX1_listenAt_46 (by decide) (fun c46 => ?_) (fun c46 => ?_)
        · have h := h.1 c46
          refine lv_iconst (v := (0 : Int32)) hx hb dX1_listenAt_56 (by decide) ?_
          refine lv_istore (lv' := [(6, .int (0 : Int32)), (5, .int r39), (0, .ref h0), (1, .ref a1), (2, .int l2), (3, .int l3), (4, .int l4)]) hx hb dX1_listenAt_57 hl (by decide) rfl (fun ls hl => ?_)
          obtain ⟨nf59, h⟩ := h
          refine L59 E_distances_34 l2 l3 l4 r39 _ (fun E_nearest_152 l6_152 H locs ls h hP hD hS hl => ?_) nf59 E_nearest (0 : Int32) _ _ _ h (hP.sub [0, 4, 1, 2, 3, 5, 6] rfl) (hD.sub [0, 4, 1, 2, 3, 5, 6] (by decide) rfl) hS (lv_sub hl [2, 3, 4, 5, 6, 1, 0] rfl)
          obtain ⟨l4_152, el4_152⟩ : ∃ y : Int32, y = l4 + (1 : Int32) := ⟨_, rfl⟩
          have h := h l4_152 el4_152
          refine lv_iinc (v := l4_152) (lv' := [(4, .int l4_152), (0, .ref h0), (1, .ref a1), (2, .int l2), (3, .int l3)]) hx hb dX1_listenAt_152 hl (k := 4) rfl (by rw [el4_152]; rfl) (by decide) rfl (fun ls hl => ?_)
          refine lv_goto (tgt := 12) hx hb dX1_listenAt_155 (by decide) ?_
          exact ih12 E_nearest_152 E_distances_34 l3 l4_152 _ _ _ h hP hD hS (lv_sub hl [1, 2, 3, 4, 0] rfl)
        · have h := h.2 c46
          refine lv_iload_n hx hb dX1_listenAt_49 rfl (lv_at hl 4 rfl) ?_
          refine lv_iconst (v := (1 : Int32)) hx hb dX1_listenAt_50 (by decide) ?_
          refine lv_iload hx hb dX1_listenAt_51 (lv_at hl 5 rfl) ?_
          refine lv_ishl hx hb dX1_listenAt_53 ?_
          refine lv_ior hx hb dX1_listenAt_54 ?_
          refine lv_topi (fun l3_55 el3_55 => ?_)
          have h := h l3_55 el3_55
          refine lv_istore_n (lv' := [(3, .int l3_55), (5, .int r39), (0, .ref h0), (1, .ref a1), (2, .int l2), (4, .int l4)]) hx hb dX1_listenAt_55 rfl hl (by decide) rfl (fun ls hl => ?_)
          refine lv_iconst (v := (0 : Int32)) hx hb dX1_listenAt_56 (by decide) ?_
          refine lv_istore (lv' := [(6, .int (0 : Int32)), (3, .int l3_55), (5, .int r39), (0, .ref h0), (1, .ref a1), (2, .int l2), (4, .int l4)]) hx hb dX1_listenAt_57 hl (by decide) rfl (fun ls hl => ?_)
          obtain ⟨nf59, h⟩ := h
          refine L59 E_distances_34 l2 l3_55 l4 r39 _ (fun E_nearest_152 l6_152 H locs ls h hP hD hS hl => ?_) nf59 E_nearest (0 : Int32) _ _ _ h (hP.sub [0, 4, 1, 2, 3, 5, 6] rfl) (hD.sub [0, 4, 1, 2, 3, 5, 6] (by decide) rfl) hS (lv_sub hl [3, 4, 5, 1, 6, 2, 0] rfl)
          obtain ⟨l4_152, el4_152⟩ : ∃ y : Int32, y = l4 + (1 : Int32) := ⟨_, rfl⟩
          have h := h l4_152 el4_152
          refine lv_iinc (v := l4_152) (lv' := [(4, .int l4_152), (0, .ref h0), (1, .ref a1), (2, .int l2), (3, .int l3_55)]) hx hb dX1_listenAt_152 hl (k := 4) rfl (by rw [el4_152]; rfl) (by decide) rfl (fun ls hl => ?_)
          refine lv_goto (tgt := 12) hx hb dX1_listenAt_155 (by decide) ?_
          exact ih12 E_nearest_152 E_distances_34 l3_55 l4_152 _ _ _ h hP hD hS (lv_sub hl [1, 2, 3, 4, 0] rfl)
  refine lv_iconst (v := (0 : Int32)) hx hb dX1_listenAt_0 (by decide) ?_
  refine lv_istore_n (lv' := [(3, .int (0 : Int32)), (0, .ref h0), (1, .ref a1), (2, .int x2)]) hx hb dX1_listenAt_1 rfl hl (by decide) rfl (fun ls hl => ?_)
  refine lv_aload_n hx hb dX1_listenAt_2 rfl (lv_at hl 1 rfl) ?_
  refine gfX1_15 hx hb hts hown hK hP 0 rfl dX1_listenAt_3 ?_
  refine lv_iload_n hx hb dX1_listenAt_6 rfl (lv_at hl 3 rfl) ?_
  refine lv_iconst (v := (-1 : Int32)) hx hb dX1_listenAt_7 (by decide) ?_
  obtain ⟨hin, h⟩ := h
  refine stb (k := x2.toNatClampNeg) (y := (vp_nar .byte (-1 : Int32))) hx hb hK hP hD hS 3 rfl hin rfl rfl dX1_listenAt_8 (fun E_nearest_8 eE_nearest_8 H locs hP hD hS => ?_)
  have h := h E_nearest_8 eE_nearest_8
  have hP : va_P D clsX [(h0, .inr (1, oX1 rE)), (a1, .inr (4, oX4 rG sG)), ((rE 0), .inl (cy 1, 100, .inl E_heardAt)), ((rE 1), .inl (cy 1, 3200, .inl E_nearest_8)), ((rE 2), .inl (cy 0, 5, .inl E_distances)), ((rG 7), .inl (cy 0, 5, .inl G_towerCell)), ((rG 8), .inl (cy 0, 5, .inl G_range))] H := hP
  have hD : va_D A [(h0, .inr (1, oX1 rE)), (a1, .inr (4, oX4 rG sG)), ((rE 0), .inl (cy 1, 100, .inl E_heardAt)), ((rE 1), .inl (cy 1, 3200, .inl E_nearest_8)), ((rE 2), .inl (cy 0, 5, .inl E_distances)), ((rG 7), .inl (cy 0, 5, .inl G_towerCell)), ((rG 8), .inl (cy 0, 5, .inl G_range))] := hD
  refine lv_iconst (v := (0 : Int32)) hx hb dX1_listenAt_9 (by decide) ?_
  refine lv_istore (lv' := [(4, .int (0 : Int32)), (3, .int (0 : Int32)), (0, .ref h0), (1, .ref a1), (2, .int x2)]) hx hb dX1_listenAt_10 hl (by decide) rfl (fun ls hl => ?_)
  obtain ⟨nf12, h⟩ := h
  refine L12 x2 _ (fun E_nearest_158 E_distances_158 l3_158 l4_158 H locs ls h hP hD hS hl => ?_) nf12 E_nearest_8 E_distances (0 : Int32) (0 : Int32) _ _ _ h hP hD hS (lv_sub hl [2, 3, 4, 1, 0] rfl)
  refine lv_aload_n hx hb dX1_listenAt_158 rfl (lv_at hl 0 rfl) ?_
  refine gfX1_9 hx hb hts hown hK hP 0 rfl dX1_listenAt_159 ?_
  refine lv_iload_n hx hb dX1_listenAt_162 rfl (lv_at hl 2 rfl) ?_
  refine lv_iload_n hx hb dX1_listenAt_163 rfl (lv_at hl 3 rfl) ?_
  refine lv_i2b hx hb dX1_listenAt_164 rfl ?_
  obtain ⟨hin, h⟩ := h
  refine stb (k := x2.toNatClampNeg) (y := (vp_nar .byte (jbyte l3_158))) hx hb hK hP hD hS 2 rfl hin rfl rfl dX1_listenAt_165 (fun E_heardAt_165 eE_heardAt_165 H locs hP hD hS => ?_)
  have h := h E_heardAt_165 eE_heardAt_165
  have hP : va_P D clsX [(h0, .inr (1, oX1 rE)), (a1, .inr (4, oX4 rG sG)), ((rE 0), .inl (cy 1, 100, .inl E_heardAt_165)), ((rE 1), .inl (cy 1, 3200, .inl E_nearest_158)), ((rE 2), .inl (cy 0, 5, .inl E_distances_158)), ((rG 7), .inl (cy 0, 5, .inl G_towerCell)), ((rG 8), .inl (cy 0, 5, .inl G_range))] H := hP
  have hD : va_D A [(h0, .inr (1, oX1 rE)), (a1, .inr (4, oX4 rG sG)), ((rE 0), .inl (cy 1, 100, .inl E_heardAt_165)), ((rE 1), .inl (cy 1, 3200, .inl E_nearest_158)), ((rE 2), .inl (cy 0, 5, .inl E_distances_158)), ((rG 7), .inl (cy 0, 5, .inl G_towerCell)), ((rG 8), .inl (cy 0, 5, .inl G_range))] := hD
  exact hret (E_heardAt_165, E_nearest_158, E_distances_158) _ _ _ _ dX1_listenAt_166 h hP hD hS
def wpX1_listen_L10 (sG : AR) (E_heardAt : AR) (E_nearest : AR) (E_distances : AR) (E_alike : AR) (G_towerCell : AR) (G_range : AR) (G_voice : AR) (kx41 : AR → Int32 → Prop) (post : AR → AR → AR → AR → AR → Prop) : Nat → AR → Int32 → Prop
  | 0, _, _ => False
  | nf10 + 1, E_ofVoice, l2 => (((sG 2) ≤ l2 → kx41 E_ofVoice l2) ∧ (¬ (sG 2) ≤ l2 → vp_in l2 5 ∧ vp_in (G_voice l2.toNatClampNeg) 4 ∧ vp_in (G_voice l2.toNatClampNeg) 4 ∧ ∀ E_ofVoice_34 : AR, E_ofVoice_34 = upd E_ofVoice (G_voice l2.toNatClampNeg).toNatClampNeg ((E_ofVoice (G_voice l2.toNatClampNeg).toNatClampNeg) ||| (jshl (1 : Int32) l2)) → ∀ l2_35 : Int32, l2_35 = (l2 + (1 : Int32)) → wpX1_listen_L10 sG E_heardAt E_nearest E_distances E_alike G_towerCell G_range G_voice kx41 post nf10 E_ofVoice_34 l2_35))
def wpX1_listen_L43 (sG : AR) (E_heardAt : AR) (E_nearest : AR) (E_distances : AR) (E_ofVoice : AR) (G_towerCell : AR) (G_range : AR) (G_voice : AR) (kx74 : AR → Int32 → Prop) (post : AR → AR → AR → AR → AR → Prop) : Nat → AR → Int32 → Prop
  | 0, _, _ => False
  | nf43 + 1, E_alike, l2 => (((sG 2) ≤ l2 → kx74 E_alike l2) ∧ (¬ (sG 2) ≤ l2 → vp_in l2 5 ∧ vp_in (G_voice l2.toNatClampNeg) 4 ∧ vp_in l2 5 ∧ ∀ E_alike_67 : AR, E_alike_67 = upd E_alike l2.toNatClampNeg (E_ofVoice (G_voice l2.toNatClampNeg).toNatClampNeg) → ∀ l2_68 : Int32, l2_68 = (l2 + (1 : Int32)) → wpX1_listen_L43 sG E_heardAt E_nearest E_distances E_ofVoice G_towerCell G_range G_voice kx74 post nf43 E_alike_67 l2_68))
def wpX1_listen_L86 (sG : AR) (E_ofVoice : AR) (E_alike : AR) (G_towerCell : AR) (G_range : AR) (G_voice : AR) (l2 : Int32) (kx103 : AR → AR → AR → Int32 → Prop) (post : AR → AR → AR → AR → AR → Prop) : Nat → AR → AR → AR → Int32 → Prop
  | 0, _, _, _, _ => False
  | nf86 + 1, E_heardAt, E_nearest, E_distances, l3 => ((l2 ≤ l3 → kx103 E_heardAt E_nearest E_distances l3) ∧ (¬ l2 ≤ l3 → wpX1_listenAt sG E_heardAt E_nearest E_distances G_towerCell G_range l3 (fun E_heardAt_94 E_nearest_94 E_distances_94 => ∀ l3_97 : Int32, l3_97 = (l3 + (1 : Int32)) → wpX1_listen_L86 sG E_ofVoice E_alike G_towerCell G_range G_voice l2 kx103 post nf86 E_heardAt_94 E_nearest_94 E_distances_94 l3_97)))
def wpX1_listen (sG : AR) (E_heardAt : AR) (E_nearest : AR) (E_distances : AR) (E_ofVoice : AR) (E_alike : AR) (G_towerCell : AR) (G_range : AR) (G_voice : AR) (post : AR → AR → AR → AR → AR → Prop) : Prop := wpJ7_fill_53178 E_ofVoice 4 (0 : Int32) (fun E_ofVoice_5 => ∃ nf10 : Nat, wpX1_listen_L10 sG E_heardAt E_nearest E_distances E_alike G_towerCell G_range G_voice (fun E_ofVoice_41 l2_41 => ∃ nf43 : Nat, wpX1_listen_L43 sG E_heardAt E_nearest E_distances E_ofVoice_41 G_towerCell G_range G_voice (fun E_alike_74 l2_74 => wpX4_cells sG (fun r75 => ∀ l2_83 : Int32, l2_83 = (jmin r75 (100 : Int32)) → ∃ nf86 : Nat, wpX1_listen_L86 sG E_ofVoice_41 E_alike_74 G_towerCell G_range G_voice l2_83 (fun E_heardAt_103 E_nearest_103 E_distances_103 l3_103 => post E_heardAt_103 E_nearest_103 E_distances_103 E_ofVoice_41 E_alike_74) post nf86 E_heardAt E_nearest E_distances (0 : Int32))) post nf43 E_alike (0 : Int32)) post nf10 E_ofVoice_5 (0 : Int32))
set_option maxHeartbeats 4000000 in
set_option maxRecDepth 100000 in
theorem ctX1_listen (l : Launch) (D : va_G) (cy : Nat → ClassId) (ev : Nat → Nat) (h0 : Nat) (a1 : Nat) (rE : Nat → Nat) (rG : Nat → Nat) (sG : AR) (E_heardAt : AR) (E_nearest : AR) (E_distances : AR) (E_ofVoice : AR) (E_alike : AR) (G_towerCell : AR) (G_range : AR) (G_voice : AR) (sz : Nat) (post : AR → AR → AR → AR → AR → Prop) (h : wpX1_listen sG E_heardAt E_nearest E_distances E_ofVoice E_alike G_towerCell G_range G_voice post) : Met l yX1_listen (Cond.code yX1_listen cX1_listen 4 none :: TB) ({ frames := 4, cells := 0, slots := 0, locals := 135 }) (va_Pc [.ref h0, .ref a1] (PreX D cy ev [(h0, .inr (1, oX1 rE)), (a1, .inr (4, oX4 rG sG)), ((rE 0), .inl (cy 1, 100, .inl E_heardAt)), ((rE 1), .inl (cy 1, 3200, .inl E_nearest)), ((rE 2), .inl (cy 0, 5, .inl E_distances)), ((rE 3), .inl (cy 0, 4, .inl E_ofVoice)), ((rE 4), .inl (cy 0, 5, .inl E_alike)), ((rG 7), .inl (cy 0, 5, .inl G_towerCell)), ((rG 8), .inl (cy 0, 5, .inl G_range)), ((rG 9), .inl (cy 0, 5, .inl G_voice))] sz)) (va_Qv (fun (u : AR × AR × AR × AR × AR) => post (u.1) (u.2.1) (u.2.2.1) (u.2.2.2.1) (u.2.2.2.2)) (fun u => BkX D cy [(h0, .inr (1, oX1 rE)), (a1, .inr (4, oX4 rG sG)), ((rE 0), .inl (cy 1, 100, .inl E_heardAt)), ((rE 1), .inl (cy 1, 3200, .inl E_nearest)), ((rE 2), .inl (cy 0, 5, .inl E_distances)), ((rE 3), .inl (cy 0, 4, .inl E_ofVoice)), ((rE 4), .inl (cy 0, 5, .inl E_alike)), ((rG 7), .inl (cy 0, 5, .inl G_towerCell)), ((rG 8), .inl (cy 0, 5, .inl G_range)), ((rG 9), .inl (cy 0, 5, .inl G_voice))] sz [(h0, .inr (1, oX1 rE)), (a1, .inr (4, oX4 rG sG)), ((rE 0), .inl (cy 1, 100, .inl (u.1))), ((rE 1), .inl (cy 1, 3200, .inl (u.2.1))), ((rE 2), .inl (cy 0, 5, .inl (u.2.2.1))), ((rE 3), .inl (cy 0, 4, .inl (u.2.2.2.1))), ((rE 4), .inl (cy 0, 5, .inl (u.2.2.2.2))), ((rG 7), .inl (cy 0, 5, .inl G_towerCell)), ((rG 8), .inl (cy 0, 5, .inl G_range)), ((rG 9), .inl (cy 0, 5, .inl G_voice))]) (va_A [(h0, .inr (1, oX1 rE)), (a1, .inr (4, oX4 rG sG)), ((rE 0), .inl (cy 1, 100, .inl E_heardAt)), ((rE 1), .inl (cy 1, 3200, .inl E_nearest)), ((rE 2), .inl (cy 0, 5, .inl E_distances)), ((rE 3), .inl (cy 0, 4, .inl E_ofVoice)), ((rE 4), .inl (cy 0, 5, .inl E_alike)), ((rG 7), .inl (cy 0, 5, .inl G_towerCell)), ((rG 8), .inl (cy 0, 5, .inl G_range)), ((rG 9), .inl (cy 0, 5, .inl G_voice))] sz)) 0 0 (va_A [(h0, .inr (1, oX1 rE)), (a1, .inr (4, oX4 rG sG)), ((rE 0), .inl (cy 1, 100, .inl E_heardAt)), ((rE 1), .inl (cy 1, 3200, .inl E_nearest)), ((rE 2), .inl (cy 0, 5, .inl E_distances)), ((rE 3), .inl (cy 0, 4, .inl E_ofVoice)), ((rE 4), .inl (cy 0, 5, .inl E_alike)), ((rG 7), .inl (cy 0, 5, .inl G_towerCell)), ((rG 8), .inl (cy 0, 5, .inl G_range)), ((rG 9), .inl (cy 0, 5, .inl G_voice))] sz) := by
  refine ofWv (by decide) (Nat.le_of_ble_eq_true rfl) ?_
  intro p e s m args below meth c ls A R QQ hx hb hml hown hts hR hlk hE hK hP hD hS hA hl hret
  have hown : s.vm.findClass RX1 = some m.cls := hown
  have hRf : 4 ≤ R.frames := by rw [hR]; exact Nat.le_refl _
  have hRl : 135 ≤ R.locals := by rw [hR]; exact Nat.le_refl _
  clear hR
  have hl : lv_has ls 4 [(0, .ref h0), (1, .ref a1)] := hl
  have L86 : ∀ (E_ofVoice : AR) (E_alike : AR) (l2 : Int32) (kx103 : AR → AR → AR → Int32 → Prop), (∀ (E_heardAt : AR) (E_nearest : AR) (E_distances : AR) (l3 : Int32) (H : Heap) (locs : List Loc) (ls : Array Slot), kx103 E_heardAt E_nearest E_distances l3 → va_P D clsX [(h0, .inr (1, oX1 rE)), (a1, .inr (4, oX4 rG sG)), ((rE 0), .inl (cy 1, 100, .inl E_heardAt)), ((rE 1), .inl (cy 1, 3200, .inl E_nearest)), ((rE 2), .inl (cy 0, 5, .inl E_distances)), ((rE 3), .inl (cy 0, 4, .inl E_ofVoice)), ((rE 4), .inl (cy 0, 5, .inl E_alike)), ((rG 7), .inl (cy 0, 5, .inl G_towerCell)), ((rG 8), .inl (cy 0, 5, .inl G_range)), ((rG 9), .inl (cy 0, 5, .inl G_voice))] H → va_D A [(h0, .inr (1, oX1 rE)), (a1, .inr (4, oX4 rG sG)), ((rE 0), .inl (cy 1, 100, .inl E_heardAt)), ((rE 1), .inl (cy 1, 3200, .inl E_nearest)), ((rE 2), .inl (cy 0, 5, .inl E_distances)), ((rE 3), .inl (cy 0, 4, .inl E_ofVoice)), ((rE 4), .inl (cy 0, 5, .inl E_alike)), ((rG 7), .inl (cy 0, 5, .inl G_towerCell)), ((rG 8), .inl (cy 0, 5, .inl G_range)), ((rG 9), .inl (cy 0, 5, .inl G_voice))] → va_S A s.heap H locs → lv_has ls 4 [(0, .ref h0), (1, .ref a1)] → W p l e R s m args below meth c H locs 0 0 QQ (F0 m 103 ls [])) → ∀ (nf86 : Nat) (E_heardAt : AR) (E_nearest : AR) (E_distances : AR) (l3 : Int32) (H : Heap) (locs : List Loc) (ls : Array Slot), wpX1_listen_L86 sG E_ofVoice E_alike G_towerCell G_range G_voice l2 kx103 post nf86 E_heardAt E_nearest E_distances l3 → va_P D clsX [(h0, .inr (1, oX1 rE)), (a1, .inr (4, oX4 rG sG)), ((rE 0), .inl (cy 1, 100, .inl E_heardAt)), ((rE 1), .inl (cy 1, 3200, .inl E_nearest)), ((rE 2), .inl (cy 0, 5, .inl E_distances)), ((rE 3), .inl (cy 0, 4, .inl E_ofVoice)), ((rE 4), .inl (cy 0, 5, .inl E_alike)), ((rG 7), .inl (cy 0, 5, .inl G_towerCell)), ((rG 8), .inl (cy 0, 5, .inl G_range)), ((rG 9), .inl (cy 0, 5, .inl G_voice))] H → va_D A [(h0, .inr (1, oX1 rE)), (a1, .inr (4, oX4 rG sG)), ((rE 0), .inl (cy 1, 100, .inl E_heardAt)), ((rE 1), .inl (cy 1, 3200, .inl E_nearest)), ((rE 2), .inl (cy 0, 5, .inl E_distances)), ((rE 3), .inl (cy 0, 4, .inl E_ofVoice)), ((rE 4), .inl (cy 0, 5, .inl E_alike)), ((rG 7), .inl (cy 0, 5, .inl G_towerCell)), ((rG 8), .inl (cy 0, 5, .inl G_range)), ((rG 9), .inl (cy 0, 5, .inl G_voice))] → va_S A s.heap H locs → lv_has ls 4 [(0, .ref h0), (1, .ref a1), (2, .int l2), (3, .int l3)] → W p l e R s m args below meth c H locs 0 0 QQ (F0 m 86 ls []) := by
    intro E_ofVoice E_alike l2 kx103 hk86_103 nf86
    induction nf86 with
    | zero =>
      intro E_heardAt E_nearest E_distances l3 H locs ls h
      exact (show False from h).elim
    | succ nf86 ih86 =>
      intro E_heardAt E_nearest E_distances l3 H locs ls h hP hD hS hl
      refine lv_iload_n hx hb dX1_listen_86 rfl (lv_at hl 3 rfl) ?_
      refine lv_iload_n hx hb dX1_listen_87 rfl (lv_at hl 2 rfl) ?_
      refine lv_icmp_ge (tgt := 103) hx hb dX1_listen_88 (by decide) (fun c88 => ?_) (fun c88 => ?_)
      · have h := h.1 c88
        exact hk86_103 E_heardAt E_nearest E_distances l3 _ _ _ h hP hD hS (lv_sub hl [0, 1] rfl)
      · have h := h.2 c88
        refine lv_aload_n hx hb dX1_listen_91 rfl (lv_at hl 0 rfl) ?_
        refine lv_aload_n hx hb dX1_listen_92 rfl (lv_at hl 1 rfl) ?_
        refine lv_iload_n hx hb dX1_listen_93 rfl (lv_at hl 3 rfl) ?_
        refine clVv (As := [.ref a1, .int l3]) (rest := []) (Wr := [((rE 3), .inl (cy 0, 4, .inl E_ofVoice)), ((rE 4), .inl (cy 0, 5, .inl E_alike)), ((rG 9), .inl (cy 0, 5, .inl G_voice))]) (cq := (RX1, TX1, 5)) ⟨hx, hb, hml, hown, hts⟩ ⟨callB_of 2 hts (goodC mw404) rfl rfl rfl (hts _ (tb mw4)) (hts _ (tb mw401)) kdX1_listenAt ⟨Nat.le_trans (by decide) hRf, Nat.le_trans (by decide) hRl⟩, hts _ (tb mw403), hts _ (tb ms1)⟩ (ctX1_listenAt l D cy ev h0 a1 rE rG sG E_heardAt E_nearest E_distances G_towerCell G_range l3 _ _ h) hE hK hP hD hS hA [0, 1, 2, 3, 4, 7, 8] [5, 6, 9] rfl rfl (by decide) (by decide) (by decide) 0 rfl rfl rfl hl.1 rfl (Nat.le_of_ble_eq_true rfl) ⟨Nat.zero_le _, Nat.zero_le _⟩ dX1_listen_94 (fun u H locs h hP hD hS => ?_)
        obtain ⟨E_heardAt_94, E_nearest_94, E_distances_94⟩ := u
        have hP : va_P D clsX [((rE 3), .inl (cy 0, 4, .inl E_ofVoice)), ((rE 4), .inl (cy 0, 5, .inl E_alike)), ((rG 9), .inl (cy 0, 5, .inl G_voice)), (h0, .inr (1, oX1 rE)), (a1, .inr (4, oX4 rG sG)), ((rE 0), .inl (cy 1, 100, .inl E_heardAt_94)), ((rE 1), .inl (cy 1, 3200, .inl E_nearest_94)), ((rE 2), .inl (cy 0, 5, .inl E_distances_94)), ((rG 7), .inl (cy 0, 5, .inl G_towerCell)), ((rG 8), .inl (cy 0, 5, .inl G_range))] H := hP
        have hD : va_D A [((rE 3), .inl (cy 0, 4, .inl E_ofVoice)), ((rE 4), .inl (cy 0, 5, .inl E_alike)), ((rG 9), .inl (cy 0, 5, .inl G_voice)), (h0, .inr (1, oX1 rE)), (a1, .inr (4, oX4 rG sG)), ((rE 0), .inl (cy 1, 100, .inl E_heardAt_94)), ((rE 1), .inl (cy 1, 3200, .inl E_nearest_94)), ((rE 2), .inl (cy 0, 5, .inl E_distances_94)), ((rG 7), .inl (cy 0, 5, .inl G_towerCell)), ((rG 8), .inl (cy 0, 5, .inl G_range))] := hD
        obtain ⟨l3_97, el3_97⟩ : ∃ y : Int32, y = l3 + (1 : Int32) := ⟨_, rfl⟩
        have h := h l3_97 el3_97
        refine lv_iinc (v := l3_97) (lv' := [(3, .int l3_97), (0, .ref h0), (1, .ref a1), (2, .int l2)]) hx hb dX1_listen_97 hl (k := 3) rfl (by rw [el3_97]; rfl) (by decide) rfl (fun ls hl => ?_)
        refine lv_goto (tgt := 86) hx hb dX1_listen_100 (by decide) ?_
        exact ih86 E_heardAt_94 E_nearest_94 E_distances_94 l3_97 _ _ _ h (hP.sub [3, 4, 5, 6, 7, 0, 1, 8, 9, 2] rfl) (hD.sub [3, 4, 5, 6, 7, 0, 1, 8, 9, 2] (by decide) rfl) hS (lv_sub hl [1, 2, 3, 0] rfl)
  have L43 : ∀ (E_ofVoice : AR) (kx74 : AR → Int32 → Prop), (∀ (E_alike : AR) (l2 : Int32) (H : Heap) (locs : List Loc) (ls : Array Slot), kx74 E_alike l2 → va_P D clsX [(h0, .inr (1, oX1 rE)), (a1, .inr (4, oX4 rG sG)), ((rE 0), .inl (cy 1, 100, .inl E_heardAt)), ((rE 1), .inl (cy 1, 3200, .inl E_nearest)), ((rE 2), .inl (cy 0, 5, .inl E_distances)), ((rE 3), .inl (cy 0, 4, .inl E_ofVoice)), ((rE 4), .inl (cy 0, 5, .inl E_alike)), ((rG 7), .inl (cy 0, 5, .inl G_towerCell)), ((rG 8), .inl (cy 0, 5, .inl G_range)), ((rG 9), .inl (cy 0, 5, .inl G_voice))] H → va_D A [(h0, .inr (1, oX1 rE)), (a1, .inr (4, oX4 rG sG)), ((rE 0), .inl (cy 1, 100, .inl E_heardAt)), ((rE 1), .inl (cy 1, 3200, .inl E_nearest)), ((rE 2), .inl (cy 0, 5, .inl E_distances)), ((rE 3), .inl (cy 0, 4, .inl E_ofVoice)), ((rE 4), .inl (cy 0, 5, .inl E_alike)), ((rG 7), .inl (cy 0, 5, .inl G_towerCell)), ((rG 8), .inl (cy 0, 5, .inl G_range)), ((rG 9), .inl (cy 0, 5, .inl G_voice))] → va_S A s.heap H locs → lv_has ls 4 [(0, .ref h0), (1, .ref a1)] → W p l e R s m args below meth c H locs 0 0 QQ (F0 m 74 ls [])) → ∀ (nf43 : Nat) (E_alike : AR) (l2 : Int32) (H : Heap) (locs : List Loc) (ls : Array Slot), wpX1_listen_L43 sG E_heardAt E_nearest E_distances E_ofVoice G_towerCell G_range G_voice kx74 post nf43 E_alike l2 → va_P D clsX [(h0, .inr (1, oX1 rE)), (a1, .inr (4, oX4 rG sG)), ((rE 0), .inl (cy 1, 100, .inl E_heardAt)), ((rE 1), .inl (cy 1, 3200, .inl E_nearest)), ((rE 2), .inl (cy 0, 5, .inl E_distances)), ((rE 3), .inl (cy 0, 4, .inl E_ofVoice)), ((rE 4), .inl (cy 0, 5, .inl E_alike)), ((rG 7), .inl (cy 0, 5, .inl G_towerCell)), ((rG 8), .inl (cy 0, 5, .inl G_range)), ((rG 9), .inl (cy 0, 5, .inl G_voice))] H → va_D A [(h0, .inr (1, oX1 rE)), (a1, .inr (4, oX4 rG sG)), ((rE 0), .inl (cy 1, 100, .inl E_heardAt)), ((rE 1), .inl (cy 1, 3200, .inl E_nearest)), ((rE 2), .inl (cy 0, 5, .inl E_distances)), ((rE 3), .inl (cy 0, 4, .inl E_ofVoice)), ((rE 4), .inl (cy 0, 5, .inl E_alike)), ((rG 7), .inl (cy 0, 5, .inl G_towerCell)), ((rG 8), .inl (cy 0, 5, .inl G_range)), ((rG 9), .inl (cy 0, 5, .inl G_voice))] → va_S A s.heap H locs → lv_has ls 4 [(0, .ref h0), (1, .ref a1), (2, .int l2)] → W p l e R s m args below meth c H locs 0 0 QQ (F0 m 43 ls []) := by
    intro E_ofVoice kx74 hk43_74 nf43
    induction nf43 with
    | zero =>
      intro E_alike l2 H locs ls h
      exact (show False from h).elim
    | succ nf43 ih43 =>
      intro E_alike l2 H locs ls h hP hD hS hl
      refine lv_iload_n hx hb dX1_listen_43 rfl (lv_at hl 2 rfl) ?_
      refine lv_aload_n hx hb dX1_listen_44 rfl (lv_at hl 1 rfl) ?_
      refine gfX1_34 (v := (sG 2)) hx hb hts hown hK hP 1 rfl rfl dX1_listen_45 ?_
      refine lv_icmp_ge (tgt := 74) hx hb dX1_listen_48 (by decide) (fun c48 => ?_) (fun c48 => ?_)
      · have h := h.1 c48
        exact hk43_74 E_alike l2 _ _ _ h hP hD hS (lv_sub hl [0, 1] rfl)
      · have h := h.2 c48
        refine lv_aload_n hx hb dX1_listen_51 rfl (lv_at hl 0 rfl) ?_
        refine gfX1_25 hx hb hts hown hK hP 0 rfl dX1_listen_52 ?_
        refine lv_iload_n hx hb dX1_listen_55 rfl (lv_at hl 2 rfl) ?_
        refine lv_aload_n hx hb dX1_listen_56 rfl (lv_at hl 0 rfl) ?_
        refine gfX1_22 hx hb hts hown hK hP 0 rfl dX1_listen_57 ?_
        refine lv_aload_n hx hb dX1_listen_60 rfl (lv_at hl 1 rfl) ?_
        refine gfX1_40 hx hb hts hown hK hP 1 rfl dX1_listen_61 ?_
        refine lv_iload_n hx hb dX1_listen_64 rfl (lv_at hl 2 rfl) ?_
        obtain ⟨hin, h⟩ := h
        refine ldi (k := l2.toNatClampNeg) hx hb hK hP 9 rfl hin rfl dX1_listen_65 ?_
        obtain ⟨hin, h⟩ := h
        refine ldi (k := (G_voice l2.toNatClampNeg).toNatClampNeg) hx hb hK hP 5 rfl hin rfl dX1_listen_66 ?_
        obtain ⟨hin, h⟩ := h
        refine sti (k := l2.toNatClampNeg) (y := (E_ofVoice (G_voice l2.toNatClampNeg).toNatClampNeg)) hx hb hK hP hD hS 6 rfl hin rfl rfl dX1_listen_67 (fun E_alike_67 eE_alike_67 H locs hP hD hS => ?_)
        have h := h E_alike_67 eE_alike_67
        have hP : va_P D clsX [(h0, .inr (1, oX1 rE)), (a1, .inr (4, oX4 rG sG)), ((rE 0), .inl (cy 1, 100, .inl E_heardAt)), ((rE 1), .inl (cy 1, 3200, .inl E_nearest)), ((rE 2), .inl (cy 0, 5, .inl E_distances)), ((rE 3), .inl (cy 0, 4, .inl E_ofVoice)), ((rE 4), .inl (cy 0, 5, .inl E_alike_67)), ((rG 7), .inl (cy 0, 5, .inl G_towerCell)), ((rG 8), .inl (cy 0, 5, .inl G_range)), ((rG 9), .inl (cy 0, 5, .inl G_voice))] H := hP
        have hD : va_D A [(h0, .inr (1, oX1 rE)), (a1, .inr (4, oX4 rG sG)), ((rE 0), .inl (cy 1, 100, .inl E_heardAt)), ((rE 1), .inl (cy 1, 3200, .inl E_nearest)), ((rE 2), .inl (cy 0, 5, .inl E_distances)), ((rE 3), .inl (cy 0, 4, .inl E_ofVoice)), ((rE 4), .inl (cy 0, 5, .inl E_alike_67)), ((rG 7), .inl (cy 0, 5, .inl G_towerCell)), ((rG 8), .inl (cy 0, 5, .inl G_range)), ((rG 9), .inl (cy 0, 5, .inl G_voice))] := hD
        obtain ⟨l2_68, el2_68⟩ : ∃ y : Int32, y = l2 + (1 : Int32) := ⟨_, rfl⟩
        have h := h l2_68 el2_68
        refine lv_iinc (v := l2_68) (lv' := [(2, .int l2_68), (0, .ref h0), (1, .ref a1)]) hx hb dX1_listen_68 hl (k := 2) rfl (by rw [el2_68]; rfl) (by decide) rfl (fun ls hl => ?_)
        refine lv_goto (tgt := 43) hx hb dX1_listen_71 (by decide) ?_
        exact ih43 E_alike_67 l2_68 _ _ _ h hP hD hS (lv_sub hl [1, 2, 0] rfl)
  have L10 : ∀ (kx41 : AR → Int32 → Prop), (∀ (E_ofVoice : AR) (l2 : Int32) (H : Heap) (locs : List Loc) (ls : Array Slot), kx41 E_ofVoice l2 → va_P D clsX [(h0, .inr (1, oX1 rE)), (a1, .inr (4, oX4 rG sG)), ((rE 0), .inl (cy 1, 100, .inl E_heardAt)), ((rE 1), .inl (cy 1, 3200, .inl E_nearest)), ((rE 2), .inl (cy 0, 5, .inl E_distances)), ((rE 3), .inl (cy 0, 4, .inl E_ofVoice)), ((rE 4), .inl (cy 0, 5, .inl E_alike)), ((rG 7), .inl (cy 0, 5, .inl G_towerCell)), ((rG 8), .inl (cy 0, 5, .inl G_range)), ((rG 9), .inl (cy 0, 5, .inl G_voice))] H → va_D A [(h0, .inr (1, oX1 rE)), (a1, .inr (4, oX4 rG sG)), ((rE 0), .inl (cy 1, 100, .inl E_heardAt)), ((rE 1), .inl (cy 1, 3200, .inl E_nearest)), ((rE 2), .inl (cy 0, 5, .inl E_distances)), ((rE 3), .inl (cy 0, 4, .inl E_ofVoice)), ((rE 4), .inl (cy 0, 5, .inl E_alike)), ((rG 7), .inl (cy 0, 5, .inl G_towerCell)), ((rG 8), .inl (cy 0, 5, .inl G_range)), ((rG 9), .inl (cy 0, 5, .inl G_voice))] → va_S A s.heap H locs → lv_has ls 4 [(0, .ref h0), (1, .ref a1)] → W p l e R s m args below meth c H locs 0 0 QQ (F0 m 41 ls [])) → ∀ (nf10 : Nat) (E_ofVoice : AR) (l2 : Int32) (H : Heap) (locs : List Loc) (ls : Array Slot), wpX1_listen_L10 sG E_heardAt E_nearest E_distances E_alike G_towerCell G_range G_voice kx41 post nf10 E_ofVoice l2 → va_P D clsX [(h0, .inr (1, oX1 rE)), (a1, .inr (4, oX4 rG sG)), ((rE 0), .inl (cy 1, 100, .inl E_heardAt)), ((rE 1), .inl (cy 1, 3200, .inl E_nearest)), ((rE 2), .inl (cy 0, 5, .inl E_distances)), ((rE 3), .inl (cy 0, 4, .inl E_ofVoice)), ((rE 4), .inl (cy 0, 5, .inl E_alike)), ((rG 7), .inl (cy 0, 5, .inl G_towerCell)), ((rG 8), .inl (cy 0, 5, .inl G_range)), ((rG 9), .inl (cy 0, 5, .inl G_voice))] H → va_D A [(h0, .inr (1, oX1 rE)), (a1, .inr (4, oX4 rG sG)), ((rE 0), .inl (cy 1, 100, .inl E_heardAt)), ((rE 1), .inl (cy 1, 3200, .inl E_nearest)), ((rE 2), .inl (cy 0, 5, .inl E_distances)), ((rE 3), .inl (cy 0, 4, .inl E_ofVoice)), ((rE 4), .inl (cy 0, 5, .inl E_alike)), ((rG 7), .inl (cy 0, 5, .inl G_towerCell)), ((rG 8), .inl (cy 0, 5, .inl G_range)), ((rG 9), .inl (cy 0, 5, .inl G_voice))] → va_S A s.heap H locs → lv_has ls 4 [(0, .ref h0), (1, .ref a1), (2, .int l2)] → W p l e R s m args below meth c H locs 0 0 QQ (F0 m 10 ls []) := by
    intro kx41 hk10_41 nf10
    induction nf10 with
    | zero =>
      intro E_ofVoice l2 H locs ls h
      exact (show False from h).elim
    | succ nf10 ih10 =>
      intro E_ofVoice l2 H locs ls h hP hD hS hl
      refine lv_iload_n hx hb dX1_listen_10 rfl (lv_at hl 2 rfl) ?_
      refine lv_aload_n hx hb dX1_listen_11 rfl (lv_at hl 1 rfl) ?_
      refine gfX1_34 (v := (sG 2)) hx hb hts hown hK hP 1 rfl rfl dX1_listen_12 ?_
      refine lv_icmp_ge (tgt := 41) hx hb dX1_listen_15 (by decide) (fun c15 => ?_) (fun c15 => ?_)
      · have h := h.1 c15
        exact hk10_41 E_ofVoice l2 _ _ _ h hP hD hS (lv_sub hl [0, 1] rfl)
      · have h := h.2 c15
        refine lv_aload_n hx hb dX1_listen_18 rfl (lv_at hl 0 rfl) ?_
        refine gfX1_22 hx hb hts hown hK hP 0 rfl dX1_listen_19 ?_
        refine lv_aload_n hx hb dX1_listen_22 rfl (lv_at hl 1 rfl) ?_
        refine gfX1_40 hx hb hts hown hK hP 1 rfl dX1_listen_23 ?_
        refine lv_iload_n hx hb dX1_listen_26 rfl (lv_at hl 2 rfl) ?_
        obtain ⟨hin, h⟩ := h
        refine ldi (k := l2.toNatClampNeg) hx hb hK hP 9 rfl hin rfl dX1_listen_27 ?_
        refine lv_dup2_11 hx hb dX1_listen_28 rfl rfl ?_
        obtain ⟨hin, h⟩ := h
        refine ldi (k := (G_voice l2.toNatClampNeg).toNatClampNeg) hx hb hK hP 5 rfl hin rfl dX1_listen_29 ?_
        refine lv_iconst (v := (1 : Int32)) hx hb dX1_listen_30 (by decide) ?_
        refine lv_iload_n hx hb dX1_listen_31 rfl (lv_at hl 2 rfl) ?_
        refine lv_ishl hx hb dX1_listen_32 ?_
        refine lv_ior hx hb dX1_listen_33 ?_
        obtain ⟨hin, h⟩ := h
        refine sti (k := (G_voice l2.toNatClampNeg).toNatClampNeg) (y := ((E_ofVoice (G_voice l2.toNatClampNeg).toNatClampNeg) ||| (jshl (1 : Int32) l2))) hx hb hK hP hD hS 5 rfl hin rfl rfl dX1_listen_34 (fun E_ofVoice_34 eE_ofVoice_34 H locs hP hD hS => ?_)
        have h := h E_ofVoice_34 eE_ofVoice_34
        have hP : va_P D clsX [(h0, .inr (1, oX1 rE)), (a1, .inr (4, oX4 rG sG)), ((rE 0), .inl (cy 1, 100, .inl E_heardAt)), ((rE 1), .inl (cy 1, 3200, .inl E_nearest)), ((rE 2), .inl (cy 0, 5, .inl E_distances)), ((rE 3), .inl (cy 0, 4, .inl E_ofVoice_34)), ((rE 4), .inl (cy 0, 5, .inl E_alike)), ((rG 7), .inl (cy 0, 5, .inl G_towerCell)), ((rG 8), .inl (cy 0, 5, .inl G_range)), ((rG 9), .inl (cy 0, 5, .inl G_voice))] H := hP
        have hD : va_D A [(h0, .inr (1, oX1 rE)), (a1, .inr (4, oX4 rG sG)), ((rE 0), .inl (cy 1, 100, .inl E_heardAt)), ((rE 1), .inl (cy 1, 3200, .inl E_nearest)), ((rE 2), .inl (cy 0, 5, .inl E_distances)), ((rE 3), .inl (cy 0, 4, .inl E_ofVoice_34)), ((rE 4), .inl (cy 0, 5, .inl E_alike)), ((rG 7), .inl (cy 0, 5, .inl G_towerCell)), ((rG 8), .inl (cy 0, 5, .inl G_range)), ((rG 9), .inl (cy 0, 5, .inl G_voice))] := hD
        obtain ⟨l2_35, el2_35⟩ : ∃ y : Int32, y = l2 + (1 : Int32) := ⟨_, rfl⟩
        have h := h l2_35 el2_35
        refine lv_iinc (v := l2_35) (lv' := [(2, .int l2_35), (0, .ref h0), (1, .ref a1)]) hx hb dX1_listen_35 hl (k := 2) rfl (by rw [el2_35]; rfl) (by decide) rfl (fun ls hl => ?_)
        refine lv_goto (tgt := 10) hx hb dX1_listen_38 (by decide) ?_
        exact ih10 E_ofVoice_34 l2_35 _ _ _ h hP hD hS (lv_sub hl [1, 2, 0] rfl)
  refine lv_aload_n hx hb dX1_listen_0 rfl (lv_at hl 0 rfl) ?_
  refine gfX1_22 hx hb hts hown hK hP 0 rfl dX1_listen_1 ?_
  refine lv_iconst (v := (0 : Int32)) hx hb dX1_listen_4 (by decide) ?_
  refine clSv (As := [.ref (rE 3), .int (0 : Int32)]) (rest := []) (Wr := [(h0, .inr (1, oX1 rE)), (a1, .inr (4, oX4 rG sG)), ((rE 0), .inl (cy 1, 100, .inl E_heardAt)), ((rE 1), .inl (cy 1, 3200, .inl E_nearest)), ((rE 2), .inl (cy 0, 5, .inl E_distances)), ((rE 4), .inl (cy 0, 5, .inl E_alike)), ((rG 7), .inl (cy 0, 5, .inl G_towerCell)), ((rG 8), .inl (cy 0, 5, .inl G_range)), ((rG 9), .inl (cy 0, 5, .inl G_voice))]) ⟨hx, hb, hml, hown, hts⟩ ⟨callB_of 2 hts (goodC mw393) rfl rfl rfl (hts _ (tb mw12)) (hts _ (tb mw391)) kdJ7_fill_53178 ⟨Nat.le_trans (by decide) hRf, Nat.le_trans (by decide) hRl⟩, hts _ (tb mw392)⟩ (ctJ7_fill_53178 l D cy ev (rE 3) E_ofVoice 4 (0 : Int32) _ _ h) hE hK hP hD hS hA [5] [0, 1, 2, 3, 4, 6, 7, 8, 9] rfl rfl (by decide) (by decide) (by decide) rfl hl.1 rfl (Nat.le_of_ble_eq_true rfl) ⟨Nat.zero_le _, Nat.zero_le _⟩ dX1_listen_5 (fun E_ofVoice_5 H locs h hP hD hS => ?_)
  have hP : va_P D clsX [(h0, .inr (1, oX1 rE)), (a1, .inr (4, oX4 rG sG)), ((rE 0), .inl (cy 1, 100, .inl E_heardAt)), ((rE 1), .inl (cy 1, 3200, .inl E_nearest)), ((rE 2), .inl (cy 0, 5, .inl E_distances)), ((rE 4), .inl (cy 0, 5, .inl E_alike)), ((rG 7), .inl (cy 0, 5, .inl G_towerCell)), ((rG 8), .inl (cy 0, 5, .inl G_range)), ((rG 9), .inl (cy 0, 5, .inl G_voice)), ((rE 3), .inl (cy 0, 4, .inl E_ofVoice_5))] H := hP
  have hD : va_D A [(h0, .inr (1, oX1 rE)), (a1, .inr (4, oX4 rG sG)), ((rE 0), .inl (cy 1, 100, .inl E_heardAt)), ((rE 1), .inl (cy 1, 3200, .inl E_nearest)), ((rE 2), .inl (cy 0, 5, .inl E_distances)), ((rE 4), .inl (cy 0, 5, .inl E_alike)), ((rG 7), .inl (cy 0, 5, .inl G_towerCell)), ((rG 8), .inl (cy 0, 5, .inl G_range)), ((rG 9), .inl (cy 0, 5, .inl G_voice)), ((rE 3), .inl (cy 0, 4, .inl E_ofVoice_5))] := hD
  refine lv_iconst (v := (0 : Int32)) hx hb dX1_listen_8 (by decide) ?_
  refine lv_istore_n (lv' := [(2, .int (0 : Int32)), (0, .ref h0), (1, .ref a1)]) hx hb dX1_listen_9 rfl hl (by decide) rfl (fun ls hl => ?_)
  obtain ⟨nf10, h⟩ := h
  refine L10  _ (fun E_ofVoice_41 l2_41 H locs ls h hP hD hS hl => ?_) nf10 E_ofVoice_5 (0 : Int32) _ _ _ h (hP.sub [0, 1, 2, 3, 4, 9, 5, 6, 7, 8] rfl) (hD.sub [0, 1, 2, 3, 4, 9, 5, 6, 7, 8] (by decide) rfl) hS (lv_sub hl [1, 2, 0] rfl)
  refine lv_iconst (v := (0 : Int32)) hx hb dX1_listen_41 (by decide) ?_
  refine lv_istore_n (lv' := [(2, .int (0 : Int32)), (0, .ref h0), (1, .ref a1)]) hx hb dX1_listen_42 rfl hl (by decide) rfl (fun ls hl => ?_)
  obtain ⟨nf43, h⟩ := h
  refine L43 E_ofVoice_41 _ (fun E_alike_74 l2_74 H locs ls h hP hD hS hl => ?_) nf43 E_alike (0 : Int32) _ _ _ h hP hD hS (lv_sub hl [1, 2, 0] rfl)
  refine lv_aload_n hx hb dX1_listen_74 rfl (lv_at hl 1 rfl) ?_
  refine clVi (As := []) (rest := []) (Wr := [(h0, .inr (1, oX1 rE)), ((rE 0), .inl (cy 1, 100, .inl E_heardAt)), ((rE 1), .inl (cy 1, 3200, .inl E_nearest)), ((rE 2), .inl (cy 0, 5, .inl E_distances)), ((rE 3), .inl (cy 0, 4, .inl E_ofVoice_41)), ((rE 4), .inl (cy 0, 5, .inl E_alike_74)), ((rG 7), .inl (cy 0, 5, .inl G_towerCell)), ((rG 8), .inl (cy 0, 5, .inl G_range)), ((rG 9), .inl (cy 0, 5, .inl G_voice))]) (cq := (RX4, TX4, 16)) ⟨hx, hb, hml, hown, hts⟩ ⟨callB_of 0 hts (goodC mw397) rfl rfl rfl (hts _ (tb mw3)) (hts _ (tb mw394)) kdX4_cells ⟨Nat.le_trans (by decide) hRf, Nat.le_trans (by decide) hRl⟩, hts _ (tb mw395), hts _ (tb mw396)⟩ (ctX4_cells l D cy ev a1 rG sG  _ _ h) hE hK hP hD hS hA [1] [0, 2, 3, 4, 5, 6, 7, 8, 9] rfl rfl (by decide) (by decide) (by decide) 0 rfl rfl rfl hl.1 rfl (Nat.le_of_ble_eq_true rfl) ⟨Nat.zero_le _, Nat.zero_le _⟩ dX1_listen_75 (fun r75 u H locs h hP hD hS => ?_)
  have hP : va_P D clsX [(h0, .inr (1, oX1 rE)), ((rE 0), .inl (cy 1, 100, .inl E_heardAt)), ((rE 1), .inl (cy 1, 3200, .inl E_nearest)), ((rE 2), .inl (cy 0, 5, .inl E_distances)), ((rE 3), .inl (cy 0, 4, .inl E_ofVoice_41)), ((rE 4), .inl (cy 0, 5, .inl E_alike_74)), ((rG 7), .inl (cy 0, 5, .inl G_towerCell)), ((rG 8), .inl (cy 0, 5, .inl G_range)), ((rG 9), .inl (cy 0, 5, .inl G_voice)), (a1, .inr (4, oX4 rG sG))] H := hP
  have hD : va_D A [(h0, .inr (1, oX1 rE)), ((rE 0), .inl (cy 1, 100, .inl E_heardAt)), ((rE 1), .inl (cy 1, 3200, .inl E_nearest)), ((rE 2), .inl (cy 0, 5, .inl E_distances)), ((rE 3), .inl (cy 0, 4, .inl E_ofVoice_41)), ((rE 4), .inl (cy 0, 5, .inl E_alike_74)), ((rG 7), .inl (cy 0, 5, .inl G_towerCell)), ((rG 8), .inl (cy 0, 5, .inl G_range)), ((rG 9), .inl (cy 0, 5, .inl G_voice)), (a1, .inr (4, oX4 rG sG))] := hD
  refine lv_bipush (v := (100 : Int32)) hx hb dX1_listen_78 (by decide) ?_
  refine mmin hx hb (hml.trans hl.1.symm) hts hown mw398 (Nat.le_trans (by decide) hRf) (Nat.le_trans (Nat.le_of_ble_eq_true rfl) hRl) (Nat.zero_le _) (Nat.zero_le _) dX1_listen_80 ?_
  refine lv_topi (fun l2_83 el2_83 => ?_)
  have h := h l2_83 el2_83
  refine lv_istore_n (lv' := [(2, .int l2_83), (0, .ref h0), (1, .ref a1)]) hx hb dX1_listen_83 rfl hl (by decide) rfl (fun ls hl => ?_)
  refine lv_iconst (v := (0 : Int32)) hx hb dX1_listen_84 (by decide) ?_
  refine lv_istore_n (lv' := [(3, .int (0 : Int32)), (2, .int l2_83), (0, .ref h0), (1, .ref a1)]) hx hb dX1_listen_85 rfl hl (by decide) rfl (fun ls hl => ?_)
  obtain ⟨nf86, h⟩ := h
  refine L86 E_ofVoice_41 E_alike_74 l2_83 _ (fun E_heardAt_103 E_nearest_103 E_distances_103 l3_103 H locs ls h hP hD hS hl => ?_) nf86 E_heardAt E_nearest E_distances (0 : Int32) _ _ _ h (hP.sub [0, 9, 1, 2, 3, 4, 5, 6, 7, 8] rfl) (hD.sub [0, 9, 1, 2, 3, 4, 5, 6, 7, 8] (by decide) rfl) hS (lv_sub hl [2, 3, 1, 0] rfl)
  exact hret (E_heardAt_103, E_nearest_103, E_distances_103, E_ofVoice_41, E_alike_74) _ _ _ _ dX1_listen_103 h hP hD hS
def wpX1_nearestOf (E_nearest : AR) (x1 : Int32) (x2 : Int32) (post : Int32 → Prop) : Prop := vp_in ((x1 * (100 : Int32)) + x2) 3200 ∧ post (E_nearest ((x1 * (100 : Int32)) + x2).toNatClampNeg)
set_option maxHeartbeats 4000000 in
set_option maxRecDepth 100000 in
theorem ctX1_nearestOf (l : Launch) (D : va_G) (cy : Nat → ClassId) (ev : Nat → Nat) (h0 : Nat) (rE : Nat → Nat) (E_nearest : AR) (x1 : Int32) (x2 : Int32) (sz : Nat) (post : Int32 → Prop) (h : wpX1_nearestOf E_nearest x1 x2 post) : Met l yX1_nearestOf (Cond.code yX1_nearestOf cX1_nearestOf 3 (some .int) :: TB) ({ frames := 0, cells := 0, slots := 0, locals := 0 }) (va_Pc [.ref h0, .int x1, .int x2] (PreX D cy ev [(h0, .inr (1, oX1 rE)), ((rE 1), .inl (cy 1, 3200, .inl E_nearest))] sz)) (va_Qi (fun (r : Int32) (u : Unit) => post r) (fun u => BkX D cy [(h0, .inr (1, oX1 rE)), ((rE 1), .inl (cy 1, 3200, .inl E_nearest))] sz [(h0, .inr (1, oX1 rE)), ((rE 1), .inl (cy 1, 3200, .inl E_nearest))]) (va_A [(h0, .inr (1, oX1 rE)), ((rE 1), .inl (cy 1, 3200, .inl E_nearest))] sz)) 0 0 (va_A [(h0, .inr (1, oX1 rE)), ((rE 1), .inl (cy 1, 3200, .inl E_nearest))] sz) := by
  refine ofWi (by decide) (Nat.le_of_ble_eq_true rfl) ?_
  intro p e s m args below meth c ls A R QQ hx hb hml hown hts hR hlk hE hK hP hD hS hA hl hret
  have hown : s.vm.findClass RX1 = some m.cls := hown
  have hRf : 0 ≤ R.frames := by rw [hR]; exact Nat.le_refl _
  have hRl : 0 ≤ R.locals := by rw [hR]; exact Nat.le_refl _
  clear hR
  have hl : lv_has ls 3 [(0, .ref h0), (1, .int x1), (2, .int x2)] := hl
  refine lv_aload_n hx hb dX1_nearestOf_0 rfl (lv_at hl 0 rfl) ?_
  refine gfX1_15 hx hb hts hown hK hP 0 rfl dX1_nearestOf_1 ?_
  refine lv_iload_n hx hb dX1_nearestOf_4 rfl (lv_at hl 1 rfl) ?_
  refine lv_bipush (v := (100 : Int32)) hx hb dX1_nearestOf_5 (by decide) ?_
  refine lv_imul hx hb dX1_nearestOf_7 ?_
  refine lv_iload_n hx hb dX1_nearestOf_8 rfl (lv_at hl 2 rfl) ?_
  refine lv_iadd hx hb dX1_nearestOf_9 ?_
  obtain ⟨hin, h⟩ := h
  refine ldb (k := ((x1 * (100 : Int32)) + x2).toNatClampNeg) hx hb hK hP 1 rfl hin rfl dX1_nearestOf_10 ?_
  exact hret (E_nearest ((x1 * (100 : Int32)) + x2).toNatClampNeg) () _ _ _ _ rfl dX1_nearestOf_11 h hP hD hS
def wpX1_nearestLike (E_nearest : AR) (E_alike : AR) (x1 : Int32) (x2 : Int32) (x3 : Int32) (post : Int32 → Prop) : Prop := vp_in x1 5 ∧ vp_in (((x2 &&& (E_alike x1.toNatClampNeg)) * (100 : Int32)) + x3) 3200 ∧ post (E_nearest (((x2 &&& (E_alike x1.toNatClampNeg)) * (100 : Int32)) + x3).toNatClampNeg)
set_option maxHeartbeats 4000000 in
set_option maxRecDepth 100000 in
theorem ctX1_nearestLike (l : Launch) (D : va_G) (cy : Nat → ClassId) (ev : Nat → Nat) (h0 : Nat) (rE : Nat → Nat) (E_nearest : AR) (E_alike : AR) (x1 : Int32) (x2 : Int32) (x3 : Int32) (sz : Nat) (post : Int32 → Prop) (h : wpX1_nearestLike E_nearest E_alike x1 x2 x3 post) : Met l yX1_nearestLike (Cond.code yX1_nearestLike cX1_nearestLike 4 (some .int) :: TB) ({ frames := 0, cells := 0, slots := 0, locals := 0 }) (va_Pc [.ref h0, .int x1, .int x2, .int x3] (PreX D cy ev [(h0, .inr (1, oX1 rE)), ((rE 1), .inl (cy 1, 3200, .inl E_nearest)), ((rE 4), .inl (cy 0, 5, .inl E_alike))] sz)) (va_Qi (fun (r : Int32) (u : Unit) => post r) (fun u => BkX D cy [(h0, .inr (1, oX1 rE)), ((rE 1), .inl (cy 1, 3200, .inl E_nearest)), ((rE 4), .inl (cy 0, 5, .inl E_alike))] sz [(h0, .inr (1, oX1 rE)), ((rE 1), .inl (cy 1, 3200, .inl E_nearest)), ((rE 4), .inl (cy 0, 5, .inl E_alike))]) (va_A [(h0, .inr (1, oX1 rE)), ((rE 1), .inl (cy 1, 3200, .inl E_nearest)), ((rE 4), .inl (cy 0, 5, .inl E_alike))] sz)) 0 0 (va_A [(h0, .inr (1, oX1 rE)), ((rE 1), .inl (cy 1, 3200, .inl E_nearest)), ((rE 4), .inl (cy 0, 5, .inl E_alike))] sz) := by
  refine ofWi (by decide) (Nat.le_of_ble_eq_true rfl) ?_
  intro p e s m args below meth c ls A R QQ hx hb hml hown hts hR hlk hE hK hP hD hS hA hl hret
  have hown : s.vm.findClass RX1 = some m.cls := hown
  have hRf : 0 ≤ R.frames := by rw [hR]; exact Nat.le_refl _
  have hRl : 0 ≤ R.locals := by rw [hR]; exact Nat.le_refl _
  clear hR
  have hl : lv_has ls 4 [(0, .ref h0), (1, .int x1), (2, .int x2), (3, .int x3)] := hl
  refine lv_aload_n hx hb dX1_nearestLike_0 rfl (lv_at hl 0 rfl) ?_
  refine gfX1_15 hx hb hts hown hK hP 0 rfl dX1_nearestLike_1 ?_
  refine lv_iload_n hx hb dX1_nearestLike_4 rfl (lv_at hl 2 rfl) ?_
  refine lv_aload_n hx hb dX1_nearestLike_5 rfl (lv_at hl 0 rfl) ?_
  refine gfX1_25 hx hb hts hown hK hP 0 rfl dX1_nearestLike_6 ?_
  refine lv_iload_n hx hb dX1_nearestLike_9 rfl (lv_at hl 1 rfl) ?_
  obtain ⟨hin, h⟩ := h
  refine ldi (k := x1.toNatClampNeg) hx hb hK hP 2 rfl hin rfl dX1_nearestLike_10 ?_
  refine lv_iand hx hb dX1_nearestLike_11 ?_
  refine lv_bipush (v := (100 : Int32)) hx hb dX1_nearestLike_12 (by decide) ?_
  refine lv_imul hx hb dX1_nearestLike_14 ?_
  refine lv_iload_n hx hb dX1_nearestLike_15 rfl (lv_at hl 3 rfl) ?_
  refine lv_iadd hx hb dX1_nearestLike_16 ?_
  obtain ⟨hin, h⟩ := h
  refine ldb (k := (((x2 &&& (E_alike x1.toNatClampNeg)) * (100 : Int32)) + x3).toNatClampNeg) hx hb hK hP 1 rfl hin rfl dX1_nearestLike_17 ?_
  exact hret (E_nearest (((x2 &&& (E_alike x1.toNatClampNeg)) * (100 : Int32)) + x3).toNatClampNeg) () _ _ _ _ rfl dX1_nearestLike_18 h hP hD hS
def wpX1_confuse_L12 (E_heardAt : AR) (E_ofVoice : AR) (l3 : Int32) (kx47 : Int32 → Prop) (post : Int32 → Prop) : Nat → Int32 → Prop
  | 0, _ => False
  | nf12 + 1, l4 => (((4 : Int32) ≤ l4 → kx47 l4) ∧ (¬ (4 : Int32) ≤ l4 → vp_in l4 4 ∧ ∀ l5_27 : Int32, l5_27 = (l3 &&& (E_ofVoice l4.toNatClampNeg)) → (((l5_27 &&& (l5_27 - (1 : Int32))) = 0 → ∀ l4_41 : Int32, l4_41 = (l4 + (1 : Int32)) → wpX1_confuse_L12 E_heardAt E_ofVoice l3 kx47 post nf12 l4_41) ∧ (¬ (l5_27 &&& (l5_27 - (1 : Int32))) = 0 → post (1 : Int32)))))
def wpX1_confuse (E_heardAt : AR) (E_ofVoice : AR) (x1 : Int32) (x2 : Int32) (post : Int32 → Prop) : Prop := vp_in x2 100 ∧ ∀ l3_8 : Int32, l3_8 = (x1 &&& (E_heardAt x2.toNatClampNeg)) → ∃ nf12 : Nat, wpX1_confuse_L12 E_heardAt E_ofVoice l3_8 (fun l4_47 => post (0 : Int32)) post nf12 (0 : Int32)
set_option maxHeartbeats 4000000 in
set_option maxRecDepth 100000 in
theorem ctX1_confuse (l : Launch) (D : va_G) (cy : Nat → ClassId) (ev : Nat → Nat) (h0 : Nat) (rE : Nat → Nat) (E_heardAt : AR) (E_ofVoice : AR) (x1 : Int32) (x2 : Int32) (sz : Nat) (post : Int32 → Prop) (h : wpX1_confuse E_heardAt E_ofVoice x1 x2 post) : Met l yX1_confuse (Cond.code yX1_confuse cX1_confuse 6 (some .boolean) :: TB) ({ frames := 0, cells := 0, slots := 0, locals := 0 }) (va_Pc [.ref h0, .int x1, .int x2] (PreX D cy ev [(h0, .inr (1, oX1 rE)), ((rE 0), .inl (cy 1, 100, .inl E_heardAt)), ((rE 3), .inl (cy 0, 4, .inl E_ofVoice))] sz)) (va_Qi (fun (r : Int32) (u : Unit) => post r) (fun u => BkX D cy [(h0, .inr (1, oX1 rE)), ((rE 0), .inl (cy 1, 100, .inl E_heardAt)), ((rE 3), .inl (cy 0, 4, .inl E_ofVoice))] sz [(h0, .inr (1, oX1 rE)), ((rE 0), .inl (cy 1, 100, .inl E_heardAt)), ((rE 3), .inl (cy 0, 4, .inl E_ofVoice))]) (va_A [(h0, .inr (1, oX1 rE)), ((rE 0), .inl (cy 1, 100, .inl E_heardAt)), ((rE 3), .inl (cy 0, 4, .inl E_ofVoice))] sz)) 0 0 (va_A [(h0, .inr (1, oX1 rE)), ((rE 0), .inl (cy 1, 100, .inl E_heardAt)), ((rE 3), .inl (cy 0, 4, .inl E_ofVoice))] sz) := by
  refine ofWi (by decide) (Nat.le_of_ble_eq_true rfl) ?_
  intro p e s m args below meth c ls A R QQ hx hb hml hown hts hR hlk hE hK hP hD hS hA hl hret
  have hown : s.vm.findClass RX1 = some m.cls := hown
  have hRf : 0 ≤ R.frames := by rw [hR]; exact Nat.le_refl _
  have hRl : 0 ≤ R.locals := by rw [hR]; exact Nat.le_refl _
  clear hR
  have hl : lv_has ls 6 [(0, .ref h0), (1, .int x1), (2, .int x2)] := hl
  have L12 : ∀ (l3 : Int32) (kx47 : Int32 → Prop), (∀ (l4 : Int32) (H : Heap) (locs : List Loc) (ls : Array Slot), kx47 l4 → va_P D clsX [(h0, .inr (1, oX1 rE)), ((rE 0), .inl (cy 1, 100, .inl E_heardAt)), ((rE 3), .inl (cy 0, 4, .inl E_ofVoice))] H → va_D A [(h0, .inr (1, oX1 rE)), ((rE 0), .inl (cy 1, 100, .inl E_heardAt)), ((rE 3), .inl (cy 0, 4, .inl E_ofVoice))] → va_S A s.heap H locs → lv_has ls 6 [(0, .ref h0)] → W p l e R s m args below meth c H locs 0 0 QQ (F0 m 47 ls [])) → ∀ (nf12 : Nat) (l4 : Int32) (H : Heap) (locs : List Loc) (ls : Array Slot), wpX1_confuse_L12 E_heardAt E_ofVoice l3 kx47 post nf12 l4 → va_P D clsX [(h0, .inr (1, oX1 rE)), ((rE 0), .inl (cy 1, 100, .inl E_heardAt)), ((rE 3), .inl (cy 0, 4, .inl E_ofVoice))] H → va_D A [(h0, .inr (1, oX1 rE)), ((rE 0), .inl (cy 1, 100, .inl E_heardAt)), ((rE 3), .inl (cy 0, 4, .inl E_ofVoice))] → va_S A s.heap H locs → lv_has ls 6 [(0, .ref h0), (3, .int l3), (4, .int l4)] → W p l e R s m args below meth c H locs 0 0 QQ (F0 m 12 ls []) := by
    intro l3 kx47 hk12_47 nf12
    induction nf12 with
    | zero =>
      intro l4 H locs ls h
      exact (show False from h).elim
    | succ nf12 ih12 =>
      intro l4 H locs ls h hP hD hS hl
      refine lv_iload hx hb dX1_confuse_12 (lv_at hl 2 rfl) ?_
      refine lv_iconst (v := (4 : Int32)) hx hb dX1_confuse_14 (by decide) ?_
      refine lv_icmp_ge (tgt := 47) hx hb dX1_confuse_15 (by decide) (fun c15 => ?_) (fun c15 => ?_)
      · have h := h.1 c15
        exact hk12_47 l4 _ _ _ h hP hD hS (lv_sub hl [0] rfl)
      · have h := h.2 c15
        refine lv_iload_n hx hb dX1_confuse_18 rfl (lv_at hl 1 rfl) ?_
        refine lv_aload_n hx hb dX1_confuse_19 rfl (lv_at hl 0 rfl) ?_
        refine gfX1_22 hx hb hts hown hK hP 0 rfl dX1_confuse_20 ?_
        refine lv_iload hx hb dX1_confuse_23 (lv_at hl 2 rfl) ?_
        obtain ⟨hin, h⟩ := h
        refine ldi (k := l4.toNatClampNeg) hx hb hK hP 2 rfl hin rfl dX1_confuse_25 ?_
        refine lv_iand hx hb dX1_confuse_26 ?_
        refine lv_topi (fun l5_27 el5_27 => ?_)
        have h := h l5_27 el5_27
        refine lv_istore (lv' := [(5, .int l5_27), (0, .ref h0), (3, .int l3), (4, .int l4)]) hx hb dX1_confuse_27 hl (by decide) rfl (fun ls hl => ?_)
        refine lv_iload hx hb dX1_confuse_29 (lv_at hl 0 rfl) ?_
        refine lv_iload hx hb dX1_confuse_31 (lv_at hl 0 rfl) ?_
        refine lv_iconst (v := (1 : Int32)) hx hb dX1_confuse_33 (by decide) ?_
        refine lv_isub hx hb dX1_confuse_34 ?_
        refine lv_iand hx hb dX1_confuse_35 ?_
        refine lv_if_eq (tgt := 41) hx hb dX1_confuse_36 (by decide) (fun c36 => ?_) (fun c36 => ?_)
        · have h := h.1 c36
          obtain ⟨l4_41, el4_41⟩ : ∃ y : Int32, y = l4 + (1 : Int32) := ⟨_, rfl⟩
          have h := h l4_41 el4_41
          refine lv_iinc (v := l4_41) (lv' := [(4, .int l4_41), (5, .int l5_27), (0, .ref h0), (3, .int l3)]) hx hb dX1_confuse_41 hl (k := 3) rfl (by rw [el4_41]; rfl) (by decide) rfl (fun ls hl => ?_)
          refine lv_goto (tgt := 12) hx hb dX1_confuse_44 (by decide) ?_
          exact ih12 l4_41 _ _ _ h hP hD hS (lv_sub hl [2, 3, 0] rfl)
        · have h := h.2 c36
          refine lv_iconst (v := (1 : Int32)) hx hb dX1_confuse_39 (by decide) ?_
          exact hret (1 : Int32) () _ _ _ _ rfl dX1_confuse_40 h hP hD hS
  refine lv_iload_n hx hb dX1_confuse_0 rfl (lv_at hl 1 rfl) ?_
  refine lv_aload_n hx hb dX1_confuse_1 rfl (lv_at hl 0 rfl) ?_
  refine gfX1_9 hx hb hts hown hK hP 0 rfl dX1_confuse_2 ?_
  refine lv_iload_n hx hb dX1_confuse_5 rfl (lv_at hl 2 rfl) ?_
  obtain ⟨hin, h⟩ := h
  refine ldb (k := x2.toNatClampNeg) hx hb hK hP 1 rfl hin rfl dX1_confuse_6 ?_
  refine lv_iand hx hb dX1_confuse_7 ?_
  refine lv_topi (fun l3_8 el3_8 => ?_)
  have h := h l3_8 el3_8
  refine lv_istore_n (lv' := [(3, .int l3_8), (0, .ref h0), (1, .int x1), (2, .int x2)]) hx hb dX1_confuse_8 rfl hl (by decide) rfl (fun ls hl => ?_)
  refine lv_iconst (v := (0 : Int32)) hx hb dX1_confuse_9 (by decide) ?_
  refine lv_istore (lv' := [(4, .int (0 : Int32)), (3, .int l3_8), (0, .ref h0), (1, .int x1), (2, .int x2)]) hx hb dX1_confuse_10 hl (by decide) rfl (fun ls hl => ?_)
  obtain ⟨nf12, h⟩ := h
  refine L12 l3_8 _ (fun l4_47 H locs ls h hP hD hS hl => ?_) nf12 (0 : Int32) _ _ _ h hP hD hS (lv_sub hl [2, 1, 0] rfl)
  refine lv_iconst (v := (0 : Int32)) hx hb dX1_confuse_47 (by decide) ?_
  exact hret (0 : Int32) () _ _ _ _ rfl dX1_confuse_48 h hP hD hS
