theorem dX11_thrown_0 : decode cX11_thrown 0 = .ok (.aload_n 0, 1) := by decide +kernel
theorem dX11_thrown_1 : decode cX11_thrown 1 = .ok (.getfield 132, 3) := by decide +kernel
theorem dX11_thrown_4 : decode cX11_thrown 4 = .ok (.ireturn, 1) := by decide +kernel
theorem dX11_fail_0 : decode cX11_fail 0 = .ok (.aload_n 0, 1) := by decide +kernel
theorem dX11_fail_1 : decode cX11_fail 1 = .ok (.iload_n 1, 1) := by decide +kernel
theorem dX11_fail_2 : decode cX11_fail 2 = .ok (.putfield 132, 3) := by decide +kernel
theorem dX11_fail_5 : decode cX11_fail 5 = .ok (.iconst 0, 1) := by decide +kernel
theorem dX11_fail_6 : decode cX11_fail 6 = .ok (.ireturn, 1) := by decide +kernel
theorem dX11_isIn_0 : decode cX11_isIn 0 = .ok (.iload_n 0, 1) := by decide +kernel
theorem dX11_isIn_1 : decode cX11_isIn 1 = .ok (.iload_n 1, 1) := by decide +kernel
theorem dX11_isIn_2 : decode cX11_isIn 2 = .ok (.if_icmp .lt 12, 3) := by decide +kernel
theorem dX11_isIn_5 : decode cX11_isIn 5 = .ok (.iload_n 0, 1) := by decide +kernel
theorem dX11_isIn_6 : decode cX11_isIn 6 = .ok (.iload_n 2, 1) := by decide +kernel
theorem dX11_isIn_7 : decode cX11_isIn 7 = .ok (.if_icmp .gt 7, 3) := by decide +kernel
theorem dX11_isIn_10 : decode cX11_isIn 10 = .ok (.iconst 1, 1) := by decide +kernel
theorem dX11_isIn_11 : decode cX11_isIn 11 = .ok (.goto 4, 3) := by decide +kernel
theorem dX11_isIn_14 : decode cX11_isIn 14 = .ok (.iconst 0, 1) := by decide +kernel
theorem dX11_isIn_15 : decode cX11_isIn 15 = .ok (.ireturn, 1) := by decide +kernel
theorem dX11_isTower_0 : decode cX11_isTower 0 = .ok (.iload_n 1, 1) := by decide +kernel
theorem dX11_isTower_1 : decode cX11_isTower 1 = .ok (.iconst 0, 1) := by decide +kernel
theorem dX11_isTower_2 : decode cX11_isTower 2 = .ok (.aload_n 0, 1) := by decide +kernel
theorem dX11_isTower_3 : decode cX11_isTower 3 = .ok (.getfield 36, 3) := by decide +kernel
theorem dX11_isTower_6 : decode cX11_isTower 6 = .ok (.iconst 2, 1) := by decide +kernel
theorem dX11_isTower_7 : decode cX11_isTower 7 = .ok (.iaload, 1) := by decide +kernel
theorem dX11_isTower_8 : decode cX11_isTower 8 = .ok (.iconst 1, 1) := by decide +kernel
theorem dX11_isTower_9 : decode cX11_isTower 9 = .ok (.isub, 1) := by decide +kernel
theorem dX11_isTower_10 : decode cX11_isTower 10 = .ok (.invokestatic 135, 3) := by decide +kernel
theorem dX11_isTower_13 : decode cX11_isTower 13 = .ok (.ireturn, 1) := by decide +kernel
theorem dX11_isWalker_0 : decode cX11_isWalker 0 = .ok (.iload_n 1, 1) := by decide +kernel
theorem dX11_isWalker_1 : decode cX11_isWalker 1 = .ok (.iconst 0, 1) := by decide +kernel
theorem dX11_isWalker_2 : decode cX11_isWalker 2 = .ok (.aload_n 0, 1) := by decide +kernel
theorem dX11_isWalker_3 : decode cX11_isWalker 3 = .ok (.getfield 36, 3) := by decide +kernel
theorem dX11_isWalker_6 : decode cX11_isWalker 6 = .ok (.iconst 3, 1) := by decide +kernel
theorem dX11_isWalker_7 : decode cX11_isWalker 7 = .ok (.iaload, 1) := by decide +kernel
theorem dX11_isWalker_8 : decode cX11_isWalker 8 = .ok (.iconst 1, 1) := by decide +kernel
theorem dX11_isWalker_9 : decode cX11_isWalker 9 = .ok (.isub, 1) := by decide +kernel
theorem dX11_isWalker_10 : decode cX11_isWalker 10 = .ok (.invokestatic 135, 3) := by decide +kernel
theorem dX11_isWalker_13 : decode cX11_isWalker 13 = .ok (.ireturn, 1) := by decide +kernel
theorem dX11_cells_0 : decode cX11_cells 0 = .ok (.aload_n 0, 1) := by decide +kernel
theorem dX11_cells_1 : decode cX11_cells 1 = .ok (.getfield 36, 3) := by decide +kernel
theorem dX11_cells_4 : decode cX11_cells 4 = .ok (.iconst 0, 1) := by decide +kernel
theorem dX11_cells_5 : decode cX11_cells 5 = .ok (.iaload, 1) := by decide +kernel
theorem dX11_cells_6 : decode cX11_cells 6 = .ok (.aload_n 0, 1) := by decide +kernel
theorem dX11_cells_7 : decode cX11_cells 7 = .ok (.getfield 36, 3) := by decide +kernel
theorem dX11_cells_10 : decode cX11_cells 10 = .ok (.iconst 1, 1) := by decide +kernel
theorem dX11_cells_11 : decode cX11_cells 11 = .ok (.iaload, 1) := by decide +kernel
theorem dX11_cells_12 : decode cX11_cells 12 = .ok (.imul, 1) := by decide +kernel
theorem dX11_cells_13 : decode cX11_cells 13 = .ok (.ireturn, 1) := by decide +kernel
theorem dX11_isCell_0 : decode cX11_isCell 0 = .ok (.iload_n 1, 1) := by decide +kernel
theorem dX11_isCell_1 : decode cX11_isCell 1 = .ok (.iconst 0, 1) := by decide +kernel
theorem dX11_isCell_2 : decode cX11_isCell 2 = .ok (.aload_n 0, 1) := by decide +kernel
theorem dX11_isCell_3 : decode cX11_isCell 3 = .ok (.invokevirtual 139, 3) := by decide +kernel
theorem dX11_isCell_6 : decode cX11_isCell 6 = .ok (.iconst 1, 1) := by decide +kernel
theorem dX11_isCell_7 : decode cX11_isCell 7 = .ok (.isub, 1) := by decide +kernel
theorem dX11_isCell_8 : decode cX11_isCell 8 = .ok (.invokestatic 135, 3) := by decide +kernel
theorem dX11_isCell_11 : decode cX11_isCell 11 = .ok (.ireturn, 1) := by decide +kernel
theorem dX11_feed_0 : decode cX11_feed 0 = .ok (.aload_n 0, 1) := by decide +kernel
theorem dX11_feed_1 : decode cX11_feed 1 = .ok (.iconst 0, 1) := by decide +kernel
theorem dX11_feed_2 : decode cX11_feed 2 = .ok (.putfield 132, 3) := by decide +kernel
theorem dX11_feed_5 : decode cX11_feed 5 = .ok (.aload_n 0, 1) := by decide +kernel
theorem dX11_feed_6 : decode cX11_feed 6 = .ok (.getfield 143, 3) := by decide +kernel
theorem dX11_feed_9 : decode cX11_feed 9 = .ok (.bipush 20, 2) := by decide +kernel
theorem dX11_feed_11 : decode cX11_feed 11 = .ok (.iadd, 1) := by decide +kernel
theorem dX11_feed_12 : decode cX11_feed 12 = .ok (.sipush 500, 3) := by decide +kernel
theorem dX11_feed_15 : decode cX11_feed 15 = .ok (.if_icmp .le 5, 3) := by decide +kernel
theorem dX11_feed_18 : decode cX11_feed 18 = .ok (.iconst (-1), 1) := by decide +kernel
theorem dX11_feed_19 : decode cX11_feed 19 = .ok (.ireturn, 1) := by decide +kernel
theorem dX11_feed_20 : decode cX11_feed 20 = .ok (.iconst 0, 1) := by decide +kernel
theorem dX11_feed_21 : decode cX11_feed 21 = .ok (.istore 6, 2) := by decide +kernel
theorem dX11_feed_23 : decode cX11_feed 23 = .ok (.iload 6, 2) := by decide +kernel
theorem dX11_feed_25 : decode cX11_feed 25 = .ok (.bipush 20, 2) := by decide +kernel
theorem dX11_feed_27 : decode cX11_feed 27 = .ok (.if_icmp .ge 93, 3) := by decide +kernel
theorem dX11_feed_30 : decode cX11_feed 30 = .ok (.iload 6, 2) := by decide +kernel
theorem dX11_feed_32 : decode cX11_feed 32 = .ok (.iconst 4, 1) := by decide +kernel
theorem dX11_feed_33 : decode cX11_feed 33 = .ok (.if_icmp .ge 7, 3) := by decide +kernel
theorem dX11_feed_36 : decode cX11_feed 36 = .ok (.iload_n 1, 1) := by decide +kernel
theorem dX11_feed_37 : decode cX11_feed 37 = .ok (.goto 39, 3) := by decide +kernel
theorem dX11_feed_40 : decode cX11_feed 40 = .ok (.iload 6, 2) := by decide +kernel
theorem dX11_feed_42 : decode cX11_feed 42 = .ok (.bipush 8, 2) := by decide +kernel
theorem dX11_feed_44 : decode cX11_feed 44 = .ok (.if_icmp .ge 7, 3) := by decide +kernel
theorem dX11_feed_47 : decode cX11_feed 47 = .ok (.iload_n 2, 1) := by decide +kernel
theorem dX11_feed_48 : decode cX11_feed 48 = .ok (.goto 28, 3) := by decide +kernel
theorem dX11_feed_51 : decode cX11_feed 51 = .ok (.iload 6, 2) := by decide +kernel
theorem dX11_feed_53 : decode cX11_feed 53 = .ok (.bipush 12, 2) := by decide +kernel
theorem dX11_feed_55 : decode cX11_feed 55 = .ok (.if_icmp .ge 7, 3) := by decide +kernel
theorem dX11_feed_58 : decode cX11_feed 58 = .ok (.iload_n 3, 1) := by decide +kernel
theorem dX11_feed_59 : decode cX11_feed 59 = .ok (.goto 17, 3) := by decide +kernel
theorem dX11_feed_62 : decode cX11_feed 62 = .ok (.iload 6, 2) := by decide +kernel
theorem dX11_feed_64 : decode cX11_feed 64 = .ok (.bipush 16, 2) := by decide +kernel
theorem dX11_feed_66 : decode cX11_feed 66 = .ok (.if_icmp .ge 8, 3) := by decide +kernel
theorem dX11_feed_69 : decode cX11_feed 69 = .ok (.iload 4, 2) := by decide +kernel
theorem dX11_feed_71 : decode cX11_feed 71 = .ok (.goto 5, 3) := by decide +kernel
theorem dX11_feed_74 : decode cX11_feed 74 = .ok (.iload 5, 2) := by decide +kernel
theorem dX11_feed_76 : decode cX11_feed 76 = .ok (.istore 7, 2) := by decide +kernel
theorem dX11_feed_78 : decode cX11_feed 78 = .ok (.aload_n 0, 1) := by decide +kernel
theorem dX11_feed_79 : decode cX11_feed 79 = .ok (.getfield 68, 3) := by decide +kernel
theorem dX11_feed_82 : decode cX11_feed 82 = .ok (.aload_n 0, 1) := by decide +kernel
theorem dX11_feed_83 : decode cX11_feed 83 = .ok (.getfield 143, 3) := by decide +kernel
theorem dX11_feed_86 : decode cX11_feed 86 = .ok (.iload 7, 2) := by decide +kernel
theorem dX11_feed_88 : decode cX11_feed 88 = .ok (.bipush 24, 2) := by decide +kernel
theorem dX11_feed_90 : decode cX11_feed 90 = .ok (.bipush 8, 2) := by decide +kernel
theorem dX11_feed_92 : decode cX11_feed 92 = .ok (.iload 6, 2) := by decide +kernel
theorem dX11_feed_94 : decode cX11_feed 94 = .ok (.iconst 4, 1) := by decide +kernel
theorem dX11_feed_95 : decode cX11_feed 95 = .ok (.irem, 1) := by decide +kernel
theorem dX11_feed_96 : decode cX11_feed 96 = .ok (.imul, 1) := by decide +kernel
theorem dX11_feed_97 : decode cX11_feed 97 = .ok (.isub, 1) := by decide +kernel
theorem dX11_feed_98 : decode cX11_feed 98 = .ok (.ishr, 1) := by decide +kernel
theorem dX11_feed_99 : decode cX11_feed 99 = .ok (.sipush 255, 3) := by decide +kernel
theorem dX11_feed_102 : decode cX11_feed 102 = .ok (.iand, 1) := by decide +kernel
theorem dX11_feed_103 : decode cX11_feed 103 = .ok (.iastore, 1) := by decide +kernel
theorem dX11_feed_104 : decode cX11_feed 104 = .ok (.aload_n 0, 1) := by decide +kernel
theorem dX11_feed_105 : decode cX11_feed 105 = .ok (.dup, 1) := by decide +kernel
theorem dX11_feed_106 : decode cX11_feed 106 = .ok (.getfield 143, 3) := by decide +kernel
theorem dX11_feed_109 : decode cX11_feed 109 = .ok (.iconst 1, 1) := by decide +kernel
theorem dX11_feed_110 : decode cX11_feed 110 = .ok (.iadd, 1) := by decide +kernel
theorem dX11_feed_111 : decode cX11_feed 111 = .ok (.putfield 143, 3) := by decide +kernel
theorem dX11_feed_114 : decode cX11_feed 114 = .ok (.iinc 6 1, 3) := by decide +kernel
theorem dX11_feed_117 : decode cX11_feed 117 = .ok (.goto (-94), 3) := by decide +kernel
theorem dX11_feed_120 : decode cX11_feed 120 = .ok (.aload_n 0, 1) := by decide +kernel
theorem dX11_feed_121 : decode cX11_feed 121 = .ok (.getfield 143, 3) := by decide +kernel
theorem dX11_feed_124 : decode cX11_feed 124 = .ok (.ireturn, 1) := by decide +kernel
theorem dX11_byteAt_0 : decode cX11_byteAt 0 = .ok (.iload_n 1, 1) := by decide +kernel
theorem dX11_byteAt_1 : decode cX11_byteAt 1 = .ok (.aload_n 0, 1) := by decide +kernel
theorem dX11_byteAt_2 : decode cX11_byteAt 2 = .ok (.getfield 146, 3) := by decide +kernel
theorem dX11_byteAt_5 : decode cX11_byteAt 5 = .ok (.if_icmp .ge 12, 3) := by decide +kernel
theorem dX11_byteAt_8 : decode cX11_byteAt 8 = .ok (.aload_n 0, 1) := by decide +kernel
theorem dX11_byteAt_9 : decode cX11_byteAt 9 = .ok (.getfield 68, 3) := by decide +kernel
theorem dX11_byteAt_12 : decode cX11_byteAt 12 = .ok (.iload_n 1, 1) := by decide +kernel
theorem dX11_byteAt_13 : decode cX11_byteAt 13 = .ok (.iaload, 1) := by decide +kernel
theorem dX11_byteAt_14 : decode cX11_byteAt 14 = .ok (.goto 4, 3) := by decide +kernel
theorem dX11_byteAt_17 : decode cX11_byteAt 17 = .ok (.iconst (-1), 1) := by decide +kernel
theorem dX11_byteAt_18 : decode cX11_byteAt 18 = .ok (.ireturn, 1) := by decide +kernel
theorem dX11_isLetter_0 : decode cX11_isLetter 0 = .ok (.iload_n 0, 1) := by decide +kernel
theorem dX11_isLetter_1 : decode cX11_isLetter 1 = .ok (.bipush 97, 2) := by decide +kernel
theorem dX11_isLetter_3 : decode cX11_isLetter 3 = .ok (.if_icmp .lt 13, 3) := by decide +kernel
theorem dX11_isLetter_6 : decode cX11_isLetter 6 = .ok (.iload_n 0, 1) := by decide +kernel
theorem dX11_isLetter_7 : decode cX11_isLetter 7 = .ok (.bipush 122, 2) := by decide +kernel
theorem dX11_isLetter_9 : decode cX11_isLetter 9 = .ok (.if_icmp .gt 7, 3) := by decide +kernel
theorem dX11_isLetter_12 : decode cX11_isLetter 12 = .ok (.iconst 1, 1) := by decide +kernel
theorem dX11_isLetter_13 : decode cX11_isLetter 13 = .ok (.goto 4, 3) := by decide +kernel
theorem dX11_isLetter_16 : decode cX11_isLetter 16 = .ok (.iconst 0, 1) := by decide +kernel
theorem dX11_isLetter_17 : decode cX11_isLetter 17 = .ok (.ireturn, 1) := by decide +kernel
theorem dX11_isDigit_0 : decode cX11_isDigit 0 = .ok (.iload_n 0, 1) := by decide +kernel
theorem dX11_isDigit_1 : decode cX11_isDigit 1 = .ok (.bipush 48, 2) := by decide +kernel
theorem dX11_isDigit_3 : decode cX11_isDigit 3 = .ok (.if_icmp .lt 13, 3) := by decide +kernel
theorem dX11_isDigit_6 : decode cX11_isDigit 6 = .ok (.iload_n 0, 1) := by decide +kernel
theorem dX11_isDigit_7 : decode cX11_isDigit 7 = .ok (.bipush 57, 2) := by decide +kernel
theorem dX11_isDigit_9 : decode cX11_isDigit 9 = .ok (.if_icmp .gt 7, 3) := by decide +kernel
theorem dX11_isDigit_12 : decode cX11_isDigit 12 = .ok (.iconst 1, 1) := by decide +kernel
theorem dX11_isDigit_13 : decode cX11_isDigit 13 = .ok (.goto 4, 3) := by decide +kernel
theorem dX11_isDigit_16 : decode cX11_isDigit 16 = .ok (.iconst 0, 1) := by decide +kernel
theorem dX11_isDigit_17 : decode cX11_isDigit 17 = .ok (.ireturn, 1) := by decide +kernel
theorem dX11_stepOn_0 : decode cX11_stepOn 0 = .ok (.aload_n 0, 1) := by decide +kernel
theorem dX11_stepOn_1 : decode cX11_stepOn 1 = .ok (.aload_n 0, 1) := by decide +kernel
theorem dX11_stepOn_2 : decode cX11_stepOn 2 = .ok (.getfield 149, 3) := by decide +kernel
theorem dX11_stepOn_5 : decode cX11_stepOn 5 = .ok (.invokevirtual 152, 3) := by decide +kernel
theorem dX11_stepOn_8 : decode cX11_stepOn 8 = .ok (.bipush 32, 2) := by decide +kernel
theorem dX11_stepOn_10 : decode cX11_stepOn 10 = .ok (.if_icmp .eq 16, 3) := by decide +kernel
theorem dX11_stepOn_13 : decode cX11_stepOn 13 = .ok (.aload_n 0, 1) := by decide +kernel
theorem dX11_stepOn_14 : decode cX11_stepOn 14 = .ok (.aload_n 0, 1) := by decide +kernel
theorem dX11_stepOn_15 : decode cX11_stepOn 15 = .ok (.getfield 149, 3) := by decide +kernel
theorem dX11_stepOn_18 : decode cX11_stepOn 18 = .ok (.invokevirtual 152, 3) := by decide +kernel
theorem dX11_stepOn_21 : decode cX11_stepOn 21 = .ok (.bipush 10, 2) := by decide +kernel
theorem dX11_stepOn_23 : decode cX11_stepOn 23 = .ok (.if_icmp .ne 16, 3) := by decide +kernel
theorem dX11_stepOn_26 : decode cX11_stepOn 26 = .ok (.aload_n 0, 1) := by decide +kernel
theorem dX11_stepOn_27 : decode cX11_stepOn 27 = .ok (.dup, 1) := by decide +kernel
theorem dX11_stepOn_28 : decode cX11_stepOn 28 = .ok (.getfield 149, 3) := by decide +kernel
theorem dX11_stepOn_31 : decode cX11_stepOn 31 = .ok (.iconst 1, 1) := by decide +kernel
theorem dX11_stepOn_32 : decode cX11_stepOn 32 = .ok (.iadd, 1) := by decide +kernel
theorem dX11_stepOn_33 : decode cX11_stepOn 33 = .ok (.putfield 149, 3) := by decide +kernel
theorem dX11_stepOn_36 : decode cX11_stepOn 36 = .ok (.goto (-36), 3) := by decide +kernel
theorem dX11_stepOn_39 : decode cX11_stepOn 39 = .ok (.aload_n 0, 1) := by decide +kernel
theorem dX11_stepOn_40 : decode cX11_stepOn 40 = .ok (.aload_n 0, 1) := by decide +kernel
theorem dX11_stepOn_41 : decode cX11_stepOn 41 = .ok (.getfield 149, 3) := by decide +kernel
theorem dX11_stepOn_44 : decode cX11_stepOn 44 = .ok (.putfield 156, 3) := by decide +kernel
theorem dX11_stepOn_47 : decode cX11_stepOn 47 = .ok (.aload_n 0, 1) := by decide +kernel
theorem dX11_stepOn_48 : decode cX11_stepOn 48 = .ok (.aload_n 0, 1) := by decide +kernel
theorem dX11_stepOn_49 : decode cX11_stepOn 49 = .ok (.getfield 149, 3) := by decide +kernel
theorem dX11_stepOn_52 : decode cX11_stepOn 52 = .ok (.invokevirtual 152, 3) := by decide +kernel
theorem dX11_stepOn_55 : decode cX11_stepOn 55 = .ok (.istore_n 1, 1) := by decide +kernel
theorem dX11_stepOn_56 : decode cX11_stepOn 56 = .ok (.iload_n 1, 1) := by decide +kernel
theorem dX11_stepOn_57 : decode cX11_stepOn 57 = .ok (.iconst (-1), 1) := by decide +kernel
theorem dX11_stepOn_58 : decode cX11_stepOn 58 = .ok (.if_icmp .ne 11, 3) := by decide +kernel
theorem dX11_stepOn_61 : decode cX11_stepOn 61 = .ok (.aload_n 0, 1) := by decide +kernel
theorem dX11_stepOn_62 : decode cX11_stepOn 62 = .ok (.iconst 0, 1) := by decide +kernel
theorem dX11_stepOn_63 : decode cX11_stepOn 63 = .ok (.putfield 159, 3) := by decide +kernel
theorem dX11_stepOn_66 : decode cX11_stepOn 66 = .ok (.goto 158, 3) := by decide +kernel
theorem dX11_stepOn_69 : decode cX11_stepOn 69 = .ok (.iload_n 1, 1) := by decide +kernel
theorem dX11_stepOn_70 : decode cX11_stepOn 70 = .ok (.invokestatic 162, 3) := by decide +kernel
theorem dX11_stepOn_73 : decode cX11_stepOn 73 = .ok (.ifCond .eq 38, 3) := by decide +kernel
theorem dX11_stepOn_76 : decode cX11_stepOn 76 = .ok (.aload_n 0, 1) := by decide +kernel
theorem dX11_stepOn_77 : decode cX11_stepOn 77 = .ok (.aload_n 0, 1) := by decide +kernel
theorem dX11_stepOn_78 : decode cX11_stepOn 78 = .ok (.getfield 149, 3) := by decide +kernel
theorem dX11_stepOn_81 : decode cX11_stepOn 81 = .ok (.invokevirtual 152, 3) := by decide +kernel
theorem dX11_stepOn_84 : decode cX11_stepOn 84 = .ok (.invokestatic 162, 3) := by decide +kernel
theorem dX11_stepOn_87 : decode cX11_stepOn 87 = .ok (.ifCond .eq 16, 3) := by decide +kernel
theorem dX11_stepOn_90 : decode cX11_stepOn 90 = .ok (.aload_n 0, 1) := by decide +kernel
theorem dX11_stepOn_91 : decode cX11_stepOn 91 = .ok (.dup, 1) := by decide +kernel
theorem dX11_stepOn_92 : decode cX11_stepOn 92 = .ok (.getfield 149, 3) := by decide +kernel
theorem dX11_stepOn_95 : decode cX11_stepOn 95 = .ok (.iconst 1, 1) := by decide +kernel
theorem dX11_stepOn_96 : decode cX11_stepOn 96 = .ok (.iadd, 1) := by decide +kernel
theorem dX11_stepOn_97 : decode cX11_stepOn 97 = .ok (.putfield 149, 3) := by decide +kernel
theorem dX11_stepOn_100 : decode cX11_stepOn 100 = .ok (.goto (-24), 3) := by decide +kernel
theorem dX11_stepOn_103 : decode cX11_stepOn 103 = .ok (.aload_n 0, 1) := by decide +kernel
theorem dX11_stepOn_104 : decode cX11_stepOn 104 = .ok (.iconst 1, 1) := by decide +kernel
theorem dX11_stepOn_105 : decode cX11_stepOn 105 = .ok (.putfield 159, 3) := by decide +kernel
theorem dX11_stepOn_108 : decode cX11_stepOn 108 = .ok (.goto 116, 3) := by decide +kernel
theorem dX11_stepOn_111 : decode cX11_stepOn 111 = .ok (.iload_n 1, 1) := by decide +kernel
theorem dX11_stepOn_112 : decode cX11_stepOn 112 = .ok (.invokestatic 166, 3) := by decide +kernel
theorem dX11_stepOn_115 : decode cX11_stepOn 115 = .ok (.ifCond .eq 72, 3) := by decide +kernel
theorem dX11_stepOn_118 : decode cX11_stepOn 118 = .ok (.aload_n 0, 1) := by decide +kernel
theorem dX11_stepOn_119 : decode cX11_stepOn 119 = .ok (.iconst 0, 1) := by decide +kernel
theorem dX11_stepOn_120 : decode cX11_stepOn 120 = .ok (.putfield 169, 3) := by decide +kernel
theorem dX11_stepOn_123 : decode cX11_stepOn 123 = .ok (.aload_n 0, 1) := by decide +kernel
theorem dX11_stepOn_124 : decode cX11_stepOn 124 = .ok (.aload_n 0, 1) := by decide +kernel
theorem dX11_stepOn_125 : decode cX11_stepOn 125 = .ok (.getfield 149, 3) := by decide +kernel
theorem dX11_stepOn_128 : decode cX11_stepOn 128 = .ok (.invokevirtual 152, 3) := by decide +kernel
theorem dX11_stepOn_131 : decode cX11_stepOn 131 = .ok (.invokestatic 166, 3) := by decide +kernel
theorem dX11_stepOn_134 : decode cX11_stepOn 134 = .ok (.ifCond .eq 45, 3) := by decide +kernel
theorem dX11_stepOn_137 : decode cX11_stepOn 137 = .ok (.aload_n 0, 1) := by decide +kernel
theorem dX11_stepOn_138 : decode cX11_stepOn 138 = .ok (.sipush 10000, 3) := by decide +kernel
theorem dX11_stepOn_141 : decode cX11_stepOn 141 = .ok (.bipush 10, 2) := by decide +kernel
theorem dX11_stepOn_143 : decode cX11_stepOn 143 = .ok (.aload_n 0, 1) := by decide +kernel
theorem dX11_stepOn_144 : decode cX11_stepOn 144 = .ok (.getfield 169, 3) := by decide +kernel
theorem dX11_stepOn_147 : decode cX11_stepOn 147 = .ok (.imul, 1) := by decide +kernel
theorem dX11_stepOn_148 : decode cX11_stepOn 148 = .ok (.aload_n 0, 1) := by decide +kernel
theorem dX11_stepOn_149 : decode cX11_stepOn 149 = .ok (.aload_n 0, 1) := by decide +kernel
theorem dX11_stepOn_150 : decode cX11_stepOn 150 = .ok (.getfield 149, 3) := by decide +kernel
theorem dX11_stepOn_153 : decode cX11_stepOn 153 = .ok (.invokevirtual 152, 3) := by decide +kernel
theorem dX11_stepOn_156 : decode cX11_stepOn 156 = .ok (.iadd, 1) := by decide +kernel
theorem dX11_stepOn_157 : decode cX11_stepOn 157 = .ok (.bipush 48, 2) := by decide +kernel
theorem dX11_stepOn_159 : decode cX11_stepOn 159 = .ok (.isub, 1) := by decide +kernel
theorem dX11_stepOn_160 : decode cX11_stepOn 160 = .ok (.invokestatic 172, 3) := by decide +kernel
theorem dX11_stepOn_163 : decode cX11_stepOn 163 = .ok (.putfield 169, 3) := by decide +kernel
theorem dX11_stepOn_166 : decode cX11_stepOn 166 = .ok (.aload_n 0, 1) := by decide +kernel
theorem dX11_stepOn_167 : decode cX11_stepOn 167 = .ok (.dup, 1) := by decide +kernel
theorem dX11_stepOn_168 : decode cX11_stepOn 168 = .ok (.getfield 149, 3) := by decide +kernel
theorem dX11_stepOn_171 : decode cX11_stepOn 171 = .ok (.iconst 1, 1) := by decide +kernel
theorem dX11_stepOn_172 : decode cX11_stepOn 172 = .ok (.iadd, 1) := by decide +kernel
theorem dX11_stepOn_173 : decode cX11_stepOn 173 = .ok (.putfield 149, 3) := by decide +kernel
theorem dX11_stepOn_176 : decode cX11_stepOn 176 = .ok (.goto (-53), 3) := by decide +kernel
theorem dX11_stepOn_179 : decode cX11_stepOn 179 = .ok (.aload_n 0, 1) := by decide +kernel
theorem dX11_stepOn_180 : decode cX11_stepOn 180 = .ok (.iconst 2, 1) := by decide +kernel
theorem dX11_stepOn_181 : decode cX11_stepOn 181 = .ok (.putfield 159, 3) := by decide +kernel
theorem dX11_stepOn_184 : decode cX11_stepOn 184 = .ok (.goto 40, 3) := by decide +kernel
theorem dX11_stepOn_187 : decode cX11_stepOn 187 = .ok (.aload_n 0, 1) := by decide +kernel
theorem dX11_stepOn_188 : decode cX11_stepOn 188 = .ok (.dup, 1) := by decide +kernel
theorem dX11_stepOn_189 : decode cX11_stepOn 189 = .ok (.getfield 149, 3) := by decide +kernel
theorem dX11_stepOn_192 : decode cX11_stepOn 192 = .ok (.iconst 1, 1) := by decide +kernel
theorem dX11_stepOn_193 : decode cX11_stepOn 193 = .ok (.iadd, 1) := by decide +kernel
theorem dX11_stepOn_194 : decode cX11_stepOn 194 = .ok (.putfield 149, 3) := by decide +kernel
theorem dX11_stepOn_197 : decode cX11_stepOn 197 = .ok (.aload_n 0, 1) := by decide +kernel
theorem dX11_stepOn_198 : decode cX11_stepOn 198 = .ok (.iload_n 1, 1) := by decide +kernel
theorem dX11_stepOn_199 : decode cX11_stepOn 199 = .ok (.bipush 59, 2) := by decide +kernel
theorem dX11_stepOn_201 : decode cX11_stepOn 201 = .ok (.if_icmp .eq 15, 3) := by decide +kernel
theorem dX11_stepOn_204 : decode cX11_stepOn 204 = .ok (.iload_n 1, 1) := by decide +kernel
theorem dX11_stepOn_205 : decode cX11_stepOn 205 = .ok (.bipush 123, 2) := by decide +kernel
theorem dX11_stepOn_207 : decode cX11_stepOn 207 = .ok (.if_icmp .eq 9, 3) := by decide +kernel
theorem dX11_stepOn_210 : decode cX11_stepOn 210 = .ok (.iload_n 1, 1) := by decide +kernel
theorem dX11_stepOn_211 : decode cX11_stepOn 211 = .ok (.bipush 125, 2) := by decide +kernel
theorem dX11_stepOn_213 : decode cX11_stepOn 213 = .ok (.if_icmp .ne 7, 3) := by decide +kernel
theorem dX11_stepOn_216 : decode cX11_stepOn 216 = .ok (.iconst 3, 1) := by decide +kernel
theorem dX11_stepOn_217 : decode cX11_stepOn 217 = .ok (.goto 4, 3) := by decide +kernel
theorem dX11_stepOn_220 : decode cX11_stepOn 220 = .ok (.iconst 4, 1) := by decide +kernel
theorem dX11_stepOn_221 : decode cX11_stepOn 221 = .ok (.putfield 159, 3) := by decide +kernel
theorem dX11_stepOn_224 : decode cX11_stepOn 224 = .ok (.aload_n 0, 1) := by decide +kernel
theorem dX11_stepOn_225 : decode cX11_stepOn 225 = .ok (.aload_n 0, 1) := by decide +kernel
theorem dX11_stepOn_226 : decode cX11_stepOn 226 = .ok (.getfield 149, 3) := by decide +kernel
theorem dX11_stepOn_229 : decode cX11_stepOn 229 = .ok (.putfield 178, 3) := by decide +kernel
theorem dX11_stepOn_232 : decode cX11_stepOn 232 = .ok (.return_, 1) := by decide +kernel
theorem dX11_wrong_0 : decode cX11_wrong 0 = .ok (.aload_n 0, 1) := by decide +kernel
theorem dX11_wrong_1 : decode cX11_wrong 1 = .ok (.getfield 181, 3) := by decide +kernel
theorem dX11_wrong_4 : decode cX11_wrong 4 = .ok (.ifCond .eq 4, 3) := by decide +kernel
theorem dX11_wrong_7 : decode cX11_wrong 7 = .ok (.return_, 1) := by decide +kernel
theorem dX11_wrong_8 : decode cX11_wrong 8 = .ok (.aload_n 0, 1) := by decide +kernel
theorem dX11_wrong_9 : decode cX11_wrong 9 = .ok (.iload_n 1, 1) := by decide +kernel
theorem dX11_wrong_10 : decode cX11_wrong 10 = .ok (.putfield 181, 3) := by decide +kernel
theorem dX11_wrong_13 : decode cX11_wrong 13 = .ok (.aload_n 0, 1) := by decide +kernel
theorem dX11_wrong_14 : decode cX11_wrong 14 = .ok (.aload_n 0, 1) := by decide +kernel
theorem dX11_wrong_15 : decode cX11_wrong 15 = .ok (.getfield 156, 3) := by decide +kernel
theorem dX11_wrong_18 : decode cX11_wrong 18 = .ok (.putfield 184, 3) := by decide +kernel
theorem dX11_wrong_21 : decode cX11_wrong 21 = .ok (.return_, 1) := by decide +kernel
theorem dX11_isMarked_0 : decode cX11_isMarked 0 = .ok (.aload_n 0, 1) := by decide +kernel
theorem dX11_isMarked_1 : decode cX11_isMarked 1 = .ok (.getfield 181, 3) := by decide +kernel
theorem dX11_isMarked_4 : decode cX11_isMarked 4 = .ok (.ifCond .ne 28, 3) := by decide +kernel
theorem dX11_isMarked_7 : decode cX11_isMarked 7 = .ok (.aload_n 0, 1) := by decide +kernel
theorem dX11_isMarked_8 : decode cX11_isMarked 8 = .ok (.getfield 159, 3) := by decide +kernel
theorem dX11_isMarked_11 : decode cX11_isMarked 11 = .ok (.iconst 3, 1) := by decide +kernel
theorem dX11_isMarked_12 : decode cX11_isMarked 12 = .ok (.if_icmp .ne 20, 3) := by decide +kernel
theorem dX11_isMarked_15 : decode cX11_isMarked 15 = .ok (.aload_n 0, 1) := by decide +kernel
theorem dX11_isMarked_16 : decode cX11_isMarked 16 = .ok (.getfield 68, 3) := by decide +kernel
theorem dX11_isMarked_19 : decode cX11_isMarked 19 = .ok (.aload_n 0, 1) := by decide +kernel
theorem dX11_isMarked_20 : decode cX11_isMarked 20 = .ok (.getfield 156, 3) := by decide +kernel
theorem dX11_isMarked_23 : decode cX11_isMarked 23 = .ok (.iaload, 1) := by decide +kernel
theorem dX11_isMarked_24 : decode cX11_isMarked 24 = .ok (.iload_n 1, 1) := by decide +kernel
theorem dX11_isMarked_25 : decode cX11_isMarked 25 = .ok (.if_icmp .ne 7, 3) := by decide +kernel
theorem dX11_isMarked_28 : decode cX11_isMarked 28 = .ok (.iconst 1, 1) := by decide +kernel
theorem dX11_isMarked_29 : decode cX11_isMarked 29 = .ok (.goto 4, 3) := by decide +kernel
theorem dX11_isMarked_32 : decode cX11_isMarked 32 = .ok (.iconst 0, 1) := by decide +kernel
theorem dX11_isMarked_33 : decode cX11_isMarked 33 = .ok (.ireturn, 1) := by decide +kernel
theorem dX11_mark_0 : decode cX11_mark 0 = .ok (.aload_n 0, 1) := by decide +kernel
theorem dX11_mark_1 : decode cX11_mark 1 = .ok (.getfield 181, 3) := by decide +kernel
theorem dX11_mark_4 : decode cX11_mark 4 = .ok (.ifCond .ne 16, 3) := by decide +kernel
theorem dX11_mark_7 : decode cX11_mark 7 = .ok (.aload_n 0, 1) := by decide +kernel
theorem dX11_mark_8 : decode cX11_mark 8 = .ok (.iload_n 1, 1) := by decide +kernel
theorem dX11_mark_9 : decode cX11_mark 9 = .ok (.invokevirtual 201, 3) := by decide +kernel
theorem dX11_mark_12 : decode cX11_mark 12 = .ok (.ifCond .ne 8, 3) := by decide +kernel
theorem dX11_mark_15 : decode cX11_mark 15 = .ok (.aload_n 0, 1) := by decide +kernel
theorem dX11_mark_16 : decode cX11_mark 16 = .ok (.iconst 1, 1) := by decide +kernel
theorem dX11_mark_17 : decode cX11_mark 17 = .ok (.invokevirtual 204, 3) := by decide +kernel
theorem dX11_mark_20 : decode cX11_mark 20 = .ok (.aload_n 0, 1) := by decide +kernel
theorem dX11_mark_21 : decode cX11_mark 21 = .ok (.getfield 181, 3) := by decide +kernel
theorem dX11_mark_24 : decode cX11_mark 24 = .ok (.ifCond .ne 7, 3) := by decide +kernel
theorem dX11_mark_27 : decode cX11_mark 27 = .ok (.aload_n 0, 1) := by decide +kernel
theorem dX11_mark_28 : decode cX11_mark 28 = .ok (.invokevirtual 198, 3) := by decide +kernel
theorem dX11_mark_31 : decode cX11_mark 31 = .ok (.return_, 1) := by decide +kernel
theorem dX11_numberNow_0 : decode cX11_numberNow 0 = .ok (.aload_n 0, 1) := by decide +kernel
theorem dX11_numberNow_1 : decode cX11_numberNow 1 = .ok (.getfield 181, 3) := by decide +kernel
theorem dX11_numberNow_4 : decode cX11_numberNow 4 = .ok (.ifCond .eq 5, 3) := by decide +kernel
theorem dX11_numberNow_7 : decode cX11_numberNow 7 = .ok (.iconst 0, 1) := by decide +kernel
theorem dX11_numberNow_8 : decode cX11_numberNow 8 = .ok (.ireturn, 1) := by decide +kernel
theorem dX11_numberNow_9 : decode cX11_numberNow 9 = .ok (.aload_n 0, 1) := by decide +kernel
theorem dX11_numberNow_10 : decode cX11_numberNow 10 = .ok (.getfield 159, 3) := by decide +kernel
theorem dX11_numberNow_13 : decode cX11_numberNow 13 = .ok (.iconst 2, 1) := by decide +kernel
theorem dX11_numberNow_14 : decode cX11_numberNow 14 = .ok (.if_icmp .eq 11, 3) := by decide +kernel
theorem dX11_numberNow_17 : decode cX11_numberNow 17 = .ok (.aload_n 0, 1) := by decide +kernel
theorem dX11_numberNow_18 : decode cX11_numberNow 18 = .ok (.iconst 1, 1) := by decide +kernel
theorem dX11_numberNow_19 : decode cX11_numberNow 19 = .ok (.invokevirtual 204, 3) := by decide +kernel
theorem dX11_numberNow_22 : decode cX11_numberNow 22 = .ok (.goto 37, 3) := by decide +kernel
theorem dX11_numberNow_25 : decode cX11_numberNow 25 = .ok (.aload_n 0, 1) := by decide +kernel
theorem dX11_numberNow_26 : decode cX11_numberNow 26 = .ok (.getfield 178, 3) := by decide +kernel
theorem dX11_numberNow_29 : decode cX11_numberNow 29 = .ok (.aload_n 0, 1) := by decide +kernel
theorem dX11_numberNow_30 : decode cX11_numberNow 30 = .ok (.getfield 156, 3) := by decide +kernel
theorem dX11_numberNow_33 : decode cX11_numberNow 33 = .ok (.isub, 1) := by decide +kernel
theorem dX11_numberNow_34 : decode cX11_numberNow 34 = .ok (.iconst 3, 1) := by decide +kernel
theorem dX11_numberNow_35 : decode cX11_numberNow 35 = .ok (.if_icmp .gt 19, 3) := by decide +kernel
theorem dX11_numberNow_38 : decode cX11_numberNow 38 = .ok (.aload_n 0, 1) := by decide +kernel
theorem dX11_numberNow_39 : decode cX11_numberNow 39 = .ok (.getfield 169, 3) := by decide +kernel
theorem dX11_numberNow_42 : decode cX11_numberNow 42 = .ok (.iload_n 1, 1) := by decide +kernel
theorem dX11_numberNow_43 : decode cX11_numberNow 43 = .ok (.if_icmp .lt 11, 3) := by decide +kernel
theorem dX11_numberNow_46 : decode cX11_numberNow 46 = .ok (.aload_n 0, 1) := by decide +kernel
theorem dX11_numberNow_47 : decode cX11_numberNow 47 = .ok (.getfield 169, 3) := by decide +kernel
theorem dX11_numberNow_50 : decode cX11_numberNow 50 = .ok (.iload_n 2, 1) := by decide +kernel
theorem dX11_numberNow_51 : decode cX11_numberNow 51 = .ok (.if_icmp .le 8, 3) := by decide +kernel
theorem dX11_numberNow_54 : decode cX11_numberNow 54 = .ok (.aload_n 0, 1) := by decide +kernel
theorem dX11_numberNow_55 : decode cX11_numberNow 55 = .ok (.iconst 2, 1) := by decide +kernel
theorem dX11_numberNow_56 : decode cX11_numberNow 56 = .ok (.invokevirtual 204, 3) := by decide +kernel
theorem dX11_numberNow_59 : decode cX11_numberNow 59 = .ok (.aload_n 0, 1) := by decide +kernel
theorem dX11_numberNow_60 : decode cX11_numberNow 60 = .ok (.getfield 181, 3) := by decide +kernel
theorem dX11_numberNow_63 : decode cX11_numberNow 63 = .ok (.ifCond .ne 10, 3) := by decide +kernel
theorem dX11_numberNow_66 : decode cX11_numberNow 66 = .ok (.aload_n 0, 1) := by decide +kernel
theorem dX11_numberNow_67 : decode cX11_numberNow 67 = .ok (.getfield 169, 3) := by decide +kernel
theorem dX11_numberNow_70 : decode cX11_numberNow 70 = .ok (.goto 4, 3) := by decide +kernel
theorem dX11_numberNow_73 : decode cX11_numberNow 73 = .ok (.iconst 0, 1) := by decide +kernel
theorem dX11_numberNow_74 : decode cX11_numberNow 74 = .ok (.ireturn, 1) := by decide +kernel
theorem dX11_readNumber_0 : decode cX11_readNumber 0 = .ok (.aload_n 0, 1) := by decide +kernel
theorem dX11_readNumber_1 : decode cX11_readNumber 1 = .ok (.iload_n 1, 1) := by decide +kernel
theorem dX11_readNumber_2 : decode cX11_readNumber 2 = .ok (.iload_n 2, 1) := by decide +kernel
theorem dX11_readNumber_3 : decode cX11_readNumber 3 = .ok (.invokevirtual 208, 3) := by decide +kernel
theorem dX11_readNumber_6 : decode cX11_readNumber 6 = .ok (.istore_n 3, 1) := by decide +kernel
theorem dX11_readNumber_7 : decode cX11_readNumber 7 = .ok (.aload_n 0, 1) := by decide +kernel
theorem dX11_readNumber_8 : decode cX11_readNumber 8 = .ok (.getfield 181, 3) := by decide +kernel
theorem dX11_readNumber_11 : decode cX11_readNumber 11 = .ok (.ifCond .ne 7, 3) := by decide +kernel
theorem dX11_readNumber_14 : decode cX11_readNumber 14 = .ok (.aload_n 0, 1) := by decide +kernel
theorem dX11_readNumber_15 : decode cX11_readNumber 15 = .ok (.invokevirtual 198, 3) := by decide +kernel
theorem dX11_readNumber_18 : decode cX11_readNumber 18 = .ok (.iload_n 3, 1) := by decide +kernel
theorem dX11_readNumber_19 : decode cX11_readNumber 19 = .ok (.ireturn, 1) := by decide +kernel
theorem dX11_readCell_0 : decode cX11_readCell 0 = .ok (.aload_n 0, 1) := by decide +kernel
theorem dX11_readCell_1 : decode cX11_readCell 1 = .ok (.iconst 0, 1) := by decide +kernel
theorem dX11_readCell_2 : decode cX11_readCell 2 = .ok (.aload_n 0, 1) := by decide +kernel
theorem dX11_readCell_3 : decode cX11_readCell 3 = .ok (.getfield 36, 3) := by decide +kernel
theorem dX11_readCell_6 : decode cX11_readCell 6 = .ok (.bipush 7, 2) := by decide +kernel
theorem dX11_readCell_8 : decode cX11_readCell 8 = .ok (.iaload, 1) := by decide +kernel
theorem dX11_readCell_9 : decode cX11_readCell 9 = .ok (.iconst 1, 1) := by decide +kernel
theorem dX11_readCell_10 : decode cX11_readCell 10 = .ok (.isub, 1) := by decide +kernel
theorem dX11_readCell_11 : decode cX11_readCell 11 = .ok (.invokevirtual 211, 3) := by decide +kernel
theorem dX11_readCell_14 : decode cX11_readCell 14 = .ok (.istore_n 1, 1) := by decide +kernel
theorem dX11_readCell_15 : decode cX11_readCell 15 = .ok (.aload_n 0, 1) := by decide +kernel
theorem dX11_readCell_16 : decode cX11_readCell 16 = .ok (.getfield 36, 3) := by decide +kernel
theorem dX11_readCell_19 : decode cX11_readCell 19 = .ok (.bipush 7, 2) := by decide +kernel
theorem dX11_readCell_21 : decode cX11_readCell 21 = .ok (.iaload, 1) := by decide +kernel
theorem dX11_readCell_22 : decode cX11_readCell 22 = .ok (.aload_n 0, 1) := by decide +kernel
theorem dX11_readCell_23 : decode cX11_readCell 23 = .ok (.iconst 0, 1) := by decide +kernel
theorem dX11_readCell_24 : decode cX11_readCell 24 = .ok (.aload_n 0, 1) := by decide +kernel
theorem dX11_readCell_25 : decode cX11_readCell 25 = .ok (.getfield 36, 3) := by decide +kernel
theorem dX11_readCell_28 : decode cX11_readCell 28 = .ok (.bipush 8, 2) := by decide +kernel
theorem dX11_readCell_30 : decode cX11_readCell 30 = .ok (.iaload, 1) := by decide +kernel
theorem dX11_readCell_31 : decode cX11_readCell 31 = .ok (.iconst 1, 1) := by decide +kernel
theorem dX11_readCell_32 : decode cX11_readCell 32 = .ok (.isub, 1) := by decide +kernel
theorem dX11_readCell_33 : decode cX11_readCell 33 = .ok (.invokevirtual 211, 3) := by decide +kernel
theorem dX11_readCell_36 : decode cX11_readCell 36 = .ok (.imul, 1) := by decide +kernel
theorem dX11_readCell_37 : decode cX11_readCell 37 = .ok (.iload_n 1, 1) := by decide +kernel
theorem dX11_readCell_38 : decode cX11_readCell 38 = .ok (.iadd, 1) := by decide +kernel
theorem dX11_readCell_39 : decode cX11_readCell 39 = .ok (.ireturn, 1) := by decide +kernel
theorem dX11_readWalker_0 : decode cX11_readWalker 0 = .ok (.aload_n 0, 1) := by decide +kernel
theorem dX11_readWalker_1 : decode cX11_readWalker 1 = .ok (.getfield 36, 3) := by decide +kernel
theorem dX11_readWalker_4 : decode cX11_readWalker 4 = .ok (.bipush 10, 2) := by decide +kernel
theorem dX11_readWalker_6 : decode cX11_readWalker 6 = .ok (.iaload, 1) := by decide +kernel
theorem dX11_readWalker_7 : decode cX11_readWalker 7 = .ok (.iconst 4, 1) := by decide +kernel
theorem dX11_readWalker_8 : decode cX11_readWalker 8 = .ok (.if_icmp .ne 8, 3) := by decide +kernel
theorem dX11_readWalker_11 : decode cX11_readWalker 11 = .ok (.aload_n 0, 1) := by decide +kernel
theorem dX11_readWalker_12 : decode cX11_readWalker 12 = .ok (.iconst 2, 1) := by decide +kernel
theorem dX11_readWalker_13 : decode cX11_readWalker 13 = .ok (.invokevirtual 204, 3) := by decide +kernel
theorem dX11_readWalker_16 : decode cX11_readWalker 16 = .ok (.aload_n 0, 1) := by decide +kernel
theorem dX11_readWalker_17 : decode cX11_readWalker 17 = .ok (.getfield 181, 3) := by decide +kernel
theorem dX11_readWalker_20 : decode cX11_readWalker 20 = .ok (.ifCond .eq 4, 3) := by decide +kernel
theorem dX11_readWalker_23 : decode cX11_readWalker 23 = .ok (.return_, 1) := by decide +kernel
theorem dX11_readWalker_24 : decode cX11_readWalker 24 = .ok (.aload_n 0, 1) := by decide +kernel
theorem dX11_readWalker_25 : decode cX11_readWalker 25 = .ok (.invokevirtual 198, 3) := by decide +kernel
theorem dX11_readWalker_28 : decode cX11_readWalker 28 = .ok (.aload_n 0, 1) := by decide +kernel
theorem dX11_readWalker_29 : decode cX11_readWalker 29 = .ok (.getfield 36, 3) := by decide +kernel
theorem dX11_readWalker_32 : decode cX11_readWalker 32 = .ok (.bipush 10, 2) := by decide +kernel
theorem dX11_readWalker_34 : decode cX11_readWalker 34 = .ok (.iaload, 1) := by decide +kernel
theorem dX11_readWalker_35 : decode cX11_readWalker 35 = .ok (.istore_n 2, 1) := by decide +kernel
theorem dX11_readWalker_36 : decode cX11_readWalker 36 = .ok (.aload_n 0, 1) := by decide +kernel
theorem dX11_readWalker_37 : decode cX11_readWalker 37 = .ok (.getfield 49, 3) := by decide +kernel
theorem dX11_readWalker_40 : decode cX11_readWalker 40 = .ok (.iconst 4, 1) := by decide +kernel
theorem dX11_readWalker_41 : decode cX11_readWalker 41 = .ok (.iload_n 2, 1) := by decide +kernel
theorem dX11_readWalker_42 : decode cX11_readWalker 42 = .ok (.iadd, 1) := by decide +kernel
theorem dX11_readWalker_43 : decode cX11_readWalker 43 = .ok (.iload_n 1, 1) := by decide +kernel
theorem dX11_readWalker_44 : decode cX11_readWalker 44 = .ok (.iastore, 1) := by decide +kernel
theorem dX11_readWalker_45 : decode cX11_readWalker 45 = .ok (.aload_n 0, 1) := by decide +kernel
theorem dX11_readWalker_46 : decode cX11_readWalker 46 = .ok (.getfield 55, 3) := by decide +kernel
theorem dX11_readWalker_49 : decode cX11_readWalker 49 = .ok (.bipush 6, 2) := by decide +kernel
theorem dX11_readWalker_51 : decode cX11_readWalker 51 = .ok (.iload_n 2, 1) := by decide +kernel
theorem dX11_readWalker_52 : decode cX11_readWalker 52 = .ok (.imul, 1) := by decide +kernel
theorem dX11_readWalker_53 : decode cX11_readWalker 53 = .ok (.iconst 0, 1) := by decide +kernel
theorem dX11_readWalker_54 : decode cX11_readWalker 54 = .ok (.iadd, 1) := by decide +kernel
theorem dX11_readWalker_55 : decode cX11_readWalker 55 = .ok (.aload_n 0, 1) := by decide +kernel
theorem dX11_readWalker_56 : decode cX11_readWalker 56 = .ok (.invokevirtual 221, 3) := by decide +kernel
theorem dX11_readWalker_59 : decode cX11_readWalker 59 = .ok (.iastore, 1) := by decide +kernel
theorem dX11_readWalker_60 : decode cX11_readWalker 60 = .ok (.aload_n 0, 1) := by decide +kernel
theorem dX11_readWalker_61 : decode cX11_readWalker 61 = .ok (.getfield 55, 3) := by decide +kernel
theorem dX11_readWalker_64 : decode cX11_readWalker 64 = .ok (.bipush 6, 2) := by decide +kernel
theorem dX11_readWalker_66 : decode cX11_readWalker 66 = .ok (.iload_n 2, 1) := by decide +kernel
theorem dX11_readWalker_67 : decode cX11_readWalker 67 = .ok (.imul, 1) := by decide +kernel
theorem dX11_readWalker_68 : decode cX11_readWalker 68 = .ok (.iconst 1, 1) := by decide +kernel
theorem dX11_readWalker_69 : decode cX11_readWalker 69 = .ok (.iadd, 1) := by decide +kernel
theorem dX11_readWalker_70 : decode cX11_readWalker 70 = .ok (.aload_n 0, 1) := by decide +kernel
theorem dX11_readWalker_71 : decode cX11_readWalker 71 = .ok (.iconst 0, 1) := by decide +kernel
theorem dX11_readWalker_72 : decode cX11_readWalker 72 = .ok (.bipush 99, 2) := by decide +kernel
theorem dX11_readWalker_74 : decode cX11_readWalker 74 = .ok (.invokevirtual 211, 3) := by decide +kernel
theorem dX11_readWalker_77 : decode cX11_readWalker 77 = .ok (.iastore, 1) := by decide +kernel
theorem dX11_readWalker_78 : decode cX11_readWalker 78 = .ok (.aload_n 0, 1) := by decide +kernel
theorem dX11_readWalker_79 : decode cX11_readWalker 79 = .ok (.getfield 55, 3) := by decide +kernel
theorem dX11_readWalker_82 : decode cX11_readWalker 82 = .ok (.bipush 6, 2) := by decide +kernel
theorem dX11_readWalker_84 : decode cX11_readWalker 84 = .ok (.iload_n 2, 1) := by decide +kernel
theorem dX11_readWalker_85 : decode cX11_readWalker 85 = .ok (.imul, 1) := by decide +kernel
theorem dX11_readWalker_86 : decode cX11_readWalker 86 = .ok (.iconst 2, 1) := by decide +kernel
theorem dX11_readWalker_87 : decode cX11_readWalker 87 = .ok (.iadd, 1) := by decide +kernel
theorem dX11_readWalker_88 : decode cX11_readWalker 88 = .ok (.iconst 0, 1) := by decide +kernel
theorem dX11_readWalker_89 : decode cX11_readWalker 89 = .ok (.iastore, 1) := by decide +kernel
theorem dX11_readWalker_90 : decode cX11_readWalker 90 = .ok (.aload_n 0, 1) := by decide +kernel
theorem dX11_readWalker_91 : decode cX11_readWalker 91 = .ok (.getfield 55, 3) := by decide +kernel
theorem dX11_readWalker_94 : decode cX11_readWalker 94 = .ok (.bipush 6, 2) := by decide +kernel
theorem dX11_readWalker_96 : decode cX11_readWalker 96 = .ok (.iload_n 2, 1) := by decide +kernel
theorem dX11_readWalker_97 : decode cX11_readWalker 97 = .ok (.imul, 1) := by decide +kernel
theorem dX11_readWalker_98 : decode cX11_readWalker 98 = .ok (.iconst 3, 1) := by decide +kernel
theorem dX11_readWalker_99 : decode cX11_readWalker 99 = .ok (.iadd, 1) := by decide +kernel
theorem dX11_readWalker_100 : decode cX11_readWalker 100 = .ok (.iconst 0, 1) := by decide +kernel
theorem dX11_readWalker_101 : decode cX11_readWalker 101 = .ok (.iastore, 1) := by decide +kernel
theorem dX11_readWalker_102 : decode cX11_readWalker 102 = .ok (.aload_n 0, 1) := by decide +kernel
theorem dX11_readWalker_103 : decode cX11_readWalker 103 = .ok (.getfield 55, 3) := by decide +kernel
theorem dX11_readWalker_106 : decode cX11_readWalker 106 = .ok (.bipush 6, 2) := by decide +kernel
theorem dX11_readWalker_108 : decode cX11_readWalker 108 = .ok (.iload_n 2, 1) := by decide +kernel
theorem dX11_readWalker_109 : decode cX11_readWalker 109 = .ok (.imul, 1) := by decide +kernel
theorem dX11_readWalker_110 : decode cX11_readWalker 110 = .ok (.iconst 4, 1) := by decide +kernel
theorem dX11_readWalker_111 : decode cX11_readWalker 111 = .ok (.iadd, 1) := by decide +kernel
theorem dX11_readWalker_112 : decode cX11_readWalker 112 = .ok (.iconst (-1), 1) := by decide +kernel
theorem dX11_readWalker_113 : decode cX11_readWalker 113 = .ok (.iastore, 1) := by decide +kernel
theorem dX11_readWalker_114 : decode cX11_readWalker 114 = .ok (.aload_n 0, 1) := by decide +kernel
theorem dX11_readWalker_115 : decode cX11_readWalker 115 = .ok (.getfield 55, 3) := by decide +kernel
theorem dX11_readWalker_118 : decode cX11_readWalker 118 = .ok (.bipush 6, 2) := by decide +kernel
theorem dX11_readWalker_120 : decode cX11_readWalker 120 = .ok (.iload_n 2, 1) := by decide +kernel
theorem dX11_readWalker_121 : decode cX11_readWalker 121 = .ok (.imul, 1) := by decide +kernel
theorem dX11_readWalker_122 : decode cX11_readWalker 122 = .ok (.iconst 5, 1) := by decide +kernel
theorem dX11_readWalker_123 : decode cX11_readWalker 123 = .ok (.iadd, 1) := by decide +kernel
theorem dX11_readWalker_124 : decode cX11_readWalker 124 = .ok (.iconst 0, 1) := by decide +kernel
theorem dX11_readWalker_125 : decode cX11_readWalker 125 = .ok (.iastore, 1) := by decide +kernel
theorem dX11_readWalker_126 : decode cX11_readWalker 126 = .ok (.aload_n 0, 1) := by decide +kernel
theorem dX11_readWalker_127 : decode cX11_readWalker 127 = .ok (.getfield 36, 3) := by decide +kernel
theorem dX11_readWalker_130 : decode cX11_readWalker 130 = .ok (.bipush 10, 2) := by decide +kernel
theorem dX11_readWalker_132 : decode cX11_readWalker 132 = .ok (.dup2, 1) := by decide +kernel
theorem dX11_readWalker_133 : decode cX11_readWalker 133 = .ok (.iaload, 1) := by decide +kernel
theorem dX11_readWalker_134 : decode cX11_readWalker 134 = .ok (.iconst 1, 1) := by decide +kernel
theorem dX11_readWalker_135 : decode cX11_readWalker 135 = .ok (.iadd, 1) := by decide +kernel
theorem dX11_readWalker_136 : decode cX11_readWalker 136 = .ok (.iastore, 1) := by decide +kernel
theorem dX11_readWalker_137 : decode cX11_readWalker 137 = .ok (.return_, 1) := by decide +kernel
theorem dX11_readMirage_0 : decode cX11_readMirage 0 = .ok (.aload_n 0, 1) := by decide +kernel
theorem dX11_readMirage_1 : decode cX11_readMirage 1 = .ok (.iconst 0, 1) := by decide +kernel
theorem dX11_readMirage_2 : decode cX11_readMirage 2 = .ok (.aload_n 0, 1) := by decide +kernel
theorem dX11_readMirage_3 : decode cX11_readMirage 3 = .ok (.getfield 36, 3) := by decide +kernel
theorem dX11_readMirage_6 : decode cX11_readMirage 6 = .ok (.bipush 7, 2) := by decide +kernel
theorem dX11_readMirage_8 : decode cX11_readMirage 8 = .ok (.iaload, 1) := by decide +kernel
theorem dX11_readMirage_9 : decode cX11_readMirage 9 = .ok (.iconst 1, 1) := by decide +kernel
theorem dX11_readMirage_10 : decode cX11_readMirage 10 = .ok (.isub, 1) := by decide +kernel
theorem dX11_readMirage_11 : decode cX11_readMirage 11 = .ok (.invokevirtual 211, 3) := by decide +kernel
theorem dX11_readMirage_14 : decode cX11_readMirage 14 = .ok (.istore_n 1, 1) := by decide +kernel
theorem dX11_readMirage_15 : decode cX11_readMirage 15 = .ok (.aload_n 0, 1) := by decide +kernel
theorem dX11_readMirage_16 : decode cX11_readMirage 16 = .ok (.getfield 36, 3) := by decide +kernel
theorem dX11_readMirage_19 : decode cX11_readMirage 19 = .ok (.bipush 7, 2) := by decide +kernel
theorem dX11_readMirage_21 : decode cX11_readMirage 21 = .ok (.iaload, 1) := by decide +kernel
theorem dX11_readMirage_22 : decode cX11_readMirage 22 = .ok (.aload_n 0, 1) := by decide +kernel
theorem dX11_readMirage_23 : decode cX11_readMirage 23 = .ok (.iconst 0, 1) := by decide +kernel
theorem dX11_readMirage_24 : decode cX11_readMirage 24 = .ok (.aload_n 0, 1) := by decide +kernel
theorem dX11_readMirage_25 : decode cX11_readMirage 25 = .ok (.getfield 36, 3) := by decide +kernel
theorem dX11_readMirage_28 : decode cX11_readMirage 28 = .ok (.bipush 8, 2) := by decide +kernel
theorem dX11_readMirage_30 : decode cX11_readMirage 30 = .ok (.iaload, 1) := by decide +kernel
theorem dX11_readMirage_31 : decode cX11_readMirage 31 = .ok (.iconst 1, 1) := by decide +kernel
theorem dX11_readMirage_32 : decode cX11_readMirage 32 = .ok (.isub, 1) := by decide +kernel
theorem dX11_readMirage_33 : decode cX11_readMirage 33 = .ok (.invokevirtual 208, 3) := by decide +kernel
theorem dX11_readMirage_36 : decode cX11_readMirage 36 = .ok (.imul, 1) := by decide +kernel
theorem dX11_readMirage_37 : decode cX11_readMirage 37 = .ok (.iload_n 1, 1) := by decide +kernel
theorem dX11_readMirage_38 : decode cX11_readMirage 38 = .ok (.iadd, 1) := by decide +kernel
theorem dX11_readMirage_39 : decode cX11_readMirage 39 = .ok (.istore_n 2, 1) := by decide +kernel
theorem dX11_readMirage_40 : decode cX11_readMirage 40 = .ok (.aload_n 0, 1) := by decide +kernel
theorem dX11_readMirage_41 : decode cX11_readMirage 41 = .ok (.getfield 181, 3) := by decide +kernel
theorem dX11_readMirage_44 : decode cX11_readMirage 44 = .ok (.ifCond .ne 20, 3) := by decide +kernel
theorem dX11_readMirage_47 : decode cX11_readMirage 47 = .ok (.aload_n 0, 1) := by decide +kernel
theorem dX11_readMirage_48 : decode cX11_readMirage 48 = .ok (.getfield 65, 3) := by decide +kernel
theorem dX11_readMirage_51 : decode cX11_readMirage 51 = .ok (.bipush 100, 2) := by decide +kernel
theorem dX11_readMirage_53 : decode cX11_readMirage 53 = .ok (.iload_n 2, 1) := by decide +kernel
theorem dX11_readMirage_54 : decode cX11_readMirage 54 = .ok (.iadd, 1) := by decide +kernel
theorem dX11_readMirage_55 : decode cX11_readMirage 55 = .ok (.baload, 1) := by decide +kernel
theorem dX11_readMirage_56 : decode cX11_readMirage 56 = .ok (.ifCond .eq 8, 3) := by decide +kernel
theorem dX11_readMirage_59 : decode cX11_readMirage 59 = .ok (.aload_n 0, 1) := by decide +kernel
theorem dX11_readMirage_60 : decode cX11_readMirage 60 = .ok (.iconst 4, 1) := by decide +kernel
theorem dX11_readMirage_61 : decode cX11_readMirage 61 = .ok (.invokevirtual 204, 3) := by decide +kernel
theorem dX11_readMirage_64 : decode cX11_readMirage 64 = .ok (.aload_n 0, 1) := by decide +kernel
theorem dX11_readMirage_65 : decode cX11_readMirage 65 = .ok (.getfield 181, 3) := by decide +kernel
theorem dX11_readMirage_68 : decode cX11_readMirage 68 = .ok (.ifCond .eq 4, 3) := by decide +kernel
theorem dX11_readMirage_71 : decode cX11_readMirage 71 = .ok (.return_, 1) := by decide +kernel
theorem dX11_readMirage_72 : decode cX11_readMirage 72 = .ok (.aload_n 0, 1) := by decide +kernel
theorem dX11_readMirage_73 : decode cX11_readMirage 73 = .ok (.getfield 65, 3) := by decide +kernel
theorem dX11_readMirage_76 : decode cX11_readMirage 76 = .ok (.bipush 100, 2) := by decide +kernel
theorem dX11_readMirage_78 : decode cX11_readMirage 78 = .ok (.iload_n 2, 1) := by decide +kernel
theorem dX11_readMirage_79 : decode cX11_readMirage 79 = .ok (.iadd, 1) := by decide +kernel
theorem dX11_readMirage_80 : decode cX11_readMirage 80 = .ok (.iconst 1, 1) := by decide +kernel
theorem dX11_readMirage_81 : decode cX11_readMirage 81 = .ok (.bastore, 1) := by decide +kernel
theorem dX11_readMirage_82 : decode cX11_readMirage 82 = .ok (.aload_n 0, 1) := by decide +kernel
theorem dX11_readMirage_83 : decode cX11_readMirage 83 = .ok (.invokevirtual 198, 3) := by decide +kernel
theorem dX11_readMirage_86 : decode cX11_readMirage 86 = .ok (.return_, 1) := by decide +kernel
theorem dX11_beginText_0 : decode cX11_beginText 0 = .ok (.iload_n 1, 1) := by decide +kernel
theorem dX11_beginText_1 : decode cX11_beginText 1 = .ok (.ifCond .lt 11, 3) := by decide +kernel
theorem dX11_beginText_4 : decode cX11_beginText 4 = .ok (.iload_n 1, 1) := by decide +kernel
theorem dX11_beginText_5 : decode cX11_beginText 5 = .ok (.aload_n 0, 1) := by decide +kernel
theorem dX11_beginText_6 : decode cX11_beginText 6 = .ok (.getfield 143, 3) := by decide +kernel
theorem dX11_beginText_9 : decode cX11_beginText 9 = .ok (.if_icmp .le 5, 3) := by decide +kernel
theorem dX11_beginText_12 : decode cX11_beginText 12 = .ok (.iconst 0, 1) := by decide +kernel
theorem dX11_beginText_13 : decode cX11_beginText 13 = .ok (.ireturn, 1) := by decide +kernel
theorem dX11_beginText_14 : decode cX11_beginText 14 = .ok (.aload_n 0, 1) := by decide +kernel
theorem dX11_beginText_15 : decode cX11_beginText 15 = .ok (.iconst 0, 1) := by decide +kernel
theorem dX11_beginText_16 : decode cX11_beginText 16 = .ok (.putfield 143, 3) := by decide +kernel
theorem dX11_beginText_19 : decode cX11_beginText 19 = .ok (.aload_n 0, 1) := by decide +kernel
theorem dX11_beginText_20 : decode cX11_beginText 20 = .ok (.iload_n 1, 1) := by decide +kernel
theorem dX11_beginText_21 : decode cX11_beginText 21 = .ok (.putfield 146, 3) := by decide +kernel
theorem dX11_beginText_24 : decode cX11_beginText 24 = .ok (.aload_n 0, 1) := by decide +kernel
theorem dX11_beginText_25 : decode cX11_beginText 25 = .ok (.iconst 0, 1) := by decide +kernel
theorem dX11_beginText_26 : decode cX11_beginText 26 = .ok (.putfield 149, 3) := by decide +kernel
theorem dX11_beginText_29 : decode cX11_beginText 29 = .ok (.aload_n 0, 1) := by decide +kernel
theorem dX11_beginText_30 : decode cX11_beginText 30 = .ok (.iconst 0, 1) := by decide +kernel
theorem dX11_beginText_31 : decode cX11_beginText 31 = .ok (.putfield 181, 3) := by decide +kernel
theorem dX11_beginText_34 : decode cX11_beginText 34 = .ok (.aload_n 0, 1) := by decide +kernel
theorem dX11_beginText_35 : decode cX11_beginText 35 = .ok (.iconst (-1), 1) := by decide +kernel
theorem dX11_beginText_36 : decode cX11_beginText 36 = .ok (.putfield 71, 3) := by decide +kernel
theorem dX11_beginText_39 : decode cX11_beginText 39 = .ok (.aload_n 0, 1) := by decide +kernel
theorem dX11_beginText_40 : decode cX11_beginText 40 = .ok (.invokevirtual 198, 3) := by decide +kernel
theorem dX11_beginText_43 : decode cX11_beginText 43 = .ok (.iconst 1, 1) := by decide +kernel
theorem dX11_beginText_44 : decode cX11_beginText 44 = .ok (.ireturn, 1) := by decide +kernel
theorem dX11_isWrong_0 : decode cX11_isWrong 0 = .ok (.aload_n 0, 1) := by decide +kernel
theorem dX11_isWrong_1 : decode cX11_isWrong 1 = .ok (.getfield 181, 3) := by decide +kernel
theorem dX11_isWrong_4 : decode cX11_isWrong 4 = .ok (.ifCond .ne 5, 3) := by decide +kernel
theorem dX11_isWrong_7 : decode cX11_isWrong 7 = .ok (.iconst 0, 1) := by decide +kernel
theorem dX11_isWrong_8 : decode cX11_isWrong 8 = .ok (.ireturn, 1) := by decide +kernel
theorem dX11_isWrong_9 : decode cX11_isWrong 9 = .ok (.aload_n 0, 1) := by decide +kernel
theorem dX11_isWrong_10 : decode cX11_isWrong 10 = .ok (.aload_n 0, 1) := by decide +kernel
theorem dX11_isWrong_11 : decode cX11_isWrong 11 = .ok (.getfield 184, 3) := by decide +kernel
theorem dX11_isWrong_14 : decode cX11_isWrong 14 = .ok (.putfield 71, 3) := by decide +kernel
theorem dX11_isWrong_17 : decode cX11_isWrong 17 = .ok (.aload_n 0, 1) := by decide +kernel
theorem dX11_isWrong_18 : decode cX11_isWrong 18 = .ok (.getfield 58, 3) := by decide +kernel
theorem dX11_isWrong_21 : decode cX11_isWrong 21 = .ok (.iconst 0, 1) := by decide +kernel
theorem dX11_isWrong_22 : decode cX11_isWrong 22 = .ok (.dup2, 1) := by decide +kernel
theorem dX11_isWrong_23 : decode cX11_isWrong 23 = .ok (.iaload, 1) := by decide +kernel
theorem dX11_isWrong_24 : decode cX11_isWrong 24 = .ok (.iconst 1, 1) := by decide +kernel
theorem dX11_isWrong_25 : decode cX11_isWrong 25 = .ok (.iadd, 1) := by decide +kernel
theorem dX11_isWrong_26 : decode cX11_isWrong 26 = .ok (.iastore, 1) := by decide +kernel
theorem dX11_isWrong_27 : decode cX11_isWrong 27 = .ok (.iconst 1, 1) := by decide +kernel
theorem dX11_isWrong_28 : decode cX11_isWrong 28 = .ok (.ireturn, 1) := by decide +kernel
theorem dX11_be_0 : decode cX11_be 0 = .ok (.iconst 0, 1) := by decide +kernel
theorem dX11_be_1 : decode cX11_be 1 = .ok (.istore_n 2, 1) := by decide +kernel
theorem dX11_be_2 : decode cX11_be 2 = .ok (.iload_n 2, 1) := by decide +kernel
theorem dX11_be_3 : decode cX11_be 3 = .ok (.aload_n 0, 1) := by decide +kernel
theorem dX11_be_4 : decode cX11_be 4 = .ok (.arraylength, 1) := by decide +kernel
theorem dX11_be_5 : decode cX11_be 5 = .ok (.if_icmp .ge 15, 3) := by decide +kernel
theorem dX11_be_8 : decode cX11_be 8 = .ok (.aload_n 0, 1) := by decide +kernel
theorem dX11_be_9 : decode cX11_be 9 = .ok (.iload_n 2, 1) := by decide +kernel
theorem dX11_be_10 : decode cX11_be 10 = .ok (.aload_n 1, 1) := by decide +kernel
theorem dX11_be_11 : decode cX11_be 11 = .ok (.iload_n 2, 1) := by decide +kernel
theorem dX11_be_12 : decode cX11_be 12 = .ok (.iaload, 1) := by decide +kernel
theorem dX11_be_13 : decode cX11_be 13 = .ok (.iastore, 1) := by decide +kernel
theorem dX11_be_14 : decode cX11_be 14 = .ok (.iinc 2 1, 3) := by decide +kernel
theorem dX11_be_17 : decode cX11_be 17 = .ok (.goto (-15), 3) := by decide +kernel
theorem dX11_be_20 : decode cX11_be 20 = .ok (.return_, 1) := by decide +kernel
theorem dX11_fault_0 : decode cX11_fault 0 = .ok (.aload_n 0, 1) := by decide +kernel
theorem dX11_fault_1 : decode cX11_fault 1 = .ok (.iconst 0, 1) := by decide +kernel
theorem dX11_fault_2 : decode cX11_fault 2 = .ok (.putfield 132, 3) := by decide +kernel
theorem dX11_fault_5 : decode cX11_fault 5 = .ok (.aload_n 0, 1) := by decide +kernel
theorem dX11_fault_6 : decode cX11_fault 6 = .ok (.getfield 71, 3) := by decide +kernel
theorem dX11_fault_9 : decode cX11_fault 9 = .ok (.ireturn, 1) := by decide +kernel
theorem dX11_howMany_0 : decode cX11_howMany 0 = .ok (.iconst 0, 1) := by decide +kernel
theorem dX11_howMany_1 : decode cX11_howMany 1 = .ok (.istore_n 3, 1) := by decide +kernel
theorem dX11_howMany_2 : decode cX11_howMany 2 = .ok (.iconst 0, 1) := by decide +kernel
theorem dX11_howMany_3 : decode cX11_howMany 3 = .ok (.istore 4, 2) := by decide +kernel
theorem dX11_howMany_5 : decode cX11_howMany 5 = .ok (.iload 4, 2) := by decide +kernel
theorem dX11_howMany_7 : decode cX11_howMany 7 = .ok (.aload_n 0, 1) := by decide +kernel
theorem dX11_howMany_8 : decode cX11_howMany 8 = .ok (.getfield 36, 3) := by decide +kernel
theorem dX11_howMany_11 : decode cX11_howMany 11 = .ok (.iconst 3, 1) := by decide +kernel
theorem dX11_howMany_12 : decode cX11_howMany 12 = .ok (.iaload, 1) := by decide +kernel
theorem dX11_howMany_13 : decode cX11_howMany 13 = .ok (.if_icmp .ge 30, 3) := by decide +kernel
theorem dX11_howMany_16 : decode cX11_howMany 16 = .ok (.iload_n 3, 1) := by decide +kernel
theorem dX11_howMany_17 : decode cX11_howMany 17 = .ok (.aload_n 1, 1) := by decide +kernel
theorem dX11_howMany_18 : decode cX11_howMany 18 = .ok (.bipush 6, 2) := by decide +kernel
theorem dX11_howMany_20 : decode cX11_howMany 20 = .ok (.iload 4, 2) := by decide +kernel
theorem dX11_howMany_22 : decode cX11_howMany 22 = .ok (.imul, 1) := by decide +kernel
theorem dX11_howMany_23 : decode cX11_howMany 23 = .ok (.iconst 3, 1) := by decide +kernel
theorem dX11_howMany_24 : decode cX11_howMany 24 = .ok (.iadd, 1) := by decide +kernel
theorem dX11_howMany_25 : decode cX11_howMany 25 = .ok (.iaload, 1) := by decide +kernel
theorem dX11_howMany_26 : decode cX11_howMany 26 = .ok (.iload_n 2, 1) := by decide +kernel
theorem dX11_howMany_27 : decode cX11_howMany 27 = .ok (.if_icmp .ne 7, 3) := by decide +kernel
theorem dX11_howMany_30 : decode cX11_howMany 30 = .ok (.iconst 1, 1) := by decide +kernel
theorem dX11_howMany_31 : decode cX11_howMany 31 = .ok (.goto 4, 3) := by decide +kernel
theorem dX11_howMany_34 : decode cX11_howMany 34 = .ok (.iconst 0, 1) := by decide +kernel
theorem dX11_howMany_35 : decode cX11_howMany 35 = .ok (.iadd, 1) := by decide +kernel
theorem dX11_howMany_36 : decode cX11_howMany 36 = .ok (.istore_n 3, 1) := by decide +kernel
theorem dX11_howMany_37 : decode cX11_howMany 37 = .ok (.iinc 4 1, 3) := by decide +kernel
theorem dX11_howMany_40 : decode cX11_howMany 40 = .ok (.goto (-35), 3) := by decide +kernel
theorem dX11_howMany_43 : decode cX11_howMany 43 = .ok (.iload_n 3, 1) := by decide +kernel
theorem dX11_howMany_44 : decode cX11_howMany 44 = .ok (.ireturn, 1) := by decide +kernel
theorem dX11_count_0 : decode cX11_count 0 = .ok (.aload_n 0, 1) := by decide +kernel
theorem dX11_count_1 : decode cX11_count 1 = .ok (.iconst 0, 1) := by decide +kernel
theorem dX11_count_2 : decode cX11_count 2 = .ok (.putfield 132, 3) := by decide +kernel
theorem dX11_count_5 : decode cX11_count 5 = .ok (.iload_n 1, 1) := by decide +kernel
theorem dX11_count_6 : decode cX11_count 6 = .ok (.iconst 0, 1) := by decide +kernel
theorem dX11_count_7 : decode cX11_count 7 = .ok (.bipush 6, 2) := by decide +kernel
theorem dX11_count_9 : decode cX11_count 9 = .ok (.invokestatic 135, 3) := by decide +kernel
theorem dX11_count_12 : decode cX11_count 12 = .ok (.ifCond .eq 10, 3) := by decide +kernel
theorem dX11_count_15 : decode cX11_count 15 = .ok (.aload_n 0, 1) := by decide +kernel
theorem dX11_count_16 : decode cX11_count 16 = .ok (.getfield 36, 3) := by decide +kernel
theorem dX11_count_19 : decode cX11_count 19 = .ok (.iload_n 1, 1) := by decide +kernel
theorem dX11_count_20 : decode cX11_count 20 = .ok (.iaload, 1) := by decide +kernel
theorem dX11_count_21 : decode cX11_count 21 = .ok (.ireturn, 1) := by decide +kernel
theorem dX11_count_22 : decode cX11_count 22 = .ok (.iload_n 1, 1) := by decide +kernel
theorem dX11_count_23 : decode cX11_count 23 = .ok (.tableswitch 83 7 14 #[45, 50, 55, 55, 55, 68, 73, 73], 45) := by decide +kernel
theorem dX11_count_68 : decode cX11_count 68 = .ok (.aload_n 0, 1) := by decide +kernel
theorem dX11_count_69 : decode cX11_count 69 = .ok (.getfield 270, 3) := by decide +kernel
theorem dX11_count_72 : decode cX11_count 72 = .ok (.ireturn, 1) := by decide +kernel
theorem dX11_count_73 : decode cX11_count 73 = .ok (.aload_n 0, 1) := by decide +kernel
theorem dX11_count_74 : decode cX11_count 74 = .ok (.getfield 273, 3) := by decide +kernel
theorem dX11_count_77 : decode cX11_count 77 = .ok (.ireturn, 1) := by decide +kernel
theorem dX11_count_78 : decode cX11_count 78 = .ok (.aload_n 0, 1) := by decide +kernel
theorem dX11_count_79 : decode cX11_count 79 = .ok (.aload_n 0, 1) := by decide +kernel
theorem dX11_count_80 : decode cX11_count 80 = .ok (.getfield 52, 3) := by decide +kernel
theorem dX11_count_83 : decode cX11_count 83 = .ok (.iload_n 1, 1) := by decide +kernel
theorem dX11_count_84 : decode cX11_count 84 = .ok (.bipush 8, 2) := by decide +kernel
theorem dX11_count_86 : decode cX11_count 86 = .ok (.isub, 1) := by decide +kernel
theorem dX11_count_87 : decode cX11_count 87 = .ok (.invokevirtual 280, 3) := by decide +kernel
theorem dX11_count_90 : decode cX11_count 90 = .ok (.ireturn, 1) := by decide +kernel
theorem dX11_count_91 : decode cX11_count 91 = .ok (.aload_n 0, 1) := by decide +kernel
theorem dX11_count_92 : decode cX11_count 92 = .ok (.getfield 143, 3) := by decide +kernel
theorem dX11_count_95 : decode cX11_count 95 = .ok (.ireturn, 1) := by decide +kernel
theorem dX11_count_96 : decode cX11_count 96 = .ok (.aload_n 0, 1) := by decide +kernel
theorem dX11_count_97 : decode cX11_count 97 = .ok (.getfield 58, 3) := by decide +kernel
theorem dX11_count_100 : decode cX11_count 100 = .ok (.iload_n 1, 1) := by decide +kernel
theorem dX11_count_101 : decode cX11_count 101 = .ok (.bipush 13, 2) := by decide +kernel
theorem dX11_count_103 : decode cX11_count 103 = .ok (.isub, 1) := by decide +kernel
theorem dX11_count_104 : decode cX11_count 104 = .ok (.iaload, 1) := by decide +kernel
theorem dX11_count_105 : decode cX11_count 105 = .ok (.ireturn, 1) := by decide +kernel
theorem dX11_count_106 : decode cX11_count 106 = .ok (.aload_n 0, 1) := by decide +kernel
theorem dX11_count_107 : decode cX11_count 107 = .ok (.iconst 1, 1) := by decide +kernel
theorem dX11_count_108 : decode cX11_count 108 = .ok (.invokevirtual 256, 3) := by decide +kernel
theorem dX11_count_111 : decode cX11_count 111 = .ok (.ireturn, 1) := by decide +kernel
theorem dX11_tower_0 : decode cX11_tower 0 = .ok (.aload_n 0, 1) := by decide +kernel
theorem dX11_tower_1 : decode cX11_tower 1 = .ok (.iconst 0, 1) := by decide +kernel
theorem dX11_tower_2 : decode cX11_tower 2 = .ok (.putfield 132, 3) := by decide +kernel
theorem dX11_tower_5 : decode cX11_tower 5 = .ok (.aload_n 0, 1) := by decide +kernel
theorem dX11_tower_6 : decode cX11_tower 6 = .ok (.iload_n 1, 1) := by decide +kernel
theorem dX11_tower_7 : decode cX11_tower 7 = .ok (.invokevirtual 284, 3) := by decide +kernel
theorem dX11_tower_10 : decode cX11_tower 10 = .ok (.ifCond .ne 9, 3) := by decide +kernel
theorem dX11_tower_13 : decode cX11_tower 13 = .ok (.aload_n 0, 1) := by decide +kernel
theorem dX11_tower_14 : decode cX11_tower 14 = .ok (.iconst 1, 1) := by decide +kernel
theorem dX11_tower_15 : decode cX11_tower 15 = .ok (.invokevirtual 256, 3) := by decide +kernel
theorem dX11_tower_18 : decode cX11_tower 18 = .ok (.ireturn, 1) := by decide +kernel
theorem dX11_tower_19 : decode cX11_tower 19 = .ok (.iload_n 2, 1) := by decide +kernel
theorem dX11_tower_20 : decode cX11_tower 20 = .ok (.tableswitch 82 0 4 #[36, 43, 50, 57, 67], 36) := by decide +kernel
theorem dX11_tower_56 : decode cX11_tower 56 = .ok (.aload_n 0, 1) := by decide +kernel
theorem dX11_tower_57 : decode cX11_tower 57 = .ok (.getfield 40, 3) := by decide +kernel
theorem dX11_tower_60 : decode cX11_tower 60 = .ok (.iload_n 1, 1) := by decide +kernel
theorem dX11_tower_61 : decode cX11_tower 61 = .ok (.iaload, 1) := by decide +kernel
theorem dX11_tower_62 : decode cX11_tower 62 = .ok (.ireturn, 1) := by decide +kernel
theorem dX11_tower_63 : decode cX11_tower 63 = .ok (.aload_n 0, 1) := by decide +kernel
theorem dX11_tower_64 : decode cX11_tower 64 = .ok (.getfield 43, 3) := by decide +kernel
theorem dX11_tower_67 : decode cX11_tower 67 = .ok (.iload_n 1, 1) := by decide +kernel
theorem dX11_tower_68 : decode cX11_tower 68 = .ok (.iaload, 1) := by decide +kernel
theorem dX11_tower_69 : decode cX11_tower 69 = .ok (.ireturn, 1) := by decide +kernel
theorem dX11_tower_70 : decode cX11_tower 70 = .ok (.aload_n 0, 1) := by decide +kernel
theorem dX11_tower_71 : decode cX11_tower 71 = .ok (.getfield 46, 3) := by decide +kernel
theorem dX11_tower_74 : decode cX11_tower 74 = .ok (.iload_n 1, 1) := by decide +kernel
theorem dX11_tower_75 : decode cX11_tower 75 = .ok (.iaload, 1) := by decide +kernel
theorem dX11_tower_76 : decode cX11_tower 76 = .ok (.ireturn, 1) := by decide +kernel
theorem dX11_tower_77 : decode cX11_tower 77 = .ok (.aload_n 0, 1) := by decide +kernel
theorem dX11_tower_78 : decode cX11_tower 78 = .ok (.getfield 52, 3) := by decide +kernel
theorem dX11_tower_81 : decode cX11_tower 81 = .ok (.bipush 24, 2) := by decide +kernel
theorem dX11_tower_83 : decode cX11_tower 83 = .ok (.iload_n 1, 1) := by decide +kernel
theorem dX11_tower_84 : decode cX11_tower 84 = .ok (.iadd, 1) := by decide +kernel
theorem dX11_tower_85 : decode cX11_tower 85 = .ok (.iaload, 1) := by decide +kernel
theorem dX11_tower_86 : decode cX11_tower 86 = .ok (.ireturn, 1) := by decide +kernel
theorem dX11_tower_87 : decode cX11_tower 87 = .ok (.aload_n 0, 1) := by decide +kernel
theorem dX11_tower_88 : decode cX11_tower 88 = .ok (.getfield 61, 3) := by decide +kernel
theorem dX11_tower_91 : decode cX11_tower 91 = .ok (.iload_n 1, 1) := by decide +kernel
theorem dX11_tower_92 : decode cX11_tower 92 = .ok (.baload, 1) := by decide +kernel
theorem dX11_tower_93 : decode cX11_tower 93 = .ok (.ifCond .eq 7, 3) := by decide +kernel
theorem dX11_tower_96 : decode cX11_tower 96 = .ok (.iconst 1, 1) := by decide +kernel
theorem dX11_tower_97 : decode cX11_tower 97 = .ok (.goto 4, 3) := by decide +kernel
theorem dX11_tower_100 : decode cX11_tower 100 = .ok (.iconst 0, 1) := by decide +kernel
theorem dX11_tower_101 : decode cX11_tower 101 = .ok (.ireturn, 1) := by decide +kernel
theorem dX11_tower_102 : decode cX11_tower 102 = .ok (.aload_n 0, 1) := by decide +kernel
theorem dX11_tower_103 : decode cX11_tower 103 = .ok (.iconst 1, 1) := by decide +kernel
theorem dX11_tower_104 : decode cX11_tower 104 = .ok (.invokevirtual 256, 3) := by decide +kernel
theorem dX11_tower_107 : decode cX11_tower 107 = .ok (.ireturn, 1) := by decide +kernel
theorem dX11_walker_0 : decode cX11_walker 0 = .ok (.aload_n 0, 1) := by decide +kernel
theorem dX11_walker_1 : decode cX11_walker 1 = .ok (.iconst 0, 1) := by decide +kernel
theorem dX11_walker_2 : decode cX11_walker 2 = .ok (.putfield 132, 3) := by decide +kernel
theorem dX11_walker_5 : decode cX11_walker 5 = .ok (.aload_n 0, 1) := by decide +kernel
theorem dX11_walker_6 : decode cX11_walker 6 = .ok (.iload_n 1, 1) := by decide +kernel
theorem dX11_walker_7 : decode cX11_walker 7 = .ok (.invokevirtual 287, 3) := by decide +kernel
theorem dX11_walker_10 : decode cX11_walker 10 = .ok (.ifCond .eq 13, 3) := by decide +kernel
theorem dX11_walker_13 : decode cX11_walker 13 = .ok (.iload_n 2, 1) := by decide +kernel
theorem dX11_walker_14 : decode cX11_walker 14 = .ok (.iconst 0, 1) := by decide +kernel
theorem dX11_walker_15 : decode cX11_walker 15 = .ok (.bipush 6, 2) := by decide +kernel
theorem dX11_walker_17 : decode cX11_walker 17 = .ok (.invokestatic 135, 3) := by decide +kernel
theorem dX11_walker_20 : decode cX11_walker 20 = .ok (.ifCond .ne 9, 3) := by decide +kernel
theorem dX11_walker_23 : decode cX11_walker 23 = .ok (.aload_n 0, 1) := by decide +kernel
theorem dX11_walker_24 : decode cX11_walker 24 = .ok (.iconst 1, 1) := by decide +kernel
theorem dX11_walker_25 : decode cX11_walker 25 = .ok (.invokevirtual 256, 3) := by decide +kernel
theorem dX11_walker_28 : decode cX11_walker 28 = .ok (.ireturn, 1) := by decide +kernel
theorem dX11_walker_29 : decode cX11_walker 29 = .ok (.iload_n 2, 1) := by decide +kernel
theorem dX11_walker_30 : decode cX11_walker 30 = .ok (.ifCond .ne 12, 3) := by decide +kernel
theorem dX11_walker_33 : decode cX11_walker 33 = .ok (.aload_n 0, 1) := by decide +kernel
theorem dX11_walker_34 : decode cX11_walker 34 = .ok (.getfield 49, 3) := by decide +kernel
theorem dX11_walker_37 : decode cX11_walker 37 = .ok (.iload_n 1, 1) := by decide +kernel
theorem dX11_walker_38 : decode cX11_walker 38 = .ok (.iaload, 1) := by decide +kernel
theorem dX11_walker_39 : decode cX11_walker 39 = .ok (.goto 16, 3) := by decide +kernel
theorem dX11_walker_42 : decode cX11_walker 42 = .ok (.aload_n 0, 1) := by decide +kernel
theorem dX11_walker_43 : decode cX11_walker 43 = .ok (.getfield 52, 3) := by decide +kernel
theorem dX11_walker_46 : decode cX11_walker 46 = .ok (.bipush 6, 2) := by decide +kernel
theorem dX11_walker_48 : decode cX11_walker 48 = .ok (.iload_n 1, 1) := by decide +kernel
theorem dX11_walker_49 : decode cX11_walker 49 = .ok (.imul, 1) := by decide +kernel
theorem dX11_walker_50 : decode cX11_walker 50 = .ok (.iload_n 2, 1) := by decide +kernel
theorem dX11_walker_51 : decode cX11_walker 51 = .ok (.iadd, 1) := by decide +kernel
theorem dX11_walker_52 : decode cX11_walker 52 = .ok (.iconst 1, 1) := by decide +kernel
theorem dX11_walker_53 : decode cX11_walker 53 = .ok (.isub, 1) := by decide +kernel
theorem dX11_walker_54 : decode cX11_walker 54 = .ok (.iaload, 1) := by decide +kernel
theorem dX11_walker_55 : decode cX11_walker 55 = .ok (.ireturn, 1) := by decide +kernel
def wpX11_thrown (sM : AR) (post : Int32 → Prop) : Prop := post (sM 2)
set_option maxHeartbeats 4000000 in
set_option maxRecDepth 100000 in
theorem ctX11_thrown (l : Launch) (D : va_G) (cy : Nat → ClassId) (ev : Nat → Nat) (h0 : Nat) (rM : Nat → Nat) (sM : AR) (sz : Nat) (post : Int32 → Prop) (h : wpX11_thrown sM post) : Met l yX11_thrown (Cond.code yX11_thrown cX11_thrown 1 (some .int) :: TB) ({ frames := 0, cells := 0, slots := 0, locals := 0 }) (va_Pc [.ref h0] (PreX D cy ev [(h0, .inr (11, oX11 rM sM))] sz)) (va_Qi (fun (r : Int32) (u : Unit) => post r) (fun u => BkX D cy [(h0, .inr (11, oX11 rM sM))] sz [(h0, .inr (11, oX11 rM sM))]) (va_A [(h0, .inr (11, oX11 rM sM))] sz)) 0 0 (va_A [(h0, .inr (11, oX11 rM sM))] sz) := by
  refine ofWi (by decide) (Nat.le_of_ble_eq_true rfl) ?_
  intro p e s m args below meth c ls A R QQ hx hb hml hown hts hR hlk hE hK hP hD hS hA hl hret
  have hown : s.vm.findClass RX11 = some m.cls := hown
  have hRf : 0 ≤ R.frames := by rw [hR]; exact Nat.le_refl _
  have hRl : 0 ≤ R.locals := by rw [hR]; exact Nat.le_refl _
  clear hR
  have hl : lv_has ls 1 [(0, .ref h0)] := hl
  refine lv_aload_n hx hb dX11_thrown_0 rfl (lv_at hl 0 rfl) ?_
  refine gfX11_132 (v := (sM 2)) hx hb hts hown hK hP 0 rfl rfl dX11_thrown_1 ?_
  exact hret (sM 2) () _ _ _ _ rfl dX11_thrown_4 h hP hD hS
def wpX11_fail (sM : AR) (x1 : Int32) (post : Int32 → AR → Prop) : Prop := post (0 : Int32) (upd sM 2 x1)
set_option maxHeartbeats 4000000 in
set_option maxRecDepth 100000 in
theorem ctX11_fail (l : Launch) (D : va_G) (cy : Nat → ClassId) (ev : Nat → Nat) (h0 : Nat) (rM : Nat → Nat) (sM : AR) (x1 : Int32) (sz : Nat) (post : Int32 → AR → Prop) (h : wpX11_fail sM x1 post) : Met l yX11_fail (Cond.code yX11_fail cX11_fail 2 (some .int) :: TB) ({ frames := 0, cells := 0, slots := 0, locals := 0 }) (va_Pc [.ref h0, .int x1] (PreX D cy ev [(h0, .inr (11, oX11 rM sM))] sz)) (va_Qi (fun (r : Int32) (u : AR) => post r u) (fun u => BkX D cy [(h0, .inr (11, oX11 rM sM))] sz [(h0, .inr (11, oX11 rM u))]) (va_A [(h0, .inr (11, oX11 rM sM))] sz)) 0 0 (va_A [(h0, .inr (11, oX11 rM sM))] sz) := by
  refine ofWi (by decide) (Nat.le_of_ble_eq_true rfl) ?_
  intro p e s m args below meth c ls A R QQ hx hb hml hown hts hR hlk hE hK hP hD hS hA hl hret
  have hown : s.vm.findClass RX11 = some m.cls := hown
  have hRf : 0 ≤ R.frames := by rw [hR]; exact Nat.le_refl _
  have hRl : 0 ≤ R.locals := by rw [hR]; exact Nat.le_refl _
  clear hR
  have hl : lv_has ls 2 [(0, .ref h0), (1, .int x1)] := hl
  refine lv_aload_n hx hb dX11_fail_0 rfl (lv_at hl 0 rfl) ?_
  refine lv_iload_n hx hb dX11_fail_1 rfl (lv_at hl 1 rfl) ?_
  refine pfX11_132 hx hb hts hown hK hP hD hS 0 rfl dX11_fail_2 (fun H locs hP hD hS => ?_)
  have hP : va_P D clsX [(h0, .inr (11, oX11 rM (upd sM 2 x1)))] H := hP
  have hD : va_D A [(h0, .inr (11, oX11 rM (upd sM 2 x1)))] := hD
  refine lv_iconst (v := (0 : Int32)) hx hb dX11_fail_5 (by decide) ?_
  exact hret (0 : Int32) ((upd sM 2 x1)) _ _ _ _ rfl dX11_fail_6 h hP hD hS
def wpX11_isIn (x0 : Int32) (x1 : Int32) (x2 : Int32) (post : Int32 → Prop) : Prop := ((x0 < x1 → post (0 : Int32)) ∧ (¬ x0 < x1 → ((x2 < x0 → post (0 : Int32)) ∧ (¬ x2 < x0 → post (1 : Int32)))))
set_option maxHeartbeats 4000000 in
set_option maxRecDepth 100000 in
theorem ctX11_isIn (l : Launch) (D : va_G) (cy : Nat → ClassId) (ev : Nat → Nat) (x0 : Int32) (x1 : Int32) (x2 : Int32) (sz : Nat) (post : Int32 → Prop) (h : wpX11_isIn x0 x1 x2 post) : Met l yX11_isIn (Cond.code yX11_isIn cX11_isIn 3 (some .boolean) :: TB) ({ frames := 0, cells := 0, slots := 0, locals := 0 }) (va_Pc [.int x0, .int x1, .int x2] (PreX D cy ev [] sz)) (va_Qi (fun (r : Int32) (u : Unit) => post r) (fun u => BkX D cy [] sz []) (va_A [] sz)) 0 0 (va_A [] sz) := by
  refine ofWi (by decide) (Nat.le_of_ble_eq_true rfl) ?_
  intro p e s m args below meth c ls A R QQ hx hb hml hown hts hR hlk hE hK hP hD hS hA hl hret
  have hown : s.vm.findClass RX11 = some m.cls := hown
  have hRf : 0 ≤ R.frames := by rw [hR]; exact Nat.le_refl _
  have hRl : 0 ≤ R.locals := by rw [hR]; exact Nat.le_refl _
  clear hR
  have hl : lv_has ls 3 [(0, .int x0), (1, .int x1), (2, .int x2)] := hl
  refine lv_iload_n hx hb dX11_isIn_0 rfl (lv_at hl 0 rfl) ?_
  refine lv_iload_n hx hb dX11_isIn_1 rfl (lv_at hl 1 rfl) ?_
  refine lv_icmp_lt (tgt := 14) hx hb dX11_isIn_2 (by decide) (fun c2 => ?_) (fun c2 => ?_)
  · have h := h.1 c2
    refine lv_iconst (v := (0 : Int32)) hx hb dX11_isIn_14 (by decide) ?_
    exact hret (0 : Int32) () _ _ _ _ rfl dX11_isIn_15 h hP hD hS
  · have h := h.2 c2
    refine lv_iload_n hx hb dX11_isIn_5 rfl (lv_at hl 0 rfl) ?_
    refine lv_iload_n hx hb dX11_isIn_6 rfl (lv_at hl 2 rfl) ?_
    refine lv_icmp_gt (tgt := 14) hx hb dX11_isIn_7 (by decide) (fun c7 => ?_) (fun c7 => ?_)
    · have h := h.1 c7
      refine lv_iconst (v := (0 : Int32)) hx hb dX11_isIn_14 (by decide) ?_
      exact hret (0 : Int32) () _ _ _ _ rfl dX11_isIn_15 h hP hD hS
    · have h := h.2 c7
      refine lv_iconst (v := (1 : Int32)) hx hb dX11_isIn_10 (by decide) ?_
      refine lv_goto (tgt := 15) hx hb dX11_isIn_11 (by decide) ?_
      exact hret (1 : Int32) () _ _ _ _ rfl dX11_isIn_15 h hP hD hS
def wpX11_isTower (M_told : AR) (x1 : Int32) (post : Int32 → Prop) : Prop := wpX11_isIn x1 (0 : Int32) ((M_told 2) - (1 : Int32)) (fun r10 => narrow .boolean (.int r10) = .int r10 ∧ post r10)
set_option maxHeartbeats 4000000 in
set_option maxRecDepth 100000 in
theorem ctX11_isTower (l : Launch) (D : va_G) (cy : Nat → ClassId) (ev : Nat → Nat) (h0 : Nat) (rM : Nat → Nat) (sM : AR) (M_told : AR) (x1 : Int32) (sz : Nat) (post : Int32 → Prop) (h : wpX11_isTower M_told x1 post) : Met l yX11_isTower (Cond.code yX11_isTower cX11_isTower 2 (some .boolean) :: TB) ({ frames := 1, cells := 0, slots := 0, locals := 22 }) (va_Pc [.ref h0, .int x1] (PreX D cy ev [(h0, .inr (11, oX11 rM sM)), ((rM 3), .inl (cy 0, 14, .inl M_told))] sz)) (va_Qi (fun (r : Int32) (u : Unit) => post r) (fun u => BkX D cy [(h0, .inr (11, oX11 rM sM)), ((rM 3), .inl (cy 0, 14, .inl M_told))] sz [(h0, .inr (11, oX11 rM sM)), ((rM 3), .inl (cy 0, 14, .inl M_told))]) (va_A [(h0, .inr (11, oX11 rM sM)), ((rM 3), .inl (cy 0, 14, .inl M_told))] sz)) 0 0 (va_A [(h0, .inr (11, oX11 rM sM)), ((rM 3), .inl (cy 0, 14, .inl M_told))] sz) := by
  refine ofWi (by decide) (Nat.le_of_ble_eq_true rfl) ?_
  intro p e s m args below meth c ls A R QQ hx hb hml hown hts hR hlk hE hK hP hD hS hA hl hret
  have hown : s.vm.findClass RX11 = some m.cls := hown
  have hRf : 1 ≤ R.frames := by rw [hR]; exact Nat.le_refl _
  have hRl : 22 ≤ R.locals := by rw [hR]; exact Nat.le_refl _
  clear hR
  have hl : lv_has ls 2 [(0, .ref h0), (1, .int x1)] := hl
  refine lv_iload_n hx hb dX11_isTower_0 rfl (lv_at hl 1 rfl) ?_
  refine lv_iconst (v := (0 : Int32)) hx hb dX11_isTower_1 (by decide) ?_
  refine lv_aload_n hx hb dX11_isTower_2 rfl (lv_at hl 0 rfl) ?_
  refine gfX11_36 hx hb hts hown hK hP 0 rfl dX11_isTower_3 ?_
  refine lv_iconst (v := (2 : Int32)) hx hb dX11_isTower_6 (by decide) ?_
  refine ldi (k := 2) hx hb hK hP 1 rfl (inL (by decide)) (by decide) dX11_isTower_7 ?_
  refine lv_iconst (v := (1 : Int32)) hx hb dX11_isTower_8 (by decide) ?_
  refine lv_isub hx hb dX11_isTower_9 ?_
  refine clSi (As := [.int x1, .int (0 : Int32), .int ((M_told 2) - (1 : Int32))]) (rest := []) (Wr := [(h0, .inr (11, oX11 rM sM)), ((rM 3), .inl (cy 0, 14, .inl M_told))]) ⟨hx, hb, hml, hown, hts⟩ ⟨callB_of 3 hts (goodC mw1456) rfl rfl rfl (hts _ (tb mw15)) (hts _ (tb mw1454)) kdX11_isIn ⟨Nat.le_trans (by decide) hRf, Nat.le_trans (by decide) hRl⟩, hts _ (tb mw1455)⟩ (ctX11_isIn l D cy ev  x1 (0 : Int32) ((M_told 2) - (1 : Int32)) _ _ h) hE hK hP hD hS hA [] [0, 1] rfl rfl (by decide) (by decide) (by decide) rfl hl.1 rfl (Nat.le_of_ble_eq_true rfl) ⟨Nat.zero_le _, Nat.zero_le _⟩ dX11_isTower_10 (fun r10 u H locs h hP hD hS => ?_)
  have hP : va_P D clsX [(h0, .inr (11, oX11 rM sM)), ((rM 3), .inl (cy 0, 14, .inl M_told))] H := hP
  have hD : va_D A [(h0, .inr (11, oX11 rM sM)), ((rM 3), .inl (cy 0, 14, .inl M_told))] := hD
  obtain ⟨hz, h⟩ := h
  exact hret r10 () _ _ _ _ hz dX11_isTower_13 h hP hD hS
def wpX11_isWalker (M_told : AR) (x1 : Int32) (post : Int32 → Prop) : Prop := wpX11_isIn x1 (0 : Int32) ((M_told 3) - (1 : Int32)) (fun r10 => narrow .boolean (.int r10) = .int r10 ∧ post r10)
set_option maxHeartbeats 4000000 in
set_option maxRecDepth 100000 in
theorem ctX11_isWalker (l : Launch) (D : va_G) (cy : Nat → ClassId) (ev : Nat → Nat) (h0 : Nat) (rM : Nat → Nat) (sM : AR) (M_told : AR) (x1 : Int32) (sz : Nat) (post : Int32 → Prop) (h : wpX11_isWalker M_told x1 post) : Met l yX11_isWalker (Cond.code yX11_isWalker cX11_isWalker 2 (some .boolean) :: TB) ({ frames := 1, cells := 0, slots := 0, locals := 22 }) (va_Pc [.ref h0, .int x1] (PreX D cy ev [(h0, .inr (11, oX11 rM sM)), ((rM 3), .inl (cy 0, 14, .inl M_told))] sz)) (va_Qi (fun (r : Int32) (u : Unit) => post r) (fun u => BkX D cy [(h0, .inr (11, oX11 rM sM)), ((rM 3), .inl (cy 0, 14, .inl M_told))] sz [(h0, .inr (11, oX11 rM sM)), ((rM 3), .inl (cy 0, 14, .inl M_told))]) (va_A [(h0, .inr (11, oX11 rM sM)), ((rM 3), .inl (cy 0, 14, .inl M_told))] sz)) 0 0 (va_A [(h0, .inr (11, oX11 rM sM)), ((rM 3), .inl (cy 0, 14, .inl M_told))] sz) := by
  refine ofWi (by decide) (Nat.le_of_ble_eq_true rfl) ?_
  intro p e s m args below meth c ls A R QQ hx hb hml hown hts hR hlk hE hK hP hD hS hA hl hret
  have hown : s.vm.findClass RX11 = some m.cls := hown
  have hRf : 1 ≤ R.frames := by rw [hR]; exact Nat.le_refl _
  have hRl : 22 ≤ R.locals := by rw [hR]; exact Nat.le_refl _
  clear hR
  have hl : lv_has ls 2 [(0, .ref h0), (1, .int x1)] := hl
  refine lv_iload_n hx hb dX11_isWalker_0 rfl (lv_at hl 1 rfl) ?_
  refine lv_iconst (v := (0 : Int32)) hx hb dX11_isWalker_1 (by decide) ?_
  refine lv_aload_n hx hb dX11_isWalker_2 rfl (lv_at hl 0 rfl) ?_
  refine gfX11_36 hx hb hts hown hK hP 0 rfl dX11_isWalker_3 ?_
  refine lv_iconst (v := (3 : Int32)) hx hb dX11_isWalker_6 (by decide) ?_
  refine ldi (k := 3) hx hb hK hP 1 rfl (inL (by decide)) (by decide) dX11_isWalker_7 ?_
  refine lv_iconst (v := (1 : Int32)) hx hb dX11_isWalker_8 (by decide) ?_
  refine lv_isub hx hb dX11_isWalker_9 ?_
  refine clSi (As := [.int x1, .int (0 : Int32), .int ((M_told 3) - (1 : Int32))]) (rest := []) (Wr := [(h0, .inr (11, oX11 rM sM)), ((rM 3), .inl (cy 0, 14, .inl M_told))]) ⟨hx, hb, hml, hown, hts⟩ ⟨callB_of 3 hts (goodC mw1456) rfl rfl rfl (hts _ (tb mw15)) (hts _ (tb mw1454)) kdX11_isIn ⟨Nat.le_trans (by decide) hRf, Nat.le_trans (by decide) hRl⟩, hts _ (tb mw1455)⟩ (ctX11_isIn l D cy ev  x1 (0 : Int32) ((M_told 3) - (1 : Int32)) _ _ h) hE hK hP hD hS hA [] [0, 1] rfl rfl (by decide) (by decide) (by decide) rfl hl.1 rfl (Nat.le_of_ble_eq_true rfl) ⟨Nat.zero_le _, Nat.zero_le _⟩ dX11_isWalker_10 (fun r10 u H locs h hP hD hS => ?_)
  have hP : va_P D clsX [(h0, .inr (11, oX11 rM sM)), ((rM 3), .inl (cy 0, 14, .inl M_told))] H := hP
  have hD : va_D A [(h0, .inr (11, oX11 rM sM)), ((rM 3), .inl (cy 0, 14, .inl M_told))] := hD
  obtain ⟨hz, h⟩ := h
  exact hret r10 () _ _ _ _ hz dX11_isWalker_13 h hP hD hS
def wpX11_cells (M_told : AR) (post : Int32 → Prop) : Prop := post ((M_told 0) * (M_told 1))
set_option maxHeartbeats 4000000 in
set_option maxRecDepth 100000 in
theorem ctX11_cells (l : Launch) (D : va_G) (cy : Nat → ClassId) (ev : Nat → Nat) (h0 : Nat) (rM : Nat → Nat) (sM : AR) (M_told : AR) (sz : Nat) (post : Int32 → Prop) (h : wpX11_cells M_told post) : Met l yX11_cells (Cond.code yX11_cells cX11_cells 1 (some .int) :: TB) ({ frames := 0, cells := 0, slots := 0, locals := 0 }) (va_Pc [.ref h0] (PreX D cy ev [(h0, .inr (11, oX11 rM sM)), ((rM 3), .inl (cy 0, 14, .inl M_told))] sz)) (va_Qi (fun (r : Int32) (u : Unit) => post r) (fun u => BkX D cy [(h0, .inr (11, oX11 rM sM)), ((rM 3), .inl (cy 0, 14, .inl M_told))] sz [(h0, .inr (11, oX11 rM sM)), ((rM 3), .inl (cy 0, 14, .inl M_told))]) (va_A [(h0, .inr (11, oX11 rM sM)), ((rM 3), .inl (cy 0, 14, .inl M_told))] sz)) 0 0 (va_A [(h0, .inr (11, oX11 rM sM)), ((rM 3), .inl (cy 0, 14, .inl M_told))] sz) := by
  refine ofWi (by decide) (Nat.le_of_ble_eq_true rfl) ?_
  intro p e s m args below meth c ls A R QQ hx hb hml hown hts hR hlk hE hK hP hD hS hA hl hret
  have hown : s.vm.findClass RX11 = some m.cls := hown
  have hRf : 0 ≤ R.frames := by rw [hR]; exact Nat.le_refl _
  have hRl : 0 ≤ R.locals := by rw [hR]; exact Nat.le_refl _
  clear hR
  have hl : lv_has ls 1 [(0, .ref h0)] := hl
  refine lv_aload_n hx hb dX11_cells_0 rfl (lv_at hl 0 rfl) ?_
  refine gfX11_36 hx hb hts hown hK hP 0 rfl dX11_cells_1 ?_
  refine lv_iconst (v := (0 : Int32)) hx hb dX11_cells_4 (by decide) ?_
  refine ldi (k := 0) hx hb hK hP 1 rfl (inL (by decide)) (by decide) dX11_cells_5 ?_
  refine lv_aload_n hx hb dX11_cells_6 rfl (lv_at hl 0 rfl) ?_
  refine gfX11_36 hx hb hts hown hK hP 0 rfl dX11_cells_7 ?_
  refine lv_iconst (v := (1 : Int32)) hx hb dX11_cells_10 (by decide) ?_
  refine ldi (k := 1) hx hb hK hP 1 rfl (inL (by decide)) (by decide) dX11_cells_11 ?_
  refine lv_imul hx hb dX11_cells_12 ?_
  exact hret ((M_told 0) * (M_told 1)) () _ _ _ _ rfl dX11_cells_13 h hP hD hS
def wpX11_isCell (M_told : AR) (x1 : Int32) (post : Int32 → Prop) : Prop := wpX11_cells M_told (fun r3 => wpX11_isIn x1 (0 : Int32) (r3 - (1 : Int32)) (fun r8 => narrow .boolean (.int r8) = .int r8 ∧ post r8))
set_option maxHeartbeats 4000000 in
set_option maxRecDepth 100000 in
theorem ctX11_isCell (l : Launch) (D : va_G) (cy : Nat → ClassId) (ev : Nat → Nat) (h0 : Nat) (rM : Nat → Nat) (sM : AR) (M_told : AR) (x1 : Int32) (sz : Nat) (post : Int32 → Prop) (h : wpX11_isCell M_told x1 post) : Met l yX11_isCell (Cond.code yX11_isCell cX11_isCell 2 (some .boolean) :: TB) ({ frames := 1, cells := 0, slots := 0, locals := 22 }) (va_Pc [.ref h0, .int x1] (PreX D cy ev [(h0, .inr (11, oX11 rM sM)), ((rM 3), .inl (cy 0, 14, .inl M_told))] sz)) (va_Qi (fun (r : Int32) (u : Unit) => post r) (fun u => BkX D cy [(h0, .inr (11, oX11 rM sM)), ((rM 3), .inl (cy 0, 14, .inl M_told))] sz [(h0, .inr (11, oX11 rM sM)), ((rM 3), .inl (cy 0, 14, .inl M_told))]) (va_A [(h0, .inr (11, oX11 rM sM)), ((rM 3), .inl (cy 0, 14, .inl M_told))] sz)) 0 0 (va_A [(h0, .inr (11, oX11 rM sM)), ((rM 3), .inl (cy 0, 14, .inl M_told))] sz) := by
  refine ofWi (by decide) (Nat.le_of_ble_eq_true rfl) ?_
  intro p e s m args below meth c ls A R QQ hx hb hml hown hts hR hlk hE hK hP hD hS hA hl hret
  have hown : s.vm.findClass RX11 = some m.cls := hown
  have hRf : 1 ≤ R.frames := by rw [hR]; exact Nat.le_refl _
  have hRl : 22 ≤ R.locals := by rw [hR]; exact Nat.le_refl _
  clear hR
  have hl : lv_has ls 2 [(0, .ref h0), (1, .int x1)] := hl
  refine lv_iload_n hx hb dX11_isCell_0 rfl (lv_at hl 1 rfl) ?_
  refine lv_iconst (v := (0 : Int32)) hx hb dX11_isCell_1 (by decide) ?_
  refine lv_aload_n hx hb dX11_isCell_2 rfl (lv_at hl 0 rfl) ?_
  refine clVi (As := []) (rest := [.int (0 : Int32), .int x1]) (Wr := []) (cq := (RX11, TX11, 56)) ⟨hx, hb, hml, hown, hts⟩ ⟨callB_of 0 hts (goodC mw1488) rfl rfl rfl (hts _ (tb mw15)) (hts _ (tb mw1485)) kdX11_cells ⟨Nat.le_trans (by decide) hRf, Nat.le_trans (by decide) hRl⟩, hts _ (tb mw1487), hts _ (tb ms61)⟩ (ctX11_cells l D cy ev h0 rM sM M_told  _ _ h) hE hK hP hD hS hA [0, 1] [] rfl rfl (by decide) (by decide) (by decide) 0 rfl rfl rfl hl.1 rfl (Nat.le_of_ble_eq_true rfl) ⟨Nat.zero_le _, Nat.zero_le _⟩ dX11_isCell_3 (fun r3 u H locs h hP hD hS => ?_)
  have hP : va_P D clsX [(h0, .inr (11, oX11 rM sM)), ((rM 3), .inl (cy 0, 14, .inl M_told))] H := hP
  have hD : va_D A [(h0, .inr (11, oX11 rM sM)), ((rM 3), .inl (cy 0, 14, .inl M_told))] := hD
  refine lv_iconst (v := (1 : Int32)) hx hb dX11_isCell_6 (by decide) ?_
  refine lv_isub hx hb dX11_isCell_7 ?_
  refine clSi (As := [.int x1, .int (0 : Int32), .int (r3 - (1 : Int32))]) (rest := []) (Wr := [(h0, .inr (11, oX11 rM sM)), ((rM 3), .inl (cy 0, 14, .inl M_told))]) ⟨hx, hb, hml, hown, hts⟩ ⟨callB_of 3 hts (goodC mw1456) rfl rfl rfl (hts _ (tb mw15)) (hts _ (tb mw1454)) kdX11_isIn ⟨Nat.le_trans (by decide) hRf, Nat.le_trans (by decide) hRl⟩, hts _ (tb mw1455)⟩ (ctX11_isIn l D cy ev  x1 (0 : Int32) (r3 - (1 : Int32)) _ _ h) hE hK hP hD hS hA [] [0, 1] rfl rfl (by decide) (by decide) (by decide) rfl hl.1 rfl (Nat.le_of_ble_eq_true rfl) ⟨Nat.zero_le _, Nat.zero_le _⟩ dX11_isCell_8 (fun r8 u H locs h hP hD hS => ?_)
  have hP : va_P D clsX [(h0, .inr (11, oX11 rM sM)), ((rM 3), .inl (cy 0, 14, .inl M_told))] H := hP
  have hD : va_D A [(h0, .inr (11, oX11 rM sM)), ((rM 3), .inl (cy 0, 14, .inl M_told))] := hD
  obtain ⟨hz, h⟩ := h
  exact hret r8 () _ _ _ _ hz dX11_isCell_11 h hP hD hS
def wpX11_feed_J76 (sM : AR) (M_tape : AR) (l1 : Int32) (l2 : Int32) (l3 : Int32) (l4 : Int32) (l5 : Int32) (l6 : Int32) (t0 : Int32) (kb : AR → AR → Int32 → Prop) (kx120 : AR → AR → Int32 → Prop) (post : Int32 → AR → AR → Prop) : Prop := vp_in (sM 14) 500 ∧ ∀ M_tape_103 : AR, M_tape_103 = upd M_tape (sM 14).toNatClampNeg ((jshr t0 ((24 : Int32) - ((8 : Int32) * (jrem l6 (4 : Int32))))) &&& (255 : Int32)) → ∀ f14_111 : Int32, f14_111 = ((sM 14) + (1 : Int32)) → ∀ l6_114 : Int32, l6_114 = (l6 + (1 : Int32)) → kb (upd sM 14 f14_111) M_tape_103 l6_114
def wpX11_feed_L23 (l1 : Int32) (l2 : Int32) (l3 : Int32) (l4 : Int32) (l5 : Int32) (kx120 : AR → AR → Int32 → Prop) (post : Int32 → AR → AR → Prop) : Nat → AR → AR → Int32 → Prop
  | 0, _, _, _ => False
  | nf23 + 1, sM, M_tape, l6 => (((20 : Int32) ≤ l6 → kx120 sM M_tape l6) ∧ (¬ (20 : Int32) ≤ l6 → (((4 : Int32) ≤ l6 → (((8 : Int32) ≤ l6 → (((12 : Int32) ≤ l6 → (((16 : Int32) ≤ l6 → wpX11_feed_J76 sM M_tape l1 l2 l3 l4 l5 l6 l5 (fun b0 b1 b2 => wpX11_feed_L23 l1 l2 l3 l4 l5 kx120 post nf23 b0 b1 b2) kx120 post) ∧ (¬ (16 : Int32) ≤ l6 → wpX11_feed_J76 sM M_tape l1 l2 l3 l4 l5 l6 l4 (fun b0 b1 b2 => wpX11_feed_L23 l1 l2 l3 l4 l5 kx120 post nf23 b0 b1 b2) kx120 post))) ∧ (¬ (12 : Int32) ≤ l6 → wpX11_feed_J76 sM M_tape l1 l2 l3 l4 l5 l6 l3 (fun b0 b1 b2 => wpX11_feed_L23 l1 l2 l3 l4 l5 kx120 post nf23 b0 b1 b2) kx120 post))) ∧ (¬ (8 : Int32) ≤ l6 → wpX11_feed_J76 sM M_tape l1 l2 l3 l4 l5 l6 l2 (fun b0 b1 b2 => wpX11_feed_L23 l1 l2 l3 l4 l5 kx120 post nf23 b0 b1 b2) kx120 post))) ∧ (¬ (4 : Int32) ≤ l6 → wpX11_feed_J76 sM M_tape l1 l2 l3 l4 l5 l6 l1 (fun b0 b1 b2 => wpX11_feed_L23 l1 l2 l3 l4 l5 kx120 post nf23 b0 b1 b2) kx120 post))))
def wpX11_feed (sM : AR) (M_tape : AR) (x1 : Int32) (x2 : Int32) (x3 : Int32) (x4 : Int32) (x5 : Int32) (post : Int32 → AR → AR → Prop) : Prop := ((((sM 14) + (20 : Int32)) ≤ (500 : Int32) → ∃ nf23 : Nat, wpX11_feed_L23 x1 x2 x3 x4 x5 (fun sM_120 M_tape_120 l6_120 => post (sM_120 14) sM_120 M_tape_120) post nf23 (upd sM 2 (0 : Int32)) M_tape (0 : Int32)) ∧ (¬ ((sM 14) + (20 : Int32)) ≤ (500 : Int32) → post (-1 : Int32) (upd sM 2 (0 : Int32)) M_tape))
set_option maxHeartbeats 4000000 in
set_option maxRecDepth 100000 in
theorem ctX11_feed (l : Launch) (D : va_G) (cy : Nat → ClassId) (ev : Nat → Nat) (h0 : Nat) (rM : Nat → Nat) (sM : AR) (M_tape : AR) (x1 : Int32) (x2 : Int32) (x3 : Int32) (x4 : Int32) (x5 : Int32) (sz : Nat) (post : Int32 → AR → AR → Prop) (h : wpX11_feed sM M_tape x1 x2 x3 x4 x5 post) : Met l yX11_feed (Cond.code yX11_feed cX11_feed 8 (some .int) :: TB) ({ frames := 0, cells := 0, slots := 0, locals := 0 }) (va_Pc [.ref h0, .int x1, .int x2, .int x3, .int x4, .int x5] (PreX D cy ev [(h0, .inr (11, oX11 rM sM)), ((rM 13), .inl (cy 0, 500, .inl M_tape))] sz)) (va_Qi (fun (r : Int32) (u : AR × AR) => post r (u.1) (u.2)) (fun u => BkX D cy [(h0, .inr (11, oX11 rM sM)), ((rM 13), .inl (cy 0, 500, .inl M_tape))] sz [(h0, .inr (11, oX11 rM (u.1))), ((rM 13), .inl (cy 0, 500, .inl (u.2)))]) (va_A [(h0, .inr (11, oX11 rM sM)), ((rM 13), .inl (cy 0, 500, .inl M_tape))] sz)) 0 0 (va_A [(h0, .inr (11, oX11 rM sM)), ((rM 13), .inl (cy 0, 500, .inl M_tape))] sz) := by
  refine ofWi (by decide) (Nat.le_of_ble_eq_true rfl) ?_
  intro p e s m args below meth c ls A R QQ hx hb hml hown hts hR hlk hE hK hP hD hS hA hl hret
  have hown : s.vm.findClass RX11 = some m.cls := hown
  have hRf : 0 ≤ R.frames := by rw [hR]; exact Nat.le_refl _
  have hRl : 0 ≤ R.locals := by rw [hR]; exact Nat.le_refl _
  clear hR
  have hl : lv_has ls 8 [(0, .ref h0), (1, .int x1), (2, .int x2), (3, .int x3), (4, .int x4), (5, .int x5)] := hl
  have L23 : ∀ (l1 : Int32) (l2 : Int32) (l3 : Int32) (l4 : Int32) (l5 : Int32) (kx120 : AR → AR → Int32 → Prop), (∀ (sM : AR) (M_tape : AR) (l6 : Int32) (H : Heap) (locs : List Loc) (ls : Array Slot), kx120 sM M_tape l6 → va_P D clsX [(h0, .inr (11, oX11 rM sM)), ((rM 13), .inl (cy 0, 500, .inl M_tape))] H → va_D A [(h0, .inr (11, oX11 rM sM)), ((rM 13), .inl (cy 0, 500, .inl M_tape))] → va_S A s.heap H locs → lv_has ls 8 [(0, .ref h0)] → W p l e R s m args below meth c H locs 0 0 QQ (F0 m 120 ls [])) → ∀ (nf23 : Nat) (sM : AR) (M_tape : AR) (l6 : Int32) (H : Heap) (locs : List Loc) (ls : Array Slot), wpX11_feed_L23 l1 l2 l3 l4 l5 kx120 post nf23 sM M_tape l6 → va_P D clsX [(h0, .inr (11, oX11 rM sM)), ((rM 13), .inl (cy 0, 500, .inl M_tape))] H → va_D A [(h0, .inr (11, oX11 rM sM)), ((rM 13), .inl (cy 0, 500, .inl M_tape))] → va_S A s.heap H locs → lv_has ls 8 [(0, .ref h0), (1, .int l1), (2, .int l2), (3, .int l3), (4, .int l4), (5, .int l5), (6, .int l6)] → W p l e R s m args below meth c H locs 0 0 QQ (F0 m 23 ls []) := by
    intro l1 l2 l3 l4 l5 kx120 hk23_120 nf23
    induction nf23 with
    | zero =>
      intro sM M_tape l6 H locs ls h
      exact (show False from h).elim
    | succ nf23 ih23 =>
      intro sM M_tape l6 H locs ls h hP hD hS hl
      have J76 : ∀ (sM : AR) (M_tape : AR) (l6 : Int32) (t0 : Int32) (H : Heap) (locs : List Loc) (ls : Array Slot), wpX11_feed_J76 sM M_tape l1 l2 l3 l4 l5 l6 t0 (fun b0 b1 b2 => wpX11_feed_L23 l1 l2 l3 l4 l5 kx120 post nf23 b0 b1 b2) kx120 post → va_P D clsX [(h0, .inr (11, oX11 rM sM)), ((rM 13), .inl (cy 0, 500, .inl M_tape))] H → va_D A [(h0, .inr (11, oX11 rM sM)), ((rM 13), .inl (cy 0, 500, .inl M_tape))] → va_S A s.heap H locs → lv_has ls 8 [(0, .ref h0), (1, .int l1), (2, .int l2), (3, .int l3), (4, .int l4), (5, .int l5), (6, .int l6)] → W p l e R s m args below meth c H locs 0 0 QQ (F0 m 76 ls [.int t0]) := by
        intro sM M_tape l6 t0 H locs ls h hP hD hS hl
        refine lv_istore (lv' := [(7, .int t0), (0, .ref h0), (1, .int l1), (2, .int l2), (3, .int l3), (4, .int l4), (5, .int l5), (6, .int l6)]) hx hb dX11_feed_76 hl (by decide) rfl (fun ls hl => ?_)
        refine lv_aload_n hx hb dX11_feed_78 rfl (lv_at hl 1 rfl) ?_
        refine gfX11_68 hx hb hts hown hK hP 0 rfl dX11_feed_79 ?_
        refine lv_aload_n hx hb dX11_feed_82 rfl (lv_at hl 1 rfl) ?_
        refine gfX11_143 (v := (sM 14)) hx hb hts hown hK hP 0 rfl rfl dX11_feed_83 ?_
        refine lv_iload hx hb dX11_feed_86 (lv_at hl 0 rfl) ?_
        refine lv_bipush (v := (24 : Int32)) hx hb dX11_feed_88 (by decide) ?_
        refine lv_bipush (v := (8 : Int32)) hx hb dX11_feed_90 (by decide) ?_
        refine lv_iload hx hb dX11_feed_92 (lv_at hl 7 rfl) ?_
        refine lv_iconst (v := (4 : Int32)) hx hb dX11_feed_94 (by decide) ?_
        refine lv_irem hx hb dX11_feed_95 (by decide) ?_
        refine lv_imul hx hb dX11_feed_96 ?_
        refine lv_isub hx hb dX11_feed_97 ?_
        refine lv_ishr hx hb dX11_feed_98 ?_
        refine lv_sipush (v := (255 : Int32)) hx hb dX11_feed_99 (by decide) ?_
        refine lv_iand hx hb dX11_feed_102 ?_
        obtain ⟨hin, h⟩ := h
        refine sti (k := (sM 14).toNatClampNeg) (y := ((jshr t0 ((24 : Int32) - ((8 : Int32) * (jrem l6 (4 : Int32))))) &&& (255 : Int32))) hx hb hK hP hD hS 1 rfl hin rfl rfl dX11_feed_103 (fun M_tape_103 eM_tape_103 H locs hP hD hS => ?_)
        have h := h M_tape_103 eM_tape_103
        have hP : va_P D clsX [(h0, .inr (11, oX11 rM sM)), ((rM 13), .inl (cy 0, 500, .inl M_tape_103))] H := hP
        have hD : va_D A [(h0, .inr (11, oX11 rM sM)), ((rM 13), .inl (cy 0, 500, .inl M_tape_103))] := hD
        refine lv_aload_n hx hb dX11_feed_104 rfl (lv_at hl 1 rfl) ?_
        refine lv_dup hx hb dX11_feed_105 rfl ?_
        refine gfX11_143 (v := (sM 14)) hx hb hts hown hK hP 0 rfl rfl dX11_feed_106 ?_
        refine lv_iconst (v := (1 : Int32)) hx hb dX11_feed_109 (by decide) ?_
        refine lv_iadd hx hb dX11_feed_110 ?_
        refine lv_topi (fun f14_111 ef14_111 => ?_)
        have h := h f14_111 ef14_111
        refine pfX11_143 hx hb hts hown hK hP hD hS 0 rfl dX11_feed_111 (fun H locs hP hD hS => ?_)
        have hP : va_P D clsX [(h0, .inr (11, oX11 rM (upd sM 14 f14_111))), ((rM 13), .inl (cy 0, 500, .inl M_tape_103))] H := hP
        have hD : va_D A [(h0, .inr (11, oX11 rM (upd sM 14 f14_111))), ((rM 13), .inl (cy 0, 500, .inl M_tape_103))] := hD
        obtain ⟨l6_114, el6_114⟩ : ∃ y : Int32, y = l6 + (1 : Int32) := ⟨_, rfl⟩
        have h := h l6_114 el6_114
        refine lv_iinc (v := l6_114) (lv' := [(6, .int l6_114), (7, .int t0), (0, .ref h0), (1, .int l1), (2, .int l2), (3, .int l3), (4, .int l4), (5, .int l5)]) hx hb dX11_feed_114 hl (k := 7) rfl (by rw [el6_114]; rfl) (by decide) rfl (fun ls hl => ?_)
        refine lv_goto (tgt := 23) hx hb dX11_feed_117 (by decide) ?_
        exact ih23 (upd sM 14 f14_111) M_tape_103 l6_114 _ _ _ h hP hD hS (lv_sub hl [2, 3, 4, 5, 6, 7, 0] rfl)
      refine lv_iload hx hb dX11_feed_23 (lv_at hl 6 rfl) ?_
      refine lv_bipush (v := (20 : Int32)) hx hb dX11_feed_25 (by decide) ?_
      refine lv_icmp_ge (tgt := 120) hx hb dX11_feed_27 (by decide) (fun c27 => ?_) (fun c27 => ?_)
      · have h := h.1 c27
        exact hk23_120 sM M_tape l6 _ _ _ h hP hD hS (lv_sub hl [0] rfl)
      · have h := h.2 c27
        refine lv_iload hx hb dX11_feed_30 (lv_at hl 6 rfl) ?_
        refine lv_iconst (v := (4 : Int32)) hx hb dX11_feed_32 (by decide) ?_
        refine lv_icmp_ge (tgt := 40) hx hb dX11_feed_33 (by decide) (fun c33 => ?_) (fun c33 => ?_)
        · have h := h.1 c33
          refine lv_iload hx hb dX11_feed_40 (lv_at hl 6 rfl) ?_
          refine lv_bipush (v := (8 : Int32)) hx hb dX11_feed_42 (by decide) ?_
          refine lv_icmp_ge (tgt := 51) hx hb dX11_feed_44 (by decide) (fun c44 => ?_) (fun c44 => ?_)
          · have h := h.1 c44
            refine lv_iload hx hb dX11_feed_51 (lv_at hl 6 rfl) ?_
            refine lv_bipush (v := (12 : Int32)) hx hb dX11_feed_53 (by decide) ?_
            refine lv_icmp_ge (tgt := 62) hx hb dX11_feed_55 (by decide) (fun c55 => ?_) (fun c55 => ?_)
            · have h := h.1 c55
              refine lv_iload hx hb dX11_feed_62 (lv_at hl 6 rfl) ?_
              refine lv_bipush (v := (16 : Int32)) hx hb dX11_feed_64 (by decide) ?_
              refine lv_icmp_ge (tgt := 74) hx hb dX11_feed_66 (by decide) (fun c66 => ?_) (fun c66 => ?_)
              · have h := h.1 c66
                refine lv_iload hx hb dX11_feed_74 (lv_at hl 5 rfl) ?_
                exact J76 sM M_tape l6 l5 _ _ _ h hP hD hS hl
              · have h := h.2 c66
                refine lv_iload hx hb dX11_feed_69 (lv_at hl 4 rfl) ?_
                refine lv_goto (tgt := 76) hx hb dX11_feed_71 (by decide) ?_
                exact J76 sM M_tape l6 l4 _ _ _ h hP hD hS hl
            · have h := h.2 c55
              refine lv_iload_n hx hb dX11_feed_58 rfl (lv_at hl 3 rfl) ?_
              refine lv_goto (tgt := 76) hx hb dX11_feed_59 (by decide) ?_
              exact J76 sM M_tape l6 l3 _ _ _ h hP hD hS hl
          · have h := h.2 c44
            refine lv_iload_n hx hb dX11_feed_47 rfl (lv_at hl 2 rfl) ?_
            refine lv_goto (tgt := 76) hx hb dX11_feed_48 (by decide) ?_
            exact J76 sM M_tape l6 l2 _ _ _ h hP hD hS hl
        · have h := h.2 c33
          refine lv_iload_n hx hb dX11_feed_36 rfl (lv_at hl 1 rfl) ?_
          refine lv_goto (tgt := 76) hx hb dX11_feed_37 (by decide) ?_
          exact J76 sM M_tape l6 l1 _ _ _ h hP hD hS hl
  refine lv_aload_n hx hb dX11_feed_0 rfl (lv_at hl 0 rfl) ?_
  refine lv_iconst (v := (0 : Int32)) hx hb dX11_feed_1 (by decide) ?_
  refine pfX11_132 hx hb hts hown hK hP hD hS 0 rfl dX11_feed_2 (fun H locs hP hD hS => ?_)
  have hP : va_P D clsX [(h0, .inr (11, oX11 rM (upd sM 2 (0 : Int32)))), ((rM 13), .inl (cy 0, 500, .inl M_tape))] H := hP
  have hD : va_D A [(h0, .inr (11, oX11 rM (upd sM 2 (0 : Int32)))), ((rM 13), .inl (cy 0, 500, .inl M_tape))] := hD
  refine lv_aload_n hx hb dX11_feed_5 rfl (lv_at hl 0 rfl) ?_
  refine gfX11_143 (v := (sM 14)) hx hb hts hown hK hP 0 rfl rfl dX11_feed_6 ?_
  refine lv_bipush (v := (20 : Int32)) hx hb dX11_feed_9 (by decide) ?_
  refine lv_iadd hx hb dX11_feed_11 ?_
  refine lv_sipush (v := (500 : Int32)) hx hb dX11_feed_12 (by decide) ?_
  refine lv_icmp_le (tgt := 20) hx hb dX11_feed_15 (by decide) (fun c15 => ?_) (fun c15 => ?_)
  · have h := h.1 c15
    refine lv_iconst (v := (0 : Int32)) hx hb dX11_feed_20 (by decide) ?_
    refine lv_istore (lv' := [(6, .int (0 : Int32)), (0, .ref h0), (1, .int x1), (2, .int x2), (3, .int x3), (4, .int x4), (5, .int x5)]) hx hb dX11_feed_21 hl (by decide) rfl (fun ls hl => ?_)
    obtain ⟨nf23, h⟩ := h
    refine L23 x1 x2 x3 x4 x5 _ (fun sM_120 M_tape_120 l6_120 H locs ls h hP hD hS hl => ?_) nf23 (upd sM 2 (0 : Int32)) M_tape (0 : Int32) _ _ _ h hP hD hS (lv_sub hl [1, 2, 3, 4, 5, 6, 0] rfl)
    refine lv_aload_n hx hb dX11_feed_120 rfl (lv_at hl 0 rfl) ?_
    refine gfX11_143 (v := (sM_120 14)) hx hb hts hown hK hP 0 rfl rfl dX11_feed_121 ?_
    exact hret (sM_120 14) (sM_120, M_tape_120) _ _ _ _ rfl dX11_feed_124 h hP hD hS
  · have h := h.2 c15
    refine lv_iconst (v := (-1 : Int32)) hx hb dX11_feed_18 (by decide) ?_
    exact hret (-1 : Int32) ((upd sM 2 (0 : Int32)), M_tape) _ _ _ _ rfl dX11_feed_19 h hP hD hS
def wpX11_byteAt (sM : AR) (M_tape : AR) (x1 : Int32) (post : Int32 → Prop) : Prop := (((sM 16) ≤ x1 → post (-1 : Int32)) ∧ (¬ (sM 16) ≤ x1 → vp_in x1 500 ∧ post (M_tape x1.toNatClampNeg)))
set_option maxHeartbeats 4000000 in
set_option maxRecDepth 100000 in
theorem ctX11_byteAt (l : Launch) (D : va_G) (cy : Nat → ClassId) (ev : Nat → Nat) (h0 : Nat) (rM : Nat → Nat) (sM : AR) (M_tape : AR) (x1 : Int32) (sz : Nat) (post : Int32 → Prop) (h : wpX11_byteAt sM M_tape x1 post) : Met l yX11_byteAt (Cond.code yX11_byteAt cX11_byteAt 2 (some .int) :: TB) ({ frames := 0, cells := 0, slots := 0, locals := 0 }) (va_Pc [.ref h0, .int x1] (PreX D cy ev [(h0, .inr (11, oX11 rM sM)), ((rM 13), .inl (cy 0, 500, .inl M_tape))] sz)) (va_Qi (fun (r : Int32) (u : Unit) => post r) (fun u => BkX D cy [(h0, .inr (11, oX11 rM sM)), ((rM 13), .inl (cy 0, 500, .inl M_tape))] sz [(h0, .inr (11, oX11 rM sM)), ((rM 13), .inl (cy 0, 500, .inl M_tape))]) (va_A [(h0, .inr (11, oX11 rM sM)), ((rM 13), .inl (cy 0, 500, .inl M_tape))] sz)) 0 0 (va_A [(h0, .inr (11, oX11 rM sM)), ((rM 13), .inl (cy 0, 500, .inl M_tape))] sz) := by
  refine ofWi (by decide) (Nat.le_of_ble_eq_true rfl) ?_
  intro p e s m args below meth c ls A R QQ hx hb hml hown hts hR hlk hE hK hP hD hS hA hl hret
  have hown : s.vm.findClass RX11 = some m.cls := hown
  have hRf : 0 ≤ R.frames := by rw [hR]; exact Nat.le_refl _
  have hRl : 0 ≤ R.locals := by rw [hR]; exact Nat.le_refl _
  clear hR
  have hl : lv_has ls 2 [(0, .ref h0), (1, .int x1)] := hl
  refine lv_iload_n hx hb dX11_byteAt_0 rfl (lv_at hl 1 rfl) ?_
  refine lv_aload_n hx hb dX11_byteAt_1 rfl (lv_at hl 0 rfl) ?_
  refine gfX11_146 (v := (sM 16)) hx hb hts hown hK hP 0 rfl rfl dX11_byteAt_2 ?_
  refine lv_icmp_ge (tgt := 17) hx hb dX11_byteAt_5 (by decide) (fun c5 => ?_) (fun c5 => ?_)
  · have h := h.1 c5
    refine lv_iconst (v := (-1 : Int32)) hx hb dX11_byteAt_17 (by decide) ?_
    exact hret (-1 : Int32) () _ _ _ _ rfl dX11_byteAt_18 h hP hD hS
  · have h := h.2 c5
    refine lv_aload_n hx hb dX11_byteAt_8 rfl (lv_at hl 0 rfl) ?_
    refine gfX11_68 hx hb hts hown hK hP 0 rfl dX11_byteAt_9 ?_
    refine lv_iload_n hx hb dX11_byteAt_12 rfl (lv_at hl 1 rfl) ?_
    obtain ⟨hin, h⟩ := h
    refine ldi (k := x1.toNatClampNeg) hx hb hK hP 1 rfl hin rfl dX11_byteAt_13 ?_
    refine lv_goto (tgt := 18) hx hb dX11_byteAt_14 (by decide) ?_
    exact hret (M_tape x1.toNatClampNeg) () _ _ _ _ rfl dX11_byteAt_18 h hP hD hS
def wpX11_isLetter (x0 : Int32) (post : Int32 → Prop) : Prop := ((x0 < (97 : Int32) → post (0 : Int32)) ∧ (¬ x0 < (97 : Int32) → (((122 : Int32) < x0 → post (0 : Int32)) ∧ (¬ (122 : Int32) < x0 → post (1 : Int32)))))
set_option maxHeartbeats 4000000 in
set_option maxRecDepth 100000 in
theorem ctX11_isLetter (l : Launch) (D : va_G) (cy : Nat → ClassId) (ev : Nat → Nat) (x0 : Int32) (sz : Nat) (post : Int32 → Prop) (h : wpX11_isLetter x0 post) : Met l yX11_isLetter (Cond.code yX11_isLetter cX11_isLetter 1 (some .boolean) :: TB) ({ frames := 0, cells := 0, slots := 0, locals := 0 }) (va_Pc [.int x0] (PreX D cy ev [] sz)) (va_Qi (fun (r : Int32) (u : Unit) => post r) (fun u => BkX D cy [] sz []) (va_A [] sz)) 0 0 (va_A [] sz) := by
  refine ofWi (by decide) (Nat.le_of_ble_eq_true rfl) ?_
  intro p e s m args below meth c ls A R QQ hx hb hml hown hts hR hlk hE hK hP hD hS hA hl hret
  have hown : s.vm.findClass RX11 = some m.cls := hown
  have hRf : 0 ≤ R.frames := by rw [hR]; exact Nat.le_refl _
  have hRl : 0 ≤ R.locals := by rw [hR]; exact Nat.le_refl _
  clear hR
  have hl : lv_has ls 1 [(0, .int x0)] := hl
  refine lv_iload_n hx hb dX11_isLetter_0 rfl (lv_at hl 0 rfl) ?_
  refine lv_bipush (v := (97 : Int32)) hx hb dX11_isLetter_1 (by decide) ?_
  refine lv_icmp_lt (tgt := 16) hx hb dX11_isLetter_3 (by decide) (fun c3 => ?_) (fun c3 => ?_)
  · have h := h.1 c3
    refine lv_iconst (v := (0 : Int32)) hx hb dX11_isLetter_16 (by decide) ?_
    exact hret (0 : Int32) () _ _ _ _ rfl dX11_isLetter_17 h hP hD hS
  · have h := h.2 c3
    refine lv_iload_n hx hb dX11_isLetter_6 rfl (lv_at hl 0 rfl) ?_
    refine lv_bipush (v := (122 : Int32)) hx hb dX11_isLetter_7 (by decide) ?_
    refine lv_icmp_gt (tgt := 16) hx hb dX11_isLetter_9 (by decide) (fun c9 => ?_) (fun c9 => ?_)
    · have h := h.1 c9
      refine lv_iconst (v := (0 : Int32)) hx hb dX11_isLetter_16 (by decide) ?_
      exact hret (0 : Int32) () _ _ _ _ rfl dX11_isLetter_17 h hP hD hS
    · have h := h.2 c9
      refine lv_iconst (v := (1 : Int32)) hx hb dX11_isLetter_12 (by decide) ?_
      refine lv_goto (tgt := 17) hx hb dX11_isLetter_13 (by decide) ?_
      exact hret (1 : Int32) () _ _ _ _ rfl dX11_isLetter_17 h hP hD hS
def wpX11_isDigit (x0 : Int32) (post : Int32 → Prop) : Prop := ((x0 < (48 : Int32) → post (0 : Int32)) ∧ (¬ x0 < (48 : Int32) → (((57 : Int32) < x0 → post (0 : Int32)) ∧ (¬ (57 : Int32) < x0 → post (1 : Int32)))))
set_option maxHeartbeats 4000000 in
set_option maxRecDepth 100000 in
theorem ctX11_isDigit (l : Launch) (D : va_G) (cy : Nat → ClassId) (ev : Nat → Nat) (x0 : Int32) (sz : Nat) (post : Int32 → Prop) (h : wpX11_isDigit x0 post) : Met l yX11_isDigit (Cond.code yX11_isDigit cX11_isDigit 1 (some .boolean) :: TB) ({ frames := 0, cells := 0, slots := 0, locals := 0 }) (va_Pc [.int x0] (PreX D cy ev [] sz)) (va_Qi (fun (r : Int32) (u : Unit) => post r) (fun u => BkX D cy [] sz []) (va_A [] sz)) 0 0 (va_A [] sz) := by
  refine ofWi (by decide) (Nat.le_of_ble_eq_true rfl) ?_
  intro p e s m args below meth c ls A R QQ hx hb hml hown hts hR hlk hE hK hP hD hS hA hl hret
  have hown : s.vm.findClass RX11 = some m.cls := hown
  have hRf : 0 ≤ R.frames := by rw [hR]; exact Nat.le_refl _
  have hRl : 0 ≤ R.locals := by rw [hR]; exact Nat.le_refl _
  clear hR
  have hl : lv_has ls 1 [(0, .int x0)] := hl
  refine lv_iload_n hx hb dX11_isDigit_0 rfl (lv_at hl 0 rfl) ?_
  refine lv_bipush (v := (48 : Int32)) hx hb dX11_isDigit_1 (by decide) ?_
  refine lv_icmp_lt (tgt := 16) hx hb dX11_isDigit_3 (by decide) (fun c3 => ?_) (fun c3 => ?_)
  · have h := h.1 c3
    refine lv_iconst (v := (0 : Int32)) hx hb dX11_isDigit_16 (by decide) ?_
    exact hret (0 : Int32) () _ _ _ _ rfl dX11_isDigit_17 h hP hD hS
  · have h := h.2 c3
    refine lv_iload_n hx hb dX11_isDigit_6 rfl (lv_at hl 0 rfl) ?_
    refine lv_bipush (v := (57 : Int32)) hx hb dX11_isDigit_7 (by decide) ?_
    refine lv_icmp_gt (tgt := 16) hx hb dX11_isDigit_9 (by decide) (fun c9 => ?_) (fun c9 => ?_)
    · have h := h.1 c9
      refine lv_iconst (v := (0 : Int32)) hx hb dX11_isDigit_16 (by decide) ?_
      exact hret (0 : Int32) () _ _ _ _ rfl dX11_isDigit_17 h hP hD hS
    · have h := h.2 c9
      refine lv_iconst (v := (1 : Int32)) hx hb dX11_isDigit_12 (by decide) ?_
      refine lv_goto (tgt := 17) hx hb dX11_isDigit_13 (by decide) ?_
      exact hret (1 : Int32) () _ _ _ _ rfl dX11_isDigit_17 h hP hD hS
def wpX11_stepOn_J26 (sM : AR) (M_tape : AR) (kb : AR → Prop) (kx39 : AR → Prop) (post : AR → Prop) : Prop := ∀ f15_33 : Int32, f15_33 = ((sM 15) + (1 : Int32)) → kb (upd sM 15 f15_33)
def wpX11_stepOn_L0 (M_tape : AR) (kx39 : AR → Prop) (post : AR → Prop) : Nat → AR → Prop
  | 0, _ => False
  | nf0 + 1, sM => wpX11_byteAt sM M_tape (sM 15) (fun r5 => ((r5 = (32 : Int32) → wpX11_stepOn_J26 sM M_tape (fun b0 => wpX11_stepOn_L0 M_tape kx39 post nf0 b0) kx39 post) ∧ (¬ r5 = (32 : Int32) → wpX11_byteAt sM M_tape (sM 15) (fun r18 => ((¬ r18 = (10 : Int32) → kx39 sM) ∧ (r18 = (10 : Int32) → wpX11_stepOn_J26 sM M_tape (fun b0 => wpX11_stepOn_L0 M_tape kx39 post nf0 b0) kx39 post))))))
def wpX11_stepOn_J224 (sM : AR) (M_tape : AR) (post : AR → Prop) : Prop := ∀ f20_229 : Int32, f20_229 = (sM 15) → post (upd sM 20 f20_229)
def wpX11_stepOn_J221 (sM : AR) (M_tape : AR) (t1 : Int32) (post : AR → Prop) : Prop := wpX11_stepOn_J224 (upd sM 17 t1) M_tape post
def wpX11_stepOn_L123 (M_tape : AR) (kx179 : AR → Prop) (post : AR → Prop) : Nat → AR → Prop
  | 0, _ => False
  | nf123 + 1, sM => wpX11_byteAt sM M_tape (sM 15) (fun r128 => wpX11_isDigit r128 (fun r131 => ((r131 = 0 → kx179 sM) ∧ (¬ r131 = 0 → wpX11_byteAt sM M_tape (sM 15) (fun r153 => ∀ f18_163 : Int32, f18_163 = (jmin (10000 : Int32) ((((10 : Int32) * (sM 18)) + r153) - (48 : Int32))) → ∀ f15_173 : Int32, f15_173 = ((sM 15) + (1 : Int32)) → wpX11_stepOn_L123 M_tape kx179 post nf123 (upd (upd sM 18 f18_163) 15 f15_173))))))
def wpX11_stepOn_L76 (M_tape : AR) (kx103 : AR → Prop) (post : AR → Prop) : Nat → AR → Prop
  | 0, _ => False
  | nf76 + 1, sM => wpX11_byteAt sM M_tape (sM 15) (fun r81 => wpX11_isLetter r81 (fun r84 => ((r84 = 0 → kx103 sM) ∧ (¬ r84 = 0 → ∀ f15_97 : Int32, f15_97 = ((sM 15) + (1 : Int32)) → wpX11_stepOn_L76 M_tape kx103 post nf76 (upd sM 15 f15_97)))))
def wpX11_stepOn (sM : AR) (M_tape : AR) (post : AR → Prop) : Prop := ∃ nf0 : Nat, wpX11_stepOn_L0 M_tape (fun sM_39 => ∀ f19_44 : Int32, f19_44 = (sM_39 15) → wpX11_byteAt (upd sM_39 19 f19_44) M_tape (sM_39 15) (fun r52 => ((¬ r52 = (-1 : Int32) → wpX11_isLetter r52 (fun r70 => ((r70 = 0 → wpX11_isDigit r52 (fun r112 => ((r112 = 0 → ∀ f15_194 : Int32, f15_194 = ((sM_39 15) + (1 : Int32)) → ((r52 = (59 : Int32) → wpX11_stepOn_J221 (upd (upd sM_39 19 f19_44) 15 f15_194) M_tape (3 : Int32) post) ∧ (¬ r52 = (59 : Int32) → ((r52 = (123 : Int32) → wpX11_stepOn_J221 (upd (upd sM_39 19 f19_44) 15 f15_194) M_tape (3 : Int32) post) ∧ (¬ r52 = (123 : Int32) → ((¬ r52 = (125 : Int32) → wpX11_stepOn_J221 (upd (upd sM_39 19 f19_44) 15 f15_194) M_tape (4 : Int32) post) ∧ (r52 = (125 : Int32) → wpX11_stepOn_J221 (upd (upd sM_39 19 f19_44) 15 f15_194) M_tape (3 : Int32) post))))))) ∧ (¬ r112 = 0 → ∃ nf123 : Nat, wpX11_stepOn_L123 M_tape (fun sM_179 => wpX11_stepOn_J224 (upd sM_179 17 (2 : Int32)) M_tape post) post nf123 (upd (upd sM_39 19 f19_44) 18 (0 : Int32)))))) ∧ (¬ r70 = 0 → ∃ nf76 : Nat, wpX11_stepOn_L76 M_tape (fun sM_103 => wpX11_stepOn_J224 (upd sM_103 17 (1 : Int32)) M_tape post) post nf76 (upd sM_39 19 f19_44))))) ∧ (r52 = (-1 : Int32) → wpX11_stepOn_J224 (upd (upd sM_39 19 f19_44) 17 (0 : Int32)) M_tape post)))) post nf0 sM
set_option maxHeartbeats 4000000 in
set_option maxRecDepth 100000 in
theorem ctX11_stepOn (l : Launch) (D : va_G) (cy : Nat → ClassId) (ev : Nat → Nat) (h0 : Nat) (rM : Nat → Nat) (sM : AR) (M_tape : AR) (sz : Nat) (post : AR → Prop) (h : wpX11_stepOn sM M_tape post) : Met l yX11_stepOn (Cond.code yX11_stepOn cX11_stepOn 2 none :: TB) ({ frames := 1, cells := 0, slots := 0, locals := 60 }) (va_Pc [.ref h0] (PreX D cy ev [(h0, .inr (11, oX11 rM sM)), ((rM 13), .inl (cy 0, 500, .inl M_tape))] sz)) (va_Qv (fun (u : AR) => post u) (fun u => BkX D cy [(h0, .inr (11, oX11 rM sM)), ((rM 13), .inl (cy 0, 500, .inl M_tape))] sz [(h0, .inr (11, oX11 rM u)), ((rM 13), .inl (cy 0, 500, .inl M_tape))]) (va_A [(h0, .inr (11, oX11 rM sM)), ((rM 13), .inl (cy 0, 500, .inl M_tape))] sz)) 0 0 (va_A [(h0, .inr (11, oX11 rM sM)), ((rM 13), .inl (cy 0, 500, .inl M_tape))] sz) := by
  refine ofWv (by decide) (Nat.le_of_ble_eq_true rfl) ?_
  intro p e s m args below meth c ls A R QQ hx hb hml hown hts hR hlk hE hK hP hD hS hA hl hret
  have hown : s.vm.findClass RX11 = some m.cls := hown
  have hRf : 1 ≤ R.frames := by rw [hR]; exact Nat.le_refl _
  have hRl : 60 ≤ R.locals := by rw [hR]; exact Nat.le_refl _
  clear hR
  have hl : lv_has ls 2 [(0, .ref h0)] := hl
  have J224 : ∀ (sM : AR) (H : Heap) (locs : List Loc) (ls : Array Slot), wpX11_stepOn_J224 sM M_tape post → va_P D clsX [(h0, .inr (11, oX11 rM sM)), ((rM 13), .inl (cy 0, 500, .inl M_tape))] H → va_D A [(h0, .inr (11, oX11 rM sM)), ((rM 13), .inl (cy 0, 500, .inl M_tape))] → va_S A s.heap H locs → lv_has ls 2 [(0, .ref h0)] → W p l e R s m args below meth c H locs 0 0 QQ (F0 m 224 ls []) := by
    intro sM H locs ls h hP hD hS hl
    refine lv_aload_n hx hb dX11_stepOn_224 rfl (lv_at hl 0 rfl) ?_
    refine lv_aload_n hx hb dX11_stepOn_225 rfl (lv_at hl 0 rfl) ?_
    refine gfX11_149 (v := (sM 15)) hx hb hts hown hK hP 0 rfl rfl dX11_stepOn_226 ?_
    refine lv_topi (fun f20_229 ef20_229 => ?_)
    have h := h f20_229 ef20_229
    refine pfX11_178 hx hb hts hown hK hP hD hS 0 rfl dX11_stepOn_229 (fun H locs hP hD hS => ?_)
    have hP : va_P D clsX [(h0, .inr (11, oX11 rM (upd sM 20 f20_229))), ((rM 13), .inl (cy 0, 500, .inl M_tape))] H := hP
    have hD : va_D A [(h0, .inr (11, oX11 rM (upd sM 20 f20_229))), ((rM 13), .inl (cy 0, 500, .inl M_tape))] := hD
    exact hret ((upd sM 20 f20_229)) _ _ _ _ dX11_stepOn_232 h hP hD hS
  have J221 : ∀ (sM : AR) (t1 : Int32) (H : Heap) (locs : List Loc) (ls : Array Slot), wpX11_stepOn_J221 sM M_tape t1 post → va_P D clsX [(h0, .inr (11, oX11 rM sM)), ((rM 13), .inl (cy 0, 500, .inl M_tape))] H → va_D A [(h0, .inr (11, oX11 rM sM)), ((rM 13), .inl (cy 0, 500, .inl M_tape))] → va_S A s.heap H locs → lv_has ls 2 [(0, .ref h0)] → W p l e R s m args below meth c H locs 0 0 QQ (F0 m 221 ls [.int t1, .ref h0]) := by
    intro sM t1 H locs ls h hP hD hS hl
    refine pfX11_159 hx hb hts hown hK hP hD hS 0 rfl dX11_stepOn_221 (fun H locs hP hD hS => ?_)
    have hP : va_P D clsX [(h0, .inr (11, oX11 rM (upd sM 17 t1))), ((rM 13), .inl (cy 0, 500, .inl M_tape))] H := hP
    have hD : va_D A [(h0, .inr (11, oX11 rM (upd sM 17 t1))), ((rM 13), .inl (cy 0, 500, .inl M_tape))] := hD
    exact J224 (upd sM 17 t1) _ _ _ h hP hD hS hl
  have L123 : ∀ (kx179 : AR → Prop), (∀ (sM : AR) (H : Heap) (locs : List Loc) (ls : Array Slot), kx179 sM → va_P D clsX [(h0, .inr (11, oX11 rM sM)), ((rM 13), .inl (cy 0, 500, .inl M_tape))] H → va_D A [(h0, .inr (11, oX11 rM sM)), ((rM 13), .inl (cy 0, 500, .inl M_tape))] → va_S A s.heap H locs → lv_has ls 2 [(0, .ref h0)] → W p l e R s m args below meth c H locs 0 0 QQ (F0 m 179 ls [])) → ∀ (nf123 : Nat) (sM : AR) (H : Heap) (locs : List Loc) (ls : Array Slot), wpX11_stepOn_L123 M_tape kx179 post nf123 sM → va_P D clsX [(h0, .inr (11, oX11 rM sM)), ((rM 13), .inl (cy 0, 500, .inl M_tape))] H → va_D A [(h0, .inr (11, oX11 rM sM)), ((rM 13), .inl (cy 0, 500, .inl M_tape))] → va_S A s.heap H locs → lv_has ls 2 [(0, .ref h0)] → W p l e R s m args below meth c H locs 0 0 QQ (F0 m 123 ls []) := by
    intro kx179 hk123_179 nf123
    induction nf123 with
    | zero =>
      intro sM H locs ls h
      exact (show False from h).elim
    | succ nf123 ih123 =>
      intro sM H locs ls h hP hD hS hl
      refine lv_aload_n hx hb dX11_stepOn_123 rfl (lv_at hl 0 rfl) ?_
      refine lv_aload_n hx hb dX11_stepOn_124 rfl (lv_at hl 0 rfl) ?_
      refine gfX11_149 (v := (sM 15)) hx hb hts hown hK hP 0 rfl rfl dX11_stepOn_125 ?_
      refine clVi (As := [.int (sM 15)]) (rest := []) (Wr := []) (cq := (RX11, TX11, 56)) ⟨hx, hb, hml, hown, hts⟩ ⟨callB_of 1 hts (goodC mw1362) rfl rfl rfl (hts _ (tb mw15)) (hts _ (tb mw1359)) kdX11_byteAt ⟨Nat.le_trans (by decide) hRf, Nat.le_trans (by decide) hRl⟩, hts _ (tb mw1361), hts _ (tb ms40)⟩ (ctX11_byteAt l D cy ev h0 rM sM M_tape (sM 15) _ _ h) hE hK hP hD hS hA [0, 1] [] rfl rfl (by decide) (by decide) (by decide) 0 rfl rfl rfl hl.1 rfl (Nat.le_of_ble_eq_true rfl) ⟨Nat.zero_le _, Nat.zero_le _⟩ dX11_stepOn_128 (fun r128 u H locs h hP hD hS => ?_)
      have hP : va_P D clsX [(h0, .inr (11, oX11 rM sM)), ((rM 13), .inl (cy 0, 500, .inl M_tape))] H := hP
      have hD : va_D A [(h0, .inr (11, oX11 rM sM)), ((rM 13), .inl (cy 0, 500, .inl M_tape))] := hD
      refine clSi (As := [.int r128]) (rest := []) (Wr := [(h0, .inr (11, oX11 rM sM)), ((rM 13), .inl (cy 0, 500, .inl M_tape))]) ⟨hx, hb, hml, hown, hts⟩ ⟨callB_of 1 hts (goodC mw1368) rfl rfl rfl (hts _ (tb mw15)) (hts _ (tb mw1366)) kdX11_isDigit ⟨Nat.le_trans (by decide) hRf, Nat.le_trans (by decide) hRl⟩, hts _ (tb mw1367)⟩ (ctX11_isDigit l D cy ev  r128 _ _ h) hE hK hP hD hS hA [] [0, 1] rfl rfl (by decide) (by decide) (by decide) rfl hl.1 rfl (Nat.le_of_ble_eq_true rfl) ⟨Nat.zero_le _, Nat.zero_le _⟩ dX11_stepOn_131 (fun r131 u H locs h hP hD hS => ?_)
      have hP : va_P D clsX [(h0, .inr (11, oX11 rM sM)), ((rM 13), .inl (cy 0, 500, .inl M_tape))] H := hP
      have hD : va_D A [(h0, .inr (11, oX11 rM sM)), ((rM 13), .inl (cy 0, 500, .inl M_tape))] := hD
      refine lv_if_eq (tgt := 179) hx hb dX11_stepOn_134 (by decide) (fun c134 => ?_) (fun c134 => ?_)
      · have h := h.1 c134
        exact hk123_179 sM _ _ _ h hP hD hS hl
      · have h := h.2 c134
        refine lv_aload_n hx hb dX11_stepOn_137 rfl (lv_at hl 0 rfl) ?_
        refine lv_sipush (v := (10000 : Int32)) hx hb dX11_stepOn_138 (by decide) ?_
        refine lv_bipush (v := (10 : Int32)) hx hb dX11_stepOn_141 (by decide) ?_
        refine lv_aload_n hx hb dX11_stepOn_143 rfl (lv_at hl 0 rfl) ?_
        refine gfX11_169 (v := (sM 18)) hx hb hts hown hK hP 0 rfl rfl dX11_stepOn_144 ?_
        refine lv_imul hx hb dX11_stepOn_147 ?_
        refine lv_aload_n hx hb dX11_stepOn_148 rfl (lv_at hl 0 rfl) ?_
        refine lv_aload_n hx hb dX11_stepOn_149 rfl (lv_at hl 0 rfl) ?_
        refine gfX11_149 (v := (sM 15)) hx hb hts hown hK hP 0 rfl rfl dX11_stepOn_150 ?_
        refine clVi (As := [.int (sM 15)]) (rest := [.int ((10 : Int32) * (sM 18)), .int (10000 : Int32), .ref h0]) (Wr := []) (cq := (RX11, TX11, 56)) ⟨hx, hb, hml, hown, hts⟩ ⟨callB_of 1 hts (goodC mw1362) rfl rfl rfl (hts _ (tb mw15)) (hts _ (tb mw1359)) kdX11_byteAt ⟨Nat.le_trans (by decide) hRf, Nat.le_trans (by decide) hRl⟩, hts _ (tb mw1361), hts _ (tb ms40)⟩ (ctX11_byteAt l D cy ev h0 rM sM M_tape (sM 15) _ _ h) hE hK hP hD hS hA [0, 1] [] rfl rfl (by decide) (by decide) (by decide) 0 rfl rfl rfl hl.1 rfl (Nat.le_of_ble_eq_true rfl) ⟨Nat.zero_le _, Nat.zero_le _⟩ dX11_stepOn_153 (fun r153 u H locs h hP hD hS => ?_)
        have hP : va_P D clsX [(h0, .inr (11, oX11 rM sM)), ((rM 13), .inl (cy 0, 500, .inl M_tape))] H := hP
        have hD : va_D A [(h0, .inr (11, oX11 rM sM)), ((rM 13), .inl (cy 0, 500, .inl M_tape))] := hD
        refine lv_iadd hx hb dX11_stepOn_156 ?_
        refine lv_bipush (v := (48 : Int32)) hx hb dX11_stepOn_157 (by decide) ?_
        refine lv_isub hx hb dX11_stepOn_159 ?_
        refine mmin hx hb (hml.trans hl.1.symm) hts hown mw1369 (Nat.le_trans (by decide) hRf) (Nat.le_trans (Nat.le_of_ble_eq_true rfl) hRl) (Nat.zero_le _) (Nat.zero_le _) dX11_stepOn_160 ?_
        refine lv_topi (fun f18_163 ef18_163 => ?_)
        have h := h f18_163 ef18_163
        refine pfX11_169 hx hb hts hown hK hP hD hS 0 rfl dX11_stepOn_163 (fun H locs hP hD hS => ?_)
        have hP : va_P D clsX [(h0, .inr (11, oX11 rM (upd sM 18 f18_163))), ((rM 13), .inl (cy 0, 500, .inl M_tape))] H := hP
        have hD : va_D A [(h0, .inr (11, oX11 rM (upd sM 18 f18_163))), ((rM 13), .inl (cy 0, 500, .inl M_tape))] := hD
        refine lv_aload_n hx hb dX11_stepOn_166 rfl (lv_at hl 0 rfl) ?_
        refine lv_dup hx hb dX11_stepOn_167 rfl ?_
        refine gfX11_149 (v := (sM 15)) hx hb hts hown hK hP 0 rfl rfl dX11_stepOn_168 ?_
        refine lv_iconst (v := (1 : Int32)) hx hb dX11_stepOn_171 (by decide) ?_
        refine lv_iadd hx hb dX11_stepOn_172 ?_
        refine lv_topi (fun f15_173 ef15_173 => ?_)
        have h := h f15_173 ef15_173
        refine pfX11_149 hx hb hts hown hK hP hD hS 0 rfl dX11_stepOn_173 (fun H locs hP hD hS => ?_)
        have hP : va_P D clsX [(h0, .inr (11, oX11 rM (upd (upd sM 18 f18_163) 15 f15_173))), ((rM 13), .inl (cy 0, 500, .inl M_tape))] H := hP
        have hD : va_D A [(h0, .inr (11, oX11 rM (upd (upd sM 18 f18_163) 15 f15_173))), ((rM 13), .inl (cy 0, 500, .inl M_tape))] := hD
        refine lv_goto (tgt := 123) hx hb dX11_stepOn_176 (by decide) ?_
        exact ih123 (upd (upd sM 18 f18_163) 15 f15_173) _ _ _ h hP hD hS hl
  have L76 : ∀ (kx103 : AR → Prop), (∀ (sM : AR) (H : Heap) (locs : List Loc) (ls : Array Slot), kx103 sM → va_P D clsX [(h0, .inr (11, oX11 rM sM)), ((rM 13), .inl (cy 0, 500, .inl M_tape))] H → va_D A [(h0, .inr (11, oX11 rM sM)), ((rM 13), .inl (cy 0, 500, .inl M_tape))] → va_S A s.heap H locs → lv_has ls 2 [(0, .ref h0)] → W p l e R s m args below meth c H locs 0 0 QQ (F0 m 103 ls [])) → ∀ (nf76 : Nat) (sM : AR) (H : Heap) (locs : List Loc) (ls : Array Slot), wpX11_stepOn_L76 M_tape kx103 post nf76 sM → va_P D clsX [(h0, .inr (11, oX11 rM sM)), ((rM 13), .inl (cy 0, 500, .inl M_tape))] H → va_D A [(h0, .inr (11, oX11 rM sM)), ((rM 13), .inl (cy 0, 500, .inl M_tape))] → va_S A s.heap H locs → lv_has ls 2 [(0, .ref h0)] → W p l e R s m args below meth c H locs 0 0 QQ (F0 m 76 ls []) := by
    intro kx103 hk76_103 nf76
    induction nf76 with
    | zero =>
      intro sM H locs ls h
      exact (show False from h).elim
    | succ nf76 ih76 =>
      intro sM H locs ls h hP hD hS hl
      refine lv_aload_n hx hb dX11_stepOn_76 rfl (lv_at hl 0 rfl) ?_
      refine lv_aload_n hx hb dX11_stepOn_77 rfl (lv_at hl 0 rfl) ?_
      refine gfX11_149 (v := (sM 15)) hx hb hts hown hK hP 0 rfl rfl dX11_stepOn_78 ?_
      refine clVi (As := [.int (sM 15)]) (rest := []) (Wr := []) (cq := (RX11, TX11, 56)) ⟨hx, hb, hml, hown, hts⟩ ⟨callB_of 1 hts (goodC mw1362) rfl rfl rfl (hts _ (tb mw15)) (hts _ (tb mw1359)) kdX11_byteAt ⟨Nat.le_trans (by decide) hRf, Nat.le_trans (by decide) hRl⟩, hts _ (tb mw1361), hts _ (tb ms40)⟩ (ctX11_byteAt l D cy ev h0 rM sM M_tape (sM 15) _ _ h) hE hK hP hD hS hA [0, 1] [] rfl rfl (by decide) (by decide) (by decide) 0 rfl rfl rfl hl.1 rfl (Nat.le_of_ble_eq_true rfl) ⟨Nat.zero_le _, Nat.zero_le _⟩ dX11_stepOn_81 (fun r81 u H locs h hP hD hS => ?_)
      have hP : va_P D clsX [(h0, .inr (11, oX11 rM sM)), ((rM 13), .inl (cy 0, 500, .inl M_tape))] H := hP
      have hD : va_D A [(h0, .inr (11, oX11 rM sM)), ((rM 13), .inl (cy 0, 500, .inl M_tape))] := hD
      refine clSi (As := [.int r81]) (rest := []) (Wr := [(h0, .inr (11, oX11 rM sM)), ((rM 13), .inl (cy 0, 500, .inl M_tape))]) ⟨hx, hb, hml, hown, hts⟩ ⟨callB_of 1 hts (goodC mw1365) rfl rfl rfl (hts _ (tb mw15)) (hts _ (tb mw1363)) kdX11_isLetter ⟨Nat.le_trans (by decide) hRf, Nat.le_trans (by decide) hRl⟩, hts _ (tb mw1364)⟩ (ctX11_isLetter l D cy ev  r81 _ _ h) hE hK hP hD hS hA [] [0, 1] rfl rfl (by decide) (by decide) (by decide) rfl hl.1 rfl (Nat.le_of_ble_eq_true rfl) ⟨Nat.zero_le _, Nat.zero_le _⟩ dX11_stepOn_84 (fun r84 u H locs h hP hD hS => ?_)
      have hP : va_P D clsX [(h0, .inr (11, oX11 rM sM)), ((rM 13), .inl (cy 0, 500, .inl M_tape))] H := hP
      have hD : va_D A [(h0, .inr (11, oX11 rM sM)), ((rM 13), .inl (cy 0, 500, .inl M_tape))] := hD
      refine lv_if_eq (tgt := 103) hx hb dX11_stepOn_87 (by decide) (fun c87 => ?_) (fun c87 => ?_)
      · have h := h.1 c87
        exact hk76_103 sM _ _ _ h hP hD hS hl
      · have h := h.2 c87
        refine lv_aload_n hx hb dX11_stepOn_90 rfl (lv_at hl 0 rfl) ?_
        refine lv_dup hx hb dX11_stepOn_91 rfl ?_
        refine gfX11_149 (v := (sM 15)) hx hb hts hown hK hP 0 rfl rfl dX11_stepOn_92 ?_
        refine lv_iconst (v := (1 : Int32)) hx hb dX11_stepOn_95 (by decide) ?_
        refine lv_iadd hx hb dX11_stepOn_96 ?_
        refine lv_topi (fun f15_97 ef15_97 => ?_)
        have h := h f15_97 ef15_97
        refine pfX11_149 hx hb hts hown hK hP hD hS 0 rfl dX11_stepOn_97 (fun H locs hP hD hS => ?_)
        have hP : va_P D clsX [(h0, .inr (11, oX11 rM (upd sM 15 f15_97))), ((rM 13), .inl (cy 0, 500, .inl M_tape))] H := hP
        have hD : va_D A [(h0, .inr (11, oX11 rM (upd sM 15 f15_97))), ((rM 13), .inl (cy 0, 500, .inl M_tape))] := hD
        refine lv_goto (tgt := 76) hx hb dX11_stepOn_100 (by decide) ?_
        exact ih76 (upd sM 15 f15_97) _ _ _ h hP hD hS hl
  have L0 : ∀ (kx39 : AR → Prop), (∀ (sM : AR) (H : Heap) (locs : List Loc) (ls : Array Slot), kx39 sM → va_P D clsX [(h0, .inr (11, oX11 rM sM)), ((rM 13), .inl (cy 0, 500, .inl M_tape))] H → va_D A [(h0, .inr (11, oX11 rM sM)), ((rM 13), .inl (cy 0, 500, .inl M_tape))] → va_S A s.heap H locs → lv_has ls 2 [(0, .ref h0)] → W p l e R s m args below meth c H locs 0 0 QQ (F0 m 39 ls [])) → ∀ (nf0 : Nat) (sM : AR) (H : Heap) (locs : List Loc) (ls : Array Slot), wpX11_stepOn_L0 M_tape kx39 post nf0 sM → va_P D clsX [(h0, .inr (11, oX11 rM sM)), ((rM 13), .inl (cy 0, 500, .inl M_tape))] H → va_D A [(h0, .inr (11, oX11 rM sM)), ((rM 13), .inl (cy 0, 500, .inl M_tape))] → va_S A s.heap H locs → lv_has ls 2 [(0, .ref h0)] → W p l e R s m args below meth c H locs 0 0 QQ (F0 m 0 ls []) := by
    intro kx39 hk0_39 nf0
    induction nf0 with
    | zero =>
      intro sM H locs ls h
      exact (show False from h).elim
    | succ nf0 ih0 =>
      intro sM H locs ls h hP hD hS hl
      have J26 : ∀ (sM : AR) (H : Heap) (locs : List Loc) (ls : Array Slot), wpX11_stepOn_J26 sM M_tape (fun b0 => wpX11_stepOn_L0 M_tape kx39 post nf0 b0) kx39 post → va_P D clsX [(h0, .inr (11, oX11 rM sM)), ((rM 13), .inl (cy 0, 500, .inl M_tape))] H → va_D A [(h0, .inr (11, oX11 rM sM)), ((rM 13), .inl (cy 0, 500, .inl M_tape))] → va_S A s.heap H locs → lv_has ls 2 [(0, .ref h0)] → W p l e R s m args below meth c H locs 0 0 QQ (F0 m 26 ls []) := by
        intro sM H locs ls h hP hD hS hl
        refine lv_aload_n hx hb dX11_stepOn_26 rfl (lv_at hl 0 rfl) ?_
        refine lv_dup hx hb dX11_stepOn_27 rfl ?_
        refine gfX11_149 (v := (sM 15)) hx hb hts hown hK hP 0 rfl rfl dX11_stepOn_28 ?_
        refine lv_iconst (v := (1 : Int32)) hx hb dX11_stepOn_31 (by decide) ?_
        refine lv_iadd hx hb dX11_stepOn_32 ?_
        refine lv_topi (fun f15_33 ef15_33 => ?_)
        have h := h f15_33 ef15_33
        refine pfX11_149 hx hb hts hown hK hP hD hS 0 rfl dX11_stepOn_33 (fun H locs hP hD hS => ?_)
        have hP : va_P D clsX [(h0, .inr (11, oX11 rM (upd sM 15 f15_33))), ((rM 13), .inl (cy 0, 500, .inl M_tape))] H := hP
        have hD : va_D A [(h0, .inr (11, oX11 rM (upd sM 15 f15_33))), ((rM 13), .inl (cy 0, 500, .inl M_tape))] := hD
        refine lv_goto (tgt := 0) hx hb dX11_stepOn_36 (by decide) ?_
        exact ih0 (upd sM 15 f15_33) _ _ _ h hP hD hS hl
      refine lv_aload_n hx hb dX11_stepOn_0 rfl (lv_at hl 0 rfl) ?_
      refine lv_aload_n hx hb dX11_stepOn_1 rfl (lv_at hl 0 rfl) ?_
      refine gfX11_149 (v := (sM 15)) hx hb hts hown hK hP 0 rfl rfl dX11_stepOn_2 ?_
      refine clVi (As := [.int (sM 15)]) (rest := []) (Wr := []) (cq := (RX11, TX11, 56)) ⟨hx, hb, hml, hown, hts⟩ ⟨callB_of 1 hts (goodC mw1362) rfl rfl rfl (hts _ (tb mw15)) (hts _ (tb mw1359)) kdX11_byteAt ⟨Nat.le_trans (by decide) hRf, Nat.le_trans (by decide) hRl⟩, hts _ (tb mw1361), hts _ (tb ms40)⟩ (ctX11_byteAt l D cy ev h0 rM sM M_tape (sM 15) _ _ h) hE hK hP hD hS hA [0, 1] [] rfl rfl (by decide) (by decide) (by decide) 0 rfl rfl rfl hl.1 rfl (Nat.le_of_ble_eq_true rfl) ⟨Nat.zero_le _, Nat.zero_le _⟩ dX11_stepOn_5 (fun r5 u H locs h hP hD hS => ?_)
      have hP : va_P D clsX [(h0, .inr (11, oX11 rM sM)), ((rM 13), .inl (cy 0, 500, .inl M_tape))] H := hP
      have hD : va_D A [(h0, .inr (11, oX11 rM sM)), ((rM 13), .inl (cy 0, 500, .inl M_tape))] := hD
      refine lv_bipush (v := (32 : Int32)) hx hb dX11_stepOn_8 (by decide) ?_
      refine lv_icmp_eq (tgt := 26) hx hb dX11_stepOn_10 (by decide) (fun c10 => ?_) (fun c10 => ?_)
      · have h := h.1 c10
        exact J26 sM _ _ _ h hP hD hS hl
      · have h := h.2 c10
        refine lv_aload_n hx hb dX11_stepOn_13 rfl (lv_at hl 0 rfl) ?_
        refine lv_aload_n hx hb dX11_stepOn_14 rfl (lv_at hl 0 rfl) ?_
        refine gfX11_149 (v := (sM 15)) hx hb hts hown hK hP 0 rfl rfl dX11_stepOn_15 ?_
        refine clVi (As := [.int (sM 15)]) (rest := []) (Wr := []) (cq := (RX11, TX11, 56)) ⟨hx, hb, hml, hown, hts⟩ ⟨callB_of 1 hts (goodC mw1362) rfl rfl rfl (hts _ (tb mw15)) (hts _ (tb mw1359)) kdX11_byteAt ⟨Nat.le_trans (by decide) hRf, Nat.le_trans (by decide) hRl⟩, hts _ (tb mw1361), hts _ (tb ms40)⟩ (ctX11_byteAt l D cy ev h0 rM sM M_tape (sM 15) _ _ h) hE hK hP hD hS hA [0, 1] [] rfl rfl (by decide) (by decide) (by decide) 0 rfl rfl rfl hl.1 rfl (Nat.le_of_ble_eq_true rfl) ⟨Nat.zero_le _, Nat.zero_le _⟩ dX11_stepOn_18 (fun r18 u H locs h hP hD hS => ?_)
        have hP : va_P D clsX [(h0, .inr (11, oX11 rM sM)), ((rM 13), .inl (cy 0, 500, .inl M_tape))] H := hP
        have hD : va_D A [(h0, .inr (11, oX11 rM sM)), ((rM 13), .inl (cy 0, 500, .inl M_tape))] := hD
        refine lv_bipush (v := (10 : Int32)) hx hb dX11_stepOn_21 (by decide) ?_
        refine lv_icmp_ne (tgt := 39) hx hb dX11_stepOn_23 (by decide) (fun c23 => ?_) (fun c23 => ?_)
        · have h := h.1 c23
          exact hk0_39 sM _ _ _ h hP hD hS hl
        · have h := h.2 c23
          exact J26 sM _ _ _ h hP hD hS hl
  obtain ⟨nf0, h⟩ := h
  refine L0  _ (fun sM_39 H locs ls h hP hD hS hl => ?_) nf0 sM _ _ _ h hP hD hS hl
  refine lv_aload_n hx hb dX11_stepOn_39 rfl (lv_at hl 0 rfl) ?_
  refine lv_aload_n hx hb dX11_stepOn_40 rfl (lv_at hl 0 rfl) ?_
  refine gfX11_149 (v := (sM_39 15)) hx hb hts hown hK hP 0 rfl rfl dX11_stepOn_41 ?_
  refine lv_topi (fun f19_44 ef19_44 => ?_)
  have h := h f19_44 ef19_44
  refine pfX11_156 hx hb hts hown hK hP hD hS 0 rfl dX11_stepOn_44 (fun H locs hP hD hS => ?_)
  have hP : va_P D clsX [(h0, .inr (11, oX11 rM (upd sM_39 19 f19_44))), ((rM 13), .inl (cy 0, 500, .inl M_tape))] H := hP
  have hD : va_D A [(h0, .inr (11, oX11 rM (upd sM_39 19 f19_44))), ((rM 13), .inl (cy 0, 500, .inl M_tape))] := hD
  refine lv_aload_n hx hb dX11_stepOn_47 rfl (lv_at hl 0 rfl) ?_
  refine lv_aload_n hx hb dX11_stepOn_48 rfl (lv_at hl 0 rfl) ?_
  refine gfX11_149 (v := (sM_39 15)) hx hb hts hown hK hP 0 rfl rfl dX11_stepOn_49 ?_
  refine clVi (As := [.int (sM_39 15)]) (rest := []) (Wr := []) (cq := (RX11, TX11, 56)) ⟨hx, hb, hml, hown, hts⟩ ⟨callB_of 1 hts (goodC mw1362) rfl rfl rfl (hts _ (tb mw15)) (hts _ (tb mw1359)) kdX11_byteAt ⟨Nat.le_trans (by decide) hRf, Nat.le_trans (by decide) hRl⟩, hts _ (tb mw1361), hts _ (tb ms40)⟩ (ctX11_byteAt l D cy ev h0 rM (upd sM_39 19 f19_44) M_tape (sM_39 15) _ _ h) hE hK hP hD hS hA [0, 1] [] rfl rfl (by decide) (by decide) (by decide) 0 rfl rfl rfl hl.1 rfl (Nat.le_of_ble_eq_true rfl) ⟨Nat.zero_le _, Nat.zero_le _⟩ dX11_stepOn_52 (fun r52 u H locs h hP hD hS => ?_)
  have hP : va_P D clsX [(h0, .inr (11, oX11 rM (upd sM_39 19 f19_44))), ((rM 13), .inl (cy 0, 500, .inl M_tape))] H := hP
  have hD : va_D A [(h0, .inr (11, oX11 rM (upd sM_39 19 f19_44))), ((rM 13), .inl (cy 0, 500, .inl M_tape))] := hD
  refine lv_istore_n (lv' := [(1, .int r52), (0, .ref h0)]) hx hb dX11_stepOn_55 rfl hl (by decide) rfl (fun ls hl => ?_)
  refine lv_iload_n hx hb dX11_stepOn_56 rfl (lv_at hl 0 rfl) ?_
  refine lv_iconst (v := (-1 : Int32)) hx hb dX11_stepOn_57 (by decide) ?_
  refine lv_icmp_ne (tgt := 69) hx hb dX11_stepOn_58 (by decide) (fun c58 => ?_) (fun c58 => ?_)
  · have h := h.1 c58
    refine lv_iload_n hx hb dX11_stepOn_69 rfl (lv_at hl 0 rfl) ?_
    refine clSi (As := [.int r52]) (rest := []) (Wr := [(h0, .inr (11, oX11 rM (upd sM_39 19 f19_44))), ((rM 13), .inl (cy 0, 500, .inl M_tape))]) ⟨hx, hb, hml, hown, hts⟩ ⟨callB_of 1 hts (goodC mw1365) rfl rfl rfl (hts _ (tb mw15)) (hts _ (tb mw1363)) kdX11_isLetter ⟨Nat.le_trans (by decide) hRf, Nat.le_trans (by decide) hRl⟩, hts _ (tb mw1364)⟩ (ctX11_isLetter l D cy ev  r52 _ _ h) hE hK hP hD hS hA [] [0, 1] rfl rfl (by decide) (by decide) (by decide) rfl hl.1 rfl (Nat.le_of_ble_eq_true rfl) ⟨Nat.zero_le _, Nat.zero_le _⟩ dX11_stepOn_70 (fun r70 u H locs h hP hD hS => ?_)
    have hP : va_P D clsX [(h0, .inr (11, oX11 rM (upd sM_39 19 f19_44))), ((rM 13), .inl (cy 0, 500, .inl M_tape))] H := hP
    have hD : va_D A [(h0, .inr (11, oX11 rM (upd sM_39 19 f19_44))), ((rM 13), .inl (cy 0, 500, .inl M_tape))] := hD
    refine lv_if_eq (tgt := 111) hx hb dX11_stepOn_73 (by decide) (fun c73 => ?_) (fun c73 => ?_)
    · have h := h.1 c73
      refine lv_iload_n hx hb dX11_stepOn_111 rfl (lv_at hl 0 rfl) ?_
      refine clSi (As := [.int r52]) (rest := []) (Wr := [(h0, .inr (11, oX11 rM (upd sM_39 19 f19_44))), ((rM 13), .inl (cy 0, 500, .inl M_tape))]) ⟨hx, hb, hml, hown, hts⟩ ⟨callB_of 1 hts (goodC mw1368) rfl rfl rfl (hts _ (tb mw15)) (hts _ (tb mw1366)) kdX11_isDigit ⟨Nat.le_trans (by decide) hRf, Nat.le_trans (by decide) hRl⟩, hts _ (tb mw1367)⟩ (ctX11_isDigit l D cy ev  r52 _ _ h) hE hK hP hD hS hA [] [0, 1] rfl rfl (by decide) (by decide) (by decide) rfl hl.1 rfl (Nat.le_of_ble_eq_true rfl) ⟨Nat.zero_le _, Nat.zero_le _⟩ dX11_stepOn_112 (fun r112 u H locs h hP hD hS => ?_)
      have hP : va_P D clsX [(h0, .inr (11, oX11 rM (upd sM_39 19 f19_44))), ((rM 13), .inl (cy 0, 500, .inl M_tape))] H := hP
      have hD : va_D A [(h0, .inr (11, oX11 rM (upd sM_39 19 f19_44))), ((rM 13), .inl (cy 0, 500, .inl M_tape))] := hD
      refine lv_if_eq (tgt := 187) hx hb dX11_stepOn_115 (by decide) (fun c115 => ?_) (fun c115 => ?_)
      · have h := h.1 c115
        refine lv_aload_n hx hb dX11_stepOn_187 rfl (lv_at hl 1 rfl) ?_
        refine lv_dup hx hb dX11_stepOn_188 rfl ?_
        refine gfX11_149 (v := (sM_39 15)) hx hb hts hown hK hP 0 rfl rfl dX11_stepOn_189 ?_
        refine lv_iconst (v := (1 : Int32)) hx hb dX11_stepOn_192 (by decide) ?_
        refine lv_iadd hx hb dX11_stepOn_193 ?_
        refine lv_topi (fun f15_194 ef15_194 => ?_)
        have h := h f15_194 ef15_194
        refine pfX11_149 hx hb hts hown hK hP hD hS 0 rfl dX11_stepOn_194 (fun H locs hP hD hS => ?_)
        have hP : va_P D clsX [(h0, .inr (11, oX11 rM (upd (upd sM_39 19 f19_44) 15 f15_194))), ((rM 13), .inl (cy 0, 500, .inl M_tape))] H := hP
        have hD : va_D A [(h0, .inr (11, oX11 rM (upd (upd sM_39 19 f19_44) 15 f15_194))), ((rM 13), .inl (cy 0, 500, .inl M_tape))] := hD
        refine lv_aload_n hx hb dX11_stepOn_197 rfl (lv_at hl 1 rfl) ?_
        refine lv_iload_n hx hb dX11_stepOn_198 rfl (lv_at hl 0 rfl) ?_
        refine lv_bipush (v := (59 : Int32)) hx hb dX11_stepOn_199 (by decide) ?_
        refine lv_icmp_eq (tgt := 216) hx hb dX11_stepOn_201 (by decide) (fun c201 => ?_) (fun c201 => ?_)
        · have h := h.1 c201
          refine lv_iconst (v := (3 : Int32)) hx hb dX11_stepOn_216 (by decide) ?_
          refine lv_goto (tgt := 221) hx hb dX11_stepOn_217 (by decide) ?_
          exact J221 (upd (upd sM_39 19 f19_44) 15 f15_194) (3 : Int32) _ _ _ h hP hD hS (lv_sub hl [1] rfl)
        · have h := h.2 c201
          refine lv_iload_n hx hb dX11_stepOn_204 rfl (lv_at hl 0 rfl) ?_
          refine lv_bipush (v := (123 : Int32)) hx hb dX11_stepOn_205 (by decide) ?_
          refine lv_icmp_eq (tgt := 216) hx hb dX11_stepOn_207 (by decide) (fun c207 => ?_) (fun c207 => ?_)
          · have h := h.1 c207
            refine lv_iconst (v := (3 : Int32)) hx hb dX11_stepOn_216 (by decide) ?_
            refine lv_goto (tgt := 221) hx hb dX11_stepOn_217 (by decide) ?_
            exact J221 (upd (upd sM_39 19 f19_44) 15 f15_194) (3 : Int32) _ _ _ h hP hD hS (lv_sub hl [1] rfl)
          · have h := h.2 c207
            refine lv_iload_n hx hb dX11_stepOn_210 rfl (lv_at hl 0 rfl) ?_
            refine lv_bipush (v := (125 : Int32)) hx hb dX11_stepOn_211 (by decide) ?_
            refine lv_icmp_ne (tgt := 220) hx hb dX11_stepOn_213 (by decide) (fun c213 => ?_) (fun c213 => ?_)
            · have h := h.1 c213
              refine lv_iconst (v := (4 : Int32)) hx hb dX11_stepOn_220 (by decide) ?_
              exact J221 (upd (upd sM_39 19 f19_44) 15 f15_194) (4 : Int32) _ _ _ h hP hD hS (lv_sub hl [1] rfl)
            · have h := h.2 c213
              refine lv_iconst (v := (3 : Int32)) hx hb dX11_stepOn_216 (by decide) ?_
              refine lv_goto (tgt := 221) hx hb dX11_stepOn_217 (by decide) ?_
              exact J221 (upd (upd sM_39 19 f19_44) 15 f15_194) (3 : Int32) _ _ _ h hP hD hS (lv_sub hl [1] rfl)
      · have h := h.2 c115
        refine lv_aload_n hx hb dX11_stepOn_118 rfl (lv_at hl 1 rfl) ?_
        refine lv_iconst (v := (0 : Int32)) hx hb dX11_stepOn_119 (by decide) ?_
        refine pfX11_169 hx hb hts hown hK hP hD hS 0 rfl dX11_stepOn_120 (fun H locs hP hD hS => ?_)
        have hP : va_P D clsX [(h0, .inr (11, oX11 rM (upd (upd sM_39 19 f19_44) 18 (0 : Int32)))), ((rM 13), .inl (cy 0, 500, .inl M_tape))] H := hP
        have hD : va_D A [(h0, .inr (11, oX11 rM (upd (upd sM_39 19 f19_44) 18 (0 : Int32)))), ((rM 13), .inl (cy 0, 500, .inl M_tape))] := hD
        obtain ⟨nf123, h⟩ := h
        refine L123  _ (fun sM_179 H locs ls h hP hD hS hl => ?_) nf123 (upd (upd sM_39 19 f19_44) 18 (0 : Int32)) _ _ _ h hP hD hS (lv_sub hl [1] rfl)
        refine lv_aload_n hx hb dX11_stepOn_179 rfl (lv_at hl 0 rfl) ?_
        refine lv_iconst (v := (2 : Int32)) hx hb dX11_stepOn_180 (by decide) ?_
        refine pfX11_159 hx hb hts hown hK hP hD hS 0 rfl dX11_stepOn_181 (fun H locs hP hD hS => ?_)
        have hP : va_P D clsX [(h0, .inr (11, oX11 rM (upd sM_179 17 (2 : Int32)))), ((rM 13), .inl (cy 0, 500, .inl M_tape))] H := hP
        have hD : va_D A [(h0, .inr (11, oX11 rM (upd sM_179 17 (2 : Int32)))), ((rM 13), .inl (cy 0, 500, .inl M_tape))] := hD
        refine lv_goto (tgt := 224) hx hb dX11_stepOn_184 (by decide) ?_
        exact J224 (upd sM_179 17 (2 : Int32)) _ _ _ h hP hD hS hl
    · have h := h.2 c73
      obtain ⟨nf76, h⟩ := h
      refine L76  _ (fun sM_103 H locs ls h hP hD hS hl => ?_) nf76 (upd sM_39 19 f19_44) _ _ _ h hP hD hS (lv_sub hl [1] rfl)
      refine lv_aload_n hx hb dX11_stepOn_103 rfl (lv_at hl 0 rfl) ?_
      refine lv_iconst (v := (1 : Int32)) hx hb dX11_stepOn_104 (by decide) ?_
      refine pfX11_159 hx hb hts hown hK hP hD hS 0 rfl dX11_stepOn_105 (fun H locs hP hD hS => ?_)
      have hP : va_P D clsX [(h0, .inr (11, oX11 rM (upd sM_103 17 (1 : Int32)))), ((rM 13), .inl (cy 0, 500, .inl M_tape))] H := hP
      have hD : va_D A [(h0, .inr (11, oX11 rM (upd sM_103 17 (1 : Int32)))), ((rM 13), .inl (cy 0, 500, .inl M_tape))] := hD
      refine lv_goto (tgt := 224) hx hb dX11_stepOn_108 (by decide) ?_
      exact J224 (upd sM_103 17 (1 : Int32)) _ _ _ h hP hD hS hl
  · have h := h.2 c58
    refine lv_aload_n hx hb dX11_stepOn_61 rfl (lv_at hl 1 rfl) ?_
    refine lv_iconst (v := (0 : Int32)) hx hb dX11_stepOn_62 (by decide) ?_
    refine pfX11_159 hx hb hts hown hK hP hD hS 0 rfl dX11_stepOn_63 (fun H locs hP hD hS => ?_)
    have hP : va_P D clsX [(h0, .inr (11, oX11 rM (upd (upd sM_39 19 f19_44) 17 (0 : Int32)))), ((rM 13), .inl (cy 0, 500, .inl M_tape))] H := hP
    have hD : va_D A [(h0, .inr (11, oX11 rM (upd (upd sM_39 19 f19_44) 17 (0 : Int32)))), ((rM 13), .inl (cy 0, 500, .inl M_tape))] := hD
    refine lv_goto (tgt := 224) hx hb dX11_stepOn_66 (by decide) ?_
    exact J224 (upd (upd sM_39 19 f19_44) 17 (0 : Int32)) _ _ _ h hP hD hS (lv_sub hl [1] rfl)
def wpX11_wrong (sM : AR) (x1 : Int32) (post : AR → Prop) : Prop := (((sM 21) = 0 → ∀ f22_18 : Int32, f22_18 = (sM 19) → post (upd (upd sM 21 x1) 22 f22_18)) ∧ (¬ (sM 21) = 0 → post sM))
set_option maxHeartbeats 4000000 in
set_option maxRecDepth 100000 in
theorem ctX11_wrong (l : Launch) (D : va_G) (cy : Nat → ClassId) (ev : Nat → Nat) (h0 : Nat) (rM : Nat → Nat) (sM : AR) (x1 : Int32) (sz : Nat) (post : AR → Prop) (h : wpX11_wrong sM x1 post) : Met l yX11_wrong (Cond.code yX11_wrong cX11_wrong 2 none :: TB) ({ frames := 0, cells := 0, slots := 0, locals := 0 }) (va_Pc [.ref h0, .int x1] (PreX D cy ev [(h0, .inr (11, oX11 rM sM))] sz)) (va_Qv (fun (u : AR) => post u) (fun u => BkX D cy [(h0, .inr (11, oX11 rM sM))] sz [(h0, .inr (11, oX11 rM u))]) (va_A [(h0, .inr (11, oX11 rM sM))] sz)) 0 0 (va_A [(h0, .inr (11, oX11 rM sM))] sz) := by
  refine ofWv (by decide) (Nat.le_of_ble_eq_true rfl) ?_
  intro p e s m args below meth c ls A R QQ hx hb hml hown hts hR hlk hE hK hP hD hS hA hl hret
  have hown : s.vm.findClass RX11 = some m.cls := hown
  have hRf : 0 ≤ R.frames := by rw [hR]; exact Nat.le_refl _
  have hRl : 0 ≤ R.locals := by rw [hR]; exact Nat.le_refl _
  clear hR
  have hl : lv_has ls 2 [(0, .ref h0), (1, .int x1)] := hl
  refine lv_aload_n hx hb dX11_wrong_0 rfl (lv_at hl 0 rfl) ?_
  refine gfX11_181 (v := (sM 21)) hx hb hts hown hK hP 0 rfl rfl dX11_wrong_1 ?_
  refine lv_if_eq (tgt := 8) hx hb dX11_wrong_4 (by decide) (fun c4 => ?_) (fun c4 => ?_)
  · have h := h.1 c4
    refine lv_aload_n hx hb dX11_wrong_8 rfl (lv_at hl 0 rfl) ?_
    refine lv_iload_n hx hb dX11_wrong_9 rfl (lv_at hl 1 rfl) ?_
    refine pfX11_181 hx hb hts hown hK hP hD hS 0 rfl dX11_wrong_10 (fun H locs hP hD hS => ?_)
    have hP : va_P D clsX [(h0, .inr (11, oX11 rM (upd sM 21 x1)))] H := hP
    have hD : va_D A [(h0, .inr (11, oX11 rM (upd sM 21 x1)))] := hD
    refine lv_aload_n hx hb dX11_wrong_13 rfl (lv_at hl 0 rfl) ?_
    refine lv_aload_n hx hb dX11_wrong_14 rfl (lv_at hl 0 rfl) ?_
    refine gfX11_156 (v := (sM 19)) hx hb hts hown hK hP 0 rfl rfl dX11_wrong_15 ?_
    refine lv_topi (fun f22_18 ef22_18 => ?_)
    have h := h f22_18 ef22_18
    refine pfX11_184 hx hb hts hown hK hP hD hS 0 rfl dX11_wrong_18 (fun H locs hP hD hS => ?_)
    have hP : va_P D clsX [(h0, .inr (11, oX11 rM (upd (upd sM 21 x1) 22 f22_18)))] H := hP
    have hD : va_D A [(h0, .inr (11, oX11 rM (upd (upd sM 21 x1) 22 f22_18)))] := hD
    exact hret ((upd (upd sM 21 x1) 22 f22_18)) _ _ _ _ dX11_wrong_21 h hP hD hS
  · have h := h.2 c4
    exact hret (sM) _ _ _ _ dX11_wrong_7 h hP hD hS
def wpX11_isMarked (sM : AR) (M_tape : AR) (x1 : Int32) (post : Int32 → Prop) : Prop := ((¬ (sM 21) = 0 → post (0 : Int32)) ∧ ((sM 21) = 0 → ((¬ (sM 17) = (3 : Int32) → post (0 : Int32)) ∧ ((sM 17) = (3 : Int32) → vp_in (sM 19) 500 ∧ ((¬ (M_tape (sM 19).toNatClampNeg) = x1 → post (0 : Int32)) ∧ ((M_tape (sM 19).toNatClampNeg) = x1 → post (1 : Int32)))))))
set_option maxHeartbeats 4000000 in
set_option maxRecDepth 100000 in
theorem ctX11_isMarked (l : Launch) (D : va_G) (cy : Nat → ClassId) (ev : Nat → Nat) (h0 : Nat) (rM : Nat → Nat) (sM : AR) (M_tape : AR) (x1 : Int32) (sz : Nat) (post : Int32 → Prop) (h : wpX11_isMarked sM M_tape x1 post) : Met l yX11_isMarked (Cond.code yX11_isMarked cX11_isMarked 2 (some .boolean) :: TB) ({ frames := 0, cells := 0, slots := 0, locals := 0 }) (va_Pc [.ref h0, .int x1] (PreX D cy ev [(h0, .inr (11, oX11 rM sM)), ((rM 13), .inl (cy 0, 500, .inl M_tape))] sz)) (va_Qi (fun (r : Int32) (u : Unit) => post r) (fun u => BkX D cy [(h0, .inr (11, oX11 rM sM)), ((rM 13), .inl (cy 0, 500, .inl M_tape))] sz [(h0, .inr (11, oX11 rM sM)), ((rM 13), .inl (cy 0, 500, .inl M_tape))]) (va_A [(h0, .inr (11, oX11 rM sM)), ((rM 13), .inl (cy 0, 500, .inl M_tape))] sz)) 0 0 (va_A [(h0, .inr (11, oX11 rM sM)), ((rM 13), .inl (cy 0, 500, .inl M_tape))] sz) := by
  refine ofWi (by decide) (Nat.le_of_ble_eq_true rfl) ?_
  intro p e s m args below meth c ls A R QQ hx hb hml hown hts hR hlk hE hK hP hD hS hA hl hret
  have hown : s.vm.findClass RX11 = some m.cls := hown
  have hRf : 0 ≤ R.frames := by rw [hR]; exact Nat.le_refl _
  have hRl : 0 ≤ R.locals := by rw [hR]; exact Nat.le_refl _
  clear hR
  have hl : lv_has ls 2 [(0, .ref h0), (1, .int x1)] := hl
  refine lv_aload_n hx hb dX11_isMarked_0 rfl (lv_at hl 0 rfl) ?_
  refine gfX11_181 (v := (sM 21)) hx hb hts hown hK hP 0 rfl rfl dX11_isMarked_1 ?_
  refine lv_if_ne (tgt := 32) hx hb dX11_isMarked_4 (by decide) (fun c4 => ?_) (fun c4 => ?_)
  · have h := h.1 c4
    refine lv_iconst (v := (0 : Int32)) hx hb dX11_isMarked_32 (by decide) ?_
    exact hret (0 : Int32) () _ _ _ _ rfl dX11_isMarked_33 h hP hD hS
  · have h := h.2 c4
    refine lv_aload_n hx hb dX11_isMarked_7 rfl (lv_at hl 0 rfl) ?_
    refine gfX11_159 (v := (sM 17)) hx hb hts hown hK hP 0 rfl rfl dX11_isMarked_8 ?_
    refine lv_iconst (v := (3 : Int32)) hx hb dX11_isMarked_11 (by decide) ?_
    refine lv_icmp_ne (tgt := 32) hx hb dX11_isMarked_12 (by decide) (fun c12 => ?_) (fun c12 => ?_)
    · have h := h.1 c12
      refine lv_iconst (v := (0 : Int32)) hx hb dX11_isMarked_32 (by decide) ?_
      exact hret (0 : Int32) () _ _ _ _ rfl dX11_isMarked_33 h hP hD hS
    · have h := h.2 c12
      refine lv_aload_n hx hb dX11_isMarked_15 rfl (lv_at hl 0 rfl) ?_
      refine gfX11_68 hx hb hts hown hK hP 0 rfl dX11_isMarked_16 ?_
      refine lv_aload_n hx hb dX11_isMarked_19 rfl (lv_at hl 0 rfl) ?_
      refine gfX11_156 (v := (sM 19)) hx hb hts hown hK hP 0 rfl rfl dX11_isMarked_20 ?_
      obtain ⟨hin, h⟩ := h
      refine ldi (k := (sM 19).toNatClampNeg) hx hb hK hP 1 rfl hin rfl dX11_isMarked_23 ?_
      refine lv_iload_n hx hb dX11_isMarked_24 rfl (lv_at hl 1 rfl) ?_
      refine lv_icmp_ne (tgt := 32) hx hb dX11_isMarked_25 (by decide) (fun c25 => ?_) (fun c25 => ?_)
      · have h := h.1 c25
        refine lv_iconst (v := (0 : Int32)) hx hb dX11_isMarked_32 (by decide) ?_
        exact hret (0 : Int32) () _ _ _ _ rfl dX11_isMarked_33 h hP hD hS
      · have h := h.2 c25
        refine lv_iconst (v := (1 : Int32)) hx hb dX11_isMarked_28 (by decide) ?_
        refine lv_goto (tgt := 33) hx hb dX11_isMarked_29 (by decide) ?_
        exact hret (1 : Int32) () _ _ _ _ rfl dX11_isMarked_33 h hP hD hS
def wpX11_mark_J20 (sM : AR) (M_tape : AR) (post : AR → Prop) : Prop := ((¬ (sM 21) = 0 → post sM) ∧ ((sM 21) = 0 → wpX11_stepOn sM M_tape (fun sM_28 => post sM_28)))
def wpX11_mark (sM : AR) (M_tape : AR) (x1 : Int32) (post : AR → Prop) : Prop := ((¬ (sM 21) = 0 → wpX11_mark_J20 sM M_tape post) ∧ ((sM 21) = 0 → wpX11_isMarked sM M_tape x1 (fun r9 => ((¬ r9 = 0 → wpX11_mark_J20 sM M_tape post) ∧ (r9 = 0 → wpX11_wrong sM (1 : Int32) (fun sM_17 => wpX11_mark_J20 sM_17 M_tape post))))))
set_option maxHeartbeats 4000000 in
set_option maxRecDepth 100000 in
theorem ctX11_mark (l : Launch) (D : va_G) (cy : Nat → ClassId) (ev : Nat → Nat) (h0 : Nat) (rM : Nat → Nat) (sM : AR) (M_tape : AR) (x1 : Int32) (sz : Nat) (post : AR → Prop) (h : wpX11_mark sM M_tape x1 post) : Met l yX11_mark (Cond.code yX11_mark cX11_mark 2 none :: TB) ({ frames := 2, cells := 0, slots := 0, locals := 81 }) (va_Pc [.ref h0, .int x1] (PreX D cy ev [(h0, .inr (11, oX11 rM sM)), ((rM 13), .inl (cy 0, 500, .inl M_tape))] sz)) (va_Qv (fun (u : AR) => post u) (fun u => BkX D cy [(h0, .inr (11, oX11 rM sM)), ((rM 13), .inl (cy 0, 500, .inl M_tape))] sz [(h0, .inr (11, oX11 rM u)), ((rM 13), .inl (cy 0, 500, .inl M_tape))]) (va_A [(h0, .inr (11, oX11 rM sM)), ((rM 13), .inl (cy 0, 500, .inl M_tape))] sz)) 0 0 (va_A [(h0, .inr (11, oX11 rM sM)), ((rM 13), .inl (cy 0, 500, .inl M_tape))] sz) := by
  refine ofWv (by decide) (Nat.le_of_ble_eq_true rfl) ?_
  intro p e s m args below meth c ls A R QQ hx hb hml hown hts hR hlk hE hK hP hD hS hA hl hret
  have hown : s.vm.findClass RX11 = some m.cls := hown
  have hRf : 2 ≤ R.frames := by rw [hR]; exact Nat.le_refl _
  have hRl : 81 ≤ R.locals := by rw [hR]; exact Nat.le_refl _
  clear hR
  have hl : lv_has ls 2 [(0, .ref h0), (1, .int x1)] := hl
  have J20 : ∀ (sM : AR) (H : Heap) (locs : List Loc) (ls : Array Slot), wpX11_mark_J20 sM M_tape post → va_P D clsX [(h0, .inr (11, oX11 rM sM)), ((rM 13), .inl (cy 0, 500, .inl M_tape))] H → va_D A [(h0, .inr (11, oX11 rM sM)), ((rM 13), .inl (cy 0, 500, .inl M_tape))] → va_S A s.heap H locs → lv_has ls 2 [(0, .ref h0)] → W p l e R s m args below meth c H locs 0 0 QQ (F0 m 20 ls []) := by
    intro sM H locs ls h hP hD hS hl
    refine lv_aload_n hx hb dX11_mark_20 rfl (lv_at hl 0 rfl) ?_
    refine gfX11_181 (v := (sM 21)) hx hb hts hown hK hP 0 rfl rfl dX11_mark_21 ?_
    refine lv_if_ne (tgt := 31) hx hb dX11_mark_24 (by decide) (fun c24 => ?_) (fun c24 => ?_)
    · have h := h.1 c24
      exact hret (sM) _ _ _ _ dX11_mark_31 h hP hD hS
    · have h := h.2 c24
      refine lv_aload_n hx hb dX11_mark_27 rfl (lv_at hl 0 rfl) ?_
      refine clVv (As := []) (rest := []) (Wr := []) (cq := (RX11, TX11, 56)) ⟨hx, hb, hml, hown, hts⟩ ⟨callB_of 0 hts (goodC mw1358) rfl rfl rfl (hts _ (tb mw15)) (hts _ (tb mw1355)) kdX11_stepOn ⟨Nat.le_trans (by decide) hRf, Nat.le_trans (by decide) hRl⟩, hts _ (tb mw1357), hts _ (tb ms39)⟩ (ctX11_stepOn l D cy ev h0 rM sM M_tape  _ _ h) hE hK hP hD hS hA [0, 1] [] rfl rfl (by decide) (by decide) (by decide) 0 rfl rfl rfl hl.1 rfl (Nat.le_of_ble_eq_true rfl) ⟨Nat.zero_le _, Nat.zero_le _⟩ dX11_mark_28 (fun sM_28 H locs h hP hD hS => ?_)
      have hP : va_P D clsX [(h0, .inr (11, oX11 rM sM_28)), ((rM 13), .inl (cy 0, 500, .inl M_tape))] H := hP
      have hD : va_D A [(h0, .inr (11, oX11 rM sM_28)), ((rM 13), .inl (cy 0, 500, .inl M_tape))] := hD
      exact hret (sM_28) _ _ _ _ dX11_mark_31 h hP hD hS
  refine lv_aload_n hx hb dX11_mark_0 rfl (lv_at hl 0 rfl) ?_
  refine gfX11_181 (v := (sM 21)) hx hb hts hown hK hP 0 rfl rfl dX11_mark_1 ?_
  refine lv_if_ne (tgt := 20) hx hb dX11_mark_4 (by decide) (fun c4 => ?_) (fun c4 => ?_)
  · have h := h.1 c4
    exact J20 sM _ _ _ h hP hD hS (lv_sub hl [0] rfl)
  · have h := h.2 c4
    refine lv_aload_n hx hb dX11_mark_7 rfl (lv_at hl 0 rfl) ?_
    refine lv_iload_n hx hb dX11_mark_8 rfl (lv_at hl 1 rfl) ?_
    refine clVi (As := [.int x1]) (rest := []) (Wr := []) (cq := (RX11, TX11, 56)) ⟨hx, hb, hml, hown, hts⟩ ⟨callB_of 1 hts (goodC mw1438) rfl rfl rfl (hts _ (tb mw15)) (hts _ (tb mw1435)) kdX11_isMarked ⟨Nat.le_trans (by decide) hRf, Nat.le_trans (by decide) hRl⟩, hts _ (tb mw1437), hts _ (tb ms55)⟩ (ctX11_isMarked l D cy ev h0 rM sM M_tape x1 _ _ h) hE hK hP hD hS hA [0, 1] [] rfl rfl (by decide) (by decide) (by decide) 0 rfl rfl rfl hl.1 rfl (Nat.le_of_ble_eq_true rfl) ⟨Nat.zero_le _, Nat.zero_le _⟩ dX11_mark_9 (fun r9 u H locs h hP hD hS => ?_)
    have hP : va_P D clsX [(h0, .inr (11, oX11 rM sM)), ((rM 13), .inl (cy 0, 500, .inl M_tape))] H := hP
    have hD : va_D A [(h0, .inr (11, oX11 rM sM)), ((rM 13), .inl (cy 0, 500, .inl M_tape))] := hD
    refine lv_if_ne (tgt := 20) hx hb dX11_mark_12 (by decide) (fun c12 => ?_) (fun c12 => ?_)
    · have h := h.1 c12
      exact J20 sM _ _ _ h hP hD hS (lv_sub hl [0] rfl)
    · have h := h.2 c12
      refine lv_aload_n hx hb dX11_mark_15 rfl (lv_at hl 0 rfl) ?_
      refine lv_iconst (v := (1 : Int32)) hx hb dX11_mark_16 (by decide) ?_
      refine clVv (As := [.int (1 : Int32)]) (rest := []) (Wr := [((rM 13), .inl (cy 0, 500, .inl M_tape))]) (cq := (RX11, TX11, 56)) ⟨hx, hb, hml, hown, hts⟩ ⟨callB_of 1 hts (goodC mw1394) rfl rfl rfl (hts _ (tb mw15)) (hts _ (tb mw1391)) kdX11_wrong ⟨Nat.le_trans (by decide) hRf, Nat.le_trans (by decide) hRl⟩, hts _ (tb mw1393), hts _ (tb ms45)⟩ (ctX11_wrong l D cy ev h0 rM sM (1 : Int32) _ _ h) hE hK hP hD hS hA [0] [1] rfl rfl (by decide) (by decide) (by decide) 0 rfl rfl rfl hl.1 rfl (Nat.le_of_ble_eq_true rfl) ⟨Nat.zero_le _, Nat.zero_le _⟩ dX11_mark_17 (fun sM_17 H locs h hP hD hS => ?_)
      have hP : va_P D clsX [((rM 13), .inl (cy 0, 500, .inl M_tape)), (h0, .inr (11, oX11 rM sM_17))] H := hP
      have hD : va_D A [((rM 13), .inl (cy 0, 500, .inl M_tape)), (h0, .inr (11, oX11 rM sM_17))] := hD
      exact J20 sM_17 _ _ _ h (hP.sub [1, 0] rfl) (hD.sub [1, 0] (by decide) rfl) hS (lv_sub hl [0] rfl)
def wpX11_numberNow_J59 (sM : AR) (post : Int32 → AR → Prop) : Prop := ((¬ (sM 21) = 0 → post (0 : Int32) sM) ∧ ((sM 21) = 0 → post (sM 18) sM))
def wpX11_numberNow_J54 (sM : AR) (post : Int32 → AR → Prop) : Prop := wpX11_wrong sM (2 : Int32) (fun sM_56 => wpX11_numberNow_J59 sM_56 post)
def wpX11_numberNow (sM : AR) (x1 : Int32) (x2 : Int32) (post : Int32 → AR → Prop) : Prop := (((sM 21) = 0 → (((sM 17) = (2 : Int32) → (((3 : Int32) < ((sM 20) - (sM 19)) → wpX11_numberNow_J54 sM post) ∧ (¬ (3 : Int32) < ((sM 20) - (sM 19)) → (((sM 18) < x1 → wpX11_numberNow_J54 sM post) ∧ (¬ (sM 18) < x1 → (((sM 18) ≤ x2 → wpX11_numberNow_J59 sM post) ∧ (¬ (sM 18) ≤ x2 → wpX11_numberNow_J54 sM post))))))) ∧ (¬ (sM 17) = (2 : Int32) → wpX11_wrong sM (1 : Int32) (fun sM_19 => wpX11_numberNow_J59 sM_19 post)))) ∧ (¬ (sM 21) = 0 → post (0 : Int32) sM))
set_option maxHeartbeats 4000000 in
set_option maxRecDepth 100000 in
theorem ctX11_numberNow (l : Launch) (D : va_G) (cy : Nat → ClassId) (ev : Nat → Nat) (h0 : Nat) (rM : Nat → Nat) (sM : AR) (x1 : Int32) (x2 : Int32) (sz : Nat) (post : Int32 → AR → Prop) (h : wpX11_numberNow sM x1 x2 post) : Met l yX11_numberNow (Cond.code yX11_numberNow cX11_numberNow 3 (some .int) :: TB) ({ frames := 1, cells := 0, slots := 0, locals := 21 }) (va_Pc [.ref h0, .int x1, .int x2] (PreX D cy ev [(h0, .inr (11, oX11 rM sM))] sz)) (va_Qi (fun (r : Int32) (u : AR) => post r u) (fun u => BkX D cy [(h0, .inr (11, oX11 rM sM))] sz [(h0, .inr (11, oX11 rM u))]) (va_A [(h0, .inr (11, oX11 rM sM))] sz)) 0 0 (va_A [(h0, .inr (11, oX11 rM sM))] sz) := by
  refine ofWi (by decide) (Nat.le_of_ble_eq_true rfl) ?_
  intro p e s m args below meth c ls A R QQ hx hb hml hown hts hR hlk hE hK hP hD hS hA hl hret
  have hown : s.vm.findClass RX11 = some m.cls := hown
  have hRf : 1 ≤ R.frames := by rw [hR]; exact Nat.le_refl _
  have hRl : 21 ≤ R.locals := by rw [hR]; exact Nat.le_refl _
  clear hR
  have hl : lv_has ls 3 [(0, .ref h0), (1, .int x1), (2, .int x2)] := hl
  have J59 : ∀ (sM : AR) (H : Heap) (locs : List Loc) (ls : Array Slot), wpX11_numberNow_J59 sM post → va_P D clsX [(h0, .inr (11, oX11 rM sM))] H → va_D A [(h0, .inr (11, oX11 rM sM))] → va_S A s.heap H locs → lv_has ls 3 [(0, .ref h0)] → W p l e R s m args below meth c H locs 0 0 QQ (F0 m 59 ls []) := by
    intro sM H locs ls h hP hD hS hl
    refine lv_aload_n hx hb dX11_numberNow_59 rfl (lv_at hl 0 rfl) ?_
    refine gfX11_181 (v := (sM 21)) hx hb hts hown hK hP 0 rfl rfl dX11_numberNow_60 ?_
    refine lv_if_ne (tgt := 73) hx hb dX11_numberNow_63 (by decide) (fun c63 => ?_) (fun c63 => ?_)
    · have h := h.1 c63
      refine lv_iconst (v := (0 : Int32)) hx hb dX11_numberNow_73 (by decide) ?_
      exact hret (0 : Int32) (sM) _ _ _ _ rfl dX11_numberNow_74 h hP hD hS
    · have h := h.2 c63
      refine lv_aload_n hx hb dX11_numberNow_66 rfl (lv_at hl 0 rfl) ?_
      refine gfX11_169 (v := (sM 18)) hx hb hts hown hK hP 0 rfl rfl dX11_numberNow_67 ?_
      refine lv_goto (tgt := 74) hx hb dX11_numberNow_70 (by decide) ?_
      exact hret (sM 18) (sM) _ _ _ _ rfl dX11_numberNow_74 h hP hD hS
  have J54 : ∀ (H : Heap) (locs : List Loc) (ls : Array Slot), wpX11_numberNow_J54 sM post → va_P D clsX [(h0, .inr (11, oX11 rM sM))] H → va_D A [(h0, .inr (11, oX11 rM sM))] → va_S A s.heap H locs → lv_has ls 3 [(0, .ref h0)] → W p l e R s m args below meth c H locs 0 0 QQ (F0 m 54 ls []) := by
    intro  H locs ls h hP hD hS hl
    refine lv_aload_n hx hb dX11_numberNow_54 rfl (lv_at hl 0 rfl) ?_
    refine lv_iconst (v := (2 : Int32)) hx hb dX11_numberNow_55 (by decide) ?_
    refine clVv (As := [.int (2 : Int32)]) (rest := []) (Wr := []) (cq := (RX11, TX11, 56)) ⟨hx, hb, hml, hown, hts⟩ ⟨callB_of 1 hts (goodC mw1394) rfl rfl rfl (hts _ (tb mw15)) (hts _ (tb mw1391)) kdX11_wrong ⟨Nat.le_trans (by decide) hRf, Nat.le_trans (by decide) hRl⟩, hts _ (tb mw1393), hts _ (tb ms45)⟩ (ctX11_wrong l D cy ev h0 rM sM (2 : Int32) _ _ h) hE hK hP hD hS hA [0] [] rfl rfl (by decide) (by decide) (by decide) 0 rfl rfl rfl hl.1 rfl (Nat.le_of_ble_eq_true rfl) ⟨Nat.zero_le _, Nat.zero_le _⟩ dX11_numberNow_56 (fun sM_56 H locs h hP hD hS => ?_)
    have hP : va_P D clsX [(h0, .inr (11, oX11 rM sM_56))] H := hP
    have hD : va_D A [(h0, .inr (11, oX11 rM sM_56))] := hD
    exact J59 sM_56 _ _ _ h hP hD hS hl
  refine lv_aload_n hx hb dX11_numberNow_0 rfl (lv_at hl 0 rfl) ?_
  refine gfX11_181 (v := (sM 21)) hx hb hts hown hK hP 0 rfl rfl dX11_numberNow_1 ?_
  refine lv_if_eq (tgt := 9) hx hb dX11_numberNow_4 (by decide) (fun c4 => ?_) (fun c4 => ?_)
  · have h := h.1 c4
    refine lv_aload_n hx hb dX11_numberNow_9 rfl (lv_at hl 0 rfl) ?_
    refine gfX11_159 (v := (sM 17)) hx hb hts hown hK hP 0 rfl rfl dX11_numberNow_10 ?_
    refine lv_iconst (v := (2 : Int32)) hx hb dX11_numberNow_13 (by decide) ?_
    refine lv_icmp_eq (tgt := 25) hx hb dX11_numberNow_14 (by decide) (fun c14 => ?_) (fun c14 => ?_)
    · have h := h.1 c14
      refine lv_aload_n hx hb dX11_numberNow_25 rfl (lv_at hl 0 rfl) ?_
      refine gfX11_178 (v := (sM 20)) hx hb hts hown hK hP 0 rfl rfl dX11_numberNow_26 ?_
      refine lv_aload_n hx hb dX11_numberNow_29 rfl (lv_at hl 0 rfl) ?_
      refine gfX11_156 (v := (sM 19)) hx hb hts hown hK hP 0 rfl rfl dX11_numberNow_30 ?_
      refine lv_isub hx hb dX11_numberNow_33 ?_
      refine lv_iconst (v := (3 : Int32)) hx hb dX11_numberNow_34 (by decide) ?_
      refine lv_icmp_gt (tgt := 54) hx hb dX11_numberNow_35 (by decide) (fun c35 => ?_) (fun c35 => ?_)
      · have h := h.1 c35
        exact J54  _ _ _ h hP hD hS (lv_sub hl [0] rfl)
      · have h := h.2 c35
        refine lv_aload_n hx hb dX11_numberNow_38 rfl (lv_at hl 0 rfl) ?_
        refine gfX11_169 (v := (sM 18)) hx hb hts hown hK hP 0 rfl rfl dX11_numberNow_39 ?_
        refine lv_iload_n hx hb dX11_numberNow_42 rfl (lv_at hl 1 rfl) ?_
        refine lv_icmp_lt (tgt := 54) hx hb dX11_numberNow_43 (by decide) (fun c43 => ?_) (fun c43 => ?_)
        · have h := h.1 c43
          exact J54  _ _ _ h hP hD hS (lv_sub hl [0] rfl)
        · have h := h.2 c43
          refine lv_aload_n hx hb dX11_numberNow_46 rfl (lv_at hl 0 rfl) ?_
          refine gfX11_169 (v := (sM 18)) hx hb hts hown hK hP 0 rfl rfl dX11_numberNow_47 ?_
          refine lv_iload_n hx hb dX11_numberNow_50 rfl (lv_at hl 2 rfl) ?_
          refine lv_icmp_le (tgt := 59) hx hb dX11_numberNow_51 (by decide) (fun c51 => ?_) (fun c51 => ?_)
          · have h := h.1 c51
            exact J59 sM _ _ _ h hP hD hS (lv_sub hl [0] rfl)
          · have h := h.2 c51
            exact J54  _ _ _ h hP hD hS (lv_sub hl [0] rfl)
    · have h := h.2 c14
      refine lv_aload_n hx hb dX11_numberNow_17 rfl (lv_at hl 0 rfl) ?_
      refine lv_iconst (v := (1 : Int32)) hx hb dX11_numberNow_18 (by decide) ?_
      refine clVv (As := [.int (1 : Int32)]) (rest := []) (Wr := []) (cq := (RX11, TX11, 56)) ⟨hx, hb, hml, hown, hts⟩ ⟨callB_of 1 hts (goodC mw1394) rfl rfl rfl (hts _ (tb mw15)) (hts _ (tb mw1391)) kdX11_wrong ⟨Nat.le_trans (by decide) hRf, Nat.le_trans (by decide) hRl⟩, hts _ (tb mw1393), hts _ (tb ms45)⟩ (ctX11_wrong l D cy ev h0 rM sM (1 : Int32) _ _ h) hE hK hP hD hS hA [0] [] rfl rfl (by decide) (by decide) (by decide) 0 rfl rfl rfl hl.1 rfl (Nat.le_of_ble_eq_true rfl) ⟨Nat.zero_le _, Nat.zero_le _⟩ dX11_numberNow_19 (fun sM_19 H locs h hP hD hS => ?_)
      have hP : va_P D clsX [(h0, .inr (11, oX11 rM sM_19))] H := hP
      have hD : va_D A [(h0, .inr (11, oX11 rM sM_19))] := hD
      refine lv_goto (tgt := 59) hx hb dX11_numberNow_22 (by decide) ?_
      exact J59 sM_19 _ _ _ h hP hD hS (lv_sub hl [0] rfl)
  · have h := h.2 c4
    refine lv_iconst (v := (0 : Int32)) hx hb dX11_numberNow_7 (by decide) ?_
    exact hret (0 : Int32) (sM) _ _ _ _ rfl dX11_numberNow_8 h hP hD hS
def wpX11_readNumber (sM : AR) (M_tape : AR) (x1 : Int32) (x2 : Int32) (post : Int32 → AR → Prop) : Prop := wpX11_numberNow sM x1 x2 (fun r3 sM_3 => ((¬ (sM_3 21) = 0 → post r3 sM_3) ∧ ((sM_3 21) = 0 → wpX11_stepOn sM_3 M_tape (fun sM_15 => post r3 sM_15))))
set_option maxHeartbeats 4000000 in
set_option maxRecDepth 100000 in
theorem ctX11_readNumber (l : Launch) (D : va_G) (cy : Nat → ClassId) (ev : Nat → Nat) (h0 : Nat) (rM : Nat → Nat) (sM : AR) (M_tape : AR) (x1 : Int32) (x2 : Int32) (sz : Nat) (post : Int32 → AR → Prop) (h : wpX11_readNumber sM M_tape x1 x2 post) : Met l yX11_readNumber (Cond.code yX11_readNumber cX11_readNumber 4 (some .int) :: TB) ({ frames := 2, cells := 0, slots := 0, locals := 81 }) (va_Pc [.ref h0, .int x1, .int x2] (PreX D cy ev [(h0, .inr (11, oX11 rM sM)), ((rM 13), .inl (cy 0, 500, .inl M_tape))] sz)) (va_Qi (fun (r : Int32) (u : AR) => post r u) (fun u => BkX D cy [(h0, .inr (11, oX11 rM sM)), ((rM 13), .inl (cy 0, 500, .inl M_tape))] sz [(h0, .inr (11, oX11 rM u)), ((rM 13), .inl (cy 0, 500, .inl M_tape))]) (va_A [(h0, .inr (11, oX11 rM sM)), ((rM 13), .inl (cy 0, 500, .inl M_tape))] sz)) 0 0 (va_A [(h0, .inr (11, oX11 rM sM)), ((rM 13), .inl (cy 0, 500, .inl M_tape))] sz) := by
  refine ofWi (by decide) (Nat.le_of_ble_eq_true rfl) ?_
  intro p e s m args below meth c ls A R QQ hx hb hml hown hts hR hlk hE hK hP hD hS hA hl hret
  have hown : s.vm.findClass RX11 = some m.cls := hown
  have hRf : 2 ≤ R.frames := by rw [hR]; exact Nat.le_refl _
  have hRl : 81 ≤ R.locals := by rw [hR]; exact Nat.le_refl _
  clear hR
  have hl : lv_has ls 4 [(0, .ref h0), (1, .int x1), (2, .int x2)] := hl
  refine lv_aload_n hx hb dX11_readNumber_0 rfl (lv_at hl 0 rfl) ?_
  refine lv_iload_n hx hb dX11_readNumber_1 rfl (lv_at hl 1 rfl) ?_
  refine lv_iload_n hx hb dX11_readNumber_2 rfl (lv_at hl 2 rfl) ?_
  refine clVi (As := [.int x1, .int x2]) (rest := []) (Wr := [((rM 13), .inl (cy 0, 500, .inl M_tape))]) (cq := (RX11, TX11, 56)) ⟨hx, hb, hml, hown, hts⟩ ⟨callB_of 2 hts (goodC mw1410) rfl rfl rfl (hts _ (tb mw15)) (hts _ (tb mw1407)) kdX11_numberNow ⟨Nat.le_trans (by decide) hRf, Nat.le_trans (by decide) hRl⟩, hts _ (tb mw1409), hts _ (tb ms49)⟩ (ctX11_numberNow l D cy ev h0 rM sM x1 x2 _ _ h) hE hK hP hD hS hA [0] [1] rfl rfl (by decide) (by decide) (by decide) 0 rfl rfl rfl hl.1 rfl (Nat.le_of_ble_eq_true rfl) ⟨Nat.zero_le _, Nat.zero_le _⟩ dX11_readNumber_3 (fun r3 sM_3 H locs h hP hD hS => ?_)
  have hP : va_P D clsX [((rM 13), .inl (cy 0, 500, .inl M_tape)), (h0, .inr (11, oX11 rM sM_3))] H := hP
  have hD : va_D A [((rM 13), .inl (cy 0, 500, .inl M_tape)), (h0, .inr (11, oX11 rM sM_3))] := hD
  refine lv_istore_n (lv' := [(3, .int r3), (0, .ref h0), (1, .int x1), (2, .int x2)]) hx hb dX11_readNumber_6 rfl hl (by decide) rfl (fun ls hl => ?_)
  refine lv_aload_n hx hb dX11_readNumber_7 rfl (lv_at hl 1 rfl) ?_
  refine gfX11_181 (v := (sM_3 21)) hx hb hts hown hK hP 1 rfl rfl dX11_readNumber_8 ?_
  refine lv_if_ne (tgt := 18) hx hb dX11_readNumber_11 (by decide) (fun c11 => ?_) (fun c11 => ?_)
  · have h := h.1 c11
    refine lv_iload_n hx hb dX11_readNumber_18 rfl (lv_at hl 0 rfl) ?_
    exact hret r3 (sM_3) _ _ _ _ rfl dX11_readNumber_19 h (hP.sub [1, 0] rfl) (hD.sub [1, 0] (by decide) rfl) hS
  · have h := h.2 c11
    refine lv_aload_n hx hb dX11_readNumber_14 rfl (lv_at hl 1 rfl) ?_
    refine clVv (As := []) (rest := []) (Wr := []) (cq := (RX11, TX11, 56)) ⟨hx, hb, hml, hown, hts⟩ ⟨callB_of 0 hts (goodC mw1358) rfl rfl rfl (hts _ (tb mw15)) (hts _ (tb mw1355)) kdX11_stepOn ⟨Nat.le_trans (by decide) hRf, Nat.le_trans (by decide) hRl⟩, hts _ (tb mw1357), hts _ (tb ms39)⟩ (ctX11_stepOn l D cy ev h0 rM sM_3 M_tape  _ _ h) hE hK hP hD hS hA [1, 0] [] rfl rfl (by decide) (by decide) (by decide) 0 rfl rfl rfl hl.1 rfl (Nat.le_of_ble_eq_true rfl) ⟨Nat.zero_le _, Nat.zero_le _⟩ dX11_readNumber_15 (fun sM_15 H locs h hP hD hS => ?_)
    have hP : va_P D clsX [(h0, .inr (11, oX11 rM sM_15)), ((rM 13), .inl (cy 0, 500, .inl M_tape))] H := hP
    have hD : va_D A [(h0, .inr (11, oX11 rM sM_15)), ((rM 13), .inl (cy 0, 500, .inl M_tape))] := hD
    refine lv_iload_n hx hb dX11_readNumber_18 rfl (lv_at hl 0 rfl) ?_
    exact hret r3 (sM_15) _ _ _ _ rfl dX11_readNumber_19 h hP hD hS
def wpX11_readCell (sM : AR) (M_told : AR) (M_tape : AR) (post : Int32 → AR → Prop) : Prop := wpX11_readNumber sM M_tape (0 : Int32) ((M_told 7) - (1 : Int32)) (fun r11 sM_11 => wpX11_readNumber sM_11 M_tape (0 : Int32) ((M_told 8) - (1 : Int32)) (fun r33 sM_33 => post (((M_told 7) * r33) + r11) sM_33))
set_option maxHeartbeats 4000000 in
set_option maxRecDepth 100000 in
theorem ctX11_readCell (l : Launch) (D : va_G) (cy : Nat → ClassId) (ev : Nat → Nat) (h0 : Nat) (rM : Nat → Nat) (sM : AR) (M_told : AR) (M_tape : AR) (sz : Nat) (post : Int32 → AR → Prop) (h : wpX11_readCell sM M_told M_tape post) : Met l yX11_readCell (Cond.code yX11_readCell cX11_readCell 2 (some .int) :: TB) ({ frames := 3, cells := 0, slots := 0, locals := 104 }) (va_Pc [.ref h0] (PreX D cy ev [(h0, .inr (11, oX11 rM sM)), ((rM 3), .inl (cy 0, 14, .inl M_told)), ((rM 13), .inl (cy 0, 500, .inl M_tape))] sz)) (va_Qi (fun (r : Int32) (u : AR) => post r u) (fun u => BkX D cy [(h0, .inr (11, oX11 rM sM)), ((rM 3), .inl (cy 0, 14, .inl M_told)), ((rM 13), .inl (cy 0, 500, .inl M_tape))] sz [(h0, .inr (11, oX11 rM u)), ((rM 3), .inl (cy 0, 14, .inl M_told)), ((rM 13), .inl (cy 0, 500, .inl M_tape))]) (va_A [(h0, .inr (11, oX11 rM sM)), ((rM 3), .inl (cy 0, 14, .inl M_told)), ((rM 13), .inl (cy 0, 500, .inl M_tape))] sz)) 0 0 (va_A [(h0, .inr (11, oX11 rM sM)), ((rM 3), .inl (cy 0, 14, .inl M_told)), ((rM 13), .inl (cy 0, 500, .inl M_tape))] sz) := by
  refine ofWi (by decide) (Nat.le_of_ble_eq_true rfl) ?_
  intro p e s m args below meth c ls A R QQ hx hb hml hown hts hR hlk hE hK hP hD hS hA hl hret
  have hown : s.vm.findClass RX11 = some m.cls := hown
  have hRf : 3 ≤ R.frames := by rw [hR]; exact Nat.le_refl _
  have hRl : 104 ≤ R.locals := by rw [hR]; exact Nat.le_refl _
  clear hR
  have hl : lv_has ls 2 [(0, .ref h0)] := hl
  refine lv_aload_n hx hb dX11_readCell_0 rfl (lv_at hl 0 rfl) ?_
  refine lv_iconst (v := (0 : Int32)) hx hb dX11_readCell_1 (by decide) ?_
  refine lv_aload_n hx hb dX11_readCell_2 rfl (lv_at hl 0 rfl) ?_
  refine gfX11_36 hx hb hts hown hK hP 0 rfl dX11_readCell_3 ?_
  refine lv_bipush (v := (7 : Int32)) hx hb dX11_readCell_6 (by decide) ?_
  refine ldi (k := 7) hx hb hK hP 1 rfl (inL (by decide)) (by decide) dX11_readCell_8 ?_
  refine lv_iconst (v := (1 : Int32)) hx hb dX11_readCell_9 (by decide) ?_
  refine lv_isub hx hb dX11_readCell_10 ?_
  refine clVi (As := [.int (0 : Int32), .int ((M_told 7) - (1 : Int32))]) (rest := []) (Wr := [((rM 3), .inl (cy 0, 14, .inl M_told))]) (cq := (RX11, TX11, 56)) ⟨hx, hb, hml, hown, hts⟩ ⟨callB_of 2 hts (goodC mw1406) rfl rfl rfl (hts _ (tb mw15)) (hts _ (tb mw1403)) kdX11_readNumber ⟨Nat.le_trans (by decide) hRf, Nat.le_trans (by decide) hRl⟩, hts _ (tb mw1405), hts _ (tb ms48)⟩ (ctX11_readNumber l D cy ev h0 rM sM M_tape (0 : Int32) ((M_told 7) - (1 : Int32)) _ _ h) hE hK hP hD hS hA [0, 2] [1] rfl rfl (by decide) (by decide) (by decide) 0 rfl rfl rfl hl.1 rfl (Nat.le_of_ble_eq_true rfl) ⟨Nat.zero_le _, Nat.zero_le _⟩ dX11_readCell_11 (fun r11 sM_11 H locs h hP hD hS => ?_)
  have hP : va_P D clsX [((rM 3), .inl (cy 0, 14, .inl M_told)), (h0, .inr (11, oX11 rM sM_11)), ((rM 13), .inl (cy 0, 500, .inl M_tape))] H := hP
  have hD : va_D A [((rM 3), .inl (cy 0, 14, .inl M_told)), (h0, .inr (11, oX11 rM sM_11)), ((rM 13), .inl (cy 0, 500, .inl M_tape))] := hD
  refine lv_istore_n (lv' := [(1, .int r11), (0, .ref h0)]) hx hb dX11_readCell_14 rfl hl (by decide) rfl (fun ls hl => ?_)
  refine lv_aload_n hx hb dX11_readCell_15 rfl (lv_at hl 1 rfl) ?_
  refine gfX11_36 hx hb hts hown hK hP 1 rfl dX11_readCell_16 ?_
  refine lv_bipush (v := (7 : Int32)) hx hb dX11_readCell_19 (by decide) ?_
  refine ldi (k := 7) hx hb hK hP 0 rfl (inL (by decide)) (by decide) dX11_readCell_21 ?_
  refine lv_aload_n hx hb dX11_readCell_22 rfl (lv_at hl 1 rfl) ?_
  refine lv_iconst (v := (0 : Int32)) hx hb dX11_readCell_23 (by decide) ?_
  refine lv_aload_n hx hb dX11_readCell_24 rfl (lv_at hl 1 rfl) ?_
  refine gfX11_36 hx hb hts hown hK hP 1 rfl dX11_readCell_25 ?_
  refine lv_bipush (v := (8 : Int32)) hx hb dX11_readCell_28 (by decide) ?_
  refine ldi (k := 8) hx hb hK hP 0 rfl (inL (by decide)) (by decide) dX11_readCell_30 ?_
  refine lv_iconst (v := (1 : Int32)) hx hb dX11_readCell_31 (by decide) ?_
  refine lv_isub hx hb dX11_readCell_32 ?_
  refine clVi (As := [.int (0 : Int32), .int ((M_told 8) - (1 : Int32))]) (rest := [.int (M_told 7)]) (Wr := [((rM 3), .inl (cy 0, 14, .inl M_told))]) (cq := (RX11, TX11, 56)) ⟨hx, hb, hml, hown, hts⟩ ⟨callB_of 2 hts (goodC mw1406) rfl rfl rfl (hts _ (tb mw15)) (hts _ (tb mw1403)) kdX11_readNumber ⟨Nat.le_trans (by decide) hRf, Nat.le_trans (by decide) hRl⟩, hts _ (tb mw1405), hts _ (tb ms48)⟩ (ctX11_readNumber l D cy ev h0 rM sM_11 M_tape (0 : Int32) ((M_told 8) - (1 : Int32)) _ _ h) hE hK hP hD hS hA [1, 2] [0] rfl rfl (by decide) (by decide) (by decide) 0 rfl rfl rfl hl.1 rfl (Nat.le_of_ble_eq_true rfl) ⟨Nat.zero_le _, Nat.zero_le _⟩ dX11_readCell_33 (fun r33 sM_33 H locs h hP hD hS => ?_)
  have hP : va_P D clsX [((rM 3), .inl (cy 0, 14, .inl M_told)), (h0, .inr (11, oX11 rM sM_33)), ((rM 13), .inl (cy 0, 500, .inl M_tape))] H := hP
  have hD : va_D A [((rM 3), .inl (cy 0, 14, .inl M_told)), (h0, .inr (11, oX11 rM sM_33)), ((rM 13), .inl (cy 0, 500, .inl M_tape))] := hD
  refine lv_imul hx hb dX11_readCell_36 ?_
  refine lv_iload_n hx hb dX11_readCell_37 rfl (lv_at hl 0 rfl) ?_
  refine lv_iadd hx hb dX11_readCell_38 ?_
  exact hret (((M_told 7) * r33) + r11) (sM_33) _ _ _ _ rfl dX11_readCell_39 h (hP.sub [1, 0, 2] rfl) (hD.sub [1, 0, 2] (by decide) rfl) hS
def wpX11_readWalker_J16 (sM : AR) (M_told : AR) (M_kind : AR) (M_read : AR) (M_tape : AR) (l1 : Int32) (post : AR → AR → AR → AR → Prop) : Prop := (((sM 21) = 0 → wpX11_stepOn sM M_tape (fun sM_25 => ∀ l2_35 : Int32, l2_35 = (M_told 10) → vp_in ((4 : Int32) + l2_35) 8 ∧ ∀ M_kind_44 : AR, M_kind_44 = upd M_kind ((4 : Int32) + l2_35).toNatClampNeg l1 → wpX11_readCell sM_25 M_told M_tape (fun r56 sM_56 => vp_in (((6 : Int32) * l2_35) + (0 : Int32)) 29 ∧ ∀ M_read_59 : AR, M_read_59 = upd M_read (((6 : Int32) * l2_35) + (0 : Int32)).toNatClampNeg r56 → wpX11_readNumber sM_56 M_tape (0 : Int32) (99 : Int32) (fun r74 sM_74 => vp_in (((6 : Int32) * l2_35) + (1 : Int32)) 29 ∧ ∀ M_read_77 : AR, M_read_77 = upd M_read_59 (((6 : Int32) * l2_35) + (1 : Int32)).toNatClampNeg r74 → vp_in (((6 : Int32) * l2_35) + (2 : Int32)) 29 ∧ ∀ M_read_89 : AR, M_read_89 = upd M_read_77 (((6 : Int32) * l2_35) + (2 : Int32)).toNatClampNeg (0 : Int32) → vp_in (((6 : Int32) * l2_35) + (3 : Int32)) 29 ∧ ∀ M_read_101 : AR, M_read_101 = upd M_read_89 (((6 : Int32) * l2_35) + (3 : Int32)).toNatClampNeg (0 : Int32) → vp_in (((6 : Int32) * l2_35) + (4 : Int32)) 29 ∧ ∀ M_read_113 : AR, M_read_113 = upd M_read_101 (((6 : Int32) * l2_35) + (4 : Int32)).toNatClampNeg (-1 : Int32) → vp_in (((6 : Int32) * l2_35) + (5 : Int32)) 29 ∧ ∀ M_read_125 : AR, M_read_125 = upd M_read_113 (((6 : Int32) * l2_35) + (5 : Int32)).toNatClampNeg (0 : Int32) → ∀ M_told_136 : AR, M_told_136 = upd M_told 10 ((M_told 10) + (1 : Int32)) → post sM_74 M_told_136 M_kind_44 M_read_125)))) ∧ (¬ (sM 21) = 0 → post sM M_told M_kind M_read))
def wpX11_readWalker (sM : AR) (M_told : AR) (M_kind : AR) (M_read : AR) (M_tape : AR) (x1 : Int32) (post : AR → AR → AR → AR → Prop) : Prop := ((¬ (M_told 10) = (4 : Int32) → wpX11_readWalker_J16 sM M_told M_kind M_read M_tape x1 post) ∧ ((M_told 10) = (4 : Int32) → wpX11_wrong sM (2 : Int32) (fun sM_13 => wpX11_readWalker_J16 sM_13 M_told M_kind M_read M_tape x1 post)))
set_option maxHeartbeats 4000000 in
set_option maxRecDepth 100000 in
theorem ctX11_readWalker (l : Launch) (D : va_G) (cy : Nat → ClassId) (ev : Nat → Nat) (h0 : Nat) (rM : Nat → Nat) (sM : AR) (M_told : AR) (M_kind : AR) (M_read : AR) (M_tape : AR) (x1 : Int32) (sz : Nat) (post : AR → AR → AR → AR → Prop) (h : wpX11_readWalker sM M_told M_kind M_read M_tape x1 post) : Met l yX11_readWalker (Cond.code yX11_readWalker cX11_readWalker 3 none :: TB) ({ frames := 4, cells := 0, slots := 0, locals := 125 }) (va_Pc [.ref h0, .int x1] (PreX D cy ev [(h0, .inr (11, oX11 rM sM)), ((rM 3), .inl (cy 0, 14, .inl M_told)), ((rM 7), .inl (cy 0, 8, .inl M_kind)), ((rM 9), .inl (cy 0, 29, .inl M_read)), ((rM 13), .inl (cy 0, 500, .inl M_tape))] sz)) (va_Qv (fun (u : AR × AR × AR × AR) => post (u.1) (u.2.1) (u.2.2.1) (u.2.2.2)) (fun u => BkX D cy [(h0, .inr (11, oX11 rM sM)), ((rM 3), .inl (cy 0, 14, .inl M_told)), ((rM 7), .inl (cy 0, 8, .inl M_kind)), ((rM 9), .inl (cy 0, 29, .inl M_read)), ((rM 13), .inl (cy 0, 500, .inl M_tape))] sz [(h0, .inr (11, oX11 rM (u.1))), ((rM 3), .inl (cy 0, 14, .inl (u.2.1))), ((rM 7), .inl (cy 0, 8, .inl (u.2.2.1))), ((rM 9), .inl (cy 0, 29, .inl (u.2.2.2))), ((rM 13), .inl (cy 0, 500, .inl M_tape))]) (va_A [(h0, .inr (11, oX11 rM sM)), ((rM 3), .inl (cy 0, 14, .inl M_told)), ((rM 7), .inl (cy 0, 8, .inl M_kind)), ((rM 9), .inl (cy 0, 29, .inl M_read)), ((rM 13), .inl (cy 0, 500, .inl M_tape))] sz)) 0 0 (va_A [(h0, .inr (11, oX11 rM sM)), ((rM 3), .inl (cy 0, 14, .inl M_told)), ((rM 7), .inl (cy 0, 8, .inl M_kind)), ((rM 9), .inl (cy 0, 29, .inl M_read)), ((rM 13), .inl (cy 0, 500, .inl M_tape))] sz) := by
  refine ofWv (by decide) (Nat.le_of_ble_eq_true rfl) ?_
  intro p e s m args below meth c ls A R QQ hx hb hml hown hts hR hlk hE hK hP hD hS hA hl hret
  have hown : s.vm.findClass RX11 = some m.cls := hown
  have hRf : 4 ≤ R.frames := by rw [hR]; exact Nat.le_refl _
  have hRl : 125 ≤ R.locals := by rw [hR]; exact Nat.le_refl _
  clear hR
  have hl : lv_has ls 3 [(0, .ref h0), (1, .int x1)] := hl
  have J16 : ∀ (sM : AR) (l1 : Int32) (H : Heap) (locs : List Loc) (ls : Array Slot), wpX11_readWalker_J16 sM M_told M_kind M_read M_tape l1 post → va_P D clsX [(h0, .inr (11, oX11 rM sM)), ((rM 3), .inl (cy 0, 14, .inl M_told)), ((rM 7), .inl (cy 0, 8, .inl M_kind)), ((rM 9), .inl (cy 0, 29, .inl M_read)), ((rM 13), .inl (cy 0, 500, .inl M_tape))] H → va_D A [(h0, .inr (11, oX11 rM sM)), ((rM 3), .inl (cy 0, 14, .inl M_told)), ((rM 7), .inl (cy 0, 8, .inl M_kind)), ((rM 9), .inl (cy 0, 29, .inl M_read)), ((rM 13), .inl (cy 0, 500, .inl M_tape))] → va_S A s.heap H locs → lv_has ls 3 [(0, .ref h0), (1, .int l1)] → W p l e R s m args below meth c H locs 0 0 QQ (F0 m 16 ls []) := by
    intro sM l1 H locs ls h hP hD hS hl
    refine lv_aload_n hx hb dX11_readWalker_16 rfl (lv_at hl 0 rfl) ?_
    refine gfX11_181 (v := (sM 21)) hx hb hts hown hK hP 0 rfl rfl dX11_readWalker_17 ?_
    refine lv_if_eq (tgt := 24) hx hb dX11_readWalker_20 (by decide) (fun c20 => ?_) (fun c20 => ?_)
    · have h := h.1 c20
      refine lv_aload_n hx hb dX11_readWalker_24 rfl (lv_at hl 0 rfl) ?_
      refine clVv (As := []) (rest := []) (Wr := [((rM 3), .inl (cy 0, 14, .inl M_told)), ((rM 7), .inl (cy 0, 8, .inl M_kind)), ((rM 9), .inl (cy 0, 29, .inl M_read))]) (cq := (RX11, TX11, 56)) ⟨hx, hb, hml, hown, hts⟩ ⟨callB_of 0 hts (goodC mw1358) rfl rfl rfl (hts _ (tb mw15)) (hts _ (tb mw1355)) kdX11_stepOn ⟨Nat.le_trans (by decide) hRf, Nat.le_trans (by decide) hRl⟩, hts _ (tb mw1357), hts _ (tb ms39)⟩ (ctX11_stepOn l D cy ev h0 rM sM M_tape  _ _ h) hE hK hP hD hS hA [0, 4] [1, 2, 3] rfl rfl (by decide) (by decide) (by decide) 0 rfl rfl rfl hl.1 rfl (Nat.le_of_ble_eq_true rfl) ⟨Nat.zero_le _, Nat.zero_le _⟩ dX11_readWalker_25 (fun sM_25 H locs h hP hD hS => ?_)
      have hP : va_P D clsX [((rM 3), .inl (cy 0, 14, .inl M_told)), ((rM 7), .inl (cy 0, 8, .inl M_kind)), ((rM 9), .inl (cy 0, 29, .inl M_read)), (h0, .inr (11, oX11 rM sM_25)), ((rM 13), .inl (cy 0, 500, .inl M_tape))] H := hP
      have hD : va_D A [((rM 3), .inl (cy 0, 14, .inl M_told)), ((rM 7), .inl (cy 0, 8, .inl M_kind)), ((rM 9), .inl (cy 0, 29, .inl M_read)), (h0, .inr (11, oX11 rM sM_25)), ((rM 13), .inl (cy 0, 500, .inl M_tape))] := hD
      refine lv_aload_n hx hb dX11_readWalker_28 rfl (lv_at hl 0 rfl) ?_
      refine gfX11_36 hx hb hts hown hK hP 3 rfl dX11_readWalker_29 ?_
      refine lv_bipush (v := (10 : Int32)) hx hb dX11_readWalker_32 (by decide) ?_
      refine ldi (k := 10) hx hb hK hP 0 rfl (inL (by decide)) (by decide) dX11_readWalker_34 ?_
      refine lv_topi (fun l2_35 el2_35 => ?_)
      have h := h l2_35 el2_35
      refine lv_istore_n (lv' := [(2, .int l2_35), (0, .ref h0), (1, .int l1)]) hx hb dX11_readWalker_35 rfl hl (by decide) rfl (fun ls hl => ?_)
      refine lv_aload_n hx hb dX11_readWalker_36 rfl (lv_at hl 1 rfl) ?_
      refine gfX11_49 hx hb hts hown hK hP 3 rfl dX11_readWalker_37 ?_
      refine lv_iconst (v := (4 : Int32)) hx hb dX11_readWalker_40 (by decide) ?_
      refine lv_iload_n hx hb dX11_readWalker_41 rfl (lv_at hl 0 rfl) ?_
      refine lv_iadd hx hb dX11_readWalker_42 ?_
      refine lv_iload_n hx hb dX11_readWalker_43 rfl (lv_at hl 2 rfl) ?_
      obtain ⟨hin, h⟩ := h
      refine sti (k := ((4 : Int32) + l2_35).toNatClampNeg) (y := l1) hx hb hK hP hD hS 1 rfl hin rfl rfl dX11_readWalker_44 (fun M_kind_44 eM_kind_44 H locs hP hD hS => ?_)
      have h := h M_kind_44 eM_kind_44
      have hP : va_P D clsX [((rM 3), .inl (cy 0, 14, .inl M_told)), ((rM 7), .inl (cy 0, 8, .inl M_kind_44)), ((rM 9), .inl (cy 0, 29, .inl M_read)), (h0, .inr (11, oX11 rM sM_25)), ((rM 13), .inl (cy 0, 500, .inl M_tape))] H := hP
      have hD : va_D A [((rM 3), .inl (cy 0, 14, .inl M_told)), ((rM 7), .inl (cy 0, 8, .inl M_kind_44)), ((rM 9), .inl (cy 0, 29, .inl M_read)), (h0, .inr (11, oX11 rM sM_25)), ((rM 13), .inl (cy 0, 500, .inl M_tape))] := hD
      refine lv_aload_n hx hb dX11_readWalker_45 rfl (lv_at hl 1 rfl) ?_
      refine gfX11_55 hx hb hts hown hK hP 3 rfl dX11_readWalker_46 ?_
      refine lv_bipush (v := (6 : Int32)) hx hb dX11_readWalker_49 (by decide) ?_
      refine lv_iload_n hx hb dX11_readWalker_51 rfl (lv_at hl 0 rfl) ?_
      refine lv_imul hx hb dX11_readWalker_52 ?_
      refine lv_iconst (v := (0 : Int32)) hx hb dX11_readWalker_53 (by decide) ?_
      refine lv_iadd hx hb dX11_readWalker_54 ?_
      refine lv_aload_n hx hb dX11_readWalker_55 rfl (lv_at hl 1 rfl) ?_
      refine clVi (As := []) (rest := [.int (((6 : Int32) * l2_35) + (0 : Int32)), .ref (rM 9)]) (Wr := [((rM 7), .inl (cy 0, 8, .inl M_kind_44)), ((rM 9), .inl (cy 0, 29, .inl M_read))]) (cq := (RX11, TX11, 56)) ⟨hx, hb, hml, hown, hts⟩ ⟨callB_of 0 hts (goodC mw1402) rfl rfl rfl (hts _ (tb mw15)) (hts _ (tb mw1399)) kdX11_readCell ⟨Nat.le_trans (by decide) hRf, Nat.le_trans (by decide) hRl⟩, hts _ (tb mw1401), hts _ (tb ms47)⟩ (ctX11_readCell l D cy ev h0 rM sM_25 M_told M_tape  _ _ h) hE hK hP hD hS hA [3, 0, 4] [1, 2] rfl rfl (by decide) (by decide) (by decide) 0 rfl rfl rfl hl.1 rfl (Nat.le_of_ble_eq_true rfl) ⟨Nat.zero_le _, Nat.zero_le _⟩ dX11_readWalker_56 (fun r56 sM_56 H locs h hP hD hS => ?_)
      have hP : va_P D clsX [((rM 7), .inl (cy 0, 8, .inl M_kind_44)), ((rM 9), .inl (cy 0, 29, .inl M_read)), (h0, .inr (11, oX11 rM sM_56)), ((rM 3), .inl (cy 0, 14, .inl M_told)), ((rM 13), .inl (cy 0, 500, .inl M_tape))] H := hP
      have hD : va_D A [((rM 7), .inl (cy 0, 8, .inl M_kind_44)), ((rM 9), .inl (cy 0, 29, .inl M_read)), (h0, .inr (11, oX11 rM sM_56)), ((rM 3), .inl (cy 0, 14, .inl M_told)), ((rM 13), .inl (cy 0, 500, .inl M_tape))] := hD
      obtain ⟨hin, h⟩ := h
      refine sti (k := (((6 : Int32) * l2_35) + (0 : Int32)).toNatClampNeg) (y := r56) hx hb hK hP hD hS 1 rfl hin rfl rfl dX11_readWalker_59 (fun M_read_59 eM_read_59 H locs hP hD hS => ?_)
      have h := h M_read_59 eM_read_59
      have hP : va_P D clsX [((rM 7), .inl (cy 0, 8, .inl M_kind_44)), ((rM 9), .inl (cy 0, 29, .inl M_read_59)), (h0, .inr (11, oX11 rM sM_56)), ((rM 3), .inl (cy 0, 14, .inl M_told)), ((rM 13), .inl (cy 0, 500, .inl M_tape))] H := hP
      have hD : va_D A [((rM 7), .inl (cy 0, 8, .inl M_kind_44)), ((rM 9), .inl (cy 0, 29, .inl M_read_59)), (h0, .inr (11, oX11 rM sM_56)), ((rM 3), .inl (cy 0, 14, .inl M_told)), ((rM 13), .inl (cy 0, 500, .inl M_tape))] := hD
      refine lv_aload_n hx hb dX11_readWalker_60 rfl (lv_at hl 1 rfl) ?_
      refine gfX11_55 hx hb hts hown hK hP 2 rfl dX11_readWalker_61 ?_
      refine lv_bipush (v := (6 : Int32)) hx hb dX11_readWalker_64 (by decide) ?_
      refine lv_iload_n hx hb dX11_readWalker_66 rfl (lv_at hl 0 rfl) ?_
      refine lv_imul hx hb dX11_readWalker_67 ?_
      refine lv_iconst (v := (1 : Int32)) hx hb dX11_readWalker_68 (by decide) ?_
      refine lv_iadd hx hb dX11_readWalker_69 ?_
      refine lv_aload_n hx hb dX11_readWalker_70 rfl (lv_at hl 1 rfl) ?_
      refine lv_iconst (v := (0 : Int32)) hx hb dX11_readWalker_71 (by decide) ?_
      refine lv_bipush (v := (99 : Int32)) hx hb dX11_readWalker_72 (by decide) ?_
      refine clVi (As := [.int (0 : Int32), .int (99 : Int32)]) (rest := [.int (((6 : Int32) * l2_35) + (1 : Int32)), .ref (rM 9)]) (Wr := [((rM 7), .inl (cy 0, 8, .inl M_kind_44)), ((rM 9), .inl (cy 0, 29, .inl M_read_59)), ((rM 3), .inl (cy 0, 14, .inl M_told))]) (cq := (RX11, TX11, 56)) ⟨hx, hb, hml, hown, hts⟩ ⟨callB_of 2 hts (goodC mw1406) rfl rfl rfl (hts _ (tb mw15)) (hts _ (tb mw1403)) kdX11_readNumber ⟨Nat.le_trans (by decide) hRf, Nat.le_trans (by decide) hRl⟩, hts _ (tb mw1405), hts _ (tb ms48)⟩ (ctX11_readNumber l D cy ev h0 rM sM_56 M_tape (0 : Int32) (99 : Int32) _ _ h) hE hK hP hD hS hA [2, 4] [0, 1, 3] rfl rfl (by decide) (by decide) (by decide) 0 rfl rfl rfl hl.1 rfl (Nat.le_of_ble_eq_true rfl) ⟨Nat.zero_le _, Nat.zero_le _⟩ dX11_readWalker_74 (fun r74 sM_74 H locs h hP hD hS => ?_)
      have hP : va_P D clsX [((rM 7), .inl (cy 0, 8, .inl M_kind_44)), ((rM 9), .inl (cy 0, 29, .inl M_read_59)), ((rM 3), .inl (cy 0, 14, .inl M_told)), (h0, .inr (11, oX11 rM sM_74)), ((rM 13), .inl (cy 0, 500, .inl M_tape))] H := hP
      have hD : va_D A [((rM 7), .inl (cy 0, 8, .inl M_kind_44)), ((rM 9), .inl (cy 0, 29, .inl M_read_59)), ((rM 3), .inl (cy 0, 14, .inl M_told)), (h0, .inr (11, oX11 rM sM_74)), ((rM 13), .inl (cy 0, 500, .inl M_tape))] := hD
      obtain ⟨hin, h⟩ := h
      refine sti (k := (((6 : Int32) * l2_35) + (1 : Int32)).toNatClampNeg) (y := r74) hx hb hK hP hD hS 1 rfl hin rfl rfl dX11_readWalker_77 (fun M_read_77 eM_read_77 H locs hP hD hS => ?_)
      have h := h M_read_77 eM_read_77
      have hP : va_P D clsX [((rM 7), .inl (cy 0, 8, .inl M_kind_44)), ((rM 9), .inl (cy 0, 29, .inl M_read_77)), ((rM 3), .inl (cy 0, 14, .inl M_told)), (h0, .inr (11, oX11 rM sM_74)), ((rM 13), .inl (cy 0, 500, .inl M_tape))] H := hP
      have hD : va_D A [((rM 7), .inl (cy 0, 8, .inl M_kind_44)), ((rM 9), .inl (cy 0, 29, .inl M_read_77)), ((rM 3), .inl (cy 0, 14, .inl M_told)), (h0, .inr (11, oX11 rM sM_74)), ((rM 13), .inl (cy 0, 500, .inl M_tape))] := hD
      refine lv_aload_n hx hb dX11_readWalker_78 rfl (lv_at hl 1 rfl) ?_
      refine gfX11_55 hx hb hts hown hK hP 3 rfl dX11_readWalker_79 ?_
      refine lv_bipush (v := (6 : Int32)) hx hb dX11_readWalker_82 (by decide) ?_
      refine lv_iload_n hx hb dX11_readWalker_84 rfl (lv_at hl 0 rfl) ?_
      refine lv_imul hx hb dX11_readWalker_85 ?_
      refine lv_iconst (v := (2 : Int32)) hx hb dX11_readWalker_86 (by decide) ?_
      refine lv_iadd hx hb dX11_readWalker_87 ?_
      refine lv_iconst (v := (0 : Int32)) hx hb dX11_readWalker_88 (by decide) ?_
      obtain ⟨hin, h⟩ := h
      refine sti (k := (((6 : Int32) * l2_35) + (2 : Int32)).toNatClampNeg) (y := (0 : Int32)) hx hb hK hP hD hS 1 rfl hin rfl rfl dX11_readWalker_89 (fun M_read_89 eM_read_89 H locs hP hD hS => ?_)
      have h := h M_read_89 eM_read_89
      have hP : va_P D clsX [((rM 7), .inl (cy 0, 8, .inl M_kind_44)), ((rM 9), .inl (cy 0, 29, .inl M_read_89)), ((rM 3), .inl (cy 0, 14, .inl M_told)), (h0, .inr (11, oX11 rM sM_74)), ((rM 13), .inl (cy 0, 500, .inl M_tape))] H := hP
      have hD : va_D A [((rM 7), .inl (cy 0, 8, .inl M_kind_44)), ((rM 9), .inl (cy 0, 29, .inl M_read_89)), ((rM 3), .inl (cy 0, 14, .inl M_told)), (h0, .inr (11, oX11 rM sM_74)), ((rM 13), .inl (cy 0, 500, .inl M_tape))] := hD
      refine lv_aload_n hx hb dX11_readWalker_90 rfl (lv_at hl 1 rfl) ?_
      refine gfX11_55 hx hb hts hown hK hP 3 rfl dX11_readWalker_91 ?_
      refine lv_bipush (v := (6 : Int32)) hx hb dX11_readWalker_94 (by decide) ?_
      refine lv_iload_n hx hb dX11_readWalker_96 rfl (lv_at hl 0 rfl) ?_
      refine lv_imul hx hb dX11_readWalker_97 ?_
      refine lv_iconst (v := (3 : Int32)) hx hb dX11_readWalker_98 (by decide) ?_
      refine lv_iadd hx hb dX11_readWalker_99 ?_
      refine lv_iconst (v := (0 : Int32)) hx hb dX11_readWalker_100 (by decide) ?_
      obtain ⟨hin, h⟩ := h
      refine sti (k := (((6 : Int32) * l2_35) + (3 : Int32)).toNatClampNeg) (y := (0 : Int32)) hx hb hK hP hD hS 1 rfl hin rfl rfl dX11_readWalker_101 (fun M_read_101 eM_read_101 H locs hP hD hS => ?_)
      have h := h M_read_101 eM_read_101
      have hP : va_P D clsX [((rM 7), .inl (cy 0, 8, .inl M_kind_44)), ((rM 9), .inl (cy 0, 29, .inl M_read_101)), ((rM 3), .inl (cy 0, 14, .inl M_told)), (h0, .inr (11, oX11 rM sM_74)), ((rM 13), .inl (cy 0, 500, .inl M_tape))] H := hP
      have hD : va_D A [((rM 7), .inl (cy 0, 8, .inl M_kind_44)), ((rM 9), .inl (cy 0, 29, .inl M_read_101)), ((rM 3), .inl (cy 0, 14, .inl M_told)), (h0, .inr (11, oX11 rM sM_74)), ((rM 13), .inl (cy 0, 500, .inl M_tape))] := hD
      refine lv_aload_n hx hb dX11_readWalker_102 rfl (lv_at hl 1 rfl) ?_
      refine gfX11_55 hx hb hts hown hK hP 3 rfl dX11_readWalker_103 ?_
      refine lv_bipush (v := (6 : Int32)) hx hb dX11_readWalker_106 (by decide) ?_
      refine lv_iload_n hx hb dX11_readWalker_108 rfl (lv_at hl 0 rfl) ?_
      refine lv_imul hx hb dX11_readWalker_109 ?_
      refine lv_iconst (v := (4 : Int32)) hx hb dX11_readWalker_110 (by decide) ?_
      refine lv_iadd hx hb dX11_readWalker_111 ?_
      refine lv_iconst (v := (-1 : Int32)) hx hb dX11_readWalker_112 (by decide) ?_
      obtain ⟨hin, h⟩ := h
      refine sti (k := (((6 : Int32) * l2_35) + (4 : Int32)).toNatClampNeg) (y := (-1 : Int32)) hx hb hK hP hD hS 1 rfl hin rfl rfl dX11_readWalker_113 (fun M_read_113 eM_read_113 H locs hP hD hS => ?_)
      have h := h M_read_113 eM_read_113
      have hP : va_P D clsX [((rM 7), .inl (cy 0, 8, .inl M_kind_44)), ((rM 9), .inl (cy 0, 29, .inl M_read_113)), ((rM 3), .inl (cy 0, 14, .inl M_told)), (h0, .inr (11, oX11 rM sM_74)), ((rM 13), .inl (cy 0, 500, .inl M_tape))] H := hP
      have hD : va_D A [((rM 7), .inl (cy 0, 8, .inl M_kind_44)), ((rM 9), .inl (cy 0, 29, .inl M_read_113)), ((rM 3), .inl (cy 0, 14, .inl M_told)), (h0, .inr (11, oX11 rM sM_74)), ((rM 13), .inl (cy 0, 500, .inl M_tape))] := hD
      refine lv_aload_n hx hb dX11_readWalker_114 rfl (lv_at hl 1 rfl) ?_
      refine gfX11_55 hx hb hts hown hK hP 3 rfl dX11_readWalker_115 ?_
      refine lv_bipush (v := (6 : Int32)) hx hb dX11_readWalker_118 (by decide) ?_
      refine lv_iload_n hx hb dX11_readWalker_120 rfl (lv_at hl 0 rfl) ?_
      refine lv_imul hx hb dX11_readWalker_121 ?_
      refine lv_iconst (v := (5 : Int32)) hx hb dX11_readWalker_122 (by decide) ?_
      refine lv_iadd hx hb dX11_readWalker_123 ?_
      refine lv_iconst (v := (0 : Int32)) hx hb dX11_readWalker_124 (by decide) ?_
      obtain ⟨hin, h⟩ := h
      refine sti (k := (((6 : Int32) * l2_35) + (5 : Int32)).toNatClampNeg) (y := (0 : Int32)) hx hb hK hP hD hS 1 rfl hin rfl rfl dX11_readWalker_125 (fun M_read_125 eM_read_125 H locs hP hD hS => ?_)
      have h := h M_read_125 eM_read_125
      have hP : va_P D clsX [((rM 7), .inl (cy 0, 8, .inl M_kind_44)), ((rM 9), .inl (cy 0, 29, .inl M_read_125)), ((rM 3), .inl (cy 0, 14, .inl M_told)), (h0, .inr (11, oX11 rM sM_74)), ((rM 13), .inl (cy 0, 500, .inl M_tape))] H := hP
      have hD : va_D A [((rM 7), .inl (cy 0, 8, .inl M_kind_44)), ((rM 9), .inl (cy 0, 29, .inl M_read_125)), ((rM 3), .inl (cy 0, 14, .inl M_told)), (h0, .inr (11, oX11 rM sM_74)), ((rM 13), .inl (cy 0, 500, .inl M_tape))] := hD
      refine lv_aload_n hx hb dX11_readWalker_126 rfl (lv_at hl 1 rfl) ?_
      refine gfX11_36 hx hb hts hown hK hP 3 rfl dX11_readWalker_127 ?_
      refine lv_bipush (v := (10 : Int32)) hx hb dX11_readWalker_130 (by decide) ?_
      refine lv_dup2_11 hx hb dX11_readWalker_132 rfl rfl ?_
      refine ldi (k := 10) hx hb hK hP 2 rfl (inL (by decide)) (by decide) dX11_readWalker_133 ?_
      refine lv_iconst (v := (1 : Int32)) hx hb dX11_readWalker_134 (by decide) ?_
      refine lv_iadd hx hb dX11_readWalker_135 ?_
      refine sti (k := 10) (y := ((M_told 10) + (1 : Int32))) hx hb hK hP hD hS 2 rfl (inL (by decide)) (by decide) rfl dX11_readWalker_136 (fun M_told_136 eM_told_136 H locs hP hD hS => ?_)
      have h := h M_told_136 eM_told_136
      have hP : va_P D clsX [((rM 7), .inl (cy 0, 8, .inl M_kind_44)), ((rM 9), .inl (cy 0, 29, .inl M_read_125)), ((rM 3), .inl (cy 0, 14, .inl M_told_136)), (h0, .inr (11, oX11 rM sM_74)), ((rM 13), .inl (cy 0, 500, .inl M_tape))] H := hP
      have hD : va_D A [((rM 7), .inl (cy 0, 8, .inl M_kind_44)), ((rM 9), .inl (cy 0, 29, .inl M_read_125)), ((rM 3), .inl (cy 0, 14, .inl M_told_136)), (h0, .inr (11, oX11 rM sM_74)), ((rM 13), .inl (cy 0, 500, .inl M_tape))] := hD
      exact hret (sM_74, M_told_136, M_kind_44, M_read_125) _ _ _ _ dX11_readWalker_137 h (hP.sub [3, 2, 0, 1, 4] rfl) (hD.sub [3, 2, 0, 1, 4] (by decide) rfl) hS
    · have h := h.2 c20
      exact hret (sM, M_told, M_kind, M_read) _ _ _ _ dX11_readWalker_23 h hP hD hS
  refine lv_aload_n hx hb dX11_readWalker_0 rfl (lv_at hl 0 rfl) ?_
  refine gfX11_36 hx hb hts hown hK hP 0 rfl dX11_readWalker_1 ?_
  refine lv_bipush (v := (10 : Int32)) hx hb dX11_readWalker_4 (by decide) ?_
  refine ldi (k := 10) hx hb hK hP 1 rfl (inL (by decide)) (by decide) dX11_readWalker_6 ?_
  refine lv_iconst (v := (4 : Int32)) hx hb dX11_readWalker_7 (by decide) ?_
  refine lv_icmp_ne (tgt := 16) hx hb dX11_readWalker_8 (by decide) (fun c8 => ?_) (fun c8 => ?_)
  · have h := h.1 c8
    exact J16 sM x1 _ _ _ h hP hD hS hl
  · have h := h.2 c8
    refine lv_aload_n hx hb dX11_readWalker_11 rfl (lv_at hl 0 rfl) ?_
    refine lv_iconst (v := (2 : Int32)) hx hb dX11_readWalker_12 (by decide) ?_
    refine clVv (As := [.int (2 : Int32)]) (rest := []) (Wr := [((rM 3), .inl (cy 0, 14, .inl M_told)), ((rM 7), .inl (cy 0, 8, .inl M_kind)), ((rM 9), .inl (cy 0, 29, .inl M_read)), ((rM 13), .inl (cy 0, 500, .inl M_tape))]) (cq := (RX11, TX11, 56)) ⟨hx, hb, hml, hown, hts⟩ ⟨callB_of 1 hts (goodC mw1394) rfl rfl rfl (hts _ (tb mw15)) (hts _ (tb mw1391)) kdX11_wrong ⟨Nat.le_trans (by decide) hRf, Nat.le_trans (by decide) hRl⟩, hts _ (tb mw1393), hts _ (tb ms45)⟩ (ctX11_wrong l D cy ev h0 rM sM (2 : Int32) _ _ h) hE hK hP hD hS hA [0] [1, 2, 3, 4] rfl rfl (by decide) (by decide) (by decide) 0 rfl rfl rfl hl.1 rfl (Nat.le_of_ble_eq_true rfl) ⟨Nat.zero_le _, Nat.zero_le _⟩ dX11_readWalker_13 (fun sM_13 H locs h hP hD hS => ?_)
    have hP : va_P D clsX [((rM 3), .inl (cy 0, 14, .inl M_told)), ((rM 7), .inl (cy 0, 8, .inl M_kind)), ((rM 9), .inl (cy 0, 29, .inl M_read)), ((rM 13), .inl (cy 0, 500, .inl M_tape)), (h0, .inr (11, oX11 rM sM_13))] H := hP
    have hD : va_D A [((rM 3), .inl (cy 0, 14, .inl M_told)), ((rM 7), .inl (cy 0, 8, .inl M_kind)), ((rM 9), .inl (cy 0, 29, .inl M_read)), ((rM 13), .inl (cy 0, 500, .inl M_tape)), (h0, .inr (11, oX11 rM sM_13))] := hD
    exact J16 sM_13 x1 _ _ _ h (hP.sub [4, 0, 1, 2, 3] rfl) (hD.sub [4, 0, 1, 2, 3] (by decide) rfl) hS hl
def wpX11_readMirage_J64 (sM : AR) (M_told : AR) (M_isMirage : AR) (M_tape : AR) (l2 : Int32) (post : AR → AR → Prop) : Prop := (((sM 21) = 0 → vp_in ((100 : Int32) + l2) 200 ∧ ∀ M_isMirage_81 : AR, M_isMirage_81 = upd M_isMirage ((100 : Int32) + l2).toNatClampNeg (1 : Int32) → wpX11_stepOn sM M_tape (fun sM_83 => post sM_83 M_isMirage_81)) ∧ (¬ (sM 21) = 0 → post sM M_isMirage))
def wpX11_readMirage (sM : AR) (M_told : AR) (M_isMirage : AR) (M_tape : AR) (post : AR → AR → Prop) : Prop := wpX11_readNumber sM M_tape (0 : Int32) ((M_told 7) - (1 : Int32)) (fun r11 sM_11 => wpX11_numberNow sM_11 (0 : Int32) ((M_told 8) - (1 : Int32)) (fun r33 sM_33 => ∀ l2_39 : Int32, l2_39 = (((M_told 7) * r33) + r11) → ((¬ (sM_33 21) = 0 → wpX11_readMirage_J64 sM_33 M_told M_isMirage M_tape l2_39 post) ∧ ((sM_33 21) = 0 → vp_in ((100 : Int32) + l2_39) 200 ∧ (((M_isMirage ((100 : Int32) + l2_39).toNatClampNeg) = 0 → wpX11_readMirage_J64 sM_33 M_told M_isMirage M_tape l2_39 post) ∧ (¬ (M_isMirage ((100 : Int32) + l2_39).toNatClampNeg) = 0 → wpX11_wrong sM_33 (4 : Int32) (fun sM_61 => wpX11_readMirage_J64 sM_61 M_told M_isMirage M_tape l2_39 post)))))))
set_option maxHeartbeats 4000000 in
set_option maxRecDepth 100000 in
theorem ctX11_readMirage (l : Launch) (D : va_G) (cy : Nat → ClassId) (ev : Nat → Nat) (h0 : Nat) (rM : Nat → Nat) (sM : AR) (M_told : AR) (M_isMirage : AR) (M_tape : AR) (sz : Nat) (post : AR → AR → Prop) (h : wpX11_readMirage sM M_told M_isMirage M_tape post) : Met l yX11_readMirage (Cond.code yX11_readMirage cX11_readMirage 3 none :: TB) ({ frames := 3, cells := 0, slots := 0, locals := 104 }) (va_Pc [.ref h0] (PreX D cy ev [(h0, .inr (11, oX11 rM sM)), ((rM 3), .inl (cy 0, 14, .inl M_told)), ((rM 12), .inl (cy 2, 200, .inl M_isMirage)), ((rM 13), .inl (cy 0, 500, .inl M_tape))] sz)) (va_Qv (fun (u : AR × AR) => post (u.1) (u.2)) (fun u => BkX D cy [(h0, .inr (11, oX11 rM sM)), ((rM 3), .inl (cy 0, 14, .inl M_told)), ((rM 12), .inl (cy 2, 200, .inl M_isMirage)), ((rM 13), .inl (cy 0, 500, .inl M_tape))] sz [(h0, .inr (11, oX11 rM (u.1))), ((rM 3), .inl (cy 0, 14, .inl M_told)), ((rM 12), .inl (cy 2, 200, .inl (u.2))), ((rM 13), .inl (cy 0, 500, .inl M_tape))]) (va_A [(h0, .inr (11, oX11 rM sM)), ((rM 3), .inl (cy 0, 14, .inl M_told)), ((rM 12), .inl (cy 2, 200, .inl M_isMirage)), ((rM 13), .inl (cy 0, 500, .inl M_tape))] sz)) 0 0 (va_A [(h0, .inr (11, oX11 rM sM)), ((rM 3), .inl (cy 0, 14, .inl M_told)), ((rM 12), .inl (cy 2, 200, .inl M_isMirage)), ((rM 13), .inl (cy 0, 500, .inl M_tape))] sz) := by
  refine ofWv (by decide) (Nat.le_of_ble_eq_true rfl) ?_
  intro p e s m args below meth c ls A R QQ hx hb hml hown hts hR hlk hE hK hP hD hS hA hl hret
  have hown : s.vm.findClass RX11 = some m.cls := hown
  have hRf : 3 ≤ R.frames := by rw [hR]; exact Nat.le_refl _
  have hRl : 104 ≤ R.locals := by rw [hR]; exact Nat.le_refl _
  clear hR
  have hl : lv_has ls 3 [(0, .ref h0)] := hl
  have J64 : ∀ (sM : AR) (l2 : Int32) (H : Heap) (locs : List Loc) (ls : Array Slot), wpX11_readMirage_J64 sM M_told M_isMirage M_tape l2 post → va_P D clsX [(h0, .inr (11, oX11 rM sM)), ((rM 3), .inl (cy 0, 14, .inl M_told)), ((rM 12), .inl (cy 2, 200, .inl M_isMirage)), ((rM 13), .inl (cy 0, 500, .inl M_tape))] H → va_D A [(h0, .inr (11, oX11 rM sM)), ((rM 3), .inl (cy 0, 14, .inl M_told)), ((rM 12), .inl (cy 2, 200, .inl M_isMirage)), ((rM 13), .inl (cy 0, 500, .inl M_tape))] → va_S A s.heap H locs → lv_has ls 3 [(0, .ref h0), (2, .int l2)] → W p l e R s m args below meth c H locs 0 0 QQ (F0 m 64 ls []) := by
    intro sM l2 H locs ls h hP hD hS hl
    refine lv_aload_n hx hb dX11_readMirage_64 rfl (lv_at hl 0 rfl) ?_
    refine gfX11_181 (v := (sM 21)) hx hb hts hown hK hP 0 rfl rfl dX11_readMirage_65 ?_
    refine lv_if_eq (tgt := 72) hx hb dX11_readMirage_68 (by decide) (fun c68 => ?_) (fun c68 => ?_)
    · have h := h.1 c68
      refine lv_aload_n hx hb dX11_readMirage_72 rfl (lv_at hl 0 rfl) ?_
      refine gfX11_65 hx hb hts hown hK hP 0 rfl dX11_readMirage_73 ?_
      refine lv_bipush (v := (100 : Int32)) hx hb dX11_readMirage_76 (by decide) ?_
      refine lv_iload_n hx hb dX11_readMirage_78 rfl (lv_at hl 1 rfl) ?_
      refine lv_iadd hx hb dX11_readMirage_79 ?_
      refine lv_iconst (v := (1 : Int32)) hx hb dX11_readMirage_80 (by decide) ?_
      obtain ⟨hin, h⟩ := h
      refine stz (k := ((100 : Int32) + l2).toNatClampNeg) (y := (1 : Int32)) hx hb hK hP hD hS 2 rfl hin rfl (by decide) dX11_readMirage_81 (fun M_isMirage_81 eM_isMirage_81 H locs hP hD hS => ?_)
      have h := h M_isMirage_81 eM_isMirage_81
      have hP : va_P D clsX [(h0, .inr (11, oX11 rM sM)), ((rM 3), .inl (cy 0, 14, .inl M_told)), ((rM 12), .inl (cy 2, 200, .inl M_isMirage_81)), ((rM 13), .inl (cy 0, 500, .inl M_tape))] H := hP
      have hD : va_D A [(h0, .inr (11, oX11 rM sM)), ((rM 3), .inl (cy 0, 14, .inl M_told)), ((rM 12), .inl (cy 2, 200, .inl M_isMirage_81)), ((rM 13), .inl (cy 0, 500, .inl M_tape))] := hD
      refine lv_aload_n hx hb dX11_readMirage_82 rfl (lv_at hl 0 rfl) ?_
      refine clVv (As := []) (rest := []) (Wr := [((rM 3), .inl (cy 0, 14, .inl M_told)), ((rM 12), .inl (cy 2, 200, .inl M_isMirage_81))]) (cq := (RX11, TX11, 56)) ⟨hx, hb, hml, hown, hts⟩ ⟨callB_of 0 hts (goodC mw1358) rfl rfl rfl (hts _ (tb mw15)) (hts _ (tb mw1355)) kdX11_stepOn ⟨Nat.le_trans (by decide) hRf, Nat.le_trans (by decide) hRl⟩, hts _ (tb mw1357), hts _ (tb ms39)⟩ (ctX11_stepOn l D cy ev h0 rM sM M_tape  _ _ h) hE hK hP hD hS hA [0, 3] [1, 2] rfl rfl (by decide) (by decide) (by decide) 0 rfl rfl rfl hl.1 rfl (Nat.le_of_ble_eq_true rfl) ⟨Nat.zero_le _, Nat.zero_le _⟩ dX11_readMirage_83 (fun sM_83 H locs h hP hD hS => ?_)
      have hP : va_P D clsX [((rM 3), .inl (cy 0, 14, .inl M_told)), ((rM 12), .inl (cy 2, 200, .inl M_isMirage_81)), (h0, .inr (11, oX11 rM sM_83)), ((rM 13), .inl (cy 0, 500, .inl M_tape))] H := hP
      have hD : va_D A [((rM 3), .inl (cy 0, 14, .inl M_told)), ((rM 12), .inl (cy 2, 200, .inl M_isMirage_81)), (h0, .inr (11, oX11 rM sM_83)), ((rM 13), .inl (cy 0, 500, .inl M_tape))] := hD
      exact hret (sM_83, M_isMirage_81) _ _ _ _ dX11_readMirage_86 h (hP.sub [2, 0, 1, 3] rfl) (hD.sub [2, 0, 1, 3] (by decide) rfl) hS
    · have h := h.2 c68
      exact hret (sM, M_isMirage) _ _ _ _ dX11_readMirage_71 h hP hD hS
  refine lv_aload_n hx hb dX11_readMirage_0 rfl (lv_at hl 0 rfl) ?_
  refine lv_iconst (v := (0 : Int32)) hx hb dX11_readMirage_1 (by decide) ?_
  refine lv_aload_n hx hb dX11_readMirage_2 rfl (lv_at hl 0 rfl) ?_
  refine gfX11_36 hx hb hts hown hK hP 0 rfl dX11_readMirage_3 ?_
  refine lv_bipush (v := (7 : Int32)) hx hb dX11_readMirage_6 (by decide) ?_
  refine ldi (k := 7) hx hb hK hP 1 rfl (inL (by decide)) (by decide) dX11_readMirage_8 ?_
  refine lv_iconst (v := (1 : Int32)) hx hb dX11_readMirage_9 (by decide) ?_
  refine lv_isub hx hb dX11_readMirage_10 ?_
  refine clVi (As := [.int (0 : Int32), .int ((M_told 7) - (1 : Int32))]) (rest := []) (Wr := [((rM 3), .inl (cy 0, 14, .inl M_told)), ((rM 12), .inl (cy 2, 200, .inl M_isMirage))]) (cq := (RX11, TX11, 56)) ⟨hx, hb, hml, hown, hts⟩ ⟨callB_of 2 hts (goodC mw1406) rfl rfl rfl (hts _ (tb mw15)) (hts _ (tb mw1403)) kdX11_readNumber ⟨Nat.le_trans (by decide) hRf, Nat.le_trans (by decide) hRl⟩, hts _ (tb mw1405), hts _ (tb ms48)⟩ (ctX11_readNumber l D cy ev h0 rM sM M_tape (0 : Int32) ((M_told 7) - (1 : Int32)) _ _ h) hE hK hP hD hS hA [0, 3] [1, 2] rfl rfl (by decide) (by decide) (by decide) 0 rfl rfl rfl hl.1 rfl (Nat.le_of_ble_eq_true rfl) ⟨Nat.zero_le _, Nat.zero_le _⟩ dX11_readMirage_11 (fun r11 sM_11 H locs h hP hD hS => ?_)
  have hP : va_P D clsX [((rM 3), .inl (cy 0, 14, .inl M_told)), ((rM 12), .inl (cy 2, 200, .inl M_isMirage)), (h0, .inr (11, oX11 rM sM_11)), ((rM 13), .inl (cy 0, 500, .inl M_tape))] H := hP
  have hD : va_D A [((rM 3), .inl (cy 0, 14, .inl M_told)), ((rM 12), .inl (cy 2, 200, .inl M_isMirage)), (h0, .inr (11, oX11 rM sM_11)), ((rM 13), .inl (cy 0, 500, .inl M_tape))] := hD
  refine lv_istore_n (lv' := [(1, .int r11), (0, .ref h0)]) hx hb dX11_readMirage_14 rfl hl (by decide) rfl (fun ls hl => ?_)
  refine lv_aload_n hx hb dX11_readMirage_15 rfl (lv_at hl 1 rfl) ?_
  refine gfX11_36 hx hb hts hown hK hP 2 rfl dX11_readMirage_16 ?_
  refine lv_bipush (v := (7 : Int32)) hx hb dX11_readMirage_19 (by decide) ?_
  refine ldi (k := 7) hx hb hK hP 0 rfl (inL (by decide)) (by decide) dX11_readMirage_21 ?_
  refine lv_aload_n hx hb dX11_readMirage_22 rfl (lv_at hl 1 rfl) ?_
  refine lv_iconst (v := (0 : Int32)) hx hb dX11_readMirage_23 (by decide) ?_
  refine lv_aload_n hx hb dX11_readMirage_24 rfl (lv_at hl 1 rfl) ?_
  refine gfX11_36 hx hb hts hown hK hP 2 rfl dX11_readMirage_25 ?_
  refine lv_bipush (v := (8 : Int32)) hx hb dX11_readMirage_28 (by decide) ?_
  refine ldi (k := 8) hx hb hK hP 0 rfl (inL (by decide)) (by decide) dX11_readMirage_30 ?_
  refine lv_iconst (v := (1 : Int32)) hx hb dX11_readMirage_31 (by decide) ?_
  refine lv_isub hx hb dX11_readMirage_32 ?_
  refine clVi (As := [.int (0 : Int32), .int ((M_told 8) - (1 : Int32))]) (rest := [.int (M_told 7)]) (Wr := [((rM 3), .inl (cy 0, 14, .inl M_told)), ((rM 12), .inl (cy 2, 200, .inl M_isMirage)), ((rM 13), .inl (cy 0, 500, .inl M_tape))]) (cq := (RX11, TX11, 56)) ⟨hx, hb, hml, hown, hts⟩ ⟨callB_of 2 hts (goodC mw1410) rfl rfl rfl (hts _ (tb mw15)) (hts _ (tb mw1407)) kdX11_numberNow ⟨Nat.le_trans (by decide) hRf, Nat.le_trans (by decide) hRl⟩, hts _ (tb mw1409), hts _ (tb ms49)⟩ (ctX11_numberNow l D cy ev h0 rM sM_11 (0 : Int32) ((M_told 8) - (1 : Int32)) _ _ h) hE hK hP hD hS hA [2] [0, 1, 3] rfl rfl (by decide) (by decide) (by decide) 0 rfl rfl rfl hl.1 rfl (Nat.le_of_ble_eq_true rfl) ⟨Nat.zero_le _, Nat.zero_le _⟩ dX11_readMirage_33 (fun r33 sM_33 H locs h hP hD hS => ?_)
  have hP : va_P D clsX [((rM 3), .inl (cy 0, 14, .inl M_told)), ((rM 12), .inl (cy 2, 200, .inl M_isMirage)), ((rM 13), .inl (cy 0, 500, .inl M_tape)), (h0, .inr (11, oX11 rM sM_33))] H := hP
  have hD : va_D A [((rM 3), .inl (cy 0, 14, .inl M_told)), ((rM 12), .inl (cy 2, 200, .inl M_isMirage)), ((rM 13), .inl (cy 0, 500, .inl M_tape)), (h0, .inr (11, oX11 rM sM_33))] := hD
  refine lv_imul hx hb dX11_readMirage_36 ?_
  refine lv_iload_n hx hb dX11_readMirage_37 rfl (lv_at hl 0 rfl) ?_
  refine lv_iadd hx hb dX11_readMirage_38 ?_
  refine lv_topi (fun l2_39 el2_39 => ?_)
  have h := h l2_39 el2_39
  refine lv_istore_n (lv' := [(2, .int l2_39), (1, .int r11), (0, .ref h0)]) hx hb dX11_readMirage_39 rfl hl (by decide) rfl (fun ls hl => ?_)
  refine lv_aload_n hx hb dX11_readMirage_40 rfl (lv_at hl 2 rfl) ?_
  refine gfX11_181 (v := (sM_33 21)) hx hb hts hown hK hP 3 rfl rfl dX11_readMirage_41 ?_
  refine lv_if_ne (tgt := 64) hx hb dX11_readMirage_44 (by decide) (fun c44 => ?_) (fun c44 => ?_)
  · have h := h.1 c44
    exact J64 sM_33 l2_39 _ _ _ h (hP.sub [3, 0, 1, 2] rfl) (hD.sub [3, 0, 1, 2] (by decide) rfl) hS (lv_sub hl [2, 0] rfl)
  · have h := h.2 c44
    refine lv_aload_n hx hb dX11_readMirage_47 rfl (lv_at hl 2 rfl) ?_
    refine gfX11_65 hx hb hts hown hK hP 3 rfl dX11_readMirage_48 ?_
    refine lv_bipush (v := (100 : Int32)) hx hb dX11_readMirage_51 (by decide) ?_
    refine lv_iload_n hx hb dX11_readMirage_53 rfl (lv_at hl 0 rfl) ?_
    refine lv_iadd hx hb dX11_readMirage_54 ?_
    obtain ⟨hin, h⟩ := h
    refine ldz (k := ((100 : Int32) + l2_39).toNatClampNeg) hx hb hK hP 1 rfl hin rfl dX11_readMirage_55 ?_
    refine lv_if_eq (tgt := 64) hx hb dX11_readMirage_56 (by decide) (fun c56 => ?_) (fun c56 => ?_)
    · have h := h.1 c56
      exact J64 sM_33 l2_39 _ _ _ h (hP.sub [3, 0, 1, 2] rfl) (hD.sub [3, 0, 1, 2] (by decide) rfl) hS (lv_sub hl [2, 0] rfl)
    · have h := h.2 c56
      refine lv_aload_n hx hb dX11_readMirage_59 rfl (lv_at hl 2 rfl) ?_
      refine lv_iconst (v := (4 : Int32)) hx hb dX11_readMirage_60 (by decide) ?_
      refine clVv (As := [.int (4 : Int32)]) (rest := []) (Wr := [((rM 3), .inl (cy 0, 14, .inl M_told)), ((rM 12), .inl (cy 2, 200, .inl M_isMirage)), ((rM 13), .inl (cy 0, 500, .inl M_tape))]) (cq := (RX11, TX11, 56)) ⟨hx, hb, hml, hown, hts⟩ ⟨callB_of 1 hts (goodC mw1394) rfl rfl rfl (hts _ (tb mw15)) (hts _ (tb mw1391)) kdX11_wrong ⟨Nat.le_trans (by decide) hRf, Nat.le_trans (by decide) hRl⟩, hts _ (tb mw1393), hts _ (tb ms45)⟩ (ctX11_wrong l D cy ev h0 rM sM_33 (4 : Int32) _ _ h) hE hK hP hD hS hA [3] [0, 1, 2] rfl rfl (by decide) (by decide) (by decide) 0 rfl rfl rfl hl.1 rfl (Nat.le_of_ble_eq_true rfl) ⟨Nat.zero_le _, Nat.zero_le _⟩ dX11_readMirage_61 (fun sM_61 H locs h hP hD hS => ?_)
      have hP : va_P D clsX [((rM 3), .inl (cy 0, 14, .inl M_told)), ((rM 12), .inl (cy 2, 200, .inl M_isMirage)), ((rM 13), .inl (cy 0, 500, .inl M_tape)), (h0, .inr (11, oX11 rM sM_61))] H := hP
      have hD : va_D A [((rM 3), .inl (cy 0, 14, .inl M_told)), ((rM 12), .inl (cy 2, 200, .inl M_isMirage)), ((rM 13), .inl (cy 0, 500, .inl M_tape)), (h0, .inr (11, oX11 rM sM_61))] := hD
      exact J64 sM_61 l2_39 _ _ _ h (hP.sub [3, 0, 1, 2] rfl) (hD.sub [3, 0, 1, 2] (by decide) rfl) hS (lv_sub hl [2, 0] rfl)
def wpX11_beginText (sM : AR) (M_tape : AR) (x1 : Int32) (post : Int32 → AR → Prop) : Prop := ((x1 < 0 → post (0 : Int32) sM) ∧ (¬ x1 < 0 → ((x1 ≤ (sM 14) → wpX11_stepOn (upd (upd (upd (upd (upd sM 14 (0 : Int32)) 16 x1) 15 (0 : Int32)) 21 (0 : Int32)) 23 (-1 : Int32)) M_tape (fun sM_40 => post (1 : Int32) sM_40)) ∧ (¬ x1 ≤ (sM 14) → post (0 : Int32) sM))))
set_option maxHeartbeats 4000000 in
set_option maxRecDepth 100000 in
theorem ctX11_beginText (l : Launch) (D : va_G) (cy : Nat → ClassId) (ev : Nat → Nat) (h0 : Nat) (rM : Nat → Nat) (sM : AR) (M_tape : AR) (x1 : Int32) (sz : Nat) (post : Int32 → AR → Prop) (h : wpX11_beginText sM M_tape x1 post) : Met l yX11_beginText (Cond.code yX11_beginText cX11_beginText 2 (some .boolean) :: TB) ({ frames := 2, cells := 0, slots := 0, locals := 81 }) (va_Pc [.ref h0, .int x1] (PreX D cy ev [(h0, .inr (11, oX11 rM sM)), ((rM 13), .inl (cy 0, 500, .inl M_tape))] sz)) (va_Qi (fun (r : Int32) (u : AR) => post r u) (fun u => BkX D cy [(h0, .inr (11, oX11 rM sM)), ((rM 13), .inl (cy 0, 500, .inl M_tape))] sz [(h0, .inr (11, oX11 rM u)), ((rM 13), .inl (cy 0, 500, .inl M_tape))]) (va_A [(h0, .inr (11, oX11 rM sM)), ((rM 13), .inl (cy 0, 500, .inl M_tape))] sz)) 0 0 (va_A [(h0, .inr (11, oX11 rM sM)), ((rM 13), .inl (cy 0, 500, .inl M_tape))] sz) := by
  refine ofWi (by decide) (Nat.le_of_ble_eq_true rfl) ?_
  intro p e s m args below meth c ls A R QQ hx hb hml hown hts hR hlk hE hK hP hD hS hA hl hret
  have hown : s.vm.findClass RX11 = some m.cls := hown
  have hRf : 2 ≤ R.frames := by rw [hR]; exact Nat.le_refl _
  have hRl : 81 ≤ R.locals := by rw [hR]; exact Nat.le_refl _
  clear hR
  have hl : lv_has ls 2 [(0, .ref h0), (1, .int x1)] := hl
  refine lv_iload_n hx hb dX11_beginText_0 rfl (lv_at hl 1 rfl) ?_
  refine lv_if_lt (tgt := 12) hx hb dX11_beginText_1 (by decide) (fun c1 => ?_) (fun c1 => ?_)
  · have h := h.1 c1
    refine lv_iconst (v := (0 : Int32)) hx hb dX11_beginText_12 (by decide) ?_
    exact hret (0 : Int32) (sM) _ _ _ _ rfl dX11_beginText_13 h hP hD hS
  · have h := h.2 c1
    refine lv_iload_n hx hb dX11_beginText_4 rfl (lv_at hl 1 rfl) ?_
    refine lv_aload_n hx hb dX11_beginText_5 rfl (lv_at hl 0 rfl) ?_
    refine gfX11_143 (v := (sM 14)) hx hb hts hown hK hP 0 rfl rfl dX11_beginText_6 ?_
    refine lv_icmp_le (tgt := 14) hx hb dX11_beginText_9 (by decide) (fun c9 => ?_) (fun c9 => ?_)
    · have h := h.1 c9
      refine lv_aload_n hx hb dX11_beginText_14 rfl (lv_at hl 0 rfl) ?_
      refine lv_iconst (v := (0 : Int32)) hx hb dX11_beginText_15 (by decide) ?_
      refine pfX11_143 hx hb hts hown hK hP hD hS 0 rfl dX11_beginText_16 (fun H locs hP hD hS => ?_)
      have hP : va_P D clsX [(h0, .inr (11, oX11 rM (upd sM 14 (0 : Int32)))), ((rM 13), .inl (cy 0, 500, .inl M_tape))] H := hP
      have hD : va_D A [(h0, .inr (11, oX11 rM (upd sM 14 (0 : Int32)))), ((rM 13), .inl (cy 0, 500, .inl M_tape))] := hD
      refine lv_aload_n hx hb dX11_beginText_19 rfl (lv_at hl 0 rfl) ?_
      refine lv_iload_n hx hb dX11_beginText_20 rfl (lv_at hl 1 rfl) ?_
      refine pfX11_146 hx hb hts hown hK hP hD hS 0 rfl dX11_beginText_21 (fun H locs hP hD hS => ?_)
      have hP : va_P D clsX [(h0, .inr (11, oX11 rM (upd (upd sM 14 (0 : Int32)) 16 x1))), ((rM 13), .inl (cy 0, 500, .inl M_tape))] H := hP
      have hD : va_D A [(h0, .inr (11, oX11 rM (upd (upd sM 14 (0 : Int32)) 16 x1))), ((rM 13), .inl (cy 0, 500, .inl M_tape))] := hD
      refine lv_aload_n hx hb dX11_beginText_24 rfl (lv_at hl 0 rfl) ?_
      refine lv_iconst (v := (0 : Int32)) hx hb dX11_beginText_25 (by decide) ?_
      refine pfX11_149 hx hb hts hown hK hP hD hS 0 rfl dX11_beginText_26 (fun H locs hP hD hS => ?_)
      have hP : va_P D clsX [(h0, .inr (11, oX11 rM (upd (upd (upd sM 14 (0 : Int32)) 16 x1) 15 (0 : Int32)))), ((rM 13), .inl (cy 0, 500, .inl M_tape))] H := hP
      have hD : va_D A [(h0, .inr (11, oX11 rM (upd (upd (upd sM 14 (0 : Int32)) 16 x1) 15 (0 : Int32)))), ((rM 13), .inl (cy 0, 500, .inl M_tape))] := hD
      refine lv_aload_n hx hb dX11_beginText_29 rfl (lv_at hl 0 rfl) ?_
      refine lv_iconst (v := (0 : Int32)) hx hb dX11_beginText_30 (by decide) ?_
      refine pfX11_181 hx hb hts hown hK hP hD hS 0 rfl dX11_beginText_31 (fun H locs hP hD hS => ?_)
      have hP : va_P D clsX [(h0, .inr (11, oX11 rM (upd (upd (upd (upd sM 14 (0 : Int32)) 16 x1) 15 (0 : Int32)) 21 (0 : Int32)))), ((rM 13), .inl (cy 0, 500, .inl M_tape))] H := hP
      have hD : va_D A [(h0, .inr (11, oX11 rM (upd (upd (upd (upd sM 14 (0 : Int32)) 16 x1) 15 (0 : Int32)) 21 (0 : Int32)))), ((rM 13), .inl (cy 0, 500, .inl M_tape))] := hD
      refine lv_aload_n hx hb dX11_beginText_34 rfl (lv_at hl 0 rfl) ?_
      refine lv_iconst (v := (-1 : Int32)) hx hb dX11_beginText_35 (by decide) ?_
      refine pfX11_71 hx hb hts hown hK hP hD hS 0 rfl dX11_beginText_36 (fun H locs hP hD hS => ?_)
      have hP : va_P D clsX [(h0, .inr (11, oX11 rM (upd (upd (upd (upd (upd sM 14 (0 : Int32)) 16 x1) 15 (0 : Int32)) 21 (0 : Int32)) 23 (-1 : Int32)))), ((rM 13), .inl (cy 0, 500, .inl M_tape))] H := hP
      have hD : va_D A [(h0, .inr (11, oX11 rM (upd (upd (upd (upd (upd sM 14 (0 : Int32)) 16 x1) 15 (0 : Int32)) 21 (0 : Int32)) 23 (-1 : Int32)))), ((rM 13), .inl (cy 0, 500, .inl M_tape))] := hD
      refine lv_aload_n hx hb dX11_beginText_39 rfl (lv_at hl 0 rfl) ?_
      refine clVv (As := []) (rest := []) (Wr := []) (cq := (RX11, TX11, 56)) ⟨hx, hb, hml, hown, hts⟩ ⟨callB_of 0 hts (goodC mw1358) rfl rfl rfl (hts _ (tb mw15)) (hts _ (tb mw1355)) kdX11_stepOn ⟨Nat.le_trans (by decide) hRf, Nat.le_trans (by decide) hRl⟩, hts _ (tb mw1357), hts _ (tb ms39)⟩ (ctX11_stepOn l D cy ev h0 rM (upd (upd (upd (upd (upd sM 14 (0 : Int32)) 16 x1) 15 (0 : Int32)) 21 (0 : Int32)) 23 (-1 : Int32)) M_tape  _ _ h) hE hK hP hD hS hA [0, 1] [] rfl rfl (by decide) (by decide) (by decide) 0 rfl rfl rfl hl.1 rfl (Nat.le_of_ble_eq_true rfl) ⟨Nat.zero_le _, Nat.zero_le _⟩ dX11_beginText_40 (fun sM_40 H locs h hP hD hS => ?_)
      have hP : va_P D clsX [(h0, .inr (11, oX11 rM sM_40)), ((rM 13), .inl (cy 0, 500, .inl M_tape))] H := hP
      have hD : va_D A [(h0, .inr (11, oX11 rM sM_40)), ((rM 13), .inl (cy 0, 500, .inl M_tape))] := hD
      refine lv_iconst (v := (1 : Int32)) hx hb dX11_beginText_43 (by decide) ?_
      exact hret (1 : Int32) (sM_40) _ _ _ _ rfl dX11_beginText_44 h hP hD hS
    · have h := h.2 c9
      refine lv_iconst (v := (0 : Int32)) hx hb dX11_beginText_12 (by decide) ?_
      exact hret (0 : Int32) (sM) _ _ _ _ rfl dX11_beginText_13 h hP hD hS
def wpX11_isWrong (sM : AR) (M_status : AR) (post : Int32 → AR → AR → Prop) : Prop := ((¬ (sM 21) = 0 → ∀ f23_14 : Int32, f23_14 = (sM 22) → ∀ M_status_26 : AR, M_status_26 = upd M_status 0 ((M_status 0) + (1 : Int32)) → post (1 : Int32) (upd sM 23 f23_14) M_status_26) ∧ ((sM 21) = 0 → post (0 : Int32) sM M_status))
set_option maxHeartbeats 4000000 in
set_option maxRecDepth 100000 in
theorem ctX11_isWrong (l : Launch) (D : va_G) (cy : Nat → ClassId) (ev : Nat → Nat) (h0 : Nat) (rM : Nat → Nat) (sM : AR) (M_status : AR) (sz : Nat) (post : Int32 → AR → AR → Prop) (h : wpX11_isWrong sM M_status post) : Met l yX11_isWrong (Cond.code yX11_isWrong cX11_isWrong 1 (some .boolean) :: TB) ({ frames := 0, cells := 0, slots := 0, locals := 0 }) (va_Pc [.ref h0] (PreX D cy ev [(h0, .inr (11, oX11 rM sM)), ((rM 10), .inl (cy 0, 2, .inl M_status))] sz)) (va_Qi (fun (r : Int32) (u : AR × AR) => post r (u.1) (u.2)) (fun u => BkX D cy [(h0, .inr (11, oX11 rM sM)), ((rM 10), .inl (cy 0, 2, .inl M_status))] sz [(h0, .inr (11, oX11 rM (u.1))), ((rM 10), .inl (cy 0, 2, .inl (u.2)))]) (va_A [(h0, .inr (11, oX11 rM sM)), ((rM 10), .inl (cy 0, 2, .inl M_status))] sz)) 0 0 (va_A [(h0, .inr (11, oX11 rM sM)), ((rM 10), .inl (cy 0, 2, .inl M_status))] sz) := by
  refine ofWi (by decide) (Nat.le_of_ble_eq_true rfl) ?_
  intro p e s m args below meth c ls A R QQ hx hb hml hown hts hR hlk hE hK hP hD hS hA hl hret
  have hown : s.vm.findClass RX11 = some m.cls := hown
  have hRf : 0 ≤ R.frames := by rw [hR]; exact Nat.le_refl _
  have hRl : 0 ≤ R.locals := by rw [hR]; exact Nat.le_refl _
  clear hR
  have hl : lv_has ls 1 [(0, .ref h0)] := hl
  refine lv_aload_n hx hb dX11_isWrong_0 rfl (lv_at hl 0 rfl) ?_
  refine gfX11_181 (v := (sM 21)) hx hb hts hown hK hP 0 rfl rfl dX11_isWrong_1 ?_
  refine lv_if_ne (tgt := 9) hx hb dX11_isWrong_4 (by decide) (fun c4 => ?_) (fun c4 => ?_)
  · have h := h.1 c4
    refine lv_aload_n hx hb dX11_isWrong_9 rfl (lv_at hl 0 rfl) ?_
    refine lv_aload_n hx hb dX11_isWrong_10 rfl (lv_at hl 0 rfl) ?_
    refine gfX11_184 (v := (sM 22)) hx hb hts hown hK hP 0 rfl rfl dX11_isWrong_11 ?_
    refine lv_topi (fun f23_14 ef23_14 => ?_)
    have h := h f23_14 ef23_14
    refine pfX11_71 hx hb hts hown hK hP hD hS 0 rfl dX11_isWrong_14 (fun H locs hP hD hS => ?_)
    have hP : va_P D clsX [(h0, .inr (11, oX11 rM (upd sM 23 f23_14))), ((rM 10), .inl (cy 0, 2, .inl M_status))] H := hP
    have hD : va_D A [(h0, .inr (11, oX11 rM (upd sM 23 f23_14))), ((rM 10), .inl (cy 0, 2, .inl M_status))] := hD
    refine lv_aload_n hx hb dX11_isWrong_17 rfl (lv_at hl 0 rfl) ?_
    refine gfX11_58 hx hb hts hown hK hP 0 rfl dX11_isWrong_18 ?_
    refine lv_iconst (v := (0 : Int32)) hx hb dX11_isWrong_21 (by decide) ?_
    refine lv_dup2_11 hx hb dX11_isWrong_22 rfl rfl ?_
    refine ldi (k := 0) hx hb hK hP 1 rfl (inL (by decide)) (by decide) dX11_isWrong_23 ?_
    refine lv_iconst (v := (1 : Int32)) hx hb dX11_isWrong_24 (by decide) ?_
    refine lv_iadd hx hb dX11_isWrong_25 ?_
    refine sti (k := 0) (y := ((M_status 0) + (1 : Int32))) hx hb hK hP hD hS 1 rfl (inL (by decide)) (by decide) rfl dX11_isWrong_26 (fun M_status_26 eM_status_26 H locs hP hD hS => ?_)
    have h := h M_status_26 eM_status_26
    have hP : va_P D clsX [(h0, .inr (11, oX11 rM (upd sM 23 f23_14))), ((rM 10), .inl (cy 0, 2, .inl M_status_26))] H := hP
    have hD : va_D A [(h0, .inr (11, oX11 rM (upd sM 23 f23_14))), ((rM 10), .inl (cy 0, 2, .inl M_status_26))] := hD
    refine lv_iconst (v := (1 : Int32)) hx hb dX11_isWrong_27 (by decide) ?_
    exact hret (1 : Int32) ((upd sM 23 f23_14), M_status_26) _ _ _ _ rfl dX11_isWrong_28 h hP hD hS
  · have h := h.2 c4
    refine lv_iconst (v := (0 : Int32)) hx hb dX11_isWrong_7 (by decide) ?_
    exact hret (0 : Int32) (sM, M_status) _ _ _ _ rfl dX11_isWrong_8 h hP hD hS
def wpX11_be_L2 (src : AR) (nTo : Nat) (nFrom : Nat) (kx20 : AR → Int32 → Prop) (post : AR → Prop) : Nat → AR → Int32 → Prop
  | 0, _, _ => False
  | nf2 + 1, dst, l2 => (((Int32.ofNat nTo) ≤ l2 → kx20 dst l2) ∧ (¬ (Int32.ofNat nTo) ≤ l2 → vp_in l2 nFrom ∧ vp_in l2 nTo ∧ ∀ dst_13 : AR, dst_13 = upd dst l2.toNatClampNeg (src l2.toNatClampNeg) → ∀ l2_14 : Int32, l2_14 = (l2 + (1 : Int32)) → wpX11_be_L2 src nTo nFrom kx20 post nf2 dst_13 l2_14))
def wpX11_be (dst : AR) (src : AR) (nTo : Nat) (nFrom : Nat) (post : AR → Prop) : Prop := ∃ nf2 : Nat, wpX11_be_L2 src nTo nFrom (fun dst_20 l2_20 => post dst_20) post nf2 dst (0 : Int32)
set_option maxHeartbeats 4000000 in
set_option maxRecDepth 100000 in
theorem ctX11_be (l : Launch) (D : va_G) (cy : Nat → ClassId) (ev : Nat → Nat) (a0 : Nat) (a1 : Nat) (dst : AR) (src : AR) (nTo : Nat) (nFrom : Nat) (sz : Nat) (post : AR → Prop) (h : wpX11_be dst src nTo nFrom post) : Met l yX11_be (Cond.code yX11_be cX11_be 3 none :: TB) ({ frames := 0, cells := 0, slots := 0, locals := 0 }) (va_Pc [.ref a0, .ref a1] (PreX D cy ev [(a0, .inl (cy 0, nTo, .inl dst)), (a1, .inl (cy 0, nFrom, .inl src))] sz)) (va_Qv (fun (u : AR) => post u) (fun u => BkX D cy [(a0, .inl (cy 0, nTo, .inl dst)), (a1, .inl (cy 0, nFrom, .inl src))] sz [(a0, .inl (cy 0, nTo, .inl u)), (a1, .inl (cy 0, nFrom, .inl src))]) (va_A [(a0, .inl (cy 0, nTo, .inl dst)), (a1, .inl (cy 0, nFrom, .inl src))] sz)) 0 0 (va_A [(a0, .inl (cy 0, nTo, .inl dst)), (a1, .inl (cy 0, nFrom, .inl src))] sz) := by
  refine ofWv (by decide) (Nat.le_of_ble_eq_true rfl) ?_
  intro p e s m args below meth c ls A R QQ hx hb hml hown hts hR hlk hE hK hP hD hS hA hl hret
  have hown : s.vm.findClass RX11 = some m.cls := hown
  have hRf : 0 ≤ R.frames := by rw [hR]; exact Nat.le_refl _
  have hRl : 0 ≤ R.locals := by rw [hR]; exact Nat.le_refl _
  clear hR
  have hl : lv_has ls 3 [(0, .ref a0), (1, .ref a1)] := hl
  have L2 : ∀ (kx20 : AR → Int32 → Prop), (∀ (dst : AR) (l2 : Int32) (H : Heap) (locs : List Loc) (ls : Array Slot), kx20 dst l2 → va_P D clsX [(a0, .inl (cy 0, nTo, .inl dst)), (a1, .inl (cy 0, nFrom, .inl src))] H → va_D A [(a0, .inl (cy 0, nTo, .inl dst)), (a1, .inl (cy 0, nFrom, .inl src))] → va_S A s.heap H locs → lv_has ls 3 [(0, .ref a0), (1, .ref a1)] → W p l e R s m args below meth c H locs 0 0 QQ (F0 m 20 ls [])) → ∀ (nf2 : Nat) (dst : AR) (l2 : Int32) (H : Heap) (locs : List Loc) (ls : Array Slot), wpX11_be_L2 src nTo nFrom kx20 post nf2 dst l2 → va_P D clsX [(a0, .inl (cy 0, nTo, .inl dst)), (a1, .inl (cy 0, nFrom, .inl src))] H → va_D A [(a0, .inl (cy 0, nTo, .inl dst)), (a1, .inl (cy 0, nFrom, .inl src))] → va_S A s.heap H locs → lv_has ls 3 [(0, .ref a0), (1, .ref a1), (2, .int l2)] → W p l e R s m args below meth c H locs 0 0 QQ (F0 m 2 ls []) := by
    intro kx20 hk2_20 nf2
    induction nf2 with
    | zero =>
      intro dst l2 H locs ls h
      exact (show False from h).elim
    | succ nf2 ih2 =>
      intro dst l2 H locs ls h hP hD hS hl
      refine lv_iload_n hx hb dX11_be_2 rfl (lv_at hl 2 rfl) ?_
      refine lv_aload_n hx hb dX11_be_3 rfl (lv_at hl 0 rfl) ?_
      refine va_alen hx hb hK hP 0 0 rfl rfl rfl dX11_be_4 ?_
      refine lv_icmp_ge (tgt := 20) hx hb dX11_be_5 (by decide) (fun c5 => ?_) (fun c5 => ?_)
      · have h := h.1 c5
        exact hk2_20 dst l2 _ _ _ h hP hD hS (lv_sub hl [0, 1] rfl)
      · have h := h.2 c5
        refine lv_aload_n hx hb dX11_be_8 rfl (lv_at hl 0 rfl) ?_
        refine lv_iload_n hx hb dX11_be_9 rfl (lv_at hl 2 rfl) ?_
        refine lv_aload_n hx hb dX11_be_10 rfl (lv_at hl 1 rfl) ?_
        refine lv_iload_n hx hb dX11_be_11 rfl (lv_at hl 2 rfl) ?_
        obtain ⟨hin, h⟩ := h
        refine ldi (k := l2.toNatClampNeg) hx hb hK hP 1 rfl hin rfl dX11_be_12 ?_
        obtain ⟨hin, h⟩ := h
        refine sti (k := l2.toNatClampNeg) (y := (src l2.toNatClampNeg)) hx hb hK hP hD hS 0 rfl hin rfl rfl dX11_be_13 (fun dst_13 edst_13 H locs hP hD hS => ?_)
        have h := h dst_13 edst_13
        have hP : va_P D clsX [(a0, .inl (cy 0, nTo, .inl dst_13)), (a1, .inl (cy 0, nFrom, .inl src))] H := hP
        have hD : va_D A [(a0, .inl (cy 0, nTo, .inl dst_13)), (a1, .inl (cy 0, nFrom, .inl src))] := hD
        obtain ⟨l2_14, el2_14⟩ : ∃ y : Int32, y = l2 + (1 : Int32) := ⟨_, rfl⟩
        have h := h l2_14 el2_14
        refine lv_iinc (v := l2_14) (lv' := [(2, .int l2_14), (0, .ref a0), (1, .ref a1)]) hx hb dX11_be_14 hl (k := 2) rfl (by rw [el2_14]; rfl) (by decide) rfl (fun ls hl => ?_)
        refine lv_goto (tgt := 2) hx hb dX11_be_17 (by decide) ?_
        exact ih2 dst_13 l2_14 _ _ _ h hP hD hS (lv_sub hl [1, 2, 0] rfl)
  refine lv_iconst (v := (0 : Int32)) hx hb dX11_be_0 (by decide) ?_
  refine lv_istore_n (lv' := [(2, .int (0 : Int32)), (0, .ref a0), (1, .ref a1)]) hx hb dX11_be_1 rfl hl (by decide) rfl (fun ls hl => ?_)
  obtain ⟨nf2, h⟩ := h
  refine L2  _ (fun dst_20 l2_20 H locs ls h hP hD hS hl => ?_) nf2 dst (0 : Int32) _ _ _ h hP hD hS (lv_sub hl [1, 2, 0] rfl)
  exact hret (dst_20) _ _ _ _ dX11_be_20 h hP hD hS
def wpX11_fault (sM : AR) (post : Int32 → AR → Prop) : Prop := post (sM 23) (upd sM 2 (0 : Int32))
set_option maxHeartbeats 4000000 in
set_option maxRecDepth 100000 in
theorem ctX11_fault (l : Launch) (D : va_G) (cy : Nat → ClassId) (ev : Nat → Nat) (h0 : Nat) (rM : Nat → Nat) (sM : AR) (sz : Nat) (post : Int32 → AR → Prop) (h : wpX11_fault sM post) : Met l yX11_fault (Cond.code yX11_fault cX11_fault 1 (some .int) :: TB) ({ frames := 0, cells := 0, slots := 0, locals := 0 }) (va_Pc [.ref h0] (PreX D cy ev [(h0, .inr (11, oX11 rM sM))] sz)) (va_Qi (fun (r : Int32) (u : AR) => post r u) (fun u => BkX D cy [(h0, .inr (11, oX11 rM sM))] sz [(h0, .inr (11, oX11 rM u))]) (va_A [(h0, .inr (11, oX11 rM sM))] sz)) 0 0 (va_A [(h0, .inr (11, oX11 rM sM))] sz) := by
  refine ofWi (by decide) (Nat.le_of_ble_eq_true rfl) ?_
  intro p e s m args below meth c ls A R QQ hx hb hml hown hts hR hlk hE hK hP hD hS hA hl hret
  have hown : s.vm.findClass RX11 = some m.cls := hown
  have hRf : 0 ≤ R.frames := by rw [hR]; exact Nat.le_refl _
  have hRl : 0 ≤ R.locals := by rw [hR]; exact Nat.le_refl _
  clear hR
  have hl : lv_has ls 1 [(0, .ref h0)] := hl
  refine lv_aload_n hx hb dX11_fault_0 rfl (lv_at hl 0 rfl) ?_
  refine lv_iconst (v := (0 : Int32)) hx hb dX11_fault_1 (by decide) ?_
  refine pfX11_132 hx hb hts hown hK hP hD hS 0 rfl dX11_fault_2 (fun H locs hP hD hS => ?_)
  have hP : va_P D clsX [(h0, .inr (11, oX11 rM (upd sM 2 (0 : Int32))))] H := hP
  have hD : va_D A [(h0, .inr (11, oX11 rM (upd sM 2 (0 : Int32))))] := hD
  refine lv_aload_n hx hb dX11_fault_5 rfl (lv_at hl 0 rfl) ?_
  refine gfX11_71 (v := (sM 23)) hx hb hts hown hK hP 0 rfl rfl dX11_fault_6 ?_
  exact hret (sM 23) ((upd sM 2 (0 : Int32))) _ _ _ _ rfl dX11_fault_9 h hP hD hS
def wpX11_howMany_L5 (M_told : AR) (row : AR) (l2 : Int32) (kx43 : Int32 → Int32 → Prop) (post : Int32 → Prop) : Nat → Int32 → Int32 → Prop
  | 0, _, _ => False
  | nf5 + 1, l3, l4 => (((M_told 3) ≤ l4 → kx43 l3 l4) ∧ (¬ (M_told 3) ≤ l4 → vp_in (((6 : Int32) * l4) + (3 : Int32)) 29 ∧ ((¬ (row (((6 : Int32) * l4) + (3 : Int32)).toNatClampNeg) = l2 → ∀ l3_36 : Int32, l3_36 = (l3 + (0 : Int32)) → ∀ l4_37 : Int32, l4_37 = (l4 + (1 : Int32)) → wpX11_howMany_L5 M_told row l2 kx43 post nf5 l3_36 l4_37) ∧ ((row (((6 : Int32) * l4) + (3 : Int32)).toNatClampNeg) = l2 → ∀ l3_36 : Int32, l3_36 = (l3 + (1 : Int32)) → ∀ l4_37 : Int32, l4_37 = (l4 + (1 : Int32)) → wpX11_howMany_L5 M_told row l2 kx43 post nf5 l3_36 l4_37))))
def wpX11_howMany (M_told : AR) (row : AR) (x2 : Int32) (post : Int32 → Prop) : Prop := ∃ nf5 : Nat, wpX11_howMany_L5 M_told row x2 (fun l3_43 l4_43 => post l3_43) post nf5 (0 : Int32) (0 : Int32)
set_option maxHeartbeats 4000000 in
set_option maxRecDepth 100000 in
theorem ctX11_howMany (l : Launch) (D : va_G) (cy : Nat → ClassId) (ev : Nat → Nat) (h0 : Nat) (a1 : Nat) (rM : Nat → Nat) (sM : AR) (M_told : AR) (row : AR) (x2 : Int32) (sz : Nat) (post : Int32 → Prop) (h : wpX11_howMany M_told row x2 post) : Met l yX11_howMany (Cond.code yX11_howMany cX11_howMany 5 (some .int) :: TB) ({ frames := 0, cells := 0, slots := 0, locals := 0 }) (va_Pc [.ref h0, .ref a1, .int x2] (PreX D cy ev [(h0, .inr (11, oX11 rM sM)), ((rM 3), .inl (cy 0, 14, .inl M_told)), (a1, .inl (cy 0, 29, .inl row))] sz)) (va_Qi (fun (r : Int32) (u : Unit) => post r) (fun u => BkX D cy [(h0, .inr (11, oX11 rM sM)), ((rM 3), .inl (cy 0, 14, .inl M_told)), (a1, .inl (cy 0, 29, .inl row))] sz [(h0, .inr (11, oX11 rM sM)), ((rM 3), .inl (cy 0, 14, .inl M_told)), (a1, .inl (cy 0, 29, .inl row))]) (va_A [(h0, .inr (11, oX11 rM sM)), ((rM 3), .inl (cy 0, 14, .inl M_told)), (a1, .inl (cy 0, 29, .inl row))] sz)) 0 0 (va_A [(h0, .inr (11, oX11 rM sM)), ((rM 3), .inl (cy 0, 14, .inl M_told)), (a1, .inl (cy 0, 29, .inl row))] sz) := by
  refine ofWi (by decide) (Nat.le_of_ble_eq_true rfl) ?_
  intro p e s m args below meth c ls A R QQ hx hb hml hown hts hR hlk hE hK hP hD hS hA hl hret
  have hown : s.vm.findClass RX11 = some m.cls := hown
  have hRf : 0 ≤ R.frames := by rw [hR]; exact Nat.le_refl _
  have hRl : 0 ≤ R.locals := by rw [hR]; exact Nat.le_refl _
  clear hR
  have hl : lv_has ls 5 [(0, .ref h0), (1, .ref a1), (2, .int x2)] := hl
  have L5 : ∀ (l2 : Int32) (kx43 : Int32 → Int32 → Prop), (∀ (l3 : Int32) (l4 : Int32) (H : Heap) (locs : List Loc) (ls : Array Slot), kx43 l3 l4 → va_P D clsX [(h0, .inr (11, oX11 rM sM)), ((rM 3), .inl (cy 0, 14, .inl M_told)), (a1, .inl (cy 0, 29, .inl row))] H → va_D A [(h0, .inr (11, oX11 rM sM)), ((rM 3), .inl (cy 0, 14, .inl M_told)), (a1, .inl (cy 0, 29, .inl row))] → va_S A s.heap H locs → lv_has ls 5 [(0, .ref h0), (1, .ref a1), (3, .int l3)] → W p l e R s m args below meth c H locs 0 0 QQ (F0 m 43 ls [])) → ∀ (nf5 : Nat) (l3 : Int32) (l4 : Int32) (H : Heap) (locs : List Loc) (ls : Array Slot), wpX11_howMany_L5 M_told row l2 kx43 post nf5 l3 l4 → va_P D clsX [(h0, .inr (11, oX11 rM sM)), ((rM 3), .inl (cy 0, 14, .inl M_told)), (a1, .inl (cy 0, 29, .inl row))] H → va_D A [(h0, .inr (11, oX11 rM sM)), ((rM 3), .inl (cy 0, 14, .inl M_told)), (a1, .inl (cy 0, 29, .inl row))] → va_S A s.heap H locs → lv_has ls 5 [(0, .ref h0), (1, .ref a1), (2, .int l2), (3, .int l3), (4, .int l4)] → W p l e R s m args below meth c H locs 0 0 QQ (F0 m 5 ls []) := by
    intro l2 kx43 hk5_43 nf5
    induction nf5 with
    | zero =>
      intro l3 l4 H locs ls h
      exact (show False from h).elim
    | succ nf5 ih5 =>
      intro l3 l4 H locs ls h hP hD hS hl
      refine lv_iload hx hb dX11_howMany_5 (lv_at hl 4 rfl) ?_
      refine lv_aload_n hx hb dX11_howMany_7 rfl (lv_at hl 0 rfl) ?_
      refine gfX11_36 hx hb hts hown hK hP 0 rfl dX11_howMany_8 ?_
      refine lv_iconst (v := (3 : Int32)) hx hb dX11_howMany_11 (by decide) ?_
      refine ldi (k := 3) hx hb hK hP 1 rfl (inL (by decide)) (by decide) dX11_howMany_12 ?_
      refine lv_icmp_ge (tgt := 43) hx hb dX11_howMany_13 (by decide) (fun c13 => ?_) (fun c13 => ?_)
      · have h := h.1 c13
        exact hk5_43 l3 l4 _ _ _ h hP hD hS (lv_sub hl [0, 1, 3] rfl)
      · have h := h.2 c13
        refine lv_iload_n hx hb dX11_howMany_16 rfl (lv_at hl 3 rfl) ?_
        refine lv_aload_n hx hb dX11_howMany_17 rfl (lv_at hl 1 rfl) ?_
        refine lv_bipush (v := (6 : Int32)) hx hb dX11_howMany_18 (by decide) ?_
        refine lv_iload hx hb dX11_howMany_20 (lv_at hl 4 rfl) ?_
        refine lv_imul hx hb dX11_howMany_22 ?_
        refine lv_iconst (v := (3 : Int32)) hx hb dX11_howMany_23 (by decide) ?_
        refine lv_iadd hx hb dX11_howMany_24 ?_
        obtain ⟨hin, h⟩ := h
        refine ldi (k := (((6 : Int32) * l4) + (3 : Int32)).toNatClampNeg) hx hb hK hP 2 rfl hin rfl dX11_howMany_25 ?_
        refine lv_iload_n hx hb dX11_howMany_26 rfl (lv_at hl 2 rfl) ?_
        refine lv_icmp_ne (tgt := 34) hx hb dX11_howMany_27 (by decide) (fun c27 => ?_) (fun c27 => ?_)
        · have h := h.1 c27
          refine lv_iconst (v := (0 : Int32)) hx hb dX11_howMany_34 (by decide) ?_
          refine lv_iadd hx hb dX11_howMany_35 ?_
          refine lv_topi (fun l3_36 el3_36 => ?_)
          have h := h l3_36 el3_36
          refine lv_istore_n (lv' := [(3, .int l3_36), (0, .ref h0), (1, .ref a1), (2, .int l2), (4, .int l4)]) hx hb dX11_howMany_36 rfl hl (by decide) rfl (fun ls hl => ?_)
          obtain ⟨l4_37, el4_37⟩ : ∃ y : Int32, y = l4 + (1 : Int32) := ⟨_, rfl⟩
          have h := h l4_37 el4_37
          refine lv_iinc (v := l4_37) (lv' := [(4, .int l4_37), (3, .int l3_36), (0, .ref h0), (1, .ref a1), (2, .int l2)]) hx hb dX11_howMany_37 hl (k := 4) rfl (by rw [el4_37]; rfl) (by decide) rfl (fun ls hl => ?_)
          refine lv_goto (tgt := 5) hx hb dX11_howMany_40 (by decide) ?_
          exact ih5 l3_36 l4_37 _ _ _ h hP hD hS (lv_sub hl [2, 3, 4, 1, 0] rfl)
        · have h := h.2 c27
          refine lv_iconst (v := (1 : Int32)) hx hb dX11_howMany_30 (by decide) ?_
          refine lv_goto (tgt := 35) hx hb dX11_howMany_31 (by decide) ?_
          refine lv_iadd hx hb dX11_howMany_35 ?_
          refine lv_topi (fun l3_36 el3_36 => ?_)
          have h := h l3_36 el3_36
          refine lv_istore_n (lv' := [(3, .int l3_36), (0, .ref h0), (1, .ref a1), (2, .int l2), (4, .int l4)]) hx hb dX11_howMany_36 rfl hl (by decide) rfl (fun ls hl => ?_)
          obtain ⟨l4_37, el4_37⟩ : ∃ y : Int32, y = l4 + (1 : Int32) := ⟨_, rfl⟩
          have h := h l4_37 el4_37
          refine lv_iinc (v := l4_37) (lv' := [(4, .int l4_37), (3, .int l3_36), (0, .ref h0), (1, .ref a1), (2, .int l2)]) hx hb dX11_howMany_37 hl (k := 4) rfl (by rw [el4_37]; rfl) (by decide) rfl (fun ls hl => ?_)
          refine lv_goto (tgt := 5) hx hb dX11_howMany_40 (by decide) ?_
          exact ih5 l3_36 l4_37 _ _ _ h hP hD hS (lv_sub hl [2, 3, 4, 1, 0] rfl)
  refine lv_iconst (v := (0 : Int32)) hx hb dX11_howMany_0 (by decide) ?_
  refine lv_istore_n (lv' := [(3, .int (0 : Int32)), (0, .ref h0), (1, .ref a1), (2, .int x2)]) hx hb dX11_howMany_1 rfl hl (by decide) rfl (fun ls hl => ?_)
  refine lv_iconst (v := (0 : Int32)) hx hb dX11_howMany_2 (by decide) ?_
  refine lv_istore (lv' := [(4, .int (0 : Int32)), (3, .int (0 : Int32)), (0, .ref h0), (1, .ref a1), (2, .int x2)]) hx hb dX11_howMany_3 hl (by decide) rfl (fun ls hl => ?_)
  obtain ⟨nf5, h⟩ := h
  refine L5 x2 _ (fun l3_43 l4_43 H locs ls h hP hD hS hl => ?_) nf5 (0 : Int32) (0 : Int32) _ _ _ h hP hD hS (lv_sub hl [2, 3, 4, 1, 0] rfl)
  refine lv_iload_n hx hb dX11_howMany_43 rfl (lv_at hl 2 rfl) ?_
  exact hret l3_43 () _ _ _ _ rfl dX11_howMany_44 h hP hD hS
def wpX11_count (sM : AR) (M_told : AR) (M_now : AR) (M_status : AR) (x1 : Int32) (post : Int32 → AR → Prop) : Prop := wpX11_isIn x1 (0 : Int32) (6 : Int32) (fun r9 => ((r9 = 0 → ((x1 = (7 : Int32) → post (sM 30) (upd sM 2 (0 : Int32))) ∧ (¬ x1 = (7 : Int32) → ((x1 = (8 : Int32) → post (sM 31) (upd sM 2 (0 : Int32))) ∧ (¬ x1 = (8 : Int32) → ((x1 = (9 : Int32) → wpX11_howMany M_told M_now (x1 - (8 : Int32)) (fun r87 => post r87 (upd sM 2 (0 : Int32)))) ∧ (¬ x1 = (9 : Int32) → ((x1 = (10 : Int32) → wpX11_howMany M_told M_now (x1 - (8 : Int32)) (fun r87 => post r87 (upd sM 2 (0 : Int32)))) ∧ (¬ x1 = (10 : Int32) → ((x1 = (11 : Int32) → wpX11_howMany M_told M_now (x1 - (8 : Int32)) (fun r87 => post r87 (upd sM 2 (0 : Int32)))) ∧ (¬ x1 = (11 : Int32) → ((x1 = (12 : Int32) → post (sM 14) (upd sM 2 (0 : Int32))) ∧ (¬ x1 = (12 : Int32) → ((x1 = (13 : Int32) → vp_in (x1 - (13 : Int32)) 2 ∧ post (M_status (x1 - (13 : Int32)).toNatClampNeg) (upd sM 2 (0 : Int32))) ∧ (¬ x1 = (13 : Int32) → ((x1 = (14 : Int32) → vp_in (x1 - (13 : Int32)) 2 ∧ post (M_status (x1 - (13 : Int32)).toNatClampNeg) (upd sM 2 (0 : Int32))) ∧ (¬ x1 = (14 : Int32) → wpX11_fail (upd sM 2 (0 : Int32)) (1 : Int32) (fun r108 sM_108 => post r108 sM_108)))))))))))))))))) ∧ (¬ r9 = 0 → vp_in x1 14 ∧ post (M_told x1.toNatClampNeg) (upd sM 2 (0 : Int32)))))
set_option maxHeartbeats 4000000 in
set_option maxRecDepth 100000 in
theorem ctX11_count (l : Launch) (D : va_G) (cy : Nat → ClassId) (ev : Nat → Nat) (h0 : Nat) (rM : Nat → Nat) (sM : AR) (M_told : AR) (M_now : AR) (M_status : AR) (x1 : Int32) (sz : Nat) (post : Int32 → AR → Prop) (h : wpX11_count sM M_told M_now M_status x1 post) : Met l yX11_count (Cond.code yX11_count cX11_count 2 (some .int) :: TB) ({ frames := 1, cells := 0, slots := 0, locals := 24 }) (va_Pc [.ref h0, .int x1] (PreX D cy ev [(h0, .inr (11, oX11 rM sM)), ((rM 3), .inl (cy 0, 14, .inl M_told)), ((rM 8), .inl (cy 0, 29, .inl M_now)), ((rM 10), .inl (cy 0, 2, .inl M_status))] sz)) (va_Qi (fun (r : Int32) (u : AR) => post r u) (fun u => BkX D cy [(h0, .inr (11, oX11 rM sM)), ((rM 3), .inl (cy 0, 14, .inl M_told)), ((rM 8), .inl (cy 0, 29, .inl M_now)), ((rM 10), .inl (cy 0, 2, .inl M_status))] sz [(h0, .inr (11, oX11 rM u)), ((rM 3), .inl (cy 0, 14, .inl M_told)), ((rM 8), .inl (cy 0, 29, .inl M_now)), ((rM 10), .inl (cy 0, 2, .inl M_status))]) (va_A [(h0, .inr (11, oX11 rM sM)), ((rM 3), .inl (cy 0, 14, .inl M_told)), ((rM 8), .inl (cy 0, 29, .inl M_now)), ((rM 10), .inl (cy 0, 2, .inl M_status))] sz)) 0 0 (va_A [(h0, .inr (11, oX11 rM sM)), ((rM 3), .inl (cy 0, 14, .inl M_told)), ((rM 8), .inl (cy 0, 29, .inl M_now)), ((rM 10), .inl (cy 0, 2, .inl M_status))] sz) := by
  refine ofWi (by decide) (Nat.le_of_ble_eq_true rfl) ?_
  intro p e s m args below meth c ls A R QQ hx hb hml hown hts hR hlk hE hK hP hD hS hA hl hret
  have hown : s.vm.findClass RX11 = some m.cls := hown
  have hRf : 1 ≤ R.frames := by rw [hR]; exact Nat.le_refl _
  have hRl : 24 ≤ R.locals := by rw [hR]; exact Nat.le_refl _
  clear hR
  have hl : lv_has ls 2 [(0, .ref h0), (1, .int x1)] := hl
  refine lv_aload_n hx hb dX11_count_0 rfl (lv_at hl 0 rfl) ?_
  refine lv_iconst (v := (0 : Int32)) hx hb dX11_count_1 (by decide) ?_
  refine pfX11_132 hx hb hts hown hK hP hD hS 0 rfl dX11_count_2 (fun H locs hP hD hS => ?_)
  have hP : va_P D clsX [(h0, .inr (11, oX11 rM (upd sM 2 (0 : Int32)))), ((rM 3), .inl (cy 0, 14, .inl M_told)), ((rM 8), .inl (cy 0, 29, .inl M_now)), ((rM 10), .inl (cy 0, 2, .inl M_status))] H := hP
  have hD : va_D A [(h0, .inr (11, oX11 rM (upd sM 2 (0 : Int32)))), ((rM 3), .inl (cy 0, 14, .inl M_told)), ((rM 8), .inl (cy 0, 29, .inl M_now)), ((rM 10), .inl (cy 0, 2, .inl M_status))] := hD
  refine lv_iload_n hx hb dX11_count_5 rfl (lv_at hl 1 rfl) ?_
  refine lv_iconst (v := (0 : Int32)) hx hb dX11_count_6 (by decide) ?_
  refine lv_bipush (v := (6 : Int32)) hx hb dX11_count_7 (by decide) ?_
  refine clSi (As := [.int x1, .int (0 : Int32), .int (6 : Int32)]) (rest := []) (Wr := [(h0, .inr (11, oX11 rM (upd sM 2 (0 : Int32)))), ((rM 3), .inl (cy 0, 14, .inl M_told)), ((rM 8), .inl (cy 0, 29, .inl M_now)), ((rM 10), .inl (cy 0, 2, .inl M_status))]) ⟨hx, hb, hml, hown, hts⟩ ⟨callB_of 3 hts (goodC mw1456) rfl rfl rfl (hts _ (tb mw15)) (hts _ (tb mw1454)) kdX11_isIn ⟨Nat.le_trans (by decide) hRf, Nat.le_trans (by decide) hRl⟩, hts _ (tb mw1455)⟩ (ctX11_isIn l D cy ev  x1 (0 : Int32) (6 : Int32) _ _ h) hE hK hP hD hS hA [] [0, 1, 2, 3] rfl rfl (by decide) (by decide) (by decide) rfl hl.1 rfl (Nat.le_of_ble_eq_true rfl) ⟨Nat.zero_le _, Nat.zero_le _⟩ dX11_count_9 (fun r9 u H locs h hP hD hS => ?_)
  have hP : va_P D clsX [(h0, .inr (11, oX11 rM (upd sM 2 (0 : Int32)))), ((rM 3), .inl (cy 0, 14, .inl M_told)), ((rM 8), .inl (cy 0, 29, .inl M_now)), ((rM 10), .inl (cy 0, 2, .inl M_status))] H := hP
  have hD : va_D A [(h0, .inr (11, oX11 rM (upd sM 2 (0 : Int32)))), ((rM 3), .inl (cy 0, 14, .inl M_told)), ((rM 8), .inl (cy 0, 29, .inl M_now)), ((rM 10), .inl (cy 0, 2, .inl M_status))] := hD
  refine lv_if_eq (tgt := 22) hx hb dX11_count_12 (by decide) (fun c12 => ?_) (fun c12 => ?_)
  · have h := h.1 c12
    refine lv_iload_n hx hb dX11_count_22 rfl (lv_at hl 1 rfl) ?_
    by_cases c23_7 : x1 = (7 : Int32)
    · have h := h.1 c23_7
      refine lv_tableIn (off := 45) (tgt := 68) hx hb dX11_count_23 (by rw [c23_7]; decide) (by rw [c23_7]; decide) (by rw [c23_7]; rfl) (by decide) ?_
      refine lv_aload_n hx hb dX11_count_68 rfl (lv_at hl 0 rfl) ?_
      refine gfX11_270 (v := (sM 30)) hx hb hts hown hK hP 0 rfl rfl dX11_count_69 ?_
      exact hret (sM 30) ((upd sM 2 (0 : Int32))) _ _ _ _ rfl dX11_count_72 h hP hD hS
    · have h := h.2 c23_7
      by_cases c23_8 : x1 = (8 : Int32)
      · have h := h.1 c23_8
        refine lv_tableIn (off := 50) (tgt := 73) hx hb dX11_count_23 (by rw [c23_8]; decide) (by rw [c23_8]; decide) (by rw [c23_8]; rfl) (by decide) ?_
        refine lv_aload_n hx hb dX11_count_73 rfl (lv_at hl 0 rfl) ?_
        refine gfX11_273 (v := (sM 31)) hx hb hts hown hK hP 0 rfl rfl dX11_count_74 ?_
        exact hret (sM 31) ((upd sM 2 (0 : Int32))) _ _ _ _ rfl dX11_count_77 h hP hD hS
      · have h := h.2 c23_8
        by_cases c23_9 : x1 = (9 : Int32)
        · have h := h.1 c23_9
          refine lv_tableIn (off := 55) (tgt := 78) hx hb dX11_count_23 (by rw [c23_9]; decide) (by rw [c23_9]; decide) (by rw [c23_9]; rfl) (by decide) ?_
          refine lv_aload_n hx hb dX11_count_78 rfl (lv_at hl 0 rfl) ?_
          refine lv_aload_n hx hb dX11_count_79 rfl (lv_at hl 0 rfl) ?_
          refine gfX11_52 hx hb hts hown hK hP 0 rfl dX11_count_80 ?_
          refine lv_iload_n hx hb dX11_count_83 rfl (lv_at hl 1 rfl) ?_
          refine lv_bipush (v := (8 : Int32)) hx hb dX11_count_84 (by decide) ?_
          refine lv_isub hx hb dX11_count_86 ?_
          refine clVi (As := [.ref (rM 8), .int (x1 - (8 : Int32))]) (rest := []) (Wr := [((rM 10), .inl (cy 0, 2, .inl M_status))]) (cq := (RX11, TX11, 56)) ⟨hx, hb, hml, hown, hts⟩ ⟨callB_of 2 hts (goodC mw1460) rfl rfl rfl (hts _ (tb mw15)) (hts _ (tb mw1457)) kdX11_howMany ⟨Nat.le_trans (by decide) hRf, Nat.le_trans (by decide) hRl⟩, hts _ (tb mw1459), hts _ (tb ms57)⟩ (ctX11_howMany l D cy ev h0 (rM 8) rM (upd sM 2 (0 : Int32)) M_told M_now (x1 - (8 : Int32)) _ _ h) hE hK hP hD hS hA [0, 1, 2] [3] rfl rfl (by decide) (by decide) (by decide) 0 rfl rfl rfl hl.1 rfl (Nat.le_of_ble_eq_true rfl) ⟨Nat.zero_le _, Nat.zero_le _⟩ dX11_count_87 (fun r87 u H locs h hP hD hS => ?_)
          have hP : va_P D clsX [((rM 10), .inl (cy 0, 2, .inl M_status)), (h0, .inr (11, oX11 rM (upd sM 2 (0 : Int32)))), ((rM 3), .inl (cy 0, 14, .inl M_told)), ((rM 8), .inl (cy 0, 29, .inl M_now))] H := hP
          have hD : va_D A [((rM 10), .inl (cy 0, 2, .inl M_status)), (h0, .inr (11, oX11 rM (upd sM 2 (0 : Int32)))), ((rM 3), .inl (cy 0, 14, .inl M_told)), ((rM 8), .inl (cy 0, 29, .inl M_now))] := hD
          exact hret r87 ((upd sM 2 (0 : Int32))) _ _ _ _ rfl dX11_count_90 h (hP.sub [1, 2, 3, 0] rfl) (hD.sub [1, 2, 3, 0] (by decide) rfl) hS
        · have h := h.2 c23_9
          by_cases c23_10 : x1 = (10 : Int32)
          · have h := h.1 c23_10
            refine lv_tableIn (off := 55) (tgt := 78) hx hb dX11_count_23 (by rw [c23_10]; decide) (by rw [c23_10]; decide) (by rw [c23_10]; rfl) (by decide) ?_
            refine lv_aload_n hx hb dX11_count_78 rfl (lv_at hl 0 rfl) ?_
            refine lv_aload_n hx hb dX11_count_79 rfl (lv_at hl 0 rfl) ?_
            refine gfX11_52 hx hb hts hown hK hP 0 rfl dX11_count_80 ?_
            refine lv_iload_n hx hb dX11_count_83 rfl (lv_at hl 1 rfl) ?_
            refine lv_bipush (v := (8 : Int32)) hx hb dX11_count_84 (by decide) ?_
            refine lv_isub hx hb dX11_count_86 ?_
            refine clVi (As := [.ref (rM 8), .int (x1 - (8 : Int32))]) (rest := []) (Wr := [((rM 10), .inl (cy 0, 2, .inl M_status))]) (cq := (RX11, TX11, 56)) ⟨hx, hb, hml, hown, hts⟩ ⟨callB_of 2 hts (goodC mw1460) rfl rfl rfl (hts _ (tb mw15)) (hts _ (tb mw1457)) kdX11_howMany ⟨Nat.le_trans (by decide) hRf, Nat.le_trans (by decide) hRl⟩, hts _ (tb mw1459), hts _ (tb ms57)⟩ (ctX11_howMany l D cy ev h0 (rM 8) rM (upd sM 2 (0 : Int32)) M_told M_now (x1 - (8 : Int32)) _ _ h) hE hK hP hD hS hA [0, 1, 2] [3] rfl rfl (by decide) (by decide) (by decide) 0 rfl rfl rfl hl.1 rfl (Nat.le_of_ble_eq_true rfl) ⟨Nat.zero_le _, Nat.zero_le _⟩ dX11_count_87 (fun r87 u H locs h hP hD hS => ?_)
            have hP : va_P D clsX [((rM 10), .inl (cy 0, 2, .inl M_status)), (h0, .inr (11, oX11 rM (upd sM 2 (0 : Int32)))), ((rM 3), .inl (cy 0, 14, .inl M_told)), ((rM 8), .inl (cy 0, 29, .inl M_now))] H := hP
            have hD : va_D A [((rM 10), .inl (cy 0, 2, .inl M_status)), (h0, .inr (11, oX11 rM (upd sM 2 (0 : Int32)))), ((rM 3), .inl (cy 0, 14, .inl M_told)), ((rM 8), .inl (cy 0, 29, .inl M_now))] := hD
            exact hret r87 ((upd sM 2 (0 : Int32))) _ _ _ _ rfl dX11_count_90 h (hP.sub [1, 2, 3, 0] rfl) (hD.sub [1, 2, 3, 0] (by decide) rfl) hS
          · have h := h.2 c23_10
            by_cases c23_11 : x1 = (11 : Int32)
            · have h := h.1 c23_11
              refine lv_tableIn (off := 55) (tgt := 78) hx hb dX11_count_23 (by rw [c23_11]; decide) (by rw [c23_11]; decide) (by rw [c23_11]; rfl) (by decide) ?_
              refine lv_aload_n hx hb dX11_count_78 rfl (lv_at hl 0 rfl) ?_
              refine lv_aload_n hx hb dX11_count_79 rfl (lv_at hl 0 rfl) ?_
              refine gfX11_52 hx hb hts hown hK hP 0 rfl dX11_count_80 ?_
              refine lv_iload_n hx hb dX11_count_83 rfl (lv_at hl 1 rfl) ?_
              refine lv_bipush (v := (8 : Int32)) hx hb dX11_count_84 (by decide) ?_
              refine lv_isub hx hb dX11_count_86 ?_
              refine clVi (As := [.ref (rM 8), .int (x1 - (8 : Int32))]) (rest := []) (Wr := [((rM 10), .inl (cy 0, 2, .inl M_status))]) (cq := (RX11, TX11, 56)) ⟨hx, hb, hml, hown, hts⟩ ⟨callB_of 2 hts (goodC mw1460) rfl rfl rfl (hts _ (tb mw15)) (hts _ (tb mw1457)) kdX11_howMany ⟨Nat.le_trans (by decide) hRf, Nat.le_trans (by decide) hRl⟩, hts _ (tb mw1459), hts _ (tb ms57)⟩ (ctX11_howMany l D cy ev h0 (rM 8) rM (upd sM 2 (0 : Int32)) M_told M_now (x1 - (8 : Int32)) _ _ h) hE hK hP hD hS hA [0, 1, 2] [3] rfl rfl (by decide) (by decide) (by decide) 0 rfl rfl rfl hl.1 rfl (Nat.le_of_ble_eq_true rfl) ⟨Nat.zero_le _, Nat.zero_le _⟩ dX11_count_87 (fun r87 u H locs h hP hD hS => ?_)
              have hP : va_P D clsX [((rM 10), .inl (cy 0, 2, .inl M_status)), (h0, .inr (11, oX11 rM (upd sM 2 (0 : Int32)))), ((rM 3), .inl (cy 0, 14, .inl M_told)), ((rM 8), .inl (cy 0, 29, .inl M_now))] H := hP
              have hD : va_D A [((rM 10), .inl (cy 0, 2, .inl M_status)), (h0, .inr (11, oX11 rM (upd sM 2 (0 : Int32)))), ((rM 3), .inl (cy 0, 14, .inl M_told)), ((rM 8), .inl (cy 0, 29, .inl M_now))] := hD
              exact hret r87 ((upd sM 2 (0 : Int32))) _ _ _ _ rfl dX11_count_90 h (hP.sub [1, 2, 3, 0] rfl) (hD.sub [1, 2, 3, 0] (by decide) rfl) hS
            · have h := h.2 c23_11
              by_cases c23_12 : x1 = (12 : Int32)
              · have h := h.1 c23_12
                refine lv_tableIn (off := 68) (tgt := 91) hx hb dX11_count_23 (by rw [c23_12]; decide) (by rw [c23_12]; decide) (by rw [c23_12]; rfl) (by decide) ?_
                refine lv_aload_n hx hb dX11_count_91 rfl (lv_at hl 0 rfl) ?_
                refine gfX11_143 (v := (sM 14)) hx hb hts hown hK hP 0 rfl rfl dX11_count_92 ?_
                exact hret (sM 14) ((upd sM 2 (0 : Int32))) _ _ _ _ rfl dX11_count_95 h hP hD hS
              · have h := h.2 c23_12
                by_cases c23_13 : x1 = (13 : Int32)
                · have h := h.1 c23_13
                  refine lv_tableIn (off := 73) (tgt := 96) hx hb dX11_count_23 (by rw [c23_13]; decide) (by rw [c23_13]; decide) (by rw [c23_13]; rfl) (by decide) ?_
                  refine lv_aload_n hx hb dX11_count_96 rfl (lv_at hl 0 rfl) ?_
                  refine gfX11_58 hx hb hts hown hK hP 0 rfl dX11_count_97 ?_
                  refine lv_iload_n hx hb dX11_count_100 rfl (lv_at hl 1 rfl) ?_
                  refine lv_bipush (v := (13 : Int32)) hx hb dX11_count_101 (by decide) ?_
                  refine lv_isub hx hb dX11_count_103 ?_
                  obtain ⟨hin, h⟩ := h
                  refine ldi (k := (x1 - (13 : Int32)).toNatClampNeg) hx hb hK hP 3 rfl hin rfl dX11_count_104 ?_
                  exact hret (M_status (x1 - (13 : Int32)).toNatClampNeg) ((upd sM 2 (0 : Int32))) _ _ _ _ rfl dX11_count_105 h hP hD hS
                · have h := h.2 c23_13
                  by_cases c23_14 : x1 = (14 : Int32)
                  · have h := h.1 c23_14
                    refine lv_tableIn (off := 73) (tgt := 96) hx hb dX11_count_23 (by rw [c23_14]; decide) (by rw [c23_14]; decide) (by rw [c23_14]; rfl) (by decide) ?_
                    refine lv_aload_n hx hb dX11_count_96 rfl (lv_at hl 0 rfl) ?_
                    refine gfX11_58 hx hb hts hown hK hP 0 rfl dX11_count_97 ?_
                    refine lv_iload_n hx hb dX11_count_100 rfl (lv_at hl 1 rfl) ?_
                    refine lv_bipush (v := (13 : Int32)) hx hb dX11_count_101 (by decide) ?_
                    refine lv_isub hx hb dX11_count_103 ?_
                    obtain ⟨hin, h⟩ := h
                    refine ldi (k := (x1 - (13 : Int32)).toNatClampNeg) hx hb hK hP 3 rfl hin rfl dX11_count_104 ?_
                    exact hret (M_status (x1 - (13 : Int32)).toNatClampNeg) ((upd sM 2 (0 : Int32))) _ _ _ _ rfl dX11_count_105 h hP hD hS
                  · have h := h.2 c23_14
                    have k7 := ne_iN (n := 7) (by decide) c23_7
                    have k8 := ne_iN (n := 8) (by decide) c23_8
                    have k9 := ne_iN (n := 9) (by decide) c23_9
                    have k10 := ne_iN (n := 10) (by decide) c23_10
                    have k11 := ne_iN (n := 11) (by decide) c23_11
                    have k12 := ne_iN (n := 12) (by decide) c23_12
                    have k13 := ne_iN (n := 13) (by decide) c23_13
                    have k14 := ne_iN (n := 14) (by decide) c23_14
                    refine lv_tableOut (tgt := 106) hx hb dX11_count_23 (by omega) (by decide) ?_
                    refine lv_aload_n hx hb dX11_count_106 rfl (lv_at hl 0 rfl) ?_
                    refine lv_iconst (v := (1 : Int32)) hx hb dX11_count_107 (by decide) ?_
                    refine clVi (As := [.int (1 : Int32)]) (rest := []) (Wr := [((rM 3), .inl (cy 0, 14, .inl M_told)), ((rM 8), .inl (cy 0, 29, .inl M_now)), ((rM 10), .inl (cy 0, 2, .inl M_status))]) (cq := (RX11, TX11, 56)) ⟨hx, hb, hml, hown, hts⟩ ⟨callB_of 1 hts (goodC mw1373) rfl rfl rfl (hts _ (tb mw15)) (hts _ (tb mw1370)) kdX11_fail ⟨Nat.le_trans (by decide) hRf, Nat.le_trans (by decide) hRl⟩, hts _ (tb mw1372), hts _ (tb ms41)⟩ (ctX11_fail l D cy ev h0 rM (upd sM 2 (0 : Int32)) (1 : Int32) _ _ h) hE hK hP hD hS hA [0] [1, 2, 3] rfl rfl (by decide) (by decide) (by decide) 0 rfl rfl rfl hl.1 rfl (Nat.le_of_ble_eq_true rfl) ⟨Nat.zero_le _, Nat.zero_le _⟩ dX11_count_108 (fun r108 sM_108 H locs h hP hD hS => ?_)
                    have hP : va_P D clsX [((rM 3), .inl (cy 0, 14, .inl M_told)), ((rM 8), .inl (cy 0, 29, .inl M_now)), ((rM 10), .inl (cy 0, 2, .inl M_status)), (h0, .inr (11, oX11 rM sM_108))] H := hP
                    have hD : va_D A [((rM 3), .inl (cy 0, 14, .inl M_told)), ((rM 8), .inl (cy 0, 29, .inl M_now)), ((rM 10), .inl (cy 0, 2, .inl M_status)), (h0, .inr (11, oX11 rM sM_108))] := hD
                    exact hret r108 (sM_108) _ _ _ _ rfl dX11_count_111 h (hP.sub [3, 0, 1, 2] rfl) (hD.sub [3, 0, 1, 2] (by decide) rfl) hS
  · have h := h.2 c12
    refine lv_aload_n hx hb dX11_count_15 rfl (lv_at hl 0 rfl) ?_
    refine gfX11_36 hx hb hts hown hK hP 0 rfl dX11_count_16 ?_
    refine lv_iload_n hx hb dX11_count_19 rfl (lv_at hl 1 rfl) ?_
    obtain ⟨hin, h⟩ := h
    refine ldi (k := x1.toNatClampNeg) hx hb hK hP 1 rfl hin rfl dX11_count_20 ?_
    exact hret (M_told x1.toNatClampNeg) ((upd sM 2 (0 : Int32))) _ _ _ _ rfl dX11_count_21 h hP hD hS
def wpX11_tower (sM : AR) (M_told : AR) (M_place : AR) (M_range : AR) (M_voice : AR) (M_now : AR) (M_isFalse : AR) (x1 : Int32) (x2 : Int32) (post : Int32 → AR → Prop) : Prop := wpX11_isTower M_told x1 (fun r7 => ((¬ r7 = 0 → ((x2 = (0 : Int32) → vp_in x1 10 ∧ post (M_place x1.toNatClampNeg) (upd sM 2 (0 : Int32))) ∧ (¬ x2 = (0 : Int32) → ((x2 = (1 : Int32) → vp_in x1 10 ∧ post (M_range x1.toNatClampNeg) (upd sM 2 (0 : Int32))) ∧ (¬ x2 = (1 : Int32) → ((x2 = (2 : Int32) → vp_in x1 10 ∧ post (M_voice x1.toNatClampNeg) (upd sM 2 (0 : Int32))) ∧ (¬ x2 = (2 : Int32) → ((x2 = (3 : Int32) → vp_in ((24 : Int32) + x1) 29 ∧ post (M_now ((24 : Int32) + x1).toNatClampNeg) (upd sM 2 (0 : Int32))) ∧ (¬ x2 = (3 : Int32) → ((x2 = (4 : Int32) → vp_in x1 10 ∧ (((M_isFalse x1.toNatClampNeg) = 0 → post (0 : Int32) (upd sM 2 (0 : Int32))) ∧ (¬ (M_isFalse x1.toNatClampNeg) = 0 → post (1 : Int32) (upd sM 2 (0 : Int32))))) ∧ (¬ x2 = (4 : Int32) → wpX11_fail (upd sM 2 (0 : Int32)) (1 : Int32) (fun r104 sM_104 => post r104 sM_104)))))))))))) ∧ (r7 = 0 → wpX11_fail (upd sM 2 (0 : Int32)) (1 : Int32) (fun r15 sM_15 => post r15 sM_15))))
set_option maxHeartbeats 4000000 in
set_option maxRecDepth 100000 in
theorem ctX11_tower (l : Launch) (D : va_G) (cy : Nat → ClassId) (ev : Nat → Nat) (h0 : Nat) (rM : Nat → Nat) (sM : AR) (M_told : AR) (M_place : AR) (M_range : AR) (M_voice : AR) (M_now : AR) (M_isFalse : AR) (x1 : Int32) (x2 : Int32) (sz : Nat) (post : Int32 → AR → Prop) (h : wpX11_tower sM M_told M_place M_range M_voice M_now M_isFalse x1 x2 post) : Met l yX11_tower (Cond.code yX11_tower cX11_tower 3 (some .int) :: TB) ({ frames := 2, cells := 0, slots := 0, locals := 43 }) (va_Pc [.ref h0, .int x1, .int x2] (PreX D cy ev [(h0, .inr (11, oX11 rM sM)), ((rM 3), .inl (cy 0, 14, .inl M_told)), ((rM 4), .inl (cy 0, 10, .inl M_place)), ((rM 5), .inl (cy 0, 10, .inl M_range)), ((rM 6), .inl (cy 0, 10, .inl M_voice)), ((rM 8), .inl (cy 0, 29, .inl M_now)), ((rM 11), .inl (cy 2, 10, .inl M_isFalse))] sz)) (va_Qi (fun (r : Int32) (u : AR) => post r u) (fun u => BkX D cy [(h0, .inr (11, oX11 rM sM)), ((rM 3), .inl (cy 0, 14, .inl M_told)), ((rM 4), .inl (cy 0, 10, .inl M_place)), ((rM 5), .inl (cy 0, 10, .inl M_range)), ((rM 6), .inl (cy 0, 10, .inl M_voice)), ((rM 8), .inl (cy 0, 29, .inl M_now)), ((rM 11), .inl (cy 2, 10, .inl M_isFalse))] sz [(h0, .inr (11, oX11 rM u)), ((rM 3), .inl (cy 0, 14, .inl M_told)), ((rM 4), .inl (cy 0, 10, .inl M_place)), ((rM 5), .inl (cy 0, 10, .inl M_range)), ((rM 6), .inl (cy 0, 10, .inl M_voice)), ((rM 8), .inl (cy 0, 29, .inl M_now)), ((rM 11), .inl (cy 2, 10, .inl M_isFalse))]) (va_A [(h0, .inr (11, oX11 rM sM)), ((rM 3), .inl (cy 0, 14, .inl M_told)), ((rM 4), .inl (cy 0, 10, .inl M_place)), ((rM 5), .inl (cy 0, 10, .inl M_range)), ((rM 6), .inl (cy 0, 10, .inl M_voice)), ((rM 8), .inl (cy 0, 29, .inl M_now)), ((rM 11), .inl (cy 2, 10, .inl M_isFalse))] sz)) 0 0 (va_A [(h0, .inr (11, oX11 rM sM)), ((rM 3), .inl (cy 0, 14, .inl M_told)), ((rM 4), .inl (cy 0, 10, .inl M_place)), ((rM 5), .inl (cy 0, 10, .inl M_range)), ((rM 6), .inl (cy 0, 10, .inl M_voice)), ((rM 8), .inl (cy 0, 29, .inl M_now)), ((rM 11), .inl (cy 2, 10, .inl M_isFalse))] sz) := by
  refine ofWi (by decide) (Nat.le_of_ble_eq_true rfl) ?_
  intro p e s m args below meth c ls A R QQ hx hb hml hown hts hR hlk hE hK hP hD hS hA hl hret
  have hown : s.vm.findClass RX11 = some m.cls := hown
  have hRf : 2 ≤ R.frames := by rw [hR]; exact Nat.le_refl _
  have hRl : 43 ≤ R.locals := by rw [hR]; exact Nat.le_refl _
  clear hR
  have hl : lv_has ls 3 [(0, .ref h0), (1, .int x1), (2, .int x2)] := hl
  refine lv_aload_n hx hb dX11_tower_0 rfl (lv_at hl 0 rfl) ?_
  refine lv_iconst (v := (0 : Int32)) hx hb dX11_tower_1 (by decide) ?_
  refine pfX11_132 hx hb hts hown hK hP hD hS 0 rfl dX11_tower_2 (fun H locs hP hD hS => ?_)
  have hP : va_P D clsX [(h0, .inr (11, oX11 rM (upd sM 2 (0 : Int32)))), ((rM 3), .inl (cy 0, 14, .inl M_told)), ((rM 4), .inl (cy 0, 10, .inl M_place)), ((rM 5), .inl (cy 0, 10, .inl M_range)), ((rM 6), .inl (cy 0, 10, .inl M_voice)), ((rM 8), .inl (cy 0, 29, .inl M_now)), ((rM 11), .inl (cy 2, 10, .inl M_isFalse))] H := hP
  have hD : va_D A [(h0, .inr (11, oX11 rM (upd sM 2 (0 : Int32)))), ((rM 3), .inl (cy 0, 14, .inl M_told)), ((rM 4), .inl (cy 0, 10, .inl M_place)), ((rM 5), .inl (cy 0, 10, .inl M_range)), ((rM 6), .inl (cy 0, 10, .inl M_voice)), ((rM 8), .inl (cy 0, 29, .inl M_now)), ((rM 11), .inl (cy 2, 10, .inl M_isFalse))] := hD
  refine lv_aload_n hx hb dX11_tower_5 rfl (lv_at hl 0 rfl) ?_
  refine lv_iload_n hx hb dX11_tower_6 rfl (lv_at hl 1 rfl) ?_
  refine clVi (As := [.int x1]) (rest := []) (Wr := [((rM 4), .inl (cy 0, 10, .inl M_place)), ((rM 5), .inl (cy 0, 10, .inl M_range)), ((rM 6), .inl (cy 0, 10, .inl M_voice)), ((rM 8), .inl (cy 0, 29, .inl M_now)), ((rM 11), .inl (cy 2, 10, .inl M_isFalse))]) (cq := (RX11, TX11, 56)) ⟨hx, hb, hml, hown, hts⟩ ⟨callB_of 1 hts (goodC mw1468) rfl rfl rfl (hts _ (tb mw15)) (hts _ (tb mw1465)) kdX11_isTower ⟨Nat.le_trans (by decide) hRf, Nat.le_trans (by decide) hRl⟩, hts _ (tb mw1467), hts _ (tb ms58)⟩ (ctX11_isTower l D cy ev h0 rM (upd sM 2 (0 : Int32)) M_told x1 _ _ h) hE hK hP hD hS hA [0, 1] [2, 3, 4, 5, 6] rfl rfl (by decide) (by decide) (by decide) 0 rfl rfl rfl hl.1 rfl (Nat.le_of_ble_eq_true rfl) ⟨Nat.zero_le _, Nat.zero_le _⟩ dX11_tower_7 (fun r7 u H locs h hP hD hS => ?_)
  have hP : va_P D clsX [((rM 4), .inl (cy 0, 10, .inl M_place)), ((rM 5), .inl (cy 0, 10, .inl M_range)), ((rM 6), .inl (cy 0, 10, .inl M_voice)), ((rM 8), .inl (cy 0, 29, .inl M_now)), ((rM 11), .inl (cy 2, 10, .inl M_isFalse)), (h0, .inr (11, oX11 rM (upd sM 2 (0 : Int32)))), ((rM 3), .inl (cy 0, 14, .inl M_told))] H := hP
  have hD : va_D A [((rM 4), .inl (cy 0, 10, .inl M_place)), ((rM 5), .inl (cy 0, 10, .inl M_range)), ((rM 6), .inl (cy 0, 10, .inl M_voice)), ((rM 8), .inl (cy 0, 29, .inl M_now)), ((rM 11), .inl (cy 2, 10, .inl M_isFalse)), (h0, .inr (11, oX11 rM (upd sM 2 (0 : Int32)))), ((rM 3), .inl (cy 0, 14, .inl M_told))] := hD
  refine lv_if_ne (tgt := 19) hx hb dX11_tower_10 (by decide) (fun c10 => ?_) (fun c10 => ?_)
  · have h := h.1 c10
    refine lv_iload_n hx hb dX11_tower_19 rfl (lv_at hl 2 rfl) ?_
    by_cases c20_0 : x2 = (0 : Int32)
    · have h := h.1 c20_0
      refine lv_tableIn (off := 36) (tgt := 56) hx hb dX11_tower_20 (by rw [c20_0]; decide) (by rw [c20_0]; decide) (by rw [c20_0]; rfl) (by decide) ?_
      refine lv_aload_n hx hb dX11_tower_56 rfl (lv_at hl 0 rfl) ?_
      refine gfX11_40 hx hb hts hown hK hP 5 rfl dX11_tower_57 ?_
      refine lv_iload_n hx hb dX11_tower_60 rfl (lv_at hl 1 rfl) ?_
      obtain ⟨hin, h⟩ := h
      refine ldi (k := x1.toNatClampNeg) hx hb hK hP 0 rfl hin rfl dX11_tower_61 ?_
      exact hret (M_place x1.toNatClampNeg) ((upd sM 2 (0 : Int32))) _ _ _ _ rfl dX11_tower_62 h (hP.sub [5, 6, 0, 1, 2, 3, 4] rfl) (hD.sub [5, 6, 0, 1, 2, 3, 4] (by decide) rfl) hS
    · have h := h.2 c20_0
      by_cases c20_1 : x2 = (1 : Int32)
      · have h := h.1 c20_1
        refine lv_tableIn (off := 43) (tgt := 63) hx hb dX11_tower_20 (by rw [c20_1]; decide) (by rw [c20_1]; decide) (by rw [c20_1]; rfl) (by decide) ?_
        refine lv_aload_n hx hb dX11_tower_63 rfl (lv_at hl 0 rfl) ?_
        refine gfX11_43 hx hb hts hown hK hP 5 rfl dX11_tower_64 ?_
        refine lv_iload_n hx hb dX11_tower_67 rfl (lv_at hl 1 rfl) ?_
        obtain ⟨hin, h⟩ := h
        refine ldi (k := x1.toNatClampNeg) hx hb hK hP 1 rfl hin rfl dX11_tower_68 ?_
        exact hret (M_range x1.toNatClampNeg) ((upd sM 2 (0 : Int32))) _ _ _ _ rfl dX11_tower_69 h (hP.sub [5, 6, 0, 1, 2, 3, 4] rfl) (hD.sub [5, 6, 0, 1, 2, 3, 4] (by decide) rfl) hS
      · have h := h.2 c20_1
        by_cases c20_2 : x2 = (2 : Int32)
        · have h := h.1 c20_2
          refine lv_tableIn (off := 50) (tgt := 70) hx hb dX11_tower_20 (by rw [c20_2]; decide) (by rw [c20_2]; decide) (by rw [c20_2]; rfl) (by decide) ?_
          refine lv_aload_n hx hb dX11_tower_70 rfl (lv_at hl 0 rfl) ?_
          refine gfX11_46 hx hb hts hown hK hP 5 rfl dX11_tower_71 ?_
          refine lv_iload_n hx hb dX11_tower_74 rfl (lv_at hl 1 rfl) ?_
          obtain ⟨hin, h⟩ := h
          refine ldi (k := x1.toNatClampNeg) hx hb hK hP 2 rfl hin rfl dX11_tower_75 ?_
          exact hret (M_voice x1.toNatClampNeg) ((upd sM 2 (0 : Int32))) _ _ _ _ rfl dX11_tower_76 h (hP.sub [5, 6, 0, 1, 2, 3, 4] rfl) (hD.sub [5, 6, 0, 1, 2, 3, 4] (by decide) rfl) hS
        · have h := h.2 c20_2
          by_cases c20_3 : x2 = (3 : Int32)
          · have h := h.1 c20_3
            refine lv_tableIn (off := 57) (tgt := 77) hx hb dX11_tower_20 (by rw [c20_3]; decide) (by rw [c20_3]; decide) (by rw [c20_3]; rfl) (by decide) ?_
            refine lv_aload_n hx hb dX11_tower_77 rfl (lv_at hl 0 rfl) ?_
            refine gfX11_52 hx hb hts hown hK hP 5 rfl dX11_tower_78 ?_
            refine lv_bipush (v := (24 : Int32)) hx hb dX11_tower_81 (by decide) ?_
            refine lv_iload_n hx hb dX11_tower_83 rfl (lv_at hl 1 rfl) ?_
            refine lv_iadd hx hb dX11_tower_84 ?_
            obtain ⟨hin, h⟩ := h
            refine ldi (k := ((24 : Int32) + x1).toNatClampNeg) hx hb hK hP 3 rfl hin rfl dX11_tower_85 ?_
            exact hret (M_now ((24 : Int32) + x1).toNatClampNeg) ((upd sM 2 (0 : Int32))) _ _ _ _ rfl dX11_tower_86 h (hP.sub [5, 6, 0, 1, 2, 3, 4] rfl) (hD.sub [5, 6, 0, 1, 2, 3, 4] (by decide) rfl) hS
          · have h := h.2 c20_3
            by_cases c20_4 : x2 = (4 : Int32)
            · have h := h.1 c20_4
              refine lv_tableIn (off := 67) (tgt := 87) hx hb dX11_tower_20 (by rw [c20_4]; decide) (by rw [c20_4]; decide) (by rw [c20_4]; rfl) (by decide) ?_
              refine lv_aload_n hx hb dX11_tower_87 rfl (lv_at hl 0 rfl) ?_
              refine gfX11_61 hx hb hts hown hK hP 5 rfl dX11_tower_88 ?_
              refine lv_iload_n hx hb dX11_tower_91 rfl (lv_at hl 1 rfl) ?_
              obtain ⟨hin, h⟩ := h
              refine ldz (k := x1.toNatClampNeg) hx hb hK hP 4 rfl hin rfl dX11_tower_92 ?_
              refine lv_if_eq (tgt := 100) hx hb dX11_tower_93 (by decide) (fun c93 => ?_) (fun c93 => ?_)
              · have h := h.1 c93
                refine lv_iconst (v := (0 : Int32)) hx hb dX11_tower_100 (by decide) ?_
                exact hret (0 : Int32) ((upd sM 2 (0 : Int32))) _ _ _ _ rfl dX11_tower_101 h (hP.sub [5, 6, 0, 1, 2, 3, 4] rfl) (hD.sub [5, 6, 0, 1, 2, 3, 4] (by decide) rfl) hS
              · have h := h.2 c93
                refine lv_iconst (v := (1 : Int32)) hx hb dX11_tower_96 (by decide) ?_
                refine lv_goto (tgt := 101) hx hb dX11_tower_97 (by decide) ?_
                exact hret (1 : Int32) ((upd sM 2 (0 : Int32))) _ _ _ _ rfl dX11_tower_101 h (hP.sub [5, 6, 0, 1, 2, 3, 4] rfl) (hD.sub [5, 6, 0, 1, 2, 3, 4] (by decide) rfl) hS
            · have h := h.2 c20_4
              have k0 := ne_iN (n := 0) (by decide) c20_0
              have k1 := ne_iN (n := 1) (by decide) c20_1
              have k2 := ne_iN (n := 2) (by decide) c20_2
              have k3 := ne_iN (n := 3) (by decide) c20_3
              have k4 := ne_iN (n := 4) (by decide) c20_4
              refine lv_tableOut (tgt := 102) hx hb dX11_tower_20 (by omega) (by decide) ?_
              refine lv_aload_n hx hb dX11_tower_102 rfl (lv_at hl 0 rfl) ?_
              refine lv_iconst (v := (1 : Int32)) hx hb dX11_tower_103 (by decide) ?_
              refine clVi (As := [.int (1 : Int32)]) (rest := []) (Wr := [((rM 4), .inl (cy 0, 10, .inl M_place)), ((rM 5), .inl (cy 0, 10, .inl M_range)), ((rM 6), .inl (cy 0, 10, .inl M_voice)), ((rM 8), .inl (cy 0, 29, .inl M_now)), ((rM 11), .inl (cy 2, 10, .inl M_isFalse)), ((rM 3), .inl (cy 0, 14, .inl M_told))]) (cq := (RX11, TX11, 56)) ⟨hx, hb, hml, hown, hts⟩ ⟨callB_of 1 hts (goodC mw1373) rfl rfl rfl (hts _ (tb mw15)) (hts _ (tb mw1370)) kdX11_fail ⟨Nat.le_trans (by decide) hRf, Nat.le_trans (by decide) hRl⟩, hts _ (tb mw1372), hts _ (tb ms41)⟩ (ctX11_fail l D cy ev h0 rM (upd sM 2 (0 : Int32)) (1 : Int32) _ _ h) hE hK hP hD hS hA [5] [0, 1, 2, 3, 4, 6] rfl rfl (by decide) (by decide) (by decide) 0 rfl rfl rfl hl.1 rfl (Nat.le_of_ble_eq_true rfl) ⟨Nat.zero_le _, Nat.zero_le _⟩ dX11_tower_104 (fun r104 sM_104 H locs h hP hD hS => ?_)
              have hP : va_P D clsX [((rM 4), .inl (cy 0, 10, .inl M_place)), ((rM 5), .inl (cy 0, 10, .inl M_range)), ((rM 6), .inl (cy 0, 10, .inl M_voice)), ((rM 8), .inl (cy 0, 29, .inl M_now)), ((rM 11), .inl (cy 2, 10, .inl M_isFalse)), ((rM 3), .inl (cy 0, 14, .inl M_told)), (h0, .inr (11, oX11 rM sM_104))] H := hP
              have hD : va_D A [((rM 4), .inl (cy 0, 10, .inl M_place)), ((rM 5), .inl (cy 0, 10, .inl M_range)), ((rM 6), .inl (cy 0, 10, .inl M_voice)), ((rM 8), .inl (cy 0, 29, .inl M_now)), ((rM 11), .inl (cy 2, 10, .inl M_isFalse)), ((rM 3), .inl (cy 0, 14, .inl M_told)), (h0, .inr (11, oX11 rM sM_104))] := hD
              exact hret r104 (sM_104) _ _ _ _ rfl dX11_tower_107 h (hP.sub [6, 5, 0, 1, 2, 3, 4] rfl) (hD.sub [6, 5, 0, 1, 2, 3, 4] (by decide) rfl) hS
  · have h := h.2 c10
    refine lv_aload_n hx hb dX11_tower_13 rfl (lv_at hl 0 rfl) ?_
    refine lv_iconst (v := (1 : Int32)) hx hb dX11_tower_14 (by decide) ?_
    refine clVi (As := [.int (1 : Int32)]) (rest := []) (Wr := [((rM 4), .inl (cy 0, 10, .inl M_place)), ((rM 5), .inl (cy 0, 10, .inl M_range)), ((rM 6), .inl (cy 0, 10, .inl M_voice)), ((rM 8), .inl (cy 0, 29, .inl M_now)), ((rM 11), .inl (cy 2, 10, .inl M_isFalse)), ((rM 3), .inl (cy 0, 14, .inl M_told))]) (cq := (RX11, TX11, 56)) ⟨hx, hb, hml, hown, hts⟩ ⟨callB_of 1 hts (goodC mw1373) rfl rfl rfl (hts _ (tb mw15)) (hts _ (tb mw1370)) kdX11_fail ⟨Nat.le_trans (by decide) hRf, Nat.le_trans (by decide) hRl⟩, hts _ (tb mw1372), hts _ (tb ms41)⟩ (ctX11_fail l D cy ev h0 rM (upd sM 2 (0 : Int32)) (1 : Int32) _ _ h) hE hK hP hD hS hA [5] [0, 1, 2, 3, 4, 6] rfl rfl (by decide) (by decide) (by decide) 0 rfl rfl rfl hl.1 rfl (Nat.le_of_ble_eq_true rfl) ⟨Nat.zero_le _, Nat.zero_le _⟩ dX11_tower_15 (fun r15 sM_15 H locs h hP hD hS => ?_)
    have hP : va_P D clsX [((rM 4), .inl (cy 0, 10, .inl M_place)), ((rM 5), .inl (cy 0, 10, .inl M_range)), ((rM 6), .inl (cy 0, 10, .inl M_voice)), ((rM 8), .inl (cy 0, 29, .inl M_now)), ((rM 11), .inl (cy 2, 10, .inl M_isFalse)), ((rM 3), .inl (cy 0, 14, .inl M_told)), (h0, .inr (11, oX11 rM sM_15))] H := hP
    have hD : va_D A [((rM 4), .inl (cy 0, 10, .inl M_place)), ((rM 5), .inl (cy 0, 10, .inl M_range)), ((rM 6), .inl (cy 0, 10, .inl M_voice)), ((rM 8), .inl (cy 0, 29, .inl M_now)), ((rM 11), .inl (cy 2, 10, .inl M_isFalse)), ((rM 3), .inl (cy 0, 14, .inl M_told)), (h0, .inr (11, oX11 rM sM_15))] := hD
    exact hret r15 (sM_15) _ _ _ _ rfl dX11_tower_18 h (hP.sub [6, 5, 0, 1, 2, 3, 4] rfl) (hD.sub [6, 5, 0, 1, 2, 3, 4] (by decide) rfl) hS
def wpX11_walker_J23 (sM : AR) (M_told : AR) (M_kind : AR) (M_now : AR) (post : Int32 → AR → Prop) : Prop := wpX11_fail sM (1 : Int32) (fun r25 sM_25 => post r25 sM_25)
def wpX11_walker (sM : AR) (M_told : AR) (M_kind : AR) (M_now : AR) (x1 : Int32) (x2 : Int32) (post : Int32 → AR → Prop) : Prop := wpX11_isWalker M_told x1 (fun r7 => ((r7 = 0 → wpX11_walker_J23 (upd sM 2 (0 : Int32)) M_told M_kind M_now post) ∧ (¬ r7 = 0 → wpX11_isIn x2 (0 : Int32) (6 : Int32) (fun r17 => ((¬ r17 = 0 → ((¬ x2 = 0 → vp_in ((((6 : Int32) * x1) + x2) - (1 : Int32)) 29 ∧ post (M_now ((((6 : Int32) * x1) + x2) - (1 : Int32)).toNatClampNeg) (upd sM 2 (0 : Int32))) ∧ (x2 = 0 → vp_in x1 8 ∧ post (M_kind x1.toNatClampNeg) (upd sM 2 (0 : Int32))))) ∧ (r17 = 0 → wpX11_walker_J23 (upd sM 2 (0 : Int32)) M_told M_kind M_now post))))))
set_option maxHeartbeats 4000000 in
set_option maxRecDepth 100000 in
theorem ctX11_walker (l : Launch) (D : va_G) (cy : Nat → ClassId) (ev : Nat → Nat) (h0 : Nat) (rM : Nat → Nat) (sM : AR) (M_told : AR) (M_kind : AR) (M_now : AR) (x1 : Int32) (x2 : Int32) (sz : Nat) (post : Int32 → AR → Prop) (h : wpX11_walker sM M_told M_kind M_now x1 x2 post) : Met l yX11_walker (Cond.code yX11_walker cX11_walker 3 (some .int) :: TB) ({ frames := 2, cells := 0, slots := 0, locals := 43 }) (va_Pc [.ref h0, .int x1, .int x2] (PreX D cy ev [(h0, .inr (11, oX11 rM sM)), ((rM 3), .inl (cy 0, 14, .inl M_told)), ((rM 7), .inl (cy 0, 8, .inl M_kind)), ((rM 8), .inl (cy 0, 29, .inl M_now))] sz)) (va_Qi (fun (r : Int32) (u : AR) => post r u) (fun u => BkX D cy [(h0, .inr (11, oX11 rM sM)), ((rM 3), .inl (cy 0, 14, .inl M_told)), ((rM 7), .inl (cy 0, 8, .inl M_kind)), ((rM 8), .inl (cy 0, 29, .inl M_now))] sz [(h0, .inr (11, oX11 rM u)), ((rM 3), .inl (cy 0, 14, .inl M_told)), ((rM 7), .inl (cy 0, 8, .inl M_kind)), ((rM 8), .inl (cy 0, 29, .inl M_now))]) (va_A [(h0, .inr (11, oX11 rM sM)), ((rM 3), .inl (cy 0, 14, .inl M_told)), ((rM 7), .inl (cy 0, 8, .inl M_kind)), ((rM 8), .inl (cy 0, 29, .inl M_now))] sz)) 0 0 (va_A [(h0, .inr (11, oX11 rM sM)), ((rM 3), .inl (cy 0, 14, .inl M_told)), ((rM 7), .inl (cy 0, 8, .inl M_kind)), ((rM 8), .inl (cy 0, 29, .inl M_now))] sz) := by
  refine ofWi (by decide) (Nat.le_of_ble_eq_true rfl) ?_
  intro p e s m args below meth c ls A R QQ hx hb hml hown hts hR hlk hE hK hP hD hS hA hl hret
  have hown : s.vm.findClass RX11 = some m.cls := hown
  have hRf : 2 ≤ R.frames := by rw [hR]; exact Nat.le_refl _
  have hRl : 43 ≤ R.locals := by rw [hR]; exact Nat.le_refl _
  clear hR
  have hl : lv_has ls 3 [(0, .ref h0), (1, .int x1), (2, .int x2)] := hl
  have J23 : ∀ (sM : AR) (H : Heap) (locs : List Loc) (ls : Array Slot), wpX11_walker_J23 sM M_told M_kind M_now post → va_P D clsX [(h0, .inr (11, oX11 rM sM)), ((rM 3), .inl (cy 0, 14, .inl M_told)), ((rM 7), .inl (cy 0, 8, .inl M_kind)), ((rM 8), .inl (cy 0, 29, .inl M_now))] H → va_D A [(h0, .inr (11, oX11 rM sM)), ((rM 3), .inl (cy 0, 14, .inl M_told)), ((rM 7), .inl (cy 0, 8, .inl M_kind)), ((rM 8), .inl (cy 0, 29, .inl M_now))] → va_S A s.heap H locs → lv_has ls 3 [(0, .ref h0)] → W p l e R s m args below meth c H locs 0 0 QQ (F0 m 23 ls []) := by
    intro sM H locs ls h hP hD hS hl
    refine lv_aload_n hx hb dX11_walker_23 rfl (lv_at hl 0 rfl) ?_
    refine lv_iconst (v := (1 : Int32)) hx hb dX11_walker_24 (by decide) ?_
    refine clVi (As := [.int (1 : Int32)]) (rest := []) (Wr := [((rM 3), .inl (cy 0, 14, .inl M_told)), ((rM 7), .inl (cy 0, 8, .inl M_kind)), ((rM 8), .inl (cy 0, 29, .inl M_now))]) (cq := (RX11, TX11, 56)) ⟨hx, hb, hml, hown, hts⟩ ⟨callB_of 1 hts (goodC mw1373) rfl rfl rfl (hts _ (tb mw15)) (hts _ (tb mw1370)) kdX11_fail ⟨Nat.le_trans (by decide) hRf, Nat.le_trans (by decide) hRl⟩, hts _ (tb mw1372), hts _ (tb ms41)⟩ (ctX11_fail l D cy ev h0 rM sM (1 : Int32) _ _ h) hE hK hP hD hS hA [0] [1, 2, 3] rfl rfl (by decide) (by decide) (by decide) 0 rfl rfl rfl hl.1 rfl (Nat.le_of_ble_eq_true rfl) ⟨Nat.zero_le _, Nat.zero_le _⟩ dX11_walker_25 (fun r25 sM_25 H locs h hP hD hS => ?_)
    have hP : va_P D clsX [((rM 3), .inl (cy 0, 14, .inl M_told)), ((rM 7), .inl (cy 0, 8, .inl M_kind)), ((rM 8), .inl (cy 0, 29, .inl M_now)), (h0, .inr (11, oX11 rM sM_25))] H := hP
    have hD : va_D A [((rM 3), .inl (cy 0, 14, .inl M_told)), ((rM 7), .inl (cy 0, 8, .inl M_kind)), ((rM 8), .inl (cy 0, 29, .inl M_now)), (h0, .inr (11, oX11 rM sM_25))] := hD
    exact hret r25 (sM_25) _ _ _ _ rfl dX11_walker_28 h (hP.sub [3, 0, 1, 2] rfl) (hD.sub [3, 0, 1, 2] (by decide) rfl) hS
  refine lv_aload_n hx hb dX11_walker_0 rfl (lv_at hl 0 rfl) ?_
  refine lv_iconst (v := (0 : Int32)) hx hb dX11_walker_1 (by decide) ?_
  refine pfX11_132 hx hb hts hown hK hP hD hS 0 rfl dX11_walker_2 (fun H locs hP hD hS => ?_)
  have hP : va_P D clsX [(h0, .inr (11, oX11 rM (upd sM 2 (0 : Int32)))), ((rM 3), .inl (cy 0, 14, .inl M_told)), ((rM 7), .inl (cy 0, 8, .inl M_kind)), ((rM 8), .inl (cy 0, 29, .inl M_now))] H := hP
  have hD : va_D A [(h0, .inr (11, oX11 rM (upd sM 2 (0 : Int32)))), ((rM 3), .inl (cy 0, 14, .inl M_told)), ((rM 7), .inl (cy 0, 8, .inl M_kind)), ((rM 8), .inl (cy 0, 29, .inl M_now))] := hD
  refine lv_aload_n hx hb dX11_walker_5 rfl (lv_at hl 0 rfl) ?_
  refine lv_iload_n hx hb dX11_walker_6 rfl (lv_at hl 1 rfl) ?_
  refine clVi (As := [.int x1]) (rest := []) (Wr := [((rM 7), .inl (cy 0, 8, .inl M_kind)), ((rM 8), .inl (cy 0, 29, .inl M_now))]) (cq := (RX11, TX11, 56)) ⟨hx, hb, hml, hown, hts⟩ ⟨callB_of 1 hts (goodC mw1476) rfl rfl rfl (hts _ (tb mw15)) (hts _ (tb mw1473)) kdX11_isWalker ⟨Nat.le_trans (by decide) hRf, Nat.le_trans (by decide) hRl⟩, hts _ (tb mw1475), hts _ (tb ms59)⟩ (ctX11_isWalker l D cy ev h0 rM (upd sM 2 (0 : Int32)) M_told x1 _ _ h) hE hK hP hD hS hA [0, 1] [2, 3] rfl rfl (by decide) (by decide) (by decide) 0 rfl rfl rfl hl.1 rfl (Nat.le_of_ble_eq_true rfl) ⟨Nat.zero_le _, Nat.zero_le _⟩ dX11_walker_7 (fun r7 u H locs h hP hD hS => ?_)
  have hP : va_P D clsX [((rM 7), .inl (cy 0, 8, .inl M_kind)), ((rM 8), .inl (cy 0, 29, .inl M_now)), (h0, .inr (11, oX11 rM (upd sM 2 (0 : Int32)))), ((rM 3), .inl (cy 0, 14, .inl M_told))] H := hP
  have hD : va_D A [((rM 7), .inl (cy 0, 8, .inl M_kind)), ((rM 8), .inl (cy 0, 29, .inl M_now)), (h0, .inr (11, oX11 rM (upd sM 2 (0 : Int32)))), ((rM 3), .inl (cy 0, 14, .inl M_told))] := hD
  refine lv_if_eq (tgt := 23) hx hb dX11_walker_10 (by decide) (fun c10 => ?_) (fun c10 => ?_)
  · have h := h.1 c10
    exact J23 (upd sM 2 (0 : Int32)) _ _ _ h (hP.sub [2, 3, 0, 1] rfl) (hD.sub [2, 3, 0, 1] (by decide) rfl) hS (lv_sub hl [0] rfl)
  · have h := h.2 c10
    refine lv_iload_n hx hb dX11_walker_13 rfl (lv_at hl 2 rfl) ?_
    refine lv_iconst (v := (0 : Int32)) hx hb dX11_walker_14 (by decide) ?_
    refine lv_bipush (v := (6 : Int32)) hx hb dX11_walker_15 (by decide) ?_
    refine clSi (As := [.int x2, .int (0 : Int32), .int (6 : Int32)]) (rest := []) (Wr := [((rM 7), .inl (cy 0, 8, .inl M_kind)), ((rM 8), .inl (cy 0, 29, .inl M_now)), (h0, .inr (11, oX11 rM (upd sM 2 (0 : Int32)))), ((rM 3), .inl (cy 0, 14, .inl M_told))]) ⟨hx, hb, hml, hown, hts⟩ ⟨callB_of 3 hts (goodC mw1456) rfl rfl rfl (hts _ (tb mw15)) (hts _ (tb mw1454)) kdX11_isIn ⟨Nat.le_trans (by decide) hRf, Nat.le_trans (by decide) hRl⟩, hts _ (tb mw1455)⟩ (ctX11_isIn l D cy ev  x2 (0 : Int32) (6 : Int32) _ _ h) hE hK hP hD hS hA [] [0, 1, 2, 3] rfl rfl (by decide) (by decide) (by decide) rfl hl.1 rfl (Nat.le_of_ble_eq_true rfl) ⟨Nat.zero_le _, Nat.zero_le _⟩ dX11_walker_17 (fun r17 u H locs h hP hD hS => ?_)
    have hP : va_P D clsX [((rM 7), .inl (cy 0, 8, .inl M_kind)), ((rM 8), .inl (cy 0, 29, .inl M_now)), (h0, .inr (11, oX11 rM (upd sM 2 (0 : Int32)))), ((rM 3), .inl (cy 0, 14, .inl M_told))] H := hP
    have hD : va_D A [((rM 7), .inl (cy 0, 8, .inl M_kind)), ((rM 8), .inl (cy 0, 29, .inl M_now)), (h0, .inr (11, oX11 rM (upd sM 2 (0 : Int32)))), ((rM 3), .inl (cy 0, 14, .inl M_told))] := hD
    refine lv_if_ne (tgt := 29) hx hb dX11_walker_20 (by decide) (fun c20 => ?_) (fun c20 => ?_)
    · have h := h.1 c20
      refine lv_iload_n hx hb dX11_walker_29 rfl (lv_at hl 2 rfl) ?_
      refine lv_if_ne (tgt := 42) hx hb dX11_walker_30 (by decide) (fun c30 => ?_) (fun c30 => ?_)
      · have h := h.1 c30
        refine lv_aload_n hx hb dX11_walker_42 rfl (lv_at hl 0 rfl) ?_
        refine gfX11_52 hx hb hts hown hK hP 2 rfl dX11_walker_43 ?_
        refine lv_bipush (v := (6 : Int32)) hx hb dX11_walker_46 (by decide) ?_
        refine lv_iload_n hx hb dX11_walker_48 rfl (lv_at hl 1 rfl) ?_
        refine lv_imul hx hb dX11_walker_49 ?_
        refine lv_iload_n hx hb dX11_walker_50 rfl (lv_at hl 2 rfl) ?_
        refine lv_iadd hx hb dX11_walker_51 ?_
        refine lv_iconst (v := (1 : Int32)) hx hb dX11_walker_52 (by decide) ?_
        refine lv_isub hx hb dX11_walker_53 ?_
        obtain ⟨hin, h⟩ := h
        refine ldi (k := ((((6 : Int32) * x1) + x2) - (1 : Int32)).toNatClampNeg) hx hb hK hP 1 rfl hin rfl dX11_walker_54 ?_
        exact hret (M_now ((((6 : Int32) * x1) + x2) - (1 : Int32)).toNatClampNeg) ((upd sM 2 (0 : Int32))) _ _ _ _ rfl dX11_walker_55 h (hP.sub [2, 3, 0, 1] rfl) (hD.sub [2, 3, 0, 1] (by decide) rfl) hS
      · have h := h.2 c30
        refine lv_aload_n hx hb dX11_walker_33 rfl (lv_at hl 0 rfl) ?_
        refine gfX11_49 hx hb hts hown hK hP 2 rfl dX11_walker_34 ?_
        refine lv_iload_n hx hb dX11_walker_37 rfl (lv_at hl 1 rfl) ?_
        obtain ⟨hin, h⟩ := h
        refine ldi (k := x1.toNatClampNeg) hx hb hK hP 0 rfl hin rfl dX11_walker_38 ?_
        refine lv_goto (tgt := 55) hx hb dX11_walker_39 (by decide) ?_
        exact hret (M_kind x1.toNatClampNeg) ((upd sM 2 (0 : Int32))) _ _ _ _ rfl dX11_walker_55 h (hP.sub [2, 3, 0, 1] rfl) (hD.sub [2, 3, 0, 1] (by decide) rfl) hS
    · have h := h.2 c20
      exact J23 (upd sM 2 (0 : Int32)) _ _ _ h (hP.sub [2, 3, 0, 1] rfl) (hD.sub [2, 3, 0, 1] (by decide) rfl) hS (lv_sub hl [0] rfl)
