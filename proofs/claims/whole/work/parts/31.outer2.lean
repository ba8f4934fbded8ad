theorem dX10_needTower_0 : decode cX10_needTower 0 = .ok (.iload_n 1, 1) := by decide +kernel
theorem dX10_needTower_1 : decode cX10_needTower 1 = .ok (.ifCond .lt 14, 3) := by decide +kernel
theorem dX10_needTower_4 : decode cX10_needTower 4 = .ok (.iload_n 1, 1) := by decide +kernel
theorem dX10_needTower_5 : decode cX10_needTower 5 = .ok (.aload_n 0, 1) := by decide +kernel
theorem dX10_needTower_6 : decode cX10_needTower 6 = .ok (.getfield 23, 3) := by decide +kernel
theorem dX10_needTower_9 : decode cX10_needTower 9 = .ok (.getfield 165, 3) := by decide +kernel
theorem dX10_needTower_12 : decode cX10_needTower 12 = .ok (.if_icmp .lt 13, 3) := by decide +kernel
theorem dX10_needTower_15 : decode cX10_needTower 15 = .ok (.new 215, 3) := by decide +kernel
theorem dX10_needTower_18 : decode cX10_needTower 18 = .ok (.dup, 1) := by decide +kernel
theorem dX10_needTower_19 : decode cX10_needTower 19 = .ok (.ldc 241, 2) := by decide +kernel
theorem dX10_needTower_21 : decode cX10_needTower 21 = .ok (.invokespecial 219, 3) := by decide +kernel
theorem dX10_needTower_24 : decode cX10_needTower 24 = .ok (.athrow, 1) := by decide +kernel
theorem dX10_needTower_25 : decode cX10_needTower 25 = .ok (.return_, 1) := by decide +kernel
theorem dX10_needWalker_0 : decode cX10_needWalker 0 = .ok (.iload_n 1, 1) := by decide +kernel
theorem dX10_needWalker_1 : decode cX10_needWalker 1 = .ok (.ifCond .lt 14, 3) := by decide +kernel
theorem dX10_needWalker_4 : decode cX10_needWalker 4 = .ok (.iload_n 1, 1) := by decide +kernel
theorem dX10_needWalker_5 : decode cX10_needWalker 5 = .ok (.aload_n 0, 1) := by decide +kernel
theorem dX10_needWalker_6 : decode cX10_needWalker 6 = .ok (.getfield 23, 3) := by decide +kernel
theorem dX10_needWalker_9 : decode cX10_needWalker 9 = .ok (.getfield 188, 3) := by decide +kernel
theorem dX10_needWalker_12 : decode cX10_needWalker 12 = .ok (.if_icmp .lt 13, 3) := by decide +kernel
theorem dX10_needWalker_15 : decode cX10_needWalker 15 = .ok (.new 215, 3) := by decide +kernel
theorem dX10_needWalker_18 : decode cX10_needWalker 18 = .ok (.dup, 1) := by decide +kernel
theorem dX10_needWalker_19 : decode cX10_needWalker 19 = .ok (.ldc 243, 2) := by decide +kernel
theorem dX10_needWalker_21 : decode cX10_needWalker 21 = .ok (.invokespecial 219, 3) := by decide +kernel
theorem dX10_needWalker_24 : decode cX10_needWalker 24 = .ok (.athrow, 1) := by decide +kernel
theorem dX10_needWalker_25 : decode cX10_needWalker 25 = .ok (.return_, 1) := by decide +kernel
theorem dX10_needCell_0 : decode cX10_needCell 0 = .ok (.iload_n 1, 1) := by decide +kernel
theorem dX10_needCell_1 : decode cX10_needCell 1 = .ok (.ifCond .lt 14, 3) := by decide +kernel
theorem dX10_needCell_4 : decode cX10_needCell 4 = .ok (.iload_n 1, 1) := by decide +kernel
theorem dX10_needCell_5 : decode cX10_needCell 5 = .ok (.aload_n 0, 1) := by decide +kernel
theorem dX10_needCell_6 : decode cX10_needCell 6 = .ok (.getfield 23, 3) := by decide +kernel
theorem dX10_needCell_9 : decode cX10_needCell 9 = .ok (.invokevirtual 245, 3) := by decide +kernel
theorem dX10_needCell_12 : decode cX10_needCell 12 = .ok (.if_icmp .lt 13, 3) := by decide +kernel
theorem dX10_needCell_15 : decode cX10_needCell 15 = .ok (.new 215, 3) := by decide +kernel
theorem dX10_needCell_18 : decode cX10_needCell 18 = .ok (.dup, 1) := by decide +kernel
theorem dX10_needCell_19 : decode cX10_needCell 19 = .ok (.ldc 249, 2) := by decide +kernel
theorem dX10_needCell_21 : decode cX10_needCell 21 = .ok (.invokespecial 219, 3) := by decide +kernel
theorem dX10_needCell_24 : decode cX10_needCell 24 = .ok (.athrow, 1) := by decide +kernel
theorem dX10_needCell_25 : decode cX10_needCell 25 = .ok (.return_, 1) := by decide +kernel
theorem dX10_needPart_0 : decode cX10_needPart 0 = .ok (.iload_n 1, 1) := by decide +kernel
theorem dX10_needPart_1 : decode cX10_needPart 1 = .ok (.ifCond .eq 18, 3) := by decide +kernel
theorem dX10_needPart_4 : decode cX10_needPart 4 = .ok (.iload_n 1, 1) := by decide +kernel
theorem dX10_needPart_5 : decode cX10_needPart 5 = .ok (.iconst 1, 1) := by decide +kernel
theorem dX10_needPart_6 : decode cX10_needPart 6 = .ok (.if_icmp .eq 13, 3) := by decide +kernel
theorem dX10_needPart_9 : decode cX10_needPart 9 = .ok (.new 215, 3) := by decide +kernel
theorem dX10_needPart_12 : decode cX10_needPart 12 = .ok (.dup, 1) := by decide +kernel
theorem dX10_needPart_13 : decode cX10_needPart 13 = .ok (.ldc 251, 2) := by decide +kernel
theorem dX10_needPart_15 : decode cX10_needPart 15 = .ok (.invokespecial 219, 3) := by decide +kernel
theorem dX10_needPart_18 : decode cX10_needPart 18 = .ok (.athrow, 1) := by decide +kernel
theorem dX10_needPart_19 : decode cX10_needPart 19 = .ok (.return_, 1) := by decide +kernel
theorem dX10_needLength_0 : decode cX10_needLength 0 = .ok (.iload_n 1, 1) := by decide +kernel
theorem dX10_needLength_1 : decode cX10_needLength 1 = .ok (.iconst 1, 1) := by decide +kernel
theorem dX10_needLength_2 : decode cX10_needLength 2 = .ok (.if_icmp .lt 8, 3) := by decide +kernel
theorem dX10_needLength_5 : decode cX10_needLength 5 = .ok (.iload_n 1, 1) := by decide +kernel
theorem dX10_needLength_6 : decode cX10_needLength 6 = .ok (.iconst 4, 1) := by decide +kernel
theorem dX10_needLength_7 : decode cX10_needLength 7 = .ok (.if_icmp .le 13, 3) := by decide +kernel
theorem dX10_needLength_10 : decode cX10_needLength 10 = .ok (.new 155, 3) := by decide +kernel
theorem dX10_needLength_13 : decode cX10_needLength 13 = .ok (.dup, 1) := by decide +kernel
theorem dX10_needLength_14 : decode cX10_needLength 14 = .ok (.ldc 253, 2) := by decide +kernel
theorem dX10_needLength_16 : decode cX10_needLength 16 = .ok (.invokespecial 159, 3) := by decide +kernel
theorem dX10_needLength_19 : decode cX10_needLength 19 = .ok (.athrow, 1) := by decide +kernel
theorem dX10_needLength_20 : decode cX10_needLength 20 = .ok (.return_, 1) := by decide +kernel
theorem dX10_openTape_0 : decode cX10_openTape 0 = .ok (.iload_n 1, 1) := by decide +kernel
theorem dX10_openTape_1 : decode cX10_openTape 1 = .ok (.ifCond .lt 11, 3) := by decide +kernel
theorem dX10_openTape_4 : decode cX10_openTape 4 = .ok (.iload_n 1, 1) := by decide +kernel
theorem dX10_openTape_5 : decode cX10_openTape 5 = .ok (.aload_n 0, 1) := by decide +kernel
theorem dX10_openTape_6 : decode cX10_openTape 6 = .ok (.getfield 129, 3) := by decide +kernel
theorem dX10_openTape_9 : decode cX10_openTape 9 = .ok (.if_icmp .le 13, 3) := by decide +kernel
theorem dX10_openTape_12 : decode cX10_openTape 12 = .ok (.new 155, 3) := by decide +kernel
theorem dX10_openTape_15 : decode cX10_openTape 15 = .ok (.dup, 1) := by decide +kernel
theorem dX10_openTape_16 : decode cX10_openTape 16 = .ok (.ldc 157, 2) := by decide +kernel
theorem dX10_openTape_18 : decode cX10_openTape 18 = .ok (.invokespecial 159, 3) := by decide +kernel
theorem dX10_openTape_21 : decode cX10_openTape 21 = .ok (.athrow, 1) := by decide +kernel
theorem dX10_openTape_22 : decode cX10_openTape 22 = .ok (.aload_n 0, 1) := by decide +kernel
theorem dX10_openTape_23 : decode cX10_openTape 23 = .ok (.getfield 16, 3) := by decide +kernel
theorem dX10_openTape_26 : decode cX10_openTape 26 = .ok (.aload_n 0, 1) := by decide +kernel
theorem dX10_openTape_27 : decode cX10_openTape 27 = .ok (.getfield 9, 3) := by decide +kernel
theorem dX10_openTape_30 : decode cX10_openTape 30 = .ok (.iload_n 1, 1) := by decide +kernel
theorem dX10_openTape_31 : decode cX10_openTape 31 = .ok (.invokevirtual 162, 3) := by decide +kernel
theorem dX10_openTape_34 : decode cX10_openTape 34 = .ok (.aload_n 0, 1) := by decide +kernel
theorem dX10_openTape_35 : decode cX10_openTape 35 = .ok (.iconst 0, 1) := by decide +kernel
theorem dX10_openTape_36 : decode cX10_openTape 36 = .ok (.putfield 129, 3) := by decide +kernel
theorem dX10_openTape_39 : decode cX10_openTape 39 = .ok (.return_, 1) := by decide +kernel
theorem dX10_flat_0 : decode cX10_flat 0 = .ok (.aload_n 0, 1) := by decide +kernel
theorem dX10_flat_1 : decode cX10_flat 1 = .ok (.iload_n 1, 1) := by decide +kernel
theorem dX10_flat_2 : decode cX10_flat 2 = .ok (.invokevirtual 136, 3) := by decide +kernel
theorem dX10_flat_5 : decode cX10_flat 5 = .ok (.aload_n 0, 1) := by decide +kernel
theorem dX10_flat_6 : decode cX10_flat 6 = .ok (.getfield 49, 3) := by decide +kernel
theorem dX10_flat_9 : decode cX10_flat 9 = .ok (.invokevirtual 139, 3) := by decide +kernel
theorem dX10_flat_12 : decode cX10_flat 12 = .ok (.istore_n 2, 1) := by decide +kernel
theorem dX10_flat_13 : decode cX10_flat 13 = .ok (.aload_n 0, 1) := by decide +kernel
theorem dX10_flat_14 : decode cX10_flat 14 = .ok (.aload_n 0, 1) := by decide +kernel
theorem dX10_flat_15 : decode cX10_flat 15 = .ok (.getfield 16, 3) := by decide +kernel
theorem dX10_flat_18 : decode cX10_flat 18 = .ok (.getfield 143, 3) := by decide +kernel
theorem dX10_flat_21 : decode cX10_flat 21 = .ok (.putfield 99, 3) := by decide +kernel
theorem dX10_flat_24 : decode cX10_flat 24 = .ok (.iload_n 2, 1) := by decide +kernel
theorem dX10_flat_25 : decode cX10_flat 25 = .ok (.ifCond .ne 24, 3) := by decide +kernel
theorem dX10_flat_28 : decode cX10_flat 28 = .ok (.aload_n 0, 1) := by decide +kernel
theorem dX10_flat_29 : decode cX10_flat 29 = .ok (.getfield 67, 3) := by decide +kernel
theorem dX10_flat_32 : decode cX10_flat 32 = .ok (.dup, 1) := by decide +kernel
theorem dX10_flat_33 : decode cX10_flat 33 = .ok (.getfield 146, 3) := by decide +kernel
theorem dX10_flat_36 : decode cX10_flat 36 = .ok (.iconst 1, 1) := by decide +kernel
theorem dX10_flat_37 : decode cX10_flat 37 = .ok (.iadd, 1) := by decide +kernel
theorem dX10_flat_38 : decode cX10_flat 38 = .ok (.putfield 146, 3) := by decide +kernel
theorem dX10_flat_41 : decode cX10_flat 41 = .ok (.aload_n 0, 1) := by decide +kernel
theorem dX10_flat_42 : decode cX10_flat 42 = .ok (.getfield 16, 3) := by decide +kernel
theorem dX10_flat_45 : decode cX10_flat 45 = .ok (.getfield 149, 3) := by decide +kernel
theorem dX10_flat_48 : decode cX10_flat 48 = .ok (.ireturn, 1) := by decide +kernel
theorem dX10_flat_49 : decode cX10_flat 49 = .ok (.aload_n 0, 1) := by decide +kernel
theorem dX10_flat_50 : decode cX10_flat 50 = .ok (.getfield 23, 3) := by decide +kernel
theorem dX10_flat_53 : decode cX10_flat 53 = .ok (.aload_n 0, 1) := by decide +kernel
theorem dX10_flat_54 : decode cX10_flat 54 = .ok (.getfield 27, 3) := by decide +kernel
theorem dX10_flat_57 : decode cX10_flat 57 = .ok (.invokevirtual 152, 3) := by decide +kernel
theorem dX10_flat_60 : decode cX10_flat 60 = .ok (.aload_n 0, 1) := by decide +kernel
theorem dX10_flat_61 : decode cX10_flat 61 = .ok (.invokevirtual 106, 3) := by decide +kernel
theorem dX10_flat_64 : decode cX10_flat 64 = .ok (.iconst 0, 1) := by decide +kernel
theorem dX10_flat_65 : decode cX10_flat 65 = .ok (.ireturn, 1) := by decide +kernel
theorem dX10_orders_0 : decode cX10_orders 0 = .ok (.aload_n 0, 1) := by decide +kernel
theorem dX10_orders_1 : decode cX10_orders 1 = .ok (.iload_n 1, 1) := by decide +kernel
theorem dX10_orders_2 : decode cX10_orders 2 = .ok (.invokevirtual 136, 3) := by decide +kernel
theorem dX10_orders_5 : decode cX10_orders 5 = .ok (.aload_n 0, 1) := by decide +kernel
theorem dX10_orders_6 : decode cX10_orders 6 = .ok (.getfield 58, 3) := by decide +kernel
theorem dX10_orders_9 : decode cX10_orders 9 = .ok (.aload_n 0, 1) := by decide +kernel
theorem dX10_orders_10 : decode cX10_orders 10 = .ok (.getfield 23, 3) := by decide +kernel
theorem dX10_orders_13 : decode cX10_orders 13 = .ok (.getfield 165, 3) := by decide +kernel
theorem dX10_orders_16 : decode cX10_orders 16 = .ok (.invokevirtual 168, 3) := by decide +kernel
theorem dX10_orders_19 : decode cX10_orders 19 = .ok (.istore_n 2, 1) := by decide +kernel
theorem dX10_orders_20 : decode cX10_orders 20 = .ok (.aload_n 0, 1) := by decide +kernel
theorem dX10_orders_21 : decode cX10_orders 21 = .ok (.aload_n 0, 1) := by decide +kernel
theorem dX10_orders_22 : decode cX10_orders 22 = .ok (.getfield 16, 3) := by decide +kernel
theorem dX10_orders_25 : decode cX10_orders 25 = .ok (.getfield 143, 3) := by decide +kernel
theorem dX10_orders_28 : decode cX10_orders 28 = .ok (.putfield 99, 3) := by decide +kernel
theorem dX10_orders_31 : decode cX10_orders 31 = .ok (.iload_n 2, 1) := by decide +kernel
theorem dX10_orders_32 : decode cX10_orders 32 = .ok (.ifCond .ne 26, 3) := by decide +kernel
theorem dX10_orders_35 : decode cX10_orders 35 = .ok (.aload_n 0, 1) := by decide +kernel
theorem dX10_orders_36 : decode cX10_orders 36 = .ok (.getfield 67, 3) := by decide +kernel
theorem dX10_orders_39 : decode cX10_orders 39 = .ok (.dup, 1) := by decide +kernel
theorem dX10_orders_40 : decode cX10_orders 40 = .ok (.getfield 146, 3) := by decide +kernel
theorem dX10_orders_43 : decode cX10_orders 43 = .ok (.iconst 1, 1) := by decide +kernel
theorem dX10_orders_44 : decode cX10_orders 44 = .ok (.iadd, 1) := by decide +kernel
theorem dX10_orders_45 : decode cX10_orders 45 = .ok (.putfield 146, 3) := by decide +kernel
theorem dX10_orders_48 : decode cX10_orders 48 = .ok (.iconst (-1), 1) := by decide +kernel
theorem dX10_orders_49 : decode cX10_orders 49 = .ok (.aload_n 0, 1) := by decide +kernel
theorem dX10_orders_50 : decode cX10_orders 50 = .ok (.getfield 16, 3) := by decide +kernel
theorem dX10_orders_53 : decode cX10_orders 53 = .ok (.getfield 149, 3) := by decide +kernel
theorem dX10_orders_56 : decode cX10_orders 56 = .ok (.isub, 1) := by decide +kernel
theorem dX10_orders_57 : decode cX10_orders 57 = .ok (.ireturn, 1) := by decide +kernel
theorem dX10_orders_58 : decode cX10_orders 58 = .ok (.iconst 0, 1) := by decide +kernel
theorem dX10_orders_59 : decode cX10_orders 59 = .ok (.istore_n 3, 1) := by decide +kernel
theorem dX10_orders_60 : decode cX10_orders 60 = .ok (.iload_n 3, 1) := by decide +kernel
theorem dX10_orders_61 : decode cX10_orders 61 = .ok (.aload_n 0, 1) := by decide +kernel
theorem dX10_orders_62 : decode cX10_orders 62 = .ok (.getfield 58, 3) := by decide +kernel
theorem dX10_orders_65 : decode cX10_orders 65 = .ok (.getfield 172, 3) := by decide +kernel
theorem dX10_orders_68 : decode cX10_orders 68 = .ok (.if_icmp .ge 28, 3) := by decide +kernel
theorem dX10_orders_71 : decode cX10_orders 71 = .ok (.aload_n 0, 1) := by decide +kernel
theorem dX10_orders_72 : decode cX10_orders 72 = .ok (.aload_n 0, 1) := by decide +kernel
theorem dX10_orders_73 : decode cX10_orders 73 = .ok (.getfield 58, 3) := by decide +kernel
theorem dX10_orders_76 : decode cX10_orders 76 = .ok (.getfield 175, 3) := by decide +kernel
theorem dX10_orders_79 : decode cX10_orders 79 = .ok (.iload_n 3, 1) := by decide +kernel
theorem dX10_orders_80 : decode cX10_orders 80 = .ok (.iaload, 1) := by decide +kernel
theorem dX10_orders_81 : decode cX10_orders 81 = .ok (.invokevirtual 178, 3) := by decide +kernel
theorem dX10_orders_84 : decode cX10_orders 84 = .ok (.iconst (-1), 1) := by decide +kernel
theorem dX10_orders_85 : decode cX10_orders 85 = .ok (.if_icmp .ne 5, 3) := by decide +kernel
theorem dX10_orders_88 : decode cX10_orders 88 = .ok (.iload_n 3, 1) := by decide +kernel
theorem dX10_orders_89 : decode cX10_orders 89 = .ok (.ireturn, 1) := by decide +kernel
theorem dX10_orders_90 : decode cX10_orders 90 = .ok (.iinc 3 1, 3) := by decide +kernel
theorem dX10_orders_93 : decode cX10_orders 93 = .ok (.goto (-33), 3) := by decide +kernel
theorem dX10_orders_96 : decode cX10_orders 96 = .ok (.aload_n 0, 1) := by decide +kernel
theorem dX10_orders_97 : decode cX10_orders 97 = .ok (.getfield 58, 3) := by decide +kernel
theorem dX10_orders_100 : decode cX10_orders 100 = .ok (.getfield 172, 3) := by decide +kernel
theorem dX10_orders_103 : decode cX10_orders 103 = .ok (.ireturn, 1) := by decide +kernel
theorem dX10_count_0 : decode cX10_count 0 = .ok (.iload_n 1, 1) := by decide +kernel
theorem dX10_count_1 : decode cX10_count 1 = .ok (.tableswitch 204 0 14 #[75, 83, 91, 99, 107, 115, 123, 131, 139, 147, 159, 171, 183, 188, 196], 75) := by decide +kernel
theorem dX10_count_76 : decode cX10_count 76 = .ok (.aload_n 0, 1) := by decide +kernel
theorem dX10_count_77 : decode cX10_count 77 = .ok (.getfield 23, 3) := by decide +kernel
theorem dX10_count_80 : decode cX10_count 80 = .ok (.getfield 182, 3) := by decide +kernel
theorem dX10_count_83 : decode cX10_count 83 = .ok (.ireturn, 1) := by decide +kernel
theorem dX10_count_84 : decode cX10_count 84 = .ok (.aload_n 0, 1) := by decide +kernel
theorem dX10_count_85 : decode cX10_count 85 = .ok (.getfield 23, 3) := by decide +kernel
theorem dX10_count_88 : decode cX10_count 88 = .ok (.getfield 185, 3) := by decide +kernel
theorem dX10_count_91 : decode cX10_count 91 = .ok (.ireturn, 1) := by decide +kernel
theorem dX10_count_92 : decode cX10_count 92 = .ok (.aload_n 0, 1) := by decide +kernel
theorem dX10_count_93 : decode cX10_count 93 = .ok (.getfield 23, 3) := by decide +kernel
theorem dX10_count_96 : decode cX10_count 96 = .ok (.getfield 165, 3) := by decide +kernel
theorem dX10_count_99 : decode cX10_count 99 = .ok (.ireturn, 1) := by decide +kernel
theorem dX10_count_100 : decode cX10_count 100 = .ok (.aload_n 0, 1) := by decide +kernel
theorem dX10_count_101 : decode cX10_count 101 = .ok (.getfield 23, 3) := by decide +kernel
theorem dX10_count_104 : decode cX10_count 104 = .ok (.getfield 188, 3) := by decide +kernel
theorem dX10_count_107 : decode cX10_count 107 = .ok (.ireturn, 1) := by decide +kernel
theorem dX10_count_108 : decode cX10_count 108 = .ok (.aload_n 0, 1) := by decide +kernel
theorem dX10_count_109 : decode cX10_count 109 = .ok (.getfield 23, 3) := by decide +kernel
theorem dX10_count_112 : decode cX10_count 112 = .ok (.getfield 191, 3) := by decide +kernel
theorem dX10_count_115 : decode cX10_count 115 = .ok (.ireturn, 1) := by decide +kernel
theorem dX10_count_116 : decode cX10_count 116 = .ok (.aload_n 0, 1) := by decide +kernel
theorem dX10_count_117 : decode cX10_count 117 = .ok (.getfield 23, 3) := by decide +kernel
theorem dX10_count_120 : decode cX10_count 120 = .ok (.getfield 194, 3) := by decide +kernel
theorem dX10_count_123 : decode cX10_count 123 = .ok (.ireturn, 1) := by decide +kernel
theorem dX10_count_124 : decode cX10_count 124 = .ok (.aload_n 0, 1) := by decide +kernel
theorem dX10_count_125 : decode cX10_count 125 = .ok (.getfield 23, 3) := by decide +kernel
theorem dX10_count_128 : decode cX10_count 128 = .ok (.getfield 197, 3) := by decide +kernel
theorem dX10_count_131 : decode cX10_count 131 = .ok (.ireturn, 1) := by decide +kernel
theorem dX10_count_132 : decode cX10_count 132 = .ok (.aload_n 0, 1) := by decide +kernel
theorem dX10_count_133 : decode cX10_count 133 = .ok (.getfield 67, 3) := by decide +kernel
theorem dX10_count_136 : decode cX10_count 136 = .ok (.getfield 200, 3) := by decide +kernel
theorem dX10_count_139 : decode cX10_count 139 = .ok (.ireturn, 1) := by decide +kernel
theorem dX10_count_140 : decode cX10_count 140 = .ok (.aload_n 0, 1) := by decide +kernel
theorem dX10_count_141 : decode cX10_count 141 = .ok (.getfield 67, 3) := by decide +kernel
theorem dX10_count_144 : decode cX10_count 144 = .ok (.getfield 203, 3) := by decide +kernel
theorem dX10_count_147 : decode cX10_count 147 = .ok (.ireturn, 1) := by decide +kernel
theorem dX10_count_148 : decode cX10_count 148 = .ok (.aload_n 0, 1) := by decide +kernel
theorem dX10_count_149 : decode cX10_count 149 = .ok (.getfield 67, 3) := by decide +kernel
theorem dX10_count_152 : decode cX10_count 152 = .ok (.getfield 206, 3) := by decide +kernel
theorem dX10_count_155 : decode cX10_count 155 = .ok (.iconst 1, 1) := by decide +kernel
theorem dX10_count_156 : decode cX10_count 156 = .ok (.invokevirtual 209, 3) := by decide +kernel
theorem dX10_count_159 : decode cX10_count 159 = .ok (.ireturn, 1) := by decide +kernel
theorem dX10_count_160 : decode cX10_count 160 = .ok (.aload_n 0, 1) := by decide +kernel
theorem dX10_count_161 : decode cX10_count 161 = .ok (.getfield 67, 3) := by decide +kernel
theorem dX10_count_164 : decode cX10_count 164 = .ok (.getfield 206, 3) := by decide +kernel
theorem dX10_count_167 : decode cX10_count 167 = .ok (.iconst 2, 1) := by decide +kernel
theorem dX10_count_168 : decode cX10_count 168 = .ok (.invokevirtual 209, 3) := by decide +kernel
theorem dX10_count_171 : decode cX10_count 171 = .ok (.ireturn, 1) := by decide +kernel
theorem dX10_count_172 : decode cX10_count 172 = .ok (.aload_n 0, 1) := by decide +kernel
theorem dX10_count_173 : decode cX10_count 173 = .ok (.getfield 67, 3) := by decide +kernel
theorem dX10_count_176 : decode cX10_count 176 = .ok (.getfield 206, 3) := by decide +kernel
theorem dX10_count_179 : decode cX10_count 179 = .ok (.iconst 3, 1) := by decide +kernel
theorem dX10_count_180 : decode cX10_count 180 = .ok (.invokevirtual 209, 3) := by decide +kernel
theorem dX10_count_183 : decode cX10_count 183 = .ok (.ireturn, 1) := by decide +kernel
theorem dX10_count_184 : decode cX10_count 184 = .ok (.aload_n 0, 1) := by decide +kernel
theorem dX10_count_185 : decode cX10_count 185 = .ok (.getfield 129, 3) := by decide +kernel
theorem dX10_count_188 : decode cX10_count 188 = .ok (.ireturn, 1) := by decide +kernel
theorem dX10_count_189 : decode cX10_count 189 = .ok (.aload_n 0, 1) := by decide +kernel
theorem dX10_count_190 : decode cX10_count 190 = .ok (.getfield 67, 3) := by decide +kernel
theorem dX10_count_193 : decode cX10_count 193 = .ok (.getfield 146, 3) := by decide +kernel
theorem dX10_count_196 : decode cX10_count 196 = .ok (.ireturn, 1) := by decide +kernel
theorem dX10_count_197 : decode cX10_count 197 = .ok (.aload_n 0, 1) := by decide +kernel
theorem dX10_count_198 : decode cX10_count 198 = .ok (.getfield 67, 3) := by decide +kernel
theorem dX10_count_201 : decode cX10_count 201 = .ok (.getfield 212, 3) := by decide +kernel
theorem dX10_count_204 : decode cX10_count 204 = .ok (.ireturn, 1) := by decide +kernel
theorem dX10_count_205 : decode cX10_count 205 = .ok (.new 215, 3) := by decide +kernel
theorem dX10_count_208 : decode cX10_count 208 = .ok (.dup, 1) := by decide +kernel
theorem dX10_count_209 : decode cX10_count 209 = .ok (.ldc 217, 2) := by decide +kernel
theorem dX10_count_211 : decode cX10_count 211 = .ok (.invokespecial 219, 3) := by decide +kernel
theorem dX10_count_214 : decode cX10_count 214 = .ok (.athrow, 1) := by decide +kernel
theorem dX10_tower_0 : decode cX10_tower 0 = .ok (.aload_n 0, 1) := by decide +kernel
theorem dX10_tower_1 : decode cX10_tower 1 = .ok (.iload_n 1, 1) := by decide +kernel
theorem dX10_tower_2 : decode cX10_tower 2 = .ok (.invokevirtual 220, 3) := by decide +kernel
theorem dX10_tower_5 : decode cX10_tower 5 = .ok (.iload_n 2, 1) := by decide +kernel
theorem dX10_tower_6 : decode cX10_tower 6 = .ok (.tableswitch 94 0 4 #[34, 44, 54, 64, 76], 34) := by decide +kernel
theorem dX10_tower_40 : decode cX10_tower 40 = .ok (.aload_n 0, 1) := by decide +kernel
theorem dX10_tower_41 : decode cX10_tower 41 = .ok (.getfield 23, 3) := by decide +kernel
theorem dX10_tower_44 : decode cX10_tower 44 = .ok (.getfield 223, 3) := by decide +kernel
theorem dX10_tower_47 : decode cX10_tower 47 = .ok (.iload_n 1, 1) := by decide +kernel
theorem dX10_tower_48 : decode cX10_tower 48 = .ok (.iaload, 1) := by decide +kernel
theorem dX10_tower_49 : decode cX10_tower 49 = .ok (.ireturn, 1) := by decide +kernel
theorem dX10_tower_50 : decode cX10_tower 50 = .ok (.aload_n 0, 1) := by decide +kernel
theorem dX10_tower_51 : decode cX10_tower 51 = .ok (.getfield 23, 3) := by decide +kernel
theorem dX10_tower_54 : decode cX10_tower 54 = .ok (.getfield 226, 3) := by decide +kernel
theorem dX10_tower_57 : decode cX10_tower 57 = .ok (.iload_n 1, 1) := by decide +kernel
theorem dX10_tower_58 : decode cX10_tower 58 = .ok (.iaload, 1) := by decide +kernel
theorem dX10_tower_59 : decode cX10_tower 59 = .ok (.ireturn, 1) := by decide +kernel
theorem dX10_tower_60 : decode cX10_tower 60 = .ok (.aload_n 0, 1) := by decide +kernel
theorem dX10_tower_61 : decode cX10_tower 61 = .ok (.getfield 23, 3) := by decide +kernel
theorem dX10_tower_64 : decode cX10_tower 64 = .ok (.getfield 229, 3) := by decide +kernel
theorem dX10_tower_67 : decode cX10_tower 67 = .ok (.iload_n 1, 1) := by decide +kernel
theorem dX10_tower_68 : decode cX10_tower 68 = .ok (.iaload, 1) := by decide +kernel
theorem dX10_tower_69 : decode cX10_tower 69 = .ok (.ireturn, 1) := by decide +kernel
theorem dX10_tower_70 : decode cX10_tower 70 = .ok (.aload_n 0, 1) := by decide +kernel
theorem dX10_tower_71 : decode cX10_tower 71 = .ok (.getfield 67, 3) := by decide +kernel
theorem dX10_tower_74 : decode cX10_tower 74 = .ok (.getfield 206, 3) := by decide +kernel
theorem dX10_tower_77 : decode cX10_tower 77 = .ok (.iload_n 1, 1) := by decide +kernel
theorem dX10_tower_78 : decode cX10_tower 78 = .ok (.invokevirtual 232, 3) := by decide +kernel
theorem dX10_tower_81 : decode cX10_tower 81 = .ok (.ireturn, 1) := by decide +kernel
theorem dX10_tower_82 : decode cX10_tower 82 = .ok (.aload_n 0, 1) := by decide +kernel
theorem dX10_tower_83 : decode cX10_tower 83 = .ok (.getfield 23, 3) := by decide +kernel
theorem dX10_tower_86 : decode cX10_tower 86 = .ok (.getfield 235, 3) := by decide +kernel
theorem dX10_tower_89 : decode cX10_tower 89 = .ok (.iload_n 1, 1) := by decide +kernel
theorem dX10_tower_90 : decode cX10_tower 90 = .ok (.baload, 1) := by decide +kernel
theorem dX10_tower_91 : decode cX10_tower 91 = .ok (.ifCond .eq 7, 3) := by decide +kernel
theorem dX10_tower_94 : decode cX10_tower 94 = .ok (.iconst 1, 1) := by decide +kernel
theorem dX10_tower_95 : decode cX10_tower 95 = .ok (.goto 4, 3) := by decide +kernel
theorem dX10_tower_98 : decode cX10_tower 98 = .ok (.iconst 0, 1) := by decide +kernel
theorem dX10_tower_99 : decode cX10_tower 99 = .ok (.ireturn, 1) := by decide +kernel
theorem dX10_tower_100 : decode cX10_tower 100 = .ok (.new 215, 3) := by decide +kernel
theorem dX10_tower_103 : decode cX10_tower 103 = .ok (.dup, 1) := by decide +kernel
theorem dX10_tower_104 : decode cX10_tower 104 = .ok (.ldc 239, 2) := by decide +kernel
theorem dX10_tower_106 : decode cX10_tower 106 = .ok (.invokespecial 219, 3) := by decide +kernel
theorem dX10_tower_109 : decode cX10_tower 109 = .ok (.athrow, 1) := by decide +kernel
theorem dX10_walker_0 : decode cX10_walker 0 = .ok (.aload_n 0, 1) := by decide +kernel
theorem dX10_walker_1 : decode cX10_walker 1 = .ok (.iload_n 1, 1) := by decide +kernel
theorem dX10_walker_2 : decode cX10_walker 2 = .ok (.invokevirtual 255, 3) := by decide +kernel
theorem dX10_walker_5 : decode cX10_walker 5 = .ok (.iload_n 2, 1) := by decide +kernel
theorem dX10_walker_6 : decode cX10_walker 6 = .ok (.tableswitch 130 0 6 #[42, 52, 65, 78, 91, 104, 117], 42) := by decide +kernel
theorem dX10_walker_48 : decode cX10_walker 48 = .ok (.aload_n 0, 1) := by decide +kernel
theorem dX10_walker_49 : decode cX10_walker 49 = .ok (.getfield 23, 3) := by decide +kernel
theorem dX10_walker_52 : decode cX10_walker 52 = .ok (.getfield 258, 3) := by decide +kernel
theorem dX10_walker_55 : decode cX10_walker 55 = .ok (.iload_n 1, 1) := by decide +kernel
theorem dX10_walker_56 : decode cX10_walker 56 = .ok (.iaload, 1) := by decide +kernel
theorem dX10_walker_57 : decode cX10_walker 57 = .ok (.ireturn, 1) := by decide +kernel
theorem dX10_walker_58 : decode cX10_walker 58 = .ok (.aload_n 0, 1) := by decide +kernel
theorem dX10_walker_59 : decode cX10_walker 59 = .ok (.getfield 67, 3) := by decide +kernel
theorem dX10_walker_62 : decode cX10_walker 62 = .ok (.getfield 206, 3) := by decide +kernel
theorem dX10_walker_65 : decode cX10_walker 65 = .ok (.iload_n 1, 1) := by decide +kernel
theorem dX10_walker_66 : decode cX10_walker 66 = .ok (.iconst 0, 1) := by decide +kernel
theorem dX10_walker_67 : decode cX10_walker 67 = .ok (.invokevirtual 261, 3) := by decide +kernel
theorem dX10_walker_70 : decode cX10_walker 70 = .ok (.ireturn, 1) := by decide +kernel
theorem dX10_walker_71 : decode cX10_walker 71 = .ok (.aload_n 0, 1) := by decide +kernel
theorem dX10_walker_72 : decode cX10_walker 72 = .ok (.getfield 67, 3) := by decide +kernel
theorem dX10_walker_75 : decode cX10_walker 75 = .ok (.getfield 206, 3) := by decide +kernel
theorem dX10_walker_78 : decode cX10_walker 78 = .ok (.iload_n 1, 1) := by decide +kernel
theorem dX10_walker_79 : decode cX10_walker 79 = .ok (.iconst 1, 1) := by decide +kernel
theorem dX10_walker_80 : decode cX10_walker 80 = .ok (.invokevirtual 261, 3) := by decide +kernel
theorem dX10_walker_83 : decode cX10_walker 83 = .ok (.ireturn, 1) := by decide +kernel
theorem dX10_walker_84 : decode cX10_walker 84 = .ok (.aload_n 0, 1) := by decide +kernel
theorem dX10_walker_85 : decode cX10_walker 85 = .ok (.getfield 67, 3) := by decide +kernel
theorem dX10_walker_88 : decode cX10_walker 88 = .ok (.getfield 206, 3) := by decide +kernel
theorem dX10_walker_91 : decode cX10_walker 91 = .ok (.iload_n 1, 1) := by decide +kernel
theorem dX10_walker_92 : decode cX10_walker 92 = .ok (.iconst 2, 1) := by decide +kernel
theorem dX10_walker_93 : decode cX10_walker 93 = .ok (.invokevirtual 261, 3) := by decide +kernel
theorem dX10_walker_96 : decode cX10_walker 96 = .ok (.ireturn, 1) := by decide +kernel
theorem dX10_walker_97 : decode cX10_walker 97 = .ok (.aload_n 0, 1) := by decide +kernel
theorem dX10_walker_98 : decode cX10_walker 98 = .ok (.getfield 67, 3) := by decide +kernel
theorem dX10_walker_101 : decode cX10_walker 101 = .ok (.getfield 206, 3) := by decide +kernel
theorem dX10_walker_104 : decode cX10_walker 104 = .ok (.iload_n 1, 1) := by decide +kernel
theorem dX10_walker_105 : decode cX10_walker 105 = .ok (.iconst 3, 1) := by decide +kernel
theorem dX10_walker_106 : decode cX10_walker 106 = .ok (.invokevirtual 261, 3) := by decide +kernel
theorem dX10_walker_109 : decode cX10_walker 109 = .ok (.ireturn, 1) := by decide +kernel
theorem dX10_walker_110 : decode cX10_walker 110 = .ok (.aload_n 0, 1) := by decide +kernel
theorem dX10_walker_111 : decode cX10_walker 111 = .ok (.getfield 67, 3) := by decide +kernel
theorem dX10_walker_114 : decode cX10_walker 114 = .ok (.getfield 206, 3) := by decide +kernel
theorem dX10_walker_117 : decode cX10_walker 117 = .ok (.iload_n 1, 1) := by decide +kernel
theorem dX10_walker_118 : decode cX10_walker 118 = .ok (.iconst 4, 1) := by decide +kernel
theorem dX10_walker_119 : decode cX10_walker 119 = .ok (.invokevirtual 261, 3) := by decide +kernel
theorem dX10_walker_122 : decode cX10_walker 122 = .ok (.ireturn, 1) := by decide +kernel
theorem dX10_walker_123 : decode cX10_walker 123 = .ok (.aload_n 0, 1) := by decide +kernel
theorem dX10_walker_124 : decode cX10_walker 124 = .ok (.getfield 67, 3) := by decide +kernel
theorem dX10_walker_127 : decode cX10_walker 127 = .ok (.getfield 206, 3) := by decide +kernel
theorem dX10_walker_130 : decode cX10_walker 130 = .ok (.iload_n 1, 1) := by decide +kernel
theorem dX10_walker_131 : decode cX10_walker 131 = .ok (.iconst 5, 1) := by decide +kernel
theorem dX10_walker_132 : decode cX10_walker 132 = .ok (.invokevirtual 261, 3) := by decide +kernel
theorem dX10_walker_135 : decode cX10_walker 135 = .ok (.ireturn, 1) := by decide +kernel
theorem dX10_walker_136 : decode cX10_walker 136 = .ok (.new 215, 3) := by decide +kernel
theorem dX10_walker_139 : decode cX10_walker 139 = .ok (.dup, 1) := by decide +kernel
theorem dX10_walker_140 : decode cX10_walker 140 = .ok (.ldc_w 265, 3) := by decide +kernel
theorem dX10_walker_143 : decode cX10_walker 143 = .ok (.invokespecial 219, 3) := by decide +kernel
theorem dX10_walker_146 : decode cX10_walker 146 = .ok (.athrow, 1) := by decide +kernel
theorem dX10_far_0 : decode cX10_far 0 = .ok (.aload_n 0, 1) := by decide +kernel
theorem dX10_far_1 : decode cX10_far 1 = .ok (.iload_n 1, 1) := by decide +kernel
theorem dX10_far_2 : decode cX10_far 2 = .ok (.invokevirtual 220, 3) := by decide +kernel
theorem dX10_far_5 : decode cX10_far 5 = .ok (.aload_n 0, 1) := by decide +kernel
theorem dX10_far_6 : decode cX10_far 6 = .ok (.iload_n 2, 1) := by decide +kernel
theorem dX10_far_7 : decode cX10_far 7 = .ok (.invokevirtual 267, 3) := by decide +kernel
theorem dX10_far_10 : decode cX10_far 10 = .ok (.aload_n 0, 1) := by decide +kernel
theorem dX10_far_11 : decode cX10_far 11 = .ok (.getfield 23, 3) := by decide +kernel
theorem dX10_far_14 : decode cX10_far 14 = .ok (.iload_n 1, 1) := by decide +kernel
theorem dX10_far_15 : decode cX10_far 15 = .ok (.iload_n 2, 1) := by decide +kernel
theorem dX10_far_16 : decode cX10_far 16 = .ok (.invokevirtual 270, 3) := by decide +kernel
theorem dX10_far_19 : decode cX10_far 19 = .ok (.ireturn, 1) := by decide +kernel
theorem dX10_heard_0 : decode cX10_heard 0 = .ok (.aload_n 0, 1) := by decide +kernel
theorem dX10_heard_1 : decode cX10_heard 1 = .ok (.iload_n 1, 1) := by decide +kernel
theorem dX10_heard_2 : decode cX10_heard 2 = .ok (.invokevirtual 267, 3) := by decide +kernel
theorem dX10_heard_5 : decode cX10_heard 5 = .ok (.aload_n 0, 1) := by decide +kernel
theorem dX10_heard_6 : decode cX10_heard 6 = .ok (.getfield 33, 3) := by decide +kernel
theorem dX10_heard_9 : decode cX10_heard 9 = .ok (.getfield 273, 3) := by decide +kernel
theorem dX10_heard_12 : decode cX10_heard 12 = .ok (.iload_n 1, 1) := by decide +kernel
theorem dX10_heard_13 : decode cX10_heard 13 = .ok (.baload, 1) := by decide +kernel
theorem dX10_heard_14 : decode cX10_heard 14 = .ok (.ireturn, 1) := by decide +kernel
theorem dX10_ring_0 : decode cX10_ring 0 = .ok (.iload_n 2, 1) := by decide +kernel
theorem dX10_ring_1 : decode cX10_ring 1 = .ok (.ifCond .lt 10, 3) := by decide +kernel
theorem dX10_ring_4 : decode cX10_ring 4 = .ok (.iload_n 2, 1) := by decide +kernel
theorem dX10_ring_5 : decode cX10_ring 5 = .ok (.sipush 200, 3) := by decide +kernel
theorem dX10_ring_8 : decode cX10_ring 8 = .ok (.if_icmp .le 14, 3) := by decide +kernel
theorem dX10_ring_11 : decode cX10_ring 11 = .ok (.new 155, 3) := by decide +kernel
theorem dX10_ring_14 : decode cX10_ring 14 = .ok (.dup, 1) := by decide +kernel
theorem dX10_ring_15 : decode cX10_ring 15 = .ok (.ldc_w 285, 3) := by decide +kernel
theorem dX10_ring_18 : decode cX10_ring 18 = .ok (.invokespecial 159, 3) := by decide +kernel
theorem dX10_ring_21 : decode cX10_ring 21 = .ok (.athrow, 1) := by decide +kernel
theorem dX10_ring_22 : decode cX10_ring 22 = .ok (.iconst 0, 1) := by decide +kernel
theorem dX10_ring_23 : decode cX10_ring 23 = .ok (.istore_n 3, 1) := by decide +kernel
theorem dX10_ring_24 : decode cX10_ring 24 = .ok (.iload_n 3, 1) := by decide +kernel
theorem dX10_ring_25 : decode cX10_ring 25 = .ok (.iload_n 2, 1) := by decide +kernel
theorem dX10_ring_26 : decode cX10_ring 26 = .ok (.if_icmp .ge 20, 3) := by decide +kernel
theorem dX10_ring_29 : decode cX10_ring 29 = .ok (.aload_n 0, 1) := by decide +kernel
theorem dX10_ring_30 : decode cX10_ring 30 = .ok (.iload_n 1, 1) := by decide +kernel
theorem dX10_ring_31 : decode cX10_ring 31 = .ok (.invokevirtual 178, 3) := by decide +kernel
theorem dX10_ring_34 : decode cX10_ring 34 = .ok (.iconst (-1), 1) := by decide +kernel
theorem dX10_ring_35 : decode cX10_ring 35 = .ok (.if_icmp .ne 5, 3) := by decide +kernel
theorem dX10_ring_38 : decode cX10_ring 38 = .ok (.iload_n 3, 1) := by decide +kernel
theorem dX10_ring_39 : decode cX10_ring 39 = .ok (.ireturn, 1) := by decide +kernel
theorem dX10_ring_40 : decode cX10_ring 40 = .ok (.iinc 3 1, 3) := by decide +kernel
theorem dX10_ring_43 : decode cX10_ring 43 = .ok (.goto (-19), 3) := by decide +kernel
theorem dX10_ring_46 : decode cX10_ring 46 = .ok (.iload_n 2, 1) := by decide +kernel
theorem dX10_ring_47 : decode cX10_ring 47 = .ok (.ireturn, 1) := by decide +kernel
theorem dX10_why_0 : decode cX10_why 0 = .ok (.aload_n 0, 1) := by decide +kernel
theorem dX10_why_1 : decode cX10_why 1 = .ok (.iload_n 1, 1) := by decide +kernel
theorem dX10_why_2 : decode cX10_why 2 = .ok (.invokevirtual 255, 3) := by decide +kernel
theorem dX10_why_5 : decode cX10_why 5 = .ok (.iload_n 2, 1) := by decide +kernel
theorem dX10_why_6 : decode cX10_why 6 = .ok (.ifCond .lt 14, 3) := by decide +kernel
theorem dX10_why_9 : decode cX10_why 9 = .ok (.iload_n 2, 1) := by decide +kernel
theorem dX10_why_10 : decode cX10_why 10 = .ok (.aload_n 0, 1) := by decide +kernel
theorem dX10_why_11 : decode cX10_why 11 = .ok (.getfield 67, 3) := by decide +kernel
theorem dX10_why_14 : decode cX10_why 14 = .ok (.getfield 200, 3) := by decide +kernel
theorem dX10_why_17 : decode cX10_why 17 = .ok (.if_icmp .lt 14, 3) := by decide +kernel
theorem dX10_why_20 : decode cX10_why 20 = .ok (.new 215, 3) := by decide +kernel
theorem dX10_why_23 : decode cX10_why 23 = .ok (.dup, 1) := by decide +kernel
theorem dX10_why_24 : decode cX10_why 24 = .ok (.ldc_w 293, 3) := by decide +kernel
theorem dX10_why_27 : decode cX10_why 27 = .ok (.invokespecial 219, 3) := by decide +kernel
theorem dX10_why_30 : decode cX10_why 30 = .ok (.athrow, 1) := by decide +kernel
theorem dX10_why_31 : decode cX10_why 31 = .ok (.aload_n 0, 1) := by decide +kernel
theorem dX10_why_32 : decode cX10_why 32 = .ok (.getfield 67, 3) := by decide +kernel
theorem dX10_why_35 : decode cX10_why 35 = .ok (.iload_n 1, 1) := by decide +kernel
theorem dX10_why_36 : decode cX10_why 36 = .ok (.iload_n 2, 1) := by decide +kernel
theorem dX10_why_37 : decode cX10_why 37 = .ok (.invokevirtual 295, 3) := by decide +kernel
theorem dX10_why_40 : decode cX10_why 40 = .ok (.ireturn, 1) := by decide +kernel
theorem dX10_seen_0 : decode cX10_seen 0 = .ok (.iload_n 1, 1) := by decide +kernel
theorem dX10_seen_1 : decode cX10_seen 1 = .ok (.ifCond .lt 28, 3) := by decide +kernel
theorem dX10_seen_4 : decode cX10_seen 4 = .ok (.iload_n 1, 1) := by decide +kernel
theorem dX10_seen_5 : decode cX10_seen 5 = .ok (.iload_n 2, 1) := by decide +kernel
theorem dX10_seen_6 : decode cX10_seen 6 = .ok (.ifCond .eq 13, 3) := by decide +kernel
theorem dX10_seen_9 : decode cX10_seen 9 = .ok (.aload_n 0, 1) := by decide +kernel
theorem dX10_seen_10 : decode cX10_seen 10 = .ok (.getfield 23, 3) := by decide +kernel
theorem dX10_seen_13 : decode cX10_seen 13 = .ok (.getfield 185, 3) := by decide +kernel
theorem dX10_seen_16 : decode cX10_seen 16 = .ok (.goto 10, 3) := by decide +kernel
theorem dX10_seen_19 : decode cX10_seen 19 = .ok (.aload_n 0, 1) := by decide +kernel
theorem dX10_seen_20 : decode cX10_seen 20 = .ok (.getfield 23, 3) := by decide +kernel
theorem dX10_seen_23 : decode cX10_seen 23 = .ok (.getfield 182, 3) := by decide +kernel
theorem dX10_seen_26 : decode cX10_seen 26 = .ok (.if_icmp .lt 14, 3) := by decide +kernel
theorem dX10_seen_29 : decode cX10_seen 29 = .ok (.new 215, 3) := by decide +kernel
theorem dX10_seen_32 : decode cX10_seen 32 = .ok (.dup, 1) := by decide +kernel
theorem dX10_seen_33 : decode cX10_seen 33 = .ok (.ldc_w 302, 3) := by decide +kernel
theorem dX10_seen_36 : decode cX10_seen 36 = .ok (.invokespecial 219, 3) := by decide +kernel
theorem dX10_seen_39 : decode cX10_seen 39 = .ok (.athrow, 1) := by decide +kernel
theorem dX10_seen_40 : decode cX10_seen 40 = .ok (.aload_n 0, 1) := by decide +kernel
theorem dX10_seen_41 : decode cX10_seen 41 = .ok (.getfield 77, 3) := by decide +kernel
theorem dX10_seen_44 : decode cX10_seen 44 = .ok (.getfield 119, 3) := by decide +kernel
theorem dX10_seen_47 : decode cX10_seen 47 = .ok (.ifCond .ne 5, 3) := by decide +kernel
theorem dX10_seen_50 : decode cX10_seen 50 = .ok (.iconst (-1), 1) := by decide +kernel
theorem dX10_seen_51 : decode cX10_seen 51 = .ok (.ireturn, 1) := by decide +kernel
theorem dX10_seen_52 : decode cX10_seen 52 = .ok (.aload_n 0, 1) := by decide +kernel
theorem dX10_seen_53 : decode cX10_seen 53 = .ok (.getfield 77, 3) := by decide +kernel
theorem dX10_seen_56 : decode cX10_seen 56 = .ok (.iload_n 1, 1) := by decide +kernel
theorem dX10_seen_57 : decode cX10_seen 57 = .ok (.iload_n 2, 1) := by decide +kernel
theorem dX10_seen_58 : decode cX10_seen 58 = .ok (.iload_n 3, 1) := by decide +kernel
theorem dX10_seen_59 : decode cX10_seen 59 = .ok (.invokevirtual 304, 3) := by decide +kernel
theorem dX10_seen_62 : decode cX10_seen 62 = .ok (.aload_n 0, 1) := by decide +kernel
theorem dX10_seen_63 : decode cX10_seen 63 = .ok (.getfield 77, 3) := by decide +kernel
theorem dX10_seen_66 : decode cX10_seen 66 = .ok (.getfield 299, 3) := by decide +kernel
theorem dX10_seen_69 : decode cX10_seen 69 = .ok (.ireturn, 1) := by decide +kernel
theorem dX10_cases_0 : decode cX10_cases 0 = .ok (.iload_n 1, 1) := by decide +kernel
theorem dX10_cases_1 : decode cX10_cases 1 = .ok (.iconst (-1), 1) := by decide +kernel
theorem dX10_cases_2 : decode cX10_cases 2 = .ok (.if_icmp .eq 8, 3) := by decide +kernel
theorem dX10_cases_5 : decode cX10_cases 5 = .ok (.aload_n 0, 1) := by decide +kernel
theorem dX10_cases_6 : decode cX10_cases 6 = .ok (.iload_n 1, 1) := by decide +kernel
theorem dX10_cases_7 : decode cX10_cases 7 = .ok (.invokevirtual 267, 3) := by decide +kernel
theorem dX10_cases_10 : decode cX10_cases 10 = .ok (.aload_n 0, 1) := by decide +kernel
theorem dX10_cases_11 : decode cX10_cases 11 = .ok (.getfield 77, 3) := by decide +kernel
theorem dX10_cases_14 : decode cX10_cases 14 = .ok (.getfield 119, 3) := by decide +kernel
theorem dX10_cases_17 : decode cX10_cases 17 = .ok (.ifCond .ne 5, 3) := by decide +kernel
theorem dX10_cases_20 : decode cX10_cases 20 = .ok (.iconst (-1), 1) := by decide +kernel
theorem dX10_cases_21 : decode cX10_cases 21 = .ok (.ireturn, 1) := by decide +kernel
theorem dX10_cases_22 : decode cX10_cases 22 = .ok (.iload_n 1, 1) := by decide +kernel
theorem dX10_cases_23 : decode cX10_cases 23 = .ok (.iconst (-1), 1) := by decide +kernel
theorem dX10_cases_24 : decode cX10_cases 24 = .ok (.if_icmp .ne 13, 3) := by decide +kernel
theorem dX10_cases_27 : decode cX10_cases 27 = .ok (.aload_n 0, 1) := by decide +kernel
theorem dX10_cases_28 : decode cX10_cases 28 = .ok (.getfield 77, 3) := by decide +kernel
theorem dX10_cases_31 : decode cX10_cases 31 = .ok (.getfield 299, 3) := by decide +kernel
theorem dX10_cases_34 : decode cX10_cases 34 = .ok (.goto 11, 3) := by decide +kernel
theorem dX10_cases_37 : decode cX10_cases 37 = .ok (.aload_n 0, 1) := by decide +kernel
theorem dX10_cases_38 : decode cX10_cases 38 = .ok (.getfield 77, 3) := by decide +kernel
theorem dX10_cases_41 : decode cX10_cases 41 = .ok (.iload_n 1, 1) := by decide +kernel
theorem dX10_cases_42 : decode cX10_cases 42 = .ok (.invokevirtual 308, 3) := by decide +kernel
theorem dX10_cases_45 : decode cX10_cases 45 = .ok (.ireturn, 1) := by decide +kernel
theorem dX10_odds_0 : decode cX10_odds 0 = .ok (.aload_n 0, 1) := by decide +kernel
theorem dX10_odds_1 : decode cX10_odds 1 = .ok (.iload_n 1, 1) := by decide +kernel
theorem dX10_odds_2 : decode cX10_odds 2 = .ok (.invokevirtual 267, 3) := by decide +kernel
theorem dX10_odds_5 : decode cX10_odds 5 = .ok (.aload_n 0, 1) := by decide +kernel
theorem dX10_odds_6 : decode cX10_odds 6 = .ok (.iload_n 2, 1) := by decide +kernel
theorem dX10_odds_7 : decode cX10_odds 7 = .ok (.invokevirtual 311, 3) := by decide +kernel
theorem dX10_odds_10 : decode cX10_odds 10 = .ok (.aload_n 0, 1) := by decide +kernel
theorem dX10_odds_11 : decode cX10_odds 11 = .ok (.getfield 77, 3) := by decide +kernel
theorem dX10_odds_14 : decode cX10_odds 14 = .ok (.getfield 119, 3) := by decide +kernel
theorem dX10_odds_17 : decode cX10_odds 17 = .ok (.ifCond .ne 5, 3) := by decide +kernel
theorem dX10_odds_20 : decode cX10_odds 20 = .ok (.iconst (-1), 1) := by decide +kernel
theorem dX10_odds_21 : decode cX10_odds 21 = .ok (.ireturn, 1) := by decide +kernel
theorem dX10_odds_22 : decode cX10_odds 22 = .ok (.aload_n 0, 1) := by decide +kernel
theorem dX10_odds_23 : decode cX10_odds 23 = .ok (.getfield 77, 3) := by decide +kernel
theorem dX10_odds_26 : decode cX10_odds 26 = .ok (.iload_n 1, 1) := by decide +kernel
theorem dX10_odds_27 : decode cX10_odds 27 = .ok (.invokevirtual 308, 3) := by decide +kernel
theorem dX10_odds_30 : decode cX10_odds 30 = .ok (.istore_n 3, 1) := by decide +kernel
theorem dX10_odds_31 : decode cX10_odds 31 = .ok (.iload_n 3, 1) := by decide +kernel
theorem dX10_odds_32 : decode cX10_odds 32 = .ok (.ifCond .ne 5, 3) := by decide +kernel
theorem dX10_odds_35 : decode cX10_odds 35 = .ok (.iload_n 2, 1) := by decide +kernel
theorem dX10_odds_36 : decode cX10_odds 36 = .ok (.ireturn, 1) := by decide +kernel
theorem dX10_odds_37 : decode cX10_odds 37 = .ok (.aload_n 0, 1) := by decide +kernel
theorem dX10_odds_38 : decode cX10_odds 38 = .ok (.getfield 77, 3) := by decide +kernel
theorem dX10_odds_41 : decode cX10_odds 41 = .ok (.getfield 299, 3) := by decide +kernel
theorem dX10_odds_44 : decode cX10_odds 44 = .ok (.iload_n 3, 1) := by decide +kernel
theorem dX10_odds_45 : decode cX10_odds 45 = .ok (.invokestatic 314, 3) := by decide +kernel
theorem dX10_odds_48 : decode cX10_odds 48 = .ok (.istore 4, 2) := by decide +kernel
theorem dX10_odds_50 : decode cX10_odds 50 = .ok (.iload 4, 2) := by decide +kernel
theorem dX10_odds_52 : decode cX10_odds 52 = .ok (.iconst 1, 1) := by decide +kernel
theorem dX10_odds_53 : decode cX10_odds 53 = .ok (.if_icmp .ge 5, 3) := by decide +kernel
theorem dX10_odds_56 : decode cX10_odds 56 = .ok (.iconst (-1), 1) := by decide +kernel
theorem dX10_odds_57 : decode cX10_odds 57 = .ok (.ireturn, 1) := by decide +kernel
theorem dX10_odds_58 : decode cX10_odds 58 = .ok (.iload_n 2, 1) := by decide +kernel
theorem dX10_odds_59 : decode cX10_odds 59 = .ok (.ifCond .ne 7, 3) := by decide +kernel
theorem dX10_odds_62 : decode cX10_odds 62 = .ok (.iload_n 3, 1) := by decide +kernel
theorem dX10_odds_63 : decode cX10_odds 63 = .ok (.goto 10, 3) := by decide +kernel
theorem dX10_odds_66 : decode cX10_odds 66 = .ok (.aload_n 0, 1) := by decide +kernel
theorem dX10_odds_67 : decode cX10_odds 67 = .ok (.getfield 77, 3) := by decide +kernel
theorem dX10_odds_70 : decode cX10_odds 70 = .ok (.getfield 299, 3) := by decide +kernel
theorem dX10_odds_73 : decode cX10_odds 73 = .ok (.iload 4, 2) := by decide +kernel
theorem dX10_odds_75 : decode cX10_odds 75 = .ok (.idiv, 1) := by decide +kernel
theorem dX10_odds_76 : decode cX10_odds 76 = .ok (.ireturn, 1) := by decide +kernel
theorem dX10_plan_0 : decode cX10_plan 0 = .ok (.iload_n 1, 1) := by decide +kernel
theorem dX10_plan_1 : decode cX10_plan 1 = .ok (.ifCond .lt 11, 3) := by decide +kernel
theorem dX10_plan_4 : decode cX10_plan 4 = .ok (.iload_n 1, 1) := by decide +kernel
theorem dX10_plan_5 : decode cX10_plan 5 = .ok (.aload_n 0, 1) := by decide +kernel
theorem dX10_plan_6 : decode cX10_plan 6 = .ok (.getfield 123, 3) := by decide +kernel
theorem dX10_plan_9 : decode cX10_plan 9 = .ok (.if_icmp .lt 14, 3) := by decide +kernel
theorem dX10_plan_12 : decode cX10_plan 12 = .ok (.new 215, 3) := by decide +kernel
theorem dX10_plan_15 : decode cX10_plan 15 = .ok (.dup, 1) := by decide +kernel
theorem dX10_plan_16 : decode cX10_plan 16 = .ok (.ldc_w 337, 3) := by decide +kernel
theorem dX10_plan_19 : decode cX10_plan 19 = .ok (.invokespecial 219, 3) := by decide +kernel
theorem dX10_plan_22 : decode cX10_plan 22 = .ok (.athrow, 1) := by decide +kernel
theorem dX10_plan_23 : decode cX10_plan 23 = .ok (.aload_n 0, 1) := by decide +kernel
theorem dX10_plan_24 : decode cX10_plan 24 = .ok (.getfield 95, 3) := by decide +kernel
theorem dX10_plan_27 : decode cX10_plan 27 = .ok (.iload_n 1, 1) := by decide +kernel
theorem dX10_plan_28 : decode cX10_plan 28 = .ok (.iaload, 1) := by decide +kernel
theorem dX10_plan_29 : decode cX10_plan 29 = .ok (.ireturn, 1) := by decide +kernel
theorem dX10_forever_0 : decode cX10_forever 0 = .ok (.aload_n 0, 1) := by decide +kernel
theorem dX10_forever_1 : decode cX10_forever 1 = .ok (.iload_n 1, 1) := by decide +kernel
theorem dX10_forever_2 : decode cX10_forever 2 = .ok (.invokevirtual 255, 3) := by decide +kernel
theorem dX10_forever_5 : decode cX10_forever 5 = .ok (.aload_n 0, 1) := by decide +kernel
theorem dX10_forever_6 : decode cX10_forever 6 = .ok (.iload_n 3, 1) := by decide +kernel
theorem dX10_forever_7 : decode cX10_forever 7 = .ok (.invokevirtual 311, 3) := by decide +kernel
theorem dX10_forever_10 : decode cX10_forever 10 = .ok (.aload_n 0, 1) := by decide +kernel
theorem dX10_forever_11 : decode cX10_forever 11 = .ok (.getfield 23, 3) := by decide +kernel
theorem dX10_forever_14 : decode cX10_forever 14 = .ok (.iload_n 2, 1) := by decide +kernel
theorem dX10_forever_15 : decode cX10_forever 15 = .ok (.invokevirtual 339, 3) := by decide +kernel
theorem dX10_forever_18 : decode cX10_forever 18 = .ok (.ifCond .eq 18, 3) := by decide +kernel
theorem dX10_forever_21 : decode cX10_forever 21 = .ok (.aload_n 0, 1) := by decide +kernel
theorem dX10_forever_22 : decode cX10_forever 22 = .ok (.getfield 67, 3) := by decide +kernel
theorem dX10_forever_25 : decode cX10_forever 25 = .ok (.getfield 206, 3) := by decide +kernel
theorem dX10_forever_28 : decode cX10_forever 28 = .ok (.iload_n 1, 1) := by decide +kernel
theorem dX10_forever_29 : decode cX10_forever 29 = .ok (.iconst 3, 1) := by decide +kernel
theorem dX10_forever_30 : decode cX10_forever 30 = .ok (.invokevirtual 261, 3) := by decide +kernel
theorem dX10_forever_33 : decode cX10_forever 33 = .ok (.ifCond .eq 5, 3) := by decide +kernel
theorem dX10_forever_36 : decode cX10_forever 36 = .ok (.iconst (-1), 1) := by decide +kernel
theorem dX10_forever_37 : decode cX10_forever 37 = .ok (.ireturn, 1) := by decide +kernel
theorem dX10_forever_38 : decode cX10_forever 38 = .ok (.aload_n 0, 1) := by decide +kernel
theorem dX10_forever_39 : decode cX10_forever 39 = .ok (.getfield 91, 3) := by decide +kernel
theorem dX10_forever_42 : decode cX10_forever 42 = .ok (.aload_n 0, 1) := by decide +kernel
theorem dX10_forever_43 : decode cX10_forever 43 = .ok (.getfield 67, 3) := by decide +kernel
theorem dX10_forever_46 : decode cX10_forever 46 = .ok (.getfield 206, 3) := by decide +kernel
theorem dX10_forever_49 : decode cX10_forever 49 = .ok (.invokevirtual 342, 3) := by decide +kernel
theorem dX10_forever_52 : decode cX10_forever 52 = .ok (.aload_n 0, 1) := by decide +kernel
theorem dX10_forever_53 : decode cX10_forever 53 = .ok (.getfield 91, 3) := by decide +kernel
theorem dX10_forever_56 : decode cX10_forever 56 = .ok (.iload_n 1, 1) := by decide +kernel
theorem dX10_forever_57 : decode cX10_forever 57 = .ok (.iload_n 2, 1) := by decide +kernel
theorem dX10_forever_58 : decode cX10_forever 58 = .ok (.iload_n 3, 1) := by decide +kernel
theorem dX10_forever_59 : decode cX10_forever 59 = .ok (.invokevirtual 345, 3) := by decide +kernel
theorem dX10_forever_62 : decode cX10_forever 62 = .ok (.ireturn, 1) := by decide +kernel
theorem dX10_night_0 : decode cX10_night 0 = .ok (.iload_n 2, 1) := by decide +kernel
theorem dX10_night_1 : decode cX10_night 1 = .ok (.ifCond .lt 9, 3) := by decide +kernel
theorem dX10_night_4 : decode cX10_night 4 = .ok (.iload_n 2, 1) := by decide +kernel
theorem dX10_night_5 : decode cX10_night 5 = .ok (.bipush 100, 2) := by decide +kernel
theorem dX10_night_7 : decode cX10_night 7 = .ok (.if_icmp .le 14, 3) := by decide +kernel
theorem dX10_night_10 : decode cX10_night 10 = .ok (.new 155, 3) := by decide +kernel
theorem dX10_night_13 : decode cX10_night 13 = .ok (.dup, 1) := by decide +kernel
theorem dX10_night_14 : decode cX10_night 14 = .ok (.ldc_w 349, 3) := by decide +kernel
theorem dX10_night_17 : decode cX10_night 17 = .ok (.invokespecial 159, 3) := by decide +kernel
theorem dX10_night_20 : decode cX10_night 20 = .ok (.athrow, 1) := by decide +kernel
theorem dX10_night_21 : decode cX10_night 21 = .ok (.iload_n 1, 1) := by decide +kernel
theorem dX10_night_22 : decode cX10_night 22 = .ok (.istore_n 3, 1) := by decide +kernel
theorem dX10_night_23 : decode cX10_night 23 = .ok (.iconst 0, 1) := by decide +kernel
theorem dX10_night_24 : decode cX10_night 24 = .ok (.istore 4, 2) := by decide +kernel
theorem dX10_night_26 : decode cX10_night 26 = .ok (.iconst 0, 1) := by decide +kernel
theorem dX10_night_27 : decode cX10_night 27 = .ok (.istore 5, 2) := by decide +kernel
theorem dX10_night_29 : decode cX10_night 29 = .ok (.iload 5, 2) := by decide +kernel
theorem dX10_night_31 : decode cX10_night 31 = .ok (.iload_n 2, 1) := by decide +kernel
theorem dX10_night_32 : decode cX10_night 32 = .ok (.if_icmp .ge 88, 3) := by decide +kernel
theorem dX10_night_35 : decode cX10_night 35 = .ok (.iconst 0, 1) := by decide +kernel
theorem dX10_night_36 : decode cX10_night 36 = .ok (.istore 6, 2) := by decide +kernel
theorem dX10_night_38 : decode cX10_night 38 = .ok (.iconst 0, 1) := by decide +kernel
theorem dX10_night_39 : decode cX10_night 39 = .ok (.istore 7, 2) := by decide +kernel
theorem dX10_night_41 : decode cX10_night 41 = .ok (.iload 7, 2) := by decide +kernel
theorem dX10_night_43 : decode cX10_night 43 = .ok (.aload_n 0, 1) := by decide +kernel
theorem dX10_night_44 : decode cX10_night 44 = .ok (.getfield 23, 3) := by decide +kernel
theorem dX10_night_47 : decode cX10_night 47 = .ok (.getfield 165, 3) := by decide +kernel
theorem dX10_night_50 : decode cX10_night 50 = .ok (.if_icmp .ge 53, 3) := by decide +kernel
theorem dX10_night_53 : decode cX10_night 53 = .ok (.iload_n 3, 1) := by decide +kernel
theorem dX10_night_54 : decode cX10_night 54 = .ok (.ldc_w 351, 3) := by decide +kernel
theorem dX10_night_57 : decode cX10_night 57 = .ok (.imul, 1) := by decide +kernel
theorem dX10_night_58 : decode cX10_night 58 = .ok (.sipush 12345, 3) := by decide +kernel
theorem dX10_night_61 : decode cX10_night 61 = .ok (.iadd, 1) := by decide +kernel
theorem dX10_night_62 : decode cX10_night 62 = .ok (.istore_n 3, 1) := by decide +kernel
theorem dX10_night_63 : decode cX10_night 63 = .ok (.iload_n 3, 1) := by decide +kernel
theorem dX10_night_64 : decode cX10_night 64 = .ok (.bipush 16, 2) := by decide +kernel
theorem dX10_night_66 : decode cX10_night 66 = .ok (.iushr, 1) := by decide +kernel
theorem dX10_night_67 : decode cX10_night 67 = .ok (.iconst 1, 1) := by decide +kernel
theorem dX10_night_68 : decode cX10_night 68 = .ok (.iand, 1) := by decide +kernel
theorem dX10_night_69 : decode cX10_night 69 = .ok (.iconst 1, 1) := by decide +kernel
theorem dX10_night_70 : decode cX10_night 70 = .ok (.if_icmp .ne 27, 3) := by decide +kernel
theorem dX10_night_73 : decode cX10_night 73 = .ok (.aload_n 0, 1) := by decide +kernel
theorem dX10_night_74 : decode cX10_night 74 = .ok (.getfield 67, 3) := by decide +kernel
theorem dX10_night_77 : decode cX10_night 77 = .ok (.getfield 206, 3) := by decide +kernel
theorem dX10_night_80 : decode cX10_night 80 = .ok (.iload 7, 2) := by decide +kernel
theorem dX10_night_82 : decode cX10_night 82 = .ok (.invokevirtual 232, 3) := by decide +kernel
theorem dX10_night_85 : decode cX10_night 85 = .ok (.ifCond .le 12, 3) := by decide +kernel
theorem dX10_night_88 : decode cX10_night 88 = .ok (.iload 6, 2) := by decide +kernel
theorem dX10_night_90 : decode cX10_night 90 = .ok (.iconst 1, 1) := by decide +kernel
theorem dX10_night_91 : decode cX10_night 91 = .ok (.iload 7, 2) := by decide +kernel
theorem dX10_night_93 : decode cX10_night 93 = .ok (.ishl, 1) := by decide +kernel
theorem dX10_night_94 : decode cX10_night 94 = .ok (.ior, 1) := by decide +kernel
theorem dX10_night_95 : decode cX10_night 95 = .ok (.istore 6, 2) := by decide +kernel
theorem dX10_night_97 : decode cX10_night 97 = .ok (.iinc 7 1, 3) := by decide +kernel
theorem dX10_night_100 : decode cX10_night 100 = .ok (.goto (-59), 3) := by decide +kernel
theorem dX10_night_103 : decode cX10_night 103 = .ok (.iload 4, 2) := by decide +kernel
theorem dX10_night_105 : decode cX10_night 105 = .ok (.aload_n 0, 1) := by decide +kernel
theorem dX10_night_106 : decode cX10_night 106 = .ok (.iload 6, 2) := by decide +kernel
theorem dX10_night_108 : decode cX10_night 108 = .ok (.invokevirtual 178, 3) := by decide +kernel
theorem dX10_night_111 : decode cX10_night 111 = .ok (.iadd, 1) := by decide +kernel
theorem dX10_night_112 : decode cX10_night 112 = .ok (.istore 4, 2) := by decide +kernel
theorem dX10_night_114 : decode cX10_night 114 = .ok (.iinc 5 1, 3) := by decide +kernel
theorem dX10_night_117 : decode cX10_night 117 = .ok (.goto (-88), 3) := by decide +kernel
theorem dX10_night_120 : decode cX10_night 120 = .ok (.iload 4, 2) := by decide +kernel
theorem dX10_night_122 : decode cX10_night 122 = .ok (.ireturn, 1) := by decide +kernel
def wpX10_needTower_J15 (sG : AR) (post : Prop) (postX : String → Prop) : Prop := postX exN
def wpX10_needTower (sG : AR) (x1 : Int32) (post : Prop) (postX : String → Prop) : Prop := ((x1 < 0 → wpX10_needTower_J15 sG post postX) ∧ (¬ x1 < 0 → ((x1 < (sG 2) → post) ∧ (¬ x1 < (sG 2) → wpX10_needTower_J15 sG post postX))))
set_option maxHeartbeats 4000000 in
set_option maxRecDepth 100000 in
theorem ctX10_needTower (l : Launch) (D : va_G) (cy : Nat → ClassId) (ev : Nat → Nat) (hst : l.stackTraces = false) (h0 : Nat) (rS : Nat → Nat) (rG : Nat → Nat) (sS : AR) (sG : AR) (x1 : Int32) (sz : Nat) (post : Prop) (postX : String → Prop) (h : wpX10_needTower sG x1 post postX) : vx_Met l yX10_needTower (Cond.code yX10_needTower cX10_needTower 2 none :: TB) ({ frames := 6, cells := 1, slots := 6, locals := 100 }) (va_Pc [.ref h0, .int x1] (PreT D cy ev [(h0, .inr (10, oX10 rS sS)), ((rS 2), .inr (4, oX4 rG sG))] sz)) (va_Qv (fun (u : Unit) => post) (fun u => BkX D cy [(h0, .inr (10, oX10 rS sS)), ((rS 2), .inr (4, oX4 rG sG))] sz [(h0, .inr (10, oX10 rS sS)), ((rS 2), .inr (4, oX4 rG sG))]) (va_A [(h0, .inr (10, oX10 rS sS)), ((rS 2), .inr (4, oX4 rG sG))] sz)) (XcX D cy [(h0, .inr (10, oX10 rS sS)), ((rS 2), .inr (4, oX4 rG sG))] sz postX) 1 6 (va_A [(h0, .inr (10, oX10 rS sS)), ((rS 2), .inr (4, oX4 rG sG))] sz) := by
  refine ofXv hst (by decide) rfl (Nat.le_of_ble_eq_true rfl) ⟨by decide, by decide, by decide, by decide⟩ ?_
  intro p e s m args below meth c ls A R QQ hx hb hml hown hts hR hlk hE hT hK hP hD hS hA hl hthr hnN hnNW hnI hnIW hret
  have hRc : 1 ≤ R.cells := by rw [hR]; exact Nat.le_refl _
  have hRs : 6 ≤ R.slots := by rw [hR]; exact Nat.le_refl _
  have hown : s.vm.findClass RX10 = some m.cls := hown
  have hRf : 6 ≤ R.frames := by rw [hR]; exact Nat.le_refl _
  have hRl : 100 ≤ R.locals := by rw [hR]; exact Nat.le_refl _
  clear hR
  have hl : lv_has ls 2 [(0, .ref h0), (1, .int x1)] := hl
  have J15 : ∀ (H : Heap) (locs : List Loc) (ls : Array Slot), wpX10_needTower_J15 sG post postX → va_P D clsX [(h0, .inr (10, oX10 rS sS)), ((rS 2), .inr (4, oX4 rG sG))] H → va_D A [(h0, .inr (10, oX10 rS sS)), ((rS 2), .inr (4, oX4 rG sG))] → va_S A s.heap H locs → lv_has ls 2 [(0, .ref h0)] → W p l e R s m args below meth c H locs 0 0 QQ (F0 m 15 ls []) := by
    intro  H locs ls h hP hD hS hl
    exact hnN _ _ _ _ _ _ _ _ _ _ (hE.1 20 (by decide)).1 h hP hD hS hl.1 (by decide) (by decide) (Nat.le_of_ble_eq_true rfl) dX10_needTower_15 dX10_needTower_18 dX10_needTower_19 dX10_needTower_21 dX10_needTower_24
  refine lv_iload_n hx hb dX10_needTower_0 rfl (lv_at hl 1 rfl) ?_
  refine lv_if_lt (tgt := 15) hx hb dX10_needTower_1 (by decide) (fun c1 => ?_) (fun c1 => ?_)
  · have h := h.1 c1
    exact J15  _ _ _ h hP hD hS (lv_sub hl [0] rfl)
  · have h := h.2 c1
    refine lv_iload_n hx hb dX10_needTower_4 rfl (lv_at hl 1 rfl) ?_
    refine lv_aload_n hx hb dX10_needTower_5 rfl (lv_at hl 0 rfl) ?_
    refine gfX10_23 hx hb hts hown hK hP 0 rfl dX10_needTower_6 ?_
    refine gfX10_165 (v := (sG 2)) hx hb hts hown hK hP 1 rfl rfl dX10_needTower_9 ?_
    refine lv_icmp_lt (tgt := 25) hx hb dX10_needTower_12 (by decide) (fun c12 => ?_) (fun c12 => ?_)
    · have h := h.1 c12
      refine W.widen (k := 1) (n := 6) (by decide) (by decide) ?_
      exact hret () _ _ _ _ dX10_needTower_25 h hP hD hS
    · have h := h.2 c12
      exact J15  _ _ _ h hP hD hS (lv_sub hl [0] rfl)
def wpX10_needWalker_J15 (sG : AR) (post : Prop) (postX : String → Prop) : Prop := postX exN
def wpX10_needWalker (sG : AR) (x1 : Int32) (post : Prop) (postX : String → Prop) : Prop := ((x1 < 0 → wpX10_needWalker_J15 sG post postX) ∧ (¬ x1 < 0 → ((x1 < (sG 3) → post) ∧ (¬ x1 < (sG 3) → wpX10_needWalker_J15 sG post postX))))
set_option maxHeartbeats 4000000 in
set_option maxRecDepth 100000 in
theorem ctX10_needWalker (l : Launch) (D : va_G) (cy : Nat → ClassId) (ev : Nat → Nat) (hst : l.stackTraces = false) (h0 : Nat) (rS : Nat → Nat) (rG : Nat → Nat) (sS : AR) (sG : AR) (x1 : Int32) (sz : Nat) (post : Prop) (postX : String → Prop) (h : wpX10_needWalker sG x1 post postX) : vx_Met l yX10_needWalker (Cond.code yX10_needWalker cX10_needWalker 2 none :: TB) ({ frames := 6, cells := 1, slots := 6, locals := 100 }) (va_Pc [.ref h0, .int x1] (PreT D cy ev [(h0, .inr (10, oX10 rS sS)), ((rS 2), .inr (4, oX4 rG sG))] sz)) (va_Qv (fun (u : Unit) => post) (fun u => BkX D cy [(h0, .inr (10, oX10 rS sS)), ((rS 2), .inr (4, oX4 rG sG))] sz [(h0, .inr (10, oX10 rS sS)), ((rS 2), .inr (4, oX4 rG sG))]) (va_A [(h0, .inr (10, oX10 rS sS)), ((rS 2), .inr (4, oX4 rG sG))] sz)) (XcX D cy [(h0, .inr (10, oX10 rS sS)), ((rS 2), .inr (4, oX4 rG sG))] sz postX) 1 6 (va_A [(h0, .inr (10, oX10 rS sS)), ((rS 2), .inr (4, oX4 rG sG))] sz) := by
  refine ofXv hst (by decide) rfl (Nat.le_of_ble_eq_true rfl) ⟨by decide, by decide, by decide, by decide⟩ ?_
  intro p e s m args below meth c ls A R QQ hx hb hml hown hts hR hlk hE hT hK hP hD hS hA hl hthr hnN hnNW hnI hnIW hret
  have hRc : 1 ≤ R.cells := by rw [hR]; exact Nat.le_refl _
  have hRs : 6 ≤ R.slots := by rw [hR]; exact Nat.le_refl _
  have hown : s.vm.findClass RX10 = some m.cls := hown
  have hRf : 6 ≤ R.frames := by rw [hR]; exact Nat.le_refl _
  have hRl : 100 ≤ R.locals := by rw [hR]; exact Nat.le_refl _
  clear hR
  have hl : lv_has ls 2 [(0, .ref h0), (1, .int x1)] := hl
  have J15 : ∀ (H : Heap) (locs : List Loc) (ls : Array Slot), wpX10_needWalker_J15 sG post postX → va_P D clsX [(h0, .inr (10, oX10 rS sS)), ((rS 2), .inr (4, oX4 rG sG))] H → va_D A [(h0, .inr (10, oX10 rS sS)), ((rS 2), .inr (4, oX4 rG sG))] → va_S A s.heap H locs → lv_has ls 2 [(0, .ref h0)] → W p l e R s m args below meth c H locs 0 0 QQ (F0 m 15 ls []) := by
    intro  H locs ls h hP hD hS hl
    exact hnN _ _ _ _ _ _ _ _ _ _ (hE.1 22 (by decide)).1 h hP hD hS hl.1 (by decide) (by decide) (Nat.le_of_ble_eq_true rfl) dX10_needWalker_15 dX10_needWalker_18 dX10_needWalker_19 dX10_needWalker_21 dX10_needWalker_24
  refine lv_iload_n hx hb dX10_needWalker_0 rfl (lv_at hl 1 rfl) ?_
  refine lv_if_lt (tgt := 15) hx hb dX10_needWalker_1 (by decide) (fun c1 => ?_) (fun c1 => ?_)
  · have h := h.1 c1
    exact J15  _ _ _ h hP hD hS (lv_sub hl [0] rfl)
  · have h := h.2 c1
    refine lv_iload_n hx hb dX10_needWalker_4 rfl (lv_at hl 1 rfl) ?_
    refine lv_aload_n hx hb dX10_needWalker_5 rfl (lv_at hl 0 rfl) ?_
    refine gfX10_23 hx hb hts hown hK hP 0 rfl dX10_needWalker_6 ?_
    refine gfX10_188 (v := (sG 3)) hx hb hts hown hK hP 1 rfl rfl dX10_needWalker_9 ?_
    refine lv_icmp_lt (tgt := 25) hx hb dX10_needWalker_12 (by decide) (fun c12 => ?_) (fun c12 => ?_)
    · have h := h.1 c12
      refine W.widen (k := 1) (n := 6) (by decide) (by decide) ?_
      exact hret () _ _ _ _ dX10_needWalker_25 h hP hD hS
    · have h := h.2 c12
      exact J15  _ _ _ h hP hD hS (lv_sub hl [0] rfl)
def wpX10_needCell_J15 (sG : AR) (post : Prop) (postX : String → Prop) : Prop := postX exN
def wpX10_needCell (sG : AR) (x1 : Int32) (post : Prop) (postX : String → Prop) : Prop := ((x1 < 0 → wpX10_needCell_J15 sG post postX) ∧ (¬ x1 < 0 → wpX4_cells sG (fun r9 => ((x1 < r9 → post) ∧ (¬ x1 < r9 → wpX10_needCell_J15 sG post postX)))))
set_option maxHeartbeats 4000000 in
set_option maxRecDepth 100000 in
theorem ctX10_needCell (l : Launch) (D : va_G) (cy : Nat → ClassId) (ev : Nat → Nat) (hst : l.stackTraces = false) (h0 : Nat) (rS : Nat → Nat) (rG : Nat → Nat) (sS : AR) (sG : AR) (x1 : Int32) (sz : Nat) (post : Prop) (postX : String → Prop) (h : wpX10_needCell sG x1 post postX) : vx_Met l yX10_needCell (Cond.code yX10_needCell cX10_needCell 2 none :: TB) ({ frames := 6, cells := 1, slots := 6, locals := 100 }) (va_Pc [.ref h0, .int x1] (PreT D cy ev [(h0, .inr (10, oX10 rS sS)), ((rS 2), .inr (4, oX4 rG sG))] sz)) (va_Qv (fun (u : Unit) => post) (fun u => BkX D cy [(h0, .inr (10, oX10 rS sS)), ((rS 2), .inr (4, oX4 rG sG))] sz [(h0, .inr (10, oX10 rS sS)), ((rS 2), .inr (4, oX4 rG sG))]) (va_A [(h0, .inr (10, oX10 rS sS)), ((rS 2), .inr (4, oX4 rG sG))] sz)) (XcX D cy [(h0, .inr (10, oX10 rS sS)), ((rS 2), .inr (4, oX4 rG sG))] sz postX) 1 6 (va_A [(h0, .inr (10, oX10 rS sS)), ((rS 2), .inr (4, oX4 rG sG))] sz) := by
  refine ofXv hst (by decide) rfl (Nat.le_of_ble_eq_true rfl) ⟨by decide, by decide, by decide, by decide⟩ ?_
  intro p e s m args below meth c ls A R QQ hx hb hml hown hts hR hlk hE hT hK hP hD hS hA hl hthr hnN hnNW hnI hnIW hret
  have hRc : 1 ≤ R.cells := by rw [hR]; exact Nat.le_refl _
  have hRs : 6 ≤ R.slots := by rw [hR]; exact Nat.le_refl _
  have hown : s.vm.findClass RX10 = some m.cls := hown
  have hRf : 6 ≤ R.frames := by rw [hR]; exact Nat.le_refl _
  have hRl : 100 ≤ R.locals := by rw [hR]; exact Nat.le_refl _
  clear hR
  have hl : lv_has ls 2 [(0, .ref h0), (1, .int x1)] := hl
  have J15 : ∀ (H : Heap) (locs : List Loc) (ls : Array Slot), wpX10_needCell_J15 sG post postX → va_P D clsX [(h0, .inr (10, oX10 rS sS)), ((rS 2), .inr (4, oX4 rG sG))] H → va_D A [(h0, .inr (10, oX10 rS sS)), ((rS 2), .inr (4, oX4 rG sG))] → va_S A s.heap H locs → lv_has ls 2 [(0, .ref h0)] → W p l e R s m args below meth c H locs 0 0 QQ (F0 m 15 ls []) := by
    intro  H locs ls h hP hD hS hl
    exact hnN _ _ _ _ _ _ _ _ _ _ (hE.1 24 (by decide)).1 h hP hD hS hl.1 (by decide) (by decide) (Nat.le_of_ble_eq_true rfl) dX10_needCell_15 dX10_needCell_18 dX10_needCell_19 dX10_needCell_21 dX10_needCell_24
  refine lv_iload_n hx hb dX10_needCell_0 rfl (lv_at hl 1 rfl) ?_
  refine lv_if_lt (tgt := 15) hx hb dX10_needCell_1 (by decide) (fun c1 => ?_) (fun c1 => ?_)
  · have h := h.1 c1
    exact J15  _ _ _ h hP hD hS (lv_sub hl [0] rfl)
  · have h := h.2 c1
    refine lv_iload_n hx hb dX10_needCell_4 rfl (lv_at hl 1 rfl) ?_
    refine lv_aload_n hx hb dX10_needCell_5 rfl (lv_at hl 0 rfl) ?_
    refine gfX10_23 hx hb hts hown hK hP 0 rfl dX10_needCell_6 ?_
    refine clVi (As := []) (rest := [.int x1]) (Wr := [(h0, .inr (10, oX10 rS sS))]) (cq := (RX4, TX4, 16)) ⟨hx, hb, hml, hown, hts⟩ ⟨callB_of 0 hts (goodC mw397) rfl rfl rfl (hts _ (tb mw3)) (hts _ (tb mw991)) kdX4_cells ⟨Nat.le_trans (by decide) hRf, Nat.le_trans (by decide) hRl⟩, hts _ (tb mw395), hts _ (tb mw396)⟩ (ctX4_cells l D cy ev (rS 2) rG sG  _ _ h) hE hK hP hD hS hA [1] [0] rfl rfl (by decide) (by decide) (by decide) 0 rfl rfl rfl hl.1 rfl (Nat.le_of_ble_eq_true rfl) ⟨Nat.zero_le _, Nat.zero_le _⟩ dX10_needCell_9 (fun r9 u H locs h hP hD hS => ?_)
    have hP : va_P D clsX [(h0, .inr (10, oX10 rS sS)), ((rS 2), .inr (4, oX4 rG sG))] H := hP
    have hD : va_D A [(h0, .inr (10, oX10 rS sS)), ((rS 2), .inr (4, oX4 rG sG))] := hD
    refine lv_icmp_lt (tgt := 25) hx hb dX10_needCell_12 (by decide) (fun c12 => ?_) (fun c12 => ?_)
    · have h := h.1 c12
      refine W.widen (k := 1) (n := 6) (by decide) (by decide) ?_
      exact hret () _ _ _ _ dX10_needCell_25 h hP hD hS
    · have h := h.2 c12
      exact J15  _ _ _ h hP hD hS (lv_sub hl [0] rfl)
def wpX10_needPart (x1 : Int32) (post : Prop) (postX : String → Prop) : Prop := ((x1 = 0 → post) ∧ (¬ x1 = 0 → ((x1 = (1 : Int32) → post) ∧ (¬ x1 = (1 : Int32) → postX exN))))
set_option maxHeartbeats 4000000 in
set_option maxRecDepth 100000 in
theorem ctX10_needPart (l : Launch) (D : va_G) (cy : Nat → ClassId) (ev : Nat → Nat) (hst : l.stackTraces = false) (h0 : Nat) (rS : Nat → Nat) (sS : AR) (x1 : Int32) (sz : Nat) (post : Prop) (postX : String → Prop) (h : wpX10_needPart x1 post postX) : vx_Met l yX10_needPart (Cond.code yX10_needPart cX10_needPart 2 none :: TB) ({ frames := 6, cells := 1, slots := 6, locals := 100 }) (va_Pc [.ref h0, .int x1] (PreT D cy ev [(h0, .inr (10, oX10 rS sS))] sz)) (va_Qv (fun (u : Unit) => post) (fun u => BkX D cy [(h0, .inr (10, oX10 rS sS))] sz [(h0, .inr (10, oX10 rS sS))]) (va_A [(h0, .inr (10, oX10 rS sS))] sz)) (XcX D cy [(h0, .inr (10, oX10 rS sS))] sz postX) 1 6 (va_A [(h0, .inr (10, oX10 rS sS))] sz) := by
  refine ofXv hst (by decide) rfl (Nat.le_of_ble_eq_true rfl) ⟨by decide, by decide, by decide, by decide⟩ ?_
  intro p e s m args below meth c ls A R QQ hx hb hml hown hts hR hlk hE hT hK hP hD hS hA hl hthr hnN hnNW hnI hnIW hret
  have hRc : 1 ≤ R.cells := by rw [hR]; exact Nat.le_refl _
  have hRs : 6 ≤ R.slots := by rw [hR]; exact Nat.le_refl _
  have hown : s.vm.findClass RX10 = some m.cls := hown
  have hRf : 6 ≤ R.frames := by rw [hR]; exact Nat.le_refl _
  have hRl : 100 ≤ R.locals := by rw [hR]; exact Nat.le_refl _
  clear hR
  have hl : lv_has ls 2 [(0, .ref h0), (1, .int x1)] := hl
  refine lv_iload_n hx hb dX10_needPart_0 rfl (lv_at hl 1 rfl) ?_
  refine lv_if_eq (tgt := 19) hx hb dX10_needPart_1 (by decide) (fun c1 => ?_) (fun c1 => ?_)
  · have h := h.1 c1
    refine W.widen (k := 1) (n := 6) (by decide) (by decide) ?_
    exact hret () _ _ _ _ dX10_needPart_19 h hP hD hS
  · have h := h.2 c1
    refine lv_iload_n hx hb dX10_needPart_4 rfl (lv_at hl 1 rfl) ?_
    refine lv_iconst (v := (1 : Int32)) hx hb dX10_needPart_5 (by decide) ?_
    refine lv_icmp_eq (tgt := 19) hx hb dX10_needPart_6 (by decide) (fun c6 => ?_) (fun c6 => ?_)
    · have h := h.1 c6
      refine W.widen (k := 1) (n := 6) (by decide) (by decide) ?_
      exact hret () _ _ _ _ dX10_needPart_19 h hP hD hS
    · have h := h.2 c6
      exact hnN _ _ _ _ _ _ _ _ _ _ (hE.1 28 (by decide)).1 h hP hD hS hl.1 (by decide) (by decide) (Nat.le_of_ble_eq_true rfl) dX10_needPart_9 dX10_needPart_12 dX10_needPart_13 dX10_needPart_15 dX10_needPart_18
def wpX10_needLength_J10 (post : Prop) (postX : String → Prop) : Prop := postX exI
def wpX10_needLength (x1 : Int32) (post : Prop) (postX : String → Prop) : Prop := ((x1 < (1 : Int32) → wpX10_needLength_J10  post postX) ∧ (¬ x1 < (1 : Int32) → ((x1 ≤ (4 : Int32) → post) ∧ (¬ x1 ≤ (4 : Int32) → wpX10_needLength_J10  post postX))))
set_option maxHeartbeats 4000000 in
set_option maxRecDepth 100000 in
theorem ctX10_needLength (l : Launch) (D : va_G) (cy : Nat → ClassId) (ev : Nat → Nat) (hst : l.stackTraces = false) (h0 : Nat) (rS : Nat → Nat) (sS : AR) (x1 : Int32) (sz : Nat) (post : Prop) (postX : String → Prop) (h : wpX10_needLength x1 post postX) : vx_Met l yX10_needLength (Cond.code yX10_needLength cX10_needLength 2 none :: TB) ({ frames := 6, cells := 1, slots := 6, locals := 100 }) (va_Pc [.ref h0, .int x1] (PreT D cy ev [(h0, .inr (10, oX10 rS sS))] sz)) (va_Qv (fun (u : Unit) => post) (fun u => BkX D cy [(h0, .inr (10, oX10 rS sS))] sz [(h0, .inr (10, oX10 rS sS))]) (va_A [(h0, .inr (10, oX10 rS sS))] sz)) (XcX D cy [(h0, .inr (10, oX10 rS sS))] sz postX) 1 6 (va_A [(h0, .inr (10, oX10 rS sS))] sz) := by
  refine ofXv hst (by decide) rfl (Nat.le_of_ble_eq_true rfl) ⟨by decide, by decide, by decide, by decide⟩ ?_
  intro p e s m args below meth c ls A R QQ hx hb hml hown hts hR hlk hE hT hK hP hD hS hA hl hthr hnN hnNW hnI hnIW hret
  have hRc : 1 ≤ R.cells := by rw [hR]; exact Nat.le_refl _
  have hRs : 6 ≤ R.slots := by rw [hR]; exact Nat.le_refl _
  have hown : s.vm.findClass RX10 = some m.cls := hown
  have hRf : 6 ≤ R.frames := by rw [hR]; exact Nat.le_refl _
  have hRl : 100 ≤ R.locals := by rw [hR]; exact Nat.le_refl _
  clear hR
  have hl : lv_has ls 2 [(0, .ref h0), (1, .int x1)] := hl
  have J10 : ∀ (H : Heap) (locs : List Loc) (ls : Array Slot), wpX10_needLength_J10  post postX → va_P D clsX [(h0, .inr (10, oX10 rS sS))] H → va_D A [(h0, .inr (10, oX10 rS sS))] → va_S A s.heap H locs → lv_has ls 2 [(0, .ref h0)] → W p l e R s m args below meth c H locs 0 0 QQ (F0 m 10 ls []) := by
    intro  H locs ls h hP hD hS hl
    exact hnI _ _ _ _ _ _ _ _ _ _ (hE.1 29 (by decide)).1 h hP hD hS hl.1 (by decide) (by decide) (Nat.le_of_ble_eq_true rfl) dX10_needLength_10 dX10_needLength_13 dX10_needLength_14 dX10_needLength_16 dX10_needLength_19
  refine lv_iload_n hx hb dX10_needLength_0 rfl (lv_at hl 1 rfl) ?_
  refine lv_iconst (v := (1 : Int32)) hx hb dX10_needLength_1 (by decide) ?_
  refine lv_icmp_lt (tgt := 10) hx hb dX10_needLength_2 (by decide) (fun c2 => ?_) (fun c2 => ?_)
  · have h := h.1 c2
    exact J10  _ _ _ h hP hD hS (lv_sub hl [0] rfl)
  · have h := h.2 c2
    refine lv_iload_n hx hb dX10_needLength_5 rfl (lv_at hl 1 rfl) ?_
    refine lv_iconst (v := (4 : Int32)) hx hb dX10_needLength_6 (by decide) ?_
    refine lv_icmp_le (tgt := 20) hx hb dX10_needLength_7 (by decide) (fun c7 => ?_) (fun c7 => ?_)
    · have h := h.1 c7
      refine W.widen (k := 1) (n := 6) (by decide) (by decide) ?_
      exact hret () _ _ _ _ dX10_needLength_20 h hP hD hS
    · have h := h.2 c7
      exact J10  _ _ _ h hP hD hS (lv_sub hl [0] rfl)
def wpX10_openTape_J12 (sS : AR) (sR : AR) (S_tape : AR) (post : AR → AR → Prop) (postX : String → Prop) : Prop := postX exI
def wpX10_openTape (sS : AR) (sR : AR) (S_tape : AR) (x1 : Int32) (post : AR → AR → Prop) (postX : String → Prop) : Prop := ((x1 < 0 → wpX10_openTape_J12 sS sR S_tape post postX) ∧ (¬ x1 < 0 → ((x1 ≤ (sS 15) → wpX8_open sR S_tape x1 (fun sR_31 => post (upd sS 15 (0 : Int32)) sR_31)) ∧ (¬ x1 ≤ (sS 15) → wpX10_openTape_J12 sS sR S_tape post postX))))
set_option maxHeartbeats 4000000 in
set_option maxRecDepth 100000 in
theorem ctX10_openTape (l : Launch) (D : va_G) (cy : Nat → ClassId) (ev : Nat → Nat) (hst : l.stackTraces = false) (h0 : Nat) (rS : Nat → Nat) (rR : Nat → Nat) (sS : AR) (sR : AR) (S_tape : AR) (x1 : Int32) (sz : Nat) (post : AR → AR → Prop) (postX : String → Prop) (h : wpX10_openTape sS sR S_tape x1 post postX) : vx_Met l yX10_openTape (Cond.code yX10_openTape cX10_openTape 2 none :: TB) ({ frames := 6, cells := 1, slots := 6, locals := 100 }) (va_Pc [.ref h0, .int x1] (PreT D cy ev [(h0, .inr (10, oX10 rS sS)), ((rS 1), .inr (8, oX8 rR sR)), ((rS 0), .inl (cy 1, 500, .inl S_tape))] sz)) (va_Qv (fun (u : AR × AR) => post (u.1) (u.2)) (fun u => BkX D cy [(h0, .inr (10, oX10 rS sS)), ((rS 1), .inr (8, oX8 rR sR)), ((rS 0), .inl (cy 1, 500, .inl S_tape))] sz [(h0, .inr (10, oX10 rS (u.1))), ((rS 1), .inr (8, oX8 (rtQ (rS 0) rR) (u.2))), ((rS 0), .inl (cy 1, 500, .inl S_tape))]) (va_A [(h0, .inr (10, oX10 rS sS)), ((rS 1), .inr (8, oX8 rR sR)), ((rS 0), .inl (cy 1, 500, .inl S_tape))] sz)) (XcX D cy [(h0, .inr (10, oX10 rS sS)), ((rS 1), .inr (8, oX8 rR sR)), ((rS 0), .inl (cy 1, 500, .inl S_tape))] sz postX) 1 6 (va_A [(h0, .inr (10, oX10 rS sS)), ((rS 1), .inr (8, oX8 rR sR)), ((rS 0), .inl (cy 1, 500, .inl S_tape))] sz) := by
  refine ofXv hst (by decide) rfl (Nat.le_of_ble_eq_true rfl) ⟨by decide, by decide, by decide, by decide⟩ ?_
  intro p e s m args below meth c ls A R QQ hx hb hml hown hts hR hlk hE hT hK hP hD hS hA hl hthr hnN hnNW hnI hnIW hret
  have hRc : 1 ≤ R.cells := by rw [hR]; exact Nat.le_refl _
  have hRs : 6 ≤ R.slots := by rw [hR]; exact Nat.le_refl _
  have hown : s.vm.findClass RX10 = some m.cls := hown
  have hRf : 6 ≤ R.frames := by rw [hR]; exact Nat.le_refl _
  have hRl : 100 ≤ R.locals := by rw [hR]; exact Nat.le_refl _
  clear hR
  have hl : lv_has ls 2 [(0, .ref h0), (1, .int x1)] := hl
  have J12 : ∀ (H : Heap) (locs : List Loc) (ls : Array Slot), wpX10_openTape_J12 sS sR S_tape post postX → va_P D clsX [(h0, .inr (10, oX10 rS sS)), ((rS 1), .inr (8, oX8 rR sR)), ((rS 0), .inl (cy 1, 500, .inl S_tape))] H → va_D A [(h0, .inr (10, oX10 rS sS)), ((rS 1), .inr (8, oX8 rR sR)), ((rS 0), .inl (cy 1, 500, .inl S_tape))] → va_S A s.heap H locs → lv_has ls 2 [(0, .ref h0)] → W p l e R s m args below meth c H locs 0 0 QQ (F0 m 12 ls []) := by
    intro  H locs ls h hP hD hS hl
    exact hnI _ _ _ _ _ _ _ _ _ _ (hE.1 0 (by decide)).1 h hP hD hS hl.1 (by decide) (by decide) (Nat.le_of_ble_eq_true rfl) dX10_openTape_12 dX10_openTape_15 dX10_openTape_16 dX10_openTape_18 dX10_openTape_21
  refine lv_iload_n hx hb dX10_openTape_0 rfl (lv_at hl 1 rfl) ?_
  refine lv_if_lt (tgt := 12) hx hb dX10_openTape_1 (by decide) (fun c1 => ?_) (fun c1 => ?_)
  · have h := h.1 c1
    exact J12  _ _ _ h hP hD hS (lv_sub hl [0] rfl)
  · have h := h.2 c1
    refine lv_iload_n hx hb dX10_openTape_4 rfl (lv_at hl 1 rfl) ?_
    refine lv_aload_n hx hb dX10_openTape_5 rfl (lv_at hl 0 rfl) ?_
    refine gfX10_129 (v := (sS 15)) hx hb hts hown hK hP 0 rfl rfl dX10_openTape_6 ?_
    refine lv_icmp_le (tgt := 22) hx hb dX10_openTape_9 (by decide) (fun c9 => ?_) (fun c9 => ?_)
    · have h := h.1 c9
      refine lv_aload_n hx hb dX10_openTape_22 rfl (lv_at hl 0 rfl) ?_
      refine gfX10_16 hx hb hts hown hK hP 0 rfl dX10_openTape_23 ?_
      refine lv_aload_n hx hb dX10_openTape_26 rfl (lv_at hl 0 rfl) ?_
      refine gfX10_9 hx hb hts hown hK hP 0 rfl dX10_openTape_27 ?_
      refine lv_iload_n hx hb dX10_openTape_30 rfl (lv_at hl 1 rfl) ?_
      refine clVv (As := [.ref (rS 0), .int x1]) (rest := []) (Wr := [(h0, .inr (10, oX10 rS sS))]) (cq := (RX8, TX8, 10)) ⟨hx, hb, hml, hown, hts⟩ ⟨callB_of 2 hts (goodC mw731) rfl rfl rfl (hts _ (tb mw2)) (hts _ (tb mw728)) kdX8_open ⟨Nat.le_trans (by decide) hRf, Nat.le_trans (by decide) hRl⟩, hts _ (tb mw729), hts _ (tb mw730)⟩ (ctX8_open l D cy ev (rS 1) (rS 0) rR sR S_tape x1 _ _ h) hE hK hP hD hS hA [1, 2] [0] rfl rfl (by decide) (by decide) (by decide) 0 rfl rfl rfl hl.1 rfl (Nat.le_of_ble_eq_true rfl) ⟨Nat.zero_le _, Nat.zero_le _⟩ dX10_openTape_31 (fun sR_31 H locs h hP hD hS => ?_)
      have hP : va_P D clsX [(h0, .inr (10, oX10 rS sS)), ((rS 1), .inr (8, oX8 (rtQ (rS 0) rR) sR_31)), ((rS 0), .inl (cy 1, 500, .inl S_tape))] H := hP
      have hD : va_D A [(h0, .inr (10, oX10 rS sS)), ((rS 1), .inr (8, oX8 (rtQ (rS 0) rR) sR_31)), ((rS 0), .inl (cy 1, 500, .inl S_tape))] := hD
      refine lv_aload_n hx hb dX10_openTape_34 rfl (lv_at hl 0 rfl) ?_
      refine lv_iconst (v := (0 : Int32)) hx hb dX10_openTape_35 (by decide) ?_
      refine pfX10_129 hx hb hts hown hK hP hD hS 0 rfl dX10_openTape_36 (fun H locs hP hD hS => ?_)
      have hP : va_P D clsX [(h0, .inr (10, oX10 rS (upd sS 15 (0 : Int32)))), ((rS 1), .inr (8, oX8 (rtQ (rS 0) rR) sR_31)), ((rS 0), .inl (cy 1, 500, .inl S_tape))] H := hP
      have hD : va_D A [(h0, .inr (10, oX10 rS (upd sS 15 (0 : Int32)))), ((rS 1), .inr (8, oX8 (rtQ (rS 0) rR) sR_31)), ((rS 0), .inl (cy 1, 500, .inl S_tape))] := hD
      refine W.widen (k := 1) (n := 6) (by decide) (by decide) ?_
      exact hret ((upd sS 15 (0 : Int32)), sR_31) _ _ _ _ dX10_openTape_39 h hP hD hS
    · have h := h.2 c9
      exact J12  _ _ _ h hP hD hS (lv_sub hl [0] rfl)
def wpX10_flat (sS : AR) (sR : AR) (sL : AR) (sT : AR) (sC : AR) (sG : AR) (sQ : AR) (S_tape : AR) (T_towerCell : AR) (T_range : AR) (T_voice : AR) (T_strokes : AR) (T_isFalse : AR) (T_kind : AR) (T_home : AR) (T_water : AR) (T_mirage : AR) (G_towerCell : AR) (G_range : AR) (G_voice : AR) (G_strokes : AR) (G_isFalse : AR) (G_kind : AR) (G_home : AR) (G_water : AR) (G_mirage : AR) (E_heardAt : AR) (E_nearest : AR) (E_distances : AR) (E_ofVoice : AR) (E_alike : AR) (W_next : AR) (W_way : AR) (W_goal : AR) (F_all : AR) (x1 : Int32) (post : Int32 → AR → AR → AR → AR → AR → AR → AR → AR → AR → AR → AR → AR → AR → AR → AR → AR → AR → AR → AR → AR → AR → AR → AR → AR → AR → AR → AR → AR → AR → AR → AR → AR → AR → AR → Prop) (postX : String → Prop) : Prop := wpX10_openTape sS sR S_tape x1 (fun sS_2 sR_2 => wpX9_tell sL sT sR_2 T_towerCell T_range T_voice T_strokes T_isFalse T_kind T_home T_water T_mirage S_tape (fun r9 sL_9 sT_9 sR_9 T_towerCell_9 T_range_9 T_voice_9 T_strokes_9 T_isFalse_9 T_kind_9 T_home_9 T_water_9 T_mirage_9 => ∀ f16_21 : Int32, f16_21 = (sR_9 9) → ((¬ r9 = 0 → wpX4_take sT_9 sG T_towerCell_9 T_range_9 T_voice_9 T_strokes_9 T_isFalse_9 T_kind_9 T_home_9 T_water_9 T_mirage_9 G_towerCell G_range G_voice G_strokes G_isFalse G_kind G_home G_water G_mirage (fun sG_57 G_towerCell_57 G_range_57 G_voice_57 G_strokes_57 G_isFalse_57 G_kind_57 G_home_57 G_water_57 G_mirage_57 => wpX10_beginOnGround (upd sS_2 16 f16_21) sG_57 sC sQ E_heardAt E_nearest E_distances E_ofVoice E_alike G_towerCell_57 G_range_57 G_voice_57 G_strokes_57 G_home_57 G_water_57 G_mirage_57 W_next W_way W_goal F_all (fun sS_61 sC_61 sQ_61 E_heardAt_61 E_nearest_61 E_distances_61 E_ofVoice_61 E_alike_61 W_next_61 W_way_61 W_goal_61 F_all_61 => post (0 : Int32) sS_61 sR_9 sL_9 sT_9 sC_61 sG_57 sQ_61 T_towerCell_9 T_range_9 T_voice_9 T_strokes_9 T_isFalse_9 T_kind_9 T_home_9 T_water_9 T_mirage_9 G_towerCell_57 G_range_57 G_voice_57 G_strokes_57 G_isFalse_57 G_kind_57 G_home_57 G_water_57 G_mirage_57 E_heardAt_61 E_nearest_61 E_distances_61 E_ofVoice_61 E_alike_61 W_next_61 W_way_61 W_goal_61 F_all_61))) ∧ (r9 = 0 → ∀ f5_38 : Int32, f5_38 = ((sC 5) + (1 : Int32)) → post (sR_9 8) (upd sS_2 16 f16_21) sR_9 sL_9 sT_9 (upd sC 5 f5_38) sG sQ T_towerCell_9 T_range_9 T_voice_9 T_strokes_9 T_isFalse_9 T_kind_9 T_home_9 T_water_9 T_mirage_9 G_towerCell G_range G_voice G_strokes G_isFalse G_kind G_home G_water G_mirage E_heardAt E_nearest E_distances E_ofVoice E_alike W_next W_way W_goal F_all)))) postX
set_option maxHeartbeats 4000000 in
set_option maxRecDepth 100000 in
theorem ctX10_flat (l : Launch) (D : va_G) (cy : Nat → ClassId) (ev : Nat → Nat) (hst : l.stackTraces = false) (h0 : Nat) (rS : Nat → Nat) (rR : Nat → Nat) (rL : Nat → Nat) (rT : Nat → Nat) (rC : Nat → Nat) (rG : Nat → Nat) (rE : Nat → Nat) (rW : Nat → Nat) (rF : Nat → Nat) (rQ : Nat → Nat) (sS : AR) (sR : AR) (sL : AR) (sT : AR) (sC : AR) (sG : AR) (sQ : AR) (S_tape : AR) (T_towerCell : AR) (T_range : AR) (T_voice : AR) (T_strokes : AR) (T_isFalse : AR) (T_kind : AR) (T_home : AR) (T_water : AR) (T_mirage : AR) (G_towerCell : AR) (G_range : AR) (G_voice : AR) (G_strokes : AR) (G_isFalse : AR) (G_kind : AR) (G_home : AR) (G_water : AR) (G_mirage : AR) (E_heardAt : AR) (E_nearest : AR) (E_distances : AR) (E_ofVoice : AR) (E_alike : AR) (W_next : AR) (W_way : AR) (W_goal : AR) (F_all : AR) (x1 : Int32) (sz : Nat) (post : Int32 → AR → AR → AR → AR → AR → AR → AR → AR → AR → AR → AR → AR → AR → AR → AR → AR → AR → AR → AR → AR → AR → AR → AR → AR → AR → AR → AR → AR → AR → AR → AR → AR → AR → AR → Prop) (postX : String → Prop) (h : wpX10_flat sS sR sL sT sC sG sQ S_tape T_towerCell T_range T_voice T_strokes T_isFalse T_kind T_home T_water T_mirage G_towerCell G_range G_voice G_strokes G_isFalse G_kind G_home G_water G_mirage E_heardAt E_nearest E_distances E_ofVoice E_alike W_next W_way W_goal F_all x1 post postX) : vx_Met l yX10_flat (Cond.code yX10_flat cX10_flat 3 (some .int) :: TB) ({ frames := 9, cells := 1, slots := 6, locals := 310 }) (va_Pc [.ref h0, .int x1] (PreT D cy ev [(h0, .inr (10, oX10 rS sS)), ((rS 1), .inr (8, oX8 rR sR)), ((rS 6), .inr (9, oX9 (rtP (rS 1) (rS 3) 0 rL) sL)), ((rS 3), .inr (4, oX4 rT sT)), ((rS 8), .inr (0, oX0 rC sC)), ((rS 2), .inr (4, oX4 rG sG)), ((rS 4), .inr (1, oX1 rE)), ((rS 5), .inr (2, oX2 rW)), ((rC 0), .inr (3, oX3 (rtP (rS 2) (rS 4) (rS 5) rF))), ((rS 10), .inr (7, oX7 (rtP (rS 2) (rS 4) (rS 5) rQ) sQ)), ((rS 0), .inl (cy 1, 500, .inl S_tape)), ((rT 7), .inl (cy 0, 5, .inl T_towerCell)), ((rT 8), .inl (cy 0, 5, .inl T_range)), ((rT 9), .inl (cy 0, 5, .inl T_voice)), ((rT 10), .inl (cy 0, 5, .inl T_strokes)), ((rT 11), .inl (cy 2, 5, .inl T_isFalse)), ((rT 12), .inl (cy 0, 4, .inl T_kind)), ((rT 13), .inl (cy 0, 4, .inl T_home)), ((rT 14), .inl (cy 0, 4, .inl T_water)), ((rT 15), .inl (cy 2, 100, .inl T_mirage)), ((rG 7), .inl (cy 0, 5, .inl G_towerCell)), ((rG 8), .inl (cy 0, 5, .inl G_range)), ((rG 9), .inl (cy 0, 5, .inl G_voice)), ((rG 10), .inl (cy 0, 5, .inl G_strokes)), ((rG 11), .inl (cy 2, 5, .inl G_isFalse)), ((rG 12), .inl (cy 0, 4, .inl G_kind)), ((rG 13), .inl (cy 0, 4, .inl G_home)), ((rG 14), .inl (cy 0, 4, .inl G_water)), ((rG 15), .inl (cy 2, 100, .inl G_mirage)), ((rE 0), .inl (cy 1, 100, .inl E_heardAt)), ((rE 1), .inl (cy 1, 3200, .inl E_nearest)), ((rE 2), .inl (cy 0, 5, .inl E_distances)), ((rE 3), .inl (cy 0, 4, .inl E_ofVoice)), ((rE 4), .inl (cy 0, 5, .inl E_alike)), ((rW 0), .inl (cy 0, 400, .inl W_next)), ((rW 1), .inl (cy 0, 500, .inl W_way)), ((rW 2), .inl (cy 0, 5, .inl W_goal)), (((rtP (rS 2) (rS 4) (rS 5) rF) 3), .inl (cy 0, 29, .inl F_all))] sz)) (va_Qi (fun (r : Int32) (u : AR × AR × AR × AR × AR × AR × AR × AR × AR × AR × AR × AR × AR × AR × AR × AR × AR × AR × AR × AR × AR × AR × AR × AR × AR × AR × AR × AR × AR × AR × AR × AR × AR × AR) => post r (u.1) (u.2.1) (u.2.2.1) (u.2.2.2.1) (u.2.2.2.2.1) (u.2.2.2.2.2.1) (u.2.2.2.2.2.2.1) (u.2.2.2.2.2.2.2.1) (u.2.2.2.2.2.2.2.2.1) (u.2.2.2.2.2.2.2.2.2.1) (u.2.2.2.2.2.2.2.2.2.2.1) (u.2.2.2.2.2.2.2.2.2.2.2.1) (u.2.2.2.2.2.2.2.2.2.2.2.2.1) (u.2.2.2.2.2.2.2.2.2.2.2.2.2.1) (u.2.2.2.2.2.2.2.2.2.2.2.2.2.2.1) (u.2.2.2.2.2.2.2.2.2.2.2.2.2.2.2.1) (u.2.2.2.2.2.2.2.2.2.2.2.2.2.2.2.2.1) (u.2.2.2.2.2.2.2.2.2.2.2.2.2.2.2.2.2.1) (u.2.2.2.2.2.2.2.2.2.2.2.2.2.2.2.2.2.2.1) (u.2.2.2.2.2.2.2.2.2.2.2.2.2.2.2.2.2.2.2.1) (u.2.2.2.2.2.2.2.2.2.2.2.2.2.2.2.2.2.2.2.2.1) (u.2.2.2.2.2.2.2.2.2.2.2.2.2.2.2.2.2.2.2.2.2.1) (u.2.2.2.2.2.2.2.2.2.2.2.2.2.2.2.2.2.2.2.2.2.2.1) (u.2.2.2.2.2.2.2.2.2.2.2.2.2.2.2.2.2.2.2.2.2.2.2.1) (u.2.2.2.2.2.2.2.2.2.2.2.2.2.2.2.2.2.2.2.2.2.2.2.2.1) (u.2.2.2.2.2.2.2.2.2.2.2.2.2.2.2.2.2.2.2.2.2.2.2.2.2.1) (u.2.2.2.2.2.2.2.2.2.2.2.2.2.2.2.2.2.2.2.2.2.2.2.2.2.2.1) (u.2.2.2.2.2.2.2.2.2.2.2.2.2.2.2.2.2.2.2.2.2.2.2.2.2.2.2.1) (u.2.2.2.2.2.2.2.2.2.2.2.2.2.2.2.2.2.2.2.2.2.2.2.2.2.2.2.2.1) (u.2.2.2.2.2.2.2.2.2.2.2.2.2.2.2.2.2.2.2.2.2.2.2.2.2.2.2.2.2.1) (u.2.2.2.2.2.2.2.2.2.2.2.2.2.2.2.2.2.2.2.2.2.2.2.2.2.2.2.2.2.2.1) (u.2.2.2.2.2.2.2.2.2.2.2.2.2.2.2.2.2.2.2.2.2.2.2.2.2.2.2.2.2.2.2.1) (u.2.2.2.2.2.2.2.2.2.2.2.2.2.2.2.2.2.2.2.2.2.2.2.2.2.2.2.2.2.2.2.2.1) (u.2.2.2.2.2.2.2.2.2.2.2.2.2.2.2.2.2.2.2.2.2.2.2.2.2.2.2.2.2.2.2.2.2)) (fun u => BkX D cy [(h0, .inr (10, oX10 rS sS)), ((rS 1), .inr (8, oX8 rR sR)), ((rS 6), .inr (9, oX9 (rtP (rS 1) (rS 3) 0 rL) sL)), ((rS 3), .inr (4, oX4 rT sT)), ((rS 8), .inr (0, oX0 rC sC)), ((rS 2), .inr (4, oX4 rG sG)), ((rS 4), .inr (1, oX1 rE)), ((rS 5), .inr (2, oX2 rW)), ((rC 0), .inr (3, oX3 (rtP (rS 2) (rS 4) (rS 5) rF))), ((rS 10), .inr (7, oX7 (rtP (rS 2) (rS 4) (rS 5) rQ) sQ)), ((rS 0), .inl (cy 1, 500, .inl S_tape)), ((rT 7), .inl (cy 0, 5, .inl T_towerCell)), ((rT 8), .inl (cy 0, 5, .inl T_range)), ((rT 9), .inl (cy 0, 5, .inl T_voice)), ((rT 10), .inl (cy 0, 5, .inl T_strokes)), ((rT 11), .inl (cy 2, 5, .inl T_isFalse)), ((rT 12), .inl (cy 0, 4, .inl T_kind)), ((rT 13), .inl (cy 0, 4, .inl T_home)), ((rT 14), .inl (cy 0, 4, .inl T_water)), ((rT 15), .inl (cy 2, 100, .inl T_mirage)), ((rG 7), .inl (cy 0, 5, .inl G_towerCell)), ((rG 8), .inl (cy 0, 5, .inl G_range)), ((rG 9), .inl (cy 0, 5, .inl G_voice)), ((rG 10), .inl (cy 0, 5, .inl G_strokes)), ((rG 11), .inl (cy 2, 5, .inl G_isFalse)), ((rG 12), .inl (cy 0, 4, .inl G_kind)), ((rG 13), .inl (cy 0, 4, .inl G_home)), ((rG 14), .inl (cy 0, 4, .inl G_water)), ((rG 15), .inl (cy 2, 100, .inl G_mirage)), ((rE 0), .inl (cy 1, 100, .inl E_heardAt)), ((rE 1), .inl (cy 1, 3200, .inl E_nearest)), ((rE 2), .inl (cy 0, 5, .inl E_distances)), ((rE 3), .inl (cy 0, 4, .inl E_ofVoice)), ((rE 4), .inl (cy 0, 5, .inl E_alike)), ((rW 0), .inl (cy 0, 400, .inl W_next)), ((rW 1), .inl (cy 0, 500, .inl W_way)), ((rW 2), .inl (cy 0, 5, .inl W_goal)), (((rtP (rS 2) (rS 4) (rS 5) rF) 3), .inl (cy 0, 29, .inl F_all))] sz [(h0, .inr (10, oX10 rS (u.1))), ((rS 1), .inr (8, oX8 (rtQ (rS 0) rR) (u.2.1))), ((rS 6), .inr (9, oX9 (rtP (rS 1) (rS 3) 0 rL) (u.2.2.1))), ((rS 3), .inr (4, oX4 rT (u.2.2.2.1))), ((rS 8), .inr (0, oX0 rC (u.2.2.2.2.1))), ((rS 2), .inr (4, oX4 rG (u.2.2.2.2.2.1))), ((rS 4), .inr (1, oX1 rE)), ((rS 5), .inr (2, oX2 rW)), ((rC 0), .inr (3, oX3 (rtP (rS 2) (rS 4) (rS 5) rF))), ((rS 10), .inr (7, oX7 (rtP (rS 2) (rS 4) (rS 5) rQ) (u.2.2.2.2.2.2.1))), ((rS 0), .inl (cy 1, 500, .inl S_tape)), ((rT 7), .inl (cy 0, 5, .inl (u.2.2.2.2.2.2.2.1))), ((rT 8), .inl (cy 0, 5, .inl (u.2.2.2.2.2.2.2.2.1))), ((rT 9), .inl (cy 0, 5, .inl (u.2.2.2.2.2.2.2.2.2.1))), ((rT 10), .inl (cy 0, 5, .inl (u.2.2.2.2.2.2.2.2.2.2.1))), ((rT 11), .inl (cy 2, 5, .inl (u.2.2.2.2.2.2.2.2.2.2.2.1))), ((rT 12), .inl (cy 0, 4, .inl (u.2.2.2.2.2.2.2.2.2.2.2.2.1))), ((rT 13), .inl (cy 0, 4, .inl (u.2.2.2.2.2.2.2.2.2.2.2.2.2.1))), ((rT 14), .inl (cy 0, 4, .inl (u.2.2.2.2.2.2.2.2.2.2.2.2.2.2.1))), ((rT 15), .inl (cy 2, 100, .inl (u.2.2.2.2.2.2.2.2.2.2.2.2.2.2.2.1))), ((rG 7), .inl (cy 0, 5, .inl (u.2.2.2.2.2.2.2.2.2.2.2.2.2.2.2.2.1))), ((rG 8), .inl (cy 0, 5, .inl (u.2.2.2.2.2.2.2.2.2.2.2.2.2.2.2.2.2.1))), ((rG 9), .inl (cy 0, 5, .inl (u.2.2.2.2.2.2.2.2.2.2.2.2.2.2.2.2.2.2.1))), ((rG 10), .inl (cy 0, 5, .inl (u.2.2.2.2.2.2.2.2.2.2.2.2.2.2.2.2.2.2.2.1))), ((rG 11), .inl (cy 2, 5, .inl (u.2.2.2.2.2.2.2.2.2.2.2.2.2.2.2.2.2.2.2.2.1))), ((rG 12), .inl (cy 0, 4, .inl (u.2.2.2.2.2.2.2.2.2.2.2.2.2.2.2.2.2.2.2.2.2.1))), ((rG 13), .inl (cy 0, 4, .inl (u.2.2.2.2.2.2.2.2.2.2.2.2.2.2.2.2.2.2.2.2.2.2.1))), ((rG 14), .inl (cy 0, 4, .inl (u.2.2.2.2.2.2.2.2.2.2.2.2.2.2.2.2.2.2.2.2.2.2.2.1))), ((rG 15), .inl (cy 2, 100, .inl (u.2.2.2.2.2.2.2.2.2.2.2.2.2.2.2.2.2.2.2.2.2.2.2.2.1))), ((rE 0), .inl (cy 1, 100, .inl (u.2.2.2.2.2.2.2.2.2.2.2.2.2.2.2.2.2.2.2.2.2.2.2.2.2.1))), ((rE 1), .inl (cy 1, 3200, .inl (u.2.2.2.2.2.2.2.2.2.2.2.2.2.2.2.2.2.2.2.2.2.2.2.2.2.2.1))), ((rE 2), .inl (cy 0, 5, .inl (u.2.2.2.2.2.2.2.2.2.2.2.2.2.2.2.2.2.2.2.2.2.2.2.2.2.2.2.1))), ((rE 3), .inl (cy 0, 4, .inl (u.2.2.2.2.2.2.2.2.2.2.2.2.2.2.2.2.2.2.2.2.2.2.2.2.2.2.2.2.1))), ((rE 4), .inl (cy 0, 5, .inl (u.2.2.2.2.2.2.2.2.2.2.2.2.2.2.2.2.2.2.2.2.2.2.2.2.2.2.2.2.2.1))), ((rW 0), .inl (cy 0, 400, .inl (u.2.2.2.2.2.2.2.2.2.2.2.2.2.2.2.2.2.2.2.2.2.2.2.2.2.2.2.2.2.2.1))), ((rW 1), .inl (cy 0, 500, .inl (u.2.2.2.2.2.2.2.2.2.2.2.2.2.2.2.2.2.2.2.2.2.2.2.2.2.2.2.2.2.2.2.1))), ((rW 2), .inl (cy 0, 5, .inl (u.2.2.2.2.2.2.2.2.2.2.2.2.2.2.2.2.2.2.2.2.2.2.2.2.2.2.2.2.2.2.2.2.1))), (((rtP (rS 2) (rS 4) (rS 5) rF) 3), .inl (cy 0, 29, .inl (u.2.2.2.2.2.2.2.2.2.2.2.2.2.2.2.2.2.2.2.2.2.2.2.2.2.2.2.2.2.2.2.2.2)))]) (va_A [(h0, .inr (10, oX10 rS sS)), ((rS 1), .inr (8, oX8 rR sR)), ((rS 6), .inr (9, oX9 (rtP (rS 1) (rS 3) 0 rL) sL)), ((rS 3), .inr (4, oX4 rT sT)), ((rS 8), .inr (0, oX0 rC sC)), ((rS 2), .inr (4, oX4 rG sG)), ((rS 4), .inr (1, oX1 rE)), ((rS 5), .inr (2, oX2 rW)), ((rC 0), .inr (3, oX3 (rtP (rS 2) (rS 4) (rS 5) rF))), ((rS 10), .inr (7, oX7 (rtP (rS 2) (rS 4) (rS 5) rQ) sQ)), ((rS 0), .inl (cy 1, 500, .inl S_tape)), ((rT 7), .inl (cy 0, 5, .inl T_towerCell)), ((rT 8), .inl (cy 0, 5, .inl T_range)), ((rT 9), .inl (cy 0, 5, .inl T_voice)), ((rT 10), .inl (cy 0, 5, .inl T_strokes)), ((rT 11), .inl (cy 2, 5, .inl T_isFalse)), ((rT 12), .inl (cy 0, 4, .inl T_kind)), ((rT 13), .inl (cy 0, 4, .inl T_home)), ((rT 14), .inl (cy 0, 4, .inl T_water)), ((rT 15), .inl (cy 2, 100, .inl T_mirage)), ((rG 7), .inl (cy 0, 5, .inl G_towerCell)), ((rG 8), .inl (cy 0, 5, .inl G_range)), ((rG 9), .inl (cy 0, 5, .inl G_voice)), ((rG 10), .inl (cy 0, 5, .inl G_strokes)), ((rG 11), .inl (cy 2, 5, .inl G_isFalse)), ((rG 12), .inl (cy 0, 4, .inl G_kind)), ((rG 13), .inl (cy 0, 4, .inl G_home)), ((rG 14), .inl (cy 0, 4, .inl G_water)), ((rG 15), .inl (cy 2, 100, .inl G_mirage)), ((rE 0), .inl (cy 1, 100, .inl E_heardAt)), ((rE 1), .inl (cy 1, 3200, .inl E_nearest)), ((rE 2), .inl (cy 0, 5, .inl E_distances)), ((rE 3), .inl (cy 0, 4, .inl E_ofVoice)), ((rE 4), .inl (cy 0, 5, .inl E_alike)), ((rW 0), .inl (cy 0, 400, .inl W_next)), ((rW 1), .inl (cy 0, 500, .inl W_way)), ((rW 2), .inl (cy 0, 5, .inl W_goal)), (((rtP (rS 2) (rS 4) (rS 5) rF) 3), .inl (cy 0, 29, .inl F_all))] sz)) (XcX D cy [(h0, .inr (10, oX10 rS sS)), ((rS 1), .inr (8, oX8 rR sR)), ((rS 6), .inr (9, oX9 (rtP (rS 1) (rS 3) 0 rL) sL)), ((rS 3), .inr (4, oX4 rT sT)), ((rS 8), .inr (0, oX0 rC sC)), ((rS 2), .inr (4, oX4 rG sG)), ((rS 4), .inr (1, oX1 rE)), ((rS 5), .inr (2, oX2 rW)), ((rC 0), .inr (3, oX3 (rtP (rS 2) (rS 4) (rS 5) rF))), ((rS 10), .inr (7, oX7 (rtP (rS 2) (rS 4) (rS 5) rQ) sQ)), ((rS 0), .inl (cy 1, 500, .inl S_tape)), ((rT 7), .inl (cy 0, 5, .inl T_towerCell)), ((rT 8), .inl (cy 0, 5, .inl T_range)), ((rT 9), .inl (cy 0, 5, .inl T_voice)), ((rT 10), .inl (cy 0, 5, .inl T_strokes)), ((rT 11), .inl (cy 2, 5, .inl T_isFalse)), ((rT 12), .inl (cy 0, 4, .inl T_kind)), ((rT 13), .inl (cy 0, 4, .inl T_home)), ((rT 14), .inl (cy 0, 4, .inl T_water)), ((rT 15), .inl (cy 2, 100, .inl T_mirage)), ((rG 7), .inl (cy 0, 5, .inl G_towerCell)), ((rG 8), .inl (cy 0, 5, .inl G_range)), ((rG 9), .inl (cy 0, 5, .inl G_voice)), ((rG 10), .inl (cy 0, 5, .inl G_strokes)), ((rG 11), .inl (cy 2, 5, .inl G_isFalse)), ((rG 12), .inl (cy 0, 4, .inl G_kind)), ((rG 13), .inl (cy 0, 4, .inl G_home)), ((rG 14), .inl (cy 0, 4, .inl G_water)), ((rG 15), .inl (cy 2, 100, .inl G_mirage)), ((rE 0), .inl (cy 1, 100, .inl E_heardAt)), ((rE 1), .inl (cy 1, 3200, .inl E_nearest)), ((rE 2), .inl (cy 0, 5, .inl E_distances)), ((rE 3), .inl (cy 0, 4, .inl E_ofVoice)), ((rE 4), .inl (cy 0, 5, .inl E_alike)), ((rW 0), .inl (cy 0, 400, .inl W_next)), ((rW 1), .inl (cy 0, 500, .inl W_way)), ((rW 2), .inl (cy 0, 5, .inl W_goal)), (((rtP (rS 2) (rS 4) (rS 5) rF) 3), .inl (cy 0, 29, .inl F_all))] sz postX) 1 6 (va_A [(h0, .inr (10, oX10 rS sS)), ((rS 1), .inr (8, oX8 rR sR)), ((rS 6), .inr (9, oX9 (rtP (rS 1) (rS 3) 0 rL) sL)), ((rS 3), .inr (4, oX4 rT sT)), ((rS 8), .inr (0, oX0 rC sC)), ((rS 2), .inr (4, oX4 rG sG)), ((rS 4), .inr (1, oX1 rE)), ((rS 5), .inr (2, oX2 rW)), ((rC 0), .inr (3, oX3 (rtP (rS 2) (rS 4) (rS 5) rF))), ((rS 10), .inr (7, oX7 (rtP (rS 2) (rS 4) (rS 5) rQ) sQ)), ((rS 0), .inl (cy 1, 500, .inl S_tape)), ((rT 7), .inl (cy 0, 5, .inl T_towerCell)), ((rT 8), .inl (cy 0, 5, .inl T_range)), ((rT 9), .inl (cy 0, 5, .inl T_voice)), ((rT 10), .inl (cy 0, 5, .inl T_strokes)), ((rT 11), .inl (cy 2, 5, .inl T_isFalse)), ((rT 12), .inl (cy 0, 4, .inl T_kind)), ((rT 13), .inl (cy 0, 4, .inl T_home)), ((rT 14), .inl (cy 0, 4, .inl T_water)), ((rT 15), .inl (cy 2, 100, .inl T_mirage)), ((rG 7), .inl (cy 0, 5, .inl G_towerCell)), ((rG 8), .inl (cy 0, 5, .inl G_range)), ((rG 9), .inl (cy 0, 5, .inl G_voice)), ((rG 10), .inl (cy 0, 5, .inl G_strokes)), ((rG 11), .inl (cy 2, 5, .inl G_isFalse)), ((rG 12), .inl (cy 0, 4, .inl G_kind)), ((rG 13), .inl (cy 0, 4, .inl G_home)), ((rG 14), .inl (cy 0, 4, .inl G_water)), ((rG 15), .inl (cy 2, 100, .inl G_mirage)), ((rE 0), .inl (cy 1, 100, .inl E_heardAt)), ((rE 1), .inl (cy 1, 3200, .inl E_nearest)), ((rE 2), .inl (cy 0, 5, .inl E_distances)), ((rE 3), .inl (cy 0, 4, .inl E_ofVoice)), ((rE 4), .inl (cy 0, 5, .inl E_alike)), ((rW 0), .inl (cy 0, 400, .inl W_next)), ((rW 1), .inl (cy 0, 500, .inl W_way)), ((rW 2), .inl (cy 0, 5, .inl W_goal)), (((rtP (rS 2) (rS 4) (rS 5) rF) 3), .inl (cy 0, 29, .inl F_all))] sz) := by
  refine ofXi hst (by decide) rfl (Nat.le_of_ble_eq_true rfl) ⟨by decide, by decide, by decide, by decide⟩ ?_
  intro p e s m args below meth c ls A R QQ hx hb hml hown hts hR hlk hE hT hK hP hD hS hA hl hthr hnN hnNW hnI hnIW hret
  have hRc : 1 ≤ R.cells := by rw [hR]; exact Nat.le_refl _
  have hRs : 6 ≤ R.slots := by rw [hR]; exact Nat.le_refl _
  have hown : s.vm.findClass RX10 = some m.cls := hown
  have hRf : 9 ≤ R.frames := by rw [hR]; exact Nat.le_refl _
  have hRl : 310 ≤ R.locals := by rw [hR]; exact Nat.le_refl _
  clear hR
  have hl : lv_has ls 3 [(0, .ref h0), (1, .int x1)] := hl
  refine lv_aload_n hx hb dX10_flat_0 rfl (lv_at hl 0 rfl) ?_
  refine lv_iload_n hx hb dX10_flat_1 rfl (lv_at hl 1 rfl) ?_
  refine clXv (As := [.int x1]) (rest := []) (Wr := [((rS 6), .inr (9, oX9 (rtP (rS 1) (rS 3) 0 rL) sL)), ((rS 3), .inr (4, oX4 rT sT)), ((rS 8), .inr (0, oX0 rC sC)), ((rS 2), .inr (4, oX4 rG sG)), ((rS 4), .inr (1, oX1 rE)), ((rS 5), .inr (2, oX2 rW)), ((rC 0), .inr (3, oX3 (rtP (rS 2) (rS 4) (rS 5) rF))), ((rS 10), .inr (7, oX7 (rtP (rS 2) (rS 4) (rS 5) rQ) sQ)), ((rT 7), .inl (cy 0, 5, .inl T_towerCell)), ((rT 8), .inl (cy 0, 5, .inl T_range)), ((rT 9), .inl (cy 0, 5, .inl T_voice)), ((rT 10), .inl (cy 0, 5, .inl T_strokes)), ((rT 11), .inl (cy 2, 5, .inl T_isFalse)), ((rT 12), .inl (cy 0, 4, .inl T_kind)), ((rT 13), .inl (cy 0, 4, .inl T_home)), ((rT 14), .inl (cy 0, 4, .inl T_water)), ((rT 15), .inl (cy 2, 100, .inl T_mirage)), ((rG 7), .inl (cy 0, 5, .inl G_towerCell)), ((rG 8), .inl (cy 0, 5, .inl G_range)), ((rG 9), .inl (cy 0, 5, .inl G_voice)), ((rG 10), .inl (cy 0, 5, .inl G_strokes)), ((rG 11), .inl (cy 2, 5, .inl G_isFalse)), ((rG 12), .inl (cy 0, 4, .inl G_kind)), ((rG 13), .inl (cy 0, 4, .inl G_home)), ((rG 14), .inl (cy 0, 4, .inl G_water)), ((rG 15), .inl (cy 2, 100, .inl G_mirage)), ((rE 0), .inl (cy 1, 100, .inl E_heardAt)), ((rE 1), .inl (cy 1, 3200, .inl E_nearest)), ((rE 2), .inl (cy 0, 5, .inl E_distances)), ((rE 3), .inl (cy 0, 4, .inl E_ofVoice)), ((rE 4), .inl (cy 0, 5, .inl E_alike)), ((rW 0), .inl (cy 0, 400, .inl W_next)), ((rW 1), .inl (cy 0, 500, .inl W_way)), ((rW 2), .inl (cy 0, 5, .inl W_goal)), (((rtP (rS 2) (rS 4) (rS 5) rF) 3), .inl (cy 0, 29, .inl F_all))]) (cq := (RX10, TX10, 18)) ⟨hx, hb, hml, hown, hts⟩ ⟨callB_of 1 hts (goodC mw661) rfl rfl rfl (hts _ (tb mw1)) (hts _ (tb mw658)) kdX10_openTape ⟨Nat.le_trans (by decide) hRf, Nat.le_trans (by decide) hRl⟩, hts _ (tb mw660), hts _ (tb ms10)⟩ (ctX10_openTape l D cy ev hst h0 rS rR sS sR S_tape x1 _ _ _ h) hE hT hK hP hD hS hA [0, 1, 10] [2, 3, 4, 5, 6, 7, 8, 9, 11, 12, 13, 14, 15, 16, 17, 18, 19, 20, 21, 22, 23, 24, 25, 26, 27, 28, 29, 30, 31, 32, 33, 34, 35, 36, 37] rfl rfl (by decide) (by decide) (by decide) 0 rfl rfl rfl hl.1 rfl (Nat.le_of_ble_eq_true rfl) ⟨Nat.le_trans (by decide) hRc, Nat.le_trans (by decide) hRs⟩ dX10_flat_2 (fun E ce q H locs h hP hD hS g1 g2 g3 => vx_widen (by decide) (by decide) (hthr E ce q _ _ _ _ _ h (hP.sub [35, 36, 0, 1, 2, 3, 4, 5, 6, 7, 37, 8, 9, 10, 11, 12, 13, 14, 15, 16, 17, 18, 19, 20, 21, 22, 23, 24, 25, 26, 27, 28, 29, 30, 31, 32, 33, 34] rfl) (hD.sub [35, 36, 0, 1, 2, 3, 4, 5, 6, 7, 37, 8, 9, 10, 11, 12, 13, 14, 15, 16, 17, 18, 19, 20, 21, 22, 23, 24, 25, 26, 27, 28, 29, 30, 31, 32, 33, 34] (by decide) rfl) hS g1 g2 g3)) (fun u H locs h hP hD hS => ?_)
  obtain ⟨sS_2, sR_2⟩ := u
  have hP : va_P D clsX [((rS 6), .inr (9, oX9 (rtP (rS 1) (rS 3) 0 rL) sL)), ((rS 3), .inr (4, oX4 rT sT)), ((rS 8), .inr (0, oX0 rC sC)), ((rS 2), .inr (4, oX4 rG sG)), ((rS 4), .inr (1, oX1 rE)), ((rS 5), .inr (2, oX2 rW)), ((rC 0), .inr (3, oX3 (rtP (rS 2) (rS 4) (rS 5) rF))), ((rS 10), .inr (7, oX7 (rtP (rS 2) (rS 4) (rS 5) rQ) sQ)), ((rT 7), .inl (cy 0, 5, .inl T_towerCell)), ((rT 8), .inl (cy 0, 5, .inl T_range)), ((rT 9), .inl (cy 0, 5, .inl T_voice)), ((rT 10), .inl (cy 0, 5, .inl T_strokes)), ((rT 11), .inl (cy 2, 5, .inl T_isFalse)), ((rT 12), .inl (cy 0, 4, .inl T_kind)), ((rT 13), .inl (cy 0, 4, .inl T_home)), ((rT 14), .inl (cy 0, 4, .inl T_water)), ((rT 15), .inl (cy 2, 100, .inl T_mirage)), ((rG 7), .inl (cy 0, 5, .inl G_towerCell)), ((rG 8), .inl (cy 0, 5, .inl G_range)), ((rG 9), .inl (cy 0, 5, .inl G_voice)), ((rG 10), .inl (cy 0, 5, .inl G_strokes)), ((rG 11), .inl (cy 2, 5, .inl G_isFalse)), ((rG 12), .inl (cy 0, 4, .inl G_kind)), ((rG 13), .inl (cy 0, 4, .inl G_home)), ((rG 14), .inl (cy 0, 4, .inl G_water)), ((rG 15), .inl (cy 2, 100, .inl G_mirage)), ((rE 0), .inl (cy 1, 100, .inl E_heardAt)), ((rE 1), .inl (cy 1, 3200, .inl E_nearest)), ((rE 2), .inl (cy 0, 5, .inl E_distances)), ((rE 3), .inl (cy 0, 4, .inl E_ofVoice)), ((rE 4), .inl (cy 0, 5, .inl E_alike)), ((rW 0), .inl (cy 0, 400, .inl W_next)), ((rW 1), .inl (cy 0, 500, .inl W_way)), ((rW 2), .inl (cy 0, 5, .inl W_goal)), (((rtP (rS 2) (rS 4) (rS 5) rF) 3), .inl (cy 0, 29, .inl F_all)), (h0, .inr (10, oX10 rS sS_2)), ((rS 1), .inr (8, oX8 (rtQ (rS 0) rR) sR_2)), ((rS 0), .inl (cy 1, 500, .inl S_tape))] H := hP
  have hD : va_D A [((rS 6), .inr (9, oX9 (rtP (rS 1) (rS 3) 0 rL) sL)), ((rS 3), .inr (4, oX4 rT sT)), ((rS 8), .inr (0, oX0 rC sC)), ((rS 2), .inr (4, oX4 rG sG)), ((rS 4), .inr (1, oX1 rE)), ((rS 5), .inr (2, oX2 rW)), ((rC 0), .inr (3, oX3 (rtP (rS 2) (rS 4) (rS 5) rF))), ((rS 10), .inr (7, oX7 (rtP (rS 2) (rS 4) (rS 5) rQ) sQ)), ((rT 7), .inl (cy 0, 5, .inl T_towerCell)), ((rT 8), .inl (cy 0, 5, .inl T_range)), ((rT 9), .inl (cy 0, 5, .inl T_voice)), ((rT 10), .inl (cy 0, 5, .inl T_strokes)), ((rT 11), .inl (cy 2, 5, .inl T_isFalse)), ((rT 12), .inl (cy 0, 4, .inl T_kind)), ((rT 13), .inl (cy 0, 4, .inl T_home)), ((rT 14), .inl (cy 0, 4, .inl T_water)), ((rT 15), .inl (cy 2, 100, .inl T_mirage)), ((rG 7), .inl (cy 0, 5, .inl G_towerCell)), ((rG 8), .inl (cy 0, 5, .inl G_range)), ((rG 9), .inl (cy 0, 5, .inl G_voice)), ((rG 10), .inl (cy 0, 5, .inl G_strokes)), ((rG 11), .inl (cy 2, 5, .inl G_isFalse)), ((rG 12), .inl (cy 0, 4, .inl G_kind)), ((rG 13), .inl (cy 0, 4, .inl G_home)), ((rG 14), .inl (cy 0, 4, .inl G_water)), ((rG 15), .inl (cy 2, 100, .inl G_mirage)), ((rE 0), .inl (cy 1, 100, .inl E_heardAt)), ((rE 1), .inl (cy 1, 3200, .inl E_nearest)), ((rE 2), .inl (cy 0, 5, .inl E_distances)), ((rE 3), .inl (cy 0, 4, .inl E_ofVoice)), ((rE 4), .inl (cy 0, 5, .inl E_alike)), ((rW 0), .inl (cy 0, 400, .inl W_next)), ((rW 1), .inl (cy 0, 500, .inl W_way)), ((rW 2), .inl (cy 0, 5, .inl W_goal)), (((rtP (rS 2) (rS 4) (rS 5) rF) 3), .inl (cy 0, 29, .inl F_all)), (h0, .inr (10, oX10 rS sS_2)), ((rS 1), .inr (8, oX8 (rtQ (rS 0) rR) sR_2)), ((rS 0), .inl (cy 1, 500, .inl S_tape))] := hD
  refine lv_aload_n hx hb dX10_flat_5 rfl (lv_at hl 0 rfl) ?_
  refine gfX10_49 hx hb hts hown hK hP 35 rfl dX10_flat_6 ?_
  refine clVi (As := []) (rest := []) (Wr := [((rS 8), .inr (0, oX0 rC sC)), ((rS 2), .inr (4, oX4 rG sG)), ((rS 4), .inr (1, oX1 rE)), ((rS 5), .inr (2, oX2 rW)), ((rC 0), .inr (3, oX3 (rtP (rS 2) (rS 4) (rS 5) rF))), ((rS 10), .inr (7, oX7 (rtP (rS 2) (rS 4) (rS 5) rQ) sQ)), ((rG 7), .inl (cy 0, 5, .inl G_towerCell)), ((rG 8), .inl (cy 0, 5, .inl G_range)), ((rG 9), .inl (cy 0, 5, .inl G_voice)), ((rG 10), .inl (cy 0, 5, .inl G_strokes)), ((rG 11), .inl (cy 2, 5, .inl G_isFalse)), ((rG 12), .inl (cy 0, 4, .inl G_kind)), ((rG 13), .inl (cy 0, 4, .inl G_home)), ((rG 14), .inl (cy 0, 4, .inl G_water)), ((rG 15), .inl (cy 2, 100, .inl G_mirage)), ((rE 0), .inl (cy 1, 100, .inl E_heardAt)), ((rE 1), .inl (cy 1, 3200, .inl E_nearest)), ((rE 2), .inl (cy 0, 5, .inl E_distances)), ((rE 3), .inl (cy 0, 4, .inl E_ofVoice)), ((rE 4), .inl (cy 0, 5, .inl E_alike)), ((rW 0), .inl (cy 0, 400, .inl W_next)), ((rW 1), .inl (cy 0, 500, .inl W_way)), ((rW 2), .inl (cy 0, 5, .inl W_goal)), (((rtP (rS 2) (rS 4) (rS 5) rF) 3), .inl (cy 0, 29, .inl F_all)), (h0, .inr (10, oX10 rS sS_2))]) (cq := (RX9, TX9, 4)) ⟨hx, hb, hml, hown, hts⟩ ⟨callB_of 0 hts (goodC mw740) rfl rfl rfl (hts _ (tb mw6)) (hts _ (tb mw737)) kdX9_tell ⟨Nat.le_trans (by decide) hRf, Nat.le_trans (by decide) hRl⟩, hts _ (tb mw738), hts _ (tb mw739)⟩ (ctX9_tell l D cy ev (rS 6) (rtP (rS 1) (rS 3) 0 rL) rT (rtQ (rS 0) rR) sL sT sR_2 T_towerCell T_range T_voice T_strokes T_isFalse T_kind T_home T_water T_mirage S_tape  _ _ h) hE hK hP hD hS hA [0, 1, 36, 8, 9, 10, 11, 12, 13, 14, 15, 16, 37] [2, 3, 4, 5, 6, 7, 17, 18, 19, 20, 21, 22, 23, 24, 25, 26, 27, 28, 29, 30, 31, 32, 33, 34, 35] rfl rfl (by decide) (by decide) (by decide) 0 rfl rfl rfl hl.1 rfl (Nat.le_of_ble_eq_true rfl) ⟨Nat.le_trans (by decide) hRc, Nat.le_trans (by decide) hRs⟩ dX10_flat_9 (fun r9 u H locs h hP hD hS => ?_)
  obtain ⟨sL_9, sT_9, sR_9, T_towerCell_9, T_range_9, T_voice_9, T_strokes_9, T_isFalse_9, T_kind_9, T_home_9, T_water_9, T_mirage_9⟩ := u
  have hP : va_P D clsX [((rS 8), .inr (0, oX0 rC sC)), ((rS 2), .inr (4, oX4 rG sG)), ((rS 4), .inr (1, oX1 rE)), ((rS 5), .inr (2, oX2 rW)), ((rC 0), .inr (3, oX3 (rtP (rS 2) (rS 4) (rS 5) rF))), ((rS 10), .inr (7, oX7 (rtP (rS 2) (rS 4) (rS 5) rQ) sQ)), ((rG 7), .inl (cy 0, 5, .inl G_towerCell)), ((rG 8), .inl (cy 0, 5, .inl G_range)), ((rG 9), .inl (cy 0, 5, .inl G_voice)), ((rG 10), .inl (cy 0, 5, .inl G_strokes)), ((rG 11), .inl (cy 2, 5, .inl G_isFalse)), ((rG 12), .inl (cy 0, 4, .inl G_kind)), ((rG 13), .inl (cy 0, 4, .inl G_home)), ((rG 14), .inl (cy 0, 4, .inl G_water)), ((rG 15), .inl (cy 2, 100, .inl G_mirage)), ((rE 0), .inl (cy 1, 100, .inl E_heardAt)), ((rE 1), .inl (cy 1, 3200, .inl E_nearest)), ((rE 2), .inl (cy 0, 5, .inl E_distances)), ((rE 3), .inl (cy 0, 4, .inl E_ofVoice)), ((rE 4), .inl (cy 0, 5, .inl E_alike)), ((rW 0), .inl (cy 0, 400, .inl W_next)), ((rW 1), .inl (cy 0, 500, .inl W_way)), ((rW 2), .inl (cy 0, 5, .inl W_goal)), (((rtP (rS 2) (rS 4) (rS 5) rF) 3), .inl (cy 0, 29, .inl F_all)), (h0, .inr (10, oX10 rS sS_2)), ((rS 6), .inr (9, oX9 (rtP (rS 1) (rS 3) 0 rL) sL_9)), ((rS 3), .inr (4, oX4 rT sT_9)), ((rS 1), .inr (8, oX8 (rtQ (rS 0) rR) sR_9)), ((rT 7), .inl (cy 0, 5, .inl T_towerCell_9)), ((rT 8), .inl (cy 0, 5, .inl T_range_9)), ((rT 9), .inl (cy 0, 5, .inl T_voice_9)), ((rT 10), .inl (cy 0, 5, .inl T_strokes_9)), ((rT 11), .inl (cy 2, 5, .inl T_isFalse_9)), ((rT 12), .inl (cy 0, 4, .inl T_kind_9)), ((rT 13), .inl (cy 0, 4, .inl T_home_9)), ((rT 14), .inl (cy 0, 4, .inl T_water_9)), ((rT 15), .inl (cy 2, 100, .inl T_mirage_9)), ((rS 0), .inl (cy 1, 500, .inl S_tape))] H := hP
  have hD : va_D A [((rS 8), .inr (0, oX0 rC sC)), ((rS 2), .inr (4, oX4 rG sG)), ((rS 4), .inr (1, oX1 rE)), ((rS 5), .inr (2, oX2 rW)), ((rC 0), .inr (3, oX3 (rtP (rS 2) (rS 4) (rS 5) rF))), ((rS 10), .inr (7, oX7 (rtP (rS 2) (rS 4) (rS 5) rQ) sQ)), ((rG 7), .inl (cy 0, 5, .inl G_towerCell)), ((rG 8), .inl (cy 0, 5, .inl G_range)), ((rG 9), .inl (cy 0, 5, .inl G_voice)), ((rG 10), .inl (cy 0, 5, .inl G_strokes)), ((rG 11), .inl (cy 2, 5, .inl G_isFalse)), ((rG 12), .inl (cy 0, 4, .inl G_kind)), ((rG 13), .inl (cy 0, 4, .inl G_home)), ((rG 14), .inl (cy 0, 4, .inl G_water)), ((rG 15), .inl (cy 2, 100, .inl G_mirage)), ((rE 0), .inl (cy 1, 100, .inl E_heardAt)), ((rE 1), .inl (cy 1, 3200, .inl E_nearest)), ((rE 2), .inl (cy 0, 5, .inl E_distances)), ((rE 3), .inl (cy 0, 4, .inl E_ofVoice)), ((rE 4), .inl (cy 0, 5, .inl E_alike)), ((rW 0), .inl (cy 0, 400, .inl W_next)), ((rW 1), .inl (cy 0, 500, .inl W_way)), ((rW 2), .inl (cy 0, 5, .inl W_goal)), (((rtP (rS 2) (rS 4) (rS 5) rF) 3), .inl (cy 0, 29, .inl F_all)), (h0, .inr (10, oX10 rS sS_2)), ((rS 6), .inr (9, oX9 (rtP (rS 1) (rS 3) 0 rL) sL_9)), ((rS 3), .inr (4, oX4 rT sT_9)), ((rS 1), .inr (8, oX8 (rtQ (rS 0) rR) sR_9)), ((rT 7), .inl (cy 0, 5, .inl T_towerCell_9)), ((rT 8), .inl (cy 0, 5, .inl T_range_9)), ((rT 9), .inl (cy 0, 5, .inl T_voice_9)), ((rT 10), .inl (cy 0, 5, .inl T_strokes_9)), ((rT 11), .inl (cy 2, 5, .inl T_isFalse_9)), ((rT 12), .inl (cy 0, 4, .inl T_kind_9)), ((rT 13), .inl (cy 0, 4, .inl T_home_9)), ((rT 14), .inl (cy 0, 4, .inl T_water_9)), ((rT 15), .inl (cy 2, 100, .inl T_mirage_9)), ((rS 0), .inl (cy 1, 500, .inl S_tape))] := hD
  refine lv_istore_n (lv' := [(2, .int r9), (0, .ref h0), (1, .int x1)]) hx hb dX10_flat_12 rfl hl (by decide) rfl (fun ls hl => ?_)
  refine lv_aload_n hx hb dX10_flat_13 rfl (lv_at hl 1 rfl) ?_
  refine lv_aload_n hx hb dX10_flat_14 rfl (lv_at hl 1 rfl) ?_
  refine gfX10_16 hx hb hts hown hK hP 24 rfl dX10_flat_15 ?_
  refine gfX10_143 (v := (sR_9 9)) hx hb hts hown hK hP 27 rfl rfl dX10_flat_18 ?_
  refine lv_topi (fun f16_21 ef16_21 => ?_)
  have h := h f16_21 ef16_21
  refine pfX10_99 hx hb hts hown hK hP hD hS 24 rfl dX10_flat_21 (fun H locs hP hD hS => ?_)
  have hP : va_P D clsX [((rS 8), .inr (0, oX0 rC sC)), ((rS 2), .inr (4, oX4 rG sG)), ((rS 4), .inr (1, oX1 rE)), ((rS 5), .inr (2, oX2 rW)), ((rC 0), .inr (3, oX3 (rtP (rS 2) (rS 4) (rS 5) rF))), ((rS 10), .inr (7, oX7 (rtP (rS 2) (rS 4) (rS 5) rQ) sQ)), ((rG 7), .inl (cy 0, 5, .inl G_towerCell)), ((rG 8), .inl (cy 0, 5, .inl G_range)), ((rG 9), .inl (cy 0, 5, .inl G_voice)), ((rG 10), .inl (cy 0, 5, .inl G_strokes)), ((rG 11), .inl (cy 2, 5, .inl G_isFalse)), ((rG 12), .inl (cy 0, 4, .inl G_kind)), ((rG 13), .inl (cy 0, 4, .inl G_home)), ((rG 14), .inl (cy 0, 4, .inl G_water)), ((rG 15), .inl (cy 2, 100, .inl G_mirage)), ((rE 0), .inl (cy 1, 100, .inl E_heardAt)), ((rE 1), .inl (cy 1, 3200, .inl E_nearest)), ((rE 2), .inl (cy 0, 5, .inl E_distances)), ((rE 3), .inl (cy 0, 4, .inl E_ofVoice)), ((rE 4), .inl (cy 0, 5, .inl E_alike)), ((rW 0), .inl (cy 0, 400, .inl W_next)), ((rW 1), .inl (cy 0, 500, .inl W_way)), ((rW 2), .inl (cy 0, 5, .inl W_goal)), (((rtP (rS 2) (rS 4) (rS 5) rF) 3), .inl (cy 0, 29, .inl F_all)), (h0, .inr (10, oX10 rS (upd sS_2 16 f16_21))), ((rS 6), .inr (9, oX9 (rtP (rS 1) (rS 3) 0 rL) sL_9)), ((rS 3), .inr (4, oX4 rT sT_9)), ((rS 1), .inr (8, oX8 (rtQ (rS 0) rR) sR_9)), ((rT 7), .inl (cy 0, 5, .inl T_towerCell_9)), ((rT 8), .inl (cy 0, 5, .inl T_range_9)), ((rT 9), .inl (cy 0, 5, .inl T_voice_9)), ((rT 10), .inl (cy 0, 5, .inl T_strokes_9)), ((rT 11), .inl (cy 2, 5, .inl T_isFalse_9)), ((rT 12), .inl (cy 0, 4, .inl T_kind_9)), ((rT 13), .inl (cy 0, 4, .inl T_home_9)), ((rT 14), .inl (cy 0, 4, .inl T_water_9)), ((rT 15), .inl (cy 2, 100, .inl T_mirage_9)), ((rS 0), .inl (cy 1, 500, .inl S_tape))] H := hP
  have hD : va_D A [((rS 8), .inr (0, oX0 rC sC)), ((rS 2), .inr (4, oX4 rG sG)), ((rS 4), .inr (1, oX1 rE)), ((rS 5), .inr (2, oX2 rW)), ((rC 0), .inr (3, oX3 (rtP (rS 2) (rS 4) (rS 5) rF))), ((rS 10), .inr (7, oX7 (rtP (rS 2) (rS 4) (rS 5) rQ) sQ)), ((rG 7), .inl (cy 0, 5, .inl G_towerCell)), ((rG 8), .inl (cy 0, 5, .inl G_range)), ((rG 9), .inl (cy 0, 5, .inl G_voice)), ((rG 10), .inl (cy 0, 5, .inl G_strokes)), ((rG 11), .inl (cy 2, 5, .inl G_isFalse)), ((rG 12), .inl (cy 0, 4, .inl G_kind)), ((rG 13), .inl (cy 0, 4, .inl G_home)), ((rG 14), .inl (cy 0, 4, .inl G_water)), ((rG 15), .inl (cy 2, 100, .inl G_mirage)), ((rE 0), .inl (cy 1, 100, .inl E_heardAt)), ((rE 1), .inl (cy 1, 3200, .inl E_nearest)), ((rE 2), .inl (cy 0, 5, .inl E_distances)), ((rE 3), .inl (cy 0, 4, .inl E_ofVoice)), ((rE 4), .inl (cy 0, 5, .inl E_alike)), ((rW 0), .inl (cy 0, 400, .inl W_next)), ((rW 1), .inl (cy 0, 500, .inl W_way)), ((rW 2), .inl (cy 0, 5, .inl W_goal)), (((rtP (rS 2) (rS 4) (rS 5) rF) 3), .inl (cy 0, 29, .inl F_all)), (h0, .inr (10, oX10 rS (upd sS_2 16 f16_21))), ((rS 6), .inr (9, oX9 (rtP (rS 1) (rS 3) 0 rL) sL_9)), ((rS 3), .inr (4, oX4 rT sT_9)), ((rS 1), .inr (8, oX8 (rtQ (rS 0) rR) sR_9)), ((rT 7), .inl (cy 0, 5, .inl T_towerCell_9)), ((rT 8), .inl (cy 0, 5, .inl T_range_9)), ((rT 9), .inl (cy 0, 5, .inl T_voice_9)), ((rT 10), .inl (cy 0, 5, .inl T_strokes_9)), ((rT 11), .inl (cy 2, 5, .inl T_isFalse_9)), ((rT 12), .inl (cy 0, 4, .inl T_kind_9)), ((rT 13), .inl (cy 0, 4, .inl T_home_9)), ((rT 14), .inl (cy 0, 4, .inl T_water_9)), ((rT 15), .inl (cy 2, 100, .inl T_mirage_9)), ((rS 0), .inl (cy 1, 500, .inl S_tape))] := hD
  refine lv_iload_n hx hb dX10_flat_24 rfl (lv_at hl 0 rfl) ?_
  refine lv_if_ne (tgt := 49) hx hb dX10_flat_25 (by decide) (fun c25 => ?_) (fun c25 => ?_)
  · have h := h.1 c25
    refine lv_aload_n hx hb dX10_flat_49 rfl (lv_at hl 1 rfl) ?_
    refine gfX10_23 hx hb hts hown hK hP 24 rfl dX10_flat_50 ?_
    refine lv_aload_n hx hb dX10_flat_53 rfl (lv_at hl 1 rfl) ?_
    refine gfX10_27 hx hb hts hown hK hP 24 rfl dX10_flat_54 ?_
    refine clVv (As := [.ref (rS 3)]) (rest := []) (Wr := [((rS 8), .inr (0, oX0 rC sC)), ((rS 4), .inr (1, oX1 rE)), ((rS 5), .inr (2, oX2 rW)), ((rC 0), .inr (3, oX3 (rtP (rS 2) (rS 4) (rS 5) rF))), ((rS 10), .inr (7, oX7 (rtP (rS 2) (rS 4) (rS 5) rQ) sQ)), ((rE 0), .inl (cy 1, 100, .inl E_heardAt)), ((rE 1), .inl (cy 1, 3200, .inl E_nearest)), ((rE 2), .inl (cy 0, 5, .inl E_distances)), ((rE 3), .inl (cy 0, 4, .inl E_ofVoice)), ((rE 4), .inl (cy 0, 5, .inl E_alike)), ((rW 0), .inl (cy 0, 400, .inl W_next)), ((rW 1), .inl (cy 0, 500, .inl W_way)), ((rW 2), .inl (cy 0, 5, .inl W_goal)), (((rtP (rS 2) (rS 4) (rS 5) rF) 3), .inl (cy 0, 29, .inl F_all)), (h0, .inr (10, oX10 rS (upd sS_2 16 f16_21))), ((rS 6), .inr (9, oX9 (rtP (rS 1) (rS 3) 0 rL) sL_9)), ((rS 1), .inr (8, oX8 (rtQ (rS 0) rR) sR_9)), ((rS 0), .inl (cy 1, 500, .inl S_tape))]) (cq := (RX4, TX4, 16)) ⟨hx, hb, hml, hown, hts⟩ ⟨callB_of 1 hts (goodC mw883) rfl rfl rfl (hts _ (tb mw3)) (hts _ (tb mw880)) kdX4_take ⟨Nat.le_trans (by decide) hRf, Nat.le_trans (by decide) hRl⟩, hts _ (tb mw881), hts _ (tb mw882)⟩ (ctX4_take l D cy ev (rS 2) (rS 3) rT rG sT_9 sG T_towerCell_9 T_range_9 T_voice_9 T_strokes_9 T_isFalse_9 T_kind_9 T_home_9 T_water_9 T_mirage_9 G_towerCell G_range G_voice G_strokes G_isFalse G_kind G_home G_water G_mirage  _ _ h) hE hK hP hD hS hA [26, 1, 28, 29, 30, 31, 32, 33, 34, 35, 36, 6, 7, 8, 9, 10, 11, 12, 13, 14] [0, 2, 3, 4, 5, 15, 16, 17, 18, 19, 20, 21, 22, 23, 24, 25, 27, 37] rfl rfl (by decide) (by decide) (by decide) 1 rfl rfl rfl hl.1 rfl (Nat.le_of_ble_eq_true rfl) ⟨Nat.le_trans (by decide) hRc, Nat.le_trans (by decide) hRs⟩ dX10_flat_57 (fun u H locs h hP hD hS => ?_)
    obtain ⟨sG_57, G_towerCell_57, G_range_57, G_voice_57, G_strokes_57, G_isFalse_57, G_kind_57, G_home_57, G_water_57, G_mirage_57⟩ := u
    have hP : va_P D clsX [((rS 8), .inr (0, oX0 rC sC)), ((rS 4), .inr (1, oX1 rE)), ((rS 5), .inr (2, oX2 rW)), ((rC 0), .inr (3, oX3 (rtP (rS 2) (rS 4) (rS 5) rF))), ((rS 10), .inr (7, oX7 (rtP (rS 2) (rS 4) (rS 5) rQ) sQ)), ((rE 0), .inl (cy 1, 100, .inl E_heardAt)), ((rE 1), .inl (cy 1, 3200, .inl E_nearest)), ((rE 2), .inl (cy 0, 5, .inl E_distances)), ((rE 3), .inl (cy 0, 4, .inl E_ofVoice)), ((rE 4), .inl (cy 0, 5, .inl E_alike)), ((rW 0), .inl (cy 0, 400, .inl W_next)), ((rW 1), .inl (cy 0, 500, .inl W_way)), ((rW 2), .inl (cy 0, 5, .inl W_goal)), (((rtP (rS 2) (rS 4) (rS 5) rF) 3), .inl (cy 0, 29, .inl F_all)), (h0, .inr (10, oX10 rS (upd sS_2 16 f16_21))), ((rS 6), .inr (9, oX9 (rtP (rS 1) (rS 3) 0 rL) sL_9)), ((rS 1), .inr (8, oX8 (rtQ (rS 0) rR) sR_9)), ((rS 0), .inl (cy 1, 500, .inl S_tape)), ((rS 3), .inr (4, oX4 rT sT_9)), ((rS 2), .inr (4, oX4 rG sG_57)), ((rT 7), .inl (cy 0, 5, .inl T_towerCell_9)), ((rT 8), .inl (cy 0, 5, .inl T_range_9)), ((rT 9), .inl (cy 0, 5, .inl T_voice_9)), ((rT 10), .inl (cy 0, 5, .inl T_strokes_9)), ((rT 11), .inl (cy 2, 5, .inl T_isFalse_9)), ((rT 12), .inl (cy 0, 4, .inl T_kind_9)), ((rT 13), .inl (cy 0, 4, .inl T_home_9)), ((rT 14), .inl (cy 0, 4, .inl T_water_9)), ((rT 15), .inl (cy 2, 100, .inl T_mirage_9)), ((rG 7), .inl (cy 0, 5, .inl G_towerCell_57)), ((rG 8), .inl (cy 0, 5, .inl G_range_57)), ((rG 9), .inl (cy 0, 5, .inl G_voice_57)), ((rG 10), .inl (cy 0, 5, .inl G_strokes_57)), ((rG 11), .inl (cy 2, 5, .inl G_isFalse_57)), ((rG 12), .inl (cy 0, 4, .inl G_kind_57)), ((rG 13), .inl (cy 0, 4, .inl G_home_57)), ((rG 14), .inl (cy 0, 4, .inl G_water_57)), ((rG 15), .inl (cy 2, 100, .inl G_mirage_57))] H := hP
    have hD : va_D A [((rS 8), .inr (0, oX0 rC sC)), ((rS 4), .inr (1, oX1 rE)), ((rS 5), .inr (2, oX2 rW)), ((rC 0), .inr (3, oX3 (rtP (rS 2) (rS 4) (rS 5) rF))), ((rS 10), .inr (7, oX7 (rtP (rS 2) (rS 4) (rS 5) rQ) sQ)), ((rE 0), .inl (cy 1, 100, .inl E_heardAt)), ((rE 1), .inl (cy 1, 3200, .inl E_nearest)), ((rE 2), .inl (cy 0, 5, .inl E_distances)), ((rE 3), .inl (cy 0, 4, .inl E_ofVoice)), ((rE 4), .inl (cy 0, 5, .inl E_alike)), ((rW 0), .inl (cy 0, 400, .inl W_next)), ((rW 1), .inl (cy 0, 500, .inl W_way)), ((rW 2), .inl (cy 0, 5, .inl W_goal)), (((rtP (rS 2) (rS 4) (rS 5) rF) 3), .inl (cy 0, 29, .inl F_all)), (h0, .inr (10, oX10 rS (upd sS_2 16 f16_21))), ((rS 6), .inr (9, oX9 (rtP (rS 1) (rS 3) 0 rL) sL_9)), ((rS 1), .inr (8, oX8 (rtQ (rS 0) rR) sR_9)), ((rS 0), .inl (cy 1, 500, .inl S_tape)), ((rS 3), .inr (4, oX4 rT sT_9)), ((rS 2), .inr (4, oX4 rG sG_57)), ((rT 7), .inl (cy 0, 5, .inl T_towerCell_9)), ((rT 8), .inl (cy 0, 5, .inl T_range_9)), ((rT 9), .inl (cy 0, 5, .inl T_voice_9)), ((rT 10), .inl (cy 0, 5, .inl T_strokes_9)), ((rT 11), .inl (cy 2, 5, .inl T_isFalse_9)), ((rT 12), .inl (cy 0, 4, .inl T_kind_9)), ((rT 13), .inl (cy 0, 4, .inl T_home_9)), ((rT 14), .inl (cy 0, 4, .inl T_water_9)), ((rT 15), .inl (cy 2, 100, .inl T_mirage_9)), ((rG 7), .inl (cy 0, 5, .inl G_towerCell_57)), ((rG 8), .inl (cy 0, 5, .inl G_range_57)), ((rG 9), .inl (cy 0, 5, .inl G_voice_57)), ((rG 10), .inl (cy 0, 5, .inl G_strokes_57)), ((rG 11), .inl (cy 2, 5, .inl G_isFalse_57)), ((rG 12), .inl (cy 0, 4, .inl G_kind_57)), ((rG 13), .inl (cy 0, 4, .inl G_home_57)), ((rG 14), .inl (cy 0, 4, .inl G_water_57)), ((rG 15), .inl (cy 2, 100, .inl G_mirage_57))] := hD
    refine lv_aload_n hx hb dX10_flat_60 rfl (lv_at hl 1 rfl) ?_
    refine clVv (As := []) (rest := []) (Wr := [((rS 6), .inr (9, oX9 (rtP (rS 1) (rS 3) 0 rL) sL_9)), ((rS 1), .inr (8, oX8 (rtQ (rS 0) rR) sR_9)), ((rS 0), .inl (cy 1, 500, .inl S_tape)), ((rS 3), .inr (4, oX4 rT sT_9)), ((rT 7), .inl (cy 0, 5, .inl T_towerCell_9)), ((rT 8), .inl (cy 0, 5, .inl T_range_9)), ((rT 9), .inl (cy 0, 5, .inl T_voice_9)), ((rT 10), .inl (cy 0, 5, .inl T_strokes_9)), ((rT 11), .inl (cy 2, 5, .inl T_isFalse_9)), ((rT 12), .inl (cy 0, 4, .inl T_kind_9)), ((rT 13), .inl (cy 0, 4, .inl T_home_9)), ((rT 14), .inl (cy 0, 4, .inl T_water_9)), ((rT 15), .inl (cy 2, 100, .inl T_mirage_9)), ((rG 11), .inl (cy 2, 5, .inl G_isFalse_57)), ((rG 12), .inl (cy 0, 4, .inl G_kind_57))]) (cq := (RX10, TX10, 18)) ⟨hx, hb, hml, hown, hts⟩ ⟨callB_of 0 hts (goodC mw386) rfl rfl rfl (hts _ (tb mw1)) (hts _ (tb mw383)) kdX10_beginOnGround ⟨Nat.le_trans (by decide) hRf, Nat.le_trans (by decide) hRl⟩, hts _ (tb mw385), hts _ (tb ms0)⟩ (ctX10_beginOnGround l D cy ev h0 rS rE rG rW rC (rtP (rS 2) (rS 4) (rS 5) rF) (rtP (rS 2) (rS 4) (rS 5) rQ) (upd sS_2 16 f16_21) sG_57 sC sQ E_heardAt E_nearest E_distances E_ofVoice E_alike G_towerCell_57 G_range_57 G_voice_57 G_strokes_57 G_home_57 G_water_57 G_mirage_57 W_next W_way W_goal F_all  _ _ h) hE hK hP hD hS hA [14, 1, 19, 2, 0, 3, 4, 5, 6, 7, 8, 9, 29, 30, 31, 32, 35, 36, 37, 10, 11, 12, 13] [15, 16, 17, 18, 20, 21, 22, 23, 24, 25, 26, 27, 28, 33, 34] rfl rfl (by decide) (by decide) (by decide) 0 rfl rfl rfl hl.1 rfl (Nat.le_of_ble_eq_true rfl) ⟨Nat.le_trans (by decide) hRc, Nat.le_trans (by decide) hRs⟩ dX10_flat_61 (fun u H locs h hP hD hS => ?_)
    obtain ⟨sS_61, sC_61, sQ_61, E_heardAt_61, E_nearest_61, E_distances_61, E_ofVoice_61, E_alike_61, W_next_61, W_way_61, W_goal_61, F_all_61⟩ := u
    have hP : va_P D clsX [((rS 6), .inr (9, oX9 (rtP (rS 1) (rS 3) 0 rL) sL_9)), ((rS 1), .inr (8, oX8 (rtQ (rS 0) rR) sR_9)), ((rS 0), .inl (cy 1, 500, .inl S_tape)), ((rS 3), .inr (4, oX4 rT sT_9)), ((rT 7), .inl (cy 0, 5, .inl T_towerCell_9)), ((rT 8), .inl (cy 0, 5, .inl T_range_9)), ((rT 9), .inl (cy 0, 5, .inl T_voice_9)), ((rT 10), .inl (cy 0, 5, .inl T_strokes_9)), ((rT 11), .inl (cy 2, 5, .inl T_isFalse_9)), ((rT 12), .inl (cy 0, 4, .inl T_kind_9)), ((rT 13), .inl (cy 0, 4, .inl T_home_9)), ((rT 14), .inl (cy 0, 4, .inl T_water_9)), ((rT 15), .inl (cy 2, 100, .inl T_mirage_9)), ((rG 11), .inl (cy 2, 5, .inl G_isFalse_57)), ((rG 12), .inl (cy 0, 4, .inl G_kind_57)), (h0, .inr (10, oX10 rS sS_61)), ((rS 4), .inr (1, oX1 rE)), ((rS 2), .inr (4, oX4 rG sG_57)), ((rS 5), .inr (2, oX2 rW)), ((rS 8), .inr (0, oX0 rC sC_61)), ((rC 0), .inr (3, oX3 (rtP (rS 2) (rS 4) (rS 5) rF))), ((rS 10), .inr (7, oX7 (rtP (rS 2) (rS 4) (rS 5) rQ) sQ_61)), ((rE 0), .inl (cy 1, 100, .inl E_heardAt_61)), ((rE 1), .inl (cy 1, 3200, .inl E_nearest_61)), ((rE 2), .inl (cy 0, 5, .inl E_distances_61)), ((rE 3), .inl (cy 0, 4, .inl E_ofVoice_61)), ((rE 4), .inl (cy 0, 5, .inl E_alike_61)), ((rG 7), .inl (cy 0, 5, .inl G_towerCell_57)), ((rG 8), .inl (cy 0, 5, .inl G_range_57)), ((rG 9), .inl (cy 0, 5, .inl G_voice_57)), ((rG 10), .inl (cy 0, 5, .inl G_strokes_57)), ((rG 13), .inl (cy 0, 4, .inl G_home_57)), ((rG 14), .inl (cy 0, 4, .inl G_water_57)), ((rG 15), .inl (cy 2, 100, .inl G_mirage_57)), ((rW 0), .inl (cy 0, 400, .inl W_next_61)), ((rW 1), .inl (cy 0, 500, .inl W_way_61)), ((rW 2), .inl (cy 0, 5, .inl W_goal_61)), (((rtP (rS 2) (rS 4) (rS 5) rF) 3), .inl (cy 0, 29, .inl F_all_61))] H := hP
    have hD : va_D A [((rS 6), .inr (9, oX9 (rtP (rS 1) (rS 3) 0 rL) sL_9)), ((rS 1), .inr (8, oX8 (rtQ (rS 0) rR) sR_9)), ((rS 0), .inl (cy 1, 500, .inl S_tape)), ((rS 3), .inr (4, oX4 rT sT_9)), ((rT 7), .inl (cy 0, 5, .inl T_towerCell_9)), ((rT 8), .inl (cy 0, 5, .inl T_range_9)), ((rT 9), .inl (cy 0, 5, .inl T_voice_9)), ((rT 10), .inl (cy 0, 5, .inl T_strokes_9)), ((rT 11), .inl (cy 2, 5, .inl T_isFalse_9)), ((rT 12), .inl (cy 0, 4, .inl T_kind_9)), ((rT 13), .inl (cy 0, 4, .inl T_home_9)), ((rT 14), .inl (cy 0, 4, .inl T_water_9)), ((rT 15), .inl (cy 2, 100, .inl T_mirage_9)), ((rG 11), .inl (cy 2, 5, .inl G_isFalse_57)), ((rG 12), .inl (cy 0, 4, .inl G_kind_57)), (h0, .inr (10, oX10 rS sS_61)), ((rS 4), .inr (1, oX1 rE)), ((rS 2), .inr (4, oX4 rG sG_57)), ((rS 5), .inr (2, oX2 rW)), ((rS 8), .inr (0, oX0 rC sC_61)), ((rC 0), .inr (3, oX3 (rtP (rS 2) (rS 4) (rS 5) rF))), ((rS 10), .inr (7, oX7 (rtP (rS 2) (rS 4) (rS 5) rQ) sQ_61)), ((rE 0), .inl (cy 1, 100, .inl E_heardAt_61)), ((rE 1), .inl (cy 1, 3200, .inl E_nearest_61)), ((rE 2), .inl (cy 0, 5, .inl E_distances_61)), ((rE 3), .inl (cy 0, 4, .inl E_ofVoice_61)), ((rE 4), .inl (cy 0, 5, .inl E_alike_61)), ((rG 7), .inl (cy 0, 5, .inl G_towerCell_57)), ((rG 8), .inl (cy 0, 5, .inl G_range_57)), ((rG 9), .inl (cy 0, 5, .inl G_voice_57)), ((rG 10), .inl (cy 0, 5, .inl G_strokes_57)), ((rG 13), .inl (cy 0, 4, .inl G_home_57)), ((rG 14), .inl (cy 0, 4, .inl G_water_57)), ((rG 15), .inl (cy 2, 100, .inl G_mirage_57)), ((rW 0), .inl (cy 0, 400, .inl W_next_61)), ((rW 1), .inl (cy 0, 500, .inl W_way_61)), ((rW 2), .inl (cy 0, 5, .inl W_goal_61)), (((rtP (rS 2) (rS 4) (rS 5) rF) 3), .inl (cy 0, 29, .inl F_all_61))] := hD
    refine lv_iconst (v := (0 : Int32)) hx hb dX10_flat_64 (by decide) ?_
    exact hret (0 : Int32) (sS_61, sR_9, sL_9, sT_9, sC_61, sG_57, sQ_61, T_towerCell_9, T_range_9, T_voice_9, T_strokes_9, T_isFalse_9, T_kind_9, T_home_9, T_water_9, T_mirage_9, G_towerCell_57, G_range_57, G_voice_57, G_strokes_57, G_isFalse_57, G_kind_57, G_home_57, G_water_57, G_mirage_57, E_heardAt_61, E_nearest_61, E_distances_61, E_ofVoice_61, E_alike_61, W_next_61, W_way_61, W_goal_61, F_all_61) _ _ _ _ rfl dX10_flat_65 h (hP.sub [15, 1, 0, 3, 19, 17, 16, 18, 20, 21, 2, 4, 5, 6, 7, 8, 9, 10, 11, 12, 27, 28, 29, 30, 13, 14, 31, 32, 33, 22, 23, 24, 25, 26, 34, 35, 36, 37] rfl) (hD.sub [15, 1, 0, 3, 19, 17, 16, 18, 20, 21, 2, 4, 5, 6, 7, 8, 9, 10, 11, 12, 27, 28, 29, 30, 13, 14, 31, 32, 33, 22, 23, 24, 25, 26, 34, 35, 36, 37] (by decide) rfl) hS
  · have h := h.2 c25
    refine lv_aload_n hx hb dX10_flat_28 rfl (lv_at hl 1 rfl) ?_
    refine gfX10_67 hx hb hts hown hK hP 24 rfl dX10_flat_29 ?_
    refine lv_dup hx hb dX10_flat_32 rfl ?_
    refine gfX10_146 (v := (sC 5)) hx hb hts hown hK hP 0 rfl rfl dX10_flat_33 ?_
    refine lv_iconst (v := (1 : Int32)) hx hb dX10_flat_36 (by decide) ?_
    refine lv_iadd hx hb dX10_flat_37 ?_
    refine lv_topi (fun f5_38 ef5_38 => ?_)
    have h := h f5_38 ef5_38
    refine pfX10_146 hx hb hts hown hK hP hD hS 0 rfl dX10_flat_38 (fun H locs hP hD hS => ?_)
    have hP : va_P D clsX [((rS 8), .inr (0, oX0 rC (upd sC 5 f5_38))), ((rS 2), .inr (4, oX4 rG sG)), ((rS 4), .inr (1, oX1 rE)), ((rS 5), .inr (2, oX2 rW)), ((rC 0), .inr (3, oX3 (rtP (rS 2) (rS 4) (rS 5) rF))), ((rS 10), .inr (7, oX7 (rtP (rS 2) (rS 4) (rS 5) rQ) sQ)), ((rG 7), .inl (cy 0, 5, .inl G_towerCell)), ((rG 8), .inl (cy 0, 5, .inl G_range)), ((rG 9), .inl (cy 0, 5, .inl G_voice)), ((rG 10), .inl (cy 0, 5, .inl G_strokes)), ((rG 11), .inl (cy 2, 5, .inl G_isFalse)), ((rG 12), .inl (cy 0, 4, .inl G_kind)), ((rG 13), .inl (cy 0, 4, .inl G_home)), ((rG 14), .inl (cy 0, 4, .inl G_water)), ((rG 15), .inl (cy 2, 100, .inl G_mirage)), ((rE 0), .inl (cy 1, 100, .inl E_heardAt)), ((rE 1), .inl (cy 1, 3200, .inl E_nearest)), ((rE 2), .inl (cy 0, 5, .inl E_distances)), ((rE 3), .inl (cy 0, 4, .inl E_ofVoice)), ((rE 4), .inl (cy 0, 5, .inl E_alike)), ((rW 0), .inl (cy 0, 400, .inl W_next)), ((rW 1), .inl (cy 0, 500, .inl W_way)), ((rW 2), .inl (cy 0, 5, .inl W_goal)), (((rtP (rS 2) (rS 4) (rS 5) rF) 3), .inl (cy 0, 29, .inl F_all)), (h0, .inr (10, oX10 rS (upd sS_2 16 f16_21))), ((rS 6), .inr (9, oX9 (rtP (rS 1) (rS 3) 0 rL) sL_9)), ((rS 3), .inr (4, oX4 rT sT_9)), ((rS 1), .inr (8, oX8 (rtQ (rS 0) rR) sR_9)), ((rT 7), .inl (cy 0, 5, .inl T_towerCell_9)), ((rT 8), .inl (cy 0, 5, .inl T_range_9)), ((rT 9), .inl (cy 0, 5, .inl T_voice_9)), ((rT 10), .inl (cy 0, 5, .inl T_strokes_9)), ((rT 11), .inl (cy 2, 5, .inl T_isFalse_9)), ((rT 12), .inl (cy 0, 4, .inl T_kind_9)), ((rT 13), .inl (cy 0, 4, .inl T_home_9)), ((rT 14), .inl (cy 0, 4, .inl T_water_9)), ((rT 15), .inl (cy 2, 100, .inl T_mirage_9)), ((rS 0), .inl (cy 1, 500, .inl S_tape))] H := hP
    have hD : va_D A [((rS 8), .inr (0, oX0 rC (upd sC 5 f5_38))), ((rS 2), .inr (4, oX4 rG sG)), ((rS 4), .inr (1, oX1 rE)), ((rS 5), .inr (2, oX2 rW)), ((rC 0), .inr (3, oX3 (rtP (rS 2) (rS 4) (rS 5) rF))), ((rS 10), .inr (7, oX7 (rtP (rS 2) (rS 4) (rS 5) rQ) sQ)), ((rG 7), .inl (cy 0, 5, .inl G_towerCell)), ((rG 8), .inl (cy 0, 5, .inl G_range)), ((rG 9), .inl (cy 0, 5, .inl G_voice)), ((rG 10), .inl (cy 0, 5, .inl G_strokes)), ((rG 11), .inl (cy 2, 5, .inl G_isFalse)), ((rG 12), .inl (cy 0, 4, .inl G_kind)), ((rG 13), .inl (cy 0, 4, .inl G_home)), ((rG 14), .inl (cy 0, 4, .inl G_water)), ((rG 15), .inl (cy 2, 100, .inl G_mirage)), ((rE 0), .inl (cy 1, 100, .inl E_heardAt)), ((rE 1), .inl (cy 1, 3200, .inl E_nearest)), ((rE 2), .inl (cy 0, 5, .inl E_distances)), ((rE 3), .inl (cy 0, 4, .inl E_ofVoice)), ((rE 4), .inl (cy 0, 5, .inl E_alike)), ((rW 0), .inl (cy 0, 400, .inl W_next)), ((rW 1), .inl (cy 0, 500, .inl W_way)), ((rW 2), .inl (cy 0, 5, .inl W_goal)), (((rtP (rS 2) (rS 4) (rS 5) rF) 3), .inl (cy 0, 29, .inl F_all)), (h0, .inr (10, oX10 rS (upd sS_2 16 f16_21))), ((rS 6), .inr (9, oX9 (rtP (rS 1) (rS 3) 0 rL) sL_9)), ((rS 3), .inr (4, oX4 rT sT_9)), ((rS 1), .inr (8, oX8 (rtQ (rS 0) rR) sR_9)), ((rT 7), .inl (cy 0, 5, .inl T_towerCell_9)), ((rT 8), .inl (cy 0, 5, .inl T_range_9)), ((rT 9), .inl (cy 0, 5, .inl T_voice_9)), ((rT 10), .inl (cy 0, 5, .inl T_strokes_9)), ((rT 11), .inl (cy 2, 5, .inl T_isFalse_9)), ((rT 12), .inl (cy 0, 4, .inl T_kind_9)), ((rT 13), .inl (cy 0, 4, .inl T_home_9)), ((rT 14), .inl (cy 0, 4, .inl T_water_9)), ((rT 15), .inl (cy 2, 100, .inl T_mirage_9)), ((rS 0), .inl (cy 1, 500, .inl S_tape))] := hD
    refine lv_aload_n hx hb dX10_flat_41 rfl (lv_at hl 1 rfl) ?_
    refine gfX10_16 hx hb hts hown hK hP 24 rfl dX10_flat_42 ?_
    refine gfX10_149 (v := (sR_9 8)) hx hb hts hown hK hP 27 rfl rfl dX10_flat_45 ?_
    exact hret (sR_9 8) ((upd sS_2 16 f16_21), sR_9, sL_9, sT_9, (upd sC 5 f5_38), sG, sQ, T_towerCell_9, T_range_9, T_voice_9, T_strokes_9, T_isFalse_9, T_kind_9, T_home_9, T_water_9, T_mirage_9, G_towerCell, G_range, G_voice, G_strokes, G_isFalse, G_kind, G_home, G_water, G_mirage, E_heardAt, E_nearest, E_distances, E_ofVoice, E_alike, W_next, W_way, W_goal, F_all) _ _ _ _ rfl dX10_flat_48 h (hP.sub [24, 27, 25, 26, 0, 1, 2, 3, 4, 5, 37, 28, 29, 30, 31, 32, 33, 34, 35, 36, 6, 7, 8, 9, 10, 11, 12, 13, 14, 15, 16, 17, 18, 19, 20, 21, 22, 23] rfl) (hD.sub [24, 27, 25, 26, 0, 1, 2, 3, 4, 5, 37, 28, 29, 30, 31, 32, 33, 34, 35, 36, 6, 7, 8, 9, 10, 11, 12, 13, 14, 15, 16, 17, 18, 19, 20, 21, 22, 23] (by decide) rfl) hS
def wpX10_orders_L60 (sS : AR) (sR : AR) (sG : AR) (sB : AR) (S_tape : AR) (G_isFalse : AR) (G_kind : AR) (B_begins : AR) (B_times : AR) (B_sets : AR) (E_heardAt : AR) (E_nearest : AR) (E_ofVoice : AR) (E_alike : AR) (W_next : AR) (W_way : AR) (W_goal : AR) (kx96 : AR → AR → AR → AR → AR → AR → AR → Int32 → Prop) (post : Int32 → AR → AR → AR → AR → AR → AR → AR → AR → AR → AR → AR → AR → AR → Prop) (postX : String → Prop) : Nat → AR → AR → AR → AR → AR → AR → AR → Int32 → Prop
  | 0, _, _, _, _, _, _, _, _ => False
  | nf60 + 1, sC, sQ, C_past, F_all, F_reasons, Q_cell, Q_heading, l3 => (((sB 5) ≤ l3 → kx96 sC sQ C_past F_all F_reasons Q_cell Q_heading l3) ∧ (¬ (sB 5) ≤ l3 → vp_in l3 200 ∧ wpX10_strike sC sG sQ C_past F_all F_reasons G_isFalse G_kind E_heardAt E_nearest E_ofVoice E_alike W_next W_way W_goal Q_cell Q_heading (B_sets l3.toNatClampNeg) (fun r81 sC_81 sQ_81 C_past_81 F_all_81 F_reasons_81 Q_cell_81 Q_heading_81 => ((¬ r81 = (-1 : Int32) → ∀ l3_90 : Int32, l3_90 = (l3 + (1 : Int32)) → wpX10_orders_L60 sS sR sG sB S_tape G_isFalse G_kind B_begins B_times B_sets E_heardAt E_nearest E_ofVoice E_alike W_next W_way W_goal kx96 post postX nf60 sC_81 sQ_81 C_past_81 F_all_81 F_reasons_81 Q_cell_81 Q_heading_81 l3_90) ∧ (r81 = (-1 : Int32) → post l3 sS sR sB sC_81 sQ_81 B_begins B_times B_sets C_past_81 F_all_81 F_reasons_81 Q_cell_81 Q_heading_81)))))
def wpX10_orders (sS : AR) (sR : AR) (sG : AR) (sB : AR) (sC : AR) (sQ : AR) (S_tape : AR) (G_isFalse : AR) (G_kind : AR) (B_begins : AR) (B_times : AR) (B_sets : AR) (C_past : AR) (F_all : AR) (F_reasons : AR) (E_heardAt : AR) (E_nearest : AR) (E_ofVoice : AR) (E_alike : AR) (W_next : AR) (W_way : AR) (W_goal : AR) (Q_cell : AR) (Q_heading : AR) (x1 : Int32) (post : Int32 → AR → AR → AR → AR → AR → AR → AR → AR → AR → AR → AR → AR → AR → Prop) (postX : String → Prop) : Prop := wpX10_openTape sS sR S_tape x1 (fun sS_2 sR_2 => wpX5_read sB sR_2 B_begins B_times B_sets S_tape (sG 2) (fun r16 sB_16 sR_16 B_begins_16 B_times_16 B_sets_16 => ∀ f16_28 : Int32, f16_28 = (sR_16 9) → ((¬ r16 = 0 → ∃ nf60 : Nat, wpX10_orders_L60 (upd sS_2 16 f16_28) sR_16 sG sB_16 S_tape G_isFalse G_kind B_begins_16 B_times_16 B_sets_16 E_heardAt E_nearest E_ofVoice E_alike W_next W_way W_goal (fun sC_96 sQ_96 C_past_96 F_all_96 F_reasons_96 Q_cell_96 Q_heading_96 l3_96 => post (sB_16 5) (upd sS_2 16 f16_28) sR_16 sB_16 sC_96 sQ_96 B_begins_16 B_times_16 B_sets_16 C_past_96 F_all_96 F_reasons_96 Q_cell_96 Q_heading_96) post postX nf60 sC sQ C_past F_all F_reasons Q_cell Q_heading (0 : Int32)) ∧ (r16 = 0 → ∀ f5_45 : Int32, f5_45 = ((sC 5) + (1 : Int32)) → post ((-1 : Int32) - (sR_16 8)) (upd sS_2 16 f16_28) sR_16 sB_16 (upd sC 5 f5_45) sQ B_begins_16 B_times_16 B_sets_16 C_past F_all F_reasons Q_cell Q_heading)))) postX
set_option maxHeartbeats 4000000 in
set_option maxRecDepth 100000 in
theorem ctX10_orders (l : Launch) (D : va_G) (cy : Nat → ClassId) (ev : Nat → Nat) (hst : l.stackTraces = false) (h0 : Nat) (rS : Nat → Nat) (rR : Nat → Nat) (rG : Nat → Nat) (rB : Nat → Nat) (rC : Nat → Nat) (rF : Nat → Nat) (rE : Nat → Nat) (rW : Nat → Nat) (rQ : Nat → Nat) (sS : AR) (sR : AR) (sG : AR) (sB : AR) (sC : AR) (sQ : AR) (S_tape : AR) (G_isFalse : AR) (G_kind : AR) (B_begins : AR) (B_times : AR) (B_sets : AR) (C_past : AR) (F_all : AR) (F_reasons : AR) (E_heardAt : AR) (E_nearest : AR) (E_ofVoice : AR) (E_alike : AR) (W_next : AR) (W_way : AR) (W_goal : AR) (Q_cell : AR) (Q_heading : AR) (x1 : Int32) (sz : Nat) (post : Int32 → AR → AR → AR → AR → AR → AR → AR → AR → AR → AR → AR → AR → AR → Prop) (postX : String → Prop) (h : wpX10_orders sS sR sG sB sC sQ S_tape G_isFalse G_kind B_begins B_times B_sets C_past F_all F_reasons E_heardAt E_nearest E_ofVoice E_alike W_next W_way W_goal Q_cell Q_heading x1 post postX) : vx_Met l yX10_orders (Cond.code yX10_orders cX10_orders 4 (some .int) :: TB) ({ frames := 7, cells := 1, slots := 6, locals := 265 }) (va_Pc [.ref h0, .int x1] (PreT D cy ev [(h0, .inr (10, oX10 rS sS)), ((rS 1), .inr (8, oX8 rR sR)), ((rS 2), .inr (4, oX4 rG sG)), ((rS 7), .inr (5, oX5 (rtQ (rS 1) rB) sB)), ((rS 8), .inr (0, oX0 rC sC)), ((rC 0), .inr (3, oX3 (rtP (rS 2) (rS 4) (rS 5) rF))), ((rS 4), .inr (1, oX1 rE)), ((rS 5), .inr (2, oX2 rW)), ((rS 10), .inr (7, oX7 (rtP (rS 2) (rS 4) (rS 5) rQ) sQ)), ((rS 0), .inl (cy 1, 500, .inl S_tape)), ((rG 11), .inl (cy 2, 5, .inl G_isFalse)), ((rG 12), .inl (cy 0, 4, .inl G_kind)), (((rtQ (rS 1) rB) 1), .inl (cy 0, 3, .inl B_begins)), (((rtQ (rS 1) rB) 2), .inl (cy 0, 3, .inl B_times)), (((rtQ (rS 1) rB) 4), .inl (cy 0, 200, .inl B_sets)), ((rC 1), .inl (cy 0, 3400, .inl C_past)), (((rtP (rS 2) (rS 4) (rS 5) rF) 3), .inl (cy 0, 29, .inl F_all)), (((rtP (rS 2) (rS 4) (rS 5) rF) 4), .inl (cy 0, 4, .inl F_reasons)), ((rE 0), .inl (cy 1, 100, .inl E_heardAt)), ((rE 1), .inl (cy 1, 3200, .inl E_nearest)), ((rE 3), .inl (cy 0, 4, .inl E_ofVoice)), ((rE 4), .inl (cy 0, 5, .inl E_alike)), ((rW 0), .inl (cy 0, 400, .inl W_next)), ((rW 1), .inl (cy 0, 500, .inl W_way)), ((rW 2), .inl (cy 0, 5, .inl W_goal)), (((rtP (rS 2) (rS 4) (rS 5) rQ) 3), .inl (cy 0, 100, .inl Q_cell)), (((rtP (rS 2) (rS 4) (rS 5) rQ) 4), .inl (cy 0, 100, .inl Q_heading))] sz)) (va_Qi (fun (r : Int32) (u : AR × AR × AR × AR × AR × AR × AR × AR × AR × AR × AR × AR × AR) => post r (u.1) (u.2.1) (u.2.2.1) (u.2.2.2.1) (u.2.2.2.2.1) (u.2.2.2.2.2.1) (u.2.2.2.2.2.2.1) (u.2.2.2.2.2.2.2.1) (u.2.2.2.2.2.2.2.2.1) (u.2.2.2.2.2.2.2.2.2.1) (u.2.2.2.2.2.2.2.2.2.2.1) (u.2.2.2.2.2.2.2.2.2.2.2.1) (u.2.2.2.2.2.2.2.2.2.2.2.2)) (fun u => BkX D cy [(h0, .inr (10, oX10 rS sS)), ((rS 1), .inr (8, oX8 rR sR)), ((rS 2), .inr (4, oX4 rG sG)), ((rS 7), .inr (5, oX5 (rtQ (rS 1) rB) sB)), ((rS 8), .inr (0, oX0 rC sC)), ((rC 0), .inr (3, oX3 (rtP (rS 2) (rS 4) (rS 5) rF))), ((rS 4), .inr (1, oX1 rE)), ((rS 5), .inr (2, oX2 rW)), ((rS 10), .inr (7, oX7 (rtP (rS 2) (rS 4) (rS 5) rQ) sQ)), ((rS 0), .inl (cy 1, 500, .inl S_tape)), ((rG 11), .inl (cy 2, 5, .inl G_isFalse)), ((rG 12), .inl (cy 0, 4, .inl G_kind)), (((rtQ (rS 1) rB) 1), .inl (cy 0, 3, .inl B_begins)), (((rtQ (rS 1) rB) 2), .inl (cy 0, 3, .inl B_times)), (((rtQ (rS 1) rB) 4), .inl (cy 0, 200, .inl B_sets)), ((rC 1), .inl (cy 0, 3400, .inl C_past)), (((rtP (rS 2) (rS 4) (rS 5) rF) 3), .inl (cy 0, 29, .inl F_all)), (((rtP (rS 2) (rS 4) (rS 5) rF) 4), .inl (cy 0, 4, .inl F_reasons)), ((rE 0), .inl (cy 1, 100, .inl E_heardAt)), ((rE 1), .inl (cy 1, 3200, .inl E_nearest)), ((rE 3), .inl (cy 0, 4, .inl E_ofVoice)), ((rE 4), .inl (cy 0, 5, .inl E_alike)), ((rW 0), .inl (cy 0, 400, .inl W_next)), ((rW 1), .inl (cy 0, 500, .inl W_way)), ((rW 2), .inl (cy 0, 5, .inl W_goal)), (((rtP (rS 2) (rS 4) (rS 5) rQ) 3), .inl (cy 0, 100, .inl Q_cell)), (((rtP (rS 2) (rS 4) (rS 5) rQ) 4), .inl (cy 0, 100, .inl Q_heading))] sz [(h0, .inr (10, oX10 rS (u.1))), ((rS 1), .inr (8, oX8 (rtQ (rS 0) rR) (u.2.1))), ((rS 2), .inr (4, oX4 rG sG)), ((rS 7), .inr (5, oX5 (rtQ (rS 1) rB) (u.2.2.1))), ((rS 8), .inr (0, oX0 rC (u.2.2.2.1))), ((rC 0), .inr (3, oX3 (rtP (rS 2) (rS 4) (rS 5) rF))), ((rS 4), .inr (1, oX1 rE)), ((rS 5), .inr (2, oX2 rW)), ((rS 10), .inr (7, oX7 (rtP (rS 2) (rS 4) (rS 5) rQ) (u.2.2.2.2.1))), ((rS 0), .inl (cy 1, 500, .inl S_tape)), ((rG 11), .inl (cy 2, 5, .inl G_isFalse)), ((rG 12), .inl (cy 0, 4, .inl G_kind)), (((rtQ (rS 1) rB) 1), .inl (cy 0, 3, .inl (u.2.2.2.2.2.1))), (((rtQ (rS 1) rB) 2), .inl (cy 0, 3, .inl (u.2.2.2.2.2.2.1))), (((rtQ (rS 1) rB) 4), .inl (cy 0, 200, .inl (u.2.2.2.2.2.2.2.1))), ((rC 1), .inl (cy 0, 3400, .inl (u.2.2.2.2.2.2.2.2.1))), (((rtP (rS 2) (rS 4) (rS 5) rF) 3), .inl (cy 0, 29, .inl (u.2.2.2.2.2.2.2.2.2.1))), (((rtP (rS 2) (rS 4) (rS 5) rF) 4), .inl (cy 0, 4, .inl (u.2.2.2.2.2.2.2.2.2.2.1))), ((rE 0), .inl (cy 1, 100, .inl E_heardAt)), ((rE 1), .inl (cy 1, 3200, .inl E_nearest)), ((rE 3), .inl (cy 0, 4, .inl E_ofVoice)), ((rE 4), .inl (cy 0, 5, .inl E_alike)), ((rW 0), .inl (cy 0, 400, .inl W_next)), ((rW 1), .inl (cy 0, 500, .inl W_way)), ((rW 2), .inl (cy 0, 5, .inl W_goal)), (((rtP (rS 2) (rS 4) (rS 5) rQ) 3), .inl (cy 0, 100, .inl (u.2.2.2.2.2.2.2.2.2.2.2.1))), (((rtP (rS 2) (rS 4) (rS 5) rQ) 4), .inl (cy 0, 100, .inl (u.2.2.2.2.2.2.2.2.2.2.2.2)))]) (va_A [(h0, .inr (10, oX10 rS sS)), ((rS 1), .inr (8, oX8 rR sR)), ((rS 2), .inr (4, oX4 rG sG)), ((rS 7), .inr (5, oX5 (rtQ (rS 1) rB) sB)), ((rS 8), .inr (0, oX0 rC sC)), ((rC 0), .inr (3, oX3 (rtP (rS 2) (rS 4) (rS 5) rF))), ((rS 4), .inr (1, oX1 rE)), ((rS 5), .inr (2, oX2 rW)), ((rS 10), .inr (7, oX7 (rtP (rS 2) (rS 4) (rS 5) rQ) sQ)), ((rS 0), .inl (cy 1, 500, .inl S_tape)), ((rG 11), .inl (cy 2, 5, .inl G_isFalse)), ((rG 12), .inl (cy 0, 4, .inl G_kind)), (((rtQ (rS 1) rB) 1), .inl (cy 0, 3, .inl B_begins)), (((rtQ (rS 1) rB) 2), .inl (cy 0, 3, .inl B_times)), (((rtQ (rS 1) rB) 4), .inl (cy 0, 200, .inl B_sets)), ((rC 1), .inl (cy 0, 3400, .inl C_past)), (((rtP (rS 2) (rS 4) (rS 5) rF) 3), .inl (cy 0, 29, .inl F_all)), (((rtP (rS 2) (rS 4) (rS 5) rF) 4), .inl (cy 0, 4, .inl F_reasons)), ((rE 0), .inl (cy 1, 100, .inl E_heardAt)), ((rE 1), .inl (cy 1, 3200, .inl E_nearest)), ((rE 3), .inl (cy 0, 4, .inl E_ofVoice)), ((rE 4), .inl (cy 0, 5, .inl E_alike)), ((rW 0), .inl (cy 0, 400, .inl W_next)), ((rW 1), .inl (cy 0, 500, .inl W_way)), ((rW 2), .inl (cy 0, 5, .inl W_goal)), (((rtP (rS 2) (rS 4) (rS 5) rQ) 3), .inl (cy 0, 100, .inl Q_cell)), (((rtP (rS 2) (rS 4) (rS 5) rQ) 4), .inl (cy 0, 100, .inl Q_heading))] sz)) (XcX D cy [(h0, .inr (10, oX10 rS sS)), ((rS 1), .inr (8, oX8 rR sR)), ((rS 2), .inr (4, oX4 rG sG)), ((rS 7), .inr (5, oX5 (rtQ (rS 1) rB) sB)), ((rS 8), .inr (0, oX0 rC sC)), ((rC 0), .inr (3, oX3 (rtP (rS 2) (rS 4) (rS 5) rF))), ((rS 4), .inr (1, oX1 rE)), ((rS 5), .inr (2, oX2 rW)), ((rS 10), .inr (7, oX7 (rtP (rS 2) (rS 4) (rS 5) rQ) sQ)), ((rS 0), .inl (cy 1, 500, .inl S_tape)), ((rG 11), .inl (cy 2, 5, .inl G_isFalse)), ((rG 12), .inl (cy 0, 4, .inl G_kind)), (((rtQ (rS 1) rB) 1), .inl (cy 0, 3, .inl B_begins)), (((rtQ (rS 1) rB) 2), .inl (cy 0, 3, .inl B_times)), (((rtQ (rS 1) rB) 4), .inl (cy 0, 200, .inl B_sets)), ((rC 1), .inl (cy 0, 3400, .inl C_past)), (((rtP (rS 2) (rS 4) (rS 5) rF) 3), .inl (cy 0, 29, .inl F_all)), (((rtP (rS 2) (rS 4) (rS 5) rF) 4), .inl (cy 0, 4, .inl F_reasons)), ((rE 0), .inl (cy 1, 100, .inl E_heardAt)), ((rE 1), .inl (cy 1, 3200, .inl E_nearest)), ((rE 3), .inl (cy 0, 4, .inl E_ofVoice)), ((rE 4), .inl (cy 0, 5, .inl E_alike)), ((rW 0), .inl (cy 0, 400, .inl W_next)), ((rW 1), .inl (cy 0, 500, .inl W_way)), ((rW 2), .inl (cy 0, 5, .inl W_goal)), (((rtP (rS 2) (rS 4) (rS 5) rQ) 3), .inl (cy 0, 100, .inl Q_cell)), (((rtP (rS 2) (rS 4) (rS 5) rQ) 4), .inl (cy 0, 100, .inl Q_heading))] sz postX) 1 6 (va_A [(h0, .inr (10, oX10 rS sS)), ((rS 1), .inr (8, oX8 rR sR)), ((rS 2), .inr (4, oX4 rG sG)), ((rS 7), .inr (5, oX5 (rtQ (rS 1) rB) sB)), ((rS 8), .inr (0, oX0 rC sC)), ((rC 0), .inr (3, oX3 (rtP (rS 2) (rS 4) (rS 5) rF))), ((rS 4), .inr (1, oX1 rE)), ((rS 5), .inr (2, oX2 rW)), ((rS 10), .inr (7, oX7 (rtP (rS 2) (rS 4) (rS 5) rQ) sQ)), ((rS 0), .inl (cy 1, 500, .inl S_tape)), ((rG 11), .inl (cy 2, 5, .inl G_isFalse)), ((rG 12), .inl (cy 0, 4, .inl G_kind)), (((rtQ (rS 1) rB) 1), .inl (cy 0, 3, .inl B_begins)), (((rtQ (rS 1) rB) 2), .inl (cy 0, 3, .inl B_times)), (((rtQ (rS 1) rB) 4), .inl (cy 0, 200, .inl B_sets)), ((rC 1), .inl (cy 0, 3400, .inl C_past)), (((rtP (rS 2) (rS 4) (rS 5) rF) 3), .inl (cy 0, 29, .inl F_all)), (((rtP (rS 2) (rS 4) (rS 5) rF) 4), .inl (cy 0, 4, .inl F_reasons)), ((rE 0), .inl (cy 1, 100, .inl E_heardAt)), ((rE 1), .inl (cy 1, 3200, .inl E_nearest)), ((rE 3), .inl (cy 0, 4, .inl E_ofVoice)), ((rE 4), .inl (cy 0, 5, .inl E_alike)), ((rW 0), .inl (cy 0, 400, .inl W_next)), ((rW 1), .inl (cy 0, 500, .inl W_way)), ((rW 2), .inl (cy 0, 5, .inl W_goal)), (((rtP (rS 2) (rS 4) (rS 5) rQ) 3), .inl (cy 0, 100, .inl Q_cell)), (((rtP (rS 2) (rS 4) (rS 5) rQ) 4), .inl (cy 0, 100, .inl Q_heading))] sz) := by
  refine ofXi hst (by decide) rfl (Nat.le_of_ble_eq_true rfl) ⟨by decide, by decide, by decide, by decide⟩ ?_
  intro p e s m args below meth c ls A R QQ hx hb hml hown hts hR hlk hE hT hK hP hD hS hA hl hthr hnN hnNW hnI hnIW hret
  have hRc : 1 ≤ R.cells := by rw [hR]; exact Nat.le_refl _
  have hRs : 6 ≤ R.slots := by rw [hR]; exact Nat.le_refl _
  have hown : s.vm.findClass RX10 = some m.cls := hown
  have hRf : 7 ≤ R.frames := by rw [hR]; exact Nat.le_refl _
  have hRl : 265 ≤ R.locals := by rw [hR]; exact Nat.le_refl _
  clear hR
  have hl : lv_has ls 4 [(0, .ref h0), (1, .int x1)] := hl
  have L60 : ∀ (sS : AR) (sR : AR) (sB : AR) (B_begins : AR) (B_times : AR) (B_sets : AR) (kx96 : AR → AR → AR → AR → AR → AR → AR → Int32 → Prop), (∀ (sC : AR) (sQ : AR) (C_past : AR) (F_all : AR) (F_reasons : AR) (Q_cell : AR) (Q_heading : AR) (l3 : Int32) (H : Heap) (locs : List Loc) (ls : Array Slot), kx96 sC sQ C_past F_all F_reasons Q_cell Q_heading l3 → va_P D clsX [(h0, .inr (10, oX10 rS sS)), ((rS 1), .inr (8, oX8 (rtQ (rS 0) rR) sR)), ((rS 2), .inr (4, oX4 rG sG)), ((rS 7), .inr (5, oX5 (rtQ (rS 1) rB) sB)), ((rS 8), .inr (0, oX0 rC sC)), ((rC 0), .inr (3, oX3 (rtP (rS 2) (rS 4) (rS 5) rF))), ((rS 4), .inr (1, oX1 rE)), ((rS 5), .inr (2, oX2 rW)), ((rS 10), .inr (7, oX7 (rtP (rS 2) (rS 4) (rS 5) rQ) sQ)), ((rS 0), .inl (cy 1, 500, .inl S_tape)), ((rG 11), .inl (cy 2, 5, .inl G_isFalse)), ((rG 12), .inl (cy 0, 4, .inl G_kind)), (((rtQ (rS 1) rB) 1), .inl (cy 0, 3, .inl B_begins)), (((rtQ (rS 1) rB) 2), .inl (cy 0, 3, .inl B_times)), (((rtQ (rS 1) rB) 4), .inl (cy 0, 200, .inl B_sets)), ((rC 1), .inl (cy 0, 3400, .inl C_past)), (((rtP (rS 2) (rS 4) (rS 5) rF) 3), .inl (cy 0, 29, .inl F_all)), (((rtP (rS 2) (rS 4) (rS 5) rF) 4), .inl (cy 0, 4, .inl F_reasons)), ((rE 0), .inl (cy 1, 100, .inl E_heardAt)), ((rE 1), .inl (cy 1, 3200, .inl E_nearest)), ((rE 3), .inl (cy 0, 4, .inl E_ofVoice)), ((rE 4), .inl (cy 0, 5, .inl E_alike)), ((rW 0), .inl (cy 0, 400, .inl W_next)), ((rW 1), .inl (cy 0, 500, .inl W_way)), ((rW 2), .inl (cy 0, 5, .inl W_goal)), (((rtP (rS 2) (rS 4) (rS 5) rQ) 3), .inl (cy 0, 100, .inl Q_cell)), (((rtP (rS 2) (rS 4) (rS 5) rQ) 4), .inl (cy 0, 100, .inl Q_heading))] H → va_D A [(h0, .inr (10, oX10 rS sS)), ((rS 1), .inr (8, oX8 (rtQ (rS 0) rR) sR)), ((rS 2), .inr (4, oX4 rG sG)), ((rS 7), .inr (5, oX5 (rtQ (rS 1) rB) sB)), ((rS 8), .inr (0, oX0 rC sC)), ((rC 0), .inr (3, oX3 (rtP (rS 2) (rS 4) (rS 5) rF))), ((rS 4), .inr (1, oX1 rE)), ((rS 5), .inr (2, oX2 rW)), ((rS 10), .inr (7, oX7 (rtP (rS 2) (rS 4) (rS 5) rQ) sQ)), ((rS 0), .inl (cy 1, 500, .inl S_tape)), ((rG 11), .inl (cy 2, 5, .inl G_isFalse)), ((rG 12), .inl (cy 0, 4, .inl G_kind)), (((rtQ (rS 1) rB) 1), .inl (cy 0, 3, .inl B_begins)), (((rtQ (rS 1) rB) 2), .inl (cy 0, 3, .inl B_times)), (((rtQ (rS 1) rB) 4), .inl (cy 0, 200, .inl B_sets)), ((rC 1), .inl (cy 0, 3400, .inl C_past)), (((rtP (rS 2) (rS 4) (rS 5) rF) 3), .inl (cy 0, 29, .inl F_all)), (((rtP (rS 2) (rS 4) (rS 5) rF) 4), .inl (cy 0, 4, .inl F_reasons)), ((rE 0), .inl (cy 1, 100, .inl E_heardAt)), ((rE 1), .inl (cy 1, 3200, .inl E_nearest)), ((rE 3), .inl (cy 0, 4, .inl E_ofVoice)), ((rE 4), .inl (cy 0, 5, .inl E_alike)), ((rW 0), .inl (cy 0, 400, .inl W_next)), ((rW 1), .inl (cy 0, 500, .inl W_way)), ((rW 2), .inl (cy 0, 5, .inl W_goal)), (((rtP (rS 2) (rS 4) (rS 5) rQ) 3), .inl (cy 0, 100, .inl Q_cell)), (((rtP (rS 2) (rS 4) (rS 5) rQ) 4), .inl (cy 0, 100, .inl Q_heading))] → va_S A s.heap H locs → lv_has ls 4 [(0, .ref h0)] → W p l e R s m args below meth c H locs 1 6 QQ (F0 m 96 ls [])) → ∀ (nf60 : Nat) (sC : AR) (sQ : AR) (C_past : AR) (F_all : AR) (F_reasons : AR) (Q_cell : AR) (Q_heading : AR) (l3 : Int32) (H : Heap) (locs : List Loc) (ls : Array Slot), wpX10_orders_L60 sS sR sG sB S_tape G_isFalse G_kind B_begins B_times B_sets E_heardAt E_nearest E_ofVoice E_alike W_next W_way W_goal kx96 post postX nf60 sC sQ C_past F_all F_reasons Q_cell Q_heading l3 → va_P D clsX [(h0, .inr (10, oX10 rS sS)), ((rS 1), .inr (8, oX8 (rtQ (rS 0) rR) sR)), ((rS 2), .inr (4, oX4 rG sG)), ((rS 7), .inr (5, oX5 (rtQ (rS 1) rB) sB)), ((rS 8), .inr (0, oX0 rC sC)), ((rC 0), .inr (3, oX3 (rtP (rS 2) (rS 4) (rS 5) rF))), ((rS 4), .inr (1, oX1 rE)), ((rS 5), .inr (2, oX2 rW)), ((rS 10), .inr (7, oX7 (rtP (rS 2) (rS 4) (rS 5) rQ) sQ)), ((rS 0), .inl (cy 1, 500, .inl S_tape)), ((rG 11), .inl (cy 2, 5, .inl G_isFalse)), ((rG 12), .inl (cy 0, 4, .inl G_kind)), (((rtQ (rS 1) rB) 1), .inl (cy 0, 3, .inl B_begins)), (((rtQ (rS 1) rB) 2), .inl (cy 0, 3, .inl B_times)), (((rtQ (rS 1) rB) 4), .inl (cy 0, 200, .inl B_sets)), ((rC 1), .inl (cy 0, 3400, .inl C_past)), (((rtP (rS 2) (rS 4) (rS 5) rF) 3), .inl (cy 0, 29, .inl F_all)), (((rtP (rS 2) (rS 4) (rS 5) rF) 4), .inl (cy 0, 4, .inl F_reasons)), ((rE 0), .inl (cy 1, 100, .inl E_heardAt)), ((rE 1), .inl (cy 1, 3200, .inl E_nearest)), ((rE 3), .inl (cy 0, 4, .inl E_ofVoice)), ((rE 4), .inl (cy 0, 5, .inl E_alike)), ((rW 0), .inl (cy 0, 400, .inl W_next)), ((rW 1), .inl (cy 0, 500, .inl W_way)), ((rW 2), .inl (cy 0, 5, .inl W_goal)), (((rtP (rS 2) (rS 4) (rS 5) rQ) 3), .inl (cy 0, 100, .inl Q_cell)), (((rtP (rS 2) (rS 4) (rS 5) rQ) 4), .inl (cy 0, 100, .inl Q_heading))] H → va_D A [(h0, .inr (10, oX10 rS sS)), ((rS 1), .inr (8, oX8 (rtQ (rS 0) rR) sR)), ((rS 2), .inr (4, oX4 rG sG)), ((rS 7), .inr (5, oX5 (rtQ (rS 1) rB) sB)), ((rS 8), .inr (0, oX0 rC sC)), ((rC 0), .inr (3, oX3 (rtP (rS 2) (rS 4) (rS 5) rF))), ((rS 4), .inr (1, oX1 rE)), ((rS 5), .inr (2, oX2 rW)), ((rS 10), .inr (7, oX7 (rtP (rS 2) (rS 4) (rS 5) rQ) sQ)), ((rS 0), .inl (cy 1, 500, .inl S_tape)), ((rG 11), .inl (cy 2, 5, .inl G_isFalse)), ((rG 12), .inl (cy 0, 4, .inl G_kind)), (((rtQ (rS 1) rB) 1), .inl (cy 0, 3, .inl B_begins)), (((rtQ (rS 1) rB) 2), .inl (cy 0, 3, .inl B_times)), (((rtQ (rS 1) rB) 4), .inl (cy 0, 200, .inl B_sets)), ((rC 1), .inl (cy 0, 3400, .inl C_past)), (((rtP (rS 2) (rS 4) (rS 5) rF) 3), .inl (cy 0, 29, .inl F_all)), (((rtP (rS 2) (rS 4) (rS 5) rF) 4), .inl (cy 0, 4, .inl F_reasons)), ((rE 0), .inl (cy 1, 100, .inl E_heardAt)), ((rE 1), .inl (cy 1, 3200, .inl E_nearest)), ((rE 3), .inl (cy 0, 4, .inl E_ofVoice)), ((rE 4), .inl (cy 0, 5, .inl E_alike)), ((rW 0), .inl (cy 0, 400, .inl W_next)), ((rW 1), .inl (cy 0, 500, .inl W_way)), ((rW 2), .inl (cy 0, 5, .inl W_goal)), (((rtP (rS 2) (rS 4) (rS 5) rQ) 3), .inl (cy 0, 100, .inl Q_cell)), (((rtP (rS 2) (rS 4) (rS 5) rQ) 4), .inl (cy 0, 100, .inl Q_heading))] → va_S A s.heap H locs → lv_has ls 4 [(0, .ref h0), (3, .int l3)] → W p l e R s m args below meth c H locs 1 6 QQ (F0 m 60 ls []) := by
    intro sS sR sB B_begins B_times B_sets kx96 hk60_96 nf60
    induction nf60 with
    | zero =>
      intro sC sQ C_past F_all F_reasons Q_cell Q_heading l3 H locs ls h
      exact (show False from h).elim
    | succ nf60 ih60 =>
      intro sC sQ C_past F_all F_reasons Q_cell Q_heading l3 H locs ls h hP hD hS hl
      refine lv_iload_n hx hb dX10_orders_60 rfl (lv_at hl 1 rfl) ?_
      refine lv_aload_n hx hb dX10_orders_61 rfl (lv_at hl 0 rfl) ?_
      refine gfX10_58 hx hb hts hown hK hP 0 rfl dX10_orders_62 ?_
      refine gfX10_172 (v := (sB 5)) hx hb hts hown hK hP 3 rfl rfl dX10_orders_65 ?_
      refine lv_icmp_ge (tgt := 96) hx hb dX10_orders_68 (by decide) (fun c68 => ?_) (fun c68 => ?_)
      · have h := h.1 c68
        exact hk60_96 sC sQ C_past F_all F_reasons Q_cell Q_heading l3 _ _ _ h hP hD hS (lv_sub hl [0] rfl)
      · have h := h.2 c68
        refine lv_aload_n hx hb dX10_orders_71 rfl (lv_at hl 0 rfl) ?_
        refine lv_aload_n hx hb dX10_orders_72 rfl (lv_at hl 0 rfl) ?_
        refine gfX10_58 hx hb hts hown hK hP 0 rfl dX10_orders_73 ?_
        refine gfX10_175 hx hb hts hown hK hP 3 rfl dX10_orders_76 ?_
        refine lv_iload_n hx hb dX10_orders_79 rfl (lv_at hl 1 rfl) ?_
        obtain ⟨hin, h⟩ := h
        refine ldi (k := l3.toNatClampNeg) hx hb hK hP 14 rfl hin rfl dX10_orders_80 ?_
        refine clVi (As := [.int (B_sets l3.toNatClampNeg)]) (rest := []) (Wr := [((rS 1), .inr (8, oX8 (rtQ (rS 0) rR) sR)), ((rS 7), .inr (5, oX5 (rtQ (rS 1) rB) sB)), ((rS 0), .inl (cy 1, 500, .inl S_tape)), (((rtQ (rS 1) rB) 1), .inl (cy 0, 3, .inl B_begins)), (((rtQ (rS 1) rB) 2), .inl (cy 0, 3, .inl B_times)), (((rtQ (rS 1) rB) 4), .inl (cy 0, 200, .inl B_sets))]) (cq := (RX10, TX10, 18)) ⟨hx, hb, hml, hown, hts⟩ ⟨callB_of 1 hts (goodC mw526) rfl rfl rfl (hts _ (tb mw1)) (hts _ (tb mw523)) kdX10_strike ⟨Nat.le_trans (by decide) hRf, Nat.le_trans (by decide) hRl⟩, hts _ (tb mw525), hts _ (tb ms4)⟩ (ctX10_strike l D cy ev h0 rS rC (rtP (rS 2) (rS 4) (rS 5) rF) rG rE rW (rtP (rS 2) (rS 4) (rS 5) rQ) sS sC sG sQ C_past F_all F_reasons G_isFalse G_kind E_heardAt E_nearest E_ofVoice E_alike W_next W_way W_goal Q_cell Q_heading (B_sets l3.toNatClampNeg) _ _ h) hE hK hP hD hS hA [0, 4, 5, 2, 6, 7, 8, 15, 16, 17, 10, 11, 18, 19, 20, 21, 22, 23, 24, 25, 26] [1, 3, 9, 12, 13, 14] rfl rfl (by decide) (by decide) (by decide) 0 rfl rfl rfl hl.1 rfl (Nat.le_of_ble_eq_true rfl) ⟨Nat.le_trans (by decide) hRc, Nat.le_trans (by decide) hRs⟩ dX10_orders_81 (fun r81 u H locs h hP hD hS => ?_)
        obtain ⟨sC_81, sQ_81, C_past_81, F_all_81, F_reasons_81, Q_cell_81, Q_heading_81⟩ := u
        have hP : va_P D clsX [((rS 1), .inr (8, oX8 (rtQ (rS 0) rR) sR)), ((rS 7), .inr (5, oX5 (rtQ (rS 1) rB) sB)), ((rS 0), .inl (cy 1, 500, .inl S_tape)), (((rtQ (rS 1) rB) 1), .inl (cy 0, 3, .inl B_begins)), (((rtQ (rS 1) rB) 2), .inl (cy 0, 3, .inl B_times)), (((rtQ (rS 1) rB) 4), .inl (cy 0, 200, .inl B_sets)), (h0, .inr (10, oX10 rS sS)), ((rS 8), .inr (0, oX0 rC sC_81)), ((rC 0), .inr (3, oX3 (rtP (rS 2) (rS 4) (rS 5) rF))), ((rS 2), .inr (4, oX4 rG sG)), ((rS 4), .inr (1, oX1 rE)), ((rS 5), .inr (2, oX2 rW)), ((rS 10), .inr (7, oX7 (rtP (rS 2) (rS 4) (rS 5) rQ) sQ_81)), ((rC 1), .inl (cy 0, 3400, .inl C_past_81)), (((rtP (rS 2) (rS 4) (rS 5) rF) 3), .inl (cy 0, 29, .inl F_all_81)), (((rtP (rS 2) (rS 4) (rS 5) rF) 4), .inl (cy 0, 4, .inl F_reasons_81)), ((rG 11), .inl (cy 2, 5, .inl G_isFalse)), ((rG 12), .inl (cy 0, 4, .inl G_kind)), ((rE 0), .inl (cy 1, 100, .inl E_heardAt)), ((rE 1), .inl (cy 1, 3200, .inl E_nearest)), ((rE 3), .inl (cy 0, 4, .inl E_ofVoice)), ((rE 4), .inl (cy 0, 5, .inl E_alike)), ((rW 0), .inl (cy 0, 400, .inl W_next)), ((rW 1), .inl (cy 0, 500, .inl W_way)), ((rW 2), .inl (cy 0, 5, .inl W_goal)), (((rtP (rS 2) (rS 4) (rS 5) rQ) 3), .inl (cy 0, 100, .inl Q_cell_81)), (((rtP (rS 2) (rS 4) (rS 5) rQ) 4), .inl (cy 0, 100, .inl Q_heading_81))] H := hP
        have hD : va_D A [((rS 1), .inr (8, oX8 (rtQ (rS 0) rR) sR)), ((rS 7), .inr (5, oX5 (rtQ (rS 1) rB) sB)), ((rS 0), .inl (cy 1, 500, .inl S_tape)), (((rtQ (rS 1) rB) 1), .inl (cy 0, 3, .inl B_begins)), (((rtQ (rS 1) rB) 2), .inl (cy 0, 3, .inl B_times)), (((rtQ (rS 1) rB) 4), .inl (cy 0, 200, .inl B_sets)), (h0, .inr (10, oX10 rS sS)), ((rS 8), .inr (0, oX0 rC sC_81)), ((rC 0), .inr (3, oX3 (rtP (rS 2) (rS 4) (rS 5) rF))), ((rS 2), .inr (4, oX4 rG sG)), ((rS 4), .inr (1, oX1 rE)), ((rS 5), .inr (2, oX2 rW)), ((rS 10), .inr (7, oX7 (rtP (rS 2) (rS 4) (rS 5) rQ) sQ_81)), ((rC 1), .inl (cy 0, 3400, .inl C_past_81)), (((rtP (rS 2) (rS 4) (rS 5) rF) 3), .inl (cy 0, 29, .inl F_all_81)), (((rtP (rS 2) (rS 4) (rS 5) rF) 4), .inl (cy 0, 4, .inl F_reasons_81)), ((rG 11), .inl (cy 2, 5, .inl G_isFalse)), ((rG 12), .inl (cy 0, 4, .inl G_kind)), ((rE 0), .inl (cy 1, 100, .inl E_heardAt)), ((rE 1), .inl (cy 1, 3200, .inl E_nearest)), ((rE 3), .inl (cy 0, 4, .inl E_ofVoice)), ((rE 4), .inl (cy 0, 5, .inl E_alike)), ((rW 0), .inl (cy 0, 400, .inl W_next)), ((rW 1), .inl (cy 0, 500, .inl W_way)), ((rW 2), .inl (cy 0, 5, .inl W_goal)), (((rtP (rS 2) (rS 4) (rS 5) rQ) 3), .inl (cy 0, 100, .inl Q_cell_81)), (((rtP (rS 2) (rS 4) (rS 5) rQ) 4), .inl (cy 0, 100, .inl Q_heading_81))] := hD
        refine lv_iconst (v := (-1 : Int32)) hx hb dX10_orders_84 (by decide) ?_
        refine lv_icmp_ne (tgt := 90) hx hb dX10_orders_85 (by decide) (fun c85 => ?_) (fun c85 => ?_)
        · have h := h.1 c85
          obtain ⟨l3_90, el3_90⟩ : ∃ y : Int32, y = l3 + (1 : Int32) := ⟨_, rfl⟩
          have h := h l3_90 el3_90
          refine lv_iinc (v := l3_90) (lv' := [(3, .int l3_90), (0, .ref h0)]) hx hb dX10_orders_90 hl (k := 1) rfl (by rw [el3_90]; rfl) (by decide) rfl (fun ls hl => ?_)
          refine lv_goto (tgt := 60) hx hb dX10_orders_93 (by decide) ?_
          exact ih60 sC_81 sQ_81 C_past_81 F_all_81 F_reasons_81 Q_cell_81 Q_heading_81 l3_90 _ _ _ h (hP.sub [6, 0, 9, 1, 7, 8, 10, 11, 12, 2, 16, 17, 3, 4, 5, 13, 14, 15, 18, 19, 20, 21, 22, 23, 24, 25, 26] rfl) (hD.sub [6, 0, 9, 1, 7, 8, 10, 11, 12, 2, 16, 17, 3, 4, 5, 13, 14, 15, 18, 19, 20, 21, 22, 23, 24, 25, 26] (by decide) rfl) hS (lv_sub hl [1, 0] rfl)
        · have h := h.2 c85
          refine lv_iload_n hx hb dX10_orders_88 rfl (lv_at hl 1 rfl) ?_
          exact hret l3 (sS, sR, sB, sC_81, sQ_81, B_begins, B_times, B_sets, C_past_81, F_all_81, F_reasons_81, Q_cell_81, Q_heading_81) _ _ _ _ rfl dX10_orders_89 h (hP.sub [6, 0, 9, 1, 7, 8, 10, 11, 12, 2, 16, 17, 3, 4, 5, 13, 14, 15, 18, 19, 20, 21, 22, 23, 24, 25, 26] rfl) (hD.sub [6, 0, 9, 1, 7, 8, 10, 11, 12, 2, 16, 17, 3, 4, 5, 13, 14, 15, 18, 19, 20, 21, 22, 23, 24, 25, 26] (by decide) rfl) hS
  refine lv_aload_n hx hb dX10_orders_0 rfl (lv_at hl 0 rfl) ?_
  refine lv_iload_n hx hb dX10_orders_1 rfl (lv_at hl 1 rfl) ?_
  refine clXv (As := [.int x1]) (rest := []) (Wr := [((rS 2), .inr (4, oX4 rG sG)), ((rS 7), .inr (5, oX5 (rtQ (rS 1) rB) sB)), ((rS 8), .inr (0, oX0 rC sC)), ((rC 0), .inr (3, oX3 (rtP (rS 2) (rS 4) (rS 5) rF))), ((rS 4), .inr (1, oX1 rE)), ((rS 5), .inr (2, oX2 rW)), ((rS 10), .inr (7, oX7 (rtP (rS 2) (rS 4) (rS 5) rQ) sQ)), ((rG 11), .inl (cy 2, 5, .inl G_isFalse)), ((rG 12), .inl (cy 0, 4, .inl G_kind)), (((rtQ (rS 1) rB) 1), .inl (cy 0, 3, .inl B_begins)), (((rtQ (rS 1) rB) 2), .inl (cy 0, 3, .inl B_times)), (((rtQ (rS 1) rB) 4), .inl (cy 0, 200, .inl B_sets)), ((rC 1), .inl (cy 0, 3400, .inl C_past)), (((rtP (rS 2) (rS 4) (rS 5) rF) 3), .inl (cy 0, 29, .inl F_all)), (((rtP (rS 2) (rS 4) (rS 5) rF) 4), .inl (cy 0, 4, .inl F_reasons)), ((rE 0), .inl (cy 1, 100, .inl E_heardAt)), ((rE 1), .inl (cy 1, 3200, .inl E_nearest)), ((rE 3), .inl (cy 0, 4, .inl E_ofVoice)), ((rE 4), .inl (cy 0, 5, .inl E_alike)), ((rW 0), .inl (cy 0, 400, .inl W_next)), ((rW 1), .inl (cy 0, 500, .inl W_way)), ((rW 2), .inl (cy 0, 5, .inl W_goal)), (((rtP (rS 2) (rS 4) (rS 5) rQ) 3), .inl (cy 0, 100, .inl Q_cell)), (((rtP (rS 2) (rS 4) (rS 5) rQ) 4), .inl (cy 0, 100, .inl Q_heading))]) (cq := (RX10, TX10, 18)) ⟨hx, hb, hml, hown, hts⟩ ⟨callB_of 1 hts (goodC mw661) rfl rfl rfl (hts _ (tb mw1)) (hts _ (tb mw658)) kdX10_openTape ⟨Nat.le_trans (by decide) hRf, Nat.le_trans (by decide) hRl⟩, hts _ (tb mw660), hts _ (tb ms10)⟩ (ctX10_openTape l D cy ev hst h0 rS rR sS sR S_tape x1 _ _ _ h) hE hT hK hP hD hS hA [0, 1, 9] [2, 3, 4, 5, 6, 7, 8, 10, 11, 12, 13, 14, 15, 16, 17, 18, 19, 20, 21, 22, 23, 24, 25, 26] rfl rfl (by decide) (by decide) (by decide) 0 rfl rfl rfl hl.1 rfl (Nat.le_of_ble_eq_true rfl) ⟨Nat.le_trans (by decide) hRc, Nat.le_trans (by decide) hRs⟩ dX10_orders_2 (fun E ce q H locs h hP hD hS g1 g2 g3 => vx_widen (by decide) (by decide) (hthr E ce q _ _ _ _ _ h (hP.sub [24, 25, 0, 1, 2, 3, 4, 5, 6, 26, 7, 8, 9, 10, 11, 12, 13, 14, 15, 16, 17, 18, 19, 20, 21, 22, 23] rfl) (hD.sub [24, 25, 0, 1, 2, 3, 4, 5, 6, 26, 7, 8, 9, 10, 11, 12, 13, 14, 15, 16, 17, 18, 19, 20, 21, 22, 23] (by decide) rfl) hS g1 g2 g3)) (fun u H locs h hP hD hS => ?_)
  obtain ⟨sS_2, sR_2⟩ := u
  have hP : va_P D clsX [((rS 2), .inr (4, oX4 rG sG)), ((rS 7), .inr (5, oX5 (rtQ (rS 1) rB) sB)), ((rS 8), .inr (0, oX0 rC sC)), ((rC 0), .inr (3, oX3 (rtP (rS 2) (rS 4) (rS 5) rF))), ((rS 4), .inr (1, oX1 rE)), ((rS 5), .inr (2, oX2 rW)), ((rS 10), .inr (7, oX7 (rtP (rS 2) (rS 4) (rS 5) rQ) sQ)), ((rG 11), .inl (cy 2, 5, .inl G_isFalse)), ((rG 12), .inl (cy 0, 4, .inl G_kind)), (((rtQ (rS 1) rB) 1), .inl (cy 0, 3, .inl B_begins)), (((rtQ (rS 1) rB) 2), .inl (cy 0, 3, .inl B_times)), (((rtQ (rS 1) rB) 4), .inl (cy 0, 200, .inl B_sets)), ((rC 1), .inl (cy 0, 3400, .inl C_past)), (((rtP (rS 2) (rS 4) (rS 5) rF) 3), .inl (cy 0, 29, .inl F_all)), (((rtP (rS 2) (rS 4) (rS 5) rF) 4), .inl (cy 0, 4, .inl F_reasons)), ((rE 0), .inl (cy 1, 100, .inl E_heardAt)), ((rE 1), .inl (cy 1, 3200, .inl E_nearest)), ((rE 3), .inl (cy 0, 4, .inl E_ofVoice)), ((rE 4), .inl (cy 0, 5, .inl E_alike)), ((rW 0), .inl (cy 0, 400, .inl W_next)), ((rW 1), .inl (cy 0, 500, .inl W_way)), ((rW 2), .inl (cy 0, 5, .inl W_goal)), (((rtP (rS 2) (rS 4) (rS 5) rQ) 3), .inl (cy 0, 100, .inl Q_cell)), (((rtP (rS 2) (rS 4) (rS 5) rQ) 4), .inl (cy 0, 100, .inl Q_heading)), (h0, .inr (10, oX10 rS sS_2)), ((rS 1), .inr (8, oX8 (rtQ (rS 0) rR) sR_2)), ((rS 0), .inl (cy 1, 500, .inl S_tape))] H := hP
  have hD : va_D A [((rS 2), .inr (4, oX4 rG sG)), ((rS 7), .inr (5, oX5 (rtQ (rS 1) rB) sB)), ((rS 8), .inr (0, oX0 rC sC)), ((rC 0), .inr (3, oX3 (rtP (rS 2) (rS 4) (rS 5) rF))), ((rS 4), .inr (1, oX1 rE)), ((rS 5), .inr (2, oX2 rW)), ((rS 10), .inr (7, oX7 (rtP (rS 2) (rS 4) (rS 5) rQ) sQ)), ((rG 11), .inl (cy 2, 5, .inl G_isFalse)), ((rG 12), .inl (cy 0, 4, .inl G_kind)), (((rtQ (rS 1) rB) 1), .inl (cy 0, 3, .inl B_begins)), (((rtQ (rS 1) rB) 2), .inl (cy 0, 3, .inl B_times)), (((rtQ (rS 1) rB) 4), .inl (cy 0, 200, .inl B_sets)), ((rC 1), .inl (cy 0, 3400, .inl C_past)), (((rtP (rS 2) (rS 4) (rS 5) rF) 3), .inl (cy 0, 29, .inl F_all)), (((rtP (rS 2) (rS 4) (rS 5) rF) 4), .inl (cy 0, 4, .inl F_reasons)), ((rE 0), .inl (cy 1, 100, .inl E_heardAt)), ((rE 1), .inl (cy 1, 3200, .inl E_nearest)), ((rE 3), .inl (cy 0, 4, .inl E_ofVoice)), ((rE 4), .inl (cy 0, 5, .inl E_alike)), ((rW 0), .inl (cy 0, 400, .inl W_next)), ((rW 1), .inl (cy 0, 500, .inl W_way)), ((rW 2), .inl (cy 0, 5, .inl W_goal)), (((rtP (rS 2) (rS 4) (rS 5) rQ) 3), .inl (cy 0, 100, .inl Q_cell)), (((rtP (rS 2) (rS 4) (rS 5) rQ) 4), .inl (cy 0, 100, .inl Q_heading)), (h0, .inr (10, oX10 rS sS_2)), ((rS 1), .inr (8, oX8 (rtQ (rS 0) rR) sR_2)), ((rS 0), .inl (cy 1, 500, .inl S_tape))] := hD
  refine lv_aload_n hx hb dX10_orders_5 rfl (lv_at hl 0 rfl) ?_
  refine gfX10_58 hx hb hts hown hK hP 24 rfl dX10_orders_6 ?_
  refine lv_aload_n hx hb dX10_orders_9 rfl (lv_at hl 0 rfl) ?_
  refine gfX10_23 hx hb hts hown hK hP 24 rfl dX10_orders_10 ?_
  refine gfX10_165 (v := (sG 2)) hx hb hts hown hK hP 0 rfl rfl dX10_orders_13 ?_
  refine clVi (As := [.int (sG 2)]) (rest := []) (Wr := [((rS 2), .inr (4, oX4 rG sG)), ((rS 8), .inr (0, oX0 rC sC)), ((rC 0), .inr (3, oX3 (rtP (rS 2) (rS 4) (rS 5) rF))), ((rS 4), .inr (1, oX1 rE)), ((rS 5), .inr (2, oX2 rW)), ((rS 10), .inr (7, oX7 (rtP (rS 2) (rS 4) (rS 5) rQ) sQ)), ((rG 11), .inl (cy 2, 5, .inl G_isFalse)), ((rG 12), .inl (cy 0, 4, .inl G_kind)), ((rC 1), .inl (cy 0, 3400, .inl C_past)), (((rtP (rS 2) (rS 4) (rS 5) rF) 3), .inl (cy 0, 29, .inl F_all)), (((rtP (rS 2) (rS 4) (rS 5) rF) 4), .inl (cy 0, 4, .inl F_reasons)), ((rE 0), .inl (cy 1, 100, .inl E_heardAt)), ((rE 1), .inl (cy 1, 3200, .inl E_nearest)), ((rE 3), .inl (cy 0, 4, .inl E_ofVoice)), ((rE 4), .inl (cy 0, 5, .inl E_alike)), ((rW 0), .inl (cy 0, 400, .inl W_next)), ((rW 1), .inl (cy 0, 500, .inl W_way)), ((rW 2), .inl (cy 0, 5, .inl W_goal)), (((rtP (rS 2) (rS 4) (rS 5) rQ) 3), .inl (cy 0, 100, .inl Q_cell)), (((rtP (rS 2) (rS 4) (rS 5) rQ) 4), .inl (cy 0, 100, .inl Q_heading)), (h0, .inr (10, oX10 rS sS_2))]) (cq := (RX5, TX5, 6)) ⟨hx, hb, hml, hown, hts⟩ ⟨callB_of 1 hts (goodC mw894) rfl rfl rfl (hts _ (tb mw7)) (hts _ (tb mw891)) kdX5_read ⟨Nat.le_trans (by decide) hRf, Nat.le_trans (by decide) hRl⟩, hts _ (tb mw892), hts _ (tb mw893)⟩ (ctX5_read l D cy ev (rS 7) (rtQ (rS 1) rB) (rtQ (rS 0) rR) sB sR_2 B_begins B_times B_sets S_tape (sG 2) _ _ h) hE hK hP hD hS hA [1, 25, 9, 10, 11, 26] [0, 2, 3, 4, 5, 6, 7, 8, 12, 13, 14, 15, 16, 17, 18, 19, 20, 21, 22, 23, 24] rfl rfl (by decide) (by decide) (by decide) 0 rfl rfl rfl hl.1 rfl (Nat.le_of_ble_eq_true rfl) ⟨Nat.le_trans (by decide) hRc, Nat.le_trans (by decide) hRs⟩ dX10_orders_16 (fun r16 u H locs h hP hD hS => ?_)
  obtain ⟨sB_16, sR_16, B_begins_16, B_times_16, B_sets_16⟩ := u
  have hP : va_P D clsX [((rS 2), .inr (4, oX4 rG sG)), ((rS 8), .inr (0, oX0 rC sC)), ((rC 0), .inr (3, oX3 (rtP (rS 2) (rS 4) (rS 5) rF))), ((rS 4), .inr (1, oX1 rE)), ((rS 5), .inr (2, oX2 rW)), ((rS 10), .inr (7, oX7 (rtP (rS 2) (rS 4) (rS 5) rQ) sQ)), ((rG 11), .inl (cy 2, 5, .inl G_isFalse)), ((rG 12), .inl (cy 0, 4, .inl G_kind)), ((rC 1), .inl (cy 0, 3400, .inl C_past)), (((rtP (rS 2) (rS 4) (rS 5) rF) 3), .inl (cy 0, 29, .inl F_all)), (((rtP (rS 2) (rS 4) (rS 5) rF) 4), .inl (cy 0, 4, .inl F_reasons)), ((rE 0), .inl (cy 1, 100, .inl E_heardAt)), ((rE 1), .inl (cy 1, 3200, .inl E_nearest)), ((rE 3), .inl (cy 0, 4, .inl E_ofVoice)), ((rE 4), .inl (cy 0, 5, .inl E_alike)), ((rW 0), .inl (cy 0, 400, .inl W_next)), ((rW 1), .inl (cy 0, 500, .inl W_way)), ((rW 2), .inl (cy 0, 5, .inl W_goal)), (((rtP (rS 2) (rS 4) (rS 5) rQ) 3), .inl (cy 0, 100, .inl Q_cell)), (((rtP (rS 2) (rS 4) (rS 5) rQ) 4), .inl (cy 0, 100, .inl Q_heading)), (h0, .inr (10, oX10 rS sS_2)), ((rS 7), .inr (5, oX5 (rtQ (rS 1) rB) sB_16)), ((rS 1), .inr (8, oX8 (rtQ (rS 0) rR) sR_16)), (((rtQ (rS 1) rB) 1), .inl (cy 0, 3, .inl B_begins_16)), (((rtQ (rS 1) rB) 2), .inl (cy 0, 3, .inl B_times_16)), (((rtQ (rS 1) rB) 4), .inl (cy 0, 200, .inl B_sets_16)), ((rS 0), .inl (cy 1, 500, .inl S_tape))] H := hP
  have hD : va_D A [((rS 2), .inr (4, oX4 rG sG)), ((rS 8), .inr (0, oX0 rC sC)), ((rC 0), .inr (3, oX3 (rtP (rS 2) (rS 4) (rS 5) rF))), ((rS 4), .inr (1, oX1 rE)), ((rS 5), .inr (2, oX2 rW)), ((rS 10), .inr (7, oX7 (rtP (rS 2) (rS 4) (rS 5) rQ) sQ)), ((rG 11), .inl (cy 2, 5, .inl G_isFalse)), ((rG 12), .inl (cy 0, 4, .inl G_kind)), ((rC 1), .inl (cy 0, 3400, .inl C_past)), (((rtP (rS 2) (rS 4) (rS 5) rF) 3), .inl (cy 0, 29, .inl F_all)), (((rtP (rS 2) (rS 4) (rS 5) rF) 4), .inl (cy 0, 4, .inl F_reasons)), ((rE 0), .inl (cy 1, 100, .inl E_heardAt)), ((rE 1), .inl (cy 1, 3200, .inl E_nearest)), ((rE 3), .inl (cy 0, 4, .inl E_ofVoice)), ((rE 4), .inl (cy 0, 5, .inl E_alike)), ((rW 0), .inl (cy 0, 400, .inl W_next)), ((rW 1), .inl (cy 0, 500, .inl W_way)), ((rW 2), .inl (cy 0, 5, .inl W_goal)), (((rtP (rS 2) (rS 4) (rS 5) rQ) 3), .inl (cy 0, 100, .inl Q_cell)), (((rtP (rS 2) (rS 4) (rS 5) rQ) 4), .inl (cy 0, 100, .inl Q_heading)), (h0, .inr (10, oX10 rS sS_2)), ((rS 7), .inr (5, oX5 (rtQ (rS 1) rB) sB_16)), ((rS 1), .inr (8, oX8 (rtQ (rS 0) rR) sR_16)), (((rtQ (rS 1) rB) 1), .inl (cy 0, 3, .inl B_begins_16)), (((rtQ (rS 1) rB) 2), .inl (cy 0, 3, .inl B_times_16)), (((rtQ (rS 1) rB) 4), .inl (cy 0, 200, .inl B_sets_16)), ((rS 0), .inl (cy 1, 500, .inl S_tape))] := hD
  refine lv_istore_n (lv' := [(2, .int r16), (0, .ref h0), (1, .int x1)]) hx hb dX10_orders_19 rfl hl (by decide) rfl (fun ls hl => ?_)
  refine lv_aload_n hx hb dX10_orders_20 rfl (lv_at hl 1 rfl) ?_
  refine lv_aload_n hx hb dX10_orders_21 rfl (lv_at hl 1 rfl) ?_
  refine gfX10_16 hx hb hts hown hK hP 20 rfl dX10_orders_22 ?_
  refine gfX10_143 (v := (sR_16 9)) hx hb hts hown hK hP 22 rfl rfl dX10_orders_25 ?_
  refine lv_topi (fun f16_28 ef16_28 => ?_)
  have h := h f16_28 ef16_28
  refine pfX10_99 hx hb hts hown hK hP hD hS 20 rfl dX10_orders_28 (fun H locs hP hD hS => ?_)
  have hP : va_P D clsX [((rS 2), .inr (4, oX4 rG sG)), ((rS 8), .inr (0, oX0 rC sC)), ((rC 0), .inr (3, oX3 (rtP (rS 2) (rS 4) (rS 5) rF))), ((rS 4), .inr (1, oX1 rE)), ((rS 5), .inr (2, oX2 rW)), ((rS 10), .inr (7, oX7 (rtP (rS 2) (rS 4) (rS 5) rQ) sQ)), ((rG 11), .inl (cy 2, 5, .inl G_isFalse)), ((rG 12), .inl (cy 0, 4, .inl G_kind)), ((rC 1), .inl (cy 0, 3400, .inl C_past)), (((rtP (rS 2) (rS 4) (rS 5) rF) 3), .inl (cy 0, 29, .inl F_all)), (((rtP (rS 2) (rS 4) (rS 5) rF) 4), .inl (cy 0, 4, .inl F_reasons)), ((rE 0), .inl (cy 1, 100, .inl E_heardAt)), ((rE 1), .inl (cy 1, 3200, .inl E_nearest)), ((rE 3), .inl (cy 0, 4, .inl E_ofVoice)), ((rE 4), .inl (cy 0, 5, .inl E_alike)), ((rW 0), .inl (cy 0, 400, .inl W_next)), ((rW 1), .inl (cy 0, 500, .inl W_way)), ((rW 2), .inl (cy 0, 5, .inl W_goal)), (((rtP (rS 2) (rS 4) (rS 5) rQ) 3), .inl (cy 0, 100, .inl Q_cell)), (((rtP (rS 2) (rS 4) (rS 5) rQ) 4), .inl (cy 0, 100, .inl Q_heading)), (h0, .inr (10, oX10 rS (upd sS_2 16 f16_28))), ((rS 7), .inr (5, oX5 (rtQ (rS 1) rB) sB_16)), ((rS 1), .inr (8, oX8 (rtQ (rS 0) rR) sR_16)), (((rtQ (rS 1) rB) 1), .inl (cy 0, 3, .inl B_begins_16)), (((rtQ (rS 1) rB) 2), .inl (cy 0, 3, .inl B_times_16)), (((rtQ (rS 1) rB) 4), .inl (cy 0, 200, .inl B_sets_16)), ((rS 0), .inl (cy 1, 500, .inl S_tape))] H := hP
  have hD : va_D A [((rS 2), .inr (4, oX4 rG sG)), ((rS 8), .inr (0, oX0 rC sC)), ((rC 0), .inr (3, oX3 (rtP (rS 2) (rS 4) (rS 5) rF))), ((rS 4), .inr (1, oX1 rE)), ((rS 5), .inr (2, oX2 rW)), ((rS 10), .inr (7, oX7 (rtP (rS 2) (rS 4) (rS 5) rQ) sQ)), ((rG 11), .inl (cy 2, 5, .inl G_isFalse)), ((rG 12), .inl (cy 0, 4, .inl G_kind)), ((rC 1), .inl (cy 0, 3400, .inl C_past)), (((rtP (rS 2) (rS 4) (rS 5) rF) 3), .inl (cy 0, 29, .inl F_all)), (((rtP (rS 2) (rS 4) (rS 5) rF) 4), .inl (cy 0, 4, .inl F_reasons)), ((rE 0), .inl (cy 1, 100, .inl E_heardAt)), ((rE 1), .inl (cy 1, 3200, .inl E_nearest)), ((rE 3), .inl (cy 0, 4, .inl E_ofVoice)), ((rE 4), .inl (cy 0, 5, .inl E_alike)), ((rW 0), .inl (cy 0, 400, .inl W_next)), ((rW 1), .inl (cy 0, 500, .inl W_way)), ((rW 2), .inl (cy 0, 5, .inl W_goal)), (((rtP (rS 2) (rS 4) (rS 5) rQ) 3), .inl (cy 0, 100, .inl Q_cell)), (((rtP (rS 2) (rS 4) (rS 5) rQ) 4), .inl (cy 0, 100, .inl Q_heading)), (h0, .inr (10, oX10 rS (upd sS_2 16 f16_28))), ((rS 7), .inr (5, oX5 (rtQ (rS 1) rB) sB_16)), ((rS 1), .inr (8, oX8 (rtQ (rS 0) rR) sR_16)), (((rtQ (rS 1) rB) 1), .inl (cy 0, 3, .inl B_begins_16)), (((rtQ (rS 1) rB) 2), .inl (cy 0, 3, .inl B_times_16)), (((rtQ (rS 1) rB) 4), .inl (cy 0, 200, .inl B_sets_16)), ((rS 0), .inl (cy 1, 500, .inl S_tape))] := hD
  refine lv_iload_n hx hb dX10_orders_31 rfl (lv_at hl 0 rfl) ?_
  refine lv_if_ne (tgt := 58) hx hb dX10_orders_32 (by decide) (fun c32 => ?_) (fun c32 => ?_)
  · have h := h.1 c32
    refine lv_iconst (v := (0 : Int32)) hx hb dX10_orders_58 (by decide) ?_
    refine lv_istore_n (lv' := [(3, .int (0 : Int32)), (2, .int r16), (0, .ref h0), (1, .int x1)]) hx hb dX10_orders_59 rfl hl (by decide) rfl (fun ls hl => ?_)
    obtain ⟨nf60, h⟩ := h
    refine L60 (upd sS_2 16 f16_28) sR_16 sB_16 B_begins_16 B_times_16 B_sets_16 _ (fun sC_96 sQ_96 C_past_96 F_all_96 F_reasons_96 Q_cell_96 Q_heading_96 l3_96 H locs ls h hP hD hS hl => ?_) nf60 sC sQ C_past F_all F_reasons Q_cell Q_heading (0 : Int32) _ _ _ h (hP.sub [20, 22, 0, 21, 1, 2, 3, 4, 5, 26, 6, 7, 23, 24, 25, 8, 9, 10, 11, 12, 13, 14, 15, 16, 17, 18, 19] rfl) (hD.sub [20, 22, 0, 21, 1, 2, 3, 4, 5, 26, 6, 7, 23, 24, 25, 8, 9, 10, 11, 12, 13, 14, 15, 16, 17, 18, 19] (by decide) rfl) hS (lv_sub hl [2, 0] rfl)
    refine lv_aload_n hx hb dX10_orders_96 rfl (lv_at hl 0 rfl) ?_
    refine gfX10_58 hx hb hts hown hK hP 0 rfl dX10_orders_97 ?_
    refine gfX10_172 (v := (sB_16 5)) hx hb hts hown hK hP 3 rfl rfl dX10_orders_100 ?_
    exact hret (sB_16 5) ((upd sS_2 16 f16_28), sR_16, sB_16, sC_96, sQ_96, B_begins_16, B_times_16, B_sets_16, C_past_96, F_all_96, F_reasons_96, Q_cell_96, Q_heading_96) _ _ _ _ rfl dX10_orders_103 h hP hD hS
  · have h := h.2 c32
    refine lv_aload_n hx hb dX10_orders_35 rfl (lv_at hl 1 rfl) ?_
    refine gfX10_67 hx hb hts hown hK hP 20 rfl dX10_orders_36 ?_
    refine lv_dup hx hb dX10_orders_39 rfl ?_
    refine gfX10_146 (v := (sC 5)) hx hb hts hown hK hP 1 rfl rfl dX10_orders_40 ?_
    refine lv_iconst (v := (1 : Int32)) hx hb dX10_orders_43 (by decide) ?_
    refine lv_iadd hx hb dX10_orders_44 ?_
    refine lv_topi (fun f5_45 ef5_45 => ?_)
    have h := h f5_45 ef5_45
    refine pfX10_146 hx hb hts hown hK hP hD hS 1 rfl dX10_orders_45 (fun H locs hP hD hS => ?_)
    have hP : va_P D clsX [((rS 2), .inr (4, oX4 rG sG)), ((rS 8), .inr (0, oX0 rC (upd sC 5 f5_45))), ((rC 0), .inr (3, oX3 (rtP (rS 2) (rS 4) (rS 5) rF))), ((rS 4), .inr (1, oX1 rE)), ((rS 5), .inr (2, oX2 rW)), ((rS 10), .inr (7, oX7 (rtP (rS 2) (rS 4) (rS 5) rQ) sQ)), ((rG 11), .inl (cy 2, 5, .inl G_isFalse)), ((rG 12), .inl (cy 0, 4, .inl G_kind)), ((rC 1), .inl (cy 0, 3400, .inl C_past)), (((rtP (rS 2) (rS 4) (rS 5) rF) 3), .inl (cy 0, 29, .inl F_all)), (((rtP (rS 2) (rS 4) (rS 5) rF) 4), .inl (cy 0, 4, .inl F_reasons)), ((rE 0), .inl (cy 1, 100, .inl E_heardAt)), ((rE 1), .inl (cy 1, 3200, .inl E_nearest)), ((rE 3), .inl (cy 0, 4, .inl E_ofVoice)), ((rE 4), .inl (cy 0, 5, .inl E_alike)), ((rW 0), .inl (cy 0, 400, .inl W_next)), ((rW 1), .inl (cy 0, 500, .inl W_way)), ((rW 2), .inl (cy 0, 5, .inl W_goal)), (((rtP (rS 2) (rS 4) (rS 5) rQ) 3), .inl (cy 0, 100, .inl Q_cell)), (((rtP (rS 2) (rS 4) (rS 5) rQ) 4), .inl (cy 0, 100, .inl Q_heading)), (h0, .inr (10, oX10 rS (upd sS_2 16 f16_28))), ((rS 7), .inr (5, oX5 (rtQ (rS 1) rB) sB_16)), ((rS 1), .inr (8, oX8 (rtQ (rS 0) rR) sR_16)), (((rtQ (rS 1) rB) 1), .inl (cy 0, 3, .inl B_begins_16)), (((rtQ (rS 1) rB) 2), .inl (cy 0, 3, .inl B_times_16)), (((rtQ (rS 1) rB) 4), .inl (cy 0, 200, .inl B_sets_16)), ((rS 0), .inl (cy 1, 500, .inl S_tape))] H := hP
    have hD : va_D A [((rS 2), .inr (4, oX4 rG sG)), ((rS 8), .inr (0, oX0 rC (upd sC 5 f5_45))), ((rC 0), .inr (3, oX3 (rtP (rS 2) (rS 4) (rS 5) rF))), ((rS 4), .inr (1, oX1 rE)), ((rS 5), .inr (2, oX2 rW)), ((rS 10), .inr (7, oX7 (rtP (rS 2) (rS 4) (rS 5) rQ) sQ)), ((rG 11), .inl (cy 2, 5, .inl G_isFalse)), ((rG 12), .inl (cy 0, 4, .inl G_kind)), ((rC 1), .inl (cy 0, 3400, .inl C_past)), (((rtP (rS 2) (rS 4) (rS 5) rF) 3), .inl (cy 0, 29, .inl F_all)), (((rtP (rS 2) (rS 4) (rS 5) rF) 4), .inl (cy 0, 4, .inl F_reasons)), ((rE 0), .inl (cy 1, 100, .inl E_heardAt)), ((rE 1), .inl (cy 1, 3200, .inl E_nearest)), ((rE 3), .inl (cy 0, 4, .inl E_ofVoice)), ((rE 4), .inl (cy 0, 5, .inl E_alike)), ((rW 0), .inl (cy 0, 400, .inl W_next)), ((rW 1), .inl (cy 0, 500, .inl W_way)), ((rW 2), .inl (cy 0, 5, .inl W_goal)), (((rtP (rS 2) (rS 4) (rS 5) rQ) 3), .inl (cy 0, 100, .inl Q_cell)), (((rtP (rS 2) (rS 4) (rS 5) rQ) 4), .inl (cy 0, 100, .inl Q_heading)), (h0, .inr (10, oX10 rS (upd sS_2 16 f16_28))), ((rS 7), .inr (5, oX5 (rtQ (rS 1) rB) sB_16)), ((rS 1), .inr (8, oX8 (rtQ (rS 0) rR) sR_16)), (((rtQ (rS 1) rB) 1), .inl (cy 0, 3, .inl B_begins_16)), (((rtQ (rS 1) rB) 2), .inl (cy 0, 3, .inl B_times_16)), (((rtQ (rS 1) rB) 4), .inl (cy 0, 200, .inl B_sets_16)), ((rS 0), .inl (cy 1, 500, .inl S_tape))] := hD
    refine lv_iconst (v := (-1 : Int32)) hx hb dX10_orders_48 (by decide) ?_
    refine lv_aload_n hx hb dX10_orders_49 rfl (lv_at hl 1 rfl) ?_
    refine gfX10_16 hx hb hts hown hK hP 20 rfl dX10_orders_50 ?_
    refine gfX10_149 (v := (sR_16 8)) hx hb hts hown hK hP 22 rfl rfl dX10_orders_53 ?_
    refine lv_isub hx hb dX10_orders_56 ?_
    exact hret ((-1 : Int32) - (sR_16 8)) ((upd sS_2 16 f16_28), sR_16, sB_16, (upd sC 5 f5_45), sQ, B_begins_16, B_times_16, B_sets_16, C_past, F_all, F_reasons, Q_cell, Q_heading) _ _ _ _ rfl dX10_orders_57 h (hP.sub [20, 22, 0, 21, 1, 2, 3, 4, 5, 26, 6, 7, 23, 24, 25, 8, 9, 10, 11, 12, 13, 14, 15, 16, 17, 18, 19] rfl) (hD.sub [20, 22, 0, 21, 1, 2, 3, 4, 5, 26, 6, 7, 23, 24, 25, 8, 9, 10, 11, 12, 13, 14, 15, 16, 17, 18, 19] (by decide) rfl) hS
def wpX10_count (sS : AR) (sC : AR) (sG : AR) (F_all : AR) (x1 : Int32) (post : Int32 → Prop) (postX : String → Prop) : Prop := ((x1 = (0 : Int32) → post (sG 0)) ∧ (¬ x1 = (0 : Int32) → ((x1 = (1 : Int32) → post (sG 1)) ∧ (¬ x1 = (1 : Int32) → ((x1 = (2 : Int32) → post (sG 2)) ∧ (¬ x1 = (2 : Int32) → ((x1 = (3 : Int32) → post (sG 3)) ∧ (¬ x1 = (3 : Int32) → ((x1 = (4 : Int32) → post (sG 4)) ∧ (¬ x1 = (4 : Int32) → ((x1 = (5 : Int32) → post (sG 5)) ∧ (¬ x1 = (5 : Int32) → ((x1 = (6 : Int32) → post (sG 6)) ∧ (¬ x1 = (6 : Int32) → ((x1 = (7 : Int32) → post (sC 3)) ∧ (¬ x1 = (7 : Int32) → ((x1 = (8 : Int32) → post (sC 4)) ∧ (¬ x1 = (8 : Int32) → ((x1 = (9 : Int32) → wpX3_howMany sG F_all (1 : Int32) (fun r156 => post r156)) ∧ (¬ x1 = (9 : Int32) → ((x1 = (10 : Int32) → wpX3_howMany sG F_all (2 : Int32) (fun r168 => post r168)) ∧ (¬ x1 = (10 : Int32) → ((x1 = (11 : Int32) → wpX3_howMany sG F_all (3 : Int32) (fun r180 => post r180)) ∧ (¬ x1 = (11 : Int32) → ((x1 = (12 : Int32) → post (sS 15)) ∧ (¬ x1 = (12 : Int32) → ((x1 = (13 : Int32) → post (sC 5)) ∧ (¬ x1 = (13 : Int32) → ((x1 = (14 : Int32) → post (sC 6)) ∧ (¬ x1 = (14 : Int32) → postX exN))))))))))))))))))))))))))))))
set_option maxHeartbeats 4000000 in
set_option maxRecDepth 100000 in
theorem ctX10_count (l : Launch) (D : va_G) (cy : Nat → ClassId) (ev : Nat → Nat) (hst : l.stackTraces = false) (h0 : Nat) (rS : Nat → Nat) (rC : Nat → Nat) (rF : Nat → Nat) (rG : Nat → Nat) (sS : AR) (sC : AR) (sG : AR) (F_all : AR) (x1 : Int32) (sz : Nat) (post : Int32 → Prop) (postX : String → Prop) (h : wpX10_count sS sC sG F_all x1 post postX) : vx_Met l yX10_count (Cond.code yX10_count cX10_count 2 (some .int) :: TB) ({ frames := 6, cells := 1, slots := 6, locals := 100 }) (va_Pc [.ref h0, .int x1] (PreT D cy ev [(h0, .inr (10, oX10 rS sS)), ((rS 8), .inr (0, oX0 rC sC)), ((rC 0), .inr (3, oX3 (rtP (rS 2) (rS 4) (rS 5) rF))), ((rS 2), .inr (4, oX4 rG sG)), (((rtP (rS 2) (rS 4) (rS 5) rF) 3), .inl (cy 0, 29, .inl F_all))] sz)) (va_Qi (fun (r : Int32) (u : Unit) => post r) (fun u => BkX D cy [(h0, .inr (10, oX10 rS sS)), ((rS 8), .inr (0, oX0 rC sC)), ((rC 0), .inr (3, oX3 (rtP (rS 2) (rS 4) (rS 5) rF))), ((rS 2), .inr (4, oX4 rG sG)), (((rtP (rS 2) (rS 4) (rS 5) rF) 3), .inl (cy 0, 29, .inl F_all))] sz [(h0, .inr (10, oX10 rS sS)), ((rS 8), .inr (0, oX0 rC sC)), ((rC 0), .inr (3, oX3 (rtP (rS 2) (rS 4) (rS 5) rF))), ((rS 2), .inr (4, oX4 rG sG)), (((rtP (rS 2) (rS 4) (rS 5) rF) 3), .inl (cy 0, 29, .inl F_all))]) (va_A [(h0, .inr (10, oX10 rS sS)), ((rS 8), .inr (0, oX0 rC sC)), ((rC 0), .inr (3, oX3 (rtP (rS 2) (rS 4) (rS 5) rF))), ((rS 2), .inr (4, oX4 rG sG)), (((rtP (rS 2) (rS 4) (rS 5) rF) 3), .inl (cy 0, 29, .inl F_all))] sz)) (XcX D cy [(h0, .inr (10, oX10 rS sS)), ((rS 8), .inr (0, oX0 rC sC)), ((rC 0), .inr (3, oX3 (rtP (rS 2) (rS 4) (rS 5) rF))), ((rS 2), .inr (4, oX4 rG sG)), (((rtP (rS 2) (rS 4) (rS 5) rF) 3), .inl (cy 0, 29, .inl F_all))] sz postX) 1 6 (va_A [(h0, .inr (10, oX10 rS sS)), ((rS 8), .inr (0, oX0 rC sC)), ((rC 0), .inr (3, oX3 (rtP (rS 2) (rS 4) (rS 5) rF))), ((rS 2), .inr (4, oX4 rG sG)), (((rtP (rS 2) (rS 4) (rS 5) rF) 3), .inl (cy 0, 29, .inl F_all))] sz) := by
  refine ofXi hst (by decide) rfl (Nat.le_of_ble_eq_true rfl) ⟨by decide, by decide, by decide, by decide⟩ ?_
  intro p e s m args below meth c ls A R QQ hx hb hml hown hts hR hlk hE hT hK hP hD hS hA hl hthr hnN hnNW hnI hnIW hret
  have hRc : 1 ≤ R.cells := by rw [hR]; exact Nat.le_refl _
  have hRs : 6 ≤ R.slots := by rw [hR]; exact Nat.le_refl _
  have hown : s.vm.findClass RX10 = some m.cls := hown
  have hRf : 6 ≤ R.frames := by rw [hR]; exact Nat.le_refl _
  have hRl : 100 ≤ R.locals := by rw [hR]; exact Nat.le_refl _
  clear hR
  have hl : lv_has ls 2 [(0, .ref h0), (1, .int x1)] := hl
  refine lv_iload_n hx hb dX10_count_0 rfl (lv_at hl 1 rfl) ?_
  by_cases c1_0 : x1 = (0 : Int32)
  · have h := h.1 c1_0
    refine lv_tableIn (off := 75) (tgt := 76) hx hb dX10_count_1 (by rw [c1_0]; decide) (by rw [c1_0]; decide) (by rw [c1_0]; rfl) (by decide) ?_
    refine lv_aload_n hx hb dX10_count_76 rfl (lv_at hl 0 rfl) ?_
    refine gfX10_23 hx hb hts hown hK hP 0 rfl dX10_count_77 ?_
    refine gfX10_182 (v := (sG 0)) hx hb hts hown hK hP 3 rfl rfl dX10_count_80 ?_
    refine W.widen (k := 1) (n := 6) (by decide) (by decide) ?_
    exact hret (sG 0) () _ _ _ _ rfl dX10_count_83 h hP hD hS
  · have h := h.2 c1_0
    by_cases c1_1 : x1 = (1 : Int32)
    · have h := h.1 c1_1
      refine lv_tableIn (off := 83) (tgt := 84) hx hb dX10_count_1 (by rw [c1_1]; decide) (by rw [c1_1]; decide) (by rw [c1_1]; rfl) (by decide) ?_
      refine lv_aload_n hx hb dX10_count_84 rfl (lv_at hl 0 rfl) ?_
      refine gfX10_23 hx hb hts hown hK hP 0 rfl dX10_count_85 ?_
      refine gfX10_185 (v := (sG 1)) hx hb hts hown hK hP 3 rfl rfl dX10_count_88 ?_
      refine W.widen (k := 1) (n := 6) (by decide) (by decide) ?_
      exact hret (sG 1) () _ _ _ _ rfl dX10_count_91 h hP hD hS
    · have h := h.2 c1_1
      by_cases c1_2 : x1 = (2 : Int32)
      · have h := h.1 c1_2
        refine lv_tableIn (off := 91) (tgt := 92) hx hb dX10_count_1 (by rw [c1_2]; decide) (by rw [c1_2]; decide) (by rw [c1_2]; rfl) (by decide) ?_
        refine lv_aload_n hx hb dX10_count_92 rfl (lv_at hl 0 rfl) ?_
        refine gfX10_23 hx hb hts hown hK hP 0 rfl dX10_count_93 ?_
        refine gfX10_165 (v := (sG 2)) hx hb hts hown hK hP 3 rfl rfl dX10_count_96 ?_
        refine W.widen (k := 1) (n := 6) (by decide) (by decide) ?_
        exact hret (sG 2) () _ _ _ _ rfl dX10_count_99 h hP hD hS
      · have h := h.2 c1_2
        by_cases c1_3 : x1 = (3 : Int32)
        · have h := h.1 c1_3
          refine lv_tableIn (off := 99) (tgt := 100) hx hb dX10_count_1 (by rw [c1_3]; decide) (by rw [c1_3]; decide) (by rw [c1_3]; rfl) (by decide) ?_
          refine lv_aload_n hx hb dX10_count_100 rfl (lv_at hl 0 rfl) ?_
          refine gfX10_23 hx hb hts hown hK hP 0 rfl dX10_count_101 ?_
          refine gfX10_188 (v := (sG 3)) hx hb hts hown hK hP 3 rfl rfl dX10_count_104 ?_
          refine W.widen (k := 1) (n := 6) (by decide) (by decide) ?_
          exact hret (sG 3) () _ _ _ _ rfl dX10_count_107 h hP hD hS
        · have h := h.2 c1_3
          by_cases c1_4 : x1 = (4 : Int32)
          · have h := h.1 c1_4
            refine lv_tableIn (off := 107) (tgt := 108) hx hb dX10_count_1 (by rw [c1_4]; decide) (by rw [c1_4]; decide) (by rw [c1_4]; rfl) (by decide) ?_
            refine lv_aload_n hx hb dX10_count_108 rfl (lv_at hl 0 rfl) ?_
            refine gfX10_23 hx hb hts hown hK hP 0 rfl dX10_count_109 ?_
            refine gfX10_191 (v := (sG 4)) hx hb hts hown hK hP 3 rfl rfl dX10_count_112 ?_
            refine W.widen (k := 1) (n := 6) (by decide) (by decide) ?_
            exact hret (sG 4) () _ _ _ _ rfl dX10_count_115 h hP hD hS
          · have h := h.2 c1_4
            by_cases c1_5 : x1 = (5 : Int32)
            · have h := h.1 c1_5
              refine lv_tableIn (off := 115) (tgt := 116) hx hb dX10_count_1 (by rw [c1_5]; decide) (by rw [c1_5]; decide) (by rw [c1_5]; rfl) (by decide) ?_
              refine lv_aload_n hx hb dX10_count_116 rfl (lv_at hl 0 rfl) ?_
              refine gfX10_23 hx hb hts hown hK hP 0 rfl dX10_count_117 ?_
              refine gfX10_194 (v := (sG 5)) hx hb hts hown hK hP 3 rfl rfl dX10_count_120 ?_
              refine W.widen (k := 1) (n := 6) (by decide) (by decide) ?_
              exact hret (sG 5) () _ _ _ _ rfl dX10_count_123 h hP hD hS
            · have h := h.2 c1_5
              by_cases c1_6 : x1 = (6 : Int32)
              · have h := h.1 c1_6
                refine lv_tableIn (off := 123) (tgt := 124) hx hb dX10_count_1 (by rw [c1_6]; decide) (by rw [c1_6]; decide) (by rw [c1_6]; rfl) (by decide) ?_
                refine lv_aload_n hx hb dX10_count_124 rfl (lv_at hl 0 rfl) ?_
                refine gfX10_23 hx hb hts hown hK hP 0 rfl dX10_count_125 ?_
                refine gfX10_197 (v := (sG 6)) hx hb hts hown hK hP 3 rfl rfl dX10_count_128 ?_
                refine W.widen (k := 1) (n := 6) (by decide) (by decide) ?_
                exact hret (sG 6) () _ _ _ _ rfl dX10_count_131 h hP hD hS
              · have h := h.2 c1_6
                by_cases c1_7 : x1 = (7 : Int32)
                · have h := h.1 c1_7
                  refine lv_tableIn (off := 131) (tgt := 132) hx hb dX10_count_1 (by rw [c1_7]; decide) (by rw [c1_7]; decide) (by rw [c1_7]; rfl) (by decide) ?_
                  refine lv_aload_n hx hb dX10_count_132 rfl (lv_at hl 0 rfl) ?_
                  refine gfX10_67 hx hb hts hown hK hP 0 rfl dX10_count_133 ?_
                  refine gfX10_200 (v := (sC 3)) hx hb hts hown hK hP 1 rfl rfl dX10_count_136 ?_
                  refine W.widen (k := 1) (n := 6) (by decide) (by decide) ?_
                  exact hret (sC 3) () _ _ _ _ rfl dX10_count_139 h hP hD hS
                · have h := h.2 c1_7
                  by_cases c1_8 : x1 = (8 : Int32)
                  · have h := h.1 c1_8
                    refine lv_tableIn (off := 139) (tgt := 140) hx hb dX10_count_1 (by rw [c1_8]; decide) (by rw [c1_8]; decide) (by rw [c1_8]; rfl) (by decide) ?_
                    refine lv_aload_n hx hb dX10_count_140 rfl (lv_at hl 0 rfl) ?_
                    refine gfX10_67 hx hb hts hown hK hP 0 rfl dX10_count_141 ?_
                    refine gfX10_203 (v := (sC 4)) hx hb hts hown hK hP 1 rfl rfl dX10_count_144 ?_
                    refine W.widen (k := 1) (n := 6) (by decide) (by decide) ?_
                    exact hret (sC 4) () _ _ _ _ rfl dX10_count_147 h hP hD hS
                  · have h := h.2 c1_8
                    by_cases c1_9 : x1 = (9 : Int32)
                    · have h := h.1 c1_9
                      refine lv_tableIn (off := 147) (tgt := 148) hx hb dX10_count_1 (by rw [c1_9]; decide) (by rw [c1_9]; decide) (by rw [c1_9]; rfl) (by decide) ?_
                      refine lv_aload_n hx hb dX10_count_148 rfl (lv_at hl 0 rfl) ?_
                      refine gfX10_67 hx hb hts hown hK hP 0 rfl dX10_count_149 ?_
                      refine gfX10_206 hx hb hts hown hK hP 1 rfl dX10_count_152 ?_
                      refine lv_iconst (v := (1 : Int32)) hx hb dX10_count_155 (by decide) ?_
                      refine clVi (As := [.int (1 : Int32)]) (rest := []) (Wr := [(h0, .inr (10, oX10 rS sS)), ((rS 8), .inr (0, oX0 rC sC))]) (cq := (RX3, TX3, 5)) ⟨hx, hb, hml, hown, hts⟩ ⟨callB_of 1 hts (goodC mw542) rfl rfl rfl (hts _ (tb mw9)) (hts _ (tb mw932)) kdX3_howMany ⟨Nat.le_trans (by decide) hRf, Nat.le_trans (by decide) hRl⟩, hts _ (tb mw540), hts _ (tb mw541)⟩ (ctX3_howMany l D cy ev (rC 0) (rtP (rS 2) (rS 4) (rS 5) rF) rG sG F_all (1 : Int32) _ _ h) hE hK hP hD hS hA [2, 3, 4] [0, 1] rfl rfl (by decide) (by decide) (by decide) 0 rfl rfl rfl hl.1 rfl (Nat.le_of_ble_eq_true rfl) ⟨Nat.zero_le _, Nat.zero_le _⟩ dX10_count_156 (fun r156 u H locs h hP hD hS => ?_)
                      have hP : va_P D clsX [(h0, .inr (10, oX10 rS sS)), ((rS 8), .inr (0, oX0 rC sC)), ((rC 0), .inr (3, oX3 (rtP (rS 2) (rS 4) (rS 5) rF))), ((rS 2), .inr (4, oX4 rG sG)), (((rtP (rS 2) (rS 4) (rS 5) rF) 3), .inl (cy 0, 29, .inl F_all))] H := hP
                      have hD : va_D A [(h0, .inr (10, oX10 rS sS)), ((rS 8), .inr (0, oX0 rC sC)), ((rC 0), .inr (3, oX3 (rtP (rS 2) (rS 4) (rS 5) rF))), ((rS 2), .inr (4, oX4 rG sG)), (((rtP (rS 2) (rS 4) (rS 5) rF) 3), .inl (cy 0, 29, .inl F_all))] := hD
                      refine W.widen (k := 1) (n := 6) (by decide) (by decide) ?_
                      exact hret r156 () _ _ _ _ rfl dX10_count_159 h hP hD hS
                    · have h := h.2 c1_9
                      by_cases c1_10 : x1 = (10 : Int32)
                      · have h := h.1 c1_10
                        refine lv_tableIn (off := 159) (tgt := 160) hx hb dX10_count_1 (by rw [c1_10]; decide) (by rw [c1_10]; decide) (by rw [c1_10]; rfl) (by decide) ?_
                        refine lv_aload_n hx hb dX10_count_160 rfl (lv_at hl 0 rfl) ?_
                        refine gfX10_67 hx hb hts hown hK hP 0 rfl dX10_count_161 ?_
                        refine gfX10_206 hx hb hts hown hK hP 1 rfl dX10_count_164 ?_
                        refine lv_iconst (v := (2 : Int32)) hx hb dX10_count_167 (by decide) ?_
                        refine clVi (As := [.int (2 : Int32)]) (rest := []) (Wr := [(h0, .inr (10, oX10 rS sS)), ((rS 8), .inr (0, oX0 rC sC))]) (cq := (RX3, TX3, 5)) ⟨hx, hb, hml, hown, hts⟩ ⟨callB_of 1 hts (goodC mw542) rfl rfl rfl (hts _ (tb mw9)) (hts _ (tb mw932)) kdX3_howMany ⟨Nat.le_trans (by decide) hRf, Nat.le_trans (by decide) hRl⟩, hts _ (tb mw540), hts _ (tb mw541)⟩ (ctX3_howMany l D cy ev (rC 0) (rtP (rS 2) (rS 4) (rS 5) rF) rG sG F_all (2 : Int32) _ _ h) hE hK hP hD hS hA [2, 3, 4] [0, 1] rfl rfl (by decide) (by decide) (by decide) 0 rfl rfl rfl hl.1 rfl (Nat.le_of_ble_eq_true rfl) ⟨Nat.zero_le _, Nat.zero_le _⟩ dX10_count_168 (fun r168 u H locs h hP hD hS => ?_)
                        have hP : va_P D clsX [(h0, .inr (10, oX10 rS sS)), ((rS 8), .inr (0, oX0 rC sC)), ((rC 0), .inr (3, oX3 (rtP (rS 2) (rS 4) (rS 5) rF))), ((rS 2), .inr (4, oX4 rG sG)), (((rtP (rS 2) (rS 4) (rS 5) rF) 3), .inl (cy 0, 29, .inl F_all))] H := hP
                        have hD : va_D A [(h0, .inr (10, oX10 rS sS)), ((rS 8), .inr (0, oX0 rC sC)), ((rC 0), .inr (3, oX3 (rtP (rS 2) (rS 4) (rS 5) rF))), ((rS 2), .inr (4, oX4 rG sG)), (((rtP (rS 2) (rS 4) (rS 5) rF) 3), .inl (cy 0, 29, .inl F_all))] := hD
                        refine W.widen (k := 1) (n := 6) (by decide) (by decide) ?_
                        exact hret r168 () _ _ _ _ rfl dX10_count_171 h hP hD hS
                      · have h := h.2 c1_10
                        by_cases c1_11 : x1 = (11 : Int32)
                        · have h := h.1 c1_11
                          refine lv_tableIn (off := 171) (tgt := 172) hx hb dX10_count_1 (by rw [c1_11]; decide) (by rw [c1_11]; decide) (by rw [c1_11]; rfl) (by decide) ?_
                          refine lv_aload_n hx hb dX10_count_172 rfl (lv_at hl 0 rfl) ?_
                          refine gfX10_67 hx hb hts hown hK hP 0 rfl dX10_count_173 ?_
                          refine gfX10_206 hx hb hts hown hK hP 1 rfl dX10_count_176 ?_
                          refine lv_iconst (v := (3 : Int32)) hx hb dX10_count_179 (by decide) ?_
                          refine clVi (As := [.int (3 : Int32)]) (rest := []) (Wr := [(h0, .inr (10, oX10 rS sS)), ((rS 8), .inr (0, oX0 rC sC))]) (cq := (RX3, TX3, 5)) ⟨hx, hb, hml, hown, hts⟩ ⟨callB_of 1 hts (goodC mw542) rfl rfl rfl (hts _ (tb mw9)) (hts _ (tb mw932)) kdX3_howMany ⟨Nat.le_trans (by decide) hRf, Nat.le_trans (by decide) hRl⟩, hts _ (tb mw540), hts _ (tb mw541)⟩ (ctX3_howMany l D cy ev (rC 0) (rtP (rS 2) (rS 4) (rS 5) rF) rG sG F_all (3 : Int32) _ _ h) hE hK hP hD hS hA [2, 3, 4] [0, 1] rfl rfl (by decide) (by decide) (by decide) 0 rfl rfl rfl hl.1 rfl (Nat.le_of_ble_eq_true rfl) ⟨Nat.zero_le _, Nat.zero_le _⟩ dX10_count_180 (fun r180 u H locs h hP hD hS => ?_)
                          have hP : va_P D clsX [(h0, .inr (10, oX10 rS sS)), ((rS 8), .inr (0, oX0 rC sC)), ((rC 0), .inr (3, oX3 (rtP (rS 2) (rS 4) (rS 5) rF))), ((rS 2), .inr (4, oX4 rG sG)), (((rtP (rS 2) (rS 4) (rS 5) rF) 3), .inl (cy 0, 29, .inl F_all))] H := hP
                          have hD : va_D A [(h0, .inr (10, oX10 rS sS)), ((rS 8), .inr (0, oX0 rC sC)), ((rC 0), .inr (3, oX3 (rtP (rS 2) (rS 4) (rS 5) rF))), ((rS 2), .inr (4, oX4 rG sG)), (((rtP (rS 2) (rS 4) (rS 5) rF) 3), .inl (cy 0, 29, .inl F_all))] := hD
                          refine W.widen (k := 1) (n := 6) (by decide) (by decide) ?_
                          exact hret r180 () _ _ _ _ rfl dX10_count_183 h hP hD hS
                        · have h := h.2 c1_11
                          by_cases c1_12 : x1 = (12 : Int32)
                          · have h := h.1 c1_12
                            refine lv_tableIn (off := 183) (tgt := 184) hx hb dX10_count_1 (by rw [c1_12]; decide) (by rw [c1_12]; decide) (by rw [c1_12]; rfl) (by decide) ?_
                            refine lv_aload_n hx hb dX10_count_184 rfl (lv_at hl 0 rfl) ?_
                            refine gfX10_129 (v := (sS 15)) hx hb hts hown hK hP 0 rfl rfl dX10_count_185 ?_
                            refine W.widen (k := 1) (n := 6) (by decide) (by decide) ?_
                            exact hret (sS 15) () _ _ _ _ rfl dX10_count_188 h hP hD hS
                          · have h := h.2 c1_12
                            by_cases c1_13 : x1 = (13 : Int32)
                            · have h := h.1 c1_13
                              refine lv_tableIn (off := 188) (tgt := 189) hx hb dX10_count_1 (by rw [c1_13]; decide) (by rw [c1_13]; decide) (by rw [c1_13]; rfl) (by decide) ?_
                              refine lv_aload_n hx hb dX10_count_189 rfl (lv_at hl 0 rfl) ?_
                              refine gfX10_67 hx hb hts hown hK hP 0 rfl dX10_count_190 ?_
                              refine gfX10_146 (v := (sC 5)) hx hb hts hown hK hP 1 rfl rfl dX10_count_193 ?_
                              refine W.widen (k := 1) (n := 6) (by decide) (by decide) ?_
                              exact hret (sC 5) () _ _ _ _ rfl dX10_count_196 h hP hD hS
                            · have h := h.2 c1_13
                              by_cases c1_14 : x1 = (14 : Int32)
                              · have h := h.1 c1_14
                                refine lv_tableIn (off := 196) (tgt := 197) hx hb dX10_count_1 (by rw [c1_14]; decide) (by rw [c1_14]; decide) (by rw [c1_14]; rfl) (by decide) ?_
                                refine lv_aload_n hx hb dX10_count_197 rfl (lv_at hl 0 rfl) ?_
                                refine gfX10_67 hx hb hts hown hK hP 0 rfl dX10_count_198 ?_
                                refine gfX10_212 (v := (sC 6)) hx hb hts hown hK hP 1 rfl rfl dX10_count_201 ?_
                                refine W.widen (k := 1) (n := 6) (by decide) (by decide) ?_
                                exact hret (sC 6) () _ _ _ _ rfl dX10_count_204 h hP hD hS
                              · have h := h.2 c1_14
                                have k0 := ne_iN (n := 0) (by decide) c1_0
                                have k1 := ne_iN (n := 1) (by decide) c1_1
                                have k2 := ne_iN (n := 2) (by decide) c1_2
                                have k3 := ne_iN (n := 3) (by decide) c1_3
                                have k4 := ne_iN (n := 4) (by decide) c1_4
                                have k5 := ne_iN (n := 5) (by decide) c1_5
                                have k6 := ne_iN (n := 6) (by decide) c1_6
                                have k7 := ne_iN (n := 7) (by decide) c1_7
                                have k8 := ne_iN (n := 8) (by decide) c1_8
                                have k9 := ne_iN (n := 9) (by decide) c1_9
                                have k10 := ne_iN (n := 10) (by decide) c1_10
                                have k11 := ne_iN (n := 11) (by decide) c1_11
                                have k12 := ne_iN (n := 12) (by decide) c1_12
                                have k13 := ne_iN (n := 13) (by decide) c1_13
                                have k14 := ne_iN (n := 14) (by decide) c1_14
                                refine lv_tableOut (tgt := 205) hx hb dX10_count_1 (by omega) (by decide) ?_
                                exact hnN _ _ _ _ _ _ _ _ _ _ (hE.1 19 (by decide)).1 h hP hD hS hl.1 (by decide) (by decide) (Nat.le_of_ble_eq_true rfl) dX10_count_205 dX10_count_208 dX10_count_209 dX10_count_211 dX10_count_214
def wpX10_tower (sG : AR) (G_towerCell : AR) (G_range : AR) (G_voice : AR) (G_isFalse : AR) (F_all : AR) (x1 : Int32) (x2 : Int32) (post : Int32 → Prop) (postX : String → Prop) : Prop := wpX10_needTower sG x1 (((x2 = (0 : Int32) → vp_in x1 5 ∧ post (G_towerCell x1.toNatClampNeg)) ∧ (¬ x2 = (0 : Int32) → ((x2 = (1 : Int32) → vp_in x1 5 ∧ post (G_range x1.toNatClampNeg)) ∧ (¬ x2 = (1 : Int32) → ((x2 = (2 : Int32) → vp_in x1 5 ∧ post (G_voice x1.toNatClampNeg)) ∧ (¬ x2 = (2 : Int32) → ((x2 = (3 : Int32) → wpX3_strokesLeft F_all x1 (fun r78 => post r78)) ∧ (¬ x2 = (3 : Int32) → ((x2 = (4 : Int32) → vp_in x1 5 ∧ (((G_isFalse x1.toNatClampNeg) = 0 → post (0 : Int32)) ∧ (¬ (G_isFalse x1.toNatClampNeg) = 0 → post (1 : Int32)))) ∧ (¬ x2 = (4 : Int32) → postX exN))))))))))) postX
set_option maxHeartbeats 4000000 in
set_option maxRecDepth 100000 in
theorem ctX10_tower (l : Launch) (D : va_G) (cy : Nat → ClassId) (ev : Nat → Nat) (hst : l.stackTraces = false) (h0 : Nat) (rS : Nat → Nat) (rG : Nat → Nat) (rC : Nat → Nat) (rF : Nat → Nat) (sS : AR) (sC : AR) (sG : AR) (G_towerCell : AR) (G_range : AR) (G_voice : AR) (G_isFalse : AR) (F_all : AR) (x1 : Int32) (x2 : Int32) (sz : Nat) (post : Int32 → Prop) (postX : String → Prop) (h : wpX10_tower sG G_towerCell G_range G_voice G_isFalse F_all x1 x2 post postX) : vx_Met l yX10_tower (Cond.code yX10_tower cX10_tower 3 (some .int) :: TB) ({ frames := 7, cells := 2, slots := 12, locals := 121 }) (va_Pc [.ref h0, .int x1, .int x2] (PreT D cy ev [(h0, .inr (10, oX10 rS sS)), ((rS 2), .inr (4, oX4 rG sG)), ((rS 8), .inr (0, oX0 rC sC)), ((rC 0), .inr (3, oX3 (rtP (rS 2) (rS 4) (rS 5) rF))), ((rG 7), .inl (cy 0, 5, .inl G_towerCell)), ((rG 8), .inl (cy 0, 5, .inl G_range)), ((rG 9), .inl (cy 0, 5, .inl G_voice)), ((rG 11), .inl (cy 2, 5, .inl G_isFalse)), (((rtP (rS 2) (rS 4) (rS 5) rF) 3), .inl (cy 0, 29, .inl F_all))] sz)) (va_Qi (fun (r : Int32) (u : Unit) => post r) (fun u => BkX D cy [(h0, .inr (10, oX10 rS sS)), ((rS 2), .inr (4, oX4 rG sG)), ((rS 8), .inr (0, oX0 rC sC)), ((rC 0), .inr (3, oX3 (rtP (rS 2) (rS 4) (rS 5) rF))), ((rG 7), .inl (cy 0, 5, .inl G_towerCell)), ((rG 8), .inl (cy 0, 5, .inl G_range)), ((rG 9), .inl (cy 0, 5, .inl G_voice)), ((rG 11), .inl (cy 2, 5, .inl G_isFalse)), (((rtP (rS 2) (rS 4) (rS 5) rF) 3), .inl (cy 0, 29, .inl F_all))] sz [(h0, .inr (10, oX10 rS sS)), ((rS 2), .inr (4, oX4 rG sG)), ((rS 8), .inr (0, oX0 rC sC)), ((rC 0), .inr (3, oX3 (rtP (rS 2) (rS 4) (rS 5) rF))), ((rG 7), .inl (cy 0, 5, .inl G_towerCell)), ((rG 8), .inl (cy 0, 5, .inl G_range)), ((rG 9), .inl (cy 0, 5, .inl G_voice)), ((rG 11), .inl (cy 2, 5, .inl G_isFalse)), (((rtP (rS 2) (rS 4) (rS 5) rF) 3), .inl (cy 0, 29, .inl F_all))]) (va_A [(h0, .inr (10, oX10 rS sS)), ((rS 2), .inr (4, oX4 rG sG)), ((rS 8), .inr (0, oX0 rC sC)), ((rC 0), .inr (3, oX3 (rtP (rS 2) (rS 4) (rS 5) rF))), ((rG 7), .inl (cy 0, 5, .inl G_towerCell)), ((rG 8), .inl (cy 0, 5, .inl G_range)), ((rG 9), .inl (cy 0, 5, .inl G_voice)), ((rG 11), .inl (cy 2, 5, .inl G_isFalse)), (((rtP (rS 2) (rS 4) (rS 5) rF) 3), .inl (cy 0, 29, .inl F_all))] sz)) (XcX D cy [(h0, .inr (10, oX10 rS sS)), ((rS 2), .inr (4, oX4 rG sG)), ((rS 8), .inr (0, oX0 rC sC)), ((rC 0), .inr (3, oX3 (rtP (rS 2) (rS 4) (rS 5) rF))), ((rG 7), .inl (cy 0, 5, .inl G_towerCell)), ((rG 8), .inl (cy 0, 5, .inl G_range)), ((rG 9), .inl (cy 0, 5, .inl G_voice)), ((rG 11), .inl (cy 2, 5, .inl G_isFalse)), (((rtP (rS 2) (rS 4) (rS 5) rF) 3), .inl (cy 0, 29, .inl F_all))] sz postX) 2 12 (va_A [(h0, .inr (10, oX10 rS sS)), ((rS 2), .inr (4, oX4 rG sG)), ((rS 8), .inr (0, oX0 rC sC)), ((rC 0), .inr (3, oX3 (rtP (rS 2) (rS 4) (rS 5) rF))), ((rG 7), .inl (cy 0, 5, .inl G_towerCell)), ((rG 8), .inl (cy 0, 5, .inl G_range)), ((rG 9), .inl (cy 0, 5, .inl G_voice)), ((rG 11), .inl (cy 2, 5, .inl G_isFalse)), (((rtP (rS 2) (rS 4) (rS 5) rF) 3), .inl (cy 0, 29, .inl F_all))] sz) := by
  refine ofXi hst (by decide) rfl (Nat.le_of_ble_eq_true rfl) ⟨by decide, by decide, by decide, by decide⟩ ?_
  intro p e s m args below meth c ls A R QQ hx hb hml hown hts hR hlk hE hT hK hP hD hS hA hl hthr hnN hnNW hnI hnIW hret
  have hRc : 2 ≤ R.cells := by rw [hR]; exact Nat.le_refl _
  have hRs : 12 ≤ R.slots := by rw [hR]; exact Nat.le_refl _
  have hown : s.vm.findClass RX10 = some m.cls := hown
  have hRf : 7 ≤ R.frames := by rw [hR]; exact Nat.le_refl _
  have hRl : 121 ≤ R.locals := by rw [hR]; exact Nat.le_refl _
  clear hR
  have hl : lv_has ls 3 [(0, .ref h0), (1, .int x1), (2, .int x2)] := hl
  refine lv_aload_n hx hb dX10_tower_0 rfl (lv_at hl 0 rfl) ?_
  refine lv_iload_n hx hb dX10_tower_1 rfl (lv_at hl 1 rfl) ?_
  refine clXv (As := [.int x1]) (rest := []) (Wr := [((rS 8), .inr (0, oX0 rC sC)), ((rC 0), .inr (3, oX3 (rtP (rS 2) (rS 4) (rS 5) rF))), ((rG 7), .inl (cy 0, 5, .inl G_towerCell)), ((rG 8), .inl (cy 0, 5, .inl G_range)), ((rG 9), .inl (cy 0, 5, .inl G_voice)), ((rG 11), .inl (cy 2, 5, .inl G_isFalse)), (((rtP (rS 2) (rS 4) (rS 5) rF) 3), .inl (cy 0, 29, .inl F_all))]) (cq := (RX10, TX10, 18)) ⟨hx, hb, hml, hown, hts⟩ ⟨callB_of 1 hts (goodC mw959) rfl rfl rfl (hts _ (tb mw1)) (hts _ (tb mw956)) kdX10_needTower ⟨Nat.le_trans (by decide) hRf, Nat.le_trans (by decide) hRl⟩, hts _ (tb mw958), hts _ (tb ms28)⟩ (ctX10_needTower l D cy ev hst h0 rS rG sS sG x1 _ _ _ h) hE hT hK hP hD hS hA [0, 1] [2, 3, 4, 5, 6, 7, 8] rfl rfl (by decide) (by decide) (by decide) 0 rfl rfl rfl hl.1 rfl (Nat.le_of_ble_eq_true rfl) ⟨Nat.le_trans (by decide) hRc, Nat.le_trans (by decide) hRs⟩ dX10_tower_2 (fun E ce q H locs h hP hD hS g1 g2 g3 => vx_widen (by decide) (by decide) (hthr E ce q _ _ _ _ _ h (hP.sub [7, 8, 0, 1, 2, 3, 4, 5, 6] rfl) (hD.sub [7, 8, 0, 1, 2, 3, 4, 5, 6] (by decide) rfl) hS g1 g2 g3)) (fun u H locs h hP hD hS => ?_)
  have hP : va_P D clsX [((rS 8), .inr (0, oX0 rC sC)), ((rC 0), .inr (3, oX3 (rtP (rS 2) (rS 4) (rS 5) rF))), ((rG 7), .inl (cy 0, 5, .inl G_towerCell)), ((rG 8), .inl (cy 0, 5, .inl G_range)), ((rG 9), .inl (cy 0, 5, .inl G_voice)), ((rG 11), .inl (cy 2, 5, .inl G_isFalse)), (((rtP (rS 2) (rS 4) (rS 5) rF) 3), .inl (cy 0, 29, .inl F_all)), (h0, .inr (10, oX10 rS sS)), ((rS 2), .inr (4, oX4 rG sG))] H := hP
  have hD : va_D A [((rS 8), .inr (0, oX0 rC sC)), ((rC 0), .inr (3, oX3 (rtP (rS 2) (rS 4) (rS 5) rF))), ((rG 7), .inl (cy 0, 5, .inl G_towerCell)), ((rG 8), .inl (cy 0, 5, .inl G_range)), ((rG 9), .inl (cy 0, 5, .inl G_voice)), ((rG 11), .inl (cy 2, 5, .inl G_isFalse)), (((rtP (rS 2) (rS 4) (rS 5) rF) 3), .inl (cy 0, 29, .inl F_all)), (h0, .inr (10, oX10 rS sS)), ((rS 2), .inr (4, oX4 rG sG))] := hD
  refine lv_iload_n hx hb dX10_tower_5 rfl (lv_at hl 2 rfl) ?_
  by_cases c6_0 : x2 = (0 : Int32)
  · have h := h.1 c6_0
    refine lv_tableIn (off := 34) (tgt := 40) hx hb dX10_tower_6 (by rw [c6_0]; decide) (by rw [c6_0]; decide) (by rw [c6_0]; rfl) (by decide) ?_
    refine lv_aload_n hx hb dX10_tower_40 rfl (lv_at hl 0 rfl) ?_
    refine gfX10_23 hx hb hts hown hK hP 7 rfl dX10_tower_41 ?_
    refine gfX10_223 hx hb hts hown hK hP 8 rfl dX10_tower_44 ?_
    refine lv_iload_n hx hb dX10_tower_47 rfl (lv_at hl 1 rfl) ?_
    obtain ⟨hin, h⟩ := h
    refine ldi (k := x1.toNatClampNeg) hx hb hK hP 2 rfl hin rfl dX10_tower_48 ?_
    refine W.widen (k := 2) (n := 12) (by decide) (by decide) ?_
    exact hret (G_towerCell x1.toNatClampNeg) () _ _ _ _ rfl dX10_tower_49 h (hP.sub [7, 8, 0, 1, 2, 3, 4, 5, 6] rfl) (hD.sub [7, 8, 0, 1, 2, 3, 4, 5, 6] (by decide) rfl) hS
  · have h := h.2 c6_0
    by_cases c6_1 : x2 = (1 : Int32)
    · have h := h.1 c6_1
      refine lv_tableIn (off := 44) (tgt := 50) hx hb dX10_tower_6 (by rw [c6_1]; decide) (by rw [c6_1]; decide) (by rw [c6_1]; rfl) (by decide) ?_
      refine lv_aload_n hx hb dX10_tower_50 rfl (lv_at hl 0 rfl) ?_
      refine gfX10_23 hx hb hts hown hK hP 7 rfl dX10_tower_51 ?_
      refine gfX10_226 hx hb hts hown hK hP 8 rfl dX10_tower_54 ?_
      refine lv_iload_n hx hb dX10_tower_57 rfl (lv_at hl 1 rfl) ?_
      obtain ⟨hin, h⟩ := h
      refine ldi (k := x1.toNatClampNeg) hx hb hK hP 3 rfl hin rfl dX10_tower_58 ?_
      refine W.widen (k := 2) (n := 12) (by decide) (by decide) ?_
      exact hret (G_range x1.toNatClampNeg) () _ _ _ _ rfl dX10_tower_59 h (hP.sub [7, 8, 0, 1, 2, 3, 4, 5, 6] rfl) (hD.sub [7, 8, 0, 1, 2, 3, 4, 5, 6] (by decide) rfl) hS
    · have h := h.2 c6_1
      by_cases c6_2 : x2 = (2 : Int32)
      · have h := h.1 c6_2
        refine lv_tableIn (off := 54) (tgt := 60) hx hb dX10_tower_6 (by rw [c6_2]; decide) (by rw [c6_2]; decide) (by rw [c6_2]; rfl) (by decide) ?_
        refine lv_aload_n hx hb dX10_tower_60 rfl (lv_at hl 0 rfl) ?_
        refine gfX10_23 hx hb hts hown hK hP 7 rfl dX10_tower_61 ?_
        refine gfX10_229 hx hb hts hown hK hP 8 rfl dX10_tower_64 ?_
        refine lv_iload_n hx hb dX10_tower_67 rfl (lv_at hl 1 rfl) ?_
        obtain ⟨hin, h⟩ := h
        refine ldi (k := x1.toNatClampNeg) hx hb hK hP 4 rfl hin rfl dX10_tower_68 ?_
        refine W.widen (k := 2) (n := 12) (by decide) (by decide) ?_
        exact hret (G_voice x1.toNatClampNeg) () _ _ _ _ rfl dX10_tower_69 h (hP.sub [7, 8, 0, 1, 2, 3, 4, 5, 6] rfl) (hD.sub [7, 8, 0, 1, 2, 3, 4, 5, 6] (by decide) rfl) hS
      · have h := h.2 c6_2
        by_cases c6_3 : x2 = (3 : Int32)
        · have h := h.1 c6_3
          refine lv_tableIn (off := 64) (tgt := 70) hx hb dX10_tower_6 (by rw [c6_3]; decide) (by rw [c6_3]; decide) (by rw [c6_3]; rfl) (by decide) ?_
          refine lv_aload_n hx hb dX10_tower_70 rfl (lv_at hl 0 rfl) ?_
          refine gfX10_67 hx hb hts hown hK hP 7 rfl dX10_tower_71 ?_
          refine gfX10_206 hx hb hts hown hK hP 0 rfl dX10_tower_74 ?_
          refine lv_iload_n hx hb dX10_tower_77 rfl (lv_at hl 1 rfl) ?_
          refine clVi (As := [.int x1]) (rest := []) (Wr := [((rS 8), .inr (0, oX0 rC sC)), ((rG 7), .inl (cy 0, 5, .inl G_towerCell)), ((rG 8), .inl (cy 0, 5, .inl G_range)), ((rG 9), .inl (cy 0, 5, .inl G_voice)), ((rG 11), .inl (cy 2, 5, .inl G_isFalse)), (h0, .inr (10, oX10 rS sS)), ((rS 2), .inr (4, oX4 rG sG))]) (cq := (RX3, TX3, 5)) ⟨hx, hb, hml, hown, hts⟩ ⟨callB_of 1 hts (goodC mw964) rfl rfl rfl (hts _ (tb mw9)) (hts _ (tb mw961)) kdX3_strokesLeft ⟨Nat.le_trans (by decide) hRf, Nat.le_trans (by decide) hRl⟩, hts _ (tb mw962), hts _ (tb mw963)⟩ (ctX3_strokesLeft l D cy ev (rC 0) (rtP (rS 2) (rS 4) (rS 5) rF) F_all x1 _ _ h) hE hK hP hD hS hA [1, 6] [0, 2, 3, 4, 5, 7, 8] rfl rfl (by decide) (by decide) (by decide) 0 rfl rfl rfl hl.1 rfl (Nat.le_of_ble_eq_true rfl) ⟨Nat.le_trans (by decide) hRc, Nat.le_trans (by decide) hRs⟩ dX10_tower_78 (fun r78 u H locs h hP hD hS => ?_)
          have hP : va_P D clsX [((rS 8), .inr (0, oX0 rC sC)), ((rG 7), .inl (cy 0, 5, .inl G_towerCell)), ((rG 8), .inl (cy 0, 5, .inl G_range)), ((rG 9), .inl (cy 0, 5, .inl G_voice)), ((rG 11), .inl (cy 2, 5, .inl G_isFalse)), (h0, .inr (10, oX10 rS sS)), ((rS 2), .inr (4, oX4 rG sG)), ((rC 0), .inr (3, oX3 (rtP (rS 2) (rS 4) (rS 5) rF))), (((rtP (rS 2) (rS 4) (rS 5) rF) 3), .inl (cy 0, 29, .inl F_all))] H := hP
          have hD : va_D A [((rS 8), .inr (0, oX0 rC sC)), ((rG 7), .inl (cy 0, 5, .inl G_towerCell)), ((rG 8), .inl (cy 0, 5, .inl G_range)), ((rG 9), .inl (cy 0, 5, .inl G_voice)), ((rG 11), .inl (cy 2, 5, .inl G_isFalse)), (h0, .inr (10, oX10 rS sS)), ((rS 2), .inr (4, oX4 rG sG)), ((rC 0), .inr (3, oX3 (rtP (rS 2) (rS 4) (rS 5) rF))), (((rtP (rS 2) (rS 4) (rS 5) rF) 3), .inl (cy 0, 29, .inl F_all))] := hD
          refine W.widen (k := 2) (n := 12) (by decide) (by decide) ?_
          exact hret r78 () _ _ _ _ rfl dX10_tower_81 h (hP.sub [5, 6, 0, 7, 1, 2, 3, 4, 8] rfl) (hD.sub [5, 6, 0, 7, 1, 2, 3, 4, 8] (by decide) rfl) hS
        · have h := h.2 c6_3
          by_cases c6_4 : x2 = (4 : Int32)
          · have h := h.1 c6_4
            refine lv_tableIn (off := 76) (tgt := 82) hx hb dX10_tower_6 (by rw [c6_4]; decide) (by rw [c6_4]; decide) (by rw [c6_4]; rfl) (by decide) ?_
            refine lv_aload_n hx hb dX10_tower_82 rfl (lv_at hl 0 rfl) ?_
            refine gfX10_23 hx hb hts hown hK hP 7 rfl dX10_tower_83 ?_
            refine gfX10_235 hx hb hts hown hK hP 8 rfl dX10_tower_86 ?_
            refine lv_iload_n hx hb dX10_tower_89 rfl (lv_at hl 1 rfl) ?_
            obtain ⟨hin, h⟩ := h
            refine ldz (k := x1.toNatClampNeg) hx hb hK hP 5 rfl hin rfl dX10_tower_90 ?_
            refine lv_if_eq (tgt := 98) hx hb dX10_tower_91 (by decide) (fun c91 => ?_) (fun c91 => ?_)
            · have h := h.1 c91
              refine lv_iconst (v := (0 : Int32)) hx hb dX10_tower_98 (by decide) ?_
              refine W.widen (k := 2) (n := 12) (by decide) (by decide) ?_
              exact hret (0 : Int32) () _ _ _ _ rfl dX10_tower_99 h (hP.sub [7, 8, 0, 1, 2, 3, 4, 5, 6] rfl) (hD.sub [7, 8, 0, 1, 2, 3, 4, 5, 6] (by decide) rfl) hS
            · have h := h.2 c91
              refine lv_iconst (v := (1 : Int32)) hx hb dX10_tower_94 (by decide) ?_
              refine lv_goto (tgt := 99) hx hb dX10_tower_95 (by decide) ?_
              refine W.widen (k := 2) (n := 12) (by decide) (by decide) ?_
              exact hret (1 : Int32) () _ _ _ _ rfl dX10_tower_99 h (hP.sub [7, 8, 0, 1, 2, 3, 4, 5, 6] rfl) (hD.sub [7, 8, 0, 1, 2, 3, 4, 5, 6] (by decide) rfl) hS
          · have h := h.2 c6_4
            have k0 := ne_iN (n := 0) (by decide) c6_0
            have k1 := ne_iN (n := 1) (by decide) c6_1
            have k2 := ne_iN (n := 2) (by decide) c6_2
            have k3 := ne_iN (n := 3) (by decide) c6_3
            have k4 := ne_iN (n := 4) (by decide) c6_4
            refine lv_tableOut (tgt := 100) hx hb dX10_tower_6 (by omega) (by decide) ?_
            exact hnN _ _ _ _ _ _ _ _ _ _ (hE.1 21 (by decide)).1 h (hP.sub [7, 8, 0, 1, 2, 3, 4, 5, 6] rfl) (hD.sub [7, 8, 0, 1, 2, 3, 4, 5, 6] (by decide) rfl) hS hl.1 (by decide) (by decide) (Nat.le_of_ble_eq_true rfl) dX10_tower_100 dX10_tower_103 dX10_tower_104 dX10_tower_106 dX10_tower_109
def wpX10_walker (sG : AR) (G_kind : AR) (F_all : AR) (x1 : Int32) (x2 : Int32) (post : Int32 → Prop) (postX : String → Prop) : Prop := wpX10_needWalker sG x1 (((x2 = (0 : Int32) → vp_in x1 4 ∧ post (G_kind x1.toNatClampNeg)) ∧ (¬ x2 = (0 : Int32) → ((x2 = (1 : Int32) → wpX3_of F_all x1 (0 : Int32) (fun r67 => post r67)) ∧ (¬ x2 = (1 : Int32) → ((x2 = (2 : Int32) → wpX3_of F_all x1 (1 : Int32) (fun r80 => post r80)) ∧ (¬ x2 = (2 : Int32) → ((x2 = (3 : Int32) → wpX3_of F_all x1 (2 : Int32) (fun r93 => post r93)) ∧ (¬ x2 = (3 : Int32) → ((x2 = (4 : Int32) → wpX3_of F_all x1 (3 : Int32) (fun r106 => post r106)) ∧ (¬ x2 = (4 : Int32) → ((x2 = (5 : Int32) → wpX3_of F_all x1 (4 : Int32) (fun r119 => post r119)) ∧ (¬ x2 = (5 : Int32) → ((x2 = (6 : Int32) → wpX3_of F_all x1 (5 : Int32) (fun r132 => post r132)) ∧ (¬ x2 = (6 : Int32) → postX exN))))))))))))))) postX
set_option maxHeartbeats 4000000 in
set_option maxRecDepth 100000 in
theorem ctX10_walker (l : Launch) (D : va_G) (cy : Nat → ClassId) (ev : Nat → Nat) (hst : l.stackTraces = false) (h0 : Nat) (rS : Nat → Nat) (rG : Nat → Nat) (rC : Nat → Nat) (rF : Nat → Nat) (sS : AR) (sC : AR) (sG : AR) (G_kind : AR) (F_all : AR) (x1 : Int32) (x2 : Int32) (sz : Nat) (post : Int32 → Prop) (postX : String → Prop) (h : wpX10_walker sG G_kind F_all x1 x2 post postX) : vx_Met l yX10_walker (Cond.code yX10_walker cX10_walker 3 (some .int) :: TB) ({ frames := 7, cells := 2, slots := 12, locals := 121 }) (va_Pc [.ref h0, .int x1, .int x2] (PreT D cy ev [(h0, .inr (10, oX10 rS sS)), ((rS 2), .inr (4, oX4 rG sG)), ((rS 8), .inr (0, oX0 rC sC)), ((rC 0), .inr (3, oX3 (rtP (rS 2) (rS 4) (rS 5) rF))), ((rG 12), .inl (cy 0, 4, .inl G_kind)), (((rtP (rS 2) (rS 4) (rS 5) rF) 3), .inl (cy 0, 29, .inl F_all))] sz)) (va_Qi (fun (r : Int32) (u : Unit) => post r) (fun u => BkX D cy [(h0, .inr (10, oX10 rS sS)), ((rS 2), .inr (4, oX4 rG sG)), ((rS 8), .inr (0, oX0 rC sC)), ((rC 0), .inr (3, oX3 (rtP (rS 2) (rS 4) (rS 5) rF))), ((rG 12), .inl (cy 0, 4, .inl G_kind)), (((rtP (rS 2) (rS 4) (rS 5) rF) 3), .inl (cy 0, 29, .inl F_all))] sz [(h0, .inr (10, oX10 rS sS)), ((rS 2), .inr (4, oX4 rG sG)), ((rS 8), .inr (0, oX0 rC sC)), ((rC 0), .inr (3, oX3 (rtP (rS 2) (rS 4) (rS 5) rF))), ((rG 12), .inl (cy 0, 4, .inl G_kind)), (((rtP (rS 2) (rS 4) (rS 5) rF) 3), .inl (cy 0, 29, .inl F_all))]) (va_A [(h0, .inr (10, oX10 rS sS)), ((rS 2), .inr (4, oX4 rG sG)), ((rS 8), .inr (0, oX0 rC sC)), ((rC 0), .inr (3, oX3 (rtP (rS 2) (rS 4) (rS 5) rF))), ((rG 12), .inl (cy 0, 4, .inl G_kind)), (((rtP (rS 2) (rS 4) (rS 5) rF) 3), .inl (cy 0, 29, .inl F_all))] sz)) (XcX D cy [(h0, .inr (10, oX10 rS sS)), ((rS 2), .inr (4, oX4 rG sG)), ((rS 8), .inr (0, oX0 rC sC)), ((rC 0), .inr (3, oX3 (rtP (rS 2) (rS 4) (rS 5) rF))), ((rG 12), .inl (cy 0, 4, .inl G_kind)), (((rtP (rS 2) (rS 4) (rS 5) rF) 3), .inl (cy 0, 29, .inl F_all))] sz postX) 2 12 (va_A [(h0, .inr (10, oX10 rS sS)), ((rS 2), .inr (4, oX4 rG sG)), ((rS 8), .inr (0, oX0 rC sC)), ((rC 0), .inr (3, oX3 (rtP (rS 2) (rS 4) (rS 5) rF))), ((rG 12), .inl (cy 0, 4, .inl G_kind)), (((rtP (rS 2) (rS 4) (rS 5) rF) 3), .inl (cy 0, 29, .inl F_all))] sz) := by
  refine ofXi hst (by decide) rfl (Nat.le_of_ble_eq_true rfl) ⟨by decide, by decide, by decide, by decide⟩ ?_
  intro p e s m args below meth c ls A R QQ hx hb hml hown hts hR hlk hE hT hK hP hD hS hA hl hthr hnN hnNW hnI hnIW hret
  have hRc : 2 ≤ R.cells := by rw [hR]; exact Nat.le_refl _
  have hRs : 12 ≤ R.slots := by rw [hR]; exact Nat.le_refl _
  have hown : s.vm.findClass RX10 = some m.cls := hown
  have hRf : 7 ≤ R.frames := by rw [hR]; exact Nat.le_refl _
  have hRl : 121 ≤ R.locals := by rw [hR]; exact Nat.le_refl _
  clear hR
  have hl : lv_has ls 3 [(0, .ref h0), (1, .int x1), (2, .int x2)] := hl
  refine lv_aload_n hx hb dX10_walker_0 rfl (lv_at hl 0 rfl) ?_
  refine lv_iload_n hx hb dX10_walker_1 rfl (lv_at hl 1 rfl) ?_
  refine clXv (As := [.int x1]) (rest := []) (Wr := [((rS 8), .inr (0, oX0 rC sC)), ((rC 0), .inr (3, oX3 (rtP (rS 2) (rS 4) (rS 5) rF))), ((rG 12), .inl (cy 0, 4, .inl G_kind)), (((rtP (rS 2) (rS 4) (rS 5) rF) 3), .inl (cy 0, 29, .inl F_all))]) (cq := (RX10, TX10, 18)) ⟨hx, hb, hml, hown, hts⟩ ⟨callB_of 1 hts (goodC mw976) rfl rfl rfl (hts _ (tb mw1)) (hts _ (tb mw973)) kdX10_needWalker ⟨Nat.le_trans (by decide) hRf, Nat.le_trans (by decide) hRl⟩, hts _ (tb mw975), hts _ (tb ms29)⟩ (ctX10_needWalker l D cy ev hst h0 rS rG sS sG x1 _ _ _ h) hE hT hK hP hD hS hA [0, 1] [2, 3, 4, 5] rfl rfl (by decide) (by decide) (by decide) 0 rfl rfl rfl hl.1 rfl (Nat.le_of_ble_eq_true rfl) ⟨Nat.le_trans (by decide) hRc, Nat.le_trans (by decide) hRs⟩ dX10_walker_2 (fun E ce q H locs h hP hD hS g1 g2 g3 => vx_widen (by decide) (by decide) (hthr E ce q _ _ _ _ _ h (hP.sub [4, 5, 0, 1, 2, 3] rfl) (hD.sub [4, 5, 0, 1, 2, 3] (by decide) rfl) hS g1 g2 g3)) (fun u H locs h hP hD hS => ?_)
  have hP : va_P D clsX [((rS 8), .inr (0, oX0 rC sC)), ((rC 0), .inr (3, oX3 (rtP (rS 2) (rS 4) (rS 5) rF))), ((rG 12), .inl (cy 0, 4, .inl G_kind)), (((rtP (rS 2) (rS 4) (rS 5) rF) 3), .inl (cy 0, 29, .inl F_all)), (h0, .inr (10, oX10 rS sS)), ((rS 2), .inr (4, oX4 rG sG))] H := hP
  have hD : va_D A [((rS 8), .inr (0, oX0 rC sC)), ((rC 0), .inr (3, oX3 (rtP (rS 2) (rS 4) (rS 5) rF))), ((rG 12), .inl (cy 0, 4, .inl G_kind)), (((rtP (rS 2) (rS 4) (rS 5) rF) 3), .inl (cy 0, 29, .inl F_all)), (h0, .inr (10, oX10 rS sS)), ((rS 2), .inr (4, oX4 rG sG))] := hD
  refine lv_iload_n hx hb dX10_walker_5 rfl (lv_at hl 2 rfl) ?_
  by_cases c6_0 : x2 = (0 : Int32)
  · have h := h.1 c6_0
    refine lv_tableIn (off := 42) (tgt := 48) hx hb dX10_walker_6 (by rw [c6_0]; decide) (by rw [c6_0]; decide) (by rw [c6_0]; rfl) (by decide) ?_
    refine lv_aload_n hx hb dX10_walker_48 rfl (lv_at hl 0 rfl) ?_
    refine gfX10_23 hx hb hts hown hK hP 4 rfl dX10_walker_49 ?_
    refine gfX10_258 hx hb hts hown hK hP 5 rfl dX10_walker_52 ?_
    refine lv_iload_n hx hb dX10_walker_55 rfl (lv_at hl 1 rfl) ?_
    obtain ⟨hin, h⟩ := h
    refine ldi (k := x1.toNatClampNeg) hx hb hK hP 2 rfl hin rfl dX10_walker_56 ?_
    refine W.widen (k := 2) (n := 12) (by decide) (by decide) ?_
    exact hret (G_kind x1.toNatClampNeg) () _ _ _ _ rfl dX10_walker_57 h (hP.sub [4, 5, 0, 1, 2, 3] rfl) (hD.sub [4, 5, 0, 1, 2, 3] (by decide) rfl) hS
  · have h := h.2 c6_0
    by_cases c6_1 : x2 = (1 : Int32)
    · have h := h.1 c6_1
      refine lv_tableIn (off := 52) (tgt := 58) hx hb dX10_walker_6 (by rw [c6_1]; decide) (by rw [c6_1]; decide) (by rw [c6_1]; rfl) (by decide) ?_
      refine lv_aload_n hx hb dX10_walker_58 rfl (lv_at hl 0 rfl) ?_
      refine gfX10_67 hx hb hts hown hK hP 4 rfl dX10_walker_59 ?_
      refine gfX10_206 hx hb hts hown hK hP 0 rfl dX10_walker_62 ?_
      refine lv_iload_n hx hb dX10_walker_65 rfl (lv_at hl 1 rfl) ?_
      refine lv_iconst (v := (0 : Int32)) hx hb dX10_walker_66 (by decide) ?_
      refine clVi (As := [.int x1, .int (0 : Int32)]) (rest := []) (Wr := [((rS 8), .inr (0, oX0 rC sC)), ((rG 12), .inl (cy 0, 4, .inl G_kind)), (h0, .inr (10, oX10 rS sS)), ((rS 2), .inr (4, oX4 rG sG))]) (cq := (RX3, TX3, 5)) ⟨hx, hb, hml, hown, hts⟩ ⟨callB_of 2 hts (goodC mw559) rfl rfl rfl (hts _ (tb mw9)) (hts _ (tb mw978)) kdX3_of ⟨Nat.le_trans (by decide) hRf, Nat.le_trans (by decide) hRl⟩, hts _ (tb mw557), hts _ (tb mw558)⟩ (ctX3_of l D cy ev (rC 0) (rtP (rS 2) (rS 4) (rS 5) rF) F_all x1 (0 : Int32) _ _ h) hE hK hP hD hS hA [1, 3] [0, 2, 4, 5] rfl rfl (by decide) (by decide) (by decide) 0 rfl rfl rfl hl.1 rfl (Nat.le_of_ble_eq_true rfl) ⟨Nat.le_trans (by decide) hRc, Nat.le_trans (by decide) hRs⟩ dX10_walker_67 (fun r67 u H locs h hP hD hS => ?_)
      have hP : va_P D clsX [((rS 8), .inr (0, oX0 rC sC)), ((rG 12), .inl (cy 0, 4, .inl G_kind)), (h0, .inr (10, oX10 rS sS)), ((rS 2), .inr (4, oX4 rG sG)), ((rC 0), .inr (3, oX3 (rtP (rS 2) (rS 4) (rS 5) rF))), (((rtP (rS 2) (rS 4) (rS 5) rF) 3), .inl (cy 0, 29, .inl F_all))] H := hP
      have hD : va_D A [((rS 8), .inr (0, oX0 rC sC)), ((rG 12), .inl (cy 0, 4, .inl G_kind)), (h0, .inr (10, oX10 rS sS)), ((rS 2), .inr (4, oX4 rG sG)), ((rC 0), .inr (3, oX3 (rtP (rS 2) (rS 4) (rS 5) rF))), (((rtP (rS 2) (rS 4) (rS 5) rF) 3), .inl (cy 0, 29, .inl F_all))] := hD
      refine W.widen (k := 2) (n := 12) (by decide) (by decide) ?_
      exact hret r67 () _ _ _ _ rfl dX10_walker_70 h (hP.sub [2, 3, 0, 4, 1, 5] rfl) (hD.sub [2, 3, 0, 4, 1, 5] (by decide) rfl) hS
    · have h := h.2 c6_1
      by_cases c6_2 : x2 = (2 : Int32)
      · have h := h.1 c6_2
        refine lv_tableIn (off := 65) (tgt := 71) hx hb dX10_walker_6 (by rw [c6_2]; decide) (by rw [c6_2]; decide) (by rw [c6_2]; rfl) (by decide) ?_
        refine lv_aload_n hx hb dX10_walker_71 rfl (lv_at hl 0 rfl) ?_
        refine gfX10_67 hx hb hts hown hK hP 4 rfl dX10_walker_72 ?_
        refine gfX10_206 hx hb hts hown hK hP 0 rfl dX10_walker_75 ?_
        refine lv_iload_n hx hb dX10_walker_78 rfl (lv_at hl 1 rfl) ?_
        refine lv_iconst (v := (1 : Int32)) hx hb dX10_walker_79 (by decide) ?_
        refine clVi (As := [.int x1, .int (1 : Int32)]) (rest := []) (Wr := [((rS 8), .inr (0, oX0 rC sC)), ((rG 12), .inl (cy 0, 4, .inl G_kind)), (h0, .inr (10, oX10 rS sS)), ((rS 2), .inr (4, oX4 rG sG))]) (cq := (RX3, TX3, 5)) ⟨hx, hb, hml, hown, hts⟩ ⟨callB_of 2 hts (goodC mw559) rfl rfl rfl (hts _ (tb mw9)) (hts _ (tb mw978)) kdX3_of ⟨Nat.le_trans (by decide) hRf, Nat.le_trans (by decide) hRl⟩, hts _ (tb mw557), hts _ (tb mw558)⟩ (ctX3_of l D cy ev (rC 0) (rtP (rS 2) (rS 4) (rS 5) rF) F_all x1 (1 : Int32) _ _ h) hE hK hP hD hS hA [1, 3] [0, 2, 4, 5] rfl rfl (by decide) (by decide) (by decide) 0 rfl rfl rfl hl.1 rfl (Nat.le_of_ble_eq_true rfl) ⟨Nat.le_trans (by decide) hRc, Nat.le_trans (by decide) hRs⟩ dX10_walker_80 (fun r80 u H locs h hP hD hS => ?_)
        have hP : va_P D clsX [((rS 8), .inr (0, oX0 rC sC)), ((rG 12), .inl (cy 0, 4, .inl G_kind)), (h0, .inr (10, oX10 rS sS)), ((rS 2), .inr (4, oX4 rG sG)), ((rC 0), .inr (3, oX3 (rtP (rS 2) (rS 4) (rS 5) rF))), (((rtP (rS 2) (rS 4) (rS 5) rF) 3), .inl (cy 0, 29, .inl F_all))] H := hP
        have hD : va_D A [((rS 8), .inr (0, oX0 rC sC)), ((rG 12), .inl (cy 0, 4, .inl G_kind)), (h0, .inr (10, oX10 rS sS)), ((rS 2), .inr (4, oX4 rG sG)), ((rC 0), .inr (3, oX3 (rtP (rS 2) (rS 4) (rS 5) rF))), (((rtP (rS 2) (rS 4) (rS 5) rF) 3), .inl (cy 0, 29, .inl F_all))] := hD
        refine W.widen (k := 2) (n := 12) (by decide) (by decide) ?_
        exact hret r80 () _ _ _ _ rfl dX10_walker_83 h (hP.sub [2, 3, 0, 4, 1, 5] rfl) (hD.sub [2, 3, 0, 4, 1, 5] (by decide) rfl) hS
      · have h := h.2 c6_2
        by_cases c6_3 : x2 = (3 : Int32)
        · have h := h.1 c6_3
          refine lv_tableIn (off := 78) (tgt := 84) hx hb dX10_walker_6 (by rw [c6_3]; decide) (by rw [c6_3]; decide) (by rw [c6_3]; rfl) (by decide) ?_
          refine lv_aload_n hx hb dX10_walker_84 rfl (lv_at hl 0 rfl) ?_
          refine gfX10_67 hx hb hts hown hK hP 4 rfl dX10_walker_85 ?_
          refine gfX10_206 hx hb hts hown hK hP 0 rfl dX10_walker_88 ?_
          refine lv_iload_n hx hb dX10_walker_91 rfl (lv_at hl 1 rfl) ?_
          refine lv_iconst (v := (2 : Int32)) hx hb dX10_walker_92 (by decide) ?_
          refine clVi (As := [.int x1, .int (2 : Int32)]) (rest := []) (Wr := [((rS 8), .inr (0, oX0 rC sC)), ((rG 12), .inl (cy 0, 4, .inl G_kind)), (h0, .inr (10, oX10 rS sS)), ((rS 2), .inr (4, oX4 rG sG))]) (cq := (RX3, TX3, 5)) ⟨hx, hb, hml, hown, hts⟩ ⟨callB_of 2 hts (goodC mw559) rfl rfl rfl (hts _ (tb mw9)) (hts _ (tb mw978)) kdX3_of ⟨Nat.le_trans (by decide) hRf, Nat.le_trans (by decide) hRl⟩, hts _ (tb mw557), hts _ (tb mw558)⟩ (ctX3_of l D cy ev (rC 0) (rtP (rS 2) (rS 4) (rS 5) rF) F_all x1 (2 : Int32) _ _ h) hE hK hP hD hS hA [1, 3] [0, 2, 4, 5] rfl rfl (by decide) (by decide) (by decide) 0 rfl rfl rfl hl.1 rfl (Nat.le_of_ble_eq_true rfl) ⟨Nat.le_trans (by decide) hRc, Nat.le_trans (by decide) hRs⟩ dX10_walker_93 (fun r93 u H locs h hP hD hS => ?_)
          have hP : va_P D clsX [((rS 8), .inr (0, oX0 rC sC)), ((rG 12), .inl (cy 0, 4, .inl G_kind)), (h0, .inr (10, oX10 rS sS)), ((rS 2), .inr (4, oX4 rG sG)), ((rC 0), .inr (3, oX3 (rtP (rS 2) (rS 4) (rS 5) rF))), (((rtP (rS 2) (rS 4) (rS 5) rF) 3), .inl (cy 0, 29, .inl F_all))] H := hP
          have hD : va_D A [((rS 8), .inr (0, oX0 rC sC)), ((rG 12), .inl (cy 0, 4, .inl G_kind)), (h0, .inr (10, oX10 rS sS)), ((rS 2), .inr (4, oX4 rG sG)), ((rC 0), .inr (3, oX3 (rtP (rS 2) (rS 4) (rS 5) rF))), (((rtP (rS 2) (rS 4) (rS 5) rF) 3), .inl (cy 0, 29, .inl F_all))] := hD
          refine W.widen (k := 2) (n := 12) (by decide) (by decide) ?_
          exact hret r93 () _ _ _ _ rfl dX10_walker_96 h (hP.sub [2, 3, 0, 4, 1, 5] rfl) (hD.sub [2, 3, 0, 4, 1, 5] (by decide) rfl) hS
        · have h := h.2 c6_3
          by_cases c6_4 : x2 = (4 : Int32)
          · have h := h.1 c6_4
            refine lv_tableIn (off := 91) (tgt := 97) hx hb dX10_walker_6 (by rw [c6_4]; decide) (by rw [c6_4]; decide) (by rw [c6_4]; rfl) (by decide) ?_
            refine lv_aload_n hx hb dX10_walker_97 rfl (lv_at hl 0 rfl) ?_
            refine gfX10_67 hx hb hts hown hK hP 4 rfl dX10_walker_98 ?_
            refine gfX10_206 hx hb hts hown hK hP 0 rfl dX10_walker_101 ?_
            refine lv_iload_n hx hb dX10_walker_104 rfl (lv_at hl 1 rfl) ?_
            refine lv_iconst (v := (3 : Int32)) hx hb dX10_walker_105 (by decide) ?_
            refine clVi (As := [.int x1, .int (3 : Int32)]) (rest := []) (Wr := [((rS 8), .inr (0, oX0 rC sC)), ((rG 12), .inl (cy 0, 4, .inl G_kind)), (h0, .inr (10, oX10 rS sS)), ((rS 2), .inr (4, oX4 rG sG))]) (cq := (RX3, TX3, 5)) ⟨hx, hb, hml, hown, hts⟩ ⟨callB_of 2 hts (goodC mw559) rfl rfl rfl (hts _ (tb mw9)) (hts _ (tb mw978)) kdX3_of ⟨Nat.le_trans (by decide) hRf, Nat.le_trans (by decide) hRl⟩, hts _ (tb mw557), hts _ (tb mw558)⟩ (ctX3_of l D cy ev (rC 0) (rtP (rS 2) (rS 4) (rS 5) rF) F_all x1 (3 : Int32) _ _ h) hE hK hP hD hS hA [1, 3] [0, 2, 4, 5] rfl rfl (by decide) (by decide) (by decide) 0 rfl rfl rfl hl.1 rfl (Nat.le_of_ble_eq_true rfl) ⟨Nat.le_trans (by decide) hRc, Nat.le_trans (by decide) hRs⟩ dX10_walker_106 (fun r106 u H locs h hP hD hS => ?_)
            have hP : va_P D clsX [((rS 8), .inr (0, oX0 rC sC)), ((rG 12), .inl (cy 0, 4, .inl G_kind)), (h0, .inr (10, oX10 rS sS)), ((rS 2), .inr (4, oX4 rG sG)), ((rC 0), .inr (3, oX3 (rtP (rS 2) (rS 4) (rS 5) rF))), (((rtP (rS 2) (rS 4) (rS 5) rF) 3), .inl (cy 0, 29, .inl F_all))] H := hP
            have hD : va_D A [((rS 8), .inr (0, oX0 rC sC)), ((rG 12), .inl (cy 0, 4, .inl G_kind)), (h0, .inr (10, oX10 rS sS)), ((rS 2), .inr (4, oX4 rG sG)), ((rC 0), .inr (3, oX3 (rtP (rS 2) (rS 4) (rS 5) rF))), (((rtP (rS 2) (rS 4) (rS 5) rF) 3), .inl (cy 0, 29, .inl F_all))] := hD
            refine W.widen (k := 2) (n := 12) (by decide) (by decide) ?_
            exact hret r106 () _ _ _ _ rfl dX10_walker_109 h (hP.sub [2, 3, 0, 4, 1, 5] rfl) (hD.sub [2, 3, 0, 4, 1, 5] (by decide) rfl) hS
          · have h := h.2 c6_4
            by_cases c6_5 : x2 = (5 : Int32)
            · have h := h.1 c6_5
              refine lv_tableIn (off := 104) (tgt := 110) hx hb dX10_walker_6 (by rw [c6_5]; decide) (by rw [c6_5]; decide) (by rw [c6_5]; rfl) (by decide) ?_
              refine lv_aload_n hx hb dX10_walker_110 rfl (lv_at hl 0 rfl) ?_
              refine gfX10_67 hx hb hts hown hK hP 4 rfl dX10_walker_111 ?_
              refine gfX10_206 hx hb hts hown hK hP 0 rfl dX10_walker_114 ?_
              refine lv_iload_n hx hb dX10_walker_117 rfl (lv_at hl 1 rfl) ?_
              refine lv_iconst (v := (4 : Int32)) hx hb dX10_walker_118 (by decide) ?_
              refine clVi (As := [.int x1, .int (4 : Int32)]) (rest := []) (Wr := [((rS 8), .inr (0, oX0 rC sC)), ((rG 12), .inl (cy 0, 4, .inl G_kind)), (h0, .inr (10, oX10 rS sS)), ((rS 2), .inr (4, oX4 rG sG))]) (cq := (RX3, TX3, 5)) ⟨hx, hb, hml, hown, hts⟩ ⟨callB_of 2 hts (goodC mw559) rfl rfl rfl (hts _ (tb mw9)) (hts _ (tb mw978)) kdX3_of ⟨Nat.le_trans (by decide) hRf, Nat.le_trans (by decide) hRl⟩, hts _ (tb mw557), hts _ (tb mw558)⟩ (ctX3_of l D cy ev (rC 0) (rtP (rS 2) (rS 4) (rS 5) rF) F_all x1 (4 : Int32) _ _ h) hE hK hP hD hS hA [1, 3] [0, 2, 4, 5] rfl rfl (by decide) (by decide) (by decide) 0 rfl rfl rfl hl.1 rfl (Nat.le_of_ble_eq_true rfl) ⟨Nat.le_trans (by decide) hRc, Nat.le_trans (by decide) hRs⟩ dX10_walker_119 (fun r119 u H locs h hP hD hS => ?_)
              have hP : va_P D clsX [((rS 8), .inr (0, oX0 rC sC)), ((rG 12), .inl (cy 0, 4, .inl G_kind)), (h0, .inr (10, oX10 rS sS)), ((rS 2), .inr (4, oX4 rG sG)), ((rC 0), .inr (3, oX3 (rtP (rS 2) (rS 4) (rS 5) rF))), (((rtP (rS 2) (rS 4) (rS 5) rF) 3), .inl (cy 0, 29, .inl F_all))] H := hP
              have hD : va_D A [((rS 8), .inr (0, oX0 rC sC)), ((rG 12), .inl (cy 0, 4, .inl G_kind)), (h0, .inr (10, oX10 rS sS)), ((rS 2), .inr (4, oX4 rG sG)), ((rC 0), .inr (3, oX3 (rtP (rS 2) (rS 4) (rS 5) rF))), (((rtP (rS 2) (rS 4) (rS 5) rF) 3), .inl (cy 0, 29, .inl F_all))] := hD
              refine W.widen (k := 2) (n := 12) (by decide) (by decide) ?_
              exact hret r119 () _ _ _ _ rfl dX10_walker_122 h (hP.sub [2, 3, 0, 4, 1, 5] rfl) (hD.sub [2, 3, 0, 4, 1, 5] (by decide) rfl) hS
            · have h := h.2 c6_5
              by_cases c6_6 : x2 = (6 : Int32)
              · have h := h.1 c6_6
                refine lv_tableIn (off := 117) (tgt := 123) hx hb dX10_walker_6 (by rw [c6_6]; decide) (by rw [c6_6]; decide) (by rw [c6_6]; rfl) (by decide) ?_
                refine lv_aload_n hx hb dX10_walker_123 rfl (lv_at hl 0 rfl) ?_
                refine gfX10_67 hx hb hts hown hK hP 4 rfl dX10_walker_124 ?_
                refine gfX10_206 hx hb hts hown hK hP 0 rfl dX10_walker_127 ?_
                refine lv_iload_n hx hb dX10_walker_130 rfl (lv_at hl 1 rfl) ?_
                refine lv_iconst (v := (5 : Int32)) hx hb dX10_walker_131 (by decide) ?_
                refine clVi (As := [.int x1, .int (5 : Int32)]) (rest := []) (Wr := [((rS 8), .inr (0, oX0 rC sC)), ((rG 12), .inl (cy 0, 4, .inl G_kind)), (h0, .inr (10, oX10 rS sS)), ((rS 2), .inr (4, oX4 rG sG))]) (cq := (RX3, TX3, 5)) ⟨hx, hb, hml, hown, hts⟩ ⟨callB_of 2 hts (goodC mw559) rfl rfl rfl (hts _ (tb mw9)) (hts _ (tb mw978)) kdX3_of ⟨Nat.le_trans (by decide) hRf, Nat.le_trans (by decide) hRl⟩, hts _ (tb mw557), hts _ (tb mw558)⟩ (ctX3_of l D cy ev (rC 0) (rtP (rS 2) (rS 4) (rS 5) rF) F_all x1 (5 : Int32) _ _ h) hE hK hP hD hS hA [1, 3] [0, 2, 4, 5] rfl rfl (by decide) (by decide) (by decide) 0 rfl rfl rfl hl.1 rfl (Nat.le_of_ble_eq_true rfl) ⟨Nat.le_trans (by decide) hRc, Nat.le_trans (by decide) hRs⟩ dX10_walker_132 (fun r132 u H locs h hP hD hS => ?_)
                have hP : va_P D clsX [((rS 8), .inr (0, oX0 rC sC)), ((rG 12), .inl (cy 0, 4, .inl G_kind)), (h0, .inr (10, oX10 rS sS)), ((rS 2), .inr (4, oX4 rG sG)), ((rC 0), .inr (3, oX3 (rtP (rS 2) (rS 4) (rS 5) rF))), (((rtP (rS 2) (rS 4) (rS 5) rF) 3), .inl (cy 0, 29, .inl F_all))] H := hP
                have hD : va_D A [((rS 8), .inr (0, oX0 rC sC)), ((rG 12), .inl (cy 0, 4, .inl G_kind)), (h0, .inr (10, oX10 rS sS)), ((rS 2), .inr (4, oX4 rG sG)), ((rC 0), .inr (3, oX3 (rtP (rS 2) (rS 4) (rS 5) rF))), (((rtP (rS 2) (rS 4) (rS 5) rF) 3), .inl (cy 0, 29, .inl F_all))] := hD
                refine W.widen (k := 2) (n := 12) (by decide) (by decide) ?_
                exact hret r132 () _ _ _ _ rfl dX10_walker_135 h (hP.sub [2, 3, 0, 4, 1, 5] rfl) (hD.sub [2, 3, 0, 4, 1, 5] (by decide) rfl) hS
              · have h := h.2 c6_6
                have k0 := ne_iN (n := 0) (by decide) c6_0
                have k1 := ne_iN (n := 1) (by decide) c6_1
                have k2 := ne_iN (n := 2) (by decide) c6_2
                have k3 := ne_iN (n := 3) (by decide) c6_3
                have k4 := ne_iN (n := 4) (by decide) c6_4
                have k5 := ne_iN (n := 5) (by decide) c6_5
                have k6 := ne_iN (n := 6) (by decide) c6_6
                refine lv_tableOut (tgt := 136) hx hb dX10_walker_6 (by omega) (by decide) ?_
                exact hnNW _ _ _ _ _ _ _ _ _ _ (hE.1 23 (by decide)).1 h (hP.sub [4, 5, 0, 1, 2, 3] rfl) (hD.sub [4, 5, 0, 1, 2, 3] (by decide) rfl) hS hl.1 (by decide) (by decide) (Nat.le_of_ble_eq_true rfl) dX10_walker_136 dX10_walker_139 dX10_walker_140 dX10_walker_143 dX10_walker_146
def wpX10_far (sG : AR) (G_towerCell : AR) (x1 : Int32) (x2 : Int32) (post : Int32 → Prop) (postX : String → Prop) : Prop := wpX10_needTower sG x1 (wpX10_needCell sG x2 (wpX4_distance sG G_towerCell x1 x2 (fun r16 => post r16)) postX) postX
set_option maxHeartbeats 4000000 in
set_option maxRecDepth 100000 in
theorem ctX10_far (l : Launch) (D : va_G) (cy : Nat → ClassId) (ev : Nat → Nat) (hst : l.stackTraces = false) (h0 : Nat) (rS : Nat → Nat) (rG : Nat → Nat) (sS : AR) (sG : AR) (G_towerCell : AR) (x1 : Int32) (x2 : Int32) (sz : Nat) (post : Int32 → Prop) (postX : String → Prop) (h : wpX10_far sG G_towerCell x1 x2 post postX) : vx_Met l yX10_far (Cond.code yX10_far cX10_far 3 (some .int) :: TB) ({ frames := 7, cells := 2, slots := 12, locals := 121 }) (va_Pc [.ref h0, .int x1, .int x2] (PreT D cy ev [(h0, .inr (10, oX10 rS sS)), ((rS 2), .inr (4, oX4 rG sG)), ((rG 7), .inl (cy 0, 5, .inl G_towerCell))] sz)) (va_Qi (fun (r : Int32) (u : Unit) => post r) (fun u => BkX D cy [(h0, .inr (10, oX10 rS sS)), ((rS 2), .inr (4, oX4 rG sG)), ((rG 7), .inl (cy 0, 5, .inl G_towerCell))] sz [(h0, .inr (10, oX10 rS sS)), ((rS 2), .inr (4, oX4 rG sG)), ((rG 7), .inl (cy 0, 5, .inl G_towerCell))]) (va_A [(h0, .inr (10, oX10 rS sS)), ((rS 2), .inr (4, oX4 rG sG)), ((rG 7), .inl (cy 0, 5, .inl G_towerCell))] sz)) (XcX D cy [(h0, .inr (10, oX10 rS sS)), ((rS 2), .inr (4, oX4 rG sG)), ((rG 7), .inl (cy 0, 5, .inl G_towerCell))] sz postX) 2 12 (va_A [(h0, .inr (10, oX10 rS sS)), ((rS 2), .inr (4, oX4 rG sG)), ((rG 7), .inl (cy 0, 5, .inl G_towerCell))] sz) := by
  refine ofXi hst (by decide) rfl (Nat.le_of_ble_eq_true rfl) ⟨by decide, by decide, by decide, by decide⟩ ?_
  intro p e s m args below meth c ls A R QQ hx hb hml hown hts hR hlk hE hT hK hP hD hS hA hl hthr hnN hnNW hnI hnIW hret
  have hRc : 2 ≤ R.cells := by rw [hR]; exact Nat.le_refl _
  have hRs : 12 ≤ R.slots := by rw [hR]; exact Nat.le_refl _
  have hown : s.vm.findClass RX10 = some m.cls := hown
  have hRf : 7 ≤ R.frames := by rw [hR]; exact Nat.le_refl _
  have hRl : 121 ≤ R.locals := by rw [hR]; exact Nat.le_refl _
  clear hR
  have hl : lv_has ls 3 [(0, .ref h0), (1, .int x1), (2, .int x2)] := hl
  refine lv_aload_n hx hb dX10_far_0 rfl (lv_at hl 0 rfl) ?_
  refine lv_iload_n hx hb dX10_far_1 rfl (lv_at hl 1 rfl) ?_
  refine clXv (As := [.int x1]) (rest := []) (Wr := [((rG 7), .inl (cy 0, 5, .inl G_towerCell))]) (cq := (RX10, TX10, 18)) ⟨hx, hb, hml, hown, hts⟩ ⟨callB_of 1 hts (goodC mw959) rfl rfl rfl (hts _ (tb mw1)) (hts _ (tb mw956)) kdX10_needTower ⟨Nat.le_trans (by decide) hRf, Nat.le_trans (by decide) hRl⟩, hts _ (tb mw958), hts _ (tb ms28)⟩ (ctX10_needTower l D cy ev hst h0 rS rG sS sG x1 _ _ _ h) hE hT hK hP hD hS hA [0, 1] [2] rfl rfl (by decide) (by decide) (by decide) 0 rfl rfl rfl hl.1 rfl (Nat.le_of_ble_eq_true rfl) ⟨Nat.le_trans (by decide) hRc, Nat.le_trans (by decide) hRs⟩ dX10_far_2 (fun E ce q H locs h hP hD hS g1 g2 g3 => vx_widen (by decide) (by decide) (hthr E ce q _ _ _ _ _ h (hP.sub [1, 2, 0] rfl) (hD.sub [1, 2, 0] (by decide) rfl) hS g1 g2 g3)) (fun u H locs h hP hD hS => ?_)
  have hP : va_P D clsX [((rG 7), .inl (cy 0, 5, .inl G_towerCell)), (h0, .inr (10, oX10 rS sS)), ((rS 2), .inr (4, oX4 rG sG))] H := hP
  have hD : va_D A [((rG 7), .inl (cy 0, 5, .inl G_towerCell)), (h0, .inr (10, oX10 rS sS)), ((rS 2), .inr (4, oX4 rG sG))] := hD
  refine lv_aload_n hx hb dX10_far_5 rfl (lv_at hl 0 rfl) ?_
  refine lv_iload_n hx hb dX10_far_6 rfl (lv_at hl 2 rfl) ?_
  refine clXv (As := [.int x2]) (rest := []) (Wr := [((rG 7), .inl (cy 0, 5, .inl G_towerCell))]) (cq := (RX10, TX10, 18)) ⟨hx, hb, hml, hown, hts⟩ ⟨callB_of 1 hts (goodC mw990) rfl rfl rfl (hts _ (tb mw1)) (hts _ (tb mw987)) kdX10_needCell ⟨Nat.le_trans (by decide) hRf, Nat.le_trans (by decide) hRl⟩, hts _ (tb mw989), hts _ (tb ms30)⟩ (ctX10_needCell l D cy ev hst h0 rS rG sS sG x2 _ _ _ h) hE hT hK hP hD hS hA [1, 2] [0] rfl rfl (by decide) (by decide) (by decide) 0 rfl rfl rfl hl.1 rfl (Nat.le_of_ble_eq_true rfl) ⟨Nat.le_trans (by decide) hRc, Nat.le_trans (by decide) hRs⟩ dX10_far_7 (fun E ce q H locs h hP hD hS g1 g2 g3 => vx_widen (by decide) (by decide) (hthr E ce q _ _ _ _ _ h (hP.sub [1, 2, 0] rfl) (hD.sub [1, 2, 0] (by decide) rfl) hS g1 g2 g3)) (fun u H locs h hP hD hS => ?_)
  have hP : va_P D clsX [((rG 7), .inl (cy 0, 5, .inl G_towerCell)), (h0, .inr (10, oX10 rS sS)), ((rS 2), .inr (4, oX4 rG sG))] H := hP
  have hD : va_D A [((rG 7), .inl (cy 0, 5, .inl G_towerCell)), (h0, .inr (10, oX10 rS sS)), ((rS 2), .inr (4, oX4 rG sG))] := hD
  refine lv_aload_n hx hb dX10_far_10 rfl (lv_at hl 0 rfl) ?_
  refine gfX10_23 hx hb hts hown hK hP 1 rfl dX10_far_11 ?_
  refine lv_iload_n hx hb dX10_far_14 rfl (lv_at hl 1 rfl) ?_
  refine lv_iload_n hx hb dX10_far_15 rfl (lv_at hl 2 rfl) ?_
  refine clVi (As := [.int x1, .int x2]) (rest := []) (Wr := [(h0, .inr (10, oX10 rS sS))]) (cq := (RX4, TX4, 16)) ⟨hx, hb, hml, hown, hts⟩ ⟨callB_of 2 hts (goodC mw408) rfl rfl rfl (hts _ (tb mw3)) (hts _ (tb mw993)) kdX4_distance ⟨Nat.le_trans (by decide) hRf, Nat.le_trans (by decide) hRl⟩, hts _ (tb mw406), hts _ (tb mw407)⟩ (ctX4_distance l D cy ev (rS 2) rG sG G_towerCell x1 x2 _ _ h) hE hK hP hD hS hA [2, 0] [1] rfl rfl (by decide) (by decide) (by decide) 0 rfl rfl rfl hl.1 rfl (Nat.le_of_ble_eq_true rfl) ⟨Nat.le_trans (by decide) hRc, Nat.le_trans (by decide) hRs⟩ dX10_far_16 (fun r16 u H locs h hP hD hS => ?_)
  have hP : va_P D clsX [(h0, .inr (10, oX10 rS sS)), ((rS 2), .inr (4, oX4 rG sG)), ((rG 7), .inl (cy 0, 5, .inl G_towerCell))] H := hP
  have hD : va_D A [(h0, .inr (10, oX10 rS sS)), ((rS 2), .inr (4, oX4 rG sG)), ((rG 7), .inl (cy 0, 5, .inl G_towerCell))] := hD
  exact hret r16 () _ _ _ _ rfl dX10_far_19 h hP hD hS
def wpX10_heard (sG : AR) (E_heardAt : AR) (x1 : Int32) (post : Int32 → Prop) (postX : String → Prop) : Prop := wpX10_needCell sG x1 (vp_in x1 100 ∧ post (E_heardAt x1.toNatClampNeg)) postX
set_option maxHeartbeats 4000000 in
set_option maxRecDepth 100000 in
theorem ctX10_heard (l : Launch) (D : va_G) (cy : Nat → ClassId) (ev : Nat → Nat) (hst : l.stackTraces = false) (h0 : Nat) (rS : Nat → Nat) (rG : Nat → Nat) (rE : Nat → Nat) (sS : AR) (sG : AR) (E_heardAt : AR) (x1 : Int32) (sz : Nat) (post : Int32 → Prop) (postX : String → Prop) (h : wpX10_heard sG E_heardAt x1 post postX) : vx_Met l yX10_heard (Cond.code yX10_heard cX10_heard 2 (some .int) :: TB) ({ frames := 7, cells := 1, slots := 6, locals := 121 }) (va_Pc [.ref h0, .int x1] (PreT D cy ev [(h0, .inr (10, oX10 rS sS)), ((rS 2), .inr (4, oX4 rG sG)), ((rS 4), .inr (1, oX1 rE)), ((rE 0), .inl (cy 1, 100, .inl E_heardAt))] sz)) (va_Qi (fun (r : Int32) (u : Unit) => post r) (fun u => BkX D cy [(h0, .inr (10, oX10 rS sS)), ((rS 2), .inr (4, oX4 rG sG)), ((rS 4), .inr (1, oX1 rE)), ((rE 0), .inl (cy 1, 100, .inl E_heardAt))] sz [(h0, .inr (10, oX10 rS sS)), ((rS 2), .inr (4, oX4 rG sG)), ((rS 4), .inr (1, oX1 rE)), ((rE 0), .inl (cy 1, 100, .inl E_heardAt))]) (va_A [(h0, .inr (10, oX10 rS sS)), ((rS 2), .inr (4, oX4 rG sG)), ((rS 4), .inr (1, oX1 rE)), ((rE 0), .inl (cy 1, 100, .inl E_heardAt))] sz)) (XcX D cy [(h0, .inr (10, oX10 rS sS)), ((rS 2), .inr (4, oX4 rG sG)), ((rS 4), .inr (1, oX1 rE)), ((rE 0), .inl (cy 1, 100, .inl E_heardAt))] sz postX) 1 6 (va_A [(h0, .inr (10, oX10 rS sS)), ((rS 2), .inr (4, oX4 rG sG)), ((rS 4), .inr (1, oX1 rE)), ((rE 0), .inl (cy 1, 100, .inl E_heardAt))] sz) := by
  refine ofXi hst (by decide) rfl (Nat.le_of_ble_eq_true rfl) ⟨by decide, by decide, by decide, by decide⟩ ?_
  intro p e s m args below meth c ls A R QQ hx hb hml hown hts hR hlk hE hT hK hP hD hS hA hl hthr hnN hnNW hnI hnIW hret
  have hRc : 1 ≤ R.cells := by rw [hR]; exact Nat.le_refl _
  have hRs : 6 ≤ R.slots := by rw [hR]; exact Nat.le_refl _
  have hown : s.vm.findClass RX10 = some m.cls := hown
  have hRf : 7 ≤ R.frames := by rw [hR]; exact Nat.le_refl _
  have hRl : 121 ≤ R.locals := by rw [hR]; exact Nat.le_refl _
  clear hR
  have hl : lv_has ls 2 [(0, .ref h0), (1, .int x1)] := hl
  refine lv_aload_n hx hb dX10_heard_0 rfl (lv_at hl 0 rfl) ?_
  refine lv_iload_n hx hb dX10_heard_1 rfl (lv_at hl 1 rfl) ?_
  refine clXv (As := [.int x1]) (rest := []) (Wr := [((rS 4), .inr (1, oX1 rE)), ((rE 0), .inl (cy 1, 100, .inl E_heardAt))]) (cq := (RX10, TX10, 18)) ⟨hx, hb, hml, hown, hts⟩ ⟨callB_of 1 hts (goodC mw990) rfl rfl rfl (hts _ (tb mw1)) (hts _ (tb mw987)) kdX10_needCell ⟨Nat.le_trans (by decide) hRf, Nat.le_trans (by decide) hRl⟩, hts _ (tb mw989), hts _ (tb ms30)⟩ (ctX10_needCell l D cy ev hst h0 rS rG sS sG x1 _ _ _ h) hE hT hK hP hD hS hA [0, 1] [2, 3] rfl rfl (by decide) (by decide) (by decide) 0 rfl rfl rfl hl.1 rfl (Nat.le_of_ble_eq_true rfl) ⟨Nat.le_trans (by decide) hRc, Nat.le_trans (by decide) hRs⟩ dX10_heard_2 (fun E ce q H locs h hP hD hS g1 g2 g3 => vx_widen (by decide) (by decide) (hthr E ce q _ _ _ _ _ h (hP.sub [2, 3, 0, 1] rfl) (hD.sub [2, 3, 0, 1] (by decide) rfl) hS g1 g2 g3)) (fun u H locs h hP hD hS => ?_)
  have hP : va_P D clsX [((rS 4), .inr (1, oX1 rE)), ((rE 0), .inl (cy 1, 100, .inl E_heardAt)), (h0, .inr (10, oX10 rS sS)), ((rS 2), .inr (4, oX4 rG sG))] H := hP
  have hD : va_D A [((rS 4), .inr (1, oX1 rE)), ((rE 0), .inl (cy 1, 100, .inl E_heardAt)), (h0, .inr (10, oX10 rS sS)), ((rS 2), .inr (4, oX4 rG sG))] := hD
  refine lv_aload_n hx hb dX10_heard_5 rfl (lv_at hl 0 rfl) ?_
  refine gfX10_33 hx hb hts hown hK hP 2 rfl dX10_heard_6 ?_
  refine gfX10_273 hx hb hts hown hK hP 0 rfl dX10_heard_9 ?_
  refine lv_iload_n hx hb dX10_heard_12 rfl (lv_at hl 1 rfl) ?_
  obtain ⟨hin, h⟩ := h
  refine ldb (k := x1.toNatClampNeg) hx hb hK hP 1 rfl hin rfl dX10_heard_13 ?_
  exact hret (E_heardAt x1.toNatClampNeg) () _ _ _ _ rfl dX10_heard_14 h (hP.sub [2, 3, 0, 1] rfl) (hD.sub [2, 3, 0, 1] (by decide) rfl) hS
def wpX10_ring_J11 (sC : AR) (sG : AR) (sQ : AR) (C_past : AR) (F_all : AR) (F_reasons : AR) (G_isFalse : AR) (G_kind : AR) (E_heardAt : AR) (E_nearest : AR) (E_ofVoice : AR) (E_alike : AR) (W_next : AR) (W_way : AR) (W_goal : AR) (Q_cell : AR) (Q_heading : AR) (post : Int32 → AR → AR → AR → AR → AR → AR → AR → Prop) (postX : String → Prop) : Prop := postX exI
def wpX10_ring_L24 (sG : AR) (G_isFalse : AR) (G_kind : AR) (E_heardAt : AR) (E_nearest : AR) (E_ofVoice : AR) (E_alike : AR) (W_next : AR) (W_way : AR) (W_goal : AR) (l1 : Int32) (l2 : Int32) (kx46 : AR → AR → AR → AR → AR → AR → AR → Int32 → Prop) (post : Int32 → AR → AR → AR → AR → AR → AR → AR → Prop) (postX : String → Prop) : Nat → AR → AR → AR → AR → AR → AR → AR → Int32 → Prop
  | 0, _, _, _, _, _, _, _, _ => False
  | nf24 + 1, sC, sQ, C_past, F_all, F_reasons, Q_cell, Q_heading, l3 => ((l2 ≤ l3 → kx46 sC sQ C_past F_all F_reasons Q_cell Q_heading l3) ∧ (¬ l2 ≤ l3 → wpX10_strike sC sG sQ C_past F_all F_reasons G_isFalse G_kind E_heardAt E_nearest E_ofVoice E_alike W_next W_way W_goal Q_cell Q_heading l1 (fun r31 sC_31 sQ_31 C_past_31 F_all_31 F_reasons_31 Q_cell_31 Q_heading_31 => ((¬ r31 = (-1 : Int32) → ∀ l3_40 : Int32, l3_40 = (l3 + (1 : Int32)) → wpX10_ring_L24 sG G_isFalse G_kind E_heardAt E_nearest E_ofVoice E_alike W_next W_way W_goal l1 l2 kx46 post postX nf24 sC_31 sQ_31 C_past_31 F_all_31 F_reasons_31 Q_cell_31 Q_heading_31 l3_40) ∧ (r31 = (-1 : Int32) → post l3 sC_31 sQ_31 C_past_31 F_all_31 F_reasons_31 Q_cell_31 Q_heading_31)))))
def wpX10_ring (sC : AR) (sG : AR) (sQ : AR) (C_past : AR) (F_all : AR) (F_reasons : AR) (G_isFalse : AR) (G_kind : AR) (E_heardAt : AR) (E_nearest : AR) (E_ofVoice : AR) (E_alike : AR) (W_next : AR) (W_way : AR) (W_goal : AR) (Q_cell : AR) (Q_heading : AR) (x1 : Int32) (x2 : Int32) (post : Int32 → AR → AR → AR → AR → AR → AR → AR → Prop) (postX : String → Prop) : Prop := ((x2 < 0 → wpX10_ring_J11 sC sG sQ C_past F_all F_reasons G_isFalse G_kind E_heardAt E_nearest E_ofVoice E_alike W_next W_way W_goal Q_cell Q_heading post postX) ∧ (¬ x2 < 0 → ((x2 ≤ (200 : Int32) → ∃ nf24 : Nat, wpX10_ring_L24 sG G_isFalse G_kind E_heardAt E_nearest E_ofVoice E_alike W_next W_way W_goal x1 x2 (fun sC_46 sQ_46 C_past_46 F_all_46 F_reasons_46 Q_cell_46 Q_heading_46 l3_46 => post x2 sC_46 sQ_46 C_past_46 F_all_46 F_reasons_46 Q_cell_46 Q_heading_46) post postX nf24 sC sQ C_past F_all F_reasons Q_cell Q_heading (0 : Int32)) ∧ (¬ x2 ≤ (200 : Int32) → wpX10_ring_J11 sC sG sQ C_past F_all F_reasons G_isFalse G_kind E_heardAt E_nearest E_ofVoice E_alike W_next W_way W_goal Q_cell Q_heading post postX))))
set_option maxHeartbeats 4000000 in
set_option maxRecDepth 100000 in
theorem ctX10_ring (l : Launch) (D : va_G) (cy : Nat → ClassId) (ev : Nat → Nat) (hst : l.stackTraces = false) (h0 : Nat) (rS : Nat → Nat) (rC : Nat → Nat) (rF : Nat → Nat) (rG : Nat → Nat) (rE : Nat → Nat) (rW : Nat → Nat) (rQ : Nat → Nat) (sS : AR) (sC : AR) (sG : AR) (sQ : AR) (C_past : AR) (F_all : AR) (F_reasons : AR) (G_isFalse : AR) (G_kind : AR) (E_heardAt : AR) (E_nearest : AR) (E_ofVoice : AR) (E_alike : AR) (W_next : AR) (W_way : AR) (W_goal : AR) (Q_cell : AR) (Q_heading : AR) (x1 : Int32) (x2 : Int32) (sz : Nat) (post : Int32 → AR → AR → AR → AR → AR → AR → AR → Prop) (postX : String → Prop) (h : wpX10_ring sC sG sQ C_past F_all F_reasons G_isFalse G_kind E_heardAt E_nearest E_ofVoice E_alike W_next W_way W_goal Q_cell Q_heading x1 x2 post postX) : vx_Met l yX10_ring (Cond.code yX10_ring cX10_ring 4 (some .int) :: TB) ({ frames := 7, cells := 1, slots := 6, locals := 166 }) (va_Pc [.ref h0, .int x1, .int x2] (PreT D cy ev [(h0, .inr (10, oX10 rS sS)), ((rS 8), .inr (0, oX0 rC sC)), ((rC 0), .inr (3, oX3 (rtP (rS 2) (rS 4) (rS 5) rF))), ((rS 2), .inr (4, oX4 rG sG)), ((rS 4), .inr (1, oX1 rE)), ((rS 5), .inr (2, oX2 rW)), ((rS 10), .inr (7, oX7 (rtP (rS 2) (rS 4) (rS 5) rQ) sQ)), ((rC 1), .inl (cy 0, 3400, .inl C_past)), (((rtP (rS 2) (rS 4) (rS 5) rF) 3), .inl (cy 0, 29, .inl F_all)), (((rtP (rS 2) (rS 4) (rS 5) rF) 4), .inl (cy 0, 4, .inl F_reasons)), ((rG 11), .inl (cy 2, 5, .inl G_isFalse)), ((rG 12), .inl (cy 0, 4, .inl G_kind)), ((rE 0), .inl (cy 1, 100, .inl E_heardAt)), ((rE 1), .inl (cy 1, 3200, .inl E_nearest)), ((rE 3), .inl (cy 0, 4, .inl E_ofVoice)), ((rE 4), .inl (cy 0, 5, .inl E_alike)), ((rW 0), .inl (cy 0, 400, .inl W_next)), ((rW 1), .inl (cy 0, 500, .inl W_way)), ((rW 2), .inl (cy 0, 5, .inl W_goal)), (((rtP (rS 2) (rS 4) (rS 5) rQ) 3), .inl (cy 0, 100, .inl Q_cell)), (((rtP (rS 2) (rS 4) (rS 5) rQ) 4), .inl (cy 0, 100, .inl Q_heading))] sz)) (va_Qi (fun (r : Int32) (u : AR × AR × AR × AR × AR × AR × AR) => post r (u.1) (u.2.1) (u.2.2.1) (u.2.2.2.1) (u.2.2.2.2.1) (u.2.2.2.2.2.1) (u.2.2.2.2.2.2)) (fun u => BkX D cy [(h0, .inr (10, oX10 rS sS)), ((rS 8), .inr (0, oX0 rC sC)), ((rC 0), .inr (3, oX3 (rtP (rS 2) (rS 4) (rS 5) rF))), ((rS 2), .inr (4, oX4 rG sG)), ((rS 4), .inr (1, oX1 rE)), ((rS 5), .inr (2, oX2 rW)), ((rS 10), .inr (7, oX7 (rtP (rS 2) (rS 4) (rS 5) rQ) sQ)), ((rC 1), .inl (cy 0, 3400, .inl C_past)), (((rtP (rS 2) (rS 4) (rS 5) rF) 3), .inl (cy 0, 29, .inl F_all)), (((rtP (rS 2) (rS 4) (rS 5) rF) 4), .inl (cy 0, 4, .inl F_reasons)), ((rG 11), .inl (cy 2, 5, .inl G_isFalse)), ((rG 12), .inl (cy 0, 4, .inl G_kind)), ((rE 0), .inl (cy 1, 100, .inl E_heardAt)), ((rE 1), .inl (cy 1, 3200, .inl E_nearest)), ((rE 3), .inl (cy 0, 4, .inl E_ofVoice)), ((rE 4), .inl (cy 0, 5, .inl E_alike)), ((rW 0), .inl (cy 0, 400, .inl W_next)), ((rW 1), .inl (cy 0, 500, .inl W_way)), ((rW 2), .inl (cy 0, 5, .inl W_goal)), (((rtP (rS 2) (rS 4) (rS 5) rQ) 3), .inl (cy 0, 100, .inl Q_cell)), (((rtP (rS 2) (rS 4) (rS 5) rQ) 4), .inl (cy 0, 100, .inl Q_heading))] sz [(h0, .inr (10, oX10 rS sS)), ((rS 8), .inr (0, oX0 rC (u.1))), ((rC 0), .inr (3, oX3 (rtP (rS 2) (rS 4) (rS 5) rF))), ((rS 2), .inr (4, oX4 rG sG)), ((rS 4), .inr (1, oX1 rE)), ((rS 5), .inr (2, oX2 rW)), ((rS 10), .inr (7, oX7 (rtP (rS 2) (rS 4) (rS 5) rQ) (u.2.1))), ((rC 1), .inl (cy 0, 3400, .inl (u.2.2.1))), (((rtP (rS 2) (rS 4) (rS 5) rF) 3), .inl (cy 0, 29, .inl (u.2.2.2.1))), (((rtP (rS 2) (rS 4) (rS 5) rF) 4), .inl (cy 0, 4, .inl (u.2.2.2.2.1))), ((rG 11), .inl (cy 2, 5, .inl G_isFalse)), ((rG 12), .inl (cy 0, 4, .inl G_kind)), ((rE 0), .inl (cy 1, 100, .inl E_heardAt)), ((rE 1), .inl (cy 1, 3200, .inl E_nearest)), ((rE 3), .inl (cy 0, 4, .inl E_ofVoice)), ((rE 4), .inl (cy 0, 5, .inl E_alike)), ((rW 0), .inl (cy 0, 400, .inl W_next)), ((rW 1), .inl (cy 0, 500, .inl W_way)), ((rW 2), .inl (cy 0, 5, .inl W_goal)), (((rtP (rS 2) (rS 4) (rS 5) rQ) 3), .inl (cy 0, 100, .inl (u.2.2.2.2.2.1))), (((rtP (rS 2) (rS 4) (rS 5) rQ) 4), .inl (cy 0, 100, .inl (u.2.2.2.2.2.2)))]) (va_A [(h0, .inr (10, oX10 rS sS)), ((rS 8), .inr (0, oX0 rC sC)), ((rC 0), .inr (3, oX3 (rtP (rS 2) (rS 4) (rS 5) rF))), ((rS 2), .inr (4, oX4 rG sG)), ((rS 4), .inr (1, oX1 rE)), ((rS 5), .inr (2, oX2 rW)), ((rS 10), .inr (7, oX7 (rtP (rS 2) (rS 4) (rS 5) rQ) sQ)), ((rC 1), .inl (cy 0, 3400, .inl C_past)), (((rtP (rS 2) (rS 4) (rS 5) rF) 3), .inl (cy 0, 29, .inl F_all)), (((rtP (rS 2) (rS 4) (rS 5) rF) 4), .inl (cy 0, 4, .inl F_reasons)), ((rG 11), .inl (cy 2, 5, .inl G_isFalse)), ((rG 12), .inl (cy 0, 4, .inl G_kind)), ((rE 0), .inl (cy 1, 100, .inl E_heardAt)), ((rE 1), .inl (cy 1, 3200, .inl E_nearest)), ((rE 3), .inl (cy 0, 4, .inl E_ofVoice)), ((rE 4), .inl (cy 0, 5, .inl E_alike)), ((rW 0), .inl (cy 0, 400, .inl W_next)), ((rW 1), .inl (cy 0, 500, .inl W_way)), ((rW 2), .inl (cy 0, 5, .inl W_goal)), (((rtP (rS 2) (rS 4) (rS 5) rQ) 3), .inl (cy 0, 100, .inl Q_cell)), (((rtP (rS 2) (rS 4) (rS 5) rQ) 4), .inl (cy 0, 100, .inl Q_heading))] sz)) (XcX D cy [(h0, .inr (10, oX10 rS sS)), ((rS 8), .inr (0, oX0 rC sC)), ((rC 0), .inr (3, oX3 (rtP (rS 2) (rS 4) (rS 5) rF))), ((rS 2), .inr (4, oX4 rG sG)), ((rS 4), .inr (1, oX1 rE)), ((rS 5), .inr (2, oX2 rW)), ((rS 10), .inr (7, oX7 (rtP (rS 2) (rS 4) (rS 5) rQ) sQ)), ((rC 1), .inl (cy 0, 3400, .inl C_past)), (((rtP (rS 2) (rS 4) (rS 5) rF) 3), .inl (cy 0, 29, .inl F_all)), (((rtP (rS 2) (rS 4) (rS 5) rF) 4), .inl (cy 0, 4, .inl F_reasons)), ((rG 11), .inl (cy 2, 5, .inl G_isFalse)), ((rG 12), .inl (cy 0, 4, .inl G_kind)), ((rE 0), .inl (cy 1, 100, .inl E_heardAt)), ((rE 1), .inl (cy 1, 3200, .inl E_nearest)), ((rE 3), .inl (cy 0, 4, .inl E_ofVoice)), ((rE 4), .inl (cy 0, 5, .inl E_alike)), ((rW 0), .inl (cy 0, 400, .inl W_next)), ((rW 1), .inl (cy 0, 500, .inl W_way)), ((rW 2), .inl (cy 0, 5, .inl W_goal)), (((rtP (rS 2) (rS 4) (rS 5) rQ) 3), .inl (cy 0, 100, .inl Q_cell)), (((rtP (rS 2) (rS 4) (rS 5) rQ) 4), .inl (cy 0, 100, .inl Q_heading))] sz postX) 1 6 (va_A [(h0, .inr (10, oX10 rS sS)), ((rS 8), .inr (0, oX0 rC sC)), ((rC 0), .inr (3, oX3 (rtP (rS 2) (rS 4) (rS 5) rF))), ((rS 2), .inr (4, oX4 rG sG)), ((rS 4), .inr (1, oX1 rE)), ((rS 5), .inr (2, oX2 rW)), ((rS 10), .inr (7, oX7 (rtP (rS 2) (rS 4) (rS 5) rQ) sQ)), ((rC 1), .inl (cy 0, 3400, .inl C_past)), (((rtP (rS 2) (rS 4) (rS 5) rF) 3), .inl (cy 0, 29, .inl F_all)), (((rtP (rS 2) (rS 4) (rS 5) rF) 4), .inl (cy 0, 4, .inl F_reasons)), ((rG 11), .inl (cy 2, 5, .inl G_isFalse)), ((rG 12), .inl (cy 0, 4, .inl G_kind)), ((rE 0), .inl (cy 1, 100, .inl E_heardAt)), ((rE 1), .inl (cy 1, 3200, .inl E_nearest)), ((rE 3), .inl (cy 0, 4, .inl E_ofVoice)), ((rE 4), .inl (cy 0, 5, .inl E_alike)), ((rW 0), .inl (cy 0, 400, .inl W_next)), ((rW 1), .inl (cy 0, 500, .inl W_way)), ((rW 2), .inl (cy 0, 5, .inl W_goal)), (((rtP (rS 2) (rS 4) (rS 5) rQ) 3), .inl (cy 0, 100, .inl Q_cell)), (((rtP (rS 2) (rS 4) (rS 5) rQ) 4), .inl (cy 0, 100, .inl Q_heading))] sz) := by
  refine ofXi hst (by decide) rfl (Nat.le_of_ble_eq_true rfl) ⟨by decide, by decide, by decide, by decide⟩ ?_
  intro p e s m args below meth c ls A R QQ hx hb hml hown hts hR hlk hE hT hK hP hD hS hA hl hthr hnN hnNW hnI hnIW hret
  have hRc : 1 ≤ R.cells := by rw [hR]; exact Nat.le_refl _
  have hRs : 6 ≤ R.slots := by rw [hR]; exact Nat.le_refl _
  have hown : s.vm.findClass RX10 = some m.cls := hown
  have hRf : 7 ≤ R.frames := by rw [hR]; exact Nat.le_refl _
  have hRl : 166 ≤ R.locals := by rw [hR]; exact Nat.le_refl _
  clear hR
  have hl : lv_has ls 4 [(0, .ref h0), (1, .int x1), (2, .int x2)] := hl
  have J11 : ∀ (H : Heap) (locs : List Loc) (ls : Array Slot), wpX10_ring_J11 sC sG sQ C_past F_all F_reasons G_isFalse G_kind E_heardAt E_nearest E_ofVoice E_alike W_next W_way W_goal Q_cell Q_heading post postX → va_P D clsX [(h0, .inr (10, oX10 rS sS)), ((rS 8), .inr (0, oX0 rC sC)), ((rC 0), .inr (3, oX3 (rtP (rS 2) (rS 4) (rS 5) rF))), ((rS 2), .inr (4, oX4 rG sG)), ((rS 4), .inr (1, oX1 rE)), ((rS 5), .inr (2, oX2 rW)), ((rS 10), .inr (7, oX7 (rtP (rS 2) (rS 4) (rS 5) rQ) sQ)), ((rC 1), .inl (cy 0, 3400, .inl C_past)), (((rtP (rS 2) (rS 4) (rS 5) rF) 3), .inl (cy 0, 29, .inl F_all)), (((rtP (rS 2) (rS 4) (rS 5) rF) 4), .inl (cy 0, 4, .inl F_reasons)), ((rG 11), .inl (cy 2, 5, .inl G_isFalse)), ((rG 12), .inl (cy 0, 4, .inl G_kind)), ((rE 0), .inl (cy 1, 100, .inl E_heardAt)), ((rE 1), .inl (cy 1, 3200, .inl E_nearest)), ((rE 3), .inl (cy 0, 4, .inl E_ofVoice)), ((rE 4), .inl (cy 0, 5, .inl E_alike)), ((rW 0), .inl (cy 0, 400, .inl W_next)), ((rW 1), .inl (cy 0, 500, .inl W_way)), ((rW 2), .inl (cy 0, 5, .inl W_goal)), (((rtP (rS 2) (rS 4) (rS 5) rQ) 3), .inl (cy 0, 100, .inl Q_cell)), (((rtP (rS 2) (rS 4) (rS 5) rQ) 4), .inl (cy 0, 100, .inl Q_heading))] H → va_D A [(h0, .inr (10, oX10 rS sS)), ((rS 8), .inr (0, oX0 rC sC)), ((rC 0), .inr (3, oX3 (rtP (rS 2) (rS 4) (rS 5) rF))), ((rS 2), .inr (4, oX4 rG sG)), ((rS 4), .inr (1, oX1 rE)), ((rS 5), .inr (2, oX2 rW)), ((rS 10), .inr (7, oX7 (rtP (rS 2) (rS 4) (rS 5) rQ) sQ)), ((rC 1), .inl (cy 0, 3400, .inl C_past)), (((rtP (rS 2) (rS 4) (rS 5) rF) 3), .inl (cy 0, 29, .inl F_all)), (((rtP (rS 2) (rS 4) (rS 5) rF) 4), .inl (cy 0, 4, .inl F_reasons)), ((rG 11), .inl (cy 2, 5, .inl G_isFalse)), ((rG 12), .inl (cy 0, 4, .inl G_kind)), ((rE 0), .inl (cy 1, 100, .inl E_heardAt)), ((rE 1), .inl (cy 1, 3200, .inl E_nearest)), ((rE 3), .inl (cy 0, 4, .inl E_ofVoice)), ((rE 4), .inl (cy 0, 5, .inl E_alike)), ((rW 0), .inl (cy 0, 400, .inl W_next)), ((rW 1), .inl (cy 0, 500, .inl W_way)), ((rW 2), .inl (cy 0, 5, .inl W_goal)), (((rtP (rS 2) (rS 4) (rS 5) rQ) 3), .inl (cy 0, 100, .inl Q_cell)), (((rtP (rS 2) (rS 4) (rS 5) rQ) 4), .inl (cy 0, 100, .inl Q_heading))] → va_S A s.heap H locs → lv_has ls 4 [(0, .ref h0)] → W p l e R s m args below meth c H locs 0 0 QQ (F0 m 11 ls []) := by
    intro  H locs ls h hP hD hS hl
    exact hnIW _ _ _ _ _ _ _ _ _ _ (hE.1 25 (by decide)).1 h hP hD hS hl.1 (by decide) (by decide) (Nat.le_of_ble_eq_true rfl) dX10_ring_11 dX10_ring_14 dX10_ring_15 dX10_ring_18 dX10_ring_21
  have L24 : ∀ (l1 : Int32) (l2 : Int32) (kx46 : AR → AR → AR → AR → AR → AR → AR → Int32 → Prop), (∀ (sC : AR) (sQ : AR) (C_past : AR) (F_all : AR) (F_reasons : AR) (Q_cell : AR) (Q_heading : AR) (l3 : Int32) (H : Heap) (locs : List Loc) (ls : Array Slot), kx46 sC sQ C_past F_all F_reasons Q_cell Q_heading l3 → va_P D clsX [(h0, .inr (10, oX10 rS sS)), ((rS 8), .inr (0, oX0 rC sC)), ((rC 0), .inr (3, oX3 (rtP (rS 2) (rS 4) (rS 5) rF))), ((rS 2), .inr (4, oX4 rG sG)), ((rS 4), .inr (1, oX1 rE)), ((rS 5), .inr (2, oX2 rW)), ((rS 10), .inr (7, oX7 (rtP (rS 2) (rS 4) (rS 5) rQ) sQ)), ((rC 1), .inl (cy 0, 3400, .inl C_past)), (((rtP (rS 2) (rS 4) (rS 5) rF) 3), .inl (cy 0, 29, .inl F_all)), (((rtP (rS 2) (rS 4) (rS 5) rF) 4), .inl (cy 0, 4, .inl F_reasons)), ((rG 11), .inl (cy 2, 5, .inl G_isFalse)), ((rG 12), .inl (cy 0, 4, .inl G_kind)), ((rE 0), .inl (cy 1, 100, .inl E_heardAt)), ((rE 1), .inl (cy 1, 3200, .inl E_nearest)), ((rE 3), .inl (cy 0, 4, .inl E_ofVoice)), ((rE 4), .inl (cy 0, 5, .inl E_alike)), ((rW 0), .inl (cy 0, 400, .inl W_next)), ((rW 1), .inl (cy 0, 500, .inl W_way)), ((rW 2), .inl (cy 0, 5, .inl W_goal)), (((rtP (rS 2) (rS 4) (rS 5) rQ) 3), .inl (cy 0, 100, .inl Q_cell)), (((rtP (rS 2) (rS 4) (rS 5) rQ) 4), .inl (cy 0, 100, .inl Q_heading))] H → va_D A [(h0, .inr (10, oX10 rS sS)), ((rS 8), .inr (0, oX0 rC sC)), ((rC 0), .inr (3, oX3 (rtP (rS 2) (rS 4) (rS 5) rF))), ((rS 2), .inr (4, oX4 rG sG)), ((rS 4), .inr (1, oX1 rE)), ((rS 5), .inr (2, oX2 rW)), ((rS 10), .inr (7, oX7 (rtP (rS 2) (rS 4) (rS 5) rQ) sQ)), ((rC 1), .inl (cy 0, 3400, .inl C_past)), (((rtP (rS 2) (rS 4) (rS 5) rF) 3), .inl (cy 0, 29, .inl F_all)), (((rtP (rS 2) (rS 4) (rS 5) rF) 4), .inl (cy 0, 4, .inl F_reasons)), ((rG 11), .inl (cy 2, 5, .inl G_isFalse)), ((rG 12), .inl (cy 0, 4, .inl G_kind)), ((rE 0), .inl (cy 1, 100, .inl E_heardAt)), ((rE 1), .inl (cy 1, 3200, .inl E_nearest)), ((rE 3), .inl (cy 0, 4, .inl E_ofVoice)), ((rE 4), .inl (cy 0, 5, .inl E_alike)), ((rW 0), .inl (cy 0, 400, .inl W_next)), ((rW 1), .inl (cy 0, 500, .inl W_way)), ((rW 2), .inl (cy 0, 5, .inl W_goal)), (((rtP (rS 2) (rS 4) (rS 5) rQ) 3), .inl (cy 0, 100, .inl Q_cell)), (((rtP (rS 2) (rS 4) (rS 5) rQ) 4), .inl (cy 0, 100, .inl Q_heading))] → va_S A s.heap H locs → lv_has ls 4 [(0, .ref h0), (2, .int l2)] → W p l e R s m args below meth c H locs 0 0 QQ (F0 m 46 ls [])) → ∀ (nf24 : Nat) (sC : AR) (sQ : AR) (C_past : AR) (F_all : AR) (F_reasons : AR) (Q_cell : AR) (Q_heading : AR) (l3 : Int32) (H : Heap) (locs : List Loc) (ls : Array Slot), wpX10_ring_L24 sG G_isFalse G_kind E_heardAt E_nearest E_ofVoice E_alike W_next W_way W_goal l1 l2 kx46 post postX nf24 sC sQ C_past F_all F_reasons Q_cell Q_heading l3 → va_P D clsX [(h0, .inr (10, oX10 rS sS)), ((rS 8), .inr (0, oX0 rC sC)), ((rC 0), .inr (3, oX3 (rtP (rS 2) (rS 4) (rS 5) rF))), ((rS 2), .inr (4, oX4 rG sG)), ((rS 4), .inr (1, oX1 rE)), ((rS 5), .inr (2, oX2 rW)), ((rS 10), .inr (7, oX7 (rtP (rS 2) (rS 4) (rS 5) rQ) sQ)), ((rC 1), .inl (cy 0, 3400, .inl C_past)), (((rtP (rS 2) (rS 4) (rS 5) rF) 3), .inl (cy 0, 29, .inl F_all)), (((rtP (rS 2) (rS 4) (rS 5) rF) 4), .inl (cy 0, 4, .inl F_reasons)), ((rG 11), .inl (cy 2, 5, .inl G_isFalse)), ((rG 12), .inl (cy 0, 4, .inl G_kind)), ((rE 0), .inl (cy 1, 100, .inl E_heardAt)), ((rE 1), .inl (cy 1, 3200, .inl E_nearest)), ((rE 3), .inl (cy 0, 4, .inl E_ofVoice)), ((rE 4), .inl (cy 0, 5, .inl E_alike)), ((rW 0), .inl (cy 0, 400, .inl W_next)), ((rW 1), .inl (cy 0, 500, .inl W_way)), ((rW 2), .inl (cy 0, 5, .inl W_goal)), (((rtP (rS 2) (rS 4) (rS 5) rQ) 3), .inl (cy 0, 100, .inl Q_cell)), (((rtP (rS 2) (rS 4) (rS 5) rQ) 4), .inl (cy 0, 100, .inl Q_heading))] H → va_D A [(h0, .inr (10, oX10 rS sS)), ((rS 8), .inr (0, oX0 rC sC)), ((rC 0), .inr (3, oX3 (rtP (rS 2) (rS 4) (rS 5) rF))), ((rS 2), .inr (4, oX4 rG sG)), ((rS 4), .inr (1, oX1 rE)), ((rS 5), .inr (2, oX2 rW)), ((rS 10), .inr (7, oX7 (rtP (rS 2) (rS 4) (rS 5) rQ) sQ)), ((rC 1), .inl (cy 0, 3400, .inl C_past)), (((rtP (rS 2) (rS 4) (rS 5) rF) 3), .inl (cy 0, 29, .inl F_all)), (((rtP (rS 2) (rS 4) (rS 5) rF) 4), .inl (cy 0, 4, .inl F_reasons)), ((rG 11), .inl (cy 2, 5, .inl G_isFalse)), ((rG 12), .inl (cy 0, 4, .inl G_kind)), ((rE 0), .inl (cy 1, 100, .inl E_heardAt)), ((rE 1), .inl (cy 1, 3200, .inl E_nearest)), ((rE 3), .inl (cy 0, 4, .inl E_ofVoice)), ((rE 4), .inl (cy 0, 5, .inl E_alike)), ((rW 0), .inl (cy 0, 400, .inl W_next)), ((rW 1), .inl (cy 0, 500, .inl W_way)), ((rW 2), .inl (cy 0, 5, .inl W_goal)), (((rtP (rS 2) (rS 4) (rS 5) rQ) 3), .inl (cy 0, 100, .inl Q_cell)), (((rtP (rS 2) (rS 4) (rS 5) rQ) 4), .inl (cy 0, 100, .inl Q_heading))] → va_S A s.heap H locs → lv_has ls 4 [(0, .ref h0), (1, .int l1), (2, .int l2), (3, .int l3)] → W p l e R s m args below meth c H locs 0 0 QQ (F0 m 24 ls []) := by
    intro l1 l2 kx46 hk24_46 nf24
    induction nf24 with
    | zero =>
      intro sC sQ C_past F_all F_reasons Q_cell Q_heading l3 H locs ls h
      exact (show False from h).elim
    | succ nf24 ih24 =>
      intro sC sQ C_past F_all F_reasons Q_cell Q_heading l3 H locs ls h hP hD hS hl
      refine lv_iload_n hx hb dX10_ring_24 rfl (lv_at hl 3 rfl) ?_
      refine lv_iload_n hx hb dX10_ring_25 rfl (lv_at hl 2 rfl) ?_
      refine lv_icmp_ge (tgt := 46) hx hb dX10_ring_26 (by decide) (fun c26 => ?_) (fun c26 => ?_)
      · have h := h.1 c26
        exact hk24_46 sC sQ C_past F_all F_reasons Q_cell Q_heading l3 _ _ _ h hP hD hS (lv_sub hl [0, 2] rfl)
      · have h := h.2 c26
        refine lv_aload_n hx hb dX10_ring_29 rfl (lv_at hl 0 rfl) ?_
        refine lv_iload_n hx hb dX10_ring_30 rfl (lv_at hl 1 rfl) ?_
        refine clVi (As := [.int l1]) (rest := []) (Wr := []) (cq := (RX10, TX10, 18)) ⟨hx, hb, hml, hown, hts⟩ ⟨callB_of 1 hts (goodC mw526) rfl rfl rfl (hts _ (tb mw1)) (hts _ (tb mw523)) kdX10_strike ⟨Nat.le_trans (by decide) hRf, Nat.le_trans (by decide) hRl⟩, hts _ (tb mw525), hts _ (tb ms4)⟩ (ctX10_strike l D cy ev h0 rS rC (rtP (rS 2) (rS 4) (rS 5) rF) rG rE rW (rtP (rS 2) (rS 4) (rS 5) rQ) sS sC sG sQ C_past F_all F_reasons G_isFalse G_kind E_heardAt E_nearest E_ofVoice E_alike W_next W_way W_goal Q_cell Q_heading l1 _ _ h) hE hK hP hD hS hA [0, 1, 2, 3, 4, 5, 6, 7, 8, 9, 10, 11, 12, 13, 14, 15, 16, 17, 18, 19, 20] [] rfl rfl (by decide) (by decide) (by decide) 0 rfl rfl rfl hl.1 rfl (Nat.le_of_ble_eq_true rfl) ⟨Nat.zero_le _, Nat.zero_le _⟩ dX10_ring_31 (fun r31 u H locs h hP hD hS => ?_)
        obtain ⟨sC_31, sQ_31, C_past_31, F_all_31, F_reasons_31, Q_cell_31, Q_heading_31⟩ := u
        have hP : va_P D clsX [(h0, .inr (10, oX10 rS sS)), ((rS 8), .inr (0, oX0 rC sC_31)), ((rC 0), .inr (3, oX3 (rtP (rS 2) (rS 4) (rS 5) rF))), ((rS 2), .inr (4, oX4 rG sG)), ((rS 4), .inr (1, oX1 rE)), ((rS 5), .inr (2, oX2 rW)), ((rS 10), .inr (7, oX7 (rtP (rS 2) (rS 4) (rS 5) rQ) sQ_31)), ((rC 1), .inl (cy 0, 3400, .inl C_past_31)), (((rtP (rS 2) (rS 4) (rS 5) rF) 3), .inl (cy 0, 29, .inl F_all_31)), (((rtP (rS 2) (rS 4) (rS 5) rF) 4), .inl (cy 0, 4, .inl F_reasons_31)), ((rG 11), .inl (cy 2, 5, .inl G_isFalse)), ((rG 12), .inl (cy 0, 4, .inl G_kind)), ((rE 0), .inl (cy 1, 100, .inl E_heardAt)), ((rE 1), .inl (cy 1, 3200, .inl E_nearest)), ((rE 3), .inl (cy 0, 4, .inl E_ofVoice)), ((rE 4), .inl (cy 0, 5, .inl E_alike)), ((rW 0), .inl (cy 0, 400, .inl W_next)), ((rW 1), .inl (cy 0, 500, .inl W_way)), ((rW 2), .inl (cy 0, 5, .inl W_goal)), (((rtP (rS 2) (rS 4) (rS 5) rQ) 3), .inl (cy 0, 100, .inl Q_cell_31)), (((rtP (rS 2) (rS 4) (rS 5) rQ) 4), .inl (cy 0, 100, .inl Q_heading_31))] H := hP
        have hD : va_D A [(h0, .inr (10, oX10 rS sS)), ((rS 8), .inr (0, oX0 rC sC_31)), ((rC 0), .inr (3, oX3 (rtP (rS 2) (rS 4) (rS 5) rF))), ((rS 2), .inr (4, oX4 rG sG)), ((rS 4), .inr (1, oX1 rE)), ((rS 5), .inr (2, oX2 rW)), ((rS 10), .inr (7, oX7 (rtP (rS 2) (rS 4) (rS 5) rQ) sQ_31)), ((rC 1), .inl (cy 0, 3400, .inl C_past_31)), (((rtP (rS 2) (rS 4) (rS 5) rF) 3), .inl (cy 0, 29, .inl F_all_31)), (((rtP (rS 2) (rS 4) (rS 5) rF) 4), .inl (cy 0, 4, .inl F_reasons_31)), ((rG 11), .inl (cy 2, 5, .inl G_isFalse)), ((rG 12), .inl (cy 0, 4, .inl G_kind)), ((rE 0), .inl (cy 1, 100, .inl E_heardAt)), ((rE 1), .inl (cy 1, 3200, .inl E_nearest)), ((rE 3), .inl (cy 0, 4, .inl E_ofVoice)), ((rE 4), .inl (cy 0, 5, .inl E_alike)), ((rW 0), .inl (cy 0, 400, .inl W_next)), ((rW 1), .inl (cy 0, 500, .inl W_way)), ((rW 2), .inl (cy 0, 5, .inl W_goal)), (((rtP (rS 2) (rS 4) (rS 5) rQ) 3), .inl (cy 0, 100, .inl Q_cell_31)), (((rtP (rS 2) (rS 4) (rS 5) rQ) 4), .inl (cy 0, 100, .inl Q_heading_31))] := hD
        refine lv_iconst (v := (-1 : Int32)) hx hb dX10_ring_34 (by decide) ?_
        refine lv_icmp_ne (tgt := 40) hx hb dX10_ring_35 (by decide) (fun c35 => ?_) (fun c35 => ?_)
        · have h := h.1 c35
          obtain ⟨l3_40, el3_40⟩ : ∃ y : Int32, y = l3 + (1 : Int32) := ⟨_, rfl⟩
          have h := h l3_40 el3_40
          refine lv_iinc (v := l3_40) (lv' := [(3, .int l3_40), (0, .ref h0), (1, .int l1), (2, .int l2)]) hx hb dX10_ring_40 hl (k := 3) rfl (by rw [el3_40]; rfl) (by decide) rfl (fun ls hl => ?_)
          refine lv_goto (tgt := 24) hx hb dX10_ring_43 (by decide) ?_
          exact ih24 sC_31 sQ_31 C_past_31 F_all_31 F_reasons_31 Q_cell_31 Q_heading_31 l3_40 _ _ _ h hP hD hS (lv_sub hl [1, 2, 3, 0] rfl)
        · have h := h.2 c35
          refine lv_iload_n hx hb dX10_ring_38 rfl (lv_at hl 3 rfl) ?_
          refine W.widen (k := 1) (n := 6) (by decide) (by decide) ?_
          exact hret l3 (sC_31, sQ_31, C_past_31, F_all_31, F_reasons_31, Q_cell_31, Q_heading_31) _ _ _ _ rfl dX10_ring_39 h hP hD hS
  refine lv_iload_n hx hb dX10_ring_0 rfl (lv_at hl 2 rfl) ?_
  refine lv_if_lt (tgt := 11) hx hb dX10_ring_1 (by decide) (fun c1 => ?_) (fun c1 => ?_)
  · have h := h.1 c1
    exact J11  _ _ _ h hP hD hS (lv_sub hl [0] rfl)
  · have h := h.2 c1
    refine lv_iload_n hx hb dX10_ring_4 rfl (lv_at hl 2 rfl) ?_
    refine lv_sipush (v := (200 : Int32)) hx hb dX10_ring_5 (by decide) ?_
    refine lv_icmp_le (tgt := 22) hx hb dX10_ring_8 (by decide) (fun c8 => ?_) (fun c8 => ?_)
    · have h := h.1 c8
      refine lv_iconst (v := (0 : Int32)) hx hb dX10_ring_22 (by decide) ?_
      refine lv_istore_n (lv' := [(3, .int (0 : Int32)), (0, .ref h0), (1, .int x1), (2, .int x2)]) hx hb dX10_ring_23 rfl hl (by decide) rfl (fun ls hl => ?_)
      obtain ⟨nf24, h⟩ := h
      refine L24 x1 x2 _ (fun sC_46 sQ_46 C_past_46 F_all_46 F_reasons_46 Q_cell_46 Q_heading_46 l3_46 H locs ls h hP hD hS hl => ?_) nf24 sC sQ C_past F_all F_reasons Q_cell Q_heading (0 : Int32) _ _ _ h hP hD hS (lv_sub hl [1, 2, 3, 0] rfl)
      refine lv_iload_n hx hb dX10_ring_46 rfl (lv_at hl 1 rfl) ?_
      refine W.widen (k := 1) (n := 6) (by decide) (by decide) ?_
      exact hret x2 (sC_46, sQ_46, C_past_46, F_all_46, F_reasons_46, Q_cell_46, Q_heading_46) _ _ _ _ rfl dX10_ring_47 h hP hD hS
    · have h := h.2 c8
      exact J11  _ _ _ h hP hD hS (lv_sub hl [0] rfl)
def wpX10_why_J20 (sG : AR) (sC : AR) (C_past : AR) (post : Int32 → Prop) (postX : String → Prop) : Prop := postX exN
def wpX10_why (sG : AR) (sC : AR) (C_past : AR) (x1 : Int32) (x2 : Int32) (post : Int32 → Prop) (postX : String → Prop) : Prop := wpX10_needWalker sG x1 (((x2 < 0 → wpX10_why_J20 sG sC C_past post postX) ∧ (¬ x2 < 0 → ((x2 < (sC 3) → wpX0_reason sC C_past x1 x2 (fun r37 => post r37)) ∧ (¬ x2 < (sC 3) → wpX10_why_J20 sG sC C_past post postX))))) postX
set_option maxHeartbeats 4000000 in
set_option maxRecDepth 100000 in
theorem ctX10_why (l : Launch) (D : va_G) (cy : Nat → ClassId) (ev : Nat → Nat) (hst : l.stackTraces = false) (h0 : Nat) (rS : Nat → Nat) (rG : Nat → Nat) (rC : Nat → Nat) (sS : AR) (sG : AR) (sC : AR) (C_past : AR) (x1 : Int32) (x2 : Int32) (sz : Nat) (post : Int32 → Prop) (postX : String → Prop) (h : wpX10_why sG sC C_past x1 x2 post postX) : vx_Met l yX10_why (Cond.code yX10_why cX10_why 3 (some .int) :: TB) ({ frames := 7, cells := 2, slots := 12, locals := 121 }) (va_Pc [.ref h0, .int x1, .int x2] (PreT D cy ev [(h0, .inr (10, oX10 rS sS)), ((rS 2), .inr (4, oX4 rG sG)), ((rS 8), .inr (0, oX0 rC sC)), ((rC 1), .inl (cy 0, 3400, .inl C_past))] sz)) (va_Qi (fun (r : Int32) (u : Unit) => post r) (fun u => BkX D cy [(h0, .inr (10, oX10 rS sS)), ((rS 2), .inr (4, oX4 rG sG)), ((rS 8), .inr (0, oX0 rC sC)), ((rC 1), .inl (cy 0, 3400, .inl C_past))] sz [(h0, .inr (10, oX10 rS sS)), ((rS 2), .inr (4, oX4 rG sG)), ((rS 8), .inr (0, oX0 rC sC)), ((rC 1), .inl (cy 0, 3400, .inl C_past))]) (va_A [(h0, .inr (10, oX10 rS sS)), ((rS 2), .inr (4, oX4 rG sG)), ((rS 8), .inr (0, oX0 rC sC)), ((rC 1), .inl (cy 0, 3400, .inl C_past))] sz)) (XcX D cy [(h0, .inr (10, oX10 rS sS)), ((rS 2), .inr (4, oX4 rG sG)), ((rS 8), .inr (0, oX0 rC sC)), ((rC 1), .inl (cy 0, 3400, .inl C_past))] sz postX) 2 12 (va_A [(h0, .inr (10, oX10 rS sS)), ((rS 2), .inr (4, oX4 rG sG)), ((rS 8), .inr (0, oX0 rC sC)), ((rC 1), .inl (cy 0, 3400, .inl C_past))] sz) := by
  refine ofXi hst (by decide) rfl (Nat.le_of_ble_eq_true rfl) ⟨by decide, by decide, by decide, by decide⟩ ?_
  intro p e s m args below meth c ls A R QQ hx hb hml hown hts hR hlk hE hT hK hP hD hS hA hl hthr hnN hnNW hnI hnIW hret
  have hRc : 2 ≤ R.cells := by rw [hR]; exact Nat.le_refl _
  have hRs : 12 ≤ R.slots := by rw [hR]; exact Nat.le_refl _
  have hown : s.vm.findClass RX10 = some m.cls := hown
  have hRf : 7 ≤ R.frames := by rw [hR]; exact Nat.le_refl _
  have hRl : 121 ≤ R.locals := by rw [hR]; exact Nat.le_refl _
  clear hR
  have hl : lv_has ls 3 [(0, .ref h0), (1, .int x1), (2, .int x2)] := hl
  have J20 : ∀ (H : Heap) (locs : List Loc) (ls : Array Slot), wpX10_why_J20 sG sC C_past post postX → va_P D clsX [(h0, .inr (10, oX10 rS sS)), ((rS 2), .inr (4, oX4 rG sG)), ((rS 8), .inr (0, oX0 rC sC)), ((rC 1), .inl (cy 0, 3400, .inl C_past))] H → va_D A [(h0, .inr (10, oX10 rS sS)), ((rS 2), .inr (4, oX4 rG sG)), ((rS 8), .inr (0, oX0 rC sC)), ((rC 1), .inl (cy 0, 3400, .inl C_past))] → va_S A s.heap H locs → lv_has ls 3 [(0, .ref h0)] → W p l e R s m args below meth c H locs 1 6 QQ (F0 m 20 ls []) := by
    intro  H locs ls h hP hD hS hl
    exact hnNW _ _ _ _ _ _ _ _ _ _ (hE.1 26 (by decide)).1 h hP hD hS hl.1 (by decide) (by decide) (Nat.le_of_ble_eq_true rfl) dX10_why_20 dX10_why_23 dX10_why_24 dX10_why_27 dX10_why_30
  refine lv_aload_n hx hb dX10_why_0 rfl (lv_at hl 0 rfl) ?_
  refine lv_iload_n hx hb dX10_why_1 rfl (lv_at hl 1 rfl) ?_
  refine clXv (As := [.int x1]) (rest := []) (Wr := [((rS 8), .inr (0, oX0 rC sC)), ((rC 1), .inl (cy 0, 3400, .inl C_past))]) (cq := (RX10, TX10, 18)) ⟨hx, hb, hml, hown, hts⟩ ⟨callB_of 1 hts (goodC mw976) rfl rfl rfl (hts _ (tb mw1)) (hts _ (tb mw973)) kdX10_needWalker ⟨Nat.le_trans (by decide) hRf, Nat.le_trans (by decide) hRl⟩, hts _ (tb mw975), hts _ (tb ms29)⟩ (ctX10_needWalker l D cy ev hst h0 rS rG sS sG x1 _ _ _ h) hE hT hK hP hD hS hA [0, 1] [2, 3] rfl rfl (by decide) (by decide) (by decide) 0 rfl rfl rfl hl.1 rfl (Nat.le_of_ble_eq_true rfl) ⟨Nat.le_trans (by decide) hRc, Nat.le_trans (by decide) hRs⟩ dX10_why_2 (fun E ce q H locs h hP hD hS g1 g2 g3 => vx_widen (by decide) (by decide) (hthr E ce q _ _ _ _ _ h (hP.sub [2, 3, 0, 1] rfl) (hD.sub [2, 3, 0, 1] (by decide) rfl) hS g1 g2 g3)) (fun u H locs h hP hD hS => ?_)
  have hP : va_P D clsX [((rS 8), .inr (0, oX0 rC sC)), ((rC 1), .inl (cy 0, 3400, .inl C_past)), (h0, .inr (10, oX10 rS sS)), ((rS 2), .inr (4, oX4 rG sG))] H := hP
  have hD : va_D A [((rS 8), .inr (0, oX0 rC sC)), ((rC 1), .inl (cy 0, 3400, .inl C_past)), (h0, .inr (10, oX10 rS sS)), ((rS 2), .inr (4, oX4 rG sG))] := hD
  refine lv_iload_n hx hb dX10_why_5 rfl (lv_at hl 2 rfl) ?_
  refine lv_if_lt (tgt := 20) hx hb dX10_why_6 (by decide) (fun c6 => ?_) (fun c6 => ?_)
  · have h := h.1 c6
    exact J20  _ _ _ h (hP.sub [2, 3, 0, 1] rfl) (hD.sub [2, 3, 0, 1] (by decide) rfl) hS (lv_sub hl [0] rfl)
  · have h := h.2 c6
    refine lv_iload_n hx hb dX10_why_9 rfl (lv_at hl 2 rfl) ?_
    refine lv_aload_n hx hb dX10_why_10 rfl (lv_at hl 0 rfl) ?_
    refine gfX10_67 hx hb hts hown hK hP 2 rfl dX10_why_11 ?_
    refine gfX10_200 (v := (sC 3)) hx hb hts hown hK hP 0 rfl rfl dX10_why_14 ?_
    refine lv_icmp_lt (tgt := 31) hx hb dX10_why_17 (by decide) (fun c17 => ?_) (fun c17 => ?_)
    · have h := h.1 c17
      refine lv_aload_n hx hb dX10_why_31 rfl (lv_at hl 0 rfl) ?_
      refine gfX10_67 hx hb hts hown hK hP 2 rfl dX10_why_32 ?_
      refine lv_iload_n hx hb dX10_why_35 rfl (lv_at hl 1 rfl) ?_
      refine lv_iload_n hx hb dX10_why_36 rfl (lv_at hl 2 rfl) ?_
      refine clVi (As := [.int x1, .int x2]) (rest := []) (Wr := [(h0, .inr (10, oX10 rS sS)), ((rS 2), .inr (4, oX4 rG sG))]) (cq := (RX0, TX0, 7)) ⟨hx, hb, hml, hown, hts⟩ ⟨callB_of 2 hts (goodC mw1020) rfl rfl rfl (hts _ (tb mw8)) (hts _ (tb mw1017)) kdX0_reason ⟨Nat.le_trans (by decide) hRf, Nat.le_trans (by decide) hRl⟩, hts _ (tb mw1018), hts _ (tb mw1019)⟩ (ctX0_reason l D cy ev (rS 8) rC sC C_past x1 x2 _ _ h) hE hK hP hD hS hA [0, 1] [2, 3] rfl rfl (by decide) (by decide) (by decide) 0 rfl rfl rfl hl.1 rfl (Nat.le_of_ble_eq_true rfl) ⟨Nat.le_trans (by decide) hRc, Nat.le_trans (by decide) hRs⟩ dX10_why_37 (fun r37 u H locs h hP hD hS => ?_)
      have hP : va_P D clsX [(h0, .inr (10, oX10 rS sS)), ((rS 2), .inr (4, oX4 rG sG)), ((rS 8), .inr (0, oX0 rC sC)), ((rC 1), .inl (cy 0, 3400, .inl C_past))] H := hP
      have hD : va_D A [(h0, .inr (10, oX10 rS sS)), ((rS 2), .inr (4, oX4 rG sG)), ((rS 8), .inr (0, oX0 rC sC)), ((rC 1), .inl (cy 0, 3400, .inl C_past))] := hD
      refine W.widen (k := 2) (n := 12) (by decide) (by decide) ?_
      exact hret r37 () _ _ _ _ rfl dX10_why_40 h hP hD hS
    · have h := h.2 c17
      exact J20  _ _ _ h (hP.sub [2, 3, 0, 1] rfl) (hD.sub [2, 3, 0, 1] (by decide) rfl) hS (lv_sub hl [0] rfl)
def wpX10_seen_J29 (sG : AR) (sQ : AR) (Q_cell : AR) (Q_heading : AR) (post : Int32 → AR → AR → AR → Prop) (postX : String → Prop) : Prop := postX exN
def wpX10_seen_J26 (sG : AR) (sQ : AR) (Q_cell : AR) (Q_heading : AR) (l1 : Int32) (l2 : Int32) (l3 : Int32) (t0 : Int32) (t1 : Int32) (post : Int32 → AR → AR → AR → Prop) (postX : String → Prop) : Prop := ((t0 < t1 → ((¬ (sQ 5) = 0 → wpX7_keepThose sQ sG Q_cell Q_heading l1 l2 l3 (fun sQ_59 Q_cell_59 Q_heading_59 => post (sQ_59 6) sQ_59 Q_cell_59 Q_heading_59)) ∧ ((sQ 5) = 0 → post (-1 : Int32) sQ Q_cell Q_heading))) ∧ (¬ t0 < t1 → wpX10_seen_J29 sG sQ Q_cell Q_heading post postX))
def wpX10_seen (sG : AR) (sQ : AR) (Q_cell : AR) (Q_heading : AR) (x1 : Int32) (x2 : Int32) (x3 : Int32) (post : Int32 → AR → AR → AR → Prop) (postX : String → Prop) : Prop := ((x1 < 0 → wpX10_seen_J29 sG sQ Q_cell Q_heading post postX) ∧ (¬ x1 < 0 → ((x2 = 0 → wpX10_seen_J26 sG sQ Q_cell Q_heading x1 x2 x3 x1 (sG 0) post postX) ∧ (¬ x2 = 0 → wpX10_seen_J26 sG sQ Q_cell Q_heading x1 x2 x3 x1 (sG 1) post postX))))
set_option maxHeartbeats 4000000 in
set_option maxRecDepth 100000 in
theorem ctX10_seen (l : Launch) (D : va_G) (cy : Nat → ClassId) (ev : Nat → Nat) (hst : l.stackTraces = false) (h0 : Nat) (rS : Nat → Nat) (rG : Nat → Nat) (rQ : Nat → Nat) (sS : AR) (sG : AR) (sQ : AR) (Q_cell : AR) (Q_heading : AR) (x1 : Int32) (x2 : Int32) (x3 : Int32) (sz : Nat) (post : Int32 → AR → AR → AR → Prop) (postX : String → Prop) (h : wpX10_seen sG sQ Q_cell Q_heading x1 x2 x3 post postX) : vx_Met l yX10_seen (Cond.code yX10_seen cX10_seen 4 (some .int) :: TB) ({ frames := 6, cells := 1, slots := 6, locals := 100 }) (va_Pc [.ref h0, .int x1, .int x2, .int x3] (PreT D cy ev [(h0, .inr (10, oX10 rS sS)), ((rS 2), .inr (4, oX4 rG sG)), ((rS 10), .inr (7, oX7 (rtP (rS 2) (rS 4) (rS 5) rQ) sQ)), (((rtP (rS 2) (rS 4) (rS 5) rQ) 3), .inl (cy 0, 100, .inl Q_cell)), (((rtP (rS 2) (rS 4) (rS 5) rQ) 4), .inl (cy 0, 100, .inl Q_heading))] sz)) (va_Qi (fun (r : Int32) (u : AR × AR × AR) => post r (u.1) (u.2.1) (u.2.2)) (fun u => BkX D cy [(h0, .inr (10, oX10 rS sS)), ((rS 2), .inr (4, oX4 rG sG)), ((rS 10), .inr (7, oX7 (rtP (rS 2) (rS 4) (rS 5) rQ) sQ)), (((rtP (rS 2) (rS 4) (rS 5) rQ) 3), .inl (cy 0, 100, .inl Q_cell)), (((rtP (rS 2) (rS 4) (rS 5) rQ) 4), .inl (cy 0, 100, .inl Q_heading))] sz [(h0, .inr (10, oX10 rS sS)), ((rS 2), .inr (4, oX4 rG sG)), ((rS 10), .inr (7, oX7 (rtP (rS 2) (rS 4) (rS 5) rQ) (u.1))), (((rtP (rS 2) (rS 4) (rS 5) rQ) 3), .inl (cy 0, 100, .inl (u.2.1))), (((rtP (rS 2) (rS 4) (rS 5) rQ) 4), .inl (cy 0, 100, .inl (u.2.2)))]) (va_A [(h0, .inr (10, oX10 rS sS)), ((rS 2), .inr (4, oX4 rG sG)), ((rS 10), .inr (7, oX7 (rtP (rS 2) (rS 4) (rS 5) rQ) sQ)), (((rtP (rS 2) (rS 4) (rS 5) rQ) 3), .inl (cy 0, 100, .inl Q_cell)), (((rtP (rS 2) (rS 4) (rS 5) rQ) 4), .inl (cy 0, 100, .inl Q_heading))] sz)) (XcX D cy [(h0, .inr (10, oX10 rS sS)), ((rS 2), .inr (4, oX4 rG sG)), ((rS 10), .inr (7, oX7 (rtP (rS 2) (rS 4) (rS 5) rQ) sQ)), (((rtP (rS 2) (rS 4) (rS 5) rQ) 3), .inl (cy 0, 100, .inl Q_cell)), (((rtP (rS 2) (rS 4) (rS 5) rQ) 4), .inl (cy 0, 100, .inl Q_heading))] sz postX) 1 6 (va_A [(h0, .inr (10, oX10 rS sS)), ((rS 2), .inr (4, oX4 rG sG)), ((rS 10), .inr (7, oX7 (rtP (rS 2) (rS 4) (rS 5) rQ) sQ)), (((rtP (rS 2) (rS 4) (rS 5) rQ) 3), .inl (cy 0, 100, .inl Q_cell)), (((rtP (rS 2) (rS 4) (rS 5) rQ) 4), .inl (cy 0, 100, .inl Q_heading))] sz) := by
  refine ofXi hst (by decide) rfl (Nat.le_of_ble_eq_true rfl) ⟨by decide, by decide, by decide, by decide⟩ ?_
  intro p e s m args below meth c ls A R QQ hx hb hml hown hts hR hlk hE hT hK hP hD hS hA hl hthr hnN hnNW hnI hnIW hret
  have hRc : 1 ≤ R.cells := by rw [hR]; exact Nat.le_refl _
  have hRs : 6 ≤ R.slots := by rw [hR]; exact Nat.le_refl _
  have hown : s.vm.findClass RX10 = some m.cls := hown
  have hRf : 6 ≤ R.frames := by rw [hR]; exact Nat.le_refl _
  have hRl : 100 ≤ R.locals := by rw [hR]; exact Nat.le_refl _
  clear hR
  have hl : lv_has ls 4 [(0, .ref h0), (1, .int x1), (2, .int x2), (3, .int x3)] := hl
  have J29 : ∀ (H : Heap) (locs : List Loc) (ls : Array Slot), wpX10_seen_J29 sG sQ Q_cell Q_heading post postX → va_P D clsX [(h0, .inr (10, oX10 rS sS)), ((rS 2), .inr (4, oX4 rG sG)), ((rS 10), .inr (7, oX7 (rtP (rS 2) (rS 4) (rS 5) rQ) sQ)), (((rtP (rS 2) (rS 4) (rS 5) rQ) 3), .inl (cy 0, 100, .inl Q_cell)), (((rtP (rS 2) (rS 4) (rS 5) rQ) 4), .inl (cy 0, 100, .inl Q_heading))] H → va_D A [(h0, .inr (10, oX10 rS sS)), ((rS 2), .inr (4, oX4 rG sG)), ((rS 10), .inr (7, oX7 (rtP (rS 2) (rS 4) (rS 5) rQ) sQ)), (((rtP (rS 2) (rS 4) (rS 5) rQ) 3), .inl (cy 0, 100, .inl Q_cell)), (((rtP (rS 2) (rS 4) (rS 5) rQ) 4), .inl (cy 0, 100, .inl Q_heading))] → va_S A s.heap H locs → lv_has ls 4 [(0, .ref h0)] → W p l e R s m args below meth c H locs 0 0 QQ (F0 m 29 ls []) := by
    intro  H locs ls h hP hD hS hl
    exact hnNW _ _ _ _ _ _ _ _ _ _ (hE.1 27 (by decide)).1 h hP hD hS hl.1 (by decide) (by decide) (Nat.le_of_ble_eq_true rfl) dX10_seen_29 dX10_seen_32 dX10_seen_33 dX10_seen_36 dX10_seen_39
  have J26 : ∀ (l1 : Int32) (l2 : Int32) (l3 : Int32) (t0 : Int32) (t1 : Int32) (H : Heap) (locs : List Loc) (ls : Array Slot), wpX10_seen_J26 sG sQ Q_cell Q_heading l1 l2 l3 t0 t1 post postX → va_P D clsX [(h0, .inr (10, oX10 rS sS)), ((rS 2), .inr (4, oX4 rG sG)), ((rS 10), .inr (7, oX7 (rtP (rS 2) (rS 4) (rS 5) rQ) sQ)), (((rtP (rS 2) (rS 4) (rS 5) rQ) 3), .inl (cy 0, 100, .inl Q_cell)), (((rtP (rS 2) (rS 4) (rS 5) rQ) 4), .inl (cy 0, 100, .inl Q_heading))] H → va_D A [(h0, .inr (10, oX10 rS sS)), ((rS 2), .inr (4, oX4 rG sG)), ((rS 10), .inr (7, oX7 (rtP (rS 2) (rS 4) (rS 5) rQ) sQ)), (((rtP (rS 2) (rS 4) (rS 5) rQ) 3), .inl (cy 0, 100, .inl Q_cell)), (((rtP (rS 2) (rS 4) (rS 5) rQ) 4), .inl (cy 0, 100, .inl Q_heading))] → va_S A s.heap H locs → lv_has ls 4 [(0, .ref h0), (1, .int l1), (2, .int l2), (3, .int l3)] → W p l e R s m args below meth c H locs 0 0 QQ (F0 m 26 ls [.int t1, .int t0]) := by
    intro l1 l2 l3 t0 t1 H locs ls h hP hD hS hl
    refine lv_icmp_lt (tgt := 40) hx hb dX10_seen_26 (by decide) (fun c26 => ?_) (fun c26 => ?_)
    · have h := h.1 c26
      refine lv_aload_n hx hb dX10_seen_40 rfl (lv_at hl 0 rfl) ?_
      refine gfX10_77 hx hb hts hown hK hP 0 rfl dX10_seen_41 ?_
      refine gfX10_119 (v := (sQ 5)) hx hb hts hown hK hP 2 rfl rfl dX10_seen_44 ?_
      refine lv_if_ne (tgt := 52) hx hb dX10_seen_47 (by decide) (fun c47 => ?_) (fun c47 => ?_)
      · have h := h.1 c47
        refine lv_aload_n hx hb dX10_seen_52 rfl (lv_at hl 0 rfl) ?_
        refine gfX10_77 hx hb hts hown hK hP 0 rfl dX10_seen_53 ?_
        refine lv_iload_n hx hb dX10_seen_56 rfl (lv_at hl 1 rfl) ?_
        refine lv_iload_n hx hb dX10_seen_57 rfl (lv_at hl 2 rfl) ?_
        refine lv_iload_n hx hb dX10_seen_58 rfl (lv_at hl 3 rfl) ?_
        refine clVv (As := [.int l1, .int l2, .int l3]) (rest := []) (Wr := [(h0, .inr (10, oX10 rS sS))]) (cq := (RX7, TX7, 7)) ⟨hx, hb, hml, hown, hts⟩ ⟨callB_of 3 hts (goodC mw1032) rfl rfl rfl (hts _ (tb mw10)) (hts _ (tb mw1029)) kdX7_keepThose ⟨Nat.le_trans (by decide) hRf, Nat.le_trans (by decide) hRl⟩, hts _ (tb mw1030), hts _ (tb mw1031)⟩ (ctX7_keepThose l D cy ev (rS 10) (rtP (rS 2) (rS 4) (rS 5) rQ) rG sQ sG Q_cell Q_heading l1 l2 l3 _ _ h) hE hK hP hD hS hA [2, 1, 3, 4] [0] rfl rfl (by decide) (by decide) (by decide) 0 rfl rfl rfl hl.1 rfl (Nat.le_of_ble_eq_true rfl) ⟨Nat.zero_le _, Nat.zero_le _⟩ dX10_seen_59 (fun u H locs h hP hD hS => ?_)
        obtain ⟨sQ_59, Q_cell_59, Q_heading_59⟩ := u
        have hP : va_P D clsX [(h0, .inr (10, oX10 rS sS)), ((rS 10), .inr (7, oX7 (rtP (rS 2) (rS 4) (rS 5) rQ) sQ_59)), ((rS 2), .inr (4, oX4 rG sG)), (((rtP (rS 2) (rS 4) (rS 5) rQ) 3), .inl (cy 0, 100, .inl Q_cell_59)), (((rtP (rS 2) (rS 4) (rS 5) rQ) 4), .inl (cy 0, 100, .inl Q_heading_59))] H := hP
        have hD : va_D A [(h0, .inr (10, oX10 rS sS)), ((rS 10), .inr (7, oX7 (rtP (rS 2) (rS 4) (rS 5) rQ) sQ_59)), ((rS 2), .inr (4, oX4 rG sG)), (((rtP (rS 2) (rS 4) (rS 5) rQ) 3), .inl (cy 0, 100, .inl Q_cell_59)), (((rtP (rS 2) (rS 4) (rS 5) rQ) 4), .inl (cy 0, 100, .inl Q_heading_59))] := hD
        refine lv_aload_n hx hb dX10_seen_62 rfl (lv_at hl 0 rfl) ?_
        refine gfX10_77 hx hb hts hown hK hP 0 rfl dX10_seen_63 ?_
        refine gfX10_299 (v := (sQ_59 6)) hx hb hts hown hK hP 1 rfl rfl dX10_seen_66 ?_
        refine W.widen (k := 1) (n := 6) (by decide) (by decide) ?_
        exact hret (sQ_59 6) (sQ_59, Q_cell_59, Q_heading_59) _ _ _ _ rfl dX10_seen_69 h (hP.sub [0, 2, 1, 3, 4] rfl) (hD.sub [0, 2, 1, 3, 4] (by decide) rfl) hS
      · have h := h.2 c47
        refine lv_iconst (v := (-1 : Int32)) hx hb dX10_seen_50 (by decide) ?_
        refine W.widen (k := 1) (n := 6) (by decide) (by decide) ?_
        exact hret (-1 : Int32) (sQ, Q_cell, Q_heading) _ _ _ _ rfl dX10_seen_51 h hP hD hS
    · have h := h.2 c26
      exact J29  _ _ _ h hP hD hS (lv_sub hl [0] rfl)
  refine lv_iload_n hx hb dX10_seen_0 rfl (lv_at hl 1 rfl) ?_
  refine lv_if_lt (tgt := 29) hx hb dX10_seen_1 (by decide) (fun c1 => ?_) (fun c1 => ?_)
  · have h := h.1 c1
    exact J29  _ _ _ h hP hD hS (lv_sub hl [0] rfl)
  · have h := h.2 c1
    refine lv_iload_n hx hb dX10_seen_4 rfl (lv_at hl 1 rfl) ?_
    refine lv_iload_n hx hb dX10_seen_5 rfl (lv_at hl 2 rfl) ?_
    refine lv_if_eq (tgt := 19) hx hb dX10_seen_6 (by decide) (fun c6 => ?_) (fun c6 => ?_)
    · have h := h.1 c6
      refine lv_aload_n hx hb dX10_seen_19 rfl (lv_at hl 0 rfl) ?_
      refine gfX10_23 hx hb hts hown hK hP 0 rfl dX10_seen_20 ?_
      refine gfX10_182 (v := (sG 0)) hx hb hts hown hK hP 1 rfl rfl dX10_seen_23 ?_
      exact J26 x1 x2 x3 x1 (sG 0) _ _ _ h hP hD hS hl
    · have h := h.2 c6
      refine lv_aload_n hx hb dX10_seen_9 rfl (lv_at hl 0 rfl) ?_
      refine gfX10_23 hx hb hts hown hK hP 0 rfl dX10_seen_10 ?_
      refine gfX10_185 (v := (sG 1)) hx hb hts hown hK hP 1 rfl rfl dX10_seen_13 ?_
      refine lv_goto (tgt := 26) hx hb dX10_seen_16 (by decide) ?_
      exact J26 x1 x2 x3 x1 (sG 1) _ _ _ h hP hD hS hl
def wpX10_cases_J10 (sG : AR) (sQ : AR) (Q_cell : AR) (l1 : Int32) (post : Int32 → Prop) (postX : String → Prop) : Prop := ((¬ (sQ 5) = 0 → ((¬ l1 = (-1 : Int32) → wpX7_howManyIn sQ Q_cell l1 (fun r42 => post r42)) ∧ (l1 = (-1 : Int32) → post (sQ 6)))) ∧ ((sQ 5) = 0 → post (-1 : Int32)))
def wpX10_cases (sG : AR) (sQ : AR) (Q_cell : AR) (x1 : Int32) (post : Int32 → Prop) (postX : String → Prop) : Prop := ((x1 = (-1 : Int32) → wpX10_cases_J10 sG sQ Q_cell x1 post postX) ∧ (¬ x1 = (-1 : Int32) → wpX10_needCell sG x1 (wpX10_cases_J10 sG sQ Q_cell x1 post postX) postX))
set_option maxHeartbeats 4000000 in
set_option maxRecDepth 100000 in
theorem ctX10_cases (l : Launch) (D : va_G) (cy : Nat → ClassId) (ev : Nat → Nat) (hst : l.stackTraces = false) (h0 : Nat) (rS : Nat → Nat) (rG : Nat → Nat) (rQ : Nat → Nat) (sS : AR) (sG : AR) (sQ : AR) (Q_cell : AR) (x1 : Int32) (sz : Nat) (post : Int32 → Prop) (postX : String → Prop) (h : wpX10_cases sG sQ Q_cell x1 post postX) : vx_Met l yX10_cases (Cond.code yX10_cases cX10_cases 2 (some .int) :: TB) ({ frames := 7, cells := 1, slots := 6, locals := 121 }) (va_Pc [.ref h0, .int x1] (PreT D cy ev [(h0, .inr (10, oX10 rS sS)), ((rS 2), .inr (4, oX4 rG sG)), ((rS 10), .inr (7, oX7 (rtP (rS 2) (rS 4) (rS 5) rQ) sQ)), (((rtP (rS 2) (rS 4) (rS 5) rQ) 3), .inl (cy 0, 100, .inl Q_cell))] sz)) (va_Qi (fun (r : Int32) (u : Unit) => post r) (fun u => BkX D cy [(h0, .inr (10, oX10 rS sS)), ((rS 2), .inr (4, oX4 rG sG)), ((rS 10), .inr (7, oX7 (rtP (rS 2) (rS 4) (rS 5) rQ) sQ)), (((rtP (rS 2) (rS 4) (rS 5) rQ) 3), .inl (cy 0, 100, .inl Q_cell))] sz [(h0, .inr (10, oX10 rS sS)), ((rS 2), .inr (4, oX4 rG sG)), ((rS 10), .inr (7, oX7 (rtP (rS 2) (rS 4) (rS 5) rQ) sQ)), (((rtP (rS 2) (rS 4) (rS 5) rQ) 3), .inl (cy 0, 100, .inl Q_cell))]) (va_A [(h0, .inr (10, oX10 rS sS)), ((rS 2), .inr (4, oX4 rG sG)), ((rS 10), .inr (7, oX7 (rtP (rS 2) (rS 4) (rS 5) rQ) sQ)), (((rtP (rS 2) (rS 4) (rS 5) rQ) 3), .inl (cy 0, 100, .inl Q_cell))] sz)) (XcX D cy [(h0, .inr (10, oX10 rS sS)), ((rS 2), .inr (4, oX4 rG sG)), ((rS 10), .inr (7, oX7 (rtP (rS 2) (rS 4) (rS 5) rQ) sQ)), (((rtP (rS 2) (rS 4) (rS 5) rQ) 3), .inl (cy 0, 100, .inl Q_cell))] sz postX) 1 6 (va_A [(h0, .inr (10, oX10 rS sS)), ((rS 2), .inr (4, oX4 rG sG)), ((rS 10), .inr (7, oX7 (rtP (rS 2) (rS 4) (rS 5) rQ) sQ)), (((rtP (rS 2) (rS 4) (rS 5) rQ) 3), .inl (cy 0, 100, .inl Q_cell))] sz) := by
  refine ofXi hst (by decide) rfl (Nat.le_of_ble_eq_true rfl) ⟨by decide, by decide, by decide, by decide⟩ ?_
  intro p e s m args below meth c ls A R QQ hx hb hml hown hts hR hlk hE hT hK hP hD hS hA hl hthr hnN hnNW hnI hnIW hret
  have hRc : 1 ≤ R.cells := by rw [hR]; exact Nat.le_refl _
  have hRs : 6 ≤ R.slots := by rw [hR]; exact Nat.le_refl _
  have hown : s.vm.findClass RX10 = some m.cls := hown
  have hRf : 7 ≤ R.frames := by rw [hR]; exact Nat.le_refl _
  have hRl : 121 ≤ R.locals := by rw [hR]; exact Nat.le_refl _
  clear hR
  have hl : lv_has ls 2 [(0, .ref h0), (1, .int x1)] := hl
  have J10 : ∀ (l1 : Int32) (H : Heap) (locs : List Loc) (ls : Array Slot), wpX10_cases_J10 sG sQ Q_cell l1 post postX → va_P D clsX [(h0, .inr (10, oX10 rS sS)), ((rS 2), .inr (4, oX4 rG sG)), ((rS 10), .inr (7, oX7 (rtP (rS 2) (rS 4) (rS 5) rQ) sQ)), (((rtP (rS 2) (rS 4) (rS 5) rQ) 3), .inl (cy 0, 100, .inl Q_cell))] H → va_D A [(h0, .inr (10, oX10 rS sS)), ((rS 2), .inr (4, oX4 rG sG)), ((rS 10), .inr (7, oX7 (rtP (rS 2) (rS 4) (rS 5) rQ) sQ)), (((rtP (rS 2) (rS 4) (rS 5) rQ) 3), .inl (cy 0, 100, .inl Q_cell))] → va_S A s.heap H locs → lv_has ls 2 [(0, .ref h0), (1, .int l1)] → W p l e R s m args below meth c H locs 1 6 QQ (F0 m 10 ls []) := by
    intro l1 H locs ls h hP hD hS hl
    refine lv_aload_n hx hb dX10_cases_10 rfl (lv_at hl 0 rfl) ?_
    refine gfX10_77 hx hb hts hown hK hP 0 rfl dX10_cases_11 ?_
    refine gfX10_119 (v := (sQ 5)) hx hb hts hown hK hP 2 rfl rfl dX10_cases_14 ?_
    refine lv_if_ne (tgt := 22) hx hb dX10_cases_17 (by decide) (fun c17 => ?_) (fun c17 => ?_)
    · have h := h.1 c17
      refine lv_iload_n hx hb dX10_cases_22 rfl (lv_at hl 1 rfl) ?_
      refine lv_iconst (v := (-1 : Int32)) hx hb dX10_cases_23 (by decide) ?_
      refine lv_icmp_ne (tgt := 37) hx hb dX10_cases_24 (by decide) (fun c24 => ?_) (fun c24 => ?_)
      · have h := h.1 c24
        refine lv_aload_n hx hb dX10_cases_37 rfl (lv_at hl 0 rfl) ?_
        refine gfX10_77 hx hb hts hown hK hP 0 rfl dX10_cases_38 ?_
        refine lv_iload_n hx hb dX10_cases_41 rfl (lv_at hl 1 rfl) ?_
        refine clVi (As := [.int l1]) (rest := []) (Wr := [(h0, .inr (10, oX10 rS sS)), ((rS 2), .inr (4, oX4 rG sG))]) (cq := (RX7, TX7, 7)) ⟨hx, hb, hml, hown, hts⟩ ⟨callB_of 1 hts (goodC mw1045) rfl rfl rfl (hts _ (tb mw10)) (hts _ (tb mw1042)) kdX7_howManyIn ⟨Nat.le_trans (by decide) hRf, Nat.le_trans (by decide) hRl⟩, hts _ (tb mw1043), hts _ (tb mw1044)⟩ (ctX7_howManyIn l D cy ev (rS 10) (rtP (rS 2) (rS 4) (rS 5) rQ) sQ Q_cell l1 _ _ h) hE hK hP hD hS hA [2, 3] [0, 1] rfl rfl (by decide) (by decide) (by decide) 0 rfl rfl rfl hl.1 rfl (Nat.le_of_ble_eq_true rfl) ⟨Nat.le_trans (by decide) hRc, Nat.le_trans (by decide) hRs⟩ dX10_cases_42 (fun r42 u H locs h hP hD hS => ?_)
        have hP : va_P D clsX [(h0, .inr (10, oX10 rS sS)), ((rS 2), .inr (4, oX4 rG sG)), ((rS 10), .inr (7, oX7 (rtP (rS 2) (rS 4) (rS 5) rQ) sQ)), (((rtP (rS 2) (rS 4) (rS 5) rQ) 3), .inl (cy 0, 100, .inl Q_cell))] H := hP
        have hD : va_D A [(h0, .inr (10, oX10 rS sS)), ((rS 2), .inr (4, oX4 rG sG)), ((rS 10), .inr (7, oX7 (rtP (rS 2) (rS 4) (rS 5) rQ) sQ)), (((rtP (rS 2) (rS 4) (rS 5) rQ) 3), .inl (cy 0, 100, .inl Q_cell))] := hD
        exact hret r42 () _ _ _ _ rfl dX10_cases_45 h hP hD hS
      · have h := h.2 c24
        refine lv_aload_n hx hb dX10_cases_27 rfl (lv_at hl 0 rfl) ?_
        refine gfX10_77 hx hb hts hown hK hP 0 rfl dX10_cases_28 ?_
        refine gfX10_299 (v := (sQ 6)) hx hb hts hown hK hP 2 rfl rfl dX10_cases_31 ?_
        refine lv_goto (tgt := 45) hx hb dX10_cases_34 (by decide) ?_
        exact hret (sQ 6) () _ _ _ _ rfl dX10_cases_45 h hP hD hS
    · have h := h.2 c17
      refine lv_iconst (v := (-1 : Int32)) hx hb dX10_cases_20 (by decide) ?_
      exact hret (-1 : Int32) () _ _ _ _ rfl dX10_cases_21 h hP hD hS
  refine lv_iload_n hx hb dX10_cases_0 rfl (lv_at hl 1 rfl) ?_
  refine lv_iconst (v := (-1 : Int32)) hx hb dX10_cases_1 (by decide) ?_
  refine lv_icmp_eq (tgt := 10) hx hb dX10_cases_2 (by decide) (fun c2 => ?_) (fun c2 => ?_)
  · have h := h.1 c2
    refine W.widen (k := 1) (n := 6) (by decide) (by decide) ?_
    exact J10 x1 _ _ _ h hP hD hS hl
  · have h := h.2 c2
    refine lv_aload_n hx hb dX10_cases_5 rfl (lv_at hl 0 rfl) ?_
    refine lv_iload_n hx hb dX10_cases_6 rfl (lv_at hl 1 rfl) ?_
    refine clXv (As := [.int x1]) (rest := []) (Wr := [((rS 10), .inr (7, oX7 (rtP (rS 2) (rS 4) (rS 5) rQ) sQ)), (((rtP (rS 2) (rS 4) (rS 5) rQ) 3), .inl (cy 0, 100, .inl Q_cell))]) (cq := (RX10, TX10, 18)) ⟨hx, hb, hml, hown, hts⟩ ⟨callB_of 1 hts (goodC mw990) rfl rfl rfl (hts _ (tb mw1)) (hts _ (tb mw987)) kdX10_needCell ⟨Nat.le_trans (by decide) hRf, Nat.le_trans (by decide) hRl⟩, hts _ (tb mw989), hts _ (tb ms30)⟩ (ctX10_needCell l D cy ev hst h0 rS rG sS sG x1 _ _ _ h) hE hT hK hP hD hS hA [0, 1] [2, 3] rfl rfl (by decide) (by decide) (by decide) 0 rfl rfl rfl hl.1 rfl (Nat.le_of_ble_eq_true rfl) ⟨Nat.le_trans (by decide) hRc, Nat.le_trans (by decide) hRs⟩ dX10_cases_7 (fun E ce q H locs h hP hD hS g1 g2 g3 => vx_widen (by decide) (by decide) (hthr E ce q _ _ _ _ _ h (hP.sub [2, 3, 0, 1] rfl) (hD.sub [2, 3, 0, 1] (by decide) rfl) hS g1 g2 g3)) (fun u H locs h hP hD hS => ?_)
    have hP : va_P D clsX [((rS 10), .inr (7, oX7 (rtP (rS 2) (rS 4) (rS 5) rQ) sQ)), (((rtP (rS 2) (rS 4) (rS 5) rQ) 3), .inl (cy 0, 100, .inl Q_cell)), (h0, .inr (10, oX10 rS sS)), ((rS 2), .inr (4, oX4 rG sG))] H := hP
    have hD : va_D A [((rS 10), .inr (7, oX7 (rtP (rS 2) (rS 4) (rS 5) rQ) sQ)), (((rtP (rS 2) (rS 4) (rS 5) rQ) 3), .inl (cy 0, 100, .inl Q_cell)), (h0, .inr (10, oX10 rS sS)), ((rS 2), .inr (4, oX4 rG sG))] := hD
    exact J10 x1 _ _ _ h (hP.sub [2, 3, 0, 1] rfl) (hD.sub [2, 3, 0, 1] (by decide) rfl) hS hl
def wpX10_odds_J73 (sG : AR) (sQ : AR) (Q_cell : AR) (l4 : Int32) (t0 : Int32) (post : Int32 → Prop) (postX : String → Prop) : Prop := ¬ l4 = 0 ∧ post (t0 / l4)
def wpX10_odds (sG : AR) (sQ : AR) (Q_cell : AR) (x1 : Int32) (x2 : Int32) (post : Int32 → Prop) (postX : String → Prop) : Prop := wpX10_needCell sG x1 (wpX10_needPart x2 (((¬ (sQ 5) = 0 → wpX7_howManyIn sQ Q_cell x1 (fun r27 => ((¬ r27 = 0 → wpX10_commonDivisor (sQ 6) r27 (fun r45 => (((1 : Int32) ≤ r45 → ((¬ x2 = 0 → wpX10_odds_J73 sG sQ Q_cell r45 (sQ 6) post postX) ∧ (x2 = 0 → wpX10_odds_J73 sG sQ Q_cell r45 r27 post postX))) ∧ (¬ (1 : Int32) ≤ r45 → post (-1 : Int32))))) ∧ (r27 = 0 → post x2)))) ∧ ((sQ 5) = 0 → post (-1 : Int32)))) postX) postX
set_option maxHeartbeats 4000000 in
set_option maxRecDepth 100000 in
theorem ctX10_odds (l : Launch) (D : va_G) (cy : Nat → ClassId) (ev : Nat → Nat) (hst : l.stackTraces = false) (h0 : Nat) (rS : Nat → Nat) (rG : Nat → Nat) (rQ : Nat → Nat) (sS : AR) (sG : AR) (sQ : AR) (Q_cell : AR) (x1 : Int32) (x2 : Int32) (sz : Nat) (post : Int32 → Prop) (postX : String → Prop) (h : wpX10_odds sG sQ Q_cell x1 x2 post postX) : vx_Met l yX10_odds (Cond.code yX10_odds cX10_odds 5 (some .int) :: TB) ({ frames := 7, cells := 2, slots := 12, locals := 121 }) (va_Pc [.ref h0, .int x1, .int x2] (PreT D cy ev [(h0, .inr (10, oX10 rS sS)), ((rS 2), .inr (4, oX4 rG sG)), ((rS 10), .inr (7, oX7 (rtP (rS 2) (rS 4) (rS 5) rQ) sQ)), (((rtP (rS 2) (rS 4) (rS 5) rQ) 3), .inl (cy 0, 100, .inl Q_cell))] sz)) (va_Qi (fun (r : Int32) (u : Unit) => post r) (fun u => BkX D cy [(h0, .inr (10, oX10 rS sS)), ((rS 2), .inr (4, oX4 rG sG)), ((rS 10), .inr (7, oX7 (rtP (rS 2) (rS 4) (rS 5) rQ) sQ)), (((rtP (rS 2) (rS 4) (rS 5) rQ) 3), .inl (cy 0, 100, .inl Q_cell))] sz [(h0, .inr (10, oX10 rS sS)), ((rS 2), .inr (4, oX4 rG sG)), ((rS 10), .inr (7, oX7 (rtP (rS 2) (rS 4) (rS 5) rQ) sQ)), (((rtP (rS 2) (rS 4) (rS 5) rQ) 3), .inl (cy 0, 100, .inl Q_cell))]) (va_A [(h0, .inr (10, oX10 rS sS)), ((rS 2), .inr (4, oX4 rG sG)), ((rS 10), .inr (7, oX7 (rtP (rS 2) (rS 4) (rS 5) rQ) sQ)), (((rtP (rS 2) (rS 4) (rS 5) rQ) 3), .inl (cy 0, 100, .inl Q_cell))] sz)) (XcX D cy [(h0, .inr (10, oX10 rS sS)), ((rS 2), .inr (4, oX4 rG sG)), ((rS 10), .inr (7, oX7 (rtP (rS 2) (rS 4) (rS 5) rQ) sQ)), (((rtP (rS 2) (rS 4) (rS 5) rQ) 3), .inl (cy 0, 100, .inl Q_cell))] sz postX) 2 12 (va_A [(h0, .inr (10, oX10 rS sS)), ((rS 2), .inr (4, oX4 rG sG)), ((rS 10), .inr (7, oX7 (rtP (rS 2) (rS 4) (rS 5) rQ) sQ)), (((rtP (rS 2) (rS 4) (rS 5) rQ) 3), .inl (cy 0, 100, .inl Q_cell))] sz) := by
  refine ofXi hst (by decide) rfl (Nat.le_of_ble_eq_true rfl) ⟨by decide, by decide, by decide, by decide⟩ ?_
  intro p e s m args below meth c ls A R QQ hx hb hml hown hts hR hlk hE hT hK hP hD hS hA hl hthr hnN hnNW hnI hnIW hret
  have hRc : 2 ≤ R.cells := by rw [hR]; exact Nat.le_refl _
  have hRs : 12 ≤ R.slots := by rw [hR]; exact Nat.le_refl _
  have hown : s.vm.findClass RX10 = some m.cls := hown
  have hRf : 7 ≤ R.frames := by rw [hR]; exact Nat.le_refl _
  have hRl : 121 ≤ R.locals := by rw [hR]; exact Nat.le_refl _
  clear hR
  have hl : lv_has ls 5 [(0, .ref h0), (1, .int x1), (2, .int x2)] := hl
  have J73 : ∀ (l4 : Int32) (t0 : Int32) (H : Heap) (locs : List Loc) (ls : Array Slot), wpX10_odds_J73 sG sQ Q_cell l4 t0 post postX → va_P D clsX [(h0, .inr (10, oX10 rS sS)), ((rS 2), .inr (4, oX4 rG sG)), ((rS 10), .inr (7, oX7 (rtP (rS 2) (rS 4) (rS 5) rQ) sQ)), (((rtP (rS 2) (rS 4) (rS 5) rQ) 3), .inl (cy 0, 100, .inl Q_cell))] H → va_D A [(h0, .inr (10, oX10 rS sS)), ((rS 2), .inr (4, oX4 rG sG)), ((rS 10), .inr (7, oX7 (rtP (rS 2) (rS 4) (rS 5) rQ) sQ)), (((rtP (rS 2) (rS 4) (rS 5) rQ) 3), .inl (cy 0, 100, .inl Q_cell))] → va_S A s.heap H locs → lv_has ls 5 [(0, .ref h0), (4, .int l4)] → W p l e R s m args below meth c H locs 2 12 QQ (F0 m 73 ls [.int t0]) := by
    intro l4 t0 H locs ls h hP hD hS hl
    refine lv_iload hx hb dX10_odds_73 (lv_at hl 1 rfl) ?_
    obtain ⟨hne, h⟩ := h
    refine lv_idiv hx hb dX10_odds_75 hne ?_
    exact hret (t0 / l4) () _ _ _ _ rfl dX10_odds_76 h hP hD hS
  refine lv_aload_n hx hb dX10_odds_0 rfl (lv_at hl 0 rfl) ?_
  refine lv_iload_n hx hb dX10_odds_1 rfl (lv_at hl 1 rfl) ?_
  refine clXv (As := [.int x1]) (rest := []) (Wr := [((rS 10), .inr (7, oX7 (rtP (rS 2) (rS 4) (rS 5) rQ) sQ)), (((rtP (rS 2) (rS 4) (rS 5) rQ) 3), .inl (cy 0, 100, .inl Q_cell))]) (cq := (RX10, TX10, 18)) ⟨hx, hb, hml, hown, hts⟩ ⟨callB_of 1 hts (goodC mw990) rfl rfl rfl (hts _ (tb mw1)) (hts _ (tb mw987)) kdX10_needCell ⟨Nat.le_trans (by decide) hRf, Nat.le_trans (by decide) hRl⟩, hts _ (tb mw989), hts _ (tb ms30)⟩ (ctX10_needCell l D cy ev hst h0 rS rG sS sG x1 _ _ _ h) hE hT hK hP hD hS hA [0, 1] [2, 3] rfl rfl (by decide) (by decide) (by decide) 0 rfl rfl rfl hl.1 rfl (Nat.le_of_ble_eq_true rfl) ⟨Nat.le_trans (by decide) hRc, Nat.le_trans (by decide) hRs⟩ dX10_odds_2 (fun E ce q H locs h hP hD hS g1 g2 g3 => vx_widen (by decide) (by decide) (hthr E ce q _ _ _ _ _ h (hP.sub [2, 3, 0, 1] rfl) (hD.sub [2, 3, 0, 1] (by decide) rfl) hS g1 g2 g3)) (fun u H locs h hP hD hS => ?_)
  have hP : va_P D clsX [((rS 10), .inr (7, oX7 (rtP (rS 2) (rS 4) (rS 5) rQ) sQ)), (((rtP (rS 2) (rS 4) (rS 5) rQ) 3), .inl (cy 0, 100, .inl Q_cell)), (h0, .inr (10, oX10 rS sS)), ((rS 2), .inr (4, oX4 rG sG))] H := hP
  have hD : va_D A [((rS 10), .inr (7, oX7 (rtP (rS 2) (rS 4) (rS 5) rQ) sQ)), (((rtP (rS 2) (rS 4) (rS 5) rQ) 3), .inl (cy 0, 100, .inl Q_cell)), (h0, .inr (10, oX10 rS sS)), ((rS 2), .inr (4, oX4 rG sG))] := hD
  refine lv_aload_n hx hb dX10_odds_5 rfl (lv_at hl 0 rfl) ?_
  refine lv_iload_n hx hb dX10_odds_6 rfl (lv_at hl 2 rfl) ?_
  refine clXv (As := [.int x2]) (rest := []) (Wr := [((rS 10), .inr (7, oX7 (rtP (rS 2) (rS 4) (rS 5) rQ) sQ)), (((rtP (rS 2) (rS 4) (rS 5) rQ) 3), .inl (cy 0, 100, .inl Q_cell)), ((rS 2), .inr (4, oX4 rG sG))]) (cq := (RX10, TX10, 18)) ⟨hx, hb, hml, hown, hts⟩ ⟨callB_of 1 hts (goodC mw1056) rfl rfl rfl (hts _ (tb mw1)) (hts _ (tb mw1053)) kdX10_needPart ⟨Nat.le_trans (by decide) hRf, Nat.le_trans (by decide) hRl⟩, hts _ (tb mw1055), hts _ (tb ms31)⟩ (ctX10_needPart l D cy ev hst h0 rS sS x2 _ _ _ h) hE hT hK hP hD hS hA [2] [0, 1, 3] rfl rfl (by decide) (by decide) (by decide) 0 rfl rfl rfl hl.1 rfl (Nat.le_of_ble_eq_true rfl) ⟨Nat.le_trans (by decide) hRc, Nat.le_trans (by decide) hRs⟩ dX10_odds_7 (fun E ce q H locs h hP hD hS g1 g2 g3 => vx_widen (by decide) (by decide) (hthr E ce q _ _ _ _ _ h (hP.sub [3, 2, 0, 1] rfl) (hD.sub [3, 2, 0, 1] (by decide) rfl) hS g1 g2 g3)) (fun u H locs h hP hD hS => ?_)
  have hP : va_P D clsX [((rS 10), .inr (7, oX7 (rtP (rS 2) (rS 4) (rS 5) rQ) sQ)), (((rtP (rS 2) (rS 4) (rS 5) rQ) 3), .inl (cy 0, 100, .inl Q_cell)), ((rS 2), .inr (4, oX4 rG sG)), (h0, .inr (10, oX10 rS sS))] H := hP
  have hD : va_D A [((rS 10), .inr (7, oX7 (rtP (rS 2) (rS 4) (rS 5) rQ) sQ)), (((rtP (rS 2) (rS 4) (rS 5) rQ) 3), .inl (cy 0, 100, .inl Q_cell)), ((rS 2), .inr (4, oX4 rG sG)), (h0, .inr (10, oX10 rS sS))] := hD
  refine lv_aload_n hx hb dX10_odds_10 rfl (lv_at hl 0 rfl) ?_
  refine gfX10_77 hx hb hts hown hK hP 3 rfl dX10_odds_11 ?_
  refine gfX10_119 (v := (sQ 5)) hx hb hts hown hK hP 0 rfl rfl dX10_odds_14 ?_
  refine lv_if_ne (tgt := 22) hx hb dX10_odds_17 (by decide) (fun c17 => ?_) (fun c17 => ?_)
  · have h := h.1 c17
    refine lv_aload_n hx hb dX10_odds_22 rfl (lv_at hl 0 rfl) ?_
    refine gfX10_77 hx hb hts hown hK hP 3 rfl dX10_odds_23 ?_
    refine lv_iload_n hx hb dX10_odds_26 rfl (lv_at hl 1 rfl) ?_
    refine clVi (As := [.int x1]) (rest := []) (Wr := [((rS 2), .inr (4, oX4 rG sG)), (h0, .inr (10, oX10 rS sS))]) (cq := (RX7, TX7, 7)) ⟨hx, hb, hml, hown, hts⟩ ⟨callB_of 1 hts (goodC mw1045) rfl rfl rfl (hts _ (tb mw10)) (hts _ (tb mw1042)) kdX7_howManyIn ⟨Nat.le_trans (by decide) hRf, Nat.le_trans (by decide) hRl⟩, hts _ (tb mw1043), hts _ (tb mw1044)⟩ (ctX7_howManyIn l D cy ev (rS 10) (rtP (rS 2) (rS 4) (rS 5) rQ) sQ Q_cell x1 _ _ h) hE hK hP hD hS hA [0, 1] [2, 3] rfl rfl (by decide) (by decide) (by decide) 0 rfl rfl rfl hl.1 rfl (Nat.le_of_ble_eq_true rfl) ⟨Nat.le_trans (by decide) hRc, Nat.le_trans (by decide) hRs⟩ dX10_odds_27 (fun r27 u H locs h hP hD hS => ?_)
    have hP : va_P D clsX [((rS 2), .inr (4, oX4 rG sG)), (h0, .inr (10, oX10 rS sS)), ((rS 10), .inr (7, oX7 (rtP (rS 2) (rS 4) (rS 5) rQ) sQ)), (((rtP (rS 2) (rS 4) (rS 5) rQ) 3), .inl (cy 0, 100, .inl Q_cell))] H := hP
    have hD : va_D A [((rS 2), .inr (4, oX4 rG sG)), (h0, .inr (10, oX10 rS sS)), ((rS 10), .inr (7, oX7 (rtP (rS 2) (rS 4) (rS 5) rQ) sQ)), (((rtP (rS 2) (rS 4) (rS 5) rQ) 3), .inl (cy 0, 100, .inl Q_cell))] := hD
    refine lv_istore_n (lv' := [(3, .int r27), (0, .ref h0), (1, .int x1), (2, .int x2)]) hx hb dX10_odds_30 rfl hl (by decide) rfl (fun ls hl => ?_)
    refine lv_iload_n hx hb dX10_odds_31 rfl (lv_at hl 0 rfl) ?_
    refine lv_if_ne (tgt := 37) hx hb dX10_odds_32 (by decide) (fun c32 => ?_) (fun c32 => ?_)
    · have h := h.1 c32
      refine lv_aload_n hx hb dX10_odds_37 rfl (lv_at hl 1 rfl) ?_
      refine gfX10_77 hx hb hts hown hK hP 1 rfl dX10_odds_38 ?_
      refine gfX10_299 (v := (sQ 6)) hx hb hts hown hK hP 2 rfl rfl dX10_odds_41 ?_
      refine lv_iload_n hx hb dX10_odds_44 rfl (lv_at hl 0 rfl) ?_
      refine clSi (As := [.int (sQ 6), .int r27]) (rest := []) (Wr := [((rS 2), .inr (4, oX4 rG sG)), (h0, .inr (10, oX10 rS sS)), ((rS 10), .inr (7, oX7 (rtP (rS 2) (rS 4) (rS 5) rQ) sQ)), (((rtP (rS 2) (rS 4) (rS 5) rQ) 3), .inl (cy 0, 100, .inl Q_cell))]) ⟨hx, hb, hml, hown, hts⟩ ⟨callB_of 2 hts (goodC mw1060) rfl rfl rfl (hts _ (tb mw1)) (hts _ (tb mw1058)) kdX10_commonDivisor ⟨Nat.le_trans (by decide) hRf, Nat.le_trans (by decide) hRl⟩, hts _ (tb mw1059)⟩ (ctX10_commonDivisor l D cy ev  (sQ 6) r27 _ _ h) hE hK hP hD hS hA [] [0, 1, 2, 3] rfl rfl (by decide) (by decide) (by decide) rfl hl.1 rfl (Nat.le_of_ble_eq_true rfl) ⟨Nat.le_trans (by decide) hRc, Nat.le_trans (by decide) hRs⟩ dX10_odds_45 (fun r45 u H locs h hP hD hS => ?_)
      have hP : va_P D clsX [((rS 2), .inr (4, oX4 rG sG)), (h0, .inr (10, oX10 rS sS)), ((rS 10), .inr (7, oX7 (rtP (rS 2) (rS 4) (rS 5) rQ) sQ)), (((rtP (rS 2) (rS 4) (rS 5) rQ) 3), .inl (cy 0, 100, .inl Q_cell))] H := hP
      have hD : va_D A [((rS 2), .inr (4, oX4 rG sG)), (h0, .inr (10, oX10 rS sS)), ((rS 10), .inr (7, oX7 (rtP (rS 2) (rS 4) (rS 5) rQ) sQ)), (((rtP (rS 2) (rS 4) (rS 5) rQ) 3), .inl (cy 0, 100, .inl Q_cell))] := hD
      refine lv_istore (lv' := [(4, .int r45), (3, .int r27), (0, .ref h0), (1, .int x1), (2, .int x2)]) hx hb dX10_odds_48 hl (by decide) rfl (fun ls hl => ?_)
      refine lv_iload hx hb dX10_odds_50 (lv_at hl 0 rfl) ?_
      refine lv_iconst (v := (1 : Int32)) hx hb dX10_odds_52 (by decide) ?_
      refine lv_icmp_ge (tgt := 58) hx hb dX10_odds_53 (by decide) (fun c53 => ?_) (fun c53 => ?_)
      · have h := h.1 c53
        refine lv_iload_n hx hb dX10_odds_58 rfl (lv_at hl 4 rfl) ?_
        refine lv_if_ne (tgt := 66) hx hb dX10_odds_59 (by decide) (fun c59 => ?_) (fun c59 => ?_)
        · have h := h.1 c59
          refine lv_aload_n hx hb dX10_odds_66 rfl (lv_at hl 2 rfl) ?_
          refine gfX10_77 hx hb hts hown hK hP 1 rfl dX10_odds_67 ?_
          refine gfX10_299 (v := (sQ 6)) hx hb hts hown hK hP 2 rfl rfl dX10_odds_70 ?_
          exact J73 r45 (sQ 6) _ _ _ h (hP.sub [1, 0, 2, 3] rfl) (hD.sub [1, 0, 2, 3] (by decide) rfl) hS (lv_sub hl [2, 0] rfl)
        · have h := h.2 c59
          refine lv_iload_n hx hb dX10_odds_62 rfl (lv_at hl 1 rfl) ?_
          refine lv_goto (tgt := 73) hx hb dX10_odds_63 (by decide) ?_
          exact J73 r45 r27 _ _ _ h (hP.sub [1, 0, 2, 3] rfl) (hD.sub [1, 0, 2, 3] (by decide) rfl) hS (lv_sub hl [2, 0] rfl)
      · have h := h.2 c53
        refine lv_iconst (v := (-1 : Int32)) hx hb dX10_odds_56 (by decide) ?_
        exact hret (-1 : Int32) () _ _ _ _ rfl dX10_odds_57 h (hP.sub [1, 0, 2, 3] rfl) (hD.sub [1, 0, 2, 3] (by decide) rfl) hS
    · have h := h.2 c32
      refine lv_iload_n hx hb dX10_odds_35 rfl (lv_at hl 3 rfl) ?_
      exact hret x2 () _ _ _ _ rfl dX10_odds_36 h (hP.sub [1, 0, 2, 3] rfl) (hD.sub [1, 0, 2, 3] (by decide) rfl) hS
  · have h := h.2 c17
    refine lv_iconst (v := (-1 : Int32)) hx hb dX10_odds_20 (by decide) ?_
    exact hret (-1 : Int32) () _ _ _ _ rfl dX10_odds_21 h (hP.sub [3, 2, 0, 1] rfl) (hD.sub [3, 2, 0, 1] (by decide) rfl) hS
def wpX10_plan_J12 (sS : AR) (S_bestRow : AR) (post : Int32 → Prop) (postX : String → Prop) : Prop := postX exN
def wpX10_plan (sS : AR) (S_bestRow : AR) (x1 : Int32) (post : Int32 → Prop) (postX : String → Prop) : Prop := ((x1 < 0 → wpX10_plan_J12 sS S_bestRow post postX) ∧ (¬ x1 < 0 → ((x1 < (sS 14) → vp_in x1 4 ∧ post (S_bestRow x1.toNatClampNeg)) ∧ (¬ x1 < (sS 14) → wpX10_plan_J12 sS S_bestRow post postX))))
set_option maxHeartbeats 4000000 in
set_option maxRecDepth 100000 in
theorem ctX10_plan (l : Launch) (D : va_G) (cy : Nat → ClassId) (ev : Nat → Nat) (hst : l.stackTraces = false) (h0 : Nat) (rS : Nat → Nat) (sS : AR) (S_bestRow : AR) (x1 : Int32) (sz : Nat) (post : Int32 → Prop) (postX : String → Prop) (h : wpX10_plan sS S_bestRow x1 post postX) : vx_Met l yX10_plan (Cond.code yX10_plan cX10_plan 2 (some .int) :: TB) ({ frames := 6, cells := 1, slots := 6, locals := 100 }) (va_Pc [.ref h0, .int x1] (PreT D cy ev [(h0, .inr (10, oX10 rS sS)), ((rS 13), .inl (cy 0, 4, .inl S_bestRow))] sz)) (va_Qi (fun (r : Int32) (u : Unit) => post r) (fun u => BkX D cy [(h0, .inr (10, oX10 rS sS)), ((rS 13), .inl (cy 0, 4, .inl S_bestRow))] sz [(h0, .inr (10, oX10 rS sS)), ((rS 13), .inl (cy 0, 4, .inl S_bestRow))]) (va_A [(h0, .inr (10, oX10 rS sS)), ((rS 13), .inl (cy 0, 4, .inl S_bestRow))] sz)) (XcX D cy [(h0, .inr (10, oX10 rS sS)), ((rS 13), .inl (cy 0, 4, .inl S_bestRow))] sz postX) 1 6 (va_A [(h0, .inr (10, oX10 rS sS)), ((rS 13), .inl (cy 0, 4, .inl S_bestRow))] sz) := by
  refine ofXi hst (by decide) rfl (Nat.le_of_ble_eq_true rfl) ⟨by decide, by decide, by decide, by decide⟩ ?_
  intro p e s m args below meth c ls A R QQ hx hb hml hown hts hR hlk hE hT hK hP hD hS hA hl hthr hnN hnNW hnI hnIW hret
  have hRc : 1 ≤ R.cells := by rw [hR]; exact Nat.le_refl _
  have hRs : 6 ≤ R.slots := by rw [hR]; exact Nat.le_refl _
  have hown : s.vm.findClass RX10 = some m.cls := hown
  have hRf : 6 ≤ R.frames := by rw [hR]; exact Nat.le_refl _
  have hRl : 100 ≤ R.locals := by rw [hR]; exact Nat.le_refl _
  clear hR
  have hl : lv_has ls 2 [(0, .ref h0), (1, .int x1)] := hl
  have J12 : ∀ (H : Heap) (locs : List Loc) (ls : Array Slot), wpX10_plan_J12 sS S_bestRow post postX → va_P D clsX [(h0, .inr (10, oX10 rS sS)), ((rS 13), .inl (cy 0, 4, .inl S_bestRow))] H → va_D A [(h0, .inr (10, oX10 rS sS)), ((rS 13), .inl (cy 0, 4, .inl S_bestRow))] → va_S A s.heap H locs → lv_has ls 2 [(0, .ref h0)] → W p l e R s m args below meth c H locs 0 0 QQ (F0 m 12 ls []) := by
    intro  H locs ls h hP hD hS hl
    exact hnNW _ _ _ _ _ _ _ _ _ _ (hE.1 30 (by decide)).1 h hP hD hS hl.1 (by decide) (by decide) (Nat.le_of_ble_eq_true rfl) dX10_plan_12 dX10_plan_15 dX10_plan_16 dX10_plan_19 dX10_plan_22
  refine lv_iload_n hx hb dX10_plan_0 rfl (lv_at hl 1 rfl) ?_
  refine lv_if_lt (tgt := 12) hx hb dX10_plan_1 (by decide) (fun c1 => ?_) (fun c1 => ?_)
  · have h := h.1 c1
    exact J12  _ _ _ h hP hD hS (lv_sub hl [0] rfl)
  · have h := h.2 c1
    refine lv_iload_n hx hb dX10_plan_4 rfl (lv_at hl 1 rfl) ?_
    refine lv_aload_n hx hb dX10_plan_5 rfl (lv_at hl 0 rfl) ?_
    refine gfX10_123 (v := (sS 14)) hx hb hts hown hK hP 0 rfl rfl dX10_plan_6 ?_
    refine lv_icmp_lt (tgt := 23) hx hb dX10_plan_9 (by decide) (fun c9 => ?_) (fun c9 => ?_)
    · have h := h.1 c9
      refine lv_aload_n hx hb dX10_plan_23 rfl (lv_at hl 0 rfl) ?_
      refine gfX10_95 hx hb hts hown hK hP 0 rfl dX10_plan_24 ?_
      refine lv_iload_n hx hb dX10_plan_27 rfl (lv_at hl 1 rfl) ?_
      obtain ⟨hin, h⟩ := h
      refine ldi (k := x1.toNatClampNeg) hx hb hK hP 1 rfl hin rfl dX10_plan_28 ?_
      refine W.widen (k := 1) (n := 6) (by decide) (by decide) ?_
      exact hret (S_bestRow x1.toNatClampNeg) () _ _ _ _ rfl dX10_plan_29 h hP hD hS
    · have h := h.2 c9
      exact J12  _ _ _ h hP hD hS (lv_sub hl [0] rfl)
def wpX10_forever (sG : AR) (G_isFalse : AR) (G_kind : AR) (F_all : AR) (Y_all : AR) (E_heardAt : AR) (E_nearest : AR) (E_ofVoice : AR) (E_alike : AR) (W_next : AR) (W_way : AR) (W_goal : AR) (x1 : Int32) (x2 : Int32) (x3 : Int32) (post : Int32 → AR → Prop) (postX : String → Prop) : Prop := wpX10_needWalker sG x1 (wpX10_needPart x3 (wpX4_hasTowers sG x2 (fun r15 => ((r15 = 0 → post (-1 : Int32) Y_all) ∧ (¬ r15 = 0 → wpX3_of F_all x1 (3 : Int32) (fun r30 => ((r30 = 0 → wpX3_take F_all Y_all (fun Y_all_49 => wpX3_endOf Y_all_49 G_isFalse G_kind E_heardAt E_nearest E_ofVoice E_alike W_next W_way W_goal x1 x2 x3 (fun r59 Y_all_59 => post r59 Y_all_59))) ∧ (¬ r30 = 0 → post (-1 : Int32) Y_all))))))) postX) postX
set_option maxHeartbeats 4000000 in
set_option maxRecDepth 100000 in
theorem ctX10_forever (l : Launch) (D : va_G) (cy : Nat → ClassId) (ev : Nat → Nat) (hst : l.stackTraces = false) (h0 : Nat) (rS : Nat → Nat) (rG : Nat → Nat) (rC : Nat → Nat) (rF : Nat → Nat) (rY : Nat → Nat) (rE : Nat → Nat) (rW : Nat → Nat) (sS : AR) (sC : AR) (sG : AR) (G_isFalse : AR) (G_kind : AR) (F_all : AR) (Y_all : AR) (E_heardAt : AR) (E_nearest : AR) (E_ofVoice : AR) (E_alike : AR) (W_next : AR) (W_way : AR) (W_goal : AR) (x1 : Int32) (x2 : Int32) (x3 : Int32) (sz : Nat) (post : Int32 → AR → Prop) (postX : String → Prop) (h : wpX10_forever sG G_isFalse G_kind F_all Y_all E_heardAt E_nearest E_ofVoice E_alike W_next W_way W_goal x1 x2 x3 post postX) : vx_Met l yX10_forever (Cond.code yX10_forever cX10_forever 4 (some .int) :: TB) ({ frames := 7, cells := 2, slots := 12, locals := 121 }) (va_Pc [.ref h0, .int x1, .int x2, .int x3] (PreT D cy ev [(h0, .inr (10, oX10 rS sS)), ((rS 2), .inr (4, oX4 rG sG)), ((rS 8), .inr (0, oX0 rC sC)), ((rC 0), .inr (3, oX3 (rtP (rS 2) (rS 4) (rS 5) rF))), ((rS 12), .inr (3, oX3 (rtP (rS 2) (rS 4) (rS 5) rY))), ((rS 4), .inr (1, oX1 rE)), ((rS 5), .inr (2, oX2 rW)), ((rG 11), .inl (cy 2, 5, .inl G_isFalse)), ((rG 12), .inl (cy 0, 4, .inl G_kind)), (((rtP (rS 2) (rS 4) (rS 5) rF) 3), .inl (cy 0, 29, .inl F_all)), (((rtP (rS 2) (rS 4) (rS 5) rY) 3), .inl (cy 0, 29, .inl Y_all)), ((rE 0), .inl (cy 1, 100, .inl E_heardAt)), ((rE 1), .inl (cy 1, 3200, .inl E_nearest)), ((rE 3), .inl (cy 0, 4, .inl E_ofVoice)), ((rE 4), .inl (cy 0, 5, .inl E_alike)), ((rW 0), .inl (cy 0, 400, .inl W_next)), ((rW 1), .inl (cy 0, 500, .inl W_way)), ((rW 2), .inl (cy 0, 5, .inl W_goal))] sz)) (va_Qi (fun (r : Int32) (u : AR) => post r u) (fun u => BkX D cy [(h0, .inr (10, oX10 rS sS)), ((rS 2), .inr (4, oX4 rG sG)), ((rS 8), .inr (0, oX0 rC sC)), ((rC 0), .inr (3, oX3 (rtP (rS 2) (rS 4) (rS 5) rF))), ((rS 12), .inr (3, oX3 (rtP (rS 2) (rS 4) (rS 5) rY))), ((rS 4), .inr (1, oX1 rE)), ((rS 5), .inr (2, oX2 rW)), ((rG 11), .inl (cy 2, 5, .inl G_isFalse)), ((rG 12), .inl (cy 0, 4, .inl G_kind)), (((rtP (rS 2) (rS 4) (rS 5) rF) 3), .inl (cy 0, 29, .inl F_all)), (((rtP (rS 2) (rS 4) (rS 5) rY) 3), .inl (cy 0, 29, .inl Y_all)), ((rE 0), .inl (cy 1, 100, .inl E_heardAt)), ((rE 1), .inl (cy 1, 3200, .inl E_nearest)), ((rE 3), .inl (cy 0, 4, .inl E_ofVoice)), ((rE 4), .inl (cy 0, 5, .inl E_alike)), ((rW 0), .inl (cy 0, 400, .inl W_next)), ((rW 1), .inl (cy 0, 500, .inl W_way)), ((rW 2), .inl (cy 0, 5, .inl W_goal))] sz [(h0, .inr (10, oX10 rS sS)), ((rS 2), .inr (4, oX4 rG sG)), ((rS 8), .inr (0, oX0 rC sC)), ((rC 0), .inr (3, oX3 (rtP (rS 2) (rS 4) (rS 5) rF))), ((rS 12), .inr (3, oX3 (rtP (rS 2) (rS 4) (rS 5) rY))), ((rS 4), .inr (1, oX1 rE)), ((rS 5), .inr (2, oX2 rW)), ((rG 11), .inl (cy 2, 5, .inl G_isFalse)), ((rG 12), .inl (cy 0, 4, .inl G_kind)), (((rtP (rS 2) (rS 4) (rS 5) rF) 3), .inl (cy 0, 29, .inl F_all)), (((rtP (rS 2) (rS 4) (rS 5) rY) 3), .inl (cy 0, 29, .inl u)), ((rE 0), .inl (cy 1, 100, .inl E_heardAt)), ((rE 1), .inl (cy 1, 3200, .inl E_nearest)), ((rE 3), .inl (cy 0, 4, .inl E_ofVoice)), ((rE 4), .inl (cy 0, 5, .inl E_alike)), ((rW 0), .inl (cy 0, 400, .inl W_next)), ((rW 1), .inl (cy 0, 500, .inl W_way)), ((rW 2), .inl (cy 0, 5, .inl W_goal))]) (va_A [(h0, .inr (10, oX10 rS sS)), ((rS 2), .inr (4, oX4 rG sG)), ((rS 8), .inr (0, oX0 rC sC)), ((rC 0), .inr (3, oX3 (rtP (rS 2) (rS 4) (rS 5) rF))), ((rS 12), .inr (3, oX3 (rtP (rS 2) (rS 4) (rS 5) rY))), ((rS 4), .inr (1, oX1 rE)), ((rS 5), .inr (2, oX2 rW)), ((rG 11), .inl (cy 2, 5, .inl G_isFalse)), ((rG 12), .inl (cy 0, 4, .inl G_kind)), (((rtP (rS 2) (rS 4) (rS 5) rF) 3), .inl (cy 0, 29, .inl F_all)), (((rtP (rS 2) (rS 4) (rS 5) rY) 3), .inl (cy 0, 29, .inl Y_all)), ((rE 0), .inl (cy 1, 100, .inl E_heardAt)), ((rE 1), .inl (cy 1, 3200, .inl E_nearest)), ((rE 3), .inl (cy 0, 4, .inl E_ofVoice)), ((rE 4), .inl (cy 0, 5, .inl E_alike)), ((rW 0), .inl (cy 0, 400, .inl W_next)), ((rW 1), .inl (cy 0, 500, .inl W_way)), ((rW 2), .inl (cy 0, 5, .inl W_goal))] sz)) (XcX D cy [(h0, .inr (10, oX10 rS sS)), ((rS 2), .inr (4, oX4 rG sG)), ((rS 8), .inr (0, oX0 rC sC)), ((rC 0), .inr (3, oX3 (rtP (rS 2) (rS 4) (rS 5) rF))), ((rS 12), .inr (3, oX3 (rtP (rS 2) (rS 4) (rS 5) rY))), ((rS 4), .inr (1, oX1 rE)), ((rS 5), .inr (2, oX2 rW)), ((rG 11), .inl (cy 2, 5, .inl G_isFalse)), ((rG 12), .inl (cy 0, 4, .inl G_kind)), (((rtP (rS 2) (rS 4) (rS 5) rF) 3), .inl (cy 0, 29, .inl F_all)), (((rtP (rS 2) (rS 4) (rS 5) rY) 3), .inl (cy 0, 29, .inl Y_all)), ((rE 0), .inl (cy 1, 100, .inl E_heardAt)), ((rE 1), .inl (cy 1, 3200, .inl E_nearest)), ((rE 3), .inl (cy 0, 4, .inl E_ofVoice)), ((rE 4), .inl (cy 0, 5, .inl E_alike)), ((rW 0), .inl (cy 0, 400, .inl W_next)), ((rW 1), .inl (cy 0, 500, .inl W_way)), ((rW 2), .inl (cy 0, 5, .inl W_goal))] sz postX) 2 12 (va_A [(h0, .inr (10, oX10 rS sS)), ((rS 2), .inr (4, oX4 rG sG)), ((rS 8), .inr (0, oX0 rC sC)), ((rC 0), .inr (3, oX3 (rtP (rS 2) (rS 4) (rS 5) rF))), ((rS 12), .inr (3, oX3 (rtP (rS 2) (rS 4) (rS 5) rY))), ((rS 4), .inr (1, oX1 rE)), ((rS 5), .inr (2, oX2 rW)), ((rG 11), .inl (cy 2, 5, .inl G_isFalse)), ((rG 12), .inl (cy 0, 4, .inl G_kind)), (((rtP (rS 2) (rS 4) (rS 5) rF) 3), .inl (cy 0, 29, .inl F_all)), (((rtP (rS 2) (rS 4) (rS 5) rY) 3), .inl (cy 0, 29, .inl Y_all)), ((rE 0), .inl (cy 1, 100, .inl E_heardAt)), ((rE 1), .inl (cy 1, 3200, .inl E_nearest)), ((rE 3), .inl (cy 0, 4, .inl E_ofVoice)), ((rE 4), .inl (cy 0, 5, .inl E_alike)), ((rW 0), .inl (cy 0, 400, .inl W_next)), ((rW 1), .inl (cy 0, 500, .inl W_way)), ((rW 2), .inl (cy 0, 5, .inl W_goal))] sz) := by
  refine ofXi hst (by decide) rfl (Nat.le_of_ble_eq_true rfl) ⟨by decide, by decide, by decide, by decide⟩ ?_
  intro p e s m args below meth c ls A R QQ hx hb hml hown hts hR hlk hE hT hK hP hD hS hA hl hthr hnN hnNW hnI hnIW hret
  have hRc : 2 ≤ R.cells := by rw [hR]; exact Nat.le_refl _
  have hRs : 12 ≤ R.slots := by rw [hR]; exact Nat.le_refl _
  have hown : s.vm.findClass RX10 = some m.cls := hown
  have hRf : 7 ≤ R.frames := by rw [hR]; exact Nat.le_refl _
  have hRl : 121 ≤ R.locals := by rw [hR]; exact Nat.le_refl _
  clear hR
  have hl : lv_has ls 4 [(0, .ref h0), (1, .int x1), (2, .int x2), (3, .int x3)] := hl
  refine lv_aload_n hx hb dX10_forever_0 rfl (lv_at hl 0 rfl) ?_
  refine lv_iload_n hx hb dX10_forever_1 rfl (lv_at hl 1 rfl) ?_
  refine clXv (As := [.int x1]) (rest := []) (Wr := [((rS 8), .inr (0, oX0 rC sC)), ((rC 0), .inr (3, oX3 (rtP (rS 2) (rS 4) (rS 5) rF))), ((rS 12), .inr (3, oX3 (rtP (rS 2) (rS 4) (rS 5) rY))), ((rS 4), .inr (1, oX1 rE)), ((rS 5), .inr (2, oX2 rW)), ((rG 11), .inl (cy 2, 5, .inl G_isFalse)), ((rG 12), .inl (cy 0, 4, .inl G_kind)), (((rtP (rS 2) (rS 4) (rS 5) rF) 3), .inl (cy 0, 29, .inl F_all)), (((rtP (rS 2) (rS 4) (rS 5) rY) 3), .inl (cy 0, 29, .inl Y_all)), ((rE 0), .inl (cy 1, 100, .inl E_heardAt)), ((rE 1), .inl (cy 1, 3200, .inl E_nearest)), ((rE 3), .inl (cy 0, 4, .inl E_ofVoice)), ((rE 4), .inl (cy 0, 5, .inl E_alike)), ((rW 0), .inl (cy 0, 400, .inl W_next)), ((rW 1), .inl (cy 0, 500, .inl W_way)), ((rW 2), .inl (cy 0, 5, .inl W_goal))]) (cq := (RX10, TX10, 18)) ⟨hx, hb, hml, hown, hts⟩ ⟨callB_of 1 hts (goodC mw976) rfl rfl rfl (hts _ (tb mw1)) (hts _ (tb mw973)) kdX10_needWalker ⟨Nat.le_trans (by decide) hRf, Nat.le_trans (by decide) hRl⟩, hts _ (tb mw975), hts _ (tb ms29)⟩ (ctX10_needWalker l D cy ev hst h0 rS rG sS sG x1 _ _ _ h) hE hT hK hP hD hS hA [0, 1] [2, 3, 4, 5, 6, 7, 8, 9, 10, 11, 12, 13, 14, 15, 16, 17] rfl rfl (by decide) (by decide) (by decide) 0 rfl rfl rfl hl.1 rfl (Nat.le_of_ble_eq_true rfl) ⟨Nat.le_trans (by decide) hRc, Nat.le_trans (by decide) hRs⟩ dX10_forever_2 (fun E ce q H locs h hP hD hS g1 g2 g3 => vx_widen (by decide) (by decide) (hthr E ce q _ _ _ _ _ h (hP.sub [16, 17, 0, 1, 2, 3, 4, 5, 6, 7, 8, 9, 10, 11, 12, 13, 14, 15] rfl) (hD.sub [16, 17, 0, 1, 2, 3, 4, 5, 6, 7, 8, 9, 10, 11, 12, 13, 14, 15] (by decide) rfl) hS g1 g2 g3)) (fun u H locs h hP hD hS => ?_)
  have hP : va_P D clsX [((rS 8), .inr (0, oX0 rC sC)), ((rC 0), .inr (3, oX3 (rtP (rS 2) (rS 4) (rS 5) rF))), ((rS 12), .inr (3, oX3 (rtP (rS 2) (rS 4) (rS 5) rY))), ((rS 4), .inr (1, oX1 rE)), ((rS 5), .inr (2, oX2 rW)), ((rG 11), .inl (cy 2, 5, .inl G_isFalse)), ((rG 12), .inl (cy 0, 4, .inl G_kind)), (((rtP (rS 2) (rS 4) (rS 5) rF) 3), .inl (cy 0, 29, .inl F_all)), (((rtP (rS 2) (rS 4) (rS 5) rY) 3), .inl (cy 0, 29, .inl Y_all)), ((rE 0), .inl (cy 1, 100, .inl E_heardAt)), ((rE 1), .inl (cy 1, 3200, .inl E_nearest)), ((rE 3), .inl (cy 0, 4, .inl E_ofVoice)), ((rE 4), .inl (cy 0, 5, .inl E_alike)), ((rW 0), .inl (cy 0, 400, .inl W_next)), ((rW 1), .inl (cy 0, 500, .inl W_way)), ((rW 2), .inl (cy 0, 5, .inl W_goal)), (h0, .inr (10, oX10 rS sS)), ((rS 2), .inr (4, oX4 rG sG))] H := hP
  have hD : va_D A [((rS 8), .inr (0, oX0 rC sC)), ((rC 0), .inr (3, oX3 (rtP (rS 2) (rS 4) (rS 5) rF))), ((rS 12), .inr (3, oX3 (rtP (rS 2) (rS 4) (rS 5) rY))), ((rS 4), .inr (1, oX1 rE)), ((rS 5), .inr (2, oX2 rW)), ((rG 11), .inl (cy 2, 5, .inl G_isFalse)), ((rG 12), .inl (cy 0, 4, .inl G_kind)), (((rtP (rS 2) (rS 4) (rS 5) rF) 3), .inl (cy 0, 29, .inl F_all)), (((rtP (rS 2) (rS 4) (rS 5) rY) 3), .inl (cy 0, 29, .inl Y_all)), ((rE 0), .inl (cy 1, 100, .inl E_heardAt)), ((rE 1), .inl (cy 1, 3200, .inl E_nearest)), ((rE 3), .inl (cy 0, 4, .inl E_ofVoice)), ((rE 4), .inl (cy 0, 5, .inl E_alike)), ((rW 0), .inl (cy 0, 400, .inl W_next)), ((rW 1), .inl (cy 0, 500, .inl W_way)), ((rW 2), .inl (cy 0, 5, .inl W_goal)), (h0, .inr (10, oX10 rS sS)), ((rS 2), .inr (4, oX4 rG sG))] := hD
  refine lv_aload_n hx hb dX10_forever_5 rfl (lv_at hl 0 rfl) ?_
  refine lv_iload_n hx hb dX10_forever_6 rfl (lv_at hl 3 rfl) ?_
  refine clXv (As := [.int x3]) (rest := []) (Wr := [((rS 8), .inr (0, oX0 rC sC)), ((rC 0), .inr (3, oX3 (rtP (rS 2) (rS 4) (rS 5) rF))), ((rS 12), .inr (3, oX3 (rtP (rS 2) (rS 4) (rS 5) rY))), ((rS 4), .inr (1, oX1 rE)), ((rS 5), .inr (2, oX2 rW)), ((rG 11), .inl (cy 2, 5, .inl G_isFalse)), ((rG 12), .inl (cy 0, 4, .inl G_kind)), (((rtP (rS 2) (rS 4) (rS 5) rF) 3), .inl (cy 0, 29, .inl F_all)), (((rtP (rS 2) (rS 4) (rS 5) rY) 3), .inl (cy 0, 29, .inl Y_all)), ((rE 0), .inl (cy 1, 100, .inl E_heardAt)), ((rE 1), .inl (cy 1, 3200, .inl E_nearest)), ((rE 3), .inl (cy 0, 4, .inl E_ofVoice)), ((rE 4), .inl (cy 0, 5, .inl E_alike)), ((rW 0), .inl (cy 0, 400, .inl W_next)), ((rW 1), .inl (cy 0, 500, .inl W_way)), ((rW 2), .inl (cy 0, 5, .inl W_goal)), ((rS 2), .inr (4, oX4 rG sG))]) (cq := (RX10, TX10, 18)) ⟨hx, hb, hml, hown, hts⟩ ⟨callB_of 1 hts (goodC mw1056) rfl rfl rfl (hts _ (tb mw1)) (hts _ (tb mw1053)) kdX10_needPart ⟨Nat.le_trans (by decide) hRf, Nat.le_trans (by decide) hRl⟩, hts _ (tb mw1055), hts _ (tb ms31)⟩ (ctX10_needPart l D cy ev hst h0 rS sS x3 _ _ _ h) hE hT hK hP hD hS hA [16] [0, 1, 2, 3, 4, 5, 6, 7, 8, 9, 10, 11, 12, 13, 14, 15, 17] rfl rfl (by decide) (by decide) (by decide) 0 rfl rfl rfl hl.1 rfl (Nat.le_of_ble_eq_true rfl) ⟨Nat.le_trans (by decide) hRc, Nat.le_trans (by decide) hRs⟩ dX10_forever_7 (fun E ce q H locs h hP hD hS g1 g2 g3 => vx_widen (by decide) (by decide) (hthr E ce q _ _ _ _ _ h (hP.sub [17, 16, 0, 1, 2, 3, 4, 5, 6, 7, 8, 9, 10, 11, 12, 13, 14, 15] rfl) (hD.sub [17, 16, 0, 1, 2, 3, 4, 5, 6, 7, 8, 9, 10, 11, 12, 13, 14, 15] (by decide) rfl) hS g1 g2 g3)) (fun u H locs h hP hD hS => ?_)
  have hP : va_P D clsX [((rS 8), .inr (0, oX0 rC sC)), ((rC 0), .inr (3, oX3 (rtP (rS 2) (rS 4) (rS 5) rF))), ((rS 12), .inr (3, oX3 (rtP (rS 2) (rS 4) (rS 5) rY))), ((rS 4), .inr (1, oX1 rE)), ((rS 5), .inr (2, oX2 rW)), ((rG 11), .inl (cy 2, 5, .inl G_isFalse)), ((rG 12), .inl (cy 0, 4, .inl G_kind)), (((rtP (rS 2) (rS 4) (rS 5) rF) 3), .inl (cy 0, 29, .inl F_all)), (((rtP (rS 2) (rS 4) (rS 5) rY) 3), .inl (cy 0, 29, .inl Y_all)), ((rE 0), .inl (cy 1, 100, .inl E_heardAt)), ((rE 1), .inl (cy 1, 3200, .inl E_nearest)), ((rE 3), .inl (cy 0, 4, .inl E_ofVoice)), ((rE 4), .inl (cy 0, 5, .inl E_alike)), ((rW 0), .inl (cy 0, 400, .inl W_next)), ((rW 1), .inl (cy 0, 500, .inl W_way)), ((rW 2), .inl (cy 0, 5, .inl W_goal)), ((rS 2), .inr (4, oX4 rG sG)), (h0, .inr (10, oX10 rS sS))] H := hP
  have hD : va_D A [((rS 8), .inr (0, oX0 rC sC)), ((rC 0), .inr (3, oX3 (rtP (rS 2) (rS 4) (rS 5) rF))), ((rS 12), .inr (3, oX3 (rtP (rS 2) (rS 4) (rS 5) rY))), ((rS 4), .inr (1, oX1 rE)), ((rS 5), .inr (2, oX2 rW)), ((rG 11), .inl (cy 2, 5, .inl G_isFalse)), ((rG 12), .inl (cy 0, 4, .inl G_kind)), (((rtP (rS 2) (rS 4) (rS 5) rF) 3), .inl (cy 0, 29, .inl F_all)), (((rtP (rS 2) (rS 4) (rS 5) rY) 3), .inl (cy 0, 29, .inl Y_all)), ((rE 0), .inl (cy 1, 100, .inl E_heardAt)), ((rE 1), .inl (cy 1, 3200, .inl E_nearest)), ((rE 3), .inl (cy 0, 4, .inl E_ofVoice)), ((rE 4), .inl (cy 0, 5, .inl E_alike)), ((rW 0), .inl (cy 0, 400, .inl W_next)), ((rW 1), .inl (cy 0, 500, .inl W_way)), ((rW 2), .inl (cy 0, 5, .inl W_goal)), ((rS 2), .inr (4, oX4 rG sG)), (h0, .inr (10, oX10 rS sS))] := hD
  refine lv_aload_n hx hb dX10_forever_10 rfl (lv_at hl 0 rfl) ?_
  refine gfX10_23 hx hb hts hown hK hP 17 rfl dX10_forever_11 ?_
  refine lv_iload_n hx hb dX10_forever_14 rfl (lv_at hl 2 rfl) ?_
  refine clVi (As := [.int x2]) (rest := []) (Wr := [((rS 8), .inr (0, oX0 rC sC)), ((rC 0), .inr (3, oX3 (rtP (rS 2) (rS 4) (rS 5) rF))), ((rS 12), .inr (3, oX3 (rtP (rS 2) (rS 4) (rS 5) rY))), ((rS 4), .inr (1, oX1 rE)), ((rS 5), .inr (2, oX2 rW)), ((rG 11), .inl (cy 2, 5, .inl G_isFalse)), ((rG 12), .inl (cy 0, 4, .inl G_kind)), (((rtP (rS 2) (rS 4) (rS 5) rF) 3), .inl (cy 0, 29, .inl F_all)), (((rtP (rS 2) (rS 4) (rS 5) rY) 3), .inl (cy 0, 29, .inl Y_all)), ((rE 0), .inl (cy 1, 100, .inl E_heardAt)), ((rE 1), .inl (cy 1, 3200, .inl E_nearest)), ((rE 3), .inl (cy 0, 4, .inl E_ofVoice)), ((rE 4), .inl (cy 0, 5, .inl E_alike)), ((rW 0), .inl (cy 0, 400, .inl W_next)), ((rW 1), .inl (cy 0, 500, .inl W_way)), ((rW 2), .inl (cy 0, 5, .inl W_goal)), (h0, .inr (10, oX10 rS sS))]) (cq := (RX4, TX4, 16)) ⟨hx, hb, hml, hown, hts⟩ ⟨callB_of 1 hts (goodC mw534) rfl rfl rfl (hts _ (tb mw3)) (hts _ (tb mw1133)) kdX4_hasTowers ⟨Nat.le_trans (by decide) hRf, Nat.le_trans (by decide) hRl⟩, hts _ (tb mw532), hts _ (tb mw533)⟩ (ctX4_hasTowers l D cy ev (rS 2) rG sG x2 _ _ h) hE hK hP hD hS hA [16] [0, 1, 2, 3, 4, 5, 6, 7, 8, 9, 10, 11, 12, 13, 14, 15, 17] rfl rfl (by decide) (by decide) (by decide) 0 rfl rfl rfl hl.1 rfl (Nat.le_of_ble_eq_true rfl) ⟨Nat.le_trans (by decide) hRc, Nat.le_trans (by decide) hRs⟩ dX10_forever_15 (fun r15 u H locs h hP hD hS => ?_)
  have hP : va_P D clsX [((rS 8), .inr (0, oX0 rC sC)), ((rC 0), .inr (3, oX3 (rtP (rS 2) (rS 4) (rS 5) rF))), ((rS 12), .inr (3, oX3 (rtP (rS 2) (rS 4) (rS 5) rY))), ((rS 4), .inr (1, oX1 rE)), ((rS 5), .inr (2, oX2 rW)), ((rG 11), .inl (cy 2, 5, .inl G_isFalse)), ((rG 12), .inl (cy 0, 4, .inl G_kind)), (((rtP (rS 2) (rS 4) (rS 5) rF) 3), .inl (cy 0, 29, .inl F_all)), (((rtP (rS 2) (rS 4) (rS 5) rY) 3), .inl (cy 0, 29, .inl Y_all)), ((rE 0), .inl (cy 1, 100, .inl E_heardAt)), ((rE 1), .inl (cy 1, 3200, .inl E_nearest)), ((rE 3), .inl (cy 0, 4, .inl E_ofVoice)), ((rE 4), .inl (cy 0, 5, .inl E_alike)), ((rW 0), .inl (cy 0, 400, .inl W_next)), ((rW 1), .inl (cy 0, 500, .inl W_way)), ((rW 2), .inl (cy 0, 5, .inl W_goal)), (h0, .inr (10, oX10 rS sS)), ((rS 2), .inr (4, oX4 rG sG))] H := hP
  have hD : va_D A [((rS 8), .inr (0, oX0 rC sC)), ((rC 0), .inr (3, oX3 (rtP (rS 2) (rS 4) (rS 5) rF))), ((rS 12), .inr (3, oX3 (rtP (rS 2) (rS 4) (rS 5) rY))), ((rS 4), .inr (1, oX1 rE)), ((rS 5), .inr (2, oX2 rW)), ((rG 11), .inl (cy 2, 5, .inl G_isFalse)), ((rG 12), .inl (cy 0, 4, .inl G_kind)), (((rtP (rS 2) (rS 4) (rS 5) rF) 3), .inl (cy 0, 29, .inl F_all)), (((rtP (rS 2) (rS 4) (rS 5) rY) 3), .inl (cy 0, 29, .inl Y_all)), ((rE 0), .inl (cy 1, 100, .inl E_heardAt)), ((rE 1), .inl (cy 1, 3200, .inl E_nearest)), ((rE 3), .inl (cy 0, 4, .inl E_ofVoice)), ((rE 4), .inl (cy 0, 5, .inl E_alike)), ((rW 0), .inl (cy 0, 400, .inl W_next)), ((rW 1), .inl (cy 0, 500, .inl W_way)), ((rW 2), .inl (cy 0, 5, .inl W_goal)), (h0, .inr (10, oX10 rS sS)), ((rS 2), .inr (4, oX4 rG sG))] := hD
  refine lv_if_eq (tgt := 36) hx hb dX10_forever_18 (by decide) (fun c18 => ?_) (fun c18 => ?_)
  · have h := h.1 c18
    refine lv_iconst (v := (-1 : Int32)) hx hb dX10_forever_36 (by decide) ?_
    exact hret (-1 : Int32) (Y_all) _ _ _ _ rfl dX10_forever_37 h (hP.sub [16, 17, 0, 1, 2, 3, 4, 5, 6, 7, 8, 9, 10, 11, 12, 13, 14, 15] rfl) (hD.sub [16, 17, 0, 1, 2, 3, 4, 5, 6, 7, 8, 9, 10, 11, 12, 13, 14, 15] (by decide) rfl) hS
  · have h := h.2 c18
    refine lv_aload_n hx hb dX10_forever_21 rfl (lv_at hl 0 rfl) ?_
    refine gfX10_67 hx hb hts hown hK hP 16 rfl dX10_forever_22 ?_
    refine gfX10_206 hx hb hts hown hK hP 0 rfl dX10_forever_25 ?_
    refine lv_iload_n hx hb dX10_forever_28 rfl (lv_at hl 1 rfl) ?_
    refine lv_iconst (v := (3 : Int32)) hx hb dX10_forever_29 (by decide) ?_
    refine clVi (As := [.int x1, .int (3 : Int32)]) (rest := []) (Wr := [((rS 8), .inr (0, oX0 rC sC)), ((rS 12), .inr (3, oX3 (rtP (rS 2) (rS 4) (rS 5) rY))), ((rS 4), .inr (1, oX1 rE)), ((rS 5), .inr (2, oX2 rW)), ((rG 11), .inl (cy 2, 5, .inl G_isFalse)), ((rG 12), .inl (cy 0, 4, .inl G_kind)), (((rtP (rS 2) (rS 4) (rS 5) rY) 3), .inl (cy 0, 29, .inl Y_all)), ((rE 0), .inl (cy 1, 100, .inl E_heardAt)), ((rE 1), .inl (cy 1, 3200, .inl E_nearest)), ((rE 3), .inl (cy 0, 4, .inl E_ofVoice)), ((rE 4), .inl (cy 0, 5, .inl E_alike)), ((rW 0), .inl (cy 0, 400, .inl W_next)), ((rW 1), .inl (cy 0, 500, .inl W_way)), ((rW 2), .inl (cy 0, 5, .inl W_goal)), (h0, .inr (10, oX10 rS sS)), ((rS 2), .inr (4, oX4 rG sG))]) (cq := (RX3, TX3, 5)) ⟨hx, hb, hml, hown, hts⟩ ⟨callB_of 2 hts (goodC mw559) rfl rfl rfl (hts _ (tb mw9)) (hts _ (tb mw978)) kdX3_of ⟨Nat.le_trans (by decide) hRf, Nat.le_trans (by decide) hRl⟩, hts _ (tb mw557), hts _ (tb mw558)⟩ (ctX3_of l D cy ev (rC 0) (rtP (rS 2) (rS 4) (rS 5) rF) F_all x1 (3 : Int32) _ _ h) hE hK hP hD hS hA [1, 7] [0, 2, 3, 4, 5, 6, 8, 9, 10, 11, 12, 13, 14, 15, 16, 17] rfl rfl (by decide) (by decide) (by decide) 0 rfl rfl rfl hl.1 rfl (Nat.le_of_ble_eq_true rfl) ⟨Nat.le_trans (by decide) hRc, Nat.le_trans (by decide) hRs⟩ dX10_forever_30 (fun r30 u H locs h hP hD hS => ?_)
    have hP : va_P D clsX [((rS 8), .inr (0, oX0 rC sC)), ((rS 12), .inr (3, oX3 (rtP (rS 2) (rS 4) (rS 5) rY))), ((rS 4), .inr (1, oX1 rE)), ((rS 5), .inr (2, oX2 rW)), ((rG 11), .inl (cy 2, 5, .inl G_isFalse)), ((rG 12), .inl (cy 0, 4, .inl G_kind)), (((rtP (rS 2) (rS 4) (rS 5) rY) 3), .inl (cy 0, 29, .inl Y_all)), ((rE 0), .inl (cy 1, 100, .inl E_heardAt)), ((rE 1), .inl (cy 1, 3200, .inl E_nearest)), ((rE 3), .inl (cy 0, 4, .inl E_ofVoice)), ((rE 4), .inl (cy 0, 5, .inl E_alike)), ((rW 0), .inl (cy 0, 400, .inl W_next)), ((rW 1), .inl (cy 0, 500, .inl W_way)), ((rW 2), .inl (cy 0, 5, .inl W_goal)), (h0, .inr (10, oX10 rS sS)), ((rS 2), .inr (4, oX4 rG sG)), ((rC 0), .inr (3, oX3 (rtP (rS 2) (rS 4) (rS 5) rF))), (((rtP (rS 2) (rS 4) (rS 5) rF) 3), .inl (cy 0, 29, .inl F_all))] H := hP
    have hD : va_D A [((rS 8), .inr (0, oX0 rC sC)), ((rS 12), .inr (3, oX3 (rtP (rS 2) (rS 4) (rS 5) rY))), ((rS 4), .inr (1, oX1 rE)), ((rS 5), .inr (2, oX2 rW)), ((rG 11), .inl (cy 2, 5, .inl G_isFalse)), ((rG 12), .inl (cy 0, 4, .inl G_kind)), (((rtP (rS 2) (rS 4) (rS 5) rY) 3), .inl (cy 0, 29, .inl Y_all)), ((rE 0), .inl (cy 1, 100, .inl E_heardAt)), ((rE 1), .inl (cy 1, 3200, .inl E_nearest)), ((rE 3), .inl (cy 0, 4, .inl E_ofVoice)), ((rE 4), .inl (cy 0, 5, .inl E_alike)), ((rW 0), .inl (cy 0, 400, .inl W_next)), ((rW 1), .inl (cy 0, 500, .inl W_way)), ((rW 2), .inl (cy 0, 5, .inl W_goal)), (h0, .inr (10, oX10 rS sS)), ((rS 2), .inr (4, oX4 rG sG)), ((rC 0), .inr (3, oX3 (rtP (rS 2) (rS 4) (rS 5) rF))), (((rtP (rS 2) (rS 4) (rS 5) rF) 3), .inl (cy 0, 29, .inl F_all))] := hD
    refine lv_if_eq (tgt := 38) hx hb dX10_forever_33 (by decide) (fun c33 => ?_) (fun c33 => ?_)
    · have h := h.1 c33
      refine lv_aload_n hx hb dX10_forever_38 rfl (lv_at hl 0 rfl) ?_
      refine gfX10_91 hx hb hts hown hK hP 14 rfl dX10_forever_39 ?_
      refine lv_aload_n hx hb dX10_forever_42 rfl (lv_at hl 0 rfl) ?_
      refine gfX10_67 hx hb hts hown hK hP 14 rfl dX10_forever_43 ?_
      refine gfX10_206 hx hb hts hown hK hP 0 rfl dX10_forever_46 ?_
      refine clVv (As := [.ref (rC 0)]) (rest := []) (Wr := [((rS 8), .inr (0, oX0 rC sC)), ((rS 4), .inr (1, oX1 rE)), ((rS 5), .inr (2, oX2 rW)), ((rG 11), .inl (cy 2, 5, .inl G_isFalse)), ((rG 12), .inl (cy 0, 4, .inl G_kind)), ((rE 0), .inl (cy 1, 100, .inl E_heardAt)), ((rE 1), .inl (cy 1, 3200, .inl E_nearest)), ((rE 3), .inl (cy 0, 4, .inl E_ofVoice)), ((rE 4), .inl (cy 0, 5, .inl E_alike)), ((rW 0), .inl (cy 0, 400, .inl W_next)), ((rW 1), .inl (cy 0, 500, .inl W_way)), ((rW 2), .inl (cy 0, 5, .inl W_goal)), (h0, .inr (10, oX10 rS sS)), ((rS 2), .inr (4, oX4 rG sG))]) (cq := (RX3, TX3, 5)) ⟨hx, hb, hml, hown, hts⟩ ⟨callB_of 1 hts (goodC mw644) rfl rfl rfl (hts _ (tb mw9)) (hts _ (tb mw1134)) kdX3_take ⟨Nat.le_trans (by decide) hRf, Nat.le_trans (by decide) hRl⟩, hts _ (tb mw642), hts _ (tb mw643)⟩ (ctX3_take l D cy ev (rS 12) (rC 0) (rtP (rS 2) (rS 4) (rS 5) rF) (rtP (rS 2) (rS 4) (rS 5) rY) F_all Y_all  _ _ h) hE hK hP hD hS hA [16, 1, 17, 6] [0, 2, 3, 4, 5, 7, 8, 9, 10, 11, 12, 13, 14, 15] rfl rfl (by decide) (by decide) (by decide) 1 rfl rfl rfl hl.1 rfl (Nat.le_of_ble_eq_true rfl) ⟨Nat.le_trans (by decide) hRc, Nat.le_trans (by decide) hRs⟩ dX10_forever_49 (fun Y_all_49 H locs h hP hD hS => ?_)
      have hP : va_P D clsX [((rS 8), .inr (0, oX0 rC sC)), ((rS 4), .inr (1, oX1 rE)), ((rS 5), .inr (2, oX2 rW)), ((rG 11), .inl (cy 2, 5, .inl G_isFalse)), ((rG 12), .inl (cy 0, 4, .inl G_kind)), ((rE 0), .inl (cy 1, 100, .inl E_heardAt)), ((rE 1), .inl (cy 1, 3200, .inl E_nearest)), ((rE 3), .inl (cy 0, 4, .inl E_ofVoice)), ((rE 4), .inl (cy 0, 5, .inl E_alike)), ((rW 0), .inl (cy 0, 400, .inl W_next)), ((rW 1), .inl (cy 0, 500, .inl W_way)), ((rW 2), .inl (cy 0, 5, .inl W_goal)), (h0, .inr (10, oX10 rS sS)), ((rS 2), .inr (4, oX4 rG sG)), ((rC 0), .inr (3, oX3 (rtP (rS 2) (rS 4) (rS 5) rF))), ((rS 12), .inr (3, oX3 (rtP (rS 2) (rS 4) (rS 5) rY))), (((rtP (rS 2) (rS 4) (rS 5) rF) 3), .inl (cy 0, 29, .inl F_all)), (((rtP (rS 2) (rS 4) (rS 5) rY) 3), .inl (cy 0, 29, .inl Y_all_49))] H := hP
      have hD : va_D A [((rS 8), .inr (0, oX0 rC sC)), ((rS 4), .inr (1, oX1 rE)), ((rS 5), .inr (2, oX2 rW)), ((rG 11), .inl (cy 2, 5, .inl G_isFalse)), ((rG 12), .inl (cy 0, 4, .inl G_kind)), ((rE 0), .inl (cy 1, 100, .inl E_heardAt)), ((rE 1), .inl (cy 1, 3200, .inl E_nearest)), ((rE 3), .inl (cy 0, 4, .inl E_ofVoice)), ((rE 4), .inl (cy 0, 5, .inl E_alike)), ((rW 0), .inl (cy 0, 400, .inl W_next)), ((rW 1), .inl (cy 0, 500, .inl W_way)), ((rW 2), .inl (cy 0, 5, .inl W_goal)), (h0, .inr (10, oX10 rS sS)), ((rS 2), .inr (4, oX4 rG sG)), ((rC 0), .inr (3, oX3 (rtP (rS 2) (rS 4) (rS 5) rF))), ((rS 12), .inr (3, oX3 (rtP (rS 2) (rS 4) (rS 5) rY))), (((rtP (rS 2) (rS 4) (rS 5) rF) 3), .inl (cy 0, 29, .inl F_all)), (((rtP (rS 2) (rS 4) (rS 5) rY) 3), .inl (cy 0, 29, .inl Y_all_49))] := hD
      refine lv_aload_n hx hb dX10_forever_52 rfl (lv_at hl 0 rfl) ?_
      refine gfX10_91 hx hb hts hown hK hP 12 rfl dX10_forever_53 ?_
      refine lv_iload_n hx hb dX10_forever_56 rfl (lv_at hl 1 rfl) ?_
      refine lv_iload_n hx hb dX10_forever_57 rfl (lv_at hl 2 rfl) ?_
      refine lv_iload_n hx hb dX10_forever_58 rfl (lv_at hl 3 rfl) ?_
      refine clVi (As := [.int x1, .int x2, .int x3]) (rest := []) (Wr := [((rS 8), .inr (0, oX0 rC sC)), (h0, .inr (10, oX10 rS sS)), ((rC 0), .inr (3, oX3 (rtP (rS 2) (rS 4) (rS 5) rF))), (((rtP (rS 2) (rS 4) (rS 5) rF) 3), .inl (cy 0, 29, .inl F_all))]) (cq := (RX3, TX3, 5)) ⟨hx, hb, hml, hown, hts⟩ ⟨callB_of 3 hts (goodC mw1138) rfl rfl rfl (hts _ (tb mw9)) (hts _ (tb mw1135)) kdX3_endOf ⟨Nat.le_trans (by decide) hRf, Nat.le_trans (by decide) hRl⟩, hts _ (tb mw1136), hts _ (tb mw1137)⟩ (ctX3_endOf l D cy ev (rS 12) (rtP (rS 2) (rS 4) (rS 5) rY) rG rE rW sG Y_all_49 G_isFalse G_kind E_heardAt E_nearest E_ofVoice E_alike W_next W_way W_goal x1 x2 x3 _ _ h) hE hK hP hD hS hA [15, 13, 1, 2, 17, 3, 4, 5, 6, 7, 8, 9, 10, 11] [0, 12, 14, 16] rfl rfl (by decide) (by decide) (by decide) 0 rfl rfl rfl hl.1 rfl (Nat.le_of_ble_eq_true rfl) ⟨Nat.le_trans (by decide) hRc, Nat.le_trans (by decide) hRs⟩ dX10_forever_59 (fun r59 Y_all_59 H locs h hP hD hS => ?_)
      have hP : va_P D clsX [((rS 8), .inr (0, oX0 rC sC)), (h0, .inr (10, oX10 rS sS)), ((rC 0), .inr (3, oX3 (rtP (rS 2) (rS 4) (rS 5) rF))), (((rtP (rS 2) (rS 4) (rS 5) rF) 3), .inl (cy 0, 29, .inl F_all)), ((rS 12), .inr (3, oX3 (rtP (rS 2) (rS 4) (rS 5) rY))), ((rS 2), .inr (4, oX4 rG sG)), ((rS 4), .inr (1, oX1 rE)), ((rS 5), .inr (2, oX2 rW)), (((rtP (rS 2) (rS 4) (rS 5) rY) 3), .inl (cy 0, 29, .inl Y_all_59)), ((rG 11), .inl (cy 2, 5, .inl G_isFalse)), ((rG 12), .inl (cy 0, 4, .inl G_kind)), ((rE 0), .inl (cy 1, 100, .inl E_heardAt)), ((rE 1), .inl (cy 1, 3200, .inl E_nearest)), ((rE 3), .inl (cy 0, 4, .inl E_ofVoice)), ((rE 4), .inl (cy 0, 5, .inl E_alike)), ((rW 0), .inl (cy 0, 400, .inl W_next)), ((rW 1), .inl (cy 0, 500, .inl W_way)), ((rW 2), .inl (cy 0, 5, .inl W_goal))] H := hP
      have hD : va_D A [((rS 8), .inr (0, oX0 rC sC)), (h0, .inr (10, oX10 rS sS)), ((rC 0), .inr (3, oX3 (rtP (rS 2) (rS 4) (rS 5) rF))), (((rtP (rS 2) (rS 4) (rS 5) rF) 3), .inl (cy 0, 29, .inl F_all)), ((rS 12), .inr (3, oX3 (rtP (rS 2) (rS 4) (rS 5) rY))), ((rS 2), .inr (4, oX4 rG sG)), ((rS 4), .inr (1, oX1 rE)), ((rS 5), .inr (2, oX2 rW)), (((rtP (rS 2) (rS 4) (rS 5) rY) 3), .inl (cy 0, 29, .inl Y_all_59)), ((rG 11), .inl (cy 2, 5, .inl G_isFalse)), ((rG 12), .inl (cy 0, 4, .inl G_kind)), ((rE 0), .inl (cy 1, 100, .inl E_heardAt)), ((rE 1), .inl (cy 1, 3200, .inl E_nearest)), ((rE 3), .inl (cy 0, 4, .inl E_ofVoice)), ((rE 4), .inl (cy 0, 5, .inl E_alike)), ((rW 0), .inl (cy 0, 400, .inl W_next)), ((rW 1), .inl (cy 0, 500, .inl W_way)), ((rW 2), .inl (cy 0, 5, .inl W_goal))] := hD
      exact hret r59 (Y_all_59) _ _ _ _ rfl dX10_forever_62 h (hP.sub [1, 5, 0, 2, 4, 6, 7, 9, 10, 3, 8, 11, 12, 13, 14, 15, 16, 17] rfl) (hD.sub [1, 5, 0, 2, 4, 6, 7, 9, 10, 3, 8, 11, 12, 13, 14, 15, 16, 17] (by decide) rfl) hS
    · have h := h.2 c33
      refine lv_iconst (v := (-1 : Int32)) hx hb dX10_forever_36 (by decide) ?_
      exact hret (-1 : Int32) (Y_all) _ _ _ _ rfl dX10_forever_37 h (hP.sub [14, 15, 0, 16, 1, 2, 3, 4, 5, 17, 6, 7, 8, 9, 10, 11, 12, 13] rfl) (hD.sub [14, 15, 0, 16, 1, 2, 3, 4, 5, 17, 6, 7, 8, 9, 10, 11, 12, 13] (by decide) rfl) hS
def wpX10_night_J10 (sG : AR) (sC : AR) (sQ : AR) (G_isFalse : AR) (G_kind : AR) (C_past : AR) (F_all : AR) (F_reasons : AR) (E_heardAt : AR) (E_nearest : AR) (E_ofVoice : AR) (E_alike : AR) (W_next : AR) (W_way : AR) (W_goal : AR) (Q_cell : AR) (Q_heading : AR) (post : Int32 → AR → AR → AR → AR → AR → AR → AR → Prop) (postX : String → Prop) : Prop := postX exI
def wpX10_night_L41 (sG : AR) (sC : AR) (sQ : AR) (G_isFalse : AR) (G_kind : AR) (C_past : AR) (F_all : AR) (F_reasons : AR) (E_heardAt : AR) (E_nearest : AR) (E_ofVoice : AR) (E_alike : AR) (W_next : AR) (W_way : AR) (W_goal : AR) (Q_cell : AR) (Q_heading : AR) (l2 : Int32) (l4 : Int32) (l5 : Int32) (kx103 : Int32 → Int32 → Int32 → Prop) (post : Int32 → AR → AR → AR → AR → AR → AR → AR → Prop) (postX : String → Prop) : Nat → Int32 → Int32 → Int32 → Prop
  | 0, _, _, _ => False
  | nf41 + 1, l3, l6, l7 => (((sG 2) ≤ l7 → kx103 l3 l6 l7) ∧ (¬ (sG 2) ≤ l7 → ∀ l3_62 : Int32, l3_62 = ((l3 * (1103515245 : Int32)) + (12345 : Int32)) → ((¬ ((jush l3_62 (16 : Int32)) &&& (1 : Int32)) = (1 : Int32) → ∀ l7_97 : Int32, l7_97 = (l7 + (1 : Int32)) → wpX10_night_L41 sG sC sQ G_isFalse G_kind C_past F_all F_reasons E_heardAt E_nearest E_ofVoice E_alike W_next W_way W_goal Q_cell Q_heading l2 l4 l5 kx103 post postX nf41 l3_62 l6 l7_97) ∧ (((jush l3_62 (16 : Int32)) &&& (1 : Int32)) = (1 : Int32) → wpX3_strokesLeft F_all l7 (fun r82 => ((r82 ≤ 0 → ∀ l7_97 : Int32, l7_97 = (l7 + (1 : Int32)) → wpX10_night_L41 sG sC sQ G_isFalse G_kind C_past F_all F_reasons E_heardAt E_nearest E_ofVoice E_alike W_next W_way W_goal Q_cell Q_heading l2 l4 l5 kx103 post postX nf41 l3_62 l6 l7_97) ∧ (¬ r82 ≤ 0 → ∀ l6_95 : Int32, l6_95 = (l6 ||| (jshl (1 : Int32) l7)) → ∀ l7_97 : Int32, l7_97 = (l7 + (1 : Int32)) → wpX10_night_L41 sG sC sQ G_isFalse G_kind C_past F_all F_reasons E_heardAt E_nearest E_ofVoice E_alike W_next W_way W_goal Q_cell Q_heading l2 l4 l5 kx103 post postX nf41 l3_62 l6_95 l7_97)))))))
def wpX10_night_L29 (sG : AR) (G_isFalse : AR) (G_kind : AR) (E_heardAt : AR) (E_nearest : AR) (E_ofVoice : AR) (E_alike : AR) (W_next : AR) (W_way : AR) (W_goal : AR) (l2 : Int32) (kx120 : AR → AR → AR → AR → AR → AR → AR → Int32 → Int32 → Int32 → Prop) (post : Int32 → AR → AR → AR → AR → AR → AR → AR → Prop) (postX : String → Prop) : Nat → AR → AR → AR → AR → AR → AR → AR → Int32 → Int32 → Int32 → Prop
  | 0, _, _, _, _, _, _, _, _, _, _ => False
  | nf29 + 1, sC, sQ, C_past, F_all, F_reasons, Q_cell, Q_heading, l3, l4, l5 => ((l2 ≤ l5 → kx120 sC sQ C_past F_all F_reasons Q_cell Q_heading l3 l4 l5) ∧ (¬ l2 ≤ l5 → ∃ nf41 : Nat, wpX10_night_L41 sG sC sQ G_isFalse G_kind C_past F_all F_reasons E_heardAt E_nearest E_ofVoice E_alike W_next W_way W_goal Q_cell Q_heading l2 l4 l5 (fun l3_103 l6_103 l7_103 => wpX10_strike sC sG sQ C_past F_all F_reasons G_isFalse G_kind E_heardAt E_nearest E_ofVoice E_alike W_next W_way W_goal Q_cell Q_heading l6_103 (fun r108 sC_108 sQ_108 C_past_108 F_all_108 F_reasons_108 Q_cell_108 Q_heading_108 => ∀ l4_112 : Int32, l4_112 = (l4 + r108) → ∀ l5_114 : Int32, l5_114 = (l5 + (1 : Int32)) → wpX10_night_L29 sG G_isFalse G_kind E_heardAt E_nearest E_ofVoice E_alike W_next W_way W_goal l2 kx120 post postX nf29 sC_108 sQ_108 C_past_108 F_all_108 F_reasons_108 Q_cell_108 Q_heading_108 l3_103 l4_112 l5_114)) post postX nf41 l3 (0 : Int32) (0 : Int32)))
def wpX10_night (sG : AR) (sC : AR) (sQ : AR) (G_isFalse : AR) (G_kind : AR) (C_past : AR) (F_all : AR) (F_reasons : AR) (E_heardAt : AR) (E_nearest : AR) (E_ofVoice : AR) (E_alike : AR) (W_next : AR) (W_way : AR) (W_goal : AR) (Q_cell : AR) (Q_heading : AR) (x1 : Int32) (x2 : Int32) (post : Int32 → AR → AR → AR → AR → AR → AR → AR → Prop) (postX : String → Prop) : Prop := ((x2 < 0 → wpX10_night_J10 sG sC sQ G_isFalse G_kind C_past F_all F_reasons E_heardAt E_nearest E_ofVoice E_alike W_next W_way W_goal Q_cell Q_heading post postX) ∧ (¬ x2 < 0 → ((x2 ≤ (100 : Int32) → ∃ nf29 : Nat, wpX10_night_L29 sG G_isFalse G_kind E_heardAt E_nearest E_ofVoice E_alike W_next W_way W_goal x2 (fun sC_120 sQ_120 C_past_120 F_all_120 F_reasons_120 Q_cell_120 Q_heading_120 l3_120 l4_120 l5_120 => post l4_120 sC_120 sQ_120 C_past_120 F_all_120 F_reasons_120 Q_cell_120 Q_heading_120) post postX nf29 sC sQ C_past F_all F_reasons Q_cell Q_heading x1 (0 : Int32) (0 : Int32)) ∧ (¬ x2 ≤ (100 : Int32) → wpX10_night_J10 sG sC sQ G_isFalse G_kind C_past F_all F_reasons E_heardAt E_nearest E_ofVoice E_alike W_next W_way W_goal Q_cell Q_heading post postX))))
set_option maxHeartbeats 4000000 in
set_option maxRecDepth 100000 in
theorem ctX10_night (l : Launch) (D : va_G) (cy : Nat → ClassId) (ev : Nat → Nat) (hst : l.stackTraces = false) (h0 : Nat) (rS : Nat → Nat) (rG : Nat → Nat) (rC : Nat → Nat) (rF : Nat → Nat) (rE : Nat → Nat) (rW : Nat → Nat) (rQ : Nat → Nat) (sS : AR) (sG : AR) (sC : AR) (sQ : AR) (G_isFalse : AR) (G_kind : AR) (C_past : AR) (F_all : AR) (F_reasons : AR) (E_heardAt : AR) (E_nearest : AR) (E_ofVoice : AR) (E_alike : AR) (W_next : AR) (W_way : AR) (W_goal : AR) (Q_cell : AR) (Q_heading : AR) (x1 : Int32) (x2 : Int32) (sz : Nat) (post : Int32 → AR → AR → AR → AR → AR → AR → AR → Prop) (postX : String → Prop) (h : wpX10_night sG sC sQ G_isFalse G_kind C_past F_all F_reasons E_heardAt E_nearest E_ofVoice E_alike W_next W_way W_goal Q_cell Q_heading x1 x2 post postX) : vx_Met l yX10_night (Cond.code yX10_night cX10_night 8 (some .int) :: TB) ({ frames := 7, cells := 1, slots := 6, locals := 166 }) (va_Pc [.ref h0, .int x1, .int x2] (PreT D cy ev [(h0, .inr (10, oX10 rS sS)), ((rS 2), .inr (4, oX4 rG sG)), ((rS 8), .inr (0, oX0 rC sC)), ((rC 0), .inr (3, oX3 (rtP (rS 2) (rS 4) (rS 5) rF))), ((rS 4), .inr (1, oX1 rE)), ((rS 5), .inr (2, oX2 rW)), ((rS 10), .inr (7, oX7 (rtP (rS 2) (rS 4) (rS 5) rQ) sQ)), ((rG 11), .inl (cy 2, 5, .inl G_isFalse)), ((rG 12), .inl (cy 0, 4, .inl G_kind)), ((rC 1), .inl (cy 0, 3400, .inl C_past)), (((rtP (rS 2) (rS 4) (rS 5) rF) 3), .inl (cy 0, 29, .inl F_all)), (((rtP (rS 2) (rS 4) (rS 5) rF) 4), .inl (cy 0, 4, .inl F_reasons)), ((rE 0), .inl (cy 1, 100, .inl E_heardAt)), ((rE 1), .inl (cy 1, 3200, .inl E_nearest)), ((rE 3), .inl (cy 0, 4, .inl E_ofVoice)), ((rE 4), .inl (cy 0, 5, .inl E_alike)), ((rW 0), .inl (cy 0, 400, .inl W_next)), ((rW 1), .inl (cy 0, 500, .inl W_way)), ((rW 2), .inl (cy 0, 5, .inl W_goal)), (((rtP (rS 2) (rS 4) (rS 5) rQ) 3), .inl (cy 0, 100, .inl Q_cell)), (((rtP (rS 2) (rS 4) (rS 5) rQ) 4), .inl (cy 0, 100, .inl Q_heading))] sz)) (va_Qi (fun (r : Int32) (u : AR × AR × AR × AR × AR × AR × AR) => post r (u.1) (u.2.1) (u.2.2.1) (u.2.2.2.1) (u.2.2.2.2.1) (u.2.2.2.2.2.1) (u.2.2.2.2.2.2)) (fun u => BkX D cy [(h0, .inr (10, oX10 rS sS)), ((rS 2), .inr (4, oX4 rG sG)), ((rS 8), .inr (0, oX0 rC sC)), ((rC 0), .inr (3, oX3 (rtP (rS 2) (rS 4) (rS 5) rF))), ((rS 4), .inr (1, oX1 rE)), ((rS 5), .inr (2, oX2 rW)), ((rS 10), .inr (7, oX7 (rtP (rS 2) (rS 4) (rS 5) rQ) sQ)), ((rG 11), .inl (cy 2, 5, .inl G_isFalse)), ((rG 12), .inl (cy 0, 4, .inl G_kind)), ((rC 1), .inl (cy 0, 3400, .inl C_past)), (((rtP (rS 2) (rS 4) (rS 5) rF) 3), .inl (cy 0, 29, .inl F_all)), (((rtP (rS 2) (rS 4) (rS 5) rF) 4), .inl (cy 0, 4, .inl F_reasons)), ((rE 0), .inl (cy 1, 100, .inl E_heardAt)), ((rE 1), .inl (cy 1, 3200, .inl E_nearest)), ((rE 3), .inl (cy 0, 4, .inl E_ofVoice)), ((rE 4), .inl (cy 0, 5, .inl E_alike)), ((rW 0), .inl (cy 0, 400, .inl W_next)), ((rW 1), .inl (cy 0, 500, .inl W_way)), ((rW 2), .inl (cy 0, 5, .inl W_goal)), (((rtP (rS 2) (rS 4) (rS 5) rQ) 3), .inl (cy 0, 100, .inl Q_cell)), (((rtP (rS 2) (rS 4) (rS 5) rQ) 4), .inl (cy 0, 100, .inl Q_heading))] sz [(h0, .inr (10, oX10 rS sS)), ((rS 2), .inr (4, oX4 rG sG)), ((rS 8), .inr (0, oX0 rC (u.1))), ((rC 0), .inr (3, oX3 (rtP (rS 2) (rS 4) (rS 5) rF))), ((rS 4), .inr (1, oX1 rE)), ((rS 5), .inr (2, oX2 rW)), ((rS 10), .inr (7, oX7 (rtP (rS 2) (rS 4) (rS 5) rQ) (u.2.1))), ((rG 11), .inl (cy 2, 5, .inl G_isFalse)), ((rG 12), .inl (cy 0, 4, .inl G_kind)), ((rC 1), .inl (cy 0, 3400, .inl (u.2.2.1))), (((rtP (rS 2) (rS 4) (rS 5) rF) 3), .inl (cy 0, 29, .inl (u.2.2.2.1))), (((rtP (rS 2) (rS 4) (rS 5) rF) 4), .inl (cy 0, 4, .inl (u.2.2.2.2.1))), ((rE 0), .inl (cy 1, 100, .inl E_heardAt)), ((rE 1), .inl (cy 1, 3200, .inl E_nearest)), ((rE 3), .inl (cy 0, 4, .inl E_ofVoice)), ((rE 4), .inl (cy 0, 5, .inl E_alike)), ((rW 0), .inl (cy 0, 400, .inl W_next)), ((rW 1), .inl (cy 0, 500, .inl W_way)), ((rW 2), .inl (cy 0, 5, .inl W_goal)), (((rtP (rS 2) (rS 4) (rS 5) rQ) 3), .inl (cy 0, 100, .inl (u.2.2.2.2.2.1))), (((rtP (rS 2) (rS 4) (rS 5) rQ) 4), .inl (cy 0, 100, .inl (u.2.2.2.2.2.2)))]) (va_A [(h0, .inr (10, oX10 rS sS)), ((rS 2), .inr (4, oX4 rG sG)), ((rS 8), .inr (0, oX0 rC sC)), ((rC 0), .inr (3, oX3 (rtP (rS 2) (rS 4) (rS 5) rF))), ((rS 4), .inr (1, oX1 rE)), ((rS 5), .inr (2, oX2 rW)), ((rS 10), .inr (7, oX7 (rtP (rS 2) (rS 4) (rS 5) rQ) sQ)), ((rG 11), .inl (cy 2, 5, .inl G_isFalse)), ((rG 12), .inl (cy 0, 4, .inl G_kind)), ((rC 1), .inl (cy 0, 3400, .inl C_past)), (((rtP (rS 2) (rS 4) (rS 5) rF) 3), .inl (cy 0, 29, .inl F_all)), (((rtP (rS 2) (rS 4) (rS 5) rF) 4), .inl (cy 0, 4, .inl F_reasons)), ((rE 0), .inl (cy 1, 100, .inl E_heardAt)), ((rE 1), .inl (cy 1, 3200, .inl E_nearest)), ((rE 3), .inl (cy 0, 4, .inl E_ofVoice)), ((rE 4), .inl (cy 0, 5, .inl E_alike)), ((rW 0), .inl (cy 0, 400, .inl W_next)), ((rW 1), .inl (cy 0, 500, .inl W_way)), ((rW 2), .inl (cy 0, 5, .inl W_goal)), (((rtP (rS 2) (rS 4) (rS 5) rQ) 3), .inl (cy 0, 100, .inl Q_cell)), (((rtP (rS 2) (rS 4) (rS 5) rQ) 4), .inl (cy 0, 100, .inl Q_heading))] sz)) (XcX D cy [(h0, .inr (10, oX10 rS sS)), ((rS 2), .inr (4, oX4 rG sG)), ((rS 8), .inr (0, oX0 rC sC)), ((rC 0), .inr (3, oX3 (rtP (rS 2) (rS 4) (rS 5) rF))), ((rS 4), .inr (1, oX1 rE)), ((rS 5), .inr (2, oX2 rW)), ((rS 10), .inr (7, oX7 (rtP (rS 2) (rS 4) (rS 5) rQ) sQ)), ((rG 11), .inl (cy 2, 5, .inl G_isFalse)), ((rG 12), .inl (cy 0, 4, .inl G_kind)), ((rC 1), .inl (cy 0, 3400, .inl C_past)), (((rtP (rS 2) (rS 4) (rS 5) rF) 3), .inl (cy 0, 29, .inl F_all)), (((rtP (rS 2) (rS 4) (rS 5) rF) 4), .inl (cy 0, 4, .inl F_reasons)), ((rE 0), .inl (cy 1, 100, .inl E_heardAt)), ((rE 1), .inl (cy 1, 3200, .inl E_nearest)), ((rE 3), .inl (cy 0, 4, .inl E_ofVoice)), ((rE 4), .inl (cy 0, 5, .inl E_alike)), ((rW 0), .inl (cy 0, 400, .inl W_next)), ((rW 1), .inl (cy 0, 500, .inl W_way)), ((rW 2), .inl (cy 0, 5, .inl W_goal)), (((rtP (rS 2) (rS 4) (rS 5) rQ) 3), .inl (cy 0, 100, .inl Q_cell)), (((rtP (rS 2) (rS 4) (rS 5) rQ) 4), .inl (cy 0, 100, .inl Q_heading))] sz postX) 1 6 (va_A [(h0, .inr (10, oX10 rS sS)), ((rS 2), .inr (4, oX4 rG sG)), ((rS 8), .inr (0, oX0 rC sC)), ((rC 0), .inr (3, oX3 (rtP (rS 2) (rS 4) (rS 5) rF))), ((rS 4), .inr (1, oX1 rE)), ((rS 5), .inr (2, oX2 rW)), ((rS 10), .inr (7, oX7 (rtP (rS 2) (rS 4) (rS 5) rQ) sQ)), ((rG 11), .inl (cy 2, 5, .inl G_isFalse)), ((rG 12), .inl (cy 0, 4, .inl G_kind)), ((rC 1), .inl (cy 0, 3400, .inl C_past)), (((rtP (rS 2) (rS 4) (rS 5) rF) 3), .inl (cy 0, 29, .inl F_all)), (((rtP (rS 2) (rS 4) (rS 5) rF) 4), .inl (cy 0, 4, .inl F_reasons)), ((rE 0), .inl (cy 1, 100, .inl E_heardAt)), ((rE 1), .inl (cy 1, 3200, .inl E_nearest)), ((rE 3), .inl (cy 0, 4, .inl E_ofVoice)), ((rE 4), .inl (cy 0, 5, .inl E_alike)), ((rW 0), .inl (cy 0, 400, .inl W_next)), ((rW 1), .inl (cy 0, 500, .inl W_way)), ((rW 2), .inl (cy 0, 5, .inl W_goal)), (((rtP (rS 2) (rS 4) (rS 5) rQ) 3), .inl (cy 0, 100, .inl Q_cell)), (((rtP (rS 2) (rS 4) (rS 5) rQ) 4), .inl (cy 0, 100, .inl Q_heading))] sz) := by
  refine ofXi hst (by decide) rfl (Nat.le_of_ble_eq_true rfl) ⟨by decide, by decide, by decide, by decide⟩ ?_
  intro p e s m args below meth c ls A R QQ hx hb hml hown hts hR hlk hE hT hK hP hD hS hA hl hthr hnN hnNW hnI hnIW hret
  have hRc : 1 ≤ R.cells := by rw [hR]; exact Nat.le_refl _
  have hRs : 6 ≤ R.slots := by rw [hR]; exact Nat.le_refl _
  have hown : s.vm.findClass RX10 = some m.cls := hown
  have hRf : 7 ≤ R.frames := by rw [hR]; exact Nat.le_refl _
  have hRl : 166 ≤ R.locals := by rw [hR]; exact Nat.le_refl _
  clear hR
  have hl : lv_has ls 8 [(0, .ref h0), (1, .int x1), (2, .int x2)] := hl
  have J10 : ∀ (H : Heap) (locs : List Loc) (ls : Array Slot), wpX10_night_J10 sG sC sQ G_isFalse G_kind C_past F_all F_reasons E_heardAt E_nearest E_ofVoice E_alike W_next W_way W_goal Q_cell Q_heading post postX → va_P D clsX [(h0, .inr (10, oX10 rS sS)), ((rS 2), .inr (4, oX4 rG sG)), ((rS 8), .inr (0, oX0 rC sC)), ((rC 0), .inr (3, oX3 (rtP (rS 2) (rS 4) (rS 5) rF))), ((rS 4), .inr (1, oX1 rE)), ((rS 5), .inr (2, oX2 rW)), ((rS 10), .inr (7, oX7 (rtP (rS 2) (rS 4) (rS 5) rQ) sQ)), ((rG 11), .inl (cy 2, 5, .inl G_isFalse)), ((rG 12), .inl (cy 0, 4, .inl G_kind)), ((rC 1), .inl (cy 0, 3400, .inl C_past)), (((rtP (rS 2) (rS 4) (rS 5) rF) 3), .inl (cy 0, 29, .inl F_all)), (((rtP (rS 2) (rS 4) (rS 5) rF) 4), .inl (cy 0, 4, .inl F_reasons)), ((rE 0), .inl (cy 1, 100, .inl E_heardAt)), ((rE 1), .inl (cy 1, 3200, .inl E_nearest)), ((rE 3), .inl (cy 0, 4, .inl E_ofVoice)), ((rE 4), .inl (cy 0, 5, .inl E_alike)), ((rW 0), .inl (cy 0, 400, .inl W_next)), ((rW 1), .inl (cy 0, 500, .inl W_way)), ((rW 2), .inl (cy 0, 5, .inl W_goal)), (((rtP (rS 2) (rS 4) (rS 5) rQ) 3), .inl (cy 0, 100, .inl Q_cell)), (((rtP (rS 2) (rS 4) (rS 5) rQ) 4), .inl (cy 0, 100, .inl Q_heading))] H → va_D A [(h0, .inr (10, oX10 rS sS)), ((rS 2), .inr (4, oX4 rG sG)), ((rS 8), .inr (0, oX0 rC sC)), ((rC 0), .inr (3, oX3 (rtP (rS 2) (rS 4) (rS 5) rF))), ((rS 4), .inr (1, oX1 rE)), ((rS 5), .inr (2, oX2 rW)), ((rS 10), .inr (7, oX7 (rtP (rS 2) (rS 4) (rS 5) rQ) sQ)), ((rG 11), .inl (cy 2, 5, .inl G_isFalse)), ((rG 12), .inl (cy 0, 4, .inl G_kind)), ((rC 1), .inl (cy 0, 3400, .inl C_past)), (((rtP (rS 2) (rS 4) (rS 5) rF) 3), .inl (cy 0, 29, .inl F_all)), (((rtP (rS 2) (rS 4) (rS 5) rF) 4), .inl (cy 0, 4, .inl F_reasons)), ((rE 0), .inl (cy 1, 100, .inl E_heardAt)), ((rE 1), .inl (cy 1, 3200, .inl E_nearest)), ((rE 3), .inl (cy 0, 4, .inl E_ofVoice)), ((rE 4), .inl (cy 0, 5, .inl E_alike)), ((rW 0), .inl (cy 0, 400, .inl W_next)), ((rW 1), .inl (cy 0, 500, .inl W_way)), ((rW 2), .inl (cy 0, 5, .inl W_goal)), (((rtP (rS 2) (rS 4) (rS 5) rQ) 3), .inl (cy 0, 100, .inl Q_cell)), (((rtP (rS 2) (rS 4) (rS 5) rQ) 4), .inl (cy 0, 100, .inl Q_heading))] → va_S A s.heap H locs → lv_has ls 8 [(0, .ref h0)] → W p l e R s m args below meth c H locs 0 0 QQ (F0 m 10 ls []) := by
    intro  H locs ls h hP hD hS hl
    exact hnIW _ _ _ _ _ _ _ _ _ _ (hE.1 31 (by decide)).1 h hP hD hS hl.1 (by decide) (by decide) (Nat.le_of_ble_eq_true rfl) dX10_night_10 dX10_night_13 dX10_night_14 dX10_night_17 dX10_night_20
  have L29 : ∀ (l2 : Int32) (kx120 : AR → AR → AR → AR → AR → AR → AR → Int32 → Int32 → Int32 → Prop), (∀ (sC : AR) (sQ : AR) (C_past : AR) (F_all : AR) (F_reasons : AR) (Q_cell : AR) (Q_heading : AR) (l3 : Int32) (l4 : Int32) (l5 : Int32) (H : Heap) (locs : List Loc) (ls : Array Slot), kx120 sC sQ C_past F_all F_reasons Q_cell Q_heading l3 l4 l5 → va_P D clsX [(h0, .inr (10, oX10 rS sS)), ((rS 2), .inr (4, oX4 rG sG)), ((rS 8), .inr (0, oX0 rC sC)), ((rC 0), .inr (3, oX3 (rtP (rS 2) (rS 4) (rS 5) rF))), ((rS 4), .inr (1, oX1 rE)), ((rS 5), .inr (2, oX2 rW)), ((rS 10), .inr (7, oX7 (rtP (rS 2) (rS 4) (rS 5) rQ) sQ)), ((rG 11), .inl (cy 2, 5, .inl G_isFalse)), ((rG 12), .inl (cy 0, 4, .inl G_kind)), ((rC 1), .inl (cy 0, 3400, .inl C_past)), (((rtP (rS 2) (rS 4) (rS 5) rF) 3), .inl (cy 0, 29, .inl F_all)), (((rtP (rS 2) (rS 4) (rS 5) rF) 4), .inl (cy 0, 4, .inl F_reasons)), ((rE 0), .inl (cy 1, 100, .inl E_heardAt)), ((rE 1), .inl (cy 1, 3200, .inl E_nearest)), ((rE 3), .inl (cy 0, 4, .inl E_ofVoice)), ((rE 4), .inl (cy 0, 5, .inl E_alike)), ((rW 0), .inl (cy 0, 400, .inl W_next)), ((rW 1), .inl (cy 0, 500, .inl W_way)), ((rW 2), .inl (cy 0, 5, .inl W_goal)), (((rtP (rS 2) (rS 4) (rS 5) rQ) 3), .inl (cy 0, 100, .inl Q_cell)), (((rtP (rS 2) (rS 4) (rS 5) rQ) 4), .inl (cy 0, 100, .inl Q_heading))] H → va_D A [(h0, .inr (10, oX10 rS sS)), ((rS 2), .inr (4, oX4 rG sG)), ((rS 8), .inr (0, oX0 rC sC)), ((rC 0), .inr (3, oX3 (rtP (rS 2) (rS 4) (rS 5) rF))), ((rS 4), .inr (1, oX1 rE)), ((rS 5), .inr (2, oX2 rW)), ((rS 10), .inr (7, oX7 (rtP (rS 2) (rS 4) (rS 5) rQ) sQ)), ((rG 11), .inl (cy 2, 5, .inl G_isFalse)), ((rG 12), .inl (cy 0, 4, .inl G_kind)), ((rC 1), .inl (cy 0, 3400, .inl C_past)), (((rtP (rS 2) (rS 4) (rS 5) rF) 3), .inl (cy 0, 29, .inl F_all)), (((rtP (rS 2) (rS 4) (rS 5) rF) 4), .inl (cy 0, 4, .inl F_reasons)), ((rE 0), .inl (cy 1, 100, .inl E_heardAt)), ((rE 1), .inl (cy 1, 3200, .inl E_nearest)), ((rE 3), .inl (cy 0, 4, .inl E_ofVoice)), ((rE 4), .inl (cy 0, 5, .inl E_alike)), ((rW 0), .inl (cy 0, 400, .inl W_next)), ((rW 1), .inl (cy 0, 500, .inl W_way)), ((rW 2), .inl (cy 0, 5, .inl W_goal)), (((rtP (rS 2) (rS 4) (rS 5) rQ) 3), .inl (cy 0, 100, .inl Q_cell)), (((rtP (rS 2) (rS 4) (rS 5) rQ) 4), .inl (cy 0, 100, .inl Q_heading))] → va_S A s.heap H locs → lv_has ls 8 [(0, .ref h0), (4, .int l4)] → W p l e R s m args below meth c H locs 0 0 QQ (F0 m 120 ls [])) → ∀ (nf29 : Nat) (sC : AR) (sQ : AR) (C_past : AR) (F_all : AR) (F_reasons : AR) (Q_cell : AR) (Q_heading : AR) (l3 : Int32) (l4 : Int32) (l5 : Int32) (H : Heap) (locs : List Loc) (ls : Array Slot), wpX10_night_L29 sG G_isFalse G_kind E_heardAt E_nearest E_ofVoice E_alike W_next W_way W_goal l2 kx120 post postX nf29 sC sQ C_past F_all F_reasons Q_cell Q_heading l3 l4 l5 → va_P D clsX [(h0, .inr (10, oX10 rS sS)), ((rS 2), .inr (4, oX4 rG sG)), ((rS 8), .inr (0, oX0 rC sC)), ((rC 0), .inr (3, oX3 (rtP (rS 2) (rS 4) (rS 5) rF))), ((rS 4), .inr (1, oX1 rE)), ((rS 5), .inr (2, oX2 rW)), ((rS 10), .inr (7, oX7 (rtP (rS 2) (rS 4) (rS 5) rQ) sQ)), ((rG 11), .inl (cy 2, 5, .inl G_isFalse)), ((rG 12), .inl (cy 0, 4, .inl G_kind)), ((rC 1), .inl (cy 0, 3400, .inl C_past)), (((rtP (rS 2) (rS 4) (rS 5) rF) 3), .inl (cy 0, 29, .inl F_all)), (((rtP (rS 2) (rS 4) (rS 5) rF) 4), .inl (cy 0, 4, .inl F_reasons)), ((rE 0), .inl (cy 1, 100, .inl E_heardAt)), ((rE 1), .inl (cy 1, 3200, .inl E_nearest)), ((rE 3), .inl (cy 0, 4, .inl E_ofVoice)), ((rE 4), .inl (cy 0, 5, .inl E_alike)), ((rW 0), .inl (cy 0, 400, .inl W_next)), ((rW 1), .inl (cy 0, 500, .inl W_way)), ((rW 2), .inl (cy 0, 5, .inl W_goal)), (((rtP (rS 2) (rS 4) (rS 5) rQ) 3), .inl (cy 0, 100, .inl Q_cell)), (((rtP (rS 2) (rS 4) (rS 5) rQ) 4), .inl (cy 0, 100, .inl Q_heading))] H → va_D A [(h0, .inr (10, oX10 rS sS)), ((rS 2), .inr (4, oX4 rG sG)), ((rS 8), .inr (0, oX0 rC sC)), ((rC 0), .inr (3, oX3 (rtP (rS 2) (rS 4) (rS 5) rF))), ((rS 4), .inr (1, oX1 rE)), ((rS 5), .inr (2, oX2 rW)), ((rS 10), .inr (7, oX7 (rtP (rS 2) (rS 4) (rS 5) rQ) sQ)), ((rG 11), .inl (cy 2, 5, .inl G_isFalse)), ((rG 12), .inl (cy 0, 4, .inl G_kind)), ((rC 1), .inl (cy 0, 3400, .inl C_past)), (((rtP (rS 2) (rS 4) (rS 5) rF) 3), .inl (cy 0, 29, .inl F_all)), (((rtP (rS 2) (rS 4) (rS 5) rF) 4), .inl (cy 0, 4, .inl F_reasons)), ((rE 0), .inl (cy 1, 100, .inl E_heardAt)), ((rE 1), .inl (cy 1, 3200, .inl E_nearest)), ((rE 3), .inl (cy 0, 4, .inl E_ofVoice)), ((rE 4), .inl (cy 0, 5, .inl E_alike)), ((rW 0), .inl (cy 0, 400, .inl W_next)), ((rW 1), .inl (cy 0, 500, .inl W_way)), ((rW 2), .inl (cy 0, 5, .inl W_goal)), (((rtP (rS 2) (rS 4) (rS 5) rQ) 3), .inl (cy 0, 100, .inl Q_cell)), (((rtP (rS 2) (rS 4) (rS 5) rQ) 4), .inl (cy 0, 100, .inl Q_heading))] → va_S A s.heap H locs → lv_has ls 8 [(0, .ref h0), (2, .int l2), (3, .int l3), (4, .int l4), (5, .int l5)] → W p l e R s m args below meth c H locs 0 0 QQ (F0 m 29 ls []) := by
    intro l2 kx120 hk29_120 nf29
    induction nf29 with
    | zero =>
      intro sC sQ C_past F_all F_reasons Q_cell Q_heading l3 l4 l5 H locs ls h
      exact (show False from h).elim
    | succ nf29 ih29 =>
      intro sC sQ C_past F_all F_reasons Q_cell Q_heading l3 l4 l5 H locs ls h hP hD hS hl
      have L41 : ∀ (sC : AR) (sQ : AR) (C_past : AR) (F_all : AR) (F_reasons : AR) (Q_cell : AR) (Q_heading : AR) (l2 : Int32) (l4 : Int32) (l5 : Int32) (kx103 : Int32 → Int32 → Int32 → Prop), (∀ (l3 : Int32) (l6 : Int32) (l7 : Int32) (H : Heap) (locs : List Loc) (ls : Array Slot), kx103 l3 l6 l7 → va_P D clsX [(h0, .inr (10, oX10 rS sS)), ((rS 2), .inr (4, oX4 rG sG)), ((rS 8), .inr (0, oX0 rC sC)), ((rC 0), .inr (3, oX3 (rtP (rS 2) (rS 4) (rS 5) rF))), ((rS 4), .inr (1, oX1 rE)), ((rS 5), .inr (2, oX2 rW)), ((rS 10), .inr (7, oX7 (rtP (rS 2) (rS 4) (rS 5) rQ) sQ)), ((rG 11), .inl (cy 2, 5, .inl G_isFalse)), ((rG 12), .inl (cy 0, 4, .inl G_kind)), ((rC 1), .inl (cy 0, 3400, .inl C_past)), (((rtP (rS 2) (rS 4) (rS 5) rF) 3), .inl (cy 0, 29, .inl F_all)), (((rtP (rS 2) (rS 4) (rS 5) rF) 4), .inl (cy 0, 4, .inl F_reasons)), ((rE 0), .inl (cy 1, 100, .inl E_heardAt)), ((rE 1), .inl (cy 1, 3200, .inl E_nearest)), ((rE 3), .inl (cy 0, 4, .inl E_ofVoice)), ((rE 4), .inl (cy 0, 5, .inl E_alike)), ((rW 0), .inl (cy 0, 400, .inl W_next)), ((rW 1), .inl (cy 0, 500, .inl W_way)), ((rW 2), .inl (cy 0, 5, .inl W_goal)), (((rtP (rS 2) (rS 4) (rS 5) rQ) 3), .inl (cy 0, 100, .inl Q_cell)), (((rtP (rS 2) (rS 4) (rS 5) rQ) 4), .inl (cy 0, 100, .inl Q_heading))] H → va_D A [(h0, .inr (10, oX10 rS sS)), ((rS 2), .inr (4, oX4 rG sG)), ((rS 8), .inr (0, oX0 rC sC)), ((rC 0), .inr (3, oX3 (rtP (rS 2) (rS 4) (rS 5) rF))), ((rS 4), .inr (1, oX1 rE)), ((rS 5), .inr (2, oX2 rW)), ((rS 10), .inr (7, oX7 (rtP (rS 2) (rS 4) (rS 5) rQ) sQ)), ((rG 11), .inl (cy 2, 5, .inl G_isFalse)), ((rG 12), .inl (cy 0, 4, .inl G_kind)), ((rC 1), .inl (cy 0, 3400, .inl C_past)), (((rtP (rS 2) (rS 4) (rS 5) rF) 3), .inl (cy 0, 29, .inl F_all)), (((rtP (rS 2) (rS 4) (rS 5) rF) 4), .inl (cy 0, 4, .inl F_reasons)), ((rE 0), .inl (cy 1, 100, .inl E_heardAt)), ((rE 1), .inl (cy 1, 3200, .inl E_nearest)), ((rE 3), .inl (cy 0, 4, .inl E_ofVoice)), ((rE 4), .inl (cy 0, 5, .inl E_alike)), ((rW 0), .inl (cy 0, 400, .inl W_next)), ((rW 1), .inl (cy 0, 500, .inl W_way)), ((rW 2), .inl (cy 0, 5, .inl W_goal)), (((rtP (rS 2) (rS 4) (rS 5) rQ) 3), .inl (cy 0, 100, .inl Q_cell)), (((rtP (rS 2) (rS 4) (rS 5) rQ) 4), .inl (cy 0, 100, .inl Q_heading))] → va_S A s.heap H locs → lv_has ls 8 [(0, .ref h0), (2, .int l2), (3, .int l3), (4, .int l4), (5, .int l5), (6, .int l6)] → W p l e R s m args below meth c H locs 0 0 QQ (F0 m 103 ls [])) → ∀ (nf41 : Nat) (l3 : Int32) (l6 : Int32) (l7 : Int32) (H : Heap) (locs : List Loc) (ls : Array Slot), wpX10_night_L41 sG sC sQ G_isFalse G_kind C_past F_all F_reasons E_heardAt E_nearest E_ofVoice E_alike W_next W_way W_goal Q_cell Q_heading l2 l4 l5 kx103 post postX nf41 l3 l6 l7 → va_P D clsX [(h0, .inr (10, oX10 rS sS)), ((rS 2), .inr (4, oX4 rG sG)), ((rS 8), .inr (0, oX0 rC sC)), ((rC 0), .inr (3, oX3 (rtP (rS 2) (rS 4) (rS 5) rF))), ((rS 4), .inr (1, oX1 rE)), ((rS 5), .inr (2, oX2 rW)), ((rS 10), .inr (7, oX7 (rtP (rS 2) (rS 4) (rS 5) rQ) sQ)), ((rG 11), .inl (cy 2, 5, .inl G_isFalse)), ((rG 12), .inl (cy 0, 4, .inl G_kind)), ((rC 1), .inl (cy 0, 3400, .inl C_past)), (((rtP (rS 2) (rS 4) (rS 5) rF) 3), .inl (cy 0, 29, .inl F_all)), (((rtP (rS 2) (rS 4) (rS 5) rF) 4), .inl (cy 0, 4, .inl F_reasons)), ((rE 0), .inl (cy 1, 100, .inl E_heardAt)), ((rE 1), .inl (cy 1, 3200, .inl E_nearest)), ((rE 3), .inl (cy 0, 4, .inl E_ofVoice)), ((rE 4), .inl (cy 0, 5, .inl E_alike)), ((rW 0), .inl (cy 0, 400, .inl W_next)), ((rW 1), .inl (cy 0, 500, .inl W_way)), ((rW 2), .inl (cy 0, 5, .inl W_goal)), (((rtP (rS 2) (rS 4) (rS 5) rQ) 3), .inl (cy 0, 100, .inl Q_cell)), (((rtP (rS 2) (rS 4) (rS 5) rQ) 4), .inl (cy 0, 100, .inl Q_heading))] H → va_D A [(h0, .inr (10, oX10 rS sS)), ((rS 2), .inr (4, oX4 rG sG)), ((rS 8), .inr (0, oX0 rC sC)), ((rC 0), .inr (3, oX3 (rtP (rS 2) (rS 4) (rS 5) rF))), ((rS 4), .inr (1, oX1 rE)), ((rS 5), .inr (2, oX2 rW)), ((rS 10), .inr (7, oX7 (rtP (rS 2) (rS 4) (rS 5) rQ) sQ)), ((rG 11), .inl (cy 2, 5, .inl G_isFalse)), ((rG 12), .inl (cy 0, 4, .inl G_kind)), ((rC 1), .inl (cy 0, 3400, .inl C_past)), (((rtP (rS 2) (rS 4) (rS 5) rF) 3), .inl (cy 0, 29, .inl F_all)), (((rtP (rS 2) (rS 4) (rS 5) rF) 4), .inl (cy 0, 4, .inl F_reasons)), ((rE 0), .inl (cy 1, 100, .inl E_heardAt)), ((rE 1), .inl (cy 1, 3200, .inl E_nearest)), ((rE 3), .inl (cy 0, 4, .inl E_ofVoice)), ((rE 4), .inl (cy 0, 5, .inl E_alike)), ((rW 0), .inl (cy 0, 400, .inl W_next)), ((rW 1), .inl (cy 0, 500, .inl W_way)), ((rW 2), .inl (cy 0, 5, .inl W_goal)), (((rtP (rS 2) (rS 4) (rS 5) rQ) 3), .inl (cy 0, 100, .inl Q_cell)), (((rtP (rS 2) (rS 4) (rS 5) rQ) 4), .inl (cy 0, 100, .inl Q_heading))] → va_S A s.heap H locs → lv_has ls 8 [(0, .ref h0), (2, .int l2), (3, .int l3), (4, .int l4), (5, .int l5), (6, .int l6), (7, .int l7)] → W p l e R s m args below meth c H locs 0 0 QQ (F0 m 41 ls []) := by
        intro sC sQ C_past F_all F_reasons Q_cell Q_heading l2 l4 l5 kx103 hk41_103 nf41
        induction nf41 with
        | zero =>
          intro l3 l6 l7 H locs ls h
          exact (show False from h).elim
        | succ nf41 ih41 =>
          intro l3 l6 l7 H locs ls h hP hD hS hl
          refine lv_iload hx hb dX10_night_41 (lv_at hl 6 rfl) ?_
          refine lv_aload_n hx hb dX10_night_43 rfl (lv_at hl 0 rfl) ?_
          refine gfX10_23 hx hb hts hown hK hP 0 rfl dX10_night_44 ?_
          refine gfX10_165 (v := (sG 2)) hx hb hts hown hK hP 1 rfl rfl dX10_night_47 ?_
          refine lv_icmp_ge (tgt := 103) hx hb dX10_night_50 (by decide) (fun c50 => ?_) (fun c50 => ?_)
          · have h := h.1 c50
            exact hk41_103 l3 l6 l7 _ _ _ h hP hD hS (lv_sub hl [0, 1, 2, 3, 4, 5] rfl)
          · have h := h.2 c50
            refine lv_iload_n hx hb dX10_night_53 rfl (lv_at hl 2 rfl) ?_
            refine lv_ldcw hx hb hown (hts _ (tb mw1152)) dX10_night_54 ?_
            refine lv_imul hx hb dX10_night_57 ?_
            refine lv_sipush (v := (12345 : Int32)) hx hb dX10_night_58 (by decide) ?_
            refine lv_iadd hx hb dX10_night_61 ?_
            refine lv_topi (fun l3_62 el3_62 => ?_)
            have h := h l3_62 el3_62
            refine lv_istore_n (lv' := [(3, .int l3_62), (0, .ref h0), (2, .int l2), (4, .int l4), (5, .int l5), (6, .int l6), (7, .int l7)]) hx hb dX10_night_62 rfl hl (by decide) rfl (fun ls hl => ?_)
            refine lv_iload_n hx hb dX10_night_63 rfl (lv_at hl 0 rfl) ?_
            refine lv_bipush (v := (16 : Int32)) hx hb dX10_night_64 (by decide) ?_
            refine lv_iushr hx hb dX10_night_66 rfl ?_
            refine lv_iconst (v := (1 : Int32)) hx hb dX10_night_67 (by decide) ?_
            refine lv_iand hx hb dX10_night_68 ?_
            refine lv_iconst (v := (1 : Int32)) hx hb dX10_night_69 (by decide) ?_
            refine lv_icmp_ne (tgt := 97) hx hb dX10_night_70 (by decide) (fun c70 => ?_) (fun c70 => ?_)
            · have h := h.1 c70
              obtain ⟨l7_97, el7_97⟩ : ∃ y : Int32, y = l7 + (1 : Int32) := ⟨_, rfl⟩
              have h := h l7_97 el7_97
              refine lv_iinc (v := l7_97) (lv' := [(7, .int l7_97), (3, .int l3_62), (0, .ref h0), (2, .int l2), (4, .int l4), (5, .int l5), (6, .int l6)]) hx hb dX10_night_97 hl (k := 6) rfl (by rw [el7_97]; rfl) (by decide) rfl (fun ls hl => ?_)
              refine lv_goto (tgt := 41) hx hb dX10_night_100 (by decide) ?_
              exact ih41 l3_62 l6 l7_97 _ _ _ h hP hD hS (lv_sub hl [2, 3, 1, 4, 5, 6, 0] rfl)
            · have h := h.2 c70
              refine lv_aload_n hx hb dX10_night_73 rfl (lv_at hl 1 rfl) ?_
              refine gfX10_67 hx hb hts hown hK hP 0 rfl dX10_night_74 ?_
              refine gfX10_206 hx hb hts hown hK hP 2 rfl dX10_night_77 ?_
              refine lv_iload hx hb dX10_night_80 (lv_at hl 6 rfl) ?_
              refine clVi (As := [.int l7]) (rest := []) (Wr := [(h0, .inr (10, oX10 rS sS)), ((rS 2), .inr (4, oX4 rG sG)), ((rS 8), .inr (0, oX0 rC sC)), ((rS 4), .inr (1, oX1 rE)), ((rS 5), .inr (2, oX2 rW)), ((rS 10), .inr (7, oX7 (rtP (rS 2) (rS 4) (rS 5) rQ) sQ)), ((rG 11), .inl (cy 2, 5, .inl G_isFalse)), ((rG 12), .inl (cy 0, 4, .inl G_kind)), ((rC 1), .inl (cy 0, 3400, .inl C_past)), (((rtP (rS 2) (rS 4) (rS 5) rF) 4), .inl (cy 0, 4, .inl F_reasons)), ((rE 0), .inl (cy 1, 100, .inl E_heardAt)), ((rE 1), .inl (cy 1, 3200, .inl E_nearest)), ((rE 3), .inl (cy 0, 4, .inl E_ofVoice)), ((rE 4), .inl (cy 0, 5, .inl E_alike)), ((rW 0), .inl (cy 0, 400, .inl W_next)), ((rW 1), .inl (cy 0, 500, .inl W_way)), ((rW 2), .inl (cy 0, 5, .inl W_goal)), (((rtP (rS 2) (rS 4) (rS 5) rQ) 3), .inl (cy 0, 100, .inl Q_cell)), (((rtP (rS 2) (rS 4) (rS 5) rQ) 4), .inl (cy 0, 100, .inl Q_heading))]) (cq := (RX3, TX3, 5)) ⟨hx, hb, hml, hown, hts⟩ ⟨callB_of 1 hts (goodC mw964) rfl rfl rfl (hts _ (tb mw9)) (hts _ (tb mw961)) kdX3_strokesLeft ⟨Nat.le_trans (by decide) hRf, Nat.le_trans (by decide) hRl⟩, hts _ (tb mw962), hts _ (tb mw963)⟩ (ctX3_strokesLeft l D cy ev (rC 0) (rtP (rS 2) (rS 4) (rS 5) rF) F_all l7 _ _ h) hE hK hP hD hS hA [3, 10] [0, 1, 2, 4, 5, 6, 7, 8, 9, 11, 12, 13, 14, 15, 16, 17, 18, 19, 20] rfl rfl (by decide) (by decide) (by decide) 0 rfl rfl rfl hl.1 rfl (Nat.le_of_ble_eq_true rfl) ⟨Nat.zero_le _, Nat.zero_le _⟩ dX10_night_82 (fun r82 u H locs h hP hD hS => ?_)
              have hP : va_P D clsX [(h0, .inr (10, oX10 rS sS)), ((rS 2), .inr (4, oX4 rG sG)), ((rS 8), .inr (0, oX0 rC sC)), ((rS 4), .inr (1, oX1 rE)), ((rS 5), .inr (2, oX2 rW)), ((rS 10), .inr (7, oX7 (rtP (rS 2) (rS 4) (rS 5) rQ) sQ)), ((rG 11), .inl (cy 2, 5, .inl G_isFalse)), ((rG 12), .inl (cy 0, 4, .inl G_kind)), ((rC 1), .inl (cy 0, 3400, .inl C_past)), (((rtP (rS 2) (rS 4) (rS 5) rF) 4), .inl (cy 0, 4, .inl F_reasons)), ((rE 0), .inl (cy 1, 100, .inl E_heardAt)), ((rE 1), .inl (cy 1, 3200, .inl E_nearest)), ((rE 3), .inl (cy 0, 4, .inl E_ofVoice)), ((rE 4), .inl (cy 0, 5, .inl E_alike)), ((rW 0), .inl (cy 0, 400, .inl W_next)), ((rW 1), .inl (cy 0, 500, .inl W_way)), ((rW 2), .inl (cy 0, 5, .inl W_goal)), (((rtP (rS 2) (rS 4) (rS 5) rQ) 3), .inl (cy 0, 100, .inl Q_cell)), (((rtP (rS 2) (rS 4) (rS 5) rQ) 4), .inl (cy 0, 100, .inl Q_heading)), ((rC 0), .inr (3, oX3 (rtP (rS 2) (rS 4) (rS 5) rF))), (((rtP (rS 2) (rS 4) (rS 5) rF) 3), .inl (cy 0, 29, .inl F_all))] H := hP
              have hD : va_D A [(h0, .inr (10, oX10 rS sS)), ((rS 2), .inr (4, oX4 rG sG)), ((rS 8), .inr (0, oX0 rC sC)), ((rS 4), .inr (1, oX1 rE)), ((rS 5), .inr (2, oX2 rW)), ((rS 10), .inr (7, oX7 (rtP (rS 2) (rS 4) (rS 5) rQ) sQ)), ((rG 11), .inl (cy 2, 5, .inl G_isFalse)), ((rG 12), .inl (cy 0, 4, .inl G_kind)), ((rC 1), .inl (cy 0, 3400, .inl C_past)), (((rtP (rS 2) (rS 4) (rS 5) rF) 4), .inl (cy 0, 4, .inl F_reasons)), ((rE 0), .inl (cy 1, 100, .inl E_heardAt)), ((rE 1), .inl (cy 1, 3200, .inl E_nearest)), ((rE 3), .inl (cy 0, 4, .inl E_ofVoice)), ((rE 4), .inl (cy 0, 5, .inl E_alike)), ((rW 0), .inl (cy 0, 400, .inl W_next)), ((rW 1), .inl (cy 0, 500, .inl W_way)), ((rW 2), .inl (cy 0, 5, .inl W_goal)), (((rtP (rS 2) (rS 4) (rS 5) rQ) 3), .inl (cy 0, 100, .inl Q_cell)), (((rtP (rS 2) (rS 4) (rS 5) rQ) 4), .inl (cy 0, 100, .inl Q_heading)), ((rC 0), .inr (3, oX3 (rtP (rS 2) (rS 4) (rS 5) rF))), (((rtP (rS 2) (rS 4) (rS 5) rF) 3), .inl (cy 0, 29, .inl F_all))] := hD
              refine lv_if_le (tgt := 97) hx hb dX10_night_85 (by decide) (fun c85 => ?_) (fun c85 => ?_)
              · have h := h.1 c85
                obtain ⟨l7_97, el7_97⟩ : ∃ y : Int32, y = l7 + (1 : Int32) := ⟨_, rfl⟩
                have h := h l7_97 el7_97
                refine lv_iinc (v := l7_97) (lv' := [(7, .int l7_97), (3, .int l3_62), (0, .ref h0), (2, .int l2), (4, .int l4), (5, .int l5), (6, .int l6)]) hx hb dX10_night_97 hl (k := 6) rfl (by rw [el7_97]; rfl) (by decide) rfl (fun ls hl => ?_)
                refine lv_goto (tgt := 41) hx hb dX10_night_100 (by decide) ?_
                exact ih41 l3_62 l6 l7_97 _ _ _ h (hP.sub [0, 1, 2, 19, 3, 4, 5, 6, 7, 8, 20, 9, 10, 11, 12, 13, 14, 15, 16, 17, 18] rfl) (hD.sub [0, 1, 2, 19, 3, 4, 5, 6, 7, 8, 20, 9, 10, 11, 12, 13, 14, 15, 16, 17, 18] (by decide) rfl) hS (lv_sub hl [2, 3, 1, 4, 5, 6, 0] rfl)
              · have h := h.2 c85
                refine lv_iload hx hb dX10_night_88 (lv_at hl 5 rfl) ?_
                refine lv_iconst (v := (1 : Int32)) hx hb dX10_night_90 (by decide) ?_
                refine lv_iload hx hb dX10_night_91 (lv_at hl 6 rfl) ?_
                refine lv_ishl hx hb dX10_night_93 ?_
                refine lv_ior hx hb dX10_night_94 ?_
                refine lv_topi (fun l6_95 el6_95 => ?_)
                have h := h l6_95 el6_95
                refine lv_istore (lv' := [(6, .int l6_95), (3, .int l3_62), (0, .ref h0), (2, .int l2), (4, .int l4), (5, .int l5), (7, .int l7)]) hx hb dX10_night_95 hl (by decide) rfl (fun ls hl => ?_)
                obtain ⟨l7_97, el7_97⟩ : ∃ y : Int32, y = l7 + (1 : Int32) := ⟨_, rfl⟩
                have h := h l7_97 el7_97
                refine lv_iinc (v := l7_97) (lv' := [(7, .int l7_97), (6, .int l6_95), (3, .int l3_62), (0, .ref h0), (2, .int l2), (4, .int l4), (5, .int l5)]) hx hb dX10_night_97 hl (k := 6) rfl (by rw [el7_97]; rfl) (by decide) rfl (fun ls hl => ?_)
                refine lv_goto (tgt := 41) hx hb dX10_night_100 (by decide) ?_
                exact ih41 l3_62 l6_95 l7_97 _ _ _ h (hP.sub [0, 1, 2, 19, 3, 4, 5, 6, 7, 8, 20, 9, 10, 11, 12, 13, 14, 15, 16, 17, 18] rfl) (hD.sub [0, 1, 2, 19, 3, 4, 5, 6, 7, 8, 20, 9, 10, 11, 12, 13, 14, 15, 16, 17, 18] (by decide) rfl) hS (lv_sub hl [3, 4, 2, 5, 6, 1, 0] rfl)
      refine lv_iload hx hb dX10_night_29 (lv_at hl 4 rfl) ?_
      refine lv_iload_n hx hb dX10_night_31 rfl (lv_at hl 1 rfl) ?_
      refine lv_icmp_ge (tgt := 120) hx hb dX10_night_32 (by decide) (fun c32 => ?_) (fun c32 => ?_)
      · have h := h.1 c32
        exact hk29_120 sC sQ C_past F_all F_reasons Q_cell Q_heading l3 l4 l5 _ _ _ h hP hD hS (lv_sub hl [0, 3] rfl)
      · have h := h.2 c32
        refine lv_iconst (v := (0 : Int32)) hx hb dX10_night_35 (by decide) ?_
        refine lv_istore (lv' := [(6, .int (0 : Int32)), (0, .ref h0), (2, .int l2), (3, .int l3), (4, .int l4), (5, .int l5)]) hx hb dX10_night_36 hl (by decide) rfl (fun ls hl => ?_)
        refine lv_iconst (v := (0 : Int32)) hx hb dX10_night_38 (by decide) ?_
        refine lv_istore (lv' := [(7, .int (0 : Int32)), (6, .int (0 : Int32)), (0, .ref h0), (2, .int l2), (3, .int l3), (4, .int l4), (5, .int l5)]) hx hb dX10_night_39 hl (by decide) rfl (fun ls hl => ?_)
        obtain ⟨nf41, h⟩ := h
        refine L41 sC sQ C_past F_all F_reasons Q_cell Q_heading l2 l4 l5 _ (fun l3_103 l6_103 l7_103 H locs ls h hP hD hS hl => ?_) nf41 l3 (0 : Int32) (0 : Int32) _ _ _ h hP hD hS (lv_sub hl [2, 3, 4, 5, 6, 1, 0] rfl)
        refine lv_iload hx hb dX10_night_103 (lv_at hl 3 rfl) ?_
        refine lv_aload_n hx hb dX10_night_105 rfl (lv_at hl 0 rfl) ?_
        refine lv_iload hx hb dX10_night_106 (lv_at hl 5 rfl) ?_
        refine clVi (As := [.int l6_103]) (rest := [.int l4]) (Wr := []) (cq := (RX10, TX10, 18)) ⟨hx, hb, hml, hown, hts⟩ ⟨callB_of 1 hts (goodC mw526) rfl rfl rfl (hts _ (tb mw1)) (hts _ (tb mw523)) kdX10_strike ⟨Nat.le_trans (by decide) hRf, Nat.le_trans (by decide) hRl⟩, hts _ (tb mw525), hts _ (tb ms4)⟩ (ctX10_strike l D cy ev h0 rS rC (rtP (rS 2) (rS 4) (rS 5) rF) rG rE rW (rtP (rS 2) (rS 4) (rS 5) rQ) sS sC sG sQ C_past F_all F_reasons G_isFalse G_kind E_heardAt E_nearest E_ofVoice E_alike W_next W_way W_goal Q_cell Q_heading l6_103 _ _ h) hE hK hP hD hS hA [0, 2, 3, 1, 4, 5, 6, 9, 10, 11, 7, 8, 12, 13, 14, 15, 16, 17, 18, 19, 20] [] rfl rfl (by decide) (by decide) (by decide) 0 rfl rfl rfl hl.1 rfl (Nat.le_of_ble_eq_true rfl) ⟨Nat.zero_le _, Nat.zero_le _⟩ dX10_night_108 (fun r108 u H locs h hP hD hS => ?_)
        obtain ⟨sC_108, sQ_108, C_past_108, F_all_108, F_reasons_108, Q_cell_108, Q_heading_108⟩ := u
        have hP : va_P D clsX [(h0, .inr (10, oX10 rS sS)), ((rS 8), .inr (0, oX0 rC sC_108)), ((rC 0), .inr (3, oX3 (rtP (rS 2) (rS 4) (rS 5) rF))), ((rS 2), .inr (4, oX4 rG sG)), ((rS 4), .inr (1, oX1 rE)), ((rS 5), .inr (2, oX2 rW)), ((rS 10), .inr (7, oX7 (rtP (rS 2) (rS 4) (rS 5) rQ) sQ_108)), ((rC 1), .inl (cy 0, 3400, .inl C_past_108)), (((rtP (rS 2) (rS 4) (rS 5) rF) 3), .inl (cy 0, 29, .inl F_all_108)), (((rtP (rS 2) (rS 4) (rS 5) rF) 4), .inl (cy 0, 4, .inl F_reasons_108)), ((rG 11), .inl (cy 2, 5, .inl G_isFalse)), ((rG 12), .inl (cy 0, 4, .inl G_kind)), ((rE 0), .inl (cy 1, 100, .inl E_heardAt)), ((rE 1), .inl (cy 1, 3200, .inl E_nearest)), ((rE 3), .inl (cy 0, 4, .inl E_ofVoice)), ((rE 4), .inl (cy 0, 5, .inl E_alike)), ((rW 0), .inl (cy 0, 400, .inl W_next)), ((rW 1), .inl (cy 0, 500, .inl W_way)), ((rW 2), .inl (cy 0, 5, .inl W_goal)), (((rtP (rS 2) (rS 4) (rS 5) rQ) 3), .inl (cy 0, 100, .inl Q_cell_108)), (((rtP (rS 2) (rS 4) (rS 5) rQ) 4), .inl (cy 0, 100, .inl Q_heading_108))] H := hP
        have hD : va_D A [(h0, .inr (10, oX10 rS sS)), ((rS 8), .inr (0, oX0 rC sC_108)), ((rC 0), .inr (3, oX3 (rtP (rS 2) (rS 4) (rS 5) rF))), ((rS 2), .inr (4, oX4 rG sG)), ((rS 4), .inr (1, oX1 rE)), ((rS 5), .inr (2, oX2 rW)), ((rS 10), .inr (7, oX7 (rtP (rS 2) (rS 4) (rS 5) rQ) sQ_108)), ((rC 1), .inl (cy 0, 3400, .inl C_past_108)), (((rtP (rS 2) (rS 4) (rS 5) rF) 3), .inl (cy 0, 29, .inl F_all_108)), (((rtP (rS 2) (rS 4) (rS 5) rF) 4), .inl (cy 0, 4, .inl F_reasons_108)), ((rG 11), .inl (cy 2, 5, .inl G_isFalse)), ((rG 12), .inl (cy 0, 4, .inl G_kind)), ((rE 0), .inl (cy 1, 100, .inl E_heardAt)), ((rE 1), .inl (cy 1, 3200, .inl E_nearest)), ((rE 3), .inl (cy 0, 4, .inl E_ofVoice)), ((rE 4), .inl (cy 0, 5, .inl E_alike)), ((rW 0), .inl (cy 0, 400, .inl W_next)), ((rW 1), .inl (cy 0, 500, .inl W_way)), ((rW 2), .inl (cy 0, 5, .inl W_goal)), (((rtP (rS 2) (rS 4) (rS 5) rQ) 3), .inl (cy 0, 100, .inl Q_cell_108)), (((rtP (rS 2) (rS 4) (rS 5) rQ) 4), .inl (cy 0, 100, .inl Q_heading_108))] := hD
        refine lv_iadd hx hb dX10_night_111 ?_
        refine lv_topi (fun l4_112 el4_112 => ?_)
        have h := h l4_112 el4_112
        refine lv_istore (lv' := [(4, .int l4_112), (0, .ref h0), (2, .int l2), (3, .int l3_103), (5, .int l5), (6, .int l6_103)]) hx hb dX10_night_112 hl (by decide) rfl (fun ls hl => ?_)
        obtain ⟨l5_114, el5_114⟩ : ∃ y : Int32, y = l5 + (1 : Int32) := ⟨_, rfl⟩
        have h := h l5_114 el5_114
        refine lv_iinc (v := l5_114) (lv' := [(5, .int l5_114), (4, .int l4_112), (0, .ref h0), (2, .int l2), (3, .int l3_103), (6, .int l6_103)]) hx hb dX10_night_114 hl (k := 4) rfl (by rw [el5_114]; rfl) (by decide) rfl (fun ls hl => ?_)
        refine lv_goto (tgt := 29) hx hb dX10_night_117 (by decide) ?_
        exact ih29 sC_108 sQ_108 C_past_108 F_all_108 F_reasons_108 Q_cell_108 Q_heading_108 l3_103 l4_112 l5_114 _ _ _ h (hP.sub [0, 3, 1, 2, 4, 5, 6, 10, 11, 7, 8, 9, 12, 13, 14, 15, 16, 17, 18, 19, 20] rfl) (hD.sub [0, 3, 1, 2, 4, 5, 6, 10, 11, 7, 8, 9, 12, 13, 14, 15, 16, 17, 18, 19, 20] (by decide) rfl) hS (lv_sub hl [2, 3, 4, 1, 0] rfl)
  refine lv_iload_n hx hb dX10_night_0 rfl (lv_at hl 2 rfl) ?_
  refine lv_if_lt (tgt := 10) hx hb dX10_night_1 (by decide) (fun c1 => ?_) (fun c1 => ?_)
  · have h := h.1 c1
    exact J10  _ _ _ h hP hD hS (lv_sub hl [0] rfl)
  · have h := h.2 c1
    refine lv_iload_n hx hb dX10_night_4 rfl (lv_at hl 2 rfl) ?_
    refine lv_bipush (v := (100 : Int32)) hx hb dX10_night_5 (by decide) ?_
    refine lv_icmp_le (tgt := 21) hx hb dX10_night_7 (by decide) (fun c7 => ?_) (fun c7 => ?_)
    · have h := h.1 c7
      refine lv_iload_n hx hb dX10_night_21 rfl (lv_at hl 1 rfl) ?_
      refine lv_istore_n (lv' := [(3, .int x1), (0, .ref h0), (1, .int x1), (2, .int x2)]) hx hb dX10_night_22 rfl hl (by decide) rfl (fun ls hl => ?_)
      refine lv_iconst (v := (0 : Int32)) hx hb dX10_night_23 (by decide) ?_
      refine lv_istore (lv' := [(4, .int (0 : Int32)), (3, .int x1), (0, .ref h0), (1, .int x1), (2, .int x2)]) hx hb dX10_night_24 hl (by decide) rfl (fun ls hl => ?_)
      refine lv_iconst (v := (0 : Int32)) hx hb dX10_night_26 (by decide) ?_
      refine lv_istore (lv' := [(5, .int (0 : Int32)), (4, .int (0 : Int32)), (3, .int x1), (0, .ref h0), (1, .int x1), (2, .int x2)]) hx hb dX10_night_27 hl (by decide) rfl (fun ls hl => ?_)
      obtain ⟨nf29, h⟩ := h
      refine L29 x2 _ (fun sC_120 sQ_120 C_past_120 F_all_120 F_reasons_120 Q_cell_120 Q_heading_120 l3_120 l4_120 l5_120 H locs ls h hP hD hS hl => ?_) nf29 sC sQ C_past F_all F_reasons Q_cell Q_heading x1 (0 : Int32) (0 : Int32) _ _ _ h hP hD hS (lv_sub hl [3, 5, 2, 1, 0] rfl)
      refine lv_iload hx hb dX10_night_120 (lv_at hl 1 rfl) ?_
      refine W.widen (k := 1) (n := 6) (by decide) (by decide) ?_
      exact hret l4_120 (sC_120, sQ_120, C_past_120, F_all_120, F_reasons_120, Q_cell_120, Q_heading_120) _ _ _ _ rfl dX10_night_122 h hP hD hS
    · have h := h.2 c7
      exact J10  _ _ _ h hP hD hS (lv_sub hl [0] rfl)
