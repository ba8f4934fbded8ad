theorem ne_iN {x : Int32} {n : Nat} (hn : n < 2 ^ 31) (h : ¬ x = nI n) : x.toInt ≠ n := fun e => h (Int32.toInt_inj.mp (by rw [e, nI_toInt hn]))
theorem dX11_isIn_0 : decode cX11_isIn 0 = .ok (.iload_n 0, 1) := by decide +kernel
theorem dX11_isIn_1 : decode cX11_isIn 1 = .ok (.iload_n 1, 1) := by decide +kernel
theorem dX11_isIn_2 : decode cX11_isIn 2 = .ok (.if_icmp .lt 12, 3) := by decide +kernel
theorem dX11_isIn_5 : decode cX11_isIn 5 = .ok (.iload_n 0, 1) := by decide +kernel
theorem dX11_isIn_6 : decode cX11_isIn 6 = .ok (.iload_n 2, 1) := by decide +kernel
theorem dX11_isIn_7 : decode cX11_isIn 7 = .ok (.if_icmp .gt 7, 3) := by decide +kernel
theorem dX11_isIn_10 : decode cX11_isIn 10 = .ok (.iconst 1, 1) := by decide +kernel
theorem dX11_isIn_11 : decode cX11_isIn 11 = .ok (.goto 4, 3) := by decide +kernel
theorem dX11_isIn_14 : decode cX11_isIn 14 = .ok (.iconst 0, 1) := by decide +kernel
theorem dX11_isIn_15 : decode cX11_isIn 15 = .ok (.ireturn, 1) := by decide +kernel
theorem dX11_isTower_0 : decode cX11_isTower 0 = .ok (.iload_n 1, 1) := by decide +kernel
theorem dX11_isTower_1 : decode cX11_isTower 1 = .ok (.iconst 0, 1) := by decide +kernel
theorem dX11_isTower_2 : decode cX11_isTower 2 = .ok (.aload_n 0, 1) := by decide +kernel
theorem dX11_isTower_3 : decode cX11_isTower 3 = .ok (.getfield 36, 3) := by decide +kernel
theorem dX11_isTower_6 : decode cX11_isTower 6 = .ok (.iconst 2, 1) := by decide +kernel
theorem dX11_isTower_7 : decode cX11_isTower 7 = .ok (.iaload, 1) := by decide +kernel
theorem dX11_isTower_8 : decode cX11_isTower 8 = .ok (.iconst 1, 1) := by decide +kernel
theorem dX11_isTower_9 : decode cX11_isTower 9 = .ok (.isub, 1) := by decide +kernel
theorem dX11_isTower_10 : decode cX11_isTower 10 = .ok (.invokestatic 135, 3) := by decide +kernel
theorem dX11_isTower_13 : decode cX11_isTower 13 = .ok (.ireturn, 1) := by decide +kernel
theorem dX11_cells_0 : decode cX11_cells 0 = .ok (.aload_n 0, 1) := by decide +kernel
theorem dX11_cells_1 : decode cX11_cells 1 = .ok (.getfield 36, 3) := by decide +kernel
theorem dX11_cells_4 : decode cX11_cells 4 = .ok (.iconst 0, 1) := by decide +kernel
theorem dX11_cells_5 : decode cX11_cells 5 = .ok (.iaload, 1) := by decide +kernel
theorem dX11_cells_6 : decode cX11_cells 6 = .ok (.aload_n 0, 1) := by decide +kernel
theorem dX11_cells_7 : decode cX11_cells 7 = .ok (.getfield 36, 3) := by decide +kernel
theorem dX11_cells_10 : decode cX11_cells 10 = .ok (.iconst 1, 1) := by decide +kernel
theorem dX11_cells_11 : decode cX11_cells 11 = .ok (.iaload, 1) := by decide +kernel
theorem dX11_cells_12 : decode cX11_cells 12 = .ok (.imul, 1) := by decide +kernel
theorem dX11_cells_13 : decode cX11_cells 13 = .ok (.ireturn, 1) := by decide +kernel
theorem dX11_howMany_0 : decode cX11_howMany 0 = .ok (.iconst 0, 1) := by decide +kernel
theorem dX11_howMany_1 : decode cX11_howMany 1 = .ok (.istore_n 3, 1) := by decide +kernel
theorem dX11_howMany_2 : decode cX11_howMany 2 = .ok (.iconst 0, 1) := by decide +kernel
theorem dX11_howMany_3 : decode cX11_howMany 3 = .ok (.istore 4, 2) := by decide +kernel
theorem dX11_howMany_5 : decode cX11_howMany 5 = .ok (.iload 4, 2) := by decide +kernel
theorem dX11_howMany_7 : decode cX11_howMany 7 = .ok (.aload_n 0, 1) := by decide +kernel
theorem dX11_howMany_8 : decode cX11_howMany 8 = .ok (.getfield 36, 3) := by decide +kernel
theorem dX11_howMany_11 : decode cX11_howMany 11 = .ok (.iconst 3, 1) := by decide +kernel
theorem dX11_howMany_12 : decode cX11_howMany 12 = .ok (.iaload, 1) := by decide +kernel
theorem dX11_howMany_13 : decode cX11_howMany 13 = .ok (.if_icmp .ge 30, 3) := by decide +kernel
theorem dX11_howMany_16 : decode cX11_howMany 16 = .ok (.iload_n 3, 1) := by decide +kernel
theorem dX11_howMany_17 : decode cX11_howMany 17 = .ok (.aload_n 1, 1) := by decide +kernel
theorem dX11_howMany_18 : decode cX11_howMany 18 = .ok (.bipush 6, 2) := by decide +kernel
theorem dX11_howMany_20 : decode cX11_howMany 20 = .ok (.iload 4, 2) := by decide +kernel
theorem dX11_howMany_22 : decode cX11_howMany 22 = .ok (.imul, 1) := by decide +kernel
theorem dX11_howMany_23 : decode cX11_howMany 23 = .ok (.iconst 3, 1) := by decide +kernel
theorem dX11_howMany_24 : decode cX11_howMany 24 = .ok (.iadd, 1) := by decide +kernel
theorem dX11_howMany_25 : decode cX11_howMany 25 = .ok (.iaload, 1) := by decide +kernel
theorem dX11_howMany_26 : decode cX11_howMany 26 = .ok (.iload_n 2, 1) := by decide +kernel
theorem dX11_howMany_27 : decode cX11_howMany 27 = .ok (.if_icmp .ne 7, 3) := by decide +kernel
theorem dX11_howMany_30 : decode cX11_howMany 30 = .ok (.iconst 1, 1) := by decide +kernel
theorem dX11_howMany_31 : decode cX11_howMany 31 = .ok (.goto 4, 3) := by decide +kernel
theorem dX11_howMany_34 : decode cX11_howMany 34 = .ok (.iconst 0, 1) := by decide +kernel
theorem dX11_howMany_35 : decode cX11_howMany 35 = .ok (.iadd, 1) := by decide +kernel
theorem dX11_howMany_36 : decode cX11_howMany 36 = .ok (.istore_n 3, 1) := by decide +kernel
theorem dX11_howMany_37 : decode cX11_howMany 37 = .ok (.iinc 4 1, 3) := by decide +kernel
theorem dX11_howMany_40 : decode cX11_howMany 40 = .ok (.goto (-35), 3) := by decide +kernel
theorem dX11_howMany_43 : decode cX11_howMany 43 = .ok (.iload_n 3, 1) := by decide +kernel
theorem dX11_howMany_44 : decode cX11_howMany 44 = .ok (.ireturn, 1) := by decide +kernel
theorem dX11_farOf_0 : decode cX11_farOf 0 = .ok (.iload_n 2, 1) := by decide +kernel
theorem dX11_farOf_1 : decode cX11_farOf 1 = .ok (.aload_n 0, 1) := by decide +kernel
theorem dX11_farOf_2 : decode cX11_farOf 2 = .ok (.getfield 36, 3) := by decide +kernel
theorem dX11_farOf_5 : decode cX11_farOf 5 = .ok (.iconst 0, 1) := by decide +kernel
theorem dX11_farOf_6 : decode cX11_farOf 6 = .ok (.iaload, 1) := by decide +kernel
theorem dX11_farOf_7 : decode cX11_farOf 7 = .ok (.irem, 1) := by decide +kernel
theorem dX11_farOf_8 : decode cX11_farOf 8 = .ok (.aload_n 0, 1) := by decide +kernel
theorem dX11_farOf_9 : decode cX11_farOf 9 = .ok (.getfield 40, 3) := by decide +kernel
theorem dX11_farOf_12 : decode cX11_farOf 12 = .ok (.iload_n 1, 1) := by decide +kernel
theorem dX11_farOf_13 : decode cX11_farOf 13 = .ok (.iaload, 1) := by decide +kernel
theorem dX11_farOf_14 : decode cX11_farOf 14 = .ok (.aload_n 0, 1) := by decide +kernel
theorem dX11_farOf_15 : decode cX11_farOf 15 = .ok (.getfield 36, 3) := by decide +kernel
theorem dX11_farOf_18 : decode cX11_farOf 18 = .ok (.iconst 0, 1) := by decide +kernel
theorem dX11_farOf_19 : decode cX11_farOf 19 = .ok (.iaload, 1) := by decide +kernel
theorem dX11_farOf_20 : decode cX11_farOf 20 = .ok (.irem, 1) := by decide +kernel
theorem dX11_farOf_21 : decode cX11_farOf 21 = .ok (.isub, 1) := by decide +kernel
theorem dX11_farOf_22 : decode cX11_farOf 22 = .ok (.istore_n 3, 1) := by decide +kernel
theorem dX11_farOf_23 : decode cX11_farOf 23 = .ok (.iload_n 2, 1) := by decide +kernel
theorem dX11_farOf_24 : decode cX11_farOf 24 = .ok (.aload_n 0, 1) := by decide +kernel
theorem dX11_farOf_25 : decode cX11_farOf 25 = .ok (.getfield 36, 3) := by decide +kernel
theorem dX11_farOf_28 : decode cX11_farOf 28 = .ok (.iconst 0, 1) := by decide +kernel
theorem dX11_farOf_29 : decode cX11_farOf 29 = .ok (.iaload, 1) := by decide +kernel
theorem dX11_farOf_30 : decode cX11_farOf 30 = .ok (.idiv, 1) := by decide +kernel
theorem dX11_farOf_31 : decode cX11_farOf 31 = .ok (.aload_n 0, 1) := by decide +kernel
theorem dX11_farOf_32 : decode cX11_farOf 32 = .ok (.getfield 40, 3) := by decide +kernel
theorem dX11_farOf_35 : decode cX11_farOf 35 = .ok (.iload_n 1, 1) := by decide +kernel
theorem dX11_farOf_36 : decode cX11_farOf 36 = .ok (.iaload, 1) := by decide +kernel
theorem dX11_farOf_37 : decode cX11_farOf 37 = .ok (.aload_n 0, 1) := by decide +kernel
theorem dX11_farOf_38 : decode cX11_farOf 38 = .ok (.getfield 36, 3) := by decide +kernel
theorem dX11_farOf_41 : decode cX11_farOf 41 = .ok (.iconst 0, 1) := by decide +kernel
theorem dX11_farOf_42 : decode cX11_farOf 42 = .ok (.iaload, 1) := by decide +kernel
theorem dX11_farOf_43 : decode cX11_farOf 43 = .ok (.idiv, 1) := by decide +kernel
theorem dX11_farOf_44 : decode cX11_farOf 44 = .ok (.isub, 1) := by decide +kernel
theorem dX11_farOf_45 : decode cX11_farOf 45 = .ok (.istore 4, 2) := by decide +kernel
theorem dX11_farOf_47 : decode cX11_farOf 47 = .ok (.aload_n 0, 1) := by decide +kernel
theorem dX11_farOf_48 : decode cX11_farOf 48 = .ok (.getfield 36, 3) := by decide +kernel
theorem dX11_farOf_51 : decode cX11_farOf 51 = .ok (.iconst 4, 1) := by decide +kernel
theorem dX11_farOf_52 : decode cX11_farOf 52 = .ok (.iaload, 1) := by decide +kernel
theorem dX11_farOf_53 : decode cX11_farOf 53 = .ok (.ifCond .ne 9, 3) := by decide +kernel
theorem dX11_farOf_56 : decode cX11_farOf 56 = .ok (.iload 4, 2) := by decide +kernel
theorem dX11_farOf_58 : decode cX11_farOf 58 = .ok (.ineg, 1) := by decide +kernel
theorem dX11_farOf_59 : decode cX11_farOf 59 = .ok (.goto 34, 3) := by decide +kernel
theorem dX11_farOf_62 : decode cX11_farOf 62 = .ok (.aload_n 0, 1) := by decide +kernel
theorem dX11_farOf_63 : decode cX11_farOf 63 = .ok (.getfield 36, 3) := by decide +kernel
theorem dX11_farOf_66 : decode cX11_farOf 66 = .ok (.iconst 4, 1) := by decide +kernel
theorem dX11_farOf_67 : decode cX11_farOf 67 = .ok (.iaload, 1) := by decide +kernel
theorem dX11_farOf_68 : decode cX11_farOf 68 = .ok (.iconst 1, 1) := by decide +kernel
theorem dX11_farOf_69 : decode cX11_farOf 69 = .ok (.if_icmp .ne 7, 3) := by decide +kernel
theorem dX11_farOf_72 : decode cX11_farOf 72 = .ok (.iload_n 3, 1) := by decide +kernel
theorem dX11_farOf_73 : decode cX11_farOf 73 = .ok (.goto 20, 3) := by decide +kernel
theorem dX11_farOf_76 : decode cX11_farOf 76 = .ok (.aload_n 0, 1) := by decide +kernel
theorem dX11_farOf_77 : decode cX11_farOf 77 = .ok (.getfield 36, 3) := by decide +kernel
theorem dX11_farOf_80 : decode cX11_farOf 80 = .ok (.iconst 4, 1) := by decide +kernel
theorem dX11_farOf_81 : decode cX11_farOf 81 = .ok (.iaload, 1) := by decide +kernel
theorem dX11_farOf_82 : decode cX11_farOf 82 = .ok (.iconst 2, 1) := by decide +kernel
theorem dX11_farOf_83 : decode cX11_farOf 83 = .ok (.if_icmp .ne 8, 3) := by decide +kernel
theorem dX11_farOf_86 : decode cX11_farOf 86 = .ok (.iload 4, 2) := by decide +kernel
theorem dX11_farOf_88 : decode cX11_farOf 88 = .ok (.goto 5, 3) := by decide +kernel
theorem dX11_farOf_91 : decode cX11_farOf 91 = .ok (.iload_n 3, 1) := by decide +kernel
theorem dX11_farOf_92 : decode cX11_farOf 92 = .ok (.ineg, 1) := by decide +kernel
theorem dX11_farOf_93 : decode cX11_farOf 93 = .ok (.istore 5, 2) := by decide +kernel
theorem dX11_farOf_95 : decode cX11_farOf 95 = .ok (.iconst 4, 1) := by decide +kernel
theorem dX11_farOf_96 : decode cX11_farOf 96 = .ok (.iload_n 3, 1) := by decide +kernel
theorem dX11_farOf_97 : decode cX11_farOf 97 = .ok (.invokestatic 290, 3) := by decide +kernel
theorem dX11_farOf_100 : decode cX11_farOf 100 = .ok (.iload 4, 2) := by decide +kernel
theorem dX11_farOf_102 : decode cX11_farOf 102 = .ok (.invokestatic 290, 3) := by decide +kernel
theorem dX11_farOf_105 : decode cX11_farOf 105 = .ok (.iadd, 1) := by decide +kernel
theorem dX11_farOf_106 : decode cX11_farOf 106 = .ok (.imul, 1) := by decide +kernel
theorem dX11_farOf_107 : decode cX11_farOf 107 = .ok (.aload_n 0, 1) := by decide +kernel
theorem dX11_farOf_108 : decode cX11_farOf 108 = .ok (.getfield 36, 3) := by decide +kernel
theorem dX11_farOf_111 : decode cX11_farOf 111 = .ok (.iconst 5, 1) := by decide +kernel
theorem dX11_farOf_112 : decode cX11_farOf 112 = .ok (.iaload, 1) := by decide +kernel
theorem dX11_farOf_113 : decode cX11_farOf 113 = .ok (.iload 5, 2) := by decide +kernel
theorem dX11_farOf_115 : decode cX11_farOf 115 = .ok (.imul, 1) := by decide +kernel
theorem dX11_farOf_116 : decode cX11_farOf 116 = .ok (.isub, 1) := by decide +kernel
theorem dX11_farOf_117 : decode cX11_farOf 117 = .ok (.ireturn, 1) := by decide +kernel
theorem dX11_nearest_0 : decode cX11_nearest 0 = .ok (.iconst (-1), 1) := by decide +kernel
theorem dX11_nearest_1 : decode cX11_nearest 1 = .ok (.istore 4, 2) := by decide +kernel
theorem dX11_nearest_3 : decode cX11_nearest 3 = .ok (.iconst 0, 1) := by decide +kernel
theorem dX11_nearest_4 : decode cX11_nearest 4 = .ok (.istore 5, 2) := by decide +kernel
theorem dX11_nearest_6 : decode cX11_nearest 6 = .ok (.iload 5, 2) := by decide +kernel
theorem dX11_nearest_8 : decode cX11_nearest 8 = .ok (.aload_n 0, 1) := by decide +kernel
theorem dX11_nearest_9 : decode cX11_nearest 9 = .ok (.getfield 36, 3) := by decide +kernel
theorem dX11_nearest_12 : decode cX11_nearest 12 = .ok (.iconst 2, 1) := by decide +kernel
theorem dX11_nearest_13 : decode cX11_nearest 13 = .ok (.iaload, 1) := by decide +kernel
theorem dX11_nearest_14 : decode cX11_nearest 14 = .ok (.if_icmp .ge 62, 3) := by decide +kernel
theorem dX11_nearest_17 : decode cX11_nearest 17 = .ok (.iload_n 1, 1) := by decide +kernel
theorem dX11_nearest_18 : decode cX11_nearest 18 = .ok (.iload 5, 2) := by decide +kernel
theorem dX11_nearest_20 : decode cX11_nearest 20 = .ok (.ishr, 1) := by decide +kernel
theorem dX11_nearest_21 : decode cX11_nearest 21 = .ok (.iconst 1, 1) := by decide +kernel
theorem dX11_nearest_22 : decode cX11_nearest 22 = .ok (.iand, 1) := by decide +kernel
theorem dX11_nearest_23 : decode cX11_nearest 23 = .ok (.iconst 1, 1) := by decide +kernel
theorem dX11_nearest_24 : decode cX11_nearest 24 = .ok (.if_icmp .ne 46, 3) := by decide +kernel
theorem dX11_nearest_27 : decode cX11_nearest 27 = .ok (.iload_n 3, 1) := by decide +kernel
theorem dX11_nearest_28 : decode cX11_nearest 28 = .ok (.iconst (-1), 1) := by decide +kernel
theorem dX11_nearest_29 : decode cX11_nearest 29 = .ok (.if_icmp .eq 14, 3) := by decide +kernel
theorem dX11_nearest_32 : decode cX11_nearest 32 = .ok (.aload_n 0, 1) := by decide +kernel
theorem dX11_nearest_33 : decode cX11_nearest 33 = .ok (.getfield 46, 3) := by decide +kernel
theorem dX11_nearest_36 : decode cX11_nearest 36 = .ok (.iload 5, 2) := by decide +kernel
theorem dX11_nearest_38 : decode cX11_nearest 38 = .ok (.iaload, 1) := by decide +kernel
theorem dX11_nearest_39 : decode cX11_nearest 39 = .ok (.iload_n 3, 1) := by decide +kernel
theorem dX11_nearest_40 : decode cX11_nearest 40 = .ok (.if_icmp .ne 30, 3) := by decide +kernel
theorem dX11_nearest_43 : decode cX11_nearest 43 = .ok (.iload 4, 2) := by decide +kernel
theorem dX11_nearest_45 : decode cX11_nearest 45 = .ok (.iconst (-1), 1) := by decide +kernel
theorem dX11_nearest_46 : decode cX11_nearest 46 = .ok (.if_icmp .eq 20, 3) := by decide +kernel
theorem dX11_nearest_49 : decode cX11_nearest 49 = .ok (.aload_n 0, 1) := by decide +kernel
theorem dX11_nearest_50 : decode cX11_nearest 50 = .ok (.iload 5, 2) := by decide +kernel
theorem dX11_nearest_52 : decode cX11_nearest 52 = .ok (.iload_n 2, 1) := by decide +kernel
theorem dX11_nearest_53 : decode cX11_nearest 53 = .ok (.invokevirtual 293, 3) := by decide +kernel
theorem dX11_nearest_56 : decode cX11_nearest 56 = .ok (.aload_n 0, 1) := by decide +kernel
theorem dX11_nearest_57 : decode cX11_nearest 57 = .ok (.iload 4, 2) := by decide +kernel
theorem dX11_nearest_59 : decode cX11_nearest 59 = .ok (.iload_n 2, 1) := by decide +kernel
theorem dX11_nearest_60 : decode cX11_nearest 60 = .ok (.invokevirtual 293, 3) := by decide +kernel
theorem dX11_nearest_63 : decode cX11_nearest 63 = .ok (.if_icmp .ge 7, 3) := by decide +kernel
theorem dX11_nearest_66 : decode cX11_nearest 66 = .ok (.iload 5, 2) := by decide +kernel
theorem dX11_nearest_68 : decode cX11_nearest 68 = .ok (.istore 4, 2) := by decide +kernel
theorem dX11_nearest_70 : decode cX11_nearest 70 = .ok (.iinc 5 1, 3) := by decide +kernel
theorem dX11_nearest_73 : decode cX11_nearest 73 = .ok (.goto (-67), 3) := by decide +kernel
theorem dX11_nearest_76 : decode cX11_nearest 76 = .ok (.iload 4, 2) := by decide +kernel
theorem dX11_nearest_78 : decode cX11_nearest 78 = .ok (.ireturn, 1) := by decide +kernel
theorem dX4_xOf_0 : decode cX4_xOf 0 = .ok (.aload_n 0, 1) := by decide +kernel
theorem dX4_xOf_1 : decode cX4_xOf 1 = .ok (.getfield 40, 3) := by decide +kernel
theorem dX4_xOf_4 : decode cX4_xOf 4 = .ok (.ifCond .le 12, 3) := by decide +kernel
theorem dX4_xOf_7 : decode cX4_xOf 7 = .ok (.iload_n 1, 1) := by decide +kernel
theorem dX4_xOf_8 : decode cX4_xOf 8 = .ok (.aload_n 0, 1) := by decide +kernel
theorem dX4_xOf_9 : decode cX4_xOf 9 = .ok (.getfield 40, 3) := by decide +kernel
theorem dX4_xOf_12 : decode cX4_xOf 12 = .ok (.irem, 1) := by decide +kernel
theorem dX4_xOf_13 : decode cX4_xOf 13 = .ok (.goto 4, 3) := by decide +kernel
theorem dX4_xOf_16 : decode cX4_xOf 16 = .ok (.iconst 0, 1) := by decide +kernel
theorem dX4_xOf_17 : decode cX4_xOf 17 = .ok (.ireturn, 1) := by decide +kernel
theorem dX4_yOf_0 : decode cX4_yOf 0 = .ok (.aload_n 0, 1) := by decide +kernel
theorem dX4_yOf_1 : decode cX4_yOf 1 = .ok (.getfield 40, 3) := by decide +kernel
theorem dX4_yOf_4 : decode cX4_yOf 4 = .ok (.ifCond .le 12, 3) := by decide +kernel
theorem dX4_yOf_7 : decode cX4_yOf 7 = .ok (.iload_n 1, 1) := by decide +kernel
theorem dX4_yOf_8 : decode cX4_yOf 8 = .ok (.aload_n 0, 1) := by decide +kernel
theorem dX4_yOf_9 : decode cX4_yOf 9 = .ok (.getfield 40, 3) := by decide +kernel
theorem dX4_yOf_12 : decode cX4_yOf 12 = .ok (.idiv, 1) := by decide +kernel
theorem dX4_yOf_13 : decode cX4_yOf 13 = .ok (.goto 4, 3) := by decide +kernel
theorem dX4_yOf_16 : decode cX4_yOf 16 = .ok (.iconst 0, 1) := by decide +kernel
theorem dX4_yOf_17 : decode cX4_yOf 17 = .ok (.ireturn, 1) := by decide +kernel
theorem dX4_distance_0 : decode cX4_distance 0 = .ok (.aload_n 0, 1) := by decide +kernel
theorem dX4_distance_1 : decode cX4_distance 1 = .ok (.iload_n 2, 1) := by decide +kernel
theorem dX4_distance_2 : decode cX4_distance 2 = .ok (.invokevirtual 62, 3) := by decide +kernel
theorem dX4_distance_5 : decode cX4_distance 5 = .ok (.aload_n 0, 1) := by decide +kernel
theorem dX4_distance_6 : decode cX4_distance 6 = .ok (.aload_n 0, 1) := by decide +kernel
theorem dX4_distance_7 : decode cX4_distance 7 = .ok (.getfield 9, 3) := by decide +kernel
theorem dX4_distance_10 : decode cX4_distance 10 = .ok (.iload_n 1, 1) := by decide +kernel
theorem dX4_distance_11 : decode cX4_distance 11 = .ok (.iaload, 1) := by decide +kernel
theorem dX4_distance_12 : decode cX4_distance 12 = .ok (.invokevirtual 62, 3) := by decide +kernel
theorem dX4_distance_15 : decode cX4_distance 15 = .ok (.isub, 1) := by decide +kernel
theorem dX4_distance_16 : decode cX4_distance 16 = .ok (.istore_n 3, 1) := by decide +kernel
theorem dX4_distance_17 : decode cX4_distance 17 = .ok (.aload_n 0, 1) := by decide +kernel
theorem dX4_distance_18 : decode cX4_distance 18 = .ok (.iload_n 2, 1) := by decide +kernel
theorem dX4_distance_19 : decode cX4_distance 19 = .ok (.invokevirtual 66, 3) := by decide +kernel
theorem dX4_distance_22 : decode cX4_distance 22 = .ok (.aload_n 0, 1) := by decide +kernel
theorem dX4_distance_23 : decode cX4_distance 23 = .ok (.aload_n 0, 1) := by decide +kernel
theorem dX4_distance_24 : decode cX4_distance 24 = .ok (.getfield 9, 3) := by decide +kernel
theorem dX4_distance_27 : decode cX4_distance 27 = .ok (.iload_n 1, 1) := by decide +kernel
theorem dX4_distance_28 : decode cX4_distance 28 = .ok (.iaload, 1) := by decide +kernel
theorem dX4_distance_29 : decode cX4_distance 29 = .ok (.invokevirtual 66, 3) := by decide +kernel
theorem dX4_distance_32 : decode cX4_distance 32 = .ok (.isub, 1) := by decide +kernel
theorem dX4_distance_33 : decode cX4_distance 33 = .ok (.istore 4, 2) := by decide +kernel
theorem dX4_distance_35 : decode cX4_distance 35 = .ok (.aload_n 0, 1) := by decide +kernel
theorem dX4_distance_36 : decode cX4_distance 36 = .ok (.getfield 53, 3) := by decide +kernel
theorem dX4_distance_39 : decode cX4_distance 39 = .ok (.tableswitch 46 0 2 #[25, 33, 39], 25) := by decide +kernel
theorem dX4_distance_64 : decode cX4_distance 64 = .ok (.iload 4, 2) := by decide +kernel
theorem dX4_distance_66 : decode cX4_distance 66 = .ok (.ineg, 1) := by decide +kernel
theorem dX4_distance_67 : decode cX4_distance 67 = .ok (.istore 5, 2) := by decide +kernel
theorem dX4_distance_69 : decode cX4_distance 69 = .ok (.goto 20, 3) := by decide +kernel
theorem dX4_distance_72 : decode cX4_distance 72 = .ok (.iload_n 3, 1) := by decide +kernel
theorem dX4_distance_73 : decode cX4_distance 73 = .ok (.istore 5, 2) := by decide +kernel
theorem dX4_distance_75 : decode cX4_distance 75 = .ok (.goto 14, 3) := by decide +kernel
theorem dX4_distance_78 : decode cX4_distance 78 = .ok (.iload 4, 2) := by decide +kernel
theorem dX4_distance_80 : decode cX4_distance 80 = .ok (.istore 5, 2) := by decide +kernel
theorem dX4_distance_82 : decode cX4_distance 82 = .ok (.goto 7, 3) := by decide +kernel
theorem dX4_distance_85 : decode cX4_distance 85 = .ok (.iload_n 3, 1) := by decide +kernel
theorem dX4_distance_86 : decode cX4_distance 86 = .ok (.ineg, 1) := by decide +kernel
theorem dX4_distance_87 : decode cX4_distance 87 = .ok (.istore 5, 2) := by decide +kernel
theorem dX4_distance_89 : decode cX4_distance 89 = .ok (.iconst 4, 1) := by decide +kernel
theorem dX4_distance_90 : decode cX4_distance 90 = .ok (.iload_n 3, 1) := by decide +kernel
theorem dX4_distance_91 : decode cX4_distance 91 = .ok (.invokestatic 69, 3) := by decide +kernel
theorem dX4_distance_94 : decode cX4_distance 94 = .ok (.iload 4, 2) := by decide +kernel
theorem dX4_distance_96 : decode cX4_distance 96 = .ok (.invokestatic 69, 3) := by decide +kernel
theorem dX4_distance_99 : decode cX4_distance 99 = .ok (.iadd, 1) := by decide +kernel
theorem dX4_distance_100 : decode cX4_distance 100 = .ok (.imul, 1) := by decide +kernel
theorem dX4_distance_101 : decode cX4_distance 101 = .ok (.aload_n 0, 1) := by decide +kernel
theorem dX4_distance_102 : decode cX4_distance 102 = .ok (.getfield 56, 3) := by decide +kernel
theorem dX4_distance_105 : decode cX4_distance 105 = .ok (.iload 5, 2) := by decide +kernel
theorem dX4_distance_107 : decode cX4_distance 107 = .ok (.imul, 1) := by decide +kernel
theorem dX4_distance_108 : decode cX4_distance 108 = .ok (.isub, 1) := by decide +kernel
theorem dX4_distance_109 : decode cX4_distance 109 = .ok (.ireturn, 1) := by decide +kernel
theorem dX3_howMany_0 : decode cX3_howMany 0 = .ok (.iconst 0, 1) := by decide +kernel
theorem dX3_howMany_1 : decode cX3_howMany 1 = .ok (.istore_n 2, 1) := by decide +kernel
theorem dX3_howMany_2 : decode cX3_howMany 2 = .ok (.iconst 0, 1) := by decide +kernel
theorem dX3_howMany_3 : decode cX3_howMany 3 = .ok (.istore_n 3, 1) := by decide +kernel
theorem dX3_howMany_4 : decode cX3_howMany 4 = .ok (.iload_n 3, 1) := by decide +kernel
theorem dX3_howMany_5 : decode cX3_howMany 5 = .ok (.aload_n 0, 1) := by decide +kernel
theorem dX3_howMany_6 : decode cX3_howMany 6 = .ok (.getfield 18, 3) := by decide +kernel
theorem dX3_howMany_9 : decode cX3_howMany 9 = .ok (.getfield 30, 3) := by decide +kernel
theorem dX3_howMany_12 : decode cX3_howMany 12 = .ok (.if_icmp .ge 27, 3) := by decide +kernel
theorem dX3_howMany_15 : decode cX3_howMany 15 = .ok (.aload_n 0, 1) := by decide +kernel
theorem dX3_howMany_16 : decode cX3_howMany 16 = .ok (.getfield 11, 3) := by decide +kernel
theorem dX3_howMany_19 : decode cX3_howMany 19 = .ok (.iload_n 3, 1) := by decide +kernel
theorem dX3_howMany_20 : decode cX3_howMany 20 = .ok (.bipush 6, 2) := by decide +kernel
theorem dX3_howMany_22 : decode cX3_howMany 22 = .ok (.imul, 1) := by decide +kernel
theorem dX3_howMany_23 : decode cX3_howMany 23 = .ok (.iconst 3, 1) := by decide +kernel
theorem dX3_howMany_24 : decode cX3_howMany 24 = .ok (.iadd, 1) := by decide +kernel
theorem dX3_howMany_25 : decode cX3_howMany 25 = .ok (.iaload, 1) := by decide +kernel
theorem dX3_howMany_26 : decode cX3_howMany 26 = .ok (.iload_n 1, 1) := by decide +kernel
theorem dX3_howMany_27 : decode cX3_howMany 27 = .ok (.if_icmp .ne 6, 3) := by decide +kernel
theorem dX3_howMany_30 : decode cX3_howMany 30 = .ok (.iinc 2 1, 3) := by decide +kernel
theorem dX3_howMany_33 : decode cX3_howMany 33 = .ok (.iinc 3 1, 3) := by decide +kernel
theorem dX3_howMany_36 : decode cX3_howMany 36 = .ok (.goto (-32), 3) := by decide +kernel
theorem dX3_howMany_39 : decode cX3_howMany 39 = .ok (.iload_n 2, 1) := by decide +kernel
theorem dX3_howMany_40 : decode cX3_howMany 40 = .ok (.ireturn, 1) := by decide +kernel
theorem dX4_hasTowerAt_0 : decode cX4_hasTowerAt 0 = .ok (.iconst 0, 1) := by decide +kernel
theorem dX4_hasTowerAt_1 : decode cX4_hasTowerAt 1 = .ok (.istore_n 2, 1) := by decide +kernel
theorem dX4_hasTowerAt_2 : decode cX4_hasTowerAt 2 = .ok (.iload_n 2, 1) := by decide +kernel
theorem dX4_hasTowerAt_3 : decode cX4_hasTowerAt 3 = .ok (.aload_n 0, 1) := by decide +kernel
theorem dX4_hasTowerAt_4 : decode cX4_hasTowerAt 4 = .ok (.getfield 47, 3) := by decide +kernel
theorem dX4_hasTowerAt_7 : decode cX4_hasTowerAt 7 = .ok (.if_icmp .ge 21, 3) := by decide +kernel
theorem dX4_hasTowerAt_10 : decode cX4_hasTowerAt 10 = .ok (.aload_n 0, 1) := by decide +kernel
theorem dX4_hasTowerAt_11 : decode cX4_hasTowerAt 11 = .ok (.getfield 9, 3) := by decide +kernel
theorem dX4_hasTowerAt_14 : decode cX4_hasTowerAt 14 = .ok (.iload_n 2, 1) := by decide +kernel
theorem dX4_hasTowerAt_15 : decode cX4_hasTowerAt 15 = .ok (.iaload, 1) := by decide +kernel
theorem dX4_hasTowerAt_16 : decode cX4_hasTowerAt 16 = .ok (.iload_n 1, 1) := by decide +kernel
theorem dX4_hasTowerAt_17 : decode cX4_hasTowerAt 17 = .ok (.if_icmp .ne 5, 3) := by decide +kernel
theorem dX4_hasTowerAt_20 : decode cX4_hasTowerAt 20 = .ok (.iconst 1, 1) := by decide +kernel
theorem dX4_hasTowerAt_21 : decode cX4_hasTowerAt 21 = .ok (.ireturn, 1) := by decide +kernel
theorem dX4_hasTowerAt_22 : decode cX4_hasTowerAt 22 = .ok (.iinc 2 1, 3) := by decide +kernel
theorem dX4_hasTowerAt_25 : decode cX4_hasTowerAt 25 = .ok (.goto (-23), 3) := by decide +kernel
theorem dX4_hasTowerAt_28 : decode cX4_hasTowerAt 28 = .ok (.iconst 0, 1) := by decide +kernel
theorem dX4_hasTowerAt_29 : decode cX4_hasTowerAt 29 = .ok (.ireturn, 1) := by decide +kernel
def wpX11_isIn (x0 : Int32) (x1 : Int32) (x2 : Int32) (post : Int32 → Prop) : Prop := ((x0 < x1 → post (0 : Int32)) ∧ (¬ x0 < x1 → ((x2 < x0 → post (0 : Int32)) ∧ (¬ x2 < x0 → post (1 : Int32)))))
set_option maxHeartbeats 4000000 in
set_option maxRecDepth 100000 in
theorem ctX11_isIn (l : Launch) (D : va_G) (cy : Nat → ClassId) (x0 : Int32) (x1 : Int32) (x2 : Int32) (sz : Nat) (post : Int32 → Prop) (h : wpX11_isIn x0 x1 x2 post) : Met l yX11_isIn (Cond.code yX11_isIn cX11_isIn 3 (some .boolean) :: TB) ({ frames := 0, cells := 0, slots := 0, locals := 0 }) (va_Pc [.int x0, .int x1, .int x2] (PreX D cy [] sz)) (va_Qi (fun (r : Int32) (u : Unit) => post r) (fun u => BkX D cy [] sz []) (va_A [] sz)) 0 0 (va_A [] sz) := by
  refine ofWi (by decide) (Nat.le_of_ble_eq_true rfl) ?_
  intro p e s m args below meth c ls A R QQ hx hb hml hown hts hR hK hP hD hS hA hl hret
  have hown : s.vm.findClass RX11 = some m.cls := hown
  have hRf : 0 ≤ R.frames := by rw [hR]; exact Nat.le_refl _
  have hRl : 0 ≤ R.locals := by rw [hR]; exact Nat.le_refl _
  clear hR
  have hl : lv_has ls 3 [(0, .int x0), (1, .int x1), (2, .int x2)] := hl
  refine lv_iload_n hx hb dX11_isIn_0 rfl (lv_at hl 0 rfl) ?_
  refine lv_iload_n hx hb dX11_isIn_1 rfl (lv_at hl 1 rfl) ?_
  refine lv_icmp_lt (tgt := 14) hx hb dX11_isIn_2 (by decide) (fun c2 => ?_) (fun c2 => ?_)
  · have h := h.1 c2
    refine lv_iconst (v := (0 : Int32)) hx hb dX11_isIn_14 (by decide) ?_
    exact hret (0 : Int32) () _ _ _ _ rfl dX11_isIn_15 h hP hD hS
  · have h := h.2 c2
    refine lv_iload_n hx hb dX11_isIn_5 rfl (lv_at hl 0 rfl) ?_
    refine lv_iload_n hx hb dX11_isIn_6 rfl (lv_at hl 2 rfl) ?_
    refine lv_icmp_gt (tgt := 14) hx hb dX11_isIn_7 (by decide) (fun c7 => ?_) (fun c7 => ?_)
    · have h := h.1 c7
      refine lv_iconst (v := (0 : Int32)) hx hb dX11_isIn_14 (by decide) ?_
      exact hret (0 : Int32) () _ _ _ _ rfl dX11_isIn_15 h hP hD hS
    · have h := h.2 c7
      refine lv_iconst (v := (1 : Int32)) hx hb dX11_isIn_10 (by decide) ?_
      refine lv_goto (tgt := 15) hx hb dX11_isIn_11 (by decide) ?_
      exact hret (1 : Int32) () _ _ _ _ rfl dX11_isIn_15 h hP hD hS
def wpX11_isTower (M_told : AR) (x1 : Int32) (post : Int32 → Prop) : Prop := wpX11_isIn x1 (0 : Int32) ((M_told 2) - (1 : Int32)) (fun r10 => narrow .boolean (.int r10) = .int r10 ∧ post r10)
set_option maxHeartbeats 4000000 in
set_option maxRecDepth 100000 in
theorem ctX11_isTower (l : Launch) (D : va_G) (cy : Nat → ClassId) (h0 : Nat) (rM : Nat → Nat) (sM : AR) (M_told : AR) (x1 : Int32) (sz : Nat) (post : Int32 → Prop) (h : wpX11_isTower M_told x1 post) : Met l yX11_isTower (Cond.code yX11_isTower cX11_isTower 2 (some .boolean) :: TB) ({ frames := 1, cells := 0, slots := 0, locals := 22 }) (va_Pc [.ref h0, .int x1] (PreX D cy [(h0, .inr (11, oX11 rM sM)), ((rM 3), .inl (cy 0, 14, .inl M_told))] sz)) (va_Qi (fun (r : Int32) (u : Unit) => post r) (fun u => BkX D cy [(h0, .inr (11, oX11 rM sM)), ((rM 3), .inl (cy 0, 14, .inl M_told))] sz [(h0, .inr (11, oX11 rM sM)), ((rM 3), .inl (cy 0, 14, .inl M_told))]) (va_A [(h0, .inr (11, oX11 rM sM)), ((rM 3), .inl (cy 0, 14, .inl M_told))] sz)) 0 0 (va_A [(h0, .inr (11, oX11 rM sM)), ((rM 3), .inl (cy 0, 14, .inl M_told))] sz) := by
  refine ofWi (by decide) (Nat.le_of_ble_eq_true rfl) ?_
  intro p e s m args below meth c ls A R QQ hx hb hml hown hts hR hK hP hD hS hA hl hret
  have hown : s.vm.findClass RX11 = some m.cls := hown
  have hRf : 1 ≤ R.frames := by rw [hR]; exact Nat.le_refl _
  have hRl : 22 ≤ R.locals := by rw [hR]; exact Nat.le_refl _
  clear hR
  have hl : lv_has ls 2 [(0, .ref h0), (1, .int x1)] := hl
  refine lv_iload_n hx hb dX11_isTower_0 rfl (lv_at hl 1 rfl) ?_
  refine lv_iconst (v := (0 : Int32)) hx hb dX11_isTower_1 (by decide) ?_
  refine lv_aload_n hx hb dX11_isTower_2 rfl (lv_at hl 0 rfl) ?_
  refine gfX11_36 hx hb hts hown hK hP 0 rfl dX11_isTower_3 ?_
  refine lv_iconst (v := (2 : Int32)) hx hb dX11_isTower_6 (by decide) ?_
  refine ldi (k := 2) hx hb hK hP 1 rfl (inL (by decide)) (by decide) dX11_isTower_7 ?_
  refine lv_iconst (v := (1 : Int32)) hx hb dX11_isTower_8 (by decide) ?_
  refine lv_isub hx hb dX11_isTower_9 ?_
  refine clSi (As := [.int x1, .int (0 : Int32), .int ((M_told 2) - (1 : Int32))]) (rest := []) (Wr := [(h0, .inr (11, oX11 rM sM)), ((rM 3), .inl (cy 0, 14, .inl M_told))]) ⟨hx, hb, hml, hown, hts⟩ ⟨callB_of 3 hts (goodC mw1456) rfl rfl rfl (hts _ (tb mw15)) (hts _ (tb mw1454)) kdX11_isIn ⟨Nat.le_trans (by decide) hRf, Nat.le_trans (by decide) hRl⟩, hts _ (tb mw1455)⟩ (ctX11_isIn l D cy  x1 (0 : Int32) ((M_told 2) - (1 : Int32)) _ _ h) hK hP hD hS hA [] [0, 1] rfl rfl (by decide) (by decide) (by decide) rfl hl.1 rfl (Nat.le_of_ble_eq_true rfl) ⟨Nat.zero_le _, Nat.zero_le _⟩ dX11_isTower_10 (fun r10 u H locs h hP hD hS => ?_)
  have hP : va_P D clsX [(h0, .inr (11, oX11 rM sM)), ((rM 3), .inl (cy 0, 14, .inl M_told))] H := hP
  have hD : va_D A [(h0, .inr (11, oX11 rM sM)), ((rM 3), .inl (cy 0, 14, .inl M_told))] := hD
  obtain ⟨hz, h⟩ := h
  exact hret r10 () _ _ _ _ hz dX11_isTower_13 h hP hD hS
def wpX11_cells (M_told : AR) (post : Int32 → Prop) : Prop := post ((M_told 0) * (M_told 1))
set_option maxHeartbeats 4000000 in
set_option maxRecDepth 100000 in
theorem ctX11_cells (l : Launch) (D : va_G) (cy : Nat → ClassId) (h0 : Nat) (rM : Nat → Nat) (sM : AR) (M_told : AR) (sz : Nat) (post : Int32 → Prop) (h : wpX11_cells M_told post) : Met l yX11_cells (Cond.code yX11_cells cX11_cells 1 (some .int) :: TB) ({ frames := 0, cells := 0, slots := 0, locals := 0 }) (va_Pc [.ref h0] (PreX D cy [(h0, .inr (11, oX11 rM sM)), ((rM 3), .inl (cy 0, 14, .inl M_told))] sz)) (va_Qi (fun (r : Int32) (u : Unit) => post r) (fun u => BkX D cy [(h0, .inr (11, oX11 rM sM)), ((rM 3), .inl (cy 0, 14, .inl M_told))] sz [(h0, .inr (11, oX11 rM sM)), ((rM 3), .inl (cy 0, 14, .inl M_told))]) (va_A [(h0, .inr (11, oX11 rM sM)), ((rM 3), .inl (cy 0, 14, .inl M_told))] sz)) 0 0 (va_A [(h0, .inr (11, oX11 rM sM)), ((rM 3), .inl (cy 0, 14, .inl M_told))] sz) := by
  refine ofWi (by decide) (Nat.le_of_ble_eq_true rfl) ?_
  intro p e s m args below meth c ls A R QQ hx hb hml hown hts hR hK hP hD hS hA hl hret
  have hown : s.vm.findClass RX11 = some m.cls := hown
  have hRf : 0 ≤ R.frames := by rw [hR]; exact Nat.le_refl _
  have hRl : 0 ≤ R.locals := by rw [hR]; exact Nat.le_refl _
  clear hR
  have hl : lv_has ls 1 [(0, .ref h0)] := hl
  refine lv_aload_n hx hb dX11_cells_0 rfl (lv_at hl 0 rfl) ?_
  refine gfX11_36 hx hb hts hown hK hP 0 rfl dX11_cells_1 ?_
  refine lv_iconst (v := (0 : Int32)) hx hb dX11_cells_4 (by decide) ?_
  refine ldi (k := 0) hx hb hK hP 1 rfl (inL (by decide)) (by decide) dX11_cells_5 ?_
  refine lv_aload_n hx hb dX11_cells_6 rfl (lv_at hl 0 rfl) ?_
  refine gfX11_36 hx hb hts hown hK hP 0 rfl dX11_cells_7 ?_
  refine lv_iconst (v := (1 : Int32)) hx hb dX11_cells_10 (by decide) ?_
  refine ldi (k := 1) hx hb hK hP 1 rfl (inL (by decide)) (by decide) dX11_cells_11 ?_
  refine lv_imul hx hb dX11_cells_12 ?_
  exact hret ((M_told 0) * (M_told 1)) () _ _ _ _ rfl dX11_cells_13 h hP hD hS
def wpX11_howMany_L5 (M_told : AR) (row : AR) (l2 : Int32) (kx43 : Int32 → Int32 → Prop) (post : Int32 → Prop) : Nat → Int32 → Int32 → Prop
  | 0, _, _ => False
  | nf + 1, l3, l4 => (((M_told 3) ≤ l4 → kx43 l3 l4) ∧ (¬ (M_told 3) ≤ l4 → vp_in (((6 : Int32) * l4) + (3 : Int32)) 29 ∧ ((¬ (row (((6 : Int32) * l4) + (3 : Int32)).toNatClampNeg) = l2 → ∀ l3_36 : Int32, l3_36 = (l3 + (0 : Int32)) → ∀ l4_37 : Int32, l4_37 = (l4 + (1 : Int32)) → wpX11_howMany_L5 M_told row l2 kx43 post nf l3_36 l4_37) ∧ ((row (((6 : Int32) * l4) + (3 : Int32)).toNatClampNeg) = l2 → ∀ l3_36 : Int32, l3_36 = (l3 + (1 : Int32)) → ∀ l4_37 : Int32, l4_37 = (l4 + (1 : Int32)) → wpX11_howMany_L5 M_told row l2 kx43 post nf l3_36 l4_37))))
def wpX11_howMany (M_told : AR) (row : AR) (x2 : Int32) (post : Int32 → Prop) : Prop := ∃ nf : Nat, wpX11_howMany_L5 M_told row x2 (fun l3_43 l4_43 => post l3_43) post nf (0 : Int32) (0 : Int32)
set_option maxHeartbeats 4000000 in
set_option maxRecDepth 100000 in
theorem ctX11_howMany (l : Launch) (D : va_G) (cy : Nat → ClassId) (h0 : Nat) (a1 : Nat) (rM : Nat → Nat) (sM : AR) (M_told : AR) (row : AR) (x2 : Int32) (sz : Nat) (post : Int32 → Prop) (h : wpX11_howMany M_told row x2 post) : Met l yX11_howMany (Cond.code yX11_howMany cX11_howMany 5 (some .int) :: TB) ({ frames := 0, cells := 0, slots := 0, locals := 0 }) (va_Pc [.ref h0, .ref a1, .int x2] (PreX D cy [(h0, .inr (11, oX11 rM sM)), ((rM 3), .inl (cy 0, 14, .inl M_told)), (a1, .inl (cy 0, 29, .inl row))] sz)) (va_Qi (fun (r : Int32) (u : Unit) => post r) (fun u => BkX D cy [(h0, .inr (11, oX11 rM sM)), ((rM 3), .inl (cy 0, 14, .inl M_told)), (a1, .inl (cy 0, 29, .inl row))] sz [(h0, .inr (11, oX11 rM sM)), ((rM 3), .inl (cy 0, 14, .inl M_told)), (a1, .inl (cy 0, 29, .inl row))]) (va_A [(h0, .inr (11, oX11 rM sM)), ((rM 3), .inl (cy 0, 14, .inl M_told)), (a1, .inl (cy 0, 29, .inl row))] sz)) 0 0 (va_A [(h0, .inr (11, oX11 rM sM)), ((rM 3), .inl (cy 0, 14, .inl M_told)), (a1, .inl (cy 0, 29, .inl row))] sz) := by
  refine ofWi (by decide) (Nat.le_of_ble_eq_true rfl) ?_
  intro p e s m args below meth c ls A R QQ hx hb hml hown hts hR hK hP hD hS hA hl hret
  have hown : s.vm.findClass RX11 = some m.cls := hown
  have hRf : 0 ≤ R.frames := by rw [hR]; exact Nat.le_refl _
  have hRl : 0 ≤ R.locals := by rw [hR]; exact Nat.le_refl _
  clear hR
  have hl : lv_has ls 5 [(0, .ref h0), (1, .ref a1), (2, .int x2)] := hl
  have L5 : ∀ (l2 : Int32) (kx43 : Int32 → Int32 → Prop), (∀ (l3 : Int32) (l4 : Int32) (H : Heap) (locs : List Loc) (ls : Array Slot), kx43 l3 l4 → va_P D clsX [(h0, .inr (11, oX11 rM sM)), ((rM 3), .inl (cy 0, 14, .inl M_told)), (a1, .inl (cy 0, 29, .inl row))] H → va_D A [(h0, .inr (11, oX11 rM sM)), ((rM 3), .inl (cy 0, 14, .inl M_told)), (a1, .inl (cy 0, 29, .inl row))] → va_S A s.heap H locs → lv_has ls 5 [(0, .ref h0), (1, .ref a1), (3, .int l3)] → W p l e R s m args below meth c H locs 0 0 QQ (F0 m 43 ls [])) → ∀ (nf : Nat) (l3 : Int32) (l4 : Int32) (H : Heap) (locs : List Loc) (ls : Array Slot), wpX11_howMany_L5 M_told row l2 kx43 post nf l3 l4 → va_P D clsX [(h0, .inr (11, oX11 rM sM)), ((rM 3), .inl (cy 0, 14, .inl M_told)), (a1, .inl (cy 0, 29, .inl row))] H → va_D A [(h0, .inr (11, oX11 rM sM)), ((rM 3), .inl (cy 0, 14, .inl M_told)), (a1, .inl (cy 0, 29, .inl row))] → va_S A s.heap H locs → lv_has ls 5 [(0, .ref h0), (1, .ref a1), (2, .int l2), (3, .int l3), (4, .int l4)] → W p l e R s m args below meth c H locs 0 0 QQ (F0 m 5 ls []) := by
    intro l2 kx43 hk5_43 nf
    induction nf with
    | zero =>
      intro l3 l4 H locs ls h
      exact (show False from h).elim
    | succ nf ih5 =>
      intro l3 l4 H locs ls h hP hD hS hl
      refine lv_iload hx hb dX11_howMany_5 (lv_at hl 4 rfl) ?_
      refine lv_aload_n hx hb dX11_howMany_7 rfl (lv_at hl 0 rfl) ?_
      refine gfX11_36 hx hb hts hown hK hP 0 rfl dX11_howMany_8 ?_
      refine lv_iconst (v := (3 : Int32)) hx hb dX11_howMany_11 (by decide) ?_
      refine ldi (k := 3) hx hb hK hP 1 rfl (inL (by decide)) (by decide) dX11_howMany_12 ?_
      refine lv_icmp_ge (tgt := 43) hx hb dX11_howMany_13 (by decide) (fun c13 => ?_) (fun c13 => ?_)
      · have h := h.1 c13
        exact hk5_43 l3 l4 _ _ _ h hP hD hS (lv_sub hl [0, 1, 3] rfl)
      · have h := h.2 c13
        refine lv_iload_n hx hb dX11_howMany_16 rfl (lv_at hl 3 rfl) ?_
        refine lv_aload_n hx hb dX11_howMany_17 rfl (lv_at hl 1 rfl) ?_
        refine lv_bipush (v := (6 : Int32)) hx hb dX11_howMany_18 (by decide) ?_
        refine lv_iload hx hb dX11_howMany_20 (lv_at hl 4 rfl) ?_
        refine lv_imul hx hb dX11_howMany_22 ?_
        refine lv_iconst (v := (3 : Int32)) hx hb dX11_howMany_23 (by decide) ?_
        refine lv_iadd hx hb dX11_howMany_24 ?_
        obtain ⟨hin, h⟩ := h
        refine ldi (k := (((6 : Int32) * l4) + (3 : Int32)).toNatClampNeg) hx hb hK hP 2 rfl hin rfl dX11_howMany_25 ?_
        refine lv_iload_n hx hb dX11_howMany_26 rfl (lv_at hl 2 rfl) ?_
        refine lv_icmp_ne (tgt := 34) hx hb dX11_howMany_27 (by decide) (fun c27 => ?_) (fun c27 => ?_)
        · have h := h.1 c27
          refine lv_iconst (v := (0 : Int32)) hx hb dX11_howMany_34 (by decide) ?_
          refine lv_iadd hx hb dX11_howMany_35 ?_
          refine lv_topi (fun l3_36 el3_36 => ?_)
          have h := h l3_36 el3_36
          refine lv_istore_n (lv' := [(3, .int l3_36), (0, .ref h0), (1, .ref a1), (2, .int l2), (4, .int l4)]) hx hb dX11_howMany_36 rfl hl (by decide) rfl (fun ls hl => ?_)
          obtain ⟨l4_37, el4_37⟩ : ∃ y : Int32, y = l4 + (1 : Int32) := ⟨_, rfl⟩
          have h := h l4_37 el4_37
          refine lv_iinc (v := l4_37) (lv' := [(4, .int l4_37), (3, .int l3_36), (0, .ref h0), (1, .ref a1), (2, .int l2)]) hx hb dX11_howMany_37 hl (k := 4) rfl (by rw [el4_37]; rfl) (by decide) rfl (fun ls hl => ?_)
          refine lv_goto (tgt := 5) hx hb dX11_howMany_40 (by decide) ?_
          exact ih5 l3_36 l4_37 _ _ _ h hP hD hS (lv_sub hl [2, 3, 4, 1, 0] rfl)
        · have h := h.2 c27
          refine lv_iconst (v := (1 : Int32)) hx hb dX11_howMany_30 (by decide) ?_
          refine lv_goto (tgt := 35) hx hb dX11_howMany_31 (by decide) ?_
          refine lv_iadd hx hb dX11_howMany_35 ?_
          refine lv_topi (fun l3_36 el3_36 => ?_)
          have h := h l3_36 el3_36
          refine lv_istore_n (lv' := [(3, .int l3_36), (0, .ref h0), (1, .ref a1), (2, .int l2), (4, .int l4)]) hx hb dX11_howMany_36 rfl hl (by decide) rfl (fun ls hl => ?_)
          obtain ⟨l4_37, el4_37⟩ : ∃ y : Int32, y = l4 + (1 : Int32) := ⟨_, rfl⟩
          have h := h l4_37 el4_37
          refine lv_iinc (v := l4_37) (lv' := [(4, .int l4_37), (3, .int l3_36), (0, .ref h0), (1, .ref a1), (2, .int l2)]) hx hb dX11_howMany_37 hl (k := 4) rfl (by rw [el4_37]; rfl) (by decide) rfl (fun ls hl => ?_)
          refine lv_goto (tgt := 5) hx hb dX11_howMany_40 (by decide) ?_
          exact ih5 l3_36 l4_37 _ _ _ h hP hD hS (lv_sub hl [2, 3, 4, 1, 0] rfl)
  refine lv_iconst (v := (0 : Int32)) hx hb dX11_howMany_0 (by decide) ?_
  refine lv_istore_n (lv' := [(3, .int (0 : Int32)), (0, .ref h0), (1, .ref a1), (2, .int x2)]) hx hb dX11_howMany_1 rfl hl (by decide) rfl (fun ls hl => ?_)
  refine lv_iconst (v := (0 : Int32)) hx hb dX11_howMany_2 (by decide) ?_
  refine lv_istore (lv' := [(4, .int (0 : Int32)), (3, .int (0 : Int32)), (0, .ref h0), (1, .ref a1), (2, .int x2)]) hx hb dX11_howMany_3 hl (by decide) rfl (fun ls hl => ?_)
  obtain ⟨nf, h⟩ := h
  refine L5 x2 _ (fun l3_43 l4_43 H locs ls h hP hD hS hl => ?_) nf (0 : Int32) (0 : Int32) _ _ _ h hP hD hS (lv_sub hl [2, 3, 4, 1, 0] rfl)
  refine lv_iload_n hx hb dX11_howMany_43 rfl (lv_at hl 2 rfl) ?_
  exact hret l3_43 () _ _ _ _ rfl dX11_howMany_44 h hP hD hS
def wpX11_farOf_J93 (M_told : AR) (M_place : AR) (l3 : Int32) (l4 : Int32) (t0 : Int32) (post : Int32 → Prop) : Prop := post (((4 : Int32) * ((jabs l3) + (jabs l4))) - ((M_told 5) * t0))
def wpX11_farOf (M_told : AR) (M_place : AR) (x1 : Int32) (x2 : Int32) (post : Int32 → Prop) : Prop := ¬ (M_told 0) = 0 ∧ vp_in x1 10 ∧ ¬ (M_told 0) = 0 ∧ ∀ l3_22 : Int32, l3_22 = ((jrem x2 (M_told 0)) - (jrem (M_place x1.toNatClampNeg) (M_told 0))) → ¬ (M_told 0) = 0 ∧ vp_in x1 10 ∧ ¬ (M_told 0) = 0 ∧ ∀ l4_45 : Int32, l4_45 = ((x2 / (M_told 0)) - ((M_place x1.toNatClampNeg) / (M_told 0))) → ((¬ (M_told 4) = 0 → ((¬ (M_told 4) = (1 : Int32) → ((¬ (M_told 4) = (2 : Int32) → wpX11_farOf_J93 M_told M_place l3_22 l4_45 (-l3_22) post) ∧ ((M_told 4) = (2 : Int32) → wpX11_farOf_J93 M_told M_place l3_22 l4_45 l4_45 post))) ∧ ((M_told 4) = (1 : Int32) → wpX11_farOf_J93 M_told M_place l3_22 l4_45 l3_22 post))) ∧ ((M_told 4) = 0 → wpX11_farOf_J93 M_told M_place l3_22 l4_45 (-l4_45) post))
set_option maxHeartbeats 4000000 in
set_option maxRecDepth 100000 in
theorem ctX11_farOf (l : Launch) (D : va_G) (cy : Nat → ClassId) (h0 : Nat) (rM : Nat → Nat) (sM : AR) (M_told : AR) (M_place : AR) (x1 : Int32) (x2 : Int32) (sz : Nat) (post : Int32 → Prop) (h : wpX11_farOf M_told M_place x1 x2 post) : Met l yX11_farOf (Cond.code yX11_farOf cX11_farOf 6 (some .int) :: TB) ({ frames := 1, cells := 0, slots := 0, locals := 60 }) (va_Pc [.ref h0, .int x1, .int x2] (PreX D cy [(h0, .inr (11, oX11 rM sM)), ((rM 3), .inl (cy 0, 14, .inl M_told)), ((rM 4), .inl (cy 0, 10, .inl M_place))] sz)) (va_Qi (fun (r : Int32) (u : Unit) => post r) (fun u => BkX D cy [(h0, .inr (11, oX11 rM sM)), ((rM 3), .inl (cy 0, 14, .inl M_told)), ((rM 4), .inl (cy 0, 10, .inl M_place))] sz [(h0, .inr (11, oX11 rM sM)), ((rM 3), .inl (cy 0, 14, .inl M_told)), ((rM 4), .inl (cy 0, 10, .inl M_place))]) (va_A [(h0, .inr (11, oX11 rM sM)), ((rM 3), .inl (cy 0, 14, .inl M_told)), ((rM 4), .inl (cy 0, 10, .inl M_place))] sz)) 0 0 (va_A [(h0, .inr (11, oX11 rM sM)), ((rM 3), .inl (cy 0, 14, .inl M_told)), ((rM 4), .inl (cy 0, 10, .inl M_place))] sz) := by
  refine ofWi (by decide) (Nat.le_of_ble_eq_true rfl) ?_
  intro p e s m args below meth c ls A R QQ hx hb hml hown hts hR hK hP hD hS hA hl hret
  have hown : s.vm.findClass RX11 = some m.cls := hown
  have hRf : 1 ≤ R.frames := by rw [hR]; exact Nat.le_refl _
  have hRl : 60 ≤ R.locals := by rw [hR]; exact Nat.le_refl _
  clear hR
  have hl : lv_has ls 6 [(0, .ref h0), (1, .int x1), (2, .int x2)] := hl
  have J93 : ∀ (l3 : Int32) (l4 : Int32) (t0 : Int32) (H : Heap) (locs : List Loc) (ls : Array Slot), wpX11_farOf_J93 M_told M_place l3 l4 t0 post → va_P D clsX [(h0, .inr (11, oX11 rM sM)), ((rM 3), .inl (cy 0, 14, .inl M_told)), ((rM 4), .inl (cy 0, 10, .inl M_place))] H → va_D A [(h0, .inr (11, oX11 rM sM)), ((rM 3), .inl (cy 0, 14, .inl M_told)), ((rM 4), .inl (cy 0, 10, .inl M_place))] → va_S A s.heap H locs → lv_has ls 6 [(0, .ref h0), (3, .int l3), (4, .int l4)] → W p l e R s m args below meth c H locs 0 0 QQ (F0 m 93 ls [.int t0]) := by
    intro l3 l4 t0 H locs ls h hP hD hS hl
    refine lv_istore (lv' := [(5, .int t0), (0, .ref h0), (3, .int l3), (4, .int l4)]) hx hb dX11_farOf_93 hl (by decide) rfl (fun ls hl => ?_)
    refine lv_iconst (v := (4 : Int32)) hx hb dX11_farOf_95 (by decide) ?_
    refine lv_iload_n hx hb dX11_farOf_96 rfl (lv_at hl 2 rfl) ?_
    refine mabs hx hb (hml.trans hl.1.symm) hts hown mw1493 (Nat.le_trans (by decide) hRf) (Nat.le_trans (Nat.le_of_ble_eq_true rfl) hRl) (Nat.zero_le _) (Nat.zero_le _) dX11_farOf_97 ?_
    refine lv_iload hx hb dX11_farOf_100 (lv_at hl 3 rfl) ?_
    refine mabs hx hb (hml.trans hl.1.symm) hts hown mw1493 (Nat.le_trans (by decide) hRf) (Nat.le_trans (Nat.le_of_ble_eq_true rfl) hRl) (Nat.zero_le _) (Nat.zero_le _) dX11_farOf_102 ?_
    refine lv_iadd hx hb dX11_farOf_105 ?_
    refine lv_imul hx hb dX11_farOf_106 ?_
    refine lv_aload_n hx hb dX11_farOf_107 rfl (lv_at hl 1 rfl) ?_
    refine gfX11_36 hx hb hts hown hK hP 0 rfl dX11_farOf_108 ?_
    refine lv_iconst (v := (5 : Int32)) hx hb dX11_farOf_111 (by decide) ?_
    refine ldi (k := 5) hx hb hK hP 1 rfl (inL (by decide)) (by decide) dX11_farOf_112 ?_
    refine lv_iload hx hb dX11_farOf_113 (lv_at hl 0 rfl) ?_
    refine lv_imul hx hb dX11_farOf_115 ?_
    refine lv_isub hx hb dX11_farOf_116 ?_
    exact hret (((4 : Int32) * ((jabs l3) + (jabs l4))) - ((M_told 5) * t0)) () _ _ _ _ rfl dX11_farOf_117 h hP hD hS
  refine lv_iload_n hx hb dX11_farOf_0 rfl (lv_at hl 2 rfl) ?_
  refine lv_aload_n hx hb dX11_farOf_1 rfl (lv_at hl 0 rfl) ?_
  refine gfX11_36 hx hb hts hown hK hP 0 rfl dX11_farOf_2 ?_
  refine lv_iconst (v := (0 : Int32)) hx hb dX11_farOf_5 (by decide) ?_
  refine ldi (k := 0) hx hb hK hP 1 rfl (inL (by decide)) (by decide) dX11_farOf_6 ?_
  obtain ⟨hne, h⟩ := h
  refine lv_irem hx hb dX11_farOf_7 hne ?_
  refine lv_aload_n hx hb dX11_farOf_8 rfl (lv_at hl 0 rfl) ?_
  refine gfX11_40 hx hb hts hown hK hP 0 rfl dX11_farOf_9 ?_
  refine lv_iload_n hx hb dX11_farOf_12 rfl (lv_at hl 1 rfl) ?_
  obtain ⟨hin, h⟩ := h
  refine ldi (k := x1.toNatClampNeg) hx hb hK hP 2 rfl hin rfl dX11_farOf_13 ?_
  refine lv_aload_n hx hb dX11_farOf_14 rfl (lv_at hl 0 rfl) ?_
  refine gfX11_36 hx hb hts hown hK hP 0 rfl dX11_farOf_15 ?_
  refine lv_iconst (v := (0 : Int32)) hx hb dX11_farOf_18 (by decide) ?_
  refine ldi (k := 0) hx hb hK hP 1 rfl (inL (by decide)) (by decide) dX11_farOf_19 ?_
  obtain ⟨hne, h⟩ := h
  refine lv_irem hx hb dX11_farOf_20 hne ?_
  refine lv_isub hx hb dX11_farOf_21 ?_
  refine lv_topi (fun l3_22 el3_22 => ?_)
  have h := h l3_22 el3_22
  refine lv_istore_n (lv' := [(3, .int l3_22), (0, .ref h0), (1, .int x1), (2, .int x2)]) hx hb dX11_farOf_22 rfl hl (by decide) rfl (fun ls hl => ?_)
  refine lv_iload_n hx hb dX11_farOf_23 rfl (lv_at hl 3 rfl) ?_
  refine lv_aload_n hx hb dX11_farOf_24 rfl (lv_at hl 1 rfl) ?_
  refine gfX11_36 hx hb hts hown hK hP 0 rfl dX11_farOf_25 ?_
  refine lv_iconst (v := (0 : Int32)) hx hb dX11_farOf_28 (by decide) ?_
  refine ldi (k := 0) hx hb hK hP 1 rfl (inL (by decide)) (by decide) dX11_farOf_29 ?_
  obtain ⟨hne, h⟩ := h
  refine lv_idiv hx hb dX11_farOf_30 hne ?_
  refine lv_aload_n hx hb dX11_farOf_31 rfl (lv_at hl 1 rfl) ?_
  refine gfX11_40 hx hb hts hown hK hP 0 rfl dX11_farOf_32 ?_
  refine lv_iload_n hx hb dX11_farOf_35 rfl (lv_at hl 2 rfl) ?_
  obtain ⟨hin, h⟩ := h
  refine ldi (k := x1.toNatClampNeg) hx hb hK hP 2 rfl hin rfl dX11_farOf_36 ?_
  refine lv_aload_n hx hb dX11_farOf_37 rfl (lv_at hl 1 rfl) ?_
  refine gfX11_36 hx hb hts hown hK hP 0 rfl dX11_farOf_38 ?_
  refine lv_iconst (v := (0 : Int32)) hx hb dX11_farOf_41 (by decide) ?_
  refine ldi (k := 0) hx hb hK hP 1 rfl (inL (by decide)) (by decide) dX11_farOf_42 ?_
  obtain ⟨hne, h⟩ := h
  refine lv_idiv hx hb dX11_farOf_43 hne ?_
  refine lv_isub hx hb dX11_farOf_44 ?_
  refine lv_topi (fun l4_45 el4_45 => ?_)
  have h := h l4_45 el4_45
  refine lv_istore (lv' := [(4, .int l4_45), (3, .int l3_22), (0, .ref h0), (1, .int x1), (2, .int x2)]) hx hb dX11_farOf_45 hl (by decide) rfl (fun ls hl => ?_)
  refine lv_aload_n hx hb dX11_farOf_47 rfl (lv_at hl 2 rfl) ?_
  refine gfX11_36 hx hb hts hown hK hP 0 rfl dX11_farOf_48 ?_
  refine lv_iconst (v := (4 : Int32)) hx hb dX11_farOf_51 (by decide) ?_
  refine ldi (k := 4) hx hb hK hP 1 rfl (inL (by decide)) (by decide) dX11_farOf_52 ?_
  refine lv_if_ne (tgt := 62) hx hb dX11_farOf_53 (by decide) (fun c53 => ?_) (fun c53 => ?_)
  · have h := h.1 c53
    refine lv_aload_n hx hb dX11_farOf_62 rfl (lv_at hl 2 rfl) ?_
    refine gfX11_36 hx hb hts hown hK hP 0 rfl dX11_farOf_63 ?_
    refine lv_iconst (v := (4 : Int32)) hx hb dX11_farOf_66 (by decide) ?_
    refine ldi (k := 4) hx hb hK hP 1 rfl (inL (by decide)) (by decide) dX11_farOf_67 ?_
    refine lv_iconst (v := (1 : Int32)) hx hb dX11_farOf_68 (by decide) ?_
    refine lv_icmp_ne (tgt := 76) hx hb dX11_farOf_69 (by decide) (fun c69 => ?_) (fun c69 => ?_)
    · have h := h.1 c69
      refine lv_aload_n hx hb dX11_farOf_76 rfl (lv_at hl 2 rfl) ?_
      refine gfX11_36 hx hb hts hown hK hP 0 rfl dX11_farOf_77 ?_
      refine lv_iconst (v := (4 : Int32)) hx hb dX11_farOf_80 (by decide) ?_
      refine ldi (k := 4) hx hb hK hP 1 rfl (inL (by decide)) (by decide) dX11_farOf_81 ?_
      refine lv_iconst (v := (2 : Int32)) hx hb dX11_farOf_82 (by decide) ?_
      refine lv_icmp_ne (tgt := 91) hx hb dX11_farOf_83 (by decide) (fun c83 => ?_) (fun c83 => ?_)
      · have h := h.1 c83
        refine lv_iload_n hx hb dX11_farOf_91 rfl (lv_at hl 1 rfl) ?_
        refine lv_ineg hx hb dX11_farOf_92 ?_
        exact J93 l3_22 l4_45 (-l3_22) _ _ _ h hP hD hS (lv_sub hl [2, 1, 0] rfl)
      · have h := h.2 c83
        refine lv_iload hx hb dX11_farOf_86 (lv_at hl 0 rfl) ?_
        refine lv_goto (tgt := 93) hx hb dX11_farOf_88 (by decide) ?_
        exact J93 l3_22 l4_45 l4_45 _ _ _ h hP hD hS (lv_sub hl [2, 1, 0] rfl)
    · have h := h.2 c69
      refine lv_iload_n hx hb dX11_farOf_72 rfl (lv_at hl 1 rfl) ?_
      refine lv_goto (tgt := 93) hx hb dX11_farOf_73 (by decide) ?_
      exact J93 l3_22 l4_45 l3_22 _ _ _ h hP hD hS (lv_sub hl [2, 1, 0] rfl)
  · have h := h.2 c53
    refine lv_iload hx hb dX11_farOf_56 (lv_at hl 0 rfl) ?_
    refine lv_ineg hx hb dX11_farOf_58 ?_
    refine lv_goto (tgt := 93) hx hb dX11_farOf_59 (by decide) ?_
    exact J93 l3_22 l4_45 (-l4_45) _ _ _ h hP hD hS (lv_sub hl [2, 1, 0] rfl)
def wpX11_nearest_J43 (M_told : AR) (M_place : AR) (M_voice : AR) (l1 : Int32) (l2 : Int32) (l3 : Int32) (l4 : Int32) (l5 : Int32) (kb : Int32 → Int32 → Prop) (kx76 : Int32 → Int32 → Prop) (post : Int32 → Prop) : Prop := ((l4 = (-1 : Int32) → ∀ l5_70 : Int32, l5_70 = (l5 + (1 : Int32)) → kb l5 l5_70) ∧ (¬ l4 = (-1 : Int32) → wpX11_farOf M_told M_place l5 l2 (fun r53 => wpX11_farOf M_told M_place l4 l2 (fun r60 => ((r60 ≤ r53 → ∀ l5_70 : Int32, l5_70 = (l5 + (1 : Int32)) → kb l4 l5_70) ∧ (¬ r60 ≤ r53 → ∀ l5_70 : Int32, l5_70 = (l5 + (1 : Int32)) → kb l5 l5_70))))))
def wpX11_nearest_L6 (M_told : AR) (M_place : AR) (M_voice : AR) (l1 : Int32) (l2 : Int32) (l3 : Int32) (kx76 : Int32 → Int32 → Prop) (post : Int32 → Prop) : Nat → Int32 → Int32 → Prop
  | 0, _, _ => False
  | nf + 1, l4, l5 => (((M_told 2) ≤ l5 → kx76 l4 l5) ∧ (¬ (M_told 2) ≤ l5 → ((¬ ((jshr l1 l5) &&& (1 : Int32)) = (1 : Int32) → ∀ l5_70 : Int32, l5_70 = (l5 + (1 : Int32)) → wpX11_nearest_L6 M_told M_place M_voice l1 l2 l3 kx76 post nf l4 l5_70) ∧ (((jshr l1 l5) &&& (1 : Int32)) = (1 : Int32) → ((l3 = (-1 : Int32) → wpX11_nearest_J43 M_told M_place M_voice l1 l2 l3 l4 l5 (fun b0 b1 => wpX11_nearest_L6 M_told M_place M_voice l1 l2 l3 kx76 post nf b0 b1) kx76 post) ∧ (¬ l3 = (-1 : Int32) → vp_in l5 10 ∧ ((¬ (M_voice l5.toNatClampNeg) = l3 → ∀ l5_70 : Int32, l5_70 = (l5 + (1 : Int32)) → wpX11_nearest_L6 M_told M_place M_voice l1 l2 l3 kx76 post nf l4 l5_70) ∧ ((M_voice l5.toNatClampNeg) = l3 → wpX11_nearest_J43 M_told M_place M_voice l1 l2 l3 l4 l5 (fun b0 b1 => wpX11_nearest_L6 M_told M_place M_voice l1 l2 l3 kx76 post nf b0 b1) kx76 post))))))))
def wpX11_nearest (M_told : AR) (M_place : AR) (M_voice : AR) (x1 : Int32) (x2 : Int32) (x3 : Int32) (post : Int32 → Prop) : Prop := ∃ nf : Nat, wpX11_nearest_L6 M_told M_place M_voice x1 x2 x3 (fun l4_76 l5_76 => post l4_76) post nf (-1 : Int32) (0 : Int32)
set_option maxHeartbeats 4000000 in
set_option maxRecDepth 100000 in
theorem ctX11_nearest (l : Launch) (D : va_G) (cy : Nat → ClassId) (h0 : Nat) (rM : Nat → Nat) (sM : AR) (M_told : AR) (M_place : AR) (M_voice : AR) (x1 : Int32) (x2 : Int32) (x3 : Int32) (sz : Nat) (post : Int32 → Prop) (h : wpX11_nearest M_told M_place M_voice x1 x2 x3 post) : Met l yX11_nearest (Cond.code yX11_nearest cX11_nearest 6 (some .int) :: TB) ({ frames := 2, cells := 0, slots := 0, locals := 85 }) (va_Pc [.ref h0, .int x1, .int x2, .int x3] (PreX D cy [(h0, .inr (11, oX11 rM sM)), ((rM 3), .inl (cy 0, 14, .inl M_told)), ((rM 4), .inl (cy 0, 10, .inl M_place)), ((rM 6), .inl (cy 0, 10, .inl M_voice))] sz)) (va_Qi (fun (r : Int32) (u : Unit) => post r) (fun u => BkX D cy [(h0, .inr (11, oX11 rM sM)), ((rM 3), .inl (cy 0, 14, .inl M_told)), ((rM 4), .inl (cy 0, 10, .inl M_place)), ((rM 6), .inl (cy 0, 10, .inl M_voice))] sz [(h0, .inr (11, oX11 rM sM)), ((rM 3), .inl (cy 0, 14, .inl M_told)), ((rM 4), .inl (cy 0, 10, .inl M_place)), ((rM 6), .inl (cy 0, 10, .inl M_voice))]) (va_A [(h0, .inr (11, oX11 rM sM)), ((rM 3), .inl (cy 0, 14, .inl M_told)), ((rM 4), .inl (cy 0, 10, .inl M_place)), ((rM 6), .inl (cy 0, 10, .inl M_voice))] sz)) 0 0 (va_A [(h0, .inr (11, oX11 rM sM)), ((rM 3), .inl (cy 0, 14, .inl M_told)), ((rM 4), .inl (cy 0, 10, .inl M_place)), ((rM 6), .inl (cy 0, 10, .inl M_voice))] sz) := by
  refine ofWi (by decide) (Nat.le_of_ble_eq_true rfl) ?_
  intro p e s m args below meth c ls A R QQ hx hb hml hown hts hR hK hP hD hS hA hl hret
  have hown : s.vm.findClass RX11 = some m.cls := hown
  have hRf : 2 ≤ R.frames := by rw [hR]; exact Nat.le_refl _
  have hRl : 85 ≤ R.locals := by rw [hR]; exact Nat.le_refl _
  clear hR
  have hl : lv_has ls 6 [(0, .ref h0), (1, .int x1), (2, .int x2), (3, .int x3)] := hl
  have L6 : ∀ (l1 : Int32) (l2 : Int32) (l3 : Int32) (kx76 : Int32 → Int32 → Prop), (∀ (l4 : Int32) (l5 : Int32) (H : Heap) (locs : List Loc) (ls : Array Slot), kx76 l4 l5 → va_P D clsX [(h0, .inr (11, oX11 rM sM)), ((rM 3), .inl (cy 0, 14, .inl M_told)), ((rM 4), .inl (cy 0, 10, .inl M_place)), ((rM 6), .inl (cy 0, 10, .inl M_voice))] H → va_D A [(h0, .inr (11, oX11 rM sM)), ((rM 3), .inl (cy 0, 14, .inl M_told)), ((rM 4), .inl (cy 0, 10, .inl M_place)), ((rM 6), .inl (cy 0, 10, .inl M_voice))] → va_S A s.heap H locs → lv_has ls 6 [(0, .ref h0), (4, .int l4)] → W p l e R s m args below meth c H locs 0 0 QQ (F0 m 76 ls [])) → ∀ (nf : Nat) (l4 : Int32) (l5 : Int32) (H : Heap) (locs : List Loc) (ls : Array Slot), wpX11_nearest_L6 M_told M_place M_voice l1 l2 l3 kx76 post nf l4 l5 → va_P D clsX [(h0, .inr (11, oX11 rM sM)), ((rM 3), .inl (cy 0, 14, .inl M_told)), ((rM 4), .inl (cy 0, 10, .inl M_place)), ((rM 6), .inl (cy 0, 10, .inl M_voice))] H → va_D A [(h0, .inr (11, oX11 rM sM)), ((rM 3), .inl (cy 0, 14, .inl M_told)), ((rM 4), .inl (cy 0, 10, .inl M_place)), ((rM 6), .inl (cy 0, 10, .inl M_voice))] → va_S A s.heap H locs → lv_has ls 6 [(0, .ref h0), (1, .int l1), (2, .int l2), (3, .int l3), (4, .int l4), (5, .int l5)] → W p l e R s m args below meth c H locs 0 0 QQ (F0 m 6 ls []) := by
    intro l1 l2 l3 kx76 hk6_76 nf
    induction nf with
    | zero =>
      intro l4 l5 H locs ls h
      exact (show False from h).elim
    | succ nf ih6 =>
      intro l4 l5 H locs ls h hP hD hS hl
      have J43 : ∀ (l4 : Int32) (l5 : Int32) (H : Heap) (locs : List Loc) (ls : Array Slot), wpX11_nearest_J43 M_told M_place M_voice l1 l2 l3 l4 l5 (fun b0 b1 => wpX11_nearest_L6 M_told M_place M_voice l1 l2 l3 kx76 post nf b0 b1) kx76 post → va_P D clsX [(h0, .inr (11, oX11 rM sM)), ((rM 3), .inl (cy 0, 14, .inl M_told)), ((rM 4), .inl (cy 0, 10, .inl M_place)), ((rM 6), .inl (cy 0, 10, .inl M_voice))] H → va_D A [(h0, .inr (11, oX11 rM sM)), ((rM 3), .inl (cy 0, 14, .inl M_told)), ((rM 4), .inl (cy 0, 10, .inl M_place)), ((rM 6), .inl (cy 0, 10, .inl M_voice))] → va_S A s.heap H locs → lv_has ls 6 [(0, .ref h0), (1, .int l1), (2, .int l2), (3, .int l3), (4, .int l4), (5, .int l5)] → W p l e R s m args below meth c H locs 0 0 QQ (F0 m 43 ls []) := by
        intro l4 l5 H locs ls h hP hD hS hl
        refine lv_iload hx hb dX11_nearest_43 (lv_at hl 4 rfl) ?_
        refine lv_iconst (v := (-1 : Int32)) hx hb dX11_nearest_45 (by decide) ?_
        refine lv_icmp_eq (tgt := 66) hx hb dX11_nearest_46 (by decide) (fun c46 => ?_) (fun c46 => ?_)
        · have h := h.1 c46
          refine lv_iload hx hb dX11_nearest_66 (lv_at hl 5 rfl) ?_
          refine lv_istore (lv' := [(4, .int l5), (0, .ref h0), (1, .int l1), (2, .int l2), (3, .int l3), (5, .int l5)]) hx hb dX11_nearest_68 hl (by decide) rfl (fun ls hl => ?_)
          obtain ⟨l5_70, el5_70⟩ : ∃ y : Int32, y = l5 + (1 : Int32) := ⟨_, rfl⟩
          have h := h l5_70 el5_70
          refine lv_iinc (v := l5_70) (lv' := [(5, .int l5_70), (4, .int l5), (0, .ref h0), (1, .int l1), (2, .int l2), (3, .int l3)]) hx hb dX11_nearest_70 hl (k := 5) rfl (by rw [el5_70]; rfl) (by decide) rfl (fun ls hl => ?_)
          refine lv_goto (tgt := 6) hx hb dX11_nearest_73 (by decide) ?_
          exact ih6 l5 l5_70 _ _ _ h hP hD hS (lv_sub hl [2, 3, 4, 5, 1, 0] rfl)
        · have h := h.2 c46
          refine lv_aload_n hx hb dX11_nearest_49 rfl (lv_at hl 0 rfl) ?_
          refine lv_iload hx hb dX11_nearest_50 (lv_at hl 5 rfl) ?_
          refine lv_iload_n hx hb dX11_nearest_52 rfl (lv_at hl 2 rfl) ?_
          refine clVi (As := [.int l5, .int l2]) (rest := []) (Wr := [((rM 6), .inl (cy 0, 10, .inl M_voice))]) (cq := (RX11, TX11, 56)) ⟨hx, hb, hml, hown, hts⟩ ⟨callB_of 2 hts (goodC mw1492) rfl rfl rfl (hts _ (tb mw15)) (hts _ (tb mw1489)) kdX11_farOf ⟨Nat.le_trans (by decide) hRf, Nat.le_trans (by decide) hRl⟩, hts _ (tb mw1491), hts _ (tb ms62)⟩ (ctX11_farOf l D cy h0 rM sM M_told M_place l5 l2 _ _ h) hK hP hD hS hA [0, 1, 2] [3] rfl rfl (by decide) (by decide) (by decide) 0 rfl rfl rfl hl.1 rfl (Nat.le_of_ble_eq_true rfl) ⟨Nat.zero_le _, Nat.zero_le _⟩ dX11_nearest_53 (fun r53 u H locs h hP hD hS => ?_)
          have hP : va_P D clsX [((rM 6), .inl (cy 0, 10, .inl M_voice)), (h0, .inr (11, oX11 rM sM)), ((rM 3), .inl (cy 0, 14, .inl M_told)), ((rM 4), .inl (cy 0, 10, .inl M_place))] H := hP
          have hD : va_D A [((rM 6), .inl (cy 0, 10, .inl M_voice)), (h0, .inr (11, oX11 rM sM)), ((rM 3), .inl (cy 0, 14, .inl M_told)), ((rM 4), .inl (cy 0, 10, .inl M_place))] := hD
          refine lv_aload_n hx hb dX11_nearest_56 rfl (lv_at hl 0 rfl) ?_
          refine lv_iload hx hb dX11_nearest_57 (lv_at hl 4 rfl) ?_
          refine lv_iload_n hx hb dX11_nearest_59 rfl (lv_at hl 2 rfl) ?_
          refine clVi (As := [.int l4, .int l2]) (rest := [.int r53]) (Wr := [((rM 6), .inl (cy 0, 10, .inl M_voice))]) (cq := (RX11, TX11, 56)) ⟨hx, hb, hml, hown, hts⟩ ⟨callB_of 2 hts (goodC mw1492) rfl rfl rfl (hts _ (tb mw15)) (hts _ (tb mw1489)) kdX11_farOf ⟨Nat.le_trans (by decide) hRf, Nat.le_trans (by decide) hRl⟩, hts _ (tb mw1491), hts _ (tb ms62)⟩ (ctX11_farOf l D cy h0 rM sM M_told M_place l4 l2 _ _ h) hK hP hD hS hA [1, 2, 3] [0] rfl rfl (by decide) (by decide) (by decide) 0 rfl rfl rfl hl.1 rfl (Nat.le_of_ble_eq_true rfl) ⟨Nat.zero_le _, Nat.zero_le _⟩ dX11_nearest_60 (fun r60 u H locs h hP hD hS => ?_)
          have hP : va_P D clsX [((rM 6), .inl (cy 0, 10, .inl M_voice)), (h0, .inr (11, oX11 rM sM)), ((rM 3), .inl (cy 0, 14, .inl M_told)), ((rM 4), .inl (cy 0, 10, .inl M_place))] H := hP
          have hD : va_D A [((rM 6), .inl (cy 0, 10, .inl M_voice)), (h0, .inr (11, oX11 rM sM)), ((rM 3), .inl (cy 0, 14, .inl M_told)), ((rM 4), .inl (cy 0, 10, .inl M_place))] := hD
          refine lv_icmp_ge (tgt := 70) hx hb dX11_nearest_63 (by decide) (fun c63 => ?_) (fun c63 => ?_)
          · have h := h.1 c63
            obtain ⟨l5_70, el5_70⟩ : ∃ y : Int32, y = l5 + (1 : Int32) := ⟨_, rfl⟩
            have h := h l5_70 el5_70
            refine lv_iinc (v := l5_70) (lv' := [(5, .int l5_70), (0, .ref h0), (1, .int l1), (2, .int l2), (3, .int l3), (4, .int l4)]) hx hb dX11_nearest_70 hl (k := 5) rfl (by rw [el5_70]; rfl) (by decide) rfl (fun ls hl => ?_)
            refine lv_goto (tgt := 6) hx hb dX11_nearest_73 (by decide) ?_
            exact ih6 l4 l5_70 _ _ _ h (hP.sub [1, 2, 3, 0] rfl) (hD.sub [1, 2, 3, 0] (by decide) rfl) hS (lv_sub hl [1, 2, 3, 4, 5, 0] rfl)
          · have h := h.2 c63
            refine lv_iload hx hb dX11_nearest_66 (lv_at hl 5 rfl) ?_
            refine lv_istore (lv' := [(4, .int l5), (0, .ref h0), (1, .int l1), (2, .int l2), (3, .int l3), (5, .int l5)]) hx hb dX11_nearest_68 hl (by decide) rfl (fun ls hl => ?_)
            obtain ⟨l5_70, el5_70⟩ : ∃ y : Int32, y = l5 + (1 : Int32) := ⟨_, rfl⟩
            have h := h l5_70 el5_70
            refine lv_iinc (v := l5_70) (lv' := [(5, .int l5_70), (4, .int l5), (0, .ref h0), (1, .int l1), (2, .int l2), (3, .int l3)]) hx hb dX11_nearest_70 hl (k := 5) rfl (by rw [el5_70]; rfl) (by decide) rfl (fun ls hl => ?_)
            refine lv_goto (tgt := 6) hx hb dX11_nearest_73 (by decide) ?_
            exact ih6 l5 l5_70 _ _ _ h (hP.sub [1, 2, 3, 0] rfl) (hD.sub [1, 2, 3, 0] (by decide) rfl) hS (lv_sub hl [2, 3, 4, 5, 1, 0] rfl)
      refine lv_iload hx hb dX11_nearest_6 (lv_at hl 5 rfl) ?_
      refine lv_aload_n hx hb dX11_nearest_8 rfl (lv_at hl 0 rfl) ?_
      refine gfX11_36 hx hb hts hown hK hP 0 rfl dX11_nearest_9 ?_
      refine lv_iconst (v := (2 : Int32)) hx hb dX11_nearest_12 (by decide) ?_
      refine ldi (k := 2) hx hb hK hP 1 rfl (inL (by decide)) (by decide) dX11_nearest_13 ?_
      refine lv_icmp_ge (tgt := 76) hx hb dX11_nearest_14 (by decide) (fun c14 => ?_) (fun c14 => ?_)
      · have h := h.1 c14
        exact hk6_76 l4 l5 _ _ _ h hP hD hS (lv_sub hl [0, 4] rfl)
      · have h := h.2 c14
        refine lv_iload_n hx hb dX11_nearest_17 rfl (lv_at hl 1 rfl) ?_
        refine lv_iload hx hb dX11_nearest_18 (lv_at hl 5 rfl) ?_
        refine lv_ishr hx hb dX11_nearest_20 ?_
        refine lv_iconst (v := (1 : Int32)) hx hb dX11_nearest_21 (by decide) ?_
        refine lv_iand hx hb dX11_nearest_22 ?_
        refine lv_iconst (v := (1 : Int32)) hx hb dX11_nearest_23 (by decide) ?_
        refine lv_icmp_ne (tgt := 70) hx hb dX11_nearest_24 (by decide) (fun c24 => ?_) (fun c24 => ?_)
        · have h := h.1 c24
          obtain ⟨l5_70, el5_70⟩ : ∃ y : Int32, y = l5 + (1 : Int32) := ⟨_, rfl⟩
          have h := h l5_70 el5_70
          refine lv_iinc (v := l5_70) (lv' := [(5, .int l5_70), (0, .ref h0), (1, .int l1), (2, .int l2), (3, .int l3), (4, .int l4)]) hx hb dX11_nearest_70 hl (k := 5) rfl (by rw [el5_70]; rfl) (by decide) rfl (fun ls hl => ?_)
          refine lv_goto (tgt := 6) hx hb dX11_nearest_73 (by decide) ?_
          exact ih6 l4 l5_70 _ _ _ h hP hD hS (lv_sub hl [1, 2, 3, 4, 5, 0] rfl)
        · have h := h.2 c24
          refine lv_iload_n hx hb dX11_nearest_27 rfl (lv_at hl 3 rfl) ?_
          refine lv_iconst (v := (-1 : Int32)) hx hb dX11_nearest_28 (by decide) ?_
          refine lv_icmp_eq (tgt := 43) hx hb dX11_nearest_29 (by decide) (fun c29 => ?_) (fun c29 => ?_)
          · have h := h.1 c29
            exact J43 l4 l5 _ _ _ h hP hD hS hl
          · have h := h.2 c29
            refine lv_aload_n hx hb dX11_nearest_32 rfl (lv_at hl 0 rfl) ?_
            refine gfX11_46 hx hb hts hown hK hP 0 rfl dX11_nearest_33 ?_
            refine lv_iload hx hb dX11_nearest_36 (lv_at hl 5 rfl) ?_
            obtain ⟨hin, h⟩ := h
            refine ldi (k := l5.toNatClampNeg) hx hb hK hP 3 rfl hin rfl dX11_nearest_38 ?_
            refine lv_iload_n hx hb dX11_nearest_39 rfl (lv_at hl 3 rfl) ?_
            refine lv_icmp_ne (tgt := 70) hx hb dX11_nearest_40 (by decide) (fun c40 => ?_) (fun c40 => ?_)
            · have h := h.1 c40
              obtain ⟨l5_70, el5_70⟩ : ∃ y : Int32, y = l5 + (1 : Int32) := ⟨_, rfl⟩
              have h := h l5_70 el5_70
              refine lv_iinc (v := l5_70) (lv' := [(5, .int l5_70), (0, .ref h0), (1, .int l1), (2, .int l2), (3, .int l3), (4, .int l4)]) hx hb dX11_nearest_70 hl (k := 5) rfl (by rw [el5_70]; rfl) (by decide) rfl (fun ls hl => ?_)
              refine lv_goto (tgt := 6) hx hb dX11_nearest_73 (by decide) ?_
              exact ih6 l4 l5_70 _ _ _ h hP hD hS (lv_sub hl [1, 2, 3, 4, 5, 0] rfl)
            · have h := h.2 c40
              exact J43 l4 l5 _ _ _ h hP hD hS hl
  refine lv_iconst (v := (-1 : Int32)) hx hb dX11_nearest_0 (by decide) ?_
  refine lv_istore (lv' := [(4, .int (-1 : Int32)), (0, .ref h0), (1, .int x1), (2, .int x2), (3, .int x3)]) hx hb dX11_nearest_1 hl (by decide) rfl (fun ls hl => ?_)
  refine lv_iconst (v := (0 : Int32)) hx hb dX11_nearest_3 (by decide) ?_
  refine lv_istore (lv' := [(5, .int (0 : Int32)), (4, .int (-1 : Int32)), (0, .ref h0), (1, .int x1), (2, .int x2), (3, .int x3)]) hx hb dX11_nearest_4 hl (by decide) rfl (fun ls hl => ?_)
  obtain ⟨nf, h⟩ := h
  refine L6 x1 x2 x3 _ (fun l4_76 l5_76 H locs ls h hP hD hS hl => ?_) nf (-1 : Int32) (0 : Int32) _ _ _ h hP hD hS (lv_sub hl [2, 3, 4, 5, 1, 0] rfl)
  refine lv_iload hx hb dX11_nearest_76 (lv_at hl 1 rfl) ?_
  exact hret l4_76 () _ _ _ _ rfl dX11_nearest_78 h hP hD hS
def wpX4_xOf (sG : AR) (x1 : Int32) (post : Int32 → Prop) : Prop := (((sG 0) ≤ 0 → post (0 : Int32)) ∧ (¬ (sG 0) ≤ 0 → ¬ (sG 0) = 0 ∧ post (jrem x1 (sG 0))))
set_option maxHeartbeats 4000000 in
set_option maxRecDepth 100000 in
theorem ctX4_xOf (l : Launch) (D : va_G) (cy : Nat → ClassId) (h0 : Nat) (rG : Nat → Nat) (sG : AR) (x1 : Int32) (sz : Nat) (post : Int32 → Prop) (h : wpX4_xOf sG x1 post) : Met l yX4_xOf (Cond.code yX4_xOf cX4_xOf 2 (some .int) :: TB) ({ frames := 0, cells := 0, slots := 0, locals := 0 }) (va_Pc [.ref h0, .int x1] (PreX D cy [(h0, .inr (4, oX4 rG sG))] sz)) (va_Qi (fun (r : Int32) (u : Unit) => post r) (fun u => BkX D cy [(h0, .inr (4, oX4 rG sG))] sz [(h0, .inr (4, oX4 rG sG))]) (va_A [(h0, .inr (4, oX4 rG sG))] sz)) 0 0 (va_A [(h0, .inr (4, oX4 rG sG))] sz) := by
  refine ofWi (by decide) (Nat.le_of_ble_eq_true rfl) ?_
  intro p e s m args below meth c ls A R QQ hx hb hml hown hts hR hK hP hD hS hA hl hret
  have hown : s.vm.findClass RX4 = some m.cls := hown
  have hRf : 0 ≤ R.frames := by rw [hR]; exact Nat.le_refl _
  have hRl : 0 ≤ R.locals := by rw [hR]; exact Nat.le_refl _
  clear hR
  have hl : lv_has ls 2 [(0, .ref h0), (1, .int x1)] := hl
  refine lv_aload_n hx hb dX4_xOf_0 rfl (lv_at hl 0 rfl) ?_
  refine gfX4_40 (v := (sG 0)) hx hb hts hown hK hP 0 rfl rfl dX4_xOf_1 ?_
  refine lv_if_le (tgt := 16) hx hb dX4_xOf_4 (by decide) (fun c4 => ?_) (fun c4 => ?_)
  · have h := h.1 c4
    refine lv_iconst (v := (0 : Int32)) hx hb dX4_xOf_16 (by decide) ?_
    exact hret (0 : Int32) () _ _ _ _ rfl dX4_xOf_17 h hP hD hS
  · have h := h.2 c4
    refine lv_iload_n hx hb dX4_xOf_7 rfl (lv_at hl 1 rfl) ?_
    refine lv_aload_n hx hb dX4_xOf_8 rfl (lv_at hl 0 rfl) ?_
    refine gfX4_40 (v := (sG 0)) hx hb hts hown hK hP 0 rfl rfl dX4_xOf_9 ?_
    obtain ⟨hne, h⟩ := h
    refine lv_irem hx hb dX4_xOf_12 hne ?_
    refine lv_goto (tgt := 17) hx hb dX4_xOf_13 (by decide) ?_
    exact hret (jrem x1 (sG 0)) () _ _ _ _ rfl dX4_xOf_17 h hP hD hS
def wpX4_yOf (sG : AR) (x1 : Int32) (post : Int32 → Prop) : Prop := (((sG 0) ≤ 0 → post (0 : Int32)) ∧ (¬ (sG 0) ≤ 0 → ¬ (sG 0) = 0 ∧ post (x1 / (sG 0))))
set_option maxHeartbeats 4000000 in
set_option maxRecDepth 100000 in
theorem ctX4_yOf (l : Launch) (D : va_G) (cy : Nat → ClassId) (h0 : Nat) (rG : Nat → Nat) (sG : AR) (x1 : Int32) (sz : Nat) (post : Int32 → Prop) (h : wpX4_yOf sG x1 post) : Met l yX4_yOf (Cond.code yX4_yOf cX4_yOf 2 (some .int) :: TB) ({ frames := 0, cells := 0, slots := 0, locals := 0 }) (va_Pc [.ref h0, .int x1] (PreX D cy [(h0, .inr (4, oX4 rG sG))] sz)) (va_Qi (fun (r : Int32) (u : Unit) => post r) (fun u => BkX D cy [(h0, .inr (4, oX4 rG sG))] sz [(h0, .inr (4, oX4 rG sG))]) (va_A [(h0, .inr (4, oX4 rG sG))] sz)) 0 0 (va_A [(h0, .inr (4, oX4 rG sG))] sz) := by
  refine ofWi (by decide) (Nat.le_of_ble_eq_true rfl) ?_
  intro p e s m args below meth c ls A R QQ hx hb hml hown hts hR hK hP hD hS hA hl hret
  have hown : s.vm.findClass RX4 = some m.cls := hown
  have hRf : 0 ≤ R.frames := by rw [hR]; exact Nat.le_refl _
  have hRl : 0 ≤ R.locals := by rw [hR]; exact Nat.le_refl _
  clear hR
  have hl : lv_has ls 2 [(0, .ref h0), (1, .int x1)] := hl
  refine lv_aload_n hx hb dX4_yOf_0 rfl (lv_at hl 0 rfl) ?_
  refine gfX4_40 (v := (sG 0)) hx hb hts hown hK hP 0 rfl rfl dX4_yOf_1 ?_
  refine lv_if_le (tgt := 16) hx hb dX4_yOf_4 (by decide) (fun c4 => ?_) (fun c4 => ?_)
  · have h := h.1 c4
    refine lv_iconst (v := (0 : Int32)) hx hb dX4_yOf_16 (by decide) ?_
    exact hret (0 : Int32) () _ _ _ _ rfl dX4_yOf_17 h hP hD hS
  · have h := h.2 c4
    refine lv_iload_n hx hb dX4_yOf_7 rfl (lv_at hl 1 rfl) ?_
    refine lv_aload_n hx hb dX4_yOf_8 rfl (lv_at hl 0 rfl) ?_
    refine gfX4_40 (v := (sG 0)) hx hb hts hown hK hP 0 rfl rfl dX4_yOf_9 ?_
    obtain ⟨hne, h⟩ := h
    refine lv_idiv hx hb dX4_yOf_12 hne ?_
    refine lv_goto (tgt := 17) hx hb dX4_yOf_13 (by decide) ?_
    exact hret (x1 / (sG 0)) () _ _ _ _ rfl dX4_yOf_17 h hP hD hS
def wpX4_distance_J89 (sG : AR) (G_towerCell : AR) (l3 : Int32) (l4 : Int32) (l5 : Int32) (post : Int32 → Prop) : Prop := post (((4 : Int32) * ((jabs l3) + (jabs l4))) - ((sG 5) * l5))
def wpX4_distance (sG : AR) (G_towerCell : AR) (x1 : Int32) (x2 : Int32) (post : Int32 → Prop) : Prop := wpX4_xOf sG x2 (fun r2 => vp_in x1 5 ∧ wpX4_xOf sG (G_towerCell x1.toNatClampNeg) (fun r12 => ∀ l3_16 : Int32, l3_16 = (r2 - r12) → wpX4_yOf sG x2 (fun r19 => vp_in x1 5 ∧ wpX4_yOf sG (G_towerCell x1.toNatClampNeg) (fun r29 => ∀ l4_33 : Int32, l4_33 = (r19 - r29) → (((sG 4) = (0 : Int32) → ∀ l5_67 : Int32, l5_67 = (-l4_33) → wpX4_distance_J89 sG G_towerCell l3_16 l4_33 l5_67 post) ∧ (¬ (sG 4) = (0 : Int32) → (((sG 4) = (1 : Int32) → wpX4_distance_J89 sG G_towerCell l3_16 l4_33 l3_16 post) ∧ (¬ (sG 4) = (1 : Int32) → (((sG 4) = (2 : Int32) → wpX4_distance_J89 sG G_towerCell l3_16 l4_33 l4_33 post) ∧ (¬ (sG 4) = (2 : Int32) → ∀ l5_87 : Int32, l5_87 = (-l3_16) → wpX4_distance_J89 sG G_towerCell l3_16 l4_33 l5_87 post))))))))))
set_option maxHeartbeats 4000000 in
set_option maxRecDepth 100000 in
theorem ctX4_distance (l : Launch) (D : va_G) (cy : Nat → ClassId) (h0 : Nat) (rG : Nat → Nat) (sG : AR) (G_towerCell : AR) (x1 : Int32) (x2 : Int32) (sz : Nat) (post : Int32 → Prop) (h : wpX4_distance sG G_towerCell x1 x2 post) : Met l yX4_distance (Cond.code yX4_distance cX4_distance 6 (some .int) :: TB) ({ frames := 1, cells := 0, slots := 0, locals := 60 }) (va_Pc [.ref h0, .int x1, .int x2] (PreX D cy [(h0, .inr (4, oX4 rG sG)), ((rG 7), .inl (cy 0, 5, .inl G_towerCell))] sz)) (va_Qi (fun (r : Int32) (u : Unit) => post r) (fun u => BkX D cy [(h0, .inr (4, oX4 rG sG)), ((rG 7), .inl (cy 0, 5, .inl G_towerCell))] sz [(h0, .inr (4, oX4 rG sG)), ((rG 7), .inl (cy 0, 5, .inl G_towerCell))]) (va_A [(h0, .inr (4, oX4 rG sG)), ((rG 7), .inl (cy 0, 5, .inl G_towerCell))] sz)) 0 0 (va_A [(h0, .inr (4, oX4 rG sG)), ((rG 7), .inl (cy 0, 5, .inl G_towerCell))] sz) := by
  refine ofWi (by decide) (Nat.le_of_ble_eq_true rfl) ?_
  intro p e s m args below meth c ls A R QQ hx hb hml hown hts hR hK hP hD hS hA hl hret
  have hown : s.vm.findClass RX4 = some m.cls := hown
  have hRf : 1 ≤ R.frames := by rw [hR]; exact Nat.le_refl _
  have hRl : 60 ≤ R.locals := by rw [hR]; exact Nat.le_refl _
  clear hR
  have hl : lv_has ls 6 [(0, .ref h0), (1, .int x1), (2, .int x2)] := hl
  have J89 : ∀ (l3 : Int32) (l4 : Int32) (l5 : Int32) (H : Heap) (locs : List Loc) (ls : Array Slot), wpX4_distance_J89 sG G_towerCell l3 l4 l5 post → va_P D clsX [(h0, .inr (4, oX4 rG sG)), ((rG 7), .inl (cy 0, 5, .inl G_towerCell))] H → va_D A [(h0, .inr (4, oX4 rG sG)), ((rG 7), .inl (cy 0, 5, .inl G_towerCell))] → va_S A s.heap H locs → lv_has ls 6 [(0, .ref h0), (3, .int l3), (4, .int l4), (5, .int l5)] → W p l e R s m args below meth c H locs 0 0 QQ (F0 m 89 ls []) := by
    intro l3 l4 l5 H locs ls h hP hD hS hl
    refine lv_iconst (v := (4 : Int32)) hx hb dX4_distance_89 (by decide) ?_
    refine lv_iload_n hx hb dX4_distance_90 rfl (lv_at hl 1 rfl) ?_
    refine mabs hx hb (hml.trans hl.1.symm) hts hown mw417 (Nat.le_trans (by decide) hRf) (Nat.le_trans (Nat.le_of_ble_eq_true rfl) hRl) (Nat.zero_le _) (Nat.zero_le _) dX4_distance_91 ?_
    refine lv_iload hx hb dX4_distance_94 (lv_at hl 2 rfl) ?_
    refine mabs hx hb (hml.trans hl.1.symm) hts hown mw417 (Nat.le_trans (by decide) hRf) (Nat.le_trans (Nat.le_of_ble_eq_true rfl) hRl) (Nat.zero_le _) (Nat.zero_le _) dX4_distance_96 ?_
    refine lv_iadd hx hb dX4_distance_99 ?_
    refine lv_imul hx hb dX4_distance_100 ?_
    refine lv_aload_n hx hb dX4_distance_101 rfl (lv_at hl 0 rfl) ?_
    refine gfX4_56 (v := (sG 5)) hx hb hts hown hK hP 0 rfl rfl dX4_distance_102 ?_
    refine lv_iload hx hb dX4_distance_105 (lv_at hl 3 rfl) ?_
    refine lv_imul hx hb dX4_distance_107 ?_
    refine lv_isub hx hb dX4_distance_108 ?_
    exact hret (((4 : Int32) * ((jabs l3) + (jabs l4))) - ((sG 5) * l5)) () _ _ _ _ rfl dX4_distance_109 h hP hD hS
  refine lv_aload_n hx hb dX4_distance_0 rfl (lv_at hl 0 rfl) ?_
  refine lv_iload_n hx hb dX4_distance_1 rfl (lv_at hl 2 rfl) ?_
  refine clVi (As := [.int x2]) (rest := []) (Wr := [((rG 7), .inl (cy 0, 5, .inl G_towerCell))]) (cq := (RX4, TX4, 16)) ⟨hx, hb, hml, hown, hts⟩ ⟨callB_of 1 hts (goodC mw412) rfl rfl rfl (hts _ (tb mw3)) (hts _ (tb mw409)) kdX4_xOf ⟨Nat.le_trans (by decide) hRf, Nat.le_trans (by decide) hRl⟩, hts _ (tb mw410), hts _ (tb mw411)⟩ (ctX4_xOf l D cy h0 rG sG x2 _ _ h) hK hP hD hS hA [0] [1] rfl rfl (by decide) (by decide) (by decide) 0 rfl rfl rfl hl.1 rfl (Nat.le_of_ble_eq_true rfl) ⟨Nat.zero_le _, Nat.zero_le _⟩ dX4_distance_2 (fun r2 u H locs h hP hD hS => ?_)
  have hP : va_P D clsX [((rG 7), .inl (cy 0, 5, .inl G_towerCell)), (h0, .inr (4, oX4 rG sG))] H := hP
  have hD : va_D A [((rG 7), .inl (cy 0, 5, .inl G_towerCell)), (h0, .inr (4, oX4 rG sG))] := hD
  refine lv_aload_n hx hb dX4_distance_5 rfl (lv_at hl 0 rfl) ?_
  refine lv_aload_n hx hb dX4_distance_6 rfl (lv_at hl 0 rfl) ?_
  refine gfX4_9 hx hb hts hown hK hP 1 rfl dX4_distance_7 ?_
  refine lv_iload_n hx hb dX4_distance_10 rfl (lv_at hl 1 rfl) ?_
  obtain ⟨hin, h⟩ := h
  refine ldi (k := x1.toNatClampNeg) hx hb hK hP 0 rfl hin rfl dX4_distance_11 ?_
  refine clVi (As := [.int (G_towerCell x1.toNatClampNeg)]) (rest := [.int r2]) (Wr := [((rG 7), .inl (cy 0, 5, .inl G_towerCell))]) (cq := (RX4, TX4, 16)) ⟨hx, hb, hml, hown, hts⟩ ⟨callB_of 1 hts (goodC mw412) rfl rfl rfl (hts _ (tb mw3)) (hts _ (tb mw409)) kdX4_xOf ⟨Nat.le_trans (by decide) hRf, Nat.le_trans (by decide) hRl⟩, hts _ (tb mw410), hts _ (tb mw411)⟩ (ctX4_xOf l D cy h0 rG sG (G_towerCell x1.toNatClampNeg) _ _ h) hK hP hD hS hA [1] [0] rfl rfl (by decide) (by decide) (by decide) 0 rfl rfl rfl hl.1 rfl (Nat.le_of_ble_eq_true rfl) ⟨Nat.zero_le _, Nat.zero_le _⟩ dX4_distance_12 (fun r12 u H locs h hP hD hS => ?_)
  have hP : va_P D clsX [((rG 7), .inl (cy 0, 5, .inl G_towerCell)), (h0, .inr (4, oX4 rG sG))] H := hP
  have hD : va_D A [((rG 7), .inl (cy 0, 5, .inl G_towerCell)), (h0, .inr (4, oX4 rG sG))] := hD
  refine lv_isub hx hb dX4_distance_15 ?_
  refine lv_topi (fun l3_16 el3_16 => ?_)
  have h := h l3_16 el3_16
  refine lv_istore_n (lv' := [(3, .int l3_16), (0, .ref h0), (1, .int x1), (2, .int x2)]) hx hb dX4_distance_16 rfl hl (by decide) rfl (fun ls hl => ?_)
  refine lv_aload_n hx hb dX4_distance_17 rfl (lv_at hl 1 rfl) ?_
  refine lv_iload_n hx hb dX4_distance_18 rfl (lv_at hl 3 rfl) ?_
  refine clVi (As := [.int x2]) (rest := []) (Wr := [((rG 7), .inl (cy 0, 5, .inl G_towerCell))]) (cq := (RX4, TX4, 16)) ⟨hx, hb, hml, hown, hts⟩ ⟨callB_of 1 hts (goodC mw416) rfl rfl rfl (hts _ (tb mw3)) (hts _ (tb mw413)) kdX4_yOf ⟨Nat.le_trans (by decide) hRf, Nat.le_trans (by decide) hRl⟩, hts _ (tb mw414), hts _ (tb mw415)⟩ (ctX4_yOf l D cy h0 rG sG x2 _ _ h) hK hP hD hS hA [1] [0] rfl rfl (by decide) (by decide) (by decide) 0 rfl rfl rfl hl.1 rfl (Nat.le_of_ble_eq_true rfl) ⟨Nat.zero_le _, Nat.zero_le _⟩ dX4_distance_19 (fun r19 u H locs h hP hD hS => ?_)
  have hP : va_P D clsX [((rG 7), .inl (cy 0, 5, .inl G_towerCell)), (h0, .inr (4, oX4 rG sG))] H := hP
  have hD : va_D A [((rG 7), .inl (cy 0, 5, .inl G_towerCell)), (h0, .inr (4, oX4 rG sG))] := hD
  refine lv_aload_n hx hb dX4_distance_22 rfl (lv_at hl 1 rfl) ?_
  refine lv_aload_n hx hb dX4_distance_23 rfl (lv_at hl 1 rfl) ?_
  refine gfX4_9 hx hb hts hown hK hP 1 rfl dX4_distance_24 ?_
  refine lv_iload_n hx hb dX4_distance_27 rfl (lv_at hl 2 rfl) ?_
  obtain ⟨hin, h⟩ := h
  refine ldi (k := x1.toNatClampNeg) hx hb hK hP 0 rfl hin rfl dX4_distance_28 ?_
  refine clVi (As := [.int (G_towerCell x1.toNatClampNeg)]) (rest := [.int r19]) (Wr := [((rG 7), .inl (cy 0, 5, .inl G_towerCell))]) (cq := (RX4, TX4, 16)) ⟨hx, hb, hml, hown, hts⟩ ⟨callB_of 1 hts (goodC mw416) rfl rfl rfl (hts _ (tb mw3)) (hts _ (tb mw413)) kdX4_yOf ⟨Nat.le_trans (by decide) hRf, Nat.le_trans (by decide) hRl⟩, hts _ (tb mw414), hts _ (tb mw415)⟩ (ctX4_yOf l D cy h0 rG sG (G_towerCell x1.toNatClampNeg) _ _ h) hK hP hD hS hA [1] [0] rfl rfl (by decide) (by decide) (by decide) 0 rfl rfl rfl hl.1 rfl (Nat.le_of_ble_eq_true rfl) ⟨Nat.zero_le _, Nat.zero_le _⟩ dX4_distance_29 (fun r29 u H locs h hP hD hS => ?_)
  have hP : va_P D clsX [((rG 7), .inl (cy 0, 5, .inl G_towerCell)), (h0, .inr (4, oX4 rG sG))] H := hP
  have hD : va_D A [((rG 7), .inl (cy 0, 5, .inl G_towerCell)), (h0, .inr (4, oX4 rG sG))] := hD
  refine lv_isub hx hb dX4_distance_32 ?_
  refine lv_topi (fun l4_33 el4_33 => ?_)
  have h := h l4_33 el4_33
  refine lv_istore (lv' := [(4, .int l4_33), (3, .int l3_16), (0, .ref h0), (1, .int x1), (2, .int x2)]) hx hb dX4_distance_33 hl (by decide) rfl (fun ls hl => ?_)
  refine lv_aload_n hx hb dX4_distance_35 rfl (lv_at hl 2 rfl) ?_
  refine gfX4_53 (v := (sG 4)) hx hb hts hown hK hP 1 rfl rfl dX4_distance_36 ?_
  by_cases c39_0 : (sG 4) = (0 : Int32)
  · have h := h.1 c39_0
    refine lv_tableIn (off := 25) (tgt := 64) hx hb dX4_distance_39 (by rw [c39_0]; decide) (by rw [c39_0]; decide) (by rw [c39_0]; rfl) (by decide) ?_
    refine lv_iload hx hb dX4_distance_64 (lv_at hl 0 rfl) ?_
    refine lv_ineg hx hb dX4_distance_66 ?_
    refine lv_topi (fun l5_67 el5_67 => ?_)
    have h := h l5_67 el5_67
    refine lv_istore (lv' := [(5, .int l5_67), (4, .int l4_33), (3, .int l3_16), (0, .ref h0), (1, .int x1), (2, .int x2)]) hx hb dX4_distance_67 hl (by decide) rfl (fun ls hl => ?_)
    refine lv_goto (tgt := 89) hx hb dX4_distance_69 (by decide) ?_
    exact J89 l3_16 l4_33 l5_67 _ _ _ h (hP.sub [1, 0] rfl) (hD.sub [1, 0] (by decide) rfl) hS (lv_sub hl [3, 2, 1, 0] rfl)
  · have h := h.2 c39_0
    by_cases c39_1 : (sG 4) = (1 : Int32)
    · have h := h.1 c39_1
      refine lv_tableIn (off := 33) (tgt := 72) hx hb dX4_distance_39 (by rw [c39_1]; decide) (by rw [c39_1]; decide) (by rw [c39_1]; rfl) (by decide) ?_
      refine lv_iload_n hx hb dX4_distance_72 rfl (lv_at hl 1 rfl) ?_
      refine lv_istore (lv' := [(5, .int l3_16), (4, .int l4_33), (3, .int l3_16), (0, .ref h0), (1, .int x1), (2, .int x2)]) hx hb dX4_distance_73 hl (by decide) rfl (fun ls hl => ?_)
      refine lv_goto (tgt := 89) hx hb dX4_distance_75 (by decide) ?_
      exact J89 l3_16 l4_33 l3_16 _ _ _ h (hP.sub [1, 0] rfl) (hD.sub [1, 0] (by decide) rfl) hS (lv_sub hl [3, 2, 1, 0] rfl)
    · have h := h.2 c39_1
      by_cases c39_2 : (sG 4) = (2 : Int32)
      · have h := h.1 c39_2
        refine lv_tableIn (off := 39) (tgt := 78) hx hb dX4_distance_39 (by rw [c39_2]; decide) (by rw [c39_2]; decide) (by rw [c39_2]; rfl) (by decide) ?_
        refine lv_iload hx hb dX4_distance_78 (lv_at hl 0 rfl) ?_
        refine lv_istore (lv' := [(5, .int l4_33), (4, .int l4_33), (3, .int l3_16), (0, .ref h0), (1, .int x1), (2, .int x2)]) hx hb dX4_distance_80 hl (by decide) rfl (fun ls hl => ?_)
        refine lv_goto (tgt := 89) hx hb dX4_distance_82 (by decide) ?_
        exact J89 l3_16 l4_33 l4_33 _ _ _ h (hP.sub [1, 0] rfl) (hD.sub [1, 0] (by decide) rfl) hS (lv_sub hl [3, 2, 1, 0] rfl)
      · have h := h.2 c39_2
        have k0 := ne_iN (n := 0) (by decide) c39_0
        have k1 := ne_iN (n := 1) (by decide) c39_1
        have k2 := ne_iN (n := 2) (by decide) c39_2
        refine lv_tableOut (tgt := 85) hx hb dX4_distance_39 (by omega) (by decide) ?_
        refine lv_iload_n hx hb dX4_distance_85 rfl (lv_at hl 1 rfl) ?_
        refine lv_ineg hx hb dX4_distance_86 ?_
        refine lv_topi (fun l5_87 el5_87 => ?_)
        have h := h l5_87 el5_87
        refine lv_istore (lv' := [(5, .int l5_87), (4, .int l4_33), (3, .int l3_16), (0, .ref h0), (1, .int x1), (2, .int x2)]) hx hb dX4_distance_87 hl (by decide) rfl (fun ls hl => ?_)
        exact J89 l3_16 l4_33 l5_87 _ _ _ h (hP.sub [1, 0] rfl) (hD.sub [1, 0] (by decide) rfl) hS (lv_sub hl [3, 2, 1, 0] rfl)
def wpX3_howMany_L4 (sG : AR) (F_all : AR) (l1 : Int32) (kx39 : Int32 → Int32 → Prop) (post : Int32 → Prop) : Nat → Int32 → Int32 → Prop
  | 0, _, _ => False
  | nf + 1, l2, l3 => (((sG 3) ≤ l3 → kx39 l2 l3) ∧ (¬ (sG 3) ≤ l3 → vp_in ((l3 * (6 : Int32)) + (3 : Int32)) 29 ∧ ((¬ (F_all ((l3 * (6 : Int32)) + (3 : Int32)).toNatClampNeg) = l1 → ∀ l3_33 : Int32, l3_33 = (l3 + (1 : Int32)) → wpX3_howMany_L4 sG F_all l1 kx39 post nf l2 l3_33) ∧ ((F_all ((l3 * (6 : Int32)) + (3 : Int32)).toNatClampNeg) = l1 → ∀ l2_30 : Int32, l2_30 = (l2 + (1 : Int32)) → ∀ l3_33 : Int32, l3_33 = (l3 + (1 : Int32)) → wpX3_howMany_L4 sG F_all l1 kx39 post nf l2_30 l3_33))))
def wpX3_howMany (sG : AR) (F_all : AR) (x1 : Int32) (post : Int32 → Prop) : Prop := ∃ nf : Nat, wpX3_howMany_L4 sG F_all x1 (fun l2_39 l3_39 => post l2_39) post nf (0 : Int32) (0 : Int32)
set_option maxHeartbeats 4000000 in
set_option maxRecDepth 100000 in
theorem ctX3_howMany (l : Launch) (D : va_G) (cy : Nat → ClassId) (h0 : Nat) (rF : Nat → Nat) (rG : Nat → Nat) (sG : AR) (F_all : AR) (x1 : Int32) (sz : Nat) (post : Int32 → Prop) (h : wpX3_howMany sG F_all x1 post) : Met l yX3_howMany (Cond.code yX3_howMany cX3_howMany 4 (some .int) :: TB) ({ frames := 0, cells := 0, slots := 0, locals := 0 }) (va_Pc [.ref h0, .int x1] (PreX D cy [(h0, .inr (3, oX3 rF)), ((rF 0), .inr (4, oX4 rG sG)), ((rF 3), .inl (cy 0, 29, .inl F_all))] sz)) (va_Qi (fun (r : Int32) (u : Unit) => post r) (fun u => BkX D cy [(h0, .inr (3, oX3 rF)), ((rF 0), .inr (4, oX4 rG sG)), ((rF 3), .inl (cy 0, 29, .inl F_all))] sz [(h0, .inr (3, oX3 rF)), ((rF 0), .inr (4, oX4 rG sG)), ((rF 3), .inl (cy 0, 29, .inl F_all))]) (va_A [(h0, .inr (3, oX3 rF)), ((rF 0), .inr (4, oX4 rG sG)), ((rF 3), .inl (cy 0, 29, .inl F_all))] sz)) 0 0 (va_A [(h0, .inr (3, oX3 rF)), ((rF 0), .inr (4, oX4 rG sG)), ((rF 3), .inl (cy 0, 29, .inl F_all))] sz) := by
  refine ofWi (by decide) (Nat.le_of_ble_eq_true rfl) ?_
  intro p e s m args below meth c ls A R QQ hx hb hml hown hts hR hK hP hD hS hA hl hret
  have hown : s.vm.findClass RX3 = some m.cls := hown
  have hRf : 0 ≤ R.frames := by rw [hR]; exact Nat.le_refl _
  have hRl : 0 ≤ R.locals := by rw [hR]; exact Nat.le_refl _
  clear hR
  have hl : lv_has ls 4 [(0, .ref h0), (1, .int x1)] := hl
  have L4 : ∀ (l1 : Int32) (kx39 : Int32 → Int32 → Prop), (∀ (l2 : Int32) (l3 : Int32) (H : Heap) (locs : List Loc) (ls : Array Slot), kx39 l2 l3 → va_P D clsX [(h0, .inr (3, oX3 rF)), ((rF 0), .inr (4, oX4 rG sG)), ((rF 3), .inl (cy 0, 29, .inl F_all))] H → va_D A [(h0, .inr (3, oX3 rF)), ((rF 0), .inr (4, oX4 rG sG)), ((rF 3), .inl (cy 0, 29, .inl F_all))] → va_S A s.heap H locs → lv_has ls 4 [(0, .ref h0), (2, .int l2)] → W p l e R s m args below meth c H locs 0 0 QQ (F0 m 39 ls [])) → ∀ (nf : Nat) (l2 : Int32) (l3 : Int32) (H : Heap) (locs : List Loc) (ls : Array Slot), wpX3_howMany_L4 sG F_all l1 kx39 post nf l2 l3 → va_P D clsX [(h0, .inr (3, oX3 rF)), ((rF 0), .inr (4, oX4 rG sG)), ((rF 3), .inl (cy 0, 29, .inl F_all))] H → va_D A [(h0, .inr (3, oX3 rF)), ((rF 0), .inr (4, oX4 rG sG)), ((rF 3), .inl (cy 0, 29, .inl F_all))] → va_S A s.heap H locs → lv_has ls 4 [(0, .ref h0), (1, .int l1), (2, .int l2), (3, .int l3)] → W p l e R s m args below meth c H locs 0 0 QQ (F0 m 4 ls []) := by
    intro l1 kx39 hk4_39 nf
    induction nf with
    | zero =>
      intro l2 l3 H locs ls h
      exact (show False from h).elim
    | succ nf ih4 =>
      intro l2 l3 H locs ls h hP hD hS hl
      refine lv_iload_n hx hb dX3_howMany_4 rfl (lv_at hl 3 rfl) ?_
      refine lv_aload_n hx hb dX3_howMany_5 rfl (lv_at hl 0 rfl) ?_
      refine gfX3_18 hx hb hts hown hK hP 0 rfl dX3_howMany_6 ?_
      refine gfX3_30 (v := (sG 3)) hx hb hts hown hK hP 1 rfl rfl dX3_howMany_9 ?_
      refine lv_icmp_ge (tgt := 39) hx hb dX3_howMany_12 (by decide) (fun c12 => ?_) (fun c12 => ?_)
      · have h := h.1 c12
        exact hk4_39 l2 l3 _ _ _ h hP hD hS (lv_sub hl [0, 2] rfl)
      · have h := h.2 c12
        refine lv_aload_n hx hb dX3_howMany_15 rfl (lv_at hl 0 rfl) ?_
        refine gfX3_11 hx hb hts hown hK hP 0 rfl dX3_howMany_16 ?_
        refine lv_iload_n hx hb dX3_howMany_19 rfl (lv_at hl 3 rfl) ?_
        refine lv_bipush (v := (6 : Int32)) hx hb dX3_howMany_20 (by decide) ?_
        refine lv_imul hx hb dX3_howMany_22 ?_
        refine lv_iconst (v := (3 : Int32)) hx hb dX3_howMany_23 (by decide) ?_
        refine lv_iadd hx hb dX3_howMany_24 ?_
        obtain ⟨hin, h⟩ := h
        refine ldi (k := ((l3 * (6 : Int32)) + (3 : Int32)).toNatClampNeg) hx hb hK hP 2 rfl hin rfl dX3_howMany_25 ?_
        refine lv_iload_n hx hb dX3_howMany_26 rfl (lv_at hl 1 rfl) ?_
        refine lv_icmp_ne (tgt := 33) hx hb dX3_howMany_27 (by decide) (fun c27 => ?_) (fun c27 => ?_)
        · have h := h.1 c27
          obtain ⟨l3_33, el3_33⟩ : ∃ y : Int32, y = l3 + (1 : Int32) := ⟨_, rfl⟩
          have h := h l3_33 el3_33
          refine lv_iinc (v := l3_33) (lv' := [(3, .int l3_33), (0, .ref h0), (1, .int l1), (2, .int l2)]) hx hb dX3_howMany_33 hl (k := 3) rfl (by rw [el3_33]; rfl) (by decide) rfl (fun ls hl => ?_)
          refine lv_goto (tgt := 4) hx hb dX3_howMany_36 (by decide) ?_
          exact ih4 l2 l3_33 _ _ _ h hP hD hS (lv_sub hl [1, 2, 3, 0] rfl)
        · have h := h.2 c27
          obtain ⟨l2_30, el2_30⟩ : ∃ y : Int32, y = l2 + (1 : Int32) := ⟨_, rfl⟩
          have h := h l2_30 el2_30
          refine lv_iinc (v := l2_30) (lv' := [(2, .int l2_30), (0, .ref h0), (1, .int l1), (3, .int l3)]) hx hb dX3_howMany_30 hl (k := 2) rfl (by rw [el2_30]; rfl) (by decide) rfl (fun ls hl => ?_)
          obtain ⟨l3_33, el3_33⟩ : ∃ y : Int32, y = l3 + (1 : Int32) := ⟨_, rfl⟩
          have h := h l3_33 el3_33
          refine lv_iinc (v := l3_33) (lv' := [(3, .int l3_33), (2, .int l2_30), (0, .ref h0), (1, .int l1)]) hx hb dX3_howMany_33 hl (k := 3) rfl (by rw [el3_33]; rfl) (by decide) rfl (fun ls hl => ?_)
          refine lv_goto (tgt := 4) hx hb dX3_howMany_36 (by decide) ?_
          exact ih4 l2_30 l3_33 _ _ _ h hP hD hS (lv_sub hl [2, 3, 1, 0] rfl)
  refine lv_iconst (v := (0 : Int32)) hx hb dX3_howMany_0 (by decide) ?_
  refine lv_istore_n (lv' := [(2, .int (0 : Int32)), (0, .ref h0), (1, .int x1)]) hx hb dX3_howMany_1 rfl hl (by decide) rfl (fun ls hl => ?_)
  refine lv_iconst (v := (0 : Int32)) hx hb dX3_howMany_2 (by decide) ?_
  refine lv_istore_n (lv' := [(3, .int (0 : Int32)), (2, .int (0 : Int32)), (0, .ref h0), (1, .int x1)]) hx hb dX3_howMany_3 rfl hl (by decide) rfl (fun ls hl => ?_)
  obtain ⟨nf, h⟩ := h
  refine L4 x1 _ (fun l2_39 l3_39 H locs ls h hP hD hS hl => ?_) nf (0 : Int32) (0 : Int32) _ _ _ h hP hD hS (lv_sub hl [2, 3, 1, 0] rfl)
  refine lv_iload_n hx hb dX3_howMany_39 rfl (lv_at hl 1 rfl) ?_
  exact hret l2_39 () _ _ _ _ rfl dX3_howMany_40 h hP hD hS
def wpX4_hasTowerAt_L2 (sG : AR) (G_towerCell : AR) (l1 : Int32) (kx28 : Int32 → Prop) (post : Int32 → Prop) : Nat → Int32 → Prop
  | 0, _ => False
  | nf + 1, l2 => (((sG 2) ≤ l2 → kx28 l2) ∧ (¬ (sG 2) ≤ l2 → vp_in l2 5 ∧ ((¬ (G_towerCell l2.toNatClampNeg) = l1 → ∀ l2_22 : Int32, l2_22 = (l2 + (1 : Int32)) → wpX4_hasTowerAt_L2 sG G_towerCell l1 kx28 post nf l2_22) ∧ ((G_towerCell l2.toNatClampNeg) = l1 → post (1 : Int32)))))
def wpX4_hasTowerAt (sG : AR) (G_towerCell : AR) (x1 : Int32) (post : Int32 → Prop) : Prop := ∃ nf : Nat, wpX4_hasTowerAt_L2 sG G_towerCell x1 (fun l2_28 => post (0 : Int32)) post nf (0 : Int32)
set_option maxHeartbeats 4000000 in
set_option maxRecDepth 100000 in
theorem ctX4_hasTowerAt (l : Launch) (D : va_G) (cy : Nat → ClassId) (h0 : Nat) (rG : Nat → Nat) (sG : AR) (G_towerCell : AR) (x1 : Int32) (sz : Nat) (post : Int32 → Prop) (h : wpX4_hasTowerAt sG G_towerCell x1 post) : Met l yX4_hasTowerAt (Cond.code yX4_hasTowerAt cX4_hasTowerAt 3 (some .boolean) :: TB) ({ frames := 0, cells := 0, slots := 0, locals := 0 }) (va_Pc [.ref h0, .int x1] (PreX D cy [(h0, .inr (4, oX4 rG sG)), ((rG 7), .inl (cy 0, 5, .inl G_towerCell))] sz)) (va_Qi (fun (r : Int32) (u : Unit) => post r) (fun u => BkX D cy [(h0, .inr (4, oX4 rG sG)), ((rG 7), .inl (cy 0, 5, .inl G_towerCell))] sz [(h0, .inr (4, oX4 rG sG)), ((rG 7), .inl (cy 0, 5, .inl G_towerCell))]) (va_A [(h0, .inr (4, oX4 rG sG)), ((rG 7), .inl (cy 0, 5, .inl G_towerCell))] sz)) 0 0 (va_A [(h0, .inr (4, oX4 rG sG)), ((rG 7), .inl (cy 0, 5, .inl G_towerCell))] sz) := by
  refine ofWi (by decide) (Nat.le_of_ble_eq_true rfl) ?_
  intro p e s m args below meth c ls A R QQ hx hb hml hown hts hR hK hP hD hS hA hl hret
  have hown : s.vm.findClass RX4 = some m.cls := hown
  have hRf : 0 ≤ R.frames := by rw [hR]; exact Nat.le_refl _
  have hRl : 0 ≤ R.locals := by rw [hR]; exact Nat.le_refl _
  clear hR
  have hl : lv_has ls 3 [(0, .ref h0), (1, .int x1)] := hl
  have L2 : ∀ (l1 : Int32) (kx28 : Int32 → Prop), (∀ (l2 : Int32) (H : Heap) (locs : List Loc) (ls : Array Slot), kx28 l2 → va_P D clsX [(h0, .inr (4, oX4 rG sG)), ((rG 7), .inl (cy 0, 5, .inl G_towerCell))] H → va_D A [(h0, .inr (4, oX4 rG sG)), ((rG 7), .inl (cy 0, 5, .inl G_towerCell))] → va_S A s.heap H locs → lv_has ls 3 [(0, .ref h0)] → W p l e R s m args below meth c H locs 0 0 QQ (F0 m 28 ls [])) → ∀ (nf : Nat) (l2 : Int32) (H : Heap) (locs : List Loc) (ls : Array Slot), wpX4_hasTowerAt_L2 sG G_towerCell l1 kx28 post nf l2 → va_P D clsX [(h0, .inr (4, oX4 rG sG)), ((rG 7), .inl (cy 0, 5, .inl G_towerCell))] H → va_D A [(h0, .inr (4, oX4 rG sG)), ((rG 7), .inl (cy 0, 5, .inl G_towerCell))] → va_S A s.heap H locs → lv_has ls 3 [(0, .ref h0), (1, .int l1), (2, .int l2)] → W p l e R s m args below meth c H locs 0 0 QQ (F0 m 2 ls []) := by
    intro l1 kx28 hk2_28 nf
    induction nf with
    | zero =>
      intro l2 H locs ls h
      exact (show False from h).elim
    | succ nf ih2 =>
      intro l2 H locs ls h hP hD hS hl
      refine lv_iload_n hx hb dX4_hasTowerAt_2 rfl (lv_at hl 2 rfl) ?_
      refine lv_aload_n hx hb dX4_hasTowerAt_3 rfl (lv_at hl 0 rfl) ?_
      refine gfX4_47 (v := (sG 2)) hx hb hts hown hK hP 0 rfl rfl dX4_hasTowerAt_4 ?_
      refine lv_icmp_ge (tgt := 28) hx hb dX4_hasTowerAt_7 (by decide) (fun c7 => ?_) (fun c7 => ?_)
      · have h := h.1 c7
        exact hk2_28 l2 _ _ _ h hP hD hS (lv_sub hl [0] rfl)
      · have h := h.2 c7
        refine lv_aload_n hx hb dX4_hasTowerAt_10 rfl (lv_at hl 0 rfl) ?_
        refine gfX4_9 hx hb hts hown hK hP 0 rfl dX4_hasTowerAt_11 ?_
        refine lv_iload_n hx hb dX4_hasTowerAt_14 rfl (lv_at hl 2 rfl) ?_
        obtain ⟨hin, h⟩ := h
        refine ldi (k := l2.toNatClampNeg) hx hb hK hP 1 rfl hin rfl dX4_hasTowerAt_15 ?_
        refine lv_iload_n hx hb dX4_hasTowerAt_16 rfl (lv_at hl 1 rfl) ?_
        refine lv_icmp_ne (tgt := 22) hx hb dX4_hasTowerAt_17 (by decide) (fun c17 => ?_) (fun c17 => ?_)
        · have h := h.1 c17
          obtain ⟨l2_22, el2_22⟩ : ∃ y : Int32, y = l2 + (1 : Int32) := ⟨_, rfl⟩
          have h := h l2_22 el2_22
          refine lv_iinc (v := l2_22) (lv' := [(2, .int l2_22), (0, .ref h0), (1, .int l1)]) hx hb dX4_hasTowerAt_22 hl (k := 2) rfl (by rw [el2_22]; rfl) (by decide) rfl (fun ls hl => ?_)
          refine lv_goto (tgt := 2) hx hb dX4_hasTowerAt_25 (by decide) ?_
          exact ih2 l2_22 _ _ _ h hP hD hS (lv_sub hl [1, 2, 0] rfl)
        · have h := h.2 c17
          refine lv_iconst (v := (1 : Int32)) hx hb dX4_hasTowerAt_20 (by decide) ?_
          exact hret (1 : Int32) () _ _ _ _ rfl dX4_hasTowerAt_21 h hP hD hS
  refine lv_iconst (v := (0 : Int32)) hx hb dX4_hasTowerAt_0 (by decide) ?_
  refine lv_istore_n (lv' := [(2, .int (0 : Int32)), (0, .ref h0), (1, .int x1)]) hx hb dX4_hasTowerAt_1 rfl hl (by decide) rfl (fun ls hl => ?_)
  obtain ⟨nf, h⟩ := h
  refine L2 x1 _ (fun l2_28 H locs ls h hP hD hS hl => ?_) nf (0 : Int32) _ _ _ h hP hD hS (lv_sub hl [1, 2, 0] rfl)
  refine lv_iconst (v := (0 : Int32)) hx hb dX4_hasTowerAt_28 (by decide) ?_
  exact hret (0 : Int32) () _ _ _ _ rfl dX4_hasTowerAt_29 h hP hD hS
