theorem dX11_farOf_0 : decode cX11_farOf 0 = .ok (.iload_n 2, 1) := by decide +kernel
theorem dX11_farOf_1 : decode cX11_farOf 1 = .ok (.aload_n 0, 1) := by decide +kernel
theorem dX11_farOf_2 : decode cX11_farOf 2 = .ok (.getfield 36, 3) := by decide +kernel
theorem dX11_farOf_5 : decode cX11_farOf 5 = .ok (.iconst 0, 1) := by decide +kernel
theorem dX11_farOf_6 : decode cX11_farOf 6 = .ok (.iaload, 1) := by decide +kernel
theorem dX11_farOf_7 : decode cX11_farOf 7 = .ok (.irem, 1) := by decide +kernel
theorem dX11_farOf_8 : decode cX11_farOf 8 = .ok (.aload_n 0, 1) := by decide +kernel
theorem dX11_farOf_9 : decode cX11_farOf 9 = .ok (.getfield 40, 3) := by decide +kernel
theorem dX11_farOf_12 : decode cX11_farOf 12 = .ok (.iload_n 1, 1) := by decide +kernel
theorem dX11_farOf_13 : decode cX11_farOf 13 = .ok (.iaload, 1) := by decide +kernel
theorem dX11_farOf_14 : decode cX11_farOf 14 = .ok (.aload_n 0, 1) := by decide +kernel
theorem dX11_farOf_15 : decode cX11_farOf 15 = .ok (.getfield 36, 3) := by decide +kernel
theorem dX11_farOf_18 : decode cX11_farOf 18 = .ok (.iconst 0, 1) := by decide +kernel
theorem dX11_farOf_19 : decode cX11_farOf 19 = .ok (.iaload, 1) := by decide +kernel
theorem dX11_farOf_20 : decode cX11_farOf 20 = .ok (.irem, 1) := by decide +kernel
theorem dX11_farOf_21 : decode cX11_farOf 21 = .ok (.isub, 1) := by decide +kernel
theorem dX11_farOf_22 : decode cX11_farOf 22 = .ok (.istore_n 3, 1) := by decide +kernel
theorem dX11_farOf_23 : decode cX11_farOf 23 = .ok (.iload_n 2, 1) := by decide +kernel
theorem dX11_farOf_24 : decode cX11_farOf 24 = .ok (.aload_n 0, 1) := by decide +kernel
theorem dX11_farOf_25 : decode cX11_farOf 25 = .ok (.getfield 36, 3) := by decide +kernel
theorem dX11_farOf_28 : decode cX11_farOf 28 = .ok (.iconst 0, 1) := by decide +kernel
theorem dX11_farOf_29 : decode cX11_farOf 29 = .ok (.iaload, 1) := by decide +kernel
theorem dX11_farOf_30 : decode cX11_farOf 30 = .ok (.idiv, 1) := by decide +kernel
theorem dX11_farOf_31 : decode cX11_farOf 31 = .ok (.aload_n 0, 1) := by decide +kernel
theorem dX11_farOf_32 : decode cX11_farOf 32 = .ok (.getfield 40, 3) := by decide +kernel
theorem dX11_farOf_35 : decode cX11_farOf 35 = .ok (.iload_n 1, 1) := by decide +kernel
theorem dX11_farOf_36 : decode cX11_farOf 36 = .ok (.iaload, 1) := by decide +kernel
theorem dX11_farOf_37 : decode cX11_farOf 37 = .ok (.aload_n 0, 1) := by decide +kernel
theorem dX11_farOf_38 : decode cX11_farOf 38 = .ok (.getfield 36, 3) := by decide +kernel
theorem dX11_farOf_41 : decode cX11_farOf 41 = .ok (.iconst 0, 1) := by decide +kernel
theorem dX11_farOf_42 : decode cX11_farOf 42 = .ok (.iaload, 1) := by decide +kernel
theorem dX11_farOf_43 : decode cX11_farOf 43 = .ok (.idiv, 1) := by decide +kernel
theorem dX11_farOf_44 : decode cX11_farOf 44 = .ok (.isub, 1) := by decide +kernel
theorem dX11_farOf_45 : decode cX11_farOf 45 = .ok (.istore 4, 2) := by decide +kernel
theorem dX11_farOf_47 : decode cX11_farOf 47 = .ok (.aload_n 0, 1) := by decide +kernel
theorem dX11_farOf_48 : decode cX11_farOf 48 = .ok (.getfield 36, 3) := by decide +kernel
theorem dX11_farOf_51 : decode cX11_farOf 51 = .ok (.iconst 4, 1) := by decide +kernel
theorem dX11_farOf_52 : decode cX11_farOf 52 = .ok (.iaload, 1) := by decide +kernel
theorem dX11_farOf_53 : decode cX11_farOf 53 = .ok (.ifCond .ne 9, 3) := by decide +kernel
theorem dX11_farOf_56 : decode cX11_farOf 56 = .ok (.iload 4, 2) := by decide +kernel
theorem dX11_farOf_58 : decode cX11_farOf 58 = .ok (.ineg, 1) := by decide +kernel
theorem dX11_farOf_59 : decode cX11_farOf 59 = .ok (.goto 34, 3) := by decide +kernel
theorem dX11_farOf_62 : decode cX11_farOf 62 = .ok (.aload_n 0, 1) := by decide +kernel
theorem dX11_farOf_63 : decode cX11_farOf 63 = .ok (.getfield 36, 3) := by decide +kernel
theorem dX11_farOf_66 : decode cX11_farOf 66 = .ok (.iconst 4, 1) := by decide +kernel
theorem dX11_farOf_67 : decode cX11_farOf 67 = .ok (.iaload, 1) := by decide +kernel
theorem dX11_farOf_68 : decode cX11_farOf 68 = .ok (.iconst 1, 1) := by decide +kernel
theorem dX11_farOf_69 : decode cX11_farOf 69 = .ok (.if_icmp .ne 7, 3) := by decide +kernel
theorem dX11_farOf_72 : decode cX11_farOf 72 = .ok (.iload_n 3, 1) := by decide +kernel
theorem dX11_farOf_73 : decode cX11_farOf 73 = .ok (.goto 20, 3) := by decide +kernel
theorem dX11_farOf_76 : decode cX11_farOf 76 = .ok (.aload_n 0, 1) := by decide +kernel
theorem dX11_farOf_77 : decode cX11_farOf 77 = .ok (.getfield 36, 3) := by decide +kernel
theorem dX11_farOf_80 : decode cX11_farOf 80 = .ok (.iconst 4, 1) := by decide +kernel
theorem dX11_farOf_81 : decode cX11_farOf 81 = .ok (.iaload, 1) := by decide +kernel
theorem dX11_farOf_82 : decode cX11_farOf 82 = .ok (.iconst 2, 1) := by decide +kernel
theorem dX11_farOf_83 : decode cX11_farOf 83 = .ok (.if_icmp .ne 8, 3) := by decide +kernel
theorem dX11_farOf_86 : decode cX11_farOf 86 = .ok (.iload 4, 2) := by decide +kernel
theorem dX11_farOf_88 : decode cX11_farOf 88 = .ok (.goto 5, 3) := by decide +kernel
theorem dX11_farOf_91 : decode cX11_farOf 91 = .ok (.iload_n 3, 1) := by decide +kernel
theorem dX11_farOf_92 : decode cX11_farOf 92 = .ok (.ineg, 1) := by decide +kernel
theorem dX11_farOf_93 : decode cX11_farOf 93 = .ok (.istore 5, 2) := by decide +kernel
theorem dX11_farOf_95 : decode cX11_farOf 95 = .ok (.iconst 4, 1) := by decide +kernel
theorem dX11_farOf_96 : decode cX11_farOf 96 = .ok (.iload_n 3, 1) := by decide +kernel
theorem dX11_farOf_97 : decode cX11_farOf 97 = .ok (.invokestatic 290, 3) := by decide +kernel
theorem dX11_farOf_100 : decode cX11_farOf 100 = .ok (.iload 4, 2) := by decide +kernel
theorem dX11_farOf_102 : decode cX11_farOf 102 = .ok (.invokestatic 290, 3) := by decide +kernel
theorem dX11_farOf_105 : decode cX11_farOf 105 = .ok (.iadd, 1) := by decide +kernel
theorem dX11_farOf_106 : decode cX11_farOf 106 = .ok (.imul, 1) := by decide +kernel
theorem dX11_farOf_107 : decode cX11_farOf 107 = .ok (.aload_n 0, 1) := by decide +kernel
theorem dX11_farOf_108 : decode cX11_farOf 108 = .ok (.getfield 36, 3) := by decide +kernel
theorem dX11_farOf_111 : decode cX11_farOf 111 = .ok (.iconst 5, 1) := by decide +kernel
theorem dX11_farOf_112 : decode cX11_farOf 112 = .ok (.iaload, 1) := by decide +kernel
theorem dX11_farOf_113 : decode cX11_farOf 113 = .ok (.iload 5, 2) := by decide +kernel
theorem dX11_farOf_115 : decode cX11_farOf 115 = .ok (.imul, 1) := by decide +kernel
theorem dX11_farOf_116 : decode cX11_farOf 116 = .ok (.isub, 1) := by decide +kernel
theorem dX11_farOf_117 : decode cX11_farOf 117 = .ok (.ireturn, 1) := by decide +kernel
theorem dX11_isHeard_0 : decode cX11_isHeard 0 = .ok (.aload_n 0, 1) := by decide +kernel
theorem dX11_isHeard_1 : decode cX11_isHeard 1 = .ok (.iload_n 1, 1) := by decide +kernel
theorem dX11_isHeard_2 : decode cX11_isHeard 2 = .ok (.iload_n 2, 1) := by decide +kernel
theorem dX11_isHeard_3 : decode cX11_isHeard 3 = .ok (.invokevirtual 293, 3) := by decide +kernel
theorem dX11_isHeard_6 : decode cX11_isHeard 6 = .ok (.iconst 4, 1) := by decide +kernel
theorem dX11_isHeard_7 : decode cX11_isHeard 7 = .ok (.aload_n 0, 1) := by decide +kernel
theorem dX11_isHeard_8 : decode cX11_isHeard 8 = .ok (.getfield 43, 3) := by decide +kernel
theorem dX11_isHeard_11 : decode cX11_isHeard 11 = .ok (.iload_n 1, 1) := by decide +kernel
theorem dX11_isHeard_12 : decode cX11_isHeard 12 = .ok (.iaload, 1) := by decide +kernel
theorem dX11_isHeard_13 : decode cX11_isHeard 13 = .ok (.aload_n 0, 1) := by decide +kernel
theorem dX11_isHeard_14 : decode cX11_isHeard 14 = .ok (.getfield 36, 3) := by decide +kernel
theorem dX11_isHeard_17 : decode cX11_isHeard 17 = .ok (.bipush 6, 2) := by decide +kernel
theorem dX11_isHeard_19 : decode cX11_isHeard 19 = .ok (.iaload, 1) := by decide +kernel
theorem dX11_isHeard_20 : decode cX11_isHeard 20 = .ok (.iadd, 1) := by decide +kernel
theorem dX11_isHeard_21 : decode cX11_isHeard 21 = .ok (.imul, 1) := by decide +kernel
theorem dX11_isHeard_22 : decode cX11_isHeard 22 = .ok (.if_icmp .gt 7, 3) := by decide +kernel
theorem dX11_isHeard_25 : decode cX11_isHeard 25 = .ok (.iconst 1, 1) := by decide +kernel
theorem dX11_isHeard_26 : decode cX11_isHeard 26 = .ok (.goto 4, 3) := by decide +kernel
theorem dX11_isHeard_29 : decode cX11_isHeard 29 = .ok (.iconst 0, 1) := by decide +kernel
theorem dX11_isHeard_30 : decode cX11_isHeard 30 = .ok (.ireturn, 1) := by decide +kernel
theorem dX11_far_0 : decode cX11_far 0 = .ok (.aload_n 0, 1) := by decide +kernel
theorem dX11_far_1 : decode cX11_far 1 = .ok (.iconst 0, 1) := by decide +kernel
theorem dX11_far_2 : decode cX11_far 2 = .ok (.putfield 132, 3) := by decide +kernel
theorem dX11_far_5 : decode cX11_far 5 = .ok (.aload_n 0, 1) := by decide +kernel
theorem dX11_far_6 : decode cX11_far 6 = .ok (.iload_n 1, 1) := by decide +kernel
theorem dX11_far_7 : decode cX11_far 7 = .ok (.invokevirtual 284, 3) := by decide +kernel
theorem dX11_far_10 : decode cX11_far 10 = .ok (.ifCond .eq 20, 3) := by decide +kernel
theorem dX11_far_13 : decode cX11_far 13 = .ok (.aload_n 0, 1) := by decide +kernel
theorem dX11_far_14 : decode cX11_far 14 = .ok (.iload_n 2, 1) := by decide +kernel
theorem dX11_far_15 : decode cX11_far 15 = .ok (.invokevirtual 296, 3) := by decide +kernel
theorem dX11_far_18 : decode cX11_far 18 = .ok (.ifCond .eq 12, 3) := by decide +kernel
theorem dX11_far_21 : decode cX11_far 21 = .ok (.aload_n 0, 1) := by decide +kernel
theorem dX11_far_22 : decode cX11_far 22 = .ok (.iload_n 1, 1) := by decide +kernel
theorem dX11_far_23 : decode cX11_far 23 = .ok (.iload_n 2, 1) := by decide +kernel
theorem dX11_far_24 : decode cX11_far 24 = .ok (.invokevirtual 293, 3) := by decide +kernel
theorem dX11_far_27 : decode cX11_far 27 = .ok (.goto 8, 3) := by decide +kernel
theorem dX11_far_30 : decode cX11_far 30 = .ok (.aload_n 0, 1) := by decide +kernel
theorem dX11_far_31 : decode cX11_far 31 = .ok (.iconst 1, 1) := by decide +kernel
theorem dX11_far_32 : decode cX11_far 32 = .ok (.invokevirtual 256, 3) := by decide +kernel
theorem dX11_far_35 : decode cX11_far 35 = .ok (.ireturn, 1) := by decide +kernel
theorem dX11_heardOf_0 : decode cX11_heardOf 0 = .ok (.iconst 0, 1) := by decide +kernel
theorem dX11_heardOf_1 : decode cX11_heardOf 1 = .ok (.istore_n 3, 1) := by decide +kernel
theorem dX11_heardOf_2 : decode cX11_heardOf 2 = .ok (.iconst 0, 1) := by decide +kernel
theorem dX11_heardOf_3 : decode cX11_heardOf 3 = .ok (.istore 4, 2) := by decide +kernel
theorem dX11_heardOf_5 : decode cX11_heardOf 5 = .ok (.iload 4, 2) := by decide +kernel
theorem dX11_heardOf_7 : decode cX11_heardOf 7 = .ok (.aload_n 0, 1) := by decide +kernel
theorem dX11_heardOf_8 : decode cX11_heardOf 8 = .ok (.getfield 36, 3) := by decide +kernel
theorem dX11_heardOf_11 : decode cX11_heardOf 11 = .ok (.iconst 2, 1) := by decide +kernel
theorem dX11_heardOf_12 : decode cX11_heardOf 12 = .ok (.iaload, 1) := by decide +kernel
theorem dX11_heardOf_13 : decode cX11_heardOf 13 = .ok (.if_icmp .ge 40, 3) := by decide +kernel
theorem dX11_heardOf_16 : decode cX11_heardOf 16 = .ok (.iload_n 3, 1) := by decide +kernel
theorem dX11_heardOf_17 : decode cX11_heardOf 17 = .ok (.iload_n 1, 1) := by decide +kernel
theorem dX11_heardOf_18 : decode cX11_heardOf 18 = .ok (.iload 4, 2) := by decide +kernel
theorem dX11_heardOf_20 : decode cX11_heardOf 20 = .ok (.ishr, 1) := by decide +kernel
theorem dX11_heardOf_21 : decode cX11_heardOf 21 = .ok (.iconst 1, 1) := by decide +kernel
theorem dX11_heardOf_22 : decode cX11_heardOf 22 = .ok (.iand, 1) := by decide +kernel
theorem dX11_heardOf_23 : decode cX11_heardOf 23 = .ok (.iconst 1, 1) := by decide +kernel
theorem dX11_heardOf_24 : decode cX11_heardOf 24 = .ok (.if_icmp .ne 20, 3) := by decide +kernel
theorem dX11_heardOf_27 : decode cX11_heardOf 27 = .ok (.aload_n 0, 1) := by decide +kernel
theorem dX11_heardOf_28 : decode cX11_heardOf 28 = .ok (.iload 4, 2) := by decide +kernel
theorem dX11_heardOf_30 : decode cX11_heardOf 30 = .ok (.iload_n 2, 1) := by decide +kernel
theorem dX11_heardOf_31 : decode cX11_heardOf 31 = .ok (.invokevirtual 299, 3) := by decide +kernel
theorem dX11_heardOf_34 : decode cX11_heardOf 34 = .ok (.ifCond .eq 10, 3) := by decide +kernel
theorem dX11_heardOf_37 : decode cX11_heardOf 37 = .ok (.iconst 1, 1) := by decide +kernel
theorem dX11_heardOf_38 : decode cX11_heardOf 38 = .ok (.iload 4, 2) := by decide +kernel
theorem dX11_heardOf_40 : decode cX11_heardOf 40 = .ok (.ishl, 1) := by decide +kernel
theorem dX11_heardOf_41 : decode cX11_heardOf 41 = .ok (.goto 4, 3) := by decide +kernel
theorem dX11_heardOf_44 : decode cX11_heardOf 44 = .ok (.iconst 0, 1) := by decide +kernel
theorem dX11_heardOf_45 : decode cX11_heardOf 45 = .ok (.ior, 1) := by decide +kernel
theorem dX11_heardOf_46 : decode cX11_heardOf 46 = .ok (.istore_n 3, 1) := by decide +kernel
theorem dX11_heardOf_47 : decode cX11_heardOf 47 = .ok (.iinc 4 1, 3) := by decide +kernel
theorem dX11_heardOf_50 : decode cX11_heardOf 50 = .ok (.goto (-45), 3) := by decide +kernel
theorem dX11_heardOf_53 : decode cX11_heardOf 53 = .ok (.iload_n 3, 1) := by decide +kernel
theorem dX11_heardOf_54 : decode cX11_heardOf 54 = .ok (.ireturn, 1) := by decide +kernel
theorem dX11_heard_0 : decode cX11_heard 0 = .ok (.aload_n 0, 1) := by decide +kernel
theorem dX11_heard_1 : decode cX11_heard 1 = .ok (.iconst 0, 1) := by decide +kernel
theorem dX11_heard_2 : decode cX11_heard 2 = .ok (.putfield 132, 3) := by decide +kernel
theorem dX11_heard_5 : decode cX11_heard 5 = .ok (.aload_n 0, 1) := by decide +kernel
theorem dX11_heard_6 : decode cX11_heard 6 = .ok (.iload_n 1, 1) := by decide +kernel
theorem dX11_heard_7 : decode cX11_heard 7 = .ok (.invokevirtual 296, 3) := by decide +kernel
theorem dX11_heard_10 : decode cX11_heard 10 = .ok (.ifCond .eq 21, 3) := by decide +kernel
theorem dX11_heard_13 : decode cX11_heard 13 = .ok (.aload_n 0, 1) := by decide +kernel
theorem dX11_heard_14 : decode cX11_heard 14 = .ok (.iconst 1, 1) := by decide +kernel
theorem dX11_heard_15 : decode cX11_heard 15 = .ok (.aload_n 0, 1) := by decide +kernel
theorem dX11_heard_16 : decode cX11_heard 16 = .ok (.getfield 36, 3) := by decide +kernel
theorem dX11_heard_19 : decode cX11_heard 19 = .ok (.iconst 2, 1) := by decide +kernel
theorem dX11_heard_20 : decode cX11_heard 20 = .ok (.iaload, 1) := by decide +kernel
theorem dX11_heard_21 : decode cX11_heard 21 = .ok (.ishl, 1) := by decide +kernel
theorem dX11_heard_22 : decode cX11_heard 22 = .ok (.iconst 1, 1) := by decide +kernel
theorem dX11_heard_23 : decode cX11_heard 23 = .ok (.isub, 1) := by decide +kernel
theorem dX11_heard_24 : decode cX11_heard 24 = .ok (.iload_n 1, 1) := by decide +kernel
theorem dX11_heard_25 : decode cX11_heard 25 = .ok (.invokevirtual 303, 3) := by decide +kernel
theorem dX11_heard_28 : decode cX11_heard 28 = .ok (.goto 8, 3) := by decide +kernel
theorem dX11_heard_31 : decode cX11_heard 31 = .ok (.aload_n 0, 1) := by decide +kernel
theorem dX11_heard_32 : decode cX11_heard 32 = .ok (.iconst 1, 1) := by decide +kernel
theorem dX11_heard_33 : decode cX11_heard 33 = .ok (.invokevirtual 256, 3) := by decide +kernel
theorem dX11_heard_36 : decode cX11_heard 36 = .ok (.ireturn, 1) := by decide +kernel
theorem dX11_nearest_0 : decode cX11_nearest 0 = .ok (.iconst (-1), 1) := by decide +kernel
theorem dX11_nearest_1 : decode cX11_nearest 1 = .ok (.istore 4, 2) := by decide +kernel
theorem dX11_nearest_3 : decode cX11_nearest 3 = .ok (.iconst 0, 1) := by decide +kernel
theorem dX11_nearest_4 : decode cX11_nearest 4 = .ok (.istore 5, 2) := by decide +kernel
theorem dX11_nearest_6 : decode cX11_nearest 6 = .ok (.iload 5, 2) := by decide +kernel
theorem dX11_nearest_8 : decode cX11_nearest 8 = .ok (.aload_n 0, 1) := by decide +kernel
theorem dX11_nearest_9 : decode cX11_nearest 9 = .ok (.getfield 36, 3) := by decide +kernel
theorem dX11_nearest_12 : decode cX11_nearest 12 = .ok (.iconst 2, 1) := by decide +kernel
theorem dX11_nearest_13 : decode cX11_nearest 13 = .ok (.iaload, 1) := by decide +kernel
theorem dX11_nearest_14 : decode cX11_nearest 14 = .ok (.if_icmp .ge 62, 3) := by decide +kernel
theorem dX11_nearest_17 : decode cX11_nearest 17 = .ok (.iload_n 1, 1) := by decide +kernel
theorem dX11_nearest_18 : decode cX11_nearest 18 = .ok (.iload 5, 2) := by decide +kernel
theorem dX11_nearest_20 : decode cX11_nearest 20 = .ok (.ishr, 1) := by decide +kernel
theorem dX11_nearest_21 : decode cX11_nearest 21 = .ok (.iconst 1, 1) := by decide +kernel
theorem dX11_nearest_22 : decode cX11_nearest 22 = .ok (.iand, 1) := by decide +kernel
theorem dX11_nearest_23 : decode cX11_nearest 23 = .ok (.iconst 1, 1) := by decide +kernel
theorem dX11_nearest_24 : decode cX11_nearest 24 = .ok (.if_icmp .ne 46, 3) := by decide +kernel
theorem dX11_nearest_27 : decode cX11_nearest 27 = .ok (.iload_n 3, 1) := by decide +kernel
theorem dX11_nearest_28 : decode cX11_nearest 28 = .ok (.iconst (-1), 1) := by decide +kernel
theorem dX11_nearest_29 : decode cX11_nearest 29 = .ok (.if_icmp .eq 14, 3) := by decide +kernel
theorem dX11_nearest_32 : decode cX11_nearest 32 = .ok (.aload_n 0, 1) := by decide +kernel
theorem dX11_nearest_33 : decode cX11_nearest 33 = .ok (.getfield 46, 3) := by decide +kernel
theorem dX11_nearest_36 : decode cX11_nearest 36 = .ok (.iload 5, 2) := by decide +kernel
theorem dX11_nearest_38 : decode cX11_nearest 38 = .ok (.iaload, 1) := by decide +kernel
theorem dX11_nearest_39 : decode cX11_nearest 39 = .ok (.iload_n 3, 1) := by decide +kernel
theorem dX11_nearest_40 : decode cX11_nearest 40 = .ok (.if_icmp .ne 30, 3) := by decide +kernel
theorem dX11_nearest_43 : decode cX11_nearest 43 = .ok (.iload 4, 2) := by decide +kernel
theorem dX11_nearest_45 : decode cX11_nearest 45 = .ok (.iconst (-1), 1) := by decide +kernel
theorem dX11_nearest_46 : decode cX11_nearest 46 = .ok (.if_icmp .eq 20, 3) := by decide +kernel
theorem dX11_nearest_49 : decode cX11_nearest 49 = .ok (.aload_n 0, 1) := by decide +kernel
theorem dX11_nearest_50 : decode cX11_nearest 50 = .ok (.iload 5, 2) := by decide +kernel
theorem dX11_nearest_52 : decode cX11_nearest 52 = .ok (.iload_n 2, 1) := by decide +kernel
theorem dX11_nearest_53 : decode cX11_nearest 53 = .ok (.invokevirtual 293, 3) := by decide +kernel
theorem dX11_nearest_56 : decode cX11_nearest 56 = .ok (.aload_n 0, 1) := by decide +kernel
theorem dX11_nearest_57 : decode cX11_nearest 57 = .ok (.iload 4, 2) := by decide +kernel
theorem dX11_nearest_59 : decode cX11_nearest 59 = .ok (.iload_n 2, 1) := by decide +kernel
theorem dX11_nearest_60 : decode cX11_nearest 60 = .ok (.invokevirtual 293, 3) := by decide +kernel
theorem dX11_nearest_63 : decode cX11_nearest 63 = .ok (.if_icmp .ge 7, 3) := by decide +kernel
theorem dX11_nearest_66 : decode cX11_nearest 66 = .ok (.iload 5, 2) := by decide +kernel
theorem dX11_nearest_68 : decode cX11_nearest 68 = .ok (.istore 4, 2) := by decide +kernel
theorem dX11_nearest_70 : decode cX11_nearest 70 = .ok (.iinc 5 1, 3) := by decide +kernel
theorem dX11_nearest_73 : decode cX11_nearest 73 = .ok (.goto (-67), 3) := by decide +kernel
theorem dX11_nearest_76 : decode cX11_nearest 76 = .ok (.iload 4, 2) := by decide +kernel
theorem dX11_nearest_78 : decode cX11_nearest 78 = .ok (.ireturn, 1) := by decide +kernel
theorem dX11_hasTwo_0 : decode cX11_hasTwo 0 = .ok (.iconst 0, 1) := by decide +kernel
theorem dX11_hasTwo_1 : decode cX11_hasTwo 1 = .ok (.istore_n 2, 1) := by decide +kernel
theorem dX11_hasTwo_2 : decode cX11_hasTwo 2 = .ok (.iconst 0, 1) := by decide +kernel
theorem dX11_hasTwo_3 : decode cX11_hasTwo 3 = .ok (.istore_n 3, 1) := by decide +kernel
theorem dX11_hasTwo_4 : decode cX11_hasTwo 4 = .ok (.iload_n 3, 1) := by decide +kernel
theorem dX11_hasTwo_5 : decode cX11_hasTwo 5 = .ok (.aload_n 0, 1) := by decide +kernel
theorem dX11_hasTwo_6 : decode cX11_hasTwo 6 = .ok (.getfield 36, 3) := by decide +kernel
theorem dX11_hasTwo_9 : decode cX11_hasTwo 9 = .ok (.iconst 2, 1) := by decide +kernel
theorem dX11_hasTwo_10 : decode cX11_hasTwo 10 = .ok (.iaload, 1) := by decide +kernel
theorem dX11_hasTwo_11 : decode cX11_hasTwo 11 = .ok (.if_icmp .ge 47, 3) := by decide +kernel
theorem dX11_hasTwo_14 : decode cX11_hasTwo 14 = .ok (.iload_n 1, 1) := by decide +kernel
theorem dX11_hasTwo_15 : decode cX11_hasTwo 15 = .ok (.iload_n 3, 1) := by decide +kernel
theorem dX11_hasTwo_16 : decode cX11_hasTwo 16 = .ok (.ishr, 1) := by decide +kernel
theorem dX11_hasTwo_17 : decode cX11_hasTwo 17 = .ok (.iconst 1, 1) := by decide +kernel
theorem dX11_hasTwo_18 : decode cX11_hasTwo 18 = .ok (.iand, 1) := by decide +kernel
theorem dX11_hasTwo_19 : decode cX11_hasTwo 19 = .ok (.ifCond .ne 6, 3) := by decide +kernel
theorem dX11_hasTwo_22 : decode cX11_hasTwo 22 = .ok (.goto 30, 3) := by decide +kernel
theorem dX11_hasTwo_25 : decode cX11_hasTwo 25 = .ok (.iload_n 2, 1) := by decide +kernel
theorem dX11_hasTwo_26 : decode cX11_hasTwo 26 = .ok (.aload_n 0, 1) := by decide +kernel
theorem dX11_hasTwo_27 : decode cX11_hasTwo 27 = .ok (.getfield 46, 3) := by decide +kernel
theorem dX11_hasTwo_30 : decode cX11_hasTwo 30 = .ok (.iload_n 3, 1) := by decide +kernel
theorem dX11_hasTwo_31 : decode cX11_hasTwo 31 = .ok (.iaload, 1) := by decide +kernel
theorem dX11_hasTwo_32 : decode cX11_hasTwo 32 = .ok (.ishr, 1) := by decide +kernel
theorem dX11_hasTwo_33 : decode cX11_hasTwo 33 = .ok (.iconst 1, 1) := by decide +kernel
theorem dX11_hasTwo_34 : decode cX11_hasTwo 34 = .ok (.iand, 1) := by decide +kernel
theorem dX11_hasTwo_35 : decode cX11_hasTwo 35 = .ok (.iconst 1, 1) := by decide +kernel
theorem dX11_hasTwo_36 : decode cX11_hasTwo 36 = .ok (.if_icmp .ne 5, 3) := by decide +kernel
theorem dX11_hasTwo_39 : decode cX11_hasTwo 39 = .ok (.iconst 1, 1) := by decide +kernel
theorem dX11_hasTwo_40 : decode cX11_hasTwo 40 = .ok (.ireturn, 1) := by decide +kernel
theorem dX11_hasTwo_41 : decode cX11_hasTwo 41 = .ok (.iload_n 2, 1) := by decide +kernel
theorem dX11_hasTwo_42 : decode cX11_hasTwo 42 = .ok (.iconst 1, 1) := by decide +kernel
theorem dX11_hasTwo_43 : decode cX11_hasTwo 43 = .ok (.aload_n 0, 1) := by decide +kernel
theorem dX11_hasTwo_44 : decode cX11_hasTwo 44 = .ok (.getfield 46, 3) := by decide +kernel
theorem dX11_hasTwo_47 : decode cX11_hasTwo 47 = .ok (.iload_n 3, 1) := by decide +kernel
theorem dX11_hasTwo_48 : decode cX11_hasTwo 48 = .ok (.iaload, 1) := by decide +kernel
theorem dX11_hasTwo_49 : decode cX11_hasTwo 49 = .ok (.ishl, 1) := by decide +kernel
theorem dX11_hasTwo_50 : decode cX11_hasTwo 50 = .ok (.ior, 1) := by decide +kernel
theorem dX11_hasTwo_51 : decode cX11_hasTwo 51 = .ok (.istore_n 2, 1) := by decide +kernel
theorem dX11_hasTwo_52 : decode cX11_hasTwo 52 = .ok (.iinc 3 1, 3) := by decide +kernel
theorem dX11_hasTwo_55 : decode cX11_hasTwo 55 = .ok (.goto (-51), 3) := by decide +kernel
theorem dX11_hasTwo_58 : decode cX11_hasTwo 58 = .ok (.iconst 0, 1) := by decide +kernel
theorem dX11_hasTwo_59 : decode cX11_hasTwo 59 = .ok (.ireturn, 1) := by decide +kernel
theorem dX11_step_0 : decode cX11_step 0 = .ok (.aload_n 0, 1) := by decide +kernel
theorem dX11_step_1 : decode cX11_step 1 = .ok (.getfield 306, 3) := by decide +kernel
theorem dX11_step_4 : decode cX11_step 4 = .ok (.aload_n 0, 1) := by decide +kernel
theorem dX11_step_5 : decode cX11_step 5 = .ok (.getfield 36, 3) := by decide +kernel
theorem dX11_step_8 : decode cX11_step 8 = .ok (.iconst 0, 1) := by decide +kernel
theorem dX11_step_9 : decode cX11_step 9 = .ok (.iaload, 1) := by decide +kernel
theorem dX11_step_10 : decode cX11_step 10 = .ok (.irem, 1) := by decide +kernel
theorem dX11_step_11 : decode cX11_step 11 = .ok (.iload_n 1, 1) := by decide +kernel
theorem dX11_step_12 : decode cX11_step 12 = .ok (.iconst 1, 1) := by decide +kernel
theorem dX11_step_13 : decode cX11_step 13 = .ok (.if_icmp .ne 7, 3) := by decide +kernel
theorem dX11_step_16 : decode cX11_step 16 = .ok (.iconst 1, 1) := by decide +kernel
theorem dX11_step_17 : decode cX11_step 17 = .ok (.goto 13, 3) := by decide +kernel
theorem dX11_step_20 : decode cX11_step 20 = .ok (.iload_n 1, 1) := by decide +kernel
theorem dX11_step_21 : decode cX11_step 21 = .ok (.iconst 3, 1) := by decide +kernel
theorem dX11_step_22 : decode cX11_step 22 = .ok (.if_icmp .ne 7, 3) := by decide +kernel
theorem dX11_step_25 : decode cX11_step 25 = .ok (.iconst (-1), 1) := by decide +kernel
theorem dX11_step_26 : decode cX11_step 26 = .ok (.goto 4, 3) := by decide +kernel
theorem dX11_step_29 : decode cX11_step 29 = .ok (.iconst 0, 1) := by decide +kernel
theorem dX11_step_30 : decode cX11_step 30 = .ok (.iadd, 1) := by decide +kernel
theorem dX11_step_31 : decode cX11_step 31 = .ok (.istore_n 2, 1) := by decide +kernel
theorem dX11_step_32 : decode cX11_step 32 = .ok (.aload_n 0, 1) := by decide +kernel
theorem dX11_step_33 : decode cX11_step 33 = .ok (.getfield 306, 3) := by decide +kernel
theorem dX11_step_36 : decode cX11_step 36 = .ok (.aload_n 0, 1) := by decide +kernel
theorem dX11_step_37 : decode cX11_step 37 = .ok (.getfield 36, 3) := by decide +kernel
theorem dX11_step_40 : decode cX11_step 40 = .ok (.iconst 0, 1) := by decide +kernel
theorem dX11_step_41 : decode cX11_step 41 = .ok (.iaload, 1) := by decide +kernel
theorem dX11_step_42 : decode cX11_step 42 = .ok (.idiv, 1) := by decide +kernel
theorem dX11_step_43 : decode cX11_step 43 = .ok (.iload_n 1, 1) := by decide +kernel
theorem dX11_step_44 : decode cX11_step 44 = .ok (.iconst 2, 1) := by decide +kernel
theorem dX11_step_45 : decode cX11_step 45 = .ok (.if_icmp .ne 7, 3) := by decide +kernel
theorem dX11_step_48 : decode cX11_step 48 = .ok (.iconst 1, 1) := by decide +kernel
theorem dX11_step_49 : decode cX11_step 49 = .ok (.goto 12, 3) := by decide +kernel
theorem dX11_step_52 : decode cX11_step 52 = .ok (.iload_n 1, 1) := by decide +kernel
theorem dX11_step_53 : decode cX11_step 53 = .ok (.ifCond .ne 7, 3) := by decide +kernel
theorem dX11_step_56 : decode cX11_step 56 = .ok (.iconst (-1), 1) := by decide +kernel
theorem dX11_step_57 : decode cX11_step 57 = .ok (.goto 4, 3) := by decide +kernel
theorem dX11_step_60 : decode cX11_step 60 = .ok (.iconst 0, 1) := by decide +kernel
theorem dX11_step_61 : decode cX11_step 61 = .ok (.iadd, 1) := by decide +kernel
theorem dX11_step_62 : decode cX11_step 62 = .ok (.istore_n 3, 1) := by decide +kernel
theorem dX11_step_63 : decode cX11_step 63 = .ok (.iload_n 2, 1) := by decide +kernel
theorem dX11_step_64 : decode cX11_step 64 = .ok (.iconst 0, 1) := by decide +kernel
theorem dX11_step_65 : decode cX11_step 65 = .ok (.aload_n 0, 1) := by decide +kernel
theorem dX11_step_66 : decode cX11_step 66 = .ok (.getfield 36, 3) := by decide +kernel
theorem dX11_step_69 : decode cX11_step 69 = .ok (.iconst 0, 1) := by decide +kernel
theorem dX11_step_70 : decode cX11_step 70 = .ok (.iaload, 1) := by decide +kernel
theorem dX11_step_71 : decode cX11_step 71 = .ok (.iconst 1, 1) := by decide +kernel
theorem dX11_step_72 : decode cX11_step 72 = .ok (.isub, 1) := by decide +kernel
theorem dX11_step_73 : decode cX11_step 73 = .ok (.invokestatic 135, 3) := by decide +kernel
theorem dX11_step_76 : decode cX11_step 76 = .ok (.ifCond .eq 33, 3) := by decide +kernel
theorem dX11_step_79 : decode cX11_step 79 = .ok (.iload_n 3, 1) := by decide +kernel
theorem dX11_step_80 : decode cX11_step 80 = .ok (.iconst 0, 1) := by decide +kernel
theorem dX11_step_81 : decode cX11_step 81 = .ok (.aload_n 0, 1) := by decide +kernel
theorem dX11_step_82 : decode cX11_step 82 = .ok (.getfield 36, 3) := by decide +kernel
theorem dX11_step_85 : decode cX11_step 85 = .ok (.iconst 1, 1) := by decide +kernel
theorem dX11_step_86 : decode cX11_step 86 = .ok (.iaload, 1) := by decide +kernel
theorem dX11_step_87 : decode cX11_step 87 = .ok (.iconst 1, 1) := by decide +kernel
theorem dX11_step_88 : decode cX11_step 88 = .ok (.isub, 1) := by decide +kernel
theorem dX11_step_89 : decode cX11_step 89 = .ok (.invokestatic 135, 3) := by decide +kernel
theorem dX11_step_92 : decode cX11_step 92 = .ok (.ifCond .eq 17, 3) := by decide +kernel
theorem dX11_step_95 : decode cX11_step 95 = .ok (.aload_n 0, 1) := by decide +kernel
theorem dX11_step_96 : decode cX11_step 96 = .ok (.aload_n 0, 1) := by decide +kernel
theorem dX11_step_97 : decode cX11_step 97 = .ok (.getfield 36, 3) := by decide +kernel
theorem dX11_step_100 : decode cX11_step 100 = .ok (.iconst 0, 1) := by decide +kernel
theorem dX11_step_101 : decode cX11_step 101 = .ok (.iaload, 1) := by decide +kernel
theorem dX11_step_102 : decode cX11_step 102 = .ok (.iload_n 3, 1) := by decide +kernel
theorem dX11_step_103 : decode cX11_step 103 = .ok (.imul, 1) := by decide +kernel
theorem dX11_step_104 : decode cX11_step 104 = .ok (.iload_n 2, 1) := by decide +kernel
theorem dX11_step_105 : decode cX11_step 105 = .ok (.iadd, 1) := by decide +kernel
theorem dX11_step_106 : decode cX11_step 106 = .ok (.putfield 306, 3) := by decide +kernel
theorem dX11_step_109 : decode cX11_step 109 = .ok (.return_, 1) := by decide +kernel
theorem dX11_follow_0 : decode cX11_follow 0 = .ok (.iload_n 1, 1) := by decide +kernel
theorem dX11_follow_1 : decode cX11_follow 1 = .ok (.iconst (-1), 1) := by decide +kernel
theorem dX11_follow_2 : decode cX11_follow 2 = .ok (.if_icmp .ne 25, 3) := by decide +kernel
theorem dX11_follow_5 : decode cX11_follow 5 = .ok (.aload_n 0, 1) := by decide +kernel
theorem dX11_follow_6 : decode cX11_follow 6 = .ok (.aload_n 0, 1) := by decide +kernel
theorem dX11_follow_7 : decode cX11_follow 7 = .ok (.getfield 309, 3) := by decide +kernel
theorem dX11_follow_10 : decode cX11_follow 10 = .ok (.invokevirtual 312, 3) := by decide +kernel
theorem dX11_follow_13 : decode cX11_follow 13 = .ok (.aload_n 0, 1) := by decide +kernel
theorem dX11_follow_14 : decode cX11_follow 14 = .ok (.aload_n 0, 1) := by decide +kernel
theorem dX11_follow_15 : decode cX11_follow 15 = .ok (.getfield 309, 3) := by decide +kernel
theorem dX11_follow_18 : decode cX11_follow 18 = .ok (.iconst 1, 1) := by decide +kernel
theorem dX11_follow_19 : decode cX11_follow 19 = .ok (.iadd, 1) := by decide +kernel
theorem dX11_follow_20 : decode cX11_follow 20 = .ok (.iconst 4, 1) := by decide +kernel
theorem dX11_follow_21 : decode cX11_follow 21 = .ok (.irem, 1) := by decide +kernel
theorem dX11_follow_22 : decode cX11_follow 22 = .ok (.putfield 309, 3) := by decide +kernel
theorem dX11_follow_25 : decode cX11_follow 25 = .ok (.iconst 0, 1) := by decide +kernel
theorem dX11_follow_26 : decode cX11_follow 26 = .ok (.ireturn, 1) := by decide +kernel
theorem dX11_follow_27 : decode cX11_follow 27 = .ok (.aload_n 0, 1) := by decide +kernel
theorem dX11_follow_28 : decode cX11_follow 28 = .ok (.getfield 61, 3) := by decide +kernel
theorem dX11_follow_31 : decode cX11_follow 31 = .ok (.iload_n 1, 1) := by decide +kernel
theorem dX11_follow_32 : decode cX11_follow 32 = .ok (.baload, 1) := by decide +kernel
theorem dX11_follow_33 : decode cX11_follow 33 = .ok (.ifCond .eq 7, 3) := by decide +kernel
theorem dX11_follow_36 : decode cX11_follow 36 = .ok (.iconst 2, 1) := by decide +kernel
theorem dX11_follow_37 : decode cX11_follow 37 = .ok (.goto 4, 3) := by decide +kernel
theorem dX11_follow_40 : decode cX11_follow 40 = .ok (.iconst 1, 1) := by decide +kernel
theorem dX11_follow_41 : decode cX11_follow 41 = .ok (.istore_n 2, 1) := by decide +kernel
theorem dX11_follow_42 : decode cX11_follow 42 = .ok (.aload_n 0, 1) := by decide +kernel
theorem dX11_follow_43 : decode cX11_follow 43 = .ok (.getfield 306, 3) := by decide +kernel
theorem dX11_follow_46 : decode cX11_follow 46 = .ok (.aload_n 0, 1) := by decide +kernel
theorem dX11_follow_47 : decode cX11_follow 47 = .ok (.getfield 40, 3) := by decide +kernel
theorem dX11_follow_50 : decode cX11_follow 50 = .ok (.iload_n 1, 1) := by decide +kernel
theorem dX11_follow_51 : decode cX11_follow 51 = .ok (.iaload, 1) := by decide +kernel
theorem dX11_follow_52 : decode cX11_follow 52 = .ok (.if_icmp .ne 5, 3) := by decide +kernel
theorem dX11_follow_55 : decode cX11_follow 55 = .ok (.iload_n 2, 1) := by decide +kernel
theorem dX11_follow_56 : decode cX11_follow 56 = .ok (.ireturn, 1) := by decide +kernel
theorem dX11_follow_57 : decode cX11_follow 57 = .ok (.aload_n 0, 1) := by decide +kernel
theorem dX11_follow_58 : decode cX11_follow 58 = .ok (.getfield 40, 3) := by decide +kernel
theorem dX11_follow_61 : decode cX11_follow 61 = .ok (.iload_n 1, 1) := by decide +kernel
theorem dX11_follow_62 : decode cX11_follow 62 = .ok (.iaload, 1) := by decide +kernel
theorem dX11_follow_63 : decode cX11_follow 63 = .ok (.aload_n 0, 1) := by decide +kernel
theorem dX11_follow_64 : decode cX11_follow 64 = .ok (.getfield 36, 3) := by decide +kernel
theorem dX11_follow_67 : decode cX11_follow 67 = .ok (.iconst 0, 1) := by decide +kernel
theorem dX11_follow_68 : decode cX11_follow 68 = .ok (.iaload, 1) := by decide +kernel
theorem dX11_follow_69 : decode cX11_follow 69 = .ok (.irem, 1) := by decide +kernel
theorem dX11_follow_70 : decode cX11_follow 70 = .ok (.aload_n 0, 1) := by decide +kernel
theorem dX11_follow_71 : decode cX11_follow 71 = .ok (.getfield 306, 3) := by decide +kernel
theorem dX11_follow_74 : decode cX11_follow 74 = .ok (.aload_n 0, 1) := by decide +kernel
theorem dX11_follow_75 : decode cX11_follow 75 = .ok (.getfield 36, 3) := by decide +kernel
theorem dX11_follow_78 : decode cX11_follow 78 = .ok (.iconst 0, 1) := by decide +kernel
theorem dX11_follow_79 : decode cX11_follow 79 = .ok (.iaload, 1) := by decide +kernel
theorem dX11_follow_80 : decode cX11_follow 80 = .ok (.irem, 1) := by decide +kernel
theorem dX11_follow_81 : decode cX11_follow 81 = .ok (.isub, 1) := by decide +kernel
theorem dX11_follow_82 : decode cX11_follow 82 = .ok (.istore_n 3, 1) := by decide +kernel
theorem dX11_follow_83 : decode cX11_follow 83 = .ok (.aload_n 0, 1) := by decide +kernel
theorem dX11_follow_84 : decode cX11_follow 84 = .ok (.getfield 40, 3) := by decide +kernel
theorem dX11_follow_87 : decode cX11_follow 87 = .ok (.iload_n 1, 1) := by decide +kernel
theorem dX11_follow_88 : decode cX11_follow 88 = .ok (.iaload, 1) := by decide +kernel
theorem dX11_follow_89 : decode cX11_follow 89 = .ok (.aload_n 0, 1) := by decide +kernel
theorem dX11_follow_90 : decode cX11_follow 90 = .ok (.getfield 36, 3) := by decide +kernel
theorem dX11_follow_93 : decode cX11_follow 93 = .ok (.iconst 0, 1) := by decide +kernel
theorem dX11_follow_94 : decode cX11_follow 94 = .ok (.iaload, 1) := by decide +kernel
theorem dX11_follow_95 : decode cX11_follow 95 = .ok (.idiv, 1) := by decide +kernel
theorem dX11_follow_96 : decode cX11_follow 96 = .ok (.aload_n 0, 1) := by decide +kernel
theorem dX11_follow_97 : decode cX11_follow 97 = .ok (.getfield 306, 3) := by decide +kernel
theorem dX11_follow_100 : decode cX11_follow 100 = .ok (.aload_n 0, 1) := by decide +kernel
theorem dX11_follow_101 : decode cX11_follow 101 = .ok (.getfield 36, 3) := by decide +kernel
theorem dX11_follow_104 : decode cX11_follow 104 = .ok (.iconst 0, 1) := by decide +kernel
theorem dX11_follow_105 : decode cX11_follow 105 = .ok (.iaload, 1) := by decide +kernel
theorem dX11_follow_106 : decode cX11_follow 106 = .ok (.idiv, 1) := by decide +kernel
theorem dX11_follow_107 : decode cX11_follow 107 = .ok (.isub, 1) := by decide +kernel
theorem dX11_follow_108 : decode cX11_follow 108 = .ok (.istore 4, 2) := by decide +kernel
theorem dX11_follow_110 : decode cX11_follow 110 = .ok (.iload_n 3, 1) := by decide +kernel
theorem dX11_follow_111 : decode cX11_follow 111 = .ok (.invokestatic 290, 3) := by decide +kernel
theorem dX11_follow_114 : decode cX11_follow 114 = .ok (.iload 4, 2) := by decide +kernel
theorem dX11_follow_116 : decode cX11_follow 116 = .ok (.invokestatic 290, 3) := by decide +kernel
theorem dX11_follow_119 : decode cX11_follow 119 = .ok (.if_icmp .lt 15, 3) := by decide +kernel
theorem dX11_follow_122 : decode cX11_follow 122 = .ok (.iload_n 3, 1) := by decide +kernel
theorem dX11_follow_123 : decode cX11_follow 123 = .ok (.ifCond .le 7, 3) := by decide +kernel
theorem dX11_follow_126 : decode cX11_follow 126 = .ok (.iconst 1, 1) := by decide +kernel
theorem dX11_follow_127 : decode cX11_follow 127 = .ok (.goto 17, 3) := by decide +kernel
theorem dX11_follow_130 : decode cX11_follow 130 = .ok (.iconst 3, 1) := by decide +kernel
theorem dX11_follow_131 : decode cX11_follow 131 = .ok (.goto 13, 3) := by decide +kernel
theorem dX11_follow_134 : decode cX11_follow 134 = .ok (.iload 4, 2) := by decide +kernel
theorem dX11_follow_136 : decode cX11_follow 136 = .ok (.ifCond .le 7, 3) := by decide +kernel
theorem dX11_follow_139 : decode cX11_follow 139 = .ok (.iconst 2, 1) := by decide +kernel
theorem dX11_follow_140 : decode cX11_follow 140 = .ok (.goto 4, 3) := by decide +kernel
theorem dX11_follow_143 : decode cX11_follow 143 = .ok (.iconst 0, 1) := by decide +kernel
theorem dX11_follow_144 : decode cX11_follow 144 = .ok (.istore 5, 2) := by decide +kernel
theorem dX11_follow_146 : decode cX11_follow 146 = .ok (.aload_n 0, 1) := by decide +kernel
theorem dX11_follow_147 : decode cX11_follow 147 = .ok (.aload_n 0, 1) := by decide +kernel
theorem dX11_follow_148 : decode cX11_follow 148 = .ok (.getfield 36, 3) := by decide +kernel
theorem dX11_follow_151 : decode cX11_follow 151 = .ok (.bipush 6, 2) := by decide +kernel
theorem dX11_follow_153 : decode cX11_follow 153 = .ok (.iaload, 1) := by decide +kernel
theorem dX11_follow_154 : decode cX11_follow 154 = .ok (.ifCond .ne 24, 3) := by decide +kernel
theorem dX11_follow_157 : decode cX11_follow 157 = .ok (.aload_n 0, 1) := by decide +kernel
theorem dX11_follow_158 : decode cX11_follow 158 = .ok (.getfield 65, 3) := by decide +kernel
theorem dX11_follow_161 : decode cX11_follow 161 = .ok (.aload_n 0, 1) := by decide +kernel
theorem dX11_follow_162 : decode cX11_follow 162 = .ok (.getfield 306, 3) := by decide +kernel
theorem dX11_follow_165 : decode cX11_follow 165 = .ok (.baload, 1) := by decide +kernel
theorem dX11_follow_166 : decode cX11_follow 166 = .ok (.ifCond .eq 12, 3) := by decide +kernel
theorem dX11_follow_169 : decode cX11_follow 169 = .ok (.iload 5, 2) := by decide +kernel
theorem dX11_follow_171 : decode cX11_follow 171 = .ok (.iconst 2, 1) := by decide +kernel
theorem dX11_follow_172 : decode cX11_follow 172 = .ok (.iadd, 1) := by decide +kernel
theorem dX11_follow_173 : decode cX11_follow 173 = .ok (.iconst 4, 1) := by decide +kernel
theorem dX11_follow_174 : decode cX11_follow 174 = .ok (.irem, 1) := by decide +kernel
theorem dX11_follow_175 : decode cX11_follow 175 = .ok (.goto 5, 3) := by decide +kernel
theorem dX11_follow_178 : decode cX11_follow 178 = .ok (.iload 5, 2) := by decide +kernel
theorem dX11_follow_180 : decode cX11_follow 180 = .ok (.putfield 309, 3) := by decide +kernel
theorem dX11_follow_183 : decode cX11_follow 183 = .ok (.aload_n 0, 1) := by decide +kernel
theorem dX11_follow_184 : decode cX11_follow 184 = .ok (.aload_n 0, 1) := by decide +kernel
theorem dX11_follow_185 : decode cX11_follow 185 = .ok (.getfield 309, 3) := by decide +kernel
theorem dX11_follow_188 : decode cX11_follow 188 = .ok (.invokevirtual 312, 3) := by decide +kernel
theorem dX11_follow_191 : decode cX11_follow 191 = .ok (.aload_n 0, 1) := by decide +kernel
theorem dX11_follow_192 : decode cX11_follow 192 = .ok (.getfield 306, 3) := by decide +kernel
theorem dX11_follow_195 : decode cX11_follow 195 = .ok (.aload_n 0, 1) := by decide +kernel
theorem dX11_follow_196 : decode cX11_follow 196 = .ok (.getfield 40, 3) := by decide +kernel
theorem dX11_follow_199 : decode cX11_follow 199 = .ok (.iload_n 1, 1) := by decide +kernel
theorem dX11_follow_200 : decode cX11_follow 200 = .ok (.iaload, 1) := by decide +kernel
theorem dX11_follow_201 : decode cX11_follow 201 = .ok (.if_icmp .ne 7, 3) := by decide +kernel
theorem dX11_follow_204 : decode cX11_follow 204 = .ok (.iload_n 2, 1) := by decide +kernel
theorem dX11_follow_205 : decode cX11_follow 205 = .ok (.goto 4, 3) := by decide +kernel
theorem dX11_follow_208 : decode cX11_follow 208 = .ok (.iconst 0, 1) := by decide +kernel
theorem dX11_follow_209 : decode cX11_follow 209 = .ok (.ireturn, 1) := by decide +kernel
theorem dX11_hear_0 : decode cX11_hear 0 = .ok (.bipush 6, 2) := by decide +kernel
theorem dX11_hear_2 : decode cX11_hear 2 = .ok (.iload_n 2, 1) := by decide +kernel
theorem dX11_hear_3 : decode cX11_hear 3 = .ok (.imul, 1) := by decide +kernel
theorem dX11_hear_4 : decode cX11_hear 4 = .ok (.istore 5, 2) := by decide +kernel
theorem dX11_hear_6 : decode cX11_hear 6 = .ok (.aload_n 1, 1) := by decide +kernel
theorem dX11_hear_7 : decode cX11_hear 7 = .ok (.iload 5, 2) := by decide +kernel
theorem dX11_hear_9 : decode cX11_hear 9 = .ok (.iconst 5, 1) := by decide +kernel
theorem dX11_hear_10 : decode cX11_hear 10 = .ok (.iadd, 1) := by decide +kernel
theorem dX11_hear_11 : decode cX11_hear 11 = .ok (.dup2, 1) := by decide +kernel
theorem dX11_hear_12 : decode cX11_hear 12 = .ok (.iaload, 1) := by decide +kernel
theorem dX11_hear_13 : decode cX11_hear 13 = .ok (.iconst 1, 1) := by decide +kernel
theorem dX11_hear_14 : decode cX11_hear 14 = .ok (.iadd, 1) := by decide +kernel
theorem dX11_hear_15 : decode cX11_hear 15 = .ok (.iastore, 1) := by decide +kernel
theorem dX11_hear_16 : decode cX11_hear 16 = .ok (.aload_n 0, 1) := by decide +kernel
theorem dX11_hear_17 : decode cX11_hear 17 = .ok (.getfield 49, 3) := by decide +kernel
theorem dX11_hear_20 : decode cX11_hear 20 = .ok (.iload_n 2, 1) := by decide +kernel
theorem dX11_hear_21 : decode cX11_hear 21 = .ok (.iaload, 1) := by decide +kernel
theorem dX11_hear_22 : decode cX11_hear 22 = .ok (.iconst 4, 1) := by decide +kernel
theorem dX11_hear_23 : decode cX11_hear 23 = .ok (.if_icmp .eq 37, 3) := by decide +kernel
theorem dX11_hear_26 : decode cX11_hear 26 = .ok (.iload 4, 2) := by decide +kernel
theorem dX11_hear_28 : decode cX11_hear 28 = .ok (.ifCond .eq 32, 3) := by decide +kernel
theorem dX11_hear_31 : decode cX11_hear 31 = .ok (.aload_n 1, 1) := by decide +kernel
theorem dX11_hear_32 : decode cX11_hear 32 = .ok (.iload 5, 2) := by decide +kernel
theorem dX11_hear_34 : decode cX11_hear 34 = .ok (.iconst 1, 1) := by decide +kernel
theorem dX11_hear_35 : decode cX11_hear 35 = .ok (.iadd, 1) := by decide +kernel
theorem dX11_hear_36 : decode cX11_hear 36 = .ok (.iaload, 1) := by decide +kernel
theorem dX11_hear_37 : decode cX11_hear 37 = .ok (.ifCond .ne 13, 3) := by decide +kernel
theorem dX11_hear_40 : decode cX11_hear 40 = .ok (.aload_n 1, 1) := by decide +kernel
theorem dX11_hear_41 : decode cX11_hear 41 = .ok (.iload 5, 2) := by decide +kernel
theorem dX11_hear_43 : decode cX11_hear 43 = .ok (.iconst 3, 1) := by decide +kernel
theorem dX11_hear_44 : decode cX11_hear 44 = .ok (.iadd, 1) := by decide +kernel
theorem dX11_hear_45 : decode cX11_hear 45 = .ok (.iconst 3, 1) := by decide +kernel
theorem dX11_hear_46 : decode cX11_hear 46 = .ok (.iastore, 1) := by decide +kernel
theorem dX11_hear_47 : decode cX11_hear 47 = .ok (.bipush (-3), 2) := by decide +kernel
theorem dX11_hear_49 : decode cX11_hear 49 = .ok (.ireturn, 1) := by decide +kernel
theorem dX11_hear_50 : decode cX11_hear 50 = .ok (.aload_n 1, 1) := by decide +kernel
theorem dX11_hear_51 : decode cX11_hear 51 = .ok (.iload 5, 2) := by decide +kernel
theorem dX11_hear_53 : decode cX11_hear 53 = .ok (.iconst 1, 1) := by decide +kernel
theorem dX11_hear_54 : decode cX11_hear 54 = .ok (.iadd, 1) := by decide +kernel
theorem dX11_hear_55 : decode cX11_hear 55 = .ok (.dup2, 1) := by decide +kernel
theorem dX11_hear_56 : decode cX11_hear 56 = .ok (.iaload, 1) := by decide +kernel
theorem dX11_hear_57 : decode cX11_hear 57 = .ok (.iconst 1, 1) := by decide +kernel
theorem dX11_hear_58 : decode cX11_hear 58 = .ok (.isub, 1) := by decide +kernel
theorem dX11_hear_59 : decode cX11_hear 59 = .ok (.iastore, 1) := by decide +kernel
theorem dX11_hear_60 : decode cX11_hear 60 = .ok (.aload_n 0, 1) := by decide +kernel
theorem dX11_hear_61 : decode cX11_hear 61 = .ok (.getfield 49, 3) := by decide +kernel
theorem dX11_hear_64 : decode cX11_hear 64 = .ok (.iload_n 2, 1) := by decide +kernel
theorem dX11_hear_65 : decode cX11_hear 65 = .ok (.iaload, 1) := by decide +kernel
theorem dX11_hear_66 : decode cX11_hear 66 = .ok (.iconst 3, 1) := by decide +kernel
theorem dX11_hear_67 : decode cX11_hear 67 = .ok (.if_icmp .ne 18, 3) := by decide +kernel
theorem dX11_hear_70 : decode cX11_hear 70 = .ok (.aload_n 1, 1) := by decide +kernel
theorem dX11_hear_71 : decode cX11_hear 71 = .ok (.iload 5, 2) := by decide +kernel
theorem dX11_hear_73 : decode cX11_hear 73 = .ok (.iconst 5, 1) := by decide +kernel
theorem dX11_hear_74 : decode cX11_hear 74 = .ok (.iadd, 1) := by decide +kernel
theorem dX11_hear_75 : decode cX11_hear 75 = .ok (.iaload, 1) := by decide +kernel
theorem dX11_hear_76 : decode cX11_hear 76 = .ok (.iconst 2, 1) := by decide +kernel
theorem dX11_hear_77 : decode cX11_hear 77 = .ok (.irem, 1) := by decide +kernel
theorem dX11_hear_78 : decode cX11_hear 78 = .ok (.iconst 1, 1) := by decide +kernel
theorem dX11_hear_79 : decode cX11_hear 79 = .ok (.if_icmp .ne 6, 3) := by decide +kernel
theorem dX11_hear_82 : decode cX11_hear 82 = .ok (.bipush (-3), 2) := by decide +kernel
theorem dX11_hear_84 : decode cX11_hear 84 = .ok (.ireturn, 1) := by decide +kernel
theorem dX11_hear_85 : decode cX11_hear 85 = .ok (.aload_n 0, 1) := by decide +kernel
theorem dX11_hear_86 : decode cX11_hear 86 = .ok (.iload_n 3, 1) := by decide +kernel
theorem dX11_hear_87 : decode cX11_hear 87 = .ok (.aload_n 1, 1) := by decide +kernel
theorem dX11_hear_88 : decode cX11_hear 88 = .ok (.iload 5, 2) := by decide +kernel
theorem dX11_hear_90 : decode cX11_hear 90 = .ok (.iconst 0, 1) := by decide +kernel
theorem dX11_hear_91 : decode cX11_hear 91 = .ok (.iadd, 1) := by decide +kernel
theorem dX11_hear_92 : decode cX11_hear 92 = .ok (.iaload, 1) := by decide +kernel
theorem dX11_hear_93 : decode cX11_hear 93 = .ok (.invokevirtual 303, 3) := by decide +kernel
theorem dX11_hear_96 : decode cX11_hear 96 = .ok (.istore 6, 2) := by decide +kernel
theorem dX11_hear_98 : decode cX11_hear 98 = .ok (.aload_n 0, 1) := by decide +kernel
theorem dX11_hear_99 : decode cX11_hear 99 = .ok (.getfield 49, 3) := by decide +kernel
theorem dX11_hear_102 : decode cX11_hear 102 = .ok (.iload_n 2, 1) := by decide +kernel
theorem dX11_hear_103 : decode cX11_hear 103 = .ok (.iaload, 1) := by decide +kernel
theorem dX11_hear_104 : decode cX11_hear 104 = .ok (.iconst 2, 1) := by decide +kernel
theorem dX11_hear_105 : decode cX11_hear 105 = .ok (.if_icmp .ne 15, 3) := by decide +kernel
theorem dX11_hear_108 : decode cX11_hear 108 = .ok (.aload_n 0, 1) := by decide +kernel
theorem dX11_hear_109 : decode cX11_hear 109 = .ok (.iload 6, 2) := by decide +kernel
theorem dX11_hear_111 : decode cX11_hear 111 = .ok (.invokevirtual 315, 3) := by decide +kernel
theorem dX11_hear_114 : decode cX11_hear 114 = .ok (.ifCond .eq 6, 3) := by decide +kernel
theorem dX11_hear_117 : decode cX11_hear 117 = .ok (.bipush (-2), 2) := by decide +kernel
theorem dX11_hear_119 : decode cX11_hear 119 = .ok (.ireturn, 1) := by decide +kernel
theorem dX11_hear_120 : decode cX11_hear 120 = .ok (.aload_n 0, 1) := by decide +kernel
theorem dX11_hear_121 : decode cX11_hear 121 = .ok (.getfield 49, 3) := by decide +kernel
theorem dX11_hear_124 : decode cX11_hear 124 = .ok (.iload_n 2, 1) := by decide +kernel
theorem dX11_hear_125 : decode cX11_hear 125 = .ok (.iaload, 1) := by decide +kernel
theorem dX11_hear_126 : decode cX11_hear 126 = .ok (.iconst 1, 1) := by decide +kernel
theorem dX11_hear_127 : decode cX11_hear 127 = .ok (.if_icmp .ne 39, 3) := by decide +kernel
theorem dX11_hear_130 : decode cX11_hear 130 = .ok (.aload_n 1, 1) := by decide +kernel
theorem dX11_hear_131 : decode cX11_hear 131 = .ok (.iload 5, 2) := by decide +kernel
theorem dX11_hear_133 : decode cX11_hear 133 = .ok (.iconst 4, 1) := by decide +kernel
theorem dX11_hear_134 : decode cX11_hear 134 = .ok (.iadd, 1) := by decide +kernel
theorem dX11_hear_135 : decode cX11_hear 135 = .ok (.iaload, 1) := by decide +kernel
theorem dX11_hear_136 : decode cX11_hear 136 = .ok (.iconst (-1), 1) := by decide +kernel
theorem dX11_hear_137 : decode cX11_hear 137 = .ok (.if_icmp .eq 29, 3) := by decide +kernel
theorem dX11_hear_140 : decode cX11_hear 140 = .ok (.aload_n 0, 1) := by decide +kernel
theorem dX11_hear_141 : decode cX11_hear 141 = .ok (.iload 6, 2) := by decide +kernel
theorem dX11_hear_143 : decode cX11_hear 143 = .ok (.aload_n 1, 1) := by decide +kernel
theorem dX11_hear_144 : decode cX11_hear 144 = .ok (.iload 5, 2) := by decide +kernel
theorem dX11_hear_146 : decode cX11_hear 146 = .ok (.iconst 0, 1) := by decide +kernel
theorem dX11_hear_147 : decode cX11_hear 147 = .ok (.iadd, 1) := by decide +kernel
theorem dX11_hear_148 : decode cX11_hear 148 = .ok (.iaload, 1) := by decide +kernel
theorem dX11_hear_149 : decode cX11_hear 149 = .ok (.aload_n 0, 1) := by decide +kernel
theorem dX11_hear_150 : decode cX11_hear 150 = .ok (.getfield 46, 3) := by decide +kernel
theorem dX11_hear_153 : decode cX11_hear 153 = .ok (.aload_n 1, 1) := by decide +kernel
theorem dX11_hear_154 : decode cX11_hear 154 = .ok (.iload 5, 2) := by decide +kernel
theorem dX11_hear_156 : decode cX11_hear 156 = .ok (.iconst 4, 1) := by decide +kernel
theorem dX11_hear_157 : decode cX11_hear 157 = .ok (.iadd, 1) := by decide +kernel
theorem dX11_hear_158 : decode cX11_hear 158 = .ok (.iaload, 1) := by decide +kernel
theorem dX11_hear_159 : decode cX11_hear 159 = .ok (.iaload, 1) := by decide +kernel
theorem dX11_hear_160 : decode cX11_hear 160 = .ok (.invokevirtual 318, 3) := by decide +kernel
theorem dX11_hear_163 : decode cX11_hear 163 = .ok (.goto 4, 3) := by decide +kernel
theorem dX11_hear_166 : decode cX11_hear 166 = .ok (.iconst (-1), 1) := by decide +kernel
theorem dX11_hear_167 : decode cX11_hear 167 = .ok (.istore 7, 2) := by decide +kernel
theorem dX11_hear_169 : decode cX11_hear 169 = .ok (.iload 7, 2) := by decide +kernel
theorem dX11_hear_171 : decode cX11_hear 171 = .ok (.iconst (-1), 1) := by decide +kernel
theorem dX11_hear_172 : decode cX11_hear 172 = .ok (.if_icmp .ne 19, 3) := by decide +kernel
theorem dX11_hear_175 : decode cX11_hear 175 = .ok (.aload_n 0, 1) := by decide +kernel
theorem dX11_hear_176 : decode cX11_hear 176 = .ok (.iload 6, 2) := by decide +kernel
theorem dX11_hear_178 : decode cX11_hear 178 = .ok (.aload_n 1, 1) := by decide +kernel
theorem dX11_hear_179 : decode cX11_hear 179 = .ok (.iload 5, 2) := by decide +kernel
theorem dX11_hear_181 : decode cX11_hear 181 = .ok (.iconst 0, 1) := by decide +kernel
theorem dX11_hear_182 : decode cX11_hear 182 = .ok (.iadd, 1) := by decide +kernel
theorem dX11_hear_183 : decode cX11_hear 183 = .ok (.iaload, 1) := by decide +kernel
theorem dX11_hear_184 : decode cX11_hear 184 = .ok (.iconst (-1), 1) := by decide +kernel
theorem dX11_hear_185 : decode cX11_hear 185 = .ok (.invokevirtual 318, 3) := by decide +kernel
theorem dX11_hear_188 : decode cX11_hear 188 = .ok (.goto 5, 3) := by decide +kernel
theorem dX11_hear_191 : decode cX11_hear 191 = .ok (.iload 7, 2) := by decide +kernel
theorem dX11_hear_193 : decode cX11_hear 193 = .ok (.istore 7, 2) := by decide +kernel
theorem dX11_hear_195 : decode cX11_hear 195 = .ok (.aload_n 0, 1) := by decide +kernel
theorem dX11_hear_196 : decode cX11_hear 196 = .ok (.aload_n 1, 1) := by decide +kernel
theorem dX11_hear_197 : decode cX11_hear 197 = .ok (.iload 5, 2) := by decide +kernel
theorem dX11_hear_199 : decode cX11_hear 199 = .ok (.iconst 0, 1) := by decide +kernel
theorem dX11_hear_200 : decode cX11_hear 200 = .ok (.iadd, 1) := by decide +kernel
theorem dX11_hear_201 : decode cX11_hear 201 = .ok (.iaload, 1) := by decide +kernel
theorem dX11_hear_202 : decode cX11_hear 202 = .ok (.putfield 306, 3) := by decide +kernel
theorem dX11_hear_205 : decode cX11_hear 205 = .ok (.aload_n 0, 1) := by decide +kernel
theorem dX11_hear_206 : decode cX11_hear 206 = .ok (.aload_n 1, 1) := by decide +kernel
theorem dX11_hear_207 : decode cX11_hear 207 = .ok (.iload 5, 2) := by decide +kernel
theorem dX11_hear_209 : decode cX11_hear 209 = .ok (.iconst 2, 1) := by decide +kernel
theorem dX11_hear_210 : decode cX11_hear 210 = .ok (.iadd, 1) := by decide +kernel
theorem dX11_hear_211 : decode cX11_hear 211 = .ok (.iaload, 1) := by decide +kernel
theorem dX11_hear_212 : decode cX11_hear 212 = .ok (.putfield 309, 3) := by decide +kernel
theorem dX11_hear_215 : decode cX11_hear 215 = .ok (.aload_n 1, 1) := by decide +kernel
theorem dX11_hear_216 : decode cX11_hear 216 = .ok (.iload 5, 2) := by decide +kernel
theorem dX11_hear_218 : decode cX11_hear 218 = .ok (.iconst 3, 1) := by decide +kernel
theorem dX11_hear_219 : decode cX11_hear 219 = .ok (.iadd, 1) := by decide +kernel
theorem dX11_hear_220 : decode cX11_hear 220 = .ok (.aload_n 0, 1) := by decide +kernel
theorem dX11_hear_221 : decode cX11_hear 221 = .ok (.iload 7, 2) := by decide +kernel
theorem dX11_hear_223 : decode cX11_hear 223 = .ok (.invokevirtual 322, 3) := by decide +kernel
theorem dX11_hear_226 : decode cX11_hear 226 = .ok (.iastore, 1) := by decide +kernel
theorem dX11_hear_227 : decode cX11_hear 227 = .ok (.aload_n 1, 1) := by decide +kernel
theorem dX11_hear_228 : decode cX11_hear 228 = .ok (.iload 5, 2) := by decide +kernel
theorem dX11_hear_230 : decode cX11_hear 230 = .ok (.iconst 0, 1) := by decide +kernel
theorem dX11_hear_231 : decode cX11_hear 231 = .ok (.iadd, 1) := by decide +kernel
theorem dX11_hear_232 : decode cX11_hear 232 = .ok (.aload_n 0, 1) := by decide +kernel
theorem dX11_hear_233 : decode cX11_hear 233 = .ok (.getfield 306, 3) := by decide +kernel
theorem dX11_hear_236 : decode cX11_hear 236 = .ok (.iastore, 1) := by decide +kernel
theorem dX11_hear_237 : decode cX11_hear 237 = .ok (.aload_n 1, 1) := by decide +kernel
theorem dX11_hear_238 : decode cX11_hear 238 = .ok (.iload 5, 2) := by decide +kernel
theorem dX11_hear_240 : decode cX11_hear 240 = .ok (.iconst 2, 1) := by decide +kernel
theorem dX11_hear_241 : decode cX11_hear 241 = .ok (.iadd, 1) := by decide +kernel
theorem dX11_hear_242 : decode cX11_hear 242 = .ok (.aload_n 0, 1) := by decide +kernel
theorem dX11_hear_243 : decode cX11_hear 243 = .ok (.getfield 309, 3) := by decide +kernel
theorem dX11_hear_246 : decode cX11_hear 246 = .ok (.iastore, 1) := by decide +kernel
theorem dX11_hear_247 : decode cX11_hear 247 = .ok (.iload 7, 2) := by decide +kernel
theorem dX11_hear_249 : decode cX11_hear 249 = .ok (.iconst (-1), 1) := by decide +kernel
theorem dX11_hear_250 : decode cX11_hear 250 = .ok (.if_icmp .eq 11, 3) := by decide +kernel
theorem dX11_hear_253 : decode cX11_hear 253 = .ok (.aload_n 1, 1) := by decide +kernel
theorem dX11_hear_254 : decode cX11_hear 254 = .ok (.iload 5, 2) := by decide +kernel
theorem dX11_hear_256 : decode cX11_hear 256 = .ok (.iconst 4, 1) := by decide +kernel
theorem dX11_hear_257 : decode cX11_hear 257 = .ok (.iadd, 1) := by decide +kernel
theorem dX11_hear_258 : decode cX11_hear 258 = .ok (.iload 7, 2) := by decide +kernel
theorem dX11_hear_260 : decode cX11_hear 260 = .ok (.iastore, 1) := by decide +kernel
theorem dX11_hear_261 : decode cX11_hear 261 = .ok (.iload 7, 2) := by decide +kernel
theorem dX11_hear_263 : decode cX11_hear 263 = .ok (.iconst (-1), 1) := by decide +kernel
theorem dX11_hear_264 : decode cX11_hear 264 = .ok (.if_icmp .ne 8, 3) := by decide +kernel
theorem dX11_hear_267 : decode cX11_hear 267 = .ok (.bipush (-2), 2) := by decide +kernel
theorem dX11_hear_269 : decode cX11_hear 269 = .ok (.goto 5, 3) := by decide +kernel
theorem dX11_hear_272 : decode cX11_hear 272 = .ok (.iload 7, 2) := by decide +kernel
theorem dX11_hear_274 : decode cX11_hear 274 = .ok (.ireturn, 1) := by decide +kernel
theorem dX11_canRing_0 : decode cX11_canRing 0 = .ok (.iload_n 2, 1) := by decide +kernel
theorem dX11_canRing_1 : decode cX11_canRing 1 = .ok (.iconst 0, 1) := by decide +kernel
theorem dX11_canRing_2 : decode cX11_canRing 2 = .ok (.iconst 1, 1) := by decide +kernel
theorem dX11_canRing_3 : decode cX11_canRing 3 = .ok (.aload_n 0, 1) := by decide +kernel
theorem dX11_canRing_4 : decode cX11_canRing 4 = .ok (.getfield 36, 3) := by decide +kernel
theorem dX11_canRing_7 : decode cX11_canRing 7 = .ok (.iconst 2, 1) := by decide +kernel
theorem dX11_canRing_8 : decode cX11_canRing 8 = .ok (.iaload, 1) := by decide +kernel
theorem dX11_canRing_9 : decode cX11_canRing 9 = .ok (.ishl, 1) := by decide +kernel
theorem dX11_canRing_10 : decode cX11_canRing 10 = .ok (.iconst 1, 1) := by decide +kernel
theorem dX11_canRing_11 : decode cX11_canRing 11 = .ok (.isub, 1) := by decide +kernel
theorem dX11_canRing_12 : decode cX11_canRing 12 = .ok (.invokestatic 135, 3) := by decide +kernel
theorem dX11_canRing_15 : decode cX11_canRing 15 = .ok (.ifCond .ne 5, 3) := by decide +kernel
theorem dX11_canRing_18 : decode cX11_canRing 18 = .ok (.iconst 0, 1) := by decide +kernel
theorem dX11_canRing_19 : decode cX11_canRing 19 = .ok (.ireturn, 1) := by decide +kernel
theorem dX11_canRing_20 : decode cX11_canRing 20 = .ok (.iconst 0, 1) := by decide +kernel
theorem dX11_canRing_21 : decode cX11_canRing 21 = .ok (.istore_n 3, 1) := by decide +kernel
theorem dX11_canRing_22 : decode cX11_canRing 22 = .ok (.iload_n 3, 1) := by decide +kernel
theorem dX11_canRing_23 : decode cX11_canRing 23 = .ok (.aload_n 0, 1) := by decide +kernel
theorem dX11_canRing_24 : decode cX11_canRing 24 = .ok (.getfield 36, 3) := by decide +kernel
theorem dX11_canRing_27 : decode cX11_canRing 27 = .ok (.iconst 2, 1) := by decide +kernel
theorem dX11_canRing_28 : decode cX11_canRing 28 = .ok (.iaload, 1) := by decide +kernel
theorem dX11_canRing_29 : decode cX11_canRing 29 = .ok (.if_icmp .ge 29, 3) := by decide +kernel
theorem dX11_canRing_32 : decode cX11_canRing 32 = .ok (.iload_n 2, 1) := by decide +kernel
theorem dX11_canRing_33 : decode cX11_canRing 33 = .ok (.iload_n 3, 1) := by decide +kernel
theorem dX11_canRing_34 : decode cX11_canRing 34 = .ok (.ishr, 1) := by decide +kernel
theorem dX11_canRing_35 : decode cX11_canRing 35 = .ok (.iconst 1, 1) := by decide +kernel
theorem dX11_canRing_36 : decode cX11_canRing 36 = .ok (.iand, 1) := by decide +kernel
theorem dX11_canRing_37 : decode cX11_canRing 37 = .ok (.iconst 1, 1) := by decide +kernel
theorem dX11_canRing_38 : decode cX11_canRing 38 = .ok (.if_icmp .ne 14, 3) := by decide +kernel
theorem dX11_canRing_41 : decode cX11_canRing 41 = .ok (.aload_n 1, 1) := by decide +kernel
theorem dX11_canRing_42 : decode cX11_canRing 42 = .ok (.bipush 24, 2) := by decide +kernel
theorem dX11_canRing_44 : decode cX11_canRing 44 = .ok (.iload_n 3, 1) := by decide +kernel
theorem dX11_canRing_45 : decode cX11_canRing 45 = .ok (.iadd, 1) := by decide +kernel
theorem dX11_canRing_46 : decode cX11_canRing 46 = .ok (.iaload, 1) := by decide +kernel
theorem dX11_canRing_47 : decode cX11_canRing 47 = .ok (.ifCond .ne 5, 3) := by decide +kernel
theorem dX11_canRing_50 : decode cX11_canRing 50 = .ok (.iconst 0, 1) := by decide +kernel
theorem dX11_canRing_51 : decode cX11_canRing 51 = .ok (.ireturn, 1) := by decide +kernel
theorem dX11_canRing_52 : decode cX11_canRing 52 = .ok (.iinc 3 1, 3) := by decide +kernel
theorem dX11_canRing_55 : decode cX11_canRing 55 = .ok (.goto (-33), 3) := by decide +kernel
theorem dX11_canRing_58 : decode cX11_canRing 58 = .ok (.iconst 1, 1) := by decide +kernel
theorem dX11_canRing_59 : decode cX11_canRing 59 = .ok (.ireturn, 1) := by decide +kernel
theorem dX11_strokeOf_0 : decode cX11_strokeOf 0 = .ok (.aload_n 0, 1) := by decide +kernel
theorem dX11_strokeOf_1 : decode cX11_strokeOf 1 = .ok (.aload_n 1, 1) := by decide +kernel
theorem dX11_strokeOf_2 : decode cX11_strokeOf 2 = .ok (.iconst 1, 1) := by decide +kernel
theorem dX11_strokeOf_3 : decode cX11_strokeOf 3 = .ok (.invokevirtual 280, 3) := by decide +kernel
theorem dX11_strokeOf_6 : decode cX11_strokeOf 6 = .ok (.istore_n 3, 1) := by decide +kernel
theorem dX11_strokeOf_7 : decode cX11_strokeOf 7 = .ok (.iconst 0, 1) := by decide +kernel
theorem dX11_strokeOf_8 : decode cX11_strokeOf 8 = .ok (.istore 4, 2) := by decide +kernel
theorem dX11_strokeOf_10 : decode cX11_strokeOf 10 = .ok (.iload 4, 2) := by decide +kernel
theorem dX11_strokeOf_12 : decode cX11_strokeOf 12 = .ok (.aload_n 0, 1) := by decide +kernel
theorem dX11_strokeOf_13 : decode cX11_strokeOf 13 = .ok (.getfield 36, 3) := by decide +kernel
theorem dX11_strokeOf_16 : decode cX11_strokeOf 16 = .ok (.iconst 2, 1) := by decide +kernel
theorem dX11_strokeOf_17 : decode cX11_strokeOf 17 = .ok (.iaload, 1) := by decide +kernel
theorem dX11_strokeOf_18 : decode cX11_strokeOf 18 = .ok (.if_icmp .ge 25, 3) := by decide +kernel
theorem dX11_strokeOf_21 : decode cX11_strokeOf 21 = .ok (.aload_n 1, 1) := by decide +kernel
theorem dX11_strokeOf_22 : decode cX11_strokeOf 22 = .ok (.bipush 24, 2) := by decide +kernel
theorem dX11_strokeOf_24 : decode cX11_strokeOf 24 = .ok (.iload 4, 2) := by decide +kernel
theorem dX11_strokeOf_26 : decode cX11_strokeOf 26 = .ok (.iadd, 1) := by decide +kernel
theorem dX11_strokeOf_27 : decode cX11_strokeOf 27 = .ok (.dup2, 1) := by decide +kernel
theorem dX11_strokeOf_28 : decode cX11_strokeOf 28 = .ok (.iaload, 1) := by decide +kernel
theorem dX11_strokeOf_29 : decode cX11_strokeOf 29 = .ok (.iload_n 2, 1) := by decide +kernel
theorem dX11_strokeOf_30 : decode cX11_strokeOf 30 = .ok (.iload 4, 2) := by decide +kernel
theorem dX11_strokeOf_32 : decode cX11_strokeOf 32 = .ok (.ishr, 1) := by decide +kernel
theorem dX11_strokeOf_33 : decode cX11_strokeOf 33 = .ok (.iconst 1, 1) := by decide +kernel
theorem dX11_strokeOf_34 : decode cX11_strokeOf 34 = .ok (.iand, 1) := by decide +kernel
theorem dX11_strokeOf_35 : decode cX11_strokeOf 35 = .ok (.isub, 1) := by decide +kernel
theorem dX11_strokeOf_36 : decode cX11_strokeOf 36 = .ok (.iastore, 1) := by decide +kernel
theorem dX11_strokeOf_37 : decode cX11_strokeOf 37 = .ok (.iinc 4 1, 3) := by decide +kernel
theorem dX11_strokeOf_40 : decode cX11_strokeOf 40 = .ok (.goto (-30), 3) := by decide +kernel
theorem dX11_strokeOf_43 : decode cX11_strokeOf 43 = .ok (.iconst 0, 1) := by decide +kernel
theorem dX11_strokeOf_44 : decode cX11_strokeOf 44 = .ok (.istore 4, 2) := by decide +kernel
theorem dX11_strokeOf_46 : decode cX11_strokeOf 46 = .ok (.iload 4, 2) := by decide +kernel
theorem dX11_strokeOf_48 : decode cX11_strokeOf 48 = .ok (.aload_n 0, 1) := by decide +kernel
theorem dX11_strokeOf_49 : decode cX11_strokeOf 49 = .ok (.getfield 36, 3) := by decide +kernel
theorem dX11_strokeOf_52 : decode cX11_strokeOf 52 = .ok (.iconst 3, 1) := by decide +kernel
theorem dX11_strokeOf_53 : decode cX11_strokeOf 53 = .ok (.iaload, 1) := by decide +kernel
theorem dX11_strokeOf_54 : decode cX11_strokeOf 54 = .ok (.if_icmp .ge 42, 3) := by decide +kernel
theorem dX11_strokeOf_57 : decode cX11_strokeOf 57 = .ok (.aload_n 0, 1) := by decide +kernel
theorem dX11_strokeOf_58 : decode cX11_strokeOf 58 = .ok (.getfield 75, 3) := by decide +kernel
theorem dX11_strokeOf_61 : decode cX11_strokeOf 61 = .ok (.iload 4, 2) := by decide +kernel
theorem dX11_strokeOf_63 : decode cX11_strokeOf 63 = .ok (.aload_n 1, 1) := by decide +kernel
theorem dX11_strokeOf_64 : decode cX11_strokeOf 64 = .ok (.bipush 6, 2) := by decide +kernel
theorem dX11_strokeOf_66 : decode cX11_strokeOf 66 = .ok (.iload 4, 2) := by decide +kernel
theorem dX11_strokeOf_68 : decode cX11_strokeOf 68 = .ok (.imul, 1) := by decide +kernel
theorem dX11_strokeOf_69 : decode cX11_strokeOf 69 = .ok (.iconst 3, 1) := by decide +kernel
theorem dX11_strokeOf_70 : decode cX11_strokeOf 70 = .ok (.iadd, 1) := by decide +kernel
theorem dX11_strokeOf_71 : decode cX11_strokeOf 71 = .ok (.iaload, 1) := by decide +kernel
theorem dX11_strokeOf_72 : decode cX11_strokeOf 72 = .ok (.ifCond .ne 15, 3) := by decide +kernel
theorem dX11_strokeOf_75 : decode cX11_strokeOf 75 = .ok (.aload_n 0, 1) := by decide +kernel
theorem dX11_strokeOf_76 : decode cX11_strokeOf 76 = .ok (.aload_n 1, 1) := by decide +kernel
theorem dX11_strokeOf_77 : decode cX11_strokeOf 77 = .ok (.iload 4, 2) := by decide +kernel
theorem dX11_strokeOf_79 : decode cX11_strokeOf 79 = .ok (.iload_n 2, 1) := by decide +kernel
theorem dX11_strokeOf_80 : decode cX11_strokeOf 80 = .ok (.iconst 1, 1) := by decide +kernel
theorem dX11_strokeOf_81 : decode cX11_strokeOf 81 = .ok (.invokevirtual 325, 3) := by decide +kernel
theorem dX11_strokeOf_84 : decode cX11_strokeOf 84 = .ok (.goto 5, 3) := by decide +kernel
theorem dX11_strokeOf_87 : decode cX11_strokeOf 87 = .ok (.bipush (-3), 2) := by decide +kernel
theorem dX11_strokeOf_89 : decode cX11_strokeOf 89 = .ok (.iastore, 1) := by decide +kernel
theorem dX11_strokeOf_90 : decode cX11_strokeOf 90 = .ok (.iinc 4 1, 3) := by decide +kernel
theorem dX11_strokeOf_93 : decode cX11_strokeOf 93 = .ok (.goto (-47), 3) := by decide +kernel
theorem dX11_strokeOf_96 : decode cX11_strokeOf 96 = .ok (.aload_n 0, 1) := by decide +kernel
theorem dX11_strokeOf_97 : decode cX11_strokeOf 97 = .ok (.aload_n 1, 1) := by decide +kernel
theorem dX11_strokeOf_98 : decode cX11_strokeOf 98 = .ok (.iconst 1, 1) := by decide +kernel
theorem dX11_strokeOf_99 : decode cX11_strokeOf 99 = .ok (.invokevirtual 280, 3) := by decide +kernel
theorem dX11_strokeOf_102 : decode cX11_strokeOf 102 = .ok (.iload_n 3, 1) := by decide +kernel
theorem dX11_strokeOf_103 : decode cX11_strokeOf 103 = .ok (.isub, 1) := by decide +kernel
theorem dX11_strokeOf_104 : decode cX11_strokeOf 104 = .ok (.ireturn, 1) := by decide +kernel
theorem dX11_shiftRows_0 : decode cX11_shiftRows 0 = .ok (.iconst 0, 1) := by decide +kernel
theorem dX11_shiftRows_1 : decode cX11_shiftRows 1 = .ok (.istore_n 1, 1) := by decide +kernel
theorem dX11_shiftRows_2 : decode cX11_shiftRows 2 = .ok (.iload_n 1, 1) := by decide +kernel
theorem dX11_shiftRows_3 : decode cX11_shiftRows 3 = .ok (.sipush 2871, 3) := by decide +kernel
theorem dX11_shiftRows_6 : decode cX11_shiftRows 6 = .ok (.if_icmp .ge 24, 3) := by decide +kernel
theorem dX11_shiftRows_9 : decode cX11_shiftRows 9 = .ok (.aload_n 0, 1) := by decide +kernel
theorem dX11_shiftRows_10 : decode cX11_shiftRows 10 = .ok (.getfield 78, 3) := by decide +kernel
theorem dX11_shiftRows_13 : decode cX11_shiftRows 13 = .ok (.iload_n 1, 1) := by decide +kernel
theorem dX11_shiftRows_14 : decode cX11_shiftRows 14 = .ok (.aload_n 0, 1) := by decide +kernel
theorem dX11_shiftRows_15 : decode cX11_shiftRows 15 = .ok (.getfield 78, 3) := by decide +kernel
theorem dX11_shiftRows_18 : decode cX11_shiftRows 18 = .ok (.iload_n 1, 1) := by decide +kernel
theorem dX11_shiftRows_19 : decode cX11_shiftRows 19 = .ok (.bipush 29, 2) := by decide +kernel
theorem dX11_shiftRows_21 : decode cX11_shiftRows 21 = .ok (.iadd, 1) := by decide +kernel
theorem dX11_shiftRows_22 : decode cX11_shiftRows 22 = .ok (.iaload, 1) := by decide +kernel
theorem dX11_shiftRows_23 : decode cX11_shiftRows 23 = .ok (.iastore, 1) := by decide +kernel
theorem dX11_shiftRows_24 : decode cX11_shiftRows 24 = .ok (.iinc 1 1, 3) := by decide +kernel
theorem dX11_shiftRows_27 : decode cX11_shiftRows 27 = .ok (.goto (-25), 3) := by decide +kernel
theorem dX11_shiftRows_30 : decode cX11_shiftRows 30 = .ok (.iconst 0, 1) := by decide +kernel
theorem dX11_shiftRows_31 : decode cX11_shiftRows 31 = .ok (.istore_n 1, 1) := by decide +kernel
theorem dX11_shiftRows_32 : decode cX11_shiftRows 32 = .ok (.iload_n 1, 1) := by decide +kernel
theorem dX11_shiftRows_33 : decode cX11_shiftRows 33 = .ok (.bipush 99, 2) := by decide +kernel
theorem dX11_shiftRows_35 : decode cX11_shiftRows 35 = .ok (.if_icmp .ge 23, 3) := by decide +kernel
theorem dX11_shiftRows_38 : decode cX11_shiftRows 38 = .ok (.aload_n 0, 1) := by decide +kernel
theorem dX11_shiftRows_39 : decode cX11_shiftRows 39 = .ok (.getfield 81, 3) := by decide +kernel
theorem dX11_shiftRows_42 : decode cX11_shiftRows 42 = .ok (.iload_n 1, 1) := by decide +kernel
theorem dX11_shiftRows_43 : decode cX11_shiftRows 43 = .ok (.aload_n 0, 1) := by decide +kernel
theorem dX11_shiftRows_44 : decode cX11_shiftRows 44 = .ok (.getfield 81, 3) := by decide +kernel
theorem dX11_shiftRows_47 : decode cX11_shiftRows 47 = .ok (.iload_n 1, 1) := by decide +kernel
theorem dX11_shiftRows_48 : decode cX11_shiftRows 48 = .ok (.iconst 1, 1) := by decide +kernel
theorem dX11_shiftRows_49 : decode cX11_shiftRows 49 = .ok (.iadd, 1) := by decide +kernel
theorem dX11_shiftRows_50 : decode cX11_shiftRows 50 = .ok (.iaload, 1) := by decide +kernel
theorem dX11_shiftRows_51 : decode cX11_shiftRows 51 = .ok (.iastore, 1) := by decide +kernel
theorem dX11_shiftRows_52 : decode cX11_shiftRows 52 = .ok (.iinc 1 1, 3) := by decide +kernel
theorem dX11_shiftRows_55 : decode cX11_shiftRows 55 = .ok (.goto (-23), 3) := by decide +kernel
theorem dX11_shiftRows_58 : decode cX11_shiftRows 58 = .ok (.iconst 0, 1) := by decide +kernel
theorem dX11_shiftRows_59 : decode cX11_shiftRows 59 = .ok (.istore_n 1, 1) := by decide +kernel
theorem dX11_shiftRows_60 : decode cX11_shiftRows 60 = .ok (.iload_n 1, 1) := by decide +kernel
theorem dX11_shiftRows_61 : decode cX11_shiftRows 61 = .ok (.sipush 396, 3) := by decide +kernel
theorem dX11_shiftRows_64 : decode cX11_shiftRows 64 = .ok (.if_icmp .ge 23, 3) := by decide +kernel
theorem dX11_shiftRows_67 : decode cX11_shiftRows 67 = .ok (.aload_n 0, 1) := by decide +kernel
theorem dX11_shiftRows_68 : decode cX11_shiftRows 68 = .ok (.getfield 84, 3) := by decide +kernel
theorem dX11_shiftRows_71 : decode cX11_shiftRows 71 = .ok (.iload_n 1, 1) := by decide +kernel
theorem dX11_shiftRows_72 : decode cX11_shiftRows 72 = .ok (.aload_n 0, 1) := by decide +kernel
theorem dX11_shiftRows_73 : decode cX11_shiftRows 73 = .ok (.getfield 84, 3) := by decide +kernel
theorem dX11_shiftRows_76 : decode cX11_shiftRows 76 = .ok (.iload_n 1, 1) := by decide +kernel
theorem dX11_shiftRows_77 : decode cX11_shiftRows 77 = .ok (.iconst 4, 1) := by decide +kernel
theorem dX11_shiftRows_78 : decode cX11_shiftRows 78 = .ok (.iadd, 1) := by decide +kernel
theorem dX11_shiftRows_79 : decode cX11_shiftRows 79 = .ok (.iaload, 1) := by decide +kernel
theorem dX11_shiftRows_80 : decode cX11_shiftRows 80 = .ok (.iastore, 1) := by decide +kernel
theorem dX11_shiftRows_81 : decode cX11_shiftRows 81 = .ok (.iinc 1 1, 3) := by decide +kernel
theorem dX11_shiftRows_84 : decode cX11_shiftRows 84 = .ok (.goto (-24), 3) := by decide +kernel
theorem dX11_shiftRows_87 : decode cX11_shiftRows 87 = .ok (.aload_n 0, 1) := by decide +kernel
theorem dX11_shiftRows_88 : decode cX11_shiftRows 88 = .ok (.dup, 1) := by decide +kernel
theorem dX11_shiftRows_89 : decode cX11_shiftRows 89 = .ok (.getfield 270, 3) := by decide +kernel
theorem dX11_shiftRows_92 : decode cX11_shiftRows 92 = .ok (.iconst 1, 1) := by decide +kernel
theorem dX11_shiftRows_93 : decode cX11_shiftRows 93 = .ok (.isub, 1) := by decide +kernel
theorem dX11_shiftRows_94 : decode cX11_shiftRows 94 = .ok (.putfield 270, 3) := by decide +kernel
theorem dX11_shiftRows_97 : decode cX11_shiftRows 97 = .ok (.return_, 1) := by decide +kernel
theorem dX11_searchOn_0 : decode cX11_searchOn 0 = .ok (.iconst 0, 1) := by decide +kernel
theorem dX11_searchOn_1 : decode cX11_searchOn 1 = .ok (.istore_n 2, 1) := by decide +kernel
theorem dX11_searchOn_2 : decode cX11_searchOn 2 = .ok (.iload_n 2, 1) := by decide +kernel
theorem dX11_searchOn_3 : decode cX11_searchOn 3 = .ok (.aload_n 0, 1) := by decide +kernel
theorem dX11_searchOn_4 : decode cX11_searchOn 4 = .ok (.getfield 93, 3) := by decide +kernel
theorem dX11_searchOn_7 : decode cX11_searchOn 7 = .ok (.if_icmp .ge 93, 3) := by decide +kernel
theorem dX11_searchOn_10 : decode cX11_searchOn 10 = .ok (.aload_n 0, 1) := by decide +kernel
theorem dX11_searchOn_11 : decode cX11_searchOn 11 = .ok (.getfield 87, 3) := by decide +kernel
theorem dX11_searchOn_14 : decode cX11_searchOn 14 = .ok (.iload_n 2, 1) := by decide +kernel
theorem dX11_searchOn_15 : decode cX11_searchOn 15 = .ok (.iaload, 1) := by decide +kernel
theorem dX11_searchOn_16 : decode cX11_searchOn 16 = .ok (.iconst (-1), 1) := by decide +kernel
theorem dX11_searchOn_17 : decode cX11_searchOn 17 = .ok (.if_icmp .ne 6, 3) := by decide +kernel
theorem dX11_searchOn_20 : decode cX11_searchOn 20 = .ok (.goto 74, 3) := by decide +kernel
theorem dX11_searchOn_23 : decode cX11_searchOn 23 = .ok (.aload_n 0, 1) := by decide +kernel
theorem dX11_searchOn_24 : decode cX11_searchOn 24 = .ok (.aload_n 0, 1) := by decide +kernel
theorem dX11_searchOn_25 : decode cX11_searchOn 25 = .ok (.getfield 87, 3) := by decide +kernel
theorem dX11_searchOn_28 : decode cX11_searchOn 28 = .ok (.iload_n 2, 1) := by decide +kernel
theorem dX11_searchOn_29 : decode cX11_searchOn 29 = .ok (.iaload, 1) := by decide +kernel
theorem dX11_searchOn_30 : decode cX11_searchOn 30 = .ok (.putfield 306, 3) := by decide +kernel
theorem dX11_searchOn_33 : decode cX11_searchOn 33 = .ok (.aload_n 0, 1) := by decide +kernel
theorem dX11_searchOn_34 : decode cX11_searchOn 34 = .ok (.aload_n 0, 1) := by decide +kernel
theorem dX11_searchOn_35 : decode cX11_searchOn 35 = .ok (.getfield 90, 3) := by decide +kernel
theorem dX11_searchOn_38 : decode cX11_searchOn 38 = .ok (.iload_n 2, 1) := by decide +kernel
theorem dX11_searchOn_39 : decode cX11_searchOn 39 = .ok (.iaload, 1) := by decide +kernel
theorem dX11_searchOn_40 : decode cX11_searchOn 40 = .ok (.putfield 309, 3) := by decide +kernel
theorem dX11_searchOn_43 : decode cX11_searchOn 43 = .ok (.aload_n 0, 1) := by decide +kernel
theorem dX11_searchOn_44 : decode cX11_searchOn 44 = .ok (.aload_n 0, 1) := by decide +kernel
theorem dX11_searchOn_45 : decode cX11_searchOn 45 = .ok (.aload_n 0, 1) := by decide +kernel
theorem dX11_searchOn_46 : decode cX11_searchOn 46 = .ok (.iload_n 1, 1) := by decide +kernel
theorem dX11_searchOn_47 : decode cX11_searchOn 47 = .ok (.aload_n 0, 1) := by decide +kernel
theorem dX11_searchOn_48 : decode cX11_searchOn 48 = .ok (.getfield 306, 3) := by decide +kernel
theorem dX11_searchOn_51 : decode cX11_searchOn 51 = .ok (.invokevirtual 303, 3) := by decide +kernel
theorem dX11_searchOn_54 : decode cX11_searchOn 54 = .ok (.aload_n 0, 1) := by decide +kernel
theorem dX11_searchOn_55 : decode cX11_searchOn 55 = .ok (.getfield 306, 3) := by decide +kernel
theorem dX11_searchOn_58 : decode cX11_searchOn 58 = .ok (.iconst (-1), 1) := by decide +kernel
theorem dX11_searchOn_59 : decode cX11_searchOn 59 = .ok (.invokevirtual 318, 3) := by decide +kernel
theorem dX11_searchOn_62 : decode cX11_searchOn 62 = .ok (.invokevirtual 322, 3) := by decide +kernel
theorem dX11_searchOn_65 : decode cX11_searchOn 65 = .ok (.istore_n 3, 1) := by decide +kernel
theorem dX11_searchOn_66 : decode cX11_searchOn 66 = .ok (.aload_n 0, 1) := by decide +kernel
theorem dX11_searchOn_67 : decode cX11_searchOn 67 = .ok (.getfield 87, 3) := by decide +kernel
theorem dX11_searchOn_70 : decode cX11_searchOn 70 = .ok (.iload_n 2, 1) := by decide +kernel
theorem dX11_searchOn_71 : decode cX11_searchOn 71 = .ok (.iload_n 3, 1) := by decide +kernel
theorem dX11_searchOn_72 : decode cX11_searchOn 72 = .ok (.ifCond .ne 10, 3) := by decide +kernel
theorem dX11_searchOn_75 : decode cX11_searchOn 75 = .ok (.aload_n 0, 1) := by decide +kernel
theorem dX11_searchOn_76 : decode cX11_searchOn 76 = .ok (.getfield 306, 3) := by decide +kernel
theorem dX11_searchOn_79 : decode cX11_searchOn 79 = .ok (.goto 4, 3) := by decide +kernel
theorem dX11_searchOn_82 : decode cX11_searchOn 82 = .ok (.iconst (-1), 1) := by decide +kernel
theorem dX11_searchOn_83 : decode cX11_searchOn 83 = .ok (.iastore, 1) := by decide +kernel
theorem dX11_searchOn_84 : decode cX11_searchOn 84 = .ok (.aload_n 0, 1) := by decide +kernel
theorem dX11_searchOn_85 : decode cX11_searchOn 85 = .ok (.getfield 90, 3) := by decide +kernel
theorem dX11_searchOn_88 : decode cX11_searchOn 88 = .ok (.iload_n 2, 1) := by decide +kernel
theorem dX11_searchOn_89 : decode cX11_searchOn 89 = .ok (.aload_n 0, 1) := by decide +kernel
theorem dX11_searchOn_90 : decode cX11_searchOn 90 = .ok (.getfield 309, 3) := by decide +kernel
theorem dX11_searchOn_93 : decode cX11_searchOn 93 = .ok (.iastore, 1) := by decide +kernel
theorem dX11_searchOn_94 : decode cX11_searchOn 94 = .ok (.iinc 2 1, 3) := by decide +kernel
theorem dX11_searchOn_97 : decode cX11_searchOn 97 = .ok (.goto (-95), 3) := by decide +kernel
theorem dX11_searchOn_100 : decode cX11_searchOn 100 = .ok (.return_, 1) := by decide +kernel
theorem dX11_doStroke_0 : decode cX11_doStroke 0 = .ok (.aload_n 0, 1) := by decide +kernel
theorem dX11_doStroke_1 : decode cX11_doStroke 1 = .ok (.getfield 270, 3) := by decide +kernel
theorem dX11_doStroke_4 : decode cX11_doStroke 4 = .ok (.bipush 100, 2) := by decide +kernel
theorem dX11_doStroke_6 : decode cX11_doStroke 6 = .ok (.if_icmp .ne 7, 3) := by decide +kernel
theorem dX11_doStroke_9 : decode cX11_doStroke 9 = .ok (.aload_n 0, 1) := by decide +kernel
theorem dX11_doStroke_10 : decode cX11_doStroke 10 = .ok (.invokevirtual 329, 3) := by decide +kernel
theorem dX11_doStroke_13 : decode cX11_doStroke 13 = .ok (.iconst 0, 1) := by decide +kernel
theorem dX11_doStroke_14 : decode cX11_doStroke 14 = .ok (.istore_n 2, 1) := by decide +kernel
theorem dX11_doStroke_15 : decode cX11_doStroke 15 = .ok (.iload_n 2, 1) := by decide +kernel
theorem dX11_doStroke_16 : decode cX11_doStroke 16 = .ok (.bipush 29, 2) := by decide +kernel
theorem dX11_doStroke_18 : decode cX11_doStroke 18 = .ok (.if_icmp .ge 29, 3) := by decide +kernel
theorem dX11_doStroke_21 : decode cX11_doStroke 21 = .ok (.aload_n 0, 1) := by decide +kernel
theorem dX11_doStroke_22 : decode cX11_doStroke 22 = .ok (.getfield 78, 3) := by decide +kernel
theorem dX11_doStroke_25 : decode cX11_doStroke 25 = .ok (.bipush 29, 2) := by decide +kernel
theorem dX11_doStroke_27 : decode cX11_doStroke 27 = .ok (.aload_n 0, 1) := by decide +kernel
theorem dX11_doStroke_28 : decode cX11_doStroke 28 = .ok (.getfield 270, 3) := by decide +kernel
theorem dX11_doStroke_31 : decode cX11_doStroke 31 = .ok (.imul, 1) := by decide +kernel
theorem dX11_doStroke_32 : decode cX11_doStroke 32 = .ok (.iload_n 2, 1) := by decide +kernel
theorem dX11_doStroke_33 : decode cX11_doStroke 33 = .ok (.iadd, 1) := by decide +kernel
theorem dX11_doStroke_34 : decode cX11_doStroke 34 = .ok (.aload_n 0, 1) := by decide +kernel
theorem dX11_doStroke_35 : decode cX11_doStroke 35 = .ok (.getfield 52, 3) := by decide +kernel
theorem dX11_doStroke_38 : decode cX11_doStroke 38 = .ok (.iload_n 2, 1) := by decide +kernel
theorem dX11_doStroke_39 : decode cX11_doStroke 39 = .ok (.iaload, 1) := by decide +kernel
theorem dX11_doStroke_40 : decode cX11_doStroke 40 = .ok (.iastore, 1) := by decide +kernel
theorem dX11_doStroke_41 : decode cX11_doStroke 41 = .ok (.iinc 2 1, 3) := by decide +kernel
theorem dX11_doStroke_44 : decode cX11_doStroke 44 = .ok (.goto (-29), 3) := by decide +kernel
theorem dX11_doStroke_47 : decode cX11_doStroke 47 = .ok (.aload_n 0, 1) := by decide +kernel
theorem dX11_doStroke_48 : decode cX11_doStroke 48 = .ok (.aload_n 0, 1) := by decide +kernel
theorem dX11_doStroke_49 : decode cX11_doStroke 49 = .ok (.getfield 52, 3) := by decide +kernel
theorem dX11_doStroke_52 : decode cX11_doStroke 52 = .ok (.iload_n 1, 1) := by decide +kernel
theorem dX11_doStroke_53 : decode cX11_doStroke 53 = .ok (.invokevirtual 332, 3) := by decide +kernel
theorem dX11_doStroke_56 : decode cX11_doStroke 56 = .ok (.istore_n 2, 1) := by decide +kernel
theorem dX11_doStroke_57 : decode cX11_doStroke 57 = .ok (.aload_n 0, 1) := by decide +kernel
theorem dX11_doStroke_58 : decode cX11_doStroke 58 = .ok (.getfield 81, 3) := by decide +kernel
theorem dX11_doStroke_61 : decode cX11_doStroke 61 = .ok (.aload_n 0, 1) := by decide +kernel
theorem dX11_doStroke_62 : decode cX11_doStroke 62 = .ok (.getfield 270, 3) := by decide +kernel
theorem dX11_doStroke_65 : decode cX11_doStroke 65 = .ok (.iload_n 1, 1) := by decide +kernel
theorem dX11_doStroke_66 : decode cX11_doStroke 66 = .ok (.iastore, 1) := by decide +kernel
theorem dX11_doStroke_67 : decode cX11_doStroke 67 = .ok (.iconst 0, 1) := by decide +kernel
theorem dX11_doStroke_68 : decode cX11_doStroke 68 = .ok (.istore_n 3, 1) := by decide +kernel
theorem dX11_doStroke_69 : decode cX11_doStroke 69 = .ok (.iload_n 3, 1) := by decide +kernel
theorem dX11_doStroke_70 : decode cX11_doStroke 70 = .ok (.iconst 4, 1) := by decide +kernel
theorem dX11_doStroke_71 : decode cX11_doStroke 71 = .ok (.if_icmp .ge 43, 3) := by decide +kernel
theorem dX11_doStroke_74 : decode cX11_doStroke 74 = .ok (.aload_n 0, 1) := by decide +kernel
theorem dX11_doStroke_75 : decode cX11_doStroke 75 = .ok (.getfield 84, 3) := by decide +kernel
theorem dX11_doStroke_78 : decode cX11_doStroke 78 = .ok (.iconst 4, 1) := by decide +kernel
theorem dX11_doStroke_79 : decode cX11_doStroke 79 = .ok (.aload_n 0, 1) := by decide +kernel
theorem dX11_doStroke_80 : decode cX11_doStroke 80 = .ok (.getfield 270, 3) := by decide +kernel
theorem dX11_doStroke_83 : decode cX11_doStroke 83 = .ok (.imul, 1) := by decide +kernel
theorem dX11_doStroke_84 : decode cX11_doStroke 84 = .ok (.iload_n 3, 1) := by decide +kernel
theorem dX11_doStroke_85 : decode cX11_doStroke 85 = .ok (.iadd, 1) := by decide +kernel
theorem dX11_doStroke_86 : decode cX11_doStroke 86 = .ok (.iload_n 3, 1) := by decide +kernel
theorem dX11_doStroke_87 : decode cX11_doStroke 87 = .ok (.aload_n 0, 1) := by decide +kernel
theorem dX11_doStroke_88 : decode cX11_doStroke 88 = .ok (.getfield 36, 3) := by decide +kernel
theorem dX11_doStroke_91 : decode cX11_doStroke 91 = .ok (.iconst 3, 1) := by decide +kernel
theorem dX11_doStroke_92 : decode cX11_doStroke 92 = .ok (.iaload, 1) := by decide +kernel
theorem dX11_doStroke_93 : decode cX11_doStroke 93 = .ok (.if_icmp .ge 12, 3) := by decide +kernel
theorem dX11_doStroke_96 : decode cX11_doStroke 96 = .ok (.aload_n 0, 1) := by decide +kernel
theorem dX11_doStroke_97 : decode cX11_doStroke 97 = .ok (.getfield 75, 3) := by decide +kernel
theorem dX11_doStroke_100 : decode cX11_doStroke 100 = .ok (.iload_n 3, 1) := by decide +kernel
theorem dX11_doStroke_101 : decode cX11_doStroke 101 = .ok (.iaload, 1) := by decide +kernel
theorem dX11_doStroke_102 : decode cX11_doStroke 102 = .ok (.goto 5, 3) := by decide +kernel
theorem dX11_doStroke_105 : decode cX11_doStroke 105 = .ok (.bipush (-3), 2) := by decide +kernel
theorem dX11_doStroke_107 : decode cX11_doStroke 107 = .ok (.iastore, 1) := by decide +kernel
theorem dX11_doStroke_108 : decode cX11_doStroke 108 = .ok (.iinc 3 1, 3) := by decide +kernel
theorem dX11_doStroke_111 : decode cX11_doStroke 111 = .ok (.goto (-42), 3) := by decide +kernel
theorem dX11_doStroke_114 : decode cX11_doStroke 114 = .ok (.aload_n 0, 1) := by decide +kernel
theorem dX11_doStroke_115 : decode cX11_doStroke 115 = .ok (.dup, 1) := by decide +kernel
theorem dX11_doStroke_116 : decode cX11_doStroke 116 = .ok (.getfield 270, 3) := by decide +kernel
theorem dX11_doStroke_119 : decode cX11_doStroke 119 = .ok (.iconst 1, 1) := by decide +kernel
theorem dX11_doStroke_120 : decode cX11_doStroke 120 = .ok (.iadd, 1) := by decide +kernel
theorem dX11_doStroke_121 : decode cX11_doStroke 121 = .ok (.putfield 270, 3) := by decide +kernel
theorem dX11_doStroke_124 : decode cX11_doStroke 124 = .ok (.aload_n 0, 1) := by decide +kernel
theorem dX11_doStroke_125 : decode cX11_doStroke 125 = .ok (.iload_n 1, 1) := by decide +kernel
theorem dX11_doStroke_126 : decode cX11_doStroke 126 = .ok (.invokevirtual 335, 3) := by decide +kernel
theorem dX11_doStroke_129 : decode cX11_doStroke 129 = .ok (.iload_n 2, 1) := by decide +kernel
theorem dX11_doStroke_130 : decode cX11_doStroke 130 = .ok (.ireturn, 1) := by decide +kernel
theorem dX11_stroke_0 : decode cX11_stroke 0 = .ok (.aload_n 0, 1) := by decide +kernel
theorem dX11_stroke_1 : decode cX11_stroke 1 = .ok (.iconst 0, 1) := by decide +kernel
theorem dX11_stroke_2 : decode cX11_stroke 2 = .ok (.putfield 132, 3) := by decide +kernel
theorem dX11_stroke_5 : decode cX11_stroke 5 = .ok (.aload_n 0, 1) := by decide +kernel
theorem dX11_stroke_6 : decode cX11_stroke 6 = .ok (.aload_n 0, 1) := by decide +kernel
theorem dX11_stroke_7 : decode cX11_stroke 7 = .ok (.getfield 52, 3) := by decide +kernel
theorem dX11_stroke_10 : decode cX11_stroke 10 = .ok (.iload_n 1, 1) := by decide +kernel
theorem dX11_stroke_11 : decode cX11_stroke 11 = .ok (.invokevirtual 338, 3) := by decide +kernel
theorem dX11_stroke_14 : decode cX11_stroke 14 = .ok (.ifCond .ne 15, 3) := by decide +kernel
theorem dX11_stroke_17 : decode cX11_stroke 17 = .ok (.aload_n 0, 1) := by decide +kernel
theorem dX11_stroke_18 : decode cX11_stroke 18 = .ok (.getfield 58, 3) := by decide +kernel
theorem dX11_stroke_21 : decode cX11_stroke 21 = .ok (.iconst 1, 1) := by decide +kernel
theorem dX11_stroke_22 : decode cX11_stroke 22 = .ok (.dup2, 1) := by decide +kernel
theorem dX11_stroke_23 : decode cX11_stroke 23 = .ok (.iaload, 1) := by decide +kernel
theorem dX11_stroke_24 : decode cX11_stroke 24 = .ok (.iconst 1, 1) := by decide +kernel
theorem dX11_stroke_25 : decode cX11_stroke 25 = .ok (.iadd, 1) := by decide +kernel
theorem dX11_stroke_26 : decode cX11_stroke 26 = .ok (.iastore, 1) := by decide +kernel
theorem dX11_stroke_27 : decode cX11_stroke 27 = .ok (.iconst (-1), 1) := by decide +kernel
theorem dX11_stroke_28 : decode cX11_stroke 28 = .ok (.ireturn, 1) := by decide +kernel
theorem dX11_stroke_29 : decode cX11_stroke 29 = .ok (.aload_n 0, 1) := by decide +kernel
theorem dX11_stroke_30 : decode cX11_stroke 30 = .ok (.iconst 0, 1) := by decide +kernel
theorem dX11_stroke_31 : decode cX11_stroke 31 = .ok (.putfield 273, 3) := by decide +kernel
theorem dX11_stroke_34 : decode cX11_stroke 34 = .ok (.aload_n 0, 1) := by decide +kernel
theorem dX11_stroke_35 : decode cX11_stroke 35 = .ok (.iload_n 1, 1) := by decide +kernel
theorem dX11_stroke_36 : decode cX11_stroke 36 = .ok (.invokevirtual 342, 3) := by decide +kernel
theorem dX11_stroke_39 : decode cX11_stroke 39 = .ok (.ireturn, 1) := by decide +kernel
theorem dX11_ring_0 : decode cX11_ring 0 = .ok (.aload_n 0, 1) := by decide +kernel
theorem dX11_ring_1 : decode cX11_ring 1 = .ok (.iconst 0, 1) := by decide +kernel
theorem dX11_ring_2 : decode cX11_ring 2 = .ok (.putfield 132, 3) := by decide +kernel
theorem dX11_ring_5 : decode cX11_ring 5 = .ok (.iload_n 2, 1) := by decide +kernel
theorem dX11_ring_6 : decode cX11_ring 6 = .ok (.iconst 0, 1) := by decide +kernel
theorem dX11_ring_7 : decode cX11_ring 7 = .ok (.sipush 200, 3) := by decide +kernel
theorem dX11_ring_10 : decode cX11_ring 10 = .ok (.invokestatic 135, 3) := by decide +kernel
theorem dX11_ring_13 : decode cX11_ring 13 = .ok (.ifCond .ne 9, 3) := by decide +kernel
theorem dX11_ring_16 : decode cX11_ring 16 = .ok (.aload_n 0, 1) := by decide +kernel
theorem dX11_ring_17 : decode cX11_ring 17 = .ok (.iconst 1, 1) := by decide +kernel
theorem dX11_ring_18 : decode cX11_ring 18 = .ok (.invokevirtual 256, 3) := by decide +kernel
theorem dX11_ring_21 : decode cX11_ring 21 = .ok (.ireturn, 1) := by decide +kernel
theorem dX11_ring_22 : decode cX11_ring 22 = .ok (.iconst 0, 1) := by decide +kernel
theorem dX11_ring_23 : decode cX11_ring 23 = .ok (.istore_n 3, 1) := by decide +kernel
theorem dX11_ring_24 : decode cX11_ring 24 = .ok (.iload_n 3, 1) := by decide +kernel
theorem dX11_ring_25 : decode cX11_ring 25 = .ok (.iload_n 2, 1) := by decide +kernel
theorem dX11_ring_26 : decode cX11_ring 26 = .ok (.if_icmp .ge 18, 3) := by decide +kernel
theorem dX11_ring_29 : decode cX11_ring 29 = .ok (.aload_n 0, 1) := by decide +kernel
theorem dX11_ring_30 : decode cX11_ring 30 = .ok (.iload_n 1, 1) := by decide +kernel
theorem dX11_ring_31 : decode cX11_ring 31 = .ok (.invokevirtual 345, 3) := by decide +kernel
theorem dX11_ring_34 : decode cX11_ring 34 = .ok (.iconst (-1), 1) := by decide +kernel
theorem dX11_ring_35 : decode cX11_ring 35 = .ok (.if_icmp .eq 9, 3) := by decide +kernel
theorem dX11_ring_38 : decode cX11_ring 38 = .ok (.iinc 3 1, 3) := by decide +kernel
theorem dX11_ring_41 : decode cX11_ring 41 = .ok (.goto (-17), 3) := by decide +kernel
theorem dX11_ring_44 : decode cX11_ring 44 = .ok (.iload_n 3, 1) := by decide +kernel
theorem dX11_ring_45 : decode cX11_ring 45 = .ok (.ireturn, 1) := by decide +kernel
theorem dX11_undo_0 : decode cX11_undo 0 = .ok (.aload_n 0, 1) := by decide +kernel
theorem dX11_undo_1 : decode cX11_undo 1 = .ok (.iconst 0, 1) := by decide +kernel
theorem dX11_undo_2 : decode cX11_undo 2 = .ok (.putfield 132, 3) := by decide +kernel
theorem dX11_undo_5 : decode cX11_undo 5 = .ok (.aload_n 0, 1) := by decide +kernel
theorem dX11_undo_6 : decode cX11_undo 6 = .ok (.getfield 270, 3) := by decide +kernel
theorem dX11_undo_9 : decode cX11_undo 9 = .ok (.ifCond .ne 5, 3) := by decide +kernel
theorem dX11_undo_12 : decode cX11_undo 12 = .ok (.iconst 0, 1) := by decide +kernel
theorem dX11_undo_13 : decode cX11_undo 13 = .ok (.ireturn, 1) := by decide +kernel
theorem dX11_undo_14 : decode cX11_undo 14 = .ok (.aload_n 0, 1) := by decide +kernel
theorem dX11_undo_15 : decode cX11_undo 15 = .ok (.dup, 1) := by decide +kernel
theorem dX11_undo_16 : decode cX11_undo 16 = .ok (.getfield 270, 3) := by decide +kernel
theorem dX11_undo_19 : decode cX11_undo 19 = .ok (.iconst 1, 1) := by decide +kernel
theorem dX11_undo_20 : decode cX11_undo 20 = .ok (.isub, 1) := by decide +kernel
theorem dX11_undo_21 : decode cX11_undo 21 = .ok (.putfield 270, 3) := by decide +kernel
theorem dX11_undo_24 : decode cX11_undo 24 = .ok (.aload_n 0, 1) := by decide +kernel
theorem dX11_undo_25 : decode cX11_undo 25 = .ok (.dup, 1) := by decide +kernel
theorem dX11_undo_26 : decode cX11_undo 26 = .ok (.getfield 273, 3) := by decide +kernel
theorem dX11_undo_29 : decode cX11_undo 29 = .ok (.iconst 1, 1) := by decide +kernel
theorem dX11_undo_30 : decode cX11_undo 30 = .ok (.iadd, 1) := by decide +kernel
theorem dX11_undo_31 : decode cX11_undo 31 = .ok (.putfield 273, 3) := by decide +kernel
theorem dX11_undo_34 : decode cX11_undo 34 = .ok (.iconst 0, 1) := by decide +kernel
theorem dX11_undo_35 : decode cX11_undo 35 = .ok (.istore_n 1, 1) := by decide +kernel
theorem dX11_undo_36 : decode cX11_undo 36 = .ok (.iload_n 1, 1) := by decide +kernel
theorem dX11_undo_37 : decode cX11_undo 37 = .ok (.bipush 29, 2) := by decide +kernel
theorem dX11_undo_39 : decode cX11_undo 39 = .ok (.if_icmp .ge 29, 3) := by decide +kernel
theorem dX11_undo_42 : decode cX11_undo 42 = .ok (.aload_n 0, 1) := by decide +kernel
theorem dX11_undo_43 : decode cX11_undo 43 = .ok (.getfield 52, 3) := by decide +kernel
theorem dX11_undo_46 : decode cX11_undo 46 = .ok (.iload_n 1, 1) := by decide +kernel
theorem dX11_undo_47 : decode cX11_undo 47 = .ok (.aload_n 0, 1) := by decide +kernel
theorem dX11_undo_48 : decode cX11_undo 48 = .ok (.getfield 78, 3) := by decide +kernel
theorem dX11_undo_51 : decode cX11_undo 51 = .ok (.bipush 29, 2) := by decide +kernel
theorem dX11_undo_53 : decode cX11_undo 53 = .ok (.aload_n 0, 1) := by decide +kernel
theorem dX11_undo_54 : decode cX11_undo 54 = .ok (.getfield 270, 3) := by decide +kernel
theorem dX11_undo_57 : decode cX11_undo 57 = .ok (.imul, 1) := by decide +kernel
theorem dX11_undo_58 : decode cX11_undo 58 = .ok (.iload_n 1, 1) := by decide +kernel
theorem dX11_undo_59 : decode cX11_undo 59 = .ok (.iadd, 1) := by decide +kernel
theorem dX11_undo_60 : decode cX11_undo 60 = .ok (.iaload, 1) := by decide +kernel
theorem dX11_undo_61 : decode cX11_undo 61 = .ok (.iastore, 1) := by decide +kernel
theorem dX11_undo_62 : decode cX11_undo 62 = .ok (.iinc 1 1, 3) := by decide +kernel
theorem dX11_undo_65 : decode cX11_undo 65 = .ok (.goto (-29), 3) := by decide +kernel
theorem dX11_undo_68 : decode cX11_undo 68 = .ok (.iconst 1, 1) := by decide +kernel
theorem dX11_undo_69 : decode cX11_undo 69 = .ok (.ireturn, 1) := by decide +kernel
theorem dX11_redo_0 : decode cX11_redo 0 = .ok (.aload_n 0, 1) := by decide +kernel
theorem dX11_redo_1 : decode cX11_redo 1 = .ok (.iconst 0, 1) := by decide +kernel
theorem dX11_redo_2 : decode cX11_redo 2 = .ok (.putfield 132, 3) := by decide +kernel
theorem dX11_redo_5 : decode cX11_redo 5 = .ok (.aload_n 0, 1) := by decide +kernel
theorem dX11_redo_6 : decode cX11_redo 6 = .ok (.getfield 273, 3) := by decide +kernel
theorem dX11_redo_9 : decode cX11_redo 9 = .ok (.ifCond .ne 5, 3) := by decide +kernel
theorem dX11_redo_12 : decode cX11_redo 12 = .ok (.iconst 0, 1) := by decide +kernel
theorem dX11_redo_13 : decode cX11_redo 13 = .ok (.ireturn, 1) := by decide +kernel
theorem dX11_redo_14 : decode cX11_redo 14 = .ok (.aload_n 0, 1) := by decide +kernel
theorem dX11_redo_15 : decode cX11_redo 15 = .ok (.dup, 1) := by decide +kernel
theorem dX11_redo_16 : decode cX11_redo 16 = .ok (.getfield 273, 3) := by decide +kernel
theorem dX11_redo_19 : decode cX11_redo 19 = .ok (.iconst 1, 1) := by decide +kernel
theorem dX11_redo_20 : decode cX11_redo 20 = .ok (.isub, 1) := by decide +kernel
theorem dX11_redo_21 : decode cX11_redo 21 = .ok (.putfield 273, 3) := by decide +kernel
theorem dX11_redo_24 : decode cX11_redo 24 = .ok (.aload_n 0, 1) := by decide +kernel
theorem dX11_redo_25 : decode cX11_redo 25 = .ok (.aload_n 0, 1) := by decide +kernel
theorem dX11_redo_26 : decode cX11_redo 26 = .ok (.getfield 81, 3) := by decide +kernel
theorem dX11_redo_29 : decode cX11_redo 29 = .ok (.aload_n 0, 1) := by decide +kernel
theorem dX11_redo_30 : decode cX11_redo 30 = .ok (.getfield 270, 3) := by decide +kernel
theorem dX11_redo_33 : decode cX11_redo 33 = .ok (.iaload, 1) := by decide +kernel
theorem dX11_redo_34 : decode cX11_redo 34 = .ok (.invokevirtual 342, 3) := by decide +kernel
theorem dX11_redo_37 : decode cX11_redo 37 = .ok (.pop, 1) := by decide +kernel
theorem dX11_redo_38 : decode cX11_redo 38 = .ok (.iconst 1, 1) := by decide +kernel
theorem dX11_redo_39 : decode cX11_redo 39 = .ok (.ireturn, 1) := by decide +kernel
theorem dX11_why_0 : decode cX11_why 0 = .ok (.aload_n 0, 1) := by decide +kernel
theorem dX11_why_1 : decode cX11_why 1 = .ok (.iconst 0, 1) := by decide +kernel
theorem dX11_why_2 : decode cX11_why 2 = .ok (.putfield 132, 3) := by decide +kernel
theorem dX11_why_5 : decode cX11_why 5 = .ok (.aload_n 0, 1) := by decide +kernel
theorem dX11_why_6 : decode cX11_why 6 = .ok (.iload_n 1, 1) := by decide +kernel
theorem dX11_why_7 : decode cX11_why 7 = .ok (.invokevirtual 287, 3) := by decide +kernel
theorem dX11_why_10 : decode cX11_why 10 = .ok (.ifCond .eq 30, 3) := by decide +kernel
theorem dX11_why_13 : decode cX11_why 13 = .ok (.iload_n 2, 1) := by decide +kernel
theorem dX11_why_14 : decode cX11_why 14 = .ok (.iconst 0, 1) := by decide +kernel
theorem dX11_why_15 : decode cX11_why 15 = .ok (.aload_n 0, 1) := by decide +kernel
theorem dX11_why_16 : decode cX11_why 16 = .ok (.getfield 270, 3) := by decide +kernel
theorem dX11_why_19 : decode cX11_why 19 = .ok (.iconst 1, 1) := by decide +kernel
theorem dX11_why_20 : decode cX11_why 20 = .ok (.isub, 1) := by decide +kernel
theorem dX11_why_21 : decode cX11_why 21 = .ok (.invokestatic 135, 3) := by decide +kernel
theorem dX11_why_24 : decode cX11_why 24 = .ok (.ifCond .eq 16, 3) := by decide +kernel
theorem dX11_why_27 : decode cX11_why 27 = .ok (.aload_n 0, 1) := by decide +kernel
theorem dX11_why_28 : decode cX11_why 28 = .ok (.getfield 84, 3) := by decide +kernel
theorem dX11_why_31 : decode cX11_why 31 = .ok (.iconst 4, 1) := by decide +kernel
theorem dX11_why_32 : decode cX11_why 32 = .ok (.iload_n 2, 1) := by decide +kernel
theorem dX11_why_33 : decode cX11_why 33 = .ok (.imul, 1) := by decide +kernel
theorem dX11_why_34 : decode cX11_why 34 = .ok (.iload_n 1, 1) := by decide +kernel
theorem dX11_why_35 : decode cX11_why 35 = .ok (.iadd, 1) := by decide +kernel
theorem dX11_why_36 : decode cX11_why 36 = .ok (.iaload, 1) := by decide +kernel
theorem dX11_why_37 : decode cX11_why 37 = .ok (.goto 8, 3) := by decide +kernel
theorem dX11_why_40 : decode cX11_why 40 = .ok (.aload_n 0, 1) := by decide +kernel
theorem dX11_why_41 : decode cX11_why 41 = .ok (.iconst 1, 1) := by decide +kernel
theorem dX11_why_42 : decode cX11_why 42 = .ok (.invokevirtual 256, 3) := by decide +kernel
theorem dX11_why_45 : decode cX11_why 45 = .ok (.ireturn, 1) := by decide +kernel
def wpX11_farOf_J93 (M_told : AR) (M_place : AR) (l3 : Int32) (l4 : Int32) (t0 : Int32) (post : Int32 → Prop) : Prop := post (((4 : Int32) * ((jabs l3) + (jabs l4))) - ((M_told 5) * t0))
def wpX11_farOf (M_told : AR) (M_place : AR) (x1 : Int32) (x2 : Int32) (post : Int32 → Prop) : Prop := ¬ (M_told 0) = 0 ∧ vp_in x1 10 ∧ ¬ (M_told 0) = 0 ∧ ∀ l3_22 : Int32, l3_22 = ((jrem x2 (M_told 0)) - (jrem (M_place x1.toNatClampNeg) (M_told 0))) → ¬ (M_told 0) = 0 ∧ vp_in x1 10 ∧ ¬ (M_told 0) = 0 ∧ ∀ l4_45 : Int32, l4_45 = ((x2 / (M_told 0)) - ((M_place x1.toNatClampNeg) / (M_told 0))) → ((¬ (M_told 4) = 0 → ((¬ (M_told 4) = (1 : Int32) → ((¬ (M_told 4) = (2 : Int32) → wpX11_farOf_J93 M_told M_place l3_22 l4_45 (-l3_22) post) ∧ ((M_told 4) = (2 : Int32) → wpX11_farOf_J93 M_told M_place l3_22 l4_45 l4_45 post))) ∧ ((M_told 4) = (1 : Int32) → wpX11_farOf_J93 M_told M_place l3_22 l4_45 l3_22 post))) ∧ ((M_told 4) = 0 → wpX11_farOf_J93 M_told M_place l3_22 l4_45 (-l4_45) post))
set_option maxHeartbeats 4000000 in
set_option maxRecDepth 100000 in
theorem ctX11_farOf (l : Launch) (D : va_G) (cy : Nat → ClassId) (ev : Nat → Nat) (h0 : Nat) (rM : Nat → Nat) (sM : AR) (M_told : AR) (M_place : AR) (x1 : Int32) (x2 : Int32) (sz : Nat) (post : Int32 → Prop) (h : wpX11_farOf M_told M_place x1 x2 post) : Met l yX11_farOf (Cond.code yX11_farOf cX11_farOf 6 (some .int) :: TB) ({ frames := 1, cells := 0, slots := 0, locals := 60 }) (va_Pc [.ref h0, .int x1, .int x2] (PreX D cy ev [(h0, .inr (11, oX11 rM sM)), ((rM 3), .inl (cy 0, 14, .inl M_told)), ((rM 4), .inl (cy 0, 10, .inl M_place))] sz)) (va_Qi (fun (r : Int32) (u : Unit) => post r) (fun u => BkX D cy [(h0, .inr (11, oX11 rM sM)), ((rM 3), .inl (cy 0, 14, .inl M_told)), ((rM 4), .inl (cy 0, 10, .inl M_place))] sz [(h0, .inr (11, oX11 rM sM)), ((rM 3), .inl (cy 0, 14, .inl M_told)), ((rM 4), .inl (cy 0, 10, .inl M_place))]) (va_A [(h0, .inr (11, oX11 rM sM)), ((rM 3), .inl (cy 0, 14, .inl M_told)), ((rM 4), .inl (cy 0, 10, .inl M_place))] sz)) 0 0 (va_A [(h0, .inr (11, oX11 rM sM)), ((rM 3), .inl (cy 0, 14, .inl M_told)), ((rM 4), .inl (cy 0, 10, .inl M_place))] sz) := by
  refine ofWi (by decide) (Nat.le_of_ble_eq_true rfl) ?_
  intro p e s m args below meth c ls A R QQ hx hb hml hown hts hR hlk hE hK hP hD hS hA hl hret
  have hown : s.vm.findClass RX11 = some m.cls := hown
  have hRf : 1 ≤ R.frames := by rw [hR]; exact Nat.le_refl _
  have hRl : 60 ≤ R.locals := by rw [hR]; exact Nat.le_refl _
  clear hR
  have hl : lv_has ls 6 [(0, .ref h0), (1, .int x1), (2, .int x2)] := hl
  have J93 : ∀ (l3 : Int32) (l4 : Int32) (t0 : Int32) (H : Heap) (locs : List Loc) (ls : Array Slot), wpX11_farOf_J93 M_told M_place l3 l4 t0 post → va_P D clsX [(h0, .inr (11, oX11 rM sM)), ((rM 3), .inl (cy 0, 14, .inl M_told)), ((rM 4), .inl (cy 0, 10, .inl M_place))] H → va_D A [(h0, .inr (11, oX11 rM sM)), ((rM 3), .inl (cy 0, 14, .inl M_told)), ((rM 4), .inl (cy 0, 10, .inl M_place))] → va_S A s.heap H locs → lv_has ls 6 [(0, .ref h0), (3, .int l3), (4, .int l4)] → W p l e R s m args below meth c H locs 0 0 QQ (F0 m 93 ls [.int t0]) := by
    intro l3 l4 t0 H locs ls h hP hD hS hl
    refine lv_istore (lv' := [(5, .int t0), (0, .ref h0), (3, .int l3), (4, .int l4)]) hx hb dX11_farOf_93 hl (by decide) rfl (fun ls hl => ?_)
    refine lv_iconst (v := (4 : Int32)) hx hb dX11_farOf_95 (by decide) ?_
    refine lv_iload_n hx hb dX11_farOf_96 rfl (lv_at hl 2 rfl) ?_
    refine mabs hx hb (hml.trans hl.1.symm) hts hown mw1493 (Nat.le_trans (by decide) hRf) (Nat.le_trans (Nat.le_of_ble_eq_true rfl) hRl) (Nat.zero_le _) (Nat.zero_le _) dX11_farOf_97 ?_
    refine lv_iload hx hb dX11_farOf_100 (lv_at hl 3 rfl) ?_
    refine mabs hx hb (hml.trans hl.1.symm) hts hown mw1493 (Nat.le_trans (by decide) hRf) (Nat.le_trans (Nat.le_of_ble_eq_true rfl) hRl) (Nat.zero_le _) (Nat.zero_le _) dX11_farOf_102 ?_
    refine lv_iadd hx hb dX11_farOf_105 ?_
    refine lv_imul hx hb dX11_farOf_106 ?_
    refine lv_aload_n hx hb dX11_farOf_107 rfl (lv_at hl 1 rfl) ?_
    refine gfX11_36 hx hb hts hown hK hP 0 rfl dX11_farOf_108 ?_
    refine lv_iconst (v := (5 : Int32)) hx hb dX11_farOf_111 (by decide) ?_
    refine ldi (k := 5) hx hb hK hP 1 rfl (inL (by decide)) (by decide) dX11_farOf_112 ?_
    refine lv_iload hx hb dX11_farOf_113 (lv_at hl 0 rfl) ?_
    refine lv_imul hx hb dX11_farOf_115 ?_
    refine lv_isub hx hb dX11_farOf_116 ?_
    exact hret (((4 : Int32) * ((jabs l3) + (jabs l4))) - ((M_told 5) * t0)) () _ _ _ _ rfl dX11_farOf_117 h hP hD hS
  refine lv_iload_n hx hb dX11_farOf_0 rfl (lv_at hl 2 rfl) ?_
  refine lv_aload_n hx hb dX11_farOf_1 rfl (lv_at hl 0 rfl) ?_
  refine gfX11_36 hx hb hts hown hK hP 0 rfl dX11_farOf_2 ?_
  refine lv_iconst (v := (0 : Int32)) hx hb dX11_farOf_5 (by decide) ?_
  refine ldi (k := 0) hx hb hK hP 1 rfl (inL (by decide)) (by decide) dX11_farOf_6 ?_
  obtain ⟨hne, h⟩ := h
  refine lv_irem hx hb dX11_farOf_7 hne ?_
  refine lv_aload_n hx hb dX11_farOf_8 rfl (lv_at hl 0 rfl) ?_
  refine gfX11_40 hx hb hts hown hK hP 0 rfl dX11_farOf_9 ?_
  refine lv_iload_n hx hb dX11_farOf_12 rfl (lv_at hl 1 rfl) ?_
  obtain ⟨hin, h⟩ := h
  refine ldi (k := x1.toNatClampNeg) hx hb hK hP 2 rfl hin rfl dX11_farOf_13 ?_
  refine lv_aload_n hx hb dX11_farOf_14 rfl (lv_at hl 0 rfl) ?_
  refine gfX11_36 hx hb hts hown hK hP 0 rfl dX11_farOf_15 ?_
  refine lv_iconst (v := (0 : Int32)) hx hb dX11_farOf_18 (by decide) ?_
  refine ldi (k := 0) hx hb hK hP 1 rfl (inL (by decide)) (by decide) dX11_farOf_19 ?_
  obtain ⟨hne, h⟩ := h
  refine lv_irem hx hb dX11_farOf_20 hne ?_
  refine lv_isub hx hb dX11_farOf_21 ?_
  refine lv_topi (fun l3_22 el3_22 => ?_)
  have h := h l3_22 el3_22
  refine lv_istore_n (lv' := [(3, .int l3_22), (0, .ref h0), (1, .int x1), (2, .int x2)]) hx hb dX11_farOf_22 rfl hl (by decide) rfl (fun ls hl => ?_)
  refine lv_iload_n hx hb dX11_farOf_23 rfl (lv_at hl 3 rfl) ?_
  refine lv_aload_n hx hb dX11_farOf_24 rfl (lv_at hl 1 rfl) ?_
  refine gfX11_36 hx hb hts hown hK hP 0 rfl dX11_farOf_25 ?_
  refine lv_iconst (v := (0 : Int32)) hx hb dX11_farOf_28 (by decide) ?_
  refine ldi (k := 0) hx hb hK hP 1 rfl (inL (by decide)) (by decide) dX11_farOf_29 ?_
  obtain ⟨hne, h⟩ := h
  refine lv_idiv hx hb dX11_farOf_30 hne ?_
  refine lv_aload_n hx hb dX11_farOf_31 rfl (lv_at hl 1 rfl) ?_
  refine gfX11_40 hx hb hts hown hK hP 0 rfl dX11_farOf_32 ?_
  refine lv_iload_n hx hb dX11_farOf_35 rfl (lv_at hl 2 rfl) ?_
  obtain ⟨hin, h⟩ := h
  refine ldi (k := x1.toNatClampNeg) hx hb hK hP 2 rfl hin rfl dX11_farOf_36 ?_
  refine lv_aload_n hx hb dX11_farOf_37 rfl (lv_at hl 1 rfl) ?_
  refine gfX11_36 hx hb hts hown hK hP 0 rfl dX11_farOf_38 ?_
  refine lv_iconst (v := (0 : Int32)) hx hb dX11_farOf_41 (by decide) ?_
  refine ldi (k := 0) hx hb hK hP 1 rfl (inL (by decide)) (by decide) dX11_farOf_42 ?_
  obtain ⟨hne, h⟩ := h
  refine lv_idiv hx hb dX11_farOf_43 hne ?_
  refine lv_isub hx hb dX11_farOf_44 ?_
  refine lv_topi (fun l4_45 el4_45 => ?_)
  have h := h l4_45 el4_45
  refine lv_istore (lv' := [(4, .int l4_45), (3, .int l3_22), (0, .ref h0), (1, .int x1), (2, .int x2)]) hx hb dX11_farOf_45 hl (by decide) rfl (fun ls hl => ?_)
  refine lv_aload_n hx hb dX11_farOf_47 rfl (lv_at hl 2 rfl) ?_
  refine gfX11_36 hx hb hts hown hK hP 0 rfl dX11_farOf_48 ?_
  refine lv_iconst (v := (4 : Int32)) hx hb dX11_farOf_51 (by decide) ?_
  refine ldi (k := 4) hx hb hK hP 1 rfl (inL (by decide)) (by decide) dX11_farOf_52 ?_
  refine lv_if_ne (tgt := 62) hx hb dX11_farOf_53 (by decide) (fun c53 => ?_) (fun c53 => ?_)
  · have h := h.1 c53
    refine lv_aload_n hx hb dX11_farOf_62 rfl (lv_at hl 2 rfl) ?_
    refine gfX11_36 hx hb hts hown hK hP 0 rfl dX11_farOf_63 ?_
    refine lv_iconst (v := (4 : Int32)) hx hb dX11_farOf_66 (by decide) ?_
    refine ldi (k := 4) hx hb hK hP 1 rfl (inL (by decide)) (by decide) dX11_farOf_67 ?_
    refine lv_iconst (v := (1 : Int32)) hx hb dX11_farOf_68 (by decide) ?_
    refine lv_icmp_ne (tgt := 76) hx hb dX11_farOf_69 (by decide) (fun c69 => ?_) (fun c69 => ?_)
    · have h := h.1 c69
      refine lv_aload_n hx hb dX11_farOf_76 rfl (lv_at hl 2 rfl) ?_
      refine gfX11_36 hx hb hts hown hK hP 0 rfl dX11_farOf_77 ?_
      refine lv_iconst (v := (4 : Int32)) hx hb dX11_farOf_80 (by decide) ?_
      refine ldi (k := 4) hx hb hK hP 1 rfl (inL (by decide)) (by decide) dX11_farOf_81 ?_
      refine lv_iconst (v := (2 : Int32)) hx hb dX11_farOf_82 (by decide) ?_
      refine lv_icmp_ne (tgt := 91) hx hb dX11_farOf_83 (by decide) (fun c83 => ?_) (fun c83 => ?_)
      · have h := h.1 c83
        refine lv_iload_n hx hb dX11_farOf_91 rfl (lv_at hl 1 rfl) ?_
        refine lv_ineg hx hb dX11_farOf_92 ?_
        exact J93 l3_22 l4_45 (-l3_22) _ _ _ h hP hD hS (lv_sub hl [2, 1, 0] rfl)
      · have h := h.2 c83
        refine lv_iload hx hb dX11_farOf_86 (lv_at hl 0 rfl) ?_
        refine lv_goto (tgt := 93) hx hb dX11_farOf_88 (by decide) ?_
        exact J93 l3_22 l4_45 l4_45 _ _ _ h hP hD hS (lv_sub hl [2, 1, 0] rfl)
    · have h := h.2 c69
      refine lv_iload_n hx hb dX11_farOf_72 rfl (lv_at hl 1 rfl) ?_
      refine lv_goto (tgt := 93) hx hb dX11_farOf_73 (by decide) ?_
      exact J93 l3_22 l4_45 l3_22 _ _ _ h hP hD hS (lv_sub hl [2, 1, 0] rfl)
  · have h := h.2 c53
    refine lv_iload hx hb dX11_farOf_56 (lv_at hl 0 rfl) ?_
    refine lv_ineg hx hb dX11_farOf_58 ?_
    refine lv_goto (tgt := 93) hx hb dX11_farOf_59 (by decide) ?_
    exact J93 l3_22 l4_45 (-l4_45) _ _ _ h hP hD hS (lv_sub hl [2, 1, 0] rfl)
def wpX11_isHeard (M_told : AR) (M_place : AR) (M_range : AR) (x1 : Int32) (x2 : Int32) (post : Int32 → Prop) : Prop := wpX11_farOf M_told M_place x1 x2 (fun r3 => vp_in x1 10 ∧ ((((4 : Int32) * ((M_range x1.toNatClampNeg) + (M_told 6))) < r3 → post (0 : Int32)) ∧ (¬ ((4 : Int32) * ((M_range x1.toNatClampNeg) + (M_told 6))) < r3 → post (1 : Int32))))
set_option maxHeartbeats 4000000 in
set_option maxRecDepth 100000 in
theorem ctX11_isHeard (l : Launch) (D : va_G) (cy : Nat → ClassId) (ev : Nat → Nat) (h0 : Nat) (rM : Nat → Nat) (sM : AR) (M_told : AR) (M_place : AR) (M_range : AR) (x1 : Int32) (x2 : Int32) (sz : Nat) (post : Int32 → Prop) (h : wpX11_isHeard M_told M_place M_range x1 x2 post) : Met l yX11_isHeard (Cond.code yX11_isHeard cX11_isHeard 3 (some .boolean) :: TB) ({ frames := 2, cells := 0, slots := 0, locals := 85 }) (va_Pc [.ref h0, .int x1, .int x2] (PreX D cy ev [(h0, .inr (11, oX11 rM sM)), ((rM 3), .inl (cy 0, 14, .inl M_told)), ((rM 4), .inl (cy 0, 10, .inl M_place)), ((rM 5), .inl (cy 0, 10, .inl M_range))] sz)) (va_Qi (fun (r : Int32) (u : Unit) => post r) (fun u => BkX D cy [(h0, .inr (11, oX11 rM sM)), ((rM 3), .inl (cy 0, 14, .inl M_told)), ((rM 4), .inl (cy 0, 10, .inl M_place)), ((rM 5), .inl (cy 0, 10, .inl M_range))] sz [(h0, .inr (11, oX11 rM sM)), ((rM 3), .inl (cy 0, 14, .inl M_told)), ((rM 4), .inl (cy 0, 10, .inl M_place)), ((rM 5), .inl (cy 0, 10, .inl M_range))]) (va_A [(h0, .inr (11, oX11 rM sM)), ((rM 3), .inl (cy 0, 14, .inl M_told)), ((rM 4), .inl (cy 0, 10, .inl M_place)), ((rM 5), .inl (cy 0, 10, .inl M_range))] sz)) 0 0 (va_A [(h0, .inr (11, oX11 rM sM)), ((rM 3), .inl (cy 0, 14, .inl M_told)), ((rM 4), .inl (cy 0, 10, .inl M_place)), ((rM 5), .inl (cy 0, 10, .inl M_range))] sz) := by
  refine ofWi (by decide) (Nat.le_of_ble_eq_true rfl) ?_
  intro p e s m args below meth c ls A R QQ hx hb hml hown hts hR hlk hE hK hP hD hS hA hl hret
  have hown : s.vm.findClass RX11 = some m.cls := hown
  have hRf : 2 ≤ R.frames := by rw [hR]; exact Nat.le_refl _
  have hRl : 85 ≤ R.locals := by rw [hR]; exact Nat.le_refl _
  clear hR
  have hl : lv_has ls 3 [(0, .ref h0), (1, .int x1), (2, .int x2)] := hl
  refine lv_aload_n hx hb dX11_isHeard_0 rfl (lv_at hl 0 rfl) ?_
  refine lv_iload_n hx hb dX11_isHeard_1 rfl (lv_at hl 1 rfl) ?_
  refine lv_iload_n hx hb dX11_isHeard_2 rfl (lv_at hl 2 rfl) ?_
  refine clVi (As := [.int x1, .int x2]) (rest := []) (Wr := [((rM 5), .inl (cy 0, 10, .inl M_range))]) (cq := (RX11, TX11, 56)) ⟨hx, hb, hml, hown, hts⟩ ⟨callB_of 2 hts (goodC mw1492) rfl rfl rfl (hts _ (tb mw15)) (hts _ (tb mw1489)) kdX11_farOf ⟨Nat.le_trans (by decide) hRf, Nat.le_trans (by decide) hRl⟩, hts _ (tb mw1491), hts _ (tb ms62)⟩ (ctX11_farOf l D cy ev h0 rM sM M_told M_place x1 x2 _ _ h) hE hK hP hD hS hA [0, 1, 2] [3] rfl rfl (by decide) (by decide) (by decide) 0 rfl rfl rfl hl.1 rfl (Nat.le_of_ble_eq_true rfl) ⟨Nat.zero_le _, Nat.zero_le _⟩ dX11_isHeard_3 (fun r3 u H locs h hP hD hS => ?_)
  have hP : va_P D clsX [((rM 5), .inl (cy 0, 10, .inl M_range)), (h0, .inr (11, oX11 rM sM)), ((rM 3), .inl (cy 0, 14, .inl M_told)), ((rM 4), .inl (cy 0, 10, .inl M_place))] H := hP
  have hD : va_D A [((rM 5), .inl (cy 0, 10, .inl M_range)), (h0, .inr (11, oX11 rM sM)), ((rM 3), .inl (cy 0, 14, .inl M_told)), ((rM 4), .inl (cy 0, 10, .inl M_place))] := hD
  refine lv_iconst (v := (4 : Int32)) hx hb dX11_isHeard_6 (by decide) ?_
  refine lv_aload_n hx hb dX11_isHeard_7 rfl (lv_at hl 0 rfl) ?_
  refine gfX11_43 hx hb hts hown hK hP 1 rfl dX11_isHeard_8 ?_
  refine lv_iload_n hx hb dX11_isHeard_11 rfl (lv_at hl 1 rfl) ?_
  obtain ⟨hin, h⟩ := h
  refine ldi (k := x1.toNatClampNeg) hx hb hK hP 0 rfl hin rfl dX11_isHeard_12 ?_
  refine lv_aload_n hx hb dX11_isHeard_13 rfl (lv_at hl 0 rfl) ?_
  refine gfX11_36 hx hb hts hown hK hP 1 rfl dX11_isHeard_14 ?_
  refine lv_bipush (v := (6 : Int32)) hx hb dX11_isHeard_17 (by decide) ?_
  refine ldi (k := 6) hx hb hK hP 2 rfl (inL (by decide)) (by decide) dX11_isHeard_19 ?_
  refine lv_iadd hx hb dX11_isHeard_20 ?_
  refine lv_imul hx hb dX11_isHeard_21 ?_
  refine lv_icmp_gt (tgt := 29) hx hb dX11_isHeard_22 (by decide) (fun c22 => ?_) (fun c22 => ?_)
  · have h := h.1 c22
    refine lv_iconst (v := (0 : Int32)) hx hb dX11_isHeard_29 (by decide) ?_
    exact hret (0 : Int32) () _ _ _ _ rfl dX11_isHeard_30 h (hP.sub [1, 2, 3, 0] rfl) (hD.sub [1, 2, 3, 0] (by decide) rfl) hS
  · have h := h.2 c22
    refine lv_iconst (v := (1 : Int32)) hx hb dX11_isHeard_25 (by decide) ?_
    refine lv_goto (tgt := 30) hx hb dX11_isHeard_26 (by decide) ?_
    exact hret (1 : Int32) () _ _ _ _ rfl dX11_isHeard_30 h (hP.sub [1, 2, 3, 0] rfl) (hD.sub [1, 2, 3, 0] (by decide) rfl) hS
def wpX11_far_J30 (sM : AR) (M_told : AR) (M_place : AR) (post : Int32 → AR → Prop) : Prop := wpX11_fail sM (1 : Int32) (fun r32 sM_32 => post r32 sM_32)
def wpX11_far (sM : AR) (M_told : AR) (M_place : AR) (x1 : Int32) (x2 : Int32) (post : Int32 → AR → Prop) : Prop := wpX11_isTower M_told x1 (fun r7 => ((r7 = 0 → wpX11_far_J30 (upd sM 2 (0 : Int32)) M_told M_place post) ∧ (¬ r7 = 0 → wpX11_isCell M_told x2 (fun r15 => ((r15 = 0 → wpX11_far_J30 (upd sM 2 (0 : Int32)) M_told M_place post) ∧ (¬ r15 = 0 → wpX11_farOf M_told M_place x1 x2 (fun r24 => post r24 (upd sM 2 (0 : Int32)))))))))
set_option maxHeartbeats 4000000 in
set_option maxRecDepth 100000 in
theorem ctX11_far (l : Launch) (D : va_G) (cy : Nat → ClassId) (ev : Nat → Nat) (h0 : Nat) (rM : Nat → Nat) (sM : AR) (M_told : AR) (M_place : AR) (x1 : Int32) (x2 : Int32) (sz : Nat) (post : Int32 → AR → Prop) (h : wpX11_far sM M_told M_place x1 x2 post) : Met l yX11_far (Cond.code yX11_far cX11_far 3 (some .int) :: TB) ({ frames := 2, cells := 0, slots := 0, locals := 85 }) (va_Pc [.ref h0, .int x1, .int x2] (PreX D cy ev [(h0, .inr (11, oX11 rM sM)), ((rM 3), .inl (cy 0, 14, .inl M_told)), ((rM 4), .inl (cy 0, 10, .inl M_place))] sz)) (va_Qi (fun (r : Int32) (u : AR) => post r u) (fun u => BkX D cy [(h0, .inr (11, oX11 rM sM)), ((rM 3), .inl (cy 0, 14, .inl M_told)), ((rM 4), .inl (cy 0, 10, .inl M_place))] sz [(h0, .inr (11, oX11 rM u)), ((rM 3), .inl (cy 0, 14, .inl M_told)), ((rM 4), .inl (cy 0, 10, .inl M_place))]) (va_A [(h0, .inr (11, oX11 rM sM)), ((rM 3), .inl (cy 0, 14, .inl M_told)), ((rM 4), .inl (cy 0, 10, .inl M_place))] sz)) 0 0 (va_A [(h0, .inr (11, oX11 rM sM)), ((rM 3), .inl (cy 0, 14, .inl M_told)), ((rM 4), .inl (cy 0, 10, .inl M_place))] sz) := by
  refine ofWi (by decide) (Nat.le_of_ble_eq_true rfl) ?_
  intro p e s m args below meth c ls A R QQ hx hb hml hown hts hR hlk hE hK hP hD hS hA hl hret
  have hown : s.vm.findClass RX11 = some m.cls := hown
  have hRf : 2 ≤ R.frames := by rw [hR]; exact Nat.le_refl _
  have hRl : 85 ≤ R.locals := by rw [hR]; exact Nat.le_refl _
  clear hR
  have hl : lv_has ls 3 [(0, .ref h0), (1, .int x1), (2, .int x2)] := hl
  have J30 : ∀ (sM : AR) (H : Heap) (locs : List Loc) (ls : Array Slot), wpX11_far_J30 sM M_told M_place post → va_P D clsX [(h0, .inr (11, oX11 rM sM)), ((rM 3), .inl (cy 0, 14, .inl M_told)), ((rM 4), .inl (cy 0, 10, .inl M_place))] H → va_D A [(h0, .inr (11, oX11 rM sM)), ((rM 3), .inl (cy 0, 14, .inl M_told)), ((rM 4), .inl (cy 0, 10, .inl M_place))] → va_S A s.heap H locs → lv_has ls 3 [(0, .ref h0)] → W p l e R s m args below meth c H locs 0 0 QQ (F0 m 30 ls []) := by
    intro sM H locs ls h hP hD hS hl
    refine lv_aload_n hx hb dX11_far_30 rfl (lv_at hl 0 rfl) ?_
    refine lv_iconst (v := (1 : Int32)) hx hb dX11_far_31 (by decide) ?_
    refine clVi (As := [.int (1 : Int32)]) (rest := []) (Wr := [((rM 3), .inl (cy 0, 14, .inl M_told)), ((rM 4), .inl (cy 0, 10, .inl M_place))]) (cq := (RX11, TX11, 56)) ⟨hx, hb, hml, hown, hts⟩ ⟨callB_of 1 hts (goodC mw1373) rfl rfl rfl (hts _ (tb mw15)) (hts _ (tb mw1370)) kdX11_fail ⟨Nat.le_trans (by decide) hRf, Nat.le_trans (by decide) hRl⟩, hts _ (tb mw1372), hts _ (tb ms41)⟩ (ctX11_fail l D cy ev h0 rM sM (1 : Int32) _ _ h) hE hK hP hD hS hA [0] [1, 2] rfl rfl (by decide) (by decide) (by decide) 0 rfl rfl rfl hl.1 rfl (Nat.le_of_ble_eq_true rfl) ⟨Nat.zero_le _, Nat.zero_le _⟩ dX11_far_32 (fun r32 sM_32 H locs h hP hD hS => ?_)
    have hP : va_P D clsX [((rM 3), .inl (cy 0, 14, .inl M_told)), ((rM 4), .inl (cy 0, 10, .inl M_place)), (h0, .inr (11, oX11 rM sM_32))] H := hP
    have hD : va_D A [((rM 3), .inl (cy 0, 14, .inl M_told)), ((rM 4), .inl (cy 0, 10, .inl M_place)), (h0, .inr (11, oX11 rM sM_32))] := hD
    exact hret r32 (sM_32) _ _ _ _ rfl dX11_far_35 h (hP.sub [2, 0, 1] rfl) (hD.sub [2, 0, 1] (by decide) rfl) hS
  refine lv_aload_n hx hb dX11_far_0 rfl (lv_at hl 0 rfl) ?_
  refine lv_iconst (v := (0 : Int32)) hx hb dX11_far_1 (by decide) ?_
  refine pfX11_132 hx hb hts hown hK hP hD hS 0 rfl dX11_far_2 (fun H locs hP hD hS => ?_)
  have hP : va_P D clsX [(h0, .inr (11, oX11 rM (upd sM 2 (0 : Int32)))), ((rM 3), .inl (cy 0, 14, .inl M_told)), ((rM 4), .inl (cy 0, 10, .inl M_place))] H := hP
  have hD : va_D A [(h0, .inr (11, oX11 rM (upd sM 2 (0 : Int32)))), ((rM 3), .inl (cy 0, 14, .inl M_told)), ((rM 4), .inl (cy 0, 10, .inl M_place))] := hD
  refine lv_aload_n hx hb dX11_far_5 rfl (lv_at hl 0 rfl) ?_
  refine lv_iload_n hx hb dX11_far_6 rfl (lv_at hl 1 rfl) ?_
  refine clVi (As := [.int x1]) (rest := []) (Wr := [((rM 4), .inl (cy 0, 10, .inl M_place))]) (cq := (RX11, TX11, 56)) ⟨hx, hb, hml, hown, hts⟩ ⟨callB_of 1 hts (goodC mw1468) rfl rfl rfl (hts _ (tb mw15)) (hts _ (tb mw1465)) kdX11_isTower ⟨Nat.le_trans (by decide) hRf, Nat.le_trans (by decide) hRl⟩, hts _ (tb mw1467), hts _ (tb ms58)⟩ (ctX11_isTower l D cy ev h0 rM (upd sM 2 (0 : Int32)) M_told x1 _ _ h) hE hK hP hD hS hA [0, 1] [2] rfl rfl (by decide) (by decide) (by decide) 0 rfl rfl rfl hl.1 rfl (Nat.le_of_ble_eq_true rfl) ⟨Nat.zero_le _, Nat.zero_le _⟩ dX11_far_7 (fun r7 u H locs h hP hD hS => ?_)
  have hP : va_P D clsX [((rM 4), .inl (cy 0, 10, .inl M_place)), (h0, .inr (11, oX11 rM (upd sM 2 (0 : Int32)))), ((rM 3), .inl (cy 0, 14, .inl M_told))] H := hP
  have hD : va_D A [((rM 4), .inl (cy 0, 10, .inl M_place)), (h0, .inr (11, oX11 rM (upd sM 2 (0 : Int32)))), ((rM 3), .inl (cy 0, 14, .inl M_told))] := hD
  refine lv_if_eq (tgt := 30) hx hb dX11_far_10 (by decide) (fun c10 => ?_) (fun c10 => ?_)
  · have h := h.1 c10
    exact J30 (upd sM 2 (0 : Int32)) _ _ _ h (hP.sub [1, 2, 0] rfl) (hD.sub [1, 2, 0] (by decide) rfl) hS (lv_sub hl [0] rfl)
  · have h := h.2 c10
    refine lv_aload_n hx hb dX11_far_13 rfl (lv_at hl 0 rfl) ?_
    refine lv_iload_n hx hb dX11_far_14 rfl (lv_at hl 2 rfl) ?_
    refine clVi (As := [.int x2]) (rest := []) (Wr := [((rM 4), .inl (cy 0, 10, .inl M_place))]) (cq := (RX11, TX11, 56)) ⟨hx, hb, hml, hown, hts⟩ ⟨callB_of 1 hts (goodC mw1484) rfl rfl rfl (hts _ (tb mw15)) (hts _ (tb mw1481)) kdX11_isCell ⟨Nat.le_trans (by decide) hRf, Nat.le_trans (by decide) hRl⟩, hts _ (tb mw1483), hts _ (tb ms60)⟩ (ctX11_isCell l D cy ev h0 rM (upd sM 2 (0 : Int32)) M_told x2 _ _ h) hE hK hP hD hS hA [1, 2] [0] rfl rfl (by decide) (by decide) (by decide) 0 rfl rfl rfl hl.1 rfl (Nat.le_of_ble_eq_true rfl) ⟨Nat.zero_le _, Nat.zero_le _⟩ dX11_far_15 (fun r15 u H locs h hP hD hS => ?_)
    have hP : va_P D clsX [((rM 4), .inl (cy 0, 10, .inl M_place)), (h0, .inr (11, oX11 rM (upd sM 2 (0 : Int32)))), ((rM 3), .inl (cy 0, 14, .inl M_told))] H := hP
    have hD : va_D A [((rM 4), .inl (cy 0, 10, .inl M_place)), (h0, .inr (11, oX11 rM (upd sM 2 (0 : Int32)))), ((rM 3), .inl (cy 0, 14, .inl M_told))] := hD
    refine lv_if_eq (tgt := 30) hx hb dX11_far_18 (by decide) (fun c18 => ?_) (fun c18 => ?_)
    · have h := h.1 c18
      exact J30 (upd sM 2 (0 : Int32)) _ _ _ h (hP.sub [1, 2, 0] rfl) (hD.sub [1, 2, 0] (by decide) rfl) hS (lv_sub hl [0] rfl)
    · have h := h.2 c18
      refine lv_aload_n hx hb dX11_far_21 rfl (lv_at hl 0 rfl) ?_
      refine lv_iload_n hx hb dX11_far_22 rfl (lv_at hl 1 rfl) ?_
      refine lv_iload_n hx hb dX11_far_23 rfl (lv_at hl 2 rfl) ?_
      refine clVi (As := [.int x1, .int x2]) (rest := []) (Wr := []) (cq := (RX11, TX11, 56)) ⟨hx, hb, hml, hown, hts⟩ ⟨callB_of 2 hts (goodC mw1492) rfl rfl rfl (hts _ (tb mw15)) (hts _ (tb mw1489)) kdX11_farOf ⟨Nat.le_trans (by decide) hRf, Nat.le_trans (by decide) hRl⟩, hts _ (tb mw1491), hts _ (tb ms62)⟩ (ctX11_farOf l D cy ev h0 rM (upd sM 2 (0 : Int32)) M_told M_place x1 x2 _ _ h) hE hK hP hD hS hA [1, 2, 0] [] rfl rfl (by decide) (by decide) (by decide) 0 rfl rfl rfl hl.1 rfl (Nat.le_of_ble_eq_true rfl) ⟨Nat.zero_le _, Nat.zero_le _⟩ dX11_far_24 (fun r24 u H locs h hP hD hS => ?_)
      have hP : va_P D clsX [(h0, .inr (11, oX11 rM (upd sM 2 (0 : Int32)))), ((rM 3), .inl (cy 0, 14, .inl M_told)), ((rM 4), .inl (cy 0, 10, .inl M_place))] H := hP
      have hD : va_D A [(h0, .inr (11, oX11 rM (upd sM 2 (0 : Int32)))), ((rM 3), .inl (cy 0, 14, .inl M_told)), ((rM 4), .inl (cy 0, 10, .inl M_place))] := hD
      refine lv_goto (tgt := 35) hx hb dX11_far_27 (by decide) ?_
      exact hret r24 ((upd sM 2 (0 : Int32))) _ _ _ _ rfl dX11_far_35 h hP hD hS
def wpX11_heardOf_J45 (M_told : AR) (M_place : AR) (M_range : AR) (l1 : Int32) (l2 : Int32) (l4 : Int32) (t0 : Int32) (t1 : Int32) (kb : Int32 → Int32 → Prop) (kx53 : Int32 → Int32 → Prop) (post : Int32 → Prop) : Prop := ∀ l3_46 : Int32, l3_46 = (t0 ||| t1) → ∀ l4_47 : Int32, l4_47 = (l4 + (1 : Int32)) → kb l3_46 l4_47
def wpX11_heardOf_L5 (M_told : AR) (M_place : AR) (M_range : AR) (l1 : Int32) (l2 : Int32) (kx53 : Int32 → Int32 → Prop) (post : Int32 → Prop) : Nat → Int32 → Int32 → Prop
  | 0, _, _ => False
  | nf5 + 1, l3, l4 => (((M_told 2) ≤ l4 → kx53 l3 l4) ∧ (¬ (M_told 2) ≤ l4 → ((¬ ((jshr l1 l4) &&& (1 : Int32)) = (1 : Int32) → wpX11_heardOf_J45 M_told M_place M_range l1 l2 l4 l3 (0 : Int32) (fun b0 b1 => wpX11_heardOf_L5 M_told M_place M_range l1 l2 kx53 post nf5 b0 b1) kx53 post) ∧ (((jshr l1 l4) &&& (1 : Int32)) = (1 : Int32) → wpX11_isHeard M_told M_place M_range l4 l2 (fun r31 => ((r31 = 0 → wpX11_heardOf_J45 M_told M_place M_range l1 l2 l4 l3 (0 : Int32) (fun b0 b1 => wpX11_heardOf_L5 M_told M_place M_range l1 l2 kx53 post nf5 b0 b1) kx53 post) ∧ (¬ r31 = 0 → wpX11_heardOf_J45 M_told M_place M_range l1 l2 l4 l3 (jshl (1 : Int32) l4) (fun b0 b1 => wpX11_heardOf_L5 M_told M_place M_range l1 l2 kx53 post nf5 b0 b1) kx53 post)))))))
def wpX11_heardOf (M_told : AR) (M_place : AR) (M_range : AR) (x1 : Int32) (x2 : Int32) (post : Int32 → Prop) : Prop := ∃ nf5 : Nat, wpX11_heardOf_L5 M_told M_place M_range x1 x2 (fun l3_53 l4_53 => post l3_53) post nf5 (0 : Int32) (0 : Int32)
set_option maxHeartbeats 4000000 in
set_option maxRecDepth 100000 in
theorem ctX11_heardOf (l : Launch) (D : va_G) (cy : Nat → ClassId) (ev : Nat → Nat) (h0 : Nat) (rM : Nat → Nat) (sM : AR) (M_told : AR) (M_place : AR) (M_range : AR) (x1 : Int32) (x2 : Int32) (sz : Nat) (post : Int32 → Prop) (h : wpX11_heardOf M_told M_place M_range x1 x2 post) : Met l yX11_heardOf (Cond.code yX11_heardOf cX11_heardOf 5 (some .int) :: TB) ({ frames := 3, cells := 0, slots := 0, locals := 107 }) (va_Pc [.ref h0, .int x1, .int x2] (PreX D cy ev [(h0, .inr (11, oX11 rM sM)), ((rM 3), .inl (cy 0, 14, .inl M_told)), ((rM 4), .inl (cy 0, 10, .inl M_place)), ((rM 5), .inl (cy 0, 10, .inl M_range))] sz)) (va_Qi (fun (r : Int32) (u : Unit) => post r) (fun u => BkX D cy [(h0, .inr (11, oX11 rM sM)), ((rM 3), .inl (cy 0, 14, .inl M_told)), ((rM 4), .inl (cy 0, 10, .inl M_place)), ((rM 5), .inl (cy 0, 10, .inl M_range))] sz [(h0, .inr (11, oX11 rM sM)), ((rM 3), .inl (cy 0, 14, .inl M_told)), ((rM 4), .inl (cy 0, 10, .inl M_place)), ((rM 5), .inl (cy 0, 10, .inl M_range))]) (va_A [(h0, .inr (11, oX11 rM sM)), ((rM 3), .inl (cy 0, 14, .inl M_told)), ((rM 4), .inl (cy 0, 10, .inl M_place)), ((rM 5), .inl (cy 0, 10, .inl M_range))] sz)) 0 0 (va_A [(h0, .inr (11, oX11 rM sM)), ((rM 3), .inl (cy 0, 14, .inl M_told)), ((rM 4), .inl (cy 0, 10, .inl M_place)), ((rM 5), .inl (cy 0, 10, .inl M_range))] sz) := by
  refine ofWi (by decide) (Nat.le_of_ble_eq_true rfl) ?_
  intro p e s m args below meth c ls A R QQ hx hb hml hown hts hR hlk hE hK hP hD hS hA hl hret
  have hown : s.vm.findClass RX11 = some m.cls := hown
  have hRf : 3 ≤ R.frames := by rw [hR]; exact Nat.le_refl _
  have hRl : 107 ≤ R.locals := by rw [hR]; exact Nat.le_refl _
  clear hR
  have hl : lv_has ls 5 [(0, .ref h0), (1, .int x1), (2, .int x2)] := hl
  have L5 : ∀ (l1 : Int32) (l2 : Int32) (kx53 : Int32 → Int32 → Prop), (∀ (l3 : Int32) (l4 : Int32) (H : Heap) (locs : List Loc) (ls : Array Slot), kx53 l3 l4 → va_P D clsX [(h0, .inr (11, oX11 rM sM)), ((rM 3), .inl (cy 0, 14, .inl M_told)), ((rM 4), .inl (cy 0, 10, .inl M_place)), ((rM 5), .inl (cy 0, 10, .inl M_range))] H → va_D A [(h0, .inr (11, oX11 rM sM)), ((rM 3), .inl (cy 0, 14, .inl M_told)), ((rM 4), .inl (cy 0, 10, .inl M_place)), ((rM 5), .inl (cy 0, 10, .inl M_range))] → va_S A s.heap H locs → lv_has ls 5 [(0, .ref h0), (3, .int l3)] → W p l e R s m args below meth c H locs 0 0 QQ (F0 m 53 ls [])) → ∀ (nf5 : Nat) (l3 : Int32) (l4 : Int32) (H : Heap) (locs : List Loc) (ls : Array Slot), wpX11_heardOf_L5 M_told M_place M_range l1 l2 kx53 post nf5 l3 l4 → va_P D clsX [(h0, .inr (11, oX11 rM sM)), ((rM 3), .inl (cy 0, 14, .inl M_told)), ((rM 4), .inl (cy 0, 10, .inl M_place)), ((rM 5), .inl (cy 0, 10, .inl M_range))] H → va_D A [(h0, .inr (11, oX11 rM sM)), ((rM 3), .inl (cy 0, 14, .inl M_told)), ((rM 4), .inl (cy 0, 10, .inl M_place)), ((rM 5), .inl (cy 0, 10, .inl M_range))] → va_S A s.heap H locs → lv_has ls 5 [(0, .ref h0), (1, .int l1), (2, .int l2), (3, .int l3), (4, .int l4)] → W p l e R s m args below meth c H locs 0 0 QQ (F0 m 5 ls []) := by
    intro l1 l2 kx53 hk5_53 nf5
    induction nf5 with
    | zero =>
      intro l3 l4 H locs ls h
      exact (show False from h).elim
    | succ nf5 ih5 =>
      intro l3 l4 H locs ls h hP hD hS hl
      have J45 : ∀ (l4 : Int32) (t0 : Int32) (t1 : Int32) (H : Heap) (locs : List Loc) (ls : Array Slot), wpX11_heardOf_J45 M_told M_place M_range l1 l2 l4 t0 t1 (fun b0 b1 => wpX11_heardOf_L5 M_told M_place M_range l1 l2 kx53 post nf5 b0 b1) kx53 post → va_P D clsX [(h0, .inr (11, oX11 rM sM)), ((rM 3), .inl (cy 0, 14, .inl M_told)), ((rM 4), .inl (cy 0, 10, .inl M_place)), ((rM 5), .inl (cy 0, 10, .inl M_range))] H → va_D A [(h0, .inr (11, oX11 rM sM)), ((rM 3), .inl (cy 0, 14, .inl M_told)), ((rM 4), .inl (cy 0, 10, .inl M_place)), ((rM 5), .inl (cy 0, 10, .inl M_range))] → va_S A s.heap H locs → lv_has ls 5 [(0, .ref h0), (1, .int l1), (2, .int l2), (4, .int l4)] → W p l e R s m args below meth c H locs 0 0 QQ (F0 m 45 ls [.int t1, .int t0]) := by
        intro l4 t0 t1 H locs ls h hP hD hS hl
        refine lv_ior hx hb dX11_heardOf_45 ?_
        refine lv_topi (fun l3_46 el3_46 => ?_)
        have h := h l3_46 el3_46
        refine lv_istore_n (lv' := [(3, .int l3_46), (0, .ref h0), (1, .int l1), (2, .int l2), (4, .int l4)]) hx hb dX11_heardOf_46 rfl hl (by decide) rfl (fun ls hl => ?_)
        obtain ⟨l4_47, el4_47⟩ : ∃ y : Int32, y = l4 + (1 : Int32) := ⟨_, rfl⟩
        have h := h l4_47 el4_47
        refine lv_iinc (v := l4_47) (lv' := [(4, .int l4_47), (3, .int l3_46), (0, .ref h0), (1, .int l1), (2, .int l2)]) hx hb dX11_heardOf_47 hl (k := 4) rfl (by rw [el4_47]; rfl) (by decide) rfl (fun ls hl => ?_)
        refine lv_goto (tgt := 5) hx hb dX11_heardOf_50 (by decide) ?_
        exact ih5 l3_46 l4_47 _ _ _ h hP hD hS (lv_sub hl [2, 3, 4, 1, 0] rfl)
      refine lv_iload hx hb dX11_heardOf_5 (lv_at hl 4 rfl) ?_
      refine lv_aload_n hx hb dX11_heardOf_7 rfl (lv_at hl 0 rfl) ?_
      refine gfX11_36 hx hb hts hown hK hP 0 rfl dX11_heardOf_8 ?_
      refine lv_iconst (v := (2 : Int32)) hx hb dX11_heardOf_11 (by decide) ?_
      refine ldi (k := 2) hx hb hK hP 1 rfl (inL (by decide)) (by decide) dX11_heardOf_12 ?_
      refine lv_icmp_ge (tgt := 53) hx hb dX11_heardOf_13 (by decide) (fun c13 => ?_) (fun c13 => ?_)
      · have h := h.1 c13
        exact hk5_53 l3 l4 _ _ _ h hP hD hS (lv_sub hl [0, 3] rfl)
      · have h := h.2 c13
        refine lv_iload_n hx hb dX11_heardOf_16 rfl (lv_at hl 3 rfl) ?_
        refine lv_iload_n hx hb dX11_heardOf_17 rfl (lv_at hl 1 rfl) ?_
        refine lv_iload hx hb dX11_heardOf_18 (lv_at hl 4 rfl) ?_
        refine lv_ishr hx hb dX11_heardOf_20 ?_
        refine lv_iconst (v := (1 : Int32)) hx hb dX11_heardOf_21 (by decide) ?_
        refine lv_iand hx hb dX11_heardOf_22 ?_
        refine lv_iconst (v := (1 : Int32)) hx hb dX11_heardOf_23 (by decide) ?_
        refine lv_icmp_ne (tgt := 44) hx hb dX11_heardOf_24 (by decide) (fun c24 => ?_) (fun c24 => ?_)
        · have h := h.1 c24
          refine lv_iconst (v := (0 : Int32)) hx hb dX11_heardOf_44 (by decide) ?_
          exact J45 l4 l3 (0 : Int32) _ _ _ h hP hD hS (lv_sub hl [0, 1, 2, 4] rfl)
        · have h := h.2 c24
          refine lv_aload_n hx hb dX11_heardOf_27 rfl (lv_at hl 0 rfl) ?_
          refine lv_iload hx hb dX11_heardOf_28 (lv_at hl 4 rfl) ?_
          refine lv_iload_n hx hb dX11_heardOf_30 rfl (lv_at hl 2 rfl) ?_
          refine clVi (As := [.int l4, .int l2]) (rest := [.int l3]) (Wr := []) (cq := (RX11, TX11, 56)) ⟨hx, hb, hml, hown, hts⟩ ⟨callB_of 2 hts (goodC mw1505) rfl rfl rfl (hts _ (tb mw15)) (hts _ (tb mw1502)) kdX11_isHeard ⟨Nat.le_trans (by decide) hRf, Nat.le_trans (by decide) hRl⟩, hts _ (tb mw1504), hts _ (tb ms64)⟩ (ctX11_isHeard l D cy ev h0 rM sM M_told M_place M_range l4 l2 _ _ h) hE hK hP hD hS hA [0, 1, 2, 3] [] rfl rfl (by decide) (by decide) (by decide) 0 rfl rfl rfl hl.1 rfl (Nat.le_of_ble_eq_true rfl) ⟨Nat.zero_le _, Nat.zero_le _⟩ dX11_heardOf_31 (fun r31 u H locs h hP hD hS => ?_)
          have hP : va_P D clsX [(h0, .inr (11, oX11 rM sM)), ((rM 3), .inl (cy 0, 14, .inl M_told)), ((rM 4), .inl (cy 0, 10, .inl M_place)), ((rM 5), .inl (cy 0, 10, .inl M_range))] H := hP
          have hD : va_D A [(h0, .inr (11, oX11 rM sM)), ((rM 3), .inl (cy 0, 14, .inl M_told)), ((rM 4), .inl (cy 0, 10, .inl M_place)), ((rM 5), .inl (cy 0, 10, .inl M_range))] := hD
          refine lv_if_eq (tgt := 44) hx hb dX11_heardOf_34 (by decide) (fun c34 => ?_) (fun c34 => ?_)
          · have h := h.1 c34
            refine lv_iconst (v := (0 : Int32)) hx hb dX11_heardOf_44 (by decide) ?_
            exact J45 l4 l3 (0 : Int32) _ _ _ h hP hD hS (lv_sub hl [0, 1, 2, 4] rfl)
          · have h := h.2 c34
            refine lv_iconst (v := (1 : Int32)) hx hb dX11_heardOf_37 (by decide) ?_
            refine lv_iload hx hb dX11_heardOf_38 (lv_at hl 4 rfl) ?_
            refine lv_ishl hx hb dX11_heardOf_40 ?_
            refine lv_goto (tgt := 45) hx hb dX11_heardOf_41 (by decide) ?_
            exact J45 l4 l3 (jshl (1 : Int32) l4) _ _ _ h hP hD hS (lv_sub hl [0, 1, 2, 4] rfl)
  refine lv_iconst (v := (0 : Int32)) hx hb dX11_heardOf_0 (by decide) ?_
  refine lv_istore_n (lv' := [(3, .int (0 : Int32)), (0, .ref h0), (1, .int x1), (2, .int x2)]) hx hb dX11_heardOf_1 rfl hl (by decide) rfl (fun ls hl => ?_)
  refine lv_iconst (v := (0 : Int32)) hx hb dX11_heardOf_2 (by decide) ?_
  refine lv_istore (lv' := [(4, .int (0 : Int32)), (3, .int (0 : Int32)), (0, .ref h0), (1, .int x1), (2, .int x2)]) hx hb dX11_heardOf_3 hl (by decide) rfl (fun ls hl => ?_)
  obtain ⟨nf5, h⟩ := h
  refine L5 x1 x2 _ (fun l3_53 l4_53 H locs ls h hP hD hS hl => ?_) nf5 (0 : Int32) (0 : Int32) _ _ _ h hP hD hS (lv_sub hl [2, 3, 4, 1, 0] rfl)
  refine lv_iload_n hx hb dX11_heardOf_53 rfl (lv_at hl 1 rfl) ?_
  exact hret l3_53 () _ _ _ _ rfl dX11_heardOf_54 h hP hD hS
def wpX11_heard (sM : AR) (M_told : AR) (M_place : AR) (M_range : AR) (x1 : Int32) (post : Int32 → AR → Prop) : Prop := wpX11_isCell M_told x1 (fun r7 => ((r7 = 0 → wpX11_fail (upd sM 2 (0 : Int32)) (1 : Int32) (fun r33 sM_33 => post r33 sM_33)) ∧ (¬ r7 = 0 → wpX11_heardOf M_told M_place M_range ((jshl (1 : Int32) (M_told 2)) - (1 : Int32)) x1 (fun r25 => post r25 (upd sM 2 (0 : Int32))))))
set_option maxHeartbeats 4000000 in
set_option maxRecDepth 100000 in
theorem ctX11_heard (l : Launch) (D : va_G) (cy : Nat → ClassId) (ev : Nat → Nat) (h0 : Nat) (rM : Nat → Nat) (sM : AR) (M_told : AR) (M_place : AR) (M_range : AR) (x1 : Int32) (sz : Nat) (post : Int32 → AR → Prop) (h : wpX11_heard sM M_told M_place M_range x1 post) : Met l yX11_heard (Cond.code yX11_heard cX11_heard 2 (some .int) :: TB) ({ frames := 4, cells := 0, slots := 0, locals := 131 }) (va_Pc [.ref h0, .int x1] (PreX D cy ev [(h0, .inr (11, oX11 rM sM)), ((rM 3), .inl (cy 0, 14, .inl M_told)), ((rM 4), .inl (cy 0, 10, .inl M_place)), ((rM 5), .inl (cy 0, 10, .inl M_range))] sz)) (va_Qi (fun (r : Int32) (u : AR) => post r u) (fun u => BkX D cy [(h0, .inr (11, oX11 rM sM)), ((rM 3), .inl (cy 0, 14, .inl M_told)), ((rM 4), .inl (cy 0, 10, .inl M_place)), ((rM 5), .inl (cy 0, 10, .inl M_range))] sz [(h0, .inr (11, oX11 rM u)), ((rM 3), .inl (cy 0, 14, .inl M_told)), ((rM 4), .inl (cy 0, 10, .inl M_place)), ((rM 5), .inl (cy 0, 10, .inl M_range))]) (va_A [(h0, .inr (11, oX11 rM sM)), ((rM 3), .inl (cy 0, 14, .inl M_told)), ((rM 4), .inl (cy 0, 10, .inl M_place)), ((rM 5), .inl (cy 0, 10, .inl M_range))] sz)) 0 0 (va_A [(h0, .inr (11, oX11 rM sM)), ((rM 3), .inl (cy 0, 14, .inl M_told)), ((rM 4), .inl (cy 0, 10, .inl M_place)), ((rM 5), .inl (cy 0, 10, .inl M_range))] sz) := by
  refine ofWi (by decide) (Nat.le_of_ble_eq_true rfl) ?_
  intro p e s m args below meth c ls A R QQ hx hb hml hown hts hR hlk hE hK hP hD hS hA hl hret
  have hown : s.vm.findClass RX11 = some m.cls := hown
  have hRf : 4 ≤ R.frames := by rw [hR]; exact Nat.le_refl _
  have hRl : 131 ≤ R.locals := by rw [hR]; exact Nat.le_refl _
  clear hR
  have hl : lv_has ls 2 [(0, .ref h0), (1, .int x1)] := hl
  refine lv_aload_n hx hb dX11_heard_0 rfl (lv_at hl 0 rfl) ?_
  refine lv_iconst (v := (0 : Int32)) hx hb dX11_heard_1 (by decide) ?_
  refine pfX11_132 hx hb hts hown hK hP hD hS 0 rfl dX11_heard_2 (fun H locs hP hD hS => ?_)
  have hP : va_P D clsX [(h0, .inr (11, oX11 rM (upd sM 2 (0 : Int32)))), ((rM 3), .inl (cy 0, 14, .inl M_told)), ((rM 4), .inl (cy 0, 10, .inl M_place)), ((rM 5), .inl (cy 0, 10, .inl M_range))] H := hP
  have hD : va_D A [(h0, .inr (11, oX11 rM (upd sM 2 (0 : Int32)))), ((rM 3), .inl (cy 0, 14, .inl M_told)), ((rM 4), .inl (cy 0, 10, .inl M_place)), ((rM 5), .inl (cy 0, 10, .inl M_range))] := hD
  refine lv_aload_n hx hb dX11_heard_5 rfl (lv_at hl 0 rfl) ?_
  refine lv_iload_n hx hb dX11_heard_6 rfl (lv_at hl 1 rfl) ?_
  refine clVi (As := [.int x1]) (rest := []) (Wr := [((rM 4), .inl (cy 0, 10, .inl M_place)), ((rM 5), .inl (cy 0, 10, .inl M_range))]) (cq := (RX11, TX11, 56)) ⟨hx, hb, hml, hown, hts⟩ ⟨callB_of 1 hts (goodC mw1484) rfl rfl rfl (hts _ (tb mw15)) (hts _ (tb mw1481)) kdX11_isCell ⟨Nat.le_trans (by decide) hRf, Nat.le_trans (by decide) hRl⟩, hts _ (tb mw1483), hts _ (tb ms60)⟩ (ctX11_isCell l D cy ev h0 rM (upd sM 2 (0 : Int32)) M_told x1 _ _ h) hE hK hP hD hS hA [0, 1] [2, 3] rfl rfl (by decide) (by decide) (by decide) 0 rfl rfl rfl hl.1 rfl (Nat.le_of_ble_eq_true rfl) ⟨Nat.zero_le _, Nat.zero_le _⟩ dX11_heard_7 (fun r7 u H locs h hP hD hS => ?_)
  have hP : va_P D clsX [((rM 4), .inl (cy 0, 10, .inl M_place)), ((rM 5), .inl (cy 0, 10, .inl M_range)), (h0, .inr (11, oX11 rM (upd sM 2 (0 : Int32)))), ((rM 3), .inl (cy 0, 14, .inl M_told))] H := hP
  have hD : va_D A [((rM 4), .inl (cy 0, 10, .inl M_place)), ((rM 5), .inl (cy 0, 10, .inl M_range)), (h0, .inr (11, oX11 rM (upd sM 2 (0 : Int32)))), ((rM 3), .inl (cy 0, 14, .inl M_told))] := hD
  refine lv_if_eq (tgt := 31) hx hb dX11_heard_10 (by decide) (fun c10 => ?_) (fun c10 => ?_)
  · have h := h.1 c10
    refine lv_aload_n hx hb dX11_heard_31 rfl (lv_at hl 0 rfl) ?_
    refine lv_iconst (v := (1 : Int32)) hx hb dX11_heard_32 (by decide) ?_
    refine clVi (As := [.int (1 : Int32)]) (rest := []) (Wr := [((rM 4), .inl (cy 0, 10, .inl M_place)), ((rM 5), .inl (cy 0, 10, .inl M_range)), ((rM 3), .inl (cy 0, 14, .inl M_told))]) (cq := (RX11, TX11, 56)) ⟨hx, hb, hml, hown, hts⟩ ⟨callB_of 1 hts (goodC mw1373) rfl rfl rfl (hts _ (tb mw15)) (hts _ (tb mw1370)) kdX11_fail ⟨Nat.le_trans (by decide) hRf, Nat.le_trans (by decide) hRl⟩, hts _ (tb mw1372), hts _ (tb ms41)⟩ (ctX11_fail l D cy ev h0 rM (upd sM 2 (0 : Int32)) (1 : Int32) _ _ h) hE hK hP hD hS hA [2] [0, 1, 3] rfl rfl (by decide) (by decide) (by decide) 0 rfl rfl rfl hl.1 rfl (Nat.le_of_ble_eq_true rfl) ⟨Nat.zero_le _, Nat.zero_le _⟩ dX11_heard_33 (fun r33 sM_33 H locs h hP hD hS => ?_)
    have hP : va_P D clsX [((rM 4), .inl (cy 0, 10, .inl M_place)), ((rM 5), .inl (cy 0, 10, .inl M_range)), ((rM 3), .inl (cy 0, 14, .inl M_told)), (h0, .inr (11, oX11 rM sM_33))] H := hP
    have hD : va_D A [((rM 4), .inl (cy 0, 10, .inl M_place)), ((rM 5), .inl (cy 0, 10, .inl M_range)), ((rM 3), .inl (cy 0, 14, .inl M_told)), (h0, .inr (11, oX11 rM sM_33))] := hD
    exact hret r33 (sM_33) _ _ _ _ rfl dX11_heard_36 h (hP.sub [3, 2, 0, 1] rfl) (hD.sub [3, 2, 0, 1] (by decide) rfl) hS
  · have h := h.2 c10
    refine lv_aload_n hx hb dX11_heard_13 rfl (lv_at hl 0 rfl) ?_
    refine lv_iconst (v := (1 : Int32)) hx hb dX11_heard_14 (by decide) ?_
    refine lv_aload_n hx hb dX11_heard_15 rfl (lv_at hl 0 rfl) ?_
    refine gfX11_36 hx hb hts hown hK hP 2 rfl dX11_heard_16 ?_
    refine lv_iconst (v := (2 : Int32)) hx hb dX11_heard_19 (by decide) ?_
    refine ldi (k := 2) hx hb hK hP 3 rfl (inL (by decide)) (by decide) dX11_heard_20 ?_
    refine lv_ishl hx hb dX11_heard_21 ?_
    refine lv_iconst (v := (1 : Int32)) hx hb dX11_heard_22 (by decide) ?_
    refine lv_isub hx hb dX11_heard_23 ?_
    refine lv_iload_n hx hb dX11_heard_24 rfl (lv_at hl 1 rfl) ?_
    refine clVi (As := [.int ((jshl (1 : Int32) (M_told 2)) - (1 : Int32)), .int x1]) (rest := []) (Wr := []) (cq := (RX11, TX11, 56)) ⟨hx, hb, hml, hown, hts⟩ ⟨callB_of 2 hts (goodC mw1501) rfl rfl rfl (hts _ (tb mw15)) (hts _ (tb mw1498)) kdX11_heardOf ⟨Nat.le_trans (by decide) hRf, Nat.le_trans (by decide) hRl⟩, hts _ (tb mw1500), hts _ (tb ms63)⟩ (ctX11_heardOf l D cy ev h0 rM (upd sM 2 (0 : Int32)) M_told M_place M_range ((jshl (1 : Int32) (M_told 2)) - (1 : Int32)) x1 _ _ h) hE hK hP hD hS hA [2, 3, 0, 1] [] rfl rfl (by decide) (by decide) (by decide) 0 rfl rfl rfl hl.1 rfl (Nat.le_of_ble_eq_true rfl) ⟨Nat.zero_le _, Nat.zero_le _⟩ dX11_heard_25 (fun r25 u H locs h hP hD hS => ?_)
    have hP : va_P D clsX [(h0, .inr (11, oX11 rM (upd sM 2 (0 : Int32)))), ((rM 3), .inl (cy 0, 14, .inl M_told)), ((rM 4), .inl (cy 0, 10, .inl M_place)), ((rM 5), .inl (cy 0, 10, .inl M_range))] H := hP
    have hD : va_D A [(h0, .inr (11, oX11 rM (upd sM 2 (0 : Int32)))), ((rM 3), .inl (cy 0, 14, .inl M_told)), ((rM 4), .inl (cy 0, 10, .inl M_place)), ((rM 5), .inl (cy 0, 10, .inl M_range))] := hD
    refine lv_goto (tgt := 36) hx hb dX11_heard_28 (by decide) ?_
    exact hret r25 ((upd sM 2 (0 : Int32))) _ _ _ _ rfl dX11_heard_36 h hP hD hS
def wpX11_nearest_J43 (M_told : AR) (M_place : AR) (M_voice : AR) (l1 : Int32) (l2 : Int32) (l3 : Int32) (l4 : Int32) (l5 : Int32) (kb : Int32 → Int32 → Prop) (kx76 : Int32 → Int32 → Prop) (post : Int32 → Prop) : Prop := ((l4 = (-1 : Int32) → ∀ l5_70 : Int32, l5_70 = (l5 + (1 : Int32)) → kb l5 l5_70) ∧ (¬ l4 = (-1 : Int32) → wpX11_farOf M_told M_place l5 l2 (fun r53 => wpX11_farOf M_told M_place l4 l2 (fun r60 => ((r60 ≤ r53 → ∀ l5_70 : Int32, l5_70 = (l5 + (1 : Int32)) → kb l4 l5_70) ∧ (¬ r60 ≤ r53 → ∀ l5_70 : Int32, l5_70 = (l5 + (1 : Int32)) → kb l5 l5_70))))))
def wpX11_nearest_L6 (M_told : AR) (M_place : AR) (M_voice : AR) (l1 : Int32) (l2 : Int32) (l3 : Int32) (kx76 : Int32 → Int32 → Prop) (post : Int32 → Prop) : Nat → Int32 → Int32 → Prop
  | 0, _, _ => False
  | nf6 + 1, l4, l5 => (((M_told 2) ≤ l5 → kx76 l4 l5) ∧ (¬ (M_told 2) ≤ l5 → ((¬ ((jshr l1 l5) &&& (1 : Int32)) = (1 : Int32) → ∀ l5_70 : Int32, l5_70 = (l5 + (1 : Int32)) → wpX11_nearest_L6 M_told M_place M_voice l1 l2 l3 kx76 post nf6 l4 l5_70) ∧ (((jshr l1 l5) &&& (1 : Int32)) = (1 : Int32) → ((l3 = (-1 : Int32) → wpX11_nearest_J43 M_told M_place M_voice l1 l2 l3 l4 l5 (fun b0 b1 => wpX11_nearest_L6 M_told M_place M_voice l1 l2 l3 kx76 post nf6 b0 b1) kx76 post) ∧ (¬ l3 = (-1 : Int32) → vp_in l5 10 ∧ ((¬ (M_voice l5.toNatClampNeg) = l3 → ∀ l5_70 : Int32, l5_70 = (l5 + (1 : Int32)) → wpX11_nearest_L6 M_told M_place M_voice l1 l2 l3 kx76 post nf6 l4 l5_70) ∧ ((M_voice l5.toNatClampNeg) = l3 → wpX11_nearest_J43 M_told M_place M_voice l1 l2 l3 l4 l5 (fun b0 b1 => wpX11_nearest_L6 M_told M_place M_voice l1 l2 l3 kx76 post nf6 b0 b1) kx76 post))))))))
def wpX11_nearest (M_told : AR) (M_place : AR) (M_voice : AR) (x1 : Int32) (x2 : Int32) (x3 : Int32) (post : Int32 → Prop) : Prop := ∃ nf6 : Nat, wpX11_nearest_L6 M_told M_place M_voice x1 x2 x3 (fun l4_76 l5_76 => post l4_76) post nf6 (-1 : Int32) (0 : Int32)
set_option maxHeartbeats 4000000 in
set_option maxRecDepth 100000 in
theorem ctX11_nearest (l : Launch) (D : va_G) (cy : Nat → ClassId) (ev : Nat → Nat) (h0 : Nat) (rM : Nat → Nat) (sM : AR) (M_told : AR) (M_place : AR) (M_voice : AR) (x1 : Int32) (x2 : Int32) (x3 : Int32) (sz : Nat) (post : Int32 → Prop) (h : wpX11_nearest M_told M_place M_voice x1 x2 x3 post) : Met l yX11_nearest (Cond.code yX11_nearest cX11_nearest 6 (some .int) :: TB) ({ frames := 2, cells := 0, slots := 0, locals := 85 }) (va_Pc [.ref h0, .int x1, .int x2, .int x3] (PreX D cy ev [(h0, .inr (11, oX11 rM sM)), ((rM 3), .inl (cy 0, 14, .inl M_told)), ((rM 4), .inl (cy 0, 10, .inl M_place)), ((rM 6), .inl (cy 0, 10, .inl M_voice))] sz)) (va_Qi (fun (r : Int32) (u : Unit) => post r) (fun u => BkX D cy [(h0, .inr (11, oX11 rM sM)), ((rM 3), .inl (cy 0, 14, .inl M_told)), ((rM 4), .inl (cy 0, 10, .inl M_place)), ((rM 6), .inl (cy 0, 10, .inl M_voice))] sz [(h0, .inr (11, oX11 rM sM)), ((rM 3), .inl (cy 0, 14, .inl M_told)), ((rM 4), .inl (cy 0, 10, .inl M_place)), ((rM 6), .inl (cy 0, 10, .inl M_voice))]) (va_A [(h0, .inr (11, oX11 rM sM)), ((rM 3), .inl (cy 0, 14, .inl M_told)), ((rM 4), .inl (cy 0, 10, .inl M_place)), ((rM 6), .inl (cy 0, 10, .inl M_voice))] sz)) 0 0 (va_A [(h0, .inr (11, oX11 rM sM)), ((rM 3), .inl (cy 0, 14, .inl M_told)), ((rM 4), .inl (cy 0, 10, .inl M_place)), ((rM 6), .inl (cy 0, 10, .inl M_voice))] sz) := by
  refine ofWi (by decide) (Nat.le_of_ble_eq_true rfl) ?_
  intro p e s m args below meth c ls A R QQ hx hb hml hown hts hR hlk hE hK hP hD hS hA hl hret
  have hown : s.vm.findClass RX11 = some m.cls := hown
  have hRf : 2 ≤ R.frames := by rw [hR]; exact Nat.le_refl _
  have hRl : 85 ≤ R.locals := by rw [hR]; exact Nat.le_refl _
  clear hR
  have hl : lv_has ls 6 [(0, .ref h0), (1, .int x1), (2, .int x2), (3, .int x3)] := hl
  have L6 : ∀ (l1 : Int32) (l2 : Int32) (l3 : Int32) (kx76 : Int32 → Int32 → Prop), (∀ (l4 : Int32) (l5 : Int32) (H : Heap) (locs : List Loc) (ls : Array Slot), kx76 l4 l5 → va_P D clsX [(h0, .inr (11, oX11 rM sM)), ((rM 3), .inl (cy 0, 14, .inl M_told)), ((rM 4), .inl (cy 0, 10, .inl M_place)), ((rM 6), .inl (cy 0, 10, .inl M_voice))] H → va_D A [(h0, .inr (11, oX11 rM sM)), ((rM 3), .inl (cy 0, 14, .inl M_told)), ((rM 4), .inl (cy 0, 10, .inl M_place)), ((rM 6), .inl (cy 0, 10, .inl M_voice))] → va_S A s.heap H locs → lv_has ls 6 [(0, .ref h0), (4, .int l4)] → W p l e R s m args below meth c H locs 0 0 QQ (F0 m 76 ls [])) → ∀ (nf6 : Nat) (l4 : Int32) (l5 : Int32) (H : Heap) (locs : List Loc) (ls : Array Slot), wpX11_nearest_L6 M_told M_place M_voice l1 l2 l3 kx76 post nf6 l4 l5 → va_P D clsX [(h0, .inr (11, oX11 rM sM)), ((rM 3), .inl (cy 0, 14, .inl M_told)), ((rM 4), .inl (cy 0, 10, .inl M_place)), ((rM 6), .inl (cy 0, 10, .inl M_voice))] H → va_D A [(h0, .inr (11, oX11 rM sM)), ((rM 3), .inl (cy 0, 14, .inl M_told)), ((rM 4), .inl (cy 0, 10, .inl M_place)), ((rM 6), .inl (cy 0, 10, .inl M_voice))] → va_S A s.heap H locs → lv_has ls 6 [(0, .ref h0), (1, .int l1), (2, .int l2), (3, .int l3), (4, .int l4), (5, .int l5)] → W p l e R s m args below meth c H locs 0 0 QQ (F0 m 6 ls []) := by
    intro l1 l2 l3 kx76 hk6_76 nf6
    induction nf6 with
    | zero =>
      intro l4 l5 H locs ls h
      exact (show False from h).elim
    | succ nf6 ih6 =>
      intro l4 l5 H locs ls h hP hD hS hl
      have J43 : ∀ (l4 : Int32) (l5 : Int32) (H : Heap) (locs : List Loc) (ls : Array Slot), wpX11_nearest_J43 M_told M_place M_voice l1 l2 l3 l4 l5 (fun b0 b1 => wpX11_nearest_L6 M_told M_place M_voice l1 l2 l3 kx76 post nf6 b0 b1) kx76 post → va_P D clsX [(h0, .inr (11, oX11 rM sM)), ((rM 3), .inl (cy 0, 14, .inl M_told)), ((rM 4), .inl (cy 0, 10, .inl M_place)), ((rM 6), .inl (cy 0, 10, .inl M_voice))] H → va_D A [(h0, .inr (11, oX11 rM sM)), ((rM 3), .inl (cy 0, 14, .inl M_told)), ((rM 4), .inl (cy 0, 10, .inl M_place)), ((rM 6), .inl (cy 0, 10, .inl M_voice))] → va_S A s.heap H locs → lv_has ls 6 [(0, .ref h0), (1, .int l1), (2, .int l2), (3, .int l3), (4, .int l4), (5, .int l5)] → W p l e R s m args below meth c H locs 0 0 QQ (F0 m 43 ls []) := by
        intro l4 l5 H locs ls h hP hD hS hl
        refine lv_iload hx hb dX11_nearest_43 (lv_at hl 4 rfl) ?_
        refine lv_iconst (v := (-1 : Int32)) hx hb dX11_nearest_45 (by decide) ?_
        refine lv_icmp_eq (tgt := 66) hx hb dX11_nearest_46 (by decide) (fun c46 => ?_) (fun c46 => ?_)
        · have h := h.1 c46
          refine lv_iload hx hb dX11_nearest_66 (lv_at hl 5 rfl) ?_
          refine lv_istore (lv' := [(4, .int l5), (0, .ref h0), (1, .int l1), (2, .int l2), (3, .int l3), (5, .int l5)]) hx hb dX11_nearest_68 hl (by decide) rfl (fun ls hl => ?_)
          obtain ⟨l5_70, el5_70⟩ : ∃ y : Int32, y = l5 + (1 : Int32) := ⟨_, rfl⟩
          have h := h l5_70 el5_70
          refine lv_iinc (v := l5_70) (lv' := [(5, .int l5_70), (4, .int l5), (0, .ref h0), (1, .int l1), (2, .int l2), (3, .int l3)]) hx hb dX11_nearest_70 hl (k := 5) rfl (by rw [el5_70]; rfl) (by decide) rfl (fun ls hl => ?_)
          refine lv_goto (tgt := 6) hx hb dX11_nearest_73 (by decide) ?_
          exact ih6 l5 l5_70 _ _ _ h hP hD hS (lv_sub hl [2, 3, 4, 5, 1, 0] rfl)
        · have h := h.2 c46
          refine lv_aload_n hx hb dX11_nearest_49 rfl (lv_at hl 0 rfl) ?_
          refine lv_iload hx hb dX11_nearest_50 (lv_at hl 5 rfl) ?_
          refine lv_iload_n hx hb dX11_nearest_52 rfl (lv_at hl 2 rfl) ?_
          refine clVi (As := [.int l5, .int l2]) (rest := []) (Wr := [((rM 6), .inl (cy 0, 10, .inl M_voice))]) (cq := (RX11, TX11, 56)) ⟨hx, hb, hml, hown, hts⟩ ⟨callB_of 2 hts (goodC mw1492) rfl rfl rfl (hts _ (tb mw15)) (hts _ (tb mw1489)) kdX11_farOf ⟨Nat.le_trans (by decide) hRf, Nat.le_trans (by decide) hRl⟩, hts _ (tb mw1491), hts _ (tb ms62)⟩ (ctX11_farOf l D cy ev h0 rM sM M_told M_place l5 l2 _ _ h) hE hK hP hD hS hA [0, 1, 2] [3] rfl rfl (by decide) (by decide) (by decide) 0 rfl rfl rfl hl.1 rfl (Nat.le_of_ble_eq_true rfl) ⟨Nat.zero_le _, Nat.zero_le _⟩ dX11_nearest_53 (fun r53 u H locs h hP hD hS => ?_)
          have hP : va_P D clsX [((rM 6), .inl (cy 0, 10, .inl M_voice)), (h0, .inr (11, oX11 rM sM)), ((rM 3), .inl (cy 0, 14, .inl M_told)), ((rM 4), .inl (cy 0, 10, .inl M_place))] H := hP
          have hD : va_D A [((rM 6), .inl (cy 0, 10, .inl M_voice)), (h0, .inr (11, oX11 rM sM)), ((rM 3), .inl (cy 0, 14, .inl M_told)), ((rM 4), .inl (cy 0, 10, .inl M_place))] := hD
          refine lv_aload_n hx hb dX11_nearest_56 rfl (lv_at hl 0 rfl) ?_
          refine lv_iload hx hb dX11_nearest_57 (lv_at hl 4 rfl) ?_
          refine lv_iload_n hx hb dX11_nearest_59 rfl (lv_at hl 2 rfl) ?_
          refine clVi (As := [.int l4, .int l2]) (rest := [.int r53]) (Wr := [((rM 6), .inl (cy 0, 10, .inl M_voice))]) (cq := (RX11, TX11, 56)) ⟨hx, hb, hml, hown, hts⟩ ⟨callB_of 2 hts (goodC mw1492) rfl rfl rfl (hts _ (tb mw15)) (hts _ (tb mw1489)) kdX11_farOf ⟨Nat.le_trans (by decide) hRf, Nat.le_trans (by decide) hRl⟩, hts _ (tb mw1491), hts _ (tb ms62)⟩ (ctX11_farOf l D cy ev h0 rM sM M_told M_place l4 l2 _ _ h) hE hK hP hD hS hA [1, 2, 3] [0] rfl rfl (by decide) (by decide) (by decide) 0 rfl rfl rfl hl.1 rfl (Nat.le_of_ble_eq_true rfl) ⟨Nat.zero_le _, Nat.zero_le _⟩ dX11_nearest_60 (fun r60 u H locs h hP hD hS => ?_)
          have hP : va_P D clsX [((rM 6), .inl (cy 0, 10, .inl M_voice)), (h0, .inr (11, oX11 rM sM)), ((rM 3), .inl (cy 0, 14, .inl M_told)), ((rM 4), .inl (cy 0, 10, .inl M_place))] H := hP
          have hD : va_D A [((rM 6), .inl (cy 0, 10, .inl M_voice)), (h0, .inr (11, oX11 rM sM)), ((rM 3), .inl (cy 0, 14, .inl M_told)), ((rM 4), .inl (cy 0, 10, .inl M_place))] := hD
          refine lv_icmp_ge (tgt := 70) hx hb dX11_nearest_63 (by decide) (fun c63 => ?_) (fun c63 => ?_)
          · have h := h.1 c63
            obtain ⟨l5_70, el5_70⟩ : ∃ y : Int32, y = l5 + (1 : Int32) := ⟨_, rfl⟩
            have h := h l5_70 el5_70
            refine lv_iinc (v := l5_70) (lv' := [(5, .int l5_70), (0, .ref h0), (1, .int l1), (2, .int l2), (3, .int l3), (4, .int l4)]) hx hb dX11_nearest_70 hl (k := 5) rfl (by rw [el5_70]; rfl) (by decide) rfl (fun ls hl => ?_)
            refine lv_goto (tgt := 6) hx hb dX11_nearest_73 (by decide) ?_
            exact ih6 l4 l5_70 _ _ _ h (hP.sub [1, 2, 3, 0] rfl) (hD.sub [1, 2, 3, 0] (by decide) rfl) hS (lv_sub hl [1, 2, 3, 4, 5, 0] rfl)
          · have h := h.2 c63
            refine lv_iload hx hb dX11_nearest_66 (lv_at hl 5 rfl) ?_
            refine lv_istore (lv' := [(4, .int l5), (0, .ref h0), (1, .int l1), (2, .int l2), (3, .int l3), (5, .int l5)]) hx hb dX11_nearest_68 hl (by decide) rfl (fun ls hl => ?_)
            obtain ⟨l5_70, el5_70⟩ : ∃ y : Int32, y = l5 + (1 : Int32) := ⟨_, rfl⟩
            have h := h l5_70 el5_70
            refine lv_iinc (v := l5_70) (lv' := [(5, .int l5_70), (4, .int l5), (0, .ref h0), (1, .int l1), (2, .int l2), (3, .int l3)]) hx hb dX11_nearest_70 hl (k := 5) rfl (by rw [el5_70]; rfl) (by decide) rfl (fun ls hl => ?_)
            refine lv_goto (tgt := 6) hx hb dX11_nearest_73 (by decide) ?_
            exact ih6 l5 l5_70 _ _ _ h (hP.sub [1, 2, 3, 0] rfl) (hD.sub [1, 2, 3, 0] (by decide) rfl) hS (lv_sub hl [2, 3, 4, 5, 1, 0] rfl)
      refine lv_iload hx hb dX11_nearest_6 (lv_at hl 5 rfl) ?_
      refine lv_aload_n hx hb dX11_nearest_8 rfl (lv_at hl 0 rfl) ?_
      refine gfX11_36 hx hb hts hown hK hP 0 rfl dX11_nearest_9 ?_
      refine lv_iconst (v := (2 : Int32)) hx hb dX11_nearest_12 (by decide) ?_
      refine ldi (k := 2) hx hb hK hP 1 rfl (inL (by decide)) (by decide) dX11_nearest_13 ?_
      refine lv_icmp_ge (tgt := 76) hx hb dX11_nearest_14 (by decide) (fun c14 => ?_) (fun c14 => ?_)
      · have h := h.1 c14
        exact hk6_76 l4 l5 _ _ _ h hP hD hS (lv_sub hl [0, 4] rfl)
      · have h := h.2 c14
        refine lv_iload_n hx hb dX11_nearest_17 rfl (lv_at hl 1 rfl) ?_
        refine lv_iload hx hb dX11_nearest_18 (lv_at hl 5 rfl) ?_
        refine lv_ishr hx hb dX11_nearest_20 ?_
        refine lv_iconst (v := (1 : Int32)) hx hb dX11_nearest_21 (by decide) ?_
        refine lv_iand hx hb dX11_nearest_22 ?_
        refine lv_iconst (v := (1 : Int32)) hx hb dX11_nearest_23 (by decide) ?_
        refine lv_icmp_ne (tgt := 70) hx hb dX11_nearest_24 (by decide) (fun c24 => ?_) (fun c24 => ?_)
        · have h := h.1 c24
          obtain ⟨l5_70, el5_70⟩ : ∃ y : Int32, y = l5 + (1 : Int32) := ⟨_, rfl⟩
          have h := h l5_70 el5_70
          refine lv_iinc (v := l5_70) (lv' := [(5, .int l5_70), (0, .ref h0), (1, .int l1), (2, .int l2), (3, .int l3), (4, .int l4)]) hx hb dX11_nearest_70 hl (k := 5) rfl (by rw [el5_70]; rfl) (by decide) rfl (fun ls hl => ?_)
          refine lv_goto (tgt := 6) hx hb dX11_nearest_73 (by decide) ?_
          exact ih6 l4 l5_70 _ _ _ h hP hD hS (lv_sub hl [1, 2, 3, 4, 5, 0] rfl)
        · have h := h.2 c24
          refine lv_iload_n hx hb dX11_nearest_27 rfl (lv_at hl 3 rfl) ?_
          refine lv_iconst (v := (-1 : Int32)) hx hb dX11_nearest_28 (by decide) ?_
          refine lv_icmp_eq (tgt := 43) hx hb dX11_nearest_29 (by decide) (fun c29 => ?_) (fun c29 => ?_)
          · have h := h.1 c29
            exact J43 l4 l5 _ _ _ h hP hD hS hl
          · have h := h.2 c29
            refine lv_aload_n hx hb dX11_nearest_32 rfl (lv_at hl 0 rfl) ?_
            refine gfX11_46 hx hb hts hown hK hP 0 rfl dX11_nearest_33 ?_
            refine lv_iload hx hb dX11_nearest_36 (lv_at hl 5 rfl) ?_
            obtain ⟨hin, h⟩ := h
            refine ldi (k := l5.toNatClampNeg) hx hb hK hP 3 rfl hin rfl dX11_nearest_38 ?_
            refine lv_iload_n hx hb dX11_nearest_39 rfl (lv_at hl 3 rfl) ?_
            refine lv_icmp_ne (tgt := 70) hx hb dX11_nearest_40 (by decide) (fun c40 => ?_) (fun c40 => ?_)
            · have h := h.1 c40
              obtain ⟨l5_70, el5_70⟩ : ∃ y : Int32, y = l5 + (1 : Int32) := ⟨_, rfl⟩
              have h := h l5_70 el5_70
              refine lv_iinc (v := l5_70) (lv' := [(5, .int l5_70), (0, .ref h0), (1, .int l1), (2, .int l2), (3, .int l3), (4, .int l4)]) hx hb dX11_nearest_70 hl (k := 5) rfl (by rw [el5_70]; rfl) (by decide) rfl (fun ls hl => ?_)
              refine lv_goto (tgt := 6) hx hb dX11_nearest_73 (by decide) ?_
              exact ih6 l4 l5_70 _ _ _ h hP hD hS (lv_sub hl [1, 2, 3, 4, 5, 0] rfl)
            · have h := h.2 c40
              exact J43 l4 l5 _ _ _ h hP hD hS hl
  refine lv_iconst (v := (-1 : Int32)) hx hb dX11_nearest_0 (by decide) ?_
  refine lv_istore (lv' := [(4, .int (-1 : Int32)), (0, .ref h0), (1, .int x1), (2, .int x2), (3, .int x3)]) hx hb dX11_nearest_1 hl (by decide) rfl (fun ls hl => ?_)
  refine lv_iconst (v := (0 : Int32)) hx hb dX11_nearest_3 (by decide) ?_
  refine lv_istore (lv' := [(5, .int (0 : Int32)), (4, .int (-1 : Int32)), (0, .ref h0), (1, .int x1), (2, .int x2), (3, .int x3)]) hx hb dX11_nearest_4 hl (by decide) rfl (fun ls hl => ?_)
  obtain ⟨nf6, h⟩ := h
  refine L6 x1 x2 x3 _ (fun l4_76 l5_76 H locs ls h hP hD hS hl => ?_) nf6 (-1 : Int32) (0 : Int32) _ _ _ h hP hD hS (lv_sub hl [2, 3, 4, 5, 1, 0] rfl)
  refine lv_iload hx hb dX11_nearest_76 (lv_at hl 1 rfl) ?_
  exact hret l4_76 () _ _ _ _ rfl dX11_nearest_78 h hP hD hS
def wpX11_hasTwo_L4 (M_told : AR) (M_voice : AR) (l1 : Int32) (kx58 : Int32 → Int32 → Prop) (post : Int32 → Prop) : Nat → Int32 → Int32 → Prop
  | 0, _, _ => False
  | nf4 + 1, l2, l3 => (((M_told 2) ≤ l3 → kx58 l2 l3) ∧ (¬ (M_told 2) ≤ l3 → ((¬ ((jshr l1 l3) &&& (1 : Int32)) = 0 → vp_in l3 10 ∧ ((¬ ((jshr l2 (M_voice l3.toNatClampNeg)) &&& (1 : Int32)) = (1 : Int32) → vp_in l3 10 ∧ ∀ l2_51 : Int32, l2_51 = (l2 ||| (jshl (1 : Int32) (M_voice l3.toNatClampNeg))) → ∀ l3_52 : Int32, l3_52 = (l3 + (1 : Int32)) → wpX11_hasTwo_L4 M_told M_voice l1 kx58 post nf4 l2_51 l3_52) ∧ (((jshr l2 (M_voice l3.toNatClampNeg)) &&& (1 : Int32)) = (1 : Int32) → post (1 : Int32)))) ∧ (((jshr l1 l3) &&& (1 : Int32)) = 0 → ∀ l3_52 : Int32, l3_52 = (l3 + (1 : Int32)) → wpX11_hasTwo_L4 M_told M_voice l1 kx58 post nf4 l2 l3_52))))
def wpX11_hasTwo (M_told : AR) (M_voice : AR) (x1 : Int32) (post : Int32 → Prop) : Prop := ∃ nf4 : Nat, wpX11_hasTwo_L4 M_told M_voice x1 (fun l2_58 l3_58 => post (0 : Int32)) post nf4 (0 : Int32) (0 : Int32)
set_option maxHeartbeats 4000000 in
set_option maxRecDepth 100000 in
theorem ctX11_hasTwo (l : Launch) (D : va_G) (cy : Nat → ClassId) (ev : Nat → Nat) (h0 : Nat) (rM : Nat → Nat) (sM : AR) (M_told : AR) (M_voice : AR) (x1 : Int32) (sz : Nat) (post : Int32 → Prop) (h : wpX11_hasTwo M_told M_voice x1 post) : Met l yX11_hasTwo (Cond.code yX11_hasTwo cX11_hasTwo 4 (some .boolean) :: TB) ({ frames := 0, cells := 0, slots := 0, locals := 0 }) (va_Pc [.ref h0, .int x1] (PreX D cy ev [(h0, .inr (11, oX11 rM sM)), ((rM 3), .inl (cy 0, 14, .inl M_told)), ((rM 6), .inl (cy 0, 10, .inl M_voice))] sz)) (va_Qi (fun (r : Int32) (u : Unit) => post r) (fun u => BkX D cy [(h0, .inr (11, oX11 rM sM)), ((rM 3), .inl (cy 0, 14, .inl M_told)), ((rM 6), .inl (cy 0, 10, .inl M_voice))] sz [(h0, .inr (11, oX11 rM sM)), ((rM 3), .inl (cy 0, 14, .inl M_told)), ((rM 6), .inl (cy 0, 10, .inl M_voice))]) (va_A [(h0, .inr (11, oX11 rM sM)), ((rM 3), .inl (cy 0, 14, .inl M_told)), ((rM 6), .inl (cy 0, 10, .inl M_voice))] sz)) 0 0 (va_A [(h0, .inr (11, oX11 rM sM)), ((rM 3), .inl (cy 0, 14, .inl M_told)), ((rM 6), .inl (cy 0, 10, .inl M_voice))] sz) := by
  refine ofWi (by decide) (Nat.le_of_ble_eq_true rfl) ?_
  intro p e s m args below meth c ls A R QQ hx hb hml hown hts hR hlk hE hK hP hD hS hA hl hret
  have hown : s.vm.findClass RX11 = some m.cls := hown
  have hRf : 0 ≤ R.frames := by rw [hR]; exact Nat.le_refl _
  have hRl : 0 ≤ R.locals := by rw [hR]; exact Nat.le_refl _
  clear hR
  have hl : lv_has ls 4 [(0, .ref h0), (1, .int x1)] := hl
  have L4 : ∀ (l1 : Int32) (kx58 : Int32 → Int32 → Prop), (∀ (l2 : Int32) (l3 : Int32) (H : Heap) (locs : List Loc) (ls : Array Slot), kx58 l2 l3 → va_P D clsX [(h0, .inr (11, oX11 rM sM)), ((rM 3), .inl (cy 0, 14, .inl M_told)), ((rM 6), .inl (cy 0, 10, .inl M_voice))] H → va_D A [(h0, .inr (11, oX11 rM sM)), ((rM 3), .inl (cy 0, 14, .inl M_told)), ((rM 6), .inl (cy 0, 10, .inl M_voice))] → va_S A s.heap H locs → lv_has ls 4 [(0, .ref h0)] → W p l e R s m args below meth c H locs 0 0 QQ (F0 m 58 ls [])) → ∀ (nf4 : Nat) (l2 : Int32) (l3 : Int32) (H : Heap) (locs : List Loc) (ls : Array Slot), wpX11_hasTwo_L4 M_told M_voice l1 kx58 post nf4 l2 l3 → va_P D clsX [(h0, .inr (11, oX11 rM sM)), ((rM 3), .inl (cy 0, 14, .inl M_told)), ((rM 6), .inl (cy 0, 10, .inl M_voice))] H → va_D A [(h0, .inr (11, oX11 rM sM)), ((rM 3), .inl (cy 0, 14, .inl M_told)), ((rM 6), .inl (cy 0, 10, .inl M_voice))] → va_S A s.heap H locs → lv_has ls 4 [(0, .ref h0), (1, .int l1), (2, .int l2), (3, .int l3)] → W p l e R s m args below meth c H locs 0 0 QQ (F0 m 4 ls []) := by
    intro l1 kx58 hk4_58 nf4
    induction nf4 with
    | zero =>
      intro l2 l3 H locs ls h
      exact (show False from h).elim
    | succ nf4 ih4 =>
      intro l2 l3 H locs ls h hP hD hS hl
      refine lv_iload_n hx hb dX11_hasTwo_4 rfl (lv_at hl 3 rfl) ?_
      refine lv_aload_n hx hb dX11_hasTwo_5 rfl (lv_at hl 0 rfl) ?_
      refine gfX11_36 hx hb hts hown hK hP 0 rfl dX11_hasTwo_6 ?_
      refine lv_iconst (v := (2 : Int32)) hx hb dX11_hasTwo_9 (by decide) ?_
      refine ldi (k := 2) hx hb hK hP 1 rfl (inL (by decide)) (by decide) dX11_hasTwo_10 ?_
      refine lv_icmp_ge (tgt := 58) hx hb dX11_hasTwo_11 (by decide) (fun c11 => ?_) (fun c11 => ?_)
      · have h := h.1 c11
        exact hk4_58 l2 l3 _ _ _ h hP hD hS (lv_sub hl [0] rfl)
      · have h := h.2 c11
        refine lv_iload_n hx hb dX11_hasTwo_14 rfl (lv_at hl 1 rfl) ?_
        refine lv_iload_n hx hb dX11_hasTwo_15 rfl (lv_at hl 3 rfl) ?_
        refine lv_ishr hx hb dX11_hasTwo_16 ?_
        refine lv_iconst (v := (1 : Int32)) hx hb dX11_hasTwo_17 (by decide) ?_
        refine lv_iand hx hb dX11_hasTwo_18 ?_
        refine lv_if_ne (tgt := 25) hx hb dX11_hasTwo_19 (by decide) (fun c19 => ?_) (fun c19 => ?_)
        · have h := h.1 c19
          refine lv_iload_n hx hb dX11_hasTwo_25 rfl (lv_at hl 2 rfl) ?_
          refine lv_aload_n hx hb dX11_hasTwo_26 rfl (lv_at hl 0 rfl) ?_
          refine gfX11_46 hx hb hts hown hK hP 0 rfl dX11_hasTwo_27 ?_
          refine lv_iload_n hx hb dX11_hasTwo_30 rfl (lv_at hl 3 rfl) ?_
          obtain ⟨hin, h⟩ := h
          refine ldi (k := l3.toNatClampNeg) hx hb hK hP 2 rfl hin rfl dX11_hasTwo_31 ?_
          refine lv_ishr hx hb dX11_hasTwo_32 ?_
          refine lv_iconst (v := (1 : Int32)) hx hb dX11_hasTwo_33 (by decide) ?_
          refine lv_iand hx hb dX11_hasTwo_34 ?_
          refine lv_iconst (v := (1 : Int32)) hx hb dX11_hasTwo_35 (by decide) ?_
          refine lv_icmp_ne (tgt := 41) hx hb dX11_hasTwo_36 (by decide) (fun c36 => ?_) (fun c36 => ?_)
          · have h := h.1 c36
            refine lv_iload_n hx hb dX11_hasTwo_41 rfl (lv_at hl 2 rfl) ?_
            refine lv_iconst (v := (1 : Int32)) hx hb dX11_hasTwo_42 (by decide) ?_
            refine lv_aload_n hx hb dX11_hasTwo_43 rfl (lv_at hl 0 rfl) ?_
            refine gfX11_46 hx hb hts hown hK hP 0 rfl dX11_hasTwo_44 ?_
            refine lv_iload_n hx hb dX11_hasTwo_47 rfl (lv_at hl 3 rfl) ?_
            obtain ⟨hin, h⟩ := h
            refine ldi (k := l3.toNatClampNeg) hx hb hK hP 2 rfl hin rfl dX11_hasTwo_48 ?_
            refine lv_ishl hx hb dX11_hasTwo_49 ?_
            refine lv_ior hx hb dX11_hasTwo_50 ?_
            refine lv_topi (fun l2_51 el2_51 => ?_)
            have h := h l2_51 el2_51
            refine lv_istore_n (lv' := [(2, .int l2_51), (0, .ref h0), (1, .int l1), (3, .int l3)]) hx hb dX11_hasTwo_51 rfl hl (by decide) rfl (fun ls hl => ?_)
            obtain ⟨l3_52, el3_52⟩ : ∃ y : Int32, y = l3 + (1 : Int32) := ⟨_, rfl⟩
            have h := h l3_52 el3_52
            refine lv_iinc (v := l3_52) (lv' := [(3, .int l3_52), (2, .int l2_51), (0, .ref h0), (1, .int l1)]) hx hb dX11_hasTwo_52 hl (k := 3) rfl (by rw [el3_52]; rfl) (by decide) rfl (fun ls hl => ?_)
            refine lv_goto (tgt := 4) hx hb dX11_hasTwo_55 (by decide) ?_
            exact ih4 l2_51 l3_52 _ _ _ h hP hD hS (lv_sub hl [2, 3, 1, 0] rfl)
          · have h := h.2 c36
            refine lv_iconst (v := (1 : Int32)) hx hb dX11_hasTwo_39 (by decide) ?_
            exact hret (1 : Int32) () _ _ _ _ rfl dX11_hasTwo_40 h hP hD hS
        · have h := h.2 c19
          refine lv_goto (tgt := 52) hx hb dX11_hasTwo_22 (by decide) ?_
          obtain ⟨l3_52, el3_52⟩ : ∃ y : Int32, y = l3 + (1 : Int32) := ⟨_, rfl⟩
          have h := h l3_52 el3_52
          refine lv_iinc (v := l3_52) (lv' := [(3, .int l3_52), (0, .ref h0), (1, .int l1), (2, .int l2)]) hx hb dX11_hasTwo_52 hl (k := 3) rfl (by rw [el3_52]; rfl) (by decide) rfl (fun ls hl => ?_)
          refine lv_goto (tgt := 4) hx hb dX11_hasTwo_55 (by decide) ?_
          exact ih4 l2 l3_52 _ _ _ h hP hD hS (lv_sub hl [1, 2, 3, 0] rfl)
  refine lv_iconst (v := (0 : Int32)) hx hb dX11_hasTwo_0 (by decide) ?_
  refine lv_istore_n (lv' := [(2, .int (0 : Int32)), (0, .ref h0), (1, .int x1)]) hx hb dX11_hasTwo_1 rfl hl (by decide) rfl (fun ls hl => ?_)
  refine lv_iconst (v := (0 : Int32)) hx hb dX11_hasTwo_2 (by decide) ?_
  refine lv_istore_n (lv' := [(3, .int (0 : Int32)), (2, .int (0 : Int32)), (0, .ref h0), (1, .int x1)]) hx hb dX11_hasTwo_3 rfl hl (by decide) rfl (fun ls hl => ?_)
  obtain ⟨nf4, h⟩ := h
  refine L4 x1 _ (fun l2_58 l3_58 H locs ls h hP hD hS hl => ?_) nf4 (0 : Int32) (0 : Int32) _ _ _ h hP hD hS (lv_sub hl [2, 3, 1, 0] rfl)
  refine lv_iconst (v := (0 : Int32)) hx hb dX11_hasTwo_58 (by decide) ?_
  exact hret (0 : Int32) () _ _ _ _ rfl dX11_hasTwo_59 h hP hD hS
def wpX11_step_J61 (sM : AR) (M_told : AR) (l2 : Int32) (t0 : Int32) (t1 : Int32) (post : AR → Prop) : Prop := ∀ l3_62 : Int32, l3_62 = (t0 + t1) → wpX11_isIn l2 (0 : Int32) ((M_told 0) - (1 : Int32)) (fun r73 => ((r73 = 0 → post sM) ∧ (¬ r73 = 0 → wpX11_isIn l3_62 (0 : Int32) ((M_told 1) - (1 : Int32)) (fun r89 => ((r89 = 0 → post sM) ∧ (¬ r89 = 0 → ∀ f24_106 : Int32, f24_106 = (((M_told 0) * l3_62) + l2) → post (upd sM 24 f24_106)))))))
def wpX11_step_J30 (sM : AR) (M_told : AR) (l1 : Int32) (t0 : Int32) (t1 : Int32) (post : AR → Prop) : Prop := ∀ l2_31 : Int32, l2_31 = (t0 + t1) → ¬ (M_told 0) = 0 ∧ ((¬ l1 = (2 : Int32) → ((¬ l1 = 0 → wpX11_step_J61 sM M_told l2_31 ((sM 24) / (M_told 0)) (0 : Int32) post) ∧ (l1 = 0 → wpX11_step_J61 sM M_told l2_31 ((sM 24) / (M_told 0)) (-1 : Int32) post))) ∧ (l1 = (2 : Int32) → wpX11_step_J61 sM M_told l2_31 ((sM 24) / (M_told 0)) (1 : Int32) post))
def wpX11_step (sM : AR) (M_told : AR) (x1 : Int32) (post : AR → Prop) : Prop := ¬ (M_told 0) = 0 ∧ ((¬ x1 = (1 : Int32) → ((¬ x1 = (3 : Int32) → wpX11_step_J30 sM M_told x1 (jrem (sM 24) (M_told 0)) (0 : Int32) post) ∧ (x1 = (3 : Int32) → wpX11_step_J30 sM M_told x1 (jrem (sM 24) (M_told 0)) (-1 : Int32) post))) ∧ (x1 = (1 : Int32) → wpX11_step_J30 sM M_told x1 (jrem (sM 24) (M_told 0)) (1 : Int32) post))
set_option maxHeartbeats 4000000 in
set_option maxRecDepth 100000 in
theorem ctX11_step (l : Launch) (D : va_G) (cy : Nat → ClassId) (ev : Nat → Nat) (h0 : Nat) (rM : Nat → Nat) (sM : AR) (M_told : AR) (x1 : Int32) (sz : Nat) (post : AR → Prop) (h : wpX11_step sM M_told x1 post) : Met l yX11_step (Cond.code yX11_step cX11_step 4 none :: TB) ({ frames := 1, cells := 0, slots := 0, locals := 22 }) (va_Pc [.ref h0, .int x1] (PreX D cy ev [(h0, .inr (11, oX11 rM sM)), ((rM 3), .inl (cy 0, 14, .inl M_told))] sz)) (va_Qv (fun (u : AR) => post u) (fun u => BkX D cy [(h0, .inr (11, oX11 rM sM)), ((rM 3), .inl (cy 0, 14, .inl M_told))] sz [(h0, .inr (11, oX11 rM u)), ((rM 3), .inl (cy 0, 14, .inl M_told))]) (va_A [(h0, .inr (11, oX11 rM sM)), ((rM 3), .inl (cy 0, 14, .inl M_told))] sz)) 0 0 (va_A [(h0, .inr (11, oX11 rM sM)), ((rM 3), .inl (cy 0, 14, .inl M_told))] sz) := by
  refine ofWv (by decide) (Nat.le_of_ble_eq_true rfl) ?_
  intro p e s m args below meth c ls A R QQ hx hb hml hown hts hR hlk hE hK hP hD hS hA hl hret
  have hown : s.vm.findClass RX11 = some m.cls := hown
  have hRf : 1 ≤ R.frames := by rw [hR]; exact Nat.le_refl _
  have hRl : 22 ≤ R.locals := by rw [hR]; exact Nat.le_refl _
  clear hR
  have hl : lv_has ls 4 [(0, .ref h0), (1, .int x1)] := hl
  have J30 : ∀ (l1 : Int32) (t0 : Int32) (t1 : Int32) (H : Heap) (locs : List Loc) (ls : Array Slot), wpX11_step_J30 sM M_told l1 t0 t1 post → va_P D clsX [(h0, .inr (11, oX11 rM sM)), ((rM 3), .inl (cy 0, 14, .inl M_told))] H → va_D A [(h0, .inr (11, oX11 rM sM)), ((rM 3), .inl (cy 0, 14, .inl M_told))] → va_S A s.heap H locs → lv_has ls 4 [(0, .ref h0), (1, .int l1)] → W p l e R s m args below meth c H locs 0 0 QQ (F0 m 30 ls [.int t1, .int t0]) := by
    intro l1 t0 t1 H locs ls h hP hD hS hl
    have J61 : ∀ (l2 : Int32) (t0 : Int32) (t1 : Int32) (H : Heap) (locs : List Loc) (ls : Array Slot), wpX11_step_J61 sM M_told l2 t0 t1 post → va_P D clsX [(h0, .inr (11, oX11 rM sM)), ((rM 3), .inl (cy 0, 14, .inl M_told))] H → va_D A [(h0, .inr (11, oX11 rM sM)), ((rM 3), .inl (cy 0, 14, .inl M_told))] → va_S A s.heap H locs → lv_has ls 4 [(0, .ref h0), (2, .int l2)] → W p l e R s m args below meth c H locs 0 0 QQ (F0 m 61 ls [.int t1, .int t0]) := by
      intro l2 t0 t1 H locs ls h hP hD hS hl
      refine lv_iadd hx hb dX11_step_61 ?_
      refine lv_topi (fun l3_62 el3_62 => ?_)
      have h := h l3_62 el3_62
      refine lv_istore_n (lv' := [(3, .int l3_62), (0, .ref h0), (2, .int l2)]) hx hb dX11_step_62 rfl hl (by decide) rfl (fun ls hl => ?_)
      refine lv_iload_n hx hb dX11_step_63 rfl (lv_at hl 2 rfl) ?_
      refine lv_iconst (v := (0 : Int32)) hx hb dX11_step_64 (by decide) ?_
      refine lv_aload_n hx hb dX11_step_65 rfl (lv_at hl 1 rfl) ?_
      refine gfX11_36 hx hb hts hown hK hP 0 rfl dX11_step_66 ?_
      refine lv_iconst (v := (0 : Int32)) hx hb dX11_step_69 (by decide) ?_
      refine ldi (k := 0) hx hb hK hP 1 rfl (inL (by decide)) (by decide) dX11_step_70 ?_
      refine lv_iconst (v := (1 : Int32)) hx hb dX11_step_71 (by decide) ?_
      refine lv_isub hx hb dX11_step_72 ?_
      refine clSi (As := [.int l2, .int (0 : Int32), .int ((M_told 0) - (1 : Int32))]) (rest := []) (Wr := [(h0, .inr (11, oX11 rM sM)), ((rM 3), .inl (cy 0, 14, .inl M_told))]) ⟨hx, hb, hml, hown, hts⟩ ⟨callB_of 3 hts (goodC mw1456) rfl rfl rfl (hts _ (tb mw15)) (hts _ (tb mw1454)) kdX11_isIn ⟨Nat.le_trans (by decide) hRf, Nat.le_trans (by decide) hRl⟩, hts _ (tb mw1455)⟩ (ctX11_isIn l D cy ev  l2 (0 : Int32) ((M_told 0) - (1 : Int32)) _ _ h) hE hK hP hD hS hA [] [0, 1] rfl rfl (by decide) (by decide) (by decide) rfl hl.1 rfl (Nat.le_of_ble_eq_true rfl) ⟨Nat.zero_le _, Nat.zero_le _⟩ dX11_step_73 (fun r73 u H locs h hP hD hS => ?_)
      have hP : va_P D clsX [(h0, .inr (11, oX11 rM sM)), ((rM 3), .inl (cy 0, 14, .inl M_told))] H := hP
      have hD : va_D A [(h0, .inr (11, oX11 rM sM)), ((rM 3), .inl (cy 0, 14, .inl M_told))] := hD
      refine lv_if_eq (tgt := 109) hx hb dX11_step_76 (by decide) (fun c76 => ?_) (fun c76 => ?_)
      · have h := h.1 c76
        exact hret (sM) _ _ _ _ dX11_step_109 h hP hD hS
      · have h := h.2 c76
        refine lv_iload_n hx hb dX11_step_79 rfl (lv_at hl 0 rfl) ?_
        refine lv_iconst (v := (0 : Int32)) hx hb dX11_step_80 (by decide) ?_
        refine lv_aload_n hx hb dX11_step_81 rfl (lv_at hl 1 rfl) ?_
        refine gfX11_36 hx hb hts hown hK hP 0 rfl dX11_step_82 ?_
        refine lv_iconst (v := (1 : Int32)) hx hb dX11_step_85 (by decide) ?_
        refine ldi (k := 1) hx hb hK hP 1 rfl (inL (by decide)) (by decide) dX11_step_86 ?_
        refine lv_iconst (v := (1 : Int32)) hx hb dX11_step_87 (by decide) ?_
        refine lv_isub hx hb dX11_step_88 ?_
        refine clSi (As := [.int l3_62, .int (0 : Int32), .int ((M_told 1) - (1 : Int32))]) (rest := []) (Wr := [(h0, .inr (11, oX11 rM sM)), ((rM 3), .inl (cy 0, 14, .inl M_told))]) ⟨hx, hb, hml, hown, hts⟩ ⟨callB_of 3 hts (goodC mw1456) rfl rfl rfl (hts _ (tb mw15)) (hts _ (tb mw1454)) kdX11_isIn ⟨Nat.le_trans (by decide) hRf, Nat.le_trans (by decide) hRl⟩, hts _ (tb mw1455)⟩ (ctX11_isIn l D cy ev  l3_62 (0 : Int32) ((M_told 1) - (1 : Int32)) _ _ h) hE hK hP hD hS hA [] [0, 1] rfl rfl (by decide) (by decide) (by decide) rfl hl.1 rfl (Nat.le_of_ble_eq_true rfl) ⟨Nat.zero_le _, Nat.zero_le _⟩ dX11_step_89 (fun r89 u H locs h hP hD hS => ?_)
        have hP : va_P D clsX [(h0, .inr (11, oX11 rM sM)), ((rM 3), .inl (cy 0, 14, .inl M_told))] H := hP
        have hD : va_D A [(h0, .inr (11, oX11 rM sM)), ((rM 3), .inl (cy 0, 14, .inl M_told))] := hD
        refine lv_if_eq (tgt := 109) hx hb dX11_step_92 (by decide) (fun c92 => ?_) (fun c92 => ?_)
        · have h := h.1 c92
          exact hret (sM) _ _ _ _ dX11_step_109 h hP hD hS
        · have h := h.2 c92
          refine lv_aload_n hx hb dX11_step_95 rfl (lv_at hl 1 rfl) ?_
          refine lv_aload_n hx hb dX11_step_96 rfl (lv_at hl 1 rfl) ?_
          refine gfX11_36 hx hb hts hown hK hP 0 rfl dX11_step_97 ?_
          refine lv_iconst (v := (0 : Int32)) hx hb dX11_step_100 (by decide) ?_
          refine ldi (k := 0) hx hb hK hP 1 rfl (inL (by decide)) (by decide) dX11_step_101 ?_
          refine lv_iload_n hx hb dX11_step_102 rfl (lv_at hl 0 rfl) ?_
          refine lv_imul hx hb dX11_step_103 ?_
          refine lv_iload_n hx hb dX11_step_104 rfl (lv_at hl 2 rfl) ?_
          refine lv_iadd hx hb dX11_step_105 ?_
          refine lv_topi (fun f24_106 ef24_106 => ?_)
          have h := h f24_106 ef24_106
          refine pfX11_306 hx hb hts hown hK hP hD hS 0 rfl dX11_step_106 (fun H locs hP hD hS => ?_)
          have hP : va_P D clsX [(h0, .inr (11, oX11 rM (upd sM 24 f24_106))), ((rM 3), .inl (cy 0, 14, .inl M_told))] H := hP
          have hD : va_D A [(h0, .inr (11, oX11 rM (upd sM 24 f24_106))), ((rM 3), .inl (cy 0, 14, .inl M_told))] := hD
          exact hret ((upd sM 24 f24_106)) _ _ _ _ dX11_step_109 h hP hD hS
    refine lv_iadd hx hb dX11_step_30 ?_
    refine lv_topi (fun l2_31 el2_31 => ?_)
    have h := h l2_31 el2_31
    refine lv_istore_n (lv' := [(2, .int l2_31), (0, .ref h0), (1, .int l1)]) hx hb dX11_step_31 rfl hl (by decide) rfl (fun ls hl => ?_)
    refine lv_aload_n hx hb dX11_step_32 rfl (lv_at hl 1 rfl) ?_
    refine gfX11_306 (v := (sM 24)) hx hb hts hown hK hP 0 rfl rfl dX11_step_33 ?_
    refine lv_aload_n hx hb dX11_step_36 rfl (lv_at hl 1 rfl) ?_
    refine gfX11_36 hx hb hts hown hK hP 0 rfl dX11_step_37 ?_
    refine lv_iconst (v := (0 : Int32)) hx hb dX11_step_40 (by decide) ?_
    refine ldi (k := 0) hx hb hK hP 1 rfl (inL (by decide)) (by decide) dX11_step_41 ?_
    obtain ⟨hne, h⟩ := h
    refine lv_idiv hx hb dX11_step_42 hne ?_
    refine lv_iload_n hx hb dX11_step_43 rfl (lv_at hl 2 rfl) ?_
    refine lv_iconst (v := (2 : Int32)) hx hb dX11_step_44 (by decide) ?_
    refine lv_icmp_ne (tgt := 52) hx hb dX11_step_45 (by decide) (fun c45 => ?_) (fun c45 => ?_)
    · have h := h.1 c45
      refine lv_iload_n hx hb dX11_step_52 rfl (lv_at hl 2 rfl) ?_
      refine lv_if_ne (tgt := 60) hx hb dX11_step_53 (by decide) (fun c53 => ?_) (fun c53 => ?_)
      · have h := h.1 c53
        refine lv_iconst (v := (0 : Int32)) hx hb dX11_step_60 (by decide) ?_
        exact J61 l2_31 ((sM 24) / (M_told 0)) (0 : Int32) _ _ _ h hP hD hS (lv_sub hl [1, 0] rfl)
      · have h := h.2 c53
        refine lv_iconst (v := (-1 : Int32)) hx hb dX11_step_56 (by decide) ?_
        refine lv_goto (tgt := 61) hx hb dX11_step_57 (by decide) ?_
        exact J61 l2_31 ((sM 24) / (M_told 0)) (-1 : Int32) _ _ _ h hP hD hS (lv_sub hl [1, 0] rfl)
    · have h := h.2 c45
      refine lv_iconst (v := (1 : Int32)) hx hb dX11_step_48 (by decide) ?_
      refine lv_goto (tgt := 61) hx hb dX11_step_49 (by decide) ?_
      exact J61 l2_31 ((sM 24) / (M_told 0)) (1 : Int32) _ _ _ h hP hD hS (lv_sub hl [1, 0] rfl)
  refine lv_aload_n hx hb dX11_step_0 rfl (lv_at hl 0 rfl) ?_
  refine gfX11_306 (v := (sM 24)) hx hb hts hown hK hP 0 rfl rfl dX11_step_1 ?_
  refine lv_aload_n hx hb dX11_step_4 rfl (lv_at hl 0 rfl) ?_
  refine gfX11_36 hx hb hts hown hK hP 0 rfl dX11_step_5 ?_
  refine lv_iconst (v := (0 : Int32)) hx hb dX11_step_8 (by decide) ?_
  refine ldi (k := 0) hx hb hK hP 1 rfl (inL (by decide)) (by decide) dX11_step_9 ?_
  obtain ⟨hne, h⟩ := h
  refine lv_irem hx hb dX11_step_10 hne ?_
  refine lv_iload_n hx hb dX11_step_11 rfl (lv_at hl 1 rfl) ?_
  refine lv_iconst (v := (1 : Int32)) hx hb dX11_step_12 (by decide) ?_
  refine lv_icmp_ne (tgt := 20) hx hb dX11_step_13 (by decide) (fun c13 => ?_) (fun c13 => ?_)
  · have h := h.1 c13
    refine lv_iload_n hx hb dX11_step_20 rfl (lv_at hl 1 rfl) ?_
    refine lv_iconst (v := (3 : Int32)) hx hb dX11_step_21 (by decide) ?_
    refine lv_icmp_ne (tgt := 29) hx hb dX11_step_22 (by decide) (fun c22 => ?_) (fun c22 => ?_)
    · have h := h.1 c22
      refine lv_iconst (v := (0 : Int32)) hx hb dX11_step_29 (by decide) ?_
      exact J30 x1 (jrem (sM 24) (M_told 0)) (0 : Int32) _ _ _ h hP hD hS hl
    · have h := h.2 c22
      refine lv_iconst (v := (-1 : Int32)) hx hb dX11_step_25 (by decide) ?_
      refine lv_goto (tgt := 30) hx hb dX11_step_26 (by decide) ?_
      exact J30 x1 (jrem (sM 24) (M_told 0)) (-1 : Int32) _ _ _ h hP hD hS hl
  · have h := h.2 c13
    refine lv_iconst (v := (1 : Int32)) hx hb dX11_step_16 (by decide) ?_
    refine lv_goto (tgt := 30) hx hb dX11_step_17 (by decide) ?_
    exact J30 x1 (jrem (sM 24) (M_told 0)) (1 : Int32) _ _ _ h hP hD hS hl
def wpX11_follow_J180 (sM : AR) (M_told : AR) (M_place : AR) (M_isFalse : AR) (M_isMirage : AR) (l1 : Int32) (l2 : Int32) (t1 : Int32) (post : Int32 → AR → Prop) : Prop := wpX11_step (upd sM 25 t1) M_told t1 (fun sM_188 => vp_in l1 10 ∧ ((¬ (sM_188 24) = (M_place l1.toNatClampNeg) → post (0 : Int32) sM_188) ∧ ((sM_188 24) = (M_place l1.toNatClampNeg) → post l2 sM_188)))
def wpX11_follow_J144 (sM : AR) (M_told : AR) (M_place : AR) (M_isFalse : AR) (M_isMirage : AR) (l1 : Int32) (l2 : Int32) (t0 : Int32) (post : Int32 → AR → Prop) : Prop := ((¬ (M_told 6) = 0 → wpX11_follow_J180 sM M_told M_place M_isFalse M_isMirage l1 l2 t0 post) ∧ ((M_told 6) = 0 → vp_in (sM 24) 200 ∧ (((M_isMirage (sM 24).toNatClampNeg) = 0 → wpX11_follow_J180 sM M_told M_place M_isFalse M_isMirage l1 l2 t0 post) ∧ (¬ (M_isMirage (sM 24).toNatClampNeg) = 0 → wpX11_follow_J180 sM M_told M_place M_isFalse M_isMirage l1 l2 (jrem (t0 + (2 : Int32)) (4 : Int32)) post))))
def wpX11_follow_J41 (sM : AR) (M_told : AR) (M_place : AR) (M_isFalse : AR) (M_isMirage : AR) (l1 : Int32) (t0 : Int32) (post : Int32 → AR → Prop) : Prop := vp_in l1 10 ∧ ((¬ (sM 24) = (M_place l1.toNatClampNeg) → vp_in l1 10 ∧ ¬ (M_told 0) = 0 ∧ ¬ (M_told 0) = 0 ∧ ∀ l3_82 : Int32, l3_82 = ((jrem (M_place l1.toNatClampNeg) (M_told 0)) - (jrem (sM 24) (M_told 0))) → vp_in l1 10 ∧ ¬ (M_told 0) = 0 ∧ ¬ (M_told 0) = 0 ∧ ∀ l4_108 : Int32, l4_108 = (((M_place l1.toNatClampNeg) / (M_told 0)) - ((sM 24) / (M_told 0))) → (((jabs l3_82) < (jabs l4_108) → ((l4_108 ≤ 0 → wpX11_follow_J144 sM M_told M_place M_isFalse M_isMirage l1 t0 (0 : Int32) post) ∧ (¬ l4_108 ≤ 0 → wpX11_follow_J144 sM M_told M_place M_isFalse M_isMirage l1 t0 (2 : Int32) post))) ∧ (¬ (jabs l3_82) < (jabs l4_108) → ((l3_82 ≤ 0 → wpX11_follow_J144 sM M_told M_place M_isFalse M_isMirage l1 t0 (3 : Int32) post) ∧ (¬ l3_82 ≤ 0 → wpX11_follow_J144 sM M_told M_place M_isFalse M_isMirage l1 t0 (1 : Int32) post))))) ∧ ((sM 24) = (M_place l1.toNatClampNeg) → post t0 sM))
def wpX11_follow (sM : AR) (M_told : AR) (M_place : AR) (M_isFalse : AR) (M_isMirage : AR) (x1 : Int32) (post : Int32 → AR → Prop) : Prop := ((¬ x1 = (-1 : Int32) → vp_in x1 10 ∧ (((M_isFalse x1.toNatClampNeg) = 0 → wpX11_follow_J41 sM M_told M_place M_isFalse M_isMirage x1 (1 : Int32) post) ∧ (¬ (M_isFalse x1.toNatClampNeg) = 0 → wpX11_follow_J41 sM M_told M_place M_isFalse M_isMirage x1 (2 : Int32) post))) ∧ (x1 = (-1 : Int32) → wpX11_step sM M_told (sM 25) (fun sM_10 => ∀ f25_22 : Int32, f25_22 = (jrem ((sM_10 25) + (1 : Int32)) (4 : Int32)) → post (0 : Int32) (upd sM_10 25 f25_22))))
set_option maxHeartbeats 4000000 in
set_option maxRecDepth 100000 in
theorem ctX11_follow (l : Launch) (D : va_G) (cy : Nat → ClassId) (ev : Nat → Nat) (h0 : Nat) (rM : Nat → Nat) (sM : AR) (M_told : AR) (M_place : AR) (M_isFalse : AR) (M_isMirage : AR) (x1 : Int32) (sz : Nat) (post : Int32 → AR → Prop) (h : wpX11_follow sM M_told M_place M_isFalse M_isMirage x1 post) : Met l yX11_follow (Cond.code yX11_follow cX11_follow 6 (some .int) :: TB) ({ frames := 2, cells := 0, slots := 0, locals := 60 }) (va_Pc [.ref h0, .int x1] (PreX D cy ev [(h0, .inr (11, oX11 rM sM)), ((rM 3), .inl (cy 0, 14, .inl M_told)), ((rM 4), .inl (cy 0, 10, .inl M_place)), ((rM 11), .inl (cy 2, 10, .inl M_isFalse)), ((rM 12), .inl (cy 2, 200, .inl M_isMirage))] sz)) (va_Qi (fun (r : Int32) (u : AR) => post r u) (fun u => BkX D cy [(h0, .inr (11, oX11 rM sM)), ((rM 3), .inl (cy 0, 14, .inl M_told)), ((rM 4), .inl (cy 0, 10, .inl M_place)), ((rM 11), .inl (cy 2, 10, .inl M_isFalse)), ((rM 12), .inl (cy 2, 200, .inl M_isMirage))] sz [(h0, .inr (11, oX11 rM u)), ((rM 3), .inl (cy 0, 14, .inl M_told)), ((rM 4), .inl (cy 0, 10, .inl M_place)), ((rM 11), .inl (cy 2, 10, .inl M_isFalse)), ((rM 12), .inl (cy 2, 200, .inl M_isMirage))]) (va_A [(h0, .inr (11, oX11 rM sM)), ((rM 3), .inl (cy 0, 14, .inl M_told)), ((rM 4), .inl (cy 0, 10, .inl M_place)), ((rM 11), .inl (cy 2, 10, .inl M_isFalse)), ((rM 12), .inl (cy 2, 200, .inl M_isMirage))] sz)) 0 0 (va_A [(h0, .inr (11, oX11 rM sM)), ((rM 3), .inl (cy 0, 14, .inl M_told)), ((rM 4), .inl (cy 0, 10, .inl M_place)), ((rM 11), .inl (cy 2, 10, .inl M_isFalse)), ((rM 12), .inl (cy 2, 200, .inl M_isMirage))] sz) := by
  refine ofWi (by decide) (Nat.le_of_ble_eq_true rfl) ?_
  intro p e s m args below meth c ls A R QQ hx hb hml hown hts hR hlk hE hK hP hD hS hA hl hret
  have hown : s.vm.findClass RX11 = some m.cls := hown
  have hRf : 2 ≤ R.frames := by rw [hR]; exact Nat.le_refl _
  have hRl : 60 ≤ R.locals := by rw [hR]; exact Nat.le_refl _
  clear hR
  have hl : lv_has ls 6 [(0, .ref h0), (1, .int x1)] := hl
  have J41 : ∀ (l1 : Int32) (t0 : Int32) (H : Heap) (locs : List Loc) (ls : Array Slot), wpX11_follow_J41 sM M_told M_place M_isFalse M_isMirage l1 t0 post → va_P D clsX [(h0, .inr (11, oX11 rM sM)), ((rM 3), .inl (cy 0, 14, .inl M_told)), ((rM 4), .inl (cy 0, 10, .inl M_place)), ((rM 11), .inl (cy 2, 10, .inl M_isFalse)), ((rM 12), .inl (cy 2, 200, .inl M_isMirage))] H → va_D A [(h0, .inr (11, oX11 rM sM)), ((rM 3), .inl (cy 0, 14, .inl M_told)), ((rM 4), .inl (cy 0, 10, .inl M_place)), ((rM 11), .inl (cy 2, 10, .inl M_isFalse)), ((rM 12), .inl (cy 2, 200, .inl M_isMirage))] → va_S A s.heap H locs → lv_has ls 6 [(0, .ref h0), (1, .int l1)] → W p l e R s m args below meth c H locs 0 0 QQ (F0 m 41 ls [.int t0]) := by
    intro l1 t0 H locs ls h hP hD hS hl
    have J144 : ∀ (l1 : Int32) (l2 : Int32) (t0 : Int32) (H : Heap) (locs : List Loc) (ls : Array Slot), wpX11_follow_J144 sM M_told M_place M_isFalse M_isMirage l1 l2 t0 post → va_P D clsX [(h0, .inr (11, oX11 rM sM)), ((rM 3), .inl (cy 0, 14, .inl M_told)), ((rM 4), .inl (cy 0, 10, .inl M_place)), ((rM 11), .inl (cy 2, 10, .inl M_isFalse)), ((rM 12), .inl (cy 2, 200, .inl M_isMirage))] H → va_D A [(h0, .inr (11, oX11 rM sM)), ((rM 3), .inl (cy 0, 14, .inl M_told)), ((rM 4), .inl (cy 0, 10, .inl M_place)), ((rM 11), .inl (cy 2, 10, .inl M_isFalse)), ((rM 12), .inl (cy 2, 200, .inl M_isMirage))] → va_S A s.heap H locs → lv_has ls 6 [(0, .ref h0), (1, .int l1), (2, .int l2)] → W p l e R s m args below meth c H locs 0 0 QQ (F0 m 144 ls [.int t0]) := by
      intro l1 l2 t0 H locs ls h hP hD hS hl
      have J180 : ∀ (l1 : Int32) (l2 : Int32) (t1 : Int32) (H : Heap) (locs : List Loc) (ls : Array Slot), wpX11_follow_J180 sM M_told M_place M_isFalse M_isMirage l1 l2 t1 post → va_P D clsX [(h0, .inr (11, oX11 rM sM)), ((rM 3), .inl (cy 0, 14, .inl M_told)), ((rM 4), .inl (cy 0, 10, .inl M_place)), ((rM 11), .inl (cy 2, 10, .inl M_isFalse)), ((rM 12), .inl (cy 2, 200, .inl M_isMirage))] H → va_D A [(h0, .inr (11, oX11 rM sM)), ((rM 3), .inl (cy 0, 14, .inl M_told)), ((rM 4), .inl (cy 0, 10, .inl M_place)), ((rM 11), .inl (cy 2, 10, .inl M_isFalse)), ((rM 12), .inl (cy 2, 200, .inl M_isMirage))] → va_S A s.heap H locs → lv_has ls 6 [(0, .ref h0), (1, .int l1), (2, .int l2)] → W p l e R s m args below meth c H locs 0 0 QQ (F0 m 180 ls [.int t1, .ref h0]) := by
        intro l1 l2 t1 H locs ls h hP hD hS hl
        refine pfX11_309 hx hb hts hown hK hP hD hS 0 rfl dX11_follow_180 (fun H locs hP hD hS => ?_)
        have hP : va_P D clsX [(h0, .inr (11, oX11 rM (upd sM 25 t1))), ((rM 3), .inl (cy 0, 14, .inl M_told)), ((rM 4), .inl (cy 0, 10, .inl M_place)), ((rM 11), .inl (cy 2, 10, .inl M_isFalse)), ((rM 12), .inl (cy 2, 200, .inl M_isMirage))] H := hP
        have hD : va_D A [(h0, .inr (11, oX11 rM (upd sM 25 t1))), ((rM 3), .inl (cy 0, 14, .inl M_told)), ((rM 4), .inl (cy 0, 10, .inl M_place)), ((rM 11), .inl (cy 2, 10, .inl M_isFalse)), ((rM 12), .inl (cy 2, 200, .inl M_isMirage))] := hD
        refine lv_aload_n hx hb dX11_follow_183 rfl (lv_at hl 0 rfl) ?_
        refine lv_aload_n hx hb dX11_follow_184 rfl (lv_at hl 0 rfl) ?_
        refine gfX11_309 (v := t1) hx hb hts hown hK hP 0 rfl rfl dX11_follow_185 ?_
        refine clVv (As := [.int t1]) (rest := []) (Wr := [((rM 4), .inl (cy 0, 10, .inl M_place)), ((rM 11), .inl (cy 2, 10, .inl M_isFalse)), ((rM 12), .inl (cy 2, 200, .inl M_isMirage))]) (cq := (RX11, TX11, 56)) ⟨hx, hb, hml, hown, hts⟩ ⟨callB_of 1 hts (goodC mw1545) rfl rfl rfl (hts _ (tb mw15)) (hts _ (tb mw1542)) kdX11_step ⟨Nat.le_trans (by decide) hRf, Nat.le_trans (by decide) hRl⟩, hts _ (tb mw1544), hts _ (tb ms73)⟩ (ctX11_step l D cy ev h0 rM (upd sM 25 t1) M_told t1 _ _ h) hE hK hP hD hS hA [0, 1] [2, 3, 4] rfl rfl (by decide) (by decide) (by decide) 0 rfl rfl rfl hl.1 rfl (Nat.le_of_ble_eq_true rfl) ⟨Nat.zero_le _, Nat.zero_le _⟩ dX11_follow_188 (fun sM_188 H locs h hP hD hS => ?_)
        have hP : va_P D clsX [((rM 4), .inl (cy 0, 10, .inl M_place)), ((rM 11), .inl (cy 2, 10, .inl M_isFalse)), ((rM 12), .inl (cy 2, 200, .inl M_isMirage)), (h0, .inr (11, oX11 rM sM_188)), ((rM 3), .inl (cy 0, 14, .inl M_told))] H := hP
        have hD : va_D A [((rM 4), .inl (cy 0, 10, .inl M_place)), ((rM 11), .inl (cy 2, 10, .inl M_isFalse)), ((rM 12), .inl (cy 2, 200, .inl M_isMirage)), (h0, .inr (11, oX11 rM sM_188)), ((rM 3), .inl (cy 0, 14, .inl M_told))] := hD
        refine lv_aload_n hx hb dX11_follow_191 rfl (lv_at hl 0 rfl) ?_
        refine gfX11_306 (v := (sM_188 24)) hx hb hts hown hK hP 3 rfl rfl dX11_follow_192 ?_
        refine lv_aload_n hx hb dX11_follow_195 rfl (lv_at hl 0 rfl) ?_
        refine gfX11_40 hx hb hts hown hK hP 3 rfl dX11_follow_196 ?_
        refine lv_iload_n hx hb dX11_follow_199 rfl (lv_at hl 1 rfl) ?_
        obtain ⟨hin, h⟩ := h
        refine ldi (k := l1.toNatClampNeg) hx hb hK hP 0 rfl hin rfl dX11_follow_200 ?_
        refine lv_icmp_ne (tgt := 208) hx hb dX11_follow_201 (by decide) (fun c201 => ?_) (fun c201 => ?_)
        · have h := h.1 c201
          refine lv_iconst (v := (0 : Int32)) hx hb dX11_follow_208 (by decide) ?_
          exact hret (0 : Int32) (sM_188) _ _ _ _ rfl dX11_follow_209 h (hP.sub [3, 4, 0, 1, 2] rfl) (hD.sub [3, 4, 0, 1, 2] (by decide) rfl) hS
        · have h := h.2 c201
          refine lv_iload_n hx hb dX11_follow_204 rfl (lv_at hl 2 rfl) ?_
          refine lv_goto (tgt := 209) hx hb dX11_follow_205 (by decide) ?_
          exact hret l2 (sM_188) _ _ _ _ rfl dX11_follow_209 h (hP.sub [3, 4, 0, 1, 2] rfl) (hD.sub [3, 4, 0, 1, 2] (by decide) rfl) hS
      refine lv_istore (lv' := [(5, .int t0), (0, .ref h0), (1, .int l1), (2, .int l2)]) hx hb dX11_follow_144 hl (by decide) rfl (fun ls hl => ?_)
      refine lv_aload_n hx hb dX11_follow_146 rfl (lv_at hl 1 rfl) ?_
      refine lv_aload_n hx hb dX11_follow_147 rfl (lv_at hl 1 rfl) ?_
      refine gfX11_36 hx hb hts hown hK hP 0 rfl dX11_follow_148 ?_
      refine lv_bipush (v := (6 : Int32)) hx hb dX11_follow_151 (by decide) ?_
      refine ldi (k := 6) hx hb hK hP 1 rfl (inL (by decide)) (by decide) dX11_follow_153 ?_
      refine lv_if_ne (tgt := 178) hx hb dX11_follow_154 (by decide) (fun c154 => ?_) (fun c154 => ?_)
      · have h := h.1 c154
        refine lv_iload hx hb dX11_follow_178 (lv_at hl 0 rfl) ?_
        exact J180 l1 l2 t0 _ _ _ h hP hD hS (lv_sub hl [1, 2, 3] rfl)
      · have h := h.2 c154
        refine lv_aload_n hx hb dX11_follow_157 rfl (lv_at hl 1 rfl) ?_
        refine gfX11_65 hx hb hts hown hK hP 0 rfl dX11_follow_158 ?_
        refine lv_aload_n hx hb dX11_follow_161 rfl (lv_at hl 1 rfl) ?_
        refine gfX11_306 (v := (sM 24)) hx hb hts hown hK hP 0 rfl rfl dX11_follow_162 ?_
        obtain ⟨hin, h⟩ := h
        refine ldz (k := (sM 24).toNatClampNeg) hx hb hK hP 4 rfl hin rfl dX11_follow_165 ?_
        refine lv_if_eq (tgt := 178) hx hb dX11_follow_166 (by decide) (fun c166 => ?_) (fun c166 => ?_)
        · have h := h.1 c166
          refine lv_iload hx hb dX11_follow_178 (lv_at hl 0 rfl) ?_
          exact J180 l1 l2 t0 _ _ _ h hP hD hS (lv_sub hl [1, 2, 3] rfl)
        · have h := h.2 c166
          refine lv_iload hx hb dX11_follow_169 (lv_at hl 0 rfl) ?_
          refine lv_iconst (v := (2 : Int32)) hx hb dX11_follow_171 (by decide) ?_
          refine lv_iadd hx hb dX11_follow_172 ?_
          refine lv_iconst (v := (4 : Int32)) hx hb dX11_follow_173 (by decide) ?_
          refine lv_irem hx hb dX11_follow_174 (by decide) ?_
          refine lv_goto (tgt := 180) hx hb dX11_follow_175 (by decide) ?_
          exact J180 l1 l2 (jrem (t0 + (2 : Int32)) (4 : Int32)) _ _ _ h hP hD hS (lv_sub hl [1, 2, 3] rfl)
    refine lv_istore_n (lv' := [(2, .int t0), (0, .ref h0), (1, .int l1)]) hx hb dX11_follow_41 rfl hl (by decide) rfl (fun ls hl => ?_)
    refine lv_aload_n hx hb dX11_follow_42 rfl (lv_at hl 1 rfl) ?_
    refine gfX11_306 (v := (sM 24)) hx hb hts hown hK hP 0 rfl rfl dX11_follow_43 ?_
    refine lv_aload_n hx hb dX11_follow_46 rfl (lv_at hl 1 rfl) ?_
    refine gfX11_40 hx hb hts hown hK hP 0 rfl dX11_follow_47 ?_
    refine lv_iload_n hx hb dX11_follow_50 rfl (lv_at hl 2 rfl) ?_
    obtain ⟨hin, h⟩ := h
    refine ldi (k := l1.toNatClampNeg) hx hb hK hP 2 rfl hin rfl dX11_follow_51 ?_
    refine lv_icmp_ne (tgt := 57) hx hb dX11_follow_52 (by decide) (fun c52 => ?_) (fun c52 => ?_)
    · have h := h.1 c52
      refine lv_aload_n hx hb dX11_follow_57 rfl (lv_at hl 1 rfl) ?_
      refine gfX11_40 hx hb hts hown hK hP 0 rfl dX11_follow_58 ?_
      refine lv_iload_n hx hb dX11_follow_61 rfl (lv_at hl 2 rfl) ?_
      obtain ⟨hin, h⟩ := h
      refine ldi (k := l1.toNatClampNeg) hx hb hK hP 2 rfl hin rfl dX11_follow_62 ?_
      refine lv_aload_n hx hb dX11_follow_63 rfl (lv_at hl 1 rfl) ?_
      refine gfX11_36 hx hb hts hown hK hP 0 rfl dX11_follow_64 ?_
      refine lv_iconst (v := (0 : Int32)) hx hb dX11_follow_67 (by decide) ?_
      refine ldi (k := 0) hx hb hK hP 1 rfl (inL (by decide)) (by decide) dX11_follow_68 ?_
      obtain ⟨hne, h⟩ := h
      refine lv_irem hx hb dX11_follow_69 hne ?_
      refine lv_aload_n hx hb dX11_follow_70 rfl (lv_at hl 1 rfl) ?_
      refine gfX11_306 (v := (sM 24)) hx hb hts hown hK hP 0 rfl rfl dX11_follow_71 ?_
      refine lv_aload_n hx hb dX11_follow_74 rfl (lv_at hl 1 rfl) ?_
      refine gfX11_36 hx hb hts hown hK hP 0 rfl dX11_follow_75 ?_
      refine lv_iconst (v := (0 : Int32)) hx hb dX11_follow_78 (by decide) ?_
      refine ldi (k := 0) hx hb hK hP 1 rfl (inL (by decide)) (by decide) dX11_follow_79 ?_
      obtain ⟨hne, h⟩ := h
      refine lv_irem hx hb dX11_follow_80 hne ?_
      refine lv_isub hx hb dX11_follow_81 ?_
      refine lv_topi (fun l3_82 el3_82 => ?_)
      have h := h l3_82 el3_82
      refine lv_istore_n (lv' := [(3, .int l3_82), (2, .int t0), (0, .ref h0), (1, .int l1)]) hx hb dX11_follow_82 rfl hl (by decide) rfl (fun ls hl => ?_)
      refine lv_aload_n hx hb dX11_follow_83 rfl (lv_at hl 2 rfl) ?_
      refine gfX11_40 hx hb hts hown hK hP 0 rfl dX11_follow_84 ?_
      refine lv_iload_n hx hb dX11_follow_87 rfl (lv_at hl 3 rfl) ?_
      obtain ⟨hin, h⟩ := h
      refine ldi (k := l1.toNatClampNeg) hx hb hK hP 2 rfl hin rfl dX11_follow_88 ?_
      refine lv_aload_n hx hb dX11_follow_89 rfl (lv_at hl 2 rfl) ?_
      refine gfX11_36 hx hb hts hown hK hP 0 rfl dX11_follow_90 ?_
      refine lv_iconst (v := (0 : Int32)) hx hb dX11_follow_93 (by decide) ?_
      refine ldi (k := 0) hx hb hK hP 1 rfl (inL (by decide)) (by decide) dX11_follow_94 ?_
      obtain ⟨hne, h⟩ := h
      refine lv_idiv hx hb dX11_follow_95 hne ?_
      refine lv_aload_n hx hb dX11_follow_96 rfl (lv_at hl 2 rfl) ?_
      refine gfX11_306 (v := (sM 24)) hx hb hts hown hK hP 0 rfl rfl dX11_follow_97 ?_
      refine lv_aload_n hx hb dX11_follow_100 rfl (lv_at hl 2 rfl) ?_
      refine gfX11_36 hx hb hts hown hK hP 0 rfl dX11_follow_101 ?_
      refine lv_iconst (v := (0 : Int32)) hx hb dX11_follow_104 (by decide) ?_
      refine ldi (k := 0) hx hb hK hP 1 rfl (inL (by decide)) (by decide) dX11_follow_105 ?_
      obtain ⟨hne, h⟩ := h
      refine lv_idiv hx hb dX11_follow_106 hne ?_
      refine lv_isub hx hb dX11_follow_107 ?_
      refine lv_topi (fun l4_108 el4_108 => ?_)
      have h := h l4_108 el4_108
      refine lv_istore (lv' := [(4, .int l4_108), (3, .int l3_82), (2, .int t0), (0, .ref h0), (1, .int l1)]) hx hb dX11_follow_108 hl (by decide) rfl (fun ls hl => ?_)
      refine lv_iload_n hx hb dX11_follow_110 rfl (lv_at hl 1 rfl) ?_
      refine mabs hx hb (hml.trans hl.1.symm) hts hown mw1493 (Nat.le_trans (by decide) hRf) (Nat.le_trans (Nat.le_of_ble_eq_true rfl) hRl) (Nat.zero_le _) (Nat.zero_le _) dX11_follow_111 ?_
      refine lv_iload hx hb dX11_follow_114 (lv_at hl 0 rfl) ?_
      refine mabs hx hb (hml.trans hl.1.symm) hts hown mw1493 (Nat.le_trans (by decide) hRf) (Nat.le_trans (Nat.le_of_ble_eq_true rfl) hRl) (Nat.zero_le _) (Nat.zero_le _) dX11_follow_116 ?_
      refine lv_icmp_lt (tgt := 134) hx hb dX11_follow_119 (by decide) (fun c119 => ?_) (fun c119 => ?_)
      · have h := h.1 c119
        refine lv_iload hx hb dX11_follow_134 (lv_at hl 0 rfl) ?_
        refine lv_if_le (tgt := 143) hx hb dX11_follow_136 (by decide) (fun c136 => ?_) (fun c136 => ?_)
        · have h := h.1 c136
          refine lv_iconst (v := (0 : Int32)) hx hb dX11_follow_143 (by decide) ?_
          exact J144 l1 t0 (0 : Int32) _ _ _ h hP hD hS (lv_sub hl [3, 4, 2] rfl)
        · have h := h.2 c136
          refine lv_iconst (v := (2 : Int32)) hx hb dX11_follow_139 (by decide) ?_
          refine lv_goto (tgt := 144) hx hb dX11_follow_140 (by decide) ?_
          exact J144 l1 t0 (2 : Int32) _ _ _ h hP hD hS (lv_sub hl [3, 4, 2] rfl)
      · have h := h.2 c119
        refine lv_iload_n hx hb dX11_follow_122 rfl (lv_at hl 1 rfl) ?_
        refine lv_if_le (tgt := 130) hx hb dX11_follow_123 (by decide) (fun c123 => ?_) (fun c123 => ?_)
        · have h := h.1 c123
          refine lv_iconst (v := (3 : Int32)) hx hb dX11_follow_130 (by decide) ?_
          refine lv_goto (tgt := 144) hx hb dX11_follow_131 (by decide) ?_
          exact J144 l1 t0 (3 : Int32) _ _ _ h hP hD hS (lv_sub hl [3, 4, 2] rfl)
        · have h := h.2 c123
          refine lv_iconst (v := (1 : Int32)) hx hb dX11_follow_126 (by decide) ?_
          refine lv_goto (tgt := 144) hx hb dX11_follow_127 (by decide) ?_
          exact J144 l1 t0 (1 : Int32) _ _ _ h hP hD hS (lv_sub hl [3, 4, 2] rfl)
    · have h := h.2 c52
      refine lv_iload_n hx hb dX11_follow_55 rfl (lv_at hl 0 rfl) ?_
      exact hret t0 (sM) _ _ _ _ rfl dX11_follow_56 h hP hD hS
  refine lv_iload_n hx hb dX11_follow_0 rfl (lv_at hl 1 rfl) ?_
  refine lv_iconst (v := (-1 : Int32)) hx hb dX11_follow_1 (by decide) ?_
  refine lv_icmp_ne (tgt := 27) hx hb dX11_follow_2 (by decide) (fun c2 => ?_) (fun c2 => ?_)
  · have h := h.1 c2
    refine lv_aload_n hx hb dX11_follow_27 rfl (lv_at hl 0 rfl) ?_
    refine gfX11_61 hx hb hts hown hK hP 0 rfl dX11_follow_28 ?_
    refine lv_iload_n hx hb dX11_follow_31 rfl (lv_at hl 1 rfl) ?_
    obtain ⟨hin, h⟩ := h
    refine ldz (k := x1.toNatClampNeg) hx hb hK hP 3 rfl hin rfl dX11_follow_32 ?_
    refine lv_if_eq (tgt := 40) hx hb dX11_follow_33 (by decide) (fun c33 => ?_) (fun c33 => ?_)
    · have h := h.1 c33
      refine lv_iconst (v := (1 : Int32)) hx hb dX11_follow_40 (by decide) ?_
      exact J41 x1 (1 : Int32) _ _ _ h hP hD hS hl
    · have h := h.2 c33
      refine lv_iconst (v := (2 : Int32)) hx hb dX11_follow_36 (by decide) ?_
      refine lv_goto (tgt := 41) hx hb dX11_follow_37 (by decide) ?_
      exact J41 x1 (2 : Int32) _ _ _ h hP hD hS hl
  · have h := h.2 c2
    refine lv_aload_n hx hb dX11_follow_5 rfl (lv_at hl 0 rfl) ?_
    refine lv_aload_n hx hb dX11_follow_6 rfl (lv_at hl 0 rfl) ?_
    refine gfX11_309 (v := (sM 25)) hx hb hts hown hK hP 0 rfl rfl dX11_follow_7 ?_
    refine clVv (As := [.int (sM 25)]) (rest := []) (Wr := [((rM 4), .inl (cy 0, 10, .inl M_place)), ((rM 11), .inl (cy 2, 10, .inl M_isFalse)), ((rM 12), .inl (cy 2, 200, .inl M_isMirage))]) (cq := (RX11, TX11, 56)) ⟨hx, hb, hml, hown, hts⟩ ⟨callB_of 1 hts (goodC mw1545) rfl rfl rfl (hts _ (tb mw15)) (hts _ (tb mw1542)) kdX11_step ⟨Nat.le_trans (by decide) hRf, Nat.le_trans (by decide) hRl⟩, hts _ (tb mw1544), hts _ (tb ms73)⟩ (ctX11_step l D cy ev h0 rM sM M_told (sM 25) _ _ h) hE hK hP hD hS hA [0, 1] [2, 3, 4] rfl rfl (by decide) (by decide) (by decide) 0 rfl rfl rfl hl.1 rfl (Nat.le_of_ble_eq_true rfl) ⟨Nat.zero_le _, Nat.zero_le _⟩ dX11_follow_10 (fun sM_10 H locs h hP hD hS => ?_)
    have hP : va_P D clsX [((rM 4), .inl (cy 0, 10, .inl M_place)), ((rM 11), .inl (cy 2, 10, .inl M_isFalse)), ((rM 12), .inl (cy 2, 200, .inl M_isMirage)), (h0, .inr (11, oX11 rM sM_10)), ((rM 3), .inl (cy 0, 14, .inl M_told))] H := hP
    have hD : va_D A [((rM 4), .inl (cy 0, 10, .inl M_place)), ((rM 11), .inl (cy 2, 10, .inl M_isFalse)), ((rM 12), .inl (cy 2, 200, .inl M_isMirage)), (h0, .inr (11, oX11 rM sM_10)), ((rM 3), .inl (cy 0, 14, .inl M_told))] := hD
    refine lv_aload_n hx hb dX11_follow_13 rfl (lv_at hl 0 rfl) ?_
    refine lv_aload_n hx hb dX11_follow_14 rfl (lv_at hl 0 rfl) ?_
    refine gfX11_309 (v := (sM_10 25)) hx hb hts hown hK hP 3 rfl rfl dX11_follow_15 ?_
    refine lv_iconst (v := (1 : Int32)) hx hb dX11_follow_18 (by decide) ?_
    refine lv_iadd hx hb dX11_follow_19 ?_
    refine lv_iconst (v := (4 : Int32)) hx hb dX11_follow_20 (by decide) ?_
    refine lv_irem hx hb dX11_follow_21 (by decide) ?_
    refine lv_topi (fun f25_22 ef25_22 => ?_)
    have h := h f25_22 ef25_22
    refine pfX11_309 hx hb hts hown hK hP hD hS 3 rfl dX11_follow_22 (fun H locs hP hD hS => ?_)
    have hP : va_P D clsX [((rM 4), .inl (cy 0, 10, .inl M_place)), ((rM 11), .inl (cy 2, 10, .inl M_isFalse)), ((rM 12), .inl (cy 2, 200, .inl M_isMirage)), (h0, .inr (11, oX11 rM (upd sM_10 25 f25_22))), ((rM 3), .inl (cy 0, 14, .inl M_told))] H := hP
    have hD : va_D A [((rM 4), .inl (cy 0, 10, .inl M_place)), ((rM 11), .inl (cy 2, 10, .inl M_isFalse)), ((rM 12), .inl (cy 2, 200, .inl M_isMirage)), (h0, .inr (11, oX11 rM (upd sM_10 25 f25_22))), ((rM 3), .inl (cy 0, 14, .inl M_told))] := hD
    refine lv_iconst (v := (0 : Int32)) hx hb dX11_follow_25 (by decide) ?_
    exact hret (0 : Int32) ((upd sM_10 25 f25_22)) _ _ _ _ rfl dX11_follow_26 h (hP.sub [3, 4, 0, 1, 2] rfl) (hD.sub [3, 4, 0, 1, 2] (by decide) rfl) hS
def wpX11_hear_J261 (sM : AR) (M_told : AR) (M_place : AR) (M_range : AR) (M_voice : AR) (M_kind : AR) (M_isFalse : AR) (M_isMirage : AR) (row : AR) (l7 : Int32) (post : Int32 → AR → AR → Prop) : Prop := ((¬ l7 = (-1 : Int32) → post l7 sM row) ∧ (l7 = (-1 : Int32) → post (-2 : Int32) sM row))
def wpX11_hear_J193 (sM : AR) (M_told : AR) (M_place : AR) (M_range : AR) (M_voice : AR) (M_kind : AR) (M_isFalse : AR) (M_isMirage : AR) (row : AR) (l5 : Int32) (t0 : Int32) (post : Int32 → AR → AR → Prop) : Prop := vp_in (l5 + (0 : Int32)) 29 ∧ ∀ f24_202 : Int32, f24_202 = (row (l5 + (0 : Int32)).toNatClampNeg) → vp_in (l5 + (2 : Int32)) 29 ∧ ∀ f25_212 : Int32, f25_212 = (row (l5 + (2 : Int32)).toNatClampNeg) → wpX11_follow (upd (upd sM 24 f24_202) 25 f25_212) M_told M_place M_isFalse M_isMirage t0 (fun r223 sM_223 => vp_in (l5 + (3 : Int32)) 29 ∧ ∀ row_226 : AR, row_226 = upd row (l5 + (3 : Int32)).toNatClampNeg r223 → vp_in (l5 + (0 : Int32)) 29 ∧ ∀ row_236 : AR, row_236 = upd row_226 (l5 + (0 : Int32)).toNatClampNeg (sM_223 24) → vp_in (l5 + (2 : Int32)) 29 ∧ ∀ row_246 : AR, row_246 = upd row_236 (l5 + (2 : Int32)).toNatClampNeg (sM_223 25) → ((t0 = (-1 : Int32) → wpX11_hear_J261 sM_223 M_told M_place M_range M_voice M_kind M_isFalse M_isMirage row_246 t0 post) ∧ (¬ t0 = (-1 : Int32) → vp_in (l5 + (4 : Int32)) 29 ∧ ∀ row_260 : AR, row_260 = upd row_246 (l5 + (4 : Int32)).toNatClampNeg t0 → wpX11_hear_J261 sM_223 M_told M_place M_range M_voice M_kind M_isFalse M_isMirage row_260 t0 post)))
def wpX11_hear_J167 (sM : AR) (M_told : AR) (M_place : AR) (M_range : AR) (M_voice : AR) (M_kind : AR) (M_isFalse : AR) (M_isMirage : AR) (row : AR) (l5 : Int32) (l6 : Int32) (t0 : Int32) (post : Int32 → AR → AR → Prop) : Prop := ((¬ t0 = (-1 : Int32) → wpX11_hear_J193 sM M_told M_place M_range M_voice M_kind M_isFalse M_isMirage row l5 t0 post) ∧ (t0 = (-1 : Int32) → vp_in (l5 + (0 : Int32)) 29 ∧ wpX11_nearest M_told M_place M_voice l6 (row (l5 + (0 : Int32)).toNatClampNeg) (-1 : Int32) (fun r185 => wpX11_hear_J193 sM M_told M_place M_range M_voice M_kind M_isFalse M_isMirage row l5 r185 post)))
def wpX11_hear_J120 (sM : AR) (M_told : AR) (M_place : AR) (M_range : AR) (M_voice : AR) (M_kind : AR) (M_isFalse : AR) (M_isMirage : AR) (row : AR) (l2 : Int32) (l5 : Int32) (l6 : Int32) (post : Int32 → AR → AR → Prop) : Prop := vp_in l2 8 ∧ ((¬ (M_kind l2.toNatClampNeg) = (1 : Int32) → wpX11_hear_J167 sM M_told M_place M_range M_voice M_kind M_isFalse M_isMirage row l5 l6 (-1 : Int32) post) ∧ ((M_kind l2.toNatClampNeg) = (1 : Int32) → vp_in (l5 + (4 : Int32)) 29 ∧ (((row (l5 + (4 : Int32)).toNatClampNeg) = (-1 : Int32) → wpX11_hear_J167 sM M_told M_place M_range M_voice M_kind M_isFalse M_isMirage row l5 l6 (-1 : Int32) post) ∧ (¬ (row (l5 + (4 : Int32)).toNatClampNeg) = (-1 : Int32) → vp_in (l5 + (0 : Int32)) 29 ∧ vp_in (l5 + (4 : Int32)) 29 ∧ vp_in (row (l5 + (4 : Int32)).toNatClampNeg) 10 ∧ wpX11_nearest M_told M_place M_voice l6 (row (l5 + (0 : Int32)).toNatClampNeg) (M_voice (row (l5 + (4 : Int32)).toNatClampNeg).toNatClampNeg) (fun r160 => wpX11_hear_J167 sM M_told M_place M_range M_voice M_kind M_isFalse M_isMirage row l5 l6 r160 post)))))
def wpX11_hear_J85 (sM : AR) (M_told : AR) (M_place : AR) (M_range : AR) (M_voice : AR) (M_kind : AR) (M_isFalse : AR) (M_isMirage : AR) (row : AR) (l2 : Int32) (l3 : Int32) (l5 : Int32) (post : Int32 → AR → AR → Prop) : Prop := vp_in (l5 + (0 : Int32)) 29 ∧ wpX11_heardOf M_told M_place M_range l3 (row (l5 + (0 : Int32)).toNatClampNeg) (fun r93 => vp_in l2 8 ∧ ((¬ (M_kind l2.toNatClampNeg) = (2 : Int32) → wpX11_hear_J120 sM M_told M_place M_range M_voice M_kind M_isFalse M_isMirage row l2 l5 r93 post) ∧ ((M_kind l2.toNatClampNeg) = (2 : Int32) → wpX11_hasTwo M_told M_voice r93 (fun r111 => ((r111 = 0 → wpX11_hear_J120 sM M_told M_place M_range M_voice M_kind M_isFalse M_isMirage row l2 l5 r93 post) ∧ (¬ r111 = 0 → post (-2 : Int32) sM row))))))
def wpX11_hear_J60 (sM : AR) (M_told : AR) (M_place : AR) (M_range : AR) (M_voice : AR) (M_kind : AR) (M_isFalse : AR) (M_isMirage : AR) (row : AR) (l2 : Int32) (l3 : Int32) (l5 : Int32) (post : Int32 → AR → AR → Prop) : Prop := vp_in l2 8 ∧ ((¬ (M_kind l2.toNatClampNeg) = (3 : Int32) → wpX11_hear_J85 sM M_told M_place M_range M_voice M_kind M_isFalse M_isMirage row l2 l3 l5 post) ∧ ((M_kind l2.toNatClampNeg) = (3 : Int32) → vp_in (l5 + (5 : Int32)) 29 ∧ ((¬ (jrem (row (l5 + (5 : Int32)).toNatClampNeg) (2 : Int32)) = (1 : Int32) → wpX11_hear_J85 sM M_told M_place M_range M_voice M_kind M_isFalse M_isMirage row l2 l3 l5 post) ∧ ((jrem (row (l5 + (5 : Int32)).toNatClampNeg) (2 : Int32)) = (1 : Int32) → post (-3 : Int32) sM row))))
def wpX11_hear (sM : AR) (M_told : AR) (M_place : AR) (M_range : AR) (M_voice : AR) (M_kind : AR) (M_isFalse : AR) (M_isMirage : AR) (row : AR) (x2 : Int32) (x3 : Int32) (x4 : Int32) (post : Int32 → AR → AR → Prop) : Prop := ∀ l5_4 : Int32, l5_4 = ((6 : Int32) * x2) → vp_in (l5_4 + (5 : Int32)) 29 ∧ vp_in (l5_4 + (5 : Int32)) 29 ∧ ∀ row_15 : AR, row_15 = upd row (l5_4 + (5 : Int32)).toNatClampNeg ((row (l5_4 + (5 : Int32)).toNatClampNeg) + (1 : Int32)) → vp_in x2 8 ∧ (((M_kind x2.toNatClampNeg) = (4 : Int32) → wpX11_hear_J60 sM M_told M_place M_range M_voice M_kind M_isFalse M_isMirage row_15 x2 x3 l5_4 post) ∧ (¬ (M_kind x2.toNatClampNeg) = (4 : Int32) → ((x4 = 0 → wpX11_hear_J60 sM M_told M_place M_range M_voice M_kind M_isFalse M_isMirage row_15 x2 x3 l5_4 post) ∧ (¬ x4 = 0 → vp_in (l5_4 + (1 : Int32)) 29 ∧ ((¬ (row_15 (l5_4 + (1 : Int32)).toNatClampNeg) = 0 → vp_in (l5_4 + (1 : Int32)) 29 ∧ vp_in (l5_4 + (1 : Int32)) 29 ∧ ∀ row_59 : AR, row_59 = upd row_15 (l5_4 + (1 : Int32)).toNatClampNeg ((row_15 (l5_4 + (1 : Int32)).toNatClampNeg) - (1 : Int32)) → wpX11_hear_J60 sM M_told M_place M_range M_voice M_kind M_isFalse M_isMirage row_59 x2 x3 l5_4 post) ∧ ((row_15 (l5_4 + (1 : Int32)).toNatClampNeg) = 0 → vp_in (l5_4 + (3 : Int32)) 29 ∧ ∀ row_46 : AR, row_46 = upd row_15 (l5_4 + (3 : Int32)).toNatClampNeg (3 : Int32) → post (-3 : Int32) sM row_46))))))
set_option maxHeartbeats 4000000 in
set_option maxRecDepth 100000 in
theorem ctX11_hear (l : Launch) (D : va_G) (cy : Nat → ClassId) (ev : Nat → Nat) (h0 : Nat) (a1 : Nat) (rM : Nat → Nat) (sM : AR) (M_told : AR) (M_place : AR) (M_range : AR) (M_voice : AR) (M_kind : AR) (M_isFalse : AR) (M_isMirage : AR) (row : AR) (x2 : Int32) (x3 : Int32) (x4 : Int32) (sz : Nat) (post : Int32 → AR → AR → Prop) (h : wpX11_hear sM M_told M_place M_range M_voice M_kind M_isFalse M_isMirage row x2 x3 x4 post) : Met l yX11_hear (Cond.code yX11_hear cX11_hear 8 (some .int) :: TB) ({ frames := 4, cells := 0, slots := 0, locals := 131 }) (va_Pc [.ref h0, .ref a1, .int x2, .int x3, .int x4] (PreX D cy ev [(h0, .inr (11, oX11 rM sM)), ((rM 3), .inl (cy 0, 14, .inl M_told)), ((rM 4), .inl (cy 0, 10, .inl M_place)), ((rM 5), .inl (cy 0, 10, .inl M_range)), ((rM 6), .inl (cy 0, 10, .inl M_voice)), ((rM 7), .inl (cy 0, 8, .inl M_kind)), ((rM 11), .inl (cy 2, 10, .inl M_isFalse)), ((rM 12), .inl (cy 2, 200, .inl M_isMirage)), (a1, .inl (cy 0, 29, .inl row))] sz)) (va_Qi (fun (r : Int32) (u : AR × AR) => post r (u.1) (u.2)) (fun u => BkX D cy [(h0, .inr (11, oX11 rM sM)), ((rM 3), .inl (cy 0, 14, .inl M_told)), ((rM 4), .inl (cy 0, 10, .inl M_place)), ((rM 5), .inl (cy 0, 10, .inl M_range)), ((rM 6), .inl (cy 0, 10, .inl M_voice)), ((rM 7), .inl (cy 0, 8, .inl M_kind)), ((rM 11), .inl (cy 2, 10, .inl M_isFalse)), ((rM 12), .inl (cy 2, 200, .inl M_isMirage)), (a1, .inl (cy 0, 29, .inl row))] sz [(h0, .inr (11, oX11 rM (u.1))), ((rM 3), .inl (cy 0, 14, .inl M_told)), ((rM 4), .inl (cy 0, 10, .inl M_place)), ((rM 5), .inl (cy 0, 10, .inl M_range)), ((rM 6), .inl (cy 0, 10, .inl M_voice)), ((rM 7), .inl (cy 0, 8, .inl M_kind)), ((rM 11), .inl (cy 2, 10, .inl M_isFalse)), ((rM 12), .inl (cy 2, 200, .inl M_isMirage)), (a1, .inl (cy 0, 29, .inl (u.2)))]) (va_A [(h0, .inr (11, oX11 rM sM)), ((rM 3), .inl (cy 0, 14, .inl M_told)), ((rM 4), .inl (cy 0, 10, .inl M_place)), ((rM 5), .inl (cy 0, 10, .inl M_range)), ((rM 6), .inl (cy 0, 10, .inl M_voice)), ((rM 7), .inl (cy 0, 8, .inl M_kind)), ((rM 11), .inl (cy 2, 10, .inl M_isFalse)), ((rM 12), .inl (cy 2, 200, .inl M_isMirage)), (a1, .inl (cy 0, 29, .inl row))] sz)) 0 0 (va_A [(h0, .inr (11, oX11 rM sM)), ((rM 3), .inl (cy 0, 14, .inl M_told)), ((rM 4), .inl (cy 0, 10, .inl M_place)), ((rM 5), .inl (cy 0, 10, .inl M_range)), ((rM 6), .inl (cy 0, 10, .inl M_voice)), ((rM 7), .inl (cy 0, 8, .inl M_kind)), ((rM 11), .inl (cy 2, 10, .inl M_isFalse)), ((rM 12), .inl (cy 2, 200, .inl M_isMirage)), (a1, .inl (cy 0, 29, .inl row))] sz) := by
  refine ofWi (by decide) (Nat.le_of_ble_eq_true rfl) ?_
  intro p e s m args below meth c ls A R QQ hx hb hml hown hts hR hlk hE hK hP hD hS hA hl hret
  have hown : s.vm.findClass RX11 = some m.cls := hown
  have hRf : 4 ≤ R.frames := by rw [hR]; exact Nat.le_refl _
  have hRl : 131 ≤ R.locals := by rw [hR]; exact Nat.le_refl _
  clear hR
  have hl : lv_has ls 8 [(0, .ref h0), (1, .ref a1), (2, .int x2), (3, .int x3), (4, .int x4)] := hl
  have J60 : ∀ (row : AR) (l2 : Int32) (l3 : Int32) (l5 : Int32) (H : Heap) (locs : List Loc) (ls : Array Slot), wpX11_hear_J60 sM M_told M_place M_range M_voice M_kind M_isFalse M_isMirage row l2 l3 l5 post → va_P D clsX [(h0, .inr (11, oX11 rM sM)), ((rM 3), .inl (cy 0, 14, .inl M_told)), ((rM 4), .inl (cy 0, 10, .inl M_place)), ((rM 5), .inl (cy 0, 10, .inl M_range)), ((rM 6), .inl (cy 0, 10, .inl M_voice)), ((rM 7), .inl (cy 0, 8, .inl M_kind)), ((rM 11), .inl (cy 2, 10, .inl M_isFalse)), ((rM 12), .inl (cy 2, 200, .inl M_isMirage)), (a1, .inl (cy 0, 29, .inl row))] H → va_D A [(h0, .inr (11, oX11 rM sM)), ((rM 3), .inl (cy 0, 14, .inl M_told)), ((rM 4), .inl (cy 0, 10, .inl M_place)), ((rM 5), .inl (cy 0, 10, .inl M_range)), ((rM 6), .inl (cy 0, 10, .inl M_voice)), ((rM 7), .inl (cy 0, 8, .inl M_kind)), ((rM 11), .inl (cy 2, 10, .inl M_isFalse)), ((rM 12), .inl (cy 2, 200, .inl M_isMirage)), (a1, .inl (cy 0, 29, .inl row))] → va_S A s.heap H locs → lv_has ls 8 [(0, .ref h0), (1, .ref a1), (2, .int l2), (3, .int l3), (5, .int l5)] → W p l e R s m args below meth c H locs 0 0 QQ (F0 m 60 ls []) := by
    intro row l2 l3 l5 H locs ls h hP hD hS hl
    have J85 : ∀ (row : AR) (l2 : Int32) (l3 : Int32) (l5 : Int32) (H : Heap) (locs : List Loc) (ls : Array Slot), wpX11_hear_J85 sM M_told M_place M_range M_voice M_kind M_isFalse M_isMirage row l2 l3 l5 post → va_P D clsX [(h0, .inr (11, oX11 rM sM)), ((rM 3), .inl (cy 0, 14, .inl M_told)), ((rM 4), .inl (cy 0, 10, .inl M_place)), ((rM 5), .inl (cy 0, 10, .inl M_range)), ((rM 6), .inl (cy 0, 10, .inl M_voice)), ((rM 7), .inl (cy 0, 8, .inl M_kind)), ((rM 11), .inl (cy 2, 10, .inl M_isFalse)), ((rM 12), .inl (cy 2, 200, .inl M_isMirage)), (a1, .inl (cy 0, 29, .inl row))] H → va_D A [(h0, .inr (11, oX11 rM sM)), ((rM 3), .inl (cy 0, 14, .inl M_told)), ((rM 4), .inl (cy 0, 10, .inl M_place)), ((rM 5), .inl (cy 0, 10, .inl M_range)), ((rM 6), .inl (cy 0, 10, .inl M_voice)), ((rM 7), .inl (cy 0, 8, .inl M_kind)), ((rM 11), .inl (cy 2, 10, .inl M_isFalse)), ((rM 12), .inl (cy 2, 200, .inl M_isMirage)), (a1, .inl (cy 0, 29, .inl row))] → va_S A s.heap H locs → lv_has ls 8 [(0, .ref h0), (1, .ref a1), (2, .int l2), (3, .int l3), (5, .int l5)] → W p l e R s m args below meth c H locs 0 0 QQ (F0 m 85 ls []) := by
      intro row l2 l3 l5 H locs ls h hP hD hS hl
      have J120 : ∀ (row : AR) (l2 : Int32) (l5 : Int32) (l6 : Int32) (H : Heap) (locs : List Loc) (ls : Array Slot), wpX11_hear_J120 sM M_told M_place M_range M_voice M_kind M_isFalse M_isMirage row l2 l5 l6 post → va_P D clsX [(h0, .inr (11, oX11 rM sM)), ((rM 3), .inl (cy 0, 14, .inl M_told)), ((rM 4), .inl (cy 0, 10, .inl M_place)), ((rM 5), .inl (cy 0, 10, .inl M_range)), ((rM 6), .inl (cy 0, 10, .inl M_voice)), ((rM 7), .inl (cy 0, 8, .inl M_kind)), ((rM 11), .inl (cy 2, 10, .inl M_isFalse)), ((rM 12), .inl (cy 2, 200, .inl M_isMirage)), (a1, .inl (cy 0, 29, .inl row))] H → va_D A [(h0, .inr (11, oX11 rM sM)), ((rM 3), .inl (cy 0, 14, .inl M_told)), ((rM 4), .inl (cy 0, 10, .inl M_place)), ((rM 5), .inl (cy 0, 10, .inl M_range)), ((rM 6), .inl (cy 0, 10, .inl M_voice)), ((rM 7), .inl (cy 0, 8, .inl M_kind)), ((rM 11), .inl (cy 2, 10, .inl M_isFalse)), ((rM 12), .inl (cy 2, 200, .inl M_isMirage)), (a1, .inl (cy 0, 29, .inl row))] → va_S A s.heap H locs → lv_has ls 8 [(0, .ref h0), (1, .ref a1), (2, .int l2), (5, .int l5), (6, .int l6)] → W p l e R s m args below meth c H locs 0 0 QQ (F0 m 120 ls []) := by
        intro row l2 l5 l6 H locs ls h hP hD hS hl
        have J167 : ∀ (row : AR) (l5 : Int32) (l6 : Int32) (t0 : Int32) (H : Heap) (locs : List Loc) (ls : Array Slot), wpX11_hear_J167 sM M_told M_place M_range M_voice M_kind M_isFalse M_isMirage row l5 l6 t0 post → va_P D clsX [(h0, .inr (11, oX11 rM sM)), ((rM 3), .inl (cy 0, 14, .inl M_told)), ((rM 4), .inl (cy 0, 10, .inl M_place)), ((rM 5), .inl (cy 0, 10, .inl M_range)), ((rM 6), .inl (cy 0, 10, .inl M_voice)), ((rM 7), .inl (cy 0, 8, .inl M_kind)), ((rM 11), .inl (cy 2, 10, .inl M_isFalse)), ((rM 12), .inl (cy 2, 200, .inl M_isMirage)), (a1, .inl (cy 0, 29, .inl row))] H → va_D A [(h0, .inr (11, oX11 rM sM)), ((rM 3), .inl (cy 0, 14, .inl M_told)), ((rM 4), .inl (cy 0, 10, .inl M_place)), ((rM 5), .inl (cy 0, 10, .inl M_range)), ((rM 6), .inl (cy 0, 10, .inl M_voice)), ((rM 7), .inl (cy 0, 8, .inl M_kind)), ((rM 11), .inl (cy 2, 10, .inl M_isFalse)), ((rM 12), .inl (cy 2, 200, .inl M_isMirage)), (a1, .inl (cy 0, 29, .inl row))] → va_S A s.heap H locs → lv_has ls 8 [(0, .ref h0), (1, .ref a1), (5, .int l5), (6, .int l6)] → W p l e R s m args below meth c H locs 0 0 QQ (F0 m 167 ls [.int t0]) := by
          intro row l5 l6 t0 H locs ls h hP hD hS hl
          have J193 : ∀ (row : AR) (l5 : Int32) (t0 : Int32) (H : Heap) (locs : List Loc) (ls : Array Slot), wpX11_hear_J193 sM M_told M_place M_range M_voice M_kind M_isFalse M_isMirage row l5 t0 post → va_P D clsX [(h0, .inr (11, oX11 rM sM)), ((rM 3), .inl (cy 0, 14, .inl M_told)), ((rM 4), .inl (cy 0, 10, .inl M_place)), ((rM 5), .inl (cy 0, 10, .inl M_range)), ((rM 6), .inl (cy 0, 10, .inl M_voice)), ((rM 7), .inl (cy 0, 8, .inl M_kind)), ((rM 11), .inl (cy 2, 10, .inl M_isFalse)), ((rM 12), .inl (cy 2, 200, .inl M_isMirage)), (a1, .inl (cy 0, 29, .inl row))] H → va_D A [(h0, .inr (11, oX11 rM sM)), ((rM 3), .inl (cy 0, 14, .inl M_told)), ((rM 4), .inl (cy 0, 10, .inl M_place)), ((rM 5), .inl (cy 0, 10, .inl M_range)), ((rM 6), .inl (cy 0, 10, .inl M_voice)), ((rM 7), .inl (cy 0, 8, .inl M_kind)), ((rM 11), .inl (cy 2, 10, .inl M_isFalse)), ((rM 12), .inl (cy 2, 200, .inl M_isMirage)), (a1, .inl (cy 0, 29, .inl row))] → va_S A s.heap H locs → lv_has ls 8 [(0, .ref h0), (1, .ref a1), (5, .int l5)] → W p l e R s m args below meth c H locs 0 0 QQ (F0 m 193 ls [.int t0]) := by
            intro row l5 t0 H locs ls h hP hD hS hl
            have J261 : ∀ (sM : AR) (row : AR) (l7 : Int32) (H : Heap) (locs : List Loc) (ls : Array Slot), wpX11_hear_J261 sM M_told M_place M_range M_voice M_kind M_isFalse M_isMirage row l7 post → va_P D clsX [(h0, .inr (11, oX11 rM sM)), ((rM 3), .inl (cy 0, 14, .inl M_told)), ((rM 4), .inl (cy 0, 10, .inl M_place)), ((rM 5), .inl (cy 0, 10, .inl M_range)), ((rM 6), .inl (cy 0, 10, .inl M_voice)), ((rM 7), .inl (cy 0, 8, .inl M_kind)), ((rM 11), .inl (cy 2, 10, .inl M_isFalse)), ((rM 12), .inl (cy 2, 200, .inl M_isMirage)), (a1, .inl (cy 0, 29, .inl row))] H → va_D A [(h0, .inr (11, oX11 rM sM)), ((rM 3), .inl (cy 0, 14, .inl M_told)), ((rM 4), .inl (cy 0, 10, .inl M_place)), ((rM 5), .inl (cy 0, 10, .inl M_range)), ((rM 6), .inl (cy 0, 10, .inl M_voice)), ((rM 7), .inl (cy 0, 8, .inl M_kind)), ((rM 11), .inl (cy 2, 10, .inl M_isFalse)), ((rM 12), .inl (cy 2, 200, .inl M_isMirage)), (a1, .inl (cy 0, 29, .inl row))] → va_S A s.heap H locs → lv_has ls 8 [(0, .ref h0), (1, .ref a1), (7, .int l7)] → W p l e R s m args below meth c H locs 0 0 QQ (F0 m 261 ls []) := by
              intro sM row l7 H locs ls h hP hD hS hl
              refine lv_iload hx hb dX11_hear_261 (lv_at hl 2 rfl) ?_
              refine lv_iconst (v := (-1 : Int32)) hx hb dX11_hear_263 (by decide) ?_
              refine lv_icmp_ne (tgt := 272) hx hb dX11_hear_264 (by decide) (fun c264 => ?_) (fun c264 => ?_)
              · have h := h.1 c264
                refine lv_iload hx hb dX11_hear_272 (lv_at hl 2 rfl) ?_
                exact hret l7 (sM, row) _ _ _ _ rfl dX11_hear_274 h hP hD hS
              · have h := h.2 c264
                refine lv_bipush (v := (-2 : Int32)) hx hb dX11_hear_267 (by decide) ?_
                refine lv_goto (tgt := 274) hx hb dX11_hear_269 (by decide) ?_
                exact hret (-2 : Int32) (sM, row) _ _ _ _ rfl dX11_hear_274 h hP hD hS
            refine lv_istore (lv' := [(7, .int t0), (0, .ref h0), (1, .ref a1), (5, .int l5)]) hx hb dX11_hear_193 hl (by decide) rfl (fun ls hl => ?_)
            refine lv_aload_n hx hb dX11_hear_195 rfl (lv_at hl 1 rfl) ?_
            refine lv_aload_n hx hb dX11_hear_196 rfl (lv_at hl 2 rfl) ?_
            refine lv_iload hx hb dX11_hear_197 (lv_at hl 3 rfl) ?_
            refine lv_iconst (v := (0 : Int32)) hx hb dX11_hear_199 (by decide) ?_
            refine lv_iadd hx hb dX11_hear_200 ?_
            obtain ⟨hin, h⟩ := h
            refine ldi (k := (l5 + (0 : Int32)).toNatClampNeg) hx hb hK hP 8 rfl hin rfl dX11_hear_201 ?_
            refine lv_topi (fun f24_202 ef24_202 => ?_)
            have h := h f24_202 ef24_202
            refine pfX11_306 hx hb hts hown hK hP hD hS 0 rfl dX11_hear_202 (fun H locs hP hD hS => ?_)
            have hP : va_P D clsX [(h0, .inr (11, oX11 rM (upd sM 24 f24_202))), ((rM 3), .inl (cy 0, 14, .inl M_told)), ((rM 4), .inl (cy 0, 10, .inl M_place)), ((rM 5), .inl (cy 0, 10, .inl M_range)), ((rM 6), .inl (cy 0, 10, .inl M_voice)), ((rM 7), .inl (cy 0, 8, .inl M_kind)), ((rM 11), .inl (cy 2, 10, .inl M_isFalse)), ((rM 12), .inl (cy 2, 200, .inl M_isMirage)), (a1, .inl (cy 0, 29, .inl row))] H := hP
            have hD : va_D A [(h0, .inr (11, oX11 rM (upd sM 24 f24_202))), ((rM 3), .inl (cy 0, 14, .inl M_told)), ((rM 4), .inl (cy 0, 10, .inl M_place)), ((rM 5), .inl (cy 0, 10, .inl M_range)), ((rM 6), .inl (cy 0, 10, .inl M_voice)), ((rM 7), .inl (cy 0, 8, .inl M_kind)), ((rM 11), .inl (cy 2, 10, .inl M_isFalse)), ((rM 12), .inl (cy 2, 200, .inl M_isMirage)), (a1, .inl (cy 0, 29, .inl row))] := hD
            refine lv_aload_n hx hb dX11_hear_205 rfl (lv_at hl 1 rfl) ?_
            refine lv_aload_n hx hb dX11_hear_206 rfl (lv_at hl 2 rfl) ?_
            refine lv_iload hx hb dX11_hear_207 (lv_at hl 3 rfl) ?_
            refine lv_iconst (v := (2 : Int32)) hx hb dX11_hear_209 (by decide) ?_
            refine lv_iadd hx hb dX11_hear_210 ?_
            obtain ⟨hin, h⟩ := h
            refine ldi (k := (l5 + (2 : Int32)).toNatClampNeg) hx hb hK hP 8 rfl hin rfl dX11_hear_211 ?_
            refine lv_topi (fun f25_212 ef25_212 => ?_)
            have h := h f25_212 ef25_212
            refine pfX11_309 hx hb hts hown hK hP hD hS 0 rfl dX11_hear_212 (fun H locs hP hD hS => ?_)
            have hP : va_P D clsX [(h0, .inr (11, oX11 rM (upd (upd sM 24 f24_202) 25 f25_212))), ((rM 3), .inl (cy 0, 14, .inl M_told)), ((rM 4), .inl (cy 0, 10, .inl M_place)), ((rM 5), .inl (cy 0, 10, .inl M_range)), ((rM 6), .inl (cy 0, 10, .inl M_voice)), ((rM 7), .inl (cy 0, 8, .inl M_kind)), ((rM 11), .inl (cy 2, 10, .inl M_isFalse)), ((rM 12), .inl (cy 2, 200, .inl M_isMirage)), (a1, .inl (cy 0, 29, .inl row))] H := hP
            have hD : va_D A [(h0, .inr (11, oX11 rM (upd (upd sM 24 f24_202) 25 f25_212))), ((rM 3), .inl (cy 0, 14, .inl M_told)), ((rM 4), .inl (cy 0, 10, .inl M_place)), ((rM 5), .inl (cy 0, 10, .inl M_range)), ((rM 6), .inl (cy 0, 10, .inl M_voice)), ((rM 7), .inl (cy 0, 8, .inl M_kind)), ((rM 11), .inl (cy 2, 10, .inl M_isFalse)), ((rM 12), .inl (cy 2, 200, .inl M_isMirage)), (a1, .inl (cy 0, 29, .inl row))] := hD
            refine lv_aload_n hx hb dX11_hear_215 rfl (lv_at hl 2 rfl) ?_
            refine lv_iload hx hb dX11_hear_216 (lv_at hl 3 rfl) ?_
            refine lv_iconst (v := (3 : Int32)) hx hb dX11_hear_218 (by decide) ?_
            refine lv_iadd hx hb dX11_hear_219 ?_
            refine lv_aload_n hx hb dX11_hear_220 rfl (lv_at hl 1 rfl) ?_
            refine lv_iload hx hb dX11_hear_221 (lv_at hl 0 rfl) ?_
            refine clVi (As := [.int t0]) (rest := [.int (l5 + (3 : Int32)), .ref a1]) (Wr := [((rM 5), .inl (cy 0, 10, .inl M_range)), ((rM 6), .inl (cy 0, 10, .inl M_voice)), ((rM 7), .inl (cy 0, 8, .inl M_kind)), (a1, .inl (cy 0, 29, .inl row))]) (cq := (RX11, TX11, 56)) ⟨hx, hb, hml, hown, hts⟩ ⟨callB_of 1 hts (goodC mw1541) rfl rfl rfl (hts _ (tb mw15)) (hts _ (tb mw1538)) kdX11_follow ⟨Nat.le_trans (by decide) hRf, Nat.le_trans (by decide) hRl⟩, hts _ (tb mw1540), hts _ (tb ms72)⟩ (ctX11_follow l D cy ev h0 rM (upd (upd sM 24 f24_202) 25 f25_212) M_told M_place M_isFalse M_isMirage t0 _ _ h) hE hK hP hD hS hA [0, 1, 2, 6, 7] [3, 4, 5, 8] rfl rfl (by decide) (by decide) (by decide) 0 rfl rfl rfl hl.1 rfl (Nat.le_of_ble_eq_true rfl) ⟨Nat.zero_le _, Nat.zero_le _⟩ dX11_hear_223 (fun r223 sM_223 H locs h hP hD hS => ?_)
            have hP : va_P D clsX [((rM 5), .inl (cy 0, 10, .inl M_range)), ((rM 6), .inl (cy 0, 10, .inl M_voice)), ((rM 7), .inl (cy 0, 8, .inl M_kind)), (a1, .inl (cy 0, 29, .inl row)), (h0, .inr (11, oX11 rM sM_223)), ((rM 3), .inl (cy 0, 14, .inl M_told)), ((rM 4), .inl (cy 0, 10, .inl M_place)), ((rM 11), .inl (cy 2, 10, .inl M_isFalse)), ((rM 12), .inl (cy 2, 200, .inl M_isMirage))] H := hP
            have hD : va_D A [((rM 5), .inl (cy 0, 10, .inl M_range)), ((rM 6), .inl (cy 0, 10, .inl M_voice)), ((rM 7), .inl (cy 0, 8, .inl M_kind)), (a1, .inl (cy 0, 29, .inl row)), (h0, .inr (11, oX11 rM sM_223)), ((rM 3), .inl (cy 0, 14, .inl M_told)), ((rM 4), .inl (cy 0, 10, .inl M_place)), ((rM 11), .inl (cy 2, 10, .inl M_isFalse)), ((rM 12), .inl (cy 2, 200, .inl M_isMirage))] := hD
            obtain ⟨hin, h⟩ := h
            refine sti (k := (l5 + (3 : Int32)).toNatClampNeg) (y := r223) hx hb hK hP hD hS 3 rfl hin rfl rfl dX11_hear_226 (fun row_226 erow_226 H locs hP hD hS => ?_)
            have h := h row_226 erow_226
            have hP : va_P D clsX [((rM 5), .inl (cy 0, 10, .inl M_range)), ((rM 6), .inl (cy 0, 10, .inl M_voice)), ((rM 7), .inl (cy 0, 8, .inl M_kind)), (a1, .inl (cy 0, 29, .inl row_226)), (h0, .inr (11, oX11 rM sM_223)), ((rM 3), .inl (cy 0, 14, .inl M_told)), ((rM 4), .inl (cy 0, 10, .inl M_place)), ((rM 11), .inl (cy 2, 10, .inl M_isFalse)), ((rM 12), .inl (cy 2, 200, .inl M_isMirage))] H := hP
            have hD : va_D A [((rM 5), .inl (cy 0, 10, .inl M_range)), ((rM 6), .inl (cy 0, 10, .inl M_voice)), ((rM 7), .inl (cy 0, 8, .inl M_kind)), (a1, .inl (cy 0, 29, .inl row_226)), (h0, .inr (11, oX11 rM sM_223)), ((rM 3), .inl (cy 0, 14, .inl M_told)), ((rM 4), .inl (cy 0, 10, .inl M_place)), ((rM 11), .inl (cy 2, 10, .inl M_isFalse)), ((rM 12), .inl (cy 2, 200, .inl M_isMirage))] := hD
            refine lv_aload_n hx hb dX11_hear_227 rfl (lv_at hl 2 rfl) ?_
            refine lv_iload hx hb dX11_hear_228 (lv_at hl 3 rfl) ?_
            refine lv_iconst (v := (0 : Int32)) hx hb dX11_hear_230 (by decide) ?_
            refine lv_iadd hx hb dX11_hear_231 ?_
            refine lv_aload_n hx hb dX11_hear_232 rfl (lv_at hl 1 rfl) ?_
            refine gfX11_306 (v := (sM_223 24)) hx hb hts hown hK hP 4 rfl rfl dX11_hear_233 ?_
            obtain ⟨hin, h⟩ := h
            refine sti (k := (l5 + (0 : Int32)).toNatClampNeg) (y := (sM_223 24)) hx hb hK hP hD hS 3 rfl hin rfl rfl dX11_hear_236 (fun row_236 erow_236 H locs hP hD hS => ?_)
            have h := h row_236 erow_236
            have hP : va_P D clsX [((rM 5), .inl (cy 0, 10, .inl M_range)), ((rM 6), .inl (cy 0, 10, .inl M_voice)), ((rM 7), .inl (cy 0, 8, .inl M_kind)), (a1, .inl (cy 0, 29, .inl row_236)), (h0, .inr (11, oX11 rM sM_223)), ((rM 3), .inl (cy 0, 14, .inl M_told)), ((rM 4), .inl (cy 0, 10, .inl M_place)), ((rM 11), .inl (cy 2, 10, .inl M_isFalse)), ((rM 12), .inl (cy 2, 200, .inl M_isMirage))] H := hP
            have hD : va_D A [((rM 5), .inl (cy 0, 10, .inl M_range)), ((rM 6), .inl (cy 0, 10, .inl M_voice)), ((rM 7), .inl (cy 0, 8, .inl M_kind)), (a1, .inl (cy 0, 29, .inl row_236)), (h0, .inr (11, oX11 rM sM_223)), ((rM 3), .inl (cy 0, 14, .inl M_told)), ((rM 4), .inl (cy 0, 10, .inl M_place)), ((rM 11), .inl (cy 2, 10, .inl M_isFalse)), ((rM 12), .inl (cy 2, 200, .inl M_isMirage))] := hD
            refine lv_aload_n hx hb dX11_hear_237 rfl (lv_at hl 2 rfl) ?_
            refine lv_iload hx hb dX11_hear_238 (lv_at hl 3 rfl) ?_
            refine lv_iconst (v := (2 : Int32)) hx hb dX11_hear_240 (by decide) ?_
            refine lv_iadd hx hb dX11_hear_241 ?_
            refine lv_aload_n hx hb dX11_hear_242 rfl (lv_at hl 1 rfl) ?_
            refine gfX11_309 (v := (sM_223 25)) hx hb hts hown hK hP 4 rfl rfl dX11_hear_243 ?_
            obtain ⟨hin, h⟩ := h
            refine sti (k := (l5 + (2 : Int32)).toNatClampNeg) (y := (sM_223 25)) hx hb hK hP hD hS 3 rfl hin rfl rfl dX11_hear_246 (fun row_246 erow_246 H locs hP hD hS => ?_)
            have h := h row_246 erow_246
            have hP : va_P D clsX [((rM 5), .inl (cy 0, 10, .inl M_range)), ((rM 6), .inl (cy 0, 10, .inl M_voice)), ((rM 7), .inl (cy 0, 8, .inl M_kind)), (a1, .inl (cy 0, 29, .inl row_246)), (h0, .inr (11, oX11 rM sM_223)), ((rM 3), .inl (cy 0, 14, .inl M_told)), ((rM 4), .inl (cy 0, 10, .inl M_place)), ((rM 11), .inl (cy 2, 10, .inl M_isFalse)), ((rM 12), .inl (cy 2, 200, .inl M_isMirage))] H := hP
            have hD : va_D A [((rM 5), .inl (cy 0, 10, .inl M_range)), ((rM 6), .inl (cy 0, 10, .inl M_voice)), ((rM 7), .inl (cy 0, 8, .inl M_kind)), (a1, .inl (cy 0, 29, .inl row_246)), (h0, .inr (11, oX11 rM sM_223)), ((rM 3), .inl (cy 0, 14, .inl M_told)), ((rM 4), .inl (cy 0, 10, .inl M_place)), ((rM 11), .inl (cy 2, 10, .inl M_isFalse)), ((rM 12), .inl (cy 2, 200, .inl M_isMirage))] := hD
            refine lv_iload hx hb dX11_hear_247 (lv_at hl 0 rfl) ?_
            refine lv_iconst (v := (-1 : Int32)) hx hb dX11_hear_249 (by decide) ?_
            refine lv_icmp_eq (tgt := 261) hx hb dX11_hear_250 (by decide) (fun c250 => ?_) (fun c250 => ?_)
            · have h := h.1 c250
              exact J261 sM_223 row_246 t0 _ _ _ h (hP.sub [4, 5, 6, 0, 1, 2, 7, 8, 3] rfl) (hD.sub [4, 5, 6, 0, 1, 2, 7, 8, 3] (by decide) rfl) hS (lv_sub hl [1, 2, 0] rfl)
            · have h := h.2 c250
              refine lv_aload_n hx hb dX11_hear_253 rfl (lv_at hl 2 rfl) ?_
              refine lv_iload hx hb dX11_hear_254 (lv_at hl 3 rfl) ?_
              refine lv_iconst (v := (4 : Int32)) hx hb dX11_hear_256 (by decide) ?_
              refine lv_iadd hx hb dX11_hear_257 ?_
              refine lv_iload hx hb dX11_hear_258 (lv_at hl 0 rfl) ?_
              obtain ⟨hin, h⟩ := h
              refine sti (k := (l5 + (4 : Int32)).toNatClampNeg) (y := t0) hx hb hK hP hD hS 3 rfl hin rfl rfl dX11_hear_260 (fun row_260 erow_260 H locs hP hD hS => ?_)
              have h := h row_260 erow_260
              have hP : va_P D clsX [((rM 5), .inl (cy 0, 10, .inl M_range)), ((rM 6), .inl (cy 0, 10, .inl M_voice)), ((rM 7), .inl (cy 0, 8, .inl M_kind)), (a1, .inl (cy 0, 29, .inl row_260)), (h0, .inr (11, oX11 rM sM_223)), ((rM 3), .inl (cy 0, 14, .inl M_told)), ((rM 4), .inl (cy 0, 10, .inl M_place)), ((rM 11), .inl (cy 2, 10, .inl M_isFalse)), ((rM 12), .inl (cy 2, 200, .inl M_isMirage))] H := hP
              have hD : va_D A [((rM 5), .inl (cy 0, 10, .inl M_range)), ((rM 6), .inl (cy 0, 10, .inl M_voice)), ((rM 7), .inl (cy 0, 8, .inl M_kind)), (a1, .inl (cy 0, 29, .inl row_260)), (h0, .inr (11, oX11 rM sM_223)), ((rM 3), .inl (cy 0, 14, .inl M_told)), ((rM 4), .inl (cy 0, 10, .inl M_place)), ((rM 11), .inl (cy 2, 10, .inl M_isFalse)), ((rM 12), .inl (cy 2, 200, .inl M_isMirage))] := hD
              exact J261 sM_223 row_260 t0 _ _ _ h (hP.sub [4, 5, 6, 0, 1, 2, 7, 8, 3] rfl) (hD.sub [4, 5, 6, 0, 1, 2, 7, 8, 3] (by decide) rfl) hS (lv_sub hl [1, 2, 0] rfl)
          refine lv_istore (lv' := [(7, .int t0), (0, .ref h0), (1, .ref a1), (5, .int l5), (6, .int l6)]) hx hb dX11_hear_167 hl (by decide) rfl (fun ls hl => ?_)
          refine lv_iload hx hb dX11_hear_169 (lv_at hl 0 rfl) ?_
          refine lv_iconst (v := (-1 : Int32)) hx hb dX11_hear_171 (by decide) ?_
          refine lv_icmp_ne (tgt := 191) hx hb dX11_hear_172 (by decide) (fun c172 => ?_) (fun c172 => ?_)
          · have h := h.1 c172
            refine lv_iload hx hb dX11_hear_191 (lv_at hl 0 rfl) ?_
            exact J193 row l5 t0 _ _ _ h hP hD hS (lv_sub hl [1, 2, 3] rfl)
          · have h := h.2 c172
            refine lv_aload_n hx hb dX11_hear_175 rfl (lv_at hl 1 rfl) ?_
            refine lv_iload hx hb dX11_hear_176 (lv_at hl 4 rfl) ?_
            refine lv_aload_n hx hb dX11_hear_178 rfl (lv_at hl 2 rfl) ?_
            refine lv_iload hx hb dX11_hear_179 (lv_at hl 3 rfl) ?_
            refine lv_iconst (v := (0 : Int32)) hx hb dX11_hear_181 (by decide) ?_
            refine lv_iadd hx hb dX11_hear_182 ?_
            obtain ⟨hin, h⟩ := h
            refine ldi (k := (l5 + (0 : Int32)).toNatClampNeg) hx hb hK hP 8 rfl hin rfl dX11_hear_183 ?_
            refine lv_iconst (v := (-1 : Int32)) hx hb dX11_hear_184 (by decide) ?_
            refine clVi (As := [.int l6, .int (row (l5 + (0 : Int32)).toNatClampNeg), .int (-1 : Int32)]) (rest := []) (Wr := [((rM 5), .inl (cy 0, 10, .inl M_range)), ((rM 7), .inl (cy 0, 8, .inl M_kind)), ((rM 11), .inl (cy 2, 10, .inl M_isFalse)), ((rM 12), .inl (cy 2, 200, .inl M_isMirage)), (a1, .inl (cy 0, 29, .inl row))]) (cq := (RX11, TX11, 56)) ⟨hx, hb, hml, hown, hts⟩ ⟨callB_of 3 hts (goodC mw1537) rfl rfl rfl (hts _ (tb mw15)) (hts _ (tb mw1534)) kdX11_nearest ⟨Nat.le_trans (by decide) hRf, Nat.le_trans (by decide) hRl⟩, hts _ (tb mw1536), hts _ (tb ms71)⟩ (ctX11_nearest l D cy ev h0 rM sM M_told M_place M_voice l6 (row (l5 + (0 : Int32)).toNatClampNeg) (-1 : Int32) _ _ h) hE hK hP hD hS hA [0, 1, 2, 4] [3, 5, 6, 7, 8] rfl rfl (by decide) (by decide) (by decide) 0 rfl rfl rfl hl.1 rfl (Nat.le_of_ble_eq_true rfl) ⟨Nat.zero_le _, Nat.zero_le _⟩ dX11_hear_185 (fun r185 u H locs h hP hD hS => ?_)
            have hP : va_P D clsX [((rM 5), .inl (cy 0, 10, .inl M_range)), ((rM 7), .inl (cy 0, 8, .inl M_kind)), ((rM 11), .inl (cy 2, 10, .inl M_isFalse)), ((rM 12), .inl (cy 2, 200, .inl M_isMirage)), (a1, .inl (cy 0, 29, .inl row)), (h0, .inr (11, oX11 rM sM)), ((rM 3), .inl (cy 0, 14, .inl M_told)), ((rM 4), .inl (cy 0, 10, .inl M_place)), ((rM 6), .inl (cy 0, 10, .inl M_voice))] H := hP
            have hD : va_D A [((rM 5), .inl (cy 0, 10, .inl M_range)), ((rM 7), .inl (cy 0, 8, .inl M_kind)), ((rM 11), .inl (cy 2, 10, .inl M_isFalse)), ((rM 12), .inl (cy 2, 200, .inl M_isMirage)), (a1, .inl (cy 0, 29, .inl row)), (h0, .inr (11, oX11 rM sM)), ((rM 3), .inl (cy 0, 14, .inl M_told)), ((rM 4), .inl (cy 0, 10, .inl M_place)), ((rM 6), .inl (cy 0, 10, .inl M_voice))] := hD
            refine lv_goto (tgt := 193) hx hb dX11_hear_188 (by decide) ?_
            exact J193 row l5 r185 _ _ _ h (hP.sub [5, 6, 7, 0, 8, 1, 2, 3, 4] rfl) (hD.sub [5, 6, 7, 0, 8, 1, 2, 3, 4] (by decide) rfl) hS (lv_sub hl [1, 2, 3] rfl)
        refine lv_aload_n hx hb dX11_hear_120 rfl (lv_at hl 0 rfl) ?_
        refine gfX11_49 hx hb hts hown hK hP 0 rfl dX11_hear_121 ?_
        refine lv_iload_n hx hb dX11_hear_124 rfl (lv_at hl 2 rfl) ?_
        obtain ⟨hin, h⟩ := h
        refine ldi (k := l2.toNatClampNeg) hx hb hK hP 5 rfl hin rfl dX11_hear_125 ?_
        refine lv_iconst (v := (1 : Int32)) hx hb dX11_hear_126 (by decide) ?_
        refine lv_icmp_ne (tgt := 166) hx hb dX11_hear_127 (by decide) (fun c127 => ?_) (fun c127 => ?_)
        · have h := h.1 c127
          refine lv_iconst (v := (-1 : Int32)) hx hb dX11_hear_166 (by decide) ?_
          exact J167 row l5 l6 (-1 : Int32) _ _ _ h hP hD hS (lv_sub hl [0, 1, 3, 4] rfl)
        · have h := h.2 c127
          refine lv_aload_n hx hb dX11_hear_130 rfl (lv_at hl 1 rfl) ?_
          refine lv_iload hx hb dX11_hear_131 (lv_at hl 3 rfl) ?_
          refine lv_iconst (v := (4 : Int32)) hx hb dX11_hear_133 (by decide) ?_
          refine lv_iadd hx hb dX11_hear_134 ?_
          obtain ⟨hin, h⟩ := h
          refine ldi (k := (l5 + (4 : Int32)).toNatClampNeg) hx hb hK hP 8 rfl hin rfl dX11_hear_135 ?_
          refine lv_iconst (v := (-1 : Int32)) hx hb dX11_hear_136 (by decide) ?_
          refine lv_icmp_eq (tgt := 166) hx hb dX11_hear_137 (by decide) (fun c137 => ?_) (fun c137 => ?_)
          · have h := h.1 c137
            refine lv_iconst (v := (-1 : Int32)) hx hb dX11_hear_166 (by decide) ?_
            exact J167 row l5 l6 (-1 : Int32) _ _ _ h hP hD hS (lv_sub hl [0, 1, 3, 4] rfl)
          · have h := h.2 c137
            refine lv_aload_n hx hb dX11_hear_140 rfl (lv_at hl 0 rfl) ?_
            refine lv_iload hx hb dX11_hear_141 (lv_at hl 4 rfl) ?_
            refine lv_aload_n hx hb dX11_hear_143 rfl (lv_at hl 1 rfl) ?_
            refine lv_iload hx hb dX11_hear_144 (lv_at hl 3 rfl) ?_
            refine lv_iconst (v := (0 : Int32)) hx hb dX11_hear_146 (by decide) ?_
            refine lv_iadd hx hb dX11_hear_147 ?_
            obtain ⟨hin, h⟩ := h
            refine ldi (k := (l5 + (0 : Int32)).toNatClampNeg) hx hb hK hP 8 rfl hin rfl dX11_hear_148 ?_
            refine lv_aload_n hx hb dX11_hear_149 rfl (lv_at hl 0 rfl) ?_
            refine gfX11_46 hx hb hts hown hK hP 0 rfl dX11_hear_150 ?_
            refine lv_aload_n hx hb dX11_hear_153 rfl (lv_at hl 1 rfl) ?_
            refine lv_iload hx hb dX11_hear_154 (lv_at hl 3 rfl) ?_
            refine lv_iconst (v := (4 : Int32)) hx hb dX11_hear_156 (by decide) ?_
            refine lv_iadd hx hb dX11_hear_157 ?_
            obtain ⟨hin, h⟩ := h
            refine ldi (k := (l5 + (4 : Int32)).toNatClampNeg) hx hb hK hP 8 rfl hin rfl dX11_hear_158 ?_
            obtain ⟨hin, h⟩ := h
            refine ldi (k := (row (l5 + (4 : Int32)).toNatClampNeg).toNatClampNeg) hx hb hK hP 4 rfl hin rfl dX11_hear_159 ?_
            refine clVi (As := [.int l6, .int (row (l5 + (0 : Int32)).toNatClampNeg), .int (M_voice (row (l5 + (4 : Int32)).toNatClampNeg).toNatClampNeg)]) (rest := []) (Wr := [((rM 5), .inl (cy 0, 10, .inl M_range)), ((rM 7), .inl (cy 0, 8, .inl M_kind)), ((rM 11), .inl (cy 2, 10, .inl M_isFalse)), ((rM 12), .inl (cy 2, 200, .inl M_isMirage)), (a1, .inl (cy 0, 29, .inl row))]) (cq := (RX11, TX11, 56)) ⟨hx, hb, hml, hown, hts⟩ ⟨callB_of 3 hts (goodC mw1537) rfl rfl rfl (hts _ (tb mw15)) (hts _ (tb mw1534)) kdX11_nearest ⟨Nat.le_trans (by decide) hRf, Nat.le_trans (by decide) hRl⟩, hts _ (tb mw1536), hts _ (tb ms71)⟩ (ctX11_nearest l D cy ev h0 rM sM M_told M_place M_voice l6 (row (l5 + (0 : Int32)).toNatClampNeg) (M_voice (row (l5 + (4 : Int32)).toNatClampNeg).toNatClampNeg) _ _ h) hE hK hP hD hS hA [0, 1, 2, 4] [3, 5, 6, 7, 8] rfl rfl (by decide) (by decide) (by decide) 0 rfl rfl rfl hl.1 rfl (Nat.le_of_ble_eq_true rfl) ⟨Nat.zero_le _, Nat.zero_le _⟩ dX11_hear_160 (fun r160 u H locs h hP hD hS => ?_)
            have hP : va_P D clsX [((rM 5), .inl (cy 0, 10, .inl M_range)), ((rM 7), .inl (cy 0, 8, .inl M_kind)), ((rM 11), .inl (cy 2, 10, .inl M_isFalse)), ((rM 12), .inl (cy 2, 200, .inl M_isMirage)), (a1, .inl (cy 0, 29, .inl row)), (h0, .inr (11, oX11 rM sM)), ((rM 3), .inl (cy 0, 14, .inl M_told)), ((rM 4), .inl (cy 0, 10, .inl M_place)), ((rM 6), .inl (cy 0, 10, .inl M_voice))] H := hP
            have hD : va_D A [((rM 5), .inl (cy 0, 10, .inl M_range)), ((rM 7), .inl (cy 0, 8, .inl M_kind)), ((rM 11), .inl (cy 2, 10, .inl M_isFalse)), ((rM 12), .inl (cy 2, 200, .inl M_isMirage)), (a1, .inl (cy 0, 29, .inl row)), (h0, .inr (11, oX11 rM sM)), ((rM 3), .inl (cy 0, 14, .inl M_told)), ((rM 4), .inl (cy 0, 10, .inl M_place)), ((rM 6), .inl (cy 0, 10, .inl M_voice))] := hD
            refine lv_goto (tgt := 167) hx hb dX11_hear_163 (by decide) ?_
            exact J167 row l5 l6 r160 _ _ _ h (hP.sub [5, 6, 7, 0, 8, 1, 2, 3, 4] rfl) (hD.sub [5, 6, 7, 0, 8, 1, 2, 3, 4] (by decide) rfl) hS (lv_sub hl [0, 1, 3, 4] rfl)
      refine lv_aload_n hx hb dX11_hear_85 rfl (lv_at hl 0 rfl) ?_
      refine lv_iload_n hx hb dX11_hear_86 rfl (lv_at hl 3 rfl) ?_
      refine lv_aload_n hx hb dX11_hear_87 rfl (lv_at hl 1 rfl) ?_
      refine lv_iload hx hb dX11_hear_88 (lv_at hl 4 rfl) ?_
      refine lv_iconst (v := (0 : Int32)) hx hb dX11_hear_90 (by decide) ?_
      refine lv_iadd hx hb dX11_hear_91 ?_
      obtain ⟨hin, h⟩ := h
      refine ldi (k := (l5 + (0 : Int32)).toNatClampNeg) hx hb hK hP 8 rfl hin rfl dX11_hear_92 ?_
      refine clVi (As := [.int l3, .int (row (l5 + (0 : Int32)).toNatClampNeg)]) (rest := []) (Wr := [((rM 6), .inl (cy 0, 10, .inl M_voice)), ((rM 7), .inl (cy 0, 8, .inl M_kind)), ((rM 11), .inl (cy 2, 10, .inl M_isFalse)), ((rM 12), .inl (cy 2, 200, .inl M_isMirage)), (a1, .inl (cy 0, 29, .inl row))]) (cq := (RX11, TX11, 56)) ⟨hx, hb, hml, hown, hts⟩ ⟨callB_of 2 hts (goodC mw1501) rfl rfl rfl (hts _ (tb mw15)) (hts _ (tb mw1498)) kdX11_heardOf ⟨Nat.le_trans (by decide) hRf, Nat.le_trans (by decide) hRl⟩, hts _ (tb mw1500), hts _ (tb ms63)⟩ (ctX11_heardOf l D cy ev h0 rM sM M_told M_place M_range l3 (row (l5 + (0 : Int32)).toNatClampNeg) _ _ h) hE hK hP hD hS hA [0, 1, 2, 3] [4, 5, 6, 7, 8] rfl rfl (by decide) (by decide) (by decide) 0 rfl rfl rfl hl.1 rfl (Nat.le_of_ble_eq_true rfl) ⟨Nat.zero_le _, Nat.zero_le _⟩ dX11_hear_93 (fun r93 u H locs h hP hD hS => ?_)
      have hP : va_P D clsX [((rM 6), .inl (cy 0, 10, .inl M_voice)), ((rM 7), .inl (cy 0, 8, .inl M_kind)), ((rM 11), .inl (cy 2, 10, .inl M_isFalse)), ((rM 12), .inl (cy 2, 200, .inl M_isMirage)), (a1, .inl (cy 0, 29, .inl row)), (h0, .inr (11, oX11 rM sM)), ((rM 3), .inl (cy 0, 14, .inl M_told)), ((rM 4), .inl (cy 0, 10, .inl M_place)), ((rM 5), .inl (cy 0, 10, .inl M_range))] H := hP
      have hD : va_D A [((rM 6), .inl (cy 0, 10, .inl M_voice)), ((rM 7), .inl (cy 0, 8, .inl M_kind)), ((rM 11), .inl (cy 2, 10, .inl M_isFalse)), ((rM 12), .inl (cy 2, 200, .inl M_isMirage)), (a1, .inl (cy 0, 29, .inl row)), (h0, .inr (11, oX11 rM sM)), ((rM 3), .inl (cy 0, 14, .inl M_told)), ((rM 4), .inl (cy 0, 10, .inl M_place)), ((rM 5), .inl (cy 0, 10, .inl M_range))] := hD
      refine lv_istore (lv' := [(6, .int r93), (0, .ref h0), (1, .ref a1), (2, .int l2), (3, .int l3), (5, .int l5)]) hx hb dX11_hear_96 hl (by decide) rfl (fun ls hl => ?_)
      refine lv_aload_n hx hb dX11_hear_98 rfl (lv_at hl 1 rfl) ?_
      refine gfX11_49 hx hb hts hown hK hP 5 rfl dX11_hear_99 ?_
      refine lv_iload_n hx hb dX11_hear_102 rfl (lv_at hl 3 rfl) ?_
      obtain ⟨hin, h⟩ := h
      refine ldi (k := l2.toNatClampNeg) hx hb hK hP 1 rfl hin rfl dX11_hear_103 ?_
      refine lv_iconst (v := (2 : Int32)) hx hb dX11_hear_104 (by decide) ?_
      refine lv_icmp_ne (tgt := 120) hx hb dX11_hear_105 (by decide) (fun c105 => ?_) (fun c105 => ?_)
      · have h := h.1 c105
        exact J120 row l2 l5 r93 _ _ _ h (hP.sub [5, 6, 7, 8, 0, 1, 2, 3, 4] rfl) (hD.sub [5, 6, 7, 8, 0, 1, 2, 3, 4] (by decide) rfl) hS (lv_sub hl [1, 2, 3, 5, 0] rfl)
      · have h := h.2 c105
        refine lv_aload_n hx hb dX11_hear_108 rfl (lv_at hl 1 rfl) ?_
        refine lv_iload hx hb dX11_hear_109 (lv_at hl 0 rfl) ?_
        refine clVi (As := [.int r93]) (rest := []) (Wr := [((rM 7), .inl (cy 0, 8, .inl M_kind)), ((rM 11), .inl (cy 2, 10, .inl M_isFalse)), ((rM 12), .inl (cy 2, 200, .inl M_isMirage)), (a1, .inl (cy 0, 29, .inl row)), ((rM 4), .inl (cy 0, 10, .inl M_place)), ((rM 5), .inl (cy 0, 10, .inl M_range))]) (cq := (RX11, TX11, 56)) ⟨hx, hb, hml, hown, hts⟩ ⟨callB_of 1 hts (goodC mw1533) rfl rfl rfl (hts _ (tb mw15)) (hts _ (tb mw1530)) kdX11_hasTwo ⟨Nat.le_trans (by decide) hRf, Nat.le_trans (by decide) hRl⟩, hts _ (tb mw1532), hts _ (tb ms70)⟩ (ctX11_hasTwo l D cy ev h0 rM sM M_told M_voice r93 _ _ h) hE hK hP hD hS hA [5, 6, 0] [1, 2, 3, 4, 7, 8] rfl rfl (by decide) (by decide) (by decide) 0 rfl rfl rfl hl.1 rfl (Nat.le_of_ble_eq_true rfl) ⟨Nat.zero_le _, Nat.zero_le _⟩ dX11_hear_111 (fun r111 u H locs h hP hD hS => ?_)
        have hP : va_P D clsX [((rM 7), .inl (cy 0, 8, .inl M_kind)), ((rM 11), .inl (cy 2, 10, .inl M_isFalse)), ((rM 12), .inl (cy 2, 200, .inl M_isMirage)), (a1, .inl (cy 0, 29, .inl row)), ((rM 4), .inl (cy 0, 10, .inl M_place)), ((rM 5), .inl (cy 0, 10, .inl M_range)), (h0, .inr (11, oX11 rM sM)), ((rM 3), .inl (cy 0, 14, .inl M_told)), ((rM 6), .inl (cy 0, 10, .inl M_voice))] H := hP
        have hD : va_D A [((rM 7), .inl (cy 0, 8, .inl M_kind)), ((rM 11), .inl (cy 2, 10, .inl M_isFalse)), ((rM 12), .inl (cy 2, 200, .inl M_isMirage)), (a1, .inl (cy 0, 29, .inl row)), ((rM 4), .inl (cy 0, 10, .inl M_place)), ((rM 5), .inl (cy 0, 10, .inl M_range)), (h0, .inr (11, oX11 rM sM)), ((rM 3), .inl (cy 0, 14, .inl M_told)), ((rM 6), .inl (cy 0, 10, .inl M_voice))] := hD
        refine lv_if_eq (tgt := 120) hx hb dX11_hear_114 (by decide) (fun c114 => ?_) (fun c114 => ?_)
        · have h := h.1 c114
          exact J120 row l2 l5 r93 _ _ _ h (hP.sub [6, 7, 4, 5, 8, 0, 1, 2, 3] rfl) (hD.sub [6, 7, 4, 5, 8, 0, 1, 2, 3] (by decide) rfl) hS (lv_sub hl [1, 2, 3, 5, 0] rfl)
        · have h := h.2 c114
          refine lv_bipush (v := (-2 : Int32)) hx hb dX11_hear_117 (by decide) ?_
          exact hret (-2 : Int32) (sM, row) _ _ _ _ rfl dX11_hear_119 h (hP.sub [6, 7, 4, 5, 8, 0, 1, 2, 3] rfl) (hD.sub [6, 7, 4, 5, 8, 0, 1, 2, 3] (by decide) rfl) hS
    refine lv_aload_n hx hb dX11_hear_60 rfl (lv_at hl 0 rfl) ?_
    refine gfX11_49 hx hb hts hown hK hP 0 rfl dX11_hear_61 ?_
    refine lv_iload_n hx hb dX11_hear_64 rfl (lv_at hl 2 rfl) ?_
    obtain ⟨hin, h⟩ := h
    refine ldi (k := l2.toNatClampNeg) hx hb hK hP 5 rfl hin rfl dX11_hear_65 ?_
    refine lv_iconst (v := (3 : Int32)) hx hb dX11_hear_66 (by decide) ?_
    refine lv_icmp_ne (tgt := 85) hx hb dX11_hear_67 (by decide) (fun c67 => ?_) (fun c67 => ?_)
    · have h := h.1 c67
      exact J85 row l2 l3 l5 _ _ _ h hP hD hS hl
    · have h := h.2 c67
      refine lv_aload_n hx hb dX11_hear_70 rfl (lv_at hl 1 rfl) ?_
      refine lv_iload hx hb dX11_hear_71 (lv_at hl 4 rfl) ?_
      refine lv_iconst (v := (5 : Int32)) hx hb dX11_hear_73 (by decide) ?_
      refine lv_iadd hx hb dX11_hear_74 ?_
      obtain ⟨hin, h⟩ := h
      refine ldi (k := (l5 + (5 : Int32)).toNatClampNeg) hx hb hK hP 8 rfl hin rfl dX11_hear_75 ?_
      refine lv_iconst (v := (2 : Int32)) hx hb dX11_hear_76 (by decide) ?_
      refine lv_irem hx hb dX11_hear_77 (by decide) ?_
      refine lv_iconst (v := (1 : Int32)) hx hb dX11_hear_78 (by decide) ?_
      refine lv_icmp_ne (tgt := 85) hx hb dX11_hear_79 (by decide) (fun c79 => ?_) (fun c79 => ?_)
      · have h := h.1 c79
        exact J85 row l2 l3 l5 _ _ _ h hP hD hS hl
      · have h := h.2 c79
        refine lv_bipush (v := (-3 : Int32)) hx hb dX11_hear_82 (by decide) ?_
        exact hret (-3 : Int32) (sM, row) _ _ _ _ rfl dX11_hear_84 h hP hD hS
  refine lv_bipush (v := (6 : Int32)) hx hb dX11_hear_0 (by decide) ?_
  refine lv_iload_n hx hb dX11_hear_2 rfl (lv_at hl 2 rfl) ?_
  refine lv_imul hx hb dX11_hear_3 ?_
  refine lv_topi (fun l5_4 el5_4 => ?_)
  have h := h l5_4 el5_4
  refine lv_istore (lv' := [(5, .int l5_4), (0, .ref h0), (1, .ref a1), (2, .int x2), (3, .int x3), (4, .int x4)]) hx hb dX11_hear_4 hl (by decide) rfl (fun ls hl => ?_)
  refine lv_aload_n hx hb dX11_hear_6 rfl (lv_at hl 2 rfl) ?_
  refine lv_iload hx hb dX11_hear_7 (lv_at hl 0 rfl) ?_
  refine lv_iconst (v := (5 : Int32)) hx hb dX11_hear_9 (by decide) ?_
  refine lv_iadd hx hb dX11_hear_10 ?_
  refine lv_dup2_11 hx hb dX11_hear_11 rfl rfl ?_
  obtain ⟨hin, h⟩ := h
  refine ldi (k := (l5_4 + (5 : Int32)).toNatClampNeg) hx hb hK hP 8 rfl hin rfl dX11_hear_12 ?_
  refine lv_iconst (v := (1 : Int32)) hx hb dX11_hear_13 (by decide) ?_
  refine lv_iadd hx hb dX11_hear_14 ?_
  obtain ⟨hin, h⟩ := h
  refine sti (k := (l5_4 + (5 : Int32)).toNatClampNeg) (y := ((row (l5_4 + (5 : Int32)).toNatClampNeg) + (1 : Int32))) hx hb hK hP hD hS 8 rfl hin rfl rfl dX11_hear_15 (fun row_15 erow_15 H locs hP hD hS => ?_)
  have h := h row_15 erow_15
  have hP : va_P D clsX [(h0, .inr (11, oX11 rM sM)), ((rM 3), .inl (cy 0, 14, .inl M_told)), ((rM 4), .inl (cy 0, 10, .inl M_place)), ((rM 5), .inl (cy 0, 10, .inl M_range)), ((rM 6), .inl (cy 0, 10, .inl M_voice)), ((rM 7), .inl (cy 0, 8, .inl M_kind)), ((rM 11), .inl (cy 2, 10, .inl M_isFalse)), ((rM 12), .inl (cy 2, 200, .inl M_isMirage)), (a1, .inl (cy 0, 29, .inl row_15))] H := hP
  have hD : va_D A [(h0, .inr (11, oX11 rM sM)), ((rM 3), .inl (cy 0, 14, .inl M_told)), ((rM 4), .inl (cy 0, 10, .inl M_place)), ((rM 5), .inl (cy 0, 10, .inl M_range)), ((rM 6), .inl (cy 0, 10, .inl M_voice)), ((rM 7), .inl (cy 0, 8, .inl M_kind)), ((rM 11), .inl (cy 2, 10, .inl M_isFalse)), ((rM 12), .inl (cy 2, 200, .inl M_isMirage)), (a1, .inl (cy 0, 29, .inl row_15))] := hD
  refine lv_aload_n hx hb dX11_hear_16 rfl (lv_at hl 1 rfl) ?_
  refine gfX11_49 hx hb hts hown hK hP 0 rfl dX11_hear_17 ?_
  refine lv_iload_n hx hb dX11_hear_20 rfl (lv_at hl 3 rfl) ?_
  obtain ⟨hin, h⟩ := h
  refine ldi (k := x2.toNatClampNeg) hx hb hK hP 5 rfl hin rfl dX11_hear_21 ?_
  refine lv_iconst (v := (4 : Int32)) hx hb dX11_hear_22 (by decide) ?_
  refine lv_icmp_eq (tgt := 60) hx hb dX11_hear_23 (by decide) (fun c23 => ?_) (fun c23 => ?_)
  · have h := h.1 c23
    exact J60 row_15 x2 x3 l5_4 _ _ _ h hP hD hS (lv_sub hl [1, 2, 3, 4, 0] rfl)
  · have h := h.2 c23
    refine lv_iload hx hb dX11_hear_26 (lv_at hl 5 rfl) ?_
    refine lv_if_eq (tgt := 60) hx hb dX11_hear_28 (by decide) (fun c28 => ?_) (fun c28 => ?_)
    · have h := h.1 c28
      exact J60 row_15 x2 x3 l5_4 _ _ _ h hP hD hS (lv_sub hl [1, 2, 3, 4, 0] rfl)
    · have h := h.2 c28
      refine lv_aload_n hx hb dX11_hear_31 rfl (lv_at hl 2 rfl) ?_
      refine lv_iload hx hb dX11_hear_32 (lv_at hl 0 rfl) ?_
      refine lv_iconst (v := (1 : Int32)) hx hb dX11_hear_34 (by decide) ?_
      refine lv_iadd hx hb dX11_hear_35 ?_
      obtain ⟨hin, h⟩ := h
      refine ldi (k := (l5_4 + (1 : Int32)).toNatClampNeg) hx hb hK hP 8 rfl hin rfl dX11_hear_36 ?_
      refine lv_if_ne (tgt := 50) hx hb dX11_hear_37 (by decide) (fun c37 => ?_) (fun c37 => ?_)
      · have h := h.1 c37
        refine lv_aload_n hx hb dX11_hear_50 rfl (lv_at hl 2 rfl) ?_
        refine lv_iload hx hb dX11_hear_51 (lv_at hl 0 rfl) ?_
        refine lv_iconst (v := (1 : Int32)) hx hb dX11_hear_53 (by decide) ?_
        refine lv_iadd hx hb dX11_hear_54 ?_
        refine lv_dup2_11 hx hb dX11_hear_55 rfl rfl ?_
        obtain ⟨hin, h⟩ := h
        refine ldi (k := (l5_4 + (1 : Int32)).toNatClampNeg) hx hb hK hP 8 rfl hin rfl dX11_hear_56 ?_
        refine lv_iconst (v := (1 : Int32)) hx hb dX11_hear_57 (by decide) ?_
        refine lv_isub hx hb dX11_hear_58 ?_
        obtain ⟨hin, h⟩ := h
        refine sti (k := (l5_4 + (1 : Int32)).toNatClampNeg) (y := ((row_15 (l5_4 + (1 : Int32)).toNatClampNeg) - (1 : Int32))) hx hb hK hP hD hS 8 rfl hin rfl rfl dX11_hear_59 (fun row_59 erow_59 H locs hP hD hS => ?_)
        have h := h row_59 erow_59
        have hP : va_P D clsX [(h0, .inr (11, oX11 rM sM)), ((rM 3), .inl (cy 0, 14, .inl M_told)), ((rM 4), .inl (cy 0, 10, .inl M_place)), ((rM 5), .inl (cy 0, 10, .inl M_range)), ((rM 6), .inl (cy 0, 10, .inl M_voice)), ((rM 7), .inl (cy 0, 8, .inl M_kind)), ((rM 11), .inl (cy 2, 10, .inl M_isFalse)), ((rM 12), .inl (cy 2, 200, .inl M_isMirage)), (a1, .inl (cy 0, 29, .inl row_59))] H := hP
        have hD : va_D A [(h0, .inr (11, oX11 rM sM)), ((rM 3), .inl (cy 0, 14, .inl M_told)), ((rM 4), .inl (cy 0, 10, .inl M_place)), ((rM 5), .inl (cy 0, 10, .inl M_range)), ((rM 6), .inl (cy 0, 10, .inl M_voice)), ((rM 7), .inl (cy 0, 8, .inl M_kind)), ((rM 11), .inl (cy 2, 10, .inl M_isFalse)), ((rM 12), .inl (cy 2, 200, .inl M_isMirage)), (a1, .inl (cy 0, 29, .inl row_59))] := hD
        exact J60 row_59 x2 x3 l5_4 _ _ _ h hP hD hS (lv_sub hl [1, 2, 3, 4, 0] rfl)
      · have h := h.2 c37
        refine lv_aload_n hx hb dX11_hear_40 rfl (lv_at hl 2 rfl) ?_
        refine lv_iload hx hb dX11_hear_41 (lv_at hl 0 rfl) ?_
        refine lv_iconst (v := (3 : Int32)) hx hb dX11_hear_43 (by decide) ?_
        refine lv_iadd hx hb dX11_hear_44 ?_
        refine lv_iconst (v := (3 : Int32)) hx hb dX11_hear_45 (by decide) ?_
        obtain ⟨hin, h⟩ := h
        refine sti (k := (l5_4 + (3 : Int32)).toNatClampNeg) (y := (3 : Int32)) hx hb hK hP hD hS 8 rfl hin rfl rfl dX11_hear_46 (fun row_46 erow_46 H locs hP hD hS => ?_)
        have h := h row_46 erow_46
        have hP : va_P D clsX [(h0, .inr (11, oX11 rM sM)), ((rM 3), .inl (cy 0, 14, .inl M_told)), ((rM 4), .inl (cy 0, 10, .inl M_place)), ((rM 5), .inl (cy 0, 10, .inl M_range)), ((rM 6), .inl (cy 0, 10, .inl M_voice)), ((rM 7), .inl (cy 0, 8, .inl M_kind)), ((rM 11), .inl (cy 2, 10, .inl M_isFalse)), ((rM 12), .inl (cy 2, 200, .inl M_isMirage)), (a1, .inl (cy 0, 29, .inl row_46))] H := hP
        have hD : va_D A [(h0, .inr (11, oX11 rM sM)), ((rM 3), .inl (cy 0, 14, .inl M_told)), ((rM 4), .inl (cy 0, 10, .inl M_place)), ((rM 5), .inl (cy 0, 10, .inl M_range)), ((rM 6), .inl (cy 0, 10, .inl M_voice)), ((rM 7), .inl (cy 0, 8, .inl M_kind)), ((rM 11), .inl (cy 2, 10, .inl M_isFalse)), ((rM 12), .inl (cy 2, 200, .inl M_isMirage)), (a1, .inl (cy 0, 29, .inl row_46))] := hD
        refine lv_bipush (v := (-3 : Int32)) hx hb dX11_hear_47 (by decide) ?_
        exact hret (-3 : Int32) (sM, row_46) _ _ _ _ rfl dX11_hear_49 h hP hD hS
def wpX11_canRing_L22 (M_told : AR) (row : AR) (l2 : Int32) (kx58 : Int32 → Prop) (post : Int32 → Prop) : Nat → Int32 → Prop
  | 0, _ => False
  | nf22 + 1, l3 => (((M_told 2) ≤ l3 → kx58 l3) ∧ (¬ (M_told 2) ≤ l3 → ((¬ ((jshr l2 l3) &&& (1 : Int32)) = (1 : Int32) → ∀ l3_52 : Int32, l3_52 = (l3 + (1 : Int32)) → wpX11_canRing_L22 M_told row l2 kx58 post nf22 l3_52) ∧ (((jshr l2 l3) &&& (1 : Int32)) = (1 : Int32) → vp_in ((24 : Int32) + l3) 29 ∧ ((¬ (row ((24 : Int32) + l3).toNatClampNeg) = 0 → ∀ l3_52 : Int32, l3_52 = (l3 + (1 : Int32)) → wpX11_canRing_L22 M_told row l2 kx58 post nf22 l3_52) ∧ ((row ((24 : Int32) + l3).toNatClampNeg) = 0 → post (0 : Int32)))))))
def wpX11_canRing (M_told : AR) (row : AR) (x2 : Int32) (post : Int32 → Prop) : Prop := wpX11_isIn x2 (0 : Int32) ((jshl (1 : Int32) (M_told 2)) - (1 : Int32)) (fun r12 => ((¬ r12 = 0 → ∃ nf22 : Nat, wpX11_canRing_L22 M_told row x2 (fun l3_58 => post (1 : Int32)) post nf22 (0 : Int32)) ∧ (r12 = 0 → post (0 : Int32))))
set_option maxHeartbeats 4000000 in
set_option maxRecDepth 100000 in
theorem ctX11_canRing (l : Launch) (D : va_G) (cy : Nat → ClassId) (ev : Nat → Nat) (h0 : Nat) (a1 : Nat) (rM : Nat → Nat) (sM : AR) (M_told : AR) (row : AR) (x2 : Int32) (sz : Nat) (post : Int32 → Prop) (h : wpX11_canRing M_told row x2 post) : Met l yX11_canRing (Cond.code yX11_canRing cX11_canRing 4 (some .boolean) :: TB) ({ frames := 1, cells := 0, slots := 0, locals := 22 }) (va_Pc [.ref h0, .ref a1, .int x2] (PreX D cy ev [(h0, .inr (11, oX11 rM sM)), ((rM 3), .inl (cy 0, 14, .inl M_told)), (a1, .inl (cy 0, 29, .inl row))] sz)) (va_Qi (fun (r : Int32) (u : Unit) => post r) (fun u => BkX D cy [(h0, .inr (11, oX11 rM sM)), ((rM 3), .inl (cy 0, 14, .inl M_told)), (a1, .inl (cy 0, 29, .inl row))] sz [(h0, .inr (11, oX11 rM sM)), ((rM 3), .inl (cy 0, 14, .inl M_told)), (a1, .inl (cy 0, 29, .inl row))]) (va_A [(h0, .inr (11, oX11 rM sM)), ((rM 3), .inl (cy 0, 14, .inl M_told)), (a1, .inl (cy 0, 29, .inl row))] sz)) 0 0 (va_A [(h0, .inr (11, oX11 rM sM)), ((rM 3), .inl (cy 0, 14, .inl M_told)), (a1, .inl (cy 0, 29, .inl row))] sz) := by
  refine ofWi (by decide) (Nat.le_of_ble_eq_true rfl) ?_
  intro p e s m args below meth c ls A R QQ hx hb hml hown hts hR hlk hE hK hP hD hS hA hl hret
  have hown : s.vm.findClass RX11 = some m.cls := hown
  have hRf : 1 ≤ R.frames := by rw [hR]; exact Nat.le_refl _
  have hRl : 22 ≤ R.locals := by rw [hR]; exact Nat.le_refl _
  clear hR
  have hl : lv_has ls 4 [(0, .ref h0), (1, .ref a1), (2, .int x2)] := hl
  have L22 : ∀ (l2 : Int32) (kx58 : Int32 → Prop), (∀ (l3 : Int32) (H : Heap) (locs : List Loc) (ls : Array Slot), kx58 l3 → va_P D clsX [(h0, .inr (11, oX11 rM sM)), ((rM 3), .inl (cy 0, 14, .inl M_told)), (a1, .inl (cy 0, 29, .inl row))] H → va_D A [(h0, .inr (11, oX11 rM sM)), ((rM 3), .inl (cy 0, 14, .inl M_told)), (a1, .inl (cy 0, 29, .inl row))] → va_S A s.heap H locs → lv_has ls 4 [(0, .ref h0), (1, .ref a1)] → W p l e R s m args below meth c H locs 0 0 QQ (F0 m 58 ls [])) → ∀ (nf22 : Nat) (l3 : Int32) (H : Heap) (locs : List Loc) (ls : Array Slot), wpX11_canRing_L22 M_told row l2 kx58 post nf22 l3 → va_P D clsX [(h0, .inr (11, oX11 rM sM)), ((rM 3), .inl (cy 0, 14, .inl M_told)), (a1, .inl (cy 0, 29, .inl row))] H → va_D A [(h0, .inr (11, oX11 rM sM)), ((rM 3), .inl (cy 0, 14, .inl M_told)), (a1, .inl (cy 0, 29, .inl row))] → va_S A s.heap H locs → lv_has ls 4 [(0, .ref h0), (1, .ref a1), (2, .int l2), (3, .int l3)] → W p l e R s m args below meth c H locs 0 0 QQ (F0 m 22 ls []) := by
    intro l2 kx58 hk22_58 nf22
    induction nf22 with
    | zero =>
      intro l3 H locs ls h
      exact (show False from h).elim
    | succ nf22 ih22 =>
      intro l3 H locs ls h hP hD hS hl
      refine lv_iload_n hx hb dX11_canRing_22 rfl (lv_at hl 3 rfl) ?_
      refine lv_aload_n hx hb dX11_canRing_23 rfl (lv_at hl 0 rfl) ?_
      refine gfX11_36 hx hb hts hown hK hP 0 rfl dX11_canRing_24 ?_
      refine lv_iconst (v := (2 : Int32)) hx hb dX11_canRing_27 (by decide) ?_
      refine ldi (k := 2) hx hb hK hP 1 rfl (inL (by decide)) (by decide) dX11_canRing_28 ?_
      refine lv_icmp_ge (tgt := 58) hx hb dX11_canRing_29 (by decide) (fun c29 => ?_) (fun c29 => ?_)
      · have h := h.1 c29
        exact hk22_58 l3 _ _ _ h hP hD hS (lv_sub hl [0, 1] rfl)
      · have h := h.2 c29
        refine lv_iload_n hx hb dX11_canRing_32 rfl (lv_at hl 2 rfl) ?_
        refine lv_iload_n hx hb dX11_canRing_33 rfl (lv_at hl 3 rfl) ?_
        refine lv_ishr hx hb dX11_canRing_34 ?_
        refine lv_iconst (v := (1 : Int32)) hx hb dX11_canRing_35 (by decide) ?_
        refine lv_iand hx hb dX11_canRing_36 ?_
        refine lv_iconst (v := (1 : Int32)) hx hb dX11_canRing_37 (by decide) ?_
        refine lv_icmp_ne (tgt := 52) hx hb dX11_canRing_38 (by decide) (fun c38 => ?_) (fun c38 => ?_)
        · have h := h.1 c38
          obtain ⟨l3_52, el3_52⟩ : ∃ y : Int32, y = l3 + (1 : Int32) := ⟨_, rfl⟩
          have h := h l3_52 el3_52
          refine lv_iinc (v := l3_52) (lv' := [(3, .int l3_52), (0, .ref h0), (1, .ref a1), (2, .int l2)]) hx hb dX11_canRing_52 hl (k := 3) rfl (by rw [el3_52]; rfl) (by decide) rfl (fun ls hl => ?_)
          refine lv_goto (tgt := 22) hx hb dX11_canRing_55 (by decide) ?_
          exact ih22 l3_52 _ _ _ h hP hD hS (lv_sub hl [1, 2, 3, 0] rfl)
        · have h := h.2 c38
          refine lv_aload_n hx hb dX11_canRing_41 rfl (lv_at hl 1 rfl) ?_
          refine lv_bipush (v := (24 : Int32)) hx hb dX11_canRing_42 (by decide) ?_
          refine lv_iload_n hx hb dX11_canRing_44 rfl (lv_at hl 3 rfl) ?_
          refine lv_iadd hx hb dX11_canRing_45 ?_
          obtain ⟨hin, h⟩ := h
          refine ldi (k := ((24 : Int32) + l3).toNatClampNeg) hx hb hK hP 2 rfl hin rfl dX11_canRing_46 ?_
          refine lv_if_ne (tgt := 52) hx hb dX11_canRing_47 (by decide) (fun c47 => ?_) (fun c47 => ?_)
          · have h := h.1 c47
            obtain ⟨l3_52, el3_52⟩ : ∃ y : Int32, y = l3 + (1 : Int32) := ⟨_, rfl⟩
            have h := h l3_52 el3_52
            refine lv_iinc (v := l3_52) (lv' := [(3, .int l3_52), (0, .ref h0), (1, .ref a1), (2, .int l2)]) hx hb dX11_canRing_52 hl (k := 3) rfl (by rw [el3_52]; rfl) (by decide) rfl (fun ls hl => ?_)
            refine lv_goto (tgt := 22) hx hb dX11_canRing_55 (by decide) ?_
            exact ih22 l3_52 _ _ _ h hP hD hS (lv_sub hl [1, 2, 3, 0] rfl)
          · have h := h.2 c47
            refine lv_iconst (v := (0 : Int32)) hx hb dX11_canRing_50 (by decide) ?_
            exact hret (0 : Int32) () _ _ _ _ rfl dX11_canRing_51 h hP hD hS
  refine lv_iload_n hx hb dX11_canRing_0 rfl (lv_at hl 2 rfl) ?_
  refine lv_iconst (v := (0 : Int32)) hx hb dX11_canRing_1 (by decide) ?_
  refine lv_iconst (v := (1 : Int32)) hx hb dX11_canRing_2 (by decide) ?_
  refine lv_aload_n hx hb dX11_canRing_3 rfl (lv_at hl 0 rfl) ?_
  refine gfX11_36 hx hb hts hown hK hP 0 rfl dX11_canRing_4 ?_
  refine lv_iconst (v := (2 : Int32)) hx hb dX11_canRing_7 (by decide) ?_
  refine ldi (k := 2) hx hb hK hP 1 rfl (inL (by decide)) (by decide) dX11_canRing_8 ?_
  refine lv_ishl hx hb dX11_canRing_9 ?_
  refine lv_iconst (v := (1 : Int32)) hx hb dX11_canRing_10 (by decide) ?_
  refine lv_isub hx hb dX11_canRing_11 ?_
  refine clSi (As := [.int x2, .int (0 : Int32), .int ((jshl (1 : Int32) (M_told 2)) - (1 : Int32))]) (rest := []) (Wr := [(h0, .inr (11, oX11 rM sM)), ((rM 3), .inl (cy 0, 14, .inl M_told)), (a1, .inl (cy 0, 29, .inl row))]) ⟨hx, hb, hml, hown, hts⟩ ⟨callB_of 3 hts (goodC mw1456) rfl rfl rfl (hts _ (tb mw15)) (hts _ (tb mw1454)) kdX11_isIn ⟨Nat.le_trans (by decide) hRf, Nat.le_trans (by decide) hRl⟩, hts _ (tb mw1455)⟩ (ctX11_isIn l D cy ev  x2 (0 : Int32) ((jshl (1 : Int32) (M_told 2)) - (1 : Int32)) _ _ h) hE hK hP hD hS hA [] [0, 1, 2] rfl rfl (by decide) (by decide) (by decide) rfl hl.1 rfl (Nat.le_of_ble_eq_true rfl) ⟨Nat.zero_le _, Nat.zero_le _⟩ dX11_canRing_12 (fun r12 u H locs h hP hD hS => ?_)
  have hP : va_P D clsX [(h0, .inr (11, oX11 rM sM)), ((rM 3), .inl (cy 0, 14, .inl M_told)), (a1, .inl (cy 0, 29, .inl row))] H := hP
  have hD : va_D A [(h0, .inr (11, oX11 rM sM)), ((rM 3), .inl (cy 0, 14, .inl M_told)), (a1, .inl (cy 0, 29, .inl row))] := hD
  refine lv_if_ne (tgt := 20) hx hb dX11_canRing_15 (by decide) (fun c15 => ?_) (fun c15 => ?_)
  · have h := h.1 c15
    refine lv_iconst (v := (0 : Int32)) hx hb dX11_canRing_20 (by decide) ?_
    refine lv_istore_n (lv' := [(3, .int (0 : Int32)), (0, .ref h0), (1, .ref a1), (2, .int x2)]) hx hb dX11_canRing_21 rfl hl (by decide) rfl (fun ls hl => ?_)
    obtain ⟨nf22, h⟩ := h
    refine L22 x2 _ (fun l3_58 H locs ls h hP hD hS hl => ?_) nf22 (0 : Int32) _ _ _ h hP hD hS (lv_sub hl [1, 2, 3, 0] rfl)
    refine lv_iconst (v := (1 : Int32)) hx hb dX11_canRing_58 (by decide) ?_
    exact hret (1 : Int32) () _ _ _ _ rfl dX11_canRing_59 h hP hD hS
  · have h := h.2 c15
    refine lv_iconst (v := (0 : Int32)) hx hb dX11_canRing_18 (by decide) ?_
    exact hret (0 : Int32) () _ _ _ _ rfl dX11_canRing_19 h hP hD hS
def wpX11_strokeOf_L10 (sM : AR) (M_told : AR) (M_place : AR) (M_range : AR) (M_voice : AR) (M_kind : AR) (M_isFalse : AR) (M_isMirage : AR) (M_why : AR) (l2 : Int32) (l3 : Int32) (kx43 : AR → Int32 → Prop) (post : Int32 → AR → AR → AR → Prop) : Nat → AR → Int32 → Prop
  | 0, _, _ => False
  | nf10 + 1, row, l4 => (((M_told 2) ≤ l4 → kx43 row l4) ∧ (¬ (M_told 2) ≤ l4 → vp_in ((24 : Int32) + l4) 29 ∧ vp_in ((24 : Int32) + l4) 29 ∧ ∀ row_36 : AR, row_36 = upd row ((24 : Int32) + l4).toNatClampNeg ((row ((24 : Int32) + l4).toNatClampNeg) - ((jshr l2 l4) &&& (1 : Int32))) → ∀ l4_37 : Int32, l4_37 = (l4 + (1 : Int32)) → wpX11_strokeOf_L10 sM M_told M_place M_range M_voice M_kind M_isFalse M_isMirage M_why l2 l3 kx43 post nf10 row_36 l4_37))
def wpX11_strokeOf_J89 (sM : AR) (M_told : AR) (M_place : AR) (M_range : AR) (M_voice : AR) (M_kind : AR) (M_isFalse : AR) (M_isMirage : AR) (M_why : AR) (row : AR) (l2 : Int32) (l3 : Int32) (l4 : Int32) (t1 : Int32) (t2 : Int32) (kb : AR → AR → AR → Int32 → Prop) (kx96 : AR → AR → AR → Int32 → Prop) (post : Int32 → AR → AR → AR → Prop) : Prop := vp_in t1 4 ∧ ∀ M_why_89 : AR, M_why_89 = upd M_why t1.toNatClampNeg t2 → ∀ l4_90 : Int32, l4_90 = (l4 + (1 : Int32)) → kb sM M_why_89 row l4_90
def wpX11_strokeOf_L46 (M_told : AR) (M_place : AR) (M_range : AR) (M_voice : AR) (M_kind : AR) (M_isFalse : AR) (M_isMirage : AR) (l2 : Int32) (l3 : Int32) (kx96 : AR → AR → AR → Int32 → Prop) (post : Int32 → AR → AR → AR → Prop) : Nat → AR → AR → AR → Int32 → Prop
  | 0, _, _, _, _ => False
  | nf46 + 1, sM, M_why, row, l4 => (((M_told 3) ≤ l4 → kx96 sM M_why row l4) ∧ (¬ (M_told 3) ≤ l4 → vp_in (((6 : Int32) * l4) + (3 : Int32)) 29 ∧ ((¬ (row (((6 : Int32) * l4) + (3 : Int32)).toNatClampNeg) = 0 → wpX11_strokeOf_J89 sM M_told M_place M_range M_voice M_kind M_isFalse M_isMirage M_why row l2 l3 l4 l4 (-3 : Int32) (fun b0 b1 b2 b3 => wpX11_strokeOf_L46 M_told M_place M_range M_voice M_kind M_isFalse M_isMirage l2 l3 kx96 post nf46 b0 b1 b2 b3) kx96 post) ∧ ((row (((6 : Int32) * l4) + (3 : Int32)).toNatClampNeg) = 0 → wpX11_hear sM M_told M_place M_range M_voice M_kind M_isFalse M_isMirage row l4 l2 (1 : Int32) (fun r81 sM_81 row_81 => wpX11_strokeOf_J89 sM_81 M_told M_place M_range M_voice M_kind M_isFalse M_isMirage M_why row_81 l2 l3 l4 l4 r81 (fun b0 b1 b2 b3 => wpX11_strokeOf_L46 M_told M_place M_range M_voice M_kind M_isFalse M_isMirage l2 l3 kx96 post nf46 b0 b1 b2 b3) kx96 post)))))
def wpX11_strokeOf (sM : AR) (M_told : AR) (M_place : AR) (M_range : AR) (M_voice : AR) (M_kind : AR) (M_isFalse : AR) (M_isMirage : AR) (M_why : AR) (row : AR) (x2 : Int32) (post : Int32 → AR → AR → AR → Prop) : Prop := wpX11_howMany M_told row (1 : Int32) (fun r3 => ∃ nf10 : Nat, wpX11_strokeOf_L10 sM M_told M_place M_range M_voice M_kind M_isFalse M_isMirage M_why x2 r3 (fun row_43 l4_43 => ∃ nf46 : Nat, wpX11_strokeOf_L46 M_told M_place M_range M_voice M_kind M_isFalse M_isMirage x2 r3 (fun sM_96 M_why_96 row_96 l4_96 => wpX11_howMany M_told row_96 (1 : Int32) (fun r99 => post (r99 - r3) sM_96 M_why_96 row_96)) post nf46 sM M_why row_43 (0 : Int32)) post nf10 row (0 : Int32))
set_option maxHeartbeats 4000000 in
set_option maxRecDepth 100000 in
theorem ctX11_strokeOf (l : Launch) (D : va_G) (cy : Nat → ClassId) (ev : Nat → Nat) (h0 : Nat) (a1 : Nat) (rM : Nat → Nat) (sM : AR) (M_told : AR) (M_place : AR) (M_range : AR) (M_voice : AR) (M_kind : AR) (M_isFalse : AR) (M_isMirage : AR) (M_why : AR) (row : AR) (x2 : Int32) (sz : Nat) (post : Int32 → AR → AR → AR → Prop) (h : wpX11_strokeOf sM M_told M_place M_range M_voice M_kind M_isFalse M_isMirage M_why row x2 post) : Met l yX11_strokeOf (Cond.code yX11_strokeOf cX11_strokeOf 5 (some .int) :: TB) ({ frames := 5, cells := 0, slots := 0, locals := 158 }) (va_Pc [.ref h0, .ref a1, .int x2] (PreX D cy ev [(h0, .inr (11, oX11 rM sM)), ((rM 3), .inl (cy 0, 14, .inl M_told)), ((rM 4), .inl (cy 0, 10, .inl M_place)), ((rM 5), .inl (cy 0, 10, .inl M_range)), ((rM 6), .inl (cy 0, 10, .inl M_voice)), ((rM 7), .inl (cy 0, 8, .inl M_kind)), ((rM 11), .inl (cy 2, 10, .inl M_isFalse)), ((rM 12), .inl (cy 2, 200, .inl M_isMirage)), ((rM 26), .inl (cy 0, 4, .inl M_why)), (a1, .inl (cy 0, 29, .inl row))] sz)) (va_Qi (fun (r : Int32) (u : AR × AR × AR) => post r (u.1) (u.2.1) (u.2.2)) (fun u => BkX D cy [(h0, .inr (11, oX11 rM sM)), ((rM 3), .inl (cy 0, 14, .inl M_told)), ((rM 4), .inl (cy 0, 10, .inl M_place)), ((rM 5), .inl (cy 0, 10, .inl M_range)), ((rM 6), .inl (cy 0, 10, .inl M_voice)), ((rM 7), .inl (cy 0, 8, .inl M_kind)), ((rM 11), .inl (cy 2, 10, .inl M_isFalse)), ((rM 12), .inl (cy 2, 200, .inl M_isMirage)), ((rM 26), .inl (cy 0, 4, .inl M_why)), (a1, .inl (cy 0, 29, .inl row))] sz [(h0, .inr (11, oX11 rM (u.1))), ((rM 3), .inl (cy 0, 14, .inl M_told)), ((rM 4), .inl (cy 0, 10, .inl M_place)), ((rM 5), .inl (cy 0, 10, .inl M_range)), ((rM 6), .inl (cy 0, 10, .inl M_voice)), ((rM 7), .inl (cy 0, 8, .inl M_kind)), ((rM 11), .inl (cy 2, 10, .inl M_isFalse)), ((rM 12), .inl (cy 2, 200, .inl M_isMirage)), ((rM 26), .inl (cy 0, 4, .inl (u.2.1))), (a1, .inl (cy 0, 29, .inl (u.2.2)))]) (va_A [(h0, .inr (11, oX11 rM sM)), ((rM 3), .inl (cy 0, 14, .inl M_told)), ((rM 4), .inl (cy 0, 10, .inl M_place)), ((rM 5), .inl (cy 0, 10, .inl M_range)), ((rM 6), .inl (cy 0, 10, .inl M_voice)), ((rM 7), .inl (cy 0, 8, .inl M_kind)), ((rM 11), .inl (cy 2, 10, .inl M_isFalse)), ((rM 12), .inl (cy 2, 200, .inl M_isMirage)), ((rM 26), .inl (cy 0, 4, .inl M_why)), (a1, .inl (cy 0, 29, .inl row))] sz)) 0 0 (va_A [(h0, .inr (11, oX11 rM sM)), ((rM 3), .inl (cy 0, 14, .inl M_told)), ((rM 4), .inl (cy 0, 10, .inl M_place)), ((rM 5), .inl (cy 0, 10, .inl M_range)), ((rM 6), .inl (cy 0, 10, .inl M_voice)), ((rM 7), .inl (cy 0, 8, .inl M_kind)), ((rM 11), .inl (cy 2, 10, .inl M_isFalse)), ((rM 12), .inl (cy 2, 200, .inl M_isMirage)), ((rM 26), .inl (cy 0, 4, .inl M_why)), (a1, .inl (cy 0, 29, .inl row))] sz) := by
  refine ofWi (by decide) (Nat.le_of_ble_eq_true rfl) ?_
  intro p e s m args below meth c ls A R QQ hx hb hml hown hts hR hlk hE hK hP hD hS hA hl hret
  have hown : s.vm.findClass RX11 = some m.cls := hown
  have hRf : 5 ≤ R.frames := by rw [hR]; exact Nat.le_refl _
  have hRl : 158 ≤ R.locals := by rw [hR]; exact Nat.le_refl _
  clear hR
  have hl : lv_has ls 5 [(0, .ref h0), (1, .ref a1), (2, .int x2)] := hl
  have L46 : ∀ (l2 : Int32) (l3 : Int32) (kx96 : AR → AR → AR → Int32 → Prop), (∀ (sM : AR) (M_why : AR) (row : AR) (l4 : Int32) (H : Heap) (locs : List Loc) (ls : Array Slot), kx96 sM M_why row l4 → va_P D clsX [(h0, .inr (11, oX11 rM sM)), ((rM 3), .inl (cy 0, 14, .inl M_told)), ((rM 4), .inl (cy 0, 10, .inl M_place)), ((rM 5), .inl (cy 0, 10, .inl M_range)), ((rM 6), .inl (cy 0, 10, .inl M_voice)), ((rM 7), .inl (cy 0, 8, .inl M_kind)), ((rM 11), .inl (cy 2, 10, .inl M_isFalse)), ((rM 12), .inl (cy 2, 200, .inl M_isMirage)), ((rM 26), .inl (cy 0, 4, .inl M_why)), (a1, .inl (cy 0, 29, .inl row))] H → va_D A [(h0, .inr (11, oX11 rM sM)), ((rM 3), .inl (cy 0, 14, .inl M_told)), ((rM 4), .inl (cy 0, 10, .inl M_place)), ((rM 5), .inl (cy 0, 10, .inl M_range)), ((rM 6), .inl (cy 0, 10, .inl M_voice)), ((rM 7), .inl (cy 0, 8, .inl M_kind)), ((rM 11), .inl (cy 2, 10, .inl M_isFalse)), ((rM 12), .inl (cy 2, 200, .inl M_isMirage)), ((rM 26), .inl (cy 0, 4, .inl M_why)), (a1, .inl (cy 0, 29, .inl row))] → va_S A s.heap H locs → lv_has ls 5 [(0, .ref h0), (1, .ref a1), (3, .int l3)] → W p l e R s m args below meth c H locs 0 0 QQ (F0 m 96 ls [])) → ∀ (nf46 : Nat) (sM : AR) (M_why : AR) (row : AR) (l4 : Int32) (H : Heap) (locs : List Loc) (ls : Array Slot), wpX11_strokeOf_L46 M_told M_place M_range M_voice M_kind M_isFalse M_isMirage l2 l3 kx96 post nf46 sM M_why row l4 → va_P D clsX [(h0, .inr (11, oX11 rM sM)), ((rM 3), .inl (cy 0, 14, .inl M_told)), ((rM 4), .inl (cy 0, 10, .inl M_place)), ((rM 5), .inl (cy 0, 10, .inl M_range)), ((rM 6), .inl (cy 0, 10, .inl M_voice)), ((rM 7), .inl (cy 0, 8, .inl M_kind)), ((rM 11), .inl (cy 2, 10, .inl M_isFalse)), ((rM 12), .inl (cy 2, 200, .inl M_isMirage)), ((rM 26), .inl (cy 0, 4, .inl M_why)), (a1, .inl (cy 0, 29, .inl row))] H → va_D A [(h0, .inr (11, oX11 rM sM)), ((rM 3), .inl (cy 0, 14, .inl M_told)), ((rM 4), .inl (cy 0, 10, .inl M_place)), ((rM 5), .inl (cy 0, 10, .inl M_range)), ((rM 6), .inl (cy 0, 10, .inl M_voice)), ((rM 7), .inl (cy 0, 8, .inl M_kind)), ((rM 11), .inl (cy 2, 10, .inl M_isFalse)), ((rM 12), .inl (cy 2, 200, .inl M_isMirage)), ((rM 26), .inl (cy 0, 4, .inl M_why)), (a1, .inl (cy 0, 29, .inl row))] → va_S A s.heap H locs → lv_has ls 5 [(0, .ref h0), (1, .ref a1), (2, .int l2), (3, .int l3), (4, .int l4)] → W p l e R s m args below meth c H locs 0 0 QQ (F0 m 46 ls []) := by
    intro l2 l3 kx96 hk46_96 nf46
    induction nf46 with
    | zero =>
      intro sM M_why row l4 H locs ls h
      exact (show False from h).elim
    | succ nf46 ih46 =>
      intro sM M_why row l4 H locs ls h hP hD hS hl
      have J89 : ∀ (sM : AR) (M_why : AR) (row : AR) (l4 : Int32) (t1 : Int32) (t2 : Int32) (H : Heap) (locs : List Loc) (ls : Array Slot), wpX11_strokeOf_J89 sM M_told M_place M_range M_voice M_kind M_isFalse M_isMirage M_why row l2 l3 l4 t1 t2 (fun b0 b1 b2 b3 => wpX11_strokeOf_L46 M_told M_place M_range M_voice M_kind M_isFalse M_isMirage l2 l3 kx96 post nf46 b0 b1 b2 b3) kx96 post → va_P D clsX [(h0, .inr (11, oX11 rM sM)), ((rM 3), .inl (cy 0, 14, .inl M_told)), ((rM 4), .inl (cy 0, 10, .inl M_place)), ((rM 5), .inl (cy 0, 10, .inl M_range)), ((rM 6), .inl (cy 0, 10, .inl M_voice)), ((rM 7), .inl (cy 0, 8, .inl M_kind)), ((rM 11), .inl (cy 2, 10, .inl M_isFalse)), ((rM 12), .inl (cy 2, 200, .inl M_isMirage)), ((rM 26), .inl (cy 0, 4, .inl M_why)), (a1, .inl (cy 0, 29, .inl row))] H → va_D A [(h0, .inr (11, oX11 rM sM)), ((rM 3), .inl (cy 0, 14, .inl M_told)), ((rM 4), .inl (cy 0, 10, .inl M_place)), ((rM 5), .inl (cy 0, 10, .inl M_range)), ((rM 6), .inl (cy 0, 10, .inl M_voice)), ((rM 7), .inl (cy 0, 8, .inl M_kind)), ((rM 11), .inl (cy 2, 10, .inl M_isFalse)), ((rM 12), .inl (cy 2, 200, .inl M_isMirage)), ((rM 26), .inl (cy 0, 4, .inl M_why)), (a1, .inl (cy 0, 29, .inl row))] → va_S A s.heap H locs → lv_has ls 5 [(0, .ref h0), (1, .ref a1), (2, .int l2), (3, .int l3), (4, .int l4)] → W p l e R s m args below meth c H locs 0 0 QQ (F0 m 89 ls [.int t2, .int t1, .ref (rM 26)]) := by
        intro sM M_why row l4 t1 t2 H locs ls h hP hD hS hl
        obtain ⟨hin, h⟩ := h
        refine sti (k := t1.toNatClampNeg) (y := t2) hx hb hK hP hD hS 8 rfl hin rfl rfl dX11_strokeOf_89 (fun M_why_89 eM_why_89 H locs hP hD hS => ?_)
        have h := h M_why_89 eM_why_89
        have hP : va_P D clsX [(h0, .inr (11, oX11 rM sM)), ((rM 3), .inl (cy 0, 14, .inl M_told)), ((rM 4), .inl (cy 0, 10, .inl M_place)), ((rM 5), .inl (cy 0, 10, .inl M_range)), ((rM 6), .inl (cy 0, 10, .inl M_voice)), ((rM 7), .inl (cy 0, 8, .inl M_kind)), ((rM 11), .inl (cy 2, 10, .inl M_isFalse)), ((rM 12), .inl (cy 2, 200, .inl M_isMirage)), ((rM 26), .inl (cy 0, 4, .inl M_why_89)), (a1, .inl (cy 0, 29, .inl row))] H := hP
        have hD : va_D A [(h0, .inr (11, oX11 rM sM)), ((rM 3), .inl (cy 0, 14, .inl M_told)), ((rM 4), .inl (cy 0, 10, .inl M_place)), ((rM 5), .inl (cy 0, 10, .inl M_range)), ((rM 6), .inl (cy 0, 10, .inl M_voice)), ((rM 7), .inl (cy 0, 8, .inl M_kind)), ((rM 11), .inl (cy 2, 10, .inl M_isFalse)), ((rM 12), .inl (cy 2, 200, .inl M_isMirage)), ((rM 26), .inl (cy 0, 4, .inl M_why_89)), (a1, .inl (cy 0, 29, .inl row))] := hD
        obtain ⟨l4_90, el4_90⟩ : ∃ y : Int32, y = l4 + (1 : Int32) := ⟨_, rfl⟩
        have h := h l4_90 el4_90
        refine lv_iinc (v := l4_90) (lv' := [(4, .int l4_90), (0, .ref h0), (1, .ref a1), (2, .int l2), (3, .int l3)]) hx hb dX11_strokeOf_90 hl (k := 4) rfl (by rw [el4_90]; rfl) (by decide) rfl (fun ls hl => ?_)
        refine lv_goto (tgt := 46) hx hb dX11_strokeOf_93 (by decide) ?_
        exact ih46 sM M_why_89 row l4_90 _ _ _ h hP hD hS (lv_sub hl [1, 2, 3, 4, 0] rfl)
      refine lv_iload hx hb dX11_strokeOf_46 (lv_at hl 4 rfl) ?_
      refine lv_aload_n hx hb dX11_strokeOf_48 rfl (lv_at hl 0 rfl) ?_
      refine gfX11_36 hx hb hts hown hK hP 0 rfl dX11_strokeOf_49 ?_
      refine lv_iconst (v := (3 : Int32)) hx hb dX11_strokeOf_52 (by decide) ?_
      refine ldi (k := 3) hx hb hK hP 1 rfl (inL (by decide)) (by decide) dX11_strokeOf_53 ?_
      refine lv_icmp_ge (tgt := 96) hx hb dX11_strokeOf_54 (by decide) (fun c54 => ?_) (fun c54 => ?_)
      · have h := h.1 c54
        exact hk46_96 sM M_why row l4 _ _ _ h hP hD hS (lv_sub hl [0, 1, 3] rfl)
      · have h := h.2 c54
        refine lv_aload_n hx hb dX11_strokeOf_57 rfl (lv_at hl 0 rfl) ?_
        refine gfX11_75 hx hb hts hown hK hP 0 rfl dX11_strokeOf_58 ?_
        refine lv_iload hx hb dX11_strokeOf_61 (lv_at hl 4 rfl) ?_
        refine lv_aload_n hx hb dX11_strokeOf_63 rfl (lv_at hl 1 rfl) ?_
        refine lv_bipush (v := (6 : Int32)) hx hb dX11_strokeOf_64 (by decide) ?_
        refine lv_iload hx hb dX11_strokeOf_66 (lv_at hl 4 rfl) ?_
        refine lv_imul hx hb dX11_strokeOf_68 ?_
        refine lv_iconst (v := (3 : Int32)) hx hb dX11_strokeOf_69 (by decide) ?_
        refine lv_iadd hx hb dX11_strokeOf_70 ?_
        obtain ⟨hin, h⟩ := h
        refine ldi (k := (((6 : Int32) * l4) + (3 : Int32)).toNatClampNeg) hx hb hK hP 9 rfl hin rfl dX11_strokeOf_71 ?_
        refine lv_if_ne (tgt := 87) hx hb dX11_strokeOf_72 (by decide) (fun c72 => ?_) (fun c72 => ?_)
        · have h := h.1 c72
          refine lv_bipush (v := (-3 : Int32)) hx hb dX11_strokeOf_87 (by decide) ?_
          exact J89 sM M_why row l4 l4 (-3 : Int32) _ _ _ h hP hD hS hl
        · have h := h.2 c72
          refine lv_aload_n hx hb dX11_strokeOf_75 rfl (lv_at hl 0 rfl) ?_
          refine lv_aload_n hx hb dX11_strokeOf_76 rfl (lv_at hl 1 rfl) ?_
          refine lv_iload hx hb dX11_strokeOf_77 (lv_at hl 4 rfl) ?_
          refine lv_iload_n hx hb dX11_strokeOf_79 rfl (lv_at hl 2 rfl) ?_
          refine lv_iconst (v := (1 : Int32)) hx hb dX11_strokeOf_80 (by decide) ?_
          refine clVi (As := [.ref a1, .int l4, .int l2, .int (1 : Int32)]) (rest := [.int l4, .ref (rM 26)]) (Wr := [((rM 26), .inl (cy 0, 4, .inl M_why))]) (cq := (RX11, TX11, 56)) ⟨hx, hb, hml, hown, hts⟩ ⟨callB_of 4 hts (goodC mw1529) rfl rfl rfl (hts _ (tb mw15)) (hts _ (tb mw1526)) kdX11_hear ⟨Nat.le_trans (by decide) hRf, Nat.le_trans (by decide) hRl⟩, hts _ (tb mw1528), hts _ (tb ms69)⟩ (ctX11_hear l D cy ev h0 a1 rM sM M_told M_place M_range M_voice M_kind M_isFalse M_isMirage row l4 l2 (1 : Int32) _ _ h) hE hK hP hD hS hA [0, 1, 2, 3, 4, 5, 6, 7, 9] [8] rfl rfl (by decide) (by decide) (by decide) 0 rfl rfl rfl hl.1 rfl (Nat.le_of_ble_eq_true rfl) ⟨Nat.zero_le _, Nat.zero_le _⟩ dX11_strokeOf_81 (fun r81 u H locs h hP hD hS => ?_)
          obtain ⟨sM_81, row_81⟩ := u
          have hP : va_P D clsX [((rM 26), .inl (cy 0, 4, .inl M_why)), (h0, .inr (11, oX11 rM sM_81)), ((rM 3), .inl (cy 0, 14, .inl M_told)), ((rM 4), .inl (cy 0, 10, .inl M_place)), ((rM 5), .inl (cy 0, 10, .inl M_range)), ((rM 6), .inl (cy 0, 10, .inl M_voice)), ((rM 7), .inl (cy 0, 8, .inl M_kind)), ((rM 11), .inl (cy 2, 10, .inl M_isFalse)), ((rM 12), .inl (cy 2, 200, .inl M_isMirage)), (a1, .inl (cy 0, 29, .inl row_81))] H := hP
          have hD : va_D A [((rM 26), .inl (cy 0, 4, .inl M_why)), (h0, .inr (11, oX11 rM sM_81)), ((rM 3), .inl (cy 0, 14, .inl M_told)), ((rM 4), .inl (cy 0, 10, .inl M_place)), ((rM 5), .inl (cy 0, 10, .inl M_range)), ((rM 6), .inl (cy 0, 10, .inl M_voice)), ((rM 7), .inl (cy 0, 8, .inl M_kind)), ((rM 11), .inl (cy 2, 10, .inl M_isFalse)), ((rM 12), .inl (cy 2, 200, .inl M_isMirage)), (a1, .inl (cy 0, 29, .inl row_81))] := hD
          refine lv_goto (tgt := 89) hx hb dX11_strokeOf_84 (by decide) ?_
          exact J89 sM_81 M_why row_81 l4 l4 r81 _ _ _ h (hP.sub [1, 2, 3, 4, 5, 6, 7, 8, 0, 9] rfl) (hD.sub [1, 2, 3, 4, 5, 6, 7, 8, 0, 9] (by decide) rfl) hS hl
  have L10 : ∀ (l2 : Int32) (l3 : Int32) (kx43 : AR → Int32 → Prop), (∀ (row : AR) (l4 : Int32) (H : Heap) (locs : List Loc) (ls : Array Slot), kx43 row l4 → va_P D clsX [(h0, .inr (11, oX11 rM sM)), ((rM 3), .inl (cy 0, 14, .inl M_told)), ((rM 4), .inl (cy 0, 10, .inl M_place)), ((rM 5), .inl (cy 0, 10, .inl M_range)), ((rM 6), .inl (cy 0, 10, .inl M_voice)), ((rM 7), .inl (cy 0, 8, .inl M_kind)), ((rM 11), .inl (cy 2, 10, .inl M_isFalse)), ((rM 12), .inl (cy 2, 200, .inl M_isMirage)), ((rM 26), .inl (cy 0, 4, .inl M_why)), (a1, .inl (cy 0, 29, .inl row))] H → va_D A [(h0, .inr (11, oX11 rM sM)), ((rM 3), .inl (cy 0, 14, .inl M_told)), ((rM 4), .inl (cy 0, 10, .inl M_place)), ((rM 5), .inl (cy 0, 10, .inl M_range)), ((rM 6), .inl (cy 0, 10, .inl M_voice)), ((rM 7), .inl (cy 0, 8, .inl M_kind)), ((rM 11), .inl (cy 2, 10, .inl M_isFalse)), ((rM 12), .inl (cy 2, 200, .inl M_isMirage)), ((rM 26), .inl (cy 0, 4, .inl M_why)), (a1, .inl (cy 0, 29, .inl row))] → va_S A s.heap H locs → lv_has ls 5 [(0, .ref h0), (1, .ref a1), (2, .int l2), (3, .int l3)] → W p l e R s m args below meth c H locs 0 0 QQ (F0 m 43 ls [])) → ∀ (nf10 : Nat) (row : AR) (l4 : Int32) (H : Heap) (locs : List Loc) (ls : Array Slot), wpX11_strokeOf_L10 sM M_told M_place M_range M_voice M_kind M_isFalse M_isMirage M_why l2 l3 kx43 post nf10 row l4 → va_P D clsX [(h0, .inr (11, oX11 rM sM)), ((rM 3), .inl (cy 0, 14, .inl M_told)), ((rM 4), .inl (cy 0, 10, .inl M_place)), ((rM 5), .inl (cy 0, 10, .inl M_range)), ((rM 6), .inl (cy 0, 10, .inl M_voice)), ((rM 7), .inl (cy 0, 8, .inl M_kind)), ((rM 11), .inl (cy 2, 10, .inl M_isFalse)), ((rM 12), .inl (cy 2, 200, .inl M_isMirage)), ((rM 26), .inl (cy 0, 4, .inl M_why)), (a1, .inl (cy 0, 29, .inl row))] H → va_D A [(h0, .inr (11, oX11 rM sM)), ((rM 3), .inl (cy 0, 14, .inl M_told)), ((rM 4), .inl (cy 0, 10, .inl M_place)), ((rM 5), .inl (cy 0, 10, .inl M_range)), ((rM 6), .inl (cy 0, 10, .inl M_voice)), ((rM 7), .inl (cy 0, 8, .inl M_kind)), ((rM 11), .inl (cy 2, 10, .inl M_isFalse)), ((rM 12), .inl (cy 2, 200, .inl M_isMirage)), ((rM 26), .inl (cy 0, 4, .inl M_why)), (a1, .inl (cy 0, 29, .inl row))] → va_S A s.heap H locs → lv_has ls 5 [(0, .ref h0), (1, .ref a1), (2, .int l2), (3, .int l3), (4, .int l4)] → W p l e R s m args below meth c H locs 0 0 QQ (F0 m 10 ls []) := by
    intro l2 l3 kx43 hk10_43 nf10
    induction nf10 with
    | zero =>
      intro row l4 H locs ls h
      exact (show False from h).elim
    | succ nf10 ih10 =>
      intro row l4 H locs ls h hP hD hS hl
      refine lv_iload hx hb dX11_strokeOf_10 (lv_at hl 4 rfl) ?_
      refine lv_aload_n hx hb dX11_strokeOf_12 rfl (lv_at hl 0 rfl) ?_
      refine gfX11_36 hx hb hts hown hK hP 0 rfl dX11_strokeOf_13 ?_
      refine lv_iconst (v := (2 : Int32)) hx hb dX11_strokeOf_16 (by decide) ?_
      refine ldi (k := 2) hx hb hK hP 1 rfl (inL (by decide)) (by decide) dX11_strokeOf_17 ?_
      refine lv_icmp_ge (tgt := 43) hx hb dX11_strokeOf_18 (by decide) (fun c18 => ?_) (fun c18 => ?_)
      · have h := h.1 c18
        exact hk10_43 row l4 _ _ _ h hP hD hS (lv_sub hl [0, 1, 2, 3] rfl)
      · have h := h.2 c18
        refine lv_aload_n hx hb dX11_strokeOf_21 rfl (lv_at hl 1 rfl) ?_
        refine lv_bipush (v := (24 : Int32)) hx hb dX11_strokeOf_22 (by decide) ?_
        refine lv_iload hx hb dX11_strokeOf_24 (lv_at hl 4 rfl) ?_
        refine lv_iadd hx hb dX11_strokeOf_26 ?_
        refine lv_dup2_11 hx hb dX11_strokeOf_27 rfl rfl ?_
        obtain ⟨hin, h⟩ := h
        refine ldi (k := ((24 : Int32) + l4).toNatClampNeg) hx hb hK hP 9 rfl hin rfl dX11_strokeOf_28 ?_
        refine lv_iload_n hx hb dX11_strokeOf_29 rfl (lv_at hl 2 rfl) ?_
        refine lv_iload hx hb dX11_strokeOf_30 (lv_at hl 4 rfl) ?_
        refine lv_ishr hx hb dX11_strokeOf_32 ?_
        refine lv_iconst (v := (1 : Int32)) hx hb dX11_strokeOf_33 (by decide) ?_
        refine lv_iand hx hb dX11_strokeOf_34 ?_
        refine lv_isub hx hb dX11_strokeOf_35 ?_
        obtain ⟨hin, h⟩ := h
        refine sti (k := ((24 : Int32) + l4).toNatClampNeg) (y := ((row ((24 : Int32) + l4).toNatClampNeg) - ((jshr l2 l4) &&& (1 : Int32)))) hx hb hK hP hD hS 9 rfl hin rfl rfl dX11_strokeOf_36 (fun row_36 erow_36 H locs hP hD hS => ?_)
        have h := h row_36 erow_36
        have hP : va_P D clsX [(h0, .inr (11, oX11 rM sM)), ((rM 3), .inl (cy 0, 14, .inl M_told)), ((rM 4), .inl (cy 0, 10, .inl M_place)), ((rM 5), .inl (cy 0, 10, .inl M_range)), ((rM 6), .inl (cy 0, 10, .inl M_voice)), ((rM 7), .inl (cy 0, 8, .inl M_kind)), ((rM 11), .inl (cy 2, 10, .inl M_isFalse)), ((rM 12), .inl (cy 2, 200, .inl M_isMirage)), ((rM 26), .inl (cy 0, 4, .inl M_why)), (a1, .inl (cy 0, 29, .inl row_36))] H := hP
        have hD : va_D A [(h0, .inr (11, oX11 rM sM)), ((rM 3), .inl (cy 0, 14, .inl M_told)), ((rM 4), .inl (cy 0, 10, .inl M_place)), ((rM 5), .inl (cy 0, 10, .inl M_range)), ((rM 6), .inl (cy 0, 10, .inl M_voice)), ((rM 7), .inl (cy 0, 8, .inl M_kind)), ((rM 11), .inl (cy 2, 10, .inl M_isFalse)), ((rM 12), .inl (cy 2, 200, .inl M_isMirage)), ((rM 26), .inl (cy 0, 4, .inl M_why)), (a1, .inl (cy 0, 29, .inl row_36))] := hD
        obtain ⟨l4_37, el4_37⟩ : ∃ y : Int32, y = l4 + (1 : Int32) := ⟨_, rfl⟩
        have h := h l4_37 el4_37
        refine lv_iinc (v := l4_37) (lv' := [(4, .int l4_37), (0, .ref h0), (1, .ref a1), (2, .int l2), (3, .int l3)]) hx hb dX11_strokeOf_37 hl (k := 4) rfl (by rw [el4_37]; rfl) (by decide) rfl (fun ls hl => ?_)
        refine lv_goto (tgt := 10) hx hb dX11_strokeOf_40 (by decide) ?_
        exact ih10 row_36 l4_37 _ _ _ h hP hD hS (lv_sub hl [1, 2, 3, 4, 0] rfl)
  refine lv_aload_n hx hb dX11_strokeOf_0 rfl (lv_at hl 0 rfl) ?_
  refine lv_aload_n hx hb dX11_strokeOf_1 rfl (lv_at hl 1 rfl) ?_
  refine lv_iconst (v := (1 : Int32)) hx hb dX11_strokeOf_2 (by decide) ?_
  refine clVi (As := [.ref a1, .int (1 : Int32)]) (rest := []) (Wr := [((rM 4), .inl (cy 0, 10, .inl M_place)), ((rM 5), .inl (cy 0, 10, .inl M_range)), ((rM 6), .inl (cy 0, 10, .inl M_voice)), ((rM 7), .inl (cy 0, 8, .inl M_kind)), ((rM 11), .inl (cy 2, 10, .inl M_isFalse)), ((rM 12), .inl (cy 2, 200, .inl M_isMirage)), ((rM 26), .inl (cy 0, 4, .inl M_why))]) (cq := (RX11, TX11, 56)) ⟨hx, hb, hml, hown, hts⟩ ⟨callB_of 2 hts (goodC mw1460) rfl rfl rfl (hts _ (tb mw15)) (hts _ (tb mw1457)) kdX11_howMany ⟨Nat.le_trans (by decide) hRf, Nat.le_trans (by decide) hRl⟩, hts _ (tb mw1459), hts _ (tb ms57)⟩ (ctX11_howMany l D cy ev h0 a1 rM sM M_told row (1 : Int32) _ _ h) hE hK hP hD hS hA [0, 1, 9] [2, 3, 4, 5, 6, 7, 8] rfl rfl (by decide) (by decide) (by decide) 0 rfl rfl rfl hl.1 rfl (Nat.le_of_ble_eq_true rfl) ⟨Nat.zero_le _, Nat.zero_le _⟩ dX11_strokeOf_3 (fun r3 u H locs h hP hD hS => ?_)
  have hP : va_P D clsX [((rM 4), .inl (cy 0, 10, .inl M_place)), ((rM 5), .inl (cy 0, 10, .inl M_range)), ((rM 6), .inl (cy 0, 10, .inl M_voice)), ((rM 7), .inl (cy 0, 8, .inl M_kind)), ((rM 11), .inl (cy 2, 10, .inl M_isFalse)), ((rM 12), .inl (cy 2, 200, .inl M_isMirage)), ((rM 26), .inl (cy 0, 4, .inl M_why)), (h0, .inr (11, oX11 rM sM)), ((rM 3), .inl (cy 0, 14, .inl M_told)), (a1, .inl (cy 0, 29, .inl row))] H := hP
  have hD : va_D A [((rM 4), .inl (cy 0, 10, .inl M_place)), ((rM 5), .inl (cy 0, 10, .inl M_range)), ((rM 6), .inl (cy 0, 10, .inl M_voice)), ((rM 7), .inl (cy 0, 8, .inl M_kind)), ((rM 11), .inl (cy 2, 10, .inl M_isFalse)), ((rM 12), .inl (cy 2, 200, .inl M_isMirage)), ((rM 26), .inl (cy 0, 4, .inl M_why)), (h0, .inr (11, oX11 rM sM)), ((rM 3), .inl (cy 0, 14, .inl M_told)), (a1, .inl (cy 0, 29, .inl row))] := hD
  refine lv_istore_n (lv' := [(3, .int r3), (0, .ref h0), (1, .ref a1), (2, .int x2)]) hx hb dX11_strokeOf_6 rfl hl (by decide) rfl (fun ls hl => ?_)
  refine lv_iconst (v := (0 : Int32)) hx hb dX11_strokeOf_7 (by decide) ?_
  refine lv_istore (lv' := [(4, .int (0 : Int32)), (3, .int r3), (0, .ref h0), (1, .ref a1), (2, .int x2)]) hx hb dX11_strokeOf_8 hl (by decide) rfl (fun ls hl => ?_)
  obtain ⟨nf10, h⟩ := h
  refine L10 x2 r3 _ (fun row_43 l4_43 H locs ls h hP hD hS hl => ?_) nf10 row (0 : Int32) _ _ _ h (hP.sub [7, 8, 0, 1, 2, 3, 4, 5, 6, 9] rfl) (hD.sub [7, 8, 0, 1, 2, 3, 4, 5, 6, 9] (by decide) rfl) hS (lv_sub hl [2, 3, 4, 1, 0] rfl)
  refine lv_iconst (v := (0 : Int32)) hx hb dX11_strokeOf_43 (by decide) ?_
  refine lv_istore (lv' := [(4, .int (0 : Int32)), (0, .ref h0), (1, .ref a1), (2, .int x2), (3, .int r3)]) hx hb dX11_strokeOf_44 hl (by decide) rfl (fun ls hl => ?_)
  obtain ⟨nf46, h⟩ := h
  refine L46 x2 r3 _ (fun sM_96 M_why_96 row_96 l4_96 H locs ls h hP hD hS hl => ?_) nf46 sM M_why row_43 (0 : Int32) _ _ _ h hP hD hS (lv_sub hl [1, 2, 3, 4, 0] rfl)
  refine lv_aload_n hx hb dX11_strokeOf_96 rfl (lv_at hl 0 rfl) ?_
  refine lv_aload_n hx hb dX11_strokeOf_97 rfl (lv_at hl 1 rfl) ?_
  refine lv_iconst (v := (1 : Int32)) hx hb dX11_strokeOf_98 (by decide) ?_
  refine clVi (As := [.ref a1, .int (1 : Int32)]) (rest := []) (Wr := [((rM 4), .inl (cy 0, 10, .inl M_place)), ((rM 5), .inl (cy 0, 10, .inl M_range)), ((rM 6), .inl (cy 0, 10, .inl M_voice)), ((rM 7), .inl (cy 0, 8, .inl M_kind)), ((rM 11), .inl (cy 2, 10, .inl M_isFalse)), ((rM 12), .inl (cy 2, 200, .inl M_isMirage)), ((rM 26), .inl (cy 0, 4, .inl M_why_96))]) (cq := (RX11, TX11, 56)) ⟨hx, hb, hml, hown, hts⟩ ⟨callB_of 2 hts (goodC mw1460) rfl rfl rfl (hts _ (tb mw15)) (hts _ (tb mw1457)) kdX11_howMany ⟨Nat.le_trans (by decide) hRf, Nat.le_trans (by decide) hRl⟩, hts _ (tb mw1459), hts _ (tb ms57)⟩ (ctX11_howMany l D cy ev h0 a1 rM sM_96 M_told row_96 (1 : Int32) _ _ h) hE hK hP hD hS hA [0, 1, 9] [2, 3, 4, 5, 6, 7, 8] rfl rfl (by decide) (by decide) (by decide) 0 rfl rfl rfl hl.1 rfl (Nat.le_of_ble_eq_true rfl) ⟨Nat.zero_le _, Nat.zero_le _⟩ dX11_strokeOf_99 (fun r99 u H locs h hP hD hS => ?_)
  have hP : va_P D clsX [((rM 4), .inl (cy 0, 10, .inl M_place)), ((rM 5), .inl (cy 0, 10, .inl M_range)), ((rM 6), .inl (cy 0, 10, .inl M_voice)), ((rM 7), .inl (cy 0, 8, .inl M_kind)), ((rM 11), .inl (cy 2, 10, .inl M_isFalse)), ((rM 12), .inl (cy 2, 200, .inl M_isMirage)), ((rM 26), .inl (cy 0, 4, .inl M_why_96)), (h0, .inr (11, oX11 rM sM_96)), ((rM 3), .inl (cy 0, 14, .inl M_told)), (a1, .inl (cy 0, 29, .inl row_96))] H := hP
  have hD : va_D A [((rM 4), .inl (cy 0, 10, .inl M_place)), ((rM 5), .inl (cy 0, 10, .inl M_range)), ((rM 6), .inl (cy 0, 10, .inl M_voice)), ((rM 7), .inl (cy 0, 8, .inl M_kind)), ((rM 11), .inl (cy 2, 10, .inl M_isFalse)), ((rM 12), .inl (cy 2, 200, .inl M_isMirage)), ((rM 26), .inl (cy 0, 4, .inl M_why_96)), (h0, .inr (11, oX11 rM sM_96)), ((rM 3), .inl (cy 0, 14, .inl M_told)), (a1, .inl (cy 0, 29, .inl row_96))] := hD
  refine lv_iload_n hx hb dX11_strokeOf_102 rfl (lv_at hl 2 rfl) ?_
  refine lv_isub hx hb dX11_strokeOf_103 ?_
  exact hret (r99 - r3) (sM_96, M_why_96, row_96) _ _ _ _ rfl dX11_strokeOf_104 h (hP.sub [7, 8, 0, 1, 2, 3, 4, 5, 6, 9] rfl) (hD.sub [7, 8, 0, 1, 2, 3, 4, 5, 6, 9] (by decide) rfl) hS
def wpX11_shiftRows_L2 (sM : AR) (M_sets : AR) (M_whys : AR) (kx30 : AR → Int32 → Prop) (post : AR → AR → AR → AR → Prop) : Nat → AR → Int32 → Prop
  | 0, _, _ => False
  | nf2 + 1, M_rows, l1 => (((2871 : Int32) ≤ l1 → kx30 M_rows l1) ∧ (¬ (2871 : Int32) ≤ l1 → vp_in (l1 + (29 : Int32)) 2900 ∧ vp_in l1 2900 ∧ ∀ M_rows_23 : AR, M_rows_23 = upd M_rows l1.toNatClampNeg (M_rows (l1 + (29 : Int32)).toNatClampNeg) → ∀ l1_24 : Int32, l1_24 = (l1 + (1 : Int32)) → wpX11_shiftRows_L2 sM M_sets M_whys kx30 post nf2 M_rows_23 l1_24))
def wpX11_shiftRows_L32 (sM : AR) (M_rows : AR) (M_whys : AR) (kx58 : AR → Int32 → Prop) (post : AR → AR → AR → AR → Prop) : Nat → AR → Int32 → Prop
  | 0, _, _ => False
  | nf32 + 1, M_sets, l1 => (((99 : Int32) ≤ l1 → kx58 M_sets l1) ∧ (¬ (99 : Int32) ≤ l1 → vp_in (l1 + (1 : Int32)) 100 ∧ vp_in l1 100 ∧ ∀ M_sets_51 : AR, M_sets_51 = upd M_sets l1.toNatClampNeg (M_sets (l1 + (1 : Int32)).toNatClampNeg) → ∀ l1_52 : Int32, l1_52 = (l1 + (1 : Int32)) → wpX11_shiftRows_L32 sM M_rows M_whys kx58 post nf32 M_sets_51 l1_52))
def wpX11_shiftRows_L60 (sM : AR) (M_rows : AR) (M_sets : AR) (kx87 : AR → Int32 → Prop) (post : AR → AR → AR → AR → Prop) : Nat → AR → Int32 → Prop
  | 0, _, _ => False
  | nf60 + 1, M_whys, l1 => (((396 : Int32) ≤ l1 → kx87 M_whys l1) ∧ (¬ (396 : Int32) ≤ l1 → vp_in (l1 + (4 : Int32)) 400 ∧ vp_in l1 400 ∧ ∀ M_whys_80 : AR, M_whys_80 = upd M_whys l1.toNatClampNeg (M_whys (l1 + (4 : Int32)).toNatClampNeg) → ∀ l1_81 : Int32, l1_81 = (l1 + (1 : Int32)) → wpX11_shiftRows_L60 sM M_rows M_sets kx87 post nf60 M_whys_80 l1_81))
def wpX11_shiftRows (sM : AR) (M_rows : AR) (M_sets : AR) (M_whys : AR) (post : AR → AR → AR → AR → Prop) : Prop := ∃ nf2 : Nat, wpX11_shiftRows_L2 sM M_sets M_whys (fun M_rows_30 l1_30 => ∃ nf32 : Nat, wpX11_shiftRows_L32 sM M_rows_30 M_whys (fun M_sets_58 l1_58 => ∃ nf60 : Nat, wpX11_shiftRows_L60 sM M_rows_30 M_sets_58 (fun M_whys_87 l1_87 => ∀ f30_94 : Int32, f30_94 = ((sM 30) - (1 : Int32)) → post (upd sM 30 f30_94) M_rows_30 M_sets_58 M_whys_87) post nf60 M_whys (0 : Int32)) post nf32 M_sets (0 : Int32)) post nf2 M_rows (0 : Int32)
set_option maxHeartbeats 4000000 in
set_option maxRecDepth 100000 in
theorem ctX11_shiftRows (l : Launch) (D : va_G) (cy : Nat → ClassId) (ev : Nat → Nat) (h0 : Nat) (rM : Nat → Nat) (sM : AR) (M_rows : AR) (M_sets : AR) (M_whys : AR) (sz : Nat) (post : AR → AR → AR → AR → Prop) (h : wpX11_shiftRows sM M_rows M_sets M_whys post) : Met l yX11_shiftRows (Cond.code yX11_shiftRows cX11_shiftRows 2 none :: TB) ({ frames := 0, cells := 0, slots := 0, locals := 0 }) (va_Pc [.ref h0] (PreX D cy ev [(h0, .inr (11, oX11 rM sM)), ((rM 27), .inl (cy 0, 2900, .inl M_rows)), ((rM 28), .inl (cy 0, 100, .inl M_sets)), ((rM 29), .inl (cy 0, 400, .inl M_whys))] sz)) (va_Qv (fun (u : AR × AR × AR × AR) => post (u.1) (u.2.1) (u.2.2.1) (u.2.2.2)) (fun u => BkX D cy [(h0, .inr (11, oX11 rM sM)), ((rM 27), .inl (cy 0, 2900, .inl M_rows)), ((rM 28), .inl (cy 0, 100, .inl M_sets)), ((rM 29), .inl (cy 0, 400, .inl M_whys))] sz [(h0, .inr (11, oX11 rM (u.1))), ((rM 27), .inl (cy 0, 2900, .inl (u.2.1))), ((rM 28), .inl (cy 0, 100, .inl (u.2.2.1))), ((rM 29), .inl (cy 0, 400, .inl (u.2.2.2)))]) (va_A [(h0, .inr (11, oX11 rM sM)), ((rM 27), .inl (cy 0, 2900, .inl M_rows)), ((rM 28), .inl (cy 0, 100, .inl M_sets)), ((rM 29), .inl (cy 0, 400, .inl M_whys))] sz)) 0 0 (va_A [(h0, .inr (11, oX11 rM sM)), ((rM 27), .inl (cy 0, 2900, .inl M_rows)), ((rM 28), .inl (cy 0, 100, .inl M_sets)), ((rM 29), .inl (cy 0, 400, .inl M_whys))] sz) := by
  refine ofWv (by decide) (Nat.le_of_ble_eq_true rfl) ?_
  intro p e s m args below meth c ls A R QQ hx hb hml hown hts hR hlk hE hK hP hD hS hA hl hret
  have hown : s.vm.findClass RX11 = some m.cls := hown
  have hRf : 0 ≤ R.frames := by rw [hR]; exact Nat.le_refl _
  have hRl : 0 ≤ R.locals := by rw [hR]; exact Nat.le_refl _
  clear hR
  have hl : lv_has ls 2 [(0, .ref h0)] := hl
  have L60 : ∀ (M_rows : AR) (M_sets : AR) (kx87 : AR → Int32 → Prop), (∀ (M_whys : AR) (l1 : Int32) (H : Heap) (locs : List Loc) (ls : Array Slot), kx87 M_whys l1 → va_P D clsX [(h0, .inr (11, oX11 rM sM)), ((rM 27), .inl (cy 0, 2900, .inl M_rows)), ((rM 28), .inl (cy 0, 100, .inl M_sets)), ((rM 29), .inl (cy 0, 400, .inl M_whys))] H → va_D A [(h0, .inr (11, oX11 rM sM)), ((rM 27), .inl (cy 0, 2900, .inl M_rows)), ((rM 28), .inl (cy 0, 100, .inl M_sets)), ((rM 29), .inl (cy 0, 400, .inl M_whys))] → va_S A s.heap H locs → lv_has ls 2 [(0, .ref h0)] → W p l e R s m args below meth c H locs 0 0 QQ (F0 m 87 ls [])) → ∀ (nf60 : Nat) (M_whys : AR) (l1 : Int32) (H : Heap) (locs : List Loc) (ls : Array Slot), wpX11_shiftRows_L60 sM M_rows M_sets kx87 post nf60 M_whys l1 → va_P D clsX [(h0, .inr (11, oX11 rM sM)), ((rM 27), .inl (cy 0, 2900, .inl M_rows)), ((rM 28), .inl (cy 0, 100, .inl M_sets)), ((rM 29), .inl (cy 0, 400, .inl M_whys))] H → va_D A [(h0, .inr (11, oX11 rM sM)), ((rM 27), .inl (cy 0, 2900, .inl M_rows)), ((rM 28), .inl (cy 0, 100, .inl M_sets)), ((rM 29), .inl (cy 0, 400, .inl M_whys))] → va_S A s.heap H locs → lv_has ls 2 [(0, .ref h0), (1, .int l1)] → W p l e R s m args below meth c H locs 0 0 QQ (F0 m 60 ls []) := by
    intro M_rows M_sets kx87 hk60_87 nf60
    induction nf60 with
    | zero =>
      intro M_whys l1 H locs ls h
      exact (show False from h).elim
    | succ nf60 ih60 =>
      intro M_whys l1 H locs ls h hP hD hS hl
      refine lv_iload_n hx hb dX11_shiftRows_60 rfl (lv_at hl 1 rfl) ?_
      refine lv_sipush (v := (396 : Int32)) hx hb dX11_shiftRows_61 (by decide) ?_
      refine lv_icmp_ge (tgt := 87) hx hb dX11_shiftRows_64 (by decide) (fun c64 => ?_) (fun c64 => ?_)
      · have h := h.1 c64
        exact hk60_87 M_whys l1 _ _ _ h hP hD hS (lv_sub hl [0] rfl)
      · have h := h.2 c64
        refine lv_aload_n hx hb dX11_shiftRows_67 rfl (lv_at hl 0 rfl) ?_
        refine gfX11_84 hx hb hts hown hK hP 0 rfl dX11_shiftRows_68 ?_
        refine lv_iload_n hx hb dX11_shiftRows_71 rfl (lv_at hl 1 rfl) ?_
        refine lv_aload_n hx hb dX11_shiftRows_72 rfl (lv_at hl 0 rfl) ?_
        refine gfX11_84 hx hb hts hown hK hP 0 rfl dX11_shiftRows_73 ?_
        refine lv_iload_n hx hb dX11_shiftRows_76 rfl (lv_at hl 1 rfl) ?_
        refine lv_iconst (v := (4 : Int32)) hx hb dX11_shiftRows_77 (by decide) ?_
        refine lv_iadd hx hb dX11_shiftRows_78 ?_
        obtain ⟨hin, h⟩ := h
        refine ldi (k := (l1 + (4 : Int32)).toNatClampNeg) hx hb hK hP 3 rfl hin rfl dX11_shiftRows_79 ?_
        obtain ⟨hin, h⟩ := h
        refine sti (k := l1.toNatClampNeg) (y := (M_whys (l1 + (4 : Int32)).toNatClampNeg)) hx hb hK hP hD hS 3 rfl hin rfl rfl dX11_shiftRows_80 (fun M_whys_80 eM_whys_80 H locs hP hD hS => ?_)
        have h := h M_whys_80 eM_whys_80
        have hP : va_P D clsX [(h0, .inr (11, oX11 rM sM)), ((rM 27), .inl (cy 0, 2900, .inl M_rows)), ((rM 28), .inl (cy 0, 100, .inl M_sets)), ((rM 29), .inl (cy 0, 400, .inl M_whys_80))] H := hP
        have hD : va_D A [(h0, .inr (11, oX11 rM sM)), ((rM 27), .inl (cy 0, 2900, .inl M_rows)), ((rM 28), .inl (cy 0, 100, .inl M_sets)), ((rM 29), .inl (cy 0, 400, .inl M_whys_80))] := hD
        obtain ⟨l1_81, el1_81⟩ : ∃ y : Int32, y = l1 + (1 : Int32) := ⟨_, rfl⟩
        have h := h l1_81 el1_81
        refine lv_iinc (v := l1_81) (lv' := [(1, .int l1_81), (0, .ref h0)]) hx hb dX11_shiftRows_81 hl (k := 1) rfl (by rw [el1_81]; rfl) (by decide) rfl (fun ls hl => ?_)
        refine lv_goto (tgt := 60) hx hb dX11_shiftRows_84 (by decide) ?_
        exact ih60 M_whys_80 l1_81 _ _ _ h hP hD hS (lv_sub hl [1, 0] rfl)
  have L32 : ∀ (M_rows : AR) (kx58 : AR → Int32 → Prop), (∀ (M_sets : AR) (l1 : Int32) (H : Heap) (locs : List Loc) (ls : Array Slot), kx58 M_sets l1 → va_P D clsX [(h0, .inr (11, oX11 rM sM)), ((rM 27), .inl (cy 0, 2900, .inl M_rows)), ((rM 28), .inl (cy 0, 100, .inl M_sets)), ((rM 29), .inl (cy 0, 400, .inl M_whys))] H → va_D A [(h0, .inr (11, oX11 rM sM)), ((rM 27), .inl (cy 0, 2900, .inl M_rows)), ((rM 28), .inl (cy 0, 100, .inl M_sets)), ((rM 29), .inl (cy 0, 400, .inl M_whys))] → va_S A s.heap H locs → lv_has ls 2 [(0, .ref h0)] → W p l e R s m args below meth c H locs 0 0 QQ (F0 m 58 ls [])) → ∀ (nf32 : Nat) (M_sets : AR) (l1 : Int32) (H : Heap) (locs : List Loc) (ls : Array Slot), wpX11_shiftRows_L32 sM M_rows M_whys kx58 post nf32 M_sets l1 → va_P D clsX [(h0, .inr (11, oX11 rM sM)), ((rM 27), .inl (cy 0, 2900, .inl M_rows)), ((rM 28), .inl (cy 0, 100, .inl M_sets)), ((rM 29), .inl (cy 0, 400, .inl M_whys))] H → va_D A [(h0, .inr (11, oX11 rM sM)), ((rM 27), .inl (cy 0, 2900, .inl M_rows)), ((rM 28), .inl (cy 0, 100, .inl M_sets)), ((rM 29), .inl (cy 0, 400, .inl M_whys))] → va_S A s.heap H locs → lv_has ls 2 [(0, .ref h0), (1, .int l1)] → W p l e R s m args below meth c H locs 0 0 QQ (F0 m 32 ls []) := by
    intro M_rows kx58 hk32_58 nf32
    induction nf32 with
    | zero =>
      intro M_sets l1 H locs ls h
      exact (show False from h).elim
    | succ nf32 ih32 =>
      intro M_sets l1 H locs ls h hP hD hS hl
      refine lv_iload_n hx hb dX11_shiftRows_32 rfl (lv_at hl 1 rfl) ?_
      refine lv_bipush (v := (99 : Int32)) hx hb dX11_shiftRows_33 (by decide) ?_
      refine lv_icmp_ge (tgt := 58) hx hb dX11_shiftRows_35 (by decide) (fun c35 => ?_) (fun c35 => ?_)
      · have h := h.1 c35
        exact hk32_58 M_sets l1 _ _ _ h hP hD hS (lv_sub hl [0] rfl)
      · have h := h.2 c35
        refine lv_aload_n hx hb dX11_shiftRows_38 rfl (lv_at hl 0 rfl) ?_
        refine gfX11_81 hx hb hts hown hK hP 0 rfl dX11_shiftRows_39 ?_
        refine lv_iload_n hx hb dX11_shiftRows_42 rfl (lv_at hl 1 rfl) ?_
        refine lv_aload_n hx hb dX11_shiftRows_43 rfl (lv_at hl 0 rfl) ?_
        refine gfX11_81 hx hb hts hown hK hP 0 rfl dX11_shiftRows_44 ?_
        refine lv_iload_n hx hb dX11_shiftRows_47 rfl (lv_at hl 1 rfl) ?_
        refine lv_iconst (v := (1 : Int32)) hx hb dX11_shiftRows_48 (by decide) ?_
        refine lv_iadd hx hb dX11_shiftRows_49 ?_
        obtain ⟨hin, h⟩ := h
        refine ldi (k := (l1 + (1 : Int32)).toNatClampNeg) hx hb hK hP 2 rfl hin rfl dX11_shiftRows_50 ?_
        obtain ⟨hin, h⟩ := h
        refine sti (k := l1.toNatClampNeg) (y := (M_sets (l1 + (1 : Int32)).toNatClampNeg)) hx hb hK hP hD hS 2 rfl hin rfl rfl dX11_shiftRows_51 (fun M_sets_51 eM_sets_51 H locs hP hD hS => ?_)
        have h := h M_sets_51 eM_sets_51
        have hP : va_P D clsX [(h0, .inr (11, oX11 rM sM)), ((rM 27), .inl (cy 0, 2900, .inl M_rows)), ((rM 28), .inl (cy 0, 100, .inl M_sets_51)), ((rM 29), .inl (cy 0, 400, .inl M_whys))] H := hP
        have hD : va_D A [(h0, .inr (11, oX11 rM sM)), ((rM 27), .inl (cy 0, 2900, .inl M_rows)), ((rM 28), .inl (cy 0, 100, .inl M_sets_51)), ((rM 29), .inl (cy 0, 400, .inl M_whys))] := hD
        obtain ⟨l1_52, el1_52⟩ : ∃ y : Int32, y = l1 + (1 : Int32) := ⟨_, rfl⟩
        have h := h l1_52 el1_52
        refine lv_iinc (v := l1_52) (lv' := [(1, .int l1_52), (0, .ref h0)]) hx hb dX11_shiftRows_52 hl (k := 1) rfl (by rw [el1_52]; rfl) (by decide) rfl (fun ls hl => ?_)
        refine lv_goto (tgt := 32) hx hb dX11_shiftRows_55 (by decide) ?_
        exact ih32 M_sets_51 l1_52 _ _ _ h hP hD hS (lv_sub hl [1, 0] rfl)
  have L2 : ∀ (kx30 : AR → Int32 → Prop), (∀ (M_rows : AR) (l1 : Int32) (H : Heap) (locs : List Loc) (ls : Array Slot), kx30 M_rows l1 → va_P D clsX [(h0, .inr (11, oX11 rM sM)), ((rM 27), .inl (cy 0, 2900, .inl M_rows)), ((rM 28), .inl (cy 0, 100, .inl M_sets)), ((rM 29), .inl (cy 0, 400, .inl M_whys))] H → va_D A [(h0, .inr (11, oX11 rM sM)), ((rM 27), .inl (cy 0, 2900, .inl M_rows)), ((rM 28), .inl (cy 0, 100, .inl M_sets)), ((rM 29), .inl (cy 0, 400, .inl M_whys))] → va_S A s.heap H locs → lv_has ls 2 [(0, .ref h0)] → W p l e R s m args below meth c H locs 0 0 QQ (F0 m 30 ls [])) → ∀ (nf2 : Nat) (M_rows : AR) (l1 : Int32) (H : Heap) (locs : List Loc) (ls : Array Slot), wpX11_shiftRows_L2 sM M_sets M_whys kx30 post nf2 M_rows l1 → va_P D clsX [(h0, .inr (11, oX11 rM sM)), ((rM 27), .inl (cy 0, 2900, .inl M_rows)), ((rM 28), .inl (cy 0, 100, .inl M_sets)), ((rM 29), .inl (cy 0, 400, .inl M_whys))] H → va_D A [(h0, .inr (11, oX11 rM sM)), ((rM 27), .inl (cy 0, 2900, .inl M_rows)), ((rM 28), .inl (cy 0, 100, .inl M_sets)), ((rM 29), .inl (cy 0, 400, .inl M_whys))] → va_S A s.heap H locs → lv_has ls 2 [(0, .ref h0), (1, .int l1)] → W p l e R s m args below meth c H locs 0 0 QQ (F0 m 2 ls []) := by
    intro kx30 hk2_30 nf2
    induction nf2 with
    | zero =>
      intro M_rows l1 H locs ls h
      exact (show False from h).elim
    | succ nf2 ih2 =>
      intro M_rows l1 H locs ls h hP hD hS hl
      refine lv_iload_n hx hb dX11_shiftRows_2 rfl (lv_at hl 1 rfl) ?_
      refine lv_sipush (v := (2871 : Int32)) hx hb dX11_shiftRows_3 (by decide) ?_
      refine lv_icmp_ge (tgt := 30) hx hb dX11_shiftRows_6 (by decide) (fun c6 => ?_) (fun c6 => ?_)
      · have h := h.1 c6
        exact hk2_30 M_rows l1 _ _ _ h hP hD hS (lv_sub hl [0] rfl)
      · have h := h.2 c6
        refine lv_aload_n hx hb dX11_shiftRows_9 rfl (lv_at hl 0 rfl) ?_
        refine gfX11_78 hx hb hts hown hK hP 0 rfl dX11_shiftRows_10 ?_
        refine lv_iload_n hx hb dX11_shiftRows_13 rfl (lv_at hl 1 rfl) ?_
        refine lv_aload_n hx hb dX11_shiftRows_14 rfl (lv_at hl 0 rfl) ?_
        refine gfX11_78 hx hb hts hown hK hP 0 rfl dX11_shiftRows_15 ?_
        refine lv_iload_n hx hb dX11_shiftRows_18 rfl (lv_at hl 1 rfl) ?_
        refine lv_bipush (v := (29 : Int32)) hx hb dX11_shiftRows_19 (by decide) ?_
        refine lv_iadd hx hb dX11_shiftRows_21 ?_
        obtain ⟨hin, h⟩ := h
        refine ldi (k := (l1 + (29 : Int32)).toNatClampNeg) hx hb hK hP 1 rfl hin rfl dX11_shiftRows_22 ?_
        obtain ⟨hin, h⟩ := h
        refine sti (k := l1.toNatClampNeg) (y := (M_rows (l1 + (29 : Int32)).toNatClampNeg)) hx hb hK hP hD hS 1 rfl hin rfl rfl dX11_shiftRows_23 (fun M_rows_23 eM_rows_23 H locs hP hD hS => ?_)
        have h := h M_rows_23 eM_rows_23
        have hP : va_P D clsX [(h0, .inr (11, oX11 rM sM)), ((rM 27), .inl (cy 0, 2900, .inl M_rows_23)), ((rM 28), .inl (cy 0, 100, .inl M_sets)), ((rM 29), .inl (cy 0, 400, .inl M_whys))] H := hP
        have hD : va_D A [(h0, .inr (11, oX11 rM sM)), ((rM 27), .inl (cy 0, 2900, .inl M_rows_23)), ((rM 28), .inl (cy 0, 100, .inl M_sets)), ((rM 29), .inl (cy 0, 400, .inl M_whys))] := hD
        obtain ⟨l1_24, el1_24⟩ : ∃ y : Int32, y = l1 + (1 : Int32) := ⟨_, rfl⟩
        have h := h l1_24 el1_24
        refine lv_iinc (v := l1_24) (lv' := [(1, .int l1_24), (0, .ref h0)]) hx hb dX11_shiftRows_24 hl (k := 1) rfl (by rw [el1_24]; rfl) (by decide) rfl (fun ls hl => ?_)
        refine lv_goto (tgt := 2) hx hb dX11_shiftRows_27 (by decide) ?_
        exact ih2 M_rows_23 l1_24 _ _ _ h hP hD hS (lv_sub hl [1, 0] rfl)
  refine lv_iconst (v := (0 : Int32)) hx hb dX11_shiftRows_0 (by decide) ?_
  refine lv_istore_n (lv' := [(1, .int (0 : Int32)), (0, .ref h0)]) hx hb dX11_shiftRows_1 rfl hl (by decide) rfl (fun ls hl => ?_)
  obtain ⟨nf2, h⟩ := h
  refine L2  _ (fun M_rows_30 l1_30 H locs ls h hP hD hS hl => ?_) nf2 M_rows (0 : Int32) _ _ _ h hP hD hS (lv_sub hl [1, 0] rfl)
  refine lv_iconst (v := (0 : Int32)) hx hb dX11_shiftRows_30 (by decide) ?_
  refine lv_istore_n (lv' := [(1, .int (0 : Int32)), (0, .ref h0)]) hx hb dX11_shiftRows_31 rfl hl (by decide) rfl (fun ls hl => ?_)
  obtain ⟨nf32, h⟩ := h
  refine L32 M_rows_30 _ (fun M_sets_58 l1_58 H locs ls h hP hD hS hl => ?_) nf32 M_sets (0 : Int32) _ _ _ h hP hD hS (lv_sub hl [1, 0] rfl)
  refine lv_iconst (v := (0 : Int32)) hx hb dX11_shiftRows_58 (by decide) ?_
  refine lv_istore_n (lv' := [(1, .int (0 : Int32)), (0, .ref h0)]) hx hb dX11_shiftRows_59 rfl hl (by decide) rfl (fun ls hl => ?_)
  obtain ⟨nf60, h⟩ := h
  refine L60 M_rows_30 M_sets_58 _ (fun M_whys_87 l1_87 H locs ls h hP hD hS hl => ?_) nf60 M_whys (0 : Int32) _ _ _ h hP hD hS (lv_sub hl [1, 0] rfl)
  refine lv_aload_n hx hb dX11_shiftRows_87 rfl (lv_at hl 0 rfl) ?_
  refine lv_dup hx hb dX11_shiftRows_88 rfl ?_
  refine gfX11_270 (v := (sM 30)) hx hb hts hown hK hP 0 rfl rfl dX11_shiftRows_89 ?_
  refine lv_iconst (v := (1 : Int32)) hx hb dX11_shiftRows_92 (by decide) ?_
  refine lv_isub hx hb dX11_shiftRows_93 ?_
  refine lv_topi (fun f30_94 ef30_94 => ?_)
  have h := h f30_94 ef30_94
  refine pfX11_270 hx hb hts hown hK hP hD hS 0 rfl dX11_shiftRows_94 (fun H locs hP hD hS => ?_)
  have hP : va_P D clsX [(h0, .inr (11, oX11 rM (upd sM 30 f30_94))), ((rM 27), .inl (cy 0, 2900, .inl M_rows_30)), ((rM 28), .inl (cy 0, 100, .inl M_sets_58)), ((rM 29), .inl (cy 0, 400, .inl M_whys_87))] H := hP
  have hD : va_D A [(h0, .inr (11, oX11 rM (upd sM 30 f30_94))), ((rM 27), .inl (cy 0, 2900, .inl M_rows_30)), ((rM 28), .inl (cy 0, 100, .inl M_sets_58)), ((rM 29), .inl (cy 0, 400, .inl M_whys_87))] := hD
  exact hret ((upd sM 30 f30_94), M_rows_30, M_sets_58, M_whys_87) _ _ _ _ dX11_shiftRows_97 h hP hD hS
def wpX11_searchOn_J83 (sM : AR) (M_told : AR) (M_place : AR) (M_range : AR) (M_voice : AR) (M_isFalse : AR) (M_isMirage : AR) (M_caseCell : AR) (M_caseHeading : AR) (l1 : Int32) (l2 : Int32) (t1 : Int32) (t2 : Int32) (kb : AR → AR → AR → Int32 → Prop) (kx100 : AR → AR → AR → Int32 → Prop) (post : AR → AR → AR → Prop) : Prop := vp_in t1 100 ∧ ∀ M_caseCell_83 : AR, M_caseCell_83 = upd M_caseCell t1.toNatClampNeg t2 → vp_in l2 100 ∧ ∀ M_caseHeading_93 : AR, M_caseHeading_93 = upd M_caseHeading l2.toNatClampNeg (sM 25) → ∀ l2_94 : Int32, l2_94 = (l2 + (1 : Int32)) → kb sM M_caseCell_83 M_caseHeading_93 l2_94
def wpX11_searchOn_L2 (M_told : AR) (M_place : AR) (M_range : AR) (M_voice : AR) (M_isFalse : AR) (M_isMirage : AR) (l1 : Int32) (kx100 : AR → AR → AR → Int32 → Prop) (post : AR → AR → AR → Prop) : Nat → AR → AR → AR → Int32 → Prop
  | 0, _, _, _, _ => False
  | nf2 + 1, sM, M_caseCell, M_caseHeading, l2 => (((sM 36) ≤ l2 → kx100 sM M_caseCell M_caseHeading l2) ∧ (¬ (sM 36) ≤ l2 → vp_in l2 100 ∧ ((¬ (M_caseCell l2.toNatClampNeg) = (-1 : Int32) → vp_in l2 100 ∧ ∀ f24_30 : Int32, f24_30 = (M_caseCell l2.toNatClampNeg) → vp_in l2 100 ∧ ∀ f25_40 : Int32, f25_40 = (M_caseHeading l2.toNatClampNeg) → wpX11_heardOf M_told M_place M_range l1 f24_30 (fun r51 => wpX11_nearest M_told M_place M_voice r51 f24_30 (-1 : Int32) (fun r59 => wpX11_follow (upd (upd sM 24 f24_30) 25 f25_40) M_told M_place M_isFalse M_isMirage r59 (fun r62 sM_62 => ((¬ r62 = 0 → wpX11_searchOn_J83 sM_62 M_told M_place M_range M_voice M_isFalse M_isMirage M_caseCell M_caseHeading l1 l2 l2 (-1 : Int32) (fun b0 b1 b2 b3 => wpX11_searchOn_L2 M_told M_place M_range M_voice M_isFalse M_isMirage l1 kx100 post nf2 b0 b1 b2 b3) kx100 post) ∧ (r62 = 0 → wpX11_searchOn_J83 sM_62 M_told M_place M_range M_voice M_isFalse M_isMirage M_caseCell M_caseHeading l1 l2 l2 (sM_62 24) (fun b0 b1 b2 b3 => wpX11_searchOn_L2 M_told M_place M_range M_voice M_isFalse M_isMirage l1 kx100 post nf2 b0 b1 b2 b3) kx100 post)))))) ∧ ((M_caseCell l2.toNatClampNeg) = (-1 : Int32) → ∀ l2_94 : Int32, l2_94 = (l2 + (1 : Int32)) → wpX11_searchOn_L2 M_told M_place M_range M_voice M_isFalse M_isMirage l1 kx100 post nf2 sM M_caseCell M_caseHeading l2_94))))
def wpX11_searchOn (sM : AR) (M_told : AR) (M_place : AR) (M_range : AR) (M_voice : AR) (M_isFalse : AR) (M_isMirage : AR) (M_caseCell : AR) (M_caseHeading : AR) (x1 : Int32) (post : AR → AR → AR → Prop) : Prop := ∃ nf2 : Nat, wpX11_searchOn_L2 M_told M_place M_range M_voice M_isFalse M_isMirage x1 (fun sM_100 M_caseCell_100 M_caseHeading_100 l2_100 => post sM_100 M_caseCell_100 M_caseHeading_100) post nf2 sM M_caseCell M_caseHeading (0 : Int32)
set_option maxHeartbeats 4000000 in
set_option maxRecDepth 100000 in
theorem ctX11_searchOn (l : Launch) (D : va_G) (cy : Nat → ClassId) (ev : Nat → Nat) (h0 : Nat) (rM : Nat → Nat) (sM : AR) (M_told : AR) (M_place : AR) (M_range : AR) (M_voice : AR) (M_isFalse : AR) (M_isMirage : AR) (M_caseCell : AR) (M_caseHeading : AR) (x1 : Int32) (sz : Nat) (post : AR → AR → AR → Prop) (h : wpX11_searchOn sM M_told M_place M_range M_voice M_isFalse M_isMirage M_caseCell M_caseHeading x1 post) : Met l yX11_searchOn (Cond.code yX11_searchOn cX11_searchOn 4 none :: TB) ({ frames := 4, cells := 0, slots := 0, locals := 131 }) (va_Pc [.ref h0, .int x1] (PreX D cy ev [(h0, .inr (11, oX11 rM sM)), ((rM 3), .inl (cy 0, 14, .inl M_told)), ((rM 4), .inl (cy 0, 10, .inl M_place)), ((rM 5), .inl (cy 0, 10, .inl M_range)), ((rM 6), .inl (cy 0, 10, .inl M_voice)), ((rM 11), .inl (cy 2, 10, .inl M_isFalse)), ((rM 12), .inl (cy 2, 200, .inl M_isMirage)), ((rM 34), .inl (cy 0, 100, .inl M_caseCell)), ((rM 35), .inl (cy 0, 100, .inl M_caseHeading))] sz)) (va_Qv (fun (u : AR × AR × AR) => post (u.1) (u.2.1) (u.2.2)) (fun u => BkX D cy [(h0, .inr (11, oX11 rM sM)), ((rM 3), .inl (cy 0, 14, .inl M_told)), ((rM 4), .inl (cy 0, 10, .inl M_place)), ((rM 5), .inl (cy 0, 10, .inl M_range)), ((rM 6), .inl (cy 0, 10, .inl M_voice)), ((rM 11), .inl (cy 2, 10, .inl M_isFalse)), ((rM 12), .inl (cy 2, 200, .inl M_isMirage)), ((rM 34), .inl (cy 0, 100, .inl M_caseCell)), ((rM 35), .inl (cy 0, 100, .inl M_caseHeading))] sz [(h0, .inr (11, oX11 rM (u.1))), ((rM 3), .inl (cy 0, 14, .inl M_told)), ((rM 4), .inl (cy 0, 10, .inl M_place)), ((rM 5), .inl (cy 0, 10, .inl M_range)), ((rM 6), .inl (cy 0, 10, .inl M_voice)), ((rM 11), .inl (cy 2, 10, .inl M_isFalse)), ((rM 12), .inl (cy 2, 200, .inl M_isMirage)), ((rM 34), .inl (cy 0, 100, .inl (u.2.1))), ((rM 35), .inl (cy 0, 100, .inl (u.2.2)))]) (va_A [(h0, .inr (11, oX11 rM sM)), ((rM 3), .inl (cy 0, 14, .inl M_told)), ((rM 4), .inl (cy 0, 10, .inl M_place)), ((rM 5), .inl (cy 0, 10, .inl M_range)), ((rM 6), .inl (cy 0, 10, .inl M_voice)), ((rM 11), .inl (cy 2, 10, .inl M_isFalse)), ((rM 12), .inl (cy 2, 200, .inl M_isMirage)), ((rM 34), .inl (cy 0, 100, .inl M_caseCell)), ((rM 35), .inl (cy 0, 100, .inl M_caseHeading))] sz)) 0 0 (va_A [(h0, .inr (11, oX11 rM sM)), ((rM 3), .inl (cy 0, 14, .inl M_told)), ((rM 4), .inl (cy 0, 10, .inl M_place)), ((rM 5), .inl (cy 0, 10, .inl M_range)), ((rM 6), .inl (cy 0, 10, .inl M_voice)), ((rM 11), .inl (cy 2, 10, .inl M_isFalse)), ((rM 12), .inl (cy 2, 200, .inl M_isMirage)), ((rM 34), .inl (cy 0, 100, .inl M_caseCell)), ((rM 35), .inl (cy 0, 100, .inl M_caseHeading))] sz) := by
  refine ofWv (by decide) (Nat.le_of_ble_eq_true rfl) ?_
  intro p e s m args below meth c ls A R QQ hx hb hml hown hts hR hlk hE hK hP hD hS hA hl hret
  have hown : s.vm.findClass RX11 = some m.cls := hown
  have hRf : 4 ≤ R.frames := by rw [hR]; exact Nat.le_refl _
  have hRl : 131 ≤ R.locals := by rw [hR]; exact Nat.le_refl _
  clear hR
  have hl : lv_has ls 4 [(0, .ref h0), (1, .int x1)] := hl
  have L2 : ∀ (l1 : Int32) (kx100 : AR → AR → AR → Int32 → Prop), (∀ (sM : AR) (M_caseCell : AR) (M_caseHeading : AR) (l2 : Int32) (H : Heap) (locs : List Loc) (ls : Array Slot), kx100 sM M_caseCell M_caseHeading l2 → va_P D clsX [(h0, .inr (11, oX11 rM sM)), ((rM 3), .inl (cy 0, 14, .inl M_told)), ((rM 4), .inl (cy 0, 10, .inl M_place)), ((rM 5), .inl (cy 0, 10, .inl M_range)), ((rM 6), .inl (cy 0, 10, .inl M_voice)), ((rM 11), .inl (cy 2, 10, .inl M_isFalse)), ((rM 12), .inl (cy 2, 200, .inl M_isMirage)), ((rM 34), .inl (cy 0, 100, .inl M_caseCell)), ((rM 35), .inl (cy 0, 100, .inl M_caseHeading))] H → va_D A [(h0, .inr (11, oX11 rM sM)), ((rM 3), .inl (cy 0, 14, .inl M_told)), ((rM 4), .inl (cy 0, 10, .inl M_place)), ((rM 5), .inl (cy 0, 10, .inl M_range)), ((rM 6), .inl (cy 0, 10, .inl M_voice)), ((rM 11), .inl (cy 2, 10, .inl M_isFalse)), ((rM 12), .inl (cy 2, 200, .inl M_isMirage)), ((rM 34), .inl (cy 0, 100, .inl M_caseCell)), ((rM 35), .inl (cy 0, 100, .inl M_caseHeading))] → va_S A s.heap H locs → lv_has ls 4 [(0, .ref h0)] → W p l e R s m args below meth c H locs 0 0 QQ (F0 m 100 ls [])) → ∀ (nf2 : Nat) (sM : AR) (M_caseCell : AR) (M_caseHeading : AR) (l2 : Int32) (H : Heap) (locs : List Loc) (ls : Array Slot), wpX11_searchOn_L2 M_told M_place M_range M_voice M_isFalse M_isMirage l1 kx100 post nf2 sM M_caseCell M_caseHeading l2 → va_P D clsX [(h0, .inr (11, oX11 rM sM)), ((rM 3), .inl (cy 0, 14, .inl M_told)), ((rM 4), .inl (cy 0, 10, .inl M_place)), ((rM 5), .inl (cy 0, 10, .inl M_range)), ((rM 6), .inl (cy 0, 10, .inl M_voice)), ((rM 11), .inl (cy 2, 10, .inl M_isFalse)), ((rM 12), .inl (cy 2, 200, .inl M_isMirage)), ((rM 34), .inl (cy 0, 100, .inl M_caseCell)), ((rM 35), .inl (cy 0, 100, .inl M_caseHeading))] H → va_D A [(h0, .inr (11, oX11 rM sM)), ((rM 3), .inl (cy 0, 14, .inl M_told)), ((rM 4), .inl (cy 0, 10, .inl M_place)), ((rM 5), .inl (cy 0, 10, .inl M_range)), ((rM 6), .inl (cy 0, 10, .inl M_voice)), ((rM 11), .inl (cy 2, 10, .inl M_isFalse)), ((rM 12), .inl (cy 2, 200, .inl M_isMirage)), ((rM 34), .inl (cy 0, 100, .inl M_caseCell)), ((rM 35), .inl (cy 0, 100, .inl M_caseHeading))] → va_S A s.heap H locs → lv_has ls 4 [(0, .ref h0), (1, .int l1), (2, .int l2)] → W p l e R s m args below meth c H locs 0 0 QQ (F0 m 2 ls []) := by
    intro l1 kx100 hk2_100 nf2
    induction nf2 with
    | zero =>
      intro sM M_caseCell M_caseHeading l2 H locs ls h
      exact (show False from h).elim
    | succ nf2 ih2 =>
      intro sM M_caseCell M_caseHeading l2 H locs ls h hP hD hS hl
      have J83 : ∀ (sM : AR) (M_caseCell : AR) (M_caseHeading : AR) (l2 : Int32) (t1 : Int32) (t2 : Int32) (H : Heap) (locs : List Loc) (ls : Array Slot), wpX11_searchOn_J83 sM M_told M_place M_range M_voice M_isFalse M_isMirage M_caseCell M_caseHeading l1 l2 t1 t2 (fun b0 b1 b2 b3 => wpX11_searchOn_L2 M_told M_place M_range M_voice M_isFalse M_isMirage l1 kx100 post nf2 b0 b1 b2 b3) kx100 post → va_P D clsX [(h0, .inr (11, oX11 rM sM)), ((rM 3), .inl (cy 0, 14, .inl M_told)), ((rM 4), .inl (cy 0, 10, .inl M_place)), ((rM 5), .inl (cy 0, 10, .inl M_range)), ((rM 6), .inl (cy 0, 10, .inl M_voice)), ((rM 11), .inl (cy 2, 10, .inl M_isFalse)), ((rM 12), .inl (cy 2, 200, .inl M_isMirage)), ((rM 34), .inl (cy 0, 100, .inl M_caseCell)), ((rM 35), .inl (cy 0, 100, .inl M_caseHeading))] H → va_D A [(h0, .inr (11, oX11 rM sM)), ((rM 3), .inl (cy 0, 14, .inl M_told)), ((rM 4), .inl (cy 0, 10, .inl M_place)), ((rM 5), .inl (cy 0, 10, .inl M_range)), ((rM 6), .inl (cy 0, 10, .inl M_voice)), ((rM 11), .inl (cy 2, 10, .inl M_isFalse)), ((rM 12), .inl (cy 2, 200, .inl M_isMirage)), ((rM 34), .inl (cy 0, 100, .inl M_caseCell)), ((rM 35), .inl (cy 0, 100, .inl M_caseHeading))] → va_S A s.heap H locs → lv_has ls 4 [(0, .ref h0), (1, .int l1), (2, .int l2)] → W p l e R s m args below meth c H locs 0 0 QQ (F0 m 83 ls [.int t2, .int t1, .ref (rM 34)]) := by
        intro sM M_caseCell M_caseHeading l2 t1 t2 H locs ls h hP hD hS hl
        obtain ⟨hin, h⟩ := h
        refine sti (k := t1.toNatClampNeg) (y := t2) hx hb hK hP hD hS 7 rfl hin rfl rfl dX11_searchOn_83 (fun M_caseCell_83 eM_caseCell_83 H locs hP hD hS => ?_)
        have h := h M_caseCell_83 eM_caseCell_83
        have hP : va_P D clsX [(h0, .inr (11, oX11 rM sM)), ((rM 3), .inl (cy 0, 14, .inl M_told)), ((rM 4), .inl (cy 0, 10, .inl M_place)), ((rM 5), .inl (cy 0, 10, .inl M_range)), ((rM 6), .inl (cy 0, 10, .inl M_voice)), ((rM 11), .inl (cy 2, 10, .inl M_isFalse)), ((rM 12), .inl (cy 2, 200, .inl M_isMirage)), ((rM 34), .inl (cy 0, 100, .inl M_caseCell_83)), ((rM 35), .inl (cy 0, 100, .inl M_caseHeading))] H := hP
        have hD : va_D A [(h0, .inr (11, oX11 rM sM)), ((rM 3), .inl (cy 0, 14, .inl M_told)), ((rM 4), .inl (cy 0, 10, .inl M_place)), ((rM 5), .inl (cy 0, 10, .inl M_range)), ((rM 6), .inl (cy 0, 10, .inl M_voice)), ((rM 11), .inl (cy 2, 10, .inl M_isFalse)), ((rM 12), .inl (cy 2, 200, .inl M_isMirage)), ((rM 34), .inl (cy 0, 100, .inl M_caseCell_83)), ((rM 35), .inl (cy 0, 100, .inl M_caseHeading))] := hD
        refine lv_aload_n hx hb dX11_searchOn_84 rfl (lv_at hl 0 rfl) ?_
        refine gfX11_90 hx hb hts hown hK hP 0 rfl dX11_searchOn_85 ?_
        refine lv_iload_n hx hb dX11_searchOn_88 rfl (lv_at hl 2 rfl) ?_
        refine lv_aload_n hx hb dX11_searchOn_89 rfl (lv_at hl 0 rfl) ?_
        refine gfX11_309 (v := (sM 25)) hx hb hts hown hK hP 0 rfl rfl dX11_searchOn_90 ?_
        obtain ⟨hin, h⟩ := h
        refine sti (k := l2.toNatClampNeg) (y := (sM 25)) hx hb hK hP hD hS 8 rfl hin rfl rfl dX11_searchOn_93 (fun M_caseHeading_93 eM_caseHeading_93 H locs hP hD hS => ?_)
        have h := h M_caseHeading_93 eM_caseHeading_93
        have hP : va_P D clsX [(h0, .inr (11, oX11 rM sM)), ((rM 3), .inl (cy 0, 14, .inl M_told)), ((rM 4), .inl (cy 0, 10, .inl M_place)), ((rM 5), .inl (cy 0, 10, .inl M_range)), ((rM 6), .inl (cy 0, 10, .inl M_voice)), ((rM 11), .inl (cy 2, 10, .inl M_isFalse)), ((rM 12), .inl (cy 2, 200, .inl M_isMirage)), ((rM 34), .inl (cy 0, 100, .inl M_caseCell_83)), ((rM 35), .inl (cy 0, 100, .inl M_caseHeading_93))] H := hP
        have hD : va_D A [(h0, .inr (11, oX11 rM sM)), ((rM 3), .inl (cy 0, 14, .inl M_told)), ((rM 4), .inl (cy 0, 10, .inl M_place)), ((rM 5), .inl (cy 0, 10, .inl M_range)), ((rM 6), .inl (cy 0, 10, .inl M_voice)), ((rM 11), .inl (cy 2, 10, .inl M_isFalse)), ((rM 12), .inl (cy 2, 200, .inl M_isMirage)), ((rM 34), .inl (cy 0, 100, .inl M_caseCell_83)), ((rM 35), .inl (cy 0, 100, .inl M_caseHeading_93))] := hD
        obtain ⟨l2_94, el2_94⟩ : ∃ y : Int32, y = l2 + (1 : Int32) := ⟨_, rfl⟩
        have h := h l2_94 el2_94
        refine lv_iinc (v := l2_94) (lv' := [(2, .int l2_94), (0, .ref h0), (1, .int l1)]) hx hb dX11_searchOn_94 hl (k := 2) rfl (by rw [el2_94]; rfl) (by decide) rfl (fun ls hl => ?_)
        refine lv_goto (tgt := 2) hx hb dX11_searchOn_97 (by decide) ?_
        exact ih2 sM M_caseCell_83 M_caseHeading_93 l2_94 _ _ _ h hP hD hS (lv_sub hl [1, 2, 0] rfl)
      refine lv_iload_n hx hb dX11_searchOn_2 rfl (lv_at hl 2 rfl) ?_
      refine lv_aload_n hx hb dX11_searchOn_3 rfl (lv_at hl 0 rfl) ?_
      refine gfX11_93 (v := (sM 36)) hx hb hts hown hK hP 0 rfl rfl dX11_searchOn_4 ?_
      refine lv_icmp_ge (tgt := 100) hx hb dX11_searchOn_7 (by decide) (fun c7 => ?_) (fun c7 => ?_)
      · have h := h.1 c7
        exact hk2_100 sM M_caseCell M_caseHeading l2 _ _ _ h hP hD hS (lv_sub hl [0] rfl)
      · have h := h.2 c7
        refine lv_aload_n hx hb dX11_searchOn_10 rfl (lv_at hl 0 rfl) ?_
        refine gfX11_87 hx hb hts hown hK hP 0 rfl dX11_searchOn_11 ?_
        refine lv_iload_n hx hb dX11_searchOn_14 rfl (lv_at hl 2 rfl) ?_
        obtain ⟨hin, h⟩ := h
        refine ldi (k := l2.toNatClampNeg) hx hb hK hP 7 rfl hin rfl dX11_searchOn_15 ?_
        refine lv_iconst (v := (-1 : Int32)) hx hb dX11_searchOn_16 (by decide) ?_
        refine lv_icmp_ne (tgt := 23) hx hb dX11_searchOn_17 (by decide) (fun c17 => ?_) (fun c17 => ?_)
        · have h := h.1 c17
          refine lv_aload_n hx hb dX11_searchOn_23 rfl (lv_at hl 0 rfl) ?_
          refine lv_aload_n hx hb dX11_searchOn_24 rfl (lv_at hl 0 rfl) ?_
          refine gfX11_87 hx hb hts hown hK hP 0 rfl dX11_searchOn_25 ?_
          refine lv_iload_n hx hb dX11_searchOn_28 rfl (lv_at hl 2 rfl) ?_
          obtain ⟨hin, h⟩ := h
          refine ldi (k := l2.toNatClampNeg) hx hb hK hP 7 rfl hin rfl dX11_searchOn_29 ?_
          refine lv_topi (fun f24_30 ef24_30 => ?_)
          have h := h f24_30 ef24_30
          refine pfX11_306 hx hb hts hown hK hP hD hS 0 rfl dX11_searchOn_30 (fun H locs hP hD hS => ?_)
          have hP : va_P D clsX [(h0, .inr (11, oX11 rM (upd sM 24 f24_30))), ((rM 3), .inl (cy 0, 14, .inl M_told)), ((rM 4), .inl (cy 0, 10, .inl M_place)), ((rM 5), .inl (cy 0, 10, .inl M_range)), ((rM 6), .inl (cy 0, 10, .inl M_voice)), ((rM 11), .inl (cy 2, 10, .inl M_isFalse)), ((rM 12), .inl (cy 2, 200, .inl M_isMirage)), ((rM 34), .inl (cy 0, 100, .inl M_caseCell)), ((rM 35), .inl (cy 0, 100, .inl M_caseHeading))] H := hP
          have hD : va_D A [(h0, .inr (11, oX11 rM (upd sM 24 f24_30))), ((rM 3), .inl (cy 0, 14, .inl M_told)), ((rM 4), .inl (cy 0, 10, .inl M_place)), ((rM 5), .inl (cy 0, 10, .inl M_range)), ((rM 6), .inl (cy 0, 10, .inl M_voice)), ((rM 11), .inl (cy 2, 10, .inl M_isFalse)), ((rM 12), .inl (cy 2, 200, .inl M_isMirage)), ((rM 34), .inl (cy 0, 100, .inl M_caseCell)), ((rM 35), .inl (cy 0, 100, .inl M_caseHeading))] := hD
          refine lv_aload_n hx hb dX11_searchOn_33 rfl (lv_at hl 0 rfl) ?_
          refine lv_aload_n hx hb dX11_searchOn_34 rfl (lv_at hl 0 rfl) ?_
          refine gfX11_90 hx hb hts hown hK hP 0 rfl dX11_searchOn_35 ?_
          refine lv_iload_n hx hb dX11_searchOn_38 rfl (lv_at hl 2 rfl) ?_
          obtain ⟨hin, h⟩ := h
          refine ldi (k := l2.toNatClampNeg) hx hb hK hP 8 rfl hin rfl dX11_searchOn_39 ?_
          refine lv_topi (fun f25_40 ef25_40 => ?_)
          have h := h f25_40 ef25_40
          refine pfX11_309 hx hb hts hown hK hP hD hS 0 rfl dX11_searchOn_40 (fun H locs hP hD hS => ?_)
          have hP : va_P D clsX [(h0, .inr (11, oX11 rM (upd (upd sM 24 f24_30) 25 f25_40))), ((rM 3), .inl (cy 0, 14, .inl M_told)), ((rM 4), .inl (cy 0, 10, .inl M_place)), ((rM 5), .inl (cy 0, 10, .inl M_range)), ((rM 6), .inl (cy 0, 10, .inl M_voice)), ((rM 11), .inl (cy 2, 10, .inl M_isFalse)), ((rM 12), .inl (cy 2, 200, .inl M_isMirage)), ((rM 34), .inl (cy 0, 100, .inl M_caseCell)), ((rM 35), .inl (cy 0, 100, .inl M_caseHeading))] H := hP
          have hD : va_D A [(h0, .inr (11, oX11 rM (upd (upd sM 24 f24_30) 25 f25_40))), ((rM 3), .inl (cy 0, 14, .inl M_told)), ((rM 4), .inl (cy 0, 10, .inl M_place)), ((rM 5), .inl (cy 0, 10, .inl M_range)), ((rM 6), .inl (cy 0, 10, .inl M_voice)), ((rM 11), .inl (cy 2, 10, .inl M_isFalse)), ((rM 12), .inl (cy 2, 200, .inl M_isMirage)), ((rM 34), .inl (cy 0, 100, .inl M_caseCell)), ((rM 35), .inl (cy 0, 100, .inl M_caseHeading))] := hD
          refine lv_aload_n hx hb dX11_searchOn_43 rfl (lv_at hl 0 rfl) ?_
          refine lv_aload_n hx hb dX11_searchOn_44 rfl (lv_at hl 0 rfl) ?_
          refine lv_aload_n hx hb dX11_searchOn_45 rfl (lv_at hl 0 rfl) ?_
          refine lv_iload_n hx hb dX11_searchOn_46 rfl (lv_at hl 1 rfl) ?_
          refine lv_aload_n hx hb dX11_searchOn_47 rfl (lv_at hl 0 rfl) ?_
          refine gfX11_306 (v := f24_30) hx hb hts hown hK hP 0 rfl rfl dX11_searchOn_48 ?_
          refine clVi (As := [.int l1, .int f24_30]) (rest := [.ref h0, .ref h0]) (Wr := [((rM 6), .inl (cy 0, 10, .inl M_voice)), ((rM 11), .inl (cy 2, 10, .inl M_isFalse)), ((rM 12), .inl (cy 2, 200, .inl M_isMirage)), ((rM 34), .inl (cy 0, 100, .inl M_caseCell)), ((rM 35), .inl (cy 0, 100, .inl M_caseHeading))]) (cq := (RX11, TX11, 56)) ⟨hx, hb, hml, hown, hts⟩ ⟨callB_of 2 hts (goodC mw1501) rfl rfl rfl (hts _ (tb mw15)) (hts _ (tb mw1498)) kdX11_heardOf ⟨Nat.le_trans (by decide) hRf, Nat.le_trans (by decide) hRl⟩, hts _ (tb mw1500), hts _ (tb ms63)⟩ (ctX11_heardOf l D cy ev h0 rM (upd (upd sM 24 f24_30) 25 f25_40) M_told M_place M_range l1 f24_30 _ _ h) hE hK hP hD hS hA [0, 1, 2, 3] [4, 5, 6, 7, 8] rfl rfl (by decide) (by decide) (by decide) 0 rfl rfl rfl hl.1 rfl (Nat.le_of_ble_eq_true rfl) ⟨Nat.zero_le _, Nat.zero_le _⟩ dX11_searchOn_51 (fun r51 u H locs h hP hD hS => ?_)
          have hP : va_P D clsX [((rM 6), .inl (cy 0, 10, .inl M_voice)), ((rM 11), .inl (cy 2, 10, .inl M_isFalse)), ((rM 12), .inl (cy 2, 200, .inl M_isMirage)), ((rM 34), .inl (cy 0, 100, .inl M_caseCell)), ((rM 35), .inl (cy 0, 100, .inl M_caseHeading)), (h0, .inr (11, oX11 rM (upd (upd sM 24 f24_30) 25 f25_40))), ((rM 3), .inl (cy 0, 14, .inl M_told)), ((rM 4), .inl (cy 0, 10, .inl M_place)), ((rM 5), .inl (cy 0, 10, .inl M_range))] H := hP
          have hD : va_D A [((rM 6), .inl (cy 0, 10, .inl M_voice)), ((rM 11), .inl (cy 2, 10, .inl M_isFalse)), ((rM 12), .inl (cy 2, 200, .inl M_isMirage)), ((rM 34), .inl (cy 0, 100, .inl M_caseCell)), ((rM 35), .inl (cy 0, 100, .inl M_caseHeading)), (h0, .inr (11, oX11 rM (upd (upd sM 24 f24_30) 25 f25_40))), ((rM 3), .inl (cy 0, 14, .inl M_told)), ((rM 4), .inl (cy 0, 10, .inl M_place)), ((rM 5), .inl (cy 0, 10, .inl M_range))] := hD
          refine lv_aload_n hx hb dX11_searchOn_54 rfl (lv_at hl 0 rfl) ?_
          refine gfX11_306 (v := f24_30) hx hb hts hown hK hP 5 rfl rfl dX11_searchOn_55 ?_
          refine lv_iconst (v := (-1 : Int32)) hx hb dX11_searchOn_58 (by decide) ?_
          refine clVi (As := [.int r51, .int f24_30, .int (-1 : Int32)]) (rest := [.ref h0]) (Wr := [((rM 11), .inl (cy 2, 10, .inl M_isFalse)), ((rM 12), .inl (cy 2, 200, .inl M_isMirage)), ((rM 34), .inl (cy 0, 100, .inl M_caseCell)), ((rM 35), .inl (cy 0, 100, .inl M_caseHeading)), ((rM 5), .inl (cy 0, 10, .inl M_range))]) (cq := (RX11, TX11, 56)) ⟨hx, hb, hml, hown, hts⟩ ⟨callB_of 3 hts (goodC mw1537) rfl rfl rfl (hts _ (tb mw15)) (hts _ (tb mw1534)) kdX11_nearest ⟨Nat.le_trans (by decide) hRf, Nat.le_trans (by decide) hRl⟩, hts _ (tb mw1536), hts _ (tb ms71)⟩ (ctX11_nearest l D cy ev h0 rM (upd (upd sM 24 f24_30) 25 f25_40) M_told M_place M_voice r51 f24_30 (-1 : Int32) _ _ h) hE hK hP hD hS hA [5, 6, 7, 0] [1, 2, 3, 4, 8] rfl rfl (by decide) (by decide) (by decide) 0 rfl rfl rfl hl.1 rfl (Nat.le_of_ble_eq_true rfl) ⟨Nat.zero_le _, Nat.zero_le _⟩ dX11_searchOn_59 (fun r59 u H locs h hP hD hS => ?_)
          have hP : va_P D clsX [((rM 11), .inl (cy 2, 10, .inl M_isFalse)), ((rM 12), .inl (cy 2, 200, .inl M_isMirage)), ((rM 34), .inl (cy 0, 100, .inl M_caseCell)), ((rM 35), .inl (cy 0, 100, .inl M_caseHeading)), ((rM 5), .inl (cy 0, 10, .inl M_range)), (h0, .inr (11, oX11 rM (upd (upd sM 24 f24_30) 25 f25_40))), ((rM 3), .inl (cy 0, 14, .inl M_told)), ((rM 4), .inl (cy 0, 10, .inl M_place)), ((rM 6), .inl (cy 0, 10, .inl M_voice))] H := hP
          have hD : va_D A [((rM 11), .inl (cy 2, 10, .inl M_isFalse)), ((rM 12), .inl (cy 2, 200, .inl M_isMirage)), ((rM 34), .inl (cy 0, 100, .inl M_caseCell)), ((rM 35), .inl (cy 0, 100, .inl M_caseHeading)), ((rM 5), .inl (cy 0, 10, .inl M_range)), (h0, .inr (11, oX11 rM (upd (upd sM 24 f24_30) 25 f25_40))), ((rM 3), .inl (cy 0, 14, .inl M_told)), ((rM 4), .inl (cy 0, 10, .inl M_place)), ((rM 6), .inl (cy 0, 10, .inl M_voice))] := hD
          refine clVi (As := [.int r59]) (rest := []) (Wr := [((rM 34), .inl (cy 0, 100, .inl M_caseCell)), ((rM 35), .inl (cy 0, 100, .inl M_caseHeading)), ((rM 5), .inl (cy 0, 10, .inl M_range)), ((rM 6), .inl (cy 0, 10, .inl M_voice))]) (cq := (RX11, TX11, 56)) ⟨hx, hb, hml, hown, hts⟩ ⟨callB_of 1 hts (goodC mw1541) rfl rfl rfl (hts _ (tb mw15)) (hts _ (tb mw1538)) kdX11_follow ⟨Nat.le_trans (by decide) hRf, Nat.le_trans (by decide) hRl⟩, hts _ (tb mw1540), hts _ (tb ms72)⟩ (ctX11_follow l D cy ev h0 rM (upd (upd sM 24 f24_30) 25 f25_40) M_told M_place M_isFalse M_isMirage r59 _ _ h) hE hK hP hD hS hA [5, 6, 7, 0, 1] [2, 3, 4, 8] rfl rfl (by decide) (by decide) (by decide) 0 rfl rfl rfl hl.1 rfl (Nat.le_of_ble_eq_true rfl) ⟨Nat.zero_le _, Nat.zero_le _⟩ dX11_searchOn_62 (fun r62 sM_62 H locs h hP hD hS => ?_)
          have hP : va_P D clsX [((rM 34), .inl (cy 0, 100, .inl M_caseCell)), ((rM 35), .inl (cy 0, 100, .inl M_caseHeading)), ((rM 5), .inl (cy 0, 10, .inl M_range)), ((rM 6), .inl (cy 0, 10, .inl M_voice)), (h0, .inr (11, oX11 rM sM_62)), ((rM 3), .inl (cy 0, 14, .inl M_told)), ((rM 4), .inl (cy 0, 10, .inl M_place)), ((rM 11), .inl (cy 2, 10, .inl M_isFalse)), ((rM 12), .inl (cy 2, 200, .inl M_isMirage))] H := hP
          have hD : va_D A [((rM 34), .inl (cy 0, 100, .inl M_caseCell)), ((rM 35), .inl (cy 0, 100, .inl M_caseHeading)), ((rM 5), .inl (cy 0, 10, .inl M_range)), ((rM 6), .inl (cy 0, 10, .inl M_voice)), (h0, .inr (11, oX11 rM sM_62)), ((rM 3), .inl (cy 0, 14, .inl M_told)), ((rM 4), .inl (cy 0, 10, .inl M_place)), ((rM 11), .inl (cy 2, 10, .inl M_isFalse)), ((rM 12), .inl (cy 2, 200, .inl M_isMirage))] := hD
          refine lv_istore_n (lv' := [(3, .int r62), (0, .ref h0), (1, .int l1), (2, .int l2)]) hx hb dX11_searchOn_65 rfl hl (by decide) rfl (fun ls hl => ?_)
          refine lv_aload_n hx hb dX11_searchOn_66 rfl (lv_at hl 1 rfl) ?_
          refine gfX11_87 hx hb hts hown hK hP 4 rfl dX11_searchOn_67 ?_
          refine lv_iload_n hx hb dX11_searchOn_70 rfl (lv_at hl 3 rfl) ?_
          refine lv_iload_n hx hb dX11_searchOn_71 rfl (lv_at hl 0 rfl) ?_
          refine lv_if_ne (tgt := 82) hx hb dX11_searchOn_72 (by decide) (fun c72 => ?_) (fun c72 => ?_)
          · have h := h.1 c72
            refine lv_iconst (v := (-1 : Int32)) hx hb dX11_searchOn_82 (by decide) ?_
            exact J83 sM_62 M_caseCell M_caseHeading l2 l2 (-1 : Int32) _ _ _ h (hP.sub [4, 5, 6, 2, 3, 7, 8, 0, 1] rfl) (hD.sub [4, 5, 6, 2, 3, 7, 8, 0, 1] (by decide) rfl) hS (lv_sub hl [1, 2, 3] rfl)
          · have h := h.2 c72
            refine lv_aload_n hx hb dX11_searchOn_75 rfl (lv_at hl 1 rfl) ?_
            refine gfX11_306 (v := (sM_62 24)) hx hb hts hown hK hP 4 rfl rfl dX11_searchOn_76 ?_
            refine lv_goto (tgt := 83) hx hb dX11_searchOn_79 (by decide) ?_
            exact J83 sM_62 M_caseCell M_caseHeading l2 l2 (sM_62 24) _ _ _ h (hP.sub [4, 5, 6, 2, 3, 7, 8, 0, 1] rfl) (hD.sub [4, 5, 6, 2, 3, 7, 8, 0, 1] (by decide) rfl) hS (lv_sub hl [1, 2, 3] rfl)
        · have h := h.2 c17
          refine lv_goto (tgt := 94) hx hb dX11_searchOn_20 (by decide) ?_
          obtain ⟨l2_94, el2_94⟩ : ∃ y : Int32, y = l2 + (1 : Int32) := ⟨_, rfl⟩
          have h := h l2_94 el2_94
          refine lv_iinc (v := l2_94) (lv' := [(2, .int l2_94), (0, .ref h0), (1, .int l1)]) hx hb dX11_searchOn_94 hl (k := 2) rfl (by rw [el2_94]; rfl) (by decide) rfl (fun ls hl => ?_)
          refine lv_goto (tgt := 2) hx hb dX11_searchOn_97 (by decide) ?_
          exact ih2 sM M_caseCell M_caseHeading l2_94 _ _ _ h hP hD hS (lv_sub hl [1, 2, 0] rfl)
  refine lv_iconst (v := (0 : Int32)) hx hb dX11_searchOn_0 (by decide) ?_
  refine lv_istore_n (lv' := [(2, .int (0 : Int32)), (0, .ref h0), (1, .int x1)]) hx hb dX11_searchOn_1 rfl hl (by decide) rfl (fun ls hl => ?_)
  obtain ⟨nf2, h⟩ := h
  refine L2 x1 _ (fun sM_100 M_caseCell_100 M_caseHeading_100 l2_100 H locs ls h hP hD hS hl => ?_) nf2 sM M_caseCell M_caseHeading (0 : Int32) _ _ _ h hP hD hS (lv_sub hl [1, 2, 0] rfl)
  exact hret (sM_100, M_caseCell_100, M_caseHeading_100) _ _ _ _ dX11_searchOn_100 h hP hD hS
def wpX11_doStroke_L15 (sM : AR) (M_told : AR) (M_place : AR) (M_range : AR) (M_voice : AR) (M_kind : AR) (M_now : AR) (M_isFalse : AR) (M_isMirage : AR) (M_why : AR) (M_sets : AR) (M_whys : AR) (M_caseCell : AR) (M_caseHeading : AR) (l1 : Int32) (kx47 : AR → Int32 → Prop) (post : Int32 → AR → AR → AR → AR → AR → AR → AR → AR → Prop) : Nat → AR → Int32 → Prop
  | 0, _, _ => False
  | nf15 + 1, M_rows, l2 => (((29 : Int32) ≤ l2 → kx47 M_rows l2) ∧ (¬ (29 : Int32) ≤ l2 → vp_in l2 29 ∧ vp_in (((29 : Int32) * (sM 30)) + l2) 2900 ∧ ∀ M_rows_40 : AR, M_rows_40 = upd M_rows (((29 : Int32) * (sM 30)) + l2).toNatClampNeg (M_now l2.toNatClampNeg) → ∀ l2_41 : Int32, l2_41 = (l2 + (1 : Int32)) → wpX11_doStroke_L15 sM M_told M_place M_range M_voice M_kind M_now M_isFalse M_isMirage M_why M_sets M_whys M_caseCell M_caseHeading l1 kx47 post nf15 M_rows_40 l2_41))
def wpX11_doStroke_J107 (sM : AR) (M_told : AR) (M_place : AR) (M_range : AR) (M_voice : AR) (M_kind : AR) (M_now : AR) (M_isFalse : AR) (M_isMirage : AR) (M_why : AR) (M_rows : AR) (M_sets : AR) (M_whys : AR) (M_caseCell : AR) (M_caseHeading : AR) (l1 : Int32) (l2 : Int32) (l3 : Int32) (t1 : Int32) (t2 : Int32) (kb : AR → Int32 → Prop) (kx114 : AR → Int32 → Prop) (post : Int32 → AR → AR → AR → AR → AR → AR → AR → AR → Prop) : Prop := vp_in t1 400 ∧ ∀ M_whys_107 : AR, M_whys_107 = upd M_whys t1.toNatClampNeg t2 → ∀ l3_108 : Int32, l3_108 = (l3 + (1 : Int32)) → kb M_whys_107 l3_108
def wpX11_doStroke_L69 (sM : AR) (M_told : AR) (M_place : AR) (M_range : AR) (M_voice : AR) (M_kind : AR) (M_now : AR) (M_isFalse : AR) (M_isMirage : AR) (M_why : AR) (M_rows : AR) (M_sets : AR) (M_caseCell : AR) (M_caseHeading : AR) (l1 : Int32) (l2 : Int32) (kx114 : AR → Int32 → Prop) (post : Int32 → AR → AR → AR → AR → AR → AR → AR → AR → Prop) : Nat → AR → Int32 → Prop
  | 0, _, _ => False
  | nf69 + 1, M_whys, l3 => (((4 : Int32) ≤ l3 → kx114 M_whys l3) ∧ (¬ (4 : Int32) ≤ l3 → (((M_told 3) ≤ l3 → wpX11_doStroke_J107 sM M_told M_place M_range M_voice M_kind M_now M_isFalse M_isMirage M_why M_rows M_sets M_whys M_caseCell M_caseHeading l1 l2 l3 (((4 : Int32) * (sM 30)) + l3) (-3 : Int32) (fun b0 b1 => wpX11_doStroke_L69 sM M_told M_place M_range M_voice M_kind M_now M_isFalse M_isMirage M_why M_rows M_sets M_caseCell M_caseHeading l1 l2 kx114 post nf69 b0 b1) kx114 post) ∧ (¬ (M_told 3) ≤ l3 → vp_in l3 4 ∧ wpX11_doStroke_J107 sM M_told M_place M_range M_voice M_kind M_now M_isFalse M_isMirage M_why M_rows M_sets M_whys M_caseCell M_caseHeading l1 l2 l3 (((4 : Int32) * (sM 30)) + l3) (M_why l3.toNatClampNeg) (fun b0 b1 => wpX11_doStroke_L69 sM M_told M_place M_range M_voice M_kind M_now M_isFalse M_isMirage M_why M_rows M_sets M_caseCell M_caseHeading l1 l2 kx114 post nf69 b0 b1) kx114 post))))
def wpX11_doStroke (sM : AR) (M_told : AR) (M_place : AR) (M_range : AR) (M_voice : AR) (M_kind : AR) (M_now : AR) (M_isFalse : AR) (M_isMirage : AR) (M_why : AR) (M_rows : AR) (M_sets : AR) (M_whys : AR) (M_caseCell : AR) (M_caseHeading : AR) (x1 : Int32) (post : Int32 → AR → AR → AR → AR → AR → AR → AR → AR → Prop) : Prop := ((¬ (sM 30) = (100 : Int32) → ∃ nf15 : Nat, wpX11_doStroke_L15 sM M_told M_place M_range M_voice M_kind M_now M_isFalse M_isMirage M_why M_sets M_whys M_caseCell M_caseHeading x1 (fun M_rows_47 l2_47 => wpX11_strokeOf sM M_told M_place M_range M_voice M_kind M_isFalse M_isMirage M_why M_now x1 (fun r53 sM_53 M_why_53 M_now_53 => vp_in (sM_53 30) 100 ∧ ∀ M_sets_66 : AR, M_sets_66 = upd M_sets (sM_53 30).toNatClampNeg x1 → ∃ nf69 : Nat, wpX11_doStroke_L69 sM_53 M_told M_place M_range M_voice M_kind M_now_53 M_isFalse M_isMirage M_why_53 M_rows_47 M_sets_66 M_caseCell M_caseHeading x1 r53 (fun M_whys_114 l3_114 => ∀ f30_121 : Int32, f30_121 = ((sM_53 30) + (1 : Int32)) → wpX11_searchOn (upd sM_53 30 f30_121) M_told M_place M_range M_voice M_isFalse M_isMirage M_caseCell M_caseHeading x1 (fun sM_126 M_caseCell_126 M_caseHeading_126 => post r53 sM_126 M_now_53 M_why_53 M_rows_47 M_sets_66 M_whys_114 M_caseCell_126 M_caseHeading_126)) post nf69 M_whys (0 : Int32))) post nf15 M_rows (0 : Int32)) ∧ ((sM 30) = (100 : Int32) → wpX11_shiftRows sM M_rows M_sets M_whys (fun sM_10 M_rows_10 M_sets_10 M_whys_10 => ∃ nf15 : Nat, wpX11_doStroke_L15 sM_10 M_told M_place M_range M_voice M_kind M_now M_isFalse M_isMirage M_why M_sets_10 M_whys_10 M_caseCell M_caseHeading x1 (fun M_rows_47 l2_47 => wpX11_strokeOf sM_10 M_told M_place M_range M_voice M_kind M_isFalse M_isMirage M_why M_now x1 (fun r53 sM_53 M_why_53 M_now_53 => vp_in (sM_53 30) 100 ∧ ∀ M_sets_66 : AR, M_sets_66 = upd M_sets_10 (sM_53 30).toNatClampNeg x1 → ∃ nf69 : Nat, wpX11_doStroke_L69 sM_53 M_told M_place M_range M_voice M_kind M_now_53 M_isFalse M_isMirage M_why_53 M_rows_47 M_sets_66 M_caseCell M_caseHeading x1 r53 (fun M_whys_114 l3_114 => ∀ f30_121 : Int32, f30_121 = ((sM_53 30) + (1 : Int32)) → wpX11_searchOn (upd sM_53 30 f30_121) M_told M_place M_range M_voice M_isFalse M_isMirage M_caseCell M_caseHeading x1 (fun sM_126 M_caseCell_126 M_caseHeading_126 => post r53 sM_126 M_now_53 M_why_53 M_rows_47 M_sets_66 M_whys_114 M_caseCell_126 M_caseHeading_126)) post nf69 M_whys_10 (0 : Int32))) post nf15 M_rows_10 (0 : Int32))))
set_option maxHeartbeats 4000000 in
set_option maxRecDepth 100000 in
theorem ctX11_doStroke (l : Launch) (D : va_G) (cy : Nat → ClassId) (ev : Nat → Nat) (h0 : Nat) (rM : Nat → Nat) (sM : AR) (M_told : AR) (M_place : AR) (M_range : AR) (M_voice : AR) (M_kind : AR) (M_now : AR) (M_isFalse : AR) (M_isMirage : AR) (M_why : AR) (M_rows : AR) (M_sets : AR) (M_whys : AR) (M_caseCell : AR) (M_caseHeading : AR) (x1 : Int32) (sz : Nat) (post : Int32 → AR → AR → AR → AR → AR → AR → AR → AR → Prop) (h : wpX11_doStroke sM M_told M_place M_range M_voice M_kind M_now M_isFalse M_isMirage M_why M_rows M_sets M_whys M_caseCell M_caseHeading x1 post) : Met l yX11_doStroke (Cond.code yX11_doStroke cX11_doStroke 4 (some .int) :: TB) ({ frames := 6, cells := 0, slots := 0, locals := 182 }) (va_Pc [.ref h0, .int x1] (PreX D cy ev [(h0, .inr (11, oX11 rM sM)), ((rM 3), .inl (cy 0, 14, .inl M_told)), ((rM 4), .inl (cy 0, 10, .inl M_place)), ((rM 5), .inl (cy 0, 10, .inl M_range)), ((rM 6), .inl (cy 0, 10, .inl M_voice)), ((rM 7), .inl (cy 0, 8, .inl M_kind)), ((rM 8), .inl (cy 0, 29, .inl M_now)), ((rM 11), .inl (cy 2, 10, .inl M_isFalse)), ((rM 12), .inl (cy 2, 200, .inl M_isMirage)), ((rM 26), .inl (cy 0, 4, .inl M_why)), ((rM 27), .inl (cy 0, 2900, .inl M_rows)), ((rM 28), .inl (cy 0, 100, .inl M_sets)), ((rM 29), .inl (cy 0, 400, .inl M_whys)), ((rM 34), .inl (cy 0, 100, .inl M_caseCell)), ((rM 35), .inl (cy 0, 100, .inl M_caseHeading))] sz)) (va_Qi (fun (r : Int32) (u : AR × AR × AR × AR × AR × AR × AR × AR) => post r (u.1) (u.2.1) (u.2.2.1) (u.2.2.2.1) (u.2.2.2.2.1) (u.2.2.2.2.2.1) (u.2.2.2.2.2.2.1) (u.2.2.2.2.2.2.2)) (fun u => BkX D cy [(h0, .inr (11, oX11 rM sM)), ((rM 3), .inl (cy 0, 14, .inl M_told)), ((rM 4), .inl (cy 0, 10, .inl M_place)), ((rM 5), .inl (cy 0, 10, .inl M_range)), ((rM 6), .inl (cy 0, 10, .inl M_voice)), ((rM 7), .inl (cy 0, 8, .inl M_kind)), ((rM 8), .inl (cy 0, 29, .inl M_now)), ((rM 11), .inl (cy 2, 10, .inl M_isFalse)), ((rM 12), .inl (cy 2, 200, .inl M_isMirage)), ((rM 26), .inl (cy 0, 4, .inl M_why)), ((rM 27), .inl (cy 0, 2900, .inl M_rows)), ((rM 28), .inl (cy 0, 100, .inl M_sets)), ((rM 29), .inl (cy 0, 400, .inl M_whys)), ((rM 34), .inl (cy 0, 100, .inl M_caseCell)), ((rM 35), .inl (cy 0, 100, .inl M_caseHeading))] sz [(h0, .inr (11, oX11 rM (u.1))), ((rM 3), .inl (cy 0, 14, .inl M_told)), ((rM 4), .inl (cy 0, 10, .inl M_place)), ((rM 5), .inl (cy 0, 10, .inl M_range)), ((rM 6), .inl (cy 0, 10, .inl M_voice)), ((rM 7), .inl (cy 0, 8, .inl M_kind)), ((rM 8), .inl (cy 0, 29, .inl (u.2.1))), ((rM 11), .inl (cy 2, 10, .inl M_isFalse)), ((rM 12), .inl (cy 2, 200, .inl M_isMirage)), ((rM 26), .inl (cy 0, 4, .inl (u.2.2.1))), ((rM 27), .inl (cy 0, 2900, .inl (u.2.2.2.1))), ((rM 28), .inl (cy 0, 100, .inl (u.2.2.2.2.1))), ((rM 29), .inl (cy 0, 400, .inl (u.2.2.2.2.2.1))), ((rM 34), .inl (cy 0, 100, .inl (u.2.2.2.2.2.2.1))), ((rM 35), .inl (cy 0, 100, .inl (u.2.2.2.2.2.2.2)))]) (va_A [(h0, .inr (11, oX11 rM sM)), ((rM 3), .inl (cy 0, 14, .inl M_told)), ((rM 4), .inl (cy 0, 10, .inl M_place)), ((rM 5), .inl (cy 0, 10, .inl M_range)), ((rM 6), .inl (cy 0, 10, .inl M_voice)), ((rM 7), .inl (cy 0, 8, .inl M_kind)), ((rM 8), .inl (cy 0, 29, .inl M_now)), ((rM 11), .inl (cy 2, 10, .inl M_isFalse)), ((rM 12), .inl (cy 2, 200, .inl M_isMirage)), ((rM 26), .inl (cy 0, 4, .inl M_why)), ((rM 27), .inl (cy 0, 2900, .inl M_rows)), ((rM 28), .inl (cy 0, 100, .inl M_sets)), ((rM 29), .inl (cy 0, 400, .inl M_whys)), ((rM 34), .inl (cy 0, 100, .inl M_caseCell)), ((rM 35), .inl (cy 0, 100, .inl M_caseHeading))] sz)) 0 0 (va_A [(h0, .inr (11, oX11 rM sM)), ((rM 3), .inl (cy 0, 14, .inl M_told)), ((rM 4), .inl (cy 0, 10, .inl M_place)), ((rM 5), .inl (cy 0, 10, .inl M_range)), ((rM 6), .inl (cy 0, 10, .inl M_voice)), ((rM 7), .inl (cy 0, 8, .inl M_kind)), ((rM 8), .inl (cy 0, 29, .inl M_now)), ((rM 11), .inl (cy 2, 10, .inl M_isFalse)), ((rM 12), .inl (cy 2, 200, .inl M_isMirage)), ((rM 26), .inl (cy 0, 4, .inl M_why)), ((rM 27), .inl (cy 0, 2900, .inl M_rows)), ((rM 28), .inl (cy 0, 100, .inl M_sets)), ((rM 29), .inl (cy 0, 400, .inl M_whys)), ((rM 34), .inl (cy 0, 100, .inl M_caseCell)), ((rM 35), .inl (cy 0, 100, .inl M_caseHeading))] sz) := by
  refine ofWi (by decide) (Nat.le_of_ble_eq_true rfl) ?_
  intro p e s m args below meth c ls A R QQ hx hb hml hown hts hR hlk hE hK hP hD hS hA hl hret
  have hown : s.vm.findClass RX11 = some m.cls := hown
  have hRf : 6 ≤ R.frames := by rw [hR]; exact Nat.le_refl _
  have hRl : 182 ≤ R.locals := by rw [hR]; exact Nat.le_refl _
  clear hR
  have hl : lv_has ls 4 [(0, .ref h0), (1, .int x1)] := hl
  have L69 : ∀ (sM : AR) (M_now : AR) (M_why : AR) (M_rows : AR) (M_sets : AR) (l1 : Int32) (l2 : Int32) (kx114 : AR → Int32 → Prop), (∀ (M_whys : AR) (l3 : Int32) (H : Heap) (locs : List Loc) (ls : Array Slot), kx114 M_whys l3 → va_P D clsX [(h0, .inr (11, oX11 rM sM)), ((rM 3), .inl (cy 0, 14, .inl M_told)), ((rM 4), .inl (cy 0, 10, .inl M_place)), ((rM 5), .inl (cy 0, 10, .inl M_range)), ((rM 6), .inl (cy 0, 10, .inl M_voice)), ((rM 7), .inl (cy 0, 8, .inl M_kind)), ((rM 8), .inl (cy 0, 29, .inl M_now)), ((rM 11), .inl (cy 2, 10, .inl M_isFalse)), ((rM 12), .inl (cy 2, 200, .inl M_isMirage)), ((rM 26), .inl (cy 0, 4, .inl M_why)), ((rM 27), .inl (cy 0, 2900, .inl M_rows)), ((rM 28), .inl (cy 0, 100, .inl M_sets)), ((rM 29), .inl (cy 0, 400, .inl M_whys)), ((rM 34), .inl (cy 0, 100, .inl M_caseCell)), ((rM 35), .inl (cy 0, 100, .inl M_caseHeading))] H → va_D A [(h0, .inr (11, oX11 rM sM)), ((rM 3), .inl (cy 0, 14, .inl M_told)), ((rM 4), .inl (cy 0, 10, .inl M_place)), ((rM 5), .inl (cy 0, 10, .inl M_range)), ((rM 6), .inl (cy 0, 10, .inl M_voice)), ((rM 7), .inl (cy 0, 8, .inl M_kind)), ((rM 8), .inl (cy 0, 29, .inl M_now)), ((rM 11), .inl (cy 2, 10, .inl M_isFalse)), ((rM 12), .inl (cy 2, 200, .inl M_isMirage)), ((rM 26), .inl (cy 0, 4, .inl M_why)), ((rM 27), .inl (cy 0, 2900, .inl M_rows)), ((rM 28), .inl (cy 0, 100, .inl M_sets)), ((rM 29), .inl (cy 0, 400, .inl M_whys)), ((rM 34), .inl (cy 0, 100, .inl M_caseCell)), ((rM 35), .inl (cy 0, 100, .inl M_caseHeading))] → va_S A s.heap H locs → lv_has ls 4 [(0, .ref h0), (1, .int l1), (2, .int l2)] → W p l e R s m args below meth c H locs 0 0 QQ (F0 m 114 ls [])) → ∀ (nf69 : Nat) (M_whys : AR) (l3 : Int32) (H : Heap) (locs : List Loc) (ls : Array Slot), wpX11_doStroke_L69 sM M_told M_place M_range M_voice M_kind M_now M_isFalse M_isMirage M_why M_rows M_sets M_caseCell M_caseHeading l1 l2 kx114 post nf69 M_whys l3 → va_P D clsX [(h0, .inr (11, oX11 rM sM)), ((rM 3), .inl (cy 0, 14, .inl M_told)), ((rM 4), .inl (cy 0, 10, .inl M_place)), ((rM 5), .inl (cy 0, 10, .inl M_range)), ((rM 6), .inl (cy 0, 10, .inl M_voice)), ((rM 7), .inl (cy 0, 8, .inl M_kind)), ((rM 8), .inl (cy 0, 29, .inl M_now)), ((rM 11), .inl (cy 2, 10, .inl M_isFalse)), ((rM 12), .inl (cy 2, 200, .inl M_isMirage)), ((rM 26), .inl (cy 0, 4, .inl M_why)), ((rM 27), .inl (cy 0, 2900, .inl M_rows)), ((rM 28), .inl (cy 0, 100, .inl M_sets)), ((rM 29), .inl (cy 0, 400, .inl M_whys)), ((rM 34), .inl (cy 0, 100, .inl M_caseCell)), ((rM 35), .inl (cy 0, 100, .inl M_caseHeading))] H → va_D A [(h0, .inr (11, oX11 rM sM)), ((rM 3), .inl (cy 0, 14, .inl M_told)), ((rM 4), .inl (cy 0, 10, .inl M_place)), ((rM 5), .inl (cy 0, 10, .inl M_range)), ((rM 6), .inl (cy 0, 10, .inl M_voice)), ((rM 7), .inl (cy 0, 8, .inl M_kind)), ((rM 8), .inl (cy 0, 29, .inl M_now)), ((rM 11), .inl (cy 2, 10, .inl M_isFalse)), ((rM 12), .inl (cy 2, 200, .inl M_isMirage)), ((rM 26), .inl (cy 0, 4, .inl M_why)), ((rM 27), .inl (cy 0, 2900, .inl M_rows)), ((rM 28), .inl (cy 0, 100, .inl M_sets)), ((rM 29), .inl (cy 0, 400, .inl M_whys)), ((rM 34), .inl (cy 0, 100, .inl M_caseCell)), ((rM 35), .inl (cy 0, 100, .inl M_caseHeading))] → va_S A s.heap H locs → lv_has ls 4 [(0, .ref h0), (1, .int l1), (2, .int l2), (3, .int l3)] → W p l e R s m args below meth c H locs 0 0 QQ (F0 m 69 ls []) := by
    intro sM M_now M_why M_rows M_sets l1 l2 kx114 hk69_114 nf69
    induction nf69 with
    | zero =>
      intro M_whys l3 H locs ls h
      exact (show False from h).elim
    | succ nf69 ih69 =>
      intro M_whys l3 H locs ls h hP hD hS hl
      have J107 : ∀ (M_whys : AR) (l3 : Int32) (t1 : Int32) (t2 : Int32) (H : Heap) (locs : List Loc) (ls : Array Slot), wpX11_doStroke_J107 sM M_told M_place M_range M_voice M_kind M_now M_isFalse M_isMirage M_why M_rows M_sets M_whys M_caseCell M_caseHeading l1 l2 l3 t1 t2 (fun b0 b1 => wpX11_doStroke_L69 sM M_told M_place M_range M_voice M_kind M_now M_isFalse M_isMirage M_why M_rows M_sets M_caseCell M_caseHeading l1 l2 kx114 post nf69 b0 b1) kx114 post → va_P D clsX [(h0, .inr (11, oX11 rM sM)), ((rM 3), .inl (cy 0, 14, .inl M_told)), ((rM 4), .inl (cy 0, 10, .inl M_place)), ((rM 5), .inl (cy 0, 10, .inl M_range)), ((rM 6), .inl (cy 0, 10, .inl M_voice)), ((rM 7), .inl (cy 0, 8, .inl M_kind)), ((rM 8), .inl (cy 0, 29, .inl M_now)), ((rM 11), .inl (cy 2, 10, .inl M_isFalse)), ((rM 12), .inl (cy 2, 200, .inl M_isMirage)), ((rM 26), .inl (cy 0, 4, .inl M_why)), ((rM 27), .inl (cy 0, 2900, .inl M_rows)), ((rM 28), .inl (cy 0, 100, .inl M_sets)), ((rM 29), .inl (cy 0, 400, .inl M_whys)), ((rM 34), .inl (cy 0, 100, .inl M_caseCell)), ((rM 35), .inl (cy 0, 100, .inl M_caseHeading))] H → va_D A [(h0, .inr (11, oX11 rM sM)), ((rM 3), .inl (cy 0, 14, .inl M_told)), ((rM 4), .inl (cy 0, 10, .inl M_place)), ((rM 5), .inl (cy 0, 10, .inl M_range)), ((rM 6), .inl (cy 0, 10, .inl M_voice)), ((rM 7), .inl (cy 0, 8, .inl M_kind)), ((rM 8), .inl (cy 0, 29, .inl M_now)), ((rM 11), .inl (cy 2, 10, .inl M_isFalse)), ((rM 12), .inl (cy 2, 200, .inl M_isMirage)), ((rM 26), .inl (cy 0, 4, .inl M_why)), ((rM 27), .inl (cy 0, 2900, .inl M_rows)), ((rM 28), .inl (cy 0, 100, .inl M_sets)), ((rM 29), .inl (cy 0, 400, .inl M_whys)), ((rM 34), .inl (cy 0, 100, .inl M_caseCell)), ((rM 35), .inl (cy 0, 100, .inl M_caseHeading))] → va_S A s.heap H locs → lv_has ls 4 [(0, .ref h0), (1, .int l1), (2, .int l2), (3, .int l3)] → W p l e R s m args below meth c H locs 0 0 QQ (F0 m 107 ls [.int t2, .int t1, .ref (rM 29)]) := by
        intro M_whys l3 t1 t2 H locs ls h hP hD hS hl
        obtain ⟨hin, h⟩ := h
        refine sti (k := t1.toNatClampNeg) (y := t2) hx hb hK hP hD hS 12 rfl hin rfl rfl dX11_doStroke_107 (fun M_whys_107 eM_whys_107 H locs hP hD hS => ?_)
        have h := h M_whys_107 eM_whys_107
        have hP : va_P D clsX [(h0, .inr (11, oX11 rM sM)), ((rM 3), .inl (cy 0, 14, .inl M_told)), ((rM 4), .inl (cy 0, 10, .inl M_place)), ((rM 5), .inl (cy 0, 10, .inl M_range)), ((rM 6), .inl (cy 0, 10, .inl M_voice)), ((rM 7), .inl (cy 0, 8, .inl M_kind)), ((rM 8), .inl (cy 0, 29, .inl M_now)), ((rM 11), .inl (cy 2, 10, .inl M_isFalse)), ((rM 12), .inl (cy 2, 200, .inl M_isMirage)), ((rM 26), .inl (cy 0, 4, .inl M_why)), ((rM 27), .inl (cy 0, 2900, .inl M_rows)), ((rM 28), .inl (cy 0, 100, .inl M_sets)), ((rM 29), .inl (cy 0, 400, .inl M_whys_107)), ((rM 34), .inl (cy 0, 100, .inl M_caseCell)), ((rM 35), .inl (cy 0, 100, .inl M_caseHeading))] H := hP
        have hD : va_D A [(h0, .inr (11, oX11 rM sM)), ((rM 3), .inl (cy 0, 14, .inl M_told)), ((rM 4), .inl (cy 0, 10, .inl M_place)), ((rM 5), .inl (cy 0, 10, .inl M_range)), ((rM 6), .inl (cy 0, 10, .inl M_voice)), ((rM 7), .inl (cy 0, 8, .inl M_kind)), ((rM 8), .inl (cy 0, 29, .inl M_now)), ((rM 11), .inl (cy 2, 10, .inl M_isFalse)), ((rM 12), .inl (cy 2, 200, .inl M_isMirage)), ((rM 26), .inl (cy 0, 4, .inl M_why)), ((rM 27), .inl (cy 0, 2900, .inl M_rows)), ((rM 28), .inl (cy 0, 100, .inl M_sets)), ((rM 29), .inl (cy 0, 400, .inl M_whys_107)), ((rM 34), .inl (cy 0, 100, .inl M_caseCell)), ((rM 35), .inl (cy 0, 100, .inl M_caseHeading))] := hD
        obtain ⟨l3_108, el3_108⟩ : ∃ y : Int32, y = l3 + (1 : Int32) := ⟨_, rfl⟩
        have h := h l3_108 el3_108
        refine lv_iinc (v := l3_108) (lv' := [(3, .int l3_108), (0, .ref h0), (1, .int l1), (2, .int l2)]) hx hb dX11_doStroke_108 hl (k := 3) rfl (by rw [el3_108]; rfl) (by decide) rfl (fun ls hl => ?_)
        refine lv_goto (tgt := 69) hx hb dX11_doStroke_111 (by decide) ?_
        exact ih69 M_whys_107 l3_108 _ _ _ h hP hD hS (lv_sub hl [1, 2, 3, 0] rfl)
      refine lv_iload_n hx hb dX11_doStroke_69 rfl (lv_at hl 3 rfl) ?_
      refine lv_iconst (v := (4 : Int32)) hx hb dX11_doStroke_70 (by decide) ?_
      refine lv_icmp_ge (tgt := 114) hx hb dX11_doStroke_71 (by decide) (fun c71 => ?_) (fun c71 => ?_)
      · have h := h.1 c71
        exact hk69_114 M_whys l3 _ _ _ h hP hD hS (lv_sub hl [0, 1, 2] rfl)
      · have h := h.2 c71
        refine lv_aload_n hx hb dX11_doStroke_74 rfl (lv_at hl 0 rfl) ?_
        refine gfX11_84 hx hb hts hown hK hP 0 rfl dX11_doStroke_75 ?_
        refine lv_iconst (v := (4 : Int32)) hx hb dX11_doStroke_78 (by decide) ?_
        refine lv_aload_n hx hb dX11_doStroke_79 rfl (lv_at hl 0 rfl) ?_
        refine gfX11_270 (v := (sM 30)) hx hb hts hown hK hP 0 rfl rfl dX11_doStroke_80 ?_
        refine lv_imul hx hb dX11_doStroke_83 ?_
        refine lv_iload_n hx hb dX11_doStroke_84 rfl (lv_at hl 3 rfl) ?_
        refine lv_iadd hx hb dX11_doStroke_85 ?_
        refine lv_iload_n hx hb dX11_doStroke_86 rfl (lv_at hl 3 rfl) ?_
        refine lv_aload_n hx hb dX11_doStroke_87 rfl (lv_at hl 0 rfl) ?_
        refine gfX11_36 hx hb hts hown hK hP 0 rfl dX11_doStroke_88 ?_
        refine lv_iconst (v := (3 : Int32)) hx hb dX11_doStroke_91 (by decide) ?_
        refine ldi (k := 3) hx hb hK hP 1 rfl (inL (by decide)) (by decide) dX11_doStroke_92 ?_
        refine lv_icmp_ge (tgt := 105) hx hb dX11_doStroke_93 (by decide) (fun c93 => ?_) (fun c93 => ?_)
        · have h := h.1 c93
          refine lv_bipush (v := (-3 : Int32)) hx hb dX11_doStroke_105 (by decide) ?_
          exact J107 M_whys l3 (((4 : Int32) * (sM 30)) + l3) (-3 : Int32) _ _ _ h hP hD hS hl
        · have h := h.2 c93
          refine lv_aload_n hx hb dX11_doStroke_96 rfl (lv_at hl 0 rfl) ?_
          refine gfX11_75 hx hb hts hown hK hP 0 rfl dX11_doStroke_97 ?_
          refine lv_iload_n hx hb dX11_doStroke_100 rfl (lv_at hl 3 rfl) ?_
          obtain ⟨hin, h⟩ := h
          refine ldi (k := l3.toNatClampNeg) hx hb hK hP 9 rfl hin rfl dX11_doStroke_101 ?_
          refine lv_goto (tgt := 107) hx hb dX11_doStroke_102 (by decide) ?_
          exact J107 M_whys l3 (((4 : Int32) * (sM 30)) + l3) (M_why l3.toNatClampNeg) _ _ _ h hP hD hS hl
  have L15 : ∀ (sM : AR) (M_sets : AR) (M_whys : AR) (l1 : Int32) (kx47 : AR → Int32 → Prop), (∀ (M_rows : AR) (l2 : Int32) (H : Heap) (locs : List Loc) (ls : Array Slot), kx47 M_rows l2 → va_P D clsX [(h0, .inr (11, oX11 rM sM)), ((rM 3), .inl (cy 0, 14, .inl M_told)), ((rM 4), .inl (cy 0, 10, .inl M_place)), ((rM 5), .inl (cy 0, 10, .inl M_range)), ((rM 6), .inl (cy 0, 10, .inl M_voice)), ((rM 7), .inl (cy 0, 8, .inl M_kind)), ((rM 8), .inl (cy 0, 29, .inl M_now)), ((rM 11), .inl (cy 2, 10, .inl M_isFalse)), ((rM 12), .inl (cy 2, 200, .inl M_isMirage)), ((rM 26), .inl (cy 0, 4, .inl M_why)), ((rM 27), .inl (cy 0, 2900, .inl M_rows)), ((rM 28), .inl (cy 0, 100, .inl M_sets)), ((rM 29), .inl (cy 0, 400, .inl M_whys)), ((rM 34), .inl (cy 0, 100, .inl M_caseCell)), ((rM 35), .inl (cy 0, 100, .inl M_caseHeading))] H → va_D A [(h0, .inr (11, oX11 rM sM)), ((rM 3), .inl (cy 0, 14, .inl M_told)), ((rM 4), .inl (cy 0, 10, .inl M_place)), ((rM 5), .inl (cy 0, 10, .inl M_range)), ((rM 6), .inl (cy 0, 10, .inl M_voice)), ((rM 7), .inl (cy 0, 8, .inl M_kind)), ((rM 8), .inl (cy 0, 29, .inl M_now)), ((rM 11), .inl (cy 2, 10, .inl M_isFalse)), ((rM 12), .inl (cy 2, 200, .inl M_isMirage)), ((rM 26), .inl (cy 0, 4, .inl M_why)), ((rM 27), .inl (cy 0, 2900, .inl M_rows)), ((rM 28), .inl (cy 0, 100, .inl M_sets)), ((rM 29), .inl (cy 0, 400, .inl M_whys)), ((rM 34), .inl (cy 0, 100, .inl M_caseCell)), ((rM 35), .inl (cy 0, 100, .inl M_caseHeading))] → va_S A s.heap H locs → lv_has ls 4 [(0, .ref h0), (1, .int l1)] → W p l e R s m args below meth c H locs 0 0 QQ (F0 m 47 ls [])) → ∀ (nf15 : Nat) (M_rows : AR) (l2 : Int32) (H : Heap) (locs : List Loc) (ls : Array Slot), wpX11_doStroke_L15 sM M_told M_place M_range M_voice M_kind M_now M_isFalse M_isMirage M_why M_sets M_whys M_caseCell M_caseHeading l1 kx47 post nf15 M_rows l2 → va_P D clsX [(h0, .inr (11, oX11 rM sM)), ((rM 3), .inl (cy 0, 14, .inl M_told)), ((rM 4), .inl (cy 0, 10, .inl M_place)), ((rM 5), .inl (cy 0, 10, .inl M_range)), ((rM 6), .inl (cy 0, 10, .inl M_voice)), ((rM 7), .inl (cy 0, 8, .inl M_kind)), ((rM 8), .inl (cy 0, 29, .inl M_now)), ((rM 11), .inl (cy 2, 10, .inl M_isFalse)), ((rM 12), .inl (cy 2, 200, .inl M_isMirage)), ((rM 26), .inl (cy 0, 4, .inl M_why)), ((rM 27), .inl (cy 0, 2900, .inl M_rows)), ((rM 28), .inl (cy 0, 100, .inl M_sets)), ((rM 29), .inl (cy 0, 400, .inl M_whys)), ((rM 34), .inl (cy 0, 100, .inl M_caseCell)), ((rM 35), .inl (cy 0, 100, .inl M_caseHeading))] H → va_D A [(h0, .inr (11, oX11 rM sM)), ((rM 3), .inl (cy 0, 14, .inl M_told)), ((rM 4), .inl (cy 0, 10, .inl M_place)), ((rM 5), .inl (cy 0, 10, .inl M_range)), ((rM 6), .inl (cy 0, 10, .inl M_voice)), ((rM 7), .inl (cy 0, 8, .inl M_kind)), ((rM 8), .inl (cy 0, 29, .inl M_now)), ((rM 11), .inl (cy 2, 10, .inl M_isFalse)), ((rM 12), .inl (cy 2, 200, .inl M_isMirage)), ((rM 26), .inl (cy 0, 4, .inl M_why)), ((rM 27), .inl (cy 0, 2900, .inl M_rows)), ((rM 28), .inl (cy 0, 100, .inl M_sets)), ((rM 29), .inl (cy 0, 400, .inl M_whys)), ((rM 34), .inl (cy 0, 100, .inl M_caseCell)), ((rM 35), .inl (cy 0, 100, .inl M_caseHeading))] → va_S A s.heap H locs → lv_has ls 4 [(0, .ref h0), (1, .int l1), (2, .int l2)] → W p l e R s m args below meth c H locs 0 0 QQ (F0 m 15 ls []) := by
    intro sM M_sets M_whys l1 kx47 hk15_47 nf15
    induction nf15 with
    | zero =>
      intro M_rows l2 H locs ls h
      exact (show False from h).elim
    | succ nf15 ih15 =>
      intro M_rows l2 H locs ls h hP hD hS hl
      refine lv_iload_n hx hb dX11_doStroke_15 rfl (lv_at hl 2 rfl) ?_
      refine lv_bipush (v := (29 : Int32)) hx hb dX11_doStroke_16 (by decide) ?_
      refine lv_icmp_ge (tgt := 47) hx hb dX11_doStroke_18 (by decide) (fun c18 => ?_) (fun c18 => ?_)
      · have h := h.1 c18
        exact hk15_47 M_rows l2 _ _ _ h hP hD hS (lv_sub hl [0, 1] rfl)
      · have h := h.2 c18
        refine lv_aload_n hx hb dX11_doStroke_21 rfl (lv_at hl 0 rfl) ?_
        refine gfX11_78 hx hb hts hown hK hP 0 rfl dX11_doStroke_22 ?_
        refine lv_bipush (v := (29 : Int32)) hx hb dX11_doStroke_25 (by decide) ?_
        refine lv_aload_n hx hb dX11_doStroke_27 rfl (lv_at hl 0 rfl) ?_
        refine gfX11_270 (v := (sM 30)) hx hb hts hown hK hP 0 rfl rfl dX11_doStroke_28 ?_
        refine lv_imul hx hb dX11_doStroke_31 ?_
        refine lv_iload_n hx hb dX11_doStroke_32 rfl (lv_at hl 2 rfl) ?_
        refine lv_iadd hx hb dX11_doStroke_33 ?_
        refine lv_aload_n hx hb dX11_doStroke_34 rfl (lv_at hl 0 rfl) ?_
        refine gfX11_52 hx hb hts hown hK hP 0 rfl dX11_doStroke_35 ?_
        refine lv_iload_n hx hb dX11_doStroke_38 rfl (lv_at hl 2 rfl) ?_
        obtain ⟨hin, h⟩ := h
        refine ldi (k := l2.toNatClampNeg) hx hb hK hP 6 rfl hin rfl dX11_doStroke_39 ?_
        obtain ⟨hin, h⟩ := h
        refine sti (k := (((29 : Int32) * (sM 30)) + l2).toNatClampNeg) (y := (M_now l2.toNatClampNeg)) hx hb hK hP hD hS 10 rfl hin rfl rfl dX11_doStroke_40 (fun M_rows_40 eM_rows_40 H locs hP hD hS => ?_)
        have h := h M_rows_40 eM_rows_40
        have hP : va_P D clsX [(h0, .inr (11, oX11 rM sM)), ((rM 3), .inl (cy 0, 14, .inl M_told)), ((rM 4), .inl (cy 0, 10, .inl M_place)), ((rM 5), .inl (cy 0, 10, .inl M_range)), ((rM 6), .inl (cy 0, 10, .inl M_voice)), ((rM 7), .inl (cy 0, 8, .inl M_kind)), ((rM 8), .inl (cy 0, 29, .inl M_now)), ((rM 11), .inl (cy 2, 10, .inl M_isFalse)), ((rM 12), .inl (cy 2, 200, .inl M_isMirage)), ((rM 26), .inl (cy 0, 4, .inl M_why)), ((rM 27), .inl (cy 0, 2900, .inl M_rows_40)), ((rM 28), .inl (cy 0, 100, .inl M_sets)), ((rM 29), .inl (cy 0, 400, .inl M_whys)), ((rM 34), .inl (cy 0, 100, .inl M_caseCell)), ((rM 35), .inl (cy 0, 100, .inl M_caseHeading))] H := hP
        have hD : va_D A [(h0, .inr (11, oX11 rM sM)), ((rM 3), .inl (cy 0, 14, .inl M_told)), ((rM 4), .inl (cy 0, 10, .inl M_place)), ((rM 5), .inl (cy 0, 10, .inl M_range)), ((rM 6), .inl (cy 0, 10, .inl M_voice)), ((rM 7), .inl (cy 0, 8, .inl M_kind)), ((rM 8), .inl (cy 0, 29, .inl M_now)), ((rM 11), .inl (cy 2, 10, .inl M_isFalse)), ((rM 12), .inl (cy 2, 200, .inl M_isMirage)), ((rM 26), .inl (cy 0, 4, .inl M_why)), ((rM 27), .inl (cy 0, 2900, .inl M_rows_40)), ((rM 28), .inl (cy 0, 100, .inl M_sets)), ((rM 29), .inl (cy 0, 400, .inl M_whys)), ((rM 34), .inl (cy 0, 100, .inl M_caseCell)), ((rM 35), .inl (cy 0, 100, .inl M_caseHeading))] := hD
        obtain ⟨l2_41, el2_41⟩ : ∃ y : Int32, y = l2 + (1 : Int32) := ⟨_, rfl⟩
        have h := h l2_41 el2_41
        refine lv_iinc (v := l2_41) (lv' := [(2, .int l2_41), (0, .ref h0), (1, .int l1)]) hx hb dX11_doStroke_41 hl (k := 2) rfl (by rw [el2_41]; rfl) (by decide) rfl (fun ls hl => ?_)
        refine lv_goto (tgt := 15) hx hb dX11_doStroke_44 (by decide) ?_
        exact ih15 M_rows_40 l2_41 _ _ _ h hP hD hS (lv_sub hl [1, 2, 0] rfl)
  refine lv_aload_n hx hb dX11_doStroke_0 rfl (lv_at hl 0 rfl) ?_
  refine gfX11_270 (v := (sM 30)) hx hb hts hown hK hP 0 rfl rfl dX11_doStroke_1 ?_
  refine lv_bipush (v := (100 : Int32)) hx hb dX11_doStroke_4 (by decide) ?_
  refine lv_icmp_ne (tgt := 13) hx hb dX11_doStroke_6 (by decide) (fun c6 => ?_) (fun c6 => ?_)
  · have h := h.1 c6
    refine lv_iconst (v := (0 : Int32)) hx hb dX11_doStroke_13 (by decide) ?_
    refine lv_istore_n (lv' := [(2, .int (0 : Int32)), (0, .ref h0), (1, .int x1)]) hx hb dX11_doStroke_14 rfl hl (by decide) rfl (fun ls hl => ?_)
    obtain ⟨nf15, h⟩ := h
    refine L15 sM M_sets M_whys x1 _ (fun M_rows_47 l2_47 H locs ls h hP hD hS hl => ?_) nf15 M_rows (0 : Int32) _ _ _ h hP hD hS (lv_sub hl [1, 2, 0] rfl)
    refine lv_aload_n hx hb dX11_doStroke_47 rfl (lv_at hl 0 rfl) ?_
    refine lv_aload_n hx hb dX11_doStroke_48 rfl (lv_at hl 0 rfl) ?_
    refine gfX11_52 hx hb hts hown hK hP 0 rfl dX11_doStroke_49 ?_
    refine lv_iload_n hx hb dX11_doStroke_52 rfl (lv_at hl 1 rfl) ?_
    refine clVi (As := [.ref (rM 8), .int x1]) (rest := []) (Wr := [((rM 27), .inl (cy 0, 2900, .inl M_rows_47)), ((rM 28), .inl (cy 0, 100, .inl M_sets)), ((rM 29), .inl (cy 0, 400, .inl M_whys)), ((rM 34), .inl (cy 0, 100, .inl M_caseCell)), ((rM 35), .inl (cy 0, 100, .inl M_caseHeading))]) (cq := (RX11, TX11, 56)) ⟨hx, hb, hml, hown, hts⟩ ⟨callB_of 2 hts (goodC mw1525) rfl rfl rfl (hts _ (tb mw15)) (hts _ (tb mw1522)) kdX11_strokeOf ⟨Nat.le_trans (by decide) hRf, Nat.le_trans (by decide) hRl⟩, hts _ (tb mw1524), hts _ (tb ms68)⟩ (ctX11_strokeOf l D cy ev h0 (rM 8) rM sM M_told M_place M_range M_voice M_kind M_isFalse M_isMirage M_why M_now x1 _ _ h) hE hK hP hD hS hA [0, 1, 2, 3, 4, 5, 7, 8, 9, 6] [10, 11, 12, 13, 14] rfl rfl (by decide) (by decide) (by decide) 0 rfl rfl rfl hl.1 rfl (Nat.le_of_ble_eq_true rfl) ⟨Nat.zero_le _, Nat.zero_le _⟩ dX11_doStroke_53 (fun r53 u H locs h hP hD hS => ?_)
    obtain ⟨sM_53, M_why_53, M_now_53⟩ := u
    have hP : va_P D clsX [((rM 27), .inl (cy 0, 2900, .inl M_rows_47)), ((rM 28), .inl (cy 0, 100, .inl M_sets)), ((rM 29), .inl (cy 0, 400, .inl M_whys)), ((rM 34), .inl (cy 0, 100, .inl M_caseCell)), ((rM 35), .inl (cy 0, 100, .inl M_caseHeading)), (h0, .inr (11, oX11 rM sM_53)), ((rM 3), .inl (cy 0, 14, .inl M_told)), ((rM 4), .inl (cy 0, 10, .inl M_place)), ((rM 5), .inl (cy 0, 10, .inl M_range)), ((rM 6), .inl (cy 0, 10, .inl M_voice)), ((rM 7), .inl (cy 0, 8, .inl M_kind)), ((rM 11), .inl (cy 2, 10, .inl M_isFalse)), ((rM 12), .inl (cy 2, 200, .inl M_isMirage)), ((rM 26), .inl (cy 0, 4, .inl M_why_53)), ((rM 8), .inl (cy 0, 29, .inl M_now_53))] H := hP
    have hD : va_D A [((rM 27), .inl (cy 0, 2900, .inl M_rows_47)), ((rM 28), .inl (cy 0, 100, .inl M_sets)), ((rM 29), .inl (cy 0, 400, .inl M_whys)), ((rM 34), .inl (cy 0, 100, .inl M_caseCell)), ((rM 35), .inl (cy 0, 100, .inl M_caseHeading)), (h0, .inr (11, oX11 rM sM_53)), ((rM 3), .inl (cy 0, 14, .inl M_told)), ((rM 4), .inl (cy 0, 10, .inl M_place)), ((rM 5), .inl (cy 0, 10, .inl M_range)), ((rM 6), .inl (cy 0, 10, .inl M_voice)), ((rM 7), .inl (cy 0, 8, .inl M_kind)), ((rM 11), .inl (cy 2, 10, .inl M_isFalse)), ((rM 12), .inl (cy 2, 200, .inl M_isMirage)), ((rM 26), .inl (cy 0, 4, .inl M_why_53)), ((rM 8), .inl (cy 0, 29, .inl M_now_53))] := hD
    refine lv_istore_n (lv' := [(2, .int r53), (0, .ref h0), (1, .int x1)]) hx hb dX11_doStroke_56 rfl hl (by decide) rfl (fun ls hl => ?_)
    refine lv_aload_n hx hb dX11_doStroke_57 rfl (lv_at hl 1 rfl) ?_
    refine gfX11_81 hx hb hts hown hK hP 5 rfl dX11_doStroke_58 ?_
    refine lv_aload_n hx hb dX11_doStroke_61 rfl (lv_at hl 1 rfl) ?_
    refine gfX11_270 (v := (sM_53 30)) hx hb hts hown hK hP 5 rfl rfl dX11_doStroke_62 ?_
    refine lv_iload_n hx hb dX11_doStroke_65 rfl (lv_at hl 2 rfl) ?_
    obtain ⟨hin, h⟩ := h
    refine sti (k := (sM_53 30).toNatClampNeg) (y := x1) hx hb hK hP hD hS 1 rfl hin rfl rfl dX11_doStroke_66 (fun M_sets_66 eM_sets_66 H locs hP hD hS => ?_)
    have h := h M_sets_66 eM_sets_66
    have hP : va_P D clsX [((rM 27), .inl (cy 0, 2900, .inl M_rows_47)), ((rM 28), .inl (cy 0, 100, .inl M_sets_66)), ((rM 29), .inl (cy 0, 400, .inl M_whys)), ((rM 34), .inl (cy 0, 100, .inl M_caseCell)), ((rM 35), .inl (cy 0, 100, .inl M_caseHeading)), (h0, .inr (11, oX11 rM sM_53)), ((rM 3), .inl (cy 0, 14, .inl M_told)), ((rM 4), .inl (cy 0, 10, .inl M_place)), ((rM 5), .inl (cy 0, 10, .inl M_range)), ((rM 6), .inl (cy 0, 10, .inl M_voice)), ((rM 7), .inl (cy 0, 8, .inl M_kind)), ((rM 11), .inl (cy 2, 10, .inl M_isFalse)), ((rM 12), .inl (cy 2, 200, .inl M_isMirage)), ((rM 26), .inl (cy 0, 4, .inl M_why_53)), ((rM 8), .inl (cy 0, 29, .inl M_now_53))] H := hP
    have hD : va_D A [((rM 27), .inl (cy 0, 2900, .inl M_rows_47)), ((rM 28), .inl (cy 0, 100, .inl M_sets_66)), ((rM 29), .inl (cy 0, 400, .inl M_whys)), ((rM 34), .inl (cy 0, 100, .inl M_caseCell)), ((rM 35), .inl (cy 0, 100, .inl M_caseHeading)), (h0, .inr (11, oX11 rM sM_53)), ((rM 3), .inl (cy 0, 14, .inl M_told)), ((rM 4), .inl (cy 0, 10, .inl M_place)), ((rM 5), .inl (cy 0, 10, .inl M_range)), ((rM 6), .inl (cy 0, 10, .inl M_voice)), ((rM 7), .inl (cy 0, 8, .inl M_kind)), ((rM 11), .inl (cy 2, 10, .inl M_isFalse)), ((rM 12), .inl (cy 2, 200, .inl M_isMirage)), ((rM 26), .inl (cy 0, 4, .inl M_why_53)), ((rM 8), .inl (cy 0, 29, .inl M_now_53))] := hD
    refine lv_iconst (v := (0 : Int32)) hx hb dX11_doStroke_67 (by decide) ?_
    refine lv_istore_n (lv' := [(3, .int (0 : Int32)), (2, .int r53), (0, .ref h0), (1, .int x1)]) hx hb dX11_doStroke_68 rfl hl (by decide) rfl (fun ls hl => ?_)
    obtain ⟨nf69, h⟩ := h
    refine L69 sM_53 M_now_53 M_why_53 M_rows_47 M_sets_66 x1 r53 _ (fun M_whys_114 l3_114 H locs ls h hP hD hS hl => ?_) nf69 M_whys (0 : Int32) _ _ _ h (hP.sub [5, 6, 7, 8, 9, 10, 14, 11, 12, 13, 0, 1, 2, 3, 4] rfl) (hD.sub [5, 6, 7, 8, 9, 10, 14, 11, 12, 13, 0, 1, 2, 3, 4] (by decide) rfl) hS (lv_sub hl [2, 3, 1, 0] rfl)
    refine lv_aload_n hx hb dX11_doStroke_114 rfl (lv_at hl 0 rfl) ?_
    refine lv_dup hx hb dX11_doStroke_115 rfl ?_
    refine gfX11_270 (v := (sM_53 30)) hx hb hts hown hK hP 0 rfl rfl dX11_doStroke_116 ?_
    refine lv_iconst (v := (1 : Int32)) hx hb dX11_doStroke_119 (by decide) ?_
    refine lv_iadd hx hb dX11_doStroke_120 ?_
    refine lv_topi (fun f30_121 ef30_121 => ?_)
    have h := h f30_121 ef30_121
    refine pfX11_270 hx hb hts hown hK hP hD hS 0 rfl dX11_doStroke_121 (fun H locs hP hD hS => ?_)
    have hP : va_P D clsX [(h0, .inr (11, oX11 rM (upd sM_53 30 f30_121))), ((rM 3), .inl (cy 0, 14, .inl M_told)), ((rM 4), .inl (cy 0, 10, .inl M_place)), ((rM 5), .inl (cy 0, 10, .inl M_range)), ((rM 6), .inl (cy 0, 10, .inl M_voice)), ((rM 7), .inl (cy 0, 8, .inl M_kind)), ((rM 8), .inl (cy 0, 29, .inl M_now_53)), ((rM 11), .inl (cy 2, 10, .inl M_isFalse)), ((rM 12), .inl (cy 2, 200, .inl M_isMirage)), ((rM 26), .inl (cy 0, 4, .inl M_why_53)), ((rM 27), .inl (cy 0, 2900, .inl M_rows_47)), ((rM 28), .inl (cy 0, 100, .inl M_sets_66)), ((rM 29), .inl (cy 0, 400, .inl M_whys_114)), ((rM 34), .inl (cy 0, 100, .inl M_caseCell)), ((rM 35), .inl (cy 0, 100, .inl M_caseHeading))] H := hP
    have hD : va_D A [(h0, .inr (11, oX11 rM (upd sM_53 30 f30_121))), ((rM 3), .inl (cy 0, 14, .inl M_told)), ((rM 4), .inl (cy 0, 10, .inl M_place)), ((rM 5), .inl (cy 0, 10, .inl M_range)), ((rM 6), .inl (cy 0, 10, .inl M_voice)), ((rM 7), .inl (cy 0, 8, .inl M_kind)), ((rM 8), .inl (cy 0, 29, .inl M_now_53)), ((rM 11), .inl (cy 2, 10, .inl M_isFalse)), ((rM 12), .inl (cy 2, 200, .inl M_isMirage)), ((rM 26), .inl (cy 0, 4, .inl M_why_53)), ((rM 27), .inl (cy 0, 2900, .inl M_rows_47)), ((rM 28), .inl (cy 0, 100, .inl M_sets_66)), ((rM 29), .inl (cy 0, 400, .inl M_whys_114)), ((rM 34), .inl (cy 0, 100, .inl M_caseCell)), ((rM 35), .inl (cy 0, 100, .inl M_caseHeading))] := hD
    refine lv_aload_n hx hb dX11_doStroke_124 rfl (lv_at hl 0 rfl) ?_
    refine lv_iload_n hx hb dX11_doStroke_125 rfl (lv_at hl 1 rfl) ?_
    refine clVv (As := [.int x1]) (rest := []) (Wr := [((rM 7), .inl (cy 0, 8, .inl M_kind)), ((rM 8), .inl (cy 0, 29, .inl M_now_53)), ((rM 26), .inl (cy 0, 4, .inl M_why_53)), ((rM 27), .inl (cy 0, 2900, .inl M_rows_47)), ((rM 28), .inl (cy 0, 100, .inl M_sets_66)), ((rM 29), .inl (cy 0, 400, .inl M_whys_114))]) (cq := (RX11, TX11, 56)) ⟨hx, hb, hml, hown, hts⟩ ⟨callB_of 1 hts (goodC mw1549) rfl rfl rfl (hts _ (tb mw15)) (hts _ (tb mw1546)) kdX11_searchOn ⟨Nat.le_trans (by decide) hRf, Nat.le_trans (by decide) hRl⟩, hts _ (tb mw1548), hts _ (tb ms74)⟩ (ctX11_searchOn l D cy ev h0 rM (upd sM_53 30 f30_121) M_told M_place M_range M_voice M_isFalse M_isMirage M_caseCell M_caseHeading x1 _ _ h) hE hK hP hD hS hA [0, 1, 2, 3, 4, 7, 8, 13, 14] [5, 6, 9, 10, 11, 12] rfl rfl (by decide) (by decide) (by decide) 0 rfl rfl rfl hl.1 rfl (Nat.le_of_ble_eq_true rfl) ⟨Nat.zero_le _, Nat.zero_le _⟩ dX11_doStroke_126 (fun u H locs h hP hD hS => ?_)
    obtain ⟨sM_126, M_caseCell_126, M_caseHeading_126⟩ := u
    have hP : va_P D clsX [((rM 7), .inl (cy 0, 8, .inl M_kind)), ((rM 8), .inl (cy 0, 29, .inl M_now_53)), ((rM 26), .inl (cy 0, 4, .inl M_why_53)), ((rM 27), .inl (cy 0, 2900, .inl M_rows_47)), ((rM 28), .inl (cy 0, 100, .inl M_sets_66)), ((rM 29), .inl (cy 0, 400, .inl M_whys_114)), (h0, .inr (11, oX11 rM sM_126)), ((rM 3), .inl (cy 0, 14, .inl M_told)), ((rM 4), .inl (cy 0, 10, .inl M_place)), ((rM 5), .inl (cy 0, 10, .inl M_range)), ((rM 6), .inl (cy 0, 10, .inl M_voice)), ((rM 11), .inl (cy 2, 10, .inl M_isFalse)), ((rM 12), .inl (cy 2, 200, .inl M_isMirage)), ((rM 34), .inl (cy 0, 100, .inl M_caseCell_126)), ((rM 35), .inl (cy 0, 100, .inl M_caseHeading_126))] H := hP
    have hD : va_D A [((rM 7), .inl (cy 0, 8, .inl M_kind)), ((rM 8), .inl (cy 0, 29, .inl M_now_53)), ((rM 26), .inl (cy 0, 4, .inl M_why_53)), ((rM 27), .inl (cy 0, 2900, .inl M_rows_47)), ((rM 28), .inl (cy 0, 100, .inl M_sets_66)), ((rM 29), .inl (cy 0, 400, .inl M_whys_114)), (h0, .inr (11, oX11 rM sM_126)), ((rM 3), .inl (cy 0, 14, .inl M_told)), ((rM 4), .inl (cy 0, 10, .inl M_place)), ((rM 5), .inl (cy 0, 10, .inl M_range)), ((rM 6), .inl (cy 0, 10, .inl M_voice)), ((rM 11), .inl (cy 2, 10, .inl M_isFalse)), ((rM 12), .inl (cy 2, 200, .inl M_isMirage)), ((rM 34), .inl (cy 0, 100, .inl M_caseCell_126)), ((rM 35), .inl (cy 0, 100, .inl M_caseHeading_126))] := hD
    refine lv_iload_n hx hb dX11_doStroke_129 rfl (lv_at hl 2 rfl) ?_
    exact hret r53 (sM_126, M_now_53, M_why_53, M_rows_47, M_sets_66, M_whys_114, M_caseCell_126, M_caseHeading_126) _ _ _ _ rfl dX11_doStroke_130 h (hP.sub [6, 7, 8, 9, 10, 0, 1, 11, 12, 2, 3, 4, 5, 13, 14] rfl) (hD.sub [6, 7, 8, 9, 10, 0, 1, 11, 12, 2, 3, 4, 5, 13, 14] (by decide) rfl) hS
  · have h := h.2 c6
    refine lv_aload_n hx hb dX11_doStroke_9 rfl (lv_at hl 0 rfl) ?_
    refine clVv (As := []) (rest := []) (Wr := [((rM 3), .inl (cy 0, 14, .inl M_told)), ((rM 4), .inl (cy 0, 10, .inl M_place)), ((rM 5), .inl (cy 0, 10, .inl M_range)), ((rM 6), .inl (cy 0, 10, .inl M_voice)), ((rM 7), .inl (cy 0, 8, .inl M_kind)), ((rM 8), .inl (cy 0, 29, .inl M_now)), ((rM 11), .inl (cy 2, 10, .inl M_isFalse)), ((rM 12), .inl (cy 2, 200, .inl M_isMirage)), ((rM 26), .inl (cy 0, 4, .inl M_why)), ((rM 34), .inl (cy 0, 100, .inl M_caseCell)), ((rM 35), .inl (cy 0, 100, .inl M_caseHeading))]) (cq := (RX11, TX11, 56)) ⟨hx, hb, hml, hown, hts⟩ ⟨callB_of 0 hts (goodC mw1521) rfl rfl rfl (hts _ (tb mw15)) (hts _ (tb mw1518)) kdX11_shiftRows ⟨Nat.le_trans (by decide) hRf, Nat.le_trans (by decide) hRl⟩, hts _ (tb mw1520), hts _ (tb ms67)⟩ (ctX11_shiftRows l D cy ev h0 rM sM M_rows M_sets M_whys  _ _ h) hE hK hP hD hS hA [0, 10, 11, 12] [1, 2, 3, 4, 5, 6, 7, 8, 9, 13, 14] rfl rfl (by decide) (by decide) (by decide) 0 rfl rfl rfl hl.1 rfl (Nat.le_of_ble_eq_true rfl) ⟨Nat.zero_le _, Nat.zero_le _⟩ dX11_doStroke_10 (fun u H locs h hP hD hS => ?_)
    obtain ⟨sM_10, M_rows_10, M_sets_10, M_whys_10⟩ := u
    have hP : va_P D clsX [((rM 3), .inl (cy 0, 14, .inl M_told)), ((rM 4), .inl (cy 0, 10, .inl M_place)), ((rM 5), .inl (cy 0, 10, .inl M_range)), ((rM 6), .inl (cy 0, 10, .inl M_voice)), ((rM 7), .inl (cy 0, 8, .inl M_kind)), ((rM 8), .inl (cy 0, 29, .inl M_now)), ((rM 11), .inl (cy 2, 10, .inl M_isFalse)), ((rM 12), .inl (cy 2, 200, .inl M_isMirage)), ((rM 26), .inl (cy 0, 4, .inl M_why)), ((rM 34), .inl (cy 0, 100, .inl M_caseCell)), ((rM 35), .inl (cy 0, 100, .inl M_caseHeading)), (h0, .inr (11, oX11 rM sM_10)), ((rM 27), .inl (cy 0, 2900, .inl M_rows_10)), ((rM 28), .inl (cy 0, 100, .inl M_sets_10)), ((rM 29), .inl (cy 0, 400, .inl M_whys_10))] H := hP
    have hD : va_D A [((rM 3), .inl (cy 0, 14, .inl M_told)), ((rM 4), .inl (cy 0, 10, .inl M_place)), ((rM 5), .inl (cy 0, 10, .inl M_range)), ((rM 6), .inl (cy 0, 10, .inl M_voice)), ((rM 7), .inl (cy 0, 8, .inl M_kind)), ((rM 8), .inl (cy 0, 29, .inl M_now)), ((rM 11), .inl (cy 2, 10, .inl M_isFalse)), ((rM 12), .inl (cy 2, 200, .inl M_isMirage)), ((rM 26), .inl (cy 0, 4, .inl M_why)), ((rM 34), .inl (cy 0, 100, .inl M_caseCell)), ((rM 35), .inl (cy 0, 100, .inl M_caseHeading)), (h0, .inr (11, oX11 rM sM_10)), ((rM 27), .inl (cy 0, 2900, .inl M_rows_10)), ((rM 28), .inl (cy 0, 100, .inl M_sets_10)), ((rM 29), .inl (cy 0, 400, .inl M_whys_10))] := hD
    refine lv_iconst (v := (0 : Int32)) hx hb dX11_doStroke_13 (by decide) ?_
    refine lv_istore_n (lv' := [(2, .int (0 : Int32)), (0, .ref h0), (1, .int x1)]) hx hb dX11_doStroke_14 rfl hl (by decide) rfl (fun ls hl => ?_)
    obtain ⟨nf15, h⟩ := h
    refine L15 sM_10 M_sets_10 M_whys_10 x1 _ (fun M_rows_47 l2_47 H locs ls h hP hD hS hl => ?_) nf15 M_rows_10 (0 : Int32) _ _ _ h (hP.sub [11, 0, 1, 2, 3, 4, 5, 6, 7, 8, 12, 13, 14, 9, 10] rfl) (hD.sub [11, 0, 1, 2, 3, 4, 5, 6, 7, 8, 12, 13, 14, 9, 10] (by decide) rfl) hS (lv_sub hl [1, 2, 0] rfl)
    refine lv_aload_n hx hb dX11_doStroke_47 rfl (lv_at hl 0 rfl) ?_
    refine lv_aload_n hx hb dX11_doStroke_48 rfl (lv_at hl 0 rfl) ?_
    refine gfX11_52 hx hb hts hown hK hP 0 rfl dX11_doStroke_49 ?_
    refine lv_iload_n hx hb dX11_doStroke_52 rfl (lv_at hl 1 rfl) ?_
    refine clVi (As := [.ref (rM 8), .int x1]) (rest := []) (Wr := [((rM 27), .inl (cy 0, 2900, .inl M_rows_47)), ((rM 28), .inl (cy 0, 100, .inl M_sets_10)), ((rM 29), .inl (cy 0, 400, .inl M_whys_10)), ((rM 34), .inl (cy 0, 100, .inl M_caseCell)), ((rM 35), .inl (cy 0, 100, .inl M_caseHeading))]) (cq := (RX11, TX11, 56)) ⟨hx, hb, hml, hown, hts⟩ ⟨callB_of 2 hts (goodC mw1525) rfl rfl rfl (hts _ (tb mw15)) (hts _ (tb mw1522)) kdX11_strokeOf ⟨Nat.le_trans (by decide) hRf, Nat.le_trans (by decide) hRl⟩, hts _ (tb mw1524), hts _ (tb ms68)⟩ (ctX11_strokeOf l D cy ev h0 (rM 8) rM sM_10 M_told M_place M_range M_voice M_kind M_isFalse M_isMirage M_why M_now x1 _ _ h) hE hK hP hD hS hA [0, 1, 2, 3, 4, 5, 7, 8, 9, 6] [10, 11, 12, 13, 14] rfl rfl (by decide) (by decide) (by decide) 0 rfl rfl rfl hl.1 rfl (Nat.le_of_ble_eq_true rfl) ⟨Nat.zero_le _, Nat.zero_le _⟩ dX11_doStroke_53 (fun r53 u H locs h hP hD hS => ?_)
    obtain ⟨sM_53, M_why_53, M_now_53⟩ := u
    have hP : va_P D clsX [((rM 27), .inl (cy 0, 2900, .inl M_rows_47)), ((rM 28), .inl (cy 0, 100, .inl M_sets_10)), ((rM 29), .inl (cy 0, 400, .inl M_whys_10)), ((rM 34), .inl (cy 0, 100, .inl M_caseCell)), ((rM 35), .inl (cy 0, 100, .inl M_caseHeading)), (h0, .inr (11, oX11 rM sM_53)), ((rM 3), .inl (cy 0, 14, .inl M_told)), ((rM 4), .inl (cy 0, 10, .inl M_place)), ((rM 5), .inl (cy 0, 10, .inl M_range)), ((rM 6), .inl (cy 0, 10, .inl M_voice)), ((rM 7), .inl (cy 0, 8, .inl M_kind)), ((rM 11), .inl (cy 2, 10, .inl M_isFalse)), ((rM 12), .inl (cy 2, 200, .inl M_isMirage)), ((rM 26), .inl (cy 0, 4, .inl M_why_53)), ((rM 8), .inl (cy 0, 29, .inl M_now_53))] H := hP
    have hD : va_D A [((rM 27), .inl (cy 0, 2900, .inl M_rows_47)), ((rM 28), .inl (cy 0, 100, .inl M_sets_10)), ((rM 29), .inl (cy 0, 400, .inl M_whys_10)), ((rM 34), .inl (cy 0, 100, .inl M_caseCell)), ((rM 35), .inl (cy 0, 100, .inl M_caseHeading)), (h0, .inr (11, oX11 rM sM_53)), ((rM 3), .inl (cy 0, 14, .inl M_told)), ((rM 4), .inl (cy 0, 10, .inl M_place)), ((rM 5), .inl (cy 0, 10, .inl M_range)), ((rM 6), .inl (cy 0, 10, .inl M_voice)), ((rM 7), .inl (cy 0, 8, .inl M_kind)), ((rM 11), .inl (cy 2, 10, .inl M_isFalse)), ((rM 12), .inl (cy 2, 200, .inl M_isMirage)), ((rM 26), .inl (cy 0, 4, .inl M_why_53)), ((rM 8), .inl (cy 0, 29, .inl M_now_53))] := hD
    refine lv_istore_n (lv' := [(2, .int r53), (0, .ref h0), (1, .int x1)]) hx hb dX11_doStroke_56 rfl hl (by decide) rfl (fun ls hl => ?_)
    refine lv_aload_n hx hb dX11_doStroke_57 rfl (lv_at hl 1 rfl) ?_
    refine gfX11_81 hx hb hts hown hK hP 5 rfl dX11_doStroke_58 ?_
    refine lv_aload_n hx hb dX11_doStroke_61 rfl (lv_at hl 1 rfl) ?_
    refine gfX11_270 (v := (sM_53 30)) hx hb hts hown hK hP 5 rfl rfl dX11_doStroke_62 ?_
    refine lv_iload_n hx hb dX11_doStroke_65 rfl (lv_at hl 2 rfl) ?_
    obtain ⟨hin, h⟩ := h
    refine sti (k := (sM_53 30).toNatClampNeg) (y := x1) hx hb hK hP hD hS 1 rfl hin rfl rfl dX11_doStroke_66 (fun M_sets_66 eM_sets_66 H locs hP hD hS => ?_)
    have h := h M_sets_66 eM_sets_66
    have hP : va_P D clsX [((rM 27), .inl (cy 0, 2900, .inl M_rows_47)), ((rM 28), .inl (cy 0, 100, .inl M_sets_66)), ((rM 29), .inl (cy 0, 400, .inl M_whys_10)), ((rM 34), .inl (cy 0, 100, .inl M_caseCell)), ((rM 35), .inl (cy 0, 100, .inl M_caseHeading)), (h0, .inr (11, oX11 rM sM_53)), ((rM 3), .inl (cy 0, 14, .inl M_told)), ((rM 4), .inl (cy 0, 10, .inl M_place)), ((rM 5), .inl (cy 0, 10, .inl M_range)), ((rM 6), .inl (cy 0, 10, .inl M_voice)), ((rM 7), .inl (cy 0, 8, .inl M_kind)), ((rM 11), .inl (cy 2, 10, .inl M_isFalse)), ((rM 12), .inl (cy 2, 200, .inl M_isMirage)), ((rM 26), .inl (cy 0, 4, .inl M_why_53)), ((rM 8), .inl (cy 0, 29, .inl M_now_53))] H := hP
    have hD : va_D A [((rM 27), .inl (cy 0, 2900, .inl M_rows_47)), ((rM 28), .inl (cy 0, 100, .inl M_sets_66)), ((rM 29), .inl (cy 0, 400, .inl M_whys_10)), ((rM 34), .inl (cy 0, 100, .inl M_caseCell)), ((rM 35), .inl (cy 0, 100, .inl M_caseHeading)), (h0, .inr (11, oX11 rM sM_53)), ((rM 3), .inl (cy 0, 14, .inl M_told)), ((rM 4), .inl (cy 0, 10, .inl M_place)), ((rM 5), .inl (cy 0, 10, .inl M_range)), ((rM 6), .inl (cy 0, 10, .inl M_voice)), ((rM 7), .inl (cy 0, 8, .inl M_kind)), ((rM 11), .inl (cy 2, 10, .inl M_isFalse)), ((rM 12), .inl (cy 2, 200, .inl M_isMirage)), ((rM 26), .inl (cy 0, 4, .inl M_why_53)), ((rM 8), .inl (cy 0, 29, .inl M_now_53))] := hD
    refine lv_iconst (v := (0 : Int32)) hx hb dX11_doStroke_67 (by decide) ?_
    refine lv_istore_n (lv' := [(3, .int (0 : Int32)), (2, .int r53), (0, .ref h0), (1, .int x1)]) hx hb dX11_doStroke_68 rfl hl (by decide) rfl (fun ls hl => ?_)
    obtain ⟨nf69, h⟩ := h
    refine L69 sM_53 M_now_53 M_why_53 M_rows_47 M_sets_66 x1 r53 _ (fun M_whys_114 l3_114 H locs ls h hP hD hS hl => ?_) nf69 M_whys_10 (0 : Int32) _ _ _ h (hP.sub [5, 6, 7, 8, 9, 10, 14, 11, 12, 13, 0, 1, 2, 3, 4] rfl) (hD.sub [5, 6, 7, 8, 9, 10, 14, 11, 12, 13, 0, 1, 2, 3, 4] (by decide) rfl) hS (lv_sub hl [2, 3, 1, 0] rfl)
    refine lv_aload_n hx hb dX11_doStroke_114 rfl (lv_at hl 0 rfl) ?_
    refine lv_dup hx hb dX11_doStroke_115 rfl ?_
    refine gfX11_270 (v := (sM_53 30)) hx hb hts hown hK hP 0 rfl rfl dX11_doStroke_116 ?_
    refine lv_iconst (v := (1 : Int32)) hx hb dX11_doStroke_119 (by decide) ?_
    refine lv_iadd hx hb dX11_doStroke_120 ?_
    refine lv_topi (fun f30_121 ef30_121 => ?_)
    have h := h f30_121 ef30_121
    refine pfX11_270 hx hb hts hown hK hP hD hS 0 rfl dX11_doStroke_121 (fun H locs hP hD hS => ?_)
    have hP : va_P D clsX [(h0, .inr (11, oX11 rM (upd sM_53 30 f30_121))), ((rM 3), .inl (cy 0, 14, .inl M_told)), ((rM 4), .inl (cy 0, 10, .inl M_place)), ((rM 5), .inl (cy 0, 10, .inl M_range)), ((rM 6), .inl (cy 0, 10, .inl M_voice)), ((rM 7), .inl (cy 0, 8, .inl M_kind)), ((rM 8), .inl (cy 0, 29, .inl M_now_53)), ((rM 11), .inl (cy 2, 10, .inl M_isFalse)), ((rM 12), .inl (cy 2, 200, .inl M_isMirage)), ((rM 26), .inl (cy 0, 4, .inl M_why_53)), ((rM 27), .inl (cy 0, 2900, .inl M_rows_47)), ((rM 28), .inl (cy 0, 100, .inl M_sets_66)), ((rM 29), .inl (cy 0, 400, .inl M_whys_114)), ((rM 34), .inl (cy 0, 100, .inl M_caseCell)), ((rM 35), .inl (cy 0, 100, .inl M_caseHeading))] H := hP
    have hD : va_D A [(h0, .inr (11, oX11 rM (upd sM_53 30 f30_121))), ((rM 3), .inl (cy 0, 14, .inl M_told)), ((rM 4), .inl (cy 0, 10, .inl M_place)), ((rM 5), .inl (cy 0, 10, .inl M_range)), ((rM 6), .inl (cy 0, 10, .inl M_voice)), ((rM 7), .inl (cy 0, 8, .inl M_kind)), ((rM 8), .inl (cy 0, 29, .inl M_now_53)), ((rM 11), .inl (cy 2, 10, .inl M_isFalse)), ((rM 12), .inl (cy 2, 200, .inl M_isMirage)), ((rM 26), .inl (cy 0, 4, .inl M_why_53)), ((rM 27), .inl (cy 0, 2900, .inl M_rows_47)), ((rM 28), .inl (cy 0, 100, .inl M_sets_66)), ((rM 29), .inl (cy 0, 400, .inl M_whys_114)), ((rM 34), .inl (cy 0, 100, .inl M_caseCell)), ((rM 35), .inl (cy 0, 100, .inl M_caseHeading))] := hD
    refine lv_aload_n hx hb dX11_doStroke_124 rfl (lv_at hl 0 rfl) ?_
    refine lv_iload_n hx hb dX11_doStroke_125 rfl (lv_at hl 1 rfl) ?_
    refine clVv (As := [.int x1]) (rest := []) (Wr := [((rM 7), .inl (cy 0, 8, .inl M_kind)), ((rM 8), .inl (cy 0, 29, .inl M_now_53)), ((rM 26), .inl (cy 0, 4, .inl M_why_53)), ((rM 27), .inl (cy 0, 2900, .inl M_rows_47)), ((rM 28), .inl (cy 0, 100, .inl M_sets_66)), ((rM 29), .inl (cy 0, 400, .inl M_whys_114))]) (cq := (RX11, TX11, 56)) ⟨hx, hb, hml, hown, hts⟩ ⟨callB_of 1 hts (goodC mw1549) rfl rfl rfl (hts _ (tb mw15)) (hts _ (tb mw1546)) kdX11_searchOn ⟨Nat.le_trans (by decide) hRf, Nat.le_trans (by decide) hRl⟩, hts _ (tb mw1548), hts _ (tb ms74)⟩ (ctX11_searchOn l D cy ev h0 rM (upd sM_53 30 f30_121) M_told M_place M_range M_voice M_isFalse M_isMirage M_caseCell M_caseHeading x1 _ _ h) hE hK hP hD hS hA [0, 1, 2, 3, 4, 7, 8, 13, 14] [5, 6, 9, 10, 11, 12] rfl rfl (by decide) (by decide) (by decide) 0 rfl rfl rfl hl.1 rfl (Nat.le_of_ble_eq_true rfl) ⟨Nat.zero_le _, Nat.zero_le _⟩ dX11_doStroke_126 (fun u H locs h hP hD hS => ?_)
    obtain ⟨sM_126, M_caseCell_126, M_caseHeading_126⟩ := u
    have hP : va_P D clsX [((rM 7), .inl (cy 0, 8, .inl M_kind)), ((rM 8), .inl (cy 0, 29, .inl M_now_53)), ((rM 26), .inl (cy 0, 4, .inl M_why_53)), ((rM 27), .inl (cy 0, 2900, .inl M_rows_47)), ((rM 28), .inl (cy 0, 100, .inl M_sets_66)), ((rM 29), .inl (cy 0, 400, .inl M_whys_114)), (h0, .inr (11, oX11 rM sM_126)), ((rM 3), .inl (cy 0, 14, .inl M_told)), ((rM 4), .inl (cy 0, 10, .inl M_place)), ((rM 5), .inl (cy 0, 10, .inl M_range)), ((rM 6), .inl (cy 0, 10, .inl M_voice)), ((rM 11), .inl (cy 2, 10, .inl M_isFalse)), ((rM 12), .inl (cy 2, 200, .inl M_isMirage)), ((rM 34), .inl (cy 0, 100, .inl M_caseCell_126)), ((rM 35), .inl (cy 0, 100, .inl M_caseHeading_126))] H := hP
    have hD : va_D A [((rM 7), .inl (cy 0, 8, .inl M_kind)), ((rM 8), .inl (cy 0, 29, .inl M_now_53)), ((rM 26), .inl (cy 0, 4, .inl M_why_53)), ((rM 27), .inl (cy 0, 2900, .inl M_rows_47)), ((rM 28), .inl (cy 0, 100, .inl M_sets_66)), ((rM 29), .inl (cy 0, 400, .inl M_whys_114)), (h0, .inr (11, oX11 rM sM_126)), ((rM 3), .inl (cy 0, 14, .inl M_told)), ((rM 4), .inl (cy 0, 10, .inl M_place)), ((rM 5), .inl (cy 0, 10, .inl M_range)), ((rM 6), .inl (cy 0, 10, .inl M_voice)), ((rM 11), .inl (cy 2, 10, .inl M_isFalse)), ((rM 12), .inl (cy 2, 200, .inl M_isMirage)), ((rM 34), .inl (cy 0, 100, .inl M_caseCell_126)), ((rM 35), .inl (cy 0, 100, .inl M_caseHeading_126))] := hD
    refine lv_iload_n hx hb dX11_doStroke_129 rfl (lv_at hl 2 rfl) ?_
    exact hret r53 (sM_126, M_now_53, M_why_53, M_rows_47, M_sets_66, M_whys_114, M_caseCell_126, M_caseHeading_126) _ _ _ _ rfl dX11_doStroke_130 h (hP.sub [6, 7, 8, 9, 10, 0, 1, 11, 12, 2, 3, 4, 5, 13, 14] rfl) (hD.sub [6, 7, 8, 9, 10, 0, 1, 11, 12, 2, 3, 4, 5, 13, 14] (by decide) rfl) hS
def wpX11_stroke (sM : AR) (M_told : AR) (M_place : AR) (M_range : AR) (M_voice : AR) (M_kind : AR) (M_now : AR) (M_status : AR) (M_isFalse : AR) (M_isMirage : AR) (M_why : AR) (M_rows : AR) (M_sets : AR) (M_whys : AR) (M_caseCell : AR) (M_caseHeading : AR) (x1 : Int32) (post : Int32 → AR → AR → AR → AR → AR → AR → AR → AR → AR → Prop) : Prop := wpX11_canRing M_told M_now x1 (fun r11 => ((¬ r11 = 0 → wpX11_doStroke (upd (upd sM 2 (0 : Int32)) 31 (0 : Int32)) M_told M_place M_range M_voice M_kind M_now M_isFalse M_isMirage M_why M_rows M_sets M_whys M_caseCell M_caseHeading x1 (fun r36 sM_36 M_now_36 M_why_36 M_rows_36 M_sets_36 M_whys_36 M_caseCell_36 M_caseHeading_36 => post r36 sM_36 M_now_36 M_status M_why_36 M_rows_36 M_sets_36 M_whys_36 M_caseCell_36 M_caseHeading_36)) ∧ (r11 = 0 → ∀ M_status_26 : AR, M_status_26 = upd M_status 1 ((M_status 1) + (1 : Int32)) → post (-1 : Int32) (upd sM 2 (0 : Int32)) M_now M_status_26 M_why M_rows M_sets M_whys M_caseCell M_caseHeading)))
set_option maxHeartbeats 4000000 in
set_option maxRecDepth 100000 in
theorem ctX11_stroke (l : Launch) (D : va_G) (cy : Nat → ClassId) (ev : Nat → Nat) (h0 : Nat) (rM : Nat → Nat) (sM : AR) (M_told : AR) (M_place : AR) (M_range : AR) (M_voice : AR) (M_kind : AR) (M_now : AR) (M_status : AR) (M_isFalse : AR) (M_isMirage : AR) (M_why : AR) (M_rows : AR) (M_sets : AR) (M_whys : AR) (M_caseCell : AR) (M_caseHeading : AR) (x1 : Int32) (sz : Nat) (post : Int32 → AR → AR → AR → AR → AR → AR → AR → AR → AR → Prop) (h : wpX11_stroke sM M_told M_place M_range M_voice M_kind M_now M_status M_isFalse M_isMirage M_why M_rows M_sets M_whys M_caseCell M_caseHeading x1 post) : Met l yX11_stroke (Cond.code yX11_stroke cX11_stroke 2 (some .int) :: TB) ({ frames := 7, cells := 0, slots := 0, locals := 205 }) (va_Pc [.ref h0, .int x1] (PreX D cy ev [(h0, .inr (11, oX11 rM sM)), ((rM 3), .inl (cy 0, 14, .inl M_told)), ((rM 4), .inl (cy 0, 10, .inl M_place)), ((rM 5), .inl (cy 0, 10, .inl M_range)), ((rM 6), .inl (cy 0, 10, .inl M_voice)), ((rM 7), .inl (cy 0, 8, .inl M_kind)), ((rM 8), .inl (cy 0, 29, .inl M_now)), ((rM 10), .inl (cy 0, 2, .inl M_status)), ((rM 11), .inl (cy 2, 10, .inl M_isFalse)), ((rM 12), .inl (cy 2, 200, .inl M_isMirage)), ((rM 26), .inl (cy 0, 4, .inl M_why)), ((rM 27), .inl (cy 0, 2900, .inl M_rows)), ((rM 28), .inl (cy 0, 100, .inl M_sets)), ((rM 29), .inl (cy 0, 400, .inl M_whys)), ((rM 34), .inl (cy 0, 100, .inl M_caseCell)), ((rM 35), .inl (cy 0, 100, .inl M_caseHeading))] sz)) (va_Qi (fun (r : Int32) (u : AR × AR × AR × AR × AR × AR × AR × AR × AR) => post r (u.1) (u.2.1) (u.2.2.1) (u.2.2.2.1) (u.2.2.2.2.1) (u.2.2.2.2.2.1) (u.2.2.2.2.2.2.1) (u.2.2.2.2.2.2.2.1) (u.2.2.2.2.2.2.2.2)) (fun u => BkX D cy [(h0, .inr (11, oX11 rM sM)), ((rM 3), .inl (cy 0, 14, .inl M_told)), ((rM 4), .inl (cy 0, 10, .inl M_place)), ((rM 5), .inl (cy 0, 10, .inl M_range)), ((rM 6), .inl (cy 0, 10, .inl M_voice)), ((rM 7), .inl (cy 0, 8, .inl M_kind)), ((rM 8), .inl (cy 0, 29, .inl M_now)), ((rM 10), .inl (cy 0, 2, .inl M_status)), ((rM 11), .inl (cy 2, 10, .inl M_isFalse)), ((rM 12), .inl (cy 2, 200, .inl M_isMirage)), ((rM 26), .inl (cy 0, 4, .inl M_why)), ((rM 27), .inl (cy 0, 2900, .inl M_rows)), ((rM 28), .inl (cy 0, 100, .inl M_sets)), ((rM 29), .inl (cy 0, 400, .inl M_whys)), ((rM 34), .inl (cy 0, 100, .inl M_caseCell)), ((rM 35), .inl (cy 0, 100, .inl M_caseHeading))] sz [(h0, .inr (11, oX11 rM (u.1))), ((rM 3), .inl (cy 0, 14, .inl M_told)), ((rM 4), .inl (cy 0, 10, .inl M_place)), ((rM 5), .inl (cy 0, 10, .inl M_range)), ((rM 6), .inl (cy 0, 10, .inl M_voice)), ((rM 7), .inl (cy 0, 8, .inl M_kind)), ((rM 8), .inl (cy 0, 29, .inl (u.2.1))), ((rM 10), .inl (cy 0, 2, .inl (u.2.2.1))), ((rM 11), .inl (cy 2, 10, .inl M_isFalse)), ((rM 12), .inl (cy 2, 200, .inl M_isMirage)), ((rM 26), .inl (cy 0, 4, .inl (u.2.2.2.1))), ((rM 27), .inl (cy 0, 2900, .inl (u.2.2.2.2.1))), ((rM 28), .inl (cy 0, 100, .inl (u.2.2.2.2.2.1))), ((rM 29), .inl (cy 0, 400, .inl (u.2.2.2.2.2.2.1))), ((rM 34), .inl (cy 0, 100, .inl (u.2.2.2.2.2.2.2.1))), ((rM 35), .inl (cy 0, 100, .inl (u.2.2.2.2.2.2.2.2)))]) (va_A [(h0, .inr (11, oX11 rM sM)), ((rM 3), .inl (cy 0, 14, .inl M_told)), ((rM 4), .inl (cy 0, 10, .inl M_place)), ((rM 5), .inl (cy 0, 10, .inl M_range)), ((rM 6), .inl (cy 0, 10, .inl M_voice)), ((rM 7), .inl (cy 0, 8, .inl M_kind)), ((rM 8), .inl (cy 0, 29, .inl M_now)), ((rM 10), .inl (cy 0, 2, .inl M_status)), ((rM 11), .inl (cy 2, 10, .inl M_isFalse)), ((rM 12), .inl (cy 2, 200, .inl M_isMirage)), ((rM 26), .inl (cy 0, 4, .inl M_why)), ((rM 27), .inl (cy 0, 2900, .inl M_rows)), ((rM 28), .inl (cy 0, 100, .inl M_sets)), ((rM 29), .inl (cy 0, 400, .inl M_whys)), ((rM 34), .inl (cy 0, 100, .inl M_caseCell)), ((rM 35), .inl (cy 0, 100, .inl M_caseHeading))] sz)) 0 0 (va_A [(h0, .inr (11, oX11 rM sM)), ((rM 3), .inl (cy 0, 14, .inl M_told)), ((rM 4), .inl (cy 0, 10, .inl M_place)), ((rM 5), .inl (cy 0, 10, .inl M_range)), ((rM 6), .inl (cy 0, 10, .inl M_voice)), ((rM 7), .inl (cy 0, 8, .inl M_kind)), ((rM 8), .inl (cy 0, 29, .inl M_now)), ((rM 10), .inl (cy 0, 2, .inl M_status)), ((rM 11), .inl (cy 2, 10, .inl M_isFalse)), ((rM 12), .inl (cy 2, 200, .inl M_isMirage)), ((rM 26), .inl (cy 0, 4, .inl M_why)), ((rM 27), .inl (cy 0, 2900, .inl M_rows)), ((rM 28), .inl (cy 0, 100, .inl M_sets)), ((rM 29), .inl (cy 0, 400, .inl M_whys)), ((rM 34), .inl (cy 0, 100, .inl M_caseCell)), ((rM 35), .inl (cy 0, 100, .inl M_caseHeading))] sz) := by
  refine ofWi (by decide) (Nat.le_of_ble_eq_true rfl) ?_
  intro p e s m args below meth c ls A R QQ hx hb hml hown hts hR hlk hE hK hP hD hS hA hl hret
  have hown : s.vm.findClass RX11 = some m.cls := hown
  have hRf : 7 ≤ R.frames := by rw [hR]; exact Nat.le_refl _
  have hRl : 205 ≤ R.locals := by rw [hR]; exact Nat.le_refl _
  clear hR
  have hl : lv_has ls 2 [(0, .ref h0), (1, .int x1)] := hl
  refine lv_aload_n hx hb dX11_stroke_0 rfl (lv_at hl 0 rfl) ?_
  refine lv_iconst (v := (0 : Int32)) hx hb dX11_stroke_1 (by decide) ?_
  refine pfX11_132 hx hb hts hown hK hP hD hS 0 rfl dX11_stroke_2 (fun H locs hP hD hS => ?_)
  have hP : va_P D clsX [(h0, .inr (11, oX11 rM (upd sM 2 (0 : Int32)))), ((rM 3), .inl (cy 0, 14, .inl M_told)), ((rM 4), .inl (cy 0, 10, .inl M_place)), ((rM 5), .inl (cy 0, 10, .inl M_range)), ((rM 6), .inl (cy 0, 10, .inl M_voice)), ((rM 7), .inl (cy 0, 8, .inl M_kind)), ((rM 8), .inl (cy 0, 29, .inl M_now)), ((rM 10), .inl (cy 0, 2, .inl M_status)), ((rM 11), .inl (cy 2, 10, .inl M_isFalse)), ((rM 12), .inl (cy 2, 200, .inl M_isMirage)), ((rM 26), .inl (cy 0, 4, .inl M_why)), ((rM 27), .inl (cy 0, 2900, .inl M_rows)), ((rM 28), .inl (cy 0, 100, .inl M_sets)), ((rM 29), .inl (cy 0, 400, .inl M_whys)), ((rM 34), .inl (cy 0, 100, .inl M_caseCell)), ((rM 35), .inl (cy 0, 100, .inl M_caseHeading))] H := hP
  have hD : va_D A [(h0, .inr (11, oX11 rM (upd sM 2 (0 : Int32)))), ((rM 3), .inl (cy 0, 14, .inl M_told)), ((rM 4), .inl (cy 0, 10, .inl M_place)), ((rM 5), .inl (cy 0, 10, .inl M_range)), ((rM 6), .inl (cy 0, 10, .inl M_voice)), ((rM 7), .inl (cy 0, 8, .inl M_kind)), ((rM 8), .inl (cy 0, 29, .inl M_now)), ((rM 10), .inl (cy 0, 2, .inl M_status)), ((rM 11), .inl (cy 2, 10, .inl M_isFalse)), ((rM 12), .inl (cy 2, 200, .inl M_isMirage)), ((rM 26), .inl (cy 0, 4, .inl M_why)), ((rM 27), .inl (cy 0, 2900, .inl M_rows)), ((rM 28), .inl (cy 0, 100, .inl M_sets)), ((rM 29), .inl (cy 0, 400, .inl M_whys)), ((rM 34), .inl (cy 0, 100, .inl M_caseCell)), ((rM 35), .inl (cy 0, 100, .inl M_caseHeading))] := hD
  refine lv_aload_n hx hb dX11_stroke_5 rfl (lv_at hl 0 rfl) ?_
  refine lv_aload_n hx hb dX11_stroke_6 rfl (lv_at hl 0 rfl) ?_
  refine gfX11_52 hx hb hts hown hK hP 0 rfl dX11_stroke_7 ?_
  refine lv_iload_n hx hb dX11_stroke_10 rfl (lv_at hl 1 rfl) ?_
  refine clVi (As := [.ref (rM 8), .int x1]) (rest := []) (Wr := [((rM 4), .inl (cy 0, 10, .inl M_place)), ((rM 5), .inl (cy 0, 10, .inl M_range)), ((rM 6), .inl (cy 0, 10, .inl M_voice)), ((rM 7), .inl (cy 0, 8, .inl M_kind)), ((rM 10), .inl (cy 0, 2, .inl M_status)), ((rM 11), .inl (cy 2, 10, .inl M_isFalse)), ((rM 12), .inl (cy 2, 200, .inl M_isMirage)), ((rM 26), .inl (cy 0, 4, .inl M_why)), ((rM 27), .inl (cy 0, 2900, .inl M_rows)), ((rM 28), .inl (cy 0, 100, .inl M_sets)), ((rM 29), .inl (cy 0, 400, .inl M_whys)), ((rM 34), .inl (cy 0, 100, .inl M_caseCell)), ((rM 35), .inl (cy 0, 100, .inl M_caseHeading))]) (cq := (RX11, TX11, 56)) ⟨hx, hb, hml, hown, hts⟩ ⟨callB_of 2 hts (goodC mw1513) rfl rfl rfl (hts _ (tb mw15)) (hts _ (tb mw1510)) kdX11_canRing ⟨Nat.le_trans (by decide) hRf, Nat.le_trans (by decide) hRl⟩, hts _ (tb mw1512), hts _ (tb ms65)⟩ (ctX11_canRing l D cy ev h0 (rM 8) rM (upd sM 2 (0 : Int32)) M_told M_now x1 _ _ h) hE hK hP hD hS hA [0, 1, 6] [2, 3, 4, 5, 7, 8, 9, 10, 11, 12, 13, 14, 15] rfl rfl (by decide) (by decide) (by decide) 0 rfl rfl rfl hl.1 rfl (Nat.le_of_ble_eq_true rfl) ⟨Nat.zero_le _, Nat.zero_le _⟩ dX11_stroke_11 (fun r11 u H locs h hP hD hS => ?_)
  have hP : va_P D clsX [((rM 4), .inl (cy 0, 10, .inl M_place)), ((rM 5), .inl (cy 0, 10, .inl M_range)), ((rM 6), .inl (cy 0, 10, .inl M_voice)), ((rM 7), .inl (cy 0, 8, .inl M_kind)), ((rM 10), .inl (cy 0, 2, .inl M_status)), ((rM 11), .inl (cy 2, 10, .inl M_isFalse)), ((rM 12), .inl (cy 2, 200, .inl M_isMirage)), ((rM 26), .inl (cy 0, 4, .inl M_why)), ((rM 27), .inl (cy 0, 2900, .inl M_rows)), ((rM 28), .inl (cy 0, 100, .inl M_sets)), ((rM 29), .inl (cy 0, 400, .inl M_whys)), ((rM 34), .inl (cy 0, 100, .inl M_caseCell)), ((rM 35), .inl (cy 0, 100, .inl M_caseHeading)), (h0, .inr (11, oX11 rM (upd sM 2 (0 : Int32)))), ((rM 3), .inl (cy 0, 14, .inl M_told)), ((rM 8), .inl (cy 0, 29, .inl M_now))] H := hP
  have hD : va_D A [((rM 4), .inl (cy 0, 10, .inl M_place)), ((rM 5), .inl (cy 0, 10, .inl M_range)), ((rM 6), .inl (cy 0, 10, .inl M_voice)), ((rM 7), .inl (cy 0, 8, .inl M_kind)), ((rM 10), .inl (cy 0, 2, .inl M_status)), ((rM 11), .inl (cy 2, 10, .inl M_isFalse)), ((rM 12), .inl (cy 2, 200, .inl M_isMirage)), ((rM 26), .inl (cy 0, 4, .inl M_why)), ((rM 27), .inl (cy 0, 2900, .inl M_rows)), ((rM 28), .inl (cy 0, 100, .inl M_sets)), ((rM 29), .inl (cy 0, 400, .inl M_whys)), ((rM 34), .inl (cy 0, 100, .inl M_caseCell)), ((rM 35), .inl (cy 0, 100, .inl M_caseHeading)), (h0, .inr (11, oX11 rM (upd sM 2 (0 : Int32)))), ((rM 3), .inl (cy 0, 14, .inl M_told)), ((rM 8), .inl (cy 0, 29, .inl M_now))] := hD
  refine lv_if_ne (tgt := 29) hx hb dX11_stroke_14 (by decide) (fun c14 => ?_) (fun c14 => ?_)
  · have h := h.1 c14
    refine lv_aload_n hx hb dX11_stroke_29 rfl (lv_at hl 0 rfl) ?_
    refine lv_iconst (v := (0 : Int32)) hx hb dX11_stroke_30 (by decide) ?_
    refine pfX11_273 hx hb hts hown hK hP hD hS 13 rfl dX11_stroke_31 (fun H locs hP hD hS => ?_)
    have hP : va_P D clsX [((rM 4), .inl (cy 0, 10, .inl M_place)), ((rM 5), .inl (cy 0, 10, .inl M_range)), ((rM 6), .inl (cy 0, 10, .inl M_voice)), ((rM 7), .inl (cy 0, 8, .inl M_kind)), ((rM 10), .inl (cy 0, 2, .inl M_status)), ((rM 11), .inl (cy 2, 10, .inl M_isFalse)), ((rM 12), .inl (cy 2, 200, .inl M_isMirage)), ((rM 26), .inl (cy 0, 4, .inl M_why)), ((rM 27), .inl (cy 0, 2900, .inl M_rows)), ((rM 28), .inl (cy 0, 100, .inl M_sets)), ((rM 29), .inl (cy 0, 400, .inl M_whys)), ((rM 34), .inl (cy 0, 100, .inl M_caseCell)), ((rM 35), .inl (cy 0, 100, .inl M_caseHeading)), (h0, .inr (11, oX11 rM (upd (upd sM 2 (0 : Int32)) 31 (0 : Int32)))), ((rM 3), .inl (cy 0, 14, .inl M_told)), ((rM 8), .inl (cy 0, 29, .inl M_now))] H := hP
    have hD : va_D A [((rM 4), .inl (cy 0, 10, .inl M_place)), ((rM 5), .inl (cy 0, 10, .inl M_range)), ((rM 6), .inl (cy 0, 10, .inl M_voice)), ((rM 7), .inl (cy 0, 8, .inl M_kind)), ((rM 10), .inl (cy 0, 2, .inl M_status)), ((rM 11), .inl (cy 2, 10, .inl M_isFalse)), ((rM 12), .inl (cy 2, 200, .inl M_isMirage)), ((rM 26), .inl (cy 0, 4, .inl M_why)), ((rM 27), .inl (cy 0, 2900, .inl M_rows)), ((rM 28), .inl (cy 0, 100, .inl M_sets)), ((rM 29), .inl (cy 0, 400, .inl M_whys)), ((rM 34), .inl (cy 0, 100, .inl M_caseCell)), ((rM 35), .inl (cy 0, 100, .inl M_caseHeading)), (h0, .inr (11, oX11 rM (upd (upd sM 2 (0 : Int32)) 31 (0 : Int32)))), ((rM 3), .inl (cy 0, 14, .inl M_told)), ((rM 8), .inl (cy 0, 29, .inl M_now))] := hD
    refine lv_aload_n hx hb dX11_stroke_34 rfl (lv_at hl 0 rfl) ?_
    refine lv_iload_n hx hb dX11_stroke_35 rfl (lv_at hl 1 rfl) ?_
    refine clVi (As := [.int x1]) (rest := []) (Wr := [((rM 10), .inl (cy 0, 2, .inl M_status))]) (cq := (RX11, TX11, 56)) ⟨hx, hb, hml, hown, hts⟩ ⟨callB_of 1 hts (goodC mw1517) rfl rfl rfl (hts _ (tb mw15)) (hts _ (tb mw1514)) kdX11_doStroke ⟨Nat.le_trans (by decide) hRf, Nat.le_trans (by decide) hRl⟩, hts _ (tb mw1516), hts _ (tb ms66)⟩ (ctX11_doStroke l D cy ev h0 rM (upd (upd sM 2 (0 : Int32)) 31 (0 : Int32)) M_told M_place M_range M_voice M_kind M_now M_isFalse M_isMirage M_why M_rows M_sets M_whys M_caseCell M_caseHeading x1 _ _ h) hE hK hP hD hS hA [13, 14, 0, 1, 2, 3, 15, 5, 6, 7, 8, 9, 10, 11, 12] [4] rfl rfl (by decide) (by decide) (by decide) 0 rfl rfl rfl hl.1 rfl (Nat.le_of_ble_eq_true rfl) ⟨Nat.zero_le _, Nat.zero_le _⟩ dX11_stroke_36 (fun r36 u H locs h hP hD hS => ?_)
    obtain ⟨sM_36, M_now_36, M_why_36, M_rows_36, M_sets_36, M_whys_36, M_caseCell_36, M_caseHeading_36⟩ := u
    have hP : va_P D clsX [((rM 10), .inl (cy 0, 2, .inl M_status)), (h0, .inr (11, oX11 rM sM_36)), ((rM 3), .inl (cy 0, 14, .inl M_told)), ((rM 4), .inl (cy 0, 10, .inl M_place)), ((rM 5), .inl (cy 0, 10, .inl M_range)), ((rM 6), .inl (cy 0, 10, .inl M_voice)), ((rM 7), .inl (cy 0, 8, .inl M_kind)), ((rM 8), .inl (cy 0, 29, .inl M_now_36)), ((rM 11), .inl (cy 2, 10, .inl M_isFalse)), ((rM 12), .inl (cy 2, 200, .inl M_isMirage)), ((rM 26), .inl (cy 0, 4, .inl M_why_36)), ((rM 27), .inl (cy 0, 2900, .inl M_rows_36)), ((rM 28), .inl (cy 0, 100, .inl M_sets_36)), ((rM 29), .inl (cy 0, 400, .inl M_whys_36)), ((rM 34), .inl (cy 0, 100, .inl M_caseCell_36)), ((rM 35), .inl (cy 0, 100, .inl M_caseHeading_36))] H := hP
    have hD : va_D A [((rM 10), .inl (cy 0, 2, .inl M_status)), (h0, .inr (11, oX11 rM sM_36)), ((rM 3), .inl (cy 0, 14, .inl M_told)), ((rM 4), .inl (cy 0, 10, .inl M_place)), ((rM 5), .inl (cy 0, 10, .inl M_range)), ((rM 6), .inl (cy 0, 10, .inl M_voice)), ((rM 7), .inl (cy 0, 8, .inl M_kind)), ((rM 8), .inl (cy 0, 29, .inl M_now_36)), ((rM 11), .inl (cy 2, 10, .inl M_isFalse)), ((rM 12), .inl (cy 2, 200, .inl M_isMirage)), ((rM 26), .inl (cy 0, 4, .inl M_why_36)), ((rM 27), .inl (cy 0, 2900, .inl M_rows_36)), ((rM 28), .inl (cy 0, 100, .inl M_sets_36)), ((rM 29), .inl (cy 0, 400, .inl M_whys_36)), ((rM 34), .inl (cy 0, 100, .inl M_caseCell_36)), ((rM 35), .inl (cy 0, 100, .inl M_caseHeading_36))] := hD
    exact hret r36 (sM_36, M_now_36, M_status, M_why_36, M_rows_36, M_sets_36, M_whys_36, M_caseCell_36, M_caseHeading_36) _ _ _ _ rfl dX11_stroke_39 h (hP.sub [1, 2, 3, 4, 5, 6, 7, 0, 8, 9, 10, 11, 12, 13, 14, 15] rfl) (hD.sub [1, 2, 3, 4, 5, 6, 7, 0, 8, 9, 10, 11, 12, 13, 14, 15] (by decide) rfl) hS
  · have h := h.2 c14
    refine lv_aload_n hx hb dX11_stroke_17 rfl (lv_at hl 0 rfl) ?_
    refine gfX11_58 hx hb hts hown hK hP 13 rfl dX11_stroke_18 ?_
    refine lv_iconst (v := (1 : Int32)) hx hb dX11_stroke_21 (by decide) ?_
    refine lv_dup2_11 hx hb dX11_stroke_22 rfl rfl ?_
    refine ldi (k := 1) hx hb hK hP 4 rfl (inL (by decide)) (by decide) dX11_stroke_23 ?_
    refine lv_iconst (v := (1 : Int32)) hx hb dX11_stroke_24 (by decide) ?_
    refine lv_iadd hx hb dX11_stroke_25 ?_
    refine sti (k := 1) (y := ((M_status 1) + (1 : Int32))) hx hb hK hP hD hS 4 rfl (inL (by decide)) (by decide) rfl dX11_stroke_26 (fun M_status_26 eM_status_26 H locs hP hD hS => ?_)
    have h := h M_status_26 eM_status_26
    have hP : va_P D clsX [((rM 4), .inl (cy 0, 10, .inl M_place)), ((rM 5), .inl (cy 0, 10, .inl M_range)), ((rM 6), .inl (cy 0, 10, .inl M_voice)), ((rM 7), .inl (cy 0, 8, .inl M_kind)), ((rM 10), .inl (cy 0, 2, .inl M_status_26)), ((rM 11), .inl (cy 2, 10, .inl M_isFalse)), ((rM 12), .inl (cy 2, 200, .inl M_isMirage)), ((rM 26), .inl (cy 0, 4, .inl M_why)), ((rM 27), .inl (cy 0, 2900, .inl M_rows)), ((rM 28), .inl (cy 0, 100, .inl M_sets)), ((rM 29), .inl (cy 0, 400, .inl M_whys)), ((rM 34), .inl (cy 0, 100, .inl M_caseCell)), ((rM 35), .inl (cy 0, 100, .inl M_caseHeading)), (h0, .inr (11, oX11 rM (upd sM 2 (0 : Int32)))), ((rM 3), .inl (cy 0, 14, .inl M_told)), ((rM 8), .inl (cy 0, 29, .inl M_now))] H := hP
    have hD : va_D A [((rM 4), .inl (cy 0, 10, .inl M_place)), ((rM 5), .inl (cy 0, 10, .inl M_range)), ((rM 6), .inl (cy 0, 10, .inl M_voice)), ((rM 7), .inl (cy 0, 8, .inl M_kind)), ((rM 10), .inl (cy 0, 2, .inl M_status_26)), ((rM 11), .inl (cy 2, 10, .inl M_isFalse)), ((rM 12), .inl (cy 2, 200, .inl M_isMirage)), ((rM 26), .inl (cy 0, 4, .inl M_why)), ((rM 27), .inl (cy 0, 2900, .inl M_rows)), ((rM 28), .inl (cy 0, 100, .inl M_sets)), ((rM 29), .inl (cy 0, 400, .inl M_whys)), ((rM 34), .inl (cy 0, 100, .inl M_caseCell)), ((rM 35), .inl (cy 0, 100, .inl M_caseHeading)), (h0, .inr (11, oX11 rM (upd sM 2 (0 : Int32)))), ((rM 3), .inl (cy 0, 14, .inl M_told)), ((rM 8), .inl (cy 0, 29, .inl M_now))] := hD
    refine lv_iconst (v := (-1 : Int32)) hx hb dX11_stroke_27 (by decide) ?_
    exact hret (-1 : Int32) ((upd sM 2 (0 : Int32)), M_now, M_status_26, M_why, M_rows, M_sets, M_whys, M_caseCell, M_caseHeading) _ _ _ _ rfl dX11_stroke_28 h (hP.sub [13, 14, 0, 1, 2, 3, 15, 4, 5, 6, 7, 8, 9, 10, 11, 12] rfl) (hD.sub [13, 14, 0, 1, 2, 3, 15, 4, 5, 6, 7, 8, 9, 10, 11, 12] (by decide) rfl) hS
def wpX11_ring_L24 (M_told : AR) (M_place : AR) (M_range : AR) (M_voice : AR) (M_kind : AR) (M_isFalse : AR) (M_isMirage : AR) (l1 : Int32) (l2 : Int32) (kx44 : AR → AR → AR → AR → AR → AR → AR → AR → AR → Int32 → Prop) (post : Int32 → AR → AR → AR → AR → AR → AR → AR → AR → AR → Prop) : Nat → AR → AR → AR → AR → AR → AR → AR → AR → AR → Int32 → Prop
  | 0, _, _, _, _, _, _, _, _, _, _ => False
  | nf24 + 1, sM, M_now, M_status, M_why, M_rows, M_sets, M_whys, M_caseCell, M_caseHeading, l3 => ((l2 ≤ l3 → kx44 sM M_now M_status M_why M_rows M_sets M_whys M_caseCell M_caseHeading l3) ∧ (¬ l2 ≤ l3 → wpX11_stroke sM M_told M_place M_range M_voice M_kind M_now M_status M_isFalse M_isMirage M_why M_rows M_sets M_whys M_caseCell M_caseHeading l1 (fun r31 sM_31 M_now_31 M_status_31 M_why_31 M_rows_31 M_sets_31 M_whys_31 M_caseCell_31 M_caseHeading_31 => ((r31 = (-1 : Int32) → kx44 sM_31 M_now_31 M_status_31 M_why_31 M_rows_31 M_sets_31 M_whys_31 M_caseCell_31 M_caseHeading_31 l3) ∧ (¬ r31 = (-1 : Int32) → ∀ l3_38 : Int32, l3_38 = (l3 + (1 : Int32)) → wpX11_ring_L24 M_told M_place M_range M_voice M_kind M_isFalse M_isMirage l1 l2 kx44 post nf24 sM_31 M_now_31 M_status_31 M_why_31 M_rows_31 M_sets_31 M_whys_31 M_caseCell_31 M_caseHeading_31 l3_38)))))
def wpX11_ring (sM : AR) (M_told : AR) (M_place : AR) (M_range : AR) (M_voice : AR) (M_kind : AR) (M_now : AR) (M_status : AR) (M_isFalse : AR) (M_isMirage : AR) (M_why : AR) (M_rows : AR) (M_sets : AR) (M_whys : AR) (M_caseCell : AR) (M_caseHeading : AR) (x1 : Int32) (x2 : Int32) (post : Int32 → AR → AR → AR → AR → AR → AR → AR → AR → AR → Prop) : Prop := wpX11_isIn x2 (0 : Int32) (200 : Int32) (fun r10 => ((¬ r10 = 0 → ∃ nf24 : Nat, wpX11_ring_L24 M_told M_place M_range M_voice M_kind M_isFalse M_isMirage x1 x2 (fun sM_44 M_now_44 M_status_44 M_why_44 M_rows_44 M_sets_44 M_whys_44 M_caseCell_44 M_caseHeading_44 l3_44 => post l3_44 sM_44 M_now_44 M_status_44 M_why_44 M_rows_44 M_sets_44 M_whys_44 M_caseCell_44 M_caseHeading_44) post nf24 (upd sM 2 (0 : Int32)) M_now M_status M_why M_rows M_sets M_whys M_caseCell M_caseHeading (0 : Int32)) ∧ (r10 = 0 → wpX11_fail (upd sM 2 (0 : Int32)) (1 : Int32) (fun r18 sM_18 => post r18 sM_18 M_now M_status M_why M_rows M_sets M_whys M_caseCell M_caseHeading))))
set_option maxHeartbeats 4000000 in
set_option maxRecDepth 100000 in
theorem ctX11_ring (l : Launch) (D : va_G) (cy : Nat → ClassId) (ev : Nat → Nat) (h0 : Nat) (rM : Nat → Nat) (sM : AR) (M_told : AR) (M_place : AR) (M_range : AR) (M_voice : AR) (M_kind : AR) (M_now : AR) (M_status : AR) (M_isFalse : AR) (M_isMirage : AR) (M_why : AR) (M_rows : AR) (M_sets : AR) (M_whys : AR) (M_caseCell : AR) (M_caseHeading : AR) (x1 : Int32) (x2 : Int32) (sz : Nat) (post : Int32 → AR → AR → AR → AR → AR → AR → AR → AR → AR → Prop) (h : wpX11_ring sM M_told M_place M_range M_voice M_kind M_now M_status M_isFalse M_isMirage M_why M_rows M_sets M_whys M_caseCell M_caseHeading x1 x2 post) : Met l yX11_ring (Cond.code yX11_ring cX11_ring 4 (some .int) :: TB) ({ frames := 8, cells := 0, slots := 0, locals := 226 }) (va_Pc [.ref h0, .int x1, .int x2] (PreX D cy ev [(h0, .inr (11, oX11 rM sM)), ((rM 3), .inl (cy 0, 14, .inl M_told)), ((rM 4), .inl (cy 0, 10, .inl M_place)), ((rM 5), .inl (cy 0, 10, .inl M_range)), ((rM 6), .inl (cy 0, 10, .inl M_voice)), ((rM 7), .inl (cy 0, 8, .inl M_kind)), ((rM 8), .inl (cy 0, 29, .inl M_now)), ((rM 10), .inl (cy 0, 2, .inl M_status)), ((rM 11), .inl (cy 2, 10, .inl M_isFalse)), ((rM 12), .inl (cy 2, 200, .inl M_isMirage)), ((rM 26), .inl (cy 0, 4, .inl M_why)), ((rM 27), .inl (cy 0, 2900, .inl M_rows)), ((rM 28), .inl (cy 0, 100, .inl M_sets)), ((rM 29), .inl (cy 0, 400, .inl M_whys)), ((rM 34), .inl (cy 0, 100, .inl M_caseCell)), ((rM 35), .inl (cy 0, 100, .inl M_caseHeading))] sz)) (va_Qi (fun (r : Int32) (u : AR × AR × AR × AR × AR × AR × AR × AR × AR) => post r (u.1) (u.2.1) (u.2.2.1) (u.2.2.2.1) (u.2.2.2.2.1) (u.2.2.2.2.2.1) (u.2.2.2.2.2.2.1) (u.2.2.2.2.2.2.2.1) (u.2.2.2.2.2.2.2.2)) (fun u => BkX D cy [(h0, .inr (11, oX11 rM sM)), ((rM 3), .inl (cy 0, 14, .inl M_told)), ((rM 4), .inl (cy 0, 10, .inl M_place)), ((rM 5), .inl (cy 0, 10, .inl M_range)), ((rM 6), .inl (cy 0, 10, .inl M_voice)), ((rM 7), .inl (cy 0, 8, .inl M_kind)), ((rM 8), .inl (cy 0, 29, .inl M_now)), ((rM 10), .inl (cy 0, 2, .inl M_status)), ((rM 11), .inl (cy 2, 10, .inl M_isFalse)), ((rM 12), .inl (cy 2, 200, .inl M_isMirage)), ((rM 26), .inl (cy 0, 4, .inl M_why)), ((rM 27), .inl (cy 0, 2900, .inl M_rows)), ((rM 28), .inl (cy 0, 100, .inl M_sets)), ((rM 29), .inl (cy 0, 400, .inl M_whys)), ((rM 34), .inl (cy 0, 100, .inl M_caseCell)), ((rM 35), .inl (cy 0, 100, .inl M_caseHeading))] sz [(h0, .inr (11, oX11 rM (u.1))), ((rM 3), .inl (cy 0, 14, .inl M_told)), ((rM 4), .inl (cy 0, 10, .inl M_place)), ((rM 5), .inl (cy 0, 10, .inl M_range)), ((rM 6), .inl (cy 0, 10, .inl M_voice)), ((rM 7), .inl (cy 0, 8, .inl M_kind)), ((rM 8), .inl (cy 0, 29, .inl (u.2.1))), ((rM 10), .inl (cy 0, 2, .inl (u.2.2.1))), ((rM 11), .inl (cy 2, 10, .inl M_isFalse)), ((rM 12), .inl (cy 2, 200, .inl M_isMirage)), ((rM 26), .inl (cy 0, 4, .inl (u.2.2.2.1))), ((rM 27), .inl (cy 0, 2900, .inl (u.2.2.2.2.1))), ((rM 28), .inl (cy 0, 100, .inl (u.2.2.2.2.2.1))), ((rM 29), .inl (cy 0, 400, .inl (u.2.2.2.2.2.2.1))), ((rM 34), .inl (cy 0, 100, .inl (u.2.2.2.2.2.2.2.1))), ((rM 35), .inl (cy 0, 100, .inl (u.2.2.2.2.2.2.2.2)))]) (va_A [(h0, .inr (11, oX11 rM sM)), ((rM 3), .inl (cy 0, 14, .inl M_told)), ((rM 4), .inl (cy 0, 10, .inl M_place)), ((rM 5), .inl (cy 0, 10, .inl M_range)), ((rM 6), .inl (cy 0, 10, .inl M_voice)), ((rM 7), .inl (cy 0, 8, .inl M_kind)), ((rM 8), .inl (cy 0, 29, .inl M_now)), ((rM 10), .inl (cy 0, 2, .inl M_status)), ((rM 11), .inl (cy 2, 10, .inl M_isFalse)), ((rM 12), .inl (cy 2, 200, .inl M_isMirage)), ((rM 26), .inl (cy 0, 4, .inl M_why)), ((rM 27), .inl (cy 0, 2900, .inl M_rows)), ((rM 28), .inl (cy 0, 100, .inl M_sets)), ((rM 29), .inl (cy 0, 400, .inl M_whys)), ((rM 34), .inl (cy 0, 100, .inl M_caseCell)), ((rM 35), .inl (cy 0, 100, .inl M_caseHeading))] sz)) 0 0 (va_A [(h0, .inr (11, oX11 rM sM)), ((rM 3), .inl (cy 0, 14, .inl M_told)), ((rM 4), .inl (cy 0, 10, .inl M_place)), ((rM 5), .inl (cy 0, 10, .inl M_range)), ((rM 6), .inl (cy 0, 10, .inl M_voice)), ((rM 7), .inl (cy 0, 8, .inl M_kind)), ((rM 8), .inl (cy 0, 29, .inl M_now)), ((rM 10), .inl (cy 0, 2, .inl M_status)), ((rM 11), .inl (cy 2, 10, .inl M_isFalse)), ((rM 12), .inl (cy 2, 200, .inl M_isMirage)), ((rM 26), .inl (cy 0, 4, .inl M_why)), ((rM 27), .inl (cy 0, 2900, .inl M_rows)), ((rM 28), .inl (cy 0, 100, .inl M_sets)), ((rM 29), .inl (cy 0, 400, .inl M_whys)), ((rM 34), .inl (cy 0, 100, .inl M_caseCell)), ((rM 35), .inl (cy 0, 100, .inl M_caseHeading))] sz) := by
  refine ofWi (by decide) (Nat.le_of_ble_eq_true rfl) ?_
  intro p e s m args below meth c ls A R QQ hx hb hml hown hts hR hlk hE hK hP hD hS hA hl hret
  have hown : s.vm.findClass RX11 = some m.cls := hown
  have hRf : 8 ≤ R.frames := by rw [hR]; exact Nat.le_refl _
  have hRl : 226 ≤ R.locals := by rw [hR]; exact Nat.le_refl _
  clear hR
  have hl : lv_has ls 4 [(0, .ref h0), (1, .int x1), (2, .int x2)] := hl
  have L24 : ∀ (l1 : Int32) (l2 : Int32) (kx44 : AR → AR → AR → AR → AR → AR → AR → AR → AR → Int32 → Prop), (∀ (sM : AR) (M_now : AR) (M_status : AR) (M_why : AR) (M_rows : AR) (M_sets : AR) (M_whys : AR) (M_caseCell : AR) (M_caseHeading : AR) (l3 : Int32) (H : Heap) (locs : List Loc) (ls : Array Slot), kx44 sM M_now M_status M_why M_rows M_sets M_whys M_caseCell M_caseHeading l3 → va_P D clsX [(h0, .inr (11, oX11 rM sM)), ((rM 3), .inl (cy 0, 14, .inl M_told)), ((rM 4), .inl (cy 0, 10, .inl M_place)), ((rM 5), .inl (cy 0, 10, .inl M_range)), ((rM 6), .inl (cy 0, 10, .inl M_voice)), ((rM 7), .inl (cy 0, 8, .inl M_kind)), ((rM 8), .inl (cy 0, 29, .inl M_now)), ((rM 10), .inl (cy 0, 2, .inl M_status)), ((rM 11), .inl (cy 2, 10, .inl M_isFalse)), ((rM 12), .inl (cy 2, 200, .inl M_isMirage)), ((rM 26), .inl (cy 0, 4, .inl M_why)), ((rM 27), .inl (cy 0, 2900, .inl M_rows)), ((rM 28), .inl (cy 0, 100, .inl M_sets)), ((rM 29), .inl (cy 0, 400, .inl M_whys)), ((rM 34), .inl (cy 0, 100, .inl M_caseCell)), ((rM 35), .inl (cy 0, 100, .inl M_caseHeading))] H → va_D A [(h0, .inr (11, oX11 rM sM)), ((rM 3), .inl (cy 0, 14, .inl M_told)), ((rM 4), .inl (cy 0, 10, .inl M_place)), ((rM 5), .inl (cy 0, 10, .inl M_range)), ((rM 6), .inl (cy 0, 10, .inl M_voice)), ((rM 7), .inl (cy 0, 8, .inl M_kind)), ((rM 8), .inl (cy 0, 29, .inl M_now)), ((rM 10), .inl (cy 0, 2, .inl M_status)), ((rM 11), .inl (cy 2, 10, .inl M_isFalse)), ((rM 12), .inl (cy 2, 200, .inl M_isMirage)), ((rM 26), .inl (cy 0, 4, .inl M_why)), ((rM 27), .inl (cy 0, 2900, .inl M_rows)), ((rM 28), .inl (cy 0, 100, .inl M_sets)), ((rM 29), .inl (cy 0, 400, .inl M_whys)), ((rM 34), .inl (cy 0, 100, .inl M_caseCell)), ((rM 35), .inl (cy 0, 100, .inl M_caseHeading))] → va_S A s.heap H locs → lv_has ls 4 [(0, .ref h0), (3, .int l3)] → W p l e R s m args below meth c H locs 0 0 QQ (F0 m 44 ls [])) → ∀ (nf24 : Nat) (sM : AR) (M_now : AR) (M_status : AR) (M_why : AR) (M_rows : AR) (M_sets : AR) (M_whys : AR) (M_caseCell : AR) (M_caseHeading : AR) (l3 : Int32) (H : Heap) (locs : List Loc) (ls : Array Slot), wpX11_ring_L24 M_told M_place M_range M_voice M_kind M_isFalse M_isMirage l1 l2 kx44 post nf24 sM M_now M_status M_why M_rows M_sets M_whys M_caseCell M_caseHeading l3 → va_P D clsX [(h0, .inr (11, oX11 rM sM)), ((rM 3), .inl (cy 0, 14, .inl M_told)), ((rM 4), .inl (cy 0, 10, .inl M_place)), ((rM 5), .inl (cy 0, 10, .inl M_range)), ((rM 6), .inl (cy 0, 10, .inl M_voice)), ((rM 7), .inl (cy 0, 8, .inl M_kind)), ((rM 8), .inl (cy 0, 29, .inl M_now)), ((rM 10), .inl (cy 0, 2, .inl M_status)), ((rM 11), .inl (cy 2, 10, .inl M_isFalse)), ((rM 12), .inl (cy 2, 200, .inl M_isMirage)), ((rM 26), .inl (cy 0, 4, .inl M_why)), ((rM 27), .inl (cy 0, 2900, .inl M_rows)), ((rM 28), .inl (cy 0, 100, .inl M_sets)), ((rM 29), .inl (cy 0, 400, .inl M_whys)), ((rM 34), .inl (cy 0, 100, .inl M_caseCell)), ((rM 35), .inl (cy 0, 100, .inl M_caseHeading))] H → va_D A [(h0, .inr (11, oX11 rM sM)), ((rM 3), .inl (cy 0, 14, .inl M_told)), ((rM 4), .inl (cy 0, 10, .inl M_place)), ((rM 5), .inl (cy 0, 10, .inl M_range)), ((rM 6), .inl (cy 0, 10, .inl M_voice)), ((rM 7), .inl (cy 0, 8, .inl M_kind)), ((rM 8), .inl (cy 0, 29, .inl M_now)), ((rM 10), .inl (cy 0, 2, .inl M_status)), ((rM 11), .inl (cy 2, 10, .inl M_isFalse)), ((rM 12), .inl (cy 2, 200, .inl M_isMirage)), ((rM 26), .inl (cy 0, 4, .inl M_why)), ((rM 27), .inl (cy 0, 2900, .inl M_rows)), ((rM 28), .inl (cy 0, 100, .inl M_sets)), ((rM 29), .inl (cy 0, 400, .inl M_whys)), ((rM 34), .inl (cy 0, 100, .inl M_caseCell)), ((rM 35), .inl (cy 0, 100, .inl M_caseHeading))] → va_S A s.heap H locs → lv_has ls 4 [(0, .ref h0), (1, .int l1), (2, .int l2), (3, .int l3)] → W p l e R s m args below meth c H locs 0 0 QQ (F0 m 24 ls []) := by
    intro l1 l2 kx44 hk24_44 nf24
    induction nf24 with
    | zero =>
      intro sM M_now M_status M_why M_rows M_sets M_whys M_caseCell M_caseHeading l3 H locs ls h
      exact (show False from h).elim
    | succ nf24 ih24 =>
      intro sM M_now M_status M_why M_rows M_sets M_whys M_caseCell M_caseHeading l3 H locs ls h hP hD hS hl
      refine lv_iload_n hx hb dX11_ring_24 rfl (lv_at hl 3 rfl) ?_
      refine lv_iload_n hx hb dX11_ring_25 rfl (lv_at hl 2 rfl) ?_
      refine lv_icmp_ge (tgt := 44) hx hb dX11_ring_26 (by decide) (fun c26 => ?_) (fun c26 => ?_)
      · have h := h.1 c26
        exact hk24_44 sM M_now M_status M_why M_rows M_sets M_whys M_caseCell M_caseHeading l3 _ _ _ h hP hD hS (lv_sub hl [0, 3] rfl)
      · have h := h.2 c26
        refine lv_aload_n hx hb dX11_ring_29 rfl (lv_at hl 0 rfl) ?_
        refine lv_iload_n hx hb dX11_ring_30 rfl (lv_at hl 1 rfl) ?_
        refine clVi (As := [.int l1]) (rest := []) (Wr := []) (cq := (RX11, TX11, 56)) ⟨hx, hb, hml, hown, hts⟩ ⟨callB_of 1 hts (goodC mw1509) rfl rfl rfl (hts _ (tb mw15)) (hts _ (tb mw1554)) kdX11_stroke ⟨Nat.le_trans (by decide) hRf, Nat.le_trans (by decide) hRl⟩, hts _ (tb mw1507), hts _ (tb mw1508)⟩ (ctX11_stroke l D cy ev h0 rM sM M_told M_place M_range M_voice M_kind M_now M_status M_isFalse M_isMirage M_why M_rows M_sets M_whys M_caseCell M_caseHeading l1 _ _ h) hE hK hP hD hS hA [0, 1, 2, 3, 4, 5, 6, 7, 8, 9, 10, 11, 12, 13, 14, 15] [] rfl rfl (by decide) (by decide) (by decide) 0 rfl rfl rfl hl.1 rfl (Nat.le_of_ble_eq_true rfl) ⟨Nat.zero_le _, Nat.zero_le _⟩ dX11_ring_31 (fun r31 u H locs h hP hD hS => ?_)
        obtain ⟨sM_31, M_now_31, M_status_31, M_why_31, M_rows_31, M_sets_31, M_whys_31, M_caseCell_31, M_caseHeading_31⟩ := u
        have hP : va_P D clsX [(h0, .inr (11, oX11 rM sM_31)), ((rM 3), .inl (cy 0, 14, .inl M_told)), ((rM 4), .inl (cy 0, 10, .inl M_place)), ((rM 5), .inl (cy 0, 10, .inl M_range)), ((rM 6), .inl (cy 0, 10, .inl M_voice)), ((rM 7), .inl (cy 0, 8, .inl M_kind)), ((rM 8), .inl (cy 0, 29, .inl M_now_31)), ((rM 10), .inl (cy 0, 2, .inl M_status_31)), ((rM 11), .inl (cy 2, 10, .inl M_isFalse)), ((rM 12), .inl (cy 2, 200, .inl M_isMirage)), ((rM 26), .inl (cy 0, 4, .inl M_why_31)), ((rM 27), .inl (cy 0, 2900, .inl M_rows_31)), ((rM 28), .inl (cy 0, 100, .inl M_sets_31)), ((rM 29), .inl (cy 0, 400, .inl M_whys_31)), ((rM 34), .inl (cy 0, 100, .inl M_caseCell_31)), ((rM 35), .inl (cy 0, 100, .inl M_caseHeading_31))] H := hP
        have hD : va_D A [(h0, .inr (11, oX11 rM sM_31)), ((rM 3), .inl (cy 0, 14, .inl M_told)), ((rM 4), .inl (cy 0, 10, .inl M_place)), ((rM 5), .inl (cy 0, 10, .inl M_range)), ((rM 6), .inl (cy 0, 10, .inl M_voice)), ((rM 7), .inl (cy 0, 8, .inl M_kind)), ((rM 8), .inl (cy 0, 29, .inl M_now_31)), ((rM 10), .inl (cy 0, 2, .inl M_status_31)), ((rM 11), .inl (cy 2, 10, .inl M_isFalse)), ((rM 12), .inl (cy 2, 200, .inl M_isMirage)), ((rM 26), .inl (cy 0, 4, .inl M_why_31)), ((rM 27), .inl (cy 0, 2900, .inl M_rows_31)), ((rM 28), .inl (cy 0, 100, .inl M_sets_31)), ((rM 29), .inl (cy 0, 400, .inl M_whys_31)), ((rM 34), .inl (cy 0, 100, .inl M_caseCell_31)), ((rM 35), .inl (cy 0, 100, .inl M_caseHeading_31))] := hD
        refine lv_iconst (v := (-1 : Int32)) hx hb dX11_ring_34 (by decide) ?_
        refine lv_icmp_eq (tgt := 44) hx hb dX11_ring_35 (by decide) (fun c35 => ?_) (fun c35 => ?_)
        · have h := h.1 c35
          exact hk24_44 sM_31 M_now_31 M_status_31 M_why_31 M_rows_31 M_sets_31 M_whys_31 M_caseCell_31 M_caseHeading_31 l3 _ _ _ h hP hD hS (lv_sub hl [0, 3] rfl)
        · have h := h.2 c35
          obtain ⟨l3_38, el3_38⟩ : ∃ y : Int32, y = l3 + (1 : Int32) := ⟨_, rfl⟩
          have h := h l3_38 el3_38
          refine lv_iinc (v := l3_38) (lv' := [(3, .int l3_38), (0, .ref h0), (1, .int l1), (2, .int l2)]) hx hb dX11_ring_38 hl (k := 3) rfl (by rw [el3_38]; rfl) (by decide) rfl (fun ls hl => ?_)
          refine lv_goto (tgt := 24) hx hb dX11_ring_41 (by decide) ?_
          exact ih24 sM_31 M_now_31 M_status_31 M_why_31 M_rows_31 M_sets_31 M_whys_31 M_caseCell_31 M_caseHeading_31 l3_38 _ _ _ h hP hD hS (lv_sub hl [1, 2, 3, 0] rfl)
  refine lv_aload_n hx hb dX11_ring_0 rfl (lv_at hl 0 rfl) ?_
  refine lv_iconst (v := (0 : Int32)) hx hb dX11_ring_1 (by decide) ?_
  refine pfX11_132 hx hb hts hown hK hP hD hS 0 rfl dX11_ring_2 (fun H locs hP hD hS => ?_)
  have hP : va_P D clsX [(h0, .inr (11, oX11 rM (upd sM 2 (0 : Int32)))), ((rM 3), .inl (cy 0, 14, .inl M_told)), ((rM 4), .inl (cy 0, 10, .inl M_place)), ((rM 5), .inl (cy 0, 10, .inl M_range)), ((rM 6), .inl (cy 0, 10, .inl M_voice)), ((rM 7), .inl (cy 0, 8, .inl M_kind)), ((rM 8), .inl (cy 0, 29, .inl M_now)), ((rM 10), .inl (cy 0, 2, .inl M_status)), ((rM 11), .inl (cy 2, 10, .inl M_isFalse)), ((rM 12), .inl (cy 2, 200, .inl M_isMirage)), ((rM 26), .inl (cy 0, 4, .inl M_why)), ((rM 27), .inl (cy 0, 2900, .inl M_rows)), ((rM 28), .inl (cy 0, 100, .inl M_sets)), ((rM 29), .inl (cy 0, 400, .inl M_whys)), ((rM 34), .inl (cy 0, 100, .inl M_caseCell)), ((rM 35), .inl (cy 0, 100, .inl M_caseHeading))] H := hP
  have hD : va_D A [(h0, .inr (11, oX11 rM (upd sM 2 (0 : Int32)))), ((rM 3), .inl (cy 0, 14, .inl M_told)), ((rM 4), .inl (cy 0, 10, .inl M_place)), ((rM 5), .inl (cy 0, 10, .inl M_range)), ((rM 6), .inl (cy 0, 10, .inl M_voice)), ((rM 7), .inl (cy 0, 8, .inl M_kind)), ((rM 8), .inl (cy 0, 29, .inl M_now)), ((rM 10), .inl (cy 0, 2, .inl M_status)), ((rM 11), .inl (cy 2, 10, .inl M_isFalse)), ((rM 12), .inl (cy 2, 200, .inl M_isMirage)), ((rM 26), .inl (cy 0, 4, .inl M_why)), ((rM 27), .inl (cy 0, 2900, .inl M_rows)), ((rM 28), .inl (cy 0, 100, .inl M_sets)), ((rM 29), .inl (cy 0, 400, .inl M_whys)), ((rM 34), .inl (cy 0, 100, .inl M_caseCell)), ((rM 35), .inl (cy 0, 100, .inl M_caseHeading))] := hD
  refine lv_iload_n hx hb dX11_ring_5 rfl (lv_at hl 2 rfl) ?_
  refine lv_iconst (v := (0 : Int32)) hx hb dX11_ring_6 (by decide) ?_
  refine lv_sipush (v := (200 : Int32)) hx hb dX11_ring_7 (by decide) ?_
  refine clSi (As := [.int x2, .int (0 : Int32), .int (200 : Int32)]) (rest := []) (Wr := [(h0, .inr (11, oX11 rM (upd sM 2 (0 : Int32)))), ((rM 3), .inl (cy 0, 14, .inl M_told)), ((rM 4), .inl (cy 0, 10, .inl M_place)), ((rM 5), .inl (cy 0, 10, .inl M_range)), ((rM 6), .inl (cy 0, 10, .inl M_voice)), ((rM 7), .inl (cy 0, 8, .inl M_kind)), ((rM 8), .inl (cy 0, 29, .inl M_now)), ((rM 10), .inl (cy 0, 2, .inl M_status)), ((rM 11), .inl (cy 2, 10, .inl M_isFalse)), ((rM 12), .inl (cy 2, 200, .inl M_isMirage)), ((rM 26), .inl (cy 0, 4, .inl M_why)), ((rM 27), .inl (cy 0, 2900, .inl M_rows)), ((rM 28), .inl (cy 0, 100, .inl M_sets)), ((rM 29), .inl (cy 0, 400, .inl M_whys)), ((rM 34), .inl (cy 0, 100, .inl M_caseCell)), ((rM 35), .inl (cy 0, 100, .inl M_caseHeading))]) ⟨hx, hb, hml, hown, hts⟩ ⟨callB_of 3 hts (goodC mw1456) rfl rfl rfl (hts _ (tb mw15)) (hts _ (tb mw1454)) kdX11_isIn ⟨Nat.le_trans (by decide) hRf, Nat.le_trans (by decide) hRl⟩, hts _ (tb mw1455)⟩ (ctX11_isIn l D cy ev  x2 (0 : Int32) (200 : Int32) _ _ h) hE hK hP hD hS hA [] [0, 1, 2, 3, 4, 5, 6, 7, 8, 9, 10, 11, 12, 13, 14, 15] rfl rfl (by decide) (by decide) (by decide) rfl hl.1 rfl (Nat.le_of_ble_eq_true rfl) ⟨Nat.zero_le _, Nat.zero_le _⟩ dX11_ring_10 (fun r10 u H locs h hP hD hS => ?_)
  have hP : va_P D clsX [(h0, .inr (11, oX11 rM (upd sM 2 (0 : Int32)))), ((rM 3), .inl (cy 0, 14, .inl M_told)), ((rM 4), .inl (cy 0, 10, .inl M_place)), ((rM 5), .inl (cy 0, 10, .inl M_range)), ((rM 6), .inl (cy 0, 10, .inl M_voice)), ((rM 7), .inl (cy 0, 8, .inl M_kind)), ((rM 8), .inl (cy 0, 29, .inl M_now)), ((rM 10), .inl (cy 0, 2, .inl M_status)), ((rM 11), .inl (cy 2, 10, .inl M_isFalse)), ((rM 12), .inl (cy 2, 200, .inl M_isMirage)), ((rM 26), .inl (cy 0, 4, .inl M_why)), ((rM 27), .inl (cy 0, 2900, .inl M_rows)), ((rM 28), .inl (cy 0, 100, .inl M_sets)), ((rM 29), .inl (cy 0, 400, .inl M_whys)), ((rM 34), .inl (cy 0, 100, .inl M_caseCell)), ((rM 35), .inl (cy 0, 100, .inl M_caseHeading))] H := hP
  have hD : va_D A [(h0, .inr (11, oX11 rM (upd sM 2 (0 : Int32)))), ((rM 3), .inl (cy 0, 14, .inl M_told)), ((rM 4), .inl (cy 0, 10, .inl M_place)), ((rM 5), .inl (cy 0, 10, .inl M_range)), ((rM 6), .inl (cy 0, 10, .inl M_voice)), ((rM 7), .inl (cy 0, 8, .inl M_kind)), ((rM 8), .inl (cy 0, 29, .inl M_now)), ((rM 10), .inl (cy 0, 2, .inl M_status)), ((rM 11), .inl (cy 2, 10, .inl M_isFalse)), ((rM 12), .inl (cy 2, 200, .inl M_isMirage)), ((rM 26), .inl (cy 0, 4, .inl M_why)), ((rM 27), .inl (cy 0, 2900, .inl M_rows)), ((rM 28), .inl (cy 0, 100, .inl M_sets)), ((rM 29), .inl (cy 0, 400, .inl M_whys)), ((rM 34), .inl (cy 0, 100, .inl M_caseCell)), ((rM 35), .inl (cy 0, 100, .inl M_caseHeading))] := hD
  refine lv_if_ne (tgt := 22) hx hb dX11_ring_13 (by decide) (fun c13 => ?_) (fun c13 => ?_)
  · have h := h.1 c13
    refine lv_iconst (v := (0 : Int32)) hx hb dX11_ring_22 (by decide) ?_
    refine lv_istore_n (lv' := [(3, .int (0 : Int32)), (0, .ref h0), (1, .int x1), (2, .int x2)]) hx hb dX11_ring_23 rfl hl (by decide) rfl (fun ls hl => ?_)
    obtain ⟨nf24, h⟩ := h
    refine L24 x1 x2 _ (fun sM_44 M_now_44 M_status_44 M_why_44 M_rows_44 M_sets_44 M_whys_44 M_caseCell_44 M_caseHeading_44 l3_44 H locs ls h hP hD hS hl => ?_) nf24 (upd sM 2 (0 : Int32)) M_now M_status M_why M_rows M_sets M_whys M_caseCell M_caseHeading (0 : Int32) _ _ _ h hP hD hS (lv_sub hl [1, 2, 3, 0] rfl)
    refine lv_iload_n hx hb dX11_ring_44 rfl (lv_at hl 1 rfl) ?_
    exact hret l3_44 (sM_44, M_now_44, M_status_44, M_why_44, M_rows_44, M_sets_44, M_whys_44, M_caseCell_44, M_caseHeading_44) _ _ _ _ rfl dX11_ring_45 h hP hD hS
  · have h := h.2 c13
    refine lv_aload_n hx hb dX11_ring_16 rfl (lv_at hl 0 rfl) ?_
    refine lv_iconst (v := (1 : Int32)) hx hb dX11_ring_17 (by decide) ?_
    refine clVi (As := [.int (1 : Int32)]) (rest := []) (Wr := [((rM 3), .inl (cy 0, 14, .inl M_told)), ((rM 4), .inl (cy 0, 10, .inl M_place)), ((rM 5), .inl (cy 0, 10, .inl M_range)), ((rM 6), .inl (cy 0, 10, .inl M_voice)), ((rM 7), .inl (cy 0, 8, .inl M_kind)), ((rM 8), .inl (cy 0, 29, .inl M_now)), ((rM 10), .inl (cy 0, 2, .inl M_status)), ((rM 11), .inl (cy 2, 10, .inl M_isFalse)), ((rM 12), .inl (cy 2, 200, .inl M_isMirage)), ((rM 26), .inl (cy 0, 4, .inl M_why)), ((rM 27), .inl (cy 0, 2900, .inl M_rows)), ((rM 28), .inl (cy 0, 100, .inl M_sets)), ((rM 29), .inl (cy 0, 400, .inl M_whys)), ((rM 34), .inl (cy 0, 100, .inl M_caseCell)), ((rM 35), .inl (cy 0, 100, .inl M_caseHeading))]) (cq := (RX11, TX11, 56)) ⟨hx, hb, hml, hown, hts⟩ ⟨callB_of 1 hts (goodC mw1373) rfl rfl rfl (hts _ (tb mw15)) (hts _ (tb mw1370)) kdX11_fail ⟨Nat.le_trans (by decide) hRf, Nat.le_trans (by decide) hRl⟩, hts _ (tb mw1372), hts _ (tb ms41)⟩ (ctX11_fail l D cy ev h0 rM (upd sM 2 (0 : Int32)) (1 : Int32) _ _ h) hE hK hP hD hS hA [0] [1, 2, 3, 4, 5, 6, 7, 8, 9, 10, 11, 12, 13, 14, 15] rfl rfl (by decide) (by decide) (by decide) 0 rfl rfl rfl hl.1 rfl (Nat.le_of_ble_eq_true rfl) ⟨Nat.zero_le _, Nat.zero_le _⟩ dX11_ring_18 (fun r18 sM_18 H locs h hP hD hS => ?_)
    have hP : va_P D clsX [((rM 3), .inl (cy 0, 14, .inl M_told)), ((rM 4), .inl (cy 0, 10, .inl M_place)), ((rM 5), .inl (cy 0, 10, .inl M_range)), ((rM 6), .inl (cy 0, 10, .inl M_voice)), ((rM 7), .inl (cy 0, 8, .inl M_kind)), ((rM 8), .inl (cy 0, 29, .inl M_now)), ((rM 10), .inl (cy 0, 2, .inl M_status)), ((rM 11), .inl (cy 2, 10, .inl M_isFalse)), ((rM 12), .inl (cy 2, 200, .inl M_isMirage)), ((rM 26), .inl (cy 0, 4, .inl M_why)), ((rM 27), .inl (cy 0, 2900, .inl M_rows)), ((rM 28), .inl (cy 0, 100, .inl M_sets)), ((rM 29), .inl (cy 0, 400, .inl M_whys)), ((rM 34), .inl (cy 0, 100, .inl M_caseCell)), ((rM 35), .inl (cy 0, 100, .inl M_caseHeading)), (h0, .inr (11, oX11 rM sM_18))] H := hP
    have hD : va_D A [((rM 3), .inl (cy 0, 14, .inl M_told)), ((rM 4), .inl (cy 0, 10, .inl M_place)), ((rM 5), .inl (cy 0, 10, .inl M_range)), ((rM 6), .inl (cy 0, 10, .inl M_voice)), ((rM 7), .inl (cy 0, 8, .inl M_kind)), ((rM 8), .inl (cy 0, 29, .inl M_now)), ((rM 10), .inl (cy 0, 2, .inl M_status)), ((rM 11), .inl (cy 2, 10, .inl M_isFalse)), ((rM 12), .inl (cy 2, 200, .inl M_isMirage)), ((rM 26), .inl (cy 0, 4, .inl M_why)), ((rM 27), .inl (cy 0, 2900, .inl M_rows)), ((rM 28), .inl (cy 0, 100, .inl M_sets)), ((rM 29), .inl (cy 0, 400, .inl M_whys)), ((rM 34), .inl (cy 0, 100, .inl M_caseCell)), ((rM 35), .inl (cy 0, 100, .inl M_caseHeading)), (h0, .inr (11, oX11 rM sM_18))] := hD
    exact hret r18 (sM_18, M_now, M_status, M_why, M_rows, M_sets, M_whys, M_caseCell, M_caseHeading) _ _ _ _ rfl dX11_ring_21 h (hP.sub [15, 0, 1, 2, 3, 4, 5, 6, 7, 8, 9, 10, 11, 12, 13, 14] rfl) (hD.sub [15, 0, 1, 2, 3, 4, 5, 6, 7, 8, 9, 10, 11, 12, 13, 14] (by decide) rfl) hS
def wpX11_undo_L36 (sM : AR) (M_rows : AR) (kx68 : AR → Int32 → Prop) (post : Int32 → AR → AR → Prop) : Nat → AR → Int32 → Prop
  | 0, _, _ => False
  | nf36 + 1, M_now, l1 => (((29 : Int32) ≤ l1 → kx68 M_now l1) ∧ (¬ (29 : Int32) ≤ l1 → vp_in (((29 : Int32) * (sM 30)) + l1) 2900 ∧ vp_in l1 29 ∧ ∀ M_now_61 : AR, M_now_61 = upd M_now l1.toNatClampNeg (M_rows (((29 : Int32) * (sM 30)) + l1).toNatClampNeg) → ∀ l1_62 : Int32, l1_62 = (l1 + (1 : Int32)) → wpX11_undo_L36 sM M_rows kx68 post nf36 M_now_61 l1_62))
def wpX11_undo (sM : AR) (M_now : AR) (M_rows : AR) (post : Int32 → AR → AR → Prop) : Prop := ((¬ (sM 30) = 0 → ∀ f30_21 : Int32, f30_21 = ((sM 30) - (1 : Int32)) → ∀ f31_31 : Int32, f31_31 = ((sM 31) + (1 : Int32)) → ∃ nf36 : Nat, wpX11_undo_L36 (upd (upd (upd sM 2 (0 : Int32)) 30 f30_21) 31 f31_31) M_rows (fun M_now_68 l1_68 => post (1 : Int32) (upd (upd (upd sM 2 (0 : Int32)) 30 f30_21) 31 f31_31) M_now_68) post nf36 M_now (0 : Int32)) ∧ ((sM 30) = 0 → post (0 : Int32) (upd sM 2 (0 : Int32)) M_now))
set_option maxHeartbeats 4000000 in
set_option maxRecDepth 100000 in
theorem ctX11_undo (l : Launch) (D : va_G) (cy : Nat → ClassId) (ev : Nat → Nat) (h0 : Nat) (rM : Nat → Nat) (sM : AR) (M_now : AR) (M_rows : AR) (sz : Nat) (post : Int32 → AR → AR → Prop) (h : wpX11_undo sM M_now M_rows post) : Met l yX11_undo (Cond.code yX11_undo cX11_undo 2 (some .boolean) :: TB) ({ frames := 0, cells := 0, slots := 0, locals := 0 }) (va_Pc [.ref h0] (PreX D cy ev [(h0, .inr (11, oX11 rM sM)), ((rM 8), .inl (cy 0, 29, .inl M_now)), ((rM 27), .inl (cy 0, 2900, .inl M_rows))] sz)) (va_Qi (fun (r : Int32) (u : AR × AR) => post r (u.1) (u.2)) (fun u => BkX D cy [(h0, .inr (11, oX11 rM sM)), ((rM 8), .inl (cy 0, 29, .inl M_now)), ((rM 27), .inl (cy 0, 2900, .inl M_rows))] sz [(h0, .inr (11, oX11 rM (u.1))), ((rM 8), .inl (cy 0, 29, .inl (u.2))), ((rM 27), .inl (cy 0, 2900, .inl M_rows))]) (va_A [(h0, .inr (11, oX11 rM sM)), ((rM 8), .inl (cy 0, 29, .inl M_now)), ((rM 27), .inl (cy 0, 2900, .inl M_rows))] sz)) 0 0 (va_A [(h0, .inr (11, oX11 rM sM)), ((rM 8), .inl (cy 0, 29, .inl M_now)), ((rM 27), .inl (cy 0, 2900, .inl M_rows))] sz) := by
  refine ofWi (by decide) (Nat.le_of_ble_eq_true rfl) ?_
  intro p e s m args below meth c ls A R QQ hx hb hml hown hts hR hlk hE hK hP hD hS hA hl hret
  have hown : s.vm.findClass RX11 = some m.cls := hown
  have hRf : 0 ≤ R.frames := by rw [hR]; exact Nat.le_refl _
  have hRl : 0 ≤ R.locals := by rw [hR]; exact Nat.le_refl _
  clear hR
  have hl : lv_has ls 2 [(0, .ref h0)] := hl
  have L36 : ∀ (sM : AR) (kx68 : AR → Int32 → Prop), (∀ (M_now : AR) (l1 : Int32) (H : Heap) (locs : List Loc) (ls : Array Slot), kx68 M_now l1 → va_P D clsX [(h0, .inr (11, oX11 rM sM)), ((rM 8), .inl (cy 0, 29, .inl M_now)), ((rM 27), .inl (cy 0, 2900, .inl M_rows))] H → va_D A [(h0, .inr (11, oX11 rM sM)), ((rM 8), .inl (cy 0, 29, .inl M_now)), ((rM 27), .inl (cy 0, 2900, .inl M_rows))] → va_S A s.heap H locs → lv_has ls 2 [(0, .ref h0)] → W p l e R s m args below meth c H locs 0 0 QQ (F0 m 68 ls [])) → ∀ (nf36 : Nat) (M_now : AR) (l1 : Int32) (H : Heap) (locs : List Loc) (ls : Array Slot), wpX11_undo_L36 sM M_rows kx68 post nf36 M_now l1 → va_P D clsX [(h0, .inr (11, oX11 rM sM)), ((rM 8), .inl (cy 0, 29, .inl M_now)), ((rM 27), .inl (cy 0, 2900, .inl M_rows))] H → va_D A [(h0, .inr (11, oX11 rM sM)), ((rM 8), .inl (cy 0, 29, .inl M_now)), ((rM 27), .inl (cy 0, 2900, .inl M_rows))] → va_S A s.heap H locs → lv_has ls 2 [(0, .ref h0), (1, .int l1)] → W p l e R s m args below meth c H locs 0 0 QQ (F0 m 36 ls []) := by
    intro sM kx68 hk36_68 nf36
    induction nf36 with
    | zero =>
      intro M_now l1 H locs ls h
      exact (show False from h).elim
    | succ nf36 ih36 =>
      intro M_now l1 H locs ls h hP hD hS hl
      refine lv_iload_n hx hb dX11_undo_36 rfl (lv_at hl 1 rfl) ?_
      refine lv_bipush (v := (29 : Int32)) hx hb dX11_undo_37 (by decide) ?_
      refine lv_icmp_ge (tgt := 68) hx hb dX11_undo_39 (by decide) (fun c39 => ?_) (fun c39 => ?_)
      · have h := h.1 c39
        exact hk36_68 M_now l1 _ _ _ h hP hD hS (lv_sub hl [0] rfl)
      · have h := h.2 c39
        refine lv_aload_n hx hb dX11_undo_42 rfl (lv_at hl 0 rfl) ?_
        refine gfX11_52 hx hb hts hown hK hP 0 rfl dX11_undo_43 ?_
        refine lv_iload_n hx hb dX11_undo_46 rfl (lv_at hl 1 rfl) ?_
        refine lv_aload_n hx hb dX11_undo_47 rfl (lv_at hl 0 rfl) ?_
        refine gfX11_78 hx hb hts hown hK hP 0 rfl dX11_undo_48 ?_
        refine lv_bipush (v := (29 : Int32)) hx hb dX11_undo_51 (by decide) ?_
        refine lv_aload_n hx hb dX11_undo_53 rfl (lv_at hl 0 rfl) ?_
        refine gfX11_270 (v := (sM 30)) hx hb hts hown hK hP 0 rfl rfl dX11_undo_54 ?_
        refine lv_imul hx hb dX11_undo_57 ?_
        refine lv_iload_n hx hb dX11_undo_58 rfl (lv_at hl 1 rfl) ?_
        refine lv_iadd hx hb dX11_undo_59 ?_
        obtain ⟨hin, h⟩ := h
        refine ldi (k := (((29 : Int32) * (sM 30)) + l1).toNatClampNeg) hx hb hK hP 2 rfl hin rfl dX11_undo_60 ?_
        obtain ⟨hin, h⟩ := h
        refine sti (k := l1.toNatClampNeg) (y := (M_rows (((29 : Int32) * (sM 30)) + l1).toNatClampNeg)) hx hb hK hP hD hS 1 rfl hin rfl rfl dX11_undo_61 (fun M_now_61 eM_now_61 H locs hP hD hS => ?_)
        have h := h M_now_61 eM_now_61
        have hP : va_P D clsX [(h0, .inr (11, oX11 rM sM)), ((rM 8), .inl (cy 0, 29, .inl M_now_61)), ((rM 27), .inl (cy 0, 2900, .inl M_rows))] H := hP
        have hD : va_D A [(h0, .inr (11, oX11 rM sM)), ((rM 8), .inl (cy 0, 29, .inl M_now_61)), ((rM 27), .inl (cy 0, 2900, .inl M_rows))] := hD
        obtain ⟨l1_62, el1_62⟩ : ∃ y : Int32, y = l1 + (1 : Int32) := ⟨_, rfl⟩
        have h := h l1_62 el1_62
        refine lv_iinc (v := l1_62) (lv' := [(1, .int l1_62), (0, .ref h0)]) hx hb dX11_undo_62 hl (k := 1) rfl (by rw [el1_62]; rfl) (by decide) rfl (fun ls hl => ?_)
        refine lv_goto (tgt := 36) hx hb dX11_undo_65 (by decide) ?_
        exact ih36 M_now_61 l1_62 _ _ _ h hP hD hS (lv_sub hl [1, 0] rfl)
  refine lv_aload_n hx hb dX11_undo_0 rfl (lv_at hl 0 rfl) ?_
  refine lv_iconst (v := (0 : Int32)) hx hb dX11_undo_1 (by decide) ?_
  refine pfX11_132 hx hb hts hown hK hP hD hS 0 rfl dX11_undo_2 (fun H locs hP hD hS => ?_)
  have hP : va_P D clsX [(h0, .inr (11, oX11 rM (upd sM 2 (0 : Int32)))), ((rM 8), .inl (cy 0, 29, .inl M_now)), ((rM 27), .inl (cy 0, 2900, .inl M_rows))] H := hP
  have hD : va_D A [(h0, .inr (11, oX11 rM (upd sM 2 (0 : Int32)))), ((rM 8), .inl (cy 0, 29, .inl M_now)), ((rM 27), .inl (cy 0, 2900, .inl M_rows))] := hD
  refine lv_aload_n hx hb dX11_undo_5 rfl (lv_at hl 0 rfl) ?_
  refine gfX11_270 (v := (sM 30)) hx hb hts hown hK hP 0 rfl rfl dX11_undo_6 ?_
  refine lv_if_ne (tgt := 14) hx hb dX11_undo_9 (by decide) (fun c9 => ?_) (fun c9 => ?_)
  · have h := h.1 c9
    refine lv_aload_n hx hb dX11_undo_14 rfl (lv_at hl 0 rfl) ?_
    refine lv_dup hx hb dX11_undo_15 rfl ?_
    refine gfX11_270 (v := (sM 30)) hx hb hts hown hK hP 0 rfl rfl dX11_undo_16 ?_
    refine lv_iconst (v := (1 : Int32)) hx hb dX11_undo_19 (by decide) ?_
    refine lv_isub hx hb dX11_undo_20 ?_
    refine lv_topi (fun f30_21 ef30_21 => ?_)
    have h := h f30_21 ef30_21
    refine pfX11_270 hx hb hts hown hK hP hD hS 0 rfl dX11_undo_21 (fun H locs hP hD hS => ?_)
    have hP : va_P D clsX [(h0, .inr (11, oX11 rM (upd (upd sM 2 (0 : Int32)) 30 f30_21))), ((rM 8), .inl (cy 0, 29, .inl M_now)), ((rM 27), .inl (cy 0, 2900, .inl M_rows))] H := hP
    have hD : va_D A [(h0, .inr (11, oX11 rM (upd (upd sM 2 (0 : Int32)) 30 f30_21))), ((rM 8), .inl (cy 0, 29, .inl M_now)), ((rM 27), .inl (cy 0, 2900, .inl M_rows))] := hD
    refine lv_aload_n hx hb dX11_undo_24 rfl (lv_at hl 0 rfl) ?_
    refine lv_dup hx hb dX11_undo_25 rfl ?_
    refine gfX11_273 (v := (sM 31)) hx hb hts hown hK hP 0 rfl rfl dX11_undo_26 ?_
    refine lv_iconst (v := (1 : Int32)) hx hb dX11_undo_29 (by decide) ?_
    refine lv_iadd hx hb dX11_undo_30 ?_
    refine lv_topi (fun f31_31 ef31_31 => ?_)
    have h := h f31_31 ef31_31
    refine pfX11_273 hx hb hts hown hK hP hD hS 0 rfl dX11_undo_31 (fun H locs hP hD hS => ?_)
    have hP : va_P D clsX [(h0, .inr (11, oX11 rM (upd (upd (upd sM 2 (0 : Int32)) 30 f30_21) 31 f31_31))), ((rM 8), .inl (cy 0, 29, .inl M_now)), ((rM 27), .inl (cy 0, 2900, .inl M_rows))] H := hP
    have hD : va_D A [(h0, .inr (11, oX11 rM (upd (upd (upd sM 2 (0 : Int32)) 30 f30_21) 31 f31_31))), ((rM 8), .inl (cy 0, 29, .inl M_now)), ((rM 27), .inl (cy 0, 2900, .inl M_rows))] := hD
    refine lv_iconst (v := (0 : Int32)) hx hb dX11_undo_34 (by decide) ?_
    refine lv_istore_n (lv' := [(1, .int (0 : Int32)), (0, .ref h0)]) hx hb dX11_undo_35 rfl hl (by decide) rfl (fun ls hl => ?_)
    obtain ⟨nf36, h⟩ := h
    refine L36 (upd (upd (upd sM 2 (0 : Int32)) 30 f30_21) 31 f31_31) _ (fun M_now_68 l1_68 H locs ls h hP hD hS hl => ?_) nf36 M_now (0 : Int32) _ _ _ h hP hD hS (lv_sub hl [1, 0] rfl)
    refine lv_iconst (v := (1 : Int32)) hx hb dX11_undo_68 (by decide) ?_
    exact hret (1 : Int32) ((upd (upd (upd sM 2 (0 : Int32)) 30 f30_21) 31 f31_31), M_now_68) _ _ _ _ rfl dX11_undo_69 h hP hD hS
  · have h := h.2 c9
    refine lv_iconst (v := (0 : Int32)) hx hb dX11_undo_12 (by decide) ?_
    exact hret (0 : Int32) ((upd sM 2 (0 : Int32)), M_now) _ _ _ _ rfl dX11_undo_13 h hP hD hS
def wpX11_redo (sM : AR) (M_told : AR) (M_place : AR) (M_range : AR) (M_voice : AR) (M_kind : AR) (M_now : AR) (M_isFalse : AR) (M_isMirage : AR) (M_why : AR) (M_rows : AR) (M_sets : AR) (M_whys : AR) (M_caseCell : AR) (M_caseHeading : AR) (post : Int32 → AR → AR → AR → AR → AR → AR → AR → AR → Prop) : Prop := ((¬ (sM 31) = 0 → ∀ f31_21 : Int32, f31_21 = ((sM 31) - (1 : Int32)) → vp_in (sM 30) 100 ∧ wpX11_doStroke (upd (upd sM 2 (0 : Int32)) 31 f31_21) M_told M_place M_range M_voice M_kind M_now M_isFalse M_isMirage M_why M_rows M_sets M_whys M_caseCell M_caseHeading (M_sets (sM 30).toNatClampNeg) (fun r34 sM_34 M_now_34 M_why_34 M_rows_34 M_sets_34 M_whys_34 M_caseCell_34 M_caseHeading_34 => post (1 : Int32) sM_34 M_now_34 M_why_34 M_rows_34 M_sets_34 M_whys_34 M_caseCell_34 M_caseHeading_34)) ∧ ((sM 31) = 0 → post (0 : Int32) (upd sM 2 (0 : Int32)) M_now M_why M_rows M_sets M_whys M_caseCell M_caseHeading))
set_option maxHeartbeats 4000000 in
set_option maxRecDepth 100000 in
theorem ctX11_redo (l : Launch) (D : va_G) (cy : Nat → ClassId) (ev : Nat → Nat) (h0 : Nat) (rM : Nat → Nat) (sM : AR) (M_told : AR) (M_place : AR) (M_range : AR) (M_voice : AR) (M_kind : AR) (M_now : AR) (M_isFalse : AR) (M_isMirage : AR) (M_why : AR) (M_rows : AR) (M_sets : AR) (M_whys : AR) (M_caseCell : AR) (M_caseHeading : AR) (sz : Nat) (post : Int32 → AR → AR → AR → AR → AR → AR → AR → AR → Prop) (h : wpX11_redo sM M_told M_place M_range M_voice M_kind M_now M_isFalse M_isMirage M_why M_rows M_sets M_whys M_caseCell M_caseHeading post) : Met l yX11_redo (Cond.code yX11_redo cX11_redo 1 (some .boolean) :: TB) ({ frames := 7, cells := 0, slots := 0, locals := 205 }) (va_Pc [.ref h0] (PreX D cy ev [(h0, .inr (11, oX11 rM sM)), ((rM 3), .inl (cy 0, 14, .inl M_told)), ((rM 4), .inl (cy 0, 10, .inl M_place)), ((rM 5), .inl (cy 0, 10, .inl M_range)), ((rM 6), .inl (cy 0, 10, .inl M_voice)), ((rM 7), .inl (cy 0, 8, .inl M_kind)), ((rM 8), .inl (cy 0, 29, .inl M_now)), ((rM 11), .inl (cy 2, 10, .inl M_isFalse)), ((rM 12), .inl (cy 2, 200, .inl M_isMirage)), ((rM 26), .inl (cy 0, 4, .inl M_why)), ((rM 27), .inl (cy 0, 2900, .inl M_rows)), ((rM 28), .inl (cy 0, 100, .inl M_sets)), ((rM 29), .inl (cy 0, 400, .inl M_whys)), ((rM 34), .inl (cy 0, 100, .inl M_caseCell)), ((rM 35), .inl (cy 0, 100, .inl M_caseHeading))] sz)) (va_Qi (fun (r : Int32) (u : AR × AR × AR × AR × AR × AR × AR × AR) => post r (u.1) (u.2.1) (u.2.2.1) (u.2.2.2.1) (u.2.2.2.2.1) (u.2.2.2.2.2.1) (u.2.2.2.2.2.2.1) (u.2.2.2.2.2.2.2)) (fun u => BkX D cy [(h0, .inr (11, oX11 rM sM)), ((rM 3), .inl (cy 0, 14, .inl M_told)), ((rM 4), .inl (cy 0, 10, .inl M_place)), ((rM 5), .inl (cy 0, 10, .inl M_range)), ((rM 6), .inl (cy 0, 10, .inl M_voice)), ((rM 7), .inl (cy 0, 8, .inl M_kind)), ((rM 8), .inl (cy 0, 29, .inl M_now)), ((rM 11), .inl (cy 2, 10, .inl M_isFalse)), ((rM 12), .inl (cy 2, 200, .inl M_isMirage)), ((rM 26), .inl (cy 0, 4, .inl M_why)), ((rM 27), .inl (cy 0, 2900, .inl M_rows)), ((rM 28), .inl (cy 0, 100, .inl M_sets)), ((rM 29), .inl (cy 0, 400, .inl M_whys)), ((rM 34), .inl (cy 0, 100, .inl M_caseCell)), ((rM 35), .inl (cy 0, 100, .inl M_caseHeading))] sz [(h0, .inr (11, oX11 rM (u.1))), ((rM 3), .inl (cy 0, 14, .inl M_told)), ((rM 4), .inl (cy 0, 10, .inl M_place)), ((rM 5), .inl (cy 0, 10, .inl M_range)), ((rM 6), .inl (cy 0, 10, .inl M_voice)), ((rM 7), .inl (cy 0, 8, .inl M_kind)), ((rM 8), .inl (cy 0, 29, .inl (u.2.1))), ((rM 11), .inl (cy 2, 10, .inl M_isFalse)), ((rM 12), .inl (cy 2, 200, .inl M_isMirage)), ((rM 26), .inl (cy 0, 4, .inl (u.2.2.1))), ((rM 27), .inl (cy 0, 2900, .inl (u.2.2.2.1))), ((rM 28), .inl (cy 0, 100, .inl (u.2.2.2.2.1))), ((rM 29), .inl (cy 0, 400, .inl (u.2.2.2.2.2.1))), ((rM 34), .inl (cy 0, 100, .inl (u.2.2.2.2.2.2.1))), ((rM 35), .inl (cy 0, 100, .inl (u.2.2.2.2.2.2.2)))]) (va_A [(h0, .inr (11, oX11 rM sM)), ((rM 3), .inl (cy 0, 14, .inl M_told)), ((rM 4), .inl (cy 0, 10, .inl M_place)), ((rM 5), .inl (cy 0, 10, .inl M_range)), ((rM 6), .inl (cy 0, 10, .inl M_voice)), ((rM 7), .inl (cy 0, 8, .inl M_kind)), ((rM 8), .inl (cy 0, 29, .inl M_now)), ((rM 11), .inl (cy 2, 10, .inl M_isFalse)), ((rM 12), .inl (cy 2, 200, .inl M_isMirage)), ((rM 26), .inl (cy 0, 4, .inl M_why)), ((rM 27), .inl (cy 0, 2900, .inl M_rows)), ((rM 28), .inl (cy 0, 100, .inl M_sets)), ((rM 29), .inl (cy 0, 400, .inl M_whys)), ((rM 34), .inl (cy 0, 100, .inl M_caseCell)), ((rM 35), .inl (cy 0, 100, .inl M_caseHeading))] sz)) 0 0 (va_A [(h0, .inr (11, oX11 rM sM)), ((rM 3), .inl (cy 0, 14, .inl M_told)), ((rM 4), .inl (cy 0, 10, .inl M_place)), ((rM 5), .inl (cy 0, 10, .inl M_range)), ((rM 6), .inl (cy 0, 10, .inl M_voice)), ((rM 7), .inl (cy 0, 8, .inl M_kind)), ((rM 8), .inl (cy 0, 29, .inl M_now)), ((rM 11), .inl (cy 2, 10, .inl M_isFalse)), ((rM 12), .inl (cy 2, 200, .inl M_isMirage)), ((rM 26), .inl (cy 0, 4, .inl M_why)), ((rM 27), .inl (cy 0, 2900, .inl M_rows)), ((rM 28), .inl (cy 0, 100, .inl M_sets)), ((rM 29), .inl (cy 0, 400, .inl M_whys)), ((rM 34), .inl (cy 0, 100, .inl M_caseCell)), ((rM 35), .inl (cy 0, 100, .inl M_caseHeading))] sz) := by
  refine ofWi (by decide) (Nat.le_of_ble_eq_true rfl) ?_
  intro p e s m args below meth c ls A R QQ hx hb hml hown hts hR hlk hE hK hP hD hS hA hl hret
  have hown : s.vm.findClass RX11 = some m.cls := hown
  have hRf : 7 ≤ R.frames := by rw [hR]; exact Nat.le_refl _
  have hRl : 205 ≤ R.locals := by rw [hR]; exact Nat.le_refl _
  clear hR
  have hl : lv_has ls 1 [(0, .ref h0)] := hl
  refine lv_aload_n hx hb dX11_redo_0 rfl (lv_at hl 0 rfl) ?_
  refine lv_iconst (v := (0 : Int32)) hx hb dX11_redo_1 (by decide) ?_
  refine pfX11_132 hx hb hts hown hK hP hD hS 0 rfl dX11_redo_2 (fun H locs hP hD hS => ?_)
  have hP : va_P D clsX [(h0, .inr (11, oX11 rM (upd sM 2 (0 : Int32)))), ((rM 3), .inl (cy 0, 14, .inl M_told)), ((rM 4), .inl (cy 0, 10, .inl M_place)), ((rM 5), .inl (cy 0, 10, .inl M_range)), ((rM 6), .inl (cy 0, 10, .inl M_voice)), ((rM 7), .inl (cy 0, 8, .inl M_kind)), ((rM 8), .inl (cy 0, 29, .inl M_now)), ((rM 11), .inl (cy 2, 10, .inl M_isFalse)), ((rM 12), .inl (cy 2, 200, .inl M_isMirage)), ((rM 26), .inl (cy 0, 4, .inl M_why)), ((rM 27), .inl (cy 0, 2900, .inl M_rows)), ((rM 28), .inl (cy 0, 100, .inl M_sets)), ((rM 29), .inl (cy 0, 400, .inl M_whys)), ((rM 34), .inl (cy 0, 100, .inl M_caseCell)), ((rM 35), .inl (cy 0, 100, .inl M_caseHeading))] H := hP
  have hD : va_D A [(h0, .inr (11, oX11 rM (upd sM 2 (0 : Int32)))), ((rM 3), .inl (cy 0, 14, .inl M_told)), ((rM 4), .inl (cy 0, 10, .inl M_place)), ((rM 5), .inl (cy 0, 10, .inl M_range)), ((rM 6), .inl (cy 0, 10, .inl M_voice)), ((rM 7), .inl (cy 0, 8, .inl M_kind)), ((rM 8), .inl (cy 0, 29, .inl M_now)), ((rM 11), .inl (cy 2, 10, .inl M_isFalse)), ((rM 12), .inl (cy 2, 200, .inl M_isMirage)), ((rM 26), .inl (cy 0, 4, .inl M_why)), ((rM 27), .inl (cy 0, 2900, .inl M_rows)), ((rM 28), .inl (cy 0, 100, .inl M_sets)), ((rM 29), .inl (cy 0, 400, .inl M_whys)), ((rM 34), .inl (cy 0, 100, .inl M_caseCell)), ((rM 35), .inl (cy 0, 100, .inl M_caseHeading))] := hD
  refine lv_aload_n hx hb dX11_redo_5 rfl (lv_at hl 0 rfl) ?_
  refine gfX11_273 (v := (sM 31)) hx hb hts hown hK hP 0 rfl rfl dX11_redo_6 ?_
  refine lv_if_ne (tgt := 14) hx hb dX11_redo_9 (by decide) (fun c9 => ?_) (fun c9 => ?_)
  · have h := h.1 c9
    refine lv_aload_n hx hb dX11_redo_14 rfl (lv_at hl 0 rfl) ?_
    refine lv_dup hx hb dX11_redo_15 rfl ?_
    refine gfX11_273 (v := (sM 31)) hx hb hts hown hK hP 0 rfl rfl dX11_redo_16 ?_
    refine lv_iconst (v := (1 : Int32)) hx hb dX11_redo_19 (by decide) ?_
    refine lv_isub hx hb dX11_redo_20 ?_
    refine lv_topi (fun f31_21 ef31_21 => ?_)
    have h := h f31_21 ef31_21
    refine pfX11_273 hx hb hts hown hK hP hD hS 0 rfl dX11_redo_21 (fun H locs hP hD hS => ?_)
    have hP : va_P D clsX [(h0, .inr (11, oX11 rM (upd (upd sM 2 (0 : Int32)) 31 f31_21))), ((rM 3), .inl (cy 0, 14, .inl M_told)), ((rM 4), .inl (cy 0, 10, .inl M_place)), ((rM 5), .inl (cy 0, 10, .inl M_range)), ((rM 6), .inl (cy 0, 10, .inl M_voice)), ((rM 7), .inl (cy 0, 8, .inl M_kind)), ((rM 8), .inl (cy 0, 29, .inl M_now)), ((rM 11), .inl (cy 2, 10, .inl M_isFalse)), ((rM 12), .inl (cy 2, 200, .inl M_isMirage)), ((rM 26), .inl (cy 0, 4, .inl M_why)), ((rM 27), .inl (cy 0, 2900, .inl M_rows)), ((rM 28), .inl (cy 0, 100, .inl M_sets)), ((rM 29), .inl (cy 0, 400, .inl M_whys)), ((rM 34), .inl (cy 0, 100, .inl M_caseCell)), ((rM 35), .inl (cy 0, 100, .inl M_caseHeading))] H := hP
    have hD : va_D A [(h0, .inr (11, oX11 rM (upd (upd sM 2 (0 : Int32)) 31 f31_21))), ((rM 3), .inl (cy 0, 14, .inl M_told)), ((rM 4), .inl (cy 0, 10, .inl M_place)), ((rM 5), .inl (cy 0, 10, .inl M_range)), ((rM 6), .inl (cy 0, 10, .inl M_voice)), ((rM 7), .inl (cy 0, 8, .inl M_kind)), ((rM 8), .inl (cy 0, 29, .inl M_now)), ((rM 11), .inl (cy 2, 10, .inl M_isFalse)), ((rM 12), .inl (cy 2, 200, .inl M_isMirage)), ((rM 26), .inl (cy 0, 4, .inl M_why)), ((rM 27), .inl (cy 0, 2900, .inl M_rows)), ((rM 28), .inl (cy 0, 100, .inl M_sets)), ((rM 29), .inl (cy 0, 400, .inl M_whys)), ((rM 34), .inl (cy 0, 100, .inl M_caseCell)), ((rM 35), .inl (cy 0, 100, .inl M_caseHeading))] := hD
    refine lv_aload_n hx hb dX11_redo_24 rfl (lv_at hl 0 rfl) ?_
    refine lv_aload_n hx hb dX11_redo_25 rfl (lv_at hl 0 rfl) ?_
    refine gfX11_81 hx hb hts hown hK hP 0 rfl dX11_redo_26 ?_
    refine lv_aload_n hx hb dX11_redo_29 rfl (lv_at hl 0 rfl) ?_
    refine gfX11_270 (v := (sM 30)) hx hb hts hown hK hP 0 rfl rfl dX11_redo_30 ?_
    obtain ⟨hin, h⟩ := h
    refine ldi (k := (sM 30).toNatClampNeg) hx hb hK hP 11 rfl hin rfl dX11_redo_33 ?_
    refine clVi (As := [.int (M_sets (sM 30).toNatClampNeg)]) (rest := []) (Wr := []) (cq := (RX11, TX11, 56)) ⟨hx, hb, hml, hown, hts⟩ ⟨callB_of 1 hts (goodC mw1517) rfl rfl rfl (hts _ (tb mw15)) (hts _ (tb mw1514)) kdX11_doStroke ⟨Nat.le_trans (by decide) hRf, Nat.le_trans (by decide) hRl⟩, hts _ (tb mw1516), hts _ (tb ms66)⟩ (ctX11_doStroke l D cy ev h0 rM (upd (upd sM 2 (0 : Int32)) 31 f31_21) M_told M_place M_range M_voice M_kind M_now M_isFalse M_isMirage M_why M_rows M_sets M_whys M_caseCell M_caseHeading (M_sets (sM 30).toNatClampNeg) _ _ h) hE hK hP hD hS hA [0, 1, 2, 3, 4, 5, 6, 7, 8, 9, 10, 11, 12, 13, 14] [] rfl rfl (by decide) (by decide) (by decide) 0 rfl rfl rfl hl.1 rfl (Nat.le_of_ble_eq_true rfl) ⟨Nat.zero_le _, Nat.zero_le _⟩ dX11_redo_34 (fun r34 u H locs h hP hD hS => ?_)
    obtain ⟨sM_34, M_now_34, M_why_34, M_rows_34, M_sets_34, M_whys_34, M_caseCell_34, M_caseHeading_34⟩ := u
    have hP : va_P D clsX [(h0, .inr (11, oX11 rM sM_34)), ((rM 3), .inl (cy 0, 14, .inl M_told)), ((rM 4), .inl (cy 0, 10, .inl M_place)), ((rM 5), .inl (cy 0, 10, .inl M_range)), ((rM 6), .inl (cy 0, 10, .inl M_voice)), ((rM 7), .inl (cy 0, 8, .inl M_kind)), ((rM 8), .inl (cy 0, 29, .inl M_now_34)), ((rM 11), .inl (cy 2, 10, .inl M_isFalse)), ((rM 12), .inl (cy 2, 200, .inl M_isMirage)), ((rM 26), .inl (cy 0, 4, .inl M_why_34)), ((rM 27), .inl (cy 0, 2900, .inl M_rows_34)), ((rM 28), .inl (cy 0, 100, .inl M_sets_34)), ((rM 29), .inl (cy 0, 400, .inl M_whys_34)), ((rM 34), .inl (cy 0, 100, .inl M_caseCell_34)), ((rM 35), .inl (cy 0, 100, .inl M_caseHeading_34))] H := hP
    have hD : va_D A [(h0, .inr (11, oX11 rM sM_34)), ((rM 3), .inl (cy 0, 14, .inl M_told)), ((rM 4), .inl (cy 0, 10, .inl M_place)), ((rM 5), .inl (cy 0, 10, .inl M_range)), ((rM 6), .inl (cy 0, 10, .inl M_voice)), ((rM 7), .inl (cy 0, 8, .inl M_kind)), ((rM 8), .inl (cy 0, 29, .inl M_now_34)), ((rM 11), .inl (cy 2, 10, .inl M_isFalse)), ((rM 12), .inl (cy 2, 200, .inl M_isMirage)), ((rM 26), .inl (cy 0, 4, .inl M_why_34)), ((rM 27), .inl (cy 0, 2900, .inl M_rows_34)), ((rM 28), .inl (cy 0, 100, .inl M_sets_34)), ((rM 29), .inl (cy 0, 400, .inl M_whys_34)), ((rM 34), .inl (cy 0, 100, .inl M_caseCell_34)), ((rM 35), .inl (cy 0, 100, .inl M_caseHeading_34))] := hD
    refine lv_pop hx hb dX11_redo_37 rfl ?_
    refine lv_iconst (v := (1 : Int32)) hx hb dX11_redo_38 (by decide) ?_
    exact hret (1 : Int32) (sM_34, M_now_34, M_why_34, M_rows_34, M_sets_34, M_whys_34, M_caseCell_34, M_caseHeading_34) _ _ _ _ rfl dX11_redo_39 h hP hD hS
  · have h := h.2 c9
    refine lv_iconst (v := (0 : Int32)) hx hb dX11_redo_12 (by decide) ?_
    exact hret (0 : Int32) ((upd sM 2 (0 : Int32)), M_now, M_why, M_rows, M_sets, M_whys, M_caseCell, M_caseHeading) _ _ _ _ rfl dX11_redo_13 h hP hD hS
def wpX11_why_J40 (sM : AR) (M_told : AR) (M_whys : AR) (post : Int32 → AR → Prop) : Prop := wpX11_fail sM (1 : Int32) (fun r42 sM_42 => post r42 sM_42)
def wpX11_why (sM : AR) (M_told : AR) (M_whys : AR) (x1 : Int32) (x2 : Int32) (post : Int32 → AR → Prop) : Prop := wpX11_isWalker M_told x1 (fun r7 => ((r7 = 0 → wpX11_why_J40 (upd sM 2 (0 : Int32)) M_told M_whys post) ∧ (¬ r7 = 0 → wpX11_isIn x2 (0 : Int32) ((sM 30) - (1 : Int32)) (fun r21 => ((r21 = 0 → wpX11_why_J40 (upd sM 2 (0 : Int32)) M_told M_whys post) ∧ (¬ r21 = 0 → vp_in (((4 : Int32) * x2) + x1) 400 ∧ post (M_whys (((4 : Int32) * x2) + x1).toNatClampNeg) (upd sM 2 (0 : Int32))))))))
set_option maxHeartbeats 4000000 in
set_option maxRecDepth 100000 in
theorem ctX11_why (l : Launch) (D : va_G) (cy : Nat → ClassId) (ev : Nat → Nat) (h0 : Nat) (rM : Nat → Nat) (sM : AR) (M_told : AR) (M_whys : AR) (x1 : Int32) (x2 : Int32) (sz : Nat) (post : Int32 → AR → Prop) (h : wpX11_why sM M_told M_whys x1 x2 post) : Met l yX11_why (Cond.code yX11_why cX11_why 3 (some .int) :: TB) ({ frames := 2, cells := 0, slots := 0, locals := 43 }) (va_Pc [.ref h0, .int x1, .int x2] (PreX D cy ev [(h0, .inr (11, oX11 rM sM)), ((rM 3), .inl (cy 0, 14, .inl M_told)), ((rM 29), .inl (cy 0, 400, .inl M_whys))] sz)) (va_Qi (fun (r : Int32) (u : AR) => post r u) (fun u => BkX D cy [(h0, .inr (11, oX11 rM sM)), ((rM 3), .inl (cy 0, 14, .inl M_told)), ((rM 29), .inl (cy 0, 400, .inl M_whys))] sz [(h0, .inr (11, oX11 rM u)), ((rM 3), .inl (cy 0, 14, .inl M_told)), ((rM 29), .inl (cy 0, 400, .inl M_whys))]) (va_A [(h0, .inr (11, oX11 rM sM)), ((rM 3), .inl (cy 0, 14, .inl M_told)), ((rM 29), .inl (cy 0, 400, .inl M_whys))] sz)) 0 0 (va_A [(h0, .inr (11, oX11 rM sM)), ((rM 3), .inl (cy 0, 14, .inl M_told)), ((rM 29), .inl (cy 0, 400, .inl M_whys))] sz) := by
  refine ofWi (by decide) (Nat.le_of_ble_eq_true rfl) ?_
  intro p e s m args below meth c ls A R QQ hx hb hml hown hts hR hlk hE hK hP hD hS hA hl hret
  have hown : s.vm.findClass RX11 = some m.cls := hown
  have hRf : 2 ≤ R.frames := by rw [hR]; exact Nat.le_refl _
  have hRl : 43 ≤ R.locals := by rw [hR]; exact Nat.le_refl _
  clear hR
  have hl : lv_has ls 3 [(0, .ref h0), (1, .int x1), (2, .int x2)] := hl
  have J40 : ∀ (sM : AR) (H : Heap) (locs : List Loc) (ls : Array Slot), wpX11_why_J40 sM M_told M_whys post → va_P D clsX [(h0, .inr (11, oX11 rM sM)), ((rM 3), .inl (cy 0, 14, .inl M_told)), ((rM 29), .inl (cy 0, 400, .inl M_whys))] H → va_D A [(h0, .inr (11, oX11 rM sM)), ((rM 3), .inl (cy 0, 14, .inl M_told)), ((rM 29), .inl (cy 0, 400, .inl M_whys))] → va_S A s.heap H locs → lv_has ls 3 [(0, .ref h0)] → W p l e R s m args below meth c H locs 0 0 QQ (F0 m 40 ls []) := by
    intro sM H locs ls h hP hD hS hl
    refine lv_aload_n hx hb dX11_why_40 rfl (lv_at hl 0 rfl) ?_
    refine lv_iconst (v := (1 : Int32)) hx hb dX11_why_41 (by decide) ?_
    refine clVi (As := [.int (1 : Int32)]) (rest := []) (Wr := [((rM 3), .inl (cy 0, 14, .inl M_told)), ((rM 29), .inl (cy 0, 400, .inl M_whys))]) (cq := (RX11, TX11, 56)) ⟨hx, hb, hml, hown, hts⟩ ⟨callB_of 1 hts (goodC mw1373) rfl rfl rfl (hts _ (tb mw15)) (hts _ (tb mw1370)) kdX11_fail ⟨Nat.le_trans (by decide) hRf, Nat.le_trans (by decide) hRl⟩, hts _ (tb mw1372), hts _ (tb ms41)⟩ (ctX11_fail l D cy ev h0 rM sM (1 : Int32) _ _ h) hE hK hP hD hS hA [0] [1, 2] rfl rfl (by decide) (by decide) (by decide) 0 rfl rfl rfl hl.1 rfl (Nat.le_of_ble_eq_true rfl) ⟨Nat.zero_le _, Nat.zero_le _⟩ dX11_why_42 (fun r42 sM_42 H locs h hP hD hS => ?_)
    have hP : va_P D clsX [((rM 3), .inl (cy 0, 14, .inl M_told)), ((rM 29), .inl (cy 0, 400, .inl M_whys)), (h0, .inr (11, oX11 rM sM_42))] H := hP
    have hD : va_D A [((rM 3), .inl (cy 0, 14, .inl M_told)), ((rM 29), .inl (cy 0, 400, .inl M_whys)), (h0, .inr (11, oX11 rM sM_42))] := hD
    exact hret r42 (sM_42) _ _ _ _ rfl dX11_why_45 h (hP.sub [2, 0, 1] rfl) (hD.sub [2, 0, 1] (by decide) rfl) hS
  refine lv_aload_n hx hb dX11_why_0 rfl (lv_at hl 0 rfl) ?_
  refine lv_iconst (v := (0 : Int32)) hx hb dX11_why_1 (by decide) ?_
  refine pfX11_132 hx hb hts hown hK hP hD hS 0 rfl dX11_why_2 (fun H locs hP hD hS => ?_)
  have hP : va_P D clsX [(h0, .inr (11, oX11 rM (upd sM 2 (0 : Int32)))), ((rM 3), .inl (cy 0, 14, .inl M_told)), ((rM 29), .inl (cy 0, 400, .inl M_whys))] H := hP
  have hD : va_D A [(h0, .inr (11, oX11 rM (upd sM 2 (0 : Int32)))), ((rM 3), .inl (cy 0, 14, .inl M_told)), ((rM 29), .inl (cy 0, 400, .inl M_whys))] := hD
  refine lv_aload_n hx hb dX11_why_5 rfl (lv_at hl 0 rfl) ?_
  refine lv_iload_n hx hb dX11_why_6 rfl (lv_at hl 1 rfl) ?_
  refine clVi (As := [.int x1]) (rest := []) (Wr := [((rM 29), .inl (cy 0, 400, .inl M_whys))]) (cq := (RX11, TX11, 56)) ⟨hx, hb, hml, hown, hts⟩ ⟨callB_of 1 hts (goodC mw1476) rfl rfl rfl (hts _ (tb mw15)) (hts _ (tb mw1473)) kdX11_isWalker ⟨Nat.le_trans (by decide) hRf, Nat.le_trans (by decide) hRl⟩, hts _ (tb mw1475), hts _ (tb ms59)⟩ (ctX11_isWalker l D cy ev h0 rM (upd sM 2 (0 : Int32)) M_told x1 _ _ h) hE hK hP hD hS hA [0, 1] [2] rfl rfl (by decide) (by decide) (by decide) 0 rfl rfl rfl hl.1 rfl (Nat.le_of_ble_eq_true rfl) ⟨Nat.zero_le _, Nat.zero_le _⟩ dX11_why_7 (fun r7 u H locs h hP hD hS => ?_)
  have hP : va_P D clsX [((rM 29), .inl (cy 0, 400, .inl M_whys)), (h0, .inr (11, oX11 rM (upd sM 2 (0 : Int32)))), ((rM 3), .inl (cy 0, 14, .inl M_told))] H := hP
  have hD : va_D A [((rM 29), .inl (cy 0, 400, .inl M_whys)), (h0, .inr (11, oX11 rM (upd sM 2 (0 : Int32)))), ((rM 3), .inl (cy 0, 14, .inl M_told))] := hD
  refine lv_if_eq (tgt := 40) hx hb dX11_why_10 (by decide) (fun c10 => ?_) (fun c10 => ?_)
  · have h := h.1 c10
    exact J40 (upd sM 2 (0 : Int32)) _ _ _ h (hP.sub [1, 2, 0] rfl) (hD.sub [1, 2, 0] (by decide) rfl) hS (lv_sub hl [0] rfl)
  · have h := h.2 c10
    refine lv_iload_n hx hb dX11_why_13 rfl (lv_at hl 2 rfl) ?_
    refine lv_iconst (v := (0 : Int32)) hx hb dX11_why_14 (by decide) ?_
    refine lv_aload_n hx hb dX11_why_15 rfl (lv_at hl 0 rfl) ?_
    refine gfX11_270 (v := (sM 30)) hx hb hts hown hK hP 1 rfl rfl dX11_why_16 ?_
    refine lv_iconst (v := (1 : Int32)) hx hb dX11_why_19 (by decide) ?_
    refine lv_isub hx hb dX11_why_20 ?_
    refine clSi (As := [.int x2, .int (0 : Int32), .int ((sM 30) - (1 : Int32))]) (rest := []) (Wr := [((rM 29), .inl (cy 0, 400, .inl M_whys)), (h0, .inr (11, oX11 rM (upd sM 2 (0 : Int32)))), ((rM 3), .inl (cy 0, 14, .inl M_told))]) ⟨hx, hb, hml, hown, hts⟩ ⟨callB_of 3 hts (goodC mw1456) rfl rfl rfl (hts _ (tb mw15)) (hts _ (tb mw1454)) kdX11_isIn ⟨Nat.le_trans (by decide) hRf, Nat.le_trans (by decide) hRl⟩, hts _ (tb mw1455)⟩ (ctX11_isIn l D cy ev  x2 (0 : Int32) ((sM 30) - (1 : Int32)) _ _ h) hE hK hP hD hS hA [] [0, 1, 2] rfl rfl (by decide) (by decide) (by decide) rfl hl.1 rfl (Nat.le_of_ble_eq_true rfl) ⟨Nat.zero_le _, Nat.zero_le _⟩ dX11_why_21 (fun r21 u H locs h hP hD hS => ?_)
    have hP : va_P D clsX [((rM 29), .inl (cy 0, 400, .inl M_whys)), (h0, .inr (11, oX11 rM (upd sM 2 (0 : Int32)))), ((rM 3), .inl (cy 0, 14, .inl M_told))] H := hP
    have hD : va_D A [((rM 29), .inl (cy 0, 400, .inl M_whys)), (h0, .inr (11, oX11 rM (upd sM 2 (0 : Int32)))), ((rM 3), .inl (cy 0, 14, .inl M_told))] := hD
    refine lv_if_eq (tgt := 40) hx hb dX11_why_24 (by decide) (fun c24 => ?_) (fun c24 => ?_)
    · have h := h.1 c24
      exact J40 (upd sM 2 (0 : Int32)) _ _ _ h (hP.sub [1, 2, 0] rfl) (hD.sub [1, 2, 0] (by decide) rfl) hS (lv_sub hl [0] rfl)
    · have h := h.2 c24
      refine lv_aload_n hx hb dX11_why_27 rfl (lv_at hl 0 rfl) ?_
      refine gfX11_84 hx hb hts hown hK hP 1 rfl dX11_why_28 ?_
      refine lv_iconst (v := (4 : Int32)) hx hb dX11_why_31 (by decide) ?_
      refine lv_iload_n hx hb dX11_why_32 rfl (lv_at hl 2 rfl) ?_
      refine lv_imul hx hb dX11_why_33 ?_
      refine lv_iload_n hx hb dX11_why_34 rfl (lv_at hl 1 rfl) ?_
      refine lv_iadd hx hb dX11_why_35 ?_
      obtain ⟨hin, h⟩ := h
      refine ldi (k := (((4 : Int32) * x2) + x1).toNatClampNeg) hx hb hK hP 0 rfl hin rfl dX11_why_36 ?_
      refine lv_goto (tgt := 45) hx hb dX11_why_37 (by decide) ?_
      exact hret (M_whys (((4 : Int32) * x2) + x1).toNatClampNeg) ((upd sM 2 (0 : Int32))) _ _ _ _ rfl dX11_why_45 h (hP.sub [1, 2, 0] rfl) (hD.sub [1, 2, 0] (by decide) rfl) hS
