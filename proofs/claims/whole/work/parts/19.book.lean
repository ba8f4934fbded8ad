theorem dX5_put_0 : decode cX5_put 0 = .ok (.aload_n 0, 1) := by decide +kernel
theorem dX5_put_1 : decode cX5_put 1 = .ok (.getfield 25, 3) := by decide +kernel
theorem dX5_put_4 : decode cX5_put 4 = .ok (.sipush 200, 3) := by decide +kernel
theorem dX5_put_7 : decode cX5_put 7 = .ok (.if_icmp .ge 23, 3) := by decide +kernel
theorem dX5_put_10 : decode cX5_put 10 = .ok (.aload_n 0, 1) := by decide +kernel
theorem dX5_put_11 : decode cX5_put 11 = .ok (.getfield 18, 3) := by decide +kernel
theorem dX5_put_14 : decode cX5_put 14 = .ok (.aload_n 0, 1) := by decide +kernel
theorem dX5_put_15 : decode cX5_put 15 = .ok (.getfield 25, 3) := by decide +kernel
theorem dX5_put_18 : decode cX5_put 18 = .ok (.iload_n 1, 1) := by decide +kernel
theorem dX5_put_19 : decode cX5_put 19 = .ok (.iastore, 1) := by decide +kernel
theorem dX5_put_20 : decode cX5_put 20 = .ok (.aload_n 0, 1) := by decide +kernel
theorem dX5_put_21 : decode cX5_put 21 = .ok (.dup, 1) := by decide +kernel
theorem dX5_put_22 : decode cX5_put 22 = .ok (.getfield 25, 3) := by decide +kernel
theorem dX5_put_25 : decode cX5_put 25 = .ok (.iconst 1, 1) := by decide +kernel
theorem dX5_put_26 : decode cX5_put 26 = .ok (.iadd, 1) := by decide +kernel
theorem dX5_put_27 : decode cX5_put 27 = .ok (.putfield 25, 3) := by decide +kernel
theorem dX5_put_30 : decode cX5_put 30 = .ok (.return_, 1) := by decide +kernel
theorem dX5_closeAgain_0 : decode cX5_closeAgain 0 = .ok (.aload_n 0, 1) := by decide +kernel
theorem dX5_closeAgain_1 : decode cX5_closeAgain 1 = .ok (.getfield 21, 3) := by decide +kernel
theorem dX5_closeAgain_4 : decode cX5_closeAgain 4 = .ok (.invokevirtual 66, 3) := by decide +kernel
theorem dX5_closeAgain_7 : decode cX5_closeAgain 7 = .ok (.aload_n 0, 1) := by decide +kernel
theorem dX5_closeAgain_8 : decode cX5_closeAgain 8 = .ok (.dup, 1) := by decide +kernel
theorem dX5_closeAgain_9 : decode cX5_closeAgain 9 = .ok (.getfield 29, 3) := by decide +kernel
theorem dX5_closeAgain_12 : decode cX5_closeAgain 12 = .ok (.iconst 1, 1) := by decide +kernel
theorem dX5_closeAgain_13 : decode cX5_closeAgain 13 = .ok (.isub, 1) := by decide +kernel
theorem dX5_closeAgain_14 : decode cX5_closeAgain 14 = .ok (.putfield 29, 3) := by decide +kernel
theorem dX5_closeAgain_17 : decode cX5_closeAgain 17 = .ok (.aload_n 0, 1) := by decide +kernel
theorem dX5_closeAgain_18 : decode cX5_closeAgain 18 = .ok (.getfield 11, 3) := by decide +kernel
theorem dX5_closeAgain_21 : decode cX5_closeAgain 21 = .ok (.aload_n 0, 1) := by decide +kernel
theorem dX5_closeAgain_22 : decode cX5_closeAgain 22 = .ok (.getfield 29, 3) := by decide +kernel
theorem dX5_closeAgain_25 : decode cX5_closeAgain 25 = .ok (.iaload, 1) := by decide +kernel
theorem dX5_closeAgain_26 : decode cX5_closeAgain 26 = .ok (.istore_n 1, 1) := by decide +kernel
theorem dX5_closeAgain_27 : decode cX5_closeAgain 27 = .ok (.aload_n 0, 1) := by decide +kernel
theorem dX5_closeAgain_28 : decode cX5_closeAgain 28 = .ok (.getfield 25, 3) := by decide +kernel
theorem dX5_closeAgain_31 : decode cX5_closeAgain 31 = .ok (.istore_n 2, 1) := by decide +kernel
theorem dX5_closeAgain_32 : decode cX5_closeAgain 32 = .ok (.iconst 1, 1) := by decide +kernel
theorem dX5_closeAgain_33 : decode cX5_closeAgain 33 = .ok (.istore_n 3, 1) := by decide +kernel
theorem dX5_closeAgain_34 : decode cX5_closeAgain 34 = .ok (.iload_n 3, 1) := by decide +kernel
theorem dX5_closeAgain_35 : decode cX5_closeAgain 35 = .ok (.aload_n 0, 1) := by decide +kernel
theorem dX5_closeAgain_36 : decode cX5_closeAgain 36 = .ok (.getfield 15, 3) := by decide +kernel
theorem dX5_closeAgain_39 : decode cX5_closeAgain 39 = .ok (.aload_n 0, 1) := by decide +kernel
theorem dX5_closeAgain_40 : decode cX5_closeAgain 40 = .ok (.getfield 29, 3) := by decide +kernel
theorem dX5_closeAgain_43 : decode cX5_closeAgain 43 = .ok (.iaload, 1) := by decide +kernel
theorem dX5_closeAgain_44 : decode cX5_closeAgain 44 = .ok (.if_icmp .ge 35, 3) := by decide +kernel
theorem dX5_closeAgain_47 : decode cX5_closeAgain 47 = .ok (.iload_n 1, 1) := by decide +kernel
theorem dX5_closeAgain_48 : decode cX5_closeAgain 48 = .ok (.istore 4, 2) := by decide +kernel
theorem dX5_closeAgain_50 : decode cX5_closeAgain 50 = .ok (.iload 4, 2) := by decide +kernel
theorem dX5_closeAgain_52 : decode cX5_closeAgain 52 = .ok (.iload_n 2, 1) := by decide +kernel
theorem dX5_closeAgain_53 : decode cX5_closeAgain 53 = .ok (.if_icmp .ge 20, 3) := by decide +kernel
theorem dX5_closeAgain_56 : decode cX5_closeAgain 56 = .ok (.aload_n 0, 1) := by decide +kernel
theorem dX5_closeAgain_57 : decode cX5_closeAgain 57 = .ok (.aload_n 0, 1) := by decide +kernel
theorem dX5_closeAgain_58 : decode cX5_closeAgain 58 = .ok (.getfield 18, 3) := by decide +kernel
theorem dX5_closeAgain_61 : decode cX5_closeAgain 61 = .ok (.iload 4, 2) := by decide +kernel
theorem dX5_closeAgain_63 : decode cX5_closeAgain 63 = .ok (.iaload, 1) := by decide +kernel
theorem dX5_closeAgain_64 : decode cX5_closeAgain 64 = .ok (.invokevirtual 79, 3) := by decide +kernel
theorem dX5_closeAgain_67 : decode cX5_closeAgain 67 = .ok (.iinc 4 1, 3) := by decide +kernel
theorem dX5_closeAgain_70 : decode cX5_closeAgain 70 = .ok (.goto (-20), 3) := by decide +kernel
theorem dX5_closeAgain_73 : decode cX5_closeAgain 73 = .ok (.iinc 3 1, 3) := by decide +kernel
theorem dX5_closeAgain_76 : decode cX5_closeAgain 76 = .ok (.goto (-42), 3) := by decide +kernel
theorem dX5_closeAgain_79 : decode cX5_closeAgain 79 = .ok (.return_, 1) := by decide +kernel
theorem dX5_openAgain_0 : decode cX5_openAgain 0 = .ok (.aload_n 0, 1) := by decide +kernel
theorem dX5_openAgain_1 : decode cX5_openAgain 1 = .ok (.getfield 29, 3) := by decide +kernel
theorem dX5_openAgain_4 : decode cX5_openAgain 4 = .ok (.iconst 3, 1) := by decide +kernel
theorem dX5_openAgain_5 : decode cX5_openAgain 5 = .ok (.if_icmp .lt 12, 3) := by decide +kernel
theorem dX5_openAgain_8 : decode cX5_openAgain 8 = .ok (.aload_n 0, 1) := by decide +kernel
theorem dX5_openAgain_9 : decode cX5_openAgain 9 = .ok (.getfield 21, 3) := by decide +kernel
theorem dX5_openAgain_12 : decode cX5_openAgain 12 = .ok (.iconst 2, 1) := by decide +kernel
theorem dX5_openAgain_13 : decode cX5_openAgain 13 = .ok (.invokevirtual 41, 3) := by decide +kernel
theorem dX5_openAgain_16 : decode cX5_openAgain 16 = .ok (.ireturn, 1) := by decide +kernel
theorem dX5_openAgain_17 : decode cX5_openAgain 17 = .ok (.aload_n 0, 1) := by decide +kernel
theorem dX5_openAgain_18 : decode cX5_openAgain 18 = .ok (.getfield 21, 3) := by decide +kernel
theorem dX5_openAgain_21 : decode cX5_openAgain 21 = .ok (.invokevirtual 66, 3) := by decide +kernel
theorem dX5_openAgain_24 : decode cX5_openAgain 24 = .ok (.aload_n 0, 1) := by decide +kernel
theorem dX5_openAgain_25 : decode cX5_openAgain 25 = .ok (.getfield 21, 3) := by decide +kernel
theorem dX5_openAgain_28 : decode cX5_openAgain 28 = .ok (.iconst 1, 1) := by decide +kernel
theorem dX5_openAgain_29 : decode cX5_openAgain 29 = .ok (.bipush 20, 2) := by decide +kernel
theorem dX5_openAgain_31 : decode cX5_openAgain 31 = .ok (.invokevirtual 69, 3) := by decide +kernel
theorem dX5_openAgain_34 : decode cX5_openAgain 34 = .ok (.istore_n 1, 1) := by decide +kernel
theorem dX5_openAgain_35 : decode cX5_openAgain 35 = .ok (.iload_n 1, 1) := by decide +kernel
theorem dX5_openAgain_36 : decode cX5_openAgain 36 = .ok (.iconst (-1), 1) := by decide +kernel
theorem dX5_openAgain_37 : decode cX5_openAgain 37 = .ok (.if_icmp .eq 15, 3) := by decide +kernel
theorem dX5_openAgain_40 : decode cX5_openAgain 40 = .ok (.aload_n 0, 1) := by decide +kernel
theorem dX5_openAgain_41 : decode cX5_openAgain 41 = .ok (.getfield 21, 3) := by decide +kernel
theorem dX5_openAgain_44 : decode cX5_openAgain 44 = .ok (.bipush 123, 2) := by decide +kernel
theorem dX5_openAgain_46 : decode cX5_openAgain 46 = .ok (.invokevirtual 76, 3) := by decide +kernel
theorem dX5_openAgain_49 : decode cX5_openAgain 49 = .ok (.ifCond .ne 5, 3) := by decide +kernel
theorem dX5_openAgain_52 : decode cX5_openAgain 52 = .ok (.iconst 0, 1) := by decide +kernel
theorem dX5_openAgain_53 : decode cX5_openAgain 53 = .ok (.ireturn, 1) := by decide +kernel
theorem dX5_openAgain_54 : decode cX5_openAgain 54 = .ok (.aload_n 0, 1) := by decide +kernel
theorem dX5_openAgain_55 : decode cX5_openAgain 55 = .ok (.getfield 11, 3) := by decide +kernel
theorem dX5_openAgain_58 : decode cX5_openAgain 58 = .ok (.aload_n 0, 1) := by decide +kernel
theorem dX5_openAgain_59 : decode cX5_openAgain 59 = .ok (.getfield 29, 3) := by decide +kernel
theorem dX5_openAgain_62 : decode cX5_openAgain 62 = .ok (.aload_n 0, 1) := by decide +kernel
theorem dX5_openAgain_63 : decode cX5_openAgain 63 = .ok (.getfield 25, 3) := by decide +kernel
theorem dX5_openAgain_66 : decode cX5_openAgain 66 = .ok (.iastore, 1) := by decide +kernel
theorem dX5_openAgain_67 : decode cX5_openAgain 67 = .ok (.aload_n 0, 1) := by decide +kernel
theorem dX5_openAgain_68 : decode cX5_openAgain 68 = .ok (.getfield 15, 3) := by decide +kernel
theorem dX5_openAgain_71 : decode cX5_openAgain 71 = .ok (.aload_n 0, 1) := by decide +kernel
theorem dX5_openAgain_72 : decode cX5_openAgain 72 = .ok (.getfield 29, 3) := by decide +kernel
theorem dX5_openAgain_75 : decode cX5_openAgain 75 = .ok (.iload_n 1, 1) := by decide +kernel
theorem dX5_openAgain_76 : decode cX5_openAgain 76 = .ok (.iastore, 1) := by decide +kernel
theorem dX5_openAgain_77 : decode cX5_openAgain 77 = .ok (.aload_n 0, 1) := by decide +kernel
theorem dX5_openAgain_78 : decode cX5_openAgain 78 = .ok (.dup, 1) := by decide +kernel
theorem dX5_openAgain_79 : decode cX5_openAgain 79 = .ok (.getfield 29, 3) := by decide +kernel
theorem dX5_openAgain_82 : decode cX5_openAgain 82 = .ok (.iconst 1, 1) := by decide +kernel
theorem dX5_openAgain_83 : decode cX5_openAgain 83 = .ok (.iadd, 1) := by decide +kernel
theorem dX5_openAgain_84 : decode cX5_openAgain 84 = .ok (.putfield 29, 3) := by decide +kernel
theorem dX5_openAgain_87 : decode cX5_openAgain 87 = .ok (.iconst 1, 1) := by decide +kernel
theorem dX5_openAgain_88 : decode cX5_openAgain 88 = .ok (.ireturn, 1) := by decide +kernel
theorem dX5_readRing_0 : decode cX5_readRing 0 = .ok (.aload_n 0, 1) := by decide +kernel
theorem dX5_readRing_1 : decode cX5_readRing 1 = .ok (.getfield 21, 3) := by decide +kernel
theorem dX5_readRing_4 : decode cX5_readRing 4 = .ok (.invokevirtual 66, 3) := by decide +kernel
theorem dX5_readRing_7 : decode cX5_readRing 7 = .ok (.iconst 0, 1) := by decide +kernel
theorem dX5_readRing_8 : decode cX5_readRing 8 = .ok (.istore_n 2, 1) := by decide +kernel
theorem dX5_readRing_9 : decode cX5_readRing 9 = .ok (.iconst 0, 1) := by decide +kernel
theorem dX5_readRing_10 : decode cX5_readRing 10 = .ok (.istore_n 3, 1) := by decide +kernel
theorem dX5_readRing_11 : decode cX5_readRing 11 = .ok (.iload_n 3, 1) := by decide +kernel
theorem dX5_readRing_12 : decode cX5_readRing 12 = .ok (.sipush 500, 3) := by decide +kernel
theorem dX5_readRing_15 : decode cX5_readRing 15 = .ok (.if_icmp .gt 67, 3) := by decide +kernel
theorem dX5_readRing_18 : decode cX5_readRing 18 = .ok (.aload_n 0, 1) := by decide +kernel
theorem dX5_readRing_19 : decode cX5_readRing 19 = .ok (.getfield 21, 3) := by decide +kernel
theorem dX5_readRing_22 : decode cX5_readRing 22 = .ok (.getfield 32, 3) := by decide +kernel
theorem dX5_readRing_25 : decode cX5_readRing 25 = .ok (.iconst 2, 1) := by decide +kernel
theorem dX5_readRing_26 : decode cX5_readRing 26 = .ok (.if_icmp .ne 56, 3) := by decide +kernel
theorem dX5_readRing_29 : decode cX5_readRing 29 = .ok (.aload_n 0, 1) := by decide +kernel
theorem dX5_readRing_30 : decode cX5_readRing 30 = .ok (.getfield 21, 3) := by decide +kernel
theorem dX5_readRing_33 : decode cX5_readRing 33 = .ok (.iconst 0, 1) := by decide +kernel
theorem dX5_readRing_34 : decode cX5_readRing 34 = .ok (.iload_n 1, 1) := by decide +kernel
theorem dX5_readRing_35 : decode cX5_readRing 35 = .ok (.iconst 1, 1) := by decide +kernel
theorem dX5_readRing_36 : decode cX5_readRing 36 = .ok (.isub, 1) := by decide +kernel
theorem dX5_readRing_37 : decode cX5_readRing 37 = .ok (.invokevirtual 69, 3) := by decide +kernel
theorem dX5_readRing_40 : decode cX5_readRing 40 = .ok (.istore 4, 2) := by decide +kernel
theorem dX5_readRing_42 : decode cX5_readRing 42 = .ok (.iload 4, 2) := by decide +kernel
theorem dX5_readRing_44 : decode cX5_readRing 44 = .ok (.iconst (-1), 1) := by decide +kernel
theorem dX5_readRing_45 : decode cX5_readRing 45 = .ok (.if_icmp .ne 5, 3) := by decide +kernel
theorem dX5_readRing_48 : decode cX5_readRing 48 = .ok (.iconst 0, 1) := by decide +kernel
theorem dX5_readRing_49 : decode cX5_readRing 49 = .ok (.ireturn, 1) := by decide +kernel
theorem dX5_readRing_50 : decode cX5_readRing 50 = .ok (.iload_n 2, 1) := by decide +kernel
theorem dX5_readRing_51 : decode cX5_readRing 51 = .ok (.iload 4, 2) := by decide +kernel
theorem dX5_readRing_53 : decode cX5_readRing 53 = .ok (.ishr, 1) := by decide +kernel
theorem dX5_readRing_54 : decode cX5_readRing 54 = .ok (.iconst 1, 1) := by decide +kernel
theorem dX5_readRing_55 : decode cX5_readRing 55 = .ok (.iand, 1) := by decide +kernel
theorem dX5_readRing_56 : decode cX5_readRing 56 = .ok (.iconst 1, 1) := by decide +kernel
theorem dX5_readRing_57 : decode cX5_readRing 57 = .ok (.if_icmp .ne 12, 3) := by decide +kernel
theorem dX5_readRing_60 : decode cX5_readRing 60 = .ok (.aload_n 0, 1) := by decide +kernel
theorem dX5_readRing_61 : decode cX5_readRing 61 = .ok (.getfield 21, 3) := by decide +kernel
theorem dX5_readRing_64 : decode cX5_readRing 64 = .ok (.iconst 4, 1) := by decide +kernel
theorem dX5_readRing_65 : decode cX5_readRing 65 = .ok (.invokevirtual 73, 3) := by decide +kernel
theorem dX5_readRing_68 : decode cX5_readRing 68 = .ok (.ireturn, 1) := by decide +kernel
theorem dX5_readRing_69 : decode cX5_readRing 69 = .ok (.iload_n 2, 1) := by decide +kernel
theorem dX5_readRing_70 : decode cX5_readRing 70 = .ok (.iconst 1, 1) := by decide +kernel
theorem dX5_readRing_71 : decode cX5_readRing 71 = .ok (.iload 4, 2) := by decide +kernel
theorem dX5_readRing_73 : decode cX5_readRing 73 = .ok (.ishl, 1) := by decide +kernel
theorem dX5_readRing_74 : decode cX5_readRing 74 = .ok (.ior, 1) := by decide +kernel
theorem dX5_readRing_75 : decode cX5_readRing 75 = .ok (.istore_n 2, 1) := by decide +kernel
theorem dX5_readRing_76 : decode cX5_readRing 76 = .ok (.iinc 3 1, 3) := by decide +kernel
theorem dX5_readRing_79 : decode cX5_readRing 79 = .ok (.goto (-68), 3) := by decide +kernel
theorem dX5_readRing_82 : decode cX5_readRing 82 = .ok (.aload_n 0, 1) := by decide +kernel
theorem dX5_readRing_83 : decode cX5_readRing 83 = .ok (.getfield 21, 3) := by decide +kernel
theorem dX5_readRing_86 : decode cX5_readRing 86 = .ok (.bipush 59, 2) := by decide +kernel
theorem dX5_readRing_88 : decode cX5_readRing 88 = .ok (.invokevirtual 76, 3) := by decide +kernel
theorem dX5_readRing_91 : decode cX5_readRing 91 = .ok (.ifCond .ne 5, 3) := by decide +kernel
theorem dX5_readRing_94 : decode cX5_readRing 94 = .ok (.iconst 0, 1) := by decide +kernel
theorem dX5_readRing_95 : decode cX5_readRing 95 = .ok (.ireturn, 1) := by decide +kernel
theorem dX5_readRing_96 : decode cX5_readRing 96 = .ok (.aload_n 0, 1) := by decide +kernel
theorem dX5_readRing_97 : decode cX5_readRing 97 = .ok (.iload_n 2, 1) := by decide +kernel
theorem dX5_readRing_98 : decode cX5_readRing 98 = .ok (.invokevirtual 79, 3) := by decide +kernel
theorem dX5_readRing_101 : decode cX5_readRing 101 = .ok (.iconst 1, 1) := by decide +kernel
theorem dX5_readRing_102 : decode cX5_readRing 102 = .ok (.ireturn, 1) := by decide +kernel
theorem dX5_readPart_0 : decode cX5_readPart 0 = .ok (.aload_n 0, 1) := by decide +kernel
theorem dX5_readPart_1 : decode cX5_readPart 1 = .ok (.getfield 21, 3) := by decide +kernel
theorem dX5_readPart_4 : decode cX5_readPart 4 = .ok (.ldc 44, 2) := by decide +kernel
theorem dX5_readPart_6 : decode cX5_readPart 6 = .ok (.invokevirtual 46, 3) := by decide +kernel
theorem dX5_readPart_9 : decode cX5_readPart 9 = .ok (.ifCond .eq 9, 3) := by decide +kernel
theorem dX5_readPart_12 : decode cX5_readPart 12 = .ok (.aload_n 0, 1) := by decide +kernel
theorem dX5_readPart_13 : decode cX5_readPart 13 = .ok (.iload_n 1, 1) := by decide +kernel
theorem dX5_readPart_14 : decode cX5_readPart 14 = .ok (.invokevirtual 50, 3) := by decide +kernel
theorem dX5_readPart_17 : decode cX5_readPart 17 = .ok (.ireturn, 1) := by decide +kernel
theorem dX5_readPart_18 : decode cX5_readPart 18 = .ok (.aload_n 0, 1) := by decide +kernel
theorem dX5_readPart_19 : decode cX5_readPart 19 = .ok (.getfield 21, 3) := by decide +kernel
theorem dX5_readPart_22 : decode cX5_readPart 22 = .ok (.ldc 53, 2) := by decide +kernel
theorem dX5_readPart_24 : decode cX5_readPart 24 = .ok (.invokevirtual 46, 3) := by decide +kernel
theorem dX5_readPart_27 : decode cX5_readPart 27 = .ok (.ifCond .eq 8, 3) := by decide +kernel
theorem dX5_readPart_30 : decode cX5_readPart 30 = .ok (.aload_n 0, 1) := by decide +kernel
theorem dX5_readPart_31 : decode cX5_readPart 31 = .ok (.invokevirtual 55, 3) := by decide +kernel
theorem dX5_readPart_34 : decode cX5_readPart 34 = .ok (.ireturn, 1) := by decide +kernel
theorem dX5_readPart_35 : decode cX5_readPart 35 = .ok (.aload_n 0, 1) := by decide +kernel
theorem dX5_readPart_36 : decode cX5_readPart 36 = .ok (.getfield 29, 3) := by decide +kernel
theorem dX5_readPart_39 : decode cX5_readPart 39 = .ok (.ifCond .le 21, 3) := by decide +kernel
theorem dX5_readPart_42 : decode cX5_readPart 42 = .ok (.aload_n 0, 1) := by decide +kernel
theorem dX5_readPart_43 : decode cX5_readPart 43 = .ok (.getfield 21, 3) := by decide +kernel
theorem dX5_readPart_46 : decode cX5_readPart 46 = .ok (.bipush 125, 2) := by decide +kernel
theorem dX5_readPart_48 : decode cX5_readPart 48 = .ok (.invokevirtual 59, 3) := by decide +kernel
theorem dX5_readPart_51 : decode cX5_readPart 51 = .ok (.ifCond .eq 9, 3) := by decide +kernel
theorem dX5_readPart_54 : decode cX5_readPart 54 = .ok (.aload_n 0, 1) := by decide +kernel
theorem dX5_readPart_55 : decode cX5_readPart 55 = .ok (.invokevirtual 63, 3) := by decide +kernel
theorem dX5_readPart_58 : decode cX5_readPart 58 = .ok (.iconst 1, 1) := by decide +kernel
theorem dX5_readPart_59 : decode cX5_readPart 59 = .ok (.ireturn, 1) := by decide +kernel
theorem dX5_readPart_60 : decode cX5_readPart 60 = .ok (.aload_n 0, 1) := by decide +kernel
theorem dX5_readPart_61 : decode cX5_readPart 61 = .ok (.getfield 21, 3) := by decide +kernel
theorem dX5_readPart_64 : decode cX5_readPart 64 = .ok (.iconst 1, 1) := by decide +kernel
theorem dX5_readPart_65 : decode cX5_readPart 65 = .ok (.invokevirtual 41, 3) := by decide +kernel
theorem dX5_readPart_68 : decode cX5_readPart 68 = .ok (.ireturn, 1) := by decide +kernel
theorem dX5_read_0 : decode cX5_read 0 = .ok (.aload_n 0, 1) := by decide +kernel
theorem dX5_read_1 : decode cX5_read 1 = .ok (.iconst 0, 1) := by decide +kernel
theorem dX5_read_2 : decode cX5_read 2 = .ok (.putfield 25, 3) := by decide +kernel
theorem dX5_read_5 : decode cX5_read 5 = .ok (.aload_n 0, 1) := by decide +kernel
theorem dX5_read_6 : decode cX5_read 6 = .ok (.iconst 0, 1) := by decide +kernel
theorem dX5_read_7 : decode cX5_read 7 = .ok (.putfield 29, 3) := by decide +kernel
theorem dX5_read_10 : decode cX5_read 10 = .ok (.iconst 0, 1) := by decide +kernel
theorem dX5_read_11 : decode cX5_read 11 = .ok (.istore_n 2, 1) := by decide +kernel
theorem dX5_read_12 : decode cX5_read 12 = .ok (.iload_n 2, 1) := by decide +kernel
theorem dX5_read_13 : decode cX5_read 13 = .ok (.sipush 500, 3) := by decide +kernel
theorem dX5_read_16 : decode cX5_read 16 = .ok (.if_icmp .gt 29, 3) := by decide +kernel
theorem dX5_read_19 : decode cX5_read 19 = .ok (.aload_n 0, 1) := by decide +kernel
theorem dX5_read_20 : decode cX5_read 20 = .ok (.getfield 21, 3) := by decide +kernel
theorem dX5_read_23 : decode cX5_read 23 = .ok (.getfield 32, 3) := by decide +kernel
theorem dX5_read_26 : decode cX5_read 26 = .ok (.ifCond .eq 19, 3) := by decide +kernel
theorem dX5_read_29 : decode cX5_read 29 = .ok (.aload_n 0, 1) := by decide +kernel
theorem dX5_read_30 : decode cX5_read 30 = .ok (.iload_n 1, 1) := by decide +kernel
theorem dX5_read_31 : decode cX5_read 31 = .ok (.invokevirtual 37, 3) := by decide +kernel
theorem dX5_read_34 : decode cX5_read 34 = .ok (.ifCond .ne 5, 3) := by decide +kernel
theorem dX5_read_37 : decode cX5_read 37 = .ok (.iconst 0, 1) := by decide +kernel
theorem dX5_read_38 : decode cX5_read 38 = .ok (.ireturn, 1) := by decide +kernel
theorem dX5_read_39 : decode cX5_read 39 = .ok (.iinc 2 1, 3) := by decide +kernel
theorem dX5_read_42 : decode cX5_read 42 = .ok (.goto (-30), 3) := by decide +kernel
theorem dX5_read_45 : decode cX5_read 45 = .ok (.aload_n 0, 1) := by decide +kernel
theorem dX5_read_46 : decode cX5_read 46 = .ok (.getfield 29, 3) := by decide +kernel
theorem dX5_read_49 : decode cX5_read 49 = .ok (.ifCond .eq 14, 3) := by decide +kernel
theorem dX5_read_52 : decode cX5_read 52 = .ok (.aload_n 0, 1) := by decide +kernel
theorem dX5_read_53 : decode cX5_read 53 = .ok (.getfield 21, 3) := by decide +kernel
theorem dX5_read_56 : decode cX5_read 56 = .ok (.iconst 1, 1) := by decide +kernel
theorem dX5_read_57 : decode cX5_read 57 = .ok (.invokevirtual 41, 3) := by decide +kernel
theorem dX5_read_60 : decode cX5_read 60 = .ok (.ifCond .eq 7, 3) := by decide +kernel
theorem dX5_read_63 : decode cX5_read 63 = .ok (.iconst 1, 1) := by decide +kernel
theorem dX5_read_64 : decode cX5_read 64 = .ok (.goto 4, 3) := by decide +kernel
theorem dX5_read_67 : decode cX5_read 67 = .ok (.iconst 0, 1) := by decide +kernel
theorem dX5_read_68 : decode cX5_read 68 = .ok (.ireturn, 1) := by decide +kernel
theorem dX6_waysToRing_0 : decode cX6_waysToRing 0 = .ok (.iconst 0, 1) := by decide +kernel
theorem dX6_waysToRing_1 : decode cX6_waysToRing 1 = .ok (.istore_n 2, 1) := by decide +kernel
theorem dX6_waysToRing_2 : decode cX6_waysToRing 2 = .ok (.iconst 1, 1) := by decide +kernel
theorem dX6_waysToRing_3 : decode cX6_waysToRing 3 = .ok (.istore_n 3, 1) := by decide +kernel
theorem dX6_waysToRing_4 : decode cX6_waysToRing 4 = .ok (.iconst 0, 1) := by decide +kernel
theorem dX6_waysToRing_5 : decode cX6_waysToRing 5 = .ok (.istore 4, 2) := by decide +kernel
theorem dX6_waysToRing_7 : decode cX6_waysToRing 7 = .ok (.iload 4, 2) := by decide +kernel
theorem dX6_waysToRing_9 : decode cX6_waysToRing 9 = .ok (.iload_n 1, 1) := by decide +kernel
theorem dX6_waysToRing_10 : decode cX6_waysToRing 10 = .ok (.if_icmp .gt 31, 3) := by decide +kernel
theorem dX6_waysToRing_13 : decode cX6_waysToRing 13 = .ok (.iload 4, 2) := by decide +kernel
theorem dX6_waysToRing_15 : decode cX6_waysToRing 15 = .ok (.iload_n 0, 1) := by decide +kernel
theorem dX6_waysToRing_16 : decode cX6_waysToRing 16 = .ok (.if_icmp .gt 25, 3) := by decide +kernel
theorem dX6_waysToRing_19 : decode cX6_waysToRing 19 = .ok (.iload_n 2, 1) := by decide +kernel
theorem dX6_waysToRing_20 : decode cX6_waysToRing 20 = .ok (.iload_n 3, 1) := by decide +kernel
theorem dX6_waysToRing_21 : decode cX6_waysToRing 21 = .ok (.iadd, 1) := by decide +kernel
theorem dX6_waysToRing_22 : decode cX6_waysToRing 22 = .ok (.istore_n 2, 1) := by decide +kernel
theorem dX6_waysToRing_23 : decode cX6_waysToRing 23 = .ok (.iload_n 3, 1) := by decide +kernel
theorem dX6_waysToRing_24 : decode cX6_waysToRing 24 = .ok (.iload_n 1, 1) := by decide +kernel
theorem dX6_waysToRing_25 : decode cX6_waysToRing 25 = .ok (.iload 4, 2) := by decide +kernel
theorem dX6_waysToRing_27 : decode cX6_waysToRing 27 = .ok (.isub, 1) := by decide +kernel
theorem dX6_waysToRing_28 : decode cX6_waysToRing 28 = .ok (.imul, 1) := by decide +kernel
theorem dX6_waysToRing_29 : decode cX6_waysToRing 29 = .ok (.iload 4, 2) := by decide +kernel
theorem dX6_waysToRing_31 : decode cX6_waysToRing 31 = .ok (.iconst 1, 1) := by decide +kernel
theorem dX6_waysToRing_32 : decode cX6_waysToRing 32 = .ok (.iadd, 1) := by decide +kernel
theorem dX6_waysToRing_33 : decode cX6_waysToRing 33 = .ok (.idiv, 1) := by decide +kernel
theorem dX6_waysToRing_34 : decode cX6_waysToRing 34 = .ok (.istore_n 3, 1) := by decide +kernel
theorem dX6_waysToRing_35 : decode cX6_waysToRing 35 = .ok (.iinc 4 1, 3) := by decide +kernel
theorem dX6_waysToRing_38 : decode cX6_waysToRing 38 = .ok (.goto (-31), 3) := by decide +kernel
theorem dX6_waysToRing_41 : decode cX6_waysToRing 41 = .ok (.iload_n 2, 1) := by decide +kernel
theorem dX6_waysToRing_42 : decode cX6_waysToRing 42 = .ok (.ireturn, 1) := by decide +kernel
def wpX5_put (sB : AR) (B_sets : AR) (x1 : Int32) (post : AR → AR → Prop) : Prop := (((200 : Int32) ≤ (sB 5) → post sB B_sets) ∧ (¬ (200 : Int32) ≤ (sB 5) → vp_in (sB 5) 200 ∧ ∀ B_sets_19 : AR, B_sets_19 = upd B_sets (sB 5).toNatClampNeg x1 → ∀ f5_27 : Int32, f5_27 = ((sB 5) + (1 : Int32)) → post (upd sB 5 f5_27) B_sets_19))
set_option maxHeartbeats 4000000 in
set_option maxRecDepth 100000 in
theorem ctX5_put (l : Launch) (D : va_G) (cy : Nat → ClassId) (ev : Nat → Nat) (h0 : Nat) (rB : Nat → Nat) (sB : AR) (B_sets : AR) (x1 : Int32) (sz : Nat) (post : AR → AR → Prop) (h : wpX5_put sB B_sets x1 post) : Met l yX5_put (Cond.code yX5_put cX5_put 2 none :: TB) ({ frames := 0, cells := 0, slots := 0, locals := 0 }) (va_Pc [.ref h0, .int x1] (PreX D cy ev [(h0, .inr (5, oX5 rB sB)), ((rB 4), .inl (cy 0, 200, .inl B_sets))] sz)) (va_Qv (fun (u : AR × AR) => post (u.1) (u.2)) (fun u => BkX D cy [(h0, .inr (5, oX5 rB sB)), ((rB 4), .inl (cy 0, 200, .inl B_sets))] sz [(h0, .inr (5, oX5 rB (u.1))), ((rB 4), .inl (cy 0, 200, .inl (u.2)))]) (va_A [(h0, .inr (5, oX5 rB sB)), ((rB 4), .inl (cy 0, 200, .inl B_sets))] sz)) 0 0 (va_A [(h0, .inr (5, oX5 rB sB)), ((rB 4), .inl (cy 0, 200, .inl B_sets))] sz) := by
  refine ofWv (by decide) (Nat.le_of_ble_eq_true rfl) ?_
  intro p e s m args below meth c ls A R QQ hx hb hml hown hts hR hlk hE hK hP hD hS hA hl hret
  have hown : s.vm.findClass RX5 = some m.cls := hown
  have hRf : 0 ≤ R.frames := by rw [hR]; exact Nat.le_refl _
  have hRl : 0 ≤ R.locals := by rw [hR]; exact Nat.le_refl _
  clear hR
  have hl : lv_has ls 2 [(0, .ref h0), (1, .int x1)] := hl
  refine lv_aload_n hx hb dX5_put_0 rfl (lv_at hl 0 rfl) ?_
  refine gfX5_25 (v := (sB 5)) hx hb hts hown hK hP 0 rfl rfl dX5_put_1 ?_
  refine lv_sipush (v := (200 : Int32)) hx hb dX5_put_4 (by decide) ?_
  refine lv_icmp_ge (tgt := 30) hx hb dX5_put_7 (by decide) (fun c7 => ?_) (fun c7 => ?_)
  · have h := h.1 c7
    exact hret (sB, B_sets) _ _ _ _ dX5_put_30 h hP hD hS
  · have h := h.2 c7
    refine lv_aload_n hx hb dX5_put_10 rfl (lv_at hl 0 rfl) ?_
    refine gfX5_18 hx hb hts hown hK hP 0 rfl dX5_put_11 ?_
    refine lv_aload_n hx hb dX5_put_14 rfl (lv_at hl 0 rfl) ?_
    refine gfX5_25 (v := (sB 5)) hx hb hts hown hK hP 0 rfl rfl dX5_put_15 ?_
    refine lv_iload_n hx hb dX5_put_18 rfl (lv_at hl 1 rfl) ?_
    obtain ⟨hin, h⟩ := h
    refine sti (k := (sB 5).toNatClampNeg) (y := x1) hx hb hK hP hD hS 1 rfl hin rfl rfl dX5_put_19 (fun B_sets_19 eB_sets_19 H locs hP hD hS => ?_)
    have h := h B_sets_19 eB_sets_19
    have hP : va_P D clsX [(h0, .inr (5, oX5 rB sB)), ((rB 4), .inl (cy 0, 200, .inl B_sets_19))] H := hP
    have hD : va_D A [(h0, .inr (5, oX5 rB sB)), ((rB 4), .inl (cy 0, 200, .inl B_sets_19))] := hD
    refine lv_aload_n hx hb dX5_put_20 rfl (lv_at hl 0 rfl) ?_
    refine lv_dup hx hb dX5_put_21 rfl ?_
    refine gfX5_25 (v := (sB 5)) hx hb hts hown hK hP 0 rfl rfl dX5_put_22 ?_
    refine lv_iconst (v := (1 : Int32)) hx hb dX5_put_25 (by decide) ?_
    refine lv_iadd hx hb dX5_put_26 ?_
    refine lv_topi (fun f5_27 ef5_27 => ?_)
    have h := h f5_27 ef5_27
    refine pfX5_25 hx hb hts hown hK hP hD hS 0 rfl dX5_put_27 (fun H locs hP hD hS => ?_)
    have hP : va_P D clsX [(h0, .inr (5, oX5 rB (upd sB 5 f5_27))), ((rB 4), .inl (cy 0, 200, .inl B_sets_19))] H := hP
    have hD : va_D A [(h0, .inr (5, oX5 rB (upd sB 5 f5_27))), ((rB 4), .inl (cy 0, 200, .inl B_sets_19))] := hD
    exact hret ((upd sB 5 f5_27), B_sets_19) _ _ _ _ dX5_put_30 h hP hD hS
def wpX5_closeAgain_L50 (sR : AR) (B_begins : AR) (B_times : AR) (R_text : AR) (l1 : Int32) (l2 : Int32) (l3 : Int32) (kx73 : AR → AR → Int32 → Prop) (post : AR → AR → AR → Prop) : Nat → AR → AR → Int32 → Prop
  | 0, _, _, _ => False
  | nf50 + 1, sB, B_sets, l4 => ((l2 ≤ l4 → kx73 sB B_sets l4) ∧ (¬ l2 ≤ l4 → vp_in l4 200 ∧ wpX5_put sB B_sets (B_sets l4.toNatClampNeg) (fun sB_64 B_sets_64 => ∀ l4_67 : Int32, l4_67 = (l4 + (1 : Int32)) → wpX5_closeAgain_L50 sR B_begins B_times R_text l1 l2 l3 kx73 post nf50 sB_64 B_sets_64 l4_67)))
def wpX5_closeAgain_L34 (sR : AR) (B_begins : AR) (B_times : AR) (R_text : AR) (l1 : Int32) (l2 : Int32) (kx79 : AR → AR → Int32 → Prop) (post : AR → AR → AR → Prop) : Nat → AR → AR → Int32 → Prop
  | 0, _, _, _ => False
  | nf34 + 1, sB, B_sets, l3 => vp_in (sB 3) 3 ∧ (((B_times (sB 3).toNatClampNeg) ≤ l3 → kx79 sB B_sets l3) ∧ (¬ (B_times (sB 3).toNatClampNeg) ≤ l3 → ∃ nf50 : Nat, wpX5_closeAgain_L50 sR B_begins B_times R_text l1 l2 l3 (fun sB_73 B_sets_73 l4_73 => ∀ l3_73 : Int32, l3_73 = (l3 + (1 : Int32)) → wpX5_closeAgain_L34 sR B_begins B_times R_text l1 l2 kx79 post nf34 sB_73 B_sets_73 l3_73) post nf50 sB B_sets l1))
def wpX5_closeAgain (sB : AR) (sR : AR) (B_begins : AR) (B_times : AR) (B_sets : AR) (R_text : AR) (post : AR → AR → AR → Prop) : Prop := wpX8_advance sR R_text (fun sR_4 => ∀ f3_14 : Int32, f3_14 = ((sB 3) - (1 : Int32)) → vp_in f3_14 3 ∧ ∀ l1_26 : Int32, l1_26 = (B_begins f3_14.toNatClampNeg) → ∀ l2_31 : Int32, l2_31 = (sB 5) → ∃ nf34 : Nat, wpX5_closeAgain_L34 sR_4 B_begins B_times R_text l1_26 l2_31 (fun sB_79 B_sets_79 l3_79 => post sB_79 sR_4 B_sets_79) post nf34 (upd sB 3 f3_14) B_sets (1 : Int32))
set_option maxHeartbeats 4000000 in
set_option maxRecDepth 100000 in
theorem ctX5_closeAgain (l : Launch) (D : va_G) (cy : Nat → ClassId) (ev : Nat → Nat) (h0 : Nat) (rB : Nat → Nat) (rR : Nat → Nat) (sB : AR) (sR : AR) (B_begins : AR) (B_times : AR) (B_sets : AR) (R_text : AR) (sz : Nat) (post : AR → AR → AR → Prop) (h : wpX5_closeAgain sB sR B_begins B_times B_sets R_text post) : Met l yX5_closeAgain (Cond.code yX5_closeAgain cX5_closeAgain 5 none :: TB) ({ frames := 1, cells := 0, slots := 0, locals := 21 }) (va_Pc [.ref h0] (PreX D cy ev [(h0, .inr (5, oX5 rB sB)), ((rB 0), .inr (8, oX8 rR sR)), ((rB 1), .inl (cy 0, 3, .inl B_begins)), ((rB 2), .inl (cy 0, 3, .inl B_times)), ((rB 4), .inl (cy 0, 200, .inl B_sets)), ((rR 0), .inl (cy 1, 500, .inl R_text))] sz)) (va_Qv (fun (u : AR × AR × AR) => post (u.1) (u.2.1) (u.2.2)) (fun u => BkX D cy [(h0, .inr (5, oX5 rB sB)), ((rB 0), .inr (8, oX8 rR sR)), ((rB 1), .inl (cy 0, 3, .inl B_begins)), ((rB 2), .inl (cy 0, 3, .inl B_times)), ((rB 4), .inl (cy 0, 200, .inl B_sets)), ((rR 0), .inl (cy 1, 500, .inl R_text))] sz [(h0, .inr (5, oX5 rB (u.1))), ((rB 0), .inr (8, oX8 rR (u.2.1))), ((rB 1), .inl (cy 0, 3, .inl B_begins)), ((rB 2), .inl (cy 0, 3, .inl B_times)), ((rB 4), .inl (cy 0, 200, .inl (u.2.2))), ((rR 0), .inl (cy 1, 500, .inl R_text))]) (va_A [(h0, .inr (5, oX5 rB sB)), ((rB 0), .inr (8, oX8 rR sR)), ((rB 1), .inl (cy 0, 3, .inl B_begins)), ((rB 2), .inl (cy 0, 3, .inl B_times)), ((rB 4), .inl (cy 0, 200, .inl B_sets)), ((rR 0), .inl (cy 1, 500, .inl R_text))] sz)) 0 0 (va_A [(h0, .inr (5, oX5 rB sB)), ((rB 0), .inr (8, oX8 rR sR)), ((rB 1), .inl (cy 0, 3, .inl B_begins)), ((rB 2), .inl (cy 0, 3, .inl B_times)), ((rB 4), .inl (cy 0, 200, .inl B_sets)), ((rR 0), .inl (cy 1, 500, .inl R_text))] sz) := by
  refine ofWv (by decide) (Nat.le_of_ble_eq_true rfl) ?_
  intro p e s m args below meth c ls A R QQ hx hb hml hown hts hR hlk hE hK hP hD hS hA hl hret
  have hown : s.vm.findClass RX5 = some m.cls := hown
  have hRf : 1 ≤ R.frames := by rw [hR]; exact Nat.le_refl _
  have hRl : 21 ≤ R.locals := by rw [hR]; exact Nat.le_refl _
  clear hR
  have hl : lv_has ls 5 [(0, .ref h0)] := hl
  have L34 : ∀ (sR : AR) (l1 : Int32) (l2 : Int32) (kx79 : AR → AR → Int32 → Prop), (∀ (sB : AR) (B_sets : AR) (l3 : Int32) (H : Heap) (locs : List Loc) (ls : Array Slot), kx79 sB B_sets l3 → va_P D clsX [(h0, .inr (5, oX5 rB sB)), ((rB 0), .inr (8, oX8 rR sR)), ((rB 1), .inl (cy 0, 3, .inl B_begins)), ((rB 2), .inl (cy 0, 3, .inl B_times)), ((rB 4), .inl (cy 0, 200, .inl B_sets)), ((rR 0), .inl (cy 1, 500, .inl R_text))] H → va_D A [(h0, .inr (5, oX5 rB sB)), ((rB 0), .inr (8, oX8 rR sR)), ((rB 1), .inl (cy 0, 3, .inl B_begins)), ((rB 2), .inl (cy 0, 3, .inl B_times)), ((rB 4), .inl (cy 0, 200, .inl B_sets)), ((rR 0), .inl (cy 1, 500, .inl R_text))] → va_S A s.heap H locs → lv_has ls 5 [(0, .ref h0)] → W p l e R s m args below meth c H locs 0 0 QQ (F0 m 79 ls [])) → ∀ (nf34 : Nat) (sB : AR) (B_sets : AR) (l3 : Int32) (H : Heap) (locs : List Loc) (ls : Array Slot), wpX5_closeAgain_L34 sR B_begins B_times R_text l1 l2 kx79 post nf34 sB B_sets l3 → va_P D clsX [(h0, .inr (5, oX5 rB sB)), ((rB 0), .inr (8, oX8 rR sR)), ((rB 1), .inl (cy 0, 3, .inl B_begins)), ((rB 2), .inl (cy 0, 3, .inl B_times)), ((rB 4), .inl (cy 0, 200, .inl B_sets)), ((rR 0), .inl (cy 1, 500, .inl R_text))] H → va_D A [(h0, .inr (5, oX5 rB sB)), ((rB 0), .inr (8, oX8 rR sR)), ((rB 1), .inl (cy 0, 3, .inl B_begins)), ((rB 2), .inl (cy 0, 3, .inl B_times)), ((rB 4), .inl (cy 0, 200, .inl B_sets)), ((rR 0), .inl (cy 1, 500, .inl R_text))] → va_S A s.heap H locs → lv_has ls 5 [(0, .ref h0), (1, .int l1), (2, .int l2), (3, .int l3)] → W p l e R s m args below meth c H locs 0 0 QQ (F0 m 34 ls []) := by
    intro sR l1 l2 kx79 hk34_79 nf34
    induction nf34 with
    | zero =>
      intro sB B_sets l3 H locs ls h
      exact (show False from h).elim
    | succ nf34 ih34 =>
      intro sB B_sets l3 H locs ls h hP hD hS hl
      have L50 : ∀ (sR : AR) (l1 : Int32) (l2 : Int32) (l3 : Int32) (kx73 : AR → AR → Int32 → Prop), (∀ (sB : AR) (B_sets : AR) (l4 : Int32) (H : Heap) (locs : List Loc) (ls : Array Slot), kx73 sB B_sets l4 → va_P D clsX [(h0, .inr (5, oX5 rB sB)), ((rB 0), .inr (8, oX8 rR sR)), ((rB 1), .inl (cy 0, 3, .inl B_begins)), ((rB 2), .inl (cy 0, 3, .inl B_times)), ((rB 4), .inl (cy 0, 200, .inl B_sets)), ((rR 0), .inl (cy 1, 500, .inl R_text))] H → va_D A [(h0, .inr (5, oX5 rB sB)), ((rB 0), .inr (8, oX8 rR sR)), ((rB 1), .inl (cy 0, 3, .inl B_begins)), ((rB 2), .inl (cy 0, 3, .inl B_times)), ((rB 4), .inl (cy 0, 200, .inl B_sets)), ((rR 0), .inl (cy 1, 500, .inl R_text))] → va_S A s.heap H locs → lv_has ls 5 [(0, .ref h0), (1, .int l1), (2, .int l2), (3, .int l3)] → W p l e R s m args below meth c H locs 0 0 QQ (F0 m 73 ls [])) → ∀ (nf50 : Nat) (sB : AR) (B_sets : AR) (l4 : Int32) (H : Heap) (locs : List Loc) (ls : Array Slot), wpX5_closeAgain_L50 sR B_begins B_times R_text l1 l2 l3 kx73 post nf50 sB B_sets l4 → va_P D clsX [(h0, .inr (5, oX5 rB sB)), ((rB 0), .inr (8, oX8 rR sR)), ((rB 1), .inl (cy 0, 3, .inl B_begins)), ((rB 2), .inl (cy 0, 3, .inl B_times)), ((rB 4), .inl (cy 0, 200, .inl B_sets)), ((rR 0), .inl (cy 1, 500, .inl R_text))] H → va_D A [(h0, .inr (5, oX5 rB sB)), ((rB 0), .inr (8, oX8 rR sR)), ((rB 1), .inl (cy 0, 3, .inl B_begins)), ((rB 2), .inl (cy 0, 3, .inl B_times)), ((rB 4), .inl (cy 0, 200, .inl B_sets)), ((rR 0), .inl (cy 1, 500, .inl R_text))] → va_S A s.heap H locs → lv_has ls 5 [(0, .ref h0), (1, .int l1), (2, .int l2), (3, .int l3), (4, .int l4)] → W p l e R s m args below meth c H locs 0 0 QQ (F0 m 50 ls []) := by
        intro sR l1 l2 l3 kx73 hk50_73 nf50
        induction nf50 with
        | zero =>
          intro sB B_sets l4 H locs ls h
          exact (show False from h).elim
        | succ nf50 ih50 =>
          intro sB B_sets l4 H locs ls h hP hD hS hl
          refine lv_iload hx hb dX5_closeAgain_50 (lv_at hl 4 rfl) ?_
          refine lv_iload_n hx hb dX5_closeAgain_52 rfl (lv_at hl 2 rfl) ?_
          refine lv_icmp_ge (tgt := 73) hx hb dX5_closeAgain_53 (by decide) (fun c53 => ?_) (fun c53 => ?_)
          · have h := h.1 c53
            exact hk50_73 sB B_sets l4 _ _ _ h hP hD hS (lv_sub hl [0, 1, 2, 3] rfl)
          · have h := h.2 c53
            refine lv_aload_n hx hb dX5_closeAgain_56 rfl (lv_at hl 0 rfl) ?_
            refine lv_aload_n hx hb dX5_closeAgain_57 rfl (lv_at hl 0 rfl) ?_
            refine gfX5_18 hx hb hts hown hK hP 0 rfl dX5_closeAgain_58 ?_
            refine lv_iload hx hb dX5_closeAgain_61 (lv_at hl 4 rfl) ?_
            obtain ⟨hin, h⟩ := h
            refine ldi (k := l4.toNatClampNeg) hx hb hK hP 4 rfl hin rfl dX5_closeAgain_63 ?_
            refine clVv (As := [.int (B_sets l4.toNatClampNeg)]) (rest := []) (Wr := [((rB 0), .inr (8, oX8 rR sR)), ((rB 1), .inl (cy 0, 3, .inl B_begins)), ((rB 2), .inl (cy 0, 3, .inl B_times)), ((rR 0), .inl (cy 1, 500, .inl R_text))]) (cq := (RX5, TX5, 6)) ⟨hx, hb, hml, hown, hts⟩ ⟨callB_of 1 hts (goodC mw912) rfl rfl rfl (hts _ (tb mw7)) (hts _ (tb mw909)) kdX5_put ⟨Nat.le_trans (by decide) hRf, Nat.le_trans (by decide) hRl⟩, hts _ (tb mw911), hts _ (tb ms25)⟩ (ctX5_put l D cy ev h0 rB sB B_sets (B_sets l4.toNatClampNeg) _ _ h) hE hK hP hD hS hA [0, 4] [1, 2, 3, 5] rfl rfl (by decide) (by decide) (by decide) 0 rfl rfl rfl hl.1 rfl (Nat.le_of_ble_eq_true rfl) ⟨Nat.zero_le _, Nat.zero_le _⟩ dX5_closeAgain_64 (fun u H locs h hP hD hS => ?_)
            obtain ⟨sB_64, B_sets_64⟩ := u
            have hP : va_P D clsX [((rB 0), .inr (8, oX8 rR sR)), ((rB 1), .inl (cy 0, 3, .inl B_begins)), ((rB 2), .inl (cy 0, 3, .inl B_times)), ((rR 0), .inl (cy 1, 500, .inl R_text)), (h0, .inr (5, oX5 rB sB_64)), ((rB 4), .inl (cy 0, 200, .inl B_sets_64))] H := hP
            have hD : va_D A [((rB 0), .inr (8, oX8 rR sR)), ((rB 1), .inl (cy 0, 3, .inl B_begins)), ((rB 2), .inl (cy 0, 3, .inl B_times)), ((rR 0), .inl (cy 1, 500, .inl R_text)), (h0, .inr (5, oX5 rB sB_64)), ((rB 4), .inl (cy 0, 200, .inl B_sets_64))] := hD
            obtain ⟨l4_67, el4_67⟩ : ∃ y : Int32, y = l4 + (1 : Int32) := ⟨_, rfl⟩
            have h := h l4_67 el4_67
            refine lv_iinc (v := l4_67) (lv' := [(4, .int l4_67), (0, .ref h0), (1, .int l1), (2, .int l2), (3, .int l3)]) hx hb dX5_closeAgain_67 hl (k := 4) rfl (by rw [el4_67]; rfl) (by decide) rfl (fun ls hl => ?_)
            refine lv_goto (tgt := 50) hx hb dX5_closeAgain_70 (by decide) ?_
            exact ih50 sB_64 B_sets_64 l4_67 _ _ _ h (hP.sub [4, 0, 1, 2, 5, 3] rfl) (hD.sub [4, 0, 1, 2, 5, 3] (by decide) rfl) hS (lv_sub hl [1, 2, 3, 4, 0] rfl)
      refine lv_iload_n hx hb dX5_closeAgain_34 rfl (lv_at hl 3 rfl) ?_
      refine lv_aload_n hx hb dX5_closeAgain_35 rfl (lv_at hl 0 rfl) ?_
      refine gfX5_15 hx hb hts hown hK hP 0 rfl dX5_closeAgain_36 ?_
      refine lv_aload_n hx hb dX5_closeAgain_39 rfl (lv_at hl 0 rfl) ?_
      refine gfX5_29 (v := (sB 3)) hx hb hts hown hK hP 0 rfl rfl dX5_closeAgain_40 ?_
      obtain ⟨hin, h⟩ := h
      refine ldi (k := (sB 3).toNatClampNeg) hx hb hK hP 3 rfl hin rfl dX5_closeAgain_43 ?_
      refine lv_icmp_ge (tgt := 79) hx hb dX5_closeAgain_44 (by decide) (fun c44 => ?_) (fun c44 => ?_)
      · have h := h.1 c44
        exact hk34_79 sB B_sets l3 _ _ _ h hP hD hS (lv_sub hl [0] rfl)
      · have h := h.2 c44
        refine lv_iload_n hx hb dX5_closeAgain_47 rfl (lv_at hl 1 rfl) ?_
        refine lv_istore (lv' := [(4, .int l1), (0, .ref h0), (1, .int l1), (2, .int l2), (3, .int l3)]) hx hb dX5_closeAgain_48 hl (by decide) rfl (fun ls hl => ?_)
        obtain ⟨nf50, h⟩ := h
        refine L50 sR l1 l2 l3 _ (fun sB_73 B_sets_73 l4_73 H locs ls h hP hD hS hl => ?_) nf50 sB B_sets l1 _ _ _ h hP hD hS (lv_sub hl [1, 2, 3, 4, 0] rfl)
        obtain ⟨l3_73, el3_73⟩ : ∃ y : Int32, y = l3 + (1 : Int32) := ⟨_, rfl⟩
        have h := h l3_73 el3_73
        refine lv_iinc (v := l3_73) (lv' := [(3, .int l3_73), (0, .ref h0), (1, .int l1), (2, .int l2)]) hx hb dX5_closeAgain_73 hl (k := 3) rfl (by rw [el3_73]; rfl) (by decide) rfl (fun ls hl => ?_)
        refine lv_goto (tgt := 34) hx hb dX5_closeAgain_76 (by decide) ?_
        exact ih34 sB_73 B_sets_73 l3_73 _ _ _ h hP hD hS (lv_sub hl [1, 2, 3, 0] rfl)
  refine lv_aload_n hx hb dX5_closeAgain_0 rfl (lv_at hl 0 rfl) ?_
  refine gfX5_21 hx hb hts hown hK hP 0 rfl dX5_closeAgain_1 ?_
  refine clVv (As := []) (rest := []) (Wr := [(h0, .inr (5, oX5 rB sB)), ((rB 1), .inl (cy 0, 3, .inl B_begins)), ((rB 2), .inl (cy 0, 3, .inl B_times)), ((rB 4), .inl (cy 0, 200, .inl B_sets))]) (cq := (RX8, TX8, 10)) ⟨hx, hb, hml, hown, hts⟩ ⟨callB_of 0 hts (goodC mw736) rfl rfl rfl (hts _ (tb mw2)) (hts _ (tb mw905)) kdX8_advance ⟨Nat.le_trans (by decide) hRf, Nat.le_trans (by decide) hRl⟩, hts _ (tb mw734), hts _ (tb mw735)⟩ (ctX8_advance l D cy ev (rB 0) rR sR R_text  _ _ h) hE hK hP hD hS hA [1, 5] [0, 2, 3, 4] rfl rfl (by decide) (by decide) (by decide) 0 rfl rfl rfl hl.1 rfl (Nat.le_of_ble_eq_true rfl) ⟨Nat.zero_le _, Nat.zero_le _⟩ dX5_closeAgain_4 (fun sR_4 H locs h hP hD hS => ?_)
  have hP : va_P D clsX [(h0, .inr (5, oX5 rB sB)), ((rB 1), .inl (cy 0, 3, .inl B_begins)), ((rB 2), .inl (cy 0, 3, .inl B_times)), ((rB 4), .inl (cy 0, 200, .inl B_sets)), ((rB 0), .inr (8, oX8 rR sR_4)), ((rR 0), .inl (cy 1, 500, .inl R_text))] H := hP
  have hD : va_D A [(h0, .inr (5, oX5 rB sB)), ((rB 1), .inl (cy 0, 3, .inl B_begins)), ((rB 2), .inl (cy 0, 3, .inl B_times)), ((rB 4), .inl (cy 0, 200, .inl B_sets)), ((rB 0), .inr (8, oX8 rR sR_4)), ((rR 0), .inl (cy 1, 500, .inl R_text))] := hD
  refine lv_aload_n hx hb dX5_closeAgain_7 rfl (lv_at hl 0 rfl) ?_
  refine lv_dup hx hb dX5_closeAgain_8 rfl ?_
  refine gfX5_29 (v := (sB 3)) hx hb hts hown hK hP 0 rfl rfl dX5_closeAgain_9 ?_
  refine lv_iconst (v := (1 : Int32)) hx hb dX5_closeAgain_12 (by decide) ?_
  refine lv_isub hx hb dX5_closeAgain_13 ?_
  refine lv_topi (fun f3_14 ef3_14 => ?_)
  have h := h f3_14 ef3_14
  refine pfX5_29 hx hb hts hown hK hP hD hS 0 rfl dX5_closeAgain_14 (fun H locs hP hD hS => ?_)
  have hP : va_P D clsX [(h0, .inr (5, oX5 rB (upd sB 3 f3_14))), ((rB 1), .inl (cy 0, 3, .inl B_begins)), ((rB 2), .inl (cy 0, 3, .inl B_times)), ((rB 4), .inl (cy 0, 200, .inl B_sets)), ((rB 0), .inr (8, oX8 rR sR_4)), ((rR 0), .inl (cy 1, 500, .inl R_text))] H := hP
  have hD : va_D A [(h0, .inr (5, oX5 rB (upd sB 3 f3_14))), ((rB 1), .inl (cy 0, 3, .inl B_begins)), ((rB 2), .inl (cy 0, 3, .inl B_times)), ((rB 4), .inl (cy 0, 200, .inl B_sets)), ((rB 0), .inr (8, oX8 rR sR_4)), ((rR 0), .inl (cy 1, 500, .inl R_text))] := hD
  refine lv_aload_n hx hb dX5_closeAgain_17 rfl (lv_at hl 0 rfl) ?_
  refine gfX5_11 hx hb hts hown hK hP 0 rfl dX5_closeAgain_18 ?_
  refine lv_aload_n hx hb dX5_closeAgain_21 rfl (lv_at hl 0 rfl) ?_
  refine gfX5_29 (v := f3_14) hx hb hts hown hK hP 0 rfl rfl dX5_closeAgain_22 ?_
  obtain ⟨hin, h⟩ := h
  refine ldi (k := f3_14.toNatClampNeg) hx hb hK hP 1 rfl hin rfl dX5_closeAgain_25 ?_
  refine lv_topi (fun l1_26 el1_26 => ?_)
  have h := h l1_26 el1_26
  refine lv_istore_n (lv' := [(1, .int l1_26), (0, .ref h0)]) hx hb dX5_closeAgain_26 rfl hl (by decide) rfl (fun ls hl => ?_)
  refine lv_aload_n hx hb dX5_closeAgain_27 rfl (lv_at hl 1 rfl) ?_
  refine gfX5_25 (v := (sB 5)) hx hb hts hown hK hP 0 rfl rfl dX5_closeAgain_28 ?_
  refine lv_topi (fun l2_31 el2_31 => ?_)
  have h := h l2_31 el2_31
  refine lv_istore_n (lv' := [(2, .int l2_31), (1, .int l1_26), (0, .ref h0)]) hx hb dX5_closeAgain_31 rfl hl (by decide) rfl (fun ls hl => ?_)
  refine lv_iconst (v := (1 : Int32)) hx hb dX5_closeAgain_32 (by decide) ?_
  refine lv_istore_n (lv' := [(3, .int (1 : Int32)), (2, .int l2_31), (1, .int l1_26), (0, .ref h0)]) hx hb dX5_closeAgain_33 rfl hl (by decide) rfl (fun ls hl => ?_)
  obtain ⟨nf34, h⟩ := h
  refine L34 sR_4 l1_26 l2_31 _ (fun sB_79 B_sets_79 l3_79 H locs ls h hP hD hS hl => ?_) nf34 (upd sB 3 f3_14) B_sets (1 : Int32) _ _ _ h (hP.sub [0, 4, 1, 2, 3, 5] rfl) (hD.sub [0, 4, 1, 2, 3, 5] (by decide) rfl) hS (lv_sub hl [3, 2, 1, 0] rfl)
  exact hret (sB_79, sR_4, B_sets_79) _ _ _ _ dX5_closeAgain_79 h hP hD hS
def wpX5_openAgain (sB : AR) (sR : AR) (B_begins : AR) (B_times : AR) (R_text : AR) (post : Int32 → AR → AR → AR → AR → Prop) : Prop := (((sB 3) < (3 : Int32) → wpX8_advance sR R_text (fun sR_21 => wpX8_number sR_21 R_text (1 : Int32) (20 : Int32) (fun r31 sR_31 => ((r31 = (-1 : Int32) → post (0 : Int32) sB sR_31 B_begins B_times) ∧ (¬ r31 = (-1 : Int32) → wpX8_passSign sR_31 R_text (123 : Int32) (fun r46 sR_46 => ((¬ r46 = 0 → vp_in (sB 3) 3 ∧ ∀ B_begins_66 : AR, B_begins_66 = upd B_begins (sB 3).toNatClampNeg (sB 5) → vp_in (sB 3) 3 ∧ ∀ B_times_76 : AR, B_times_76 = upd B_times (sB 3).toNatClampNeg r31 → ∀ f3_84 : Int32, f3_84 = ((sB 3) + (1 : Int32)) → post (1 : Int32) (upd sB 3 f3_84) sR_46 B_begins_66 B_times_76) ∧ (r46 = 0 → post (0 : Int32) sB sR_46 B_begins B_times)))))))) ∧ (¬ (sB 3) < (3 : Int32) → wpX8_refuse sR (2 : Int32) (fun r13 sR_13 => narrow .boolean (.int r13) = .int r13 ∧ post r13 sB sR_13 B_begins B_times)))
set_option maxHeartbeats 4000000 in
set_option maxRecDepth 100000 in
theorem ctX5_openAgain (l : Launch) (D : va_G) (cy : Nat → ClassId) (ev : Nat → Nat) (h0 : Nat) (rB : Nat → Nat) (rR : Nat → Nat) (sB : AR) (sR : AR) (B_begins : AR) (B_times : AR) (R_text : AR) (sz : Nat) (post : Int32 → AR → AR → AR → AR → Prop) (h : wpX5_openAgain sB sR B_begins B_times R_text post) : Met l yX5_openAgain (Cond.code yX5_openAgain cX5_openAgain 2 (some .boolean) :: TB) ({ frames := 2, cells := 0, slots := 0, locals := 44 }) (va_Pc [.ref h0] (PreX D cy ev [(h0, .inr (5, oX5 rB sB)), ((rB 0), .inr (8, oX8 rR sR)), ((rB 1), .inl (cy 0, 3, .inl B_begins)), ((rB 2), .inl (cy 0, 3, .inl B_times)), ((rR 0), .inl (cy 1, 500, .inl R_text))] sz)) (va_Qi (fun (r : Int32) (u : AR × AR × AR × AR) => post r (u.1) (u.2.1) (u.2.2.1) (u.2.2.2)) (fun u => BkX D cy [(h0, .inr (5, oX5 rB sB)), ((rB 0), .inr (8, oX8 rR sR)), ((rB 1), .inl (cy 0, 3, .inl B_begins)), ((rB 2), .inl (cy 0, 3, .inl B_times)), ((rR 0), .inl (cy 1, 500, .inl R_text))] sz [(h0, .inr (5, oX5 rB (u.1))), ((rB 0), .inr (8, oX8 rR (u.2.1))), ((rB 1), .inl (cy 0, 3, .inl (u.2.2.1))), ((rB 2), .inl (cy 0, 3, .inl (u.2.2.2))), ((rR 0), .inl (cy 1, 500, .inl R_text))]) (va_A [(h0, .inr (5, oX5 rB sB)), ((rB 0), .inr (8, oX8 rR sR)), ((rB 1), .inl (cy 0, 3, .inl B_begins)), ((rB 2), .inl (cy 0, 3, .inl B_times)), ((rR 0), .inl (cy 1, 500, .inl R_text))] sz)) 0 0 (va_A [(h0, .inr (5, oX5 rB sB)), ((rB 0), .inr (8, oX8 rR sR)), ((rB 1), .inl (cy 0, 3, .inl B_begins)), ((rB 2), .inl (cy 0, 3, .inl B_times)), ((rR 0), .inl (cy 1, 500, .inl R_text))] sz) := by
  refine ofWi (by decide) (Nat.le_of_ble_eq_true rfl) ?_
  intro p e s m args below meth c ls A R QQ hx hb hml hown hts hR hlk hE hK hP hD hS hA hl hret
  have hown : s.vm.findClass RX5 = some m.cls := hown
  have hRf : 2 ≤ R.frames := by rw [hR]; exact Nat.le_refl _
  have hRl : 44 ≤ R.locals := by rw [hR]; exact Nat.le_refl _
  clear hR
  have hl : lv_has ls 2 [(0, .ref h0)] := hl
  refine lv_aload_n hx hb dX5_openAgain_0 rfl (lv_at hl 0 rfl) ?_
  refine gfX5_29 (v := (sB 3)) hx hb hts hown hK hP 0 rfl rfl dX5_openAgain_1 ?_
  refine lv_iconst (v := (3 : Int32)) hx hb dX5_openAgain_4 (by decide) ?_
  refine lv_icmp_lt (tgt := 17) hx hb dX5_openAgain_5 (by decide) (fun c5 => ?_) (fun c5 => ?_)
  · have h := h.1 c5
    refine lv_aload_n hx hb dX5_openAgain_17 rfl (lv_at hl 0 rfl) ?_
    refine gfX5_21 hx hb hts hown hK hP 0 rfl dX5_openAgain_18 ?_
    refine clVv (As := []) (rest := []) (Wr := [(h0, .inr (5, oX5 rB sB)), ((rB 1), .inl (cy 0, 3, .inl B_begins)), ((rB 2), .inl (cy 0, 3, .inl B_times))]) (cq := (RX8, TX8, 10)) ⟨hx, hb, hml, hown, hts⟩ ⟨callB_of 0 hts (goodC mw736) rfl rfl rfl (hts _ (tb mw2)) (hts _ (tb mw905)) kdX8_advance ⟨Nat.le_trans (by decide) hRf, Nat.le_trans (by decide) hRl⟩, hts _ (tb mw734), hts _ (tb mw735)⟩ (ctX8_advance l D cy ev (rB 0) rR sR R_text  _ _ h) hE hK hP hD hS hA [1, 4] [0, 2, 3] rfl rfl (by decide) (by decide) (by decide) 0 rfl rfl rfl hl.1 rfl (Nat.le_of_ble_eq_true rfl) ⟨Nat.zero_le _, Nat.zero_le _⟩ dX5_openAgain_21 (fun sR_21 H locs h hP hD hS => ?_)
    have hP : va_P D clsX [(h0, .inr (5, oX5 rB sB)), ((rB 1), .inl (cy 0, 3, .inl B_begins)), ((rB 2), .inl (cy 0, 3, .inl B_times)), ((rB 0), .inr (8, oX8 rR sR_21)), ((rR 0), .inl (cy 1, 500, .inl R_text))] H := hP
    have hD : va_D A [(h0, .inr (5, oX5 rB sB)), ((rB 1), .inl (cy 0, 3, .inl B_begins)), ((rB 2), .inl (cy 0, 3, .inl B_times)), ((rB 0), .inr (8, oX8 rR sR_21)), ((rR 0), .inl (cy 1, 500, .inl R_text))] := hD
    refine lv_aload_n hx hb dX5_openAgain_24 rfl (lv_at hl 0 rfl) ?_
    refine gfX5_21 hx hb hts hown hK hP 0 rfl dX5_openAgain_25 ?_
    refine lv_iconst (v := (1 : Int32)) hx hb dX5_openAgain_28 (by decide) ?_
    refine lv_bipush (v := (20 : Int32)) hx hb dX5_openAgain_29 (by decide) ?_
    refine clVi (As := [.int (1 : Int32), .int (20 : Int32)]) (rest := []) (Wr := [(h0, .inr (5, oX5 rB sB)), ((rB 1), .inl (cy 0, 3, .inl B_begins)), ((rB 2), .inl (cy 0, 3, .inl B_times))]) (cq := (RX8, TX8, 10)) ⟨hx, hb, hml, hown, hts⟩ ⟨callB_of 2 hts (goodC mw807) rfl rfl rfl (hts _ (tb mw2)) (hts _ (tb mw906)) kdX8_number ⟨Nat.le_trans (by decide) hRf, Nat.le_trans (by decide) hRl⟩, hts _ (tb mw805), hts _ (tb mw806)⟩ (ctX8_number l D cy ev (rB 0) rR sR_21 R_text (1 : Int32) (20 : Int32) _ _ h) hE hK hP hD hS hA [3, 4] [0, 1, 2] rfl rfl (by decide) (by decide) (by decide) 0 rfl rfl rfl hl.1 rfl (Nat.le_of_ble_eq_true rfl) ⟨Nat.zero_le _, Nat.zero_le _⟩ dX5_openAgain_31 (fun r31 sR_31 H locs h hP hD hS => ?_)
    have hP : va_P D clsX [(h0, .inr (5, oX5 rB sB)), ((rB 1), .inl (cy 0, 3, .inl B_begins)), ((rB 2), .inl (cy 0, 3, .inl B_times)), ((rB 0), .inr (8, oX8 rR sR_31)), ((rR 0), .inl (cy 1, 500, .inl R_text))] H := hP
    have hD : va_D A [(h0, .inr (5, oX5 rB sB)), ((rB 1), .inl (cy 0, 3, .inl B_begins)), ((rB 2), .inl (cy 0, 3, .inl B_times)), ((rB 0), .inr (8, oX8 rR sR_31)), ((rR 0), .inl (cy 1, 500, .inl R_text))] := hD
    refine lv_istore_n (lv' := [(1, .int r31), (0, .ref h0)]) hx hb dX5_openAgain_34 rfl hl (by decide) rfl (fun ls hl => ?_)
    refine lv_iload_n hx hb dX5_openAgain_35 rfl (lv_at hl 0 rfl) ?_
    refine lv_iconst (v := (-1 : Int32)) hx hb dX5_openAgain_36 (by decide) ?_
    refine lv_icmp_eq (tgt := 52) hx hb dX5_openAgain_37 (by decide) (fun c37 => ?_) (fun c37 => ?_)
    · have h := h.1 c37
      refine lv_iconst (v := (0 : Int32)) hx hb dX5_openAgain_52 (by decide) ?_
      exact hret (0 : Int32) (sB, sR_31, B_begins, B_times) _ _ _ _ rfl dX5_openAgain_53 h (hP.sub [0, 3, 1, 2, 4] rfl) (hD.sub [0, 3, 1, 2, 4] (by decide) rfl) hS
    · have h := h.2 c37
      refine lv_aload_n hx hb dX5_openAgain_40 rfl (lv_at hl 1 rfl) ?_
      refine gfX5_21 hx hb hts hown hK hP 0 rfl dX5_openAgain_41 ?_
      refine lv_bipush (v := (123 : Int32)) hx hb dX5_openAgain_44 (by decide) ?_
      refine clVi (As := [.int (123 : Int32)]) (rest := []) (Wr := [(h0, .inr (5, oX5 rB sB)), ((rB 1), .inl (cy 0, 3, .inl B_begins)), ((rB 2), .inl (cy 0, 3, .inl B_times))]) (cq := (RX8, TX8, 10)) ⟨hx, hb, hml, hown, hts⟩ ⟨callB_of 1 hts (goodC mw875) rfl rfl rfl (hts _ (tb mw2)) (hts _ (tb mw908)) kdX8_passSign ⟨Nat.le_trans (by decide) hRf, Nat.le_trans (by decide) hRl⟩, hts _ (tb mw873), hts _ (tb mw874)⟩ (ctX8_passSign l D cy ev (rB 0) rR sR_31 R_text (123 : Int32) _ _ h) hE hK hP hD hS hA [3, 4] [0, 1, 2] rfl rfl (by decide) (by decide) (by decide) 0 rfl rfl rfl hl.1 rfl (Nat.le_of_ble_eq_true rfl) ⟨Nat.zero_le _, Nat.zero_le _⟩ dX5_openAgain_46 (fun r46 sR_46 H locs h hP hD hS => ?_)
      have hP : va_P D clsX [(h0, .inr (5, oX5 rB sB)), ((rB 1), .inl (cy 0, 3, .inl B_begins)), ((rB 2), .inl (cy 0, 3, .inl B_times)), ((rB 0), .inr (8, oX8 rR sR_46)), ((rR 0), .inl (cy 1, 500, .inl R_text))] H := hP
      have hD : va_D A [(h0, .inr (5, oX5 rB sB)), ((rB 1), .inl (cy 0, 3, .inl B_begins)), ((rB 2), .inl (cy 0, 3, .inl B_times)), ((rB 0), .inr (8, oX8 rR sR_46)), ((rR 0), .inl (cy 1, 500, .inl R_text))] := hD
      refine lv_if_ne (tgt := 54) hx hb dX5_openAgain_49 (by decide) (fun c49 => ?_) (fun c49 => ?_)
      · have h := h.1 c49
        refine lv_aload_n hx hb dX5_openAgain_54 rfl (lv_at hl 1 rfl) ?_
        refine gfX5_11 hx hb hts hown hK hP 0 rfl dX5_openAgain_55 ?_
        refine lv_aload_n hx hb dX5_openAgain_58 rfl (lv_at hl 1 rfl) ?_
        refine gfX5_29 (v := (sB 3)) hx hb hts hown hK hP 0 rfl rfl dX5_openAgain_59 ?_
        refine lv_aload_n hx hb dX5_openAgain_62 rfl (lv_at hl 1 rfl) ?_
        refine gfX5_25 (v := (sB 5)) hx hb hts hown hK hP 0 rfl rfl dX5_openAgain_63 ?_
        obtain ⟨hin, h⟩ := h
        refine sti (k := (sB 3).toNatClampNeg) (y := (sB 5)) hx hb hK hP hD hS 1 rfl hin rfl rfl dX5_openAgain_66 (fun B_begins_66 eB_begins_66 H locs hP hD hS => ?_)
        have h := h B_begins_66 eB_begins_66
        have hP : va_P D clsX [(h0, .inr (5, oX5 rB sB)), ((rB 1), .inl (cy 0, 3, .inl B_begins_66)), ((rB 2), .inl (cy 0, 3, .inl B_times)), ((rB 0), .inr (8, oX8 rR sR_46)), ((rR 0), .inl (cy 1, 500, .inl R_text))] H := hP
        have hD : va_D A [(h0, .inr (5, oX5 rB sB)), ((rB 1), .inl (cy 0, 3, .inl B_begins_66)), ((rB 2), .inl (cy 0, 3, .inl B_times)), ((rB 0), .inr (8, oX8 rR sR_46)), ((rR 0), .inl (cy 1, 500, .inl R_text))] := hD
        refine lv_aload_n hx hb dX5_openAgain_67 rfl (lv_at hl 1 rfl) ?_
        refine gfX5_15 hx hb hts hown hK hP 0 rfl dX5_openAgain_68 ?_
        refine lv_aload_n hx hb dX5_openAgain_71 rfl (lv_at hl 1 rfl) ?_
        refine gfX5_29 (v := (sB 3)) hx hb hts hown hK hP 0 rfl rfl dX5_openAgain_72 ?_
        refine lv_iload_n hx hb dX5_openAgain_75 rfl (lv_at hl 0 rfl) ?_
        obtain ⟨hin, h⟩ := h
        refine sti (k := (sB 3).toNatClampNeg) (y := r31) hx hb hK hP hD hS 2 rfl hin rfl rfl dX5_openAgain_76 (fun B_times_76 eB_times_76 H locs hP hD hS => ?_)
        have h := h B_times_76 eB_times_76
        have hP : va_P D clsX [(h0, .inr (5, oX5 rB sB)), ((rB 1), .inl (cy 0, 3, .inl B_begins_66)), ((rB 2), .inl (cy 0, 3, .inl B_times_76)), ((rB 0), .inr (8, oX8 rR sR_46)), ((rR 0), .inl (cy 1, 500, .inl R_text))] H := hP
        have hD : va_D A [(h0, .inr (5, oX5 rB sB)), ((rB 1), .inl (cy 0, 3, .inl B_begins_66)), ((rB 2), .inl (cy 0, 3, .inl B_times_76)), ((rB 0), .inr (8, oX8 rR sR_46)), ((rR 0), .inl (cy 1, 500, .inl R_text))] := hD
        refine lv_aload_n hx hb dX5_openAgain_77 rfl (lv_at hl 1 rfl) ?_
        refine lv_dup hx hb dX5_openAgain_78 rfl ?_
        refine gfX5_29 (v := (sB 3)) hx hb hts hown hK hP 0 rfl rfl dX5_openAgain_79 ?_
        refine lv_iconst (v := (1 : Int32)) hx hb dX5_openAgain_82 (by decide) ?_
        refine lv_iadd hx hb dX5_openAgain_83 ?_
        refine lv_topi (fun f3_84 ef3_84 => ?_)
        have h := h f3_84 ef3_84
        refine pfX5_29 hx hb hts hown hK hP hD hS 0 rfl dX5_openAgain_84 (fun H locs hP hD hS => ?_)
        have hP : va_P D clsX [(h0, .inr (5, oX5 rB (upd sB 3 f3_84))), ((rB 1), .inl (cy 0, 3, .inl B_begins_66)), ((rB 2), .inl (cy 0, 3, .inl B_times_76)), ((rB 0), .inr (8, oX8 rR sR_46)), ((rR 0), .inl (cy 1, 500, .inl R_text))] H := hP
        have hD : va_D A [(h0, .inr (5, oX5 rB (upd sB 3 f3_84))), ((rB 1), .inl (cy 0, 3, .inl B_begins_66)), ((rB 2), .inl (cy 0, 3, .inl B_times_76)), ((rB 0), .inr (8, oX8 rR sR_46)), ((rR 0), .inl (cy 1, 500, .inl R_text))] := hD
        refine lv_iconst (v := (1 : Int32)) hx hb dX5_openAgain_87 (by decide) ?_
        exact hret (1 : Int32) ((upd sB 3 f3_84), sR_46, B_begins_66, B_times_76) _ _ _ _ rfl dX5_openAgain_88 h (hP.sub [0, 3, 1, 2, 4] rfl) (hD.sub [0, 3, 1, 2, 4] (by decide) rfl) hS
      · have h := h.2 c49
        refine lv_iconst (v := (0 : Int32)) hx hb dX5_openAgain_52 (by decide) ?_
        exact hret (0 : Int32) (sB, sR_46, B_begins, B_times) _ _ _ _ rfl dX5_openAgain_53 h (hP.sub [0, 3, 1, 2, 4] rfl) (hD.sub [0, 3, 1, 2, 4] (by decide) rfl) hS
  · have h := h.2 c5
    refine lv_aload_n hx hb dX5_openAgain_8 rfl (lv_at hl 0 rfl) ?_
    refine gfX5_21 hx hb hts hown hK hP 0 rfl dX5_openAgain_9 ?_
    refine lv_iconst (v := (2 : Int32)) hx hb dX5_openAgain_12 (by decide) ?_
    refine clVi (As := [.int (2 : Int32)]) (rest := []) (Wr := [(h0, .inr (5, oX5 rB sB)), ((rB 1), .inl (cy 0, 3, .inl B_begins)), ((rB 2), .inl (cy 0, 3, .inl B_times)), ((rR 0), .inl (cy 1, 500, .inl R_text))]) (cq := (RX8, TX8, 10)) ⟨hx, hb, hml, hown, hts⟩ ⟨callB_of 1 hts (goodC mw811) rfl rfl rfl (hts _ (tb mw2)) (hts _ (tb mw918)) kdX8_refuse ⟨Nat.le_trans (by decide) hRf, Nat.le_trans (by decide) hRl⟩, hts _ (tb mw809), hts _ (tb mw810)⟩ (ctX8_refuse l D cy ev (rB 0) rR sR (2 : Int32) _ _ h) hE hK hP hD hS hA [1] [0, 2, 3, 4] rfl rfl (by decide) (by decide) (by decide) 0 rfl rfl rfl hl.1 rfl (Nat.le_of_ble_eq_true rfl) ⟨Nat.zero_le _, Nat.zero_le _⟩ dX5_openAgain_13 (fun r13 sR_13 H locs h hP hD hS => ?_)
    have hP : va_P D clsX [(h0, .inr (5, oX5 rB sB)), ((rB 1), .inl (cy 0, 3, .inl B_begins)), ((rB 2), .inl (cy 0, 3, .inl B_times)), ((rR 0), .inl (cy 1, 500, .inl R_text)), ((rB 0), .inr (8, oX8 rR sR_13))] H := hP
    have hD : va_D A [(h0, .inr (5, oX5 rB sB)), ((rB 1), .inl (cy 0, 3, .inl B_begins)), ((rB 2), .inl (cy 0, 3, .inl B_times)), ((rR 0), .inl (cy 1, 500, .inl R_text)), ((rB 0), .inr (8, oX8 rR sR_13))] := hD
    obtain ⟨hz, h⟩ := h
    exact hret r13 (sB, sR_13, B_begins, B_times) _ _ _ _ hz dX5_openAgain_16 h (hP.sub [0, 4, 1, 2, 3] rfl) (hD.sub [0, 4, 1, 2, 3] (by decide) rfl) hS
def wpX5_readRing_L11 (sB : AR) (B_sets : AR) (R_text : AR) (l1 : Int32) (kx82 : AR → Int32 → Int32 → Prop) (post : Int32 → AR → AR → AR → Prop) : Nat → AR → Int32 → Int32 → Prop
  | 0, _, _, _ => False
  | nf11 + 1, sR, l2, l3 => (((500 : Int32) < l3 → kx82 sR l2 l3) ∧ (¬ (500 : Int32) < l3 → ((¬ (sR 7) = (2 : Int32) → kx82 sR l2 l3) ∧ ((sR 7) = (2 : Int32) → wpX8_number sR R_text (0 : Int32) (l1 - (1 : Int32)) (fun r37 sR_37 => ((¬ r37 = (-1 : Int32) → ((¬ ((jshr l2 r37) &&& (1 : Int32)) = (1 : Int32) → ∀ l2_75 : Int32, l2_75 = (l2 ||| (jshl (1 : Int32) r37)) → ∀ l3_76 : Int32, l3_76 = (l3 + (1 : Int32)) → wpX5_readRing_L11 sB B_sets R_text l1 kx82 post nf11 sR_37 l2_75 l3_76) ∧ (((jshr l2 r37) &&& (1 : Int32)) = (1 : Int32) → wpX8_refuseBefore sR_37 (4 : Int32) (fun r65 sR_65 => narrow .boolean (.int r65) = .int r65 ∧ post r65 sB sR_65 B_sets)))) ∧ (r37 = (-1 : Int32) → post (0 : Int32) sB sR_37 B_sets)))))))
def wpX5_readRing_J82 (sB : AR) (sR : AR) (B_sets : AR) (R_text : AR) (l2 : Int32) (post : Int32 → AR → AR → AR → Prop) : Prop := wpX8_passSign sR R_text (59 : Int32) (fun r88 sR_88 => ((¬ r88 = 0 → wpX5_put sB B_sets l2 (fun sB_98 B_sets_98 => post (1 : Int32) sB_98 sR_88 B_sets_98)) ∧ (r88 = 0 → post (0 : Int32) sB sR_88 B_sets)))
def wpX5_readRing (sB : AR) (sR : AR) (B_sets : AR) (R_text : AR) (x1 : Int32) (post : Int32 → AR → AR → AR → Prop) : Prop := wpX8_advance sR R_text (fun sR_4 => ∃ nf11 : Nat, wpX5_readRing_L11 sB B_sets R_text x1 (fun sR_82 l2_82 l3_82 => wpX5_readRing_J82 sB sR_82 B_sets R_text l2_82 post) post nf11 sR_4 (0 : Int32) (0 : Int32))
set_option maxHeartbeats 4000000 in
set_option maxRecDepth 100000 in
theorem ctX5_readRing (l : Launch) (D : va_G) (cy : Nat → ClassId) (ev : Nat → Nat) (h0 : Nat) (rB : Nat → Nat) (rR : Nat → Nat) (sB : AR) (sR : AR) (B_sets : AR) (R_text : AR) (x1 : Int32) (sz : Nat) (post : Int32 → AR → AR → AR → Prop) (h : wpX5_readRing sB sR B_sets R_text x1 post) : Met l yX5_readRing (Cond.code yX5_readRing cX5_readRing 5 (some .boolean) :: TB) ({ frames := 2, cells := 0, slots := 0, locals := 44 }) (va_Pc [.ref h0, .int x1] (PreX D cy ev [(h0, .inr (5, oX5 rB sB)), ((rB 0), .inr (8, oX8 rR sR)), ((rB 4), .inl (cy 0, 200, .inl B_sets)), ((rR 0), .inl (cy 1, 500, .inl R_text))] sz)) (va_Qi (fun (r : Int32) (u : AR × AR × AR) => post r (u.1) (u.2.1) (u.2.2)) (fun u => BkX D cy [(h0, .inr (5, oX5 rB sB)), ((rB 0), .inr (8, oX8 rR sR)), ((rB 4), .inl (cy 0, 200, .inl B_sets)), ((rR 0), .inl (cy 1, 500, .inl R_text))] sz [(h0, .inr (5, oX5 rB (u.1))), ((rB 0), .inr (8, oX8 rR (u.2.1))), ((rB 4), .inl (cy 0, 200, .inl (u.2.2))), ((rR 0), .inl (cy 1, 500, .inl R_text))]) (va_A [(h0, .inr (5, oX5 rB sB)), ((rB 0), .inr (8, oX8 rR sR)), ((rB 4), .inl (cy 0, 200, .inl B_sets)), ((rR 0), .inl (cy 1, 500, .inl R_text))] sz)) 0 0 (va_A [(h0, .inr (5, oX5 rB sB)), ((rB 0), .inr (8, oX8 rR sR)), ((rB 4), .inl (cy 0, 200, .inl B_sets)), ((rR 0), .inl (cy 1, 500, .inl R_text))] sz) := by
  refine ofWi (by decide) (Nat.le_of_ble_eq_true rfl) ?_
  intro p e s m args below meth c ls A R QQ hx hb hml hown hts hR hlk hE hK hP hD hS hA hl hret
  have hown : s.vm.findClass RX5 = some m.cls := hown
  have hRf : 2 ≤ R.frames := by rw [hR]; exact Nat.le_refl _
  have hRl : 44 ≤ R.locals := by rw [hR]; exact Nat.le_refl _
  clear hR
  have hl : lv_has ls 5 [(0, .ref h0), (1, .int x1)] := hl
  have J82 : ∀ (sR : AR) (l2 : Int32) (H : Heap) (locs : List Loc) (ls : Array Slot), wpX5_readRing_J82 sB sR B_sets R_text l2 post → va_P D clsX [(h0, .inr (5, oX5 rB sB)), ((rB 0), .inr (8, oX8 rR sR)), ((rB 4), .inl (cy 0, 200, .inl B_sets)), ((rR 0), .inl (cy 1, 500, .inl R_text))] H → va_D A [(h0, .inr (5, oX5 rB sB)), ((rB 0), .inr (8, oX8 rR sR)), ((rB 4), .inl (cy 0, 200, .inl B_sets)), ((rR 0), .inl (cy 1, 500, .inl R_text))] → va_S A s.heap H locs → lv_has ls 5 [(0, .ref h0), (2, .int l2)] → W p l e R s m args below meth c H locs 0 0 QQ (F0 m 82 ls []) := by
    intro sR l2 H locs ls h hP hD hS hl
    refine lv_aload_n hx hb dX5_readRing_82 rfl (lv_at hl 0 rfl) ?_
    refine gfX5_21 hx hb hts hown hK hP 0 rfl dX5_readRing_83 ?_
    refine lv_bipush (v := (59 : Int32)) hx hb dX5_readRing_86 (by decide) ?_
    refine clVi (As := [.int (59 : Int32)]) (rest := []) (Wr := [(h0, .inr (5, oX5 rB sB)), ((rB 4), .inl (cy 0, 200, .inl B_sets))]) (cq := (RX8, TX8, 10)) ⟨hx, hb, hml, hown, hts⟩ ⟨callB_of 1 hts (goodC mw875) rfl rfl rfl (hts _ (tb mw2)) (hts _ (tb mw908)) kdX8_passSign ⟨Nat.le_trans (by decide) hRf, Nat.le_trans (by decide) hRl⟩, hts _ (tb mw873), hts _ (tb mw874)⟩ (ctX8_passSign l D cy ev (rB 0) rR sR R_text (59 : Int32) _ _ h) hE hK hP hD hS hA [1, 3] [0, 2] rfl rfl (by decide) (by decide) (by decide) 0 rfl rfl rfl hl.1 rfl (Nat.le_of_ble_eq_true rfl) ⟨Nat.zero_le _, Nat.zero_le _⟩ dX5_readRing_88 (fun r88 sR_88 H locs h hP hD hS => ?_)
    have hP : va_P D clsX [(h0, .inr (5, oX5 rB sB)), ((rB 4), .inl (cy 0, 200, .inl B_sets)), ((rB 0), .inr (8, oX8 rR sR_88)), ((rR 0), .inl (cy 1, 500, .inl R_text))] H := hP
    have hD : va_D A [(h0, .inr (5, oX5 rB sB)), ((rB 4), .inl (cy 0, 200, .inl B_sets)), ((rB 0), .inr (8, oX8 rR sR_88)), ((rR 0), .inl (cy 1, 500, .inl R_text))] := hD
    refine lv_if_ne (tgt := 96) hx hb dX5_readRing_91 (by decide) (fun c91 => ?_) (fun c91 => ?_)
    · have h := h.1 c91
      refine lv_aload_n hx hb dX5_readRing_96 rfl (lv_at hl 0 rfl) ?_
      refine lv_iload_n hx hb dX5_readRing_97 rfl (lv_at hl 1 rfl) ?_
      refine clVv (As := [.int l2]) (rest := []) (Wr := [((rB 0), .inr (8, oX8 rR sR_88)), ((rR 0), .inl (cy 1, 500, .inl R_text))]) (cq := (RX5, TX5, 6)) ⟨hx, hb, hml, hown, hts⟩ ⟨callB_of 1 hts (goodC mw912) rfl rfl rfl (hts _ (tb mw7)) (hts _ (tb mw909)) kdX5_put ⟨Nat.le_trans (by decide) hRf, Nat.le_trans (by decide) hRl⟩, hts _ (tb mw911), hts _ (tb ms25)⟩ (ctX5_put l D cy ev h0 rB sB B_sets l2 _ _ h) hE hK hP hD hS hA [0, 1] [2, 3] rfl rfl (by decide) (by decide) (by decide) 0 rfl rfl rfl hl.1 rfl (Nat.le_of_ble_eq_true rfl) ⟨Nat.zero_le _, Nat.zero_le _⟩ dX5_readRing_98 (fun u H locs h hP hD hS => ?_)
      obtain ⟨sB_98, B_sets_98⟩ := u
      have hP : va_P D clsX [((rB 0), .inr (8, oX8 rR sR_88)), ((rR 0), .inl (cy 1, 500, .inl R_text)), (h0, .inr (5, oX5 rB sB_98)), ((rB 4), .inl (cy 0, 200, .inl B_sets_98))] H := hP
      have hD : va_D A [((rB 0), .inr (8, oX8 rR sR_88)), ((rR 0), .inl (cy 1, 500, .inl R_text)), (h0, .inr (5, oX5 rB sB_98)), ((rB 4), .inl (cy 0, 200, .inl B_sets_98))] := hD
      refine lv_iconst (v := (1 : Int32)) hx hb dX5_readRing_101 (by decide) ?_
      exact hret (1 : Int32) (sB_98, sR_88, B_sets_98) _ _ _ _ rfl dX5_readRing_102 h (hP.sub [2, 0, 3, 1] rfl) (hD.sub [2, 0, 3, 1] (by decide) rfl) hS
    · have h := h.2 c91
      refine lv_iconst (v := (0 : Int32)) hx hb dX5_readRing_94 (by decide) ?_
      exact hret (0 : Int32) (sB, sR_88, B_sets) _ _ _ _ rfl dX5_readRing_95 h (hP.sub [0, 2, 1, 3] rfl) (hD.sub [0, 2, 1, 3] (by decide) rfl) hS
  have L11 : ∀ (l1 : Int32) (kx82 : AR → Int32 → Int32 → Prop), (∀ (sR : AR) (l2 : Int32) (l3 : Int32) (H : Heap) (locs : List Loc) (ls : Array Slot), kx82 sR l2 l3 → va_P D clsX [(h0, .inr (5, oX5 rB sB)), ((rB 0), .inr (8, oX8 rR sR)), ((rB 4), .inl (cy 0, 200, .inl B_sets)), ((rR 0), .inl (cy 1, 500, .inl R_text))] H → va_D A [(h0, .inr (5, oX5 rB sB)), ((rB 0), .inr (8, oX8 rR sR)), ((rB 4), .inl (cy 0, 200, .inl B_sets)), ((rR 0), .inl (cy 1, 500, .inl R_text))] → va_S A s.heap H locs → lv_has ls 5 [(0, .ref h0), (2, .int l2)] → W p l e R s m args below meth c H locs 0 0 QQ (F0 m 82 ls [])) → ∀ (nf11 : Nat) (sR : AR) (l2 : Int32) (l3 : Int32) (H : Heap) (locs : List Loc) (ls : Array Slot), wpX5_readRing_L11 sB B_sets R_text l1 kx82 post nf11 sR l2 l3 → va_P D clsX [(h0, .inr (5, oX5 rB sB)), ((rB 0), .inr (8, oX8 rR sR)), ((rB 4), .inl (cy 0, 200, .inl B_sets)), ((rR 0), .inl (cy 1, 500, .inl R_text))] H → va_D A [(h0, .inr (5, oX5 rB sB)), ((rB 0), .inr (8, oX8 rR sR)), ((rB 4), .inl (cy 0, 200, .inl B_sets)), ((rR 0), .inl (cy 1, 500, .inl R_text))] → va_S A s.heap H locs → lv_has ls 5 [(0, .ref h0), (1, .int l1), (2, .int l2), (3, .int l3)] → W p l e R s m args below meth c H locs 0 0 QQ (F0 m 11 ls []) := by
    intro l1 kx82 hk11_82 nf11
    induction nf11 with
    | zero =>
      intro sR l2 l3 H locs ls h
      exact (show False from h).elim
    | succ nf11 ih11 =>
      intro sR l2 l3 H locs ls h hP hD hS hl
      refine lv_iload_n hx hb dX5_readRing_11 rfl (lv_at hl 3 rfl) ?_
      refine lv_sipush (v := (500 : Int32)) hx hb dX5_readRing_12 (by decide) ?_
      refine lv_icmp_gt (tgt := 82) hx hb dX5_readRing_15 (by decide) (fun c15 => ?_) (fun c15 => ?_)
      · have h := h.1 c15
        exact hk11_82 sR l2 l3 _ _ _ h hP hD hS (lv_sub hl [0, 2] rfl)
      · have h := h.2 c15
        refine lv_aload_n hx hb dX5_readRing_18 rfl (lv_at hl 0 rfl) ?_
        refine gfX5_21 hx hb hts hown hK hP 0 rfl dX5_readRing_19 ?_
        refine gfX5_32 (v := (sR 7)) hx hb hts hown hK hP 1 rfl rfl dX5_readRing_22 ?_
        refine lv_iconst (v := (2 : Int32)) hx hb dX5_readRing_25 (by decide) ?_
        refine lv_icmp_ne (tgt := 82) hx hb dX5_readRing_26 (by decide) (fun c26 => ?_) (fun c26 => ?_)
        · have h := h.1 c26
          exact hk11_82 sR l2 l3 _ _ _ h hP hD hS (lv_sub hl [0, 2] rfl)
        · have h := h.2 c26
          refine lv_aload_n hx hb dX5_readRing_29 rfl (lv_at hl 0 rfl) ?_
          refine gfX5_21 hx hb hts hown hK hP 0 rfl dX5_readRing_30 ?_
          refine lv_iconst (v := (0 : Int32)) hx hb dX5_readRing_33 (by decide) ?_
          refine lv_iload_n hx hb dX5_readRing_34 rfl (lv_at hl 1 rfl) ?_
          refine lv_iconst (v := (1 : Int32)) hx hb dX5_readRing_35 (by decide) ?_
          refine lv_isub hx hb dX5_readRing_36 ?_
          refine clVi (As := [.int (0 : Int32), .int (l1 - (1 : Int32))]) (rest := []) (Wr := [(h0, .inr (5, oX5 rB sB)), ((rB 4), .inl (cy 0, 200, .inl B_sets))]) (cq := (RX8, TX8, 10)) ⟨hx, hb, hml, hown, hts⟩ ⟨callB_of 2 hts (goodC mw807) rfl rfl rfl (hts _ (tb mw2)) (hts _ (tb mw906)) kdX8_number ⟨Nat.le_trans (by decide) hRf, Nat.le_trans (by decide) hRl⟩, hts _ (tb mw805), hts _ (tb mw806)⟩ (ctX8_number l D cy ev (rB 0) rR sR R_text (0 : Int32) (l1 - (1 : Int32)) _ _ h) hE hK hP hD hS hA [1, 3] [0, 2] rfl rfl (by decide) (by decide) (by decide) 0 rfl rfl rfl hl.1 rfl (Nat.le_of_ble_eq_true rfl) ⟨Nat.zero_le _, Nat.zero_le _⟩ dX5_readRing_37 (fun r37 sR_37 H locs h hP hD hS => ?_)
          have hP : va_P D clsX [(h0, .inr (5, oX5 rB sB)), ((rB 4), .inl (cy 0, 200, .inl B_sets)), ((rB 0), .inr (8, oX8 rR sR_37)), ((rR 0), .inl (cy 1, 500, .inl R_text))] H := hP
          have hD : va_D A [(h0, .inr (5, oX5 rB sB)), ((rB 4), .inl (cy 0, 200, .inl B_sets)), ((rB 0), .inr (8, oX8 rR sR_37)), ((rR 0), .inl (cy 1, 500, .inl R_text))] := hD
          refine lv_istore (lv' := [(4, .int r37), (0, .ref h0), (1, .int l1), (2, .int l2), (3, .int l3)]) hx hb dX5_readRing_40 hl (by decide) rfl (fun ls hl => ?_)
          refine lv_iload hx hb dX5_readRing_42 (lv_at hl 0 rfl) ?_
          refine lv_iconst (v := (-1 : Int32)) hx hb dX5_readRing_44 (by decide) ?_
          refine lv_icmp_ne (tgt := 50) hx hb dX5_readRing_45 (by decide) (fun c45 => ?_) (fun c45 => ?_)
          · have h := h.1 c45
            refine lv_iload_n hx hb dX5_readRing_50 rfl (lv_at hl 3 rfl) ?_
            refine lv_iload hx hb dX5_readRing_51 (lv_at hl 0 rfl) ?_
            refine lv_ishr hx hb dX5_readRing_53 ?_
            refine lv_iconst (v := (1 : Int32)) hx hb dX5_readRing_54 (by decide) ?_
            refine lv_iand hx hb dX5_readRing_55 ?_
            refine lv_iconst (v := (1 : Int32)) hx hb dX5_readRing_56 (by decide) ?_
            refine lv_icmp_ne (tgt := 69) hx hb dX5_readRing_57 (by decide) (fun c57 => ?_) (fun c57 => ?_)
            · have h := h.1 c57
              refine lv_iload_n hx hb dX5_readRing_69 rfl (lv_at hl 3 rfl) ?_
              refine lv_iconst (v := (1 : Int32)) hx hb dX5_readRing_70 (by decide) ?_
              refine lv_iload hx hb dX5_readRing_71 (lv_at hl 0 rfl) ?_
              refine lv_ishl hx hb dX5_readRing_73 ?_
              refine lv_ior hx hb dX5_readRing_74 ?_
              refine lv_topi (fun l2_75 el2_75 => ?_)
              have h := h l2_75 el2_75
              refine lv_istore_n (lv' := [(2, .int l2_75), (4, .int r37), (0, .ref h0), (1, .int l1), (3, .int l3)]) hx hb dX5_readRing_75 rfl hl (by decide) rfl (fun ls hl => ?_)
              obtain ⟨l3_76, el3_76⟩ : ∃ y : Int32, y = l3 + (1 : Int32) := ⟨_, rfl⟩
              have h := h l3_76 el3_76
              refine lv_iinc (v := l3_76) (lv' := [(3, .int l3_76), (2, .int l2_75), (4, .int r37), (0, .ref h0), (1, .int l1)]) hx hb dX5_readRing_76 hl (k := 4) rfl (by rw [el3_76]; rfl) (by decide) rfl (fun ls hl => ?_)
              refine lv_goto (tgt := 11) hx hb dX5_readRing_79 (by decide) ?_
              exact ih11 sR_37 l2_75 l3_76 _ _ _ h (hP.sub [0, 2, 1, 3] rfl) (hD.sub [0, 2, 1, 3] (by decide) rfl) hS (lv_sub hl [3, 4, 1, 0] rfl)
            · have h := h.2 c57
              refine lv_aload_n hx hb dX5_readRing_60 rfl (lv_at hl 1 rfl) ?_
              refine gfX5_21 hx hb hts hown hK hP 0 rfl dX5_readRing_61 ?_
              refine lv_iconst (v := (4 : Int32)) hx hb dX5_readRing_64 (by decide) ?_
              refine clVi (As := [.int (4 : Int32)]) (rest := []) (Wr := [(h0, .inr (5, oX5 rB sB)), ((rB 4), .inl (cy 0, 200, .inl B_sets)), ((rR 0), .inl (cy 1, 500, .inl R_text))]) (cq := (RX8, TX8, 10)) ⟨hx, hb, hml, hown, hts⟩ ⟨callB_of 1 hts (goodC mw829) rfl rfl rfl (hts _ (tb mw2)) (hts _ (tb mw907)) kdX8_refuseBefore ⟨Nat.le_trans (by decide) hRf, Nat.le_trans (by decide) hRl⟩, hts _ (tb mw827), hts _ (tb mw828)⟩ (ctX8_refuseBefore l D cy ev (rB 0) rR sR_37 (4 : Int32) _ _ h) hE hK hP hD hS hA [2] [0, 1, 3] rfl rfl (by decide) (by decide) (by decide) 0 rfl rfl rfl hl.1 rfl (Nat.le_of_ble_eq_true rfl) ⟨Nat.zero_le _, Nat.zero_le _⟩ dX5_readRing_65 (fun r65 sR_65 H locs h hP hD hS => ?_)
              have hP : va_P D clsX [(h0, .inr (5, oX5 rB sB)), ((rB 4), .inl (cy 0, 200, .inl B_sets)), ((rR 0), .inl (cy 1, 500, .inl R_text)), ((rB 0), .inr (8, oX8 rR sR_65))] H := hP
              have hD : va_D A [(h0, .inr (5, oX5 rB sB)), ((rB 4), .inl (cy 0, 200, .inl B_sets)), ((rR 0), .inl (cy 1, 500, .inl R_text)), ((rB 0), .inr (8, oX8 rR sR_65))] := hD
              obtain ⟨hz, h⟩ := h
              exact hret r65 (sB, sR_65, B_sets) _ _ _ _ hz dX5_readRing_68 h (hP.sub [0, 3, 1, 2] rfl) (hD.sub [0, 3, 1, 2] (by decide) rfl) hS
          · have h := h.2 c45
            refine lv_iconst (v := (0 : Int32)) hx hb dX5_readRing_48 (by decide) ?_
            exact hret (0 : Int32) (sB, sR_37, B_sets) _ _ _ _ rfl dX5_readRing_49 h (hP.sub [0, 2, 1, 3] rfl) (hD.sub [0, 2, 1, 3] (by decide) rfl) hS
  refine lv_aload_n hx hb dX5_readRing_0 rfl (lv_at hl 0 rfl) ?_
  refine gfX5_21 hx hb hts hown hK hP 0 rfl dX5_readRing_1 ?_
  refine clVv (As := []) (rest := []) (Wr := [(h0, .inr (5, oX5 rB sB)), ((rB 4), .inl (cy 0, 200, .inl B_sets))]) (cq := (RX8, TX8, 10)) ⟨hx, hb, hml, hown, hts⟩ ⟨callB_of 0 hts (goodC mw736) rfl rfl rfl (hts _ (tb mw2)) (hts _ (tb mw905)) kdX8_advance ⟨Nat.le_trans (by decide) hRf, Nat.le_trans (by decide) hRl⟩, hts _ (tb mw734), hts _ (tb mw735)⟩ (ctX8_advance l D cy ev (rB 0) rR sR R_text  _ _ h) hE hK hP hD hS hA [1, 3] [0, 2] rfl rfl (by decide) (by decide) (by decide) 0 rfl rfl rfl hl.1 rfl (Nat.le_of_ble_eq_true rfl) ⟨Nat.zero_le _, Nat.zero_le _⟩ dX5_readRing_4 (fun sR_4 H locs h hP hD hS => ?_)
  have hP : va_P D clsX [(h0, .inr (5, oX5 rB sB)), ((rB 4), .inl (cy 0, 200, .inl B_sets)), ((rB 0), .inr (8, oX8 rR sR_4)), ((rR 0), .inl (cy 1, 500, .inl R_text))] H := hP
  have hD : va_D A [(h0, .inr (5, oX5 rB sB)), ((rB 4), .inl (cy 0, 200, .inl B_sets)), ((rB 0), .inr (8, oX8 rR sR_4)), ((rR 0), .inl (cy 1, 500, .inl R_text))] := hD
  refine lv_iconst (v := (0 : Int32)) hx hb dX5_readRing_7 (by decide) ?_
  refine lv_istore_n (lv' := [(2, .int (0 : Int32)), (0, .ref h0), (1, .int x1)]) hx hb dX5_readRing_8 rfl hl (by decide) rfl (fun ls hl => ?_)
  refine lv_iconst (v := (0 : Int32)) hx hb dX5_readRing_9 (by decide) ?_
  refine lv_istore_n (lv' := [(3, .int (0 : Int32)), (2, .int (0 : Int32)), (0, .ref h0), (1, .int x1)]) hx hb dX5_readRing_10 rfl hl (by decide) rfl (fun ls hl => ?_)
  obtain ⟨nf11, h⟩ := h
  refine L11 x1 _ (fun sR_82 l2_82 l3_82 H locs ls h hP hD hS hl => ?_) nf11 sR_4 (0 : Int32) (0 : Int32) _ _ _ h (hP.sub [0, 2, 1, 3] rfl) (hD.sub [0, 2, 1, 3] (by decide) rfl) hS (lv_sub hl [2, 3, 1, 0] rfl)
  exact J82 sR_82 l2_82 _ _ _ h hP hD hS hl
def wpX5_readPart_J60 (sB : AR) (sR : AR) (B_begins : AR) (B_times : AR) (B_sets : AR) (R_text : AR) (post : Int32 → AR → AR → AR → AR → AR → Prop) : Prop := wpX8_refuse sR (1 : Int32) (fun r65 sR_65 => narrow .boolean (.int r65) = .int r65 ∧ post r65 sB sR_65 B_begins B_times B_sets)
def wpX5_readPart (sB : AR) (sR : AR) (B_begins : AR) (B_times : AR) (B_sets : AR) (R_text : AR) (x1 : Int32) (post : Int32 → AR → AR → AR → AR → AR → Prop) : Prop := wpX8_isWord sR R_text 17 (fun r6 => ((r6 = 0 → wpX8_isWord sR R_text 18 (fun r24 => ((r24 = 0 → (((sB 3) ≤ 0 → wpX5_readPart_J60 sB sR B_begins B_times B_sets R_text post) ∧ (¬ (sB 3) ≤ 0 → wpX8_isSign sR R_text (125 : Int32) (fun r48 => ((r48 = 0 → wpX5_readPart_J60 sB sR B_begins B_times B_sets R_text post) ∧ (¬ r48 = 0 → wpX5_closeAgain sB sR B_begins B_times B_sets R_text (fun sB_55 sR_55 B_sets_55 => post (1 : Int32) sB_55 sR_55 B_begins B_times B_sets_55))))))) ∧ (¬ r24 = 0 → wpX5_openAgain sB sR B_begins B_times R_text (fun r31 sB_31 sR_31 B_begins_31 B_times_31 => narrow .boolean (.int r31) = .int r31 ∧ post r31 sB_31 sR_31 B_begins_31 B_times_31 B_sets))))) ∧ (¬ r6 = 0 → wpX5_readRing sB sR B_sets R_text x1 (fun r14 sB_14 sR_14 B_sets_14 => narrow .boolean (.int r14) = .int r14 ∧ post r14 sB_14 sR_14 B_begins B_times B_sets_14))))
set_option maxHeartbeats 4000000 in
set_option maxRecDepth 100000 in
theorem ctX5_readPart (l : Launch) (D : va_G) (cy : Nat → ClassId) (ev : Nat → Nat) (h0 : Nat) (rB : Nat → Nat) (rR : Nat → Nat) (sB : AR) (sR : AR) (B_begins : AR) (B_times : AR) (B_sets : AR) (R_text : AR) (x1 : Int32) (sz : Nat) (post : Int32 → AR → AR → AR → AR → AR → Prop) (h : wpX5_readPart sB sR B_begins B_times B_sets R_text x1 post) : Met l yX5_readPart (Cond.code yX5_readPart cX5_readPart 2 (some .boolean) :: TB) ({ frames := 5, cells := 0, slots := 0, locals := 222 }) (va_Pc [.ref h0, .int x1] (PreX D cy ev [(h0, .inr (5, oX5 rB sB)), ((rB 0), .inr (8, oX8 rR sR)), ((rB 1), .inl (cy 0, 3, .inl B_begins)), ((rB 2), .inl (cy 0, 3, .inl B_times)), ((rB 4), .inl (cy 0, 200, .inl B_sets)), ((rR 0), .inl (cy 1, 500, .inl R_text))] sz)) (va_Qi (fun (r : Int32) (u : AR × AR × AR × AR × AR) => post r (u.1) (u.2.1) (u.2.2.1) (u.2.2.2.1) (u.2.2.2.2)) (fun u => BkX D cy [(h0, .inr (5, oX5 rB sB)), ((rB 0), .inr (8, oX8 rR sR)), ((rB 1), .inl (cy 0, 3, .inl B_begins)), ((rB 2), .inl (cy 0, 3, .inl B_times)), ((rB 4), .inl (cy 0, 200, .inl B_sets)), ((rR 0), .inl (cy 1, 500, .inl R_text))] sz [(h0, .inr (5, oX5 rB (u.1))), ((rB 0), .inr (8, oX8 rR (u.2.1))), ((rB 1), .inl (cy 0, 3, .inl (u.2.2.1))), ((rB 2), .inl (cy 0, 3, .inl (u.2.2.2.1))), ((rB 4), .inl (cy 0, 200, .inl (u.2.2.2.2))), ((rR 0), .inl (cy 1, 500, .inl R_text))]) (va_A [(h0, .inr (5, oX5 rB sB)), ((rB 0), .inr (8, oX8 rR sR)), ((rB 1), .inl (cy 0, 3, .inl B_begins)), ((rB 2), .inl (cy 0, 3, .inl B_times)), ((rB 4), .inl (cy 0, 200, .inl B_sets)), ((rR 0), .inl (cy 1, 500, .inl R_text))] sz)) 0 0 (va_A [(h0, .inr (5, oX5 rB sB)), ((rB 0), .inr (8, oX8 rR sR)), ((rB 1), .inl (cy 0, 3, .inl B_begins)), ((rB 2), .inl (cy 0, 3, .inl B_times)), ((rB 4), .inl (cy 0, 200, .inl B_sets)), ((rR 0), .inl (cy 1, 500, .inl R_text))] sz) := by
  refine ofWi (by decide) (Nat.le_of_ble_eq_true rfl) ?_
  intro p e s m args below meth c ls A R QQ hx hb hml hown hts hR hlk hE hK hP hD hS hA hl hret
  have hown : s.vm.findClass RX5 = some m.cls := hown
  have hRf : 5 ≤ R.frames := by rw [hR]; exact Nat.le_refl _
  have hRl : 222 ≤ R.locals := by rw [hR]; exact Nat.le_refl _
  clear hR
  have hl : lv_has ls 2 [(0, .ref h0), (1, .int x1)] := hl
  have J60 : ∀ (H : Heap) (locs : List Loc) (ls : Array Slot), wpX5_readPart_J60 sB sR B_begins B_times B_sets R_text post → va_P D clsX [(h0, .inr (5, oX5 rB sB)), ((rB 0), .inr (8, oX8 rR sR)), ((rB 1), .inl (cy 0, 3, .inl B_begins)), ((rB 2), .inl (cy 0, 3, .inl B_times)), ((rB 4), .inl (cy 0, 200, .inl B_sets)), ((rR 0), .inl (cy 1, 500, .inl R_text))] H → va_D A [(h0, .inr (5, oX5 rB sB)), ((rB 0), .inr (8, oX8 rR sR)), ((rB 1), .inl (cy 0, 3, .inl B_begins)), ((rB 2), .inl (cy 0, 3, .inl B_times)), ((rB 4), .inl (cy 0, 200, .inl B_sets)), ((rR 0), .inl (cy 1, 500, .inl R_text))] → va_S A s.heap H locs → lv_has ls 2 [(0, .ref h0)] → W p l e R s m args below meth c H locs 0 0 QQ (F0 m 60 ls []) := by
    intro  H locs ls h hP hD hS hl
    refine lv_aload_n hx hb dX5_readPart_60 rfl (lv_at hl 0 rfl) ?_
    refine gfX5_21 hx hb hts hown hK hP 0 rfl dX5_readPart_61 ?_
    refine lv_iconst (v := (1 : Int32)) hx hb dX5_readPart_64 (by decide) ?_
    refine clVi (As := [.int (1 : Int32)]) (rest := []) (Wr := [(h0, .inr (5, oX5 rB sB)), ((rB 1), .inl (cy 0, 3, .inl B_begins)), ((rB 2), .inl (cy 0, 3, .inl B_times)), ((rB 4), .inl (cy 0, 200, .inl B_sets)), ((rR 0), .inl (cy 1, 500, .inl R_text))]) (cq := (RX8, TX8, 10)) ⟨hx, hb, hml, hown, hts⟩ ⟨callB_of 1 hts (goodC mw811) rfl rfl rfl (hts _ (tb mw2)) (hts _ (tb mw918)) kdX8_refuse ⟨Nat.le_trans (by decide) hRf, Nat.le_trans (by decide) hRl⟩, hts _ (tb mw809), hts _ (tb mw810)⟩ (ctX8_refuse l D cy ev (rB 0) rR sR (1 : Int32) _ _ h) hE hK hP hD hS hA [1] [0, 2, 3, 4, 5] rfl rfl (by decide) (by decide) (by decide) 0 rfl rfl rfl hl.1 rfl (Nat.le_of_ble_eq_true rfl) ⟨Nat.zero_le _, Nat.zero_le _⟩ dX5_readPart_65 (fun r65 sR_65 H locs h hP hD hS => ?_)
    have hP : va_P D clsX [(h0, .inr (5, oX5 rB sB)), ((rB 1), .inl (cy 0, 3, .inl B_begins)), ((rB 2), .inl (cy 0, 3, .inl B_times)), ((rB 4), .inl (cy 0, 200, .inl B_sets)), ((rR 0), .inl (cy 1, 500, .inl R_text)), ((rB 0), .inr (8, oX8 rR sR_65))] H := hP
    have hD : va_D A [(h0, .inr (5, oX5 rB sB)), ((rB 1), .inl (cy 0, 3, .inl B_begins)), ((rB 2), .inl (cy 0, 3, .inl B_times)), ((rB 4), .inl (cy 0, 200, .inl B_sets)), ((rR 0), .inl (cy 1, 500, .inl R_text)), ((rB 0), .inr (8, oX8 rR sR_65))] := hD
    obtain ⟨hz, h⟩ := h
    exact hret r65 (sB, sR_65, B_begins, B_times, B_sets) _ _ _ _ hz dX5_readPart_68 h (hP.sub [0, 5, 1, 2, 3, 4] rfl) (hD.sub [0, 5, 1, 2, 3, 4] (by decide) rfl) hS
  refine lv_aload_n hx hb dX5_readPart_0 rfl (lv_at hl 0 rfl) ?_
  refine gfX5_21 hx hb hts hown hK hP 0 rfl dX5_readPart_1 ?_
  refine va_ldcS hx hb hown (hE.1 17 (by decide)).1 dX5_readPart_4 ?_
  refine clVi (As := [.ref (ev (2 * 17))]) (rest := []) (Wr := [(h0, .inr (5, oX5 rB sB)), ((rB 1), .inl (cy 0, 3, .inl B_begins)), ((rB 2), .inl (cy 0, 3, .inl B_times)), ((rB 4), .inl (cy 0, 200, .inl B_sets))]) (cq := (RX8, TX8, 10)) ⟨hx, hb, hml, hown, hts⟩ ⟨callB_of 1 hts (goodC mw750) rfl rfl rfl (hts _ (tb mw2)) (hts _ (tb mw900)) kdX8_isWord ⟨Nat.le_trans (by decide) hRf, Nat.le_trans (by decide) hRl⟩, hts _ (tb mw748), hts _ (tb mw749)⟩ (ctX8_isWord l D cy ev (rB 0) rR sR R_text 17  _ _ h) hE hK hP hD hS hA [1, 5] [0, 2, 3, 4] rfl rfl (by decide) (by decide) (by decide) 0 rfl rfl rfl hl.1 rfl (Nat.le_of_ble_eq_true rfl) ⟨Nat.zero_le _, Nat.zero_le _⟩ dX5_readPart_6 (fun r6 u H locs h hP hD hS => ?_)
  have hP : va_P D clsX [(h0, .inr (5, oX5 rB sB)), ((rB 1), .inl (cy 0, 3, .inl B_begins)), ((rB 2), .inl (cy 0, 3, .inl B_times)), ((rB 4), .inl (cy 0, 200, .inl B_sets)), ((rB 0), .inr (8, oX8 rR sR)), ((rR 0), .inl (cy 1, 500, .inl R_text))] H := hP
  have hD : va_D A [(h0, .inr (5, oX5 rB sB)), ((rB 1), .inl (cy 0, 3, .inl B_begins)), ((rB 2), .inl (cy 0, 3, .inl B_times)), ((rB 4), .inl (cy 0, 200, .inl B_sets)), ((rB 0), .inr (8, oX8 rR sR)), ((rR 0), .inl (cy 1, 500, .inl R_text))] := hD
  refine lv_if_eq (tgt := 18) hx hb dX5_readPart_9 (by decide) (fun c9 => ?_) (fun c9 => ?_)
  · have h := h.1 c9
    refine lv_aload_n hx hb dX5_readPart_18 rfl (lv_at hl 0 rfl) ?_
    refine gfX5_21 hx hb hts hown hK hP 0 rfl dX5_readPart_19 ?_
    refine va_ldcS hx hb hown (hE.1 18 (by decide)).1 dX5_readPart_22 ?_
    refine clVi (As := [.ref (ev (2 * 18))]) (rest := []) (Wr := [(h0, .inr (5, oX5 rB sB)), ((rB 1), .inl (cy 0, 3, .inl B_begins)), ((rB 2), .inl (cy 0, 3, .inl B_times)), ((rB 4), .inl (cy 0, 200, .inl B_sets))]) (cq := (RX8, TX8, 10)) ⟨hx, hb, hml, hown, hts⟩ ⟨callB_of 1 hts (goodC mw750) rfl rfl rfl (hts _ (tb mw2)) (hts _ (tb mw900)) kdX8_isWord ⟨Nat.le_trans (by decide) hRf, Nat.le_trans (by decide) hRl⟩, hts _ (tb mw748), hts _ (tb mw749)⟩ (ctX8_isWord l D cy ev (rB 0) rR sR R_text 18  _ _ h) hE hK hP hD hS hA [4, 5] [0, 1, 2, 3] rfl rfl (by decide) (by decide) (by decide) 0 rfl rfl rfl hl.1 rfl (Nat.le_of_ble_eq_true rfl) ⟨Nat.zero_le _, Nat.zero_le _⟩ dX5_readPart_24 (fun r24 u H locs h hP hD hS => ?_)
    have hP : va_P D clsX [(h0, .inr (5, oX5 rB sB)), ((rB 1), .inl (cy 0, 3, .inl B_begins)), ((rB 2), .inl (cy 0, 3, .inl B_times)), ((rB 4), .inl (cy 0, 200, .inl B_sets)), ((rB 0), .inr (8, oX8 rR sR)), ((rR 0), .inl (cy 1, 500, .inl R_text))] H := hP
    have hD : va_D A [(h0, .inr (5, oX5 rB sB)), ((rB 1), .inl (cy 0, 3, .inl B_begins)), ((rB 2), .inl (cy 0, 3, .inl B_times)), ((rB 4), .inl (cy 0, 200, .inl B_sets)), ((rB 0), .inr (8, oX8 rR sR)), ((rR 0), .inl (cy 1, 500, .inl R_text))] := hD
    refine lv_if_eq (tgt := 35) hx hb dX5_readPart_27 (by decide) (fun c27 => ?_) (fun c27 => ?_)
    · have h := h.1 c27
      refine lv_aload_n hx hb dX5_readPart_35 rfl (lv_at hl 0 rfl) ?_
      refine gfX5_29 (v := (sB 3)) hx hb hts hown hK hP 0 rfl rfl dX5_readPart_36 ?_
      refine lv_if_le (tgt := 60) hx hb dX5_readPart_39 (by decide) (fun c39 => ?_) (fun c39 => ?_)
      · have h := h.1 c39
        exact J60  _ _ _ h (hP.sub [0, 4, 1, 2, 3, 5] rfl) (hD.sub [0, 4, 1, 2, 3, 5] (by decide) rfl) hS (lv_sub hl [0] rfl)
      · have h := h.2 c39
        refine lv_aload_n hx hb dX5_readPart_42 rfl (lv_at hl 0 rfl) ?_
        refine gfX5_21 hx hb hts hown hK hP 0 rfl dX5_readPart_43 ?_
        refine lv_bipush (v := (125 : Int32)) hx hb dX5_readPart_46 (by decide) ?_
        refine clVi (As := [.int (125 : Int32)]) (rest := []) (Wr := [(h0, .inr (5, oX5 rB sB)), ((rB 1), .inl (cy 0, 3, .inl B_begins)), ((rB 2), .inl (cy 0, 3, .inl B_times)), ((rB 4), .inl (cy 0, 200, .inl B_sets))]) (cq := (RX8, TX8, 10)) ⟨hx, hb, hml, hown, hts⟩ ⟨callB_of 1 hts (goodC mw879) rfl rfl rfl (hts _ (tb mw2)) (hts _ (tb mw919)) kdX8_isSign ⟨Nat.le_trans (by decide) hRf, Nat.le_trans (by decide) hRl⟩, hts _ (tb mw877), hts _ (tb mw878)⟩ (ctX8_isSign l D cy ev (rB 0) rR sR R_text (125 : Int32) _ _ h) hE hK hP hD hS hA [4, 5] [0, 1, 2, 3] rfl rfl (by decide) (by decide) (by decide) 0 rfl rfl rfl hl.1 rfl (Nat.le_of_ble_eq_true rfl) ⟨Nat.zero_le _, Nat.zero_le _⟩ dX5_readPart_48 (fun r48 u H locs h hP hD hS => ?_)
        have hP : va_P D clsX [(h0, .inr (5, oX5 rB sB)), ((rB 1), .inl (cy 0, 3, .inl B_begins)), ((rB 2), .inl (cy 0, 3, .inl B_times)), ((rB 4), .inl (cy 0, 200, .inl B_sets)), ((rB 0), .inr (8, oX8 rR sR)), ((rR 0), .inl (cy 1, 500, .inl R_text))] H := hP
        have hD : va_D A [(h0, .inr (5, oX5 rB sB)), ((rB 1), .inl (cy 0, 3, .inl B_begins)), ((rB 2), .inl (cy 0, 3, .inl B_times)), ((rB 4), .inl (cy 0, 200, .inl B_sets)), ((rB 0), .inr (8, oX8 rR sR)), ((rR 0), .inl (cy 1, 500, .inl R_text))] := hD
        refine lv_if_eq (tgt := 60) hx hb dX5_readPart_51 (by decide) (fun c51 => ?_) (fun c51 => ?_)
        · have h := h.1 c51
          exact J60  _ _ _ h (hP.sub [0, 4, 1, 2, 3, 5] rfl) (hD.sub [0, 4, 1, 2, 3, 5] (by decide) rfl) hS (lv_sub hl [0] rfl)
        · have h := h.2 c51
          refine lv_aload_n hx hb dX5_readPart_54 rfl (lv_at hl 0 rfl) ?_
          refine clVv (As := []) (rest := []) (Wr := []) (cq := (RX5, TX5, 6)) ⟨hx, hb, hml, hown, hts⟩ ⟨callB_of 0 hts (goodC mw923) rfl rfl rfl (hts _ (tb mw7)) (hts _ (tb mw920)) kdX5_closeAgain ⟨Nat.le_trans (by decide) hRf, Nat.le_trans (by decide) hRl⟩, hts _ (tb mw922), hts _ (tb ms27)⟩ (ctX5_closeAgain l D cy ev h0 rB rR sB sR B_begins B_times B_sets R_text  _ _ h) hE hK hP hD hS hA [0, 4, 1, 2, 3, 5] [] rfl rfl (by decide) (by decide) (by decide) 0 rfl rfl rfl hl.1 rfl (Nat.le_of_ble_eq_true rfl) ⟨Nat.zero_le _, Nat.zero_le _⟩ dX5_readPart_55 (fun u H locs h hP hD hS => ?_)
          obtain ⟨sB_55, sR_55, B_sets_55⟩ := u
          have hP : va_P D clsX [(h0, .inr (5, oX5 rB sB_55)), ((rB 0), .inr (8, oX8 rR sR_55)), ((rB 1), .inl (cy 0, 3, .inl B_begins)), ((rB 2), .inl (cy 0, 3, .inl B_times)), ((rB 4), .inl (cy 0, 200, .inl B_sets_55)), ((rR 0), .inl (cy 1, 500, .inl R_text))] H := hP
          have hD : va_D A [(h0, .inr (5, oX5 rB sB_55)), ((rB 0), .inr (8, oX8 rR sR_55)), ((rB 1), .inl (cy 0, 3, .inl B_begins)), ((rB 2), .inl (cy 0, 3, .inl B_times)), ((rB 4), .inl (cy 0, 200, .inl B_sets_55)), ((rR 0), .inl (cy 1, 500, .inl R_text))] := hD
          refine lv_iconst (v := (1 : Int32)) hx hb dX5_readPart_58 (by decide) ?_
          exact hret (1 : Int32) (sB_55, sR_55, B_begins, B_times, B_sets_55) _ _ _ _ rfl dX5_readPart_59 h hP hD hS
    · have h := h.2 c27
      refine lv_aload_n hx hb dX5_readPart_30 rfl (lv_at hl 0 rfl) ?_
      refine clVi (As := []) (rest := []) (Wr := [((rB 4), .inl (cy 0, 200, .inl B_sets))]) (cq := (RX5, TX5, 6)) ⟨hx, hb, hml, hown, hts⟩ ⟨callB_of 0 hts (goodC mw917) rfl rfl rfl (hts _ (tb mw7)) (hts _ (tb mw914)) kdX5_openAgain ⟨Nat.le_trans (by decide) hRf, Nat.le_trans (by decide) hRl⟩, hts _ (tb mw916), hts _ (tb ms26)⟩ (ctX5_openAgain l D cy ev h0 rB rR sB sR B_begins B_times R_text  _ _ h) hE hK hP hD hS hA [0, 4, 1, 2, 5] [3] rfl rfl (by decide) (by decide) (by decide) 0 rfl rfl rfl hl.1 rfl (Nat.le_of_ble_eq_true rfl) ⟨Nat.zero_le _, Nat.zero_le _⟩ dX5_readPart_31 (fun r31 u H locs h hP hD hS => ?_)
      obtain ⟨sB_31, sR_31, B_begins_31, B_times_31⟩ := u
      have hP : va_P D clsX [((rB 4), .inl (cy 0, 200, .inl B_sets)), (h0, .inr (5, oX5 rB sB_31)), ((rB 0), .inr (8, oX8 rR sR_31)), ((rB 1), .inl (cy 0, 3, .inl B_begins_31)), ((rB 2), .inl (cy 0, 3, .inl B_times_31)), ((rR 0), .inl (cy 1, 500, .inl R_text))] H := hP
      have hD : va_D A [((rB 4), .inl (cy 0, 200, .inl B_sets)), (h0, .inr (5, oX5 rB sB_31)), ((rB 0), .inr (8, oX8 rR sR_31)), ((rB 1), .inl (cy 0, 3, .inl B_begins_31)), ((rB 2), .inl (cy 0, 3, .inl B_times_31)), ((rR 0), .inl (cy 1, 500, .inl R_text))] := hD
      obtain ⟨hz, h⟩ := h
      exact hret r31 (sB_31, sR_31, B_begins_31, B_times_31, B_sets) _ _ _ _ hz dX5_readPart_34 h (hP.sub [1, 2, 3, 4, 0, 5] rfl) (hD.sub [1, 2, 3, 4, 0, 5] (by decide) rfl) hS
  · have h := h.2 c9
    refine lv_aload_n hx hb dX5_readPart_12 rfl (lv_at hl 0 rfl) ?_
    refine lv_iload_n hx hb dX5_readPart_13 rfl (lv_at hl 1 rfl) ?_
    refine clVi (As := [.int x1]) (rest := []) (Wr := [((rB 1), .inl (cy 0, 3, .inl B_begins)), ((rB 2), .inl (cy 0, 3, .inl B_times))]) (cq := (RX5, TX5, 6)) ⟨hx, hb, hml, hown, hts⟩ ⟨callB_of 1 hts (goodC mw904) rfl rfl rfl (hts _ (tb mw7)) (hts _ (tb mw901)) kdX5_readRing ⟨Nat.le_trans (by decide) hRf, Nat.le_trans (by decide) hRl⟩, hts _ (tb mw903), hts _ (tb ms24)⟩ (ctX5_readRing l D cy ev h0 rB rR sB sR B_sets R_text x1 _ _ h) hE hK hP hD hS hA [0, 4, 3, 5] [1, 2] rfl rfl (by decide) (by decide) (by decide) 0 rfl rfl rfl hl.1 rfl (Nat.le_of_ble_eq_true rfl) ⟨Nat.zero_le _, Nat.zero_le _⟩ dX5_readPart_14 (fun r14 u H locs h hP hD hS => ?_)
    obtain ⟨sB_14, sR_14, B_sets_14⟩ := u
    have hP : va_P D clsX [((rB 1), .inl (cy 0, 3, .inl B_begins)), ((rB 2), .inl (cy 0, 3, .inl B_times)), (h0, .inr (5, oX5 rB sB_14)), ((rB 0), .inr (8, oX8 rR sR_14)), ((rB 4), .inl (cy 0, 200, .inl B_sets_14)), ((rR 0), .inl (cy 1, 500, .inl R_text))] H := hP
    have hD : va_D A [((rB 1), .inl (cy 0, 3, .inl B_begins)), ((rB 2), .inl (cy 0, 3, .inl B_times)), (h0, .inr (5, oX5 rB sB_14)), ((rB 0), .inr (8, oX8 rR sR_14)), ((rB 4), .inl (cy 0, 200, .inl B_sets_14)), ((rR 0), .inl (cy 1, 500, .inl R_text))] := hD
    obtain ⟨hz, h⟩ := h
    exact hret r14 (sB_14, sR_14, B_begins, B_times, B_sets_14) _ _ _ _ hz dX5_readPart_17 h (hP.sub [2, 3, 0, 1, 4, 5] rfl) (hD.sub [2, 3, 0, 1, 4, 5] (by decide) rfl) hS
def wpX5_read_L12 (R_text : AR) (l1 : Int32) (kx45 : AR → AR → AR → AR → AR → Int32 → Prop) (post : Int32 → AR → AR → AR → AR → AR → Prop) : Nat → AR → AR → AR → AR → AR → Int32 → Prop
  | 0, _, _, _, _, _, _ => False
  | nf12 + 1, sB, sR, B_begins, B_times, B_sets, l2 => (((500 : Int32) < l2 → kx45 sB sR B_begins B_times B_sets l2) ∧ (¬ (500 : Int32) < l2 → (((sR 7) = 0 → kx45 sB sR B_begins B_times B_sets l2) ∧ (¬ (sR 7) = 0 → wpX5_readPart sB sR B_begins B_times B_sets R_text l1 (fun r31 sB_31 sR_31 B_begins_31 B_times_31 B_sets_31 => ((¬ r31 = 0 → ∀ l2_39 : Int32, l2_39 = (l2 + (1 : Int32)) → wpX5_read_L12 R_text l1 kx45 post nf12 sB_31 sR_31 B_begins_31 B_times_31 B_sets_31 l2_39) ∧ (r31 = 0 → post (0 : Int32) sB_31 sR_31 B_begins_31 B_times_31 B_sets_31)))))))
def wpX5_read_J45 (sB : AR) (sR : AR) (B_begins : AR) (B_times : AR) (B_sets : AR) (R_text : AR) (post : Int32 → AR → AR → AR → AR → AR → Prop) : Prop := (((sB 3) = 0 → post (1 : Int32) sB sR B_begins B_times B_sets) ∧ (¬ (sB 3) = 0 → wpX8_refuse sR (1 : Int32) (fun r57 sR_57 => ((r57 = 0 → post (0 : Int32) sB sR_57 B_begins B_times B_sets) ∧ (¬ r57 = 0 → post (1 : Int32) sB sR_57 B_begins B_times B_sets)))))
def wpX5_read (sB : AR) (sR : AR) (B_begins : AR) (B_times : AR) (B_sets : AR) (R_text : AR) (x1 : Int32) (post : Int32 → AR → AR → AR → AR → AR → Prop) : Prop := ∃ nf12 : Nat, wpX5_read_L12 R_text x1 (fun sB_45 sR_45 B_begins_45 B_times_45 B_sets_45 l2_45 => wpX5_read_J45 sB_45 sR_45 B_begins_45 B_times_45 B_sets_45 R_text post) post nf12 (upd (upd sB 5 (0 : Int32)) 3 (0 : Int32)) sR B_begins B_times B_sets (0 : Int32)
set_option maxHeartbeats 4000000 in
set_option maxRecDepth 100000 in
theorem ctX5_read (l : Launch) (D : va_G) (cy : Nat → ClassId) (ev : Nat → Nat) (h0 : Nat) (rB : Nat → Nat) (rR : Nat → Nat) (sB : AR) (sR : AR) (B_begins : AR) (B_times : AR) (B_sets : AR) (R_text : AR) (x1 : Int32) (sz : Nat) (post : Int32 → AR → AR → AR → AR → AR → Prop) (h : wpX5_read sB sR B_begins B_times B_sets R_text x1 post) : Met l yX5_read (Cond.code yX5_read cX5_read 3 (some .boolean) :: TB) ({ frames := 6, cells := 0, slots := 0, locals := 243 }) (va_Pc [.ref h0, .int x1] (PreX D cy ev [(h0, .inr (5, oX5 rB sB)), ((rB 0), .inr (8, oX8 rR sR)), ((rB 1), .inl (cy 0, 3, .inl B_begins)), ((rB 2), .inl (cy 0, 3, .inl B_times)), ((rB 4), .inl (cy 0, 200, .inl B_sets)), ((rR 0), .inl (cy 1, 500, .inl R_text))] sz)) (va_Qi (fun (r : Int32) (u : AR × AR × AR × AR × AR) => post r (u.1) (u.2.1) (u.2.2.1) (u.2.2.2.1) (u.2.2.2.2)) (fun u => BkX D cy [(h0, .inr (5, oX5 rB sB)), ((rB 0), .inr (8, oX8 rR sR)), ((rB 1), .inl (cy 0, 3, .inl B_begins)), ((rB 2), .inl (cy 0, 3, .inl B_times)), ((rB 4), .inl (cy 0, 200, .inl B_sets)), ((rR 0), .inl (cy 1, 500, .inl R_text))] sz [(h0, .inr (5, oX5 rB (u.1))), ((rB 0), .inr (8, oX8 rR (u.2.1))), ((rB 1), .inl (cy 0, 3, .inl (u.2.2.1))), ((rB 2), .inl (cy 0, 3, .inl (u.2.2.2.1))), ((rB 4), .inl (cy 0, 200, .inl (u.2.2.2.2))), ((rR 0), .inl (cy 1, 500, .inl R_text))]) (va_A [(h0, .inr (5, oX5 rB sB)), ((rB 0), .inr (8, oX8 rR sR)), ((rB 1), .inl (cy 0, 3, .inl B_begins)), ((rB 2), .inl (cy 0, 3, .inl B_times)), ((rB 4), .inl (cy 0, 200, .inl B_sets)), ((rR 0), .inl (cy 1, 500, .inl R_text))] sz)) 0 0 (va_A [(h0, .inr (5, oX5 rB sB)), ((rB 0), .inr (8, oX8 rR sR)), ((rB 1), .inl (cy 0, 3, .inl B_begins)), ((rB 2), .inl (cy 0, 3, .inl B_times)), ((rB 4), .inl (cy 0, 200, .inl B_sets)), ((rR 0), .inl (cy 1, 500, .inl R_text))] sz) := by
  refine ofWi (by decide) (Nat.le_of_ble_eq_true rfl) ?_
  intro p e s m args below meth c ls A R QQ hx hb hml hown hts hR hlk hE hK hP hD hS hA hl hret
  have hown : s.vm.findClass RX5 = some m.cls := hown
  have hRf : 6 ≤ R.frames := by rw [hR]; exact Nat.le_refl _
  have hRl : 243 ≤ R.locals := by rw [hR]; exact Nat.le_refl _
  clear hR
  have hl : lv_has ls 3 [(0, .ref h0), (1, .int x1)] := hl
  have J45 : ∀ (sB : AR) (sR : AR) (B_begins : AR) (B_times : AR) (B_sets : AR) (H : Heap) (locs : List Loc) (ls : Array Slot), wpX5_read_J45 sB sR B_begins B_times B_sets R_text post → va_P D clsX [(h0, .inr (5, oX5 rB sB)), ((rB 0), .inr (8, oX8 rR sR)), ((rB 1), .inl (cy 0, 3, .inl B_begins)), ((rB 2), .inl (cy 0, 3, .inl B_times)), ((rB 4), .inl (cy 0, 200, .inl B_sets)), ((rR 0), .inl (cy 1, 500, .inl R_text))] H → va_D A [(h0, .inr (5, oX5 rB sB)), ((rB 0), .inr (8, oX8 rR sR)), ((rB 1), .inl (cy 0, 3, .inl B_begins)), ((rB 2), .inl (cy 0, 3, .inl B_times)), ((rB 4), .inl (cy 0, 200, .inl B_sets)), ((rR 0), .inl (cy 1, 500, .inl R_text))] → va_S A s.heap H locs → lv_has ls 3 [(0, .ref h0)] → W p l e R s m args below meth c H locs 0 0 QQ (F0 m 45 ls []) := by
    intro sB sR B_begins B_times B_sets H locs ls h hP hD hS hl
    refine lv_aload_n hx hb dX5_read_45 rfl (lv_at hl 0 rfl) ?_
    refine gfX5_29 (v := (sB 3)) hx hb hts hown hK hP 0 rfl rfl dX5_read_46 ?_
    refine lv_if_eq (tgt := 63) hx hb dX5_read_49 (by decide) (fun c49 => ?_) (fun c49 => ?_)
    · have h := h.1 c49
      refine lv_iconst (v := (1 : Int32)) hx hb dX5_read_63 (by decide) ?_
      refine lv_goto (tgt := 68) hx hb dX5_read_64 (by decide) ?_
      exact hret (1 : Int32) (sB, sR, B_begins, B_times, B_sets) _ _ _ _ rfl dX5_read_68 h hP hD hS
    · have h := h.2 c49
      refine lv_aload_n hx hb dX5_read_52 rfl (lv_at hl 0 rfl) ?_
      refine gfX5_21 hx hb hts hown hK hP 0 rfl dX5_read_53 ?_
      refine lv_iconst (v := (1 : Int32)) hx hb dX5_read_56 (by decide) ?_
      refine clVi (As := [.int (1 : Int32)]) (rest := []) (Wr := [(h0, .inr (5, oX5 rB sB)), ((rB 1), .inl (cy 0, 3, .inl B_begins)), ((rB 2), .inl (cy 0, 3, .inl B_times)), ((rB 4), .inl (cy 0, 200, .inl B_sets)), ((rR 0), .inl (cy 1, 500, .inl R_text))]) (cq := (RX8, TX8, 10)) ⟨hx, hb, hml, hown, hts⟩ ⟨callB_of 1 hts (goodC mw811) rfl rfl rfl (hts _ (tb mw2)) (hts _ (tb mw918)) kdX8_refuse ⟨Nat.le_trans (by decide) hRf, Nat.le_trans (by decide) hRl⟩, hts _ (tb mw809), hts _ (tb mw810)⟩ (ctX8_refuse l D cy ev (rB 0) rR sR (1 : Int32) _ _ h) hE hK hP hD hS hA [1] [0, 2, 3, 4, 5] rfl rfl (by decide) (by decide) (by decide) 0 rfl rfl rfl hl.1 rfl (Nat.le_of_ble_eq_true rfl) ⟨Nat.zero_le _, Nat.zero_le _⟩ dX5_read_57 (fun r57 sR_57 H locs h hP hD hS => ?_)
      have hP : va_P D clsX [(h0, .inr (5, oX5 rB sB)), ((rB 1), .inl (cy 0, 3, .inl B_begins)), ((rB 2), .inl (cy 0, 3, .inl B_times)), ((rB 4), .inl (cy 0, 200, .inl B_sets)), ((rR 0), .inl (cy 1, 500, .inl R_text)), ((rB 0), .inr (8, oX8 rR sR_57))] H := hP
      have hD : va_D A [(h0, .inr (5, oX5 rB sB)), ((rB 1), .inl (cy 0, 3, .inl B_begins)), ((rB 2), .inl (cy 0, 3, .inl B_times)), ((rB 4), .inl (cy 0, 200, .inl B_sets)), ((rR 0), .inl (cy 1, 500, .inl R_text)), ((rB 0), .inr (8, oX8 rR sR_57))] := hD
      refine lv_if_eq (tgt := 67) hx hb dX5_read_60 (by decide) (fun c60 => ?_) (fun c60 => ?_)
      · have h := h.1 c60
        refine lv_iconst (v := (0 : Int32)) hx hb dX5_read_67 (by decide) ?_
        exact hret (0 : Int32) (sB, sR_57, B_begins, B_times, B_sets) _ _ _ _ rfl dX5_read_68 h (hP.sub [0, 5, 1, 2, 3, 4] rfl) (hD.sub [0, 5, 1, 2, 3, 4] (by decide) rfl) hS
      · have h := h.2 c60
        refine lv_iconst (v := (1 : Int32)) hx hb dX5_read_63 (by decide) ?_
        refine lv_goto (tgt := 68) hx hb dX5_read_64 (by decide) ?_
        exact hret (1 : Int32) (sB, sR_57, B_begins, B_times, B_sets) _ _ _ _ rfl dX5_read_68 h (hP.sub [0, 5, 1, 2, 3, 4] rfl) (hD.sub [0, 5, 1, 2, 3, 4] (by decide) rfl) hS
  have L12 : ∀ (l1 : Int32) (kx45 : AR → AR → AR → AR → AR → Int32 → Prop), (∀ (sB : AR) (sR : AR) (B_begins : AR) (B_times : AR) (B_sets : AR) (l2 : Int32) (H : Heap) (locs : List Loc) (ls : Array Slot), kx45 sB sR B_begins B_times B_sets l2 → va_P D clsX [(h0, .inr (5, oX5 rB sB)), ((rB 0), .inr (8, oX8 rR sR)), ((rB 1), .inl (cy 0, 3, .inl B_begins)), ((rB 2), .inl (cy 0, 3, .inl B_times)), ((rB 4), .inl (cy 0, 200, .inl B_sets)), ((rR 0), .inl (cy 1, 500, .inl R_text))] H → va_D A [(h0, .inr (5, oX5 rB sB)), ((rB 0), .inr (8, oX8 rR sR)), ((rB 1), .inl (cy 0, 3, .inl B_begins)), ((rB 2), .inl (cy 0, 3, .inl B_times)), ((rB 4), .inl (cy 0, 200, .inl B_sets)), ((rR 0), .inl (cy 1, 500, .inl R_text))] → va_S A s.heap H locs → lv_has ls 3 [(0, .ref h0)] → W p l e R s m args below meth c H locs 0 0 QQ (F0 m 45 ls [])) → ∀ (nf12 : Nat) (sB : AR) (sR : AR) (B_begins : AR) (B_times : AR) (B_sets : AR) (l2 : Int32) (H : Heap) (locs : List Loc) (ls : Array Slot), wpX5_read_L12 R_text l1 kx45 post nf12 sB sR B_begins B_times B_sets l2 → va_P D clsX [(h0, .inr (5, oX5 rB sB)), ((rB 0), .inr (8, oX8 rR sR)), ((rB 1), .inl (cy 0, 3, .inl B_begins)), ((rB 2), .inl (cy 0, 3, .inl B_times)), ((rB 4), .inl (cy 0, 200, .inl B_sets)), ((rR 0), .inl (cy 1, 500, .inl R_text))] H → va_D A [(h0, .inr (5, oX5 rB sB)), ((rB 0), .inr (8, oX8 rR sR)), ((rB 1), .inl (cy 0, 3, .inl B_begins)), ((rB 2), .inl (cy 0, 3, .inl B_times)), ((rB 4), .inl (cy 0, 200, .inl B_sets)), ((rR 0), .inl (cy 1, 500, .inl R_text))] → va_S A s.heap H locs → lv_has ls 3 [(0, .ref h0), (1, .int l1), (2, .int l2)] → W p l e R s m args below meth c H locs 0 0 QQ (F0 m 12 ls []) := by
    intro l1 kx45 hk12_45 nf12
    induction nf12 with
    | zero =>
      intro sB sR B_begins B_times B_sets l2 H locs ls h
      exact (show False from h).elim
    | succ nf12 ih12 =>
      intro sB sR B_begins B_times B_sets l2 H locs ls h hP hD hS hl
      refine lv_iload_n hx hb dX5_read_12 rfl (lv_at hl 2 rfl) ?_
      refine lv_sipush (v := (500 : Int32)) hx hb dX5_read_13 (by decide) ?_
      refine lv_icmp_gt (tgt := 45) hx hb dX5_read_16 (by decide) (fun c16 => ?_) (fun c16 => ?_)
      · have h := h.1 c16
        exact hk12_45 sB sR B_begins B_times B_sets l2 _ _ _ h hP hD hS (lv_sub hl [0] rfl)
      · have h := h.2 c16
        refine lv_aload_n hx hb dX5_read_19 rfl (lv_at hl 0 rfl) ?_
        refine gfX5_21 hx hb hts hown hK hP 0 rfl dX5_read_20 ?_
        refine gfX5_32 (v := (sR 7)) hx hb hts hown hK hP 1 rfl rfl dX5_read_23 ?_
        refine lv_if_eq (tgt := 45) hx hb dX5_read_26 (by decide) (fun c26 => ?_) (fun c26 => ?_)
        · have h := h.1 c26
          exact hk12_45 sB sR B_begins B_times B_sets l2 _ _ _ h hP hD hS (lv_sub hl [0] rfl)
        · have h := h.2 c26
          refine lv_aload_n hx hb dX5_read_29 rfl (lv_at hl 0 rfl) ?_
          refine lv_iload_n hx hb dX5_read_30 rfl (lv_at hl 1 rfl) ?_
          refine clVi (As := [.int l1]) (rest := []) (Wr := []) (cq := (RX5, TX5, 6)) ⟨hx, hb, hml, hown, hts⟩ ⟨callB_of 1 hts (goodC mw898) rfl rfl rfl (hts _ (tb mw7)) (hts _ (tb mw895)) kdX5_readPart ⟨Nat.le_trans (by decide) hRf, Nat.le_trans (by decide) hRl⟩, hts _ (tb mw897), hts _ (tb ms23)⟩ (ctX5_readPart l D cy ev h0 rB rR sB sR B_begins B_times B_sets R_text l1 _ _ h) hE hK hP hD hS hA [0, 1, 2, 3, 4, 5] [] rfl rfl (by decide) (by decide) (by decide) 0 rfl rfl rfl hl.1 rfl (Nat.le_of_ble_eq_true rfl) ⟨Nat.zero_le _, Nat.zero_le _⟩ dX5_read_31 (fun r31 u H locs h hP hD hS => ?_)
          obtain ⟨sB_31, sR_31, B_begins_31, B_times_31, B_sets_31⟩ := u
          have hP : va_P D clsX [(h0, .inr (5, oX5 rB sB_31)), ((rB 0), .inr (8, oX8 rR sR_31)), ((rB 1), .inl (cy 0, 3, .inl B_begins_31)), ((rB 2), .inl (cy 0, 3, .inl B_times_31)), ((rB 4), .inl (cy 0, 200, .inl B_sets_31)), ((rR 0), .inl (cy 1, 500, .inl R_text))] H := hP
          have hD : va_D A [(h0, .inr (5, oX5 rB sB_31)), ((rB 0), .inr (8, oX8 rR sR_31)), ((rB 1), .inl (cy 0, 3, .inl B_begins_31)), ((rB 2), .inl (cy 0, 3, .inl B_times_31)), ((rB 4), .inl (cy 0, 200, .inl B_sets_31)), ((rR 0), .inl (cy 1, 500, .inl R_text))] := hD
          refine lv_if_ne (tgt := 39) hx hb dX5_read_34 (by decide) (fun c34 => ?_) (fun c34 => ?_)
          · have h := h.1 c34
            obtain ⟨l2_39, el2_39⟩ : ∃ y : Int32, y = l2 + (1 : Int32) := ⟨_, rfl⟩
            have h := h l2_39 el2_39
            refine lv_iinc (v := l2_39) (lv' := [(2, .int l2_39), (0, .ref h0), (1, .int l1)]) hx hb dX5_read_39 hl (k := 2) rfl (by rw [el2_39]; rfl) (by decide) rfl (fun ls hl => ?_)
            refine lv_goto (tgt := 12) hx hb dX5_read_42 (by decide) ?_
            exact ih12 sB_31 sR_31 B_begins_31 B_times_31 B_sets_31 l2_39 _ _ _ h hP hD hS (lv_sub hl [1, 2, 0] rfl)
          · have h := h.2 c34
            refine lv_iconst (v := (0 : Int32)) hx hb dX5_read_37 (by decide) ?_
            exact hret (0 : Int32) (sB_31, sR_31, B_begins_31, B_times_31, B_sets_31) _ _ _ _ rfl dX5_read_38 h hP hD hS
  refine lv_aload_n hx hb dX5_read_0 rfl (lv_at hl 0 rfl) ?_
  refine lv_iconst (v := (0 : Int32)) hx hb dX5_read_1 (by decide) ?_
  refine pfX5_25 hx hb hts hown hK hP hD hS 0 rfl dX5_read_2 (fun H locs hP hD hS => ?_)
  have hP : va_P D clsX [(h0, .inr (5, oX5 rB (upd sB 5 (0 : Int32)))), ((rB 0), .inr (8, oX8 rR sR)), ((rB 1), .inl (cy 0, 3, .inl B_begins)), ((rB 2), .inl (cy 0, 3, .inl B_times)), ((rB 4), .inl (cy 0, 200, .inl B_sets)), ((rR 0), .inl (cy 1, 500, .inl R_text))] H := hP
  have hD : va_D A [(h0, .inr (5, oX5 rB (upd sB 5 (0 : Int32)))), ((rB 0), .inr (8, oX8 rR sR)), ((rB 1), .inl (cy 0, 3, .inl B_begins)), ((rB 2), .inl (cy 0, 3, .inl B_times)), ((rB 4), .inl (cy 0, 200, .inl B_sets)), ((rR 0), .inl (cy 1, 500, .inl R_text))] := hD
  refine lv_aload_n hx hb dX5_read_5 rfl (lv_at hl 0 rfl) ?_
  refine lv_iconst (v := (0 : Int32)) hx hb dX5_read_6 (by decide) ?_
  refine pfX5_29 hx hb hts hown hK hP hD hS 0 rfl dX5_read_7 (fun H locs hP hD hS => ?_)
  have hP : va_P D clsX [(h0, .inr (5, oX5 rB (upd (upd sB 5 (0 : Int32)) 3 (0 : Int32)))), ((rB 0), .inr (8, oX8 rR sR)), ((rB 1), .inl (cy 0, 3, .inl B_begins)), ((rB 2), .inl (cy 0, 3, .inl B_times)), ((rB 4), .inl (cy 0, 200, .inl B_sets)), ((rR 0), .inl (cy 1, 500, .inl R_text))] H := hP
  have hD : va_D A [(h0, .inr (5, oX5 rB (upd (upd sB 5 (0 : Int32)) 3 (0 : Int32)))), ((rB 0), .inr (8, oX8 rR sR)), ((rB 1), .inl (cy 0, 3, .inl B_begins)), ((rB 2), .inl (cy 0, 3, .inl B_times)), ((rB 4), .inl (cy 0, 200, .inl B_sets)), ((rR 0), .inl (cy 1, 500, .inl R_text))] := hD
  refine lv_iconst (v := (0 : Int32)) hx hb dX5_read_10 (by decide) ?_
  refine lv_istore_n (lv' := [(2, .int (0 : Int32)), (0, .ref h0), (1, .int x1)]) hx hb dX5_read_11 rfl hl (by decide) rfl (fun ls hl => ?_)
  obtain ⟨nf12, h⟩ := h
  refine L12 x1 _ (fun sB_45 sR_45 B_begins_45 B_times_45 B_sets_45 l2_45 H locs ls h hP hD hS hl => ?_) nf12 (upd (upd sB 5 (0 : Int32)) 3 (0 : Int32)) sR B_begins B_times B_sets (0 : Int32) _ _ _ h hP hD hS (lv_sub hl [1, 2, 0] rfl)
  exact J45 sB_45 sR_45 B_begins_45 B_times_45 B_sets_45 _ _ _ h hP hD hS hl
def wpX6_waysToRing_L7 (l0 : Int32) (l1 : Int32) (kx41 : Int32 → Int32 → Int32 → Prop) (post : Int32 → Prop) : Nat → Int32 → Int32 → Int32 → Prop
  | 0, _, _, _ => False
  | nf7 + 1, l2, l3, l4 => ((l1 < l4 → kx41 l2 l3 l4) ∧ (¬ l1 < l4 → ((l0 < l4 → kx41 l2 l3 l4) ∧ (¬ l0 < l4 → ∀ l2_22 : Int32, l2_22 = (l2 + l3) → ¬ (l4 + (1 : Int32)) = 0 ∧ ∀ l3_34 : Int32, l3_34 = ((l3 * (l1 - l4)) / (l4 + (1 : Int32))) → ∀ l4_35 : Int32, l4_35 = (l4 + (1 : Int32)) → wpX6_waysToRing_L7 l0 l1 kx41 post nf7 l2_22 l3_34 l4_35))))
def wpX6_waysToRing (x0 : Int32) (x1 : Int32) (post : Int32 → Prop) : Prop := ∃ nf7 : Nat, wpX6_waysToRing_L7 x0 x1 (fun l2_41 l3_41 l4_41 => post l2_41) post nf7 (0 : Int32) (1 : Int32) (0 : Int32)
set_option maxHeartbeats 4000000 in
set_option maxRecDepth 100000 in
theorem ctX6_waysToRing (l : Launch) (D : va_G) (cy : Nat → ClassId) (ev : Nat → Nat) (aE : Nat) (aW : Nat) (pa : Nat → Nat) (x0 : Int32) (x1 : Int32) (sz : Nat) (post : Int32 → Prop) (h : wpX6_waysToRing x0 x1 post) : Met l yX6_waysToRing (Cond.code yX6_waysToRing cX6_waysToRing 5 (some .int) :: TB) ({ frames := 0, cells := 0, slots := 0, locals := 0 }) (va_Pc [.int x0, .int x1] (PreX D cy ev [] sz)) (va_Qi (fun (r : Int32) (u : Unit) => post r) (fun u => BkX D cy [] sz []) (va_A [] sz)) 0 0 (va_A [] sz) := by
  refine ofWi (by decide) (Nat.le_of_ble_eq_true rfl) ?_
  intro p e s m args below meth c ls A R QQ hx hb hml hown hts hR hlk hE hK hP hD hS hA hl hret
  have hown : s.vm.findClass RX6 = some m.cls := hown
  have hRf : 0 ≤ R.frames := by rw [hR]; exact Nat.le_refl _
  have hRl : 0 ≤ R.locals := by rw [hR]; exact Nat.le_refl _
  clear hR
  have hl : lv_has ls 5 [(0, .int x0), (1, .int x1)] := hl
  have L7 : ∀ (l0 : Int32) (l1 : Int32) (kx41 : Int32 → Int32 → Int32 → Prop), (∀ (l2 : Int32) (l3 : Int32) (l4 : Int32) (H : Heap) (locs : List Loc) (ls : Array Slot), kx41 l2 l3 l4 → va_P D clsX [] H → va_D A [] → va_S A s.heap H locs → lv_has ls 5 [(2, .int l2)] → W p l e R s m args below meth c H locs 0 0 QQ (F0 m 41 ls [])) → ∀ (nf7 : Nat) (l2 : Int32) (l3 : Int32) (l4 : Int32) (H : Heap) (locs : List Loc) (ls : Array Slot), wpX6_waysToRing_L7 l0 l1 kx41 post nf7 l2 l3 l4 → va_P D clsX [] H → va_D A [] → va_S A s.heap H locs → lv_has ls 5 [(0, .int l0), (1, .int l1), (2, .int l2), (3, .int l3), (4, .int l4)] → W p l e R s m args below meth c H locs 0 0 QQ (F0 m 7 ls []) := by
    intro l0 l1 kx41 hk7_41 nf7
    induction nf7 with
    | zero =>
      intro l2 l3 l4 H locs ls h
      exact (show False from h).elim
    | succ nf7 ih7 =>
      intro l2 l3 l4 H locs ls h hP hD hS hl
      refine lv_iload hx hb dX6_waysToRing_7 (lv_at hl 4 rfl) ?_
      refine lv_iload_n hx hb dX6_waysToRing_9 rfl (lv_at hl 1 rfl) ?_
      refine lv_icmp_gt (tgt := 41) hx hb dX6_waysToRing_10 (by decide) (fun c10 => ?_) (fun c10 => ?_)
      · have h := h.1 c10
        exact hk7_41 l2 l3 l4 _ _ _ h hP hD hS (lv_sub hl [2] rfl)
      · have h := h.2 c10
        refine lv_iload hx hb dX6_waysToRing_13 (lv_at hl 4 rfl) ?_
        refine lv_iload_n hx hb dX6_waysToRing_15 rfl (lv_at hl 0 rfl) ?_
        refine lv_icmp_gt (tgt := 41) hx hb dX6_waysToRing_16 (by decide) (fun c16 => ?_) (fun c16 => ?_)
        · have h := h.1 c16
          exact hk7_41 l2 l3 l4 _ _ _ h hP hD hS (lv_sub hl [2] rfl)
        · have h := h.2 c16
          refine lv_iload_n hx hb dX6_waysToRing_19 rfl (lv_at hl 2 rfl) ?_
          refine lv_iload_n hx hb dX6_waysToRing_20 rfl (lv_at hl 3 rfl) ?_
          refine lv_iadd hx hb dX6_waysToRing_21 ?_
          refine lv_topi (fun l2_22 el2_22 => ?_)
          have h := h l2_22 el2_22
          refine lv_istore_n (lv' := [(2, .int l2_22), (0, .int l0), (1, .int l1), (3, .int l3), (4, .int l4)]) hx hb dX6_waysToRing_22 rfl hl (by decide) rfl (fun ls hl => ?_)
          refine lv_iload_n hx hb dX6_waysToRing_23 rfl (lv_at hl 3 rfl) ?_
          refine lv_iload_n hx hb dX6_waysToRing_24 rfl (lv_at hl 2 rfl) ?_
          refine lv_iload hx hb dX6_waysToRing_25 (lv_at hl 4 rfl) ?_
          refine lv_isub hx hb dX6_waysToRing_27 ?_
          refine lv_imul hx hb dX6_waysToRing_28 ?_
          refine lv_iload hx hb dX6_waysToRing_29 (lv_at hl 4 rfl) ?_
          refine lv_iconst (v := (1 : Int32)) hx hb dX6_waysToRing_31 (by decide) ?_
          refine lv_iadd hx hb dX6_waysToRing_32 ?_
          obtain ⟨hne, h⟩ := h
          refine lv_idiv hx hb dX6_waysToRing_33 hne ?_
          refine lv_topi (fun l3_34 el3_34 => ?_)
          have h := h l3_34 el3_34
          refine lv_istore_n (lv' := [(3, .int l3_34), (2, .int l2_22), (0, .int l0), (1, .int l1), (4, .int l4)]) hx hb dX6_waysToRing_34 rfl hl (by decide) rfl (fun ls hl => ?_)
          obtain ⟨l4_35, el4_35⟩ : ∃ y : Int32, y = l4 + (1 : Int32) := ⟨_, rfl⟩
          have h := h l4_35 el4_35
          refine lv_iinc (v := l4_35) (lv' := [(4, .int l4_35), (3, .int l3_34), (2, .int l2_22), (0, .int l0), (1, .int l1)]) hx hb dX6_waysToRing_35 hl (k := 4) rfl (by rw [el4_35]; rfl) (by decide) rfl (fun ls hl => ?_)
          refine lv_goto (tgt := 7) hx hb dX6_waysToRing_38 (by decide) ?_
          exact ih7 l2_22 l3_34 l4_35 _ _ _ h hP hD hS (lv_sub hl [3, 4, 2, 1, 0] rfl)
  refine lv_iconst (v := (0 : Int32)) hx hb dX6_waysToRing_0 (by decide) ?_
  refine lv_istore_n (lv' := [(2, .int (0 : Int32)), (0, .int x0), (1, .int x1)]) hx hb dX6_waysToRing_1 rfl hl (by decide) rfl (fun ls hl => ?_)
  refine lv_iconst (v := (1 : Int32)) hx hb dX6_waysToRing_2 (by decide) ?_
  refine lv_istore_n (lv' := [(3, .int (1 : Int32)), (2, .int (0 : Int32)), (0, .int x0), (1, .int x1)]) hx hb dX6_waysToRing_3 rfl hl (by decide) rfl (fun ls hl => ?_)
  refine lv_iconst (v := (0 : Int32)) hx hb dX6_waysToRing_4 (by decide) ?_
  refine lv_istore (lv' := [(4, .int (0 : Int32)), (3, .int (1 : Int32)), (2, .int (0 : Int32)), (0, .int x0), (1, .int x1)]) hx hb dX6_waysToRing_5 hl (by decide) rfl (fun ls hl => ?_)
  obtain ⟨nf7, h⟩ := h
  refine L7 x0 x1 _ (fun l2_41 l3_41 l4_41 H locs ls h hP hD hS hl => ?_) nf7 (0 : Int32) (1 : Int32) (0 : Int32) _ _ _ h hP hD hS (lv_sub hl [3, 4, 2, 1, 0] rfl)
  refine lv_iload_n hx hb dX6_waysToRing_41 rfl (lv_at hl 0 rfl) ?_
  exact hret l2_41 () _ _ _ _ rfl dX6_waysToRing_42 h hP hD hS
