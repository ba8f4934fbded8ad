theorem dX11_readSet_0 : decode cX11_readSet 0 = .ok (.iconst 0, 1) := by decide +kernel
theorem dX11_readSet_1 : decode cX11_readSet 1 = .ok (.istore_n 1, 1) := by decide +kernel
theorem dX11_readSet_2 : decode cX11_readSet 2 = .ok (.aload_n 0, 1) := by decide +kernel
theorem dX11_readSet_3 : decode cX11_readSet 3 = .ok (.getfield 181, 3) := by decide +kernel
theorem dX11_readSet_6 : decode cX11_readSet 6 = .ok (.ifCond .ne 66, 3) := by decide +kernel
theorem dX11_readSet_9 : decode cX11_readSet 9 = .ok (.aload_n 0, 1) := by decide +kernel
theorem dX11_readSet_10 : decode cX11_readSet 10 = .ok (.getfield 159, 3) := by decide +kernel
theorem dX11_readSet_13 : decode cX11_readSet 13 = .ok (.iconst 2, 1) := by decide +kernel
theorem dX11_readSet_14 : decode cX11_readSet 14 = .ok (.if_icmp .ne 58, 3) := by decide +kernel
theorem dX11_readSet_17 : decode cX11_readSet 17 = .ok (.aload_n 0, 1) := by decide +kernel
theorem dX11_readSet_18 : decode cX11_readSet 18 = .ok (.iconst 0, 1) := by decide +kernel
theorem dX11_readSet_19 : decode cX11_readSet 19 = .ok (.aload_n 0, 1) := by decide +kernel
theorem dX11_readSet_20 : decode cX11_readSet 20 = .ok (.getfield 36, 3) := by decide +kernel
theorem dX11_readSet_23 : decode cX11_readSet 23 = .ok (.iconst 2, 1) := by decide +kernel
theorem dX11_readSet_24 : decode cX11_readSet 24 = .ok (.iaload, 1) := by decide +kernel
theorem dX11_readSet_25 : decode cX11_readSet 25 = .ok (.iconst 1, 1) := by decide +kernel
theorem dX11_readSet_26 : decode cX11_readSet 26 = .ok (.isub, 1) := by decide +kernel
theorem dX11_readSet_27 : decode cX11_readSet 27 = .ok (.invokevirtual 208, 3) := by decide +kernel
theorem dX11_readSet_30 : decode cX11_readSet 30 = .ok (.istore_n 2, 1) := by decide +kernel
theorem dX11_readSet_31 : decode cX11_readSet 31 = .ok (.aload_n 0, 1) := by decide +kernel
theorem dX11_readSet_32 : decode cX11_readSet 32 = .ok (.getfield 181, 3) := by decide +kernel
theorem dX11_readSet_35 : decode cX11_readSet 35 = .ok (.ifCond .ne 17, 3) := by decide +kernel
theorem dX11_readSet_38 : decode cX11_readSet 38 = .ok (.iload_n 1, 1) := by decide +kernel
theorem dX11_readSet_39 : decode cX11_readSet 39 = .ok (.iload_n 2, 1) := by decide +kernel
theorem dX11_readSet_40 : decode cX11_readSet 40 = .ok (.ishr, 1) := by decide +kernel
theorem dX11_readSet_41 : decode cX11_readSet 41 = .ok (.iconst 1, 1) := by decide +kernel
theorem dX11_readSet_42 : decode cX11_readSet 42 = .ok (.iand, 1) := by decide +kernel
theorem dX11_readSet_43 : decode cX11_readSet 43 = .ok (.iconst 1, 1) := by decide +kernel
theorem dX11_readSet_44 : decode cX11_readSet 44 = .ok (.if_icmp .ne 8, 3) := by decide +kernel
theorem dX11_readSet_47 : decode cX11_readSet 47 = .ok (.aload_n 0, 1) := by decide +kernel
theorem dX11_readSet_48 : decode cX11_readSet 48 = .ok (.iconst 4, 1) := by decide +kernel
theorem dX11_readSet_49 : decode cX11_readSet 49 = .ok (.invokevirtual 204, 3) := by decide +kernel
theorem dX11_readSet_52 : decode cX11_readSet 52 = .ok (.aload_n 0, 1) := by decide +kernel
theorem dX11_readSet_53 : decode cX11_readSet 53 = .ok (.getfield 181, 3) := by decide +kernel
theorem dX11_readSet_56 : decode cX11_readSet 56 = .ok (.ifCond .ne 7, 3) := by decide +kernel
theorem dX11_readSet_59 : decode cX11_readSet 59 = .ok (.aload_n 0, 1) := by decide +kernel
theorem dX11_readSet_60 : decode cX11_readSet 60 = .ok (.invokevirtual 198, 3) := by decide +kernel
theorem dX11_readSet_63 : decode cX11_readSet 63 = .ok (.iload_n 1, 1) := by decide +kernel
theorem dX11_readSet_64 : decode cX11_readSet 64 = .ok (.iconst 1, 1) := by decide +kernel
theorem dX11_readSet_65 : decode cX11_readSet 65 = .ok (.iload_n 2, 1) := by decide +kernel
theorem dX11_readSet_66 : decode cX11_readSet 66 = .ok (.ishl, 1) := by decide +kernel
theorem dX11_readSet_67 : decode cX11_readSet 67 = .ok (.ior, 1) := by decide +kernel
theorem dX11_readSet_68 : decode cX11_readSet 68 = .ok (.istore_n 1, 1) := by decide +kernel
theorem dX11_readSet_69 : decode cX11_readSet 69 = .ok (.goto (-67), 3) := by decide +kernel
theorem dX11_readSet_72 : decode cX11_readSet 72 = .ok (.aload_n 0, 1) := by decide +kernel
theorem dX11_readSet_73 : decode cX11_readSet 73 = .ok (.bipush 59, 2) := by decide +kernel
theorem dX11_readSet_75 : decode cX11_readSet 75 = .ok (.invokevirtual 250, 3) := by decide +kernel
theorem dX11_readSet_78 : decode cX11_readSet 78 = .ok (.iload_n 1, 1) := by decide +kernel
theorem dX11_readSet_79 : decode cX11_readSet 79 = .ok (.ireturn, 1) := by decide +kernel
theorem dX11_doOrder_0 : decode cX11_doOrder 0 = .ok (.aload_n 0, 1) := by decide +kernel
theorem dX11_doOrder_1 : decode cX11_doOrder 1 = .ok (.getfield 368, 3) := by decide +kernel
theorem dX11_doOrder_4 : decode cX11_doOrder 4 = .ok (.sipush 200, 3) := by decide +kernel
theorem dX11_doOrder_7 : decode cX11_doOrder 7 = .ok (.if_icmp .ne 9, 3) := by decide +kernel
theorem dX11_doOrder_10 : decode cX11_doOrder 10 = .ok (.aload_n 0, 1) := by decide +kernel
theorem dX11_doOrder_11 : decode cX11_doOrder 11 = .ok (.iconst 1, 1) := by decide +kernel
theorem dX11_doOrder_12 : decode cX11_doOrder 12 = .ok (.putfield 348, 3) := by decide +kernel
theorem dX11_doOrder_15 : decode cX11_doOrder 15 = .ok (.return_, 1) := by decide +kernel
theorem dX11_doOrder_16 : decode cX11_doOrder 16 = .ok (.aload_n 0, 1) := by decide +kernel
theorem dX11_doOrder_17 : decode cX11_doOrder 17 = .ok (.iload_n 1, 1) := by decide +kernel
theorem dX11_doOrder_18 : decode cX11_doOrder 18 = .ok (.invokevirtual 345, 3) := by decide +kernel
theorem dX11_doOrder_21 : decode cX11_doOrder 21 = .ok (.iconst (-1), 1) := by decide +kernel
theorem dX11_doOrder_22 : decode cX11_doOrder 22 = .ok (.if_icmp .ne 11, 3) := by decide +kernel
theorem dX11_doOrder_25 : decode cX11_doOrder 25 = .ok (.aload_n 0, 1) := by decide +kernel
theorem dX11_doOrder_26 : decode cX11_doOrder 26 = .ok (.iconst 1, 1) := by decide +kernel
theorem dX11_doOrder_27 : decode cX11_doOrder 27 = .ok (.putfield 348, 3) := by decide +kernel
theorem dX11_doOrder_30 : decode cX11_doOrder 30 = .ok (.goto 13, 3) := by decide +kernel
theorem dX11_doOrder_33 : decode cX11_doOrder 33 = .ok (.aload_n 0, 1) := by decide +kernel
theorem dX11_doOrder_34 : decode cX11_doOrder 34 = .ok (.dup, 1) := by decide +kernel
theorem dX11_doOrder_35 : decode cX11_doOrder 35 = .ok (.getfield 368, 3) := by decide +kernel
theorem dX11_doOrder_38 : decode cX11_doOrder 38 = .ok (.iconst 1, 1) := by decide +kernel
theorem dX11_doOrder_39 : decode cX11_doOrder 39 = .ok (.iadd, 1) := by decide +kernel
theorem dX11_doOrder_40 : decode cX11_doOrder 40 = .ok (.putfield 368, 3) := by decide +kernel
theorem dX11_doOrder_43 : decode cX11_doOrder 43 = .ok (.aload_n 0, 1) := by decide +kernel
theorem dX11_doOrder_44 : decode cX11_doOrder 44 = .ok (.dup, 1) := by decide +kernel
theorem dX11_doOrder_45 : decode cX11_doOrder 45 = .ok (.getfield 348, 3) := by decide +kernel
theorem dX11_doOrder_48 : decode cX11_doOrder 48 = .ok (.aload_n 0, 1) := by decide +kernel
theorem dX11_doOrder_49 : decode cX11_doOrder 49 = .ok (.getfield 368, 3) := by decide +kernel
theorem dX11_doOrder_52 : decode cX11_doOrder 52 = .ok (.sipush 200, 3) := by decide +kernel
theorem dX11_doOrder_55 : decode cX11_doOrder 55 = .ok (.if_icmp .ne 7, 3) := by decide +kernel
theorem dX11_doOrder_58 : decode cX11_doOrder 58 = .ok (.iconst 1, 1) := by decide +kernel
theorem dX11_doOrder_59 : decode cX11_doOrder 59 = .ok (.goto 4, 3) := by decide +kernel
theorem dX11_doOrder_62 : decode cX11_doOrder 62 = .ok (.iconst 0, 1) := by decide +kernel
theorem dX11_doOrder_63 : decode cX11_doOrder 63 = .ok (.ior, 1) := by decide +kernel
theorem dX11_doOrder_64 : decode cX11_doOrder 64 = .ok (.putfield 348, 3) := by decide +kernel
theorem dX11_doOrder_67 : decode cX11_doOrder 67 = .ok (.return_, 1) := by decide +kernel
theorem dX11_casesOf_0 : decode cX11_casesOf 0 = .ok (.iconst 0, 1) := by decide +kernel
theorem dX11_casesOf_1 : decode cX11_casesOf 1 = .ok (.istore_n 2, 1) := by decide +kernel
theorem dX11_casesOf_2 : decode cX11_casesOf 2 = .ok (.iconst 0, 1) := by decide +kernel
theorem dX11_casesOf_3 : decode cX11_casesOf 3 = .ok (.istore_n 3, 1) := by decide +kernel
theorem dX11_casesOf_4 : decode cX11_casesOf 4 = .ok (.iload_n 3, 1) := by decide +kernel
theorem dX11_casesOf_5 : decode cX11_casesOf 5 = .ok (.aload_n 0, 1) := by decide +kernel
theorem dX11_casesOf_6 : decode cX11_casesOf 6 = .ok (.getfield 93, 3) := by decide +kernel
theorem dX11_casesOf_9 : decode cX11_casesOf 9 = .ok (.if_icmp .ge 42, 3) := by decide +kernel
theorem dX11_casesOf_12 : decode cX11_casesOf 12 = .ok (.iload_n 2, 1) := by decide +kernel
theorem dX11_casesOf_13 : decode cX11_casesOf 13 = .ok (.aload_n 0, 1) := by decide +kernel
theorem dX11_casesOf_14 : decode cX11_casesOf 14 = .ok (.getfield 87, 3) := by decide +kernel
theorem dX11_casesOf_17 : decode cX11_casesOf 17 = .ok (.iload_n 3, 1) := by decide +kernel
theorem dX11_casesOf_18 : decode cX11_casesOf 18 = .ok (.iaload, 1) := by decide +kernel
theorem dX11_casesOf_19 : decode cX11_casesOf 19 = .ok (.iconst (-1), 1) := by decide +kernel
theorem dX11_casesOf_20 : decode cX11_casesOf 20 = .ok (.if_icmp .eq 22, 3) := by decide +kernel
theorem dX11_casesOf_23 : decode cX11_casesOf 23 = .ok (.iload_n 1, 1) := by decide +kernel
theorem dX11_casesOf_24 : decode cX11_casesOf 24 = .ok (.iconst (-1), 1) := by decide +kernel
theorem dX11_casesOf_25 : decode cX11_casesOf 25 = .ok (.if_icmp .eq 13, 3) := by decide +kernel
theorem dX11_casesOf_28 : decode cX11_casesOf 28 = .ok (.aload_n 0, 1) := by decide +kernel
theorem dX11_casesOf_29 : decode cX11_casesOf 29 = .ok (.getfield 87, 3) := by decide +kernel
theorem dX11_casesOf_32 : decode cX11_casesOf 32 = .ok (.iload_n 3, 1) := by decide +kernel
theorem dX11_casesOf_33 : decode cX11_casesOf 33 = .ok (.iaload, 1) := by decide +kernel
theorem dX11_casesOf_34 : decode cX11_casesOf 34 = .ok (.iload_n 1, 1) := by decide +kernel
theorem dX11_casesOf_35 : decode cX11_casesOf 35 = .ok (.if_icmp .ne 7, 3) := by decide +kernel
theorem dX11_casesOf_38 : decode cX11_casesOf 38 = .ok (.iconst 1, 1) := by decide +kernel
theorem dX11_casesOf_39 : decode cX11_casesOf 39 = .ok (.goto 4, 3) := by decide +kernel
theorem dX11_casesOf_42 : decode cX11_casesOf 42 = .ok (.iconst 0, 1) := by decide +kernel
theorem dX11_casesOf_43 : decode cX11_casesOf 43 = .ok (.iadd, 1) := by decide +kernel
theorem dX11_casesOf_44 : decode cX11_casesOf 44 = .ok (.istore_n 2, 1) := by decide +kernel
theorem dX11_casesOf_45 : decode cX11_casesOf 45 = .ok (.iinc 3 1, 3) := by decide +kernel
theorem dX11_casesOf_48 : decode cX11_casesOf 48 = .ok (.goto (-44), 3) := by decide +kernel
theorem dX11_casesOf_51 : decode cX11_casesOf 51 = .ok (.iload_n 2, 1) := by decide +kernel
theorem dX11_casesOf_52 : decode cX11_casesOf 52 = .ok (.ireturn, 1) := by decide +kernel
theorem dX11_search_0 : decode cX11_search 0 = .ok (.aload_n 0, 1) := by decide +kernel
theorem dX11_search_1 : decode cX11_search 1 = .ok (.iconst 0, 1) := by decide +kernel
theorem dX11_search_2 : decode cX11_search 2 = .ok (.putfield 132, 3) := by decide +kernel
theorem dX11_search_5 : decode cX11_search 5 = .ok (.aload_n 0, 1) := by decide +kernel
theorem dX11_search_6 : decode cX11_search 6 = .ok (.aload_n 0, 1) := by decide +kernel
theorem dX11_search_7 : decode cX11_search 7 = .ok (.invokevirtual 139, 3) := by decide +kernel
theorem dX11_search_10 : decode cX11_search 10 = .ok (.putfield 93, 3) := by decide +kernel
theorem dX11_search_13 : decode cX11_search 13 = .ok (.iconst 0, 1) := by decide +kernel
theorem dX11_search_14 : decode cX11_search 14 = .ok (.istore_n 1, 1) := by decide +kernel
theorem dX11_search_15 : decode cX11_search 15 = .ok (.iload_n 1, 1) := by decide +kernel
theorem dX11_search_16 : decode cX11_search 16 = .ok (.aload_n 0, 1) := by decide +kernel
theorem dX11_search_17 : decode cX11_search 17 = .ok (.getfield 93, 3) := by decide +kernel
theorem dX11_search_20 : decode cX11_search 20 = .ok (.if_icmp .ge 23, 3) := by decide +kernel
theorem dX11_search_23 : decode cX11_search 23 = .ok (.aload_n 0, 1) := by decide +kernel
theorem dX11_search_24 : decode cX11_search 24 = .ok (.getfield 87, 3) := by decide +kernel
theorem dX11_search_27 : decode cX11_search 27 = .ok (.iload_n 1, 1) := by decide +kernel
theorem dX11_search_28 : decode cX11_search 28 = .ok (.iload_n 1, 1) := by decide +kernel
theorem dX11_search_29 : decode cX11_search 29 = .ok (.iastore, 1) := by decide +kernel
theorem dX11_search_30 : decode cX11_search 30 = .ok (.aload_n 0, 1) := by decide +kernel
theorem dX11_search_31 : decode cX11_search 31 = .ok (.getfield 90, 3) := by decide +kernel
theorem dX11_search_34 : decode cX11_search 34 = .ok (.iload_n 1, 1) := by decide +kernel
theorem dX11_search_35 : decode cX11_search 35 = .ok (.iconst 0, 1) := by decide +kernel
theorem dX11_search_36 : decode cX11_search 36 = .ok (.iastore, 1) := by decide +kernel
theorem dX11_search_37 : decode cX11_search 37 = .ok (.iinc 1 1, 3) := by decide +kernel
theorem dX11_search_40 : decode cX11_search 40 = .ok (.goto (-25), 3) := by decide +kernel
theorem dX11_search_43 : decode cX11_search 43 = .ok (.aload_n 0, 1) := by decide +kernel
theorem dX11_search_44 : decode cX11_search 44 = .ok (.getfield 93, 3) := by decide +kernel
theorem dX11_search_47 : decode cX11_search 47 = .ok (.ireturn, 1) := by decide +kernel
theorem dX11_seen_0 : decode cX11_seen 0 = .ok (.aload_n 0, 1) := by decide +kernel
theorem dX11_seen_1 : decode cX11_seen 1 = .ok (.iconst 0, 1) := by decide +kernel
theorem dX11_seen_2 : decode cX11_seen 2 = .ok (.putfield 132, 3) := by decide +kernel
theorem dX11_seen_5 : decode cX11_seen 5 = .ok (.iload_n 1, 1) := by decide +kernel
theorem dX11_seen_6 : decode cX11_seen 6 = .ok (.iconst 0, 1) := by decide +kernel
theorem dX11_seen_7 : decode cX11_seen 7 = .ok (.iload_n 2, 1) := by decide +kernel
theorem dX11_seen_8 : decode cX11_seen 8 = .ok (.ifCond .eq 12, 3) := by decide +kernel
theorem dX11_seen_11 : decode cX11_seen 11 = .ok (.aload_n 0, 1) := by decide +kernel
theorem dX11_seen_12 : decode cX11_seen 12 = .ok (.getfield 36, 3) := by decide +kernel
theorem dX11_seen_15 : decode cX11_seen 15 = .ok (.iconst 1, 1) := by decide +kernel
theorem dX11_seen_16 : decode cX11_seen 16 = .ok (.iaload, 1) := by decide +kernel
theorem dX11_seen_17 : decode cX11_seen 17 = .ok (.goto 9, 3) := by decide +kernel
theorem dX11_seen_20 : decode cX11_seen 20 = .ok (.aload_n 0, 1) := by decide +kernel
theorem dX11_seen_21 : decode cX11_seen 21 = .ok (.getfield 36, 3) := by decide +kernel
theorem dX11_seen_24 : decode cX11_seen 24 = .ok (.iconst 0, 1) := by decide +kernel
theorem dX11_seen_25 : decode cX11_seen 25 = .ok (.iaload, 1) := by decide +kernel
theorem dX11_seen_26 : decode cX11_seen 26 = .ok (.iconst 1, 1) := by decide +kernel
theorem dX11_seen_27 : decode cX11_seen 27 = .ok (.isub, 1) := by decide +kernel
theorem dX11_seen_28 : decode cX11_seen 28 = .ok (.invokestatic 135, 3) := by decide +kernel
theorem dX11_seen_31 : decode cX11_seen 31 = .ok (.ifCond .ne 9, 3) := by decide +kernel
theorem dX11_seen_34 : decode cX11_seen 34 = .ok (.aload_n 0, 1) := by decide +kernel
theorem dX11_seen_35 : decode cX11_seen 35 = .ok (.iconst 1, 1) := by decide +kernel
theorem dX11_seen_36 : decode cX11_seen 36 = .ok (.invokevirtual 256, 3) := by decide +kernel
theorem dX11_seen_39 : decode cX11_seen 39 = .ok (.ireturn, 1) := by decide +kernel
theorem dX11_seen_40 : decode cX11_seen 40 = .ok (.aload_n 0, 1) := by decide +kernel
theorem dX11_seen_41 : decode cX11_seen 41 = .ok (.getfield 93, 3) := by decide +kernel
theorem dX11_seen_44 : decode cX11_seen 44 = .ok (.iconst (-1), 1) := by decide +kernel
theorem dX11_seen_45 : decode cX11_seen 45 = .ok (.if_icmp .ne 5, 3) := by decide +kernel
theorem dX11_seen_48 : decode cX11_seen 48 = .ok (.iconst (-1), 1) := by decide +kernel
theorem dX11_seen_49 : decode cX11_seen 49 = .ok (.ireturn, 1) := by decide +kernel
theorem dX11_seen_50 : decode cX11_seen 50 = .ok (.iconst 0, 1) := by decide +kernel
theorem dX11_seen_51 : decode cX11_seen 51 = .ok (.istore 4, 2) := by decide +kernel
theorem dX11_seen_53 : decode cX11_seen 53 = .ok (.iload 4, 2) := by decide +kernel
theorem dX11_seen_55 : decode cX11_seen 55 = .ok (.aload_n 0, 1) := by decide +kernel
theorem dX11_seen_56 : decode cX11_seen 56 = .ok (.getfield 93, 3) := by decide +kernel
theorem dX11_seen_59 : decode cX11_seen 59 = .ok (.if_icmp .ge 83, 3) := by decide +kernel
theorem dX11_seen_62 : decode cX11_seen 62 = .ok (.aload_n 0, 1) := by decide +kernel
theorem dX11_seen_63 : decode cX11_seen 63 = .ok (.getfield 87, 3) := by decide +kernel
theorem dX11_seen_66 : decode cX11_seen 66 = .ok (.iload 4, 2) := by decide +kernel
theorem dX11_seen_68 : decode cX11_seen 68 = .ok (.iaload, 1) := by decide +kernel
theorem dX11_seen_69 : decode cX11_seen 69 = .ok (.iconst (-1), 1) := by decide +kernel
theorem dX11_seen_70 : decode cX11_seen 70 = .ok (.if_icmp .ne 6, 3) := by decide +kernel
theorem dX11_seen_73 : decode cX11_seen 73 = .ok (.goto 63, 3) := by decide +kernel
theorem dX11_seen_76 : decode cX11_seen 76 = .ok (.iload_n 2, 1) := by decide +kernel
theorem dX11_seen_77 : decode cX11_seen 77 = .ok (.ifCond .eq 20, 3) := by decide +kernel
theorem dX11_seen_80 : decode cX11_seen 80 = .ok (.aload_n 0, 1) := by decide +kernel
theorem dX11_seen_81 : decode cX11_seen 81 = .ok (.getfield 87, 3) := by decide +kernel
theorem dX11_seen_84 : decode cX11_seen 84 = .ok (.iload 4, 2) := by decide +kernel
theorem dX11_seen_86 : decode cX11_seen 86 = .ok (.iaload, 1) := by decide +kernel
theorem dX11_seen_87 : decode cX11_seen 87 = .ok (.aload_n 0, 1) := by decide +kernel
theorem dX11_seen_88 : decode cX11_seen 88 = .ok (.getfield 36, 3) := by decide +kernel
theorem dX11_seen_91 : decode cX11_seen 91 = .ok (.iconst 0, 1) := by decide +kernel
theorem dX11_seen_92 : decode cX11_seen 92 = .ok (.iaload, 1) := by decide +kernel
theorem dX11_seen_93 : decode cX11_seen 93 = .ok (.idiv, 1) := by decide +kernel
theorem dX11_seen_94 : decode cX11_seen 94 = .ok (.goto 17, 3) := by decide +kernel
theorem dX11_seen_97 : decode cX11_seen 97 = .ok (.aload_n 0, 1) := by decide +kernel
theorem dX11_seen_98 : decode cX11_seen 98 = .ok (.getfield 87, 3) := by decide +kernel
theorem dX11_seen_101 : decode cX11_seen 101 = .ok (.iload 4, 2) := by decide +kernel
theorem dX11_seen_103 : decode cX11_seen 103 = .ok (.iaload, 1) := by decide +kernel
theorem dX11_seen_104 : decode cX11_seen 104 = .ok (.aload_n 0, 1) := by decide +kernel
theorem dX11_seen_105 : decode cX11_seen 105 = .ok (.getfield 36, 3) := by decide +kernel
theorem dX11_seen_108 : decode cX11_seen 108 = .ok (.iconst 0, 1) := by decide +kernel
theorem dX11_seen_109 : decode cX11_seen 109 = .ok (.iaload, 1) := by decide +kernel
theorem dX11_seen_110 : decode cX11_seen 110 = .ok (.irem, 1) := by decide +kernel
theorem dX11_seen_111 : decode cX11_seen 111 = .ok (.iload_n 1, 1) := by decide +kernel
theorem dX11_seen_112 : decode cX11_seen 112 = .ok (.if_icmp .ne 7, 3) := by decide +kernel
theorem dX11_seen_115 : decode cX11_seen 115 = .ok (.iconst 1, 1) := by decide +kernel
theorem dX11_seen_116 : decode cX11_seen 116 = .ok (.goto 4, 3) := by decide +kernel
theorem dX11_seen_119 : decode cX11_seen 119 = .ok (.iconst 0, 1) := by decide +kernel
theorem dX11_seen_120 : decode cX11_seen 120 = .ok (.istore 5, 2) := by decide +kernel
theorem dX11_seen_122 : decode cX11_seen 122 = .ok (.iload 5, 2) := by decide +kernel
theorem dX11_seen_124 : decode cX11_seen 124 = .ok (.iload_n 3, 1) := by decide +kernel
theorem dX11_seen_125 : decode cX11_seen 125 = .ok (.if_icmp .ne 11, 3) := by decide +kernel
theorem dX11_seen_128 : decode cX11_seen 128 = .ok (.aload_n 0, 1) := by decide +kernel
theorem dX11_seen_129 : decode cX11_seen 129 = .ok (.getfield 87, 3) := by decide +kernel
theorem dX11_seen_132 : decode cX11_seen 132 = .ok (.iload 4, 2) := by decide +kernel
theorem dX11_seen_134 : decode cX11_seen 134 = .ok (.iconst (-1), 1) := by decide +kernel
theorem dX11_seen_135 : decode cX11_seen 135 = .ok (.iastore, 1) := by decide +kernel
theorem dX11_seen_136 : decode cX11_seen 136 = .ok (.iinc 4 1, 3) := by decide +kernel
theorem dX11_seen_139 : decode cX11_seen 139 = .ok (.goto (-86), 3) := by decide +kernel
theorem dX11_seen_142 : decode cX11_seen 142 = .ok (.aload_n 0, 1) := by decide +kernel
theorem dX11_seen_143 : decode cX11_seen 143 = .ok (.iconst (-1), 1) := by decide +kernel
theorem dX11_seen_144 : decode cX11_seen 144 = .ok (.invokevirtual 371, 3) := by decide +kernel
theorem dX11_seen_147 : decode cX11_seen 147 = .ok (.ireturn, 1) := by decide +kernel
theorem dX11_cases_0 : decode cX11_cases 0 = .ok (.aload_n 0, 1) := by decide +kernel
theorem dX11_cases_1 : decode cX11_cases 1 = .ok (.iconst 0, 1) := by decide +kernel
theorem dX11_cases_2 : decode cX11_cases 2 = .ok (.putfield 132, 3) := by decide +kernel
theorem dX11_cases_5 : decode cX11_cases 5 = .ok (.iload_n 1, 1) := by decide +kernel
theorem dX11_cases_6 : decode cX11_cases 6 = .ok (.iconst (-1), 1) := by decide +kernel
theorem dX11_cases_7 : decode cX11_cases 7 = .ok (.if_icmp .eq 17, 3) := by decide +kernel
theorem dX11_cases_10 : decode cX11_cases 10 = .ok (.aload_n 0, 1) := by decide +kernel
theorem dX11_cases_11 : decode cX11_cases 11 = .ok (.iload_n 1, 1) := by decide +kernel
theorem dX11_cases_12 : decode cX11_cases 12 = .ok (.invokevirtual 296, 3) := by decide +kernel
theorem dX11_cases_15 : decode cX11_cases 15 = .ok (.ifCond .ne 9, 3) := by decide +kernel
theorem dX11_cases_18 : decode cX11_cases 18 = .ok (.aload_n 0, 1) := by decide +kernel
theorem dX11_cases_19 : decode cX11_cases 19 = .ok (.iconst 1, 1) := by decide +kernel
theorem dX11_cases_20 : decode cX11_cases 20 = .ok (.invokevirtual 256, 3) := by decide +kernel
theorem dX11_cases_23 : decode cX11_cases 23 = .ok (.ireturn, 1) := by decide +kernel
theorem dX11_cases_24 : decode cX11_cases 24 = .ok (.aload_n 0, 1) := by decide +kernel
theorem dX11_cases_25 : decode cX11_cases 25 = .ok (.getfield 93, 3) := by decide +kernel
theorem dX11_cases_28 : decode cX11_cases 28 = .ok (.iconst (-1), 1) := by decide +kernel
theorem dX11_cases_29 : decode cX11_cases 29 = .ok (.if_icmp .ne 7, 3) := by decide +kernel
theorem dX11_cases_32 : decode cX11_cases 32 = .ok (.iconst (-1), 1) := by decide +kernel
theorem dX11_cases_33 : decode cX11_cases 33 = .ok (.goto 8, 3) := by decide +kernel
theorem dX11_cases_36 : decode cX11_cases 36 = .ok (.aload_n 0, 1) := by decide +kernel
theorem dX11_cases_37 : decode cX11_cases 37 = .ok (.iload_n 1, 1) := by decide +kernel
theorem dX11_cases_38 : decode cX11_cases 38 = .ok (.invokevirtual 371, 3) := by decide +kernel
theorem dX11_cases_41 : decode cX11_cases 41 = .ok (.ireturn, 1) := by decide +kernel
theorem dX11_common_0 : decode cX11_common 0 = .ok (.iload_n 0, 1) := by decide +kernel
theorem dX11_common_1 : decode cX11_common 1 = .ok (.istore_n 2, 1) := by decide +kernel
theorem dX11_common_2 : decode cX11_common 2 = .ok (.iload_n 1, 1) := by decide +kernel
theorem dX11_common_3 : decode cX11_common 3 = .ok (.istore_n 3, 1) := by decide +kernel
theorem dX11_common_4 : decode cX11_common 4 = .ok (.iload_n 3, 1) := by decide +kernel
theorem dX11_common_5 : decode cX11_common 5 = .ok (.ifCond .eq 16, 3) := by decide +kernel
theorem dX11_common_8 : decode cX11_common 8 = .ok (.iload_n 2, 1) := by decide +kernel
theorem dX11_common_9 : decode cX11_common 9 = .ok (.iload_n 3, 1) := by decide +kernel
theorem dX11_common_10 : decode cX11_common 10 = .ok (.irem, 1) := by decide +kernel
theorem dX11_common_11 : decode cX11_common 11 = .ok (.istore 4, 2) := by decide +kernel
theorem dX11_common_13 : decode cX11_common 13 = .ok (.iload_n 3, 1) := by decide +kernel
theorem dX11_common_14 : decode cX11_common 14 = .ok (.istore_n 2, 1) := by decide +kernel
theorem dX11_common_15 : decode cX11_common 15 = .ok (.iload 4, 2) := by decide +kernel
theorem dX11_common_17 : decode cX11_common 17 = .ok (.istore_n 3, 1) := by decide +kernel
theorem dX11_common_18 : decode cX11_common 18 = .ok (.goto (-14), 3) := by decide +kernel
theorem dX11_common_21 : decode cX11_common 21 = .ok (.iload_n 2, 1) := by decide +kernel
theorem dX11_common_22 : decode cX11_common 22 = .ok (.ireturn, 1) := by decide +kernel
theorem dX11_odds_0 : decode cX11_odds 0 = .ok (.aload_n 0, 1) := by decide +kernel
theorem dX11_odds_1 : decode cX11_odds 1 = .ok (.iconst 0, 1) := by decide +kernel
theorem dX11_odds_2 : decode cX11_odds 2 = .ok (.putfield 132, 3) := by decide +kernel
theorem dX11_odds_5 : decode cX11_odds 5 = .ok (.aload_n 0, 1) := by decide +kernel
theorem dX11_odds_6 : decode cX11_odds 6 = .ok (.iload_n 1, 1) := by decide +kernel
theorem dX11_odds_7 : decode cX11_odds 7 = .ok (.invokevirtual 296, 3) := by decide +kernel
theorem dX11_odds_10 : decode cX11_odds 10 = .ok (.ifCond .eq 12, 3) := by decide +kernel
theorem dX11_odds_13 : decode cX11_odds 13 = .ok (.iload_n 2, 1) := by decide +kernel
theorem dX11_odds_14 : decode cX11_odds 14 = .ok (.ifCond .lt 8, 3) := by decide +kernel
theorem dX11_odds_17 : decode cX11_odds 17 = .ok (.iload_n 2, 1) := by decide +kernel
theorem dX11_odds_18 : decode cX11_odds 18 = .ok (.iconst 1, 1) := by decide +kernel
theorem dX11_odds_19 : decode cX11_odds 19 = .ok (.if_icmp .le 9, 3) := by decide +kernel
theorem dX11_odds_22 : decode cX11_odds 22 = .ok (.aload_n 0, 1) := by decide +kernel
theorem dX11_odds_23 : decode cX11_odds 23 = .ok (.iconst 1, 1) := by decide +kernel
theorem dX11_odds_24 : decode cX11_odds 24 = .ok (.invokevirtual 256, 3) := by decide +kernel
theorem dX11_odds_27 : decode cX11_odds 27 = .ok (.ireturn, 1) := by decide +kernel
theorem dX11_odds_28 : decode cX11_odds 28 = .ok (.aload_n 0, 1) := by decide +kernel
theorem dX11_odds_29 : decode cX11_odds 29 = .ok (.getfield 93, 3) := by decide +kernel
theorem dX11_odds_32 : decode cX11_odds 32 = .ok (.iconst (-1), 1) := by decide +kernel
theorem dX11_odds_33 : decode cX11_odds 33 = .ok (.if_icmp .ne 5, 3) := by decide +kernel
theorem dX11_odds_36 : decode cX11_odds 36 = .ok (.iconst (-1), 1) := by decide +kernel
theorem dX11_odds_37 : decode cX11_odds 37 = .ok (.ireturn, 1) := by decide +kernel
theorem dX11_odds_38 : decode cX11_odds 38 = .ok (.aload_n 0, 1) := by decide +kernel
theorem dX11_odds_39 : decode cX11_odds 39 = .ok (.iconst (-1), 1) := by decide +kernel
theorem dX11_odds_40 : decode cX11_odds 40 = .ok (.invokevirtual 371, 3) := by decide +kernel
theorem dX11_odds_43 : decode cX11_odds 43 = .ok (.istore_n 3, 1) := by decide +kernel
theorem dX11_odds_44 : decode cX11_odds 44 = .ok (.aload_n 0, 1) := by decide +kernel
theorem dX11_odds_45 : decode cX11_odds 45 = .ok (.iload_n 1, 1) := by decide +kernel
theorem dX11_odds_46 : decode cX11_odds 46 = .ok (.invokevirtual 371, 3) := by decide +kernel
theorem dX11_odds_49 : decode cX11_odds 49 = .ok (.istore 4, 2) := by decide +kernel
theorem dX11_odds_51 : decode cX11_odds 51 = .ok (.iload_n 3, 1) := by decide +kernel
theorem dX11_odds_52 : decode cX11_odds 52 = .ok (.ifCond .ne 7, 3) := by decide +kernel
theorem dX11_odds_55 : decode cX11_odds 55 = .ok (.iconst 1, 1) := by decide +kernel
theorem dX11_odds_56 : decode cX11_odds 56 = .ok (.goto 9, 3) := by decide +kernel
theorem dX11_odds_59 : decode cX11_odds 59 = .ok (.iload_n 3, 1) := by decide +kernel
theorem dX11_odds_60 : decode cX11_odds 60 = .ok (.iload 4, 2) := by decide +kernel
theorem dX11_odds_62 : decode cX11_odds 62 = .ok (.invokestatic 374, 3) := by decide +kernel
theorem dX11_odds_65 : decode cX11_odds 65 = .ok (.istore 5, 2) := by decide +kernel
theorem dX11_odds_67 : decode cX11_odds 67 = .ok (.iload_n 2, 1) := by decide +kernel
theorem dX11_odds_68 : decode cX11_odds 68 = .ok (.ifCond .ne 11, 3) := by decide +kernel
theorem dX11_odds_71 : decode cX11_odds 71 = .ok (.iload 4, 2) := by decide +kernel
theorem dX11_odds_73 : decode cX11_odds 73 = .ok (.iload 5, 2) := by decide +kernel
theorem dX11_odds_75 : decode cX11_odds 75 = .ok (.idiv, 1) := by decide +kernel
theorem dX11_odds_76 : decode cX11_odds 76 = .ok (.goto 15, 3) := by decide +kernel
theorem dX11_odds_79 : decode cX11_odds 79 = .ok (.iload_n 3, 1) := by decide +kernel
theorem dX11_odds_80 : decode cX11_odds 80 = .ok (.ifCond .ne 7, 3) := by decide +kernel
theorem dX11_odds_83 : decode cX11_odds 83 = .ok (.iconst 1, 1) := by decide +kernel
theorem dX11_odds_84 : decode cX11_odds 84 = .ok (.goto 7, 3) := by decide +kernel
theorem dX11_odds_87 : decode cX11_odds 87 = .ok (.iload_n 3, 1) := by decide +kernel
theorem dX11_odds_88 : decode cX11_odds 88 = .ok (.iload 5, 2) := by decide +kernel
theorem dX11_odds_90 : decode cX11_odds 90 = .ok (.idiv, 1) := by decide +kernel
theorem dX11_odds_91 : decode cX11_odds 91 = .ok (.ireturn, 1) := by decide +kernel
theorem dX11_plan_0 : decode cX11_plan 0 = .ok (.aload_n 0, 1) := by decide +kernel
theorem dX11_plan_1 : decode cX11_plan 1 = .ok (.iconst 0, 1) := by decide +kernel
theorem dX11_plan_2 : decode cX11_plan 2 = .ok (.putfield 132, 3) := by decide +kernel
theorem dX11_plan_5 : decode cX11_plan 5 = .ok (.iload_n 1, 1) := by decide +kernel
theorem dX11_plan_6 : decode cX11_plan 6 = .ok (.iconst 0, 1) := by decide +kernel
theorem dX11_plan_7 : decode cX11_plan 7 = .ok (.aload_n 0, 1) := by decide +kernel
theorem dX11_plan_8 : decode cX11_plan 8 = .ok (.getfield 111, 3) := by decide +kernel
theorem dX11_plan_11 : decode cX11_plan 11 = .ok (.iconst 1, 1) := by decide +kernel
theorem dX11_plan_12 : decode cX11_plan 12 = .ok (.isub, 1) := by decide +kernel
theorem dX11_plan_13 : decode cX11_plan 13 = .ok (.invokestatic 135, 3) := by decide +kernel
theorem dX11_plan_16 : decode cX11_plan 16 = .ok (.ifCond .eq 12, 3) := by decide +kernel
theorem dX11_plan_19 : decode cX11_plan 19 = .ok (.aload_n 0, 1) := by decide +kernel
theorem dX11_plan_20 : decode cX11_plan 20 = .ok (.getfield 108, 3) := by decide +kernel
theorem dX11_plan_23 : decode cX11_plan 23 = .ok (.iload_n 1, 1) := by decide +kernel
theorem dX11_plan_24 : decode cX11_plan 24 = .ok (.iaload, 1) := by decide +kernel
theorem dX11_plan_25 : decode cX11_plan 25 = .ok (.goto 8, 3) := by decide +kernel
theorem dX11_plan_28 : decode cX11_plan 28 = .ok (.aload_n 0, 1) := by decide +kernel
theorem dX11_plan_29 : decode cX11_plan 29 = .ok (.iconst 1, 1) := by decide +kernel
theorem dX11_plan_30 : decode cX11_plan 30 = .ok (.invokevirtual 256, 3) := by decide +kernel
theorem dX11_plan_33 : decode cX11_plan 33 = .ok (.ireturn, 1) := by decide +kernel
theorem dX11_stateOf_0 : decode cX11_stateOf 0 = .ok (.bipush 6, 2) := by decide +kernel
theorem dX11_stateOf_2 : decode cX11_stateOf 2 = .ok (.iload_n 2, 1) := by decide +kernel
theorem dX11_stateOf_3 : decode cX11_stateOf 3 = .ok (.imul, 1) := by decide +kernel
theorem dX11_stateOf_4 : decode cX11_stateOf 4 = .ok (.istore_n 3, 1) := by decide +kernel
theorem dX11_stateOf_5 : decode cX11_stateOf 5 = .ok (.aload_n 0, 1) := by decide +kernel
theorem dX11_stateOf_6 : decode cX11_stateOf 6 = .ok (.getfield 49, 3) := by decide +kernel
theorem dX11_stateOf_9 : decode cX11_stateOf 9 = .ok (.iload_n 2, 1) := by decide +kernel
theorem dX11_stateOf_10 : decode cX11_stateOf 10 = .ok (.iaload, 1) := by decide +kernel
theorem dX11_stateOf_11 : decode cX11_stateOf 11 = .ok (.iconst 3, 1) := by decide +kernel
theorem dX11_stateOf_12 : decode cX11_stateOf 12 = .ok (.if_icmp .ne 13, 3) := by decide +kernel
theorem dX11_stateOf_15 : decode cX11_stateOf 15 = .ok (.aload_n 1, 1) := by decide +kernel
theorem dX11_stateOf_16 : decode cX11_stateOf 16 = .ok (.iload_n 3, 1) := by decide +kernel
theorem dX11_stateOf_17 : decode cX11_stateOf 17 = .ok (.iconst 5, 1) := by decide +kernel
theorem dX11_stateOf_18 : decode cX11_stateOf 18 = .ok (.iadd, 1) := by decide +kernel
theorem dX11_stateOf_19 : decode cX11_stateOf 19 = .ok (.iaload, 1) := by decide +kernel
theorem dX11_stateOf_20 : decode cX11_stateOf 20 = .ok (.iconst 2, 1) := by decide +kernel
theorem dX11_stateOf_21 : decode cX11_stateOf 21 = .ok (.irem, 1) := by decide +kernel
theorem dX11_stateOf_22 : decode cX11_stateOf 22 = .ok (.goto 4, 3) := by decide +kernel
theorem dX11_stateOf_25 : decode cX11_stateOf 25 = .ok (.iconst 0, 1) := by decide +kernel
theorem dX11_stateOf_26 : decode cX11_stateOf 26 = .ok (.istore 4, 2) := by decide +kernel
theorem dX11_stateOf_28 : decode cX11_stateOf 28 = .ok (.aload_n 1, 1) := by decide +kernel
theorem dX11_stateOf_29 : decode cX11_stateOf 29 = .ok (.iload_n 3, 1) := by decide +kernel
theorem dX11_stateOf_30 : decode cX11_stateOf 30 = .ok (.iconst 0, 1) := by decide +kernel
theorem dX11_stateOf_31 : decode cX11_stateOf 31 = .ok (.iadd, 1) := by decide +kernel
theorem dX11_stateOf_32 : decode cX11_stateOf 32 = .ok (.iaload, 1) := by decide +kernel
theorem dX11_stateOf_33 : decode cX11_stateOf 33 = .ok (.iconst 4, 1) := by decide +kernel
theorem dX11_stateOf_34 : decode cX11_stateOf 34 = .ok (.imul, 1) := by decide +kernel
theorem dX11_stateOf_35 : decode cX11_stateOf 35 = .ok (.aload_n 1, 1) := by decide +kernel
theorem dX11_stateOf_36 : decode cX11_stateOf 36 = .ok (.iload_n 3, 1) := by decide +kernel
theorem dX11_stateOf_37 : decode cX11_stateOf 37 = .ok (.iconst 2, 1) := by decide +kernel
theorem dX11_stateOf_38 : decode cX11_stateOf 38 = .ok (.iadd, 1) := by decide +kernel
theorem dX11_stateOf_39 : decode cX11_stateOf 39 = .ok (.iaload, 1) := by decide +kernel
theorem dX11_stateOf_40 : decode cX11_stateOf 40 = .ok (.iadd, 1) := by decide +kernel
theorem dX11_stateOf_41 : decode cX11_stateOf 41 = .ok (.bipush 6, 2) := by decide +kernel
theorem dX11_stateOf_43 : decode cX11_stateOf 43 = .ok (.imul, 1) := by decide +kernel
theorem dX11_stateOf_44 : decode cX11_stateOf 44 = .ok (.aload_n 1, 1) := by decide +kernel
theorem dX11_stateOf_45 : decode cX11_stateOf 45 = .ok (.iload_n 3, 1) := by decide +kernel
theorem dX11_stateOf_46 : decode cX11_stateOf 46 = .ok (.iconst 4, 1) := by decide +kernel
theorem dX11_stateOf_47 : decode cX11_stateOf 47 = .ok (.iadd, 1) := by decide +kernel
theorem dX11_stateOf_48 : decode cX11_stateOf 48 = .ok (.iaload, 1) := by decide +kernel
theorem dX11_stateOf_49 : decode cX11_stateOf 49 = .ok (.iadd, 1) := by decide +kernel
theorem dX11_stateOf_50 : decode cX11_stateOf 50 = .ok (.iconst 1, 1) := by decide +kernel
theorem dX11_stateOf_51 : decode cX11_stateOf 51 = .ok (.iadd, 1) := by decide +kernel
theorem dX11_stateOf_52 : decode cX11_stateOf 52 = .ok (.iconst 2, 1) := by decide +kernel
theorem dX11_stateOf_53 : decode cX11_stateOf 53 = .ok (.imul, 1) := by decide +kernel
theorem dX11_stateOf_54 : decode cX11_stateOf 54 = .ok (.iload 4, 2) := by decide +kernel
theorem dX11_stateOf_56 : decode cX11_stateOf 56 = .ok (.iadd, 1) := by decide +kernel
theorem dX11_stateOf_57 : decode cX11_stateOf 57 = .ok (.ireturn, 1) := by decide +kernel
theorem dX11_forever_0 : decode cX11_forever 0 = .ok (.aload_n 0, 1) := by decide +kernel
theorem dX11_forever_1 : decode cX11_forever 1 = .ok (.iconst 0, 1) := by decide +kernel
theorem dX11_forever_2 : decode cX11_forever 2 = .ok (.putfield 132, 3) := by decide +kernel
theorem dX11_forever_5 : decode cX11_forever 5 = .ok (.aload_n 0, 1) := by decide +kernel
theorem dX11_forever_6 : decode cX11_forever 6 = .ok (.iload_n 1, 1) := by decide +kernel
theorem dX11_forever_7 : decode cX11_forever 7 = .ok (.invokevirtual 287, 3) := by decide +kernel
theorem dX11_forever_10 : decode cX11_forever 10 = .ok (.ifCond .eq 12, 3) := by decide +kernel
theorem dX11_forever_13 : decode cX11_forever 13 = .ok (.iload_n 3, 1) := by decide +kernel
theorem dX11_forever_14 : decode cX11_forever 14 = .ok (.ifCond .lt 8, 3) := by decide +kernel
theorem dX11_forever_17 : decode cX11_forever 17 = .ok (.iload_n 3, 1) := by decide +kernel
theorem dX11_forever_18 : decode cX11_forever 18 = .ok (.iconst 1, 1) := by decide +kernel
theorem dX11_forever_19 : decode cX11_forever 19 = .ok (.if_icmp .le 9, 3) := by decide +kernel
theorem dX11_forever_22 : decode cX11_forever 22 = .ok (.aload_n 0, 1) := by decide +kernel
theorem dX11_forever_23 : decode cX11_forever 23 = .ok (.iconst 1, 1) := by decide +kernel
theorem dX11_forever_24 : decode cX11_forever 24 = .ok (.invokevirtual 256, 3) := by decide +kernel
theorem dX11_forever_27 : decode cX11_forever 27 = .ok (.ireturn, 1) := by decide +kernel
theorem dX11_forever_28 : decode cX11_forever 28 = .ok (.aload_n 0, 1) := by decide +kernel
theorem dX11_forever_29 : decode cX11_forever 29 = .ok (.getfield 52, 3) := by decide +kernel
theorem dX11_forever_32 : decode cX11_forever 32 = .ok (.bipush 6, 2) := by decide +kernel
theorem dX11_forever_34 : decode cX11_forever 34 = .ok (.iload_n 1, 1) := by decide +kernel
theorem dX11_forever_35 : decode cX11_forever 35 = .ok (.imul, 1) := by decide +kernel
theorem dX11_forever_36 : decode cX11_forever 36 = .ok (.iconst 3, 1) := by decide +kernel
theorem dX11_forever_37 : decode cX11_forever 37 = .ok (.iadd, 1) := by decide +kernel
theorem dX11_forever_38 : decode cX11_forever 38 = .ok (.iaload, 1) := by decide +kernel
theorem dX11_forever_39 : decode cX11_forever 39 = .ok (.ifCond .ne 21, 3) := by decide +kernel
theorem dX11_forever_42 : decode cX11_forever 42 = .ok (.iload_n 2, 1) := by decide +kernel
theorem dX11_forever_43 : decode cX11_forever 43 = .ok (.iconst 0, 1) := by decide +kernel
theorem dX11_forever_44 : decode cX11_forever 44 = .ok (.iconst 1, 1) := by decide +kernel
theorem dX11_forever_45 : decode cX11_forever 45 = .ok (.aload_n 0, 1) := by decide +kernel
theorem dX11_forever_46 : decode cX11_forever 46 = .ok (.getfield 36, 3) := by decide +kernel
theorem dX11_forever_49 : decode cX11_forever 49 = .ok (.iconst 2, 1) := by decide +kernel
theorem dX11_forever_50 : decode cX11_forever 50 = .ok (.iaload, 1) := by decide +kernel
theorem dX11_forever_51 : decode cX11_forever 51 = .ok (.ishl, 1) := by decide +kernel
theorem dX11_forever_52 : decode cX11_forever 52 = .ok (.iconst 1, 1) := by decide +kernel
theorem dX11_forever_53 : decode cX11_forever 53 = .ok (.isub, 1) := by decide +kernel
theorem dX11_forever_54 : decode cX11_forever 54 = .ok (.invokestatic 135, 3) := by decide +kernel
theorem dX11_forever_57 : decode cX11_forever 57 = .ok (.ifCond .ne 5, 3) := by decide +kernel
theorem dX11_forever_60 : decode cX11_forever 60 = .ok (.iconst (-1), 1) := by decide +kernel
theorem dX11_forever_61 : decode cX11_forever 61 = .ok (.ireturn, 1) := by decide +kernel
theorem dX11_forever_62 : decode cX11_forever 62 = .ok (.aload_n 0, 1) := by decide +kernel
theorem dX11_forever_63 : decode cX11_forever 63 = .ok (.getfield 99, 3) := by decide +kernel
theorem dX11_forever_66 : decode cX11_forever 66 = .ok (.aload_n 0, 1) := by decide +kernel
theorem dX11_forever_67 : decode cX11_forever 67 = .ok (.getfield 52, 3) := by decide +kernel
theorem dX11_forever_70 : decode cX11_forever 70 = .ok (.invokestatic 266, 3) := by decide +kernel
theorem dX11_forever_73 : decode cX11_forever 73 = .ok (.iconst 0, 1) := by decide +kernel
theorem dX11_forever_74 : decode cX11_forever 74 = .ok (.istore 4, 2) := by decide +kernel
theorem dX11_forever_76 : decode cX11_forever 76 = .ok (.iload 4, 2) := by decide +kernel
theorem dX11_forever_78 : decode cX11_forever 78 = .ok (.aload_n 0, 1) := by decide +kernel
theorem dX11_forever_79 : decode cX11_forever 79 = .ok (.getfield 114, 3) := by decide +kernel
theorem dX11_forever_82 : decode cX11_forever 82 = .ok (.arraylength, 1) := by decide +kernel
theorem dX11_forever_83 : decode cX11_forever 83 = .ok (.if_icmp .ge 17, 3) := by decide +kernel
theorem dX11_forever_86 : decode cX11_forever 86 = .ok (.aload_n 0, 1) := by decide +kernel
theorem dX11_forever_87 : decode cX11_forever 87 = .ok (.getfield 114, 3) := by decide +kernel
theorem dX11_forever_90 : decode cX11_forever 90 = .ok (.iload 4, 2) := by decide +kernel
theorem dX11_forever_92 : decode cX11_forever 92 = .ok (.iconst (-1), 1) := by decide +kernel
theorem dX11_forever_93 : decode cX11_forever 93 = .ok (.iastore, 1) := by decide +kernel
theorem dX11_forever_94 : decode cX11_forever 94 = .ok (.iinc 4 1, 3) := by decide +kernel
theorem dX11_forever_97 : decode cX11_forever 97 = .ok (.goto (-21), 3) := by decide +kernel
theorem dX11_forever_100 : decode cX11_forever 100 = .ok (.iconst 0, 1) := by decide +kernel
theorem dX11_forever_101 : decode cX11_forever 101 = .ok (.istore 4, 2) := by decide +kernel
theorem dX11_forever_103 : decode cX11_forever 103 = .ok (.aload_n 0, 1) := by decide +kernel
theorem dX11_forever_104 : decode cX11_forever 104 = .ok (.getfield 99, 3) := by decide +kernel
theorem dX11_forever_107 : decode cX11_forever 107 = .ok (.bipush 6, 2) := by decide +kernel
theorem dX11_forever_109 : decode cX11_forever 109 = .ok (.iload_n 1, 1) := by decide +kernel
theorem dX11_forever_110 : decode cX11_forever 110 = .ok (.imul, 1) := by decide +kernel
theorem dX11_forever_111 : decode cX11_forever 111 = .ok (.iconst 3, 1) := by decide +kernel
theorem dX11_forever_112 : decode cX11_forever 112 = .ok (.iadd, 1) := by decide +kernel
theorem dX11_forever_113 : decode cX11_forever 113 = .ok (.iaload, 1) := by decide +kernel
theorem dX11_forever_114 : decode cX11_forever 114 = .ok (.ifCond .ne 55, 3) := by decide +kernel
theorem dX11_forever_117 : decode cX11_forever 117 = .ok (.aload_n 0, 1) := by decide +kernel
theorem dX11_forever_118 : decode cX11_forever 118 = .ok (.getfield 114, 3) := by decide +kernel
theorem dX11_forever_121 : decode cX11_forever 121 = .ok (.aload_n 0, 1) := by decide +kernel
theorem dX11_forever_122 : decode cX11_forever 122 = .ok (.aload_n 0, 1) := by decide +kernel
theorem dX11_forever_123 : decode cX11_forever 123 = .ok (.getfield 99, 3) := by decide +kernel
theorem dX11_forever_126 : decode cX11_forever 126 = .ok (.iload_n 1, 1) := by decide +kernel
theorem dX11_forever_127 : decode cX11_forever 127 = .ok (.invokevirtual 396, 3) := by decide +kernel
theorem dX11_forever_130 : decode cX11_forever 130 = .ok (.iaload, 1) := by decide +kernel
theorem dX11_forever_131 : decode cX11_forever 131 = .ok (.iconst (-1), 1) := by decide +kernel
theorem dX11_forever_132 : decode cX11_forever 132 = .ok (.if_icmp .ne 37, 3) := by decide +kernel
theorem dX11_forever_135 : decode cX11_forever 135 = .ok (.aload_n 0, 1) := by decide +kernel
theorem dX11_forever_136 : decode cX11_forever 136 = .ok (.getfield 114, 3) := by decide +kernel
theorem dX11_forever_139 : decode cX11_forever 139 = .ok (.aload_n 0, 1) := by decide +kernel
theorem dX11_forever_140 : decode cX11_forever 140 = .ok (.aload_n 0, 1) := by decide +kernel
theorem dX11_forever_141 : decode cX11_forever 141 = .ok (.getfield 99, 3) := by decide +kernel
theorem dX11_forever_144 : decode cX11_forever 144 = .ok (.iload_n 1, 1) := by decide +kernel
theorem dX11_forever_145 : decode cX11_forever 145 = .ok (.invokevirtual 396, 3) := by decide +kernel
theorem dX11_forever_148 : decode cX11_forever 148 = .ok (.iload 4, 2) := by decide +kernel
theorem dX11_forever_150 : decode cX11_forever 150 = .ok (.iastore, 1) := by decide +kernel
theorem dX11_forever_151 : decode cX11_forever 151 = .ok (.aload_n 0, 1) := by decide +kernel
theorem dX11_forever_152 : decode cX11_forever 152 = .ok (.aload_n 0, 1) := by decide +kernel
theorem dX11_forever_153 : decode cX11_forever 153 = .ok (.getfield 99, 3) := by decide +kernel
theorem dX11_forever_156 : decode cX11_forever 156 = .ok (.iload_n 1, 1) := by decide +kernel
theorem dX11_forever_157 : decode cX11_forever 157 = .ok (.iload_n 2, 1) := by decide +kernel
theorem dX11_forever_158 : decode cX11_forever 158 = .ok (.iconst 0, 1) := by decide +kernel
theorem dX11_forever_159 : decode cX11_forever 159 = .ok (.invokevirtual 325, 3) := by decide +kernel
theorem dX11_forever_162 : decode cX11_forever 162 = .ok (.pop, 1) := by decide +kernel
theorem dX11_forever_163 : decode cX11_forever 163 = .ok (.iinc 4 1, 3) := by decide +kernel
theorem dX11_forever_166 : decode cX11_forever 166 = .ok (.goto (-63), 3) := by decide +kernel
theorem dX11_forever_169 : decode cX11_forever 169 = .ok (.aload_n 0, 1) := by decide +kernel
theorem dX11_forever_170 : decode cX11_forever 170 = .ok (.getfield 99, 3) := by decide +kernel
theorem dX11_forever_173 : decode cX11_forever 173 = .ok (.bipush 6, 2) := by decide +kernel
theorem dX11_forever_175 : decode cX11_forever 175 = .ok (.iload_n 1, 1) := by decide +kernel
theorem dX11_forever_176 : decode cX11_forever 176 = .ok (.imul, 1) := by decide +kernel
theorem dX11_forever_177 : decode cX11_forever 177 = .ok (.iconst 3, 1) := by decide +kernel
theorem dX11_forever_178 : decode cX11_forever 178 = .ok (.iadd, 1) := by decide +kernel
theorem dX11_forever_179 : decode cX11_forever 179 = .ok (.iaload, 1) := by decide +kernel
theorem dX11_forever_180 : decode cX11_forever 180 = .ok (.istore 5, 2) := by decide +kernel
theorem dX11_forever_182 : decode cX11_forever 182 = .ok (.iload_n 3, 1) := by decide +kernel
theorem dX11_forever_183 : decode cX11_forever 183 = .ok (.ifCond .ne 17, 3) := by decide +kernel
theorem dX11_forever_186 : decode cX11_forever 186 = .ok (.iload 5, 2) := by decide +kernel
theorem dX11_forever_188 : decode cX11_forever 188 = .ok (.ifCond .ne 7, 3) := by decide +kernel
theorem dX11_forever_191 : decode cX11_forever 191 = .ok (.iconst 3, 1) := by decide +kernel
theorem dX11_forever_192 : decode cX11_forever 192 = .ok (.goto 35, 3) := by decide +kernel
theorem dX11_forever_195 : decode cX11_forever 195 = .ok (.iload 5, 2) := by decide +kernel
theorem dX11_forever_197 : decode cX11_forever 197 = .ok (.goto 30, 3) := by decide +kernel
theorem dX11_forever_200 : decode cX11_forever 200 = .ok (.iload 5, 2) := by decide +kernel
theorem dX11_forever_202 : decode cX11_forever 202 = .ok (.ifCond .ne 23, 3) := by decide +kernel
theorem dX11_forever_205 : decode cX11_forever 205 = .ok (.iload 4, 2) := by decide +kernel
theorem dX11_forever_207 : decode cX11_forever 207 = .ok (.aload_n 0, 1) := by decide +kernel
theorem dX11_forever_208 : decode cX11_forever 208 = .ok (.getfield 114, 3) := by decide +kernel
theorem dX11_forever_211 : decode cX11_forever 211 = .ok (.aload_n 0, 1) := by decide +kernel
theorem dX11_forever_212 : decode cX11_forever 212 = .ok (.aload_n 0, 1) := by decide +kernel
theorem dX11_forever_213 : decode cX11_forever 213 = .ok (.getfield 99, 3) := by decide +kernel
theorem dX11_forever_216 : decode cX11_forever 216 = .ok (.iload_n 1, 1) := by decide +kernel
theorem dX11_forever_217 : decode cX11_forever 217 = .ok (.invokevirtual 396, 3) := by decide +kernel
theorem dX11_forever_220 : decode cX11_forever 220 = .ok (.iaload, 1) := by decide +kernel
theorem dX11_forever_221 : decode cX11_forever 221 = .ok (.isub, 1) := by decide +kernel
theorem dX11_forever_222 : decode cX11_forever 222 = .ok (.goto 5, 3) := by decide +kernel
theorem dX11_forever_225 : decode cX11_forever 225 = .ok (.iload 4, 2) := by decide +kernel
theorem dX11_forever_227 : decode cX11_forever 227 = .ok (.ireturn, 1) := by decide +kernel
theorem dX11_night_0 : decode cX11_night 0 = .ok (.aload_n 0, 1) := by decide +kernel
theorem dX11_night_1 : decode cX11_night 1 = .ok (.iconst 0, 1) := by decide +kernel
theorem dX11_night_2 : decode cX11_night 2 = .ok (.putfield 132, 3) := by decide +kernel
theorem dX11_night_5 : decode cX11_night 5 = .ok (.iload_n 2, 1) := by decide +kernel
theorem dX11_night_6 : decode cX11_night 6 = .ok (.iconst 0, 1) := by decide +kernel
theorem dX11_night_7 : decode cX11_night 7 = .ok (.bipush 100, 2) := by decide +kernel
theorem dX11_night_9 : decode cX11_night 9 = .ok (.invokestatic 135, 3) := by decide +kernel
theorem dX11_night_12 : decode cX11_night 12 = .ok (.ifCond .ne 9, 3) := by decide +kernel
theorem dX11_night_15 : decode cX11_night 15 = .ok (.aload_n 0, 1) := by decide +kernel
theorem dX11_night_16 : decode cX11_night 16 = .ok (.iconst 1, 1) := by decide +kernel
theorem dX11_night_17 : decode cX11_night 17 = .ok (.invokevirtual 256, 3) := by decide +kernel
theorem dX11_night_20 : decode cX11_night 20 = .ok (.ireturn, 1) := by decide +kernel
theorem dX11_night_21 : decode cX11_night 21 = .ok (.iload_n 1, 1) := by decide +kernel
theorem dX11_night_22 : decode cX11_night 22 = .ok (.istore_n 3, 1) := by decide +kernel
theorem dX11_night_23 : decode cX11_night 23 = .ok (.iconst 0, 1) := by decide +kernel
theorem dX11_night_24 : decode cX11_night 24 = .ok (.istore 4, 2) := by decide +kernel
theorem dX11_night_26 : decode cX11_night 26 = .ok (.iconst 0, 1) := by decide +kernel
theorem dX11_night_27 : decode cX11_night 27 = .ok (.istore 5, 2) := by decide +kernel
theorem dX11_night_29 : decode cX11_night 29 = .ok (.iload 5, 2) := by decide +kernel
theorem dX11_night_31 : decode cX11_night 31 = .ok (.iload_n 2, 1) := by decide +kernel
theorem dX11_night_32 : decode cX11_night 32 = .ok (.if_icmp .ge 94, 3) := by decide +kernel
theorem dX11_night_35 : decode cX11_night 35 = .ok (.iconst 0, 1) := by decide +kernel
theorem dX11_night_36 : decode cX11_night 36 = .ok (.istore 6, 2) := by decide +kernel
theorem dX11_night_38 : decode cX11_night 38 = .ok (.iconst 0, 1) := by decide +kernel
theorem dX11_night_39 : decode cX11_night 39 = .ok (.istore 7, 2) := by decide +kernel
theorem dX11_night_41 : decode cX11_night 41 = .ok (.iload 7, 2) := by decide +kernel
theorem dX11_night_43 : decode cX11_night 43 = .ok (.aload_n 0, 1) := by decide +kernel
theorem dX11_night_44 : decode cX11_night 44 = .ok (.getfield 36, 3) := by decide +kernel
theorem dX11_night_47 : decode cX11_night 47 = .ok (.iconst 2, 1) := by decide +kernel
theorem dX11_night_48 : decode cX11_night 48 = .ok (.iaload, 1) := by decide +kernel
theorem dX11_night_49 : decode cX11_night 49 = .ok (.if_icmp .ge 55, 3) := by decide +kernel
theorem dX11_night_52 : decode cX11_night 52 = .ok (.iload_n 3, 1) := by decide +kernel
theorem dX11_night_53 : decode cX11_night 53 = .ok (.ldc_w 399, 3) := by decide +kernel
theorem dX11_night_56 : decode cX11_night 56 = .ok (.imul, 1) := by decide +kernel
theorem dX11_night_57 : decode cX11_night 57 = .ok (.sipush 12345, 3) := by decide +kernel
theorem dX11_night_60 : decode cX11_night 60 = .ok (.iadd, 1) := by decide +kernel
theorem dX11_night_61 : decode cX11_night 61 = .ok (.istore_n 3, 1) := by decide +kernel
theorem dX11_night_62 : decode cX11_night 62 = .ok (.iload 6, 2) := by decide +kernel
theorem dX11_night_64 : decode cX11_night 64 = .ok (.iload_n 3, 1) := by decide +kernel
theorem dX11_night_65 : decode cX11_night 65 = .ok (.bipush 16, 2) := by decide +kernel
theorem dX11_night_67 : decode cX11_night 67 = .ok (.ishr, 1) := by decide +kernel
theorem dX11_night_68 : decode cX11_night 68 = .ok (.iconst 1, 1) := by decide +kernel
theorem dX11_night_69 : decode cX11_night 69 = .ok (.iand, 1) := by decide +kernel
theorem dX11_night_70 : decode cX11_night 70 = .ok (.iconst 1, 1) := by decide +kernel
theorem dX11_night_71 : decode cX11_night 71 = .ok (.if_icmp .ne 23, 3) := by decide +kernel
theorem dX11_night_74 : decode cX11_night 74 = .ok (.aload_n 0, 1) := by decide +kernel
theorem dX11_night_75 : decode cX11_night 75 = .ok (.getfield 52, 3) := by decide +kernel
theorem dX11_night_78 : decode cX11_night 78 = .ok (.bipush 24, 2) := by decide +kernel
theorem dX11_night_80 : decode cX11_night 80 = .ok (.iload 7, 2) := by decide +kernel
theorem dX11_night_82 : decode cX11_night 82 = .ok (.iadd, 1) := by decide +kernel
theorem dX11_night_83 : decode cX11_night 83 = .ok (.iaload, 1) := by decide +kernel
theorem dX11_night_84 : decode cX11_night 84 = .ok (.ifCond .le 10, 3) := by decide +kernel
theorem dX11_night_87 : decode cX11_night 87 = .ok (.iconst 1, 1) := by decide +kernel
theorem dX11_night_88 : decode cX11_night 88 = .ok (.iload 7, 2) := by decide +kernel
theorem dX11_night_90 : decode cX11_night 90 = .ok (.ishl, 1) := by decide +kernel
theorem dX11_night_91 : decode cX11_night 91 = .ok (.goto 4, 3) := by decide +kernel
theorem dX11_night_94 : decode cX11_night 94 = .ok (.iconst 0, 1) := by decide +kernel
theorem dX11_night_95 : decode cX11_night 95 = .ok (.ior, 1) := by decide +kernel
theorem dX11_night_96 : decode cX11_night 96 = .ok (.istore 6, 2) := by decide +kernel
theorem dX11_night_98 : decode cX11_night 98 = .ok (.iinc 7 1, 3) := by decide +kernel
theorem dX11_night_101 : decode cX11_night 101 = .ok (.goto (-60), 3) := by decide +kernel
theorem dX11_night_104 : decode cX11_night 104 = .ok (.aload_n 0, 1) := by decide +kernel
theorem dX11_night_105 : decode cX11_night 105 = .ok (.iconst 0, 1) := by decide +kernel
theorem dX11_night_106 : decode cX11_night 106 = .ok (.putfield 273, 3) := by decide +kernel
theorem dX11_night_109 : decode cX11_night 109 = .ok (.iload 4, 2) := by decide +kernel
theorem dX11_night_111 : decode cX11_night 111 = .ok (.aload_n 0, 1) := by decide +kernel
theorem dX11_night_112 : decode cX11_night 112 = .ok (.iload 6, 2) := by decide +kernel
theorem dX11_night_114 : decode cX11_night 114 = .ok (.invokevirtual 342, 3) := by decide +kernel
theorem dX11_night_117 : decode cX11_night 117 = .ok (.iadd, 1) := by decide +kernel
theorem dX11_night_118 : decode cX11_night 118 = .ok (.istore 4, 2) := by decide +kernel
theorem dX11_night_120 : decode cX11_night 120 = .ok (.iinc 5 1, 3) := by decide +kernel
theorem dX11_night_123 : decode cX11_night 123 = .ok (.goto (-94), 3) := by decide +kernel
theorem dX11_night_126 : decode cX11_night 126 = .ok (.iload 4, 2) := by decide +kernel
theorem dX11_night_128 : decode cX11_night 128 = .ok (.ireturn, 1) := by decide +kernel
theorem dX11_image_0 : decode cX11_image 0 = .ok (.aload_n 0, 1) := by decide +kernel
theorem dX11_image_1 : decode cX11_image 1 = .ok (.iconst 0, 1) := by decide +kernel
theorem dX11_image_2 : decode cX11_image 2 = .ok (.putfield 132, 3) := by decide +kernel
theorem dX11_image_5 : decode cX11_image 5 = .ok (.aload_n 0, 1) := by decide +kernel
theorem dX11_image_6 : decode cX11_image 6 = .ok (.iconst 1, 1) := by decide +kernel
theorem dX11_image_7 : decode cX11_image 7 = .ok (.putfield 276, 3) := by decide +kernel
theorem dX11_image_10 : decode cX11_image 10 = .ok (.aload_n 0, 1) := by decide +kernel
theorem dX11_image_11 : decode cX11_image 11 = .ok (.aload_n 0, 1) := by decide +kernel
theorem dX11_image_12 : decode cX11_image 12 = .ok (.getfield 270, 3) := by decide +kernel
theorem dX11_image_15 : decode cX11_image 15 = .ok (.putfield 400, 3) := by decide +kernel
theorem dX11_image_18 : decode cX11_image 18 = .ok (.aload_n 0, 1) := by decide +kernel
theorem dX11_image_19 : decode cX11_image 19 = .ok (.aload_n 0, 1) := by decide +kernel
theorem dX11_image_20 : decode cX11_image 20 = .ok (.getfield 273, 3) := by decide +kernel
theorem dX11_image_23 : decode cX11_image 23 = .ok (.putfield 403, 3) := by decide +kernel
theorem dX11_image_26 : decode cX11_image 26 = .ok (.aload_n 0, 1) := by decide +kernel
theorem dX11_image_27 : decode cX11_image 27 = .ok (.getfield 117, 3) := by decide +kernel
theorem dX11_image_30 : decode cX11_image 30 = .ok (.aload_n 0, 1) := by decide +kernel
theorem dX11_image_31 : decode cX11_image 31 = .ok (.getfield 52, 3) := by decide +kernel
theorem dX11_image_34 : decode cX11_image 34 = .ok (.invokestatic 266, 3) := by decide +kernel
theorem dX11_image_37 : decode cX11_image 37 = .ok (.aload_n 0, 1) := by decide +kernel
theorem dX11_image_38 : decode cX11_image 38 = .ok (.getfield 120, 3) := by decide +kernel
theorem dX11_image_41 : decode cX11_image 41 = .ok (.aload_n 0, 1) := by decide +kernel
theorem dX11_image_42 : decode cX11_image 42 = .ok (.getfield 78, 3) := by decide +kernel
theorem dX11_image_45 : decode cX11_image 45 = .ok (.invokestatic 266, 3) := by decide +kernel
theorem dX11_image_48 : decode cX11_image 48 = .ok (.aload_n 0, 1) := by decide +kernel
theorem dX11_image_49 : decode cX11_image 49 = .ok (.getfield 123, 3) := by decide +kernel
theorem dX11_image_52 : decode cX11_image 52 = .ok (.aload_n 0, 1) := by decide +kernel
theorem dX11_image_53 : decode cX11_image 53 = .ok (.getfield 81, 3) := by decide +kernel
theorem dX11_image_56 : decode cX11_image 56 = .ok (.invokestatic 266, 3) := by decide +kernel
theorem dX11_image_59 : decode cX11_image 59 = .ok (.aload_n 0, 1) := by decide +kernel
theorem dX11_image_60 : decode cX11_image 60 = .ok (.getfield 126, 3) := by decide +kernel
theorem dX11_image_63 : decode cX11_image 63 = .ok (.aload_n 0, 1) := by decide +kernel
theorem dX11_image_64 : decode cX11_image 64 = .ok (.getfield 84, 3) := by decide +kernel
theorem dX11_image_67 : decode cX11_image 67 = .ok (.invokestatic 266, 3) := by decide +kernel
theorem dX11_image_70 : decode cX11_image 70 = .ok (.aload_n 0, 1) := by decide +kernel
theorem dX11_image_71 : decode cX11_image 71 = .ok (.getfield 129, 3) := by decide +kernel
theorem dX11_image_74 : decode cX11_image 74 = .ok (.aload_n 0, 1) := by decide +kernel
theorem dX11_image_75 : decode cX11_image 75 = .ok (.getfield 58, 3) := by decide +kernel
theorem dX11_image_78 : decode cX11_image 78 = .ok (.invokestatic 266, 3) := by decide +kernel
theorem dX11_image_81 : decode cX11_image 81 = .ok (.return_, 1) := by decide +kernel
theorem dX11_restore_0 : decode cX11_restore 0 = .ok (.aload_n 0, 1) := by decide +kernel
theorem dX11_restore_1 : decode cX11_restore 1 = .ok (.iconst 0, 1) := by decide +kernel
theorem dX11_restore_2 : decode cX11_restore 2 = .ok (.putfield 132, 3) := by decide +kernel
theorem dX11_restore_5 : decode cX11_restore 5 = .ok (.aload_n 0, 1) := by decide +kernel
theorem dX11_restore_6 : decode cX11_restore 6 = .ok (.getfield 276, 3) := by decide +kernel
theorem dX11_restore_9 : decode cX11_restore 9 = .ok (.ifCond .ne 5, 3) := by decide +kernel
theorem dX11_restore_12 : decode cX11_restore 12 = .ok (.iconst 0, 1) := by decide +kernel
theorem dX11_restore_13 : decode cX11_restore 13 = .ok (.ireturn, 1) := by decide +kernel
theorem dX11_restore_14 : decode cX11_restore 14 = .ok (.aload_n 0, 1) := by decide +kernel
theorem dX11_restore_15 : decode cX11_restore 15 = .ok (.aload_n 0, 1) := by decide +kernel
theorem dX11_restore_16 : decode cX11_restore 16 = .ok (.getfield 400, 3) := by decide +kernel
theorem dX11_restore_19 : decode cX11_restore 19 = .ok (.putfield 270, 3) := by decide +kernel
theorem dX11_restore_22 : decode cX11_restore 22 = .ok (.aload_n 0, 1) := by decide +kernel
theorem dX11_restore_23 : decode cX11_restore 23 = .ok (.aload_n 0, 1) := by decide +kernel
theorem dX11_restore_24 : decode cX11_restore 24 = .ok (.getfield 403, 3) := by decide +kernel
theorem dX11_restore_27 : decode cX11_restore 27 = .ok (.putfield 273, 3) := by decide +kernel
theorem dX11_restore_30 : decode cX11_restore 30 = .ok (.aload_n 0, 1) := by decide +kernel
theorem dX11_restore_31 : decode cX11_restore 31 = .ok (.getfield 52, 3) := by decide +kernel
theorem dX11_restore_34 : decode cX11_restore 34 = .ok (.aload_n 0, 1) := by decide +kernel
theorem dX11_restore_35 : decode cX11_restore 35 = .ok (.getfield 117, 3) := by decide +kernel
theorem dX11_restore_38 : decode cX11_restore 38 = .ok (.invokestatic 266, 3) := by decide +kernel
theorem dX11_restore_41 : decode cX11_restore 41 = .ok (.aload_n 0, 1) := by decide +kernel
theorem dX11_restore_42 : decode cX11_restore 42 = .ok (.getfield 78, 3) := by decide +kernel
theorem dX11_restore_45 : decode cX11_restore 45 = .ok (.aload_n 0, 1) := by decide +kernel
theorem dX11_restore_46 : decode cX11_restore 46 = .ok (.getfield 120, 3) := by decide +kernel
theorem dX11_restore_49 : decode cX11_restore 49 = .ok (.invokestatic 266, 3) := by decide +kernel
theorem dX11_restore_52 : decode cX11_restore 52 = .ok (.aload_n 0, 1) := by decide +kernel
theorem dX11_restore_53 : decode cX11_restore 53 = .ok (.getfield 81, 3) := by decide +kernel
theorem dX11_restore_56 : decode cX11_restore 56 = .ok (.aload_n 0, 1) := by decide +kernel
theorem dX11_restore_57 : decode cX11_restore 57 = .ok (.getfield 123, 3) := by decide +kernel
theorem dX11_restore_60 : decode cX11_restore 60 = .ok (.invokestatic 266, 3) := by decide +kernel
theorem dX11_restore_63 : decode cX11_restore 63 = .ok (.aload_n 0, 1) := by decide +kernel
theorem dX11_restore_64 : decode cX11_restore 64 = .ok (.getfield 84, 3) := by decide +kernel
theorem dX11_restore_67 : decode cX11_restore 67 = .ok (.aload_n 0, 1) := by decide +kernel
theorem dX11_restore_68 : decode cX11_restore 68 = .ok (.getfield 126, 3) := by decide +kernel
theorem dX11_restore_71 : decode cX11_restore 71 = .ok (.invokestatic 266, 3) := by decide +kernel
theorem dX11_restore_74 : decode cX11_restore 74 = .ok (.aload_n 0, 1) := by decide +kernel
theorem dX11_restore_75 : decode cX11_restore 75 = .ok (.getfield 58, 3) := by decide +kernel
theorem dX11_restore_78 : decode cX11_restore 78 = .ok (.aload_n 0, 1) := by decide +kernel
theorem dX11_restore_79 : decode cX11_restore 79 = .ok (.getfield 129, 3) := by decide +kernel
theorem dX11_restore_82 : decode cX11_restore 82 = .ok (.invokestatic 266, 3) := by decide +kernel
theorem dX11_restore_85 : decode cX11_restore 85 = .ok (.iconst 1, 1) := by decide +kernel
theorem dX11_restore_86 : decode cX11_restore 86 = .ok (.ireturn, 1) := by decide +kernel
def wpX11_readSet_J63 (sM : AR) (M_told : AR) (M_tape : AR) (l1 : Int32) (l2 : Int32) (kb : AR → Int32 → Prop) (kx72 : AR → Int32 → Prop) (post : Int32 → AR → Prop) : Prop := ∀ l1_68 : Int32, l1_68 = (l1 ||| (jshl (1 : Int32) l2)) → kb sM l1_68
def wpX11_readSet_J52 (sM : AR) (M_told : AR) (M_tape : AR) (l1 : Int32) (l2 : Int32) (kb : AR → Int32 → Prop) (kx72 : AR → Int32 → Prop) (post : Int32 → AR → Prop) : Prop := ((¬ (sM 21) = 0 → wpX11_readSet_J63 sM M_told M_tape l1 l2 kb kx72 post) ∧ ((sM 21) = 0 → wpX11_stepOn sM M_tape (fun sM_60 => wpX11_readSet_J63 sM_60 M_told M_tape l1 l2 kb kx72 post)))
def wpX11_readSet_L2 (M_told : AR) (M_tape : AR) (kx72 : AR → Int32 → Prop) (post : Int32 → AR → Prop) : Nat → AR → Int32 → Prop
  | 0, _, _ => False
  | nf2 + 1, sM, l1 => ((¬ (sM 21) = 0 → kx72 sM l1) ∧ ((sM 21) = 0 → ((¬ (sM 17) = (2 : Int32) → kx72 sM l1) ∧ ((sM 17) = (2 : Int32) → wpX11_numberNow sM (0 : Int32) ((M_told 2) - (1 : Int32)) (fun r27 sM_27 => ((¬ (sM_27 21) = 0 → wpX11_readSet_J52 sM_27 M_told M_tape l1 r27 (fun b0 b1 => wpX11_readSet_L2 M_told M_tape kx72 post nf2 b0 b1) kx72 post) ∧ ((sM_27 21) = 0 → ((¬ ((jshr l1 r27) &&& (1 : Int32)) = (1 : Int32) → wpX11_readSet_J52 sM_27 M_told M_tape l1 r27 (fun b0 b1 => wpX11_readSet_L2 M_told M_tape kx72 post nf2 b0 b1) kx72 post) ∧ (((jshr l1 r27) &&& (1 : Int32)) = (1 : Int32) → wpX11_wrong sM_27 (4 : Int32) (fun sM_49 => wpX11_readSet_J52 sM_49 M_told M_tape l1 r27 (fun b0 b1 => wpX11_readSet_L2 M_told M_tape kx72 post nf2 b0 b1) kx72 post))))))))))
def wpX11_readSet_J72 (sM : AR) (M_told : AR) (M_tape : AR) (l1 : Int32) (post : Int32 → AR → Prop) : Prop := wpX11_mark sM M_tape (59 : Int32) (fun sM_75 => post l1 sM_75)
def wpX11_readSet (sM : AR) (M_told : AR) (M_tape : AR) (post : Int32 → AR → Prop) : Prop := ∃ nf2 : Nat, wpX11_readSet_L2 M_told M_tape (fun sM_72 l1_72 => wpX11_readSet_J72 sM_72 M_told M_tape l1_72 post) post nf2 sM (0 : Int32)
set_option maxHeartbeats 4000000 in
set_option maxRecDepth 100000 in
theorem ctX11_readSet (l : Launch) (D : va_G) (cy : Nat → ClassId) (ev : Nat → Nat) (h0 : Nat) (rM : Nat → Nat) (sM : AR) (M_told : AR) (M_tape : AR) (sz : Nat) (post : Int32 → AR → Prop) (h : wpX11_readSet sM M_told M_tape post) : Met l yX11_readSet (Cond.code yX11_readSet cX11_readSet 3 (some .int) :: TB) ({ frames := 3, cells := 0, slots := 0, locals := 102 }) (va_Pc [.ref h0] (PreX D cy ev [(h0, .inr (11, oX11 rM sM)), ((rM 3), .inl (cy 0, 14, .inl M_told)), ((rM 13), .inl (cy 0, 500, .inl M_tape))] sz)) (va_Qi (fun (r : Int32) (u : AR) => post r u) (fun u => BkX D cy [(h0, .inr (11, oX11 rM sM)), ((rM 3), .inl (cy 0, 14, .inl M_told)), ((rM 13), .inl (cy 0, 500, .inl M_tape))] sz [(h0, .inr (11, oX11 rM u)), ((rM 3), .inl (cy 0, 14, .inl M_told)), ((rM 13), .inl (cy 0, 500, .inl M_tape))]) (va_A [(h0, .inr (11, oX11 rM sM)), ((rM 3), .inl (cy 0, 14, .inl M_told)), ((rM 13), .inl (cy 0, 500, .inl M_tape))] sz)) 0 0 (va_A [(h0, .inr (11, oX11 rM sM)), ((rM 3), .inl (cy 0, 14, .inl M_told)), ((rM 13), .inl (cy 0, 500, .inl M_tape))] sz) := by
  refine ofWi (by decide) (Nat.le_of_ble_eq_true rfl) ?_
  intro p e s m args below meth c ls A R QQ hx hb hml hown hts hR hlk hE hK hP hD hS hA hl hret
  have hown : s.vm.findClass RX11 = some m.cls := hown
  have hRf : 3 ≤ R.frames := by rw [hR]; exact Nat.le_refl _
  have hRl : 102 ≤ R.locals := by rw [hR]; exact Nat.le_refl _
  clear hR
  have hl : lv_has ls 3 [(0, .ref h0)] := hl
  have J72 : ∀ (sM : AR) (l1 : Int32) (H : Heap) (locs : List Loc) (ls : Array Slot), wpX11_readSet_J72 sM M_told M_tape l1 post → va_P D clsX [(h0, .inr (11, oX11 rM sM)), ((rM 3), .inl (cy 0, 14, .inl M_told)), ((rM 13), .inl (cy 0, 500, .inl M_tape))] H → va_D A [(h0, .inr (11, oX11 rM sM)), ((rM 3), .inl (cy 0, 14, .inl M_told)), ((rM 13), .inl (cy 0, 500, .inl M_tape))] → va_S A s.heap H locs → lv_has ls 3 [(0, .ref h0), (1, .int l1)] → W p l e R s m args below meth c H locs 0 0 QQ (F0 m 72 ls []) := by
    intro sM l1 H locs ls h hP hD hS hl
    refine lv_aload_n hx hb dX11_readSet_72 rfl (lv_at hl 0 rfl) ?_
    refine lv_bipush (v := (59 : Int32)) hx hb dX11_readSet_73 (by decide) ?_
    refine clVv (As := [.int (59 : Int32)]) (rest := []) (Wr := [((rM 3), .inl (cy 0, 14, .inl M_told))]) (cq := (RX11, TX11, 56)) ⟨hx, hb, hml, hown, hts⟩ ⟨callB_of 1 hts (goodC mw1434) rfl rfl rfl (hts _ (tb mw15)) (hts _ (tb mw1431)) kdX11_mark ⟨Nat.le_trans (by decide) hRf, Nat.le_trans (by decide) hRl⟩, hts _ (tb mw1433), hts _ (tb ms54)⟩ (ctX11_mark l D cy ev h0 rM sM M_tape (59 : Int32) _ _ h) hE hK hP hD hS hA [0, 2] [1] rfl rfl (by decide) (by decide) (by decide) 0 rfl rfl rfl hl.1 rfl (Nat.le_of_ble_eq_true rfl) ⟨Nat.zero_le _, Nat.zero_le _⟩ dX11_readSet_75 (fun sM_75 H locs h hP hD hS => ?_)
    have hP : va_P D clsX [((rM 3), .inl (cy 0, 14, .inl M_told)), (h0, .inr (11, oX11 rM sM_75)), ((rM 13), .inl (cy 0, 500, .inl M_tape))] H := hP
    have hD : va_D A [((rM 3), .inl (cy 0, 14, .inl M_told)), (h0, .inr (11, oX11 rM sM_75)), ((rM 13), .inl (cy 0, 500, .inl M_tape))] := hD
    refine lv_iload_n hx hb dX11_readSet_78 rfl (lv_at hl 1 rfl) ?_
    exact hret l1 (sM_75) _ _ _ _ rfl dX11_readSet_79 h (hP.sub [1, 0, 2] rfl) (hD.sub [1, 0, 2] (by decide) rfl) hS
  have L2 : ∀ (kx72 : AR → Int32 → Prop), (∀ (sM : AR) (l1 : Int32) (H : Heap) (locs : List Loc) (ls : Array Slot), kx72 sM l1 → va_P D clsX [(h0, .inr (11, oX11 rM sM)), ((rM 3), .inl (cy 0, 14, .inl M_told)), ((rM 13), .inl (cy 0, 500, .inl M_tape))] H → va_D A [(h0, .inr (11, oX11 rM sM)), ((rM 3), .inl (cy 0, 14, .inl M_told)), ((rM 13), .inl (cy 0, 500, .inl M_tape))] → va_S A s.heap H locs → lv_has ls 3 [(0, .ref h0), (1, .int l1)] → W p l e R s m args below meth c H locs 0 0 QQ (F0 m 72 ls [])) → ∀ (nf2 : Nat) (sM : AR) (l1 : Int32) (H : Heap) (locs : List Loc) (ls : Array Slot), wpX11_readSet_L2 M_told M_tape kx72 post nf2 sM l1 → va_P D clsX [(h0, .inr (11, oX11 rM sM)), ((rM 3), .inl (cy 0, 14, .inl M_told)), ((rM 13), .inl (cy 0, 500, .inl M_tape))] H → va_D A [(h0, .inr (11, oX11 rM sM)), ((rM 3), .inl (cy 0, 14, .inl M_told)), ((rM 13), .inl (cy 0, 500, .inl M_tape))] → va_S A s.heap H locs → lv_has ls 3 [(0, .ref h0), (1, .int l1)] → W p l e R s m args below meth c H locs 0 0 QQ (F0 m 2 ls []) := by
    intro kx72 hk2_72 nf2
    induction nf2 with
    | zero =>
      intro sM l1 H locs ls h
      exact (show False from h).elim
    | succ nf2 ih2 =>
      intro sM l1 H locs ls h hP hD hS hl
      have J52 : ∀ (sM : AR) (l1 : Int32) (l2 : Int32) (H : Heap) (locs : List Loc) (ls : Array Slot), wpX11_readSet_J52 sM M_told M_tape l1 l2 (fun b0 b1 => wpX11_readSet_L2 M_told M_tape kx72 post nf2 b0 b1) kx72 post → va_P D clsX [(h0, .inr (11, oX11 rM sM)), ((rM 3), .inl (cy 0, 14, .inl M_told)), ((rM 13), .inl (cy 0, 500, .inl M_tape))] H → va_D A [(h0, .inr (11, oX11 rM sM)), ((rM 3), .inl (cy 0, 14, .inl M_told)), ((rM 13), .inl (cy 0, 500, .inl M_tape))] → va_S A s.heap H locs → lv_has ls 3 [(0, .ref h0), (1, .int l1), (2, .int l2)] → W p l e R s m args below meth c H locs 0 0 QQ (F0 m 52 ls []) := by
        intro sM l1 l2 H locs ls h hP hD hS hl
        have J63 : ∀ (sM : AR) (l1 : Int32) (l2 : Int32) (H : Heap) (locs : List Loc) (ls : Array Slot), wpX11_readSet_J63 sM M_told M_tape l1 l2 (fun b0 b1 => wpX11_readSet_L2 M_told M_tape kx72 post nf2 b0 b1) kx72 post → va_P D clsX [(h0, .inr (11, oX11 rM sM)), ((rM 3), .inl (cy 0, 14, .inl M_told)), ((rM 13), .inl (cy 0, 500, .inl M_tape))] H → va_D A [(h0, .inr (11, oX11 rM sM)), ((rM 3), .inl (cy 0, 14, .inl M_told)), ((rM 13), .inl (cy 0, 500, .inl M_tape))] → va_S A s.heap H locs → lv_has ls 3 [(0, .ref h0), (1, .int l1), (2, .int l2)] → W p l e R s m args below meth c H locs 0 0 QQ (F0 m 63 ls []) := by
          intro sM l1 l2 H locs ls h hP hD hS hl
          refine lv_iload_n hx hb dX11_readSet_63 rfl (lv_at hl 1 rfl) ?_
          refine lv_iconst (v := (1 : Int32)) hx hb dX11_readSet_64 (by decide) ?_
          refine lv_iload_n hx hb dX11_readSet_65 rfl (lv_at hl 2 rfl) ?_
          refine lv_ishl hx hb dX11_readSet_66 ?_
          refine lv_ior hx hb dX11_readSet_67 ?_
          refine lv_topi (fun l1_68 el1_68 => ?_)
          have h := h l1_68 el1_68
          refine lv_istore_n (lv' := [(1, .int l1_68), (0, .ref h0), (2, .int l2)]) hx hb dX11_readSet_68 rfl hl (by decide) rfl (fun ls hl => ?_)
          refine lv_goto (tgt := 2) hx hb dX11_readSet_69 (by decide) ?_
          exact ih2 sM l1_68 _ _ _ h hP hD hS (lv_sub hl [1, 0] rfl)
        refine lv_aload_n hx hb dX11_readSet_52 rfl (lv_at hl 0 rfl) ?_
        refine gfX11_181 (v := (sM 21)) hx hb hts hown hK hP 0 rfl rfl dX11_readSet_53 ?_
        refine lv_if_ne (tgt := 63) hx hb dX11_readSet_56 (by decide) (fun c56 => ?_) (fun c56 => ?_)
        · have h := h.1 c56
          exact J63 sM l1 l2 _ _ _ h hP hD hS hl
        · have h := h.2 c56
          refine lv_aload_n hx hb dX11_readSet_59 rfl (lv_at hl 0 rfl) ?_
          refine clVv (As := []) (rest := []) (Wr := [((rM 3), .inl (cy 0, 14, .inl M_told))]) (cq := (RX11, TX11, 56)) ⟨hx, hb, hml, hown, hts⟩ ⟨callB_of 0 hts (goodC mw1358) rfl rfl rfl (hts _ (tb mw15)) (hts _ (tb mw1355)) kdX11_stepOn ⟨Nat.le_trans (by decide) hRf, Nat.le_trans (by decide) hRl⟩, hts _ (tb mw1357), hts _ (tb ms39)⟩ (ctX11_stepOn l D cy ev h0 rM sM M_tape  _ _ h) hE hK hP hD hS hA [0, 2] [1] rfl rfl (by decide) (by decide) (by decide) 0 rfl rfl rfl hl.1 rfl (Nat.le_of_ble_eq_true rfl) ⟨Nat.zero_le _, Nat.zero_le _⟩ dX11_readSet_60 (fun sM_60 H locs h hP hD hS => ?_)
          have hP : va_P D clsX [((rM 3), .inl (cy 0, 14, .inl M_told)), (h0, .inr (11, oX11 rM sM_60)), ((rM 13), .inl (cy 0, 500, .inl M_tape))] H := hP
          have hD : va_D A [((rM 3), .inl (cy 0, 14, .inl M_told)), (h0, .inr (11, oX11 rM sM_60)), ((rM 13), .inl (cy 0, 500, .inl M_tape))] := hD
          exact J63 sM_60 l1 l2 _ _ _ h (hP.sub [1, 0, 2] rfl) (hD.sub [1, 0, 2] (by decide) rfl) hS hl
      refine lv_aload_n hx hb dX11_readSet_2 rfl (lv_at hl 0 rfl) ?_
      refine gfX11_181 (v := (sM 21)) hx hb hts hown hK hP 0 rfl rfl dX11_readSet_3 ?_
      refine lv_if_ne (tgt := 72) hx hb dX11_readSet_6 (by decide) (fun c6 => ?_) (fun c6 => ?_)
      · have h := h.1 c6
        exact hk2_72 sM l1 _ _ _ h hP hD hS hl
      · have h := h.2 c6
        refine lv_aload_n hx hb dX11_readSet_9 rfl (lv_at hl 0 rfl) ?_
        refine gfX11_159 (v := (sM 17)) hx hb hts hown hK hP 0 rfl rfl dX11_readSet_10 ?_
        refine lv_iconst (v := (2 : Int32)) hx hb dX11_readSet_13 (by decide) ?_
        refine lv_icmp_ne (tgt := 72) hx hb dX11_readSet_14 (by decide) (fun c14 => ?_) (fun c14 => ?_)
        · have h := h.1 c14
          exact hk2_72 sM l1 _ _ _ h hP hD hS hl
        · have h := h.2 c14
          refine lv_aload_n hx hb dX11_readSet_17 rfl (lv_at hl 0 rfl) ?_
          refine lv_iconst (v := (0 : Int32)) hx hb dX11_readSet_18 (by decide) ?_
          refine lv_aload_n hx hb dX11_readSet_19 rfl (lv_at hl 0 rfl) ?_
          refine gfX11_36 hx hb hts hown hK hP 0 rfl dX11_readSet_20 ?_
          refine lv_iconst (v := (2 : Int32)) hx hb dX11_readSet_23 (by decide) ?_
          refine ldi (k := 2) hx hb hK hP 1 rfl (inL (by decide)) (by decide) dX11_readSet_24 ?_
          refine lv_iconst (v := (1 : Int32)) hx hb dX11_readSet_25 (by decide) ?_
          refine lv_isub hx hb dX11_readSet_26 ?_
          refine clVi (As := [.int (0 : Int32), .int ((M_told 2) - (1 : Int32))]) (rest := []) (Wr := [((rM 3), .inl (cy 0, 14, .inl M_told)), ((rM 13), .inl (cy 0, 500, .inl M_tape))]) (cq := (RX11, TX11, 56)) ⟨hx, hb, hml, hown, hts⟩ ⟨callB_of 2 hts (goodC mw1410) rfl rfl rfl (hts _ (tb mw15)) (hts _ (tb mw1407)) kdX11_numberNow ⟨Nat.le_trans (by decide) hRf, Nat.le_trans (by decide) hRl⟩, hts _ (tb mw1409), hts _ (tb ms49)⟩ (ctX11_numberNow l D cy ev h0 rM sM (0 : Int32) ((M_told 2) - (1 : Int32)) _ _ h) hE hK hP hD hS hA [0] [1, 2] rfl rfl (by decide) (by decide) (by decide) 0 rfl rfl rfl hl.1 rfl (Nat.le_of_ble_eq_true rfl) ⟨Nat.zero_le _, Nat.zero_le _⟩ dX11_readSet_27 (fun r27 sM_27 H locs h hP hD hS => ?_)
          have hP : va_P D clsX [((rM 3), .inl (cy 0, 14, .inl M_told)), ((rM 13), .inl (cy 0, 500, .inl M_tape)), (h0, .inr (11, oX11 rM sM_27))] H := hP
          have hD : va_D A [((rM 3), .inl (cy 0, 14, .inl M_told)), ((rM 13), .inl (cy 0, 500, .inl M_tape)), (h0, .inr (11, oX11 rM sM_27))] := hD
          refine lv_istore_n (lv' := [(2, .int r27), (0, .ref h0), (1, .int l1)]) hx hb dX11_readSet_30 rfl hl (by decide) rfl (fun ls hl => ?_)
          refine lv_aload_n hx hb dX11_readSet_31 rfl (lv_at hl 1 rfl) ?_
          refine gfX11_181 (v := (sM_27 21)) hx hb hts hown hK hP 2 rfl rfl dX11_readSet_32 ?_
          refine lv_if_ne (tgt := 52) hx hb dX11_readSet_35 (by decide) (fun c35 => ?_) (fun c35 => ?_)
          · have h := h.1 c35
            exact J52 sM_27 l1 r27 _ _ _ h (hP.sub [2, 0, 1] rfl) (hD.sub [2, 0, 1] (by decide) rfl) hS (lv_sub hl [1, 2, 0] rfl)
          · have h := h.2 c35
            refine lv_iload_n hx hb dX11_readSet_38 rfl (lv_at hl 2 rfl) ?_
            refine lv_iload_n hx hb dX11_readSet_39 rfl (lv_at hl 0 rfl) ?_
            refine lv_ishr hx hb dX11_readSet_40 ?_
            refine lv_iconst (v := (1 : Int32)) hx hb dX11_readSet_41 (by decide) ?_
            refine lv_iand hx hb dX11_readSet_42 ?_
            refine lv_iconst (v := (1 : Int32)) hx hb dX11_readSet_43 (by decide) ?_
            refine lv_icmp_ne (tgt := 52) hx hb dX11_readSet_44 (by decide) (fun c44 => ?_) (fun c44 => ?_)
            · have h := h.1 c44
              exact J52 sM_27 l1 r27 _ _ _ h (hP.sub [2, 0, 1] rfl) (hD.sub [2, 0, 1] (by decide) rfl) hS (lv_sub hl [1, 2, 0] rfl)
            · have h := h.2 c44
              refine lv_aload_n hx hb dX11_readSet_47 rfl (lv_at hl 1 rfl) ?_
              refine lv_iconst (v := (4 : Int32)) hx hb dX11_readSet_48 (by decide) ?_
              refine clVv (As := [.int (4 : Int32)]) (rest := []) (Wr := [((rM 3), .inl (cy 0, 14, .inl M_told)), ((rM 13), .inl (cy 0, 500, .inl M_tape))]) (cq := (RX11, TX11, 56)) ⟨hx, hb, hml, hown, hts⟩ ⟨callB_of 1 hts (goodC mw1394) rfl rfl rfl (hts _ (tb mw15)) (hts _ (tb mw1391)) kdX11_wrong ⟨Nat.le_trans (by decide) hRf, Nat.le_trans (by decide) hRl⟩, hts _ (tb mw1393), hts _ (tb ms45)⟩ (ctX11_wrong l D cy ev h0 rM sM_27 (4 : Int32) _ _ h) hE hK hP hD hS hA [2] [0, 1] rfl rfl (by decide) (by decide) (by decide) 0 rfl rfl rfl hl.1 rfl (Nat.le_of_ble_eq_true rfl) ⟨Nat.zero_le _, Nat.zero_le _⟩ dX11_readSet_49 (fun sM_49 H locs h hP hD hS => ?_)
              have hP : va_P D clsX [((rM 3), .inl (cy 0, 14, .inl M_told)), ((rM 13), .inl (cy 0, 500, .inl M_tape)), (h0, .inr (11, oX11 rM sM_49))] H := hP
              have hD : va_D A [((rM 3), .inl (cy 0, 14, .inl M_told)), ((rM 13), .inl (cy 0, 500, .inl M_tape)), (h0, .inr (11, oX11 rM sM_49))] := hD
              exact J52 sM_49 l1 r27 _ _ _ h (hP.sub [2, 0, 1] rfl) (hD.sub [2, 0, 1] (by decide) rfl) hS (lv_sub hl [1, 2, 0] rfl)
  refine lv_iconst (v := (0 : Int32)) hx hb dX11_readSet_0 (by decide) ?_
  refine lv_istore_n (lv' := [(1, .int (0 : Int32)), (0, .ref h0)]) hx hb dX11_readSet_1 rfl hl (by decide) rfl (fun ls hl => ?_)
  obtain ⟨nf2, h⟩ := h
  refine L2  _ (fun sM_72 l1_72 H locs ls h hP hD hS hl => ?_) nf2 sM (0 : Int32) _ _ _ h hP hD hS (lv_sub hl [1, 0] rfl)
  exact J72 sM_72 l1_72 _ _ _ h hP hD hS hl
def wpX11_doOrder_J63 (sM : AR) (M_told : AR) (M_place : AR) (M_range : AR) (M_voice : AR) (M_kind : AR) (M_now : AR) (M_status : AR) (M_isFalse : AR) (M_isMirage : AR) (M_why : AR) (M_rows : AR) (M_sets : AR) (M_whys : AR) (M_caseCell : AR) (M_caseHeading : AR) (t1 : Int32) (t2 : Int32) (post : AR → AR → AR → AR → AR → AR → AR → AR → AR → Prop) : Prop := ∀ f33_64 : Int32, f33_64 = (t1 ||| t2) → narrow .boolean (.int f33_64) = .int f33_64 ∧ post (upd sM 33 f33_64) M_now M_status M_why M_rows M_sets M_whys M_caseCell M_caseHeading
def wpX11_doOrder_J43 (sM : AR) (M_told : AR) (M_place : AR) (M_range : AR) (M_voice : AR) (M_kind : AR) (M_now : AR) (M_status : AR) (M_isFalse : AR) (M_isMirage : AR) (M_why : AR) (M_rows : AR) (M_sets : AR) (M_whys : AR) (M_caseCell : AR) (M_caseHeading : AR) (post : AR → AR → AR → AR → AR → AR → AR → AR → AR → Prop) : Prop := ((¬ (sM 32) = (200 : Int32) → wpX11_doOrder_J63 sM M_told M_place M_range M_voice M_kind M_now M_status M_isFalse M_isMirage M_why M_rows M_sets M_whys M_caseCell M_caseHeading (sM 33) (0 : Int32) post) ∧ ((sM 32) = (200 : Int32) → wpX11_doOrder_J63 sM M_told M_place M_range M_voice M_kind M_now M_status M_isFalse M_isMirage M_why M_rows M_sets M_whys M_caseCell M_caseHeading (sM 33) (1 : Int32) post))
def wpX11_doOrder (sM : AR) (M_told : AR) (M_place : AR) (M_range : AR) (M_voice : AR) (M_kind : AR) (M_now : AR) (M_status : AR) (M_isFalse : AR) (M_isMirage : AR) (M_why : AR) (M_rows : AR) (M_sets : AR) (M_whys : AR) (M_caseCell : AR) (M_caseHeading : AR) (x1 : Int32) (post : AR → AR → AR → AR → AR → AR → AR → AR → AR → Prop) : Prop := ((¬ (sM 32) = (200 : Int32) → wpX11_stroke sM M_told M_place M_range M_voice M_kind M_now M_status M_isFalse M_isMirage M_why M_rows M_sets M_whys M_caseCell M_caseHeading x1 (fun r18 sM_18 M_now_18 M_status_18 M_why_18 M_rows_18 M_sets_18 M_whys_18 M_caseCell_18 M_caseHeading_18 => ((¬ r18 = (-1 : Int32) → ∀ f32_40 : Int32, f32_40 = ((sM_18 32) + (1 : Int32)) → wpX11_doOrder_J43 (upd sM_18 32 f32_40) M_told M_place M_range M_voice M_kind M_now_18 M_status_18 M_isFalse M_isMirage M_why_18 M_rows_18 M_sets_18 M_whys_18 M_caseCell_18 M_caseHeading_18 post) ∧ (r18 = (-1 : Int32) → wpX11_doOrder_J43 (upd sM_18 33 (1 : Int32)) M_told M_place M_range M_voice M_kind M_now_18 M_status_18 M_isFalse M_isMirage M_why_18 M_rows_18 M_sets_18 M_whys_18 M_caseCell_18 M_caseHeading_18 post)))) ∧ ((sM 32) = (200 : Int32) → post (upd sM 33 (1 : Int32)) M_now M_status M_why M_rows M_sets M_whys M_caseCell M_caseHeading))
set_option maxHeartbeats 4000000 in
set_option maxRecDepth 100000 in
theorem ctX11_doOrder (l : Launch) (D : va_G) (cy : Nat → ClassId) (ev : Nat → Nat) (h0 : Nat) (rM : Nat → Nat) (sM : AR) (M_told : AR) (M_place : AR) (M_range : AR) (M_voice : AR) (M_kind : AR) (M_now : AR) (M_status : AR) (M_isFalse : AR) (M_isMirage : AR) (M_why : AR) (M_rows : AR) (M_sets : AR) (M_whys : AR) (M_caseCell : AR) (M_caseHeading : AR) (x1 : Int32) (sz : Nat) (post : AR → AR → AR → AR → AR → AR → AR → AR → AR → Prop) (h : wpX11_doOrder sM M_told M_place M_range M_voice M_kind M_now M_status M_isFalse M_isMirage M_why M_rows M_sets M_whys M_caseCell M_caseHeading x1 post) : Met l yX11_doOrder (Cond.code yX11_doOrder cX11_doOrder 2 none :: TB) ({ frames := 8, cells := 0, slots := 0, locals := 226 }) (va_Pc [.ref h0, .int x1] (PreX D cy ev [(h0, .inr (11, oX11 rM sM)), ((rM 3), .inl (cy 0, 14, .inl M_told)), ((rM 4), .inl (cy 0, 10, .inl M_place)), ((rM 5), .inl (cy 0, 10, .inl M_range)), ((rM 6), .inl (cy 0, 10, .inl M_voice)), ((rM 7), .inl (cy 0, 8, .inl M_kind)), ((rM 8), .inl (cy 0, 29, .inl M_now)), ((rM 10), .inl (cy 0, 2, .inl M_status)), ((rM 11), .inl (cy 2, 10, .inl M_isFalse)), ((rM 12), .inl (cy 2, 200, .inl M_isMirage)), ((rM 26), .inl (cy 0, 4, .inl M_why)), ((rM 27), .inl (cy 0, 2900, .inl M_rows)), ((rM 28), .inl (cy 0, 100, .inl M_sets)), ((rM 29), .inl (cy 0, 400, .inl M_whys)), ((rM 34), .inl (cy 0, 100, .inl M_caseCell)), ((rM 35), .inl (cy 0, 100, .inl M_caseHeading))] sz)) (va_Qv (fun (u : AR × AR × AR × AR × AR × AR × AR × AR × AR) => post (u.1) (u.2.1) (u.2.2.1) (u.2.2.2.1) (u.2.2.2.2.1) (u.2.2.2.2.2.1) (u.2.2.2.2.2.2.1) (u.2.2.2.2.2.2.2.1) (u.2.2.2.2.2.2.2.2)) (fun u => BkX D cy [(h0, .inr (11, oX11 rM sM)), ((rM 3), .inl (cy 0, 14, .inl M_told)), ((rM 4), .inl (cy 0, 10, .inl M_place)), ((rM 5), .inl (cy 0, 10, .inl M_range)), ((rM 6), .inl (cy 0, 10, .inl M_voice)), ((rM 7), .inl (cy 0, 8, .inl M_kind)), ((rM 8), .inl (cy 0, 29, .inl M_now)), ((rM 10), .inl (cy 0, 2, .inl M_status)), ((rM 11), .inl (cy 2, 10, .inl M_isFalse)), ((rM 12), .inl (cy 2, 200, .inl M_isMirage)), ((rM 26), .inl (cy 0, 4, .inl M_why)), ((rM 27), .inl (cy 0, 2900, .inl M_rows)), ((rM 28), .inl (cy 0, 100, .inl M_sets)), ((rM 29), .inl (cy 0, 400, .inl M_whys)), ((rM 34), .inl (cy 0, 100, .inl M_caseCell)), ((rM 35), .inl (cy 0, 100, .inl M_caseHeading))] sz [(h0, .inr (11, oX11 rM (u.1))), ((rM 3), .inl (cy 0, 14, .inl M_told)), ((rM 4), .inl (cy 0, 10, .inl M_place)), ((rM 5), .inl (cy 0, 10, .inl M_range)), ((rM 6), .inl (cy 0, 10, .inl M_voice)), ((rM 7), .inl (cy 0, 8, .inl M_kind)), ((rM 8), .inl (cy 0, 29, .inl (u.2.1))), ((rM 10), .inl (cy 0, 2, .inl (u.2.2.1))), ((rM 11), .inl (cy 2, 10, .inl M_isFalse)), ((rM 12), .inl (cy 2, 200, .inl M_isMirage)), ((rM 26), .inl (cy 0, 4, .inl (u.2.2.2.1))), ((rM 27), .inl (cy 0, 2900, .inl (u.2.2.2.2.1))), ((rM 28), .inl (cy 0, 100, .inl (u.2.2.2.2.2.1))), ((rM 29), .inl (cy 0, 400, .inl (u.2.2.2.2.2.2.1))), ((rM 34), .inl (cy 0, 100, .inl (u.2.2.2.2.2.2.2.1))), ((rM 35), .inl (cy 0, 100, .inl (u.2.2.2.2.2.2.2.2)))]) (va_A [(h0, .inr (11, oX11 rM sM)), ((rM 3), .inl (cy 0, 14, .inl M_told)), ((rM 4), .inl (cy 0, 10, .inl M_place)), ((rM 5), .inl (cy 0, 10, .inl M_range)), ((rM 6), .inl (cy 0, 10, .inl M_voice)), ((rM 7), .inl (cy 0, 8, .inl M_kind)), ((rM 8), .inl (cy 0, 29, .inl M_now)), ((rM 10), .inl (cy 0, 2, .inl M_status)), ((rM 11), .inl (cy 2, 10, .inl M_isFalse)), ((rM 12), .inl (cy 2, 200, .inl M_isMirage)), ((rM 26), .inl (cy 0, 4, .inl M_why)), ((rM 27), .inl (cy 0, 2900, .inl M_rows)), ((rM 28), .inl (cy 0, 100, .inl M_sets)), ((rM 29), .inl (cy 0, 400, .inl M_whys)), ((rM 34), .inl (cy 0, 100, .inl M_caseCell)), ((rM 35), .inl (cy 0, 100, .inl M_caseHeading))] sz)) 0 0 (va_A [(h0, .inr (11, oX11 rM sM)), ((rM 3), .inl (cy 0, 14, .inl M_told)), ((rM 4), .inl (cy 0, 10, .inl M_place)), ((rM 5), .inl (cy 0, 10, .inl M_range)), ((rM 6), .inl (cy 0, 10, .inl M_voice)), ((rM 7), .inl (cy 0, 8, .inl M_kind)), ((rM 8), .inl (cy 0, 29, .inl M_now)), ((rM 10), .inl (cy 0, 2, .inl M_status)), ((rM 11), .inl (cy 2, 10, .inl M_isFalse)), ((rM 12), .inl (cy 2, 200, .inl M_isMirage)), ((rM 26), .inl (cy 0, 4, .inl M_why)), ((rM 27), .inl (cy 0, 2900, .inl M_rows)), ((rM 28), .inl (cy 0, 100, .inl M_sets)), ((rM 29), .inl (cy 0, 400, .inl M_whys)), ((rM 34), .inl (cy 0, 100, .inl M_caseCell)), ((rM 35), .inl (cy 0, 100, .inl M_caseHeading))] sz) := by
  refine ofWv (by decide) (Nat.le_of_ble_eq_true rfl) ?_
  intro p e s m args below meth c ls A R QQ hx hb hml hown hts hR hlk hE hK hP hD hS hA hl hret
  have hown : s.vm.findClass RX11 = some m.cls := hown
  have hRf : 8 ≤ R.frames := by rw [hR]; exact Nat.le_refl _
  have hRl : 226 ≤ R.locals := by rw [hR]; exact Nat.le_refl _
  clear hR
  have hl : lv_has ls 2 [(0, .ref h0), (1, .int x1)] := hl
  have J43 : ∀ (sM : AR) (M_now : AR) (M_status : AR) (M_why : AR) (M_rows : AR) (M_sets : AR) (M_whys : AR) (M_caseCell : AR) (M_caseHeading : AR) (H : Heap) (locs : List Loc) (ls : Array Slot), wpX11_doOrder_J43 sM M_told M_place M_range M_voice M_kind M_now M_status M_isFalse M_isMirage M_why M_rows M_sets M_whys M_caseCell M_caseHeading post → va_P D clsX [(h0, .inr (11, oX11 rM sM)), ((rM 3), .inl (cy 0, 14, .inl M_told)), ((rM 4), .inl (cy 0, 10, .inl M_place)), ((rM 5), .inl (cy 0, 10, .inl M_range)), ((rM 6), .inl (cy 0, 10, .inl M_voice)), ((rM 7), .inl (cy 0, 8, .inl M_kind)), ((rM 8), .inl (cy 0, 29, .inl M_now)), ((rM 10), .inl (cy 0, 2, .inl M_status)), ((rM 11), .inl (cy 2, 10, .inl M_isFalse)), ((rM 12), .inl (cy 2, 200, .inl M_isMirage)), ((rM 26), .inl (cy 0, 4, .inl M_why)), ((rM 27), .inl (cy 0, 2900, .inl M_rows)), ((rM 28), .inl (cy 0, 100, .inl M_sets)), ((rM 29), .inl (cy 0, 400, .inl M_whys)), ((rM 34), .inl (cy 0, 100, .inl M_caseCell)), ((rM 35), .inl (cy 0, 100, .inl M_caseHeading))] H → va_D A [(h0, .inr (11, oX11 rM sM)), ((rM 3), .inl (cy 0, 14, .inl M_told)), ((rM 4), .inl (cy 0, 10, .inl M_place)), ((rM 5), .inl (cy 0, 10, .inl M_range)), ((rM 6), .inl (cy 0, 10, .inl M_voice)), ((rM 7), .inl (cy 0, 8, .inl M_kind)), ((rM 8), .inl (cy 0, 29, .inl M_now)), ((rM 10), .inl (cy 0, 2, .inl M_status)), ((rM 11), .inl (cy 2, 10, .inl M_isFalse)), ((rM 12), .inl (cy 2, 200, .inl M_isMirage)), ((rM 26), .inl (cy 0, 4, .inl M_why)), ((rM 27), .inl (cy 0, 2900, .inl M_rows)), ((rM 28), .inl (cy 0, 100, .inl M_sets)), ((rM 29), .inl (cy 0, 400, .inl M_whys)), ((rM 34), .inl (cy 0, 100, .inl M_caseCell)), ((rM 35), .inl (cy 0, 100, .inl M_caseHeading))] → va_S A s.heap H locs → lv_has ls 2 [(0, .ref h0)] → W p l e R s m args below meth c H locs 0 0 QQ (F0 m 43 ls []) := by
    intro sM M_now M_status M_why M_rows M_sets M_whys M_caseCell M_caseHeading H locs ls h hP hD hS hl
    have J63 : ∀ (sM : AR) (M_now : AR) (M_status : AR) (M_why : AR) (M_rows : AR) (M_sets : AR) (M_whys : AR) (M_caseCell : AR) (M_caseHeading : AR) (t1 : Int32) (t2 : Int32) (H : Heap) (locs : List Loc) (ls : Array Slot), wpX11_doOrder_J63 sM M_told M_place M_range M_voice M_kind M_now M_status M_isFalse M_isMirage M_why M_rows M_sets M_whys M_caseCell M_caseHeading t1 t2 post → va_P D clsX [(h0, .inr (11, oX11 rM sM)), ((rM 3), .inl (cy 0, 14, .inl M_told)), ((rM 4), .inl (cy 0, 10, .inl M_place)), ((rM 5), .inl (cy 0, 10, .inl M_range)), ((rM 6), .inl (cy 0, 10, .inl M_voice)), ((rM 7), .inl (cy 0, 8, .inl M_kind)), ((rM 8), .inl (cy 0, 29, .inl M_now)), ((rM 10), .inl (cy 0, 2, .inl M_status)), ((rM 11), .inl (cy 2, 10, .inl M_isFalse)), ((rM 12), .inl (cy 2, 200, .inl M_isMirage)), ((rM 26), .inl (cy 0, 4, .inl M_why)), ((rM 27), .inl (cy 0, 2900, .inl M_rows)), ((rM 28), .inl (cy 0, 100, .inl M_sets)), ((rM 29), .inl (cy 0, 400, .inl M_whys)), ((rM 34), .inl (cy 0, 100, .inl M_caseCell)), ((rM 35), .inl (cy 0, 100, .inl M_caseHeading))] H → va_D A [(h0, .inr (11, oX11 rM sM)), ((rM 3), .inl (cy 0, 14, .inl M_told)), ((rM 4), .inl (cy 0, 10, .inl M_place)), ((rM 5), .inl (cy 0, 10, .inl M_range)), ((rM 6), .inl (cy 0, 10, .inl M_voice)), ((rM 7), .inl (cy 0, 8, .inl M_kind)), ((rM 8), .inl (cy 0, 29, .inl M_now)), ((rM 10), .inl (cy 0, 2, .inl M_status)), ((rM 11), .inl (cy 2, 10, .inl M_isFalse)), ((rM 12), .inl (cy 2, 200, .inl M_isMirage)), ((rM 26), .inl (cy 0, 4, .inl M_why)), ((rM 27), .inl (cy 0, 2900, .inl M_rows)), ((rM 28), .inl (cy 0, 100, .inl M_sets)), ((rM 29), .inl (cy 0, 400, .inl M_whys)), ((rM 34), .inl (cy 0, 100, .inl M_caseCell)), ((rM 35), .inl (cy 0, 100, .inl M_caseHeading))] → va_S A s.heap H locs → lv_has ls 2 [(0, .ref h0)] → W p l e R s m args below meth c H locs 0 0 QQ (F0 m 63 ls [.int t2, .int t1, .ref h0]) := by
      intro sM M_now M_status M_why M_rows M_sets M_whys M_caseCell M_caseHeading t1 t2 H locs ls h hP hD hS hl
      refine lv_ior hx hb dX11_doOrder_63 ?_
      refine lv_topi (fun f33_64 ef33_64 => ?_)
      have h := h f33_64 ef33_64
      obtain ⟨hz, h⟩ := h
      refine pfX11_348 hx hb hts hown hK hP hD hS 0 rfl hz dX11_doOrder_64 (fun H locs hP hD hS => ?_)
      have hP : va_P D clsX [(h0, .inr (11, oX11 rM (upd sM 33 f33_64))), ((rM 3), .inl (cy 0, 14, .inl M_told)), ((rM 4), .inl (cy 0, 10, .inl M_place)), ((rM 5), .inl (cy 0, 10, .inl M_range)), ((rM 6), .inl (cy 0, 10, .inl M_voice)), ((rM 7), .inl (cy 0, 8, .inl M_kind)), ((rM 8), .inl (cy 0, 29, .inl M_now)), ((rM 10), .inl (cy 0, 2, .inl M_status)), ((rM 11), .inl (cy 2, 10, .inl M_isFalse)), ((rM 12), .inl (cy 2, 200, .inl M_isMirage)), ((rM 26), .inl (cy 0, 4, .inl M_why)), ((rM 27), .inl (cy 0, 2900, .inl M_rows)), ((rM 28), .inl (cy 0, 100, .inl M_sets)), ((rM 29), .inl (cy 0, 400, .inl M_whys)), ((rM 34), .inl (cy 0, 100, .inl M_caseCell)), ((rM 35), .inl (cy 0, 100, .inl M_caseHeading))] H := hP
      have hD : va_D A [(h0, .inr (11, oX11 rM (upd sM 33 f33_64))), ((rM 3), .inl (cy 0, 14, .inl M_told)), ((rM 4), .inl (cy 0, 10, .inl M_place)), ((rM 5), .inl (cy 0, 10, .inl M_range)), ((rM 6), .inl (cy 0, 10, .inl M_voice)), ((rM 7), .inl (cy 0, 8, .inl M_kind)), ((rM 8), .inl (cy 0, 29, .inl M_now)), ((rM 10), .inl (cy 0, 2, .inl M_status)), ((rM 11), .inl (cy 2, 10, .inl M_isFalse)), ((rM 12), .inl (cy 2, 200, .inl M_isMirage)), ((rM 26), .inl (cy 0, 4, .inl M_why)), ((rM 27), .inl (cy 0, 2900, .inl M_rows)), ((rM 28), .inl (cy 0, 100, .inl M_sets)), ((rM 29), .inl (cy 0, 400, .inl M_whys)), ((rM 34), .inl (cy 0, 100, .inl M_caseCell)), ((rM 35), .inl (cy 0, 100, .inl M_caseHeading))] := hD
      exact hret ((upd sM 33 f33_64), M_now, M_status, M_why, M_rows, M_sets, M_whys, M_caseCell, M_caseHeading) _ _ _ _ dX11_doOrder_67 h hP hD hS
    refine lv_aload_n hx hb dX11_doOrder_43 rfl (lv_at hl 0 rfl) ?_
    refine lv_dup hx hb dX11_doOrder_44 rfl ?_
    refine gfX11_348 (v := (sM 33)) hx hb hts hown hK hP 0 rfl rfl dX11_doOrder_45 ?_
    refine lv_aload_n hx hb dX11_doOrder_48 rfl (lv_at hl 0 rfl) ?_
    refine gfX11_368 (v := (sM 32)) hx hb hts hown hK hP 0 rfl rfl dX11_doOrder_49 ?_
    refine lv_sipush (v := (200 : Int32)) hx hb dX11_doOrder_52 (by decide) ?_
    refine lv_icmp_ne (tgt := 62) hx hb dX11_doOrder_55 (by decide) (fun c55 => ?_) (fun c55 => ?_)
    · have h := h.1 c55
      refine lv_iconst (v := (0 : Int32)) hx hb dX11_doOrder_62 (by decide) ?_
      exact J63 sM M_now M_status M_why M_rows M_sets M_whys M_caseCell M_caseHeading (sM 33) (0 : Int32) _ _ _ h hP hD hS hl
    · have h := h.2 c55
      refine lv_iconst (v := (1 : Int32)) hx hb dX11_doOrder_58 (by decide) ?_
      refine lv_goto (tgt := 63) hx hb dX11_doOrder_59 (by decide) ?_
      exact J63 sM M_now M_status M_why M_rows M_sets M_whys M_caseCell M_caseHeading (sM 33) (1 : Int32) _ _ _ h hP hD hS hl
  refine lv_aload_n hx hb dX11_doOrder_0 rfl (lv_at hl 0 rfl) ?_
  refine gfX11_368 (v := (sM 32)) hx hb hts hown hK hP 0 rfl rfl dX11_doOrder_1 ?_
  refine lv_sipush (v := (200 : Int32)) hx hb dX11_doOrder_4 (by decide) ?_
  refine lv_icmp_ne (tgt := 16) hx hb dX11_doOrder_7 (by decide) (fun c7 => ?_) (fun c7 => ?_)
  · have h := h.1 c7
    refine lv_aload_n hx hb dX11_doOrder_16 rfl (lv_at hl 0 rfl) ?_
    refine lv_iload_n hx hb dX11_doOrder_17 rfl (lv_at hl 1 rfl) ?_
    refine clVi (As := [.int x1]) (rest := []) (Wr := []) (cq := (RX11, TX11, 56)) ⟨hx, hb, hml, hown, hts⟩ ⟨callB_of 1 hts (goodC mw1509) rfl rfl rfl (hts _ (tb mw15)) (hts _ (tb mw1554)) kdX11_stroke ⟨Nat.le_trans (by decide) hRf, Nat.le_trans (by decide) hRl⟩, hts _ (tb mw1507), hts _ (tb mw1508)⟩ (ctX11_stroke l D cy ev h0 rM sM M_told M_place M_range M_voice M_kind M_now M_status M_isFalse M_isMirage M_why M_rows M_sets M_whys M_caseCell M_caseHeading x1 _ _ h) hE hK hP hD hS hA [0, 1, 2, 3, 4, 5, 6, 7, 8, 9, 10, 11, 12, 13, 14, 15] [] rfl rfl (by decide) (by decide) (by decide) 0 rfl rfl rfl hl.1 rfl (Nat.le_of_ble_eq_true rfl) ⟨Nat.zero_le _, Nat.zero_le _⟩ dX11_doOrder_18 (fun r18 u H locs h hP hD hS => ?_)
    obtain ⟨sM_18, M_now_18, M_status_18, M_why_18, M_rows_18, M_sets_18, M_whys_18, M_caseCell_18, M_caseHeading_18⟩ := u
    have hP : va_P D clsX [(h0, .inr (11, oX11 rM sM_18)), ((rM 3), .inl (cy 0, 14, .inl M_told)), ((rM 4), .inl (cy 0, 10, .inl M_place)), ((rM 5), .inl (cy 0, 10, .inl M_range)), ((rM 6), .inl (cy 0, 10, .inl M_voice)), ((rM 7), .inl (cy 0, 8, .inl M_kind)), ((rM 8), .inl (cy 0, 29, .inl M_now_18)), ((rM 10), .inl (cy 0, 2, .inl M_status_18)), ((rM 11), .inl (cy 2, 10, .inl M_isFalse)), ((rM 12), .inl (cy 2, 200, .inl M_isMirage)), ((rM 26), .inl (cy 0, 4, .inl M_why_18)), ((rM 27), .inl (cy 0, 2900, .inl M_rows_18)), ((rM 28), .inl (cy 0, 100, .inl M_sets_18)), ((rM 29), .inl (cy 0, 400, .inl M_whys_18)), ((rM 34), .inl (cy 0, 100, .inl M_caseCell_18)), ((rM 35), .inl (cy 0, 100, .inl M_caseHeading_18))] H := hP
    have hD : va_D A [(h0, .inr (11, oX11 rM sM_18)), ((rM 3), .inl (cy 0, 14, .inl M_told)), ((rM 4), .inl (cy 0, 10, .inl M_place)), ((rM 5), .inl (cy 0, 10, .inl M_range)), ((rM 6), .inl (cy 0, 10, .inl M_voice)), ((rM 7), .inl (cy 0, 8, .inl M_kind)), ((rM 8), .inl (cy 0, 29, .inl M_now_18)), ((rM 10), .inl (cy 0, 2, .inl M_status_18)), ((rM 11), .inl (cy 2, 10, .inl M_isFalse)), ((rM 12), .inl (cy 2, 200, .inl M_isMirage)), ((rM 26), .inl (cy 0, 4, .inl M_why_18)), ((rM 27), .inl (cy 0, 2900, .inl M_rows_18)), ((rM 28), .inl (cy 0, 100, .inl M_sets_18)), ((rM 29), .inl (cy 0, 400, .inl M_whys_18)), ((rM 34), .inl (cy 0, 100, .inl M_caseCell_18)), ((rM 35), .inl (cy 0, 100, .inl M_caseHeading_18))] := hD
    refine lv_iconst (v := (-1 : Int32)) hx hb dX11_doOrder_21 (by decide) ?_
    refine lv_icmp_ne (tgt := 33) hx hb dX11_doOrder_22 (by decide) (fun c22 => ?_) (fun c22 => ?_)
    · have h := h.1 c22
      refine lv_aload_n hx hb dX11_doOrder_33 rfl (lv_at hl 0 rfl) ?_
      refine lv_dup hx hb dX11_doOrder_34 rfl ?_
      refine gfX11_368 (v := (sM_18 32)) hx hb hts hown hK hP 0 rfl rfl dX11_doOrder_35 ?_
      refine lv_iconst (v := (1 : Int32)) hx hb dX11_doOrder_38 (by decide) ?_
      refine lv_iadd hx hb dX11_doOrder_39 ?_
      refine lv_topi (fun f32_40 ef32_40 => ?_)
      have h := h f32_40 ef32_40
      refine pfX11_368 hx hb hts hown hK hP hD hS 0 rfl dX11_doOrder_40 (fun H locs hP hD hS => ?_)
      have hP : va_P D clsX [(h0, .inr (11, oX11 rM (upd sM_18 32 f32_40))), ((rM 3), .inl (cy 0, 14, .inl M_told)), ((rM 4), .inl (cy 0, 10, .inl M_place)), ((rM 5), .inl (cy 0, 10, .inl M_range)), ((rM 6), .inl (cy 0, 10, .inl M_voice)), ((rM 7), .inl (cy 0, 8, .inl M_kind)), ((rM 8), .inl (cy 0, 29, .inl M_now_18)), ((rM 10), .inl (cy 0, 2, .inl M_status_18)), ((rM 11), .inl (cy 2, 10, .inl M_isFalse)), ((rM 12), .inl (cy 2, 200, .inl M_isMirage)), ((rM 26), .inl (cy 0, 4, .inl M_why_18)), ((rM 27), .inl (cy 0, 2900, .inl M_rows_18)), ((rM 28), .inl (cy 0, 100, .inl M_sets_18)), ((rM 29), .inl (cy 0, 400, .inl M_whys_18)), ((rM 34), .inl (cy 0, 100, .inl M_caseCell_18)), ((rM 35), .inl (cy 0, 100, .inl M_caseHeading_18))] H := hP
      have hD : va_D A [(h0, .inr (11, oX11 rM (upd sM_18 32 f32_40))), ((rM 3), .inl (cy 0, 14, .inl M_told)), ((rM 4), .inl (cy 0, 10, .inl M_place)), ((rM 5), .inl (cy 0, 10, .inl M_range)), ((rM 6), .inl (cy 0, 10, .inl M_voice)), ((rM 7), .inl (cy 0, 8, .inl M_kind)), ((rM 8), .inl (cy 0, 29, .inl M_now_18)), ((rM 10), .inl (cy 0, 2, .inl M_status_18)), ((rM 11), .inl (cy 2, 10, .inl M_isFalse)), ((rM 12), .inl (cy 2, 200, .inl M_isMirage)), ((rM 26), .inl (cy 0, 4, .inl M_why_18)), ((rM 27), .inl (cy 0, 2900, .inl M_rows_18)), ((rM 28), .inl (cy 0, 100, .inl M_sets_18)), ((rM 29), .inl (cy 0, 400, .inl M_whys_18)), ((rM 34), .inl (cy 0, 100, .inl M_caseCell_18)), ((rM 35), .inl (cy 0, 100, .inl M_caseHeading_18))] := hD
      exact J43 (upd sM_18 32 f32_40) M_now_18 M_status_18 M_why_18 M_rows_18 M_sets_18 M_whys_18 M_caseCell_18 M_caseHeading_18 _ _ _ h hP hD hS (lv_sub hl [0] rfl)
    · have h := h.2 c22
      refine lv_aload_n hx hb dX11_doOrder_25 rfl (lv_at hl 0 rfl) ?_
      refine lv_iconst (v := (1 : Int32)) hx hb dX11_doOrder_26 (by decide) ?_
      refine pfX11_348 hx hb hts hown hK hP hD hS 0 rfl rfl dX11_doOrder_27 (fun H locs hP hD hS => ?_)
      have hP : va_P D clsX [(h0, .inr (11, oX11 rM (upd sM_18 33 (1 : Int32)))), ((rM 3), .inl (cy 0, 14, .inl M_told)), ((rM 4), .inl (cy 0, 10, .inl M_place)), ((rM 5), .inl (cy 0, 10, .inl M_range)), ((rM 6), .inl (cy 0, 10, .inl M_voice)), ((rM 7), .inl (cy 0, 8, .inl M_kind)), ((rM 8), .inl (cy 0, 29, .inl M_now_18)), ((rM 10), .inl (cy 0, 2, .inl M_status_18)), ((rM 11), .inl (cy 2, 10, .inl M_isFalse)), ((rM 12), .inl (cy 2, 200, .inl M_isMirage)), ((rM 26), .inl (cy 0, 4, .inl M_why_18)), ((rM 27), .inl (cy 0, 2900, .inl M_rows_18)), ((rM 28), .inl (cy 0, 100, .inl M_sets_18)), ((rM 29), .inl (cy 0, 400, .inl M_whys_18)), ((rM 34), .inl (cy 0, 100, .inl M_caseCell_18)), ((rM 35), .inl (cy 0, 100, .inl M_caseHeading_18))] H := hP
      have hD : va_D A [(h0, .inr (11, oX11 rM (upd sM_18 33 (1 : Int32)))), ((rM 3), .inl (cy 0, 14, .inl M_told)), ((rM 4), .inl (cy 0, 10, .inl M_place)), ((rM 5), .inl (cy 0, 10, .inl M_range)), ((rM 6), .inl (cy 0, 10, .inl M_voice)), ((rM 7), .inl (cy 0, 8, .inl M_kind)), ((rM 8), .inl (cy 0, 29, .inl M_now_18)), ((rM 10), .inl (cy 0, 2, .inl M_status_18)), ((rM 11), .inl (cy 2, 10, .inl M_isFalse)), ((rM 12), .inl (cy 2, 200, .inl M_isMirage)), ((rM 26), .inl (cy 0, 4, .inl M_why_18)), ((rM 27), .inl (cy 0, 2900, .inl M_rows_18)), ((rM 28), .inl (cy 0, 100, .inl M_sets_18)), ((rM 29), .inl (cy 0, 400, .inl M_whys_18)), ((rM 34), .inl (cy 0, 100, .inl M_caseCell_18)), ((rM 35), .inl (cy 0, 100, .inl M_caseHeading_18))] := hD
      refine lv_goto (tgt := 43) hx hb dX11_doOrder_30 (by decide) ?_
      exact J43 (upd sM_18 33 (1 : Int32)) M_now_18 M_status_18 M_why_18 M_rows_18 M_sets_18 M_whys_18 M_caseCell_18 M_caseHeading_18 _ _ _ h hP hD hS (lv_sub hl [0] rfl)
  · have h := h.2 c7
    refine lv_aload_n hx hb dX11_doOrder_10 rfl (lv_at hl 0 rfl) ?_
    refine lv_iconst (v := (1 : Int32)) hx hb dX11_doOrder_11 (by decide) ?_
    refine pfX11_348 hx hb hts hown hK hP hD hS 0 rfl rfl dX11_doOrder_12 (fun H locs hP hD hS => ?_)
    have hP : va_P D clsX [(h0, .inr (11, oX11 rM (upd sM 33 (1 : Int32)))), ((rM 3), .inl (cy 0, 14, .inl M_told)), ((rM 4), .inl (cy 0, 10, .inl M_place)), ((rM 5), .inl (cy 0, 10, .inl M_range)), ((rM 6), .inl (cy 0, 10, .inl M_voice)), ((rM 7), .inl (cy 0, 8, .inl M_kind)), ((rM 8), .inl (cy 0, 29, .inl M_now)), ((rM 10), .inl (cy 0, 2, .inl M_status)), ((rM 11), .inl (cy 2, 10, .inl M_isFalse)), ((rM 12), .inl (cy 2, 200, .inl M_isMirage)), ((rM 26), .inl (cy 0, 4, .inl M_why)), ((rM 27), .inl (cy 0, 2900, .inl M_rows)), ((rM 28), .inl (cy 0, 100, .inl M_sets)), ((rM 29), .inl (cy 0, 400, .inl M_whys)), ((rM 34), .inl (cy 0, 100, .inl M_caseCell)), ((rM 35), .inl (cy 0, 100, .inl M_caseHeading))] H := hP
    have hD : va_D A [(h0, .inr (11, oX11 rM (upd sM 33 (1 : Int32)))), ((rM 3), .inl (cy 0, 14, .inl M_told)), ((rM 4), .inl (cy 0, 10, .inl M_place)), ((rM 5), .inl (cy 0, 10, .inl M_range)), ((rM 6), .inl (cy 0, 10, .inl M_voice)), ((rM 7), .inl (cy 0, 8, .inl M_kind)), ((rM 8), .inl (cy 0, 29, .inl M_now)), ((rM 10), .inl (cy 0, 2, .inl M_status)), ((rM 11), .inl (cy 2, 10, .inl M_isFalse)), ((rM 12), .inl (cy 2, 200, .inl M_isMirage)), ((rM 26), .inl (cy 0, 4, .inl M_why)), ((rM 27), .inl (cy 0, 2900, .inl M_rows)), ((rM 28), .inl (cy 0, 100, .inl M_sets)), ((rM 29), .inl (cy 0, 400, .inl M_whys)), ((rM 34), .inl (cy 0, 100, .inl M_caseCell)), ((rM 35), .inl (cy 0, 100, .inl M_caseHeading))] := hD
    exact hret ((upd sM 33 (1 : Int32)), M_now, M_status, M_why, M_rows, M_sets, M_whys, M_caseCell, M_caseHeading) _ _ _ _ dX11_doOrder_15 h hP hD hS
def wpX11_casesOf_L4 (sM : AR) (M_caseCell : AR) (l1 : Int32) (kx51 : Int32 → Int32 → Prop) (post : Int32 → Prop) : Nat → Int32 → Int32 → Prop
  | 0, _, _ => False
  | nf4 + 1, l2, l3 => (((sM 36) ≤ l3 → kx51 l2 l3) ∧ (¬ (sM 36) ≤ l3 → vp_in l3 100 ∧ (((M_caseCell l3.toNatClampNeg) = (-1 : Int32) → ∀ l2_44 : Int32, l2_44 = (l2 + (0 : Int32)) → ∀ l3_45 : Int32, l3_45 = (l3 + (1 : Int32)) → wpX11_casesOf_L4 sM M_caseCell l1 kx51 post nf4 l2_44 l3_45) ∧ (¬ (M_caseCell l3.toNatClampNeg) = (-1 : Int32) → ((l1 = (-1 : Int32) → ∀ l2_44 : Int32, l2_44 = (l2 + (1 : Int32)) → ∀ l3_45 : Int32, l3_45 = (l3 + (1 : Int32)) → wpX11_casesOf_L4 sM M_caseCell l1 kx51 post nf4 l2_44 l3_45) ∧ (¬ l1 = (-1 : Int32) → vp_in l3 100 ∧ ((¬ (M_caseCell l3.toNatClampNeg) = l1 → ∀ l2_44 : Int32, l2_44 = (l2 + (0 : Int32)) → ∀ l3_45 : Int32, l3_45 = (l3 + (1 : Int32)) → wpX11_casesOf_L4 sM M_caseCell l1 kx51 post nf4 l2_44 l3_45) ∧ ((M_caseCell l3.toNatClampNeg) = l1 → ∀ l2_44 : Int32, l2_44 = (l2 + (1 : Int32)) → ∀ l3_45 : Int32, l3_45 = (l3 + (1 : Int32)) → wpX11_casesOf_L4 sM M_caseCell l1 kx51 post nf4 l2_44 l3_45))))))))
def wpX11_casesOf (sM : AR) (M_caseCell : AR) (x1 : Int32) (post : Int32 → Prop) : Prop := ∃ nf4 : Nat, wpX11_casesOf_L4 sM M_caseCell x1 (fun l2_51 l3_51 => post l2_51) post nf4 (0 : Int32) (0 : Int32)
set_option maxHeartbeats 4000000 in
set_option maxRecDepth 100000 in
theorem ctX11_casesOf (l : Launch) (D : va_G) (cy : Nat → ClassId) (ev : Nat → Nat) (h0 : Nat) (rM : Nat → Nat) (sM : AR) (M_caseCell : AR) (x1 : Int32) (sz : Nat) (post : Int32 → Prop) (h : wpX11_casesOf sM M_caseCell x1 post) : Met l yX11_casesOf (Cond.code yX11_casesOf cX11_casesOf 4 (some .int) :: TB) ({ frames := 0, cells := 0, slots := 0, locals := 0 }) (va_Pc [.ref h0, .int x1] (PreX D cy ev [(h0, .inr (11, oX11 rM sM)), ((rM 34), .inl (cy 0, 100, .inl M_caseCell))] sz)) (va_Qi (fun (r : Int32) (u : Unit) => post r) (fun u => BkX D cy [(h0, .inr (11, oX11 rM sM)), ((rM 34), .inl (cy 0, 100, .inl M_caseCell))] sz [(h0, .inr (11, oX11 rM sM)), ((rM 34), .inl (cy 0, 100, .inl M_caseCell))]) (va_A [(h0, .inr (11, oX11 rM sM)), ((rM 34), .inl (cy 0, 100, .inl M_caseCell))] sz)) 0 0 (va_A [(h0, .inr (11, oX11 rM sM)), ((rM 34), .inl (cy 0, 100, .inl M_caseCell))] sz) := by
  refine ofWi (by decide) (Nat.le_of_ble_eq_true rfl) ?_
  intro p e s m args below meth c ls A R QQ hx hb hml hown hts hR hlk hE hK hP hD hS hA hl hret
  have hown : s.vm.findClass RX11 = some m.cls := hown
  have hRf : 0 ≤ R.frames := by rw [hR]; exact Nat.le_refl _
  have hRl : 0 ≤ R.locals := by rw [hR]; exact Nat.le_refl _
  clear hR
  have hl : lv_has ls 4 [(0, .ref h0), (1, .int x1)] := hl
  have L4 : ∀ (l1 : Int32) (kx51 : Int32 → Int32 → Prop), (∀ (l2 : Int32) (l3 : Int32) (H : Heap) (locs : List Loc) (ls : Array Slot), kx51 l2 l3 → va_P D clsX [(h0, .inr (11, oX11 rM sM)), ((rM 34), .inl (cy 0, 100, .inl M_caseCell))] H → va_D A [(h0, .inr (11, oX11 rM sM)), ((rM 34), .inl (cy 0, 100, .inl M_caseCell))] → va_S A s.heap H locs → lv_has ls 4 [(0, .ref h0), (2, .int l2)] → W p l e R s m args below meth c H locs 0 0 QQ (F0 m 51 ls [])) → ∀ (nf4 : Nat) (l2 : Int32) (l3 : Int32) (H : Heap) (locs : List Loc) (ls : Array Slot), wpX11_casesOf_L4 sM M_caseCell l1 kx51 post nf4 l2 l3 → va_P D clsX [(h0, .inr (11, oX11 rM sM)), ((rM 34), .inl (cy 0, 100, .inl M_caseCell))] H → va_D A [(h0, .inr (11, oX11 rM sM)), ((rM 34), .inl (cy 0, 100, .inl M_caseCell))] → va_S A s.heap H locs → lv_has ls 4 [(0, .ref h0), (1, .int l1), (2, .int l2), (3, .int l3)] → W p l e R s m args below meth c H locs 0 0 QQ (F0 m 4 ls []) := by
    intro l1 kx51 hk4_51 nf4
    induction nf4 with
    | zero =>
      intro l2 l3 H locs ls h
      exact (show False from h).elim
    | succ nf4 ih4 =>
      intro l2 l3 H locs ls h hP hD hS hl
      refine lv_iload_n hx hb dX11_casesOf_4 rfl (lv_at hl 3 rfl) ?_
      refine lv_aload_n hx hb dX11_casesOf_5 rfl (lv_at hl 0 rfl) ?_
      refine gfX11_93 (v := (sM 36)) hx hb hts hown hK hP 0 rfl rfl dX11_casesOf_6 ?_
      refine lv_icmp_ge (tgt := 51) hx hb dX11_casesOf_9 (by decide) (fun c9 => ?_) (fun c9 => ?_)
      · have h := h.1 c9
        exact hk4_51 l2 l3 _ _ _ h hP hD hS (lv_sub hl [0, 2] rfl)
      · have h := h.2 c9
        refine lv_iload_n hx hb dX11_casesOf_12 rfl (lv_at hl 2 rfl) ?_
        refine lv_aload_n hx hb dX11_casesOf_13 rfl (lv_at hl 0 rfl) ?_
        refine gfX11_87 hx hb hts hown hK hP 0 rfl dX11_casesOf_14 ?_
        refine lv_iload_n hx hb dX11_casesOf_17 rfl (lv_at hl 3 rfl) ?_
        obtain ⟨hin, h⟩ := h
        refine ldi (k := l3.toNatClampNeg) hx hb hK hP 1 rfl hin rfl dX11_casesOf_18 ?_
        refine lv_iconst (v := (-1 : Int32)) hx hb dX11_casesOf_19 (by decide) ?_
        refine lv_icmp_eq (tgt := 42) hx hb dX11_casesOf_20 (by decide) (fun c20 => ?_) (fun c20 => ?_)
        · have h := h.1 c20
          refine lv_iconst (v := (0 : Int32)) hx hb dX11_casesOf_42 (by decide) ?_
          refine lv_iadd hx hb dX11_casesOf_43 ?_
          refine lv_topi (fun l2_44 el2_44 => ?_)
          have h := h l2_44 el2_44
          refine lv_istore_n (lv' := [(2, .int l2_44), (0, .ref h0), (1, .int l1), (3, .int l3)]) hx hb dX11_casesOf_44 rfl hl (by decide) rfl (fun ls hl => ?_)
          obtain ⟨l3_45, el3_45⟩ : ∃ y : Int32, y = l3 + (1 : Int32) := ⟨_, rfl⟩
          have h := h l3_45 el3_45
          refine lv_iinc (v := l3_45) (lv' := [(3, .int l3_45), (2, .int l2_44), (0, .ref h0), (1, .int l1)]) hx hb dX11_casesOf_45 hl (k := 3) rfl (by rw [el3_45]; rfl) (by decide) rfl (fun ls hl => ?_)
          refine lv_goto (tgt := 4) hx hb dX11_casesOf_48 (by decide) ?_
          exact ih4 l2_44 l3_45 _ _ _ h hP hD hS (lv_sub hl [2, 3, 1, 0] rfl)
        · have h := h.2 c20
          refine lv_iload_n hx hb dX11_casesOf_23 rfl (lv_at hl 1 rfl) ?_
          refine lv_iconst (v := (-1 : Int32)) hx hb dX11_casesOf_24 (by decide) ?_
          refine lv_icmp_eq (tgt := 38) hx hb dX11_casesOf_25 (by decide) (fun c25 => ?_) (fun c25 => ?_)
          · have h := h.1 c25
            refine lv_iconst (v := (1 : Int32)) hx hb dX11_casesOf_38 (by decide) ?_
            refine lv_goto (tgt := 43) hx hb dX11_casesOf_39 (by decide) ?_
            refine lv_iadd hx hb dX11_casesOf_43 ?_
            refine lv_topi (fun l2_44 el2_44 => ?_)
            have h := h l2_44 el2_44
            refine lv_istore_n (lv' := [(2, .int l2_44), (0, .ref h0), (1, .int l1), (3, .int l3)]) hx hb dX11_casesOf_44 rfl hl (by decide) rfl (fun ls hl => ?_)
            obtain ⟨l3_45, el3_45⟩ : ∃ y : Int32, y = l3 + (1 : Int32) := ⟨_, rfl⟩
            have h := h l3_45 el3_45
            refine lv_iinc (v := l3_45) (lv' := [(3, .int l3_45), (2, .int l2_44), (0, .ref h0), (1, .int l1)]) hx hb dX11_casesOf_45 hl (k := 3) rfl (by rw [el3_45]; rfl) (by decide) rfl (fun ls hl => ?_)
            refine lv_goto (tgt := 4) hx hb dX11_casesOf_48 (by decide) ?_
            exact ih4 l2_44 l3_45 _ _ _ h hP hD hS (lv_sub hl [2, 3, 1, 0] rfl)
          · have h := h.2 c25
            refine lv_aload_n hx hb dX11_casesOf_28 rfl (lv_at hl 0 rfl) ?_
            refine gfX11_87 hx hb hts hown hK hP 0 rfl dX11_casesOf_29 ?_
            refine lv_iload_n hx hb dX11_casesOf_32 rfl (lv_at hl 3 rfl) ?_
            obtain ⟨hin, h⟩ := h
            refine ldi (k := l3.toNatClampNeg) hx hb hK hP 1 rfl hin rfl dX11_casesOf_33 ?_
            refine lv_iload_n hx hb dX11_casesOf_34 rfl (lv_at hl 1 rfl) ?_
            refine lv_icmp_ne (tgt := 42) hx hb dX11_casesOf_35 (by decide) (fun c35 => ?_) (fun c35 => ?_)
            · have h := h.1 c35
              refine lv_iconst (v := (0 : Int32)) hx hb dX11_casesOf_42 (by decide) ?_
              refine lv_iadd hx hb dX11_casesOf_43 ?_
              refine lv_topi (fun l2_44 el2_44 => ?_)
              have h := h l2_44 el2_44
              refine lv_istore_n (lv' := [(2, .int l2_44), (0, .ref h0), (1, .int l1), (3, .int l3)]) hx hb dX11_casesOf_44 rfl hl (by decide) rfl (fun ls hl => ?_)
              obtain ⟨l3_45, el3_45⟩ : ∃ y : Int32, y = l3 + (1 : Int32) := ⟨_, rfl⟩
              have h := h l3_45 el3_45
              refine lv_iinc (v := l3_45) (lv' := [(3, .int l3_45), (2, .int l2_44), (0, .ref h0), (1, .int l1)]) hx hb dX11_casesOf_45 hl (k := 3) rfl (by rw [el3_45]; rfl) (by decide) rfl (fun ls hl => ?_)
              refine lv_goto (tgt := 4) hx hb dX11_casesOf_48 (by decide) ?_
              exact ih4 l2_44 l3_45 _ _ _ h hP hD hS (lv_sub hl [2, 3, 1, 0] rfl)
            · have h := h.2 c35
              refine lv_iconst (v := (1 : Int32)) hx hb dX11_casesOf_38 (by decide) ?_
              refine lv_goto (tgt := 43) hx hb dX11_casesOf_39 (by decide) ?_
              refine lv_iadd hx hb dX11_casesOf_43 ?_
              refine lv_topi (fun l2_44 el2_44 => ?_)
              have h := h l2_44 el2_44
              refine lv_istore_n (lv' := [(2, .int l2_44), (0, .ref h0), (1, .int l1), (3, .int l3)]) hx hb dX11_casesOf_44 rfl hl (by decide) rfl (fun ls hl => ?_)
              obtain ⟨l3_45, el3_45⟩ : ∃ y : Int32, y = l3 + (1 : Int32) := ⟨_, rfl⟩
              have h := h l3_45 el3_45
              refine lv_iinc (v := l3_45) (lv' := [(3, .int l3_45), (2, .int l2_44), (0, .ref h0), (1, .int l1)]) hx hb dX11_casesOf_45 hl (k := 3) rfl (by rw [el3_45]; rfl) (by decide) rfl (fun ls hl => ?_)
              refine lv_goto (tgt := 4) hx hb dX11_casesOf_48 (by decide) ?_
              exact ih4 l2_44 l3_45 _ _ _ h hP hD hS (lv_sub hl [2, 3, 1, 0] rfl)
  refine lv_iconst (v := (0 : Int32)) hx hb dX11_casesOf_0 (by decide) ?_
  refine lv_istore_n (lv' := [(2, .int (0 : Int32)), (0, .ref h0), (1, .int x1)]) hx hb dX11_casesOf_1 rfl hl (by decide) rfl (fun ls hl => ?_)
  refine lv_iconst (v := (0 : Int32)) hx hb dX11_casesOf_2 (by decide) ?_
  refine lv_istore_n (lv' := [(3, .int (0 : Int32)), (2, .int (0 : Int32)), (0, .ref h0), (1, .int x1)]) hx hb dX11_casesOf_3 rfl hl (by decide) rfl (fun ls hl => ?_)
  obtain ⟨nf4, h⟩ := h
  refine L4 x1 _ (fun l2_51 l3_51 H locs ls h hP hD hS hl => ?_) nf4 (0 : Int32) (0 : Int32) _ _ _ h hP hD hS (lv_sub hl [2, 3, 1, 0] rfl)
  refine lv_iload_n hx hb dX11_casesOf_51 rfl (lv_at hl 1 rfl) ?_
  exact hret l2_51 () _ _ _ _ rfl dX11_casesOf_52 h hP hD hS
def wpX11_search_L15 (sM : AR) (M_told : AR) (kx43 : AR → AR → Int32 → Prop) (post : Int32 → AR → AR → AR → Prop) : Nat → AR → AR → Int32 → Prop
  | 0, _, _, _ => False
  | nf15 + 1, M_caseCell, M_caseHeading, l1 => (((sM 36) ≤ l1 → kx43 M_caseCell M_caseHeading l1) ∧ (¬ (sM 36) ≤ l1 → vp_in l1 100 ∧ ∀ M_caseCell_29 : AR, M_caseCell_29 = upd M_caseCell l1.toNatClampNeg l1 → vp_in l1 100 ∧ ∀ M_caseHeading_36 : AR, M_caseHeading_36 = upd M_caseHeading l1.toNatClampNeg (0 : Int32) → ∀ l1_37 : Int32, l1_37 = (l1 + (1 : Int32)) → wpX11_search_L15 sM M_told kx43 post nf15 M_caseCell_29 M_caseHeading_36 l1_37))
def wpX11_search (sM : AR) (M_told : AR) (M_caseCell : AR) (M_caseHeading : AR) (post : Int32 → AR → AR → AR → Prop) : Prop := wpX11_cells M_told (fun r7 => ∃ nf15 : Nat, wpX11_search_L15 (upd (upd sM 2 (0 : Int32)) 36 r7) M_told (fun M_caseCell_43 M_caseHeading_43 l1_43 => post r7 (upd (upd sM 2 (0 : Int32)) 36 r7) M_caseCell_43 M_caseHeading_43) post nf15 M_caseCell M_caseHeading (0 : Int32))
set_option maxHeartbeats 4000000 in
set_option maxRecDepth 100000 in
theorem ctX11_search (l : Launch) (D : va_G) (cy : Nat → ClassId) (ev : Nat → Nat) (h0 : Nat) (rM : Nat → Nat) (sM : AR) (M_told : AR) (M_caseCell : AR) (M_caseHeading : AR) (sz : Nat) (post : Int32 → AR → AR → AR → Prop) (h : wpX11_search sM M_told M_caseCell M_caseHeading post) : Met l yX11_search (Cond.code yX11_search cX11_search 2 (some .int) :: TB) ({ frames := 1, cells := 0, slots := 0, locals := 20 }) (va_Pc [.ref h0] (PreX D cy ev [(h0, .inr (11, oX11 rM sM)), ((rM 3), .inl (cy 0, 14, .inl M_told)), ((rM 34), .inl (cy 0, 100, .inl M_caseCell)), ((rM 35), .inl (cy 0, 100, .inl M_caseHeading))] sz)) (va_Qi (fun (r : Int32) (u : AR × AR × AR) => post r (u.1) (u.2.1) (u.2.2)) (fun u => BkX D cy [(h0, .inr (11, oX11 rM sM)), ((rM 3), .inl (cy 0, 14, .inl M_told)), ((rM 34), .inl (cy 0, 100, .inl M_caseCell)), ((rM 35), .inl (cy 0, 100, .inl M_caseHeading))] sz [(h0, .inr (11, oX11 rM (u.1))), ((rM 3), .inl (cy 0, 14, .inl M_told)), ((rM 34), .inl (cy 0, 100, .inl (u.2.1))), ((rM 35), .inl (cy 0, 100, .inl (u.2.2)))]) (va_A [(h0, .inr (11, oX11 rM sM)), ((rM 3), .inl (cy 0, 14, .inl M_told)), ((rM 34), .inl (cy 0, 100, .inl M_caseCell)), ((rM 35), .inl (cy 0, 100, .inl M_caseHeading))] sz)) 0 0 (va_A [(h0, .inr (11, oX11 rM sM)), ((rM 3), .inl (cy 0, 14, .inl M_told)), ((rM 34), .inl (cy 0, 100, .inl M_caseCell)), ((rM 35), .inl (cy 0, 100, .inl M_caseHeading))] sz) := by
  refine ofWi (by decide) (Nat.le_of_ble_eq_true rfl) ?_
  intro p e s m args below meth c ls A R QQ hx hb hml hown hts hR hlk hE hK hP hD hS hA hl hret
  have hown : s.vm.findClass RX11 = some m.cls := hown
  have hRf : 1 ≤ R.frames := by rw [hR]; exact Nat.le_refl _
  have hRl : 20 ≤ R.locals := by rw [hR]; exact Nat.le_refl _
  clear hR
  have hl : lv_has ls 2 [(0, .ref h0)] := hl
  have L15 : ∀ (sM : AR) (kx43 : AR → AR → Int32 → Prop), (∀ (M_caseCell : AR) (M_caseHeading : AR) (l1 : Int32) (H : Heap) (locs : List Loc) (ls : Array Slot), kx43 M_caseCell M_caseHeading l1 → va_P D clsX [(h0, .inr (11, oX11 rM sM)), ((rM 3), .inl (cy 0, 14, .inl M_told)), ((rM 34), .inl (cy 0, 100, .inl M_caseCell)), ((rM 35), .inl (cy 0, 100, .inl M_caseHeading))] H → va_D A [(h0, .inr (11, oX11 rM sM)), ((rM 3), .inl (cy 0, 14, .inl M_told)), ((rM 34), .inl (cy 0, 100, .inl M_caseCell)), ((rM 35), .inl (cy 0, 100, .inl M_caseHeading))] → va_S A s.heap H locs → lv_has ls 2 [(0, .ref h0)] → W p l e R s m args below meth c H locs 0 0 QQ (F0 m 43 ls [])) → ∀ (nf15 : Nat) (M_caseCell : AR) (M_caseHeading : AR) (l1 : Int32) (H : Heap) (locs : List Loc) (ls : Array Slot), wpX11_search_L15 sM M_told kx43 post nf15 M_caseCell M_caseHeading l1 → va_P D clsX [(h0, .inr (11, oX11 rM sM)), ((rM 3), .inl (cy 0, 14, .inl M_told)), ((rM 34), .inl (cy 0, 100, .inl M_caseCell)), ((rM 35), .inl (cy 0, 100, .inl M_caseHeading))] H → va_D A [(h0, .inr (11, oX11 rM sM)), ((rM 3), .inl (cy 0, 14, .inl M_told)), ((rM 34), .inl (cy 0, 100, .inl M_caseCell)), ((rM 35), .inl (cy 0, 100, .inl M_caseHeading))] → va_S A s.heap H locs → lv_has ls 2 [(0, .ref h0), (1, .int l1)] → W p l e R s m args below meth c H locs 0 0 QQ (F0 m 15 ls []) := by
    intro sM kx43 hk15_43 nf15
    induction nf15 with
    | zero =>
      intro M_caseCell M_caseHeading l1 H locs ls h
      exact (show False from h).elim
    | succ nf15 ih15 =>
      intro M_caseCell M_caseHeading l1 H locs ls h hP hD hS hl
      refine lv_iload_n hx hb dX11_search_15 rfl (lv_at hl 1 rfl) ?_
      refine lv_aload_n hx hb dX11_search_16 rfl (lv_at hl 0 rfl) ?_
      refine gfX11_93 (v := (sM 36)) hx hb hts hown hK hP 0 rfl rfl dX11_search_17 ?_
      refine lv_icmp_ge (tgt := 43) hx hb dX11_search_20 (by decide) (fun c20 => ?_) (fun c20 => ?_)
      · have h := h.1 c20
        exact hk15_43 M_caseCell M_caseHeading l1 _ _ _ h hP hD hS (lv_sub hl [0] rfl)
      · have h := h.2 c20
        refine lv_aload_n hx hb dX11_search_23 rfl (lv_at hl 0 rfl) ?_
        refine gfX11_87 hx hb hts hown hK hP 0 rfl dX11_search_24 ?_
        refine lv_iload_n hx hb dX11_search_27 rfl (lv_at hl 1 rfl) ?_
        refine lv_iload_n hx hb dX11_search_28 rfl (lv_at hl 1 rfl) ?_
        obtain ⟨hin, h⟩ := h
        refine sti (k := l1.toNatClampNeg) (y := l1) hx hb hK hP hD hS 2 rfl hin rfl rfl dX11_search_29 (fun M_caseCell_29 eM_caseCell_29 H locs hP hD hS => ?_)
        have h := h M_caseCell_29 eM_caseCell_29
        have hP : va_P D clsX [(h0, .inr (11, oX11 rM sM)), ((rM 3), .inl (cy 0, 14, .inl M_told)), ((rM 34), .inl (cy 0, 100, .inl M_caseCell_29)), ((rM 35), .inl (cy 0, 100, .inl M_caseHeading))] H := hP
        have hD : va_D A [(h0, .inr (11, oX11 rM sM)), ((rM 3), .inl (cy 0, 14, .inl M_told)), ((rM 34), .inl (cy 0, 100, .inl M_caseCell_29)), ((rM 35), .inl (cy 0, 100, .inl M_caseHeading))] := hD
        refine lv_aload_n hx hb dX11_search_30 rfl (lv_at hl 0 rfl) ?_
        refine gfX11_90 hx hb hts hown hK hP 0 rfl dX11_search_31 ?_
        refine lv_iload_n hx hb dX11_search_34 rfl (lv_at hl 1 rfl) ?_
        refine lv_iconst (v := (0 : Int32)) hx hb dX11_search_35 (by decide) ?_
        obtain ⟨hin, h⟩ := h
        refine sti (k := l1.toNatClampNeg) (y := (0 : Int32)) hx hb hK hP hD hS 3 rfl hin rfl rfl dX11_search_36 (fun M_caseHeading_36 eM_caseHeading_36 H locs hP hD hS => ?_)
        have h := h M_caseHeading_36 eM_caseHeading_36
        have hP : va_P D clsX [(h0, .inr (11, oX11 rM sM)), ((rM 3), .inl (cy 0, 14, .inl M_told)), ((rM 34), .inl (cy 0, 100, .inl M_caseCell_29)), ((rM 35), .inl (cy 0, 100, .inl M_caseHeading_36))] H := hP
        have hD : va_D A [(h0, .inr (11, oX11 rM sM)), ((rM 3), .inl (cy 0, 14, .inl M_told)), ((rM 34), .inl (cy 0, 100, .inl M_caseCell_29)), ((rM 35), .inl (cy 0, 100, .inl M_caseHeading_36))] := hD
        obtain ⟨l1_37, el1_37⟩ : ∃ y : Int32, y = l1 + (1 : Int32) := ⟨_, rfl⟩
        have h := h l1_37 el1_37
        refine lv_iinc (v := l1_37) (lv' := [(1, .int l1_37), (0, .ref h0)]) hx hb dX11_search_37 hl (k := 1) rfl (by rw [el1_37]; rfl) (by decide) rfl (fun ls hl => ?_)
        refine lv_goto (tgt := 15) hx hb dX11_search_40 (by decide) ?_
        exact ih15 M_caseCell_29 M_caseHeading_36 l1_37 _ _ _ h hP hD hS (lv_sub hl [1, 0] rfl)
  refine lv_aload_n hx hb dX11_search_0 rfl (lv_at hl 0 rfl) ?_
  refine lv_iconst (v := (0 : Int32)) hx hb dX11_search_1 (by decide) ?_
  refine pfX11_132 hx hb hts hown hK hP hD hS 0 rfl dX11_search_2 (fun H locs hP hD hS => ?_)
  have hP : va_P D clsX [(h0, .inr (11, oX11 rM (upd sM 2 (0 : Int32)))), ((rM 3), .inl (cy 0, 14, .inl M_told)), ((rM 34), .inl (cy 0, 100, .inl M_caseCell)), ((rM 35), .inl (cy 0, 100, .inl M_caseHeading))] H := hP
  have hD : va_D A [(h0, .inr (11, oX11 rM (upd sM 2 (0 : Int32)))), ((rM 3), .inl (cy 0, 14, .inl M_told)), ((rM 34), .inl (cy 0, 100, .inl M_caseCell)), ((rM 35), .inl (cy 0, 100, .inl M_caseHeading))] := hD
  refine lv_aload_n hx hb dX11_search_5 rfl (lv_at hl 0 rfl) ?_
  refine lv_aload_n hx hb dX11_search_6 rfl (lv_at hl 0 rfl) ?_
  refine clVi (As := []) (rest := [.ref h0]) (Wr := [((rM 34), .inl (cy 0, 100, .inl M_caseCell)), ((rM 35), .inl (cy 0, 100, .inl M_caseHeading))]) (cq := (RX11, TX11, 56)) ⟨hx, hb, hml, hown, hts⟩ ⟨callB_of 0 hts (goodC mw1488) rfl rfl rfl (hts _ (tb mw15)) (hts _ (tb mw1485)) kdX11_cells ⟨Nat.le_trans (by decide) hRf, Nat.le_trans (by decide) hRl⟩, hts _ (tb mw1487), hts _ (tb ms61)⟩ (ctX11_cells l D cy ev h0 rM (upd sM 2 (0 : Int32)) M_told  _ _ h) hE hK hP hD hS hA [0, 1] [2, 3] rfl rfl (by decide) (by decide) (by decide) 0 rfl rfl rfl hl.1 rfl (Nat.le_of_ble_eq_true rfl) ⟨Nat.zero_le _, Nat.zero_le _⟩ dX11_search_7 (fun r7 u H locs h hP hD hS => ?_)
  have hP : va_P D clsX [((rM 34), .inl (cy 0, 100, .inl M_caseCell)), ((rM 35), .inl (cy 0, 100, .inl M_caseHeading)), (h0, .inr (11, oX11 rM (upd sM 2 (0 : Int32)))), ((rM 3), .inl (cy 0, 14, .inl M_told))] H := hP
  have hD : va_D A [((rM 34), .inl (cy 0, 100, .inl M_caseCell)), ((rM 35), .inl (cy 0, 100, .inl M_caseHeading)), (h0, .inr (11, oX11 rM (upd sM 2 (0 : Int32)))), ((rM 3), .inl (cy 0, 14, .inl M_told))] := hD
  refine pfX11_93 hx hb hts hown hK hP hD hS 2 rfl dX11_search_10 (fun H locs hP hD hS => ?_)
  have hP : va_P D clsX [((rM 34), .inl (cy 0, 100, .inl M_caseCell)), ((rM 35), .inl (cy 0, 100, .inl M_caseHeading)), (h0, .inr (11, oX11 rM (upd (upd sM 2 (0 : Int32)) 36 r7))), ((rM 3), .inl (cy 0, 14, .inl M_told))] H := hP
  have hD : va_D A [((rM 34), .inl (cy 0, 100, .inl M_caseCell)), ((rM 35), .inl (cy 0, 100, .inl M_caseHeading)), (h0, .inr (11, oX11 rM (upd (upd sM 2 (0 : Int32)) 36 r7))), ((rM 3), .inl (cy 0, 14, .inl M_told))] := hD
  refine lv_iconst (v := (0 : Int32)) hx hb dX11_search_13 (by decide) ?_
  refine lv_istore_n (lv' := [(1, .int (0 : Int32)), (0, .ref h0)]) hx hb dX11_search_14 rfl hl (by decide) rfl (fun ls hl => ?_)
  obtain ⟨nf15, h⟩ := h
  refine L15 (upd (upd sM 2 (0 : Int32)) 36 r7) _ (fun M_caseCell_43 M_caseHeading_43 l1_43 H locs ls h hP hD hS hl => ?_) nf15 M_caseCell M_caseHeading (0 : Int32) _ _ _ h (hP.sub [2, 3, 0, 1] rfl) (hD.sub [2, 3, 0, 1] (by decide) rfl) hS (lv_sub hl [1, 0] rfl)
  refine lv_aload_n hx hb dX11_search_43 rfl (lv_at hl 0 rfl) ?_
  refine gfX11_93 (v := r7) hx hb hts hown hK hP 0 rfl rfl dX11_search_44 ?_
  exact hret r7 ((upd (upd sM 2 (0 : Int32)) 36 r7), M_caseCell_43, M_caseHeading_43) _ _ _ _ rfl dX11_search_47 h hP hD hS
def wpX11_seen_J120 (sM : AR) (M_told : AR) (M_caseCell : AR) (l1 : Int32) (l2 : Int32) (l3 : Int32) (l4 : Int32) (t0 : Int32) (kb : AR → Int32 → Prop) (kx142 : AR → Int32 → Prop) (post : Int32 → AR → AR → Prop) : Prop := ((¬ t0 = l3 → ∀ l4_136 : Int32, l4_136 = (l4 + (1 : Int32)) → kb M_caseCell l4_136) ∧ (t0 = l3 → vp_in l4 100 ∧ ∀ M_caseCell_135 : AR, M_caseCell_135 = upd M_caseCell l4.toNatClampNeg (-1 : Int32) → ∀ l4_136 : Int32, l4_136 = (l4 + (1 : Int32)) → kb M_caseCell_135 l4_136))
def wpX11_seen_J111 (sM : AR) (M_told : AR) (M_caseCell : AR) (l1 : Int32) (l2 : Int32) (l3 : Int32) (l4 : Int32) (t0 : Int32) (kb : AR → Int32 → Prop) (kx142 : AR → Int32 → Prop) (post : Int32 → AR → AR → Prop) : Prop := ((¬ t0 = l1 → wpX11_seen_J120 sM M_told M_caseCell l1 l2 l3 l4 (0 : Int32) kb kx142 post) ∧ (t0 = l1 → wpX11_seen_J120 sM M_told M_caseCell l1 l2 l3 l4 (1 : Int32) kb kx142 post))
def wpX11_seen_L53 (sM : AR) (M_told : AR) (l1 : Int32) (l2 : Int32) (l3 : Int32) (kx142 : AR → Int32 → Prop) (post : Int32 → AR → AR → Prop) : Nat → AR → Int32 → Prop
  | 0, _, _ => False
  | nf53 + 1, M_caseCell, l4 => (((sM 36) ≤ l4 → kx142 M_caseCell l4) ∧ (¬ (sM 36) ≤ l4 → vp_in l4 100 ∧ ((¬ (M_caseCell l4.toNatClampNeg) = (-1 : Int32) → ((l2 = 0 → vp_in l4 100 ∧ ¬ (M_told 0) = 0 ∧ wpX11_seen_J111 sM M_told M_caseCell l1 l2 l3 l4 (jrem (M_caseCell l4.toNatClampNeg) (M_told 0)) (fun b0 b1 => wpX11_seen_L53 sM M_told l1 l2 l3 kx142 post nf53 b0 b1) kx142 post) ∧ (¬ l2 = 0 → vp_in l4 100 ∧ ¬ (M_told 0) = 0 ∧ wpX11_seen_J111 sM M_told M_caseCell l1 l2 l3 l4 ((M_caseCell l4.toNatClampNeg) / (M_told 0)) (fun b0 b1 => wpX11_seen_L53 sM M_told l1 l2 l3 kx142 post nf53 b0 b1) kx142 post))) ∧ ((M_caseCell l4.toNatClampNeg) = (-1 : Int32) → ∀ l4_136 : Int32, l4_136 = (l4 + (1 : Int32)) → wpX11_seen_L53 sM M_told l1 l2 l3 kx142 post nf53 M_caseCell l4_136))))
def wpX11_seen_J26 (sM : AR) (M_told : AR) (M_caseCell : AR) (l1 : Int32) (l2 : Int32) (l3 : Int32) (t0 : Int32) (t1 : Int32) (t2 : Int32) (post : Int32 → AR → AR → Prop) : Prop := wpX11_isIn t0 t1 (t2 - (1 : Int32)) (fun r28 => ((¬ r28 = 0 → ((¬ (sM 36) = (-1 : Int32) → ∃ nf53 : Nat, wpX11_seen_L53 sM M_told l1 l2 l3 (fun M_caseCell_142 l4_142 => wpX11_casesOf sM M_caseCell_142 (-1 : Int32) (fun r144 => post r144 sM M_caseCell_142)) post nf53 M_caseCell (0 : Int32)) ∧ ((sM 36) = (-1 : Int32) → post (-1 : Int32) sM M_caseCell))) ∧ (r28 = 0 → wpX11_fail sM (1 : Int32) (fun r36 sM_36 => post r36 sM_36 M_caseCell))))
def wpX11_seen (sM : AR) (M_told : AR) (M_caseCell : AR) (x1 : Int32) (x2 : Int32) (x3 : Int32) (post : Int32 → AR → AR → Prop) : Prop := ((x2 = 0 → wpX11_seen_J26 (upd sM 2 (0 : Int32)) M_told M_caseCell x1 x2 x3 x1 (0 : Int32) (M_told 0) post) ∧ (¬ x2 = 0 → wpX11_seen_J26 (upd sM 2 (0 : Int32)) M_told M_caseCell x1 x2 x3 x1 (0 : Int32) (M_told 1) post))
set_option maxHeartbeats 4000000 in
set_option maxRecDepth 100000 in
theorem ctX11_seen (l : Launch) (D : va_G) (cy : Nat → ClassId) (ev : Nat → Nat) (h0 : Nat) (rM : Nat → Nat) (sM : AR) (M_told : AR) (M_caseCell : AR) (x1 : Int32) (x2 : Int32) (x3 : Int32) (sz : Nat) (post : Int32 → AR → AR → Prop) (h : wpX11_seen sM M_told M_caseCell x1 x2 x3 post) : Met l yX11_seen (Cond.code yX11_seen cX11_seen 6 (some .int) :: TB) ({ frames := 1, cells := 0, slots := 0, locals := 23 }) (va_Pc [.ref h0, .int x1, .int x2, .int x3] (PreX D cy ev [(h0, .inr (11, oX11 rM sM)), ((rM 3), .inl (cy 0, 14, .inl M_told)), ((rM 34), .inl (cy 0, 100, .inl M_caseCell))] sz)) (va_Qi (fun (r : Int32) (u : AR × AR) => post r (u.1) (u.2)) (fun u => BkX D cy [(h0, .inr (11, oX11 rM sM)), ((rM 3), .inl (cy 0, 14, .inl M_told)), ((rM 34), .inl (cy 0, 100, .inl M_caseCell))] sz [(h0, .inr (11, oX11 rM (u.1))), ((rM 3), .inl (cy 0, 14, .inl M_told)), ((rM 34), .inl (cy 0, 100, .inl (u.2)))]) (va_A [(h0, .inr (11, oX11 rM sM)), ((rM 3), .inl (cy 0, 14, .inl M_told)), ((rM 34), .inl (cy 0, 100, .inl M_caseCell))] sz)) 0 0 (va_A [(h0, .inr (11, oX11 rM sM)), ((rM 3), .inl (cy 0, 14, .inl M_told)), ((rM 34), .inl (cy 0, 100, .inl M_caseCell))] sz) := by
  refine ofWi (by decide) (Nat.le_of_ble_eq_true rfl) ?_
  intro p e s m args below meth c ls A R QQ hx hb hml hown hts hR hlk hE hK hP hD hS hA hl hret
  have hown : s.vm.findClass RX11 = some m.cls := hown
  have hRf : 1 ≤ R.frames := by rw [hR]; exact Nat.le_refl _
  have hRl : 23 ≤ R.locals := by rw [hR]; exact Nat.le_refl _
  clear hR
  have hl : lv_has ls 6 [(0, .ref h0), (1, .int x1), (2, .int x2), (3, .int x3)] := hl
  have J26 : ∀ (sM : AR) (l1 : Int32) (l2 : Int32) (l3 : Int32) (t0 : Int32) (t1 : Int32) (t2 : Int32) (H : Heap) (locs : List Loc) (ls : Array Slot), wpX11_seen_J26 sM M_told M_caseCell l1 l2 l3 t0 t1 t2 post → va_P D clsX [(h0, .inr (11, oX11 rM sM)), ((rM 3), .inl (cy 0, 14, .inl M_told)), ((rM 34), .inl (cy 0, 100, .inl M_caseCell))] H → va_D A [(h0, .inr (11, oX11 rM sM)), ((rM 3), .inl (cy 0, 14, .inl M_told)), ((rM 34), .inl (cy 0, 100, .inl M_caseCell))] → va_S A s.heap H locs → lv_has ls 6 [(0, .ref h0), (1, .int l1), (2, .int l2), (3, .int l3)] → W p l e R s m args below meth c H locs 0 0 QQ (F0 m 26 ls [.int t2, .int t1, .int t0]) := by
    intro sM l1 l2 l3 t0 t1 t2 H locs ls h hP hD hS hl
    have L53 : ∀ (sM : AR) (l1 : Int32) (l2 : Int32) (l3 : Int32) (kx142 : AR → Int32 → Prop), (∀ (M_caseCell : AR) (l4 : Int32) (H : Heap) (locs : List Loc) (ls : Array Slot), kx142 M_caseCell l4 → va_P D clsX [(h0, .inr (11, oX11 rM sM)), ((rM 3), .inl (cy 0, 14, .inl M_told)), ((rM 34), .inl (cy 0, 100, .inl M_caseCell))] H → va_D A [(h0, .inr (11, oX11 rM sM)), ((rM 3), .inl (cy 0, 14, .inl M_told)), ((rM 34), .inl (cy 0, 100, .inl M_caseCell))] → va_S A s.heap H locs → lv_has ls 6 [(0, .ref h0)] → W p l e R s m args below meth c H locs 0 0 QQ (F0 m 142 ls [])) → ∀ (nf53 : Nat) (M_caseCell : AR) (l4 : Int32) (H : Heap) (locs : List Loc) (ls : Array Slot), wpX11_seen_L53 sM M_told l1 l2 l3 kx142 post nf53 M_caseCell l4 → va_P D clsX [(h0, .inr (11, oX11 rM sM)), ((rM 3), .inl (cy 0, 14, .inl M_told)), ((rM 34), .inl (cy 0, 100, .inl M_caseCell))] H → va_D A [(h0, .inr (11, oX11 rM sM)), ((rM 3), .inl (cy 0, 14, .inl M_told)), ((rM 34), .inl (cy 0, 100, .inl M_caseCell))] → va_S A s.heap H locs → lv_has ls 6 [(0, .ref h0), (1, .int l1), (2, .int l2), (3, .int l3), (4, .int l4)] → W p l e R s m args below meth c H locs 0 0 QQ (F0 m 53 ls []) := by
      intro sM l1 l2 l3 kx142 hk53_142 nf53
      induction nf53 with
      | zero =>
        intro M_caseCell l4 H locs ls h
        exact (show False from h).elim
      | succ nf53 ih53 =>
        intro M_caseCell l4 H locs ls h hP hD hS hl
        have J111 : ∀ (M_caseCell : AR) (l4 : Int32) (t0 : Int32) (H : Heap) (locs : List Loc) (ls : Array Slot), wpX11_seen_J111 sM M_told M_caseCell l1 l2 l3 l4 t0 (fun b0 b1 => wpX11_seen_L53 sM M_told l1 l2 l3 kx142 post nf53 b0 b1) kx142 post → va_P D clsX [(h0, .inr (11, oX11 rM sM)), ((rM 3), .inl (cy 0, 14, .inl M_told)), ((rM 34), .inl (cy 0, 100, .inl M_caseCell))] H → va_D A [(h0, .inr (11, oX11 rM sM)), ((rM 3), .inl (cy 0, 14, .inl M_told)), ((rM 34), .inl (cy 0, 100, .inl M_caseCell))] → va_S A s.heap H locs → lv_has ls 6 [(0, .ref h0), (1, .int l1), (2, .int l2), (3, .int l3), (4, .int l4)] → W p l e R s m args below meth c H locs 0 0 QQ (F0 m 111 ls [.int t0]) := by
          intro M_caseCell l4 t0 H locs ls h hP hD hS hl
          have J120 : ∀ (M_caseCell : AR) (l4 : Int32) (t0 : Int32) (H : Heap) (locs : List Loc) (ls : Array Slot), wpX11_seen_J120 sM M_told M_caseCell l1 l2 l3 l4 t0 (fun b0 b1 => wpX11_seen_L53 sM M_told l1 l2 l3 kx142 post nf53 b0 b1) kx142 post → va_P D clsX [(h0, .inr (11, oX11 rM sM)), ((rM 3), .inl (cy 0, 14, .inl M_told)), ((rM 34), .inl (cy 0, 100, .inl M_caseCell))] H → va_D A [(h0, .inr (11, oX11 rM sM)), ((rM 3), .inl (cy 0, 14, .inl M_told)), ((rM 34), .inl (cy 0, 100, .inl M_caseCell))] → va_S A s.heap H locs → lv_has ls 6 [(0, .ref h0), (1, .int l1), (2, .int l2), (3, .int l3), (4, .int l4)] → W p l e R s m args below meth c H locs 0 0 QQ (F0 m 120 ls [.int t0]) := by
            intro M_caseCell l4 t0 H locs ls h hP hD hS hl
            refine lv_istore (lv' := [(5, .int t0), (0, .ref h0), (1, .int l1), (2, .int l2), (3, .int l3), (4, .int l4)]) hx hb dX11_seen_120 hl (by decide) rfl (fun ls hl => ?_)
            refine lv_iload hx hb dX11_seen_122 (lv_at hl 0 rfl) ?_
            refine lv_iload_n hx hb dX11_seen_124 rfl (lv_at hl 4 rfl) ?_
            refine lv_icmp_ne (tgt := 136) hx hb dX11_seen_125 (by decide) (fun c125 => ?_) (fun c125 => ?_)
            · have h := h.1 c125
              obtain ⟨l4_136, el4_136⟩ : ∃ y : Int32, y = l4 + (1 : Int32) := ⟨_, rfl⟩
              have h := h l4_136 el4_136
              refine lv_iinc (v := l4_136) (lv' := [(4, .int l4_136), (5, .int t0), (0, .ref h0), (1, .int l1), (2, .int l2), (3, .int l3)]) hx hb dX11_seen_136 hl (k := 5) rfl (by rw [el4_136]; rfl) (by decide) rfl (fun ls hl => ?_)
              refine lv_goto (tgt := 53) hx hb dX11_seen_139 (by decide) ?_
              exact ih53 M_caseCell l4_136 _ _ _ h hP hD hS (lv_sub hl [2, 3, 4, 5, 0] rfl)
            · have h := h.2 c125
              refine lv_aload_n hx hb dX11_seen_128 rfl (lv_at hl 1 rfl) ?_
              refine gfX11_87 hx hb hts hown hK hP 0 rfl dX11_seen_129 ?_
              refine lv_iload hx hb dX11_seen_132 (lv_at hl 5 rfl) ?_
              refine lv_iconst (v := (-1 : Int32)) hx hb dX11_seen_134 (by decide) ?_
              obtain ⟨hin, h⟩ := h
              refine sti (k := l4.toNatClampNeg) (y := (-1 : Int32)) hx hb hK hP hD hS 2 rfl hin rfl rfl dX11_seen_135 (fun M_caseCell_135 eM_caseCell_135 H locs hP hD hS => ?_)
              have h := h M_caseCell_135 eM_caseCell_135
              have hP : va_P D clsX [(h0, .inr (11, oX11 rM sM)), ((rM 3), .inl (cy 0, 14, .inl M_told)), ((rM 34), .inl (cy 0, 100, .inl M_caseCell_135))] H := hP
              have hD : va_D A [(h0, .inr (11, oX11 rM sM)), ((rM 3), .inl (cy 0, 14, .inl M_told)), ((rM 34), .inl (cy 0, 100, .inl M_caseCell_135))] := hD
              obtain ⟨l4_136, el4_136⟩ : ∃ y : Int32, y = l4 + (1 : Int32) := ⟨_, rfl⟩
              have h := h l4_136 el4_136
              refine lv_iinc (v := l4_136) (lv' := [(4, .int l4_136), (5, .int t0), (0, .ref h0), (1, .int l1), (2, .int l2), (3, .int l3)]) hx hb dX11_seen_136 hl (k := 5) rfl (by rw [el4_136]; rfl) (by decide) rfl (fun ls hl => ?_)
              refine lv_goto (tgt := 53) hx hb dX11_seen_139 (by decide) ?_
              exact ih53 M_caseCell_135 l4_136 _ _ _ h hP hD hS (lv_sub hl [2, 3, 4, 5, 0] rfl)
          refine lv_iload_n hx hb dX11_seen_111 rfl (lv_at hl 1 rfl) ?_
          refine lv_icmp_ne (tgt := 119) hx hb dX11_seen_112 (by decide) (fun c112 => ?_) (fun c112 => ?_)
          · have h := h.1 c112
            refine lv_iconst (v := (0 : Int32)) hx hb dX11_seen_119 (by decide) ?_
            exact J120 M_caseCell l4 (0 : Int32) _ _ _ h hP hD hS hl
          · have h := h.2 c112
            refine lv_iconst (v := (1 : Int32)) hx hb dX11_seen_115 (by decide) ?_
            refine lv_goto (tgt := 120) hx hb dX11_seen_116 (by decide) ?_
            exact J120 M_caseCell l4 (1 : Int32) _ _ _ h hP hD hS hl
        refine lv_iload hx hb dX11_seen_53 (lv_at hl 4 rfl) ?_
        refine lv_aload_n hx hb dX11_seen_55 rfl (lv_at hl 0 rfl) ?_
        refine gfX11_93 (v := (sM 36)) hx hb hts hown hK hP 0 rfl rfl dX11_seen_56 ?_
        refine lv_icmp_ge (tgt := 142) hx hb dX11_seen_59 (by decide) (fun c59 => ?_) (fun c59 => ?_)
        · have h := h.1 c59
          exact hk53_142 M_caseCell l4 _ _ _ h hP hD hS (lv_sub hl [0] rfl)
        · have h := h.2 c59
          refine lv_aload_n hx hb dX11_seen_62 rfl (lv_at hl 0 rfl) ?_
          refine gfX11_87 hx hb hts hown hK hP 0 rfl dX11_seen_63 ?_
          refine lv_iload hx hb dX11_seen_66 (lv_at hl 4 rfl) ?_
          obtain ⟨hin, h⟩ := h
          refine ldi (k := l4.toNatClampNeg) hx hb hK hP 2 rfl hin rfl dX11_seen_68 ?_
          refine lv_iconst (v := (-1 : Int32)) hx hb dX11_seen_69 (by decide) ?_
          refine lv_icmp_ne (tgt := 76) hx hb dX11_seen_70 (by decide) (fun c70 => ?_) (fun c70 => ?_)
          · have h := h.1 c70
            refine lv_iload_n hx hb dX11_seen_76 rfl (lv_at hl 2 rfl) ?_
            refine lv_if_eq (tgt := 97) hx hb dX11_seen_77 (by decide) (fun c77 => ?_) (fun c77 => ?_)
            · have h := h.1 c77
              refine lv_aload_n hx hb dX11_seen_97 rfl (lv_at hl 0 rfl) ?_
              refine gfX11_87 hx hb hts hown hK hP 0 rfl dX11_seen_98 ?_
              refine lv_iload hx hb dX11_seen_101 (lv_at hl 4 rfl) ?_
              obtain ⟨hin, h⟩ := h
              refine ldi (k := l4.toNatClampNeg) hx hb hK hP 2 rfl hin rfl dX11_seen_103 ?_
              refine lv_aload_n hx hb dX11_seen_104 rfl (lv_at hl 0 rfl) ?_
              refine gfX11_36 hx hb hts hown hK hP 0 rfl dX11_seen_105 ?_
              refine lv_iconst (v := (0 : Int32)) hx hb dX11_seen_108 (by decide) ?_
              refine ldi (k := 0) hx hb hK hP 1 rfl (inL (by decide)) (by decide) dX11_seen_109 ?_
              obtain ⟨hne, h⟩ := h
              refine lv_irem hx hb dX11_seen_110 hne ?_
              exact J111 M_caseCell l4 (jrem (M_caseCell l4.toNatClampNeg) (M_told 0)) _ _ _ h hP hD hS hl
            · have h := h.2 c77
              refine lv_aload_n hx hb dX11_seen_80 rfl (lv_at hl 0 rfl) ?_
              refine gfX11_87 hx hb hts hown hK hP 0 rfl dX11_seen_81 ?_
              refine lv_iload hx hb dX11_seen_84 (lv_at hl 4 rfl) ?_
              obtain ⟨hin, h⟩ := h
              refine ldi (k := l4.toNatClampNeg) hx hb hK hP 2 rfl hin rfl dX11_seen_86 ?_
              refine lv_aload_n hx hb dX11_seen_87 rfl (lv_at hl 0 rfl) ?_
              refine gfX11_36 hx hb hts hown hK hP 0 rfl dX11_seen_88 ?_
              refine lv_iconst (v := (0 : Int32)) hx hb dX11_seen_91 (by decide) ?_
              refine ldi (k := 0) hx hb hK hP 1 rfl (inL (by decide)) (by decide) dX11_seen_92 ?_
              obtain ⟨hne, h⟩ := h
              refine lv_idiv hx hb dX11_seen_93 hne ?_
              refine lv_goto (tgt := 111) hx hb dX11_seen_94 (by decide) ?_
              exact J111 M_caseCell l4 ((M_caseCell l4.toNatClampNeg) / (M_told 0)) _ _ _ h hP hD hS hl
          · have h := h.2 c70
            refine lv_goto (tgt := 136) hx hb dX11_seen_73 (by decide) ?_
            obtain ⟨l4_136, el4_136⟩ : ∃ y : Int32, y = l4 + (1 : Int32) := ⟨_, rfl⟩
            have h := h l4_136 el4_136
            refine lv_iinc (v := l4_136) (lv' := [(4, .int l4_136), (0, .ref h0), (1, .int l1), (2, .int l2), (3, .int l3)]) hx hb dX11_seen_136 hl (k := 4) rfl (by rw [el4_136]; rfl) (by decide) rfl (fun ls hl => ?_)
            refine lv_goto (tgt := 53) hx hb dX11_seen_139 (by decide) ?_
            exact ih53 M_caseCell l4_136 _ _ _ h hP hD hS (lv_sub hl [1, 2, 3, 4, 0] rfl)
    refine lv_iconst (v := (1 : Int32)) hx hb dX11_seen_26 (by decide) ?_
    refine lv_isub hx hb dX11_seen_27 ?_
    refine clSi (As := [.int t0, .int t1, .int (t2 - (1 : Int32))]) (rest := []) (Wr := [(h0, .inr (11, oX11 rM sM)), ((rM 3), .inl (cy 0, 14, .inl M_told)), ((rM 34), .inl (cy 0, 100, .inl M_caseCell))]) ⟨hx, hb, hml, hown, hts⟩ ⟨callB_of 3 hts (goodC mw1456) rfl rfl rfl (hts _ (tb mw15)) (hts _ (tb mw1454)) kdX11_isIn ⟨Nat.le_trans (by decide) hRf, Nat.le_trans (by decide) hRl⟩, hts _ (tb mw1455)⟩ (ctX11_isIn l D cy ev  t0 t1 (t2 - (1 : Int32)) _ _ h) hE hK hP hD hS hA [] [0, 1, 2] rfl rfl (by decide) (by decide) (by decide) rfl hl.1 rfl (Nat.le_of_ble_eq_true rfl) ⟨Nat.zero_le _, Nat.zero_le _⟩ dX11_seen_28 (fun r28 u H locs h hP hD hS => ?_)
    have hP : va_P D clsX [(h0, .inr (11, oX11 rM sM)), ((rM 3), .inl (cy 0, 14, .inl M_told)), ((rM 34), .inl (cy 0, 100, .inl M_caseCell))] H := hP
    have hD : va_D A [(h0, .inr (11, oX11 rM sM)), ((rM 3), .inl (cy 0, 14, .inl M_told)), ((rM 34), .inl (cy 0, 100, .inl M_caseCell))] := hD
    refine lv_if_ne (tgt := 40) hx hb dX11_seen_31 (by decide) (fun c31 => ?_) (fun c31 => ?_)
    · have h := h.1 c31
      refine lv_aload_n hx hb dX11_seen_40 rfl (lv_at hl 0 rfl) ?_
      refine gfX11_93 (v := (sM 36)) hx hb hts hown hK hP 0 rfl rfl dX11_seen_41 ?_
      refine lv_iconst (v := (-1 : Int32)) hx hb dX11_seen_44 (by decide) ?_
      refine lv_icmp_ne (tgt := 50) hx hb dX11_seen_45 (by decide) (fun c45 => ?_) (fun c45 => ?_)
      · have h := h.1 c45
        refine lv_iconst (v := (0 : Int32)) hx hb dX11_seen_50 (by decide) ?_
        refine lv_istore (lv' := [(4, .int (0 : Int32)), (0, .ref h0), (1, .int l1), (2, .int l2), (3, .int l3)]) hx hb dX11_seen_51 hl (by decide) rfl (fun ls hl => ?_)
        obtain ⟨nf53, h⟩ := h
        refine L53 sM l1 l2 l3 _ (fun M_caseCell_142 l4_142 H locs ls h hP hD hS hl => ?_) nf53 M_caseCell (0 : Int32) _ _ _ h hP hD hS (lv_sub hl [1, 2, 3, 4, 0] rfl)
        refine lv_aload_n hx hb dX11_seen_142 rfl (lv_at hl 0 rfl) ?_
        refine lv_iconst (v := (-1 : Int32)) hx hb dX11_seen_143 (by decide) ?_
        refine clVi (As := [.int (-1 : Int32)]) (rest := []) (Wr := [((rM 3), .inl (cy 0, 14, .inl M_told))]) (cq := (RX11, TX11, 56)) ⟨hx, hb, hml, hown, hts⟩ ⟨callB_of 1 hts (goodC mw1600) rfl rfl rfl (hts _ (tb mw15)) (hts _ (tb mw1597)) kdX11_casesOf ⟨Nat.le_trans (by decide) hRf, Nat.le_trans (by decide) hRl⟩, hts _ (tb mw1599), hts _ (tb ms79)⟩ (ctX11_casesOf l D cy ev h0 rM sM M_caseCell_142 (-1 : Int32) _ _ h) hE hK hP hD hS hA [0, 2] [1] rfl rfl (by decide) (by decide) (by decide) 0 rfl rfl rfl hl.1 rfl (Nat.le_of_ble_eq_true rfl) ⟨Nat.zero_le _, Nat.zero_le _⟩ dX11_seen_144 (fun r144 u H locs h hP hD hS => ?_)
        have hP : va_P D clsX [((rM 3), .inl (cy 0, 14, .inl M_told)), (h0, .inr (11, oX11 rM sM)), ((rM 34), .inl (cy 0, 100, .inl M_caseCell_142))] H := hP
        have hD : va_D A [((rM 3), .inl (cy 0, 14, .inl M_told)), (h0, .inr (11, oX11 rM sM)), ((rM 34), .inl (cy 0, 100, .inl M_caseCell_142))] := hD
        exact hret r144 (sM, M_caseCell_142) _ _ _ _ rfl dX11_seen_147 h (hP.sub [1, 0, 2] rfl) (hD.sub [1, 0, 2] (by decide) rfl) hS
      · have h := h.2 c45
        refine lv_iconst (v := (-1 : Int32)) hx hb dX11_seen_48 (by decide) ?_
        exact hret (-1 : Int32) (sM, M_caseCell) _ _ _ _ rfl dX11_seen_49 h hP hD hS
    · have h := h.2 c31
      refine lv_aload_n hx hb dX11_seen_34 rfl (lv_at hl 0 rfl) ?_
      refine lv_iconst (v := (1 : Int32)) hx hb dX11_seen_35 (by decide) ?_
      refine clVi (As := [.int (1 : Int32)]) (rest := []) (Wr := [((rM 3), .inl (cy 0, 14, .inl M_told)), ((rM 34), .inl (cy 0, 100, .inl M_caseCell))]) (cq := (RX11, TX11, 56)) ⟨hx, hb, hml, hown, hts⟩ ⟨callB_of 1 hts (goodC mw1373) rfl rfl rfl (hts _ (tb mw15)) (hts _ (tb mw1370)) kdX11_fail ⟨Nat.le_trans (by decide) hRf, Nat.le_trans (by decide) hRl⟩, hts _ (tb mw1372), hts _ (tb ms41)⟩ (ctX11_fail l D cy ev h0 rM sM (1 : Int32) _ _ h) hE hK hP hD hS hA [0] [1, 2] rfl rfl (by decide) (by decide) (by decide) 0 rfl rfl rfl hl.1 rfl (Nat.le_of_ble_eq_true rfl) ⟨Nat.zero_le _, Nat.zero_le _⟩ dX11_seen_36 (fun r36 sM_36 H locs h hP hD hS => ?_)
      have hP : va_P D clsX [((rM 3), .inl (cy 0, 14, .inl M_told)), ((rM 34), .inl (cy 0, 100, .inl M_caseCell)), (h0, .inr (11, oX11 rM sM_36))] H := hP
      have hD : va_D A [((rM 3), .inl (cy 0, 14, .inl M_told)), ((rM 34), .inl (cy 0, 100, .inl M_caseCell)), (h0, .inr (11, oX11 rM sM_36))] := hD
      exact hret r36 (sM_36, M_caseCell) _ _ _ _ rfl dX11_seen_39 h (hP.sub [2, 0, 1] rfl) (hD.sub [2, 0, 1] (by decide) rfl) hS
  refine lv_aload_n hx hb dX11_seen_0 rfl (lv_at hl 0 rfl) ?_
  refine lv_iconst (v := (0 : Int32)) hx hb dX11_seen_1 (by decide) ?_
  refine pfX11_132 hx hb hts hown hK hP hD hS 0 rfl dX11_seen_2 (fun H locs hP hD hS => ?_)
  have hP : va_P D clsX [(h0, .inr (11, oX11 rM (upd sM 2 (0 : Int32)))), ((rM 3), .inl (cy 0, 14, .inl M_told)), ((rM 34), .inl (cy 0, 100, .inl M_caseCell))] H := hP
  have hD : va_D A [(h0, .inr (11, oX11 rM (upd sM 2 (0 : Int32)))), ((rM 3), .inl (cy 0, 14, .inl M_told)), ((rM 34), .inl (cy 0, 100, .inl M_caseCell))] := hD
  refine lv_iload_n hx hb dX11_seen_5 rfl (lv_at hl 1 rfl) ?_
  refine lv_iconst (v := (0 : Int32)) hx hb dX11_seen_6 (by decide) ?_
  refine lv_iload_n hx hb dX11_seen_7 rfl (lv_at hl 2 rfl) ?_
  refine lv_if_eq (tgt := 20) hx hb dX11_seen_8 (by decide) (fun c8 => ?_) (fun c8 => ?_)
  · have h := h.1 c8
    refine lv_aload_n hx hb dX11_seen_20 rfl (lv_at hl 0 rfl) ?_
    refine gfX11_36 hx hb hts hown hK hP 0 rfl dX11_seen_21 ?_
    refine lv_iconst (v := (0 : Int32)) hx hb dX11_seen_24 (by decide) ?_
    refine ldi (k := 0) hx hb hK hP 1 rfl (inL (by decide)) (by decide) dX11_seen_25 ?_
    exact J26 (upd sM 2 (0 : Int32)) x1 x2 x3 x1 (0 : Int32) (M_told 0) _ _ _ h hP hD hS hl
  · have h := h.2 c8
    refine lv_aload_n hx hb dX11_seen_11 rfl (lv_at hl 0 rfl) ?_
    refine gfX11_36 hx hb hts hown hK hP 0 rfl dX11_seen_12 ?_
    refine lv_iconst (v := (1 : Int32)) hx hb dX11_seen_15 (by decide) ?_
    refine ldi (k := 1) hx hb hK hP 1 rfl (inL (by decide)) (by decide) dX11_seen_16 ?_
    refine lv_goto (tgt := 26) hx hb dX11_seen_17 (by decide) ?_
    exact J26 (upd sM 2 (0 : Int32)) x1 x2 x3 x1 (0 : Int32) (M_told 1) _ _ _ h hP hD hS hl
def wpX11_cases_J24 (sM : AR) (M_told : AR) (M_caseCell : AR) (l1 : Int32) (post : Int32 → AR → Prop) : Prop := ((¬ (sM 36) = (-1 : Int32) → wpX11_casesOf sM M_caseCell l1 (fun r38 => post r38 sM)) ∧ ((sM 36) = (-1 : Int32) → post (-1 : Int32) sM))
def wpX11_cases (sM : AR) (M_told : AR) (M_caseCell : AR) (x1 : Int32) (post : Int32 → AR → Prop) : Prop := ((x1 = (-1 : Int32) → wpX11_cases_J24 (upd sM 2 (0 : Int32)) M_told M_caseCell x1 post) ∧ (¬ x1 = (-1 : Int32) → wpX11_isCell M_told x1 (fun r12 => ((¬ r12 = 0 → wpX11_cases_J24 (upd sM 2 (0 : Int32)) M_told M_caseCell x1 post) ∧ (r12 = 0 → wpX11_fail (upd sM 2 (0 : Int32)) (1 : Int32) (fun r20 sM_20 => post r20 sM_20))))))
set_option maxHeartbeats 4000000 in
set_option maxRecDepth 100000 in
theorem ctX11_cases (l : Launch) (D : va_G) (cy : Nat → ClassId) (ev : Nat → Nat) (h0 : Nat) (rM : Nat → Nat) (sM : AR) (M_told : AR) (M_caseCell : AR) (x1 : Int32) (sz : Nat) (post : Int32 → AR → Prop) (h : wpX11_cases sM M_told M_caseCell x1 post) : Met l yX11_cases (Cond.code yX11_cases cX11_cases 2 (some .int) :: TB) ({ frames := 2, cells := 0, slots := 0, locals := 43 }) (va_Pc [.ref h0, .int x1] (PreX D cy ev [(h0, .inr (11, oX11 rM sM)), ((rM 3), .inl (cy 0, 14, .inl M_told)), ((rM 34), .inl (cy 0, 100, .inl M_caseCell))] sz)) (va_Qi (fun (r : Int32) (u : AR) => post r u) (fun u => BkX D cy [(h0, .inr (11, oX11 rM sM)), ((rM 3), .inl (cy 0, 14, .inl M_told)), ((rM 34), .inl (cy 0, 100, .inl M_caseCell))] sz [(h0, .inr (11, oX11 rM u)), ((rM 3), .inl (cy 0, 14, .inl M_told)), ((rM 34), .inl (cy 0, 100, .inl M_caseCell))]) (va_A [(h0, .inr (11, oX11 rM sM)), ((rM 3), .inl (cy 0, 14, .inl M_told)), ((rM 34), .inl (cy 0, 100, .inl M_caseCell))] sz)) 0 0 (va_A [(h0, .inr (11, oX11 rM sM)), ((rM 3), .inl (cy 0, 14, .inl M_told)), ((rM 34), .inl (cy 0, 100, .inl M_caseCell))] sz) := by
  refine ofWi (by decide) (Nat.le_of_ble_eq_true rfl) ?_
  intro p e s m args below meth c ls A R QQ hx hb hml hown hts hR hlk hE hK hP hD hS hA hl hret
  have hown : s.vm.findClass RX11 = some m.cls := hown
  have hRf : 2 ≤ R.frames := by rw [hR]; exact Nat.le_refl _
  have hRl : 43 ≤ R.locals := by rw [hR]; exact Nat.le_refl _
  clear hR
  have hl : lv_has ls 2 [(0, .ref h0), (1, .int x1)] := hl
  have J24 : ∀ (sM : AR) (l1 : Int32) (H : Heap) (locs : List Loc) (ls : Array Slot), wpX11_cases_J24 sM M_told M_caseCell l1 post → va_P D clsX [(h0, .inr (11, oX11 rM sM)), ((rM 3), .inl (cy 0, 14, .inl M_told)), ((rM 34), .inl (cy 0, 100, .inl M_caseCell))] H → va_D A [(h0, .inr (11, oX11 rM sM)), ((rM 3), .inl (cy 0, 14, .inl M_told)), ((rM 34), .inl (cy 0, 100, .inl M_caseCell))] → va_S A s.heap H locs → lv_has ls 2 [(0, .ref h0), (1, .int l1)] → W p l e R s m args below meth c H locs 0 0 QQ (F0 m 24 ls []) := by
    intro sM l1 H locs ls h hP hD hS hl
    refine lv_aload_n hx hb dX11_cases_24 rfl (lv_at hl 0 rfl) ?_
    refine gfX11_93 (v := (sM 36)) hx hb hts hown hK hP 0 rfl rfl dX11_cases_25 ?_
    refine lv_iconst (v := (-1 : Int32)) hx hb dX11_cases_28 (by decide) ?_
    refine lv_icmp_ne (tgt := 36) hx hb dX11_cases_29 (by decide) (fun c29 => ?_) (fun c29 => ?_)
    · have h := h.1 c29
      refine lv_aload_n hx hb dX11_cases_36 rfl (lv_at hl 0 rfl) ?_
      refine lv_iload_n hx hb dX11_cases_37 rfl (lv_at hl 1 rfl) ?_
      refine clVi (As := [.int l1]) (rest := []) (Wr := [((rM 3), .inl (cy 0, 14, .inl M_told))]) (cq := (RX11, TX11, 56)) ⟨hx, hb, hml, hown, hts⟩ ⟨callB_of 1 hts (goodC mw1600) rfl rfl rfl (hts _ (tb mw15)) (hts _ (tb mw1597)) kdX11_casesOf ⟨Nat.le_trans (by decide) hRf, Nat.le_trans (by decide) hRl⟩, hts _ (tb mw1599), hts _ (tb ms79)⟩ (ctX11_casesOf l D cy ev h0 rM sM M_caseCell l1 _ _ h) hE hK hP hD hS hA [0, 2] [1] rfl rfl (by decide) (by decide) (by decide) 0 rfl rfl rfl hl.1 rfl (Nat.le_of_ble_eq_true rfl) ⟨Nat.zero_le _, Nat.zero_le _⟩ dX11_cases_38 (fun r38 u H locs h hP hD hS => ?_)
      have hP : va_P D clsX [((rM 3), .inl (cy 0, 14, .inl M_told)), (h0, .inr (11, oX11 rM sM)), ((rM 34), .inl (cy 0, 100, .inl M_caseCell))] H := hP
      have hD : va_D A [((rM 3), .inl (cy 0, 14, .inl M_told)), (h0, .inr (11, oX11 rM sM)), ((rM 34), .inl (cy 0, 100, .inl M_caseCell))] := hD
      exact hret r38 (sM) _ _ _ _ rfl dX11_cases_41 h (hP.sub [1, 0, 2] rfl) (hD.sub [1, 0, 2] (by decide) rfl) hS
    · have h := h.2 c29
      refine lv_iconst (v := (-1 : Int32)) hx hb dX11_cases_32 (by decide) ?_
      refine lv_goto (tgt := 41) hx hb dX11_cases_33 (by decide) ?_
      exact hret (-1 : Int32) (sM) _ _ _ _ rfl dX11_cases_41 h hP hD hS
  refine lv_aload_n hx hb dX11_cases_0 rfl (lv_at hl 0 rfl) ?_
  refine lv_iconst (v := (0 : Int32)) hx hb dX11_cases_1 (by decide) ?_
  refine pfX11_132 hx hb hts hown hK hP hD hS 0 rfl dX11_cases_2 (fun H locs hP hD hS => ?_)
  have hP : va_P D clsX [(h0, .inr (11, oX11 rM (upd sM 2 (0 : Int32)))), ((rM 3), .inl (cy 0, 14, .inl M_told)), ((rM 34), .inl (cy 0, 100, .inl M_caseCell))] H := hP
  have hD : va_D A [(h0, .inr (11, oX11 rM (upd sM 2 (0 : Int32)))), ((rM 3), .inl (cy 0, 14, .inl M_told)), ((rM 34), .inl (cy 0, 100, .inl M_caseCell))] := hD
  refine lv_iload_n hx hb dX11_cases_5 rfl (lv_at hl 1 rfl) ?_
  refine lv_iconst (v := (-1 : Int32)) hx hb dX11_cases_6 (by decide) ?_
  refine lv_icmp_eq (tgt := 24) hx hb dX11_cases_7 (by decide) (fun c7 => ?_) (fun c7 => ?_)
  · have h := h.1 c7
    exact J24 (upd sM 2 (0 : Int32)) x1 _ _ _ h hP hD hS hl
  · have h := h.2 c7
    refine lv_aload_n hx hb dX11_cases_10 rfl (lv_at hl 0 rfl) ?_
    refine lv_iload_n hx hb dX11_cases_11 rfl (lv_at hl 1 rfl) ?_
    refine clVi (As := [.int x1]) (rest := []) (Wr := [((rM 34), .inl (cy 0, 100, .inl M_caseCell))]) (cq := (RX11, TX11, 56)) ⟨hx, hb, hml, hown, hts⟩ ⟨callB_of 1 hts (goodC mw1484) rfl rfl rfl (hts _ (tb mw15)) (hts _ (tb mw1481)) kdX11_isCell ⟨Nat.le_trans (by decide) hRf, Nat.le_trans (by decide) hRl⟩, hts _ (tb mw1483), hts _ (tb ms60)⟩ (ctX11_isCell l D cy ev h0 rM (upd sM 2 (0 : Int32)) M_told x1 _ _ h) hE hK hP hD hS hA [0, 1] [2] rfl rfl (by decide) (by decide) (by decide) 0 rfl rfl rfl hl.1 rfl (Nat.le_of_ble_eq_true rfl) ⟨Nat.zero_le _, Nat.zero_le _⟩ dX11_cases_12 (fun r12 u H locs h hP hD hS => ?_)
    have hP : va_P D clsX [((rM 34), .inl (cy 0, 100, .inl M_caseCell)), (h0, .inr (11, oX11 rM (upd sM 2 (0 : Int32)))), ((rM 3), .inl (cy 0, 14, .inl M_told))] H := hP
    have hD : va_D A [((rM 34), .inl (cy 0, 100, .inl M_caseCell)), (h0, .inr (11, oX11 rM (upd sM 2 (0 : Int32)))), ((rM 3), .inl (cy 0, 14, .inl M_told))] := hD
    refine lv_if_ne (tgt := 24) hx hb dX11_cases_15 (by decide) (fun c15 => ?_) (fun c15 => ?_)
    · have h := h.1 c15
      exact J24 (upd sM 2 (0 : Int32)) x1 _ _ _ h (hP.sub [1, 2, 0] rfl) (hD.sub [1, 2, 0] (by decide) rfl) hS hl
    · have h := h.2 c15
      refine lv_aload_n hx hb dX11_cases_18 rfl (lv_at hl 0 rfl) ?_
      refine lv_iconst (v := (1 : Int32)) hx hb dX11_cases_19 (by decide) ?_
      refine clVi (As := [.int (1 : Int32)]) (rest := []) (Wr := [((rM 34), .inl (cy 0, 100, .inl M_caseCell)), ((rM 3), .inl (cy 0, 14, .inl M_told))]) (cq := (RX11, TX11, 56)) ⟨hx, hb, hml, hown, hts⟩ ⟨callB_of 1 hts (goodC mw1373) rfl rfl rfl (hts _ (tb mw15)) (hts _ (tb mw1370)) kdX11_fail ⟨Nat.le_trans (by decide) hRf, Nat.le_trans (by decide) hRl⟩, hts _ (tb mw1372), hts _ (tb ms41)⟩ (ctX11_fail l D cy ev h0 rM (upd sM 2 (0 : Int32)) (1 : Int32) _ _ h) hE hK hP hD hS hA [1] [0, 2] rfl rfl (by decide) (by decide) (by decide) 0 rfl rfl rfl hl.1 rfl (Nat.le_of_ble_eq_true rfl) ⟨Nat.zero_le _, Nat.zero_le _⟩ dX11_cases_20 (fun r20 sM_20 H locs h hP hD hS => ?_)
      have hP : va_P D clsX [((rM 34), .inl (cy 0, 100, .inl M_caseCell)), ((rM 3), .inl (cy 0, 14, .inl M_told)), (h0, .inr (11, oX11 rM sM_20))] H := hP
      have hD : va_D A [((rM 34), .inl (cy 0, 100, .inl M_caseCell)), ((rM 3), .inl (cy 0, 14, .inl M_told)), (h0, .inr (11, oX11 rM sM_20))] := hD
      exact hret r20 (sM_20) _ _ _ _ rfl dX11_cases_23 h (hP.sub [2, 1, 0] rfl) (hD.sub [2, 1, 0] (by decide) rfl) hS
def wpX11_common_L4 (kx21 : Int32 → Int32 → Prop) (post : Int32 → Prop) : Nat → Int32 → Int32 → Prop
  | 0, _, _ => False
  | nf4 + 1, l2, l3 => ((l3 = 0 → kx21 l2 l3) ∧ (¬ l3 = 0 → ¬ l3 = 0 ∧ ∀ l4_11 : Int32, l4_11 = (jrem l2 l3) → wpX11_common_L4 kx21 post nf4 l3 l4_11))
def wpX11_common (x0 : Int32) (x1 : Int32) (post : Int32 → Prop) : Prop := ∃ nf4 : Nat, wpX11_common_L4 (fun l2_21 l3_21 => post l2_21) post nf4 x0 x1
set_option maxHeartbeats 4000000 in
set_option maxRecDepth 100000 in
theorem ctX11_common (l : Launch) (D : va_G) (cy : Nat → ClassId) (ev : Nat → Nat) (x0 : Int32) (x1 : Int32) (sz : Nat) (post : Int32 → Prop) (h : wpX11_common x0 x1 post) : Met l yX11_common (Cond.code yX11_common cX11_common 5 (some .int) :: TB) ({ frames := 0, cells := 0, slots := 0, locals := 0 }) (va_Pc [.int x0, .int x1] (PreX D cy ev [] sz)) (va_Qi (fun (r : Int32) (u : Unit) => post r) (fun u => BkX D cy [] sz []) (va_A [] sz)) 0 0 (va_A [] sz) := by
  refine ofWi (by decide) (Nat.le_of_ble_eq_true rfl) ?_
  intro p e s m args below meth c ls A R QQ hx hb hml hown hts hR hlk hE hK hP hD hS hA hl hret
  have hown : s.vm.findClass RX11 = some m.cls := hown
  have hRf : 0 ≤ R.frames := by rw [hR]; exact Nat.le_refl _
  have hRl : 0 ≤ R.locals := by rw [hR]; exact Nat.le_refl _
  clear hR
  have hl : lv_has ls 5 [(0, .int x0), (1, .int x1)] := hl
  have L4 : ∀ (kx21 : Int32 → Int32 → Prop), (∀ (l2 : Int32) (l3 : Int32) (H : Heap) (locs : List Loc) (ls : Array Slot), kx21 l2 l3 → va_P D clsX [] H → va_D A [] → va_S A s.heap H locs → lv_has ls 5 [(2, .int l2)] → W p l e R s m args below meth c H locs 0 0 QQ (F0 m 21 ls [])) → ∀ (nf4 : Nat) (l2 : Int32) (l3 : Int32) (H : Heap) (locs : List Loc) (ls : Array Slot), wpX11_common_L4 kx21 post nf4 l2 l3 → va_P D clsX [] H → va_D A [] → va_S A s.heap H locs → lv_has ls 5 [(2, .int l2), (3, .int l3)] → W p l e R s m args below meth c H locs 0 0 QQ (F0 m 4 ls []) := by
    intro kx21 hk4_21 nf4
    induction nf4 with
    | zero =>
      intro l2 l3 H locs ls h
      exact (show False from h).elim
    | succ nf4 ih4 =>
      intro l2 l3 H locs ls h hP hD hS hl
      refine lv_iload_n hx hb dX11_common_4 rfl (lv_at hl 1 rfl) ?_
      refine lv_if_eq (tgt := 21) hx hb dX11_common_5 (by decide) (fun c5 => ?_) (fun c5 => ?_)
      · have h := h.1 c5
        exact hk4_21 l2 l3 _ _ _ h hP hD hS (lv_sub hl [0] rfl)
      · have h := h.2 c5
        refine lv_iload_n hx hb dX11_common_8 rfl (lv_at hl 0 rfl) ?_
        refine lv_iload_n hx hb dX11_common_9 rfl (lv_at hl 1 rfl) ?_
        obtain ⟨hne, h⟩ := h
        refine lv_irem hx hb dX11_common_10 hne ?_
        refine lv_topi (fun l4_11 el4_11 => ?_)
        have h := h l4_11 el4_11
        refine lv_istore (lv' := [(4, .int l4_11), (2, .int l2), (3, .int l3)]) hx hb dX11_common_11 hl (by decide) rfl (fun ls hl => ?_)
        refine lv_iload_n hx hb dX11_common_13 rfl (lv_at hl 2 rfl) ?_
        refine lv_istore_n (lv' := [(2, .int l3), (4, .int l4_11), (3, .int l3)]) hx hb dX11_common_14 rfl hl (by decide) rfl (fun ls hl => ?_)
        refine lv_iload hx hb dX11_common_15 (lv_at hl 1 rfl) ?_
        refine lv_istore_n (lv' := [(3, .int l4_11), (2, .int l3), (4, .int l4_11)]) hx hb dX11_common_17 rfl hl (by decide) rfl (fun ls hl => ?_)
        refine lv_goto (tgt := 4) hx hb dX11_common_18 (by decide) ?_
        exact ih4 l3 l4_11 _ _ _ h hP hD hS (lv_sub hl [1, 0] rfl)
  refine lv_iload_n hx hb dX11_common_0 rfl (lv_at hl 0 rfl) ?_
  refine lv_istore_n (lv' := [(2, .int x0), (0, .int x0), (1, .int x1)]) hx hb dX11_common_1 rfl hl (by decide) rfl (fun ls hl => ?_)
  refine lv_iload_n hx hb dX11_common_2 rfl (lv_at hl 2 rfl) ?_
  refine lv_istore_n (lv' := [(3, .int x1), (2, .int x0), (0, .int x0), (1, .int x1)]) hx hb dX11_common_3 rfl hl (by decide) rfl (fun ls hl => ?_)
  obtain ⟨nf4, h⟩ := h
  refine L4  _ (fun l2_21 l3_21 H locs ls h hP hD hS hl => ?_) nf4 x0 x1 _ _ _ h hP hD hS (lv_sub hl [1, 0] rfl)
  refine lv_iload_n hx hb dX11_common_21 rfl (lv_at hl 0 rfl) ?_
  exact hret l2_21 () _ _ _ _ rfl dX11_common_22 h hP hD hS
def wpX11_odds_J22 (sM : AR) (M_told : AR) (M_caseCell : AR) (post : Int32 → AR → Prop) : Prop := wpX11_fail sM (1 : Int32) (fun r24 sM_24 => post r24 sM_24)
def wpX11_odds_J65 (sM : AR) (M_told : AR) (M_caseCell : AR) (l2 : Int32) (l3 : Int32) (l4 : Int32) (t0 : Int32) (post : Int32 → AR → Prop) : Prop := ((¬ l2 = 0 → ((¬ l3 = 0 → ¬ t0 = 0 ∧ post (l3 / t0) sM) ∧ (l3 = 0 → post (1 : Int32) sM))) ∧ (l2 = 0 → ¬ t0 = 0 ∧ post (l4 / t0) sM))
def wpX11_odds (sM : AR) (M_told : AR) (M_caseCell : AR) (x1 : Int32) (x2 : Int32) (post : Int32 → AR → Prop) : Prop := wpX11_isCell M_told x1 (fun r7 => ((r7 = 0 → wpX11_odds_J22 (upd sM 2 (0 : Int32)) M_told M_caseCell post) ∧ (¬ r7 = 0 → ((x2 < 0 → wpX11_odds_J22 (upd sM 2 (0 : Int32)) M_told M_caseCell post) ∧ (¬ x2 < 0 → ((x2 ≤ (1 : Int32) → ((¬ (sM 36) = (-1 : Int32) → wpX11_casesOf (upd sM 2 (0 : Int32)) M_caseCell (-1 : Int32) (fun r40 => wpX11_casesOf (upd sM 2 (0 : Int32)) M_caseCell x1 (fun r46 => ((¬ r40 = 0 → wpX11_common r40 r46 (fun r62 => wpX11_odds_J65 (upd sM 2 (0 : Int32)) M_told M_caseCell x2 r40 r46 r62 post)) ∧ (r40 = 0 → wpX11_odds_J65 (upd sM 2 (0 : Int32)) M_told M_caseCell x2 r40 r46 (1 : Int32) post))))) ∧ ((sM 36) = (-1 : Int32) → post (-1 : Int32) (upd sM 2 (0 : Int32))))) ∧ (¬ x2 ≤ (1 : Int32) → wpX11_odds_J22 (upd sM 2 (0 : Int32)) M_told M_caseCell post)))))))
set_option maxHeartbeats 4000000 in
set_option maxRecDepth 100000 in
theorem ctX11_odds (l : Launch) (D : va_G) (cy : Nat → ClassId) (ev : Nat → Nat) (h0 : Nat) (rM : Nat → Nat) (sM : AR) (M_told : AR) (M_caseCell : AR) (x1 : Int32) (x2 : Int32) (sz : Nat) (post : Int32 → AR → Prop) (h : wpX11_odds sM M_told M_caseCell x1 x2 post) : Met l yX11_odds (Cond.code yX11_odds cX11_odds 6 (some .int) :: TB) ({ frames := 2, cells := 0, slots := 0, locals := 43 }) (va_Pc [.ref h0, .int x1, .int x2] (PreX D cy ev [(h0, .inr (11, oX11 rM sM)), ((rM 3), .inl (cy 0, 14, .inl M_told)), ((rM 34), .inl (cy 0, 100, .inl M_caseCell))] sz)) (va_Qi (fun (r : Int32) (u : AR) => post r u) (fun u => BkX D cy [(h0, .inr (11, oX11 rM sM)), ((rM 3), .inl (cy 0, 14, .inl M_told)), ((rM 34), .inl (cy 0, 100, .inl M_caseCell))] sz [(h0, .inr (11, oX11 rM u)), ((rM 3), .inl (cy 0, 14, .inl M_told)), ((rM 34), .inl (cy 0, 100, .inl M_caseCell))]) (va_A [(h0, .inr (11, oX11 rM sM)), ((rM 3), .inl (cy 0, 14, .inl M_told)), ((rM 34), .inl (cy 0, 100, .inl M_caseCell))] sz)) 0 0 (va_A [(h0, .inr (11, oX11 rM sM)), ((rM 3), .inl (cy 0, 14, .inl M_told)), ((rM 34), .inl (cy 0, 100, .inl M_caseCell))] sz) := by
  refine ofWi (by decide) (Nat.le_of_ble_eq_true rfl) ?_
  intro p e s m args below meth c ls A R QQ hx hb hml hown hts hR hlk hE hK hP hD hS hA hl hret
  have hown : s.vm.findClass RX11 = some m.cls := hown
  have hRf : 2 ≤ R.frames := by rw [hR]; exact Nat.le_refl _
  have hRl : 43 ≤ R.locals := by rw [hR]; exact Nat.le_refl _
  clear hR
  have hl : lv_has ls 6 [(0, .ref h0), (1, .int x1), (2, .int x2)] := hl
  have J22 : ∀ (sM : AR) (H : Heap) (locs : List Loc) (ls : Array Slot), wpX11_odds_J22 sM M_told M_caseCell post → va_P D clsX [(h0, .inr (11, oX11 rM sM)), ((rM 3), .inl (cy 0, 14, .inl M_told)), ((rM 34), .inl (cy 0, 100, .inl M_caseCell))] H → va_D A [(h0, .inr (11, oX11 rM sM)), ((rM 3), .inl (cy 0, 14, .inl M_told)), ((rM 34), .inl (cy 0, 100, .inl M_caseCell))] → va_S A s.heap H locs → lv_has ls 6 [(0, .ref h0)] → W p l e R s m args below meth c H locs 0 0 QQ (F0 m 22 ls []) := by
    intro sM H locs ls h hP hD hS hl
    refine lv_aload_n hx hb dX11_odds_22 rfl (lv_at hl 0 rfl) ?_
    refine lv_iconst (v := (1 : Int32)) hx hb dX11_odds_23 (by decide) ?_
    refine clVi (As := [.int (1 : Int32)]) (rest := []) (Wr := [((rM 3), .inl (cy 0, 14, .inl M_told)), ((rM 34), .inl (cy 0, 100, .inl M_caseCell))]) (cq := (RX11, TX11, 56)) ⟨hx, hb, hml, hown, hts⟩ ⟨callB_of 1 hts (goodC mw1373) rfl rfl rfl (hts _ (tb mw15)) (hts _ (tb mw1370)) kdX11_fail ⟨Nat.le_trans (by decide) hRf, Nat.le_trans (by decide) hRl⟩, hts _ (tb mw1372), hts _ (tb ms41)⟩ (ctX11_fail l D cy ev h0 rM sM (1 : Int32) _ _ h) hE hK hP hD hS hA [0] [1, 2] rfl rfl (by decide) (by decide) (by decide) 0 rfl rfl rfl hl.1 rfl (Nat.le_of_ble_eq_true rfl) ⟨Nat.zero_le _, Nat.zero_le _⟩ dX11_odds_24 (fun r24 sM_24 H locs h hP hD hS => ?_)
    have hP : va_P D clsX [((rM 3), .inl (cy 0, 14, .inl M_told)), ((rM 34), .inl (cy 0, 100, .inl M_caseCell)), (h0, .inr (11, oX11 rM sM_24))] H := hP
    have hD : va_D A [((rM 3), .inl (cy 0, 14, .inl M_told)), ((rM 34), .inl (cy 0, 100, .inl M_caseCell)), (h0, .inr (11, oX11 rM sM_24))] := hD
    exact hret r24 (sM_24) _ _ _ _ rfl dX11_odds_27 h (hP.sub [2, 0, 1] rfl) (hD.sub [2, 0, 1] (by decide) rfl) hS
  have J65 : ∀ (sM : AR) (l2 : Int32) (l3 : Int32) (l4 : Int32) (t0 : Int32) (H : Heap) (locs : List Loc) (ls : Array Slot), wpX11_odds_J65 sM M_told M_caseCell l2 l3 l4 t0 post → va_P D clsX [(h0, .inr (11, oX11 rM sM)), ((rM 3), .inl (cy 0, 14, .inl M_told)), ((rM 34), .inl (cy 0, 100, .inl M_caseCell))] H → va_D A [(h0, .inr (11, oX11 rM sM)), ((rM 3), .inl (cy 0, 14, .inl M_told)), ((rM 34), .inl (cy 0, 100, .inl M_caseCell))] → va_S A s.heap H locs → lv_has ls 6 [(0, .ref h0), (2, .int l2), (3, .int l3), (4, .int l4)] → W p l e R s m args below meth c H locs 0 0 QQ (F0 m 65 ls [.int t0]) := by
    intro sM l2 l3 l4 t0 H locs ls h hP hD hS hl
    refine lv_istore (lv' := [(5, .int t0), (0, .ref h0), (2, .int l2), (3, .int l3), (4, .int l4)]) hx hb dX11_odds_65 hl (by decide) rfl (fun ls hl => ?_)
    refine lv_iload_n hx hb dX11_odds_67 rfl (lv_at hl 2 rfl) ?_
    refine lv_if_ne (tgt := 79) hx hb dX11_odds_68 (by decide) (fun c68 => ?_) (fun c68 => ?_)
    · have h := h.1 c68
      refine lv_iload_n hx hb dX11_odds_79 rfl (lv_at hl 3 rfl) ?_
      refine lv_if_ne (tgt := 87) hx hb dX11_odds_80 (by decide) (fun c80 => ?_) (fun c80 => ?_)
      · have h := h.1 c80
        refine lv_iload_n hx hb dX11_odds_87 rfl (lv_at hl 3 rfl) ?_
        refine lv_iload hx hb dX11_odds_88 (lv_at hl 0 rfl) ?_
        obtain ⟨hne, h⟩ := h
        refine lv_idiv hx hb dX11_odds_90 hne ?_
        exact hret (l3 / t0) (sM) _ _ _ _ rfl dX11_odds_91 h hP hD hS
      · have h := h.2 c80
        refine lv_iconst (v := (1 : Int32)) hx hb dX11_odds_83 (by decide) ?_
        refine lv_goto (tgt := 91) hx hb dX11_odds_84 (by decide) ?_
        exact hret (1 : Int32) (sM) _ _ _ _ rfl dX11_odds_91 h hP hD hS
    · have h := h.2 c68
      refine lv_iload hx hb dX11_odds_71 (lv_at hl 4 rfl) ?_
      refine lv_iload hx hb dX11_odds_73 (lv_at hl 0 rfl) ?_
      obtain ⟨hne, h⟩ := h
      refine lv_idiv hx hb dX11_odds_75 hne ?_
      refine lv_goto (tgt := 91) hx hb dX11_odds_76 (by decide) ?_
      exact hret (l4 / t0) (sM) _ _ _ _ rfl dX11_odds_91 h hP hD hS
  refine lv_aload_n hx hb dX11_odds_0 rfl (lv_at hl 0 rfl) ?_
  refine lv_iconst (v := (0 : Int32)) hx hb dX11_odds_1 (by decide) ?_
  refine pfX11_132 hx hb hts hown hK hP hD hS 0 rfl dX11_odds_2 (fun H locs hP hD hS => ?_)
  have hP : va_P D clsX [(h0, .inr (11, oX11 rM (upd sM 2 (0 : Int32)))), ((rM 3), .inl (cy 0, 14, .inl M_told)), ((rM 34), .inl (cy 0, 100, .inl M_caseCell))] H := hP
  have hD : va_D A [(h0, .inr (11, oX11 rM (upd sM 2 (0 : Int32)))), ((rM 3), .inl (cy 0, 14, .inl M_told)), ((rM 34), .inl (cy 0, 100, .inl M_caseCell))] := hD
  refine lv_aload_n hx hb dX11_odds_5 rfl (lv_at hl 0 rfl) ?_
  refine lv_iload_n hx hb dX11_odds_6 rfl (lv_at hl 1 rfl) ?_
  refine clVi (As := [.int x1]) (rest := []) (Wr := [((rM 34), .inl (cy 0, 100, .inl M_caseCell))]) (cq := (RX11, TX11, 56)) ⟨hx, hb, hml, hown, hts⟩ ⟨callB_of 1 hts (goodC mw1484) rfl rfl rfl (hts _ (tb mw15)) (hts _ (tb mw1481)) kdX11_isCell ⟨Nat.le_trans (by decide) hRf, Nat.le_trans (by decide) hRl⟩, hts _ (tb mw1483), hts _ (tb ms60)⟩ (ctX11_isCell l D cy ev h0 rM (upd sM 2 (0 : Int32)) M_told x1 _ _ h) hE hK hP hD hS hA [0, 1] [2] rfl rfl (by decide) (by decide) (by decide) 0 rfl rfl rfl hl.1 rfl (Nat.le_of_ble_eq_true rfl) ⟨Nat.zero_le _, Nat.zero_le _⟩ dX11_odds_7 (fun r7 u H locs h hP hD hS => ?_)
  have hP : va_P D clsX [((rM 34), .inl (cy 0, 100, .inl M_caseCell)), (h0, .inr (11, oX11 rM (upd sM 2 (0 : Int32)))), ((rM 3), .inl (cy 0, 14, .inl M_told))] H := hP
  have hD : va_D A [((rM 34), .inl (cy 0, 100, .inl M_caseCell)), (h0, .inr (11, oX11 rM (upd sM 2 (0 : Int32)))), ((rM 3), .inl (cy 0, 14, .inl M_told))] := hD
  refine lv_if_eq (tgt := 22) hx hb dX11_odds_10 (by decide) (fun c10 => ?_) (fun c10 => ?_)
  · have h := h.1 c10
    exact J22 (upd sM 2 (0 : Int32)) _ _ _ h (hP.sub [1, 2, 0] rfl) (hD.sub [1, 2, 0] (by decide) rfl) hS (lv_sub hl [0] rfl)
  · have h := h.2 c10
    refine lv_iload_n hx hb dX11_odds_13 rfl (lv_at hl 2 rfl) ?_
    refine lv_if_lt (tgt := 22) hx hb dX11_odds_14 (by decide) (fun c14 => ?_) (fun c14 => ?_)
    · have h := h.1 c14
      exact J22 (upd sM 2 (0 : Int32)) _ _ _ h (hP.sub [1, 2, 0] rfl) (hD.sub [1, 2, 0] (by decide) rfl) hS (lv_sub hl [0] rfl)
    · have h := h.2 c14
      refine lv_iload_n hx hb dX11_odds_17 rfl (lv_at hl 2 rfl) ?_
      refine lv_iconst (v := (1 : Int32)) hx hb dX11_odds_18 (by decide) ?_
      refine lv_icmp_le (tgt := 28) hx hb dX11_odds_19 (by decide) (fun c19 => ?_) (fun c19 => ?_)
      · have h := h.1 c19
        refine lv_aload_n hx hb dX11_odds_28 rfl (lv_at hl 0 rfl) ?_
        refine gfX11_93 (v := (sM 36)) hx hb hts hown hK hP 1 rfl rfl dX11_odds_29 ?_
        refine lv_iconst (v := (-1 : Int32)) hx hb dX11_odds_32 (by decide) ?_
        refine lv_icmp_ne (tgt := 38) hx hb dX11_odds_33 (by decide) (fun c33 => ?_) (fun c33 => ?_)
        · have h := h.1 c33
          refine lv_aload_n hx hb dX11_odds_38 rfl (lv_at hl 0 rfl) ?_
          refine lv_iconst (v := (-1 : Int32)) hx hb dX11_odds_39 (by decide) ?_
          refine clVi (As := [.int (-1 : Int32)]) (rest := []) (Wr := [((rM 3), .inl (cy 0, 14, .inl M_told))]) (cq := (RX11, TX11, 56)) ⟨hx, hb, hml, hown, hts⟩ ⟨callB_of 1 hts (goodC mw1600) rfl rfl rfl (hts _ (tb mw15)) (hts _ (tb mw1597)) kdX11_casesOf ⟨Nat.le_trans (by decide) hRf, Nat.le_trans (by decide) hRl⟩, hts _ (tb mw1599), hts _ (tb ms79)⟩ (ctX11_casesOf l D cy ev h0 rM (upd sM 2 (0 : Int32)) M_caseCell (-1 : Int32) _ _ h) hE hK hP hD hS hA [1, 0] [2] rfl rfl (by decide) (by decide) (by decide) 0 rfl rfl rfl hl.1 rfl (Nat.le_of_ble_eq_true rfl) ⟨Nat.zero_le _, Nat.zero_le _⟩ dX11_odds_40 (fun r40 u H locs h hP hD hS => ?_)
          have hP : va_P D clsX [((rM 3), .inl (cy 0, 14, .inl M_told)), (h0, .inr (11, oX11 rM (upd sM 2 (0 : Int32)))), ((rM 34), .inl (cy 0, 100, .inl M_caseCell))] H := hP
          have hD : va_D A [((rM 3), .inl (cy 0, 14, .inl M_told)), (h0, .inr (11, oX11 rM (upd sM 2 (0 : Int32)))), ((rM 34), .inl (cy 0, 100, .inl M_caseCell))] := hD
          refine lv_istore_n (lv' := [(3, .int r40), (0, .ref h0), (1, .int x1), (2, .int x2)]) hx hb dX11_odds_43 rfl hl (by decide) rfl (fun ls hl => ?_)
          refine lv_aload_n hx hb dX11_odds_44 rfl (lv_at hl 1 rfl) ?_
          refine lv_iload_n hx hb dX11_odds_45 rfl (lv_at hl 2 rfl) ?_
          refine clVi (As := [.int x1]) (rest := []) (Wr := [((rM 3), .inl (cy 0, 14, .inl M_told))]) (cq := (RX11, TX11, 56)) ⟨hx, hb, hml, hown, hts⟩ ⟨callB_of 1 hts (goodC mw1600) rfl rfl rfl (hts _ (tb mw15)) (hts _ (tb mw1597)) kdX11_casesOf ⟨Nat.le_trans (by decide) hRf, Nat.le_trans (by decide) hRl⟩, hts _ (tb mw1599), hts _ (tb ms79)⟩ (ctX11_casesOf l D cy ev h0 rM (upd sM 2 (0 : Int32)) M_caseCell x1 _ _ h) hE hK hP hD hS hA [1, 2] [0] rfl rfl (by decide) (by decide) (by decide) 0 rfl rfl rfl hl.1 rfl (Nat.le_of_ble_eq_true rfl) ⟨Nat.zero_le _, Nat.zero_le _⟩ dX11_odds_46 (fun r46 u H locs h hP hD hS => ?_)
          have hP : va_P D clsX [((rM 3), .inl (cy 0, 14, .inl M_told)), (h0, .inr (11, oX11 rM (upd sM 2 (0 : Int32)))), ((rM 34), .inl (cy 0, 100, .inl M_caseCell))] H := hP
          have hD : va_D A [((rM 3), .inl (cy 0, 14, .inl M_told)), (h0, .inr (11, oX11 rM (upd sM 2 (0 : Int32)))), ((rM 34), .inl (cy 0, 100, .inl M_caseCell))] := hD
          refine lv_istore (lv' := [(4, .int r46), (3, .int r40), (0, .ref h0), (1, .int x1), (2, .int x2)]) hx hb dX11_odds_49 hl (by decide) rfl (fun ls hl => ?_)
          refine lv_iload_n hx hb dX11_odds_51 rfl (lv_at hl 1 rfl) ?_
          refine lv_if_ne (tgt := 59) hx hb dX11_odds_52 (by decide) (fun c52 => ?_) (fun c52 => ?_)
          · have h := h.1 c52
            refine lv_iload_n hx hb dX11_odds_59 rfl (lv_at hl 1 rfl) ?_
            refine lv_iload hx hb dX11_odds_60 (lv_at hl 0 rfl) ?_
            refine clSi (As := [.int r40, .int r46]) (rest := []) (Wr := [((rM 3), .inl (cy 0, 14, .inl M_told)), (h0, .inr (11, oX11 rM (upd sM 2 (0 : Int32)))), ((rM 34), .inl (cy 0, 100, .inl M_caseCell))]) ⟨hx, hb, hml, hown, hts⟩ ⟨callB_of 2 hts (goodC mw1611) rfl rfl rfl (hts _ (tb mw15)) (hts _ (tb mw1609)) kdX11_common ⟨Nat.le_trans (by decide) hRf, Nat.le_trans (by decide) hRl⟩, hts _ (tb mw1610)⟩ (ctX11_common l D cy ev  r40 r46 _ _ h) hE hK hP hD hS hA [] [0, 1, 2] rfl rfl (by decide) (by decide) (by decide) rfl hl.1 rfl (Nat.le_of_ble_eq_true rfl) ⟨Nat.zero_le _, Nat.zero_le _⟩ dX11_odds_62 (fun r62 u H locs h hP hD hS => ?_)
            have hP : va_P D clsX [((rM 3), .inl (cy 0, 14, .inl M_told)), (h0, .inr (11, oX11 rM (upd sM 2 (0 : Int32)))), ((rM 34), .inl (cy 0, 100, .inl M_caseCell))] H := hP
            have hD : va_D A [((rM 3), .inl (cy 0, 14, .inl M_told)), (h0, .inr (11, oX11 rM (upd sM 2 (0 : Int32)))), ((rM 34), .inl (cy 0, 100, .inl M_caseCell))] := hD
            exact J65 (upd sM 2 (0 : Int32)) x2 r40 r46 r62 _ _ _ h (hP.sub [1, 0, 2] rfl) (hD.sub [1, 0, 2] (by decide) rfl) hS (lv_sub hl [2, 4, 1, 0] rfl)
          · have h := h.2 c52
            refine lv_iconst (v := (1 : Int32)) hx hb dX11_odds_55 (by decide) ?_
            refine lv_goto (tgt := 65) hx hb dX11_odds_56 (by decide) ?_
            exact J65 (upd sM 2 (0 : Int32)) x2 r40 r46 (1 : Int32) _ _ _ h (hP.sub [1, 0, 2] rfl) (hD.sub [1, 0, 2] (by decide) rfl) hS (lv_sub hl [2, 4, 1, 0] rfl)
        · have h := h.2 c33
          refine lv_iconst (v := (-1 : Int32)) hx hb dX11_odds_36 (by decide) ?_
          exact hret (-1 : Int32) ((upd sM 2 (0 : Int32))) _ _ _ _ rfl dX11_odds_37 h (hP.sub [1, 2, 0] rfl) (hD.sub [1, 2, 0] (by decide) rfl) hS
      · have h := h.2 c19
        exact J22 (upd sM 2 (0 : Int32)) _ _ _ h (hP.sub [1, 2, 0] rfl) (hD.sub [1, 2, 0] (by decide) rfl) hS (lv_sub hl [0] rfl)
def wpX11_plan (sM : AR) (M_plan : AR) (x1 : Int32) (post : Int32 → AR → Prop) : Prop := wpX11_isIn x1 (0 : Int32) ((sM 45) - (1 : Int32)) (fun r13 => ((r13 = 0 → wpX11_fail (upd sM 2 (0 : Int32)) (1 : Int32) (fun r30 sM_30 => post r30 sM_30)) ∧ (¬ r13 = 0 → vp_in x1 4 ∧ post (M_plan x1.toNatClampNeg) (upd sM 2 (0 : Int32)))))
set_option maxHeartbeats 4000000 in
set_option maxRecDepth 100000 in
theorem ctX11_plan (l : Launch) (D : va_G) (cy : Nat → ClassId) (ev : Nat → Nat) (h0 : Nat) (rM : Nat → Nat) (sM : AR) (M_plan : AR) (x1 : Int32) (sz : Nat) (post : Int32 → AR → Prop) (h : wpX11_plan sM M_plan x1 post) : Met l yX11_plan (Cond.code yX11_plan cX11_plan 2 (some .int) :: TB) ({ frames := 1, cells := 0, slots := 0, locals := 22 }) (va_Pc [.ref h0, .int x1] (PreX D cy ev [(h0, .inr (11, oX11 rM sM)), ((rM 41), .inl (cy 0, 4, .inl M_plan))] sz)) (va_Qi (fun (r : Int32) (u : AR) => post r u) (fun u => BkX D cy [(h0, .inr (11, oX11 rM sM)), ((rM 41), .inl (cy 0, 4, .inl M_plan))] sz [(h0, .inr (11, oX11 rM u)), ((rM 41), .inl (cy 0, 4, .inl M_plan))]) (va_A [(h0, .inr (11, oX11 rM sM)), ((rM 41), .inl (cy 0, 4, .inl M_plan))] sz)) 0 0 (va_A [(h0, .inr (11, oX11 rM sM)), ((rM 41), .inl (cy 0, 4, .inl M_plan))] sz) := by
  refine ofWi (by decide) (Nat.le_of_ble_eq_true rfl) ?_
  intro p e s m args below meth c ls A R QQ hx hb hml hown hts hR hlk hE hK hP hD hS hA hl hret
  have hown : s.vm.findClass RX11 = some m.cls := hown
  have hRf : 1 ≤ R.frames := by rw [hR]; exact Nat.le_refl _
  have hRl : 22 ≤ R.locals := by rw [hR]; exact Nat.le_refl _
  clear hR
  have hl : lv_has ls 2 [(0, .ref h0), (1, .int x1)] := hl
  refine lv_aload_n hx hb dX11_plan_0 rfl (lv_at hl 0 rfl) ?_
  refine lv_iconst (v := (0 : Int32)) hx hb dX11_plan_1 (by decide) ?_
  refine pfX11_132 hx hb hts hown hK hP hD hS 0 rfl dX11_plan_2 (fun H locs hP hD hS => ?_)
  have hP : va_P D clsX [(h0, .inr (11, oX11 rM (upd sM 2 (0 : Int32)))), ((rM 41), .inl (cy 0, 4, .inl M_plan))] H := hP
  have hD : va_D A [(h0, .inr (11, oX11 rM (upd sM 2 (0 : Int32)))), ((rM 41), .inl (cy 0, 4, .inl M_plan))] := hD
  refine lv_iload_n hx hb dX11_plan_5 rfl (lv_at hl 1 rfl) ?_
  refine lv_iconst (v := (0 : Int32)) hx hb dX11_plan_6 (by decide) ?_
  refine lv_aload_n hx hb dX11_plan_7 rfl (lv_at hl 0 rfl) ?_
  refine gfX11_111 (v := (sM 45)) hx hb hts hown hK hP 0 rfl rfl dX11_plan_8 ?_
  refine lv_iconst (v := (1 : Int32)) hx hb dX11_plan_11 (by decide) ?_
  refine lv_isub hx hb dX11_plan_12 ?_
  refine clSi (As := [.int x1, .int (0 : Int32), .int ((sM 45) - (1 : Int32))]) (rest := []) (Wr := [(h0, .inr (11, oX11 rM (upd sM 2 (0 : Int32)))), ((rM 41), .inl (cy 0, 4, .inl M_plan))]) ⟨hx, hb, hml, hown, hts⟩ ⟨callB_of 3 hts (goodC mw1456) rfl rfl rfl (hts _ (tb mw15)) (hts _ (tb mw1454)) kdX11_isIn ⟨Nat.le_trans (by decide) hRf, Nat.le_trans (by decide) hRl⟩, hts _ (tb mw1455)⟩ (ctX11_isIn l D cy ev  x1 (0 : Int32) ((sM 45) - (1 : Int32)) _ _ h) hE hK hP hD hS hA [] [0, 1] rfl rfl (by decide) (by decide) (by decide) rfl hl.1 rfl (Nat.le_of_ble_eq_true rfl) ⟨Nat.zero_le _, Nat.zero_le _⟩ dX11_plan_13 (fun r13 u H locs h hP hD hS => ?_)
  have hP : va_P D clsX [(h0, .inr (11, oX11 rM (upd sM 2 (0 : Int32)))), ((rM 41), .inl (cy 0, 4, .inl M_plan))] H := hP
  have hD : va_D A [(h0, .inr (11, oX11 rM (upd sM 2 (0 : Int32)))), ((rM 41), .inl (cy 0, 4, .inl M_plan))] := hD
  refine lv_if_eq (tgt := 28) hx hb dX11_plan_16 (by decide) (fun c16 => ?_) (fun c16 => ?_)
  · have h := h.1 c16
    refine lv_aload_n hx hb dX11_plan_28 rfl (lv_at hl 0 rfl) ?_
    refine lv_iconst (v := (1 : Int32)) hx hb dX11_plan_29 (by decide) ?_
    refine clVi (As := [.int (1 : Int32)]) (rest := []) (Wr := [((rM 41), .inl (cy 0, 4, .inl M_plan))]) (cq := (RX11, TX11, 56)) ⟨hx, hb, hml, hown, hts⟩ ⟨callB_of 1 hts (goodC mw1373) rfl rfl rfl (hts _ (tb mw15)) (hts _ (tb mw1370)) kdX11_fail ⟨Nat.le_trans (by decide) hRf, Nat.le_trans (by decide) hRl⟩, hts _ (tb mw1372), hts _ (tb ms41)⟩ (ctX11_fail l D cy ev h0 rM (upd sM 2 (0 : Int32)) (1 : Int32) _ _ h) hE hK hP hD hS hA [0] [1] rfl rfl (by decide) (by decide) (by decide) 0 rfl rfl rfl hl.1 rfl (Nat.le_of_ble_eq_true rfl) ⟨Nat.zero_le _, Nat.zero_le _⟩ dX11_plan_30 (fun r30 sM_30 H locs h hP hD hS => ?_)
    have hP : va_P D clsX [((rM 41), .inl (cy 0, 4, .inl M_plan)), (h0, .inr (11, oX11 rM sM_30))] H := hP
    have hD : va_D A [((rM 41), .inl (cy 0, 4, .inl M_plan)), (h0, .inr (11, oX11 rM sM_30))] := hD
    exact hret r30 (sM_30) _ _ _ _ rfl dX11_plan_33 h (hP.sub [1, 0] rfl) (hD.sub [1, 0] (by decide) rfl) hS
  · have h := h.2 c16
    refine lv_aload_n hx hb dX11_plan_19 rfl (lv_at hl 0 rfl) ?_
    refine gfX11_108 hx hb hts hown hK hP 0 rfl dX11_plan_20 ?_
    refine lv_iload_n hx hb dX11_plan_23 rfl (lv_at hl 1 rfl) ?_
    obtain ⟨hin, h⟩ := h
    refine ldi (k := x1.toNatClampNeg) hx hb hK hP 1 rfl hin rfl dX11_plan_24 ?_
    refine lv_goto (tgt := 33) hx hb dX11_plan_25 (by decide) ?_
    exact hret (M_plan x1.toNatClampNeg) ((upd sM 2 (0 : Int32))) _ _ _ _ rfl dX11_plan_33 h hP hD hS
def wpX11_stateOf_J26 (M_kind : AR) (row : AR) (l3 : Int32) (t0 : Int32) (post : Int32 → Prop) : Prop := vp_in (l3 + (0 : Int32)) 29 ∧ vp_in (l3 + (2 : Int32)) 29 ∧ vp_in (l3 + (4 : Int32)) 29 ∧ post ((((((((row (l3 + (0 : Int32)).toNatClampNeg) * (4 : Int32)) + (row (l3 + (2 : Int32)).toNatClampNeg)) * (6 : Int32)) + (row (l3 + (4 : Int32)).toNatClampNeg)) + (1 : Int32)) * (2 : Int32)) + t0)
def wpX11_stateOf (M_kind : AR) (row : AR) (x2 : Int32) (post : Int32 → Prop) : Prop := ∀ l3_4 : Int32, l3_4 = ((6 : Int32) * x2) → vp_in x2 8 ∧ ((¬ (M_kind x2.toNatClampNeg) = (3 : Int32) → wpX11_stateOf_J26 M_kind row l3_4 (0 : Int32) post) ∧ ((M_kind x2.toNatClampNeg) = (3 : Int32) → vp_in (l3_4 + (5 : Int32)) 29 ∧ wpX11_stateOf_J26 M_kind row l3_4 (jrem (row (l3_4 + (5 : Int32)).toNatClampNeg) (2 : Int32)) post))
set_option maxHeartbeats 4000000 in
set_option maxRecDepth 100000 in
theorem ctX11_stateOf (l : Launch) (D : va_G) (cy : Nat → ClassId) (ev : Nat → Nat) (h0 : Nat) (a1 : Nat) (rM : Nat → Nat) (sM : AR) (M_kind : AR) (row : AR) (x2 : Int32) (sz : Nat) (post : Int32 → Prop) (h : wpX11_stateOf M_kind row x2 post) : Met l yX11_stateOf (Cond.code yX11_stateOf cX11_stateOf 5 (some .int) :: TB) ({ frames := 0, cells := 0, slots := 0, locals := 0 }) (va_Pc [.ref h0, .ref a1, .int x2] (PreX D cy ev [(h0, .inr (11, oX11 rM sM)), ((rM 7), .inl (cy 0, 8, .inl M_kind)), (a1, .inl (cy 0, 29, .inl row))] sz)) (va_Qi (fun (r : Int32) (u : Unit) => post r) (fun u => BkX D cy [(h0, .inr (11, oX11 rM sM)), ((rM 7), .inl (cy 0, 8, .inl M_kind)), (a1, .inl (cy 0, 29, .inl row))] sz [(h0, .inr (11, oX11 rM sM)), ((rM 7), .inl (cy 0, 8, .inl M_kind)), (a1, .inl (cy 0, 29, .inl row))]) (va_A [(h0, .inr (11, oX11 rM sM)), ((rM 7), .inl (cy 0, 8, .inl M_kind)), (a1, .inl (cy 0, 29, .inl row))] sz)) 0 0 (va_A [(h0, .inr (11, oX11 rM sM)), ((rM 7), .inl (cy 0, 8, .inl M_kind)), (a1, .inl (cy 0, 29, .inl row))] sz) := by
  refine ofWi (by decide) (Nat.le_of_ble_eq_true rfl) ?_
  intro p e s m args below meth c ls A R QQ hx hb hml hown hts hR hlk hE hK hP hD hS hA hl hret
  have hown : s.vm.findClass RX11 = some m.cls := hown
  have hRf : 0 ≤ R.frames := by rw [hR]; exact Nat.le_refl _
  have hRl : 0 ≤ R.locals := by rw [hR]; exact Nat.le_refl _
  clear hR
  have hl : lv_has ls 5 [(0, .ref h0), (1, .ref a1), (2, .int x2)] := hl
  have J26 : ∀ (l3 : Int32) (t0 : Int32) (H : Heap) (locs : List Loc) (ls : Array Slot), wpX11_stateOf_J26 M_kind row l3 t0 post → va_P D clsX [(h0, .inr (11, oX11 rM sM)), ((rM 7), .inl (cy 0, 8, .inl M_kind)), (a1, .inl (cy 0, 29, .inl row))] H → va_D A [(h0, .inr (11, oX11 rM sM)), ((rM 7), .inl (cy 0, 8, .inl M_kind)), (a1, .inl (cy 0, 29, .inl row))] → va_S A s.heap H locs → lv_has ls 5 [(0, .ref h0), (1, .ref a1), (3, .int l3)] → W p l e R s m args below meth c H locs 0 0 QQ (F0 m 26 ls [.int t0]) := by
    intro l3 t0 H locs ls h hP hD hS hl
    refine lv_istore (lv' := [(4, .int t0), (0, .ref h0), (1, .ref a1), (3, .int l3)]) hx hb dX11_stateOf_26 hl (by decide) rfl (fun ls hl => ?_)
    refine lv_aload_n hx hb dX11_stateOf_28 rfl (lv_at hl 2 rfl) ?_
    refine lv_iload_n hx hb dX11_stateOf_29 rfl (lv_at hl 3 rfl) ?_
    refine lv_iconst (v := (0 : Int32)) hx hb dX11_stateOf_30 (by decide) ?_
    refine lv_iadd hx hb dX11_stateOf_31 ?_
    obtain ⟨hin, h⟩ := h
    refine ldi (k := (l3 + (0 : Int32)).toNatClampNeg) hx hb hK hP 2 rfl hin rfl dX11_stateOf_32 ?_
    refine lv_iconst (v := (4 : Int32)) hx hb dX11_stateOf_33 (by decide) ?_
    refine lv_imul hx hb dX11_stateOf_34 ?_
    refine lv_aload_n hx hb dX11_stateOf_35 rfl (lv_at hl 2 rfl) ?_
    refine lv_iload_n hx hb dX11_stateOf_36 rfl (lv_at hl 3 rfl) ?_
    refine lv_iconst (v := (2 : Int32)) hx hb dX11_stateOf_37 (by decide) ?_
    refine lv_iadd hx hb dX11_stateOf_38 ?_
    obtain ⟨hin, h⟩ := h
    refine ldi (k := (l3 + (2 : Int32)).toNatClampNeg) hx hb hK hP 2 rfl hin rfl dX11_stateOf_39 ?_
    refine lv_iadd hx hb dX11_stateOf_40 ?_
    refine lv_bipush (v := (6 : Int32)) hx hb dX11_stateOf_41 (by decide) ?_
    refine lv_imul hx hb dX11_stateOf_43 ?_
    refine lv_aload_n hx hb dX11_stateOf_44 rfl (lv_at hl 2 rfl) ?_
    refine lv_iload_n hx hb dX11_stateOf_45 rfl (lv_at hl 3 rfl) ?_
    refine lv_iconst (v := (4 : Int32)) hx hb dX11_stateOf_46 (by decide) ?_
    refine lv_iadd hx hb dX11_stateOf_47 ?_
    obtain ⟨hin, h⟩ := h
    refine ldi (k := (l3 + (4 : Int32)).toNatClampNeg) hx hb hK hP 2 rfl hin rfl dX11_stateOf_48 ?_
    refine lv_iadd hx hb dX11_stateOf_49 ?_
    refine lv_iconst (v := (1 : Int32)) hx hb dX11_stateOf_50 (by decide) ?_
    refine lv_iadd hx hb dX11_stateOf_51 ?_
    refine lv_iconst (v := (2 : Int32)) hx hb dX11_stateOf_52 (by decide) ?_
    refine lv_imul hx hb dX11_stateOf_53 ?_
    refine lv_iload hx hb dX11_stateOf_54 (lv_at hl 0 rfl) ?_
    refine lv_iadd hx hb dX11_stateOf_56 ?_
    exact hret ((((((((row (l3 + (0 : Int32)).toNatClampNeg) * (4 : Int32)) + (row (l3 + (2 : Int32)).toNatClampNeg)) * (6 : Int32)) + (row (l3 + (4 : Int32)).toNatClampNeg)) + (1 : Int32)) * (2 : Int32)) + t0) () _ _ _ _ rfl dX11_stateOf_57 h hP hD hS
  refine lv_bipush (v := (6 : Int32)) hx hb dX11_stateOf_0 (by decide) ?_
  refine lv_iload_n hx hb dX11_stateOf_2 rfl (lv_at hl 2 rfl) ?_
  refine lv_imul hx hb dX11_stateOf_3 ?_
  refine lv_topi (fun l3_4 el3_4 => ?_)
  have h := h l3_4 el3_4
  refine lv_istore_n (lv' := [(3, .int l3_4), (0, .ref h0), (1, .ref a1), (2, .int x2)]) hx hb dX11_stateOf_4 rfl hl (by decide) rfl (fun ls hl => ?_)
  refine lv_aload_n hx hb dX11_stateOf_5 rfl (lv_at hl 1 rfl) ?_
  refine gfX11_49 hx hb hts hown hK hP 0 rfl dX11_stateOf_6 ?_
  refine lv_iload_n hx hb dX11_stateOf_9 rfl (lv_at hl 3 rfl) ?_
  obtain ⟨hin, h⟩ := h
  refine ldi (k := x2.toNatClampNeg) hx hb hK hP 1 rfl hin rfl dX11_stateOf_10 ?_
  refine lv_iconst (v := (3 : Int32)) hx hb dX11_stateOf_11 (by decide) ?_
  refine lv_icmp_ne (tgt := 25) hx hb dX11_stateOf_12 (by decide) (fun c12 => ?_) (fun c12 => ?_)
  · have h := h.1 c12
    refine lv_iconst (v := (0 : Int32)) hx hb dX11_stateOf_25 (by decide) ?_
    exact J26 l3_4 (0 : Int32) _ _ _ h hP hD hS (lv_sub hl [1, 2, 0] rfl)
  · have h := h.2 c12
    refine lv_aload_n hx hb dX11_stateOf_15 rfl (lv_at hl 2 rfl) ?_
    refine lv_iload_n hx hb dX11_stateOf_16 rfl (lv_at hl 0 rfl) ?_
    refine lv_iconst (v := (5 : Int32)) hx hb dX11_stateOf_17 (by decide) ?_
    refine lv_iadd hx hb dX11_stateOf_18 ?_
    obtain ⟨hin, h⟩ := h
    refine ldi (k := (l3_4 + (5 : Int32)).toNatClampNeg) hx hb hK hP 2 rfl hin rfl dX11_stateOf_19 ?_
    refine lv_iconst (v := (2 : Int32)) hx hb dX11_stateOf_20 (by decide) ?_
    refine lv_irem hx hb dX11_stateOf_21 (by decide) ?_
    refine lv_goto (tgt := 26) hx hb dX11_stateOf_22 (by decide) ?_
    exact J26 l3_4 (jrem (row (l3_4 + (5 : Int32)).toNatClampNeg) (2 : Int32)) _ _ _ h hP hD hS (lv_sub hl [1, 2, 0] rfl)
def wpX11_forever_J22 (sM : AR) (M_told : AR) (M_place : AR) (M_range : AR) (M_voice : AR) (M_kind : AR) (M_now : AR) (M_isFalse : AR) (M_isMirage : AR) (M_work : AR) (M_when : AR) (post : Int32 → AR → AR → AR → Prop) : Prop := wpX11_fail sM (1 : Int32) (fun r24 sM_24 => post r24 sM_24 M_work M_when)
def wpX11_forever_L76 (sM : AR) (M_told : AR) (M_place : AR) (M_range : AR) (M_voice : AR) (M_kind : AR) (M_now : AR) (M_isFalse : AR) (M_isMirage : AR) (M_work : AR) (l1 : Int32) (l2 : Int32) (l3 : Int32) (kx100 : AR → Int32 → Prop) (post : Int32 → AR → AR → AR → Prop) : Nat → AR → Int32 → Prop
  | 0, _, _ => False
  | nf76 + 1, M_when, l4 => (((4800 : Int32) ≤ l4 → kx100 M_when l4) ∧ (¬ (4800 : Int32) ≤ l4 → vp_in l4 4800 ∧ ∀ M_when_93 : AR, M_when_93 = upd M_when l4.toNatClampNeg (-1 : Int32) → ∀ l4_94 : Int32, l4_94 = (l4 + (1 : Int32)) → wpX11_forever_L76 sM M_told M_place M_range M_voice M_kind M_now M_isFalse M_isMirage M_work l1 l2 l3 kx100 post nf76 M_when_93 l4_94))
def wpX11_forever_L103 (M_told : AR) (M_place : AR) (M_range : AR) (M_voice : AR) (M_kind : AR) (M_now : AR) (M_isFalse : AR) (M_isMirage : AR) (l1 : Int32) (l2 : Int32) (l3 : Int32) (kx169 : AR → AR → AR → Int32 → Prop) (post : Int32 → AR → AR → AR → Prop) : Nat → AR → AR → AR → Int32 → Prop
  | 0, _, _, _, _ => False
  | nf103 + 1, sM, M_work, M_when, l4 => vp_in (((6 : Int32) * l1) + (3 : Int32)) 29 ∧ ((¬ (M_work (((6 : Int32) * l1) + (3 : Int32)).toNatClampNeg) = 0 → kx169 sM M_work M_when l4) ∧ ((M_work (((6 : Int32) * l1) + (3 : Int32)).toNatClampNeg) = 0 → wpX11_stateOf M_kind M_work l1 (fun r127 => vp_in r127 4800 ∧ ((¬ (M_when r127.toNatClampNeg) = (-1 : Int32) → kx169 sM M_work M_when l4) ∧ ((M_when r127.toNatClampNeg) = (-1 : Int32) → wpX11_stateOf M_kind M_work l1 (fun r145 => vp_in r145 4800 ∧ ∀ M_when_150 : AR, M_when_150 = upd M_when r145.toNatClampNeg l4 → wpX11_hear sM M_told M_place M_range M_voice M_kind M_isFalse M_isMirage M_work l1 l2 (0 : Int32) (fun r159 sM_159 M_work_159 => ∀ l4_163 : Int32, l4_163 = (l4 + (1 : Int32)) → wpX11_forever_L103 M_told M_place M_range M_voice M_kind M_now M_isFalse M_isMirage l1 l2 l3 kx169 post nf103 sM_159 M_work_159 M_when_150 l4_163)))))))
def wpX11_forever_J169 (sM : AR) (M_told : AR) (M_place : AR) (M_range : AR) (M_voice : AR) (M_kind : AR) (M_now : AR) (M_isFalse : AR) (M_isMirage : AR) (M_work : AR) (M_when : AR) (l1 : Int32) (l3 : Int32) (l4 : Int32) (post : Int32 → AR → AR → AR → Prop) : Prop := vp_in (((6 : Int32) * l1) + (3 : Int32)) 29 ∧ ∀ l5_180 : Int32, l5_180 = (M_work (((6 : Int32) * l1) + (3 : Int32)).toNatClampNeg) → ((¬ l3 = 0 → ((¬ l5_180 = 0 → post l4 sM M_work M_when) ∧ (l5_180 = 0 → wpX11_stateOf M_kind M_work l1 (fun r217 => vp_in r217 4800 ∧ post (l4 - (M_when r217.toNatClampNeg)) sM M_work M_when)))) ∧ (l3 = 0 → ((¬ l5_180 = 0 → post l5_180 sM M_work M_when) ∧ (l5_180 = 0 → post (3 : Int32) sM M_work M_when))))
def wpX11_forever (sM : AR) (M_told : AR) (M_place : AR) (M_range : AR) (M_voice : AR) (M_kind : AR) (M_now : AR) (M_isFalse : AR) (M_isMirage : AR) (M_work : AR) (M_when : AR) (x1 : Int32) (x2 : Int32) (x3 : Int32) (post : Int32 → AR → AR → AR → Prop) : Prop := wpX11_isWalker M_told x1 (fun r7 => ((r7 = 0 → wpX11_forever_J22 (upd sM 2 (0 : Int32)) M_told M_place M_range M_voice M_kind M_now M_isFalse M_isMirage M_work M_when post) ∧ (¬ r7 = 0 → ((x3 < 0 → wpX11_forever_J22 (upd sM 2 (0 : Int32)) M_told M_place M_range M_voice M_kind M_now M_isFalse M_isMirage M_work M_when post) ∧ (¬ x3 < 0 → ((x3 ≤ (1 : Int32) → vp_in (((6 : Int32) * x1) + (3 : Int32)) 29 ∧ ((¬ (M_now (((6 : Int32) * x1) + (3 : Int32)).toNatClampNeg) = 0 → post (-1 : Int32) (upd sM 2 (0 : Int32)) M_work M_when) ∧ ((M_now (((6 : Int32) * x1) + (3 : Int32)).toNatClampNeg) = 0 → wpX11_isIn x2 (0 : Int32) ((jshl (1 : Int32) (M_told 2)) - (1 : Int32)) (fun r54 => ((¬ r54 = 0 → wpX11_be M_work M_now 29 29 (fun M_work_70 => ∃ nf76 : Nat, wpX11_forever_L76 (upd sM 2 (0 : Int32)) M_told M_place M_range M_voice M_kind M_now M_isFalse M_isMirage M_work_70 x1 x2 x3 (fun M_when_100 l4_100 => ∃ nf103 : Nat, wpX11_forever_L103 M_told M_place M_range M_voice M_kind M_now M_isFalse M_isMirage x1 x2 x3 (fun sM_169 M_work_169 M_when_169 l4_169 => wpX11_forever_J169 sM_169 M_told M_place M_range M_voice M_kind M_now M_isFalse M_isMirage M_work_169 M_when_169 x1 x3 l4_169 post) post nf103 (upd sM 2 (0 : Int32)) M_work_70 M_when_100 (0 : Int32)) post nf76 M_when (0 : Int32))) ∧ (r54 = 0 → post (-1 : Int32) (upd sM 2 (0 : Int32)) M_work M_when)))))) ∧ (¬ x3 ≤ (1 : Int32) → wpX11_forever_J22 (upd sM 2 (0 : Int32)) M_told M_place M_range M_voice M_kind M_now M_isFalse M_isMirage M_work M_when post)))))))
set_option maxHeartbeats 4000000 in
set_option maxRecDepth 100000 in
theorem ctX11_forever (l : Launch) (D : va_G) (cy : Nat → ClassId) (ev : Nat → Nat) (h0 : Nat) (rM : Nat → Nat) (sM : AR) (M_told : AR) (M_place : AR) (M_range : AR) (M_voice : AR) (M_kind : AR) (M_now : AR) (M_isFalse : AR) (M_isMirage : AR) (M_work : AR) (M_when : AR) (x1 : Int32) (x2 : Int32) (x3 : Int32) (sz : Nat) (post : Int32 → AR → AR → AR → Prop) (h : wpX11_forever sM M_told M_place M_range M_voice M_kind M_now M_isFalse M_isMirage M_work M_when x1 x2 x3 post) : Met l yX11_forever (Cond.code yX11_forever cX11_forever 6 (some .int) :: TB) ({ frames := 5, cells := 0, slots := 0, locals := 158 }) (va_Pc [.ref h0, .int x1, .int x2, .int x3] (PreX D cy ev [(h0, .inr (11, oX11 rM sM)), ((rM 3), .inl (cy 0, 14, .inl M_told)), ((rM 4), .inl (cy 0, 10, .inl M_place)), ((rM 5), .inl (cy 0, 10, .inl M_range)), ((rM 6), .inl (cy 0, 10, .inl M_voice)), ((rM 7), .inl (cy 0, 8, .inl M_kind)), ((rM 8), .inl (cy 0, 29, .inl M_now)), ((rM 11), .inl (cy 2, 10, .inl M_isFalse)), ((rM 12), .inl (cy 2, 200, .inl M_isMirage)), ((rM 38), .inl (cy 0, 29, .inl M_work)), ((rM 47), .inl (cy 0, 4800, .inl M_when))] sz)) (va_Qi (fun (r : Int32) (u : AR × AR × AR) => post r (u.1) (u.2.1) (u.2.2)) (fun u => BkX D cy [(h0, .inr (11, oX11 rM sM)), ((rM 3), .inl (cy 0, 14, .inl M_told)), ((rM 4), .inl (cy 0, 10, .inl M_place)), ((rM 5), .inl (cy 0, 10, .inl M_range)), ((rM 6), .inl (cy 0, 10, .inl M_voice)), ((rM 7), .inl (cy 0, 8, .inl M_kind)), ((rM 8), .inl (cy 0, 29, .inl M_now)), ((rM 11), .inl (cy 2, 10, .inl M_isFalse)), ((rM 12), .inl (cy 2, 200, .inl M_isMirage)), ((rM 38), .inl (cy 0, 29, .inl M_work)), ((rM 47), .inl (cy 0, 4800, .inl M_when))] sz [(h0, .inr (11, oX11 rM (u.1))), ((rM 3), .inl (cy 0, 14, .inl M_told)), ((rM 4), .inl (cy 0, 10, .inl M_place)), ((rM 5), .inl (cy 0, 10, .inl M_range)), ((rM 6), .inl (cy 0, 10, .inl M_voice)), ((rM 7), .inl (cy 0, 8, .inl M_kind)), ((rM 8), .inl (cy 0, 29, .inl M_now)), ((rM 11), .inl (cy 2, 10, .inl M_isFalse)), ((rM 12), .inl (cy 2, 200, .inl M_isMirage)), ((rM 38), .inl (cy 0, 29, .inl (u.2.1))), ((rM 47), .inl (cy 0, 4800, .inl (u.2.2)))]) (va_A [(h0, .inr (11, oX11 rM sM)), ((rM 3), .inl (cy 0, 14, .inl M_told)), ((rM 4), .inl (cy 0, 10, .inl M_place)), ((rM 5), .inl (cy 0, 10, .inl M_range)), ((rM 6), .inl (cy 0, 10, .inl M_voice)), ((rM 7), .inl (cy 0, 8, .inl M_kind)), ((rM 8), .inl (cy 0, 29, .inl M_now)), ((rM 11), .inl (cy 2, 10, .inl M_isFalse)), ((rM 12), .inl (cy 2, 200, .inl M_isMirage)), ((rM 38), .inl (cy 0, 29, .inl M_work)), ((rM 47), .inl (cy 0, 4800, .inl M_when))] sz)) 0 0 (va_A [(h0, .inr (11, oX11 rM sM)), ((rM 3), .inl (cy 0, 14, .inl M_told)), ((rM 4), .inl (cy 0, 10, .inl M_place)), ((rM 5), .inl (cy 0, 10, .inl M_range)), ((rM 6), .inl (cy 0, 10, .inl M_voice)), ((rM 7), .inl (cy 0, 8, .inl M_kind)), ((rM 8), .inl (cy 0, 29, .inl M_now)), ((rM 11), .inl (cy 2, 10, .inl M_isFalse)), ((rM 12), .inl (cy 2, 200, .inl M_isMirage)), ((rM 38), .inl (cy 0, 29, .inl M_work)), ((rM 47), .inl (cy 0, 4800, .inl M_when))] sz) := by
  refine ofWi (by decide) (Nat.le_of_ble_eq_true rfl) ?_
  intro p e s m args below meth c ls A R QQ hx hb hml hown hts hR hlk hE hK hP hD hS hA hl hret
  have hown : s.vm.findClass RX11 = some m.cls := hown
  have hRf : 5 ≤ R.frames := by rw [hR]; exact Nat.le_refl _
  have hRl : 158 ≤ R.locals := by rw [hR]; exact Nat.le_refl _
  clear hR
  have hl : lv_has ls 6 [(0, .ref h0), (1, .int x1), (2, .int x2), (3, .int x3)] := hl
  have J22 : ∀ (sM : AR) (H : Heap) (locs : List Loc) (ls : Array Slot), wpX11_forever_J22 sM M_told M_place M_range M_voice M_kind M_now M_isFalse M_isMirage M_work M_when post → va_P D clsX [(h0, .inr (11, oX11 rM sM)), ((rM 3), .inl (cy 0, 14, .inl M_told)), ((rM 4), .inl (cy 0, 10, .inl M_place)), ((rM 5), .inl (cy 0, 10, .inl M_range)), ((rM 6), .inl (cy 0, 10, .inl M_voice)), ((rM 7), .inl (cy 0, 8, .inl M_kind)), ((rM 8), .inl (cy 0, 29, .inl M_now)), ((rM 11), .inl (cy 2, 10, .inl M_isFalse)), ((rM 12), .inl (cy 2, 200, .inl M_isMirage)), ((rM 38), .inl (cy 0, 29, .inl M_work)), ((rM 47), .inl (cy 0, 4800, .inl M_when))] H → va_D A [(h0, .inr (11, oX11 rM sM)), ((rM 3), .inl (cy 0, 14, .inl M_told)), ((rM 4), .inl (cy 0, 10, .inl M_place)), ((rM 5), .inl (cy 0, 10, .inl M_range)), ((rM 6), .inl (cy 0, 10, .inl M_voice)), ((rM 7), .inl (cy 0, 8, .inl M_kind)), ((rM 8), .inl (cy 0, 29, .inl M_now)), ((rM 11), .inl (cy 2, 10, .inl M_isFalse)), ((rM 12), .inl (cy 2, 200, .inl M_isMirage)), ((rM 38), .inl (cy 0, 29, .inl M_work)), ((rM 47), .inl (cy 0, 4800, .inl M_when))] → va_S A s.heap H locs → lv_has ls 6 [(0, .ref h0)] → W p l e R s m args below meth c H locs 0 0 QQ (F0 m 22 ls []) := by
    intro sM H locs ls h hP hD hS hl
    refine lv_aload_n hx hb dX11_forever_22 rfl (lv_at hl 0 rfl) ?_
    refine lv_iconst (v := (1 : Int32)) hx hb dX11_forever_23 (by decide) ?_
    refine clVi (As := [.int (1 : Int32)]) (rest := []) (Wr := [((rM 3), .inl (cy 0, 14, .inl M_told)), ((rM 4), .inl (cy 0, 10, .inl M_place)), ((rM 5), .inl (cy 0, 10, .inl M_range)), ((rM 6), .inl (cy 0, 10, .inl M_voice)), ((rM 7), .inl (cy 0, 8, .inl M_kind)), ((rM 8), .inl (cy 0, 29, .inl M_now)), ((rM 11), .inl (cy 2, 10, .inl M_isFalse)), ((rM 12), .inl (cy 2, 200, .inl M_isMirage)), ((rM 38), .inl (cy 0, 29, .inl M_work)), ((rM 47), .inl (cy 0, 4800, .inl M_when))]) (cq := (RX11, TX11, 56)) ⟨hx, hb, hml, hown, hts⟩ ⟨callB_of 1 hts (goodC mw1373) rfl rfl rfl (hts _ (tb mw15)) (hts _ (tb mw1370)) kdX11_fail ⟨Nat.le_trans (by decide) hRf, Nat.le_trans (by decide) hRl⟩, hts _ (tb mw1372), hts _ (tb ms41)⟩ (ctX11_fail l D cy ev h0 rM sM (1 : Int32) _ _ h) hE hK hP hD hS hA [0] [1, 2, 3, 4, 5, 6, 7, 8, 9, 10] rfl rfl (by decide) (by decide) (by decide) 0 rfl rfl rfl hl.1 rfl (Nat.le_of_ble_eq_true rfl) ⟨Nat.zero_le _, Nat.zero_le _⟩ dX11_forever_24 (fun r24 sM_24 H locs h hP hD hS => ?_)
    have hP : va_P D clsX [((rM 3), .inl (cy 0, 14, .inl M_told)), ((rM 4), .inl (cy 0, 10, .inl M_place)), ((rM 5), .inl (cy 0, 10, .inl M_range)), ((rM 6), .inl (cy 0, 10, .inl M_voice)), ((rM 7), .inl (cy 0, 8, .inl M_kind)), ((rM 8), .inl (cy 0, 29, .inl M_now)), ((rM 11), .inl (cy 2, 10, .inl M_isFalse)), ((rM 12), .inl (cy 2, 200, .inl M_isMirage)), ((rM 38), .inl (cy 0, 29, .inl M_work)), ((rM 47), .inl (cy 0, 4800, .inl M_when)), (h0, .inr (11, oX11 rM sM_24))] H := hP
    have hD : va_D A [((rM 3), .inl (cy 0, 14, .inl M_told)), ((rM 4), .inl (cy 0, 10, .inl M_place)), ((rM 5), .inl (cy 0, 10, .inl M_range)), ((rM 6), .inl (cy 0, 10, .inl M_voice)), ((rM 7), .inl (cy 0, 8, .inl M_kind)), ((rM 8), .inl (cy 0, 29, .inl M_now)), ((rM 11), .inl (cy 2, 10, .inl M_isFalse)), ((rM 12), .inl (cy 2, 200, .inl M_isMirage)), ((rM 38), .inl (cy 0, 29, .inl M_work)), ((rM 47), .inl (cy 0, 4800, .inl M_when)), (h0, .inr (11, oX11 rM sM_24))] := hD
    exact hret r24 (sM_24, M_work, M_when) _ _ _ _ rfl dX11_forever_27 h (hP.sub [10, 0, 1, 2, 3, 4, 5, 6, 7, 8, 9] rfl) (hD.sub [10, 0, 1, 2, 3, 4, 5, 6, 7, 8, 9] (by decide) rfl) hS
  have J169 : ∀ (sM : AR) (M_work : AR) (M_when : AR) (l1 : Int32) (l3 : Int32) (l4 : Int32) (H : Heap) (locs : List Loc) (ls : Array Slot), wpX11_forever_J169 sM M_told M_place M_range M_voice M_kind M_now M_isFalse M_isMirage M_work M_when l1 l3 l4 post → va_P D clsX [(h0, .inr (11, oX11 rM sM)), ((rM 3), .inl (cy 0, 14, .inl M_told)), ((rM 4), .inl (cy 0, 10, .inl M_place)), ((rM 5), .inl (cy 0, 10, .inl M_range)), ((rM 6), .inl (cy 0, 10, .inl M_voice)), ((rM 7), .inl (cy 0, 8, .inl M_kind)), ((rM 8), .inl (cy 0, 29, .inl M_now)), ((rM 11), .inl (cy 2, 10, .inl M_isFalse)), ((rM 12), .inl (cy 2, 200, .inl M_isMirage)), ((rM 38), .inl (cy 0, 29, .inl M_work)), ((rM 47), .inl (cy 0, 4800, .inl M_when))] H → va_D A [(h0, .inr (11, oX11 rM sM)), ((rM 3), .inl (cy 0, 14, .inl M_told)), ((rM 4), .inl (cy 0, 10, .inl M_place)), ((rM 5), .inl (cy 0, 10, .inl M_range)), ((rM 6), .inl (cy 0, 10, .inl M_voice)), ((rM 7), .inl (cy 0, 8, .inl M_kind)), ((rM 8), .inl (cy 0, 29, .inl M_now)), ((rM 11), .inl (cy 2, 10, .inl M_isFalse)), ((rM 12), .inl (cy 2, 200, .inl M_isMirage)), ((rM 38), .inl (cy 0, 29, .inl M_work)), ((rM 47), .inl (cy 0, 4800, .inl M_when))] → va_S A s.heap H locs → lv_has ls 6 [(0, .ref h0), (1, .int l1), (3, .int l3), (4, .int l4)] → W p l e R s m args below meth c H locs 0 0 QQ (F0 m 169 ls []) := by
    intro sM M_work M_when l1 l3 l4 H locs ls h hP hD hS hl
    refine lv_aload_n hx hb dX11_forever_169 rfl (lv_at hl 0 rfl) ?_
    refine gfX11_99 hx hb hts hown hK hP 0 rfl dX11_forever_170 ?_
    refine lv_bipush (v := (6 : Int32)) hx hb dX11_forever_173 (by decide) ?_
    refine lv_iload_n hx hb dX11_forever_175 rfl (lv_at hl 1 rfl) ?_
    refine lv_imul hx hb dX11_forever_176 ?_
    refine lv_iconst (v := (3 : Int32)) hx hb dX11_forever_177 (by decide) ?_
    refine lv_iadd hx hb dX11_forever_178 ?_
    obtain ⟨hin, h⟩ := h
    refine ldi (k := (((6 : Int32) * l1) + (3 : Int32)).toNatClampNeg) hx hb hK hP 9 rfl hin rfl dX11_forever_179 ?_
    refine lv_topi (fun l5_180 el5_180 => ?_)
    have h := h l5_180 el5_180
    refine lv_istore (lv' := [(5, .int l5_180), (0, .ref h0), (1, .int l1), (3, .int l3), (4, .int l4)]) hx hb dX11_forever_180 hl (by decide) rfl (fun ls hl => ?_)
    refine lv_iload_n hx hb dX11_forever_182 rfl (lv_at hl 3 rfl) ?_
    refine lv_if_ne (tgt := 200) hx hb dX11_forever_183 (by decide) (fun c183 => ?_) (fun c183 => ?_)
    · have h := h.1 c183
      refine lv_iload hx hb dX11_forever_200 (lv_at hl 0 rfl) ?_
      refine lv_if_ne (tgt := 225) hx hb dX11_forever_202 (by decide) (fun c202 => ?_) (fun c202 => ?_)
      · have h := h.1 c202
        refine lv_iload hx hb dX11_forever_225 (lv_at hl 4 rfl) ?_
        exact hret l4 (sM, M_work, M_when) _ _ _ _ rfl dX11_forever_227 h hP hD hS
      · have h := h.2 c202
        refine lv_iload hx hb dX11_forever_205 (lv_at hl 4 rfl) ?_
        refine lv_aload_n hx hb dX11_forever_207 rfl (lv_at hl 1 rfl) ?_
        refine gfX11_114 hx hb hts hown hK hP 0 rfl dX11_forever_208 ?_
        refine lv_aload_n hx hb dX11_forever_211 rfl (lv_at hl 1 rfl) ?_
        refine lv_aload_n hx hb dX11_forever_212 rfl (lv_at hl 1 rfl) ?_
        refine gfX11_99 hx hb hts hown hK hP 0 rfl dX11_forever_213 ?_
        refine lv_iload_n hx hb dX11_forever_216 rfl (lv_at hl 2 rfl) ?_
        refine clVi (As := [.ref (rM 38), .int l1]) (rest := [.ref (rM 47), .int l4]) (Wr := [((rM 3), .inl (cy 0, 14, .inl M_told)), ((rM 4), .inl (cy 0, 10, .inl M_place)), ((rM 5), .inl (cy 0, 10, .inl M_range)), ((rM 6), .inl (cy 0, 10, .inl M_voice)), ((rM 8), .inl (cy 0, 29, .inl M_now)), ((rM 11), .inl (cy 2, 10, .inl M_isFalse)), ((rM 12), .inl (cy 2, 200, .inl M_isMirage)), ((rM 47), .inl (cy 0, 4800, .inl M_when))]) (cq := (RX11, TX11, 56)) ⟨hx, hb, hml, hown, hts⟩ ⟨callB_of 2 hts (goodC mw1639) rfl rfl rfl (hts _ (tb mw15)) (hts _ (tb mw1636)) kdX11_stateOf ⟨Nat.le_trans (by decide) hRf, Nat.le_trans (by decide) hRl⟩, hts _ (tb mw1638), hts _ (tb ms82)⟩ (ctX11_stateOf l D cy ev h0 (rM 38) rM sM M_kind M_work l1 _ _ h) hE hK hP hD hS hA [0, 5, 9] [1, 2, 3, 4, 6, 7, 8, 10] rfl rfl (by decide) (by decide) (by decide) 0 rfl rfl rfl hl.1 rfl (Nat.le_of_ble_eq_true rfl) ⟨Nat.zero_le _, Nat.zero_le _⟩ dX11_forever_217 (fun r217 u H locs h hP hD hS => ?_)
        have hP : va_P D clsX [((rM 3), .inl (cy 0, 14, .inl M_told)), ((rM 4), .inl (cy 0, 10, .inl M_place)), ((rM 5), .inl (cy 0, 10, .inl M_range)), ((rM 6), .inl (cy 0, 10, .inl M_voice)), ((rM 8), .inl (cy 0, 29, .inl M_now)), ((rM 11), .inl (cy 2, 10, .inl M_isFalse)), ((rM 12), .inl (cy 2, 200, .inl M_isMirage)), ((rM 47), .inl (cy 0, 4800, .inl M_when)), (h0, .inr (11, oX11 rM sM)), ((rM 7), .inl (cy 0, 8, .inl M_kind)), ((rM 38), .inl (cy 0, 29, .inl M_work))] H := hP
        have hD : va_D A [((rM 3), .inl (cy 0, 14, .inl M_told)), ((rM 4), .inl (cy 0, 10, .inl M_place)), ((rM 5), .inl (cy 0, 10, .inl M_range)), ((rM 6), .inl (cy 0, 10, .inl M_voice)), ((rM 8), .inl (cy 0, 29, .inl M_now)), ((rM 11), .inl (cy 2, 10, .inl M_isFalse)), ((rM 12), .inl (cy 2, 200, .inl M_isMirage)), ((rM 47), .inl (cy 0, 4800, .inl M_when)), (h0, .inr (11, oX11 rM sM)), ((rM 7), .inl (cy 0, 8, .inl M_kind)), ((rM 38), .inl (cy 0, 29, .inl M_work))] := hD
        obtain ⟨hin, h⟩ := h
        refine ldi (k := r217.toNatClampNeg) hx hb hK hP 7 rfl hin rfl dX11_forever_220 ?_
        refine lv_isub hx hb dX11_forever_221 ?_
        refine lv_goto (tgt := 227) hx hb dX11_forever_222 (by decide) ?_
        exact hret (l4 - (M_when r217.toNatClampNeg)) (sM, M_work, M_when) _ _ _ _ rfl dX11_forever_227 h (hP.sub [8, 0, 1, 2, 3, 9, 4, 5, 6, 10, 7] rfl) (hD.sub [8, 0, 1, 2, 3, 9, 4, 5, 6, 10, 7] (by decide) rfl) hS
    · have h := h.2 c183
      refine lv_iload hx hb dX11_forever_186 (lv_at hl 0 rfl) ?_
      refine lv_if_ne (tgt := 195) hx hb dX11_forever_188 (by decide) (fun c188 => ?_) (fun c188 => ?_)
      · have h := h.1 c188
        refine lv_iload hx hb dX11_forever_195 (lv_at hl 0 rfl) ?_
        refine lv_goto (tgt := 227) hx hb dX11_forever_197 (by decide) ?_
        exact hret l5_180 (sM, M_work, M_when) _ _ _ _ rfl dX11_forever_227 h hP hD hS
      · have h := h.2 c188
        refine lv_iconst (v := (3 : Int32)) hx hb dX11_forever_191 (by decide) ?_
        refine lv_goto (tgt := 227) hx hb dX11_forever_192 (by decide) ?_
        exact hret (3 : Int32) (sM, M_work, M_when) _ _ _ _ rfl dX11_forever_227 h hP hD hS
  have L103 : ∀ (l1 : Int32) (l2 : Int32) (l3 : Int32) (kx169 : AR → AR → AR → Int32 → Prop), (∀ (sM : AR) (M_work : AR) (M_when : AR) (l4 : Int32) (H : Heap) (locs : List Loc) (ls : Array Slot), kx169 sM M_work M_when l4 → va_P D clsX [(h0, .inr (11, oX11 rM sM)), ((rM 3), .inl (cy 0, 14, .inl M_told)), ((rM 4), .inl (cy 0, 10, .inl M_place)), ((rM 5), .inl (cy 0, 10, .inl M_range)), ((rM 6), .inl (cy 0, 10, .inl M_voice)), ((rM 7), .inl (cy 0, 8, .inl M_kind)), ((rM 8), .inl (cy 0, 29, .inl M_now)), ((rM 11), .inl (cy 2, 10, .inl M_isFalse)), ((rM 12), .inl (cy 2, 200, .inl M_isMirage)), ((rM 38), .inl (cy 0, 29, .inl M_work)), ((rM 47), .inl (cy 0, 4800, .inl M_when))] H → va_D A [(h0, .inr (11, oX11 rM sM)), ((rM 3), .inl (cy 0, 14, .inl M_told)), ((rM 4), .inl (cy 0, 10, .inl M_place)), ((rM 5), .inl (cy 0, 10, .inl M_range)), ((rM 6), .inl (cy 0, 10, .inl M_voice)), ((rM 7), .inl (cy 0, 8, .inl M_kind)), ((rM 8), .inl (cy 0, 29, .inl M_now)), ((rM 11), .inl (cy 2, 10, .inl M_isFalse)), ((rM 12), .inl (cy 2, 200, .inl M_isMirage)), ((rM 38), .inl (cy 0, 29, .inl M_work)), ((rM 47), .inl (cy 0, 4800, .inl M_when))] → va_S A s.heap H locs → lv_has ls 6 [(0, .ref h0), (1, .int l1), (3, .int l3), (4, .int l4)] → W p l e R s m args below meth c H locs 0 0 QQ (F0 m 169 ls [])) → ∀ (nf103 : Nat) (sM : AR) (M_work : AR) (M_when : AR) (l4 : Int32) (H : Heap) (locs : List Loc) (ls : Array Slot), wpX11_forever_L103 M_told M_place M_range M_voice M_kind M_now M_isFalse M_isMirage l1 l2 l3 kx169 post nf103 sM M_work M_when l4 → va_P D clsX [(h0, .inr (11, oX11 rM sM)), ((rM 3), .inl (cy 0, 14, .inl M_told)), ((rM 4), .inl (cy 0, 10, .inl M_place)), ((rM 5), .inl (cy 0, 10, .inl M_range)), ((rM 6), .inl (cy 0, 10, .inl M_voice)), ((rM 7), .inl (cy 0, 8, .inl M_kind)), ((rM 8), .inl (cy 0, 29, .inl M_now)), ((rM 11), .inl (cy 2, 10, .inl M_isFalse)), ((rM 12), .inl (cy 2, 200, .inl M_isMirage)), ((rM 38), .inl (cy 0, 29, .inl M_work)), ((rM 47), .inl (cy 0, 4800, .inl M_when))] H → va_D A [(h0, .inr (11, oX11 rM sM)), ((rM 3), .inl (cy 0, 14, .inl M_told)), ((rM 4), .inl (cy 0, 10, .inl M_place)), ((rM 5), .inl (cy 0, 10, .inl M_range)), ((rM 6), .inl (cy 0, 10, .inl M_voice)), ((rM 7), .inl (cy 0, 8, .inl M_kind)), ((rM 8), .inl (cy 0, 29, .inl M_now)), ((rM 11), .inl (cy 2, 10, .inl M_isFalse)), ((rM 12), .inl (cy 2, 200, .inl M_isMirage)), ((rM 38), .inl (cy 0, 29, .inl M_work)), ((rM 47), .inl (cy 0, 4800, .inl M_when))] → va_S A s.heap H locs → lv_has ls 6 [(0, .ref h0), (1, .int l1), (2, .int l2), (3, .int l3), (4, .int l4)] → W p l e R s m args below meth c H locs 0 0 QQ (F0 m 103 ls []) := by
    intro l1 l2 l3 kx169 hk103_169 nf103
    induction nf103 with
    | zero =>
      intro sM M_work M_when l4 H locs ls h
      exact (show False from h).elim
    | succ nf103 ih103 =>
      intro sM M_work M_when l4 H locs ls h hP hD hS hl
      refine lv_aload_n hx hb dX11_forever_103 rfl (lv_at hl 0 rfl) ?_
      refine gfX11_99 hx hb hts hown hK hP 0 rfl dX11_forever_104 ?_
      refine lv_bipush (v := (6 : Int32)) hx hb dX11_forever_107 (by decide) ?_
      refine lv_iload_n hx hb dX11_forever_109 rfl (lv_at hl 1 rfl) ?_
      refine lv_imul hx hb dX11_forever_110 ?_
      refine lv_iconst (v := (3 : Int32)) hx hb dX11_forever_111 (by decide) ?_
      refine lv_iadd hx hb dX11_forever_112 ?_
      obtain ⟨hin, h⟩ := h
      refine ldi (k := (((6 : Int32) * l1) + (3 : Int32)).toNatClampNeg) hx hb hK hP 9 rfl hin rfl dX11_forever_113 ?_
      refine lv_if_ne (tgt := 169) hx hb dX11_forever_114 (by decide) (fun c114 => ?_) (fun c114 => ?_)
      · have h := h.1 c114
        exact hk103_169 sM M_work M_when l4 _ _ _ h hP hD hS (lv_sub hl [0, 1, 3, 4] rfl)
      · have h := h.2 c114
        refine lv_aload_n hx hb dX11_forever_117 rfl (lv_at hl 0 rfl) ?_
        refine gfX11_114 hx hb hts hown hK hP 0 rfl dX11_forever_118 ?_
        refine lv_aload_n hx hb dX11_forever_121 rfl (lv_at hl 0 rfl) ?_
        refine lv_aload_n hx hb dX11_forever_122 rfl (lv_at hl 0 rfl) ?_
        refine gfX11_99 hx hb hts hown hK hP 0 rfl dX11_forever_123 ?_
        refine lv_iload_n hx hb dX11_forever_126 rfl (lv_at hl 1 rfl) ?_
        refine clVi (As := [.ref (rM 38), .int l1]) (rest := [.ref (rM 47)]) (Wr := [((rM 3), .inl (cy 0, 14, .inl M_told)), ((rM 4), .inl (cy 0, 10, .inl M_place)), ((rM 5), .inl (cy 0, 10, .inl M_range)), ((rM 6), .inl (cy 0, 10, .inl M_voice)), ((rM 8), .inl (cy 0, 29, .inl M_now)), ((rM 11), .inl (cy 2, 10, .inl M_isFalse)), ((rM 12), .inl (cy 2, 200, .inl M_isMirage)), ((rM 47), .inl (cy 0, 4800, .inl M_when))]) (cq := (RX11, TX11, 56)) ⟨hx, hb, hml, hown, hts⟩ ⟨callB_of 2 hts (goodC mw1639) rfl rfl rfl (hts _ (tb mw15)) (hts _ (tb mw1636)) kdX11_stateOf ⟨Nat.le_trans (by decide) hRf, Nat.le_trans (by decide) hRl⟩, hts _ (tb mw1638), hts _ (tb ms82)⟩ (ctX11_stateOf l D cy ev h0 (rM 38) rM sM M_kind M_work l1 _ _ h) hE hK hP hD hS hA [0, 5, 9] [1, 2, 3, 4, 6, 7, 8, 10] rfl rfl (by decide) (by decide) (by decide) 0 rfl rfl rfl hl.1 rfl (Nat.le_of_ble_eq_true rfl) ⟨Nat.zero_le _, Nat.zero_le _⟩ dX11_forever_127 (fun r127 u H locs h hP hD hS => ?_)
        have hP : va_P D clsX [((rM 3), .inl (cy 0, 14, .inl M_told)), ((rM 4), .inl (cy 0, 10, .inl M_place)), ((rM 5), .inl (cy 0, 10, .inl M_range)), ((rM 6), .inl (cy 0, 10, .inl M_voice)), ((rM 8), .inl (cy 0, 29, .inl M_now)), ((rM 11), .inl (cy 2, 10, .inl M_isFalse)), ((rM 12), .inl (cy 2, 200, .inl M_isMirage)), ((rM 47), .inl (cy 0, 4800, .inl M_when)), (h0, .inr (11, oX11 rM sM)), ((rM 7), .inl (cy 0, 8, .inl M_kind)), ((rM 38), .inl (cy 0, 29, .inl M_work))] H := hP
        have hD : va_D A [((rM 3), .inl (cy 0, 14, .inl M_told)), ((rM 4), .inl (cy 0, 10, .inl M_place)), ((rM 5), .inl (cy 0, 10, .inl M_range)), ((rM 6), .inl (cy 0, 10, .inl M_voice)), ((rM 8), .inl (cy 0, 29, .inl M_now)), ((rM 11), .inl (cy 2, 10, .inl M_isFalse)), ((rM 12), .inl (cy 2, 200, .inl M_isMirage)), ((rM 47), .inl (cy 0, 4800, .inl M_when)), (h0, .inr (11, oX11 rM sM)), ((rM 7), .inl (cy 0, 8, .inl M_kind)), ((rM 38), .inl (cy 0, 29, .inl M_work))] := hD
        obtain ⟨hin, h⟩ := h
        refine ldi (k := r127.toNatClampNeg) hx hb hK hP 7 rfl hin rfl dX11_forever_130 ?_
        refine lv_iconst (v := (-1 : Int32)) hx hb dX11_forever_131 (by decide) ?_
        refine lv_icmp_ne (tgt := 169) hx hb dX11_forever_132 (by decide) (fun c132 => ?_) (fun c132 => ?_)
        · have h := h.1 c132
          exact hk103_169 sM M_work M_when l4 _ _ _ h (hP.sub [8, 0, 1, 2, 3, 9, 4, 5, 6, 10, 7] rfl) (hD.sub [8, 0, 1, 2, 3, 9, 4, 5, 6, 10, 7] (by decide) rfl) hS (lv_sub hl [0, 1, 3, 4] rfl)
        · have h := h.2 c132
          refine lv_aload_n hx hb dX11_forever_135 rfl (lv_at hl 0 rfl) ?_
          refine gfX11_114 hx hb hts hown hK hP 8 rfl dX11_forever_136 ?_
          refine lv_aload_n hx hb dX11_forever_139 rfl (lv_at hl 0 rfl) ?_
          refine lv_aload_n hx hb dX11_forever_140 rfl (lv_at hl 0 rfl) ?_
          refine gfX11_99 hx hb hts hown hK hP 8 rfl dX11_forever_141 ?_
          refine lv_iload_n hx hb dX11_forever_144 rfl (lv_at hl 1 rfl) ?_
          refine clVi (As := [.ref (rM 38), .int l1]) (rest := [.ref (rM 47)]) (Wr := [((rM 3), .inl (cy 0, 14, .inl M_told)), ((rM 4), .inl (cy 0, 10, .inl M_place)), ((rM 5), .inl (cy 0, 10, .inl M_range)), ((rM 6), .inl (cy 0, 10, .inl M_voice)), ((rM 8), .inl (cy 0, 29, .inl M_now)), ((rM 11), .inl (cy 2, 10, .inl M_isFalse)), ((rM 12), .inl (cy 2, 200, .inl M_isMirage)), ((rM 47), .inl (cy 0, 4800, .inl M_when))]) (cq := (RX11, TX11, 56)) ⟨hx, hb, hml, hown, hts⟩ ⟨callB_of 2 hts (goodC mw1639) rfl rfl rfl (hts _ (tb mw15)) (hts _ (tb mw1636)) kdX11_stateOf ⟨Nat.le_trans (by decide) hRf, Nat.le_trans (by decide) hRl⟩, hts _ (tb mw1638), hts _ (tb ms82)⟩ (ctX11_stateOf l D cy ev h0 (rM 38) rM sM M_kind M_work l1 _ _ h) hE hK hP hD hS hA [8, 9, 10] [0, 1, 2, 3, 4, 5, 6, 7] rfl rfl (by decide) (by decide) (by decide) 0 rfl rfl rfl hl.1 rfl (Nat.le_of_ble_eq_true rfl) ⟨Nat.zero_le _, Nat.zero_le _⟩ dX11_forever_145 (fun r145 u H locs h hP hD hS => ?_)
          have hP : va_P D clsX [((rM 3), .inl (cy 0, 14, .inl M_told)), ((rM 4), .inl (cy 0, 10, .inl M_place)), ((rM 5), .inl (cy 0, 10, .inl M_range)), ((rM 6), .inl (cy 0, 10, .inl M_voice)), ((rM 8), .inl (cy 0, 29, .inl M_now)), ((rM 11), .inl (cy 2, 10, .inl M_isFalse)), ((rM 12), .inl (cy 2, 200, .inl M_isMirage)), ((rM 47), .inl (cy 0, 4800, .inl M_when)), (h0, .inr (11, oX11 rM sM)), ((rM 7), .inl (cy 0, 8, .inl M_kind)), ((rM 38), .inl (cy 0, 29, .inl M_work))] H := hP
          have hD : va_D A [((rM 3), .inl (cy 0, 14, .inl M_told)), ((rM 4), .inl (cy 0, 10, .inl M_place)), ((rM 5), .inl (cy 0, 10, .inl M_range)), ((rM 6), .inl (cy 0, 10, .inl M_voice)), ((rM 8), .inl (cy 0, 29, .inl M_now)), ((rM 11), .inl (cy 2, 10, .inl M_isFalse)), ((rM 12), .inl (cy 2, 200, .inl M_isMirage)), ((rM 47), .inl (cy 0, 4800, .inl M_when)), (h0, .inr (11, oX11 rM sM)), ((rM 7), .inl (cy 0, 8, .inl M_kind)), ((rM 38), .inl (cy 0, 29, .inl M_work))] := hD
          refine lv_iload hx hb dX11_forever_148 (lv_at hl 4 rfl) ?_
          obtain ⟨hin, h⟩ := h
          refine sti (k := r145.toNatClampNeg) (y := l4) hx hb hK hP hD hS 7 rfl hin rfl rfl dX11_forever_150 (fun M_when_150 eM_when_150 H locs hP hD hS => ?_)
          have h := h M_when_150 eM_when_150
          have hP : va_P D clsX [((rM 3), .inl (cy 0, 14, .inl M_told)), ((rM 4), .inl (cy 0, 10, .inl M_place)), ((rM 5), .inl (cy 0, 10, .inl M_range)), ((rM 6), .inl (cy 0, 10, .inl M_voice)), ((rM 8), .inl (cy 0, 29, .inl M_now)), ((rM 11), .inl (cy 2, 10, .inl M_isFalse)), ((rM 12), .inl (cy 2, 200, .inl M_isMirage)), ((rM 47), .inl (cy 0, 4800, .inl M_when_150)), (h0, .inr (11, oX11 rM sM)), ((rM 7), .inl (cy 0, 8, .inl M_kind)), ((rM 38), .inl (cy 0, 29, .inl M_work))] H := hP
          have hD : va_D A [((rM 3), .inl (cy 0, 14, .inl M_told)), ((rM 4), .inl (cy 0, 10, .inl M_place)), ((rM 5), .inl (cy 0, 10, .inl M_range)), ((rM 6), .inl (cy 0, 10, .inl M_voice)), ((rM 8), .inl (cy 0, 29, .inl M_now)), ((rM 11), .inl (cy 2, 10, .inl M_isFalse)), ((rM 12), .inl (cy 2, 200, .inl M_isMirage)), ((rM 47), .inl (cy 0, 4800, .inl M_when_150)), (h0, .inr (11, oX11 rM sM)), ((rM 7), .inl (cy 0, 8, .inl M_kind)), ((rM 38), .inl (cy 0, 29, .inl M_work))] := hD
          refine lv_aload_n hx hb dX11_forever_151 rfl (lv_at hl 0 rfl) ?_
          refine lv_aload_n hx hb dX11_forever_152 rfl (lv_at hl 0 rfl) ?_
          refine gfX11_99 hx hb hts hown hK hP 8 rfl dX11_forever_153 ?_
          refine lv_iload_n hx hb dX11_forever_156 rfl (lv_at hl 1 rfl) ?_
          refine lv_iload_n hx hb dX11_forever_157 rfl (lv_at hl 2 rfl) ?_
          refine lv_iconst (v := (0 : Int32)) hx hb dX11_forever_158 (by decide) ?_
          refine clVi (As := [.ref (rM 38), .int l1, .int l2, .int (0 : Int32)]) (rest := []) (Wr := [((rM 8), .inl (cy 0, 29, .inl M_now)), ((rM 47), .inl (cy 0, 4800, .inl M_when_150))]) (cq := (RX11, TX11, 56)) ⟨hx, hb, hml, hown, hts⟩ ⟨callB_of 4 hts (goodC mw1529) rfl rfl rfl (hts _ (tb mw15)) (hts _ (tb mw1526)) kdX11_hear ⟨Nat.le_trans (by decide) hRf, Nat.le_trans (by decide) hRl⟩, hts _ (tb mw1528), hts _ (tb ms69)⟩ (ctX11_hear l D cy ev h0 (rM 38) rM sM M_told M_place M_range M_voice M_kind M_isFalse M_isMirage M_work l1 l2 (0 : Int32) _ _ h) hE hK hP hD hS hA [8, 0, 1, 2, 3, 9, 5, 6, 10] [4, 7] rfl rfl (by decide) (by decide) (by decide) 0 rfl rfl rfl hl.1 rfl (Nat.le_of_ble_eq_true rfl) ⟨Nat.zero_le _, Nat.zero_le _⟩ dX11_forever_159 (fun r159 u H locs h hP hD hS => ?_)
          obtain ⟨sM_159, M_work_159⟩ := u
          have hP : va_P D clsX [((rM 8), .inl (cy 0, 29, .inl M_now)), ((rM 47), .inl (cy 0, 4800, .inl M_when_150)), (h0, .inr (11, oX11 rM sM_159)), ((rM 3), .inl (cy 0, 14, .inl M_told)), ((rM 4), .inl (cy 0, 10, .inl M_place)), ((rM 5), .inl (cy 0, 10, .inl M_range)), ((rM 6), .inl (cy 0, 10, .inl M_voice)), ((rM 7), .inl (cy 0, 8, .inl M_kind)), ((rM 11), .inl (cy 2, 10, .inl M_isFalse)), ((rM 12), .inl (cy 2, 200, .inl M_isMirage)), ((rM 38), .inl (cy 0, 29, .inl M_work_159))] H := hP
          have hD : va_D A [((rM 8), .inl (cy 0, 29, .inl M_now)), ((rM 47), .inl (cy 0, 4800, .inl M_when_150)), (h0, .inr (11, oX11 rM sM_159)), ((rM 3), .inl (cy 0, 14, .inl M_told)), ((rM 4), .inl (cy 0, 10, .inl M_place)), ((rM 5), .inl (cy 0, 10, .inl M_range)), ((rM 6), .inl (cy 0, 10, .inl M_voice)), ((rM 7), .inl (cy 0, 8, .inl M_kind)), ((rM 11), .inl (cy 2, 10, .inl M_isFalse)), ((rM 12), .inl (cy 2, 200, .inl M_isMirage)), ((rM 38), .inl (cy 0, 29, .inl M_work_159))] := hD
          refine lv_pop hx hb dX11_forever_162 rfl ?_
          obtain ⟨l4_163, el4_163⟩ : ∃ y : Int32, y = l4 + (1 : Int32) := ⟨_, rfl⟩
          have h := h l4_163 el4_163
          refine lv_iinc (v := l4_163) (lv' := [(4, .int l4_163), (0, .ref h0), (1, .int l1), (2, .int l2), (3, .int l3)]) hx hb dX11_forever_163 hl (k := 4) rfl (by rw [el4_163]; rfl) (by decide) rfl (fun ls hl => ?_)
          refine lv_goto (tgt := 103) hx hb dX11_forever_166 (by decide) ?_
          exact ih103 sM_159 M_work_159 M_when_150 l4_163 _ _ _ h (hP.sub [2, 3, 4, 5, 6, 7, 0, 8, 9, 10, 1] rfl) (hD.sub [2, 3, 4, 5, 6, 7, 0, 8, 9, 10, 1] (by decide) rfl) hS (lv_sub hl [1, 2, 3, 4, 0] rfl)
  have L76 : ∀ (sM : AR) (M_work : AR) (l1 : Int32) (l2 : Int32) (l3 : Int32) (kx100 : AR → Int32 → Prop), (∀ (M_when : AR) (l4 : Int32) (H : Heap) (locs : List Loc) (ls : Array Slot), kx100 M_when l4 → va_P D clsX [(h0, .inr (11, oX11 rM sM)), ((rM 3), .inl (cy 0, 14, .inl M_told)), ((rM 4), .inl (cy 0, 10, .inl M_place)), ((rM 5), .inl (cy 0, 10, .inl M_range)), ((rM 6), .inl (cy 0, 10, .inl M_voice)), ((rM 7), .inl (cy 0, 8, .inl M_kind)), ((rM 8), .inl (cy 0, 29, .inl M_now)), ((rM 11), .inl (cy 2, 10, .inl M_isFalse)), ((rM 12), .inl (cy 2, 200, .inl M_isMirage)), ((rM 38), .inl (cy 0, 29, .inl M_work)), ((rM 47), .inl (cy 0, 4800, .inl M_when))] H → va_D A [(h0, .inr (11, oX11 rM sM)), ((rM 3), .inl (cy 0, 14, .inl M_told)), ((rM 4), .inl (cy 0, 10, .inl M_place)), ((rM 5), .inl (cy 0, 10, .inl M_range)), ((rM 6), .inl (cy 0, 10, .inl M_voice)), ((rM 7), .inl (cy 0, 8, .inl M_kind)), ((rM 8), .inl (cy 0, 29, .inl M_now)), ((rM 11), .inl (cy 2, 10, .inl M_isFalse)), ((rM 12), .inl (cy 2, 200, .inl M_isMirage)), ((rM 38), .inl (cy 0, 29, .inl M_work)), ((rM 47), .inl (cy 0, 4800, .inl M_when))] → va_S A s.heap H locs → lv_has ls 6 [(0, .ref h0), (1, .int l1), (2, .int l2), (3, .int l3)] → W p l e R s m args below meth c H locs 0 0 QQ (F0 m 100 ls [])) → ∀ (nf76 : Nat) (M_when : AR) (l4 : Int32) (H : Heap) (locs : List Loc) (ls : Array Slot), wpX11_forever_L76 sM M_told M_place M_range M_voice M_kind M_now M_isFalse M_isMirage M_work l1 l2 l3 kx100 post nf76 M_when l4 → va_P D clsX [(h0, .inr (11, oX11 rM sM)), ((rM 3), .inl (cy 0, 14, .inl M_told)), ((rM 4), .inl (cy 0, 10, .inl M_place)), ((rM 5), .inl (cy 0, 10, .inl M_range)), ((rM 6), .inl (cy 0, 10, .inl M_voice)), ((rM 7), .inl (cy 0, 8, .inl M_kind)), ((rM 8), .inl (cy 0, 29, .inl M_now)), ((rM 11), .inl (cy 2, 10, .inl M_isFalse)), ((rM 12), .inl (cy 2, 200, .inl M_isMirage)), ((rM 38), .inl (cy 0, 29, .inl M_work)), ((rM 47), .inl (cy 0, 4800, .inl M_when))] H → va_D A [(h0, .inr (11, oX11 rM sM)), ((rM 3), .inl (cy 0, 14, .inl M_told)), ((rM 4), .inl (cy 0, 10, .inl M_place)), ((rM 5), .inl (cy 0, 10, .inl M_range)), ((rM 6), .inl (cy 0, 10, .inl M_voice)), ((rM 7), .inl (cy 0, 8, .inl M_kind)), ((rM 8), .inl (cy 0, 29, .inl M_now)), ((rM 11), .inl (cy 2, 10, .inl M_isFalse)), ((rM 12), .inl (cy 2, 200, .inl M_isMirage)), ((rM 38), .inl (cy 0, 29, .inl M_work)), ((rM 47), .inl (cy 0, 4800, .inl M_when))] → va_S A s.heap H locs → lv_has ls 6 [(0, .ref h0), (1, .int l1), (2, .int l2), (3, .int l3), (4, .int l4)] → W p l e R s m args below meth c H locs 0 0 QQ (F0 m 76 ls []) := by
    intro sM M_work l1 l2 l3 kx100 hk76_100 nf76
    induction nf76 with
    | zero =>
      intro M_when l4 H locs ls h
      exact (show False from h).elim
    | succ nf76 ih76 =>
      intro M_when l4 H locs ls h hP hD hS hl
      refine lv_iload hx hb dX11_forever_76 (lv_at hl 4 rfl) ?_
      refine lv_aload_n hx hb dX11_forever_78 rfl (lv_at hl 0 rfl) ?_
      refine gfX11_114 hx hb hts hown hK hP 0 rfl dX11_forever_79 ?_
      refine va_alen hx hb hK hP 10 0 rfl rfl (show Int32.ofNat 4800 = (4800 : Int32) from rfl) dX11_forever_82 ?_
      refine lv_icmp_ge (tgt := 100) hx hb dX11_forever_83 (by decide) (fun c83 => ?_) (fun c83 => ?_)
      · have h := h.1 c83
        exact hk76_100 M_when l4 _ _ _ h hP hD hS (lv_sub hl [0, 1, 2, 3] rfl)
      · have h := h.2 c83
        refine lv_aload_n hx hb dX11_forever_86 rfl (lv_at hl 0 rfl) ?_
        refine gfX11_114 hx hb hts hown hK hP 0 rfl dX11_forever_87 ?_
        refine lv_iload hx hb dX11_forever_90 (lv_at hl 4 rfl) ?_
        refine lv_iconst (v := (-1 : Int32)) hx hb dX11_forever_92 (by decide) ?_
        obtain ⟨hin, h⟩ := h
        refine sti (k := l4.toNatClampNeg) (y := (-1 : Int32)) hx hb hK hP hD hS 10 rfl hin rfl rfl dX11_forever_93 (fun M_when_93 eM_when_93 H locs hP hD hS => ?_)
        have h := h M_when_93 eM_when_93
        have hP : va_P D clsX [(h0, .inr (11, oX11 rM sM)), ((rM 3), .inl (cy 0, 14, .inl M_told)), ((rM 4), .inl (cy 0, 10, .inl M_place)), ((rM 5), .inl (cy 0, 10, .inl M_range)), ((rM 6), .inl (cy 0, 10, .inl M_voice)), ((rM 7), .inl (cy 0, 8, .inl M_kind)), ((rM 8), .inl (cy 0, 29, .inl M_now)), ((rM 11), .inl (cy 2, 10, .inl M_isFalse)), ((rM 12), .inl (cy 2, 200, .inl M_isMirage)), ((rM 38), .inl (cy 0, 29, .inl M_work)), ((rM 47), .inl (cy 0, 4800, .inl M_when_93))] H := hP
        have hD : va_D A [(h0, .inr (11, oX11 rM sM)), ((rM 3), .inl (cy 0, 14, .inl M_told)), ((rM 4), .inl (cy 0, 10, .inl M_place)), ((rM 5), .inl (cy 0, 10, .inl M_range)), ((rM 6), .inl (cy 0, 10, .inl M_voice)), ((rM 7), .inl (cy 0, 8, .inl M_kind)), ((rM 8), .inl (cy 0, 29, .inl M_now)), ((rM 11), .inl (cy 2, 10, .inl M_isFalse)), ((rM 12), .inl (cy 2, 200, .inl M_isMirage)), ((rM 38), .inl (cy 0, 29, .inl M_work)), ((rM 47), .inl (cy 0, 4800, .inl M_when_93))] := hD
        obtain ⟨l4_94, el4_94⟩ : ∃ y : Int32, y = l4 + (1 : Int32) := ⟨_, rfl⟩
        have h := h l4_94 el4_94
        refine lv_iinc (v := l4_94) (lv' := [(4, .int l4_94), (0, .ref h0), (1, .int l1), (2, .int l2), (3, .int l3)]) hx hb dX11_forever_94 hl (k := 4) rfl (by rw [el4_94]; rfl) (by decide) rfl (fun ls hl => ?_)
        refine lv_goto (tgt := 76) hx hb dX11_forever_97 (by decide) ?_
        exact ih76 M_when_93 l4_94 _ _ _ h hP hD hS (lv_sub hl [1, 2, 3, 4, 0] rfl)
  refine lv_aload_n hx hb dX11_forever_0 rfl (lv_at hl 0 rfl) ?_
  refine lv_iconst (v := (0 : Int32)) hx hb dX11_forever_1 (by decide) ?_
  refine pfX11_132 hx hb hts hown hK hP hD hS 0 rfl dX11_forever_2 (fun H locs hP hD hS => ?_)
  have hP : va_P D clsX [(h0, .inr (11, oX11 rM (upd sM 2 (0 : Int32)))), ((rM 3), .inl (cy 0, 14, .inl M_told)), ((rM 4), .inl (cy 0, 10, .inl M_place)), ((rM 5), .inl (cy 0, 10, .inl M_range)), ((rM 6), .inl (cy 0, 10, .inl M_voice)), ((rM 7), .inl (cy 0, 8, .inl M_kind)), ((rM 8), .inl (cy 0, 29, .inl M_now)), ((rM 11), .inl (cy 2, 10, .inl M_isFalse)), ((rM 12), .inl (cy 2, 200, .inl M_isMirage)), ((rM 38), .inl (cy 0, 29, .inl M_work)), ((rM 47), .inl (cy 0, 4800, .inl M_when))] H := hP
  have hD : va_D A [(h0, .inr (11, oX11 rM (upd sM 2 (0 : Int32)))), ((rM 3), .inl (cy 0, 14, .inl M_told)), ((rM 4), .inl (cy 0, 10, .inl M_place)), ((rM 5), .inl (cy 0, 10, .inl M_range)), ((rM 6), .inl (cy 0, 10, .inl M_voice)), ((rM 7), .inl (cy 0, 8, .inl M_kind)), ((rM 8), .inl (cy 0, 29, .inl M_now)), ((rM 11), .inl (cy 2, 10, .inl M_isFalse)), ((rM 12), .inl (cy 2, 200, .inl M_isMirage)), ((rM 38), .inl (cy 0, 29, .inl M_work)), ((rM 47), .inl (cy 0, 4800, .inl M_when))] := hD
  refine lv_aload_n hx hb dX11_forever_5 rfl (lv_at hl 0 rfl) ?_
  refine lv_iload_n hx hb dX11_forever_6 rfl (lv_at hl 1 rfl) ?_
  refine clVi (As := [.int x1]) (rest := []) (Wr := [((rM 4), .inl (cy 0, 10, .inl M_place)), ((rM 5), .inl (cy 0, 10, .inl M_range)), ((rM 6), .inl (cy 0, 10, .inl M_voice)), ((rM 7), .inl (cy 0, 8, .inl M_kind)), ((rM 8), .inl (cy 0, 29, .inl M_now)), ((rM 11), .inl (cy 2, 10, .inl M_isFalse)), ((rM 12), .inl (cy 2, 200, .inl M_isMirage)), ((rM 38), .inl (cy 0, 29, .inl M_work)), ((rM 47), .inl (cy 0, 4800, .inl M_when))]) (cq := (RX11, TX11, 56)) ⟨hx, hb, hml, hown, hts⟩ ⟨callB_of 1 hts (goodC mw1476) rfl rfl rfl (hts _ (tb mw15)) (hts _ (tb mw1473)) kdX11_isWalker ⟨Nat.le_trans (by decide) hRf, Nat.le_trans (by decide) hRl⟩, hts _ (tb mw1475), hts _ (tb ms59)⟩ (ctX11_isWalker l D cy ev h0 rM (upd sM 2 (0 : Int32)) M_told x1 _ _ h) hE hK hP hD hS hA [0, 1] [2, 3, 4, 5, 6, 7, 8, 9, 10] rfl rfl (by decide) (by decide) (by decide) 0 rfl rfl rfl hl.1 rfl (Nat.le_of_ble_eq_true rfl) ⟨Nat.zero_le _, Nat.zero_le _⟩ dX11_forever_7 (fun r7 u H locs h hP hD hS => ?_)
  have hP : va_P D clsX [((rM 4), .inl (cy 0, 10, .inl M_place)), ((rM 5), .inl (cy 0, 10, .inl M_range)), ((rM 6), .inl (cy 0, 10, .inl M_voice)), ((rM 7), .inl (cy 0, 8, .inl M_kind)), ((rM 8), .inl (cy 0, 29, .inl M_now)), ((rM 11), .inl (cy 2, 10, .inl M_isFalse)), ((rM 12), .inl (cy 2, 200, .inl M_isMirage)), ((rM 38), .inl (cy 0, 29, .inl M_work)), ((rM 47), .inl (cy 0, 4800, .inl M_when)), (h0, .inr (11, oX11 rM (upd sM 2 (0 : Int32)))), ((rM 3), .inl (cy 0, 14, .inl M_told))] H := hP
  have hD : va_D A [((rM 4), .inl (cy 0, 10, .inl M_place)), ((rM 5), .inl (cy 0, 10, .inl M_range)), ((rM 6), .inl (cy 0, 10, .inl M_voice)), ((rM 7), .inl (cy 0, 8, .inl M_kind)), ((rM 8), .inl (cy 0, 29, .inl M_now)), ((rM 11), .inl (cy 2, 10, .inl M_isFalse)), ((rM 12), .inl (cy 2, 200, .inl M_isMirage)), ((rM 38), .inl (cy 0, 29, .inl M_work)), ((rM 47), .inl (cy 0, 4800, .inl M_when)), (h0, .inr (11, oX11 rM (upd sM 2 (0 : Int32)))), ((rM 3), .inl (cy 0, 14, .inl M_told))] := hD
  refine lv_if_eq (tgt := 22) hx hb dX11_forever_10 (by decide) (fun c10 => ?_) (fun c10 => ?_)
  · have h := h.1 c10
    exact J22 (upd sM 2 (0 : Int32)) _ _ _ h (hP.sub [9, 10, 0, 1, 2, 3, 4, 5, 6, 7, 8] rfl) (hD.sub [9, 10, 0, 1, 2, 3, 4, 5, 6, 7, 8] (by decide) rfl) hS (lv_sub hl [0] rfl)
  · have h := h.2 c10
    refine lv_iload_n hx hb dX11_forever_13 rfl (lv_at hl 3 rfl) ?_
    refine lv_if_lt (tgt := 22) hx hb dX11_forever_14 (by decide) (fun c14 => ?_) (fun c14 => ?_)
    · have h := h.1 c14
      exact J22 (upd sM 2 (0 : Int32)) _ _ _ h (hP.sub [9, 10, 0, 1, 2, 3, 4, 5, 6, 7, 8] rfl) (hD.sub [9, 10, 0, 1, 2, 3, 4, 5, 6, 7, 8] (by decide) rfl) hS (lv_sub hl [0] rfl)
    · have h := h.2 c14
      refine lv_iload_n hx hb dX11_forever_17 rfl (lv_at hl 3 rfl) ?_
      refine lv_iconst (v := (1 : Int32)) hx hb dX11_forever_18 (by decide) ?_
      refine lv_icmp_le (tgt := 28) hx hb dX11_forever_19 (by decide) (fun c19 => ?_) (fun c19 => ?_)
      · have h := h.1 c19
        refine lv_aload_n hx hb dX11_forever_28 rfl (lv_at hl 0 rfl) ?_
        refine gfX11_52 hx hb hts hown hK hP 9 rfl dX11_forever_29 ?_
        refine lv_bipush (v := (6 : Int32)) hx hb dX11_forever_32 (by decide) ?_
        refine lv_iload_n hx hb dX11_forever_34 rfl (lv_at hl 1 rfl) ?_
        refine lv_imul hx hb dX11_forever_35 ?_
        refine lv_iconst (v := (3 : Int32)) hx hb dX11_forever_36 (by decide) ?_
        refine lv_iadd hx hb dX11_forever_37 ?_
        obtain ⟨hin, h⟩ := h
        refine ldi (k := (((6 : Int32) * x1) + (3 : Int32)).toNatClampNeg) hx hb hK hP 4 rfl hin rfl dX11_forever_38 ?_
        refine lv_if_ne (tgt := 60) hx hb dX11_forever_39 (by decide) (fun c39 => ?_) (fun c39 => ?_)
        · have h := h.1 c39
          refine lv_iconst (v := (-1 : Int32)) hx hb dX11_forever_60 (by decide) ?_
          exact hret (-1 : Int32) ((upd sM 2 (0 : Int32)), M_work, M_when) _ _ _ _ rfl dX11_forever_61 h (hP.sub [9, 10, 0, 1, 2, 3, 4, 5, 6, 7, 8] rfl) (hD.sub [9, 10, 0, 1, 2, 3, 4, 5, 6, 7, 8] (by decide) rfl) hS
        · have h := h.2 c39
          refine lv_iload_n hx hb dX11_forever_42 rfl (lv_at hl 2 rfl) ?_
          refine lv_iconst (v := (0 : Int32)) hx hb dX11_forever_43 (by decide) ?_
          refine lv_iconst (v := (1 : Int32)) hx hb dX11_forever_44 (by decide) ?_
          refine lv_aload_n hx hb dX11_forever_45 rfl (lv_at hl 0 rfl) ?_
          refine gfX11_36 hx hb hts hown hK hP 9 rfl dX11_forever_46 ?_
          refine lv_iconst (v := (2 : Int32)) hx hb dX11_forever_49 (by decide) ?_
          refine ldi (k := 2) hx hb hK hP 10 rfl (inL (by decide)) (by decide) dX11_forever_50 ?_
          refine lv_ishl hx hb dX11_forever_51 ?_
          refine lv_iconst (v := (1 : Int32)) hx hb dX11_forever_52 (by decide) ?_
          refine lv_isub hx hb dX11_forever_53 ?_
          refine clSi (As := [.int x2, .int (0 : Int32), .int ((jshl (1 : Int32) (M_told 2)) - (1 : Int32))]) (rest := []) (Wr := [((rM 4), .inl (cy 0, 10, .inl M_place)), ((rM 5), .inl (cy 0, 10, .inl M_range)), ((rM 6), .inl (cy 0, 10, .inl M_voice)), ((rM 7), .inl (cy 0, 8, .inl M_kind)), ((rM 8), .inl (cy 0, 29, .inl M_now)), ((rM 11), .inl (cy 2, 10, .inl M_isFalse)), ((rM 12), .inl (cy 2, 200, .inl M_isMirage)), ((rM 38), .inl (cy 0, 29, .inl M_work)), ((rM 47), .inl (cy 0, 4800, .inl M_when)), (h0, .inr (11, oX11 rM (upd sM 2 (0 : Int32)))), ((rM 3), .inl (cy 0, 14, .inl M_told))]) ⟨hx, hb, hml, hown, hts⟩ ⟨callB_of 3 hts (goodC mw1456) rfl rfl rfl (hts _ (tb mw15)) (hts _ (tb mw1454)) kdX11_isIn ⟨Nat.le_trans (by decide) hRf, Nat.le_trans (by decide) hRl⟩, hts _ (tb mw1455)⟩ (ctX11_isIn l D cy ev  x2 (0 : Int32) ((jshl (1 : Int32) (M_told 2)) - (1 : Int32)) _ _ h) hE hK hP hD hS hA [] [0, 1, 2, 3, 4, 5, 6, 7, 8, 9, 10] rfl rfl (by decide) (by decide) (by decide) rfl hl.1 rfl (Nat.le_of_ble_eq_true rfl) ⟨Nat.zero_le _, Nat.zero_le _⟩ dX11_forever_54 (fun r54 u H locs h hP hD hS => ?_)
          have hP : va_P D clsX [((rM 4), .inl (cy 0, 10, .inl M_place)), ((rM 5), .inl (cy 0, 10, .inl M_range)), ((rM 6), .inl (cy 0, 10, .inl M_voice)), ((rM 7), .inl (cy 0, 8, .inl M_kind)), ((rM 8), .inl (cy 0, 29, .inl M_now)), ((rM 11), .inl (cy 2, 10, .inl M_isFalse)), ((rM 12), .inl (cy 2, 200, .inl M_isMirage)), ((rM 38), .inl (cy 0, 29, .inl M_work)), ((rM 47), .inl (cy 0, 4800, .inl M_when)), (h0, .inr (11, oX11 rM (upd sM 2 (0 : Int32)))), ((rM 3), .inl (cy 0, 14, .inl M_told))] H := hP
          have hD : va_D A [((rM 4), .inl (cy 0, 10, .inl M_place)), ((rM 5), .inl (cy 0, 10, .inl M_range)), ((rM 6), .inl (cy 0, 10, .inl M_voice)), ((rM 7), .inl (cy 0, 8, .inl M_kind)), ((rM 8), .inl (cy 0, 29, .inl M_now)), ((rM 11), .inl (cy 2, 10, .inl M_isFalse)), ((rM 12), .inl (cy 2, 200, .inl M_isMirage)), ((rM 38), .inl (cy 0, 29, .inl M_work)), ((rM 47), .inl (cy 0, 4800, .inl M_when)), (h0, .inr (11, oX11 rM (upd sM 2 (0 : Int32)))), ((rM 3), .inl (cy 0, 14, .inl M_told))] := hD
          refine lv_if_ne (tgt := 62) hx hb dX11_forever_57 (by decide) (fun c57 => ?_) (fun c57 => ?_)
          · have h := h.1 c57
            refine lv_aload_n hx hb dX11_forever_62 rfl (lv_at hl 0 rfl) ?_
            refine gfX11_99 hx hb hts hown hK hP 9 rfl dX11_forever_63 ?_
            refine lv_aload_n hx hb dX11_forever_66 rfl (lv_at hl 0 rfl) ?_
            refine gfX11_52 hx hb hts hown hK hP 9 rfl dX11_forever_67 ?_
            refine clSv (As := [.ref (rM 38), .ref (rM 8)]) (rest := []) (Wr := [((rM 4), .inl (cy 0, 10, .inl M_place)), ((rM 5), .inl (cy 0, 10, .inl M_range)), ((rM 6), .inl (cy 0, 10, .inl M_voice)), ((rM 7), .inl (cy 0, 8, .inl M_kind)), ((rM 11), .inl (cy 2, 10, .inl M_isFalse)), ((rM 12), .inl (cy 2, 200, .inl M_isMirage)), ((rM 47), .inl (cy 0, 4800, .inl M_when)), (h0, .inr (11, oX11 rM (upd sM 2 (0 : Int32)))), ((rM 3), .inl (cy 0, 14, .inl M_told))]) ⟨hx, hb, hml, hown, hts⟩ ⟨callB_of 2 hts (goodC mw1445) rfl rfl rfl (hts _ (tb mw15)) (hts _ (tb mw1443)) kdX11_be ⟨Nat.le_trans (by decide) hRf, Nat.le_trans (by decide) hRl⟩, hts _ (tb mw1444)⟩ (ctX11_be l D cy ev (rM 38) (rM 8) M_work M_now 29 29  _ _ h) hE hK hP hD hS hA [7, 4] [0, 1, 2, 3, 5, 6, 8, 9, 10] rfl rfl (by decide) (by decide) (by decide) rfl hl.1 rfl (Nat.le_of_ble_eq_true rfl) ⟨Nat.zero_le _, Nat.zero_le _⟩ dX11_forever_70 (fun M_work_70 H locs h hP hD hS => ?_)
            have hP : va_P D clsX [((rM 4), .inl (cy 0, 10, .inl M_place)), ((rM 5), .inl (cy 0, 10, .inl M_range)), ((rM 6), .inl (cy 0, 10, .inl M_voice)), ((rM 7), .inl (cy 0, 8, .inl M_kind)), ((rM 11), .inl (cy 2, 10, .inl M_isFalse)), ((rM 12), .inl (cy 2, 200, .inl M_isMirage)), ((rM 47), .inl (cy 0, 4800, .inl M_when)), (h0, .inr (11, oX11 rM (upd sM 2 (0 : Int32)))), ((rM 3), .inl (cy 0, 14, .inl M_told)), ((rM 38), .inl (cy 0, 29, .inl M_work_70)), ((rM 8), .inl (cy 0, 29, .inl M_now))] H := hP
            have hD : va_D A [((rM 4), .inl (cy 0, 10, .inl M_place)), ((rM 5), .inl (cy 0, 10, .inl M_range)), ((rM 6), .inl (cy 0, 10, .inl M_voice)), ((rM 7), .inl (cy 0, 8, .inl M_kind)), ((rM 11), .inl (cy 2, 10, .inl M_isFalse)), ((rM 12), .inl (cy 2, 200, .inl M_isMirage)), ((rM 47), .inl (cy 0, 4800, .inl M_when)), (h0, .inr (11, oX11 rM (upd sM 2 (0 : Int32)))), ((rM 3), .inl (cy 0, 14, .inl M_told)), ((rM 38), .inl (cy 0, 29, .inl M_work_70)), ((rM 8), .inl (cy 0, 29, .inl M_now))] := hD
            refine lv_iconst (v := (0 : Int32)) hx hb dX11_forever_73 (by decide) ?_
            refine lv_istore (lv' := [(4, .int (0 : Int32)), (0, .ref h0), (1, .int x1), (2, .int x2), (3, .int x3)]) hx hb dX11_forever_74 hl (by decide) rfl (fun ls hl => ?_)
            obtain ⟨nf76, h⟩ := h
            refine L76 (upd sM 2 (0 : Int32)) M_work_70 x1 x2 x3 _ (fun M_when_100 l4_100 H locs ls h hP hD hS hl => ?_) nf76 M_when (0 : Int32) _ _ _ h (hP.sub [7, 8, 0, 1, 2, 3, 10, 4, 5, 9, 6] rfl) (hD.sub [7, 8, 0, 1, 2, 3, 10, 4, 5, 9, 6] (by decide) rfl) hS (lv_sub hl [1, 2, 3, 4, 0] rfl)
            refine lv_iconst (v := (0 : Int32)) hx hb dX11_forever_100 (by decide) ?_
            refine lv_istore (lv' := [(4, .int (0 : Int32)), (0, .ref h0), (1, .int x1), (2, .int x2), (3, .int x3)]) hx hb dX11_forever_101 hl (by decide) rfl (fun ls hl => ?_)
            obtain ⟨nf103, h⟩ := h
            refine L103 x1 x2 x3 _ (fun sM_169 M_work_169 M_when_169 l4_169 H locs ls h hP hD hS hl => ?_) nf103 (upd sM 2 (0 : Int32)) M_work_70 M_when_100 (0 : Int32) _ _ _ h hP hD hS (lv_sub hl [1, 2, 3, 4, 0] rfl)
            exact J169 sM_169 M_work_169 M_when_169 x1 x3 l4_169 _ _ _ h hP hD hS hl
          · have h := h.2 c57
            refine lv_iconst (v := (-1 : Int32)) hx hb dX11_forever_60 (by decide) ?_
            exact hret (-1 : Int32) ((upd sM 2 (0 : Int32)), M_work, M_when) _ _ _ _ rfl dX11_forever_61 h (hP.sub [9, 10, 0, 1, 2, 3, 4, 5, 6, 7, 8] rfl) (hD.sub [9, 10, 0, 1, 2, 3, 4, 5, 6, 7, 8] (by decide) rfl) hS
      · have h := h.2 c19
        exact J22 (upd sM 2 (0 : Int32)) _ _ _ h (hP.sub [9, 10, 0, 1, 2, 3, 4, 5, 6, 7, 8] rfl) (hD.sub [9, 10, 0, 1, 2, 3, 4, 5, 6, 7, 8] (by decide) rfl) hS (lv_sub hl [0] rfl)
def wpX11_night_J95 (sM : AR) (M_told : AR) (M_place : AR) (M_range : AR) (M_voice : AR) (M_kind : AR) (M_now : AR) (M_isFalse : AR) (M_isMirage : AR) (M_why : AR) (M_rows : AR) (M_sets : AR) (M_whys : AR) (M_caseCell : AR) (M_caseHeading : AR) (l2 : Int32) (l3 : Int32) (l4 : Int32) (l5 : Int32) (l7 : Int32) (t0 : Int32) (t1 : Int32) (kb : Int32 → Int32 → Int32 → Prop) (kx104 : Int32 → Int32 → Int32 → Prop) (post : Int32 → AR → AR → AR → AR → AR → AR → AR → AR → Prop) : Prop := ∀ l6_96 : Int32, l6_96 = (t0 ||| t1) → ∀ l7_98 : Int32, l7_98 = (l7 + (1 : Int32)) → kb l3 l6_96 l7_98
def wpX11_night_L41 (sM : AR) (M_told : AR) (M_place : AR) (M_range : AR) (M_voice : AR) (M_kind : AR) (M_now : AR) (M_isFalse : AR) (M_isMirage : AR) (M_why : AR) (M_rows : AR) (M_sets : AR) (M_whys : AR) (M_caseCell : AR) (M_caseHeading : AR) (l2 : Int32) (l4 : Int32) (l5 : Int32) (kx104 : Int32 → Int32 → Int32 → Prop) (post : Int32 → AR → AR → AR → AR → AR → AR → AR → AR → Prop) : Nat → Int32 → Int32 → Int32 → Prop
  | 0, _, _, _ => False
  | nf41 + 1, l3, l6, l7 => (((M_told 2) ≤ l7 → kx104 l3 l6 l7) ∧ (¬ (M_told 2) ≤ l7 → ∀ l3_61 : Int32, l3_61 = ((l3 * (1103515245 : Int32)) + (12345 : Int32)) → ((¬ ((jshr l3_61 (16 : Int32)) &&& (1 : Int32)) = (1 : Int32) → wpX11_night_J95 sM M_told M_place M_range M_voice M_kind M_now M_isFalse M_isMirage M_why M_rows M_sets M_whys M_caseCell M_caseHeading l2 l3_61 l4 l5 l7 l6 (0 : Int32) (fun b0 b1 b2 => wpX11_night_L41 sM M_told M_place M_range M_voice M_kind M_now M_isFalse M_isMirage M_why M_rows M_sets M_whys M_caseCell M_caseHeading l2 l4 l5 kx104 post nf41 b0 b1 b2) kx104 post) ∧ (((jshr l3_61 (16 : Int32)) &&& (1 : Int32)) = (1 : Int32) → vp_in ((24 : Int32) + l7) 29 ∧ (((M_now ((24 : Int32) + l7).toNatClampNeg) ≤ 0 → wpX11_night_J95 sM M_told M_place M_range M_voice M_kind M_now M_isFalse M_isMirage M_why M_rows M_sets M_whys M_caseCell M_caseHeading l2 l3_61 l4 l5 l7 l6 (0 : Int32) (fun b0 b1 b2 => wpX11_night_L41 sM M_told M_place M_range M_voice M_kind M_now M_isFalse M_isMirage M_why M_rows M_sets M_whys M_caseCell M_caseHeading l2 l4 l5 kx104 post nf41 b0 b1 b2) kx104 post) ∧ (¬ (M_now ((24 : Int32) + l7).toNatClampNeg) ≤ 0 → wpX11_night_J95 sM M_told M_place M_range M_voice M_kind M_now M_isFalse M_isMirage M_why M_rows M_sets M_whys M_caseCell M_caseHeading l2 l3_61 l4 l5 l7 l6 (jshl (1 : Int32) l7) (fun b0 b1 b2 => wpX11_night_L41 sM M_told M_place M_range M_voice M_kind M_now M_isFalse M_isMirage M_why M_rows M_sets M_whys M_caseCell M_caseHeading l2 l4 l5 kx104 post nf41 b0 b1 b2) kx104 post))))))
def wpX11_night_L29 (M_told : AR) (M_place : AR) (M_range : AR) (M_voice : AR) (M_kind : AR) (M_isFalse : AR) (M_isMirage : AR) (l2 : Int32) (kx126 : AR → AR → AR → AR → AR → AR → AR → AR → Int32 → Int32 → Int32 → Prop) (post : Int32 → AR → AR → AR → AR → AR → AR → AR → AR → Prop) : Nat → AR → AR → AR → AR → AR → AR → AR → AR → Int32 → Int32 → Int32 → Prop
  | 0, _, _, _, _, _, _, _, _, _, _, _ => False
  | nf29 + 1, sM, M_now, M_why, M_rows, M_sets, M_whys, M_caseCell, M_caseHeading, l3, l4, l5 => ((l2 ≤ l5 → kx126 sM M_now M_why M_rows M_sets M_whys M_caseCell M_caseHeading l3 l4 l5) ∧ (¬ l2 ≤ l5 → ∃ nf41 : Nat, wpX11_night_L41 sM M_told M_place M_range M_voice M_kind M_now M_isFalse M_isMirage M_why M_rows M_sets M_whys M_caseCell M_caseHeading l2 l4 l5 (fun l3_104 l6_104 l7_104 => wpX11_doStroke (upd sM 31 (0 : Int32)) M_told M_place M_range M_voice M_kind M_now M_isFalse M_isMirage M_why M_rows M_sets M_whys M_caseCell M_caseHeading l6_104 (fun r114 sM_114 M_now_114 M_why_114 M_rows_114 M_sets_114 M_whys_114 M_caseCell_114 M_caseHeading_114 => ∀ l4_118 : Int32, l4_118 = (l4 + r114) → ∀ l5_120 : Int32, l5_120 = (l5 + (1 : Int32)) → wpX11_night_L29 M_told M_place M_range M_voice M_kind M_isFalse M_isMirage l2 kx126 post nf29 sM_114 M_now_114 M_why_114 M_rows_114 M_sets_114 M_whys_114 M_caseCell_114 M_caseHeading_114 l3_104 l4_118 l5_120)) post nf41 l3 (0 : Int32) (0 : Int32)))
def wpX11_night (sM : AR) (M_told : AR) (M_place : AR) (M_range : AR) (M_voice : AR) (M_kind : AR) (M_now : AR) (M_isFalse : AR) (M_isMirage : AR) (M_why : AR) (M_rows : AR) (M_sets : AR) (M_whys : AR) (M_caseCell : AR) (M_caseHeading : AR) (x1 : Int32) (x2 : Int32) (post : Int32 → AR → AR → AR → AR → AR → AR → AR → AR → Prop) : Prop := wpX11_isIn x2 (0 : Int32) (100 : Int32) (fun r9 => ((¬ r9 = 0 → ∃ nf29 : Nat, wpX11_night_L29 M_told M_place M_range M_voice M_kind M_isFalse M_isMirage x2 (fun sM_126 M_now_126 M_why_126 M_rows_126 M_sets_126 M_whys_126 M_caseCell_126 M_caseHeading_126 l3_126 l4_126 l5_126 => post l4_126 sM_126 M_now_126 M_why_126 M_rows_126 M_sets_126 M_whys_126 M_caseCell_126 M_caseHeading_126) post nf29 (upd sM 2 (0 : Int32)) M_now M_why M_rows M_sets M_whys M_caseCell M_caseHeading x1 (0 : Int32) (0 : Int32)) ∧ (r9 = 0 → wpX11_fail (upd sM 2 (0 : Int32)) (1 : Int32) (fun r17 sM_17 => post r17 sM_17 M_now M_why M_rows M_sets M_whys M_caseCell M_caseHeading))))
set_option maxHeartbeats 4000000 in
set_option maxRecDepth 100000 in
theorem ctX11_night (l : Launch) (D : va_G) (cy : Nat → ClassId) (ev : Nat → Nat) (h0 : Nat) (rM : Nat → Nat) (sM : AR) (M_told : AR) (M_place : AR) (M_range : AR) (M_voice : AR) (M_kind : AR) (M_now : AR) (M_isFalse : AR) (M_isMirage : AR) (M_why : AR) (M_rows : AR) (M_sets : AR) (M_whys : AR) (M_caseCell : AR) (M_caseHeading : AR) (x1 : Int32) (x2 : Int32) (sz : Nat) (post : Int32 → AR → AR → AR → AR → AR → AR → AR → AR → Prop) (h : wpX11_night sM M_told M_place M_range M_voice M_kind M_now M_isFalse M_isMirage M_why M_rows M_sets M_whys M_caseCell M_caseHeading x1 x2 post) : Met l yX11_night (Cond.code yX11_night cX11_night 8 (some .int) :: TB) ({ frames := 7, cells := 0, slots := 0, locals := 205 }) (va_Pc [.ref h0, .int x1, .int x2] (PreX D cy ev [(h0, .inr (11, oX11 rM sM)), ((rM 3), .inl (cy 0, 14, .inl M_told)), ((rM 4), .inl (cy 0, 10, .inl M_place)), ((rM 5), .inl (cy 0, 10, .inl M_range)), ((rM 6), .inl (cy 0, 10, .inl M_voice)), ((rM 7), .inl (cy 0, 8, .inl M_kind)), ((rM 8), .inl (cy 0, 29, .inl M_now)), ((rM 11), .inl (cy 2, 10, .inl M_isFalse)), ((rM 12), .inl (cy 2, 200, .inl M_isMirage)), ((rM 26), .inl (cy 0, 4, .inl M_why)), ((rM 27), .inl (cy 0, 2900, .inl M_rows)), ((rM 28), .inl (cy 0, 100, .inl M_sets)), ((rM 29), .inl (cy 0, 400, .inl M_whys)), ((rM 34), .inl (cy 0, 100, .inl M_caseCell)), ((rM 35), .inl (cy 0, 100, .inl M_caseHeading))] sz)) (va_Qi (fun (r : Int32) (u : AR × AR × AR × AR × AR × AR × AR × AR) => post r (u.1) (u.2.1) (u.2.2.1) (u.2.2.2.1) (u.2.2.2.2.1) (u.2.2.2.2.2.1) (u.2.2.2.2.2.2.1) (u.2.2.2.2.2.2.2)) (fun u => BkX D cy [(h0, .inr (11, oX11 rM sM)), ((rM 3), .inl (cy 0, 14, .inl M_told)), ((rM 4), .inl (cy 0, 10, .inl M_place)), ((rM 5), .inl (cy 0, 10, .inl M_range)), ((rM 6), .inl (cy 0, 10, .inl M_voice)), ((rM 7), .inl (cy 0, 8, .inl M_kind)), ((rM 8), .inl (cy 0, 29, .inl M_now)), ((rM 11), .inl (cy 2, 10, .inl M_isFalse)), ((rM 12), .inl (cy 2, 200, .inl M_isMirage)), ((rM 26), .inl (cy 0, 4, .inl M_why)), ((rM 27), .inl (cy 0, 2900, .inl M_rows)), ((rM 28), .inl (cy 0, 100, .inl M_sets)), ((rM 29), .inl (cy 0, 400, .inl M_whys)), ((rM 34), .inl (cy 0, 100, .inl M_caseCell)), ((rM 35), .inl (cy 0, 100, .inl M_caseHeading))] sz [(h0, .inr (11, oX11 rM (u.1))), ((rM 3), .inl (cy 0, 14, .inl M_told)), ((rM 4), .inl (cy 0, 10, .inl M_place)), ((rM 5), .inl (cy 0, 10, .inl M_range)), ((rM 6), .inl (cy 0, 10, .inl M_voice)), ((rM 7), .inl (cy 0, 8, .inl M_kind)), ((rM 8), .inl (cy 0, 29, .inl (u.2.1))), ((rM 11), .inl (cy 2, 10, .inl M_isFalse)), ((rM 12), .inl (cy 2, 200, .inl M_isMirage)), ((rM 26), .inl (cy 0, 4, .inl (u.2.2.1))), ((rM 27), .inl (cy 0, 2900, .inl (u.2.2.2.1))), ((rM 28), .inl (cy 0, 100, .inl (u.2.2.2.2.1))), ((rM 29), .inl (cy 0, 400, .inl (u.2.2.2.2.2.1))), ((rM 34), .inl (cy 0, 100, .inl (u.2.2.2.2.2.2.1))), ((rM 35), .inl (cy 0, 100, .inl (u.2.2.2.2.2.2.2)))]) (va_A [(h0, .inr (11, oX11 rM sM)), ((rM 3), .inl (cy 0, 14, .inl M_told)), ((rM 4), .inl (cy 0, 10, .inl M_place)), ((rM 5), .inl (cy 0, 10, .inl M_range)), ((rM 6), .inl (cy 0, 10, .inl M_voice)), ((rM 7), .inl (cy 0, 8, .inl M_kind)), ((rM 8), .inl (cy 0, 29, .inl M_now)), ((rM 11), .inl (cy 2, 10, .inl M_isFalse)), ((rM 12), .inl (cy 2, 200, .inl M_isMirage)), ((rM 26), .inl (cy 0, 4, .inl M_why)), ((rM 27), .inl (cy 0, 2900, .inl M_rows)), ((rM 28), .inl (cy 0, 100, .inl M_sets)), ((rM 29), .inl (cy 0, 400, .inl M_whys)), ((rM 34), .inl (cy 0, 100, .inl M_caseCell)), ((rM 35), .inl (cy 0, 100, .inl M_caseHeading))] sz)) 0 0 (va_A [(h0, .inr (11, oX11 rM sM)), ((rM 3), .inl (cy 0, 14, .inl M_told)), ((rM 4), .inl (cy 0, 10, .inl M_place)), ((rM 5), .inl (cy 0, 10, .inl M_range)), ((rM 6), .inl (cy 0, 10, .inl M_voice)), ((rM 7), .inl (cy 0, 8, .inl M_kind)), ((rM 8), .inl (cy 0, 29, .inl M_now)), ((rM 11), .inl (cy 2, 10, .inl M_isFalse)), ((rM 12), .inl (cy 2, 200, .inl M_isMirage)), ((rM 26), .inl (cy 0, 4, .inl M_why)), ((rM 27), .inl (cy 0, 2900, .inl M_rows)), ((rM 28), .inl (cy 0, 100, .inl M_sets)), ((rM 29), .inl (cy 0, 400, .inl M_whys)), ((rM 34), .inl (cy 0, 100, .inl M_caseCell)), ((rM 35), .inl (cy 0, 100, .inl M_caseHeading))] sz) := by
  refine ofWi (by decide) (Nat.le_of_ble_eq_true rfl) ?_
  intro p e s m args below meth c ls A R QQ hx hb hml hown hts hR hlk hE hK hP hD hS hA hl hret
  have hown : s.vm.findClass RX11 = some m.cls := hown
  have hRf : 7 ≤ R.frames := by rw [hR]; exact Nat.le_refl _
  have hRl : 205 ≤ R.locals := by rw [hR]; exact Nat.le_refl _
  clear hR
  have hl : lv_has ls 8 [(0, .ref h0), (1, .int x1), (2, .int x2)] := hl
  have L29 : ∀ (l2 : Int32) (kx126 : AR → AR → AR → AR → AR → AR → AR → AR → Int32 → Int32 → Int32 → Prop), (∀ (sM : AR) (M_now : AR) (M_why : AR) (M_rows : AR) (M_sets : AR) (M_whys : AR) (M_caseCell : AR) (M_caseHeading : AR) (l3 : Int32) (l4 : Int32) (l5 : Int32) (H : Heap) (locs : List Loc) (ls : Array Slot), kx126 sM M_now M_why M_rows M_sets M_whys M_caseCell M_caseHeading l3 l4 l5 → va_P D clsX [(h0, .inr (11, oX11 rM sM)), ((rM 3), .inl (cy 0, 14, .inl M_told)), ((rM 4), .inl (cy 0, 10, .inl M_place)), ((rM 5), .inl (cy 0, 10, .inl M_range)), ((rM 6), .inl (cy 0, 10, .inl M_voice)), ((rM 7), .inl (cy 0, 8, .inl M_kind)), ((rM 8), .inl (cy 0, 29, .inl M_now)), ((rM 11), .inl (cy 2, 10, .inl M_isFalse)), ((rM 12), .inl (cy 2, 200, .inl M_isMirage)), ((rM 26), .inl (cy 0, 4, .inl M_why)), ((rM 27), .inl (cy 0, 2900, .inl M_rows)), ((rM 28), .inl (cy 0, 100, .inl M_sets)), ((rM 29), .inl (cy 0, 400, .inl M_whys)), ((rM 34), .inl (cy 0, 100, .inl M_caseCell)), ((rM 35), .inl (cy 0, 100, .inl M_caseHeading))] H → va_D A [(h0, .inr (11, oX11 rM sM)), ((rM 3), .inl (cy 0, 14, .inl M_told)), ((rM 4), .inl (cy 0, 10, .inl M_place)), ((rM 5), .inl (cy 0, 10, .inl M_range)), ((rM 6), .inl (cy 0, 10, .inl M_voice)), ((rM 7), .inl (cy 0, 8, .inl M_kind)), ((rM 8), .inl (cy 0, 29, .inl M_now)), ((rM 11), .inl (cy 2, 10, .inl M_isFalse)), ((rM 12), .inl (cy 2, 200, .inl M_isMirage)), ((rM 26), .inl (cy 0, 4, .inl M_why)), ((rM 27), .inl (cy 0, 2900, .inl M_rows)), ((rM 28), .inl (cy 0, 100, .inl M_sets)), ((rM 29), .inl (cy 0, 400, .inl M_whys)), ((rM 34), .inl (cy 0, 100, .inl M_caseCell)), ((rM 35), .inl (cy 0, 100, .inl M_caseHeading))] → va_S A s.heap H locs → lv_has ls 8 [(0, .ref h0), (4, .int l4)] → W p l e R s m args below meth c H locs 0 0 QQ (F0 m 126 ls [])) → ∀ (nf29 : Nat) (sM : AR) (M_now : AR) (M_why : AR) (M_rows : AR) (M_sets : AR) (M_whys : AR) (M_caseCell : AR) (M_caseHeading : AR) (l3 : Int32) (l4 : Int32) (l5 : Int32) (H : Heap) (locs : List Loc) (ls : Array Slot), wpX11_night_L29 M_told M_place M_range M_voice M_kind M_isFalse M_isMirage l2 kx126 post nf29 sM M_now M_why M_rows M_sets M_whys M_caseCell M_caseHeading l3 l4 l5 → va_P D clsX [(h0, .inr (11, oX11 rM sM)), ((rM 3), .inl (cy 0, 14, .inl M_told)), ((rM 4), .inl (cy 0, 10, .inl M_place)), ((rM 5), .inl (cy 0, 10, .inl M_range)), ((rM 6), .inl (cy 0, 10, .inl M_voice)), ((rM 7), .inl (cy 0, 8, .inl M_kind)), ((rM 8), .inl (cy 0, 29, .inl M_now)), ((rM 11), .inl (cy 2, 10, .inl M_isFalse)), ((rM 12), .inl (cy 2, 200, .inl M_isMirage)), ((rM 26), .inl (cy 0, 4, .inl M_why)), ((rM 27), .inl (cy 0, 2900, .inl M_rows)), ((rM 28), .inl (cy 0, 100, .inl M_sets)), ((rM 29), .inl (cy 0, 400, .inl M_whys)), ((rM 34), .inl (cy 0, 100, .inl M_caseCell)), ((rM 35), .inl (cy 0, 100, .inl M_caseHeading))] H → va_D A [(h0, .inr (11, oX11 rM sM)), ((rM 3), .inl (cy 0, 14, .inl M_told)), ((rM 4), .inl (cy 0, 10, .inl M_place)), ((rM 5), .inl (cy 0, 10, .inl M_range)), ((rM 6), .inl (cy 0, 10, .inl M_voice)), ((rM 7), .inl (cy 0, 8, .inl M_kind)), ((rM 8), .inl (cy 0, 29, .inl M_now)), ((rM 11), .inl (cy 2, 10, .inl M_isFalse)), ((rM 12), .inl (cy 2, 200, .inl M_isMirage)), ((rM 26), .inl (cy 0, 4, .inl M_why)), ((rM 27), .inl (cy 0, 2900, .inl M_rows)), ((rM 28), .inl (cy 0, 100, .inl M_sets)), ((rM 29), .inl (cy 0, 400, .inl M_whys)), ((rM 34), .inl (cy 0, 100, .inl M_caseCell)), ((rM 35), .inl (cy 0, 100, .inl M_caseHeading))] → va_S A s.heap H locs → lv_has ls 8 [(0, .ref h0), (2, .int l2), (3, .int l3), (4, .int l4), (5, .int l5)] → W p l e R s m args below meth c H locs 0 0 QQ (F0 m 29 ls []) := by
    intro l2 kx126 hk29_126 nf29
    induction nf29 with
    | zero =>
      intro sM M_now M_why M_rows M_sets M_whys M_caseCell M_caseHeading l3 l4 l5 H locs ls h
      exact (show False from h).elim
    | succ nf29 ih29 =>
      intro sM M_now M_why M_rows M_sets M_whys M_caseCell M_caseHeading l3 l4 l5 H locs ls h hP hD hS hl
      have L41 : ∀ (sM : AR) (M_now : AR) (M_why : AR) (M_rows : AR) (M_sets : AR) (M_whys : AR) (M_caseCell : AR) (M_caseHeading : AR) (l2 : Int32) (l4 : Int32) (l5 : Int32) (kx104 : Int32 → Int32 → Int32 → Prop), (∀ (l3 : Int32) (l6 : Int32) (l7 : Int32) (H : Heap) (locs : List Loc) (ls : Array Slot), kx104 l3 l6 l7 → va_P D clsX [(h0, .inr (11, oX11 rM sM)), ((rM 3), .inl (cy 0, 14, .inl M_told)), ((rM 4), .inl (cy 0, 10, .inl M_place)), ((rM 5), .inl (cy 0, 10, .inl M_range)), ((rM 6), .inl (cy 0, 10, .inl M_voice)), ((rM 7), .inl (cy 0, 8, .inl M_kind)), ((rM 8), .inl (cy 0, 29, .inl M_now)), ((rM 11), .inl (cy 2, 10, .inl M_isFalse)), ((rM 12), .inl (cy 2, 200, .inl M_isMirage)), ((rM 26), .inl (cy 0, 4, .inl M_why)), ((rM 27), .inl (cy 0, 2900, .inl M_rows)), ((rM 28), .inl (cy 0, 100, .inl M_sets)), ((rM 29), .inl (cy 0, 400, .inl M_whys)), ((rM 34), .inl (cy 0, 100, .inl M_caseCell)), ((rM 35), .inl (cy 0, 100, .inl M_caseHeading))] H → va_D A [(h0, .inr (11, oX11 rM sM)), ((rM 3), .inl (cy 0, 14, .inl M_told)), ((rM 4), .inl (cy 0, 10, .inl M_place)), ((rM 5), .inl (cy 0, 10, .inl M_range)), ((rM 6), .inl (cy 0, 10, .inl M_voice)), ((rM 7), .inl (cy 0, 8, .inl M_kind)), ((rM 8), .inl (cy 0, 29, .inl M_now)), ((rM 11), .inl (cy 2, 10, .inl M_isFalse)), ((rM 12), .inl (cy 2, 200, .inl M_isMirage)), ((rM 26), .inl (cy 0, 4, .inl M_why)), ((rM 27), .inl (cy 0, 2900, .inl M_rows)), ((rM 28), .inl (cy 0, 100, .inl M_sets)), ((rM 29), .inl (cy 0, 400, .inl M_whys)), ((rM 34), .inl (cy 0, 100, .inl M_caseCell)), ((rM 35), .inl (cy 0, 100, .inl M_caseHeading))] → va_S A s.heap H locs → lv_has ls 8 [(0, .ref h0), (2, .int l2), (3, .int l3), (4, .int l4), (5, .int l5), (6, .int l6)] → W p l e R s m args below meth c H locs 0 0 QQ (F0 m 104 ls [])) → ∀ (nf41 : Nat) (l3 : Int32) (l6 : Int32) (l7 : Int32) (H : Heap) (locs : List Loc) (ls : Array Slot), wpX11_night_L41 sM M_told M_place M_range M_voice M_kind M_now M_isFalse M_isMirage M_why M_rows M_sets M_whys M_caseCell M_caseHeading l2 l4 l5 kx104 post nf41 l3 l6 l7 → va_P D clsX [(h0, .inr (11, oX11 rM sM)), ((rM 3), .inl (cy 0, 14, .inl M_told)), ((rM 4), .inl (cy 0, 10, .inl M_place)), ((rM 5), .inl (cy 0, 10, .inl M_range)), ((rM 6), .inl (cy 0, 10, .inl M_voice)), ((rM 7), .inl (cy 0, 8, .inl M_kind)), ((rM 8), .inl (cy 0, 29, .inl M_now)), ((rM 11), .inl (cy 2, 10, .inl M_isFalse)), ((rM 12), .inl (cy 2, 200, .inl M_isMirage)), ((rM 26), .inl (cy 0, 4, .inl M_why)), ((rM 27), .inl (cy 0, 2900, .inl M_rows)), ((rM 28), .inl (cy 0, 100, .inl M_sets)), ((rM 29), .inl (cy 0, 400, .inl M_whys)), ((rM 34), .inl (cy 0, 100, .inl M_caseCell)), ((rM 35), .inl (cy 0, 100, .inl M_caseHeading))] H → va_D A [(h0, .inr (11, oX11 rM sM)), ((rM 3), .inl (cy 0, 14, .inl M_told)), ((rM 4), .inl (cy 0, 10, .inl M_place)), ((rM 5), .inl (cy 0, 10, .inl M_range)), ((rM 6), .inl (cy 0, 10, .inl M_voice)), ((rM 7), .inl (cy 0, 8, .inl M_kind)), ((rM 8), .inl (cy 0, 29, .inl M_now)), ((rM 11), .inl (cy 2, 10, .inl M_isFalse)), ((rM 12), .inl (cy 2, 200, .inl M_isMirage)), ((rM 26), .inl (cy 0, 4, .inl M_why)), ((rM 27), .inl (cy 0, 2900, .inl M_rows)), ((rM 28), .inl (cy 0, 100, .inl M_sets)), ((rM 29), .inl (cy 0, 400, .inl M_whys)), ((rM 34), .inl (cy 0, 100, .inl M_caseCell)), ((rM 35), .inl (cy 0, 100, .inl M_caseHeading))] → va_S A s.heap H locs → lv_has ls 8 [(0, .ref h0), (2, .int l2), (3, .int l3), (4, .int l4), (5, .int l5), (6, .int l6), (7, .int l7)] → W p l e R s m args below meth c H locs 0 0 QQ (F0 m 41 ls []) := by
        intro sM M_now M_why M_rows M_sets M_whys M_caseCell M_caseHeading l2 l4 l5 kx104 hk41_104 nf41
        induction nf41 with
        | zero =>
          intro l3 l6 l7 H locs ls h
          exact (show False from h).elim
        | succ nf41 ih41 =>
          intro l3 l6 l7 H locs ls h hP hD hS hl
          have J95 : ∀ (l3 : Int32) (l7 : Int32) (t0 : Int32) (t1 : Int32) (H : Heap) (locs : List Loc) (ls : Array Slot), wpX11_night_J95 sM M_told M_place M_range M_voice M_kind M_now M_isFalse M_isMirage M_why M_rows M_sets M_whys M_caseCell M_caseHeading l2 l3 l4 l5 l7 t0 t1 (fun b0 b1 b2 => wpX11_night_L41 sM M_told M_place M_range M_voice M_kind M_now M_isFalse M_isMirage M_why M_rows M_sets M_whys M_caseCell M_caseHeading l2 l4 l5 kx104 post nf41 b0 b1 b2) kx104 post → va_P D clsX [(h0, .inr (11, oX11 rM sM)), ((rM 3), .inl (cy 0, 14, .inl M_told)), ((rM 4), .inl (cy 0, 10, .inl M_place)), ((rM 5), .inl (cy 0, 10, .inl M_range)), ((rM 6), .inl (cy 0, 10, .inl M_voice)), ((rM 7), .inl (cy 0, 8, .inl M_kind)), ((rM 8), .inl (cy 0, 29, .inl M_now)), ((rM 11), .inl (cy 2, 10, .inl M_isFalse)), ((rM 12), .inl (cy 2, 200, .inl M_isMirage)), ((rM 26), .inl (cy 0, 4, .inl M_why)), ((rM 27), .inl (cy 0, 2900, .inl M_rows)), ((rM 28), .inl (cy 0, 100, .inl M_sets)), ((rM 29), .inl (cy 0, 400, .inl M_whys)), ((rM 34), .inl (cy 0, 100, .inl M_caseCell)), ((rM 35), .inl (cy 0, 100, .inl M_caseHeading))] H → va_D A [(h0, .inr (11, oX11 rM sM)), ((rM 3), .inl (cy 0, 14, .inl M_told)), ((rM 4), .inl (cy 0, 10, .inl M_place)), ((rM 5), .inl (cy 0, 10, .inl M_range)), ((rM 6), .inl (cy 0, 10, .inl M_voice)), ((rM 7), .inl (cy 0, 8, .inl M_kind)), ((rM 8), .inl (cy 0, 29, .inl M_now)), ((rM 11), .inl (cy 2, 10, .inl M_isFalse)), ((rM 12), .inl (cy 2, 200, .inl M_isMirage)), ((rM 26), .inl (cy 0, 4, .inl M_why)), ((rM 27), .inl (cy 0, 2900, .inl M_rows)), ((rM 28), .inl (cy 0, 100, .inl M_sets)), ((rM 29), .inl (cy 0, 400, .inl M_whys)), ((rM 34), .inl (cy 0, 100, .inl M_caseCell)), ((rM 35), .inl (cy 0, 100, .inl M_caseHeading))] → va_S A s.heap H locs → lv_has ls 8 [(0, .ref h0), (2, .int l2), (3, .int l3), (4, .int l4), (5, .int l5), (7, .int l7)] → W p l e R s m args below meth c H locs 0 0 QQ (F0 m 95 ls [.int t1, .int t0]) := by
            intro l3 l7 t0 t1 H locs ls h hP hD hS hl
            refine lv_ior hx hb dX11_night_95 ?_
            refine lv_topi (fun l6_96 el6_96 => ?_)
            have h := h l6_96 el6_96
            refine lv_istore (lv' := [(6, .int l6_96), (0, .ref h0), (2, .int l2), (3, .int l3), (4, .int l4), (5, .int l5), (7, .int l7)]) hx hb dX11_night_96 hl (by decide) rfl (fun ls hl => ?_)
            obtain ⟨l7_98, el7_98⟩ : ∃ y : Int32, y = l7 + (1 : Int32) := ⟨_, rfl⟩
            have h := h l7_98 el7_98
            refine lv_iinc (v := l7_98) (lv' := [(7, .int l7_98), (6, .int l6_96), (0, .ref h0), (2, .int l2), (3, .int l3), (4, .int l4), (5, .int l5)]) hx hb dX11_night_98 hl (k := 6) rfl (by rw [el7_98]; rfl) (by decide) rfl (fun ls hl => ?_)
            refine lv_goto (tgt := 41) hx hb dX11_night_101 (by decide) ?_
            exact ih41 l3 l6_96 l7_98 _ _ _ h hP hD hS (lv_sub hl [2, 3, 4, 5, 6, 1, 0] rfl)
          refine lv_iload hx hb dX11_night_41 (lv_at hl 6 rfl) ?_
          refine lv_aload_n hx hb dX11_night_43 rfl (lv_at hl 0 rfl) ?_
          refine gfX11_36 hx hb hts hown hK hP 0 rfl dX11_night_44 ?_
          refine lv_iconst (v := (2 : Int32)) hx hb dX11_night_47 (by decide) ?_
          refine ldi (k := 2) hx hb hK hP 1 rfl (inL (by decide)) (by decide) dX11_night_48 ?_
          refine lv_icmp_ge (tgt := 104) hx hb dX11_night_49 (by decide) (fun c49 => ?_) (fun c49 => ?_)
          · have h := h.1 c49
            exact hk41_104 l3 l6 l7 _ _ _ h hP hD hS (lv_sub hl [0, 1, 2, 3, 4, 5] rfl)
          · have h := h.2 c49
            refine lv_iload_n hx hb dX11_night_52 rfl (lv_at hl 2 rfl) ?_
            refine lv_ldcw hx hb hown (hts _ (tb mw1644)) dX11_night_53 ?_
            refine lv_imul hx hb dX11_night_56 ?_
            refine lv_sipush (v := (12345 : Int32)) hx hb dX11_night_57 (by decide) ?_
            refine lv_iadd hx hb dX11_night_60 ?_
            refine lv_topi (fun l3_61 el3_61 => ?_)
            have h := h l3_61 el3_61
            refine lv_istore_n (lv' := [(3, .int l3_61), (0, .ref h0), (2, .int l2), (4, .int l4), (5, .int l5), (6, .int l6), (7, .int l7)]) hx hb dX11_night_61 rfl hl (by decide) rfl (fun ls hl => ?_)
            refine lv_iload hx hb dX11_night_62 (lv_at hl 5 rfl) ?_
            refine lv_iload_n hx hb dX11_night_64 rfl (lv_at hl 0 rfl) ?_
            refine lv_bipush (v := (16 : Int32)) hx hb dX11_night_65 (by decide) ?_
            refine lv_ishr hx hb dX11_night_67 ?_
            refine lv_iconst (v := (1 : Int32)) hx hb dX11_night_68 (by decide) ?_
            refine lv_iand hx hb dX11_night_69 ?_
            refine lv_iconst (v := (1 : Int32)) hx hb dX11_night_70 (by decide) ?_
            refine lv_icmp_ne (tgt := 94) hx hb dX11_night_71 (by decide) (fun c71 => ?_) (fun c71 => ?_)
            · have h := h.1 c71
              refine lv_iconst (v := (0 : Int32)) hx hb dX11_night_94 (by decide) ?_
              exact J95 l3_61 l7 l6 (0 : Int32) _ _ _ h hP hD hS (lv_sub hl [1, 2, 0, 3, 4, 6] rfl)
            · have h := h.2 c71
              refine lv_aload_n hx hb dX11_night_74 rfl (lv_at hl 1 rfl) ?_
              refine gfX11_52 hx hb hts hown hK hP 0 rfl dX11_night_75 ?_
              refine lv_bipush (v := (24 : Int32)) hx hb dX11_night_78 (by decide) ?_
              refine lv_iload hx hb dX11_night_80 (lv_at hl 6 rfl) ?_
              refine lv_iadd hx hb dX11_night_82 ?_
              obtain ⟨hin, h⟩ := h
              refine ldi (k := ((24 : Int32) + l7).toNatClampNeg) hx hb hK hP 6 rfl hin rfl dX11_night_83 ?_
              refine lv_if_le (tgt := 94) hx hb dX11_night_84 (by decide) (fun c84 => ?_) (fun c84 => ?_)
              · have h := h.1 c84
                refine lv_iconst (v := (0 : Int32)) hx hb dX11_night_94 (by decide) ?_
                exact J95 l3_61 l7 l6 (0 : Int32) _ _ _ h hP hD hS (lv_sub hl [1, 2, 0, 3, 4, 6] rfl)
              · have h := h.2 c84
                refine lv_iconst (v := (1 : Int32)) hx hb dX11_night_87 (by decide) ?_
                refine lv_iload hx hb dX11_night_88 (lv_at hl 6 rfl) ?_
                refine lv_ishl hx hb dX11_night_90 ?_
                refine lv_goto (tgt := 95) hx hb dX11_night_91 (by decide) ?_
                exact J95 l3_61 l7 l6 (jshl (1 : Int32) l7) _ _ _ h hP hD hS (lv_sub hl [1, 2, 0, 3, 4, 6] rfl)
      refine lv_iload hx hb dX11_night_29 (lv_at hl 4 rfl) ?_
      refine lv_iload_n hx hb dX11_night_31 rfl (lv_at hl 1 rfl) ?_
      refine lv_icmp_ge (tgt := 126) hx hb dX11_night_32 (by decide) (fun c32 => ?_) (fun c32 => ?_)
      · have h := h.1 c32
        exact hk29_126 sM M_now M_why M_rows M_sets M_whys M_caseCell M_caseHeading l3 l4 l5 _ _ _ h hP hD hS (lv_sub hl [0, 3] rfl)
      · have h := h.2 c32
        refine lv_iconst (v := (0 : Int32)) hx hb dX11_night_35 (by decide) ?_
        refine lv_istore (lv' := [(6, .int (0 : Int32)), (0, .ref h0), (2, .int l2), (3, .int l3), (4, .int l4), (5, .int l5)]) hx hb dX11_night_36 hl (by decide) rfl (fun ls hl => ?_)
        refine lv_iconst (v := (0 : Int32)) hx hb dX11_night_38 (by decide) ?_
        refine lv_istore (lv' := [(7, .int (0 : Int32)), (6, .int (0 : Int32)), (0, .ref h0), (2, .int l2), (3, .int l3), (4, .int l4), (5, .int l5)]) hx hb dX11_night_39 hl (by decide) rfl (fun ls hl => ?_)
        obtain ⟨nf41, h⟩ := h
        refine L41 sM M_now M_why M_rows M_sets M_whys M_caseCell M_caseHeading l2 l4 l5 _ (fun l3_104 l6_104 l7_104 H locs ls h hP hD hS hl => ?_) nf41 l3 (0 : Int32) (0 : Int32) _ _ _ h hP hD hS (lv_sub hl [2, 3, 4, 5, 6, 1, 0] rfl)
        refine lv_aload_n hx hb dX11_night_104 rfl (lv_at hl 0 rfl) ?_
        refine lv_iconst (v := (0 : Int32)) hx hb dX11_night_105 (by decide) ?_
        refine pfX11_273 hx hb hts hown hK hP hD hS 0 rfl dX11_night_106 (fun H locs hP hD hS => ?_)
        have hP : va_P D clsX [(h0, .inr (11, oX11 rM (upd sM 31 (0 : Int32)))), ((rM 3), .inl (cy 0, 14, .inl M_told)), ((rM 4), .inl (cy 0, 10, .inl M_place)), ((rM 5), .inl (cy 0, 10, .inl M_range)), ((rM 6), .inl (cy 0, 10, .inl M_voice)), ((rM 7), .inl (cy 0, 8, .inl M_kind)), ((rM 8), .inl (cy 0, 29, .inl M_now)), ((rM 11), .inl (cy 2, 10, .inl M_isFalse)), ((rM 12), .inl (cy 2, 200, .inl M_isMirage)), ((rM 26), .inl (cy 0, 4, .inl M_why)), ((rM 27), .inl (cy 0, 2900, .inl M_rows)), ((rM 28), .inl (cy 0, 100, .inl M_sets)), ((rM 29), .inl (cy 0, 400, .inl M_whys)), ((rM 34), .inl (cy 0, 100, .inl M_caseCell)), ((rM 35), .inl (cy 0, 100, .inl M_caseHeading))] H := hP
        have hD : va_D A [(h0, .inr (11, oX11 rM (upd sM 31 (0 : Int32)))), ((rM 3), .inl (cy 0, 14, .inl M_told)), ((rM 4), .inl (cy 0, 10, .inl M_place)), ((rM 5), .inl (cy 0, 10, .inl M_range)), ((rM 6), .inl (cy 0, 10, .inl M_voice)), ((rM 7), .inl (cy 0, 8, .inl M_kind)), ((rM 8), .inl (cy 0, 29, .inl M_now)), ((rM 11), .inl (cy 2, 10, .inl M_isFalse)), ((rM 12), .inl (cy 2, 200, .inl M_isMirage)), ((rM 26), .inl (cy 0, 4, .inl M_why)), ((rM 27), .inl (cy 0, 2900, .inl M_rows)), ((rM 28), .inl (cy 0, 100, .inl M_sets)), ((rM 29), .inl (cy 0, 400, .inl M_whys)), ((rM 34), .inl (cy 0, 100, .inl M_caseCell)), ((rM 35), .inl (cy 0, 100, .inl M_caseHeading))] := hD
        refine lv_iload hx hb dX11_night_109 (lv_at hl 3 rfl) ?_
        refine lv_aload_n hx hb dX11_night_111 rfl (lv_at hl 0 rfl) ?_
        refine lv_iload hx hb dX11_night_112 (lv_at hl 5 rfl) ?_
        refine clVi (As := [.int l6_104]) (rest := [.int l4]) (Wr := []) (cq := (RX11, TX11, 56)) ⟨hx, hb, hml, hown, hts⟩ ⟨callB_of 1 hts (goodC mw1517) rfl rfl rfl (hts _ (tb mw15)) (hts _ (tb mw1514)) kdX11_doStroke ⟨Nat.le_trans (by decide) hRf, Nat.le_trans (by decide) hRl⟩, hts _ (tb mw1516), hts _ (tb ms66)⟩ (ctX11_doStroke l D cy ev h0 rM (upd sM 31 (0 : Int32)) M_told M_place M_range M_voice M_kind M_now M_isFalse M_isMirage M_why M_rows M_sets M_whys M_caseCell M_caseHeading l6_104 _ _ h) hE hK hP hD hS hA [0, 1, 2, 3, 4, 5, 6, 7, 8, 9, 10, 11, 12, 13, 14] [] rfl rfl (by decide) (by decide) (by decide) 0 rfl rfl rfl hl.1 rfl (Nat.le_of_ble_eq_true rfl) ⟨Nat.zero_le _, Nat.zero_le _⟩ dX11_night_114 (fun r114 u H locs h hP hD hS => ?_)
        obtain ⟨sM_114, M_now_114, M_why_114, M_rows_114, M_sets_114, M_whys_114, M_caseCell_114, M_caseHeading_114⟩ := u
        have hP : va_P D clsX [(h0, .inr (11, oX11 rM sM_114)), ((rM 3), .inl (cy 0, 14, .inl M_told)), ((rM 4), .inl (cy 0, 10, .inl M_place)), ((rM 5), .inl (cy 0, 10, .inl M_range)), ((rM 6), .inl (cy 0, 10, .inl M_voice)), ((rM 7), .inl (cy 0, 8, .inl M_kind)), ((rM 8), .inl (cy 0, 29, .inl M_now_114)), ((rM 11), .inl (cy 2, 10, .inl M_isFalse)), ((rM 12), .inl (cy 2, 200, .inl M_isMirage)), ((rM 26), .inl (cy 0, 4, .inl M_why_114)), ((rM 27), .inl (cy 0, 2900, .inl M_rows_114)), ((rM 28), .inl (cy 0, 100, .inl M_sets_114)), ((rM 29), .inl (cy 0, 400, .inl M_whys_114)), ((rM 34), .inl (cy 0, 100, .inl M_caseCell_114)), ((rM 35), .inl (cy 0, 100, .inl M_caseHeading_114))] H := hP
        have hD : va_D A [(h0, .inr (11, oX11 rM sM_114)), ((rM 3), .inl (cy 0, 14, .inl M_told)), ((rM 4), .inl (cy 0, 10, .inl M_place)), ((rM 5), .inl (cy 0, 10, .inl M_range)), ((rM 6), .inl (cy 0, 10, .inl M_voice)), ((rM 7), .inl (cy 0, 8, .inl M_kind)), ((rM 8), .inl (cy 0, 29, .inl M_now_114)), ((rM 11), .inl (cy 2, 10, .inl M_isFalse)), ((rM 12), .inl (cy 2, 200, .inl M_isMirage)), ((rM 26), .inl (cy 0, 4, .inl M_why_114)), ((rM 27), .inl (cy 0, 2900, .inl M_rows_114)), ((rM 28), .inl (cy 0, 100, .inl M_sets_114)), ((rM 29), .inl (cy 0, 400, .inl M_whys_114)), ((rM 34), .inl (cy 0, 100, .inl M_caseCell_114)), ((rM 35), .inl (cy 0, 100, .inl M_caseHeading_114))] := hD
        refine lv_iadd hx hb dX11_night_117 ?_
        refine lv_topi (fun l4_118 el4_118 => ?_)
        have h := h l4_118 el4_118
        refine lv_istore (lv' := [(4, .int l4_118), (0, .ref h0), (2, .int l2), (3, .int l3_104), (5, .int l5), (6, .int l6_104)]) hx hb dX11_night_118 hl (by decide) rfl (fun ls hl => ?_)
        obtain ⟨l5_120, el5_120⟩ : ∃ y : Int32, y = l5 + (1 : Int32) := ⟨_, rfl⟩
        have h := h l5_120 el5_120
        refine lv_iinc (v := l5_120) (lv' := [(5, .int l5_120), (4, .int l4_118), (0, .ref h0), (2, .int l2), (3, .int l3_104), (6, .int l6_104)]) hx hb dX11_night_120 hl (k := 4) rfl (by rw [el5_120]; rfl) (by decide) rfl (fun ls hl => ?_)
        refine lv_goto (tgt := 29) hx hb dX11_night_123 (by decide) ?_
        exact ih29 sM_114 M_now_114 M_why_114 M_rows_114 M_sets_114 M_whys_114 M_caseCell_114 M_caseHeading_114 l3_104 l4_118 l5_120 _ _ _ h hP hD hS (lv_sub hl [2, 3, 4, 1, 0] rfl)
  refine lv_aload_n hx hb dX11_night_0 rfl (lv_at hl 0 rfl) ?_
  refine lv_iconst (v := (0 : Int32)) hx hb dX11_night_1 (by decide) ?_
  refine pfX11_132 hx hb hts hown hK hP hD hS 0 rfl dX11_night_2 (fun H locs hP hD hS => ?_)
  have hP : va_P D clsX [(h0, .inr (11, oX11 rM (upd sM 2 (0 : Int32)))), ((rM 3), .inl (cy 0, 14, .inl M_told)), ((rM 4), .inl (cy 0, 10, .inl M_place)), ((rM 5), .inl (cy 0, 10, .inl M_range)), ((rM 6), .inl (cy 0, 10, .inl M_voice)), ((rM 7), .inl (cy 0, 8, .inl M_kind)), ((rM 8), .inl (cy 0, 29, .inl M_now)), ((rM 11), .inl (cy 2, 10, .inl M_isFalse)), ((rM 12), .inl (cy 2, 200, .inl M_isMirage)), ((rM 26), .inl (cy 0, 4, .inl M_why)), ((rM 27), .inl (cy 0, 2900, .inl M_rows)), ((rM 28), .inl (cy 0, 100, .inl M_sets)), ((rM 29), .inl (cy 0, 400, .inl M_whys)), ((rM 34), .inl (cy 0, 100, .inl M_caseCell)), ((rM 35), .inl (cy 0, 100, .inl M_caseHeading))] H := hP
  have hD : va_D A [(h0, .inr (11, oX11 rM (upd sM 2 (0 : Int32)))), ((rM 3), .inl (cy 0, 14, .inl M_told)), ((rM 4), .inl (cy 0, 10, .inl M_place)), ((rM 5), .inl (cy 0, 10, .inl M_range)), ((rM 6), .inl (cy 0, 10, .inl M_voice)), ((rM 7), .inl (cy 0, 8, .inl M_kind)), ((rM 8), .inl (cy 0, 29, .inl M_now)), ((rM 11), .inl (cy 2, 10, .inl M_isFalse)), ((rM 12), .inl (cy 2, 200, .inl M_isMirage)), ((rM 26), .inl (cy 0, 4, .inl M_why)), ((rM 27), .inl (cy 0, 2900, .inl M_rows)), ((rM 28), .inl (cy 0, 100, .inl M_sets)), ((rM 29), .inl (cy 0, 400, .inl M_whys)), ((rM 34), .inl (cy 0, 100, .inl M_caseCell)), ((rM 35), .inl (cy 0, 100, .inl M_caseHeading))] := hD
  refine lv_iload_n hx hb dX11_night_5 rfl (lv_at hl 2 rfl) ?_
  refine lv_iconst (v := (0 : Int32)) hx hb dX11_night_6 (by decide) ?_
  refine lv_bipush (v := (100 : Int32)) hx hb dX11_night_7 (by decide) ?_
  refine clSi (As := [.int x2, .int (0 : Int32), .int (100 : Int32)]) (rest := []) (Wr := [(h0, .inr (11, oX11 rM (upd sM 2 (0 : Int32)))), ((rM 3), .inl (cy 0, 14, .inl M_told)), ((rM 4), .inl (cy 0, 10, .inl M_place)), ((rM 5), .inl (cy 0, 10, .inl M_range)), ((rM 6), .inl (cy 0, 10, .inl M_voice)), ((rM 7), .inl (cy 0, 8, .inl M_kind)), ((rM 8), .inl (cy 0, 29, .inl M_now)), ((rM 11), .inl (cy 2, 10, .inl M_isFalse)), ((rM 12), .inl (cy 2, 200, .inl M_isMirage)), ((rM 26), .inl (cy 0, 4, .inl M_why)), ((rM 27), .inl (cy 0, 2900, .inl M_rows)), ((rM 28), .inl (cy 0, 100, .inl M_sets)), ((rM 29), .inl (cy 0, 400, .inl M_whys)), ((rM 34), .inl (cy 0, 100, .inl M_caseCell)), ((rM 35), .inl (cy 0, 100, .inl M_caseHeading))]) ⟨hx, hb, hml, hown, hts⟩ ⟨callB_of 3 hts (goodC mw1456) rfl rfl rfl (hts _ (tb mw15)) (hts _ (tb mw1454)) kdX11_isIn ⟨Nat.le_trans (by decide) hRf, Nat.le_trans (by decide) hRl⟩, hts _ (tb mw1455)⟩ (ctX11_isIn l D cy ev  x2 (0 : Int32) (100 : Int32) _ _ h) hE hK hP hD hS hA [] [0, 1, 2, 3, 4, 5, 6, 7, 8, 9, 10, 11, 12, 13, 14] rfl rfl (by decide) (by decide) (by decide) rfl hl.1 rfl (Nat.le_of_ble_eq_true rfl) ⟨Nat.zero_le _, Nat.zero_le _⟩ dX11_night_9 (fun r9 u H locs h hP hD hS => ?_)
  have hP : va_P D clsX [(h0, .inr (11, oX11 rM (upd sM 2 (0 : Int32)))), ((rM 3), .inl (cy 0, 14, .inl M_told)), ((rM 4), .inl (cy 0, 10, .inl M_place)), ((rM 5), .inl (cy 0, 10, .inl M_range)), ((rM 6), .inl (cy 0, 10, .inl M_voice)), ((rM 7), .inl (cy 0, 8, .inl M_kind)), ((rM 8), .inl (cy 0, 29, .inl M_now)), ((rM 11), .inl (cy 2, 10, .inl M_isFalse)), ((rM 12), .inl (cy 2, 200, .inl M_isMirage)), ((rM 26), .inl (cy 0, 4, .inl M_why)), ((rM 27), .inl (cy 0, 2900, .inl M_rows)), ((rM 28), .inl (cy 0, 100, .inl M_sets)), ((rM 29), .inl (cy 0, 400, .inl M_whys)), ((rM 34), .inl (cy 0, 100, .inl M_caseCell)), ((rM 35), .inl (cy 0, 100, .inl M_caseHeading))] H := hP
  have hD : va_D A [(h0, .inr (11, oX11 rM (upd sM 2 (0 : Int32)))), ((rM 3), .inl (cy 0, 14, .inl M_told)), ((rM 4), .inl (cy 0, 10, .inl M_place)), ((rM 5), .inl (cy 0, 10, .inl M_range)), ((rM 6), .inl (cy 0, 10, .inl M_voice)), ((rM 7), .inl (cy 0, 8, .inl M_kind)), ((rM 8), .inl (cy 0, 29, .inl M_now)), ((rM 11), .inl (cy 2, 10, .inl M_isFalse)), ((rM 12), .inl (cy 2, 200, .inl M_isMirage)), ((rM 26), .inl (cy 0, 4, .inl M_why)), ((rM 27), .inl (cy 0, 2900, .inl M_rows)), ((rM 28), .inl (cy 0, 100, .inl M_sets)), ((rM 29), .inl (cy 0, 400, .inl M_whys)), ((rM 34), .inl (cy 0, 100, .inl M_caseCell)), ((rM 35), .inl (cy 0, 100, .inl M_caseHeading))] := hD
  refine lv_if_ne (tgt := 21) hx hb dX11_night_12 (by decide) (fun c12 => ?_) (fun c12 => ?_)
  · have h := h.1 c12
    refine lv_iload_n hx hb dX11_night_21 rfl (lv_at hl 1 rfl) ?_
    refine lv_istore_n (lv' := [(3, .int x1), (0, .ref h0), (1, .int x1), (2, .int x2)]) hx hb dX11_night_22 rfl hl (by decide) rfl (fun ls hl => ?_)
    refine lv_iconst (v := (0 : Int32)) hx hb dX11_night_23 (by decide) ?_
    refine lv_istore (lv' := [(4, .int (0 : Int32)), (3, .int x1), (0, .ref h0), (1, .int x1), (2, .int x2)]) hx hb dX11_night_24 hl (by decide) rfl (fun ls hl => ?_)
    refine lv_iconst (v := (0 : Int32)) hx hb dX11_night_26 (by decide) ?_
    refine lv_istore (lv' := [(5, .int (0 : Int32)), (4, .int (0 : Int32)), (3, .int x1), (0, .ref h0), (1, .int x1), (2, .int x2)]) hx hb dX11_night_27 hl (by decide) rfl (fun ls hl => ?_)
    obtain ⟨nf29, h⟩ := h
    refine L29 x2 _ (fun sM_126 M_now_126 M_why_126 M_rows_126 M_sets_126 M_whys_126 M_caseCell_126 M_caseHeading_126 l3_126 l4_126 l5_126 H locs ls h hP hD hS hl => ?_) nf29 (upd sM 2 (0 : Int32)) M_now M_why M_rows M_sets M_whys M_caseCell M_caseHeading x1 (0 : Int32) (0 : Int32) _ _ _ h hP hD hS (lv_sub hl [3, 5, 2, 1, 0] rfl)
    refine lv_iload hx hb dX11_night_126 (lv_at hl 1 rfl) ?_
    exact hret l4_126 (sM_126, M_now_126, M_why_126, M_rows_126, M_sets_126, M_whys_126, M_caseCell_126, M_caseHeading_126) _ _ _ _ rfl dX11_night_128 h hP hD hS
  · have h := h.2 c12
    refine lv_aload_n hx hb dX11_night_15 rfl (lv_at hl 0 rfl) ?_
    refine lv_iconst (v := (1 : Int32)) hx hb dX11_night_16 (by decide) ?_
    refine clVi (As := [.int (1 : Int32)]) (rest := []) (Wr := [((rM 3), .inl (cy 0, 14, .inl M_told)), ((rM 4), .inl (cy 0, 10, .inl M_place)), ((rM 5), .inl (cy 0, 10, .inl M_range)), ((rM 6), .inl (cy 0, 10, .inl M_voice)), ((rM 7), .inl (cy 0, 8, .inl M_kind)), ((rM 8), .inl (cy 0, 29, .inl M_now)), ((rM 11), .inl (cy 2, 10, .inl M_isFalse)), ((rM 12), .inl (cy 2, 200, .inl M_isMirage)), ((rM 26), .inl (cy 0, 4, .inl M_why)), ((rM 27), .inl (cy 0, 2900, .inl M_rows)), ((rM 28), .inl (cy 0, 100, .inl M_sets)), ((rM 29), .inl (cy 0, 400, .inl M_whys)), ((rM 34), .inl (cy 0, 100, .inl M_caseCell)), ((rM 35), .inl (cy 0, 100, .inl M_caseHeading))]) (cq := (RX11, TX11, 56)) ⟨hx, hb, hml, hown, hts⟩ ⟨callB_of 1 hts (goodC mw1373) rfl rfl rfl (hts _ (tb mw15)) (hts _ (tb mw1370)) kdX11_fail ⟨Nat.le_trans (by decide) hRf, Nat.le_trans (by decide) hRl⟩, hts _ (tb mw1372), hts _ (tb ms41)⟩ (ctX11_fail l D cy ev h0 rM (upd sM 2 (0 : Int32)) (1 : Int32) _ _ h) hE hK hP hD hS hA [0] [1, 2, 3, 4, 5, 6, 7, 8, 9, 10, 11, 12, 13, 14] rfl rfl (by decide) (by decide) (by decide) 0 rfl rfl rfl hl.1 rfl (Nat.le_of_ble_eq_true rfl) ⟨Nat.zero_le _, Nat.zero_le _⟩ dX11_night_17 (fun r17 sM_17 H locs h hP hD hS => ?_)
    have hP : va_P D clsX [((rM 3), .inl (cy 0, 14, .inl M_told)), ((rM 4), .inl (cy 0, 10, .inl M_place)), ((rM 5), .inl (cy 0, 10, .inl M_range)), ((rM 6), .inl (cy 0, 10, .inl M_voice)), ((rM 7), .inl (cy 0, 8, .inl M_kind)), ((rM 8), .inl (cy 0, 29, .inl M_now)), ((rM 11), .inl (cy 2, 10, .inl M_isFalse)), ((rM 12), .inl (cy 2, 200, .inl M_isMirage)), ((rM 26), .inl (cy 0, 4, .inl M_why)), ((rM 27), .inl (cy 0, 2900, .inl M_rows)), ((rM 28), .inl (cy 0, 100, .inl M_sets)), ((rM 29), .inl (cy 0, 400, .inl M_whys)), ((rM 34), .inl (cy 0, 100, .inl M_caseCell)), ((rM 35), .inl (cy 0, 100, .inl M_caseHeading)), (h0, .inr (11, oX11 rM sM_17))] H := hP
    have hD : va_D A [((rM 3), .inl (cy 0, 14, .inl M_told)), ((rM 4), .inl (cy 0, 10, .inl M_place)), ((rM 5), .inl (cy 0, 10, .inl M_range)), ((rM 6), .inl (cy 0, 10, .inl M_voice)), ((rM 7), .inl (cy 0, 8, .inl M_kind)), ((rM 8), .inl (cy 0, 29, .inl M_now)), ((rM 11), .inl (cy 2, 10, .inl M_isFalse)), ((rM 12), .inl (cy 2, 200, .inl M_isMirage)), ((rM 26), .inl (cy 0, 4, .inl M_why)), ((rM 27), .inl (cy 0, 2900, .inl M_rows)), ((rM 28), .inl (cy 0, 100, .inl M_sets)), ((rM 29), .inl (cy 0, 400, .inl M_whys)), ((rM 34), .inl (cy 0, 100, .inl M_caseCell)), ((rM 35), .inl (cy 0, 100, .inl M_caseHeading)), (h0, .inr (11, oX11 rM sM_17))] := hD
    exact hret r17 (sM_17, M_now, M_why, M_rows, M_sets, M_whys, M_caseCell, M_caseHeading) _ _ _ _ rfl dX11_night_20 h (hP.sub [14, 0, 1, 2, 3, 4, 5, 6, 7, 8, 9, 10, 11, 12, 13] rfl) (hD.sub [14, 0, 1, 2, 3, 4, 5, 6, 7, 8, 9, 10, 11, 12, 13] (by decide) rfl) hS
def wpX11_image (sM : AR) (M_now : AR) (M_status : AR) (M_rows : AR) (M_sets : AR) (M_whys : AR) (M_nowThen : AR) (M_rowsThen : AR) (M_setsThen : AR) (M_whysThen : AR) (M_statusThen : AR) (post : AR → AR → AR → AR → AR → AR → Prop) : Prop := ∀ f49_15 : Int32, f49_15 = (sM 30) → ∀ f50_23 : Int32, f50_23 = (sM 31) → wpX11_be M_nowThen M_now 29 29 (fun M_nowThen_34 => wpX11_be M_rowsThen M_rows 2900 2900 (fun M_rowsThen_45 => wpX11_be M_setsThen M_sets 100 100 (fun M_setsThen_56 => wpX11_be M_whysThen M_whys 400 400 (fun M_whysThen_67 => wpX11_be M_statusThen M_status 2 2 (fun M_statusThen_78 => post (upd (upd (upd (upd sM 2 (0 : Int32)) 48 (1 : Int32)) 49 f49_15) 50 f50_23) M_nowThen_34 M_rowsThen_45 M_setsThen_56 M_whysThen_67 M_statusThen_78)))))
set_option maxHeartbeats 4000000 in
set_option maxRecDepth 100000 in
theorem ctX11_image (l : Launch) (D : va_G) (cy : Nat → ClassId) (ev : Nat → Nat) (h0 : Nat) (rM : Nat → Nat) (sM : AR) (M_now : AR) (M_status : AR) (M_rows : AR) (M_sets : AR) (M_whys : AR) (M_nowThen : AR) (M_rowsThen : AR) (M_setsThen : AR) (M_whysThen : AR) (M_statusThen : AR) (sz : Nat) (post : AR → AR → AR → AR → AR → AR → Prop) (h : wpX11_image sM M_now M_status M_rows M_sets M_whys M_nowThen M_rowsThen M_setsThen M_whysThen M_statusThen post) : Met l yX11_image (Cond.code yX11_image cX11_image 1 none :: TB) ({ frames := 1, cells := 0, slots := 0, locals := 22 }) (va_Pc [.ref h0] (PreX D cy ev [(h0, .inr (11, oX11 rM sM)), ((rM 8), .inl (cy 0, 29, .inl M_now)), ((rM 10), .inl (cy 0, 2, .inl M_status)), ((rM 27), .inl (cy 0, 2900, .inl M_rows)), ((rM 28), .inl (cy 0, 100, .inl M_sets)), ((rM 29), .inl (cy 0, 400, .inl M_whys)), ((rM 51), .inl (cy 0, 29, .inl M_nowThen)), ((rM 52), .inl (cy 0, 2900, .inl M_rowsThen)), ((rM 53), .inl (cy 0, 100, .inl M_setsThen)), ((rM 54), .inl (cy 0, 400, .inl M_whysThen)), ((rM 55), .inl (cy 0, 2, .inl M_statusThen))] sz)) (va_Qv (fun (u : AR × AR × AR × AR × AR × AR) => post (u.1) (u.2.1) (u.2.2.1) (u.2.2.2.1) (u.2.2.2.2.1) (u.2.2.2.2.2)) (fun u => BkX D cy [(h0, .inr (11, oX11 rM sM)), ((rM 8), .inl (cy 0, 29, .inl M_now)), ((rM 10), .inl (cy 0, 2, .inl M_status)), ((rM 27), .inl (cy 0, 2900, .inl M_rows)), ((rM 28), .inl (cy 0, 100, .inl M_sets)), ((rM 29), .inl (cy 0, 400, .inl M_whys)), ((rM 51), .inl (cy 0, 29, .inl M_nowThen)), ((rM 52), .inl (cy 0, 2900, .inl M_rowsThen)), ((rM 53), .inl (cy 0, 100, .inl M_setsThen)), ((rM 54), .inl (cy 0, 400, .inl M_whysThen)), ((rM 55), .inl (cy 0, 2, .inl M_statusThen))] sz [(h0, .inr (11, oX11 rM (u.1))), ((rM 8), .inl (cy 0, 29, .inl M_now)), ((rM 10), .inl (cy 0, 2, .inl M_status)), ((rM 27), .inl (cy 0, 2900, .inl M_rows)), ((rM 28), .inl (cy 0, 100, .inl M_sets)), ((rM 29), .inl (cy 0, 400, .inl M_whys)), ((rM 51), .inl (cy 0, 29, .inl (u.2.1))), ((rM 52), .inl (cy 0, 2900, .inl (u.2.2.1))), ((rM 53), .inl (cy 0, 100, .inl (u.2.2.2.1))), ((rM 54), .inl (cy 0, 400, .inl (u.2.2.2.2.1))), ((rM 55), .inl (cy 0, 2, .inl (u.2.2.2.2.2)))]) (va_A [(h0, .inr (11, oX11 rM sM)), ((rM 8), .inl (cy 0, 29, .inl M_now)), ((rM 10), .inl (cy 0, 2, .inl M_status)), ((rM 27), .inl (cy 0, 2900, .inl M_rows)), ((rM 28), .inl (cy 0, 100, .inl M_sets)), ((rM 29), .inl (cy 0, 400, .inl M_whys)), ((rM 51), .inl (cy 0, 29, .inl M_nowThen)), ((rM 52), .inl (cy 0, 2900, .inl M_rowsThen)), ((rM 53), .inl (cy 0, 100, .inl M_setsThen)), ((rM 54), .inl (cy 0, 400, .inl M_whysThen)), ((rM 55), .inl (cy 0, 2, .inl M_statusThen))] sz)) 0 0 (va_A [(h0, .inr (11, oX11 rM sM)), ((rM 8), .inl (cy 0, 29, .inl M_now)), ((rM 10), .inl (cy 0, 2, .inl M_status)), ((rM 27), .inl (cy 0, 2900, .inl M_rows)), ((rM 28), .inl (cy 0, 100, .inl M_sets)), ((rM 29), .inl (cy 0, 400, .inl M_whys)), ((rM 51), .inl (cy 0, 29, .inl M_nowThen)), ((rM 52), .inl (cy 0, 2900, .inl M_rowsThen)), ((rM 53), .inl (cy 0, 100, .inl M_setsThen)), ((rM 54), .inl (cy 0, 400, .inl M_whysThen)), ((rM 55), .inl (cy 0, 2, .inl M_statusThen))] sz) := by
  refine ofWv (by decide) (Nat.le_of_ble_eq_true rfl) ?_
  intro p e s m args below meth c ls A R QQ hx hb hml hown hts hR hlk hE hK hP hD hS hA hl hret
  have hown : s.vm.findClass RX11 = some m.cls := hown
  have hRf : 1 ≤ R.frames := by rw [hR]; exact Nat.le_refl _
  have hRl : 22 ≤ R.locals := by rw [hR]; exact Nat.le_refl _
  clear hR
  have hl : lv_has ls 1 [(0, .ref h0)] := hl
  refine lv_aload_n hx hb dX11_image_0 rfl (lv_at hl 0 rfl) ?_
  refine lv_iconst (v := (0 : Int32)) hx hb dX11_image_1 (by decide) ?_
  refine pfX11_132 hx hb hts hown hK hP hD hS 0 rfl dX11_image_2 (fun H locs hP hD hS => ?_)
  have hP : va_P D clsX [(h0, .inr (11, oX11 rM (upd sM 2 (0 : Int32)))), ((rM 8), .inl (cy 0, 29, .inl M_now)), ((rM 10), .inl (cy 0, 2, .inl M_status)), ((rM 27), .inl (cy 0, 2900, .inl M_rows)), ((rM 28), .inl (cy 0, 100, .inl M_sets)), ((rM 29), .inl (cy 0, 400, .inl M_whys)), ((rM 51), .inl (cy 0, 29, .inl M_nowThen)), ((rM 52), .inl (cy 0, 2900, .inl M_rowsThen)), ((rM 53), .inl (cy 0, 100, .inl M_setsThen)), ((rM 54), .inl (cy 0, 400, .inl M_whysThen)), ((rM 55), .inl (cy 0, 2, .inl M_statusThen))] H := hP
  have hD : va_D A [(h0, .inr (11, oX11 rM (upd sM 2 (0 : Int32)))), ((rM 8), .inl (cy 0, 29, .inl M_now)), ((rM 10), .inl (cy 0, 2, .inl M_status)), ((rM 27), .inl (cy 0, 2900, .inl M_rows)), ((rM 28), .inl (cy 0, 100, .inl M_sets)), ((rM 29), .inl (cy 0, 400, .inl M_whys)), ((rM 51), .inl (cy 0, 29, .inl M_nowThen)), ((rM 52), .inl (cy 0, 2900, .inl M_rowsThen)), ((rM 53), .inl (cy 0, 100, .inl M_setsThen)), ((rM 54), .inl (cy 0, 400, .inl M_whysThen)), ((rM 55), .inl (cy 0, 2, .inl M_statusThen))] := hD
  refine lv_aload_n hx hb dX11_image_5 rfl (lv_at hl 0 rfl) ?_
  refine lv_iconst (v := (1 : Int32)) hx hb dX11_image_6 (by decide) ?_
  refine pfX11_276 hx hb hts hown hK hP hD hS 0 rfl rfl dX11_image_7 (fun H locs hP hD hS => ?_)
  have hP : va_P D clsX [(h0, .inr (11, oX11 rM (upd (upd sM 2 (0 : Int32)) 48 (1 : Int32)))), ((rM 8), .inl (cy 0, 29, .inl M_now)), ((rM 10), .inl (cy 0, 2, .inl M_status)), ((rM 27), .inl (cy 0, 2900, .inl M_rows)), ((rM 28), .inl (cy 0, 100, .inl M_sets)), ((rM 29), .inl (cy 0, 400, .inl M_whys)), ((rM 51), .inl (cy 0, 29, .inl M_nowThen)), ((rM 52), .inl (cy 0, 2900, .inl M_rowsThen)), ((rM 53), .inl (cy 0, 100, .inl M_setsThen)), ((rM 54), .inl (cy 0, 400, .inl M_whysThen)), ((rM 55), .inl (cy 0, 2, .inl M_statusThen))] H := hP
  have hD : va_D A [(h0, .inr (11, oX11 rM (upd (upd sM 2 (0 : Int32)) 48 (1 : Int32)))), ((rM 8), .inl (cy 0, 29, .inl M_now)), ((rM 10), .inl (cy 0, 2, .inl M_status)), ((rM 27), .inl (cy 0, 2900, .inl M_rows)), ((rM 28), .inl (cy 0, 100, .inl M_sets)), ((rM 29), .inl (cy 0, 400, .inl M_whys)), ((rM 51), .inl (cy 0, 29, .inl M_nowThen)), ((rM 52), .inl (cy 0, 2900, .inl M_rowsThen)), ((rM 53), .inl (cy 0, 100, .inl M_setsThen)), ((rM 54), .inl (cy 0, 400, .inl M_whysThen)), ((rM 55), .inl (cy 0, 2, .inl M_statusThen))] := hD
  refine lv_aload_n hx hb dX11_image_10 rfl (lv_at hl 0 rfl) ?_
  refine lv_aload_n hx hb dX11_image_11 rfl (lv_at hl 0 rfl) ?_
  refine gfX11_270 (v := (sM 30)) hx hb hts hown hK hP 0 rfl rfl dX11_image_12 ?_
  refine lv_topi (fun f49_15 ef49_15 => ?_)
  have h := h f49_15 ef49_15
  refine pfX11_400 hx hb hts hown hK hP hD hS 0 rfl dX11_image_15 (fun H locs hP hD hS => ?_)
  have hP : va_P D clsX [(h0, .inr (11, oX11 rM (upd (upd (upd sM 2 (0 : Int32)) 48 (1 : Int32)) 49 f49_15))), ((rM 8), .inl (cy 0, 29, .inl M_now)), ((rM 10), .inl (cy 0, 2, .inl M_status)), ((rM 27), .inl (cy 0, 2900, .inl M_rows)), ((rM 28), .inl (cy 0, 100, .inl M_sets)), ((rM 29), .inl (cy 0, 400, .inl M_whys)), ((rM 51), .inl (cy 0, 29, .inl M_nowThen)), ((rM 52), .inl (cy 0, 2900, .inl M_rowsThen)), ((rM 53), .inl (cy 0, 100, .inl M_setsThen)), ((rM 54), .inl (cy 0, 400, .inl M_whysThen)), ((rM 55), .inl (cy 0, 2, .inl M_statusThen))] H := hP
  have hD : va_D A [(h0, .inr (11, oX11 rM (upd (upd (upd sM 2 (0 : Int32)) 48 (1 : Int32)) 49 f49_15))), ((rM 8), .inl (cy 0, 29, .inl M_now)), ((rM 10), .inl (cy 0, 2, .inl M_status)), ((rM 27), .inl (cy 0, 2900, .inl M_rows)), ((rM 28), .inl (cy 0, 100, .inl M_sets)), ((rM 29), .inl (cy 0, 400, .inl M_whys)), ((rM 51), .inl (cy 0, 29, .inl M_nowThen)), ((rM 52), .inl (cy 0, 2900, .inl M_rowsThen)), ((rM 53), .inl (cy 0, 100, .inl M_setsThen)), ((rM 54), .inl (cy 0, 400, .inl M_whysThen)), ((rM 55), .inl (cy 0, 2, .inl M_statusThen))] := hD
  refine lv_aload_n hx hb dX11_image_18 rfl (lv_at hl 0 rfl) ?_
  refine lv_aload_n hx hb dX11_image_19 rfl (lv_at hl 0 rfl) ?_
  refine gfX11_273 (v := (sM 31)) hx hb hts hown hK hP 0 rfl rfl dX11_image_20 ?_
  refine lv_topi (fun f50_23 ef50_23 => ?_)
  have h := h f50_23 ef50_23
  refine pfX11_403 hx hb hts hown hK hP hD hS 0 rfl dX11_image_23 (fun H locs hP hD hS => ?_)
  have hP : va_P D clsX [(h0, .inr (11, oX11 rM (upd (upd (upd (upd sM 2 (0 : Int32)) 48 (1 : Int32)) 49 f49_15) 50 f50_23))), ((rM 8), .inl (cy 0, 29, .inl M_now)), ((rM 10), .inl (cy 0, 2, .inl M_status)), ((rM 27), .inl (cy 0, 2900, .inl M_rows)), ((rM 28), .inl (cy 0, 100, .inl M_sets)), ((rM 29), .inl (cy 0, 400, .inl M_whys)), ((rM 51), .inl (cy 0, 29, .inl M_nowThen)), ((rM 52), .inl (cy 0, 2900, .inl M_rowsThen)), ((rM 53), .inl (cy 0, 100, .inl M_setsThen)), ((rM 54), .inl (cy 0, 400, .inl M_whysThen)), ((rM 55), .inl (cy 0, 2, .inl M_statusThen))] H := hP
  have hD : va_D A [(h0, .inr (11, oX11 rM (upd (upd (upd (upd sM 2 (0 : Int32)) 48 (1 : Int32)) 49 f49_15) 50 f50_23))), ((rM 8), .inl (cy 0, 29, .inl M_now)), ((rM 10), .inl (cy 0, 2, .inl M_status)), ((rM 27), .inl (cy 0, 2900, .inl M_rows)), ((rM 28), .inl (cy 0, 100, .inl M_sets)), ((rM 29), .inl (cy 0, 400, .inl M_whys)), ((rM 51), .inl (cy 0, 29, .inl M_nowThen)), ((rM 52), .inl (cy 0, 2900, .inl M_rowsThen)), ((rM 53), .inl (cy 0, 100, .inl M_setsThen)), ((rM 54), .inl (cy 0, 400, .inl M_whysThen)), ((rM 55), .inl (cy 0, 2, .inl M_statusThen))] := hD
  refine lv_aload_n hx hb dX11_image_26 rfl (lv_at hl 0 rfl) ?_
  refine gfX11_117 hx hb hts hown hK hP 0 rfl dX11_image_27 ?_
  refine lv_aload_n hx hb dX11_image_30 rfl (lv_at hl 0 rfl) ?_
  refine gfX11_52 hx hb hts hown hK hP 0 rfl dX11_image_31 ?_
  refine clSv (As := [.ref (rM 51), .ref (rM 8)]) (rest := []) (Wr := [(h0, .inr (11, oX11 rM (upd (upd (upd (upd sM 2 (0 : Int32)) 48 (1 : Int32)) 49 f49_15) 50 f50_23))), ((rM 10), .inl (cy 0, 2, .inl M_status)), ((rM 27), .inl (cy 0, 2900, .inl M_rows)), ((rM 28), .inl (cy 0, 100, .inl M_sets)), ((rM 29), .inl (cy 0, 400, .inl M_whys)), ((rM 52), .inl (cy 0, 2900, .inl M_rowsThen)), ((rM 53), .inl (cy 0, 100, .inl M_setsThen)), ((rM 54), .inl (cy 0, 400, .inl M_whysThen)), ((rM 55), .inl (cy 0, 2, .inl M_statusThen))]) ⟨hx, hb, hml, hown, hts⟩ ⟨callB_of 2 hts (goodC mw1445) rfl rfl rfl (hts _ (tb mw15)) (hts _ (tb mw1443)) kdX11_be ⟨Nat.le_trans (by decide) hRf, Nat.le_trans (by decide) hRl⟩, hts _ (tb mw1444)⟩ (ctX11_be l D cy ev (rM 51) (rM 8) M_nowThen M_now 29 29  _ _ h) hE hK hP hD hS hA [6, 1] [0, 2, 3, 4, 5, 7, 8, 9, 10] rfl rfl (by decide) (by decide) (by decide) rfl hl.1 rfl (Nat.le_of_ble_eq_true rfl) ⟨Nat.zero_le _, Nat.zero_le _⟩ dX11_image_34 (fun M_nowThen_34 H locs h hP hD hS => ?_)
  have hP : va_P D clsX [(h0, .inr (11, oX11 rM (upd (upd (upd (upd sM 2 (0 : Int32)) 48 (1 : Int32)) 49 f49_15) 50 f50_23))), ((rM 10), .inl (cy 0, 2, .inl M_status)), ((rM 27), .inl (cy 0, 2900, .inl M_rows)), ((rM 28), .inl (cy 0, 100, .inl M_sets)), ((rM 29), .inl (cy 0, 400, .inl M_whys)), ((rM 52), .inl (cy 0, 2900, .inl M_rowsThen)), ((rM 53), .inl (cy 0, 100, .inl M_setsThen)), ((rM 54), .inl (cy 0, 400, .inl M_whysThen)), ((rM 55), .inl (cy 0, 2, .inl M_statusThen)), ((rM 51), .inl (cy 0, 29, .inl M_nowThen_34)), ((rM 8), .inl (cy 0, 29, .inl M_now))] H := hP
  have hD : va_D A [(h0, .inr (11, oX11 rM (upd (upd (upd (upd sM 2 (0 : Int32)) 48 (1 : Int32)) 49 f49_15) 50 f50_23))), ((rM 10), .inl (cy 0, 2, .inl M_status)), ((rM 27), .inl (cy 0, 2900, .inl M_rows)), ((rM 28), .inl (cy 0, 100, .inl M_sets)), ((rM 29), .inl (cy 0, 400, .inl M_whys)), ((rM 52), .inl (cy 0, 2900, .inl M_rowsThen)), ((rM 53), .inl (cy 0, 100, .inl M_setsThen)), ((rM 54), .inl (cy 0, 400, .inl M_whysThen)), ((rM 55), .inl (cy 0, 2, .inl M_statusThen)), ((rM 51), .inl (cy 0, 29, .inl M_nowThen_34)), ((rM 8), .inl (cy 0, 29, .inl M_now))] := hD
  refine lv_aload_n hx hb dX11_image_37 rfl (lv_at hl 0 rfl) ?_
  refine gfX11_120 hx hb hts hown hK hP 0 rfl dX11_image_38 ?_
  refine lv_aload_n hx hb dX11_image_41 rfl (lv_at hl 0 rfl) ?_
  refine gfX11_78 hx hb hts hown hK hP 0 rfl dX11_image_42 ?_
  refine clSv (As := [.ref (rM 52), .ref (rM 27)]) (rest := []) (Wr := [(h0, .inr (11, oX11 rM (upd (upd (upd (upd sM 2 (0 : Int32)) 48 (1 : Int32)) 49 f49_15) 50 f50_23))), ((rM 10), .inl (cy 0, 2, .inl M_status)), ((rM 28), .inl (cy 0, 100, .inl M_sets)), ((rM 29), .inl (cy 0, 400, .inl M_whys)), ((rM 53), .inl (cy 0, 100, .inl M_setsThen)), ((rM 54), .inl (cy 0, 400, .inl M_whysThen)), ((rM 55), .inl (cy 0, 2, .inl M_statusThen)), ((rM 51), .inl (cy 0, 29, .inl M_nowThen_34)), ((rM 8), .inl (cy 0, 29, .inl M_now))]) ⟨hx, hb, hml, hown, hts⟩ ⟨callB_of 2 hts (goodC mw1445) rfl rfl rfl (hts _ (tb mw15)) (hts _ (tb mw1443)) kdX11_be ⟨Nat.le_trans (by decide) hRf, Nat.le_trans (by decide) hRl⟩, hts _ (tb mw1444)⟩ (ctX11_be l D cy ev (rM 52) (rM 27) M_rowsThen M_rows 2900 2900  _ _ h) hE hK hP hD hS hA [5, 2] [0, 1, 3, 4, 6, 7, 8, 9, 10] rfl rfl (by decide) (by decide) (by decide) rfl hl.1 rfl (Nat.le_of_ble_eq_true rfl) ⟨Nat.zero_le _, Nat.zero_le _⟩ dX11_image_45 (fun M_rowsThen_45 H locs h hP hD hS => ?_)
  have hP : va_P D clsX [(h0, .inr (11, oX11 rM (upd (upd (upd (upd sM 2 (0 : Int32)) 48 (1 : Int32)) 49 f49_15) 50 f50_23))), ((rM 10), .inl (cy 0, 2, .inl M_status)), ((rM 28), .inl (cy 0, 100, .inl M_sets)), ((rM 29), .inl (cy 0, 400, .inl M_whys)), ((rM 53), .inl (cy 0, 100, .inl M_setsThen)), ((rM 54), .inl (cy 0, 400, .inl M_whysThen)), ((rM 55), .inl (cy 0, 2, .inl M_statusThen)), ((rM 51), .inl (cy 0, 29, .inl M_nowThen_34)), ((rM 8), .inl (cy 0, 29, .inl M_now)), ((rM 52), .inl (cy 0, 2900, .inl M_rowsThen_45)), ((rM 27), .inl (cy 0, 2900, .inl M_rows))] H := hP
  have hD : va_D A [(h0, .inr (11, oX11 rM (upd (upd (upd (upd sM 2 (0 : Int32)) 48 (1 : Int32)) 49 f49_15) 50 f50_23))), ((rM 10), .inl (cy 0, 2, .inl M_status)), ((rM 28), .inl (cy 0, 100, .inl M_sets)), ((rM 29), .inl (cy 0, 400, .inl M_whys)), ((rM 53), .inl (cy 0, 100, .inl M_setsThen)), ((rM 54), .inl (cy 0, 400, .inl M_whysThen)), ((rM 55), .inl (cy 0, 2, .inl M_statusThen)), ((rM 51), .inl (cy 0, 29, .inl M_nowThen_34)), ((rM 8), .inl (cy 0, 29, .inl M_now)), ((rM 52), .inl (cy 0, 2900, .inl M_rowsThen_45)), ((rM 27), .inl (cy 0, 2900, .inl M_rows))] := hD
  refine lv_aload_n hx hb dX11_image_48 rfl (lv_at hl 0 rfl) ?_
  refine gfX11_123 hx hb hts hown hK hP 0 rfl dX11_image_49 ?_
  refine lv_aload_n hx hb dX11_image_52 rfl (lv_at hl 0 rfl) ?_
  refine gfX11_81 hx hb hts hown hK hP 0 rfl dX11_image_53 ?_
  refine clSv (As := [.ref (rM 53), .ref (rM 28)]) (rest := []) (Wr := [(h0, .inr (11, oX11 rM (upd (upd (upd (upd sM 2 (0 : Int32)) 48 (1 : Int32)) 49 f49_15) 50 f50_23))), ((rM 10), .inl (cy 0, 2, .inl M_status)), ((rM 29), .inl (cy 0, 400, .inl M_whys)), ((rM 54), .inl (cy 0, 400, .inl M_whysThen)), ((rM 55), .inl (cy 0, 2, .inl M_statusThen)), ((rM 51), .inl (cy 0, 29, .inl M_nowThen_34)), ((rM 8), .inl (cy 0, 29, .inl M_now)), ((rM 52), .inl (cy 0, 2900, .inl M_rowsThen_45)), ((rM 27), .inl (cy 0, 2900, .inl M_rows))]) ⟨hx, hb, hml, hown, hts⟩ ⟨callB_of 2 hts (goodC mw1445) rfl rfl rfl (hts _ (tb mw15)) (hts _ (tb mw1443)) kdX11_be ⟨Nat.le_trans (by decide) hRf, Nat.le_trans (by decide) hRl⟩, hts _ (tb mw1444)⟩ (ctX11_be l D cy ev (rM 53) (rM 28) M_setsThen M_sets 100 100  _ _ h) hE hK hP hD hS hA [4, 2] [0, 1, 3, 5, 6, 7, 8, 9, 10] rfl rfl (by decide) (by decide) (by decide) rfl hl.1 rfl (Nat.le_of_ble_eq_true rfl) ⟨Nat.zero_le _, Nat.zero_le _⟩ dX11_image_56 (fun M_setsThen_56 H locs h hP hD hS => ?_)
  have hP : va_P D clsX [(h0, .inr (11, oX11 rM (upd (upd (upd (upd sM 2 (0 : Int32)) 48 (1 : Int32)) 49 f49_15) 50 f50_23))), ((rM 10), .inl (cy 0, 2, .inl M_status)), ((rM 29), .inl (cy 0, 400, .inl M_whys)), ((rM 54), .inl (cy 0, 400, .inl M_whysThen)), ((rM 55), .inl (cy 0, 2, .inl M_statusThen)), ((rM 51), .inl (cy 0, 29, .inl M_nowThen_34)), ((rM 8), .inl (cy 0, 29, .inl M_now)), ((rM 52), .inl (cy 0, 2900, .inl M_rowsThen_45)), ((rM 27), .inl (cy 0, 2900, .inl M_rows)), ((rM 53), .inl (cy 0, 100, .inl M_setsThen_56)), ((rM 28), .inl (cy 0, 100, .inl M_sets))] H := hP
  have hD : va_D A [(h0, .inr (11, oX11 rM (upd (upd (upd (upd sM 2 (0 : Int32)) 48 (1 : Int32)) 49 f49_15) 50 f50_23))), ((rM 10), .inl (cy 0, 2, .inl M_status)), ((rM 29), .inl (cy 0, 400, .inl M_whys)), ((rM 54), .inl (cy 0, 400, .inl M_whysThen)), ((rM 55), .inl (cy 0, 2, .inl M_statusThen)), ((rM 51), .inl (cy 0, 29, .inl M_nowThen_34)), ((rM 8), .inl (cy 0, 29, .inl M_now)), ((rM 52), .inl (cy 0, 2900, .inl M_rowsThen_45)), ((rM 27), .inl (cy 0, 2900, .inl M_rows)), ((rM 53), .inl (cy 0, 100, .inl M_setsThen_56)), ((rM 28), .inl (cy 0, 100, .inl M_sets))] := hD
  refine lv_aload_n hx hb dX11_image_59 rfl (lv_at hl 0 rfl) ?_
  refine gfX11_126 hx hb hts hown hK hP 0 rfl dX11_image_60 ?_
  refine lv_aload_n hx hb dX11_image_63 rfl (lv_at hl 0 rfl) ?_
  refine gfX11_84 hx hb hts hown hK hP 0 rfl dX11_image_64 ?_
  refine clSv (As := [.ref (rM 54), .ref (rM 29)]) (rest := []) (Wr := [(h0, .inr (11, oX11 rM (upd (upd (upd (upd sM 2 (0 : Int32)) 48 (1 : Int32)) 49 f49_15) 50 f50_23))), ((rM 10), .inl (cy 0, 2, .inl M_status)), ((rM 55), .inl (cy 0, 2, .inl M_statusThen)), ((rM 51), .inl (cy 0, 29, .inl M_nowThen_34)), ((rM 8), .inl (cy 0, 29, .inl M_now)), ((rM 52), .inl (cy 0, 2900, .inl M_rowsThen_45)), ((rM 27), .inl (cy 0, 2900, .inl M_rows)), ((rM 53), .inl (cy 0, 100, .inl M_setsThen_56)), ((rM 28), .inl (cy 0, 100, .inl M_sets))]) ⟨hx, hb, hml, hown, hts⟩ ⟨callB_of 2 hts (goodC mw1445) rfl rfl rfl (hts _ (tb mw15)) (hts _ (tb mw1443)) kdX11_be ⟨Nat.le_trans (by decide) hRf, Nat.le_trans (by decide) hRl⟩, hts _ (tb mw1444)⟩ (ctX11_be l D cy ev (rM 54) (rM 29) M_whysThen M_whys 400 400  _ _ h) hE hK hP hD hS hA [3, 2] [0, 1, 4, 5, 6, 7, 8, 9, 10] rfl rfl (by decide) (by decide) (by decide) rfl hl.1 rfl (Nat.le_of_ble_eq_true rfl) ⟨Nat.zero_le _, Nat.zero_le _⟩ dX11_image_67 (fun M_whysThen_67 H locs h hP hD hS => ?_)
  have hP : va_P D clsX [(h0, .inr (11, oX11 rM (upd (upd (upd (upd sM 2 (0 : Int32)) 48 (1 : Int32)) 49 f49_15) 50 f50_23))), ((rM 10), .inl (cy 0, 2, .inl M_status)), ((rM 55), .inl (cy 0, 2, .inl M_statusThen)), ((rM 51), .inl (cy 0, 29, .inl M_nowThen_34)), ((rM 8), .inl (cy 0, 29, .inl M_now)), ((rM 52), .inl (cy 0, 2900, .inl M_rowsThen_45)), ((rM 27), .inl (cy 0, 2900, .inl M_rows)), ((rM 53), .inl (cy 0, 100, .inl M_setsThen_56)), ((rM 28), .inl (cy 0, 100, .inl M_sets)), ((rM 54), .inl (cy 0, 400, .inl M_whysThen_67)), ((rM 29), .inl (cy 0, 400, .inl M_whys))] H := hP
  have hD : va_D A [(h0, .inr (11, oX11 rM (upd (upd (upd (upd sM 2 (0 : Int32)) 48 (1 : Int32)) 49 f49_15) 50 f50_23))), ((rM 10), .inl (cy 0, 2, .inl M_status)), ((rM 55), .inl (cy 0, 2, .inl M_statusThen)), ((rM 51), .inl (cy 0, 29, .inl M_nowThen_34)), ((rM 8), .inl (cy 0, 29, .inl M_now)), ((rM 52), .inl (cy 0, 2900, .inl M_rowsThen_45)), ((rM 27), .inl (cy 0, 2900, .inl M_rows)), ((rM 53), .inl (cy 0, 100, .inl M_setsThen_56)), ((rM 28), .inl (cy 0, 100, .inl M_sets)), ((rM 54), .inl (cy 0, 400, .inl M_whysThen_67)), ((rM 29), .inl (cy 0, 400, .inl M_whys))] := hD
  refine lv_aload_n hx hb dX11_image_70 rfl (lv_at hl 0 rfl) ?_
  refine gfX11_129 hx hb hts hown hK hP 0 rfl dX11_image_71 ?_
  refine lv_aload_n hx hb dX11_image_74 rfl (lv_at hl 0 rfl) ?_
  refine gfX11_58 hx hb hts hown hK hP 0 rfl dX11_image_75 ?_
  refine clSv (As := [.ref (rM 55), .ref (rM 10)]) (rest := []) (Wr := [(h0, .inr (11, oX11 rM (upd (upd (upd (upd sM 2 (0 : Int32)) 48 (1 : Int32)) 49 f49_15) 50 f50_23))), ((rM 51), .inl (cy 0, 29, .inl M_nowThen_34)), ((rM 8), .inl (cy 0, 29, .inl M_now)), ((rM 52), .inl (cy 0, 2900, .inl M_rowsThen_45)), ((rM 27), .inl (cy 0, 2900, .inl M_rows)), ((rM 53), .inl (cy 0, 100, .inl M_setsThen_56)), ((rM 28), .inl (cy 0, 100, .inl M_sets)), ((rM 54), .inl (cy 0, 400, .inl M_whysThen_67)), ((rM 29), .inl (cy 0, 400, .inl M_whys))]) ⟨hx, hb, hml, hown, hts⟩ ⟨callB_of 2 hts (goodC mw1445) rfl rfl rfl (hts _ (tb mw15)) (hts _ (tb mw1443)) kdX11_be ⟨Nat.le_trans (by decide) hRf, Nat.le_trans (by decide) hRl⟩, hts _ (tb mw1444)⟩ (ctX11_be l D cy ev (rM 55) (rM 10) M_statusThen M_status 2 2  _ _ h) hE hK hP hD hS hA [2, 1] [0, 3, 4, 5, 6, 7, 8, 9, 10] rfl rfl (by decide) (by decide) (by decide) rfl hl.1 rfl (Nat.le_of_ble_eq_true rfl) ⟨Nat.zero_le _, Nat.zero_le _⟩ dX11_image_78 (fun M_statusThen_78 H locs h hP hD hS => ?_)
  have hP : va_P D clsX [(h0, .inr (11, oX11 rM (upd (upd (upd (upd sM 2 (0 : Int32)) 48 (1 : Int32)) 49 f49_15) 50 f50_23))), ((rM 51), .inl (cy 0, 29, .inl M_nowThen_34)), ((rM 8), .inl (cy 0, 29, .inl M_now)), ((rM 52), .inl (cy 0, 2900, .inl M_rowsThen_45)), ((rM 27), .inl (cy 0, 2900, .inl M_rows)), ((rM 53), .inl (cy 0, 100, .inl M_setsThen_56)), ((rM 28), .inl (cy 0, 100, .inl M_sets)), ((rM 54), .inl (cy 0, 400, .inl M_whysThen_67)), ((rM 29), .inl (cy 0, 400, .inl M_whys)), ((rM 55), .inl (cy 0, 2, .inl M_statusThen_78)), ((rM 10), .inl (cy 0, 2, .inl M_status))] H := hP
  have hD : va_D A [(h0, .inr (11, oX11 rM (upd (upd (upd (upd sM 2 (0 : Int32)) 48 (1 : Int32)) 49 f49_15) 50 f50_23))), ((rM 51), .inl (cy 0, 29, .inl M_nowThen_34)), ((rM 8), .inl (cy 0, 29, .inl M_now)), ((rM 52), .inl (cy 0, 2900, .inl M_rowsThen_45)), ((rM 27), .inl (cy 0, 2900, .inl M_rows)), ((rM 53), .inl (cy 0, 100, .inl M_setsThen_56)), ((rM 28), .inl (cy 0, 100, .inl M_sets)), ((rM 54), .inl (cy 0, 400, .inl M_whysThen_67)), ((rM 29), .inl (cy 0, 400, .inl M_whys)), ((rM 55), .inl (cy 0, 2, .inl M_statusThen_78)), ((rM 10), .inl (cy 0, 2, .inl M_status))] := hD
  exact hret ((upd (upd (upd (upd sM 2 (0 : Int32)) 48 (1 : Int32)) 49 f49_15) 50 f50_23), M_nowThen_34, M_rowsThen_45, M_setsThen_56, M_whysThen_67, M_statusThen_78) _ _ _ _ dX11_image_81 h (hP.sub [0, 2, 10, 4, 6, 8, 1, 3, 5, 7, 9] rfl) (hD.sub [0, 2, 10, 4, 6, 8, 1, 3, 5, 7, 9] (by decide) rfl) hS
def wpX11_restore (sM : AR) (M_now : AR) (M_status : AR) (M_rows : AR) (M_sets : AR) (M_whys : AR) (M_nowThen : AR) (M_rowsThen : AR) (M_setsThen : AR) (M_whysThen : AR) (M_statusThen : AR) (post : Int32 → AR → AR → AR → AR → AR → AR → Prop) : Prop := ((¬ (sM 48) = 0 → ∀ f30_19 : Int32, f30_19 = (sM 49) → ∀ f31_27 : Int32, f31_27 = (sM 50) → wpX11_be M_now M_nowThen 29 29 (fun M_now_38 => wpX11_be M_rows M_rowsThen 2900 2900 (fun M_rows_49 => wpX11_be M_sets M_setsThen 100 100 (fun M_sets_60 => wpX11_be M_whys M_whysThen 400 400 (fun M_whys_71 => wpX11_be M_status M_statusThen 2 2 (fun M_status_82 => post (1 : Int32) (upd (upd (upd sM 2 (0 : Int32)) 30 f30_19) 31 f31_27) M_now_38 M_status_82 M_rows_49 M_sets_60 M_whys_71)))))) ∧ ((sM 48) = 0 → post (0 : Int32) (upd sM 2 (0 : Int32)) M_now M_status M_rows M_sets M_whys))
set_option maxHeartbeats 4000000 in
set_option maxRecDepth 100000 in
theorem ctX11_restore (l : Launch) (D : va_G) (cy : Nat → ClassId) (ev : Nat → Nat) (h0 : Nat) (rM : Nat → Nat) (sM : AR) (M_now : AR) (M_status : AR) (M_rows : AR) (M_sets : AR) (M_whys : AR) (M_nowThen : AR) (M_rowsThen : AR) (M_setsThen : AR) (M_whysThen : AR) (M_statusThen : AR) (sz : Nat) (post : Int32 → AR → AR → AR → AR → AR → AR → Prop) (h : wpX11_restore sM M_now M_status M_rows M_sets M_whys M_nowThen M_rowsThen M_setsThen M_whysThen M_statusThen post) : Met l yX11_restore (Cond.code yX11_restore cX11_restore 1 (some .boolean) :: TB) ({ frames := 1, cells := 0, slots := 0, locals := 22 }) (va_Pc [.ref h0] (PreX D cy ev [(h0, .inr (11, oX11 rM sM)), ((rM 8), .inl (cy 0, 29, .inl M_now)), ((rM 10), .inl (cy 0, 2, .inl M_status)), ((rM 27), .inl (cy 0, 2900, .inl M_rows)), ((rM 28), .inl (cy 0, 100, .inl M_sets)), ((rM 29), .inl (cy 0, 400, .inl M_whys)), ((rM 51), .inl (cy 0, 29, .inl M_nowThen)), ((rM 52), .inl (cy 0, 2900, .inl M_rowsThen)), ((rM 53), .inl (cy 0, 100, .inl M_setsThen)), ((rM 54), .inl (cy 0, 400, .inl M_whysThen)), ((rM 55), .inl (cy 0, 2, .inl M_statusThen))] sz)) (va_Qi (fun (r : Int32) (u : AR × AR × AR × AR × AR × AR) => post r (u.1) (u.2.1) (u.2.2.1) (u.2.2.2.1) (u.2.2.2.2.1) (u.2.2.2.2.2)) (fun u => BkX D cy [(h0, .inr (11, oX11 rM sM)), ((rM 8), .inl (cy 0, 29, .inl M_now)), ((rM 10), .inl (cy 0, 2, .inl M_status)), ((rM 27), .inl (cy 0, 2900, .inl M_rows)), ((rM 28), .inl (cy 0, 100, .inl M_sets)), ((rM 29), .inl (cy 0, 400, .inl M_whys)), ((rM 51), .inl (cy 0, 29, .inl M_nowThen)), ((rM 52), .inl (cy 0, 2900, .inl M_rowsThen)), ((rM 53), .inl (cy 0, 100, .inl M_setsThen)), ((rM 54), .inl (cy 0, 400, .inl M_whysThen)), ((rM 55), .inl (cy 0, 2, .inl M_statusThen))] sz [(h0, .inr (11, oX11 rM (u.1))), ((rM 8), .inl (cy 0, 29, .inl (u.2.1))), ((rM 10), .inl (cy 0, 2, .inl (u.2.2.1))), ((rM 27), .inl (cy 0, 2900, .inl (u.2.2.2.1))), ((rM 28), .inl (cy 0, 100, .inl (u.2.2.2.2.1))), ((rM 29), .inl (cy 0, 400, .inl (u.2.2.2.2.2))), ((rM 51), .inl (cy 0, 29, .inl M_nowThen)), ((rM 52), .inl (cy 0, 2900, .inl M_rowsThen)), ((rM 53), .inl (cy 0, 100, .inl M_setsThen)), ((rM 54), .inl (cy 0, 400, .inl M_whysThen)), ((rM 55), .inl (cy 0, 2, .inl M_statusThen))]) (va_A [(h0, .inr (11, oX11 rM sM)), ((rM 8), .inl (cy 0, 29, .inl M_now)), ((rM 10), .inl (cy 0, 2, .inl M_status)), ((rM 27), .inl (cy 0, 2900, .inl M_rows)), ((rM 28), .inl (cy 0, 100, .inl M_sets)), ((rM 29), .inl (cy 0, 400, .inl M_whys)), ((rM 51), .inl (cy 0, 29, .inl M_nowThen)), ((rM 52), .inl (cy 0, 2900, .inl M_rowsThen)), ((rM 53), .inl (cy 0, 100, .inl M_setsThen)), ((rM 54), .inl (cy 0, 400, .inl M_whysThen)), ((rM 55), .inl (cy 0, 2, .inl M_statusThen))] sz)) 0 0 (va_A [(h0, .inr (11, oX11 rM sM)), ((rM 8), .inl (cy 0, 29, .inl M_now)), ((rM 10), .inl (cy 0, 2, .inl M_status)), ((rM 27), .inl (cy 0, 2900, .inl M_rows)), ((rM 28), .inl (cy 0, 100, .inl M_sets)), ((rM 29), .inl (cy 0, 400, .inl M_whys)), ((rM 51), .inl (cy 0, 29, .inl M_nowThen)), ((rM 52), .inl (cy 0, 2900, .inl M_rowsThen)), ((rM 53), .inl (cy 0, 100, .inl M_setsThen)), ((rM 54), .inl (cy 0, 400, .inl M_whysThen)), ((rM 55), .inl (cy 0, 2, .inl M_statusThen))] sz) := by
  refine ofWi (by decide) (Nat.le_of_ble_eq_true rfl) ?_
  intro p e s m args below meth c ls A R QQ hx hb hml hown hts hR hlk hE hK hP hD hS hA hl hret
  have hown : s.vm.findClass RX11 = some m.cls := hown
  have hRf : 1 ≤ R.frames := by rw [hR]; exact Nat.le_refl _
  have hRl : 22 ≤ R.locals := by rw [hR]; exact Nat.le_refl _
  clear hR
  have hl : lv_has ls 1 [(0, .ref h0)] := hl
  refine lv_aload_n hx hb dX11_restore_0 rfl (lv_at hl 0 rfl) ?_
  refine lv_iconst (v := (0 : Int32)) hx hb dX11_restore_1 (by decide) ?_
  refine pfX11_132 hx hb hts hown hK hP hD hS 0 rfl dX11_restore_2 (fun H locs hP hD hS => ?_)
  have hP : va_P D clsX [(h0, .inr (11, oX11 rM (upd sM 2 (0 : Int32)))), ((rM 8), .inl (cy 0, 29, .inl M_now)), ((rM 10), .inl (cy 0, 2, .inl M_status)), ((rM 27), .inl (cy 0, 2900, .inl M_rows)), ((rM 28), .inl (cy 0, 100, .inl M_sets)), ((rM 29), .inl (cy 0, 400, .inl M_whys)), ((rM 51), .inl (cy 0, 29, .inl M_nowThen)), ((rM 52), .inl (cy 0, 2900, .inl M_rowsThen)), ((rM 53), .inl (cy 0, 100, .inl M_setsThen)), ((rM 54), .inl (cy 0, 400, .inl M_whysThen)), ((rM 55), .inl (cy 0, 2, .inl M_statusThen))] H := hP
  have hD : va_D A [(h0, .inr (11, oX11 rM (upd sM 2 (0 : Int32)))), ((rM 8), .inl (cy 0, 29, .inl M_now)), ((rM 10), .inl (cy 0, 2, .inl M_status)), ((rM 27), .inl (cy 0, 2900, .inl M_rows)), ((rM 28), .inl (cy 0, 100, .inl M_sets)), ((rM 29), .inl (cy 0, 400, .inl M_whys)), ((rM 51), .inl (cy 0, 29, .inl M_nowThen)), ((rM 52), .inl (cy 0, 2900, .inl M_rowsThen)), ((rM 53), .inl (cy 0, 100, .inl M_setsThen)), ((rM 54), .inl (cy 0, 400, .inl M_whysThen)), ((rM 55), .inl (cy 0, 2, .inl M_statusThen))] := hD
  refine lv_aload_n hx hb dX11_restore_5 rfl (lv_at hl 0 rfl) ?_
  refine gfX11_276 (v := (sM 48)) hx hb hts hown hK hP 0 rfl rfl dX11_restore_6 ?_
  refine lv_if_ne (tgt := 14) hx hb dX11_restore_9 (by decide) (fun c9 => ?_) (fun c9 => ?_)
  · have h := h.1 c9
    refine lv_aload_n hx hb dX11_restore_14 rfl (lv_at hl 0 rfl) ?_
    refine lv_aload_n hx hb dX11_restore_15 rfl (lv_at hl 0 rfl) ?_
    refine gfX11_400 (v := (sM 49)) hx hb hts hown hK hP 0 rfl rfl dX11_restore_16 ?_
    refine lv_topi (fun f30_19 ef30_19 => ?_)
    have h := h f30_19 ef30_19
    refine pfX11_270 hx hb hts hown hK hP hD hS 0 rfl dX11_restore_19 (fun H locs hP hD hS => ?_)
    have hP : va_P D clsX [(h0, .inr (11, oX11 rM (upd (upd sM 2 (0 : Int32)) 30 f30_19))), ((rM 8), .inl (cy 0, 29, .inl M_now)), ((rM 10), .inl (cy 0, 2, .inl M_status)), ((rM 27), .inl (cy 0, 2900, .inl M_rows)), ((rM 28), .inl (cy 0, 100, .inl M_sets)), ((rM 29), .inl (cy 0, 400, .inl M_whys)), ((rM 51), .inl (cy 0, 29, .inl M_nowThen)), ((rM 52), .inl (cy 0, 2900, .inl M_rowsThen)), ((rM 53), .inl (cy 0, 100, .inl M_setsThen)), ((rM 54), .inl (cy 0, 400, .inl M_whysThen)), ((rM 55), .inl (cy 0, 2, .inl M_statusThen))] H := hP
    have hD : va_D A [(h0, .inr (11, oX11 rM (upd (upd sM 2 (0 : Int32)) 30 f30_19))), ((rM 8), .inl (cy 0, 29, .inl M_now)), ((rM 10), .inl (cy 0, 2, .inl M_status)), ((rM 27), .inl (cy 0, 2900, .inl M_rows)), ((rM 28), .inl (cy 0, 100, .inl M_sets)), ((rM 29), .inl (cy 0, 400, .inl M_whys)), ((rM 51), .inl (cy 0, 29, .inl M_nowThen)), ((rM 52), .inl (cy 0, 2900, .inl M_rowsThen)), ((rM 53), .inl (cy 0, 100, .inl M_setsThen)), ((rM 54), .inl (cy 0, 400, .inl M_whysThen)), ((rM 55), .inl (cy 0, 2, .inl M_statusThen))] := hD
    refine lv_aload_n hx hb dX11_restore_22 rfl (lv_at hl 0 rfl) ?_
    refine lv_aload_n hx hb dX11_restore_23 rfl (lv_at hl 0 rfl) ?_
    refine gfX11_403 (v := (sM 50)) hx hb hts hown hK hP 0 rfl rfl dX11_restore_24 ?_
    refine lv_topi (fun f31_27 ef31_27 => ?_)
    have h := h f31_27 ef31_27
    refine pfX11_273 hx hb hts hown hK hP hD hS 0 rfl dX11_restore_27 (fun H locs hP hD hS => ?_)
    have hP : va_P D clsX [(h0, .inr (11, oX11 rM (upd (upd (upd sM 2 (0 : Int32)) 30 f30_19) 31 f31_27))), ((rM 8), .inl (cy 0, 29, .inl M_now)), ((rM 10), .inl (cy 0, 2, .inl M_status)), ((rM 27), .inl (cy 0, 2900, .inl M_rows)), ((rM 28), .inl (cy 0, 100, .inl M_sets)), ((rM 29), .inl (cy 0, 400, .inl M_whys)), ((rM 51), .inl (cy 0, 29, .inl M_nowThen)), ((rM 52), .inl (cy 0, 2900, .inl M_rowsThen)), ((rM 53), .inl (cy 0, 100, .inl M_setsThen)), ((rM 54), .inl (cy 0, 400, .inl M_whysThen)), ((rM 55), .inl (cy 0, 2, .inl M_statusThen))] H := hP
    have hD : va_D A [(h0, .inr (11, oX11 rM (upd (upd (upd sM 2 (0 : Int32)) 30 f30_19) 31 f31_27))), ((rM 8), .inl (cy 0, 29, .inl M_now)), ((rM 10), .inl (cy 0, 2, .inl M_status)), ((rM 27), .inl (cy 0, 2900, .inl M_rows)), ((rM 28), .inl (cy 0, 100, .inl M_sets)), ((rM 29), .inl (cy 0, 400, .inl M_whys)), ((rM 51), .inl (cy 0, 29, .inl M_nowThen)), ((rM 52), .inl (cy 0, 2900, .inl M_rowsThen)), ((rM 53), .inl (cy 0, 100, .inl M_setsThen)), ((rM 54), .inl (cy 0, 400, .inl M_whysThen)), ((rM 55), .inl (cy 0, 2, .inl M_statusThen))] := hD
    refine lv_aload_n hx hb dX11_restore_30 rfl (lv_at hl 0 rfl) ?_
    refine gfX11_52 hx hb hts hown hK hP 0 rfl dX11_restore_31 ?_
    refine lv_aload_n hx hb dX11_restore_34 rfl (lv_at hl 0 rfl) ?_
    refine gfX11_117 hx hb hts hown hK hP 0 rfl dX11_restore_35 ?_
    refine clSv (As := [.ref (rM 8), .ref (rM 51)]) (rest := []) (Wr := [(h0, .inr (11, oX11 rM (upd (upd (upd sM 2 (0 : Int32)) 30 f30_19) 31 f31_27))), ((rM 10), .inl (cy 0, 2, .inl M_status)), ((rM 27), .inl (cy 0, 2900, .inl M_rows)), ((rM 28), .inl (cy 0, 100, .inl M_sets)), ((rM 29), .inl (cy 0, 400, .inl M_whys)), ((rM 52), .inl (cy 0, 2900, .inl M_rowsThen)), ((rM 53), .inl (cy 0, 100, .inl M_setsThen)), ((rM 54), .inl (cy 0, 400, .inl M_whysThen)), ((rM 55), .inl (cy 0, 2, .inl M_statusThen))]) ⟨hx, hb, hml, hown, hts⟩ ⟨callB_of 2 hts (goodC mw1445) rfl rfl rfl (hts _ (tb mw15)) (hts _ (tb mw1443)) kdX11_be ⟨Nat.le_trans (by decide) hRf, Nat.le_trans (by decide) hRl⟩, hts _ (tb mw1444)⟩ (ctX11_be l D cy ev (rM 8) (rM 51) M_now M_nowThen 29 29  _ _ h) hE hK hP hD hS hA [1, 6] [0, 2, 3, 4, 5, 7, 8, 9, 10] rfl rfl (by decide) (by decide) (by decide) rfl hl.1 rfl (Nat.le_of_ble_eq_true rfl) ⟨Nat.zero_le _, Nat.zero_le _⟩ dX11_restore_38 (fun M_now_38 H locs h hP hD hS => ?_)
    have hP : va_P D clsX [(h0, .inr (11, oX11 rM (upd (upd (upd sM 2 (0 : Int32)) 30 f30_19) 31 f31_27))), ((rM 10), .inl (cy 0, 2, .inl M_status)), ((rM 27), .inl (cy 0, 2900, .inl M_rows)), ((rM 28), .inl (cy 0, 100, .inl M_sets)), ((rM 29), .inl (cy 0, 400, .inl M_whys)), ((rM 52), .inl (cy 0, 2900, .inl M_rowsThen)), ((rM 53), .inl (cy 0, 100, .inl M_setsThen)), ((rM 54), .inl (cy 0, 400, .inl M_whysThen)), ((rM 55), .inl (cy 0, 2, .inl M_statusThen)), ((rM 8), .inl (cy 0, 29, .inl M_now_38)), ((rM 51), .inl (cy 0, 29, .inl M_nowThen))] H := hP
    have hD : va_D A [(h0, .inr (11, oX11 rM (upd (upd (upd sM 2 (0 : Int32)) 30 f30_19) 31 f31_27))), ((rM 10), .inl (cy 0, 2, .inl M_status)), ((rM 27), .inl (cy 0, 2900, .inl M_rows)), ((rM 28), .inl (cy 0, 100, .inl M_sets)), ((rM 29), .inl (cy 0, 400, .inl M_whys)), ((rM 52), .inl (cy 0, 2900, .inl M_rowsThen)), ((rM 53), .inl (cy 0, 100, .inl M_setsThen)), ((rM 54), .inl (cy 0, 400, .inl M_whysThen)), ((rM 55), .inl (cy 0, 2, .inl M_statusThen)), ((rM 8), .inl (cy 0, 29, .inl M_now_38)), ((rM 51), .inl (cy 0, 29, .inl M_nowThen))] := hD
    refine lv_aload_n hx hb dX11_restore_41 rfl (lv_at hl 0 rfl) ?_
    refine gfX11_78 hx hb hts hown hK hP 0 rfl dX11_restore_42 ?_
    refine lv_aload_n hx hb dX11_restore_45 rfl (lv_at hl 0 rfl) ?_
    refine gfX11_120 hx hb hts hown hK hP 0 rfl dX11_restore_46 ?_
    refine clSv (As := [.ref (rM 27), .ref (rM 52)]) (rest := []) (Wr := [(h0, .inr (11, oX11 rM (upd (upd (upd sM 2 (0 : Int32)) 30 f30_19) 31 f31_27))), ((rM 10), .inl (cy 0, 2, .inl M_status)), ((rM 28), .inl (cy 0, 100, .inl M_sets)), ((rM 29), .inl (cy 0, 400, .inl M_whys)), ((rM 53), .inl (cy 0, 100, .inl M_setsThen)), ((rM 54), .inl (cy 0, 400, .inl M_whysThen)), ((rM 55), .inl (cy 0, 2, .inl M_statusThen)), ((rM 8), .inl (cy 0, 29, .inl M_now_38)), ((rM 51), .inl (cy 0, 29, .inl M_nowThen))]) ⟨hx, hb, hml, hown, hts⟩ ⟨callB_of 2 hts (goodC mw1445) rfl rfl rfl (hts _ (tb mw15)) (hts _ (tb mw1443)) kdX11_be ⟨Nat.le_trans (by decide) hRf, Nat.le_trans (by decide) hRl⟩, hts _ (tb mw1444)⟩ (ctX11_be l D cy ev (rM 27) (rM 52) M_rows M_rowsThen 2900 2900  _ _ h) hE hK hP hD hS hA [2, 5] [0, 1, 3, 4, 6, 7, 8, 9, 10] rfl rfl (by decide) (by decide) (by decide) rfl hl.1 rfl (Nat.le_of_ble_eq_true rfl) ⟨Nat.zero_le _, Nat.zero_le _⟩ dX11_restore_49 (fun M_rows_49 H locs h hP hD hS => ?_)
    have hP : va_P D clsX [(h0, .inr (11, oX11 rM (upd (upd (upd sM 2 (0 : Int32)) 30 f30_19) 31 f31_27))), ((rM 10), .inl (cy 0, 2, .inl M_status)), ((rM 28), .inl (cy 0, 100, .inl M_sets)), ((rM 29), .inl (cy 0, 400, .inl M_whys)), ((rM 53), .inl (cy 0, 100, .inl M_setsThen)), ((rM 54), .inl (cy 0, 400, .inl M_whysThen)), ((rM 55), .inl (cy 0, 2, .inl M_statusThen)), ((rM 8), .inl (cy 0, 29, .inl M_now_38)), ((rM 51), .inl (cy 0, 29, .inl M_nowThen)), ((rM 27), .inl (cy 0, 2900, .inl M_rows_49)), ((rM 52), .inl (cy 0, 2900, .inl M_rowsThen))] H := hP
    have hD : va_D A [(h0, .inr (11, oX11 rM (upd (upd (upd sM 2 (0 : Int32)) 30 f30_19) 31 f31_27))), ((rM 10), .inl (cy 0, 2, .inl M_status)), ((rM 28), .inl (cy 0, 100, .inl M_sets)), ((rM 29), .inl (cy 0, 400, .inl M_whys)), ((rM 53), .inl (cy 0, 100, .inl M_setsThen)), ((rM 54), .inl (cy 0, 400, .inl M_whysThen)), ((rM 55), .inl (cy 0, 2, .inl M_statusThen)), ((rM 8), .inl (cy 0, 29, .inl M_now_38)), ((rM 51), .inl (cy 0, 29, .inl M_nowThen)), ((rM 27), .inl (cy 0, 2900, .inl M_rows_49)), ((rM 52), .inl (cy 0, 2900, .inl M_rowsThen))] := hD
    refine lv_aload_n hx hb dX11_restore_52 rfl (lv_at hl 0 rfl) ?_
    refine gfX11_81 hx hb hts hown hK hP 0 rfl dX11_restore_53 ?_
    refine lv_aload_n hx hb dX11_restore_56 rfl (lv_at hl 0 rfl) ?_
    refine gfX11_123 hx hb hts hown hK hP 0 rfl dX11_restore_57 ?_
    refine clSv (As := [.ref (rM 28), .ref (rM 53)]) (rest := []) (Wr := [(h0, .inr (11, oX11 rM (upd (upd (upd sM 2 (0 : Int32)) 30 f30_19) 31 f31_27))), ((rM 10), .inl (cy 0, 2, .inl M_status)), ((rM 29), .inl (cy 0, 400, .inl M_whys)), ((rM 54), .inl (cy 0, 400, .inl M_whysThen)), ((rM 55), .inl (cy 0, 2, .inl M_statusThen)), ((rM 8), .inl (cy 0, 29, .inl M_now_38)), ((rM 51), .inl (cy 0, 29, .inl M_nowThen)), ((rM 27), .inl (cy 0, 2900, .inl M_rows_49)), ((rM 52), .inl (cy 0, 2900, .inl M_rowsThen))]) ⟨hx, hb, hml, hown, hts⟩ ⟨callB_of 2 hts (goodC mw1445) rfl rfl rfl (hts _ (tb mw15)) (hts _ (tb mw1443)) kdX11_be ⟨Nat.le_trans (by decide) hRf, Nat.le_trans (by decide) hRl⟩, hts _ (tb mw1444)⟩ (ctX11_be l D cy ev (rM 28) (rM 53) M_sets M_setsThen 100 100  _ _ h) hE hK hP hD hS hA [2, 4] [0, 1, 3, 5, 6, 7, 8, 9, 10] rfl rfl (by decide) (by decide) (by decide) rfl hl.1 rfl (Nat.le_of_ble_eq_true rfl) ⟨Nat.zero_le _, Nat.zero_le _⟩ dX11_restore_60 (fun M_sets_60 H locs h hP hD hS => ?_)
    have hP : va_P D clsX [(h0, .inr (11, oX11 rM (upd (upd (upd sM 2 (0 : Int32)) 30 f30_19) 31 f31_27))), ((rM 10), .inl (cy 0, 2, .inl M_status)), ((rM 29), .inl (cy 0, 400, .inl M_whys)), ((rM 54), .inl (cy 0, 400, .inl M_whysThen)), ((rM 55), .inl (cy 0, 2, .inl M_statusThen)), ((rM 8), .inl (cy 0, 29, .inl M_now_38)), ((rM 51), .inl (cy 0, 29, .inl M_nowThen)), ((rM 27), .inl (cy 0, 2900, .inl M_rows_49)), ((rM 52), .inl (cy 0, 2900, .inl M_rowsThen)), ((rM 28), .inl (cy 0, 100, .inl M_sets_60)), ((rM 53), .inl (cy 0, 100, .inl M_setsThen))] H := hP
    have hD : va_D A [(h0, .inr (11, oX11 rM (upd (upd (upd sM 2 (0 : Int32)) 30 f30_19) 31 f31_27))), ((rM 10), .inl (cy 0, 2, .inl M_status)), ((rM 29), .inl (cy 0, 400, .inl M_whys)), ((rM 54), .inl (cy 0, 400, .inl M_whysThen)), ((rM 55), .inl (cy 0, 2, .inl M_statusThen)), ((rM 8), .inl (cy 0, 29, .inl M_now_38)), ((rM 51), .inl (cy 0, 29, .inl M_nowThen)), ((rM 27), .inl (cy 0, 2900, .inl M_rows_49)), ((rM 52), .inl (cy 0, 2900, .inl M_rowsThen)), ((rM 28), .inl (cy 0, 100, .inl M_sets_60)), ((rM 53), .inl (cy 0, 100, .inl M_setsThen))] := hD
    refine lv_aload_n hx hb dX11_restore_63 rfl (lv_at hl 0 rfl) ?_
    refine gfX11_84 hx hb hts hown hK hP 0 rfl dX11_restore_64 ?_
    refine lv_aload_n hx hb dX11_restore_67 rfl (lv_at hl 0 rfl) ?_
    refine gfX11_126 hx hb hts hown hK hP 0 rfl dX11_restore_68 ?_
    refine clSv (As := [.ref (rM 29), .ref (rM 54)]) (rest := []) (Wr := [(h0, .inr (11, oX11 rM (upd (upd (upd sM 2 (0 : Int32)) 30 f30_19) 31 f31_27))), ((rM 10), .inl (cy 0, 2, .inl M_status)), ((rM 55), .inl (cy 0, 2, .inl M_statusThen)), ((rM 8), .inl (cy 0, 29, .inl M_now_38)), ((rM 51), .inl (cy 0, 29, .inl M_nowThen)), ((rM 27), .inl (cy 0, 2900, .inl M_rows_49)), ((rM 52), .inl (cy 0, 2900, .inl M_rowsThen)), ((rM 28), .inl (cy 0, 100, .inl M_sets_60)), ((rM 53), .inl (cy 0, 100, .inl M_setsThen))]) ⟨hx, hb, hml, hown, hts⟩ ⟨callB_of 2 hts (goodC mw1445) rfl rfl rfl (hts _ (tb mw15)) (hts _ (tb mw1443)) kdX11_be ⟨Nat.le_trans (by decide) hRf, Nat.le_trans (by decide) hRl⟩, hts _ (tb mw1444)⟩ (ctX11_be l D cy ev (rM 29) (rM 54) M_whys M_whysThen 400 400  _ _ h) hE hK hP hD hS hA [2, 3] [0, 1, 4, 5, 6, 7, 8, 9, 10] rfl rfl (by decide) (by decide) (by decide) rfl hl.1 rfl (Nat.le_of_ble_eq_true rfl) ⟨Nat.zero_le _, Nat.zero_le _⟩ dX11_restore_71 (fun M_whys_71 H locs h hP hD hS => ?_)
    have hP : va_P D clsX [(h0, .inr (11, oX11 rM (upd (upd (upd sM 2 (0 : Int32)) 30 f30_19) 31 f31_27))), ((rM 10), .inl (cy 0, 2, .inl M_status)), ((rM 55), .inl (cy 0, 2, .inl M_statusThen)), ((rM 8), .inl (cy 0, 29, .inl M_now_38)), ((rM 51), .inl (cy 0, 29, .inl M_nowThen)), ((rM 27), .inl (cy 0, 2900, .inl M_rows_49)), ((rM 52), .inl (cy 0, 2900, .inl M_rowsThen)), ((rM 28), .inl (cy 0, 100, .inl M_sets_60)), ((rM 53), .inl (cy 0, 100, .inl M_setsThen)), ((rM 29), .inl (cy 0, 400, .inl M_whys_71)), ((rM 54), .inl (cy 0, 400, .inl M_whysThen))] H := hP
    have hD : va_D A [(h0, .inr (11, oX11 rM (upd (upd (upd sM 2 (0 : Int32)) 30 f30_19) 31 f31_27))), ((rM 10), .inl (cy 0, 2, .inl M_status)), ((rM 55), .inl (cy 0, 2, .inl M_statusThen)), ((rM 8), .inl (cy 0, 29, .inl M_now_38)), ((rM 51), .inl (cy 0, 29, .inl M_nowThen)), ((rM 27), .inl (cy 0, 2900, .inl M_rows_49)), ((rM 52), .inl (cy 0, 2900, .inl M_rowsThen)), ((rM 28), .inl (cy 0, 100, .inl M_sets_60)), ((rM 53), .inl (cy 0, 100, .inl M_setsThen)), ((rM 29), .inl (cy 0, 400, .inl M_whys_71)), ((rM 54), .inl (cy 0, 400, .inl M_whysThen))] := hD
    refine lv_aload_n hx hb dX11_restore_74 rfl (lv_at hl 0 rfl) ?_
    refine gfX11_58 hx hb hts hown hK hP 0 rfl dX11_restore_75 ?_
    refine lv_aload_n hx hb dX11_restore_78 rfl (lv_at hl 0 rfl) ?_
    refine gfX11_129 hx hb hts hown hK hP 0 rfl dX11_restore_79 ?_
    refine clSv (As := [.ref (rM 10), .ref (rM 55)]) (rest := []) (Wr := [(h0, .inr (11, oX11 rM (upd (upd (upd sM 2 (0 : Int32)) 30 f30_19) 31 f31_27))), ((rM 8), .inl (cy 0, 29, .inl M_now_38)), ((rM 51), .inl (cy 0, 29, .inl M_nowThen)), ((rM 27), .inl (cy 0, 2900, .inl M_rows_49)), ((rM 52), .inl (cy 0, 2900, .inl M_rowsThen)), ((rM 28), .inl (cy 0, 100, .inl M_sets_60)), ((rM 53), .inl (cy 0, 100, .inl M_setsThen)), ((rM 29), .inl (cy 0, 400, .inl M_whys_71)), ((rM 54), .inl (cy 0, 400, .inl M_whysThen))]) ⟨hx, hb, hml, hown, hts⟩ ⟨callB_of 2 hts (goodC mw1445) rfl rfl rfl (hts _ (tb mw15)) (hts _ (tb mw1443)) kdX11_be ⟨Nat.le_trans (by decide) hRf, Nat.le_trans (by decide) hRl⟩, hts _ (tb mw1444)⟩ (ctX11_be l D cy ev (rM 10) (rM 55) M_status M_statusThen 2 2  _ _ h) hE hK hP hD hS hA [1, 2] [0, 3, 4, 5, 6, 7, 8, 9, 10] rfl rfl (by decide) (by decide) (by decide) rfl hl.1 rfl (Nat.le_of_ble_eq_true rfl) ⟨Nat.zero_le _, Nat.zero_le _⟩ dX11_restore_82 (fun M_status_82 H locs h hP hD hS => ?_)
    have hP : va_P D clsX [(h0, .inr (11, oX11 rM (upd (upd (upd sM 2 (0 : Int32)) 30 f30_19) 31 f31_27))), ((rM 8), .inl (cy 0, 29, .inl M_now_38)), ((rM 51), .inl (cy 0, 29, .inl M_nowThen)), ((rM 27), .inl (cy 0, 2900, .inl M_rows_49)), ((rM 52), .inl (cy 0, 2900, .inl M_rowsThen)), ((rM 28), .inl (cy 0, 100, .inl M_sets_60)), ((rM 53), .inl (cy 0, 100, .inl M_setsThen)), ((rM 29), .inl (cy 0, 400, .inl M_whys_71)), ((rM 54), .inl (cy 0, 400, .inl M_whysThen)), ((rM 10), .inl (cy 0, 2, .inl M_status_82)), ((rM 55), .inl (cy 0, 2, .inl M_statusThen))] H := hP
    have hD : va_D A [(h0, .inr (11, oX11 rM (upd (upd (upd sM 2 (0 : Int32)) 30 f30_19) 31 f31_27))), ((rM 8), .inl (cy 0, 29, .inl M_now_38)), ((rM 51), .inl (cy 0, 29, .inl M_nowThen)), ((rM 27), .inl (cy 0, 2900, .inl M_rows_49)), ((rM 52), .inl (cy 0, 2900, .inl M_rowsThen)), ((rM 28), .inl (cy 0, 100, .inl M_sets_60)), ((rM 53), .inl (cy 0, 100, .inl M_setsThen)), ((rM 29), .inl (cy 0, 400, .inl M_whys_71)), ((rM 54), .inl (cy 0, 400, .inl M_whysThen)), ((rM 10), .inl (cy 0, 2, .inl M_status_82)), ((rM 55), .inl (cy 0, 2, .inl M_statusThen))] := hD
    refine lv_iconst (v := (1 : Int32)) hx hb dX11_restore_85 (by decide) ?_
    exact hret (1 : Int32) ((upd (upd (upd sM 2 (0 : Int32)) 30 f30_19) 31 f31_27), M_now_38, M_status_82, M_rows_49, M_sets_60, M_whys_71) _ _ _ _ rfl dX11_restore_86 h (hP.sub [0, 1, 9, 3, 5, 7, 2, 4, 6, 8, 10] rfl) (hD.sub [0, 1, 9, 3, 5, 7, 2, 4, 6, 8, 10] (by decide) rfl) hS
  · have h := h.2 c9
    refine lv_iconst (v := (0 : Int32)) hx hb dX11_restore_12 (by decide) ?_
    exact hret (0 : Int32) ((upd sM 2 (0 : Int32)), M_now, M_status, M_rows, M_sets, M_whys) _ _ _ _ rfl dX11_restore_13 h hP hD hS
