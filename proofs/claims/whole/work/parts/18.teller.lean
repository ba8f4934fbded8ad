theorem dX9_tellSize_0 : decode cX9_tellSize 0 = .ok (.aload_n 0, 1) := by decide +kernel
theorem dX9_tellSize_1 : decode cX9_tellSize 1 = .ok (.getfield 9, 3) := by decide +kernel
theorem dX9_tellSize_4 : decode cX9_tellSize 4 = .ok (.invokevirtual 98, 3) := by decide +kernel
theorem dX9_tellSize_7 : decode cX9_tellSize 7 = .ok (.aload_n 0, 1) := by decide +kernel
theorem dX9_tellSize_8 : decode cX9_tellSize 8 = .ok (.getfield 9, 3) := by decide +kernel
theorem dX9_tellSize_11 : decode cX9_tellSize 11 = .ok (.iconst 2, 1) := by decide +kernel
theorem dX9_tellSize_12 : decode cX9_tellSize 12 = .ok (.bipush 10, 2) := by decide +kernel
theorem dX9_tellSize_14 : decode cX9_tellSize 14 = .ok (.invokevirtual 101, 3) := by decide +kernel
theorem dX9_tellSize_17 : decode cX9_tellSize 17 = .ok (.istore_n 1, 1) := by decide +kernel
theorem dX9_tellSize_18 : decode cX9_tellSize 18 = .ok (.iload_n 1, 1) := by decide +kernel
theorem dX9_tellSize_19 : decode cX9_tellSize 19 = .ok (.iconst (-1), 1) := by decide +kernel
theorem dX9_tellSize_20 : decode cX9_tellSize 20 = .ok (.if_icmp .ne 5, 3) := by decide +kernel
theorem dX9_tellSize_23 : decode cX9_tellSize 23 = .ok (.iconst 0, 1) := by decide +kernel
theorem dX9_tellSize_24 : decode cX9_tellSize 24 = .ok (.ireturn, 1) := by decide +kernel
theorem dX9_tellSize_25 : decode cX9_tellSize 25 = .ok (.aload_n 0, 1) := by decide +kernel
theorem dX9_tellSize_26 : decode cX9_tellSize 26 = .ok (.getfield 9, 3) := by decide +kernel
theorem dX9_tellSize_29 : decode cX9_tellSize 29 = .ok (.iconst 2, 1) := by decide +kernel
theorem dX9_tellSize_30 : decode cX9_tellSize 30 = .ok (.bipush 10, 2) := by decide +kernel
theorem dX9_tellSize_32 : decode cX9_tellSize 32 = .ok (.invokevirtual 101, 3) := by decide +kernel
theorem dX9_tellSize_35 : decode cX9_tellSize 35 = .ok (.istore_n 2, 1) := by decide +kernel
theorem dX9_tellSize_36 : decode cX9_tellSize 36 = .ok (.iload_n 2, 1) := by decide +kernel
theorem dX9_tellSize_37 : decode cX9_tellSize 37 = .ok (.iconst (-1), 1) := by decide +kernel
theorem dX9_tellSize_38 : decode cX9_tellSize 38 = .ok (.if_icmp .ne 5, 3) := by decide +kernel
theorem dX9_tellSize_41 : decode cX9_tellSize 41 = .ok (.iconst 0, 1) := by decide +kernel
theorem dX9_tellSize_42 : decode cX9_tellSize 42 = .ok (.ireturn, 1) := by decide +kernel
theorem dX9_tellSize_43 : decode cX9_tellSize 43 = .ok (.aload_n 0, 1) := by decide +kernel
theorem dX9_tellSize_44 : decode cX9_tellSize 44 = .ok (.getfield 15, 3) := by decide +kernel
theorem dX9_tellSize_47 : decode cX9_tellSize 47 = .ok (.iload_n 1, 1) := by decide +kernel
theorem dX9_tellSize_48 : decode cX9_tellSize 48 = .ok (.putfield 105, 3) := by decide +kernel
theorem dX9_tellSize_51 : decode cX9_tellSize 51 = .ok (.aload_n 0, 1) := by decide +kernel
theorem dX9_tellSize_52 : decode cX9_tellSize 52 = .ok (.getfield 15, 3) := by decide +kernel
theorem dX9_tellSize_55 : decode cX9_tellSize 55 = .ok (.iload_n 2, 1) := by decide +kernel
theorem dX9_tellSize_56 : decode cX9_tellSize 56 = .ok (.putfield 108, 3) := by decide +kernel
theorem dX9_tellSize_59 : decode cX9_tellSize 59 = .ok (.iconst 1, 1) := by decide +kernel
theorem dX9_tellSize_60 : decode cX9_tellSize 60 = .ok (.ireturn, 1) := by decide +kernel
theorem dX9_tellCell_0 : decode cX9_tellCell 0 = .ok (.aload_n 0, 1) := by decide +kernel
theorem dX9_tellCell_1 : decode cX9_tellCell 1 = .ok (.getfield 9, 3) := by decide +kernel
theorem dX9_tellCell_4 : decode cX9_tellCell 4 = .ok (.iconst 0, 1) := by decide +kernel
theorem dX9_tellCell_5 : decode cX9_tellCell 5 = .ok (.aload_n 0, 1) := by decide +kernel
theorem dX9_tellCell_6 : decode cX9_tellCell 6 = .ok (.getfield 15, 3) := by decide +kernel
theorem dX9_tellCell_9 : decode cX9_tellCell 9 = .ok (.getfield 105, 3) := by decide +kernel
theorem dX9_tellCell_12 : decode cX9_tellCell 12 = .ok (.iconst 1, 1) := by decide +kernel
theorem dX9_tellCell_13 : decode cX9_tellCell 13 = .ok (.isub, 1) := by decide +kernel
theorem dX9_tellCell_14 : decode cX9_tellCell 14 = .ok (.invokevirtual 101, 3) := by decide +kernel
theorem dX9_tellCell_17 : decode cX9_tellCell 17 = .ok (.istore_n 1, 1) := by decide +kernel
theorem dX9_tellCell_18 : decode cX9_tellCell 18 = .ok (.iload_n 1, 1) := by decide +kernel
theorem dX9_tellCell_19 : decode cX9_tellCell 19 = .ok (.iconst (-1), 1) := by decide +kernel
theorem dX9_tellCell_20 : decode cX9_tellCell 20 = .ok (.if_icmp .ne 5, 3) := by decide +kernel
theorem dX9_tellCell_23 : decode cX9_tellCell 23 = .ok (.iconst (-1), 1) := by decide +kernel
theorem dX9_tellCell_24 : decode cX9_tellCell 24 = .ok (.ireturn, 1) := by decide +kernel
theorem dX9_tellCell_25 : decode cX9_tellCell 25 = .ok (.aload_n 0, 1) := by decide +kernel
theorem dX9_tellCell_26 : decode cX9_tellCell 26 = .ok (.getfield 9, 3) := by decide +kernel
theorem dX9_tellCell_29 : decode cX9_tellCell 29 = .ok (.iconst 0, 1) := by decide +kernel
theorem dX9_tellCell_30 : decode cX9_tellCell 30 = .ok (.aload_n 0, 1) := by decide +kernel
theorem dX9_tellCell_31 : decode cX9_tellCell 31 = .ok (.getfield 15, 3) := by decide +kernel
theorem dX9_tellCell_34 : decode cX9_tellCell 34 = .ok (.getfield 108, 3) := by decide +kernel
theorem dX9_tellCell_37 : decode cX9_tellCell 37 = .ok (.iconst 1, 1) := by decide +kernel
theorem dX9_tellCell_38 : decode cX9_tellCell 38 = .ok (.isub, 1) := by decide +kernel
theorem dX9_tellCell_39 : decode cX9_tellCell 39 = .ok (.invokevirtual 101, 3) := by decide +kernel
theorem dX9_tellCell_42 : decode cX9_tellCell 42 = .ok (.istore_n 2, 1) := by decide +kernel
theorem dX9_tellCell_43 : decode cX9_tellCell 43 = .ok (.iload_n 2, 1) := by decide +kernel
theorem dX9_tellCell_44 : decode cX9_tellCell 44 = .ok (.iconst (-1), 1) := by decide +kernel
theorem dX9_tellCell_45 : decode cX9_tellCell 45 = .ok (.if_icmp .ne 7, 3) := by decide +kernel
theorem dX9_tellCell_48 : decode cX9_tellCell 48 = .ok (.iconst (-1), 1) := by decide +kernel
theorem dX9_tellCell_49 : decode cX9_tellCell 49 = .ok (.goto 14, 3) := by decide +kernel
theorem dX9_tellCell_52 : decode cX9_tellCell 52 = .ok (.aload_n 0, 1) := by decide +kernel
theorem dX9_tellCell_53 : decode cX9_tellCell 53 = .ok (.getfield 15, 3) := by decide +kernel
theorem dX9_tellCell_56 : decode cX9_tellCell 56 = .ok (.getfield 105, 3) := by decide +kernel
theorem dX9_tellCell_59 : decode cX9_tellCell 59 = .ok (.iload_n 2, 1) := by decide +kernel
theorem dX9_tellCell_60 : decode cX9_tellCell 60 = .ok (.imul, 1) := by decide +kernel
theorem dX9_tellCell_61 : decode cX9_tellCell 61 = .ok (.iload_n 1, 1) := by decide +kernel
theorem dX9_tellCell_62 : decode cX9_tellCell 62 = .ok (.iadd, 1) := by decide +kernel
theorem dX9_tellCell_63 : decode cX9_tellCell 63 = .ok (.ireturn, 1) := by decide +kernel
theorem dX9_tellWalker_0 : decode cX9_tellWalker 0 = .ok (.aload_n 0, 1) := by decide +kernel
theorem dX9_tellWalker_1 : decode cX9_tellWalker 1 = .ok (.getfield 15, 3) := by decide +kernel
theorem dX9_tellWalker_4 : decode cX9_tellWalker 4 = .ok (.getfield 146, 3) := by decide +kernel
theorem dX9_tellWalker_7 : decode cX9_tellWalker 7 = .ok (.istore_n 2, 1) := by decide +kernel
theorem dX9_tellWalker_8 : decode cX9_tellWalker 8 = .ok (.iload_n 2, 1) := by decide +kernel
theorem dX9_tellWalker_9 : decode cX9_tellWalker 9 = .ok (.iconst 4, 1) := by decide +kernel
theorem dX9_tellWalker_10 : decode cX9_tellWalker 10 = .ok (.if_icmp .lt 12, 3) := by decide +kernel
theorem dX9_tellWalker_13 : decode cX9_tellWalker 13 = .ok (.aload_n 0, 1) := by decide +kernel
theorem dX9_tellWalker_14 : decode cX9_tellWalker 14 = .ok (.getfield 9, 3) := by decide +kernel
theorem dX9_tellWalker_17 : decode cX9_tellWalker 17 = .ok (.iconst 2, 1) := by decide +kernel
theorem dX9_tellWalker_18 : decode cX9_tellWalker 18 = .ok (.invokevirtual 55, 3) := by decide +kernel
theorem dX9_tellWalker_21 : decode cX9_tellWalker 21 = .ok (.ireturn, 1) := by decide +kernel
theorem dX9_tellWalker_22 : decode cX9_tellWalker 22 = .ok (.aload_n 0, 1) := by decide +kernel
theorem dX9_tellWalker_23 : decode cX9_tellWalker 23 = .ok (.getfield 9, 3) := by decide +kernel
theorem dX9_tellWalker_26 : decode cX9_tellWalker 26 = .ok (.invokevirtual 98, 3) := by decide +kernel
theorem dX9_tellWalker_29 : decode cX9_tellWalker 29 = .ok (.aload_n 0, 1) := by decide +kernel
theorem dX9_tellWalker_30 : decode cX9_tellWalker 30 = .ok (.invokevirtual 114, 3) := by decide +kernel
theorem dX9_tellWalker_33 : decode cX9_tellWalker 33 = .ok (.istore_n 3, 1) := by decide +kernel
theorem dX9_tellWalker_34 : decode cX9_tellWalker 34 = .ok (.iload_n 3, 1) := by decide +kernel
theorem dX9_tellWalker_35 : decode cX9_tellWalker 35 = .ok (.iconst (-1), 1) := by decide +kernel
theorem dX9_tellWalker_36 : decode cX9_tellWalker 36 = .ok (.if_icmp .ne 5, 3) := by decide +kernel
theorem dX9_tellWalker_39 : decode cX9_tellWalker 39 = .ok (.iconst 0, 1) := by decide +kernel
theorem dX9_tellWalker_40 : decode cX9_tellWalker 40 = .ok (.ireturn, 1) := by decide +kernel
theorem dX9_tellWalker_41 : decode cX9_tellWalker 41 = .ok (.aload_n 0, 1) := by decide +kernel
theorem dX9_tellWalker_42 : decode cX9_tellWalker 42 = .ok (.getfield 9, 3) := by decide +kernel
theorem dX9_tellWalker_45 : decode cX9_tellWalker 45 = .ok (.iconst 0, 1) := by decide +kernel
theorem dX9_tellWalker_46 : decode cX9_tellWalker 46 = .ok (.bipush 99, 2) := by decide +kernel
theorem dX9_tellWalker_48 : decode cX9_tellWalker 48 = .ok (.invokevirtual 101, 3) := by decide +kernel
theorem dX9_tellWalker_51 : decode cX9_tellWalker 51 = .ok (.istore 4, 2) := by decide +kernel
theorem dX9_tellWalker_53 : decode cX9_tellWalker 53 = .ok (.iload 4, 2) := by decide +kernel
theorem dX9_tellWalker_55 : decode cX9_tellWalker 55 = .ok (.iconst (-1), 1) := by decide +kernel
theorem dX9_tellWalker_56 : decode cX9_tellWalker 56 = .ok (.if_icmp .ne 5, 3) := by decide +kernel
theorem dX9_tellWalker_59 : decode cX9_tellWalker 59 = .ok (.iconst 0, 1) := by decide +kernel
theorem dX9_tellWalker_60 : decode cX9_tellWalker 60 = .ok (.ireturn, 1) := by decide +kernel
theorem dX9_tellWalker_61 : decode cX9_tellWalker 61 = .ok (.aload_n 0, 1) := by decide +kernel
theorem dX9_tellWalker_62 : decode cX9_tellWalker 62 = .ok (.getfield 15, 3) := by decide +kernel
theorem dX9_tellWalker_65 : decode cX9_tellWalker 65 = .ok (.getfield 149, 3) := by decide +kernel
theorem dX9_tellWalker_68 : decode cX9_tellWalker 68 = .ok (.iload_n 2, 1) := by decide +kernel
theorem dX9_tellWalker_69 : decode cX9_tellWalker 69 = .ok (.iload_n 1, 1) := by decide +kernel
theorem dX9_tellWalker_70 : decode cX9_tellWalker 70 = .ok (.iastore, 1) := by decide +kernel
theorem dX9_tellWalker_71 : decode cX9_tellWalker 71 = .ok (.aload_n 0, 1) := by decide +kernel
theorem dX9_tellWalker_72 : decode cX9_tellWalker 72 = .ok (.getfield 15, 3) := by decide +kernel
theorem dX9_tellWalker_75 : decode cX9_tellWalker 75 = .ok (.getfield 151, 3) := by decide +kernel
theorem dX9_tellWalker_78 : decode cX9_tellWalker 78 = .ok (.iload_n 2, 1) := by decide +kernel
theorem dX9_tellWalker_79 : decode cX9_tellWalker 79 = .ok (.iload_n 3, 1) := by decide +kernel
theorem dX9_tellWalker_80 : decode cX9_tellWalker 80 = .ok (.iastore, 1) := by decide +kernel
theorem dX9_tellWalker_81 : decode cX9_tellWalker 81 = .ok (.aload_n 0, 1) := by decide +kernel
theorem dX9_tellWalker_82 : decode cX9_tellWalker 82 = .ok (.getfield 15, 3) := by decide +kernel
theorem dX9_tellWalker_85 : decode cX9_tellWalker 85 = .ok (.getfield 154, 3) := by decide +kernel
theorem dX9_tellWalker_88 : decode cX9_tellWalker 88 = .ok (.iload_n 2, 1) := by decide +kernel
theorem dX9_tellWalker_89 : decode cX9_tellWalker 89 = .ok (.iload 4, 2) := by decide +kernel
theorem dX9_tellWalker_91 : decode cX9_tellWalker 91 = .ok (.iastore, 1) := by decide +kernel
theorem dX9_tellWalker_92 : decode cX9_tellWalker 92 = .ok (.aload_n 0, 1) := by decide +kernel
theorem dX9_tellWalker_93 : decode cX9_tellWalker 93 = .ok (.getfield 15, 3) := by decide +kernel
theorem dX9_tellWalker_96 : decode cX9_tellWalker 96 = .ok (.iload_n 2, 1) := by decide +kernel
theorem dX9_tellWalker_97 : decode cX9_tellWalker 97 = .ok (.iconst 1, 1) := by decide +kernel
theorem dX9_tellWalker_98 : decode cX9_tellWalker 98 = .ok (.iadd, 1) := by decide +kernel
theorem dX9_tellWalker_99 : decode cX9_tellWalker 99 = .ok (.putfield 146, 3) := by decide +kernel
theorem dX9_tellWalker_102 : decode cX9_tellWalker 102 = .ok (.iconst 1, 1) := by decide +kernel
theorem dX9_tellWalker_103 : decode cX9_tellWalker 103 = .ok (.ireturn, 1) := by decide +kernel
theorem dX9_tellNight_0 : decode cX9_tellNight 0 = .ok (.aload_n 0, 1) := by decide +kernel
theorem dX9_tellNight_1 : decode cX9_tellNight 1 = .ok (.getfield 28, 3) := by decide +kernel
theorem dX9_tellNight_4 : decode cX9_tellNight 4 = .ok (.ifCond .eq 12, 3) := by decide +kernel
theorem dX9_tellNight_7 : decode cX9_tellNight 7 = .ok (.aload_n 0, 1) := by decide +kernel
theorem dX9_tellNight_8 : decode cX9_tellNight 8 = .ok (.getfield 9, 3) := by decide +kernel
theorem dX9_tellNight_11 : decode cX9_tellNight 11 = .ok (.iconst 4, 1) := by decide +kernel
theorem dX9_tellNight_12 : decode cX9_tellNight 12 = .ok (.invokevirtual 55, 3) := by decide +kernel
theorem dX9_tellNight_15 : decode cX9_tellNight 15 = .ok (.ireturn, 1) := by decide +kernel
theorem dX9_tellNight_16 : decode cX9_tellNight 16 = .ok (.aload_n 0, 1) := by decide +kernel
theorem dX9_tellNight_17 : decode cX9_tellNight 17 = .ok (.iconst 1, 1) := by decide +kernel
theorem dX9_tellNight_18 : decode cX9_tellNight 18 = .ok (.putfield 28, 3) := by decide +kernel
theorem dX9_tellNight_21 : decode cX9_tellNight 21 = .ok (.aload_n 0, 1) := by decide +kernel
theorem dX9_tellNight_22 : decode cX9_tellNight 22 = .ok (.getfield 9, 3) := by decide +kernel
theorem dX9_tellNight_25 : decode cX9_tellNight 25 = .ok (.invokevirtual 98, 3) := by decide +kernel
theorem dX9_tellNight_28 : decode cX9_tellNight 28 = .ok (.aload_n 0, 1) := by decide +kernel
theorem dX9_tellNight_29 : decode cX9_tellNight 29 = .ok (.getfield 9, 3) := by decide +kernel
theorem dX9_tellNight_32 : decode cX9_tellNight 32 = .ok (.iconst 0, 1) := by decide +kernel
theorem dX9_tellNight_33 : decode cX9_tellNight 33 = .ok (.bipush 9, 2) := by decide +kernel
theorem dX9_tellNight_35 : decode cX9_tellNight 35 = .ok (.invokevirtual 101, 3) := by decide +kernel
theorem dX9_tellNight_38 : decode cX9_tellNight 38 = .ok (.istore_n 1, 1) := by decide +kernel
theorem dX9_tellNight_39 : decode cX9_tellNight 39 = .ok (.iload_n 1, 1) := by decide +kernel
theorem dX9_tellNight_40 : decode cX9_tellNight 40 = .ok (.iconst (-1), 1) := by decide +kernel
theorem dX9_tellNight_41 : decode cX9_tellNight 41 = .ok (.if_icmp .ne 5, 3) := by decide +kernel
theorem dX9_tellNight_44 : decode cX9_tellNight 44 = .ok (.iconst 0, 1) := by decide +kernel
theorem dX9_tellNight_45 : decode cX9_tellNight 45 = .ok (.ireturn, 1) := by decide +kernel
theorem dX9_tellNight_46 : decode cX9_tellNight 46 = .ok (.aload_n 0, 1) := by decide +kernel
theorem dX9_tellNight_47 : decode cX9_tellNight 47 = .ok (.getfield 15, 3) := by decide +kernel
theorem dX9_tellNight_50 : decode cX9_tellNight 50 = .ok (.iload_n 1, 1) := by decide +kernel
theorem dX9_tellNight_51 : decode cX9_tellNight 51 = .ok (.putfield 173, 3) := by decide +kernel
theorem dX9_tellNight_54 : decode cX9_tellNight 54 = .ok (.iconst 1, 1) := by decide +kernel
theorem dX9_tellNight_55 : decode cX9_tellNight 55 = .ok (.ireturn, 1) := by decide +kernel
theorem dX9_tellMirage_0 : decode cX9_tellMirage 0 = .ok (.aload_n 0, 1) := by decide +kernel
theorem dX9_tellMirage_1 : decode cX9_tellMirage 1 = .ok (.getfield 9, 3) := by decide +kernel
theorem dX9_tellMirage_4 : decode cX9_tellMirage 4 = .ok (.invokevirtual 98, 3) := by decide +kernel
theorem dX9_tellMirage_7 : decode cX9_tellMirage 7 = .ok (.aload_n 0, 1) := by decide +kernel
theorem dX9_tellMirage_8 : decode cX9_tellMirage 8 = .ok (.invokevirtual 114, 3) := by decide +kernel
theorem dX9_tellMirage_11 : decode cX9_tellMirage 11 = .ok (.istore_n 1, 1) := by decide +kernel
theorem dX9_tellMirage_12 : decode cX9_tellMirage 12 = .ok (.iload_n 1, 1) := by decide +kernel
theorem dX9_tellMirage_13 : decode cX9_tellMirage 13 = .ok (.iconst (-1), 1) := by decide +kernel
theorem dX9_tellMirage_14 : decode cX9_tellMirage 14 = .ok (.if_icmp .ne 5, 3) := by decide +kernel
theorem dX9_tellMirage_17 : decode cX9_tellMirage 17 = .ok (.iconst 0, 1) := by decide +kernel
theorem dX9_tellMirage_18 : decode cX9_tellMirage 18 = .ok (.ireturn, 1) := by decide +kernel
theorem dX9_tellMirage_19 : decode cX9_tellMirage 19 = .ok (.aload_n 0, 1) := by decide +kernel
theorem dX9_tellMirage_20 : decode cX9_tellMirage 20 = .ok (.getfield 15, 3) := by decide +kernel
theorem dX9_tellMirage_23 : decode cX9_tellMirage 23 = .ok (.getfield 176, 3) := by decide +kernel
theorem dX9_tellMirage_26 : decode cX9_tellMirage 26 = .ok (.iload_n 1, 1) := by decide +kernel
theorem dX9_tellMirage_27 : decode cX9_tellMirage 27 = .ok (.baload, 1) := by decide +kernel
theorem dX9_tellMirage_28 : decode cX9_tellMirage 28 = .ok (.ifCond .eq 12, 3) := by decide +kernel
theorem dX9_tellMirage_31 : decode cX9_tellMirage 31 = .ok (.aload_n 0, 1) := by decide +kernel
theorem dX9_tellMirage_32 : decode cX9_tellMirage 32 = .ok (.getfield 9, 3) := by decide +kernel
theorem dX9_tellMirage_35 : decode cX9_tellMirage 35 = .ok (.iconst 4, 1) := by decide +kernel
theorem dX9_tellMirage_36 : decode cX9_tellMirage 36 = .ok (.invokevirtual 120, 3) := by decide +kernel
theorem dX9_tellMirage_39 : decode cX9_tellMirage 39 = .ok (.ireturn, 1) := by decide +kernel
theorem dX9_tellMirage_40 : decode cX9_tellMirage 40 = .ok (.aload_n 0, 1) := by decide +kernel
theorem dX9_tellMirage_41 : decode cX9_tellMirage 41 = .ok (.getfield 15, 3) := by decide +kernel
theorem dX9_tellMirage_44 : decode cX9_tellMirage 44 = .ok (.getfield 176, 3) := by decide +kernel
theorem dX9_tellMirage_47 : decode cX9_tellMirage 47 = .ok (.iload_n 1, 1) := by decide +kernel
theorem dX9_tellMirage_48 : decode cX9_tellMirage 48 = .ok (.iconst 1, 1) := by decide +kernel
theorem dX9_tellMirage_49 : decode cX9_tellMirage 49 = .ok (.bastore, 1) := by decide +kernel
theorem dX9_tellMirage_50 : decode cX9_tellMirage 50 = .ok (.iconst 1, 1) := by decide +kernel
theorem dX9_tellMirage_51 : decode cX9_tellMirage 51 = .ok (.ireturn, 1) := by decide +kernel
theorem dX9_tellStrokes_0 : decode cX9_tellStrokes 0 = .ok (.aload_n 0, 1) := by decide +kernel
theorem dX9_tellStrokes_1 : decode cX9_tellStrokes 1 = .ok (.getfield 9, 3) := by decide +kernel
theorem dX9_tellStrokes_4 : decode cX9_tellStrokes 4 = .ok (.ldc 145, 2) := by decide +kernel
theorem dX9_tellStrokes_6 : decode cX9_tellStrokes 6 = .ok (.invokevirtual 47, 3) := by decide +kernel
theorem dX9_tellStrokes_9 : decode cX9_tellStrokes 9 = .ok (.ifCond .ne 6, 3) := by decide +kernel
theorem dX9_tellStrokes_12 : decode cX9_tellStrokes 12 = .ok (.bipush 99, 2) := by decide +kernel
theorem dX9_tellStrokes_14 : decode cX9_tellStrokes 14 = .ok (.ireturn, 1) := by decide +kernel
theorem dX9_tellStrokes_15 : decode cX9_tellStrokes 15 = .ok (.aload_n 0, 1) := by decide +kernel
theorem dX9_tellStrokes_16 : decode cX9_tellStrokes 16 = .ok (.getfield 9, 3) := by decide +kernel
theorem dX9_tellStrokes_19 : decode cX9_tellStrokes 19 = .ok (.invokevirtual 98, 3) := by decide +kernel
theorem dX9_tellStrokes_22 : decode cX9_tellStrokes 22 = .ok (.aload_n 0, 1) := by decide +kernel
theorem dX9_tellStrokes_23 : decode cX9_tellStrokes 23 = .ok (.getfield 9, 3) := by decide +kernel
theorem dX9_tellStrokes_26 : decode cX9_tellStrokes 26 = .ok (.iconst 1, 1) := by decide +kernel
theorem dX9_tellStrokes_27 : decode cX9_tellStrokes 27 = .ok (.bipush 99, 2) := by decide +kernel
theorem dX9_tellStrokes_29 : decode cX9_tellStrokes 29 = .ok (.invokevirtual 101, 3) := by decide +kernel
theorem dX9_tellStrokes_32 : decode cX9_tellStrokes 32 = .ok (.ireturn, 1) := by decide +kernel
theorem dX9_tellTower_0 : decode cX9_tellTower 0 = .ok (.aload_n 0, 1) := by decide +kernel
theorem dX9_tellTower_1 : decode cX9_tellTower 1 = .ok (.getfield 15, 3) := by decide +kernel
theorem dX9_tellTower_4 : decode cX9_tellTower 4 = .ok (.getfield 111, 3) := by decide +kernel
theorem dX9_tellTower_7 : decode cX9_tellTower 7 = .ok (.istore_n 1, 1) := by decide +kernel
theorem dX9_tellTower_8 : decode cX9_tellTower 8 = .ok (.iload_n 1, 1) := by decide +kernel
theorem dX9_tellTower_9 : decode cX9_tellTower 9 = .ok (.iconst 5, 1) := by decide +kernel
theorem dX9_tellTower_10 : decode cX9_tellTower 10 = .ok (.if_icmp .lt 12, 3) := by decide +kernel
theorem dX9_tellTower_13 : decode cX9_tellTower 13 = .ok (.aload_n 0, 1) := by decide +kernel
theorem dX9_tellTower_14 : decode cX9_tellTower 14 = .ok (.getfield 9, 3) := by decide +kernel
theorem dX9_tellTower_17 : decode cX9_tellTower 17 = .ok (.iconst 2, 1) := by decide +kernel
theorem dX9_tellTower_18 : decode cX9_tellTower 18 = .ok (.invokevirtual 55, 3) := by decide +kernel
theorem dX9_tellTower_21 : decode cX9_tellTower 21 = .ok (.ireturn, 1) := by decide +kernel
theorem dX9_tellTower_22 : decode cX9_tellTower 22 = .ok (.aload_n 0, 1) := by decide +kernel
theorem dX9_tellTower_23 : decode cX9_tellTower 23 = .ok (.getfield 9, 3) := by decide +kernel
theorem dX9_tellTower_26 : decode cX9_tellTower 26 = .ok (.invokevirtual 98, 3) := by decide +kernel
theorem dX9_tellTower_29 : decode cX9_tellTower 29 = .ok (.aload_n 0, 1) := by decide +kernel
theorem dX9_tellTower_30 : decode cX9_tellTower 30 = .ok (.invokevirtual 114, 3) := by decide +kernel
theorem dX9_tellTower_33 : decode cX9_tellTower 33 = .ok (.istore_n 2, 1) := by decide +kernel
theorem dX9_tellTower_34 : decode cX9_tellTower 34 = .ok (.iload_n 2, 1) := by decide +kernel
theorem dX9_tellTower_35 : decode cX9_tellTower 35 = .ok (.iconst (-1), 1) := by decide +kernel
theorem dX9_tellTower_36 : decode cX9_tellTower 36 = .ok (.if_icmp .ne 5, 3) := by decide +kernel
theorem dX9_tellTower_39 : decode cX9_tellTower 39 = .ok (.iconst 0, 1) := by decide +kernel
theorem dX9_tellTower_40 : decode cX9_tellTower 40 = .ok (.ireturn, 1) := by decide +kernel
theorem dX9_tellTower_41 : decode cX9_tellTower 41 = .ok (.aload_n 0, 1) := by decide +kernel
theorem dX9_tellTower_42 : decode cX9_tellTower 42 = .ok (.getfield 15, 3) := by decide +kernel
theorem dX9_tellTower_45 : decode cX9_tellTower 45 = .ok (.iload_n 2, 1) := by decide +kernel
theorem dX9_tellTower_46 : decode cX9_tellTower 46 = .ok (.invokevirtual 117, 3) := by decide +kernel
theorem dX9_tellTower_49 : decode cX9_tellTower 49 = .ok (.ifCond .eq 12, 3) := by decide +kernel
theorem dX9_tellTower_52 : decode cX9_tellTower 52 = .ok (.aload_n 0, 1) := by decide +kernel
theorem dX9_tellTower_53 : decode cX9_tellTower 53 = .ok (.getfield 9, 3) := by decide +kernel
theorem dX9_tellTower_56 : decode cX9_tellTower 56 = .ok (.iconst 4, 1) := by decide +kernel
theorem dX9_tellTower_57 : decode cX9_tellTower 57 = .ok (.invokevirtual 120, 3) := by decide +kernel
theorem dX9_tellTower_60 : decode cX9_tellTower 60 = .ok (.ireturn, 1) := by decide +kernel
theorem dX9_tellTower_61 : decode cX9_tellTower 61 = .ok (.aload_n 0, 1) := by decide +kernel
theorem dX9_tellTower_62 : decode cX9_tellTower 62 = .ok (.getfield 9, 3) := by decide +kernel
theorem dX9_tellTower_65 : decode cX9_tellTower 65 = .ok (.iconst 1, 1) := by decide +kernel
theorem dX9_tellTower_66 : decode cX9_tellTower 66 = .ok (.bipush 20, 2) := by decide +kernel
theorem dX9_tellTower_68 : decode cX9_tellTower 68 = .ok (.invokevirtual 101, 3) := by decide +kernel
theorem dX9_tellTower_71 : decode cX9_tellTower 71 = .ok (.istore_n 3, 1) := by decide +kernel
theorem dX9_tellTower_72 : decode cX9_tellTower 72 = .ok (.iload_n 3, 1) := by decide +kernel
theorem dX9_tellTower_73 : decode cX9_tellTower 73 = .ok (.iconst (-1), 1) := by decide +kernel
theorem dX9_tellTower_74 : decode cX9_tellTower 74 = .ok (.if_icmp .ne 5, 3) := by decide +kernel
theorem dX9_tellTower_77 : decode cX9_tellTower 77 = .ok (.iconst 0, 1) := by decide +kernel
theorem dX9_tellTower_78 : decode cX9_tellTower 78 = .ok (.ireturn, 1) := by decide +kernel
theorem dX9_tellTower_79 : decode cX9_tellTower 79 = .ok (.aload_n 0, 1) := by decide +kernel
theorem dX9_tellTower_80 : decode cX9_tellTower 80 = .ok (.getfield 9, 3) := by decide +kernel
theorem dX9_tellTower_83 : decode cX9_tellTower 83 = .ok (.iconst 0, 1) := by decide +kernel
theorem dX9_tellTower_84 : decode cX9_tellTower 84 = .ok (.iconst 3, 1) := by decide +kernel
theorem dX9_tellTower_85 : decode cX9_tellTower 85 = .ok (.invokevirtual 101, 3) := by decide +kernel
theorem dX9_tellTower_88 : decode cX9_tellTower 88 = .ok (.istore 4, 2) := by decide +kernel
theorem dX9_tellTower_90 : decode cX9_tellTower 90 = .ok (.iload 4, 2) := by decide +kernel
theorem dX9_tellTower_92 : decode cX9_tellTower 92 = .ok (.iconst (-1), 1) := by decide +kernel
theorem dX9_tellTower_93 : decode cX9_tellTower 93 = .ok (.if_icmp .ne 5, 3) := by decide +kernel
theorem dX9_tellTower_96 : decode cX9_tellTower 96 = .ok (.iconst 0, 1) := by decide +kernel
theorem dX9_tellTower_97 : decode cX9_tellTower 97 = .ok (.ireturn, 1) := by decide +kernel
theorem dX9_tellTower_98 : decode cX9_tellTower 98 = .ok (.aload_n 0, 1) := by decide +kernel
theorem dX9_tellTower_99 : decode cX9_tellTower 99 = .ok (.invokevirtual 123, 3) := by decide +kernel
theorem dX9_tellTower_102 : decode cX9_tellTower 102 = .ok (.istore 5, 2) := by decide +kernel
theorem dX9_tellTower_104 : decode cX9_tellTower 104 = .ok (.iload 5, 2) := by decide +kernel
theorem dX9_tellTower_106 : decode cX9_tellTower 106 = .ok (.iconst (-1), 1) := by decide +kernel
theorem dX9_tellTower_107 : decode cX9_tellTower 107 = .ok (.if_icmp .ne 5, 3) := by decide +kernel
theorem dX9_tellTower_110 : decode cX9_tellTower 110 = .ok (.iconst 0, 1) := by decide +kernel
theorem dX9_tellTower_111 : decode cX9_tellTower 111 = .ok (.ireturn, 1) := by decide +kernel
theorem dX9_tellTower_112 : decode cX9_tellTower 112 = .ok (.aload_n 0, 1) := by decide +kernel
theorem dX9_tellTower_113 : decode cX9_tellTower 113 = .ok (.getfield 15, 3) := by decide +kernel
theorem dX9_tellTower_116 : decode cX9_tellTower 116 = .ok (.getfield 126, 3) := by decide +kernel
theorem dX9_tellTower_119 : decode cX9_tellTower 119 = .ok (.iload_n 1, 1) := by decide +kernel
theorem dX9_tellTower_120 : decode cX9_tellTower 120 = .ok (.iload_n 2, 1) := by decide +kernel
theorem dX9_tellTower_121 : decode cX9_tellTower 121 = .ok (.iastore, 1) := by decide +kernel
theorem dX9_tellTower_122 : decode cX9_tellTower 122 = .ok (.aload_n 0, 1) := by decide +kernel
theorem dX9_tellTower_123 : decode cX9_tellTower 123 = .ok (.getfield 15, 3) := by decide +kernel
theorem dX9_tellTower_126 : decode cX9_tellTower 126 = .ok (.getfield 130, 3) := by decide +kernel
theorem dX9_tellTower_129 : decode cX9_tellTower 129 = .ok (.iload_n 1, 1) := by decide +kernel
theorem dX9_tellTower_130 : decode cX9_tellTower 130 = .ok (.iload_n 3, 1) := by decide +kernel
theorem dX9_tellTower_131 : decode cX9_tellTower 131 = .ok (.iastore, 1) := by decide +kernel
theorem dX9_tellTower_132 : decode cX9_tellTower 132 = .ok (.aload_n 0, 1) := by decide +kernel
theorem dX9_tellTower_133 : decode cX9_tellTower 133 = .ok (.getfield 15, 3) := by decide +kernel
theorem dX9_tellTower_136 : decode cX9_tellTower 136 = .ok (.getfield 133, 3) := by decide +kernel
theorem dX9_tellTower_139 : decode cX9_tellTower 139 = .ok (.iload_n 1, 1) := by decide +kernel
theorem dX9_tellTower_140 : decode cX9_tellTower 140 = .ok (.iload 4, 2) := by decide +kernel
theorem dX9_tellTower_142 : decode cX9_tellTower 142 = .ok (.iastore, 1) := by decide +kernel
theorem dX9_tellTower_143 : decode cX9_tellTower 143 = .ok (.aload_n 0, 1) := by decide +kernel
theorem dX9_tellTower_144 : decode cX9_tellTower 144 = .ok (.getfield 15, 3) := by decide +kernel
theorem dX9_tellTower_147 : decode cX9_tellTower 147 = .ok (.getfield 136, 3) := by decide +kernel
theorem dX9_tellTower_150 : decode cX9_tellTower 150 = .ok (.iload_n 1, 1) := by decide +kernel
theorem dX9_tellTower_151 : decode cX9_tellTower 151 = .ok (.iload 5, 2) := by decide +kernel
theorem dX9_tellTower_153 : decode cX9_tellTower 153 = .ok (.iastore, 1) := by decide +kernel
theorem dX9_tellTower_154 : decode cX9_tellTower 154 = .ok (.aload_n 0, 1) := by decide +kernel
theorem dX9_tellTower_155 : decode cX9_tellTower 155 = .ok (.getfield 15, 3) := by decide +kernel
theorem dX9_tellTower_158 : decode cX9_tellTower 158 = .ok (.getfield 139, 3) := by decide +kernel
theorem dX9_tellTower_161 : decode cX9_tellTower 161 = .ok (.iload_n 1, 1) := by decide +kernel
theorem dX9_tellTower_162 : decode cX9_tellTower 162 = .ok (.aload_n 0, 1) := by decide +kernel
theorem dX9_tellTower_163 : decode cX9_tellTower 163 = .ok (.getfield 9, 3) := by decide +kernel
theorem dX9_tellTower_166 : decode cX9_tellTower 166 = .ok (.ldc 143, 2) := by decide +kernel
theorem dX9_tellTower_168 : decode cX9_tellTower 168 = .ok (.invokevirtual 47, 3) := by decide +kernel
theorem dX9_tellTower_171 : decode cX9_tellTower 171 = .ok (.bastore, 1) := by decide +kernel
theorem dX9_tellTower_172 : decode cX9_tellTower 172 = .ok (.aload_n 0, 1) := by decide +kernel
theorem dX9_tellTower_173 : decode cX9_tellTower 173 = .ok (.getfield 15, 3) := by decide +kernel
theorem dX9_tellTower_176 : decode cX9_tellTower 176 = .ok (.getfield 139, 3) := by decide +kernel
theorem dX9_tellTower_179 : decode cX9_tellTower 179 = .ok (.iload_n 1, 1) := by decide +kernel
theorem dX9_tellTower_180 : decode cX9_tellTower 180 = .ok (.baload, 1) := by decide +kernel
theorem dX9_tellTower_181 : decode cX9_tellTower 181 = .ok (.ifCond .eq 10, 3) := by decide +kernel
theorem dX9_tellTower_184 : decode cX9_tellTower 184 = .ok (.aload_n 0, 1) := by decide +kernel
theorem dX9_tellTower_185 : decode cX9_tellTower 185 = .ok (.getfield 9, 3) := by decide +kernel
theorem dX9_tellTower_188 : decode cX9_tellTower 188 = .ok (.invokevirtual 98, 3) := by decide +kernel
theorem dX9_tellTower_191 : decode cX9_tellTower 191 = .ok (.aload_n 0, 1) := by decide +kernel
theorem dX9_tellTower_192 : decode cX9_tellTower 192 = .ok (.getfield 15, 3) := by decide +kernel
theorem dX9_tellTower_195 : decode cX9_tellTower 195 = .ok (.iload_n 1, 1) := by decide +kernel
theorem dX9_tellTower_196 : decode cX9_tellTower 196 = .ok (.iconst 1, 1) := by decide +kernel
theorem dX9_tellTower_197 : decode cX9_tellTower 197 = .ok (.iadd, 1) := by decide +kernel
theorem dX9_tellTower_198 : decode cX9_tellTower 198 = .ok (.putfield 111, 3) := by decide +kernel
theorem dX9_tellTower_201 : decode cX9_tellTower 201 = .ok (.iconst 1, 1) := by decide +kernel
theorem dX9_tellTower_202 : decode cX9_tellTower 202 = .ok (.ireturn, 1) := by decide +kernel
theorem dX9_directionHere_0 : decode cX9_directionHere 0 = .ok (.aload_n 0, 1) := by decide +kernel
theorem dX9_directionHere_1 : decode cX9_directionHere 1 = .ok (.getfield 9, 3) := by decide +kernel
theorem dX9_directionHere_4 : decode cX9_directionHere 4 = .ok (.ldc 165, 2) := by decide +kernel
theorem dX9_directionHere_6 : decode cX9_directionHere 6 = .ok (.invokevirtual 47, 3) := by decide +kernel
theorem dX9_directionHere_9 : decode cX9_directionHere 9 = .ok (.ifCond .eq 5, 3) := by decide +kernel
theorem dX9_directionHere_12 : decode cX9_directionHere 12 = .ok (.iconst 0, 1) := by decide +kernel
theorem dX9_directionHere_13 : decode cX9_directionHere 13 = .ok (.ireturn, 1) := by decide +kernel
theorem dX9_directionHere_14 : decode cX9_directionHere 14 = .ok (.aload_n 0, 1) := by decide +kernel
theorem dX9_directionHere_15 : decode cX9_directionHere 15 = .ok (.getfield 9, 3) := by decide +kernel
theorem dX9_directionHere_18 : decode cX9_directionHere 18 = .ok (.ldc 167, 2) := by decide +kernel
theorem dX9_directionHere_20 : decode cX9_directionHere 20 = .ok (.invokevirtual 47, 3) := by decide +kernel
theorem dX9_directionHere_23 : decode cX9_directionHere 23 = .ok (.ifCond .eq 5, 3) := by decide +kernel
theorem dX9_directionHere_26 : decode cX9_directionHere 26 = .ok (.iconst 1, 1) := by decide +kernel
theorem dX9_directionHere_27 : decode cX9_directionHere 27 = .ok (.ireturn, 1) := by decide +kernel
theorem dX9_directionHere_28 : decode cX9_directionHere 28 = .ok (.aload_n 0, 1) := by decide +kernel
theorem dX9_directionHere_29 : decode cX9_directionHere 29 = .ok (.getfield 9, 3) := by decide +kernel
theorem dX9_directionHere_32 : decode cX9_directionHere 32 = .ok (.ldc 169, 2) := by decide +kernel
theorem dX9_directionHere_34 : decode cX9_directionHere 34 = .ok (.invokevirtual 47, 3) := by decide +kernel
theorem dX9_directionHere_37 : decode cX9_directionHere 37 = .ok (.ifCond .eq 5, 3) := by decide +kernel
theorem dX9_directionHere_40 : decode cX9_directionHere 40 = .ok (.iconst 2, 1) := by decide +kernel
theorem dX9_directionHere_41 : decode cX9_directionHere 41 = .ok (.ireturn, 1) := by decide +kernel
theorem dX9_directionHere_42 : decode cX9_directionHere 42 = .ok (.aload_n 0, 1) := by decide +kernel
theorem dX9_directionHere_43 : decode cX9_directionHere 43 = .ok (.getfield 9, 3) := by decide +kernel
theorem dX9_directionHere_46 : decode cX9_directionHere 46 = .ok (.ldc 171, 2) := by decide +kernel
theorem dX9_directionHere_48 : decode cX9_directionHere 48 = .ok (.invokevirtual 47, 3) := by decide +kernel
theorem dX9_directionHere_51 : decode cX9_directionHere 51 = .ok (.ifCond .eq 7, 3) := by decide +kernel
theorem dX9_directionHere_54 : decode cX9_directionHere 54 = .ok (.iconst 3, 1) := by decide +kernel
theorem dX9_directionHere_55 : decode cX9_directionHere 55 = .ok (.goto 4, 3) := by decide +kernel
theorem dX9_directionHere_58 : decode cX9_directionHere 58 = .ok (.iconst (-1), 1) := by decide +kernel
theorem dX9_directionHere_59 : decode cX9_directionHere 59 = .ok (.ireturn, 1) := by decide +kernel
theorem dX9_tellWind_0 : decode cX9_tellWind 0 = .ok (.aload_n 0, 1) := by decide +kernel
theorem dX9_tellWind_1 : decode cX9_tellWind 1 = .ok (.getfield 24, 3) := by decide +kernel
theorem dX9_tellWind_4 : decode cX9_tellWind 4 = .ok (.ifCond .eq 12, 3) := by decide +kernel
theorem dX9_tellWind_7 : decode cX9_tellWind 7 = .ok (.aload_n 0, 1) := by decide +kernel
theorem dX9_tellWind_8 : decode cX9_tellWind 8 = .ok (.getfield 9, 3) := by decide +kernel
theorem dX9_tellWind_11 : decode cX9_tellWind 11 = .ok (.iconst 4, 1) := by decide +kernel
theorem dX9_tellWind_12 : decode cX9_tellWind 12 = .ok (.invokevirtual 55, 3) := by decide +kernel
theorem dX9_tellWind_15 : decode cX9_tellWind 15 = .ok (.ireturn, 1) := by decide +kernel
theorem dX9_tellWind_16 : decode cX9_tellWind 16 = .ok (.aload_n 0, 1) := by decide +kernel
theorem dX9_tellWind_17 : decode cX9_tellWind 17 = .ok (.iconst 1, 1) := by decide +kernel
theorem dX9_tellWind_18 : decode cX9_tellWind 18 = .ok (.putfield 24, 3) := by decide +kernel
theorem dX9_tellWind_21 : decode cX9_tellWind 21 = .ok (.aload_n 0, 1) := by decide +kernel
theorem dX9_tellWind_22 : decode cX9_tellWind 22 = .ok (.getfield 9, 3) := by decide +kernel
theorem dX9_tellWind_25 : decode cX9_tellWind 25 = .ok (.invokevirtual 98, 3) := by decide +kernel
theorem dX9_tellWind_28 : decode cX9_tellWind 28 = .ok (.aload_n 0, 1) := by decide +kernel
theorem dX9_tellWind_29 : decode cX9_tellWind 29 = .ok (.invokevirtual 157, 3) := by decide +kernel
theorem dX9_tellWind_32 : decode cX9_tellWind 32 = .ok (.istore_n 1, 1) := by decide +kernel
theorem dX9_tellWind_33 : decode cX9_tellWind 33 = .ok (.iload_n 1, 1) := by decide +kernel
theorem dX9_tellWind_34 : decode cX9_tellWind 34 = .ok (.iconst (-1), 1) := by decide +kernel
theorem dX9_tellWind_35 : decode cX9_tellWind 35 = .ok (.if_icmp .ne 12, 3) := by decide +kernel
theorem dX9_tellWind_38 : decode cX9_tellWind 38 = .ok (.aload_n 0, 1) := by decide +kernel
theorem dX9_tellWind_39 : decode cX9_tellWind 39 = .ok (.getfield 9, 3) := by decide +kernel
theorem dX9_tellWind_42 : decode cX9_tellWind 42 = .ok (.iconst 1, 1) := by decide +kernel
theorem dX9_tellWind_43 : decode cX9_tellWind 43 = .ok (.invokevirtual 55, 3) := by decide +kernel
theorem dX9_tellWind_46 : decode cX9_tellWind 46 = .ok (.ireturn, 1) := by decide +kernel
theorem dX9_tellWind_47 : decode cX9_tellWind 47 = .ok (.aload_n 0, 1) := by decide +kernel
theorem dX9_tellWind_48 : decode cX9_tellWind 48 = .ok (.getfield 9, 3) := by decide +kernel
theorem dX9_tellWind_51 : decode cX9_tellWind 51 = .ok (.invokevirtual 98, 3) := by decide +kernel
theorem dX9_tellWind_54 : decode cX9_tellWind 54 = .ok (.aload_n 0, 1) := by decide +kernel
theorem dX9_tellWind_55 : decode cX9_tellWind 55 = .ok (.getfield 9, 3) := by decide +kernel
theorem dX9_tellWind_58 : decode cX9_tellWind 58 = .ok (.iconst 0, 1) := by decide +kernel
theorem dX9_tellWind_59 : decode cX9_tellWind 59 = .ok (.iconst 3, 1) := by decide +kernel
theorem dX9_tellWind_60 : decode cX9_tellWind 60 = .ok (.invokevirtual 101, 3) := by decide +kernel
theorem dX9_tellWind_63 : decode cX9_tellWind 63 = .ok (.istore_n 2, 1) := by decide +kernel
theorem dX9_tellWind_64 : decode cX9_tellWind 64 = .ok (.iload_n 2, 1) := by decide +kernel
theorem dX9_tellWind_65 : decode cX9_tellWind 65 = .ok (.iconst (-1), 1) := by decide +kernel
theorem dX9_tellWind_66 : decode cX9_tellWind 66 = .ok (.if_icmp .ne 5, 3) := by decide +kernel
theorem dX9_tellWind_69 : decode cX9_tellWind 69 = .ok (.iconst 0, 1) := by decide +kernel
theorem dX9_tellWind_70 : decode cX9_tellWind 70 = .ok (.ireturn, 1) := by decide +kernel
theorem dX9_tellWind_71 : decode cX9_tellWind 71 = .ok (.aload_n 0, 1) := by decide +kernel
theorem dX9_tellWind_72 : decode cX9_tellWind 72 = .ok (.getfield 15, 3) := by decide +kernel
theorem dX9_tellWind_75 : decode cX9_tellWind 75 = .ok (.iload_n 1, 1) := by decide +kernel
theorem dX9_tellWind_76 : decode cX9_tellWind 76 = .ok (.putfield 160, 3) := by decide +kernel
theorem dX9_tellWind_79 : decode cX9_tellWind 79 = .ok (.aload_n 0, 1) := by decide +kernel
theorem dX9_tellWind_80 : decode cX9_tellWind 80 = .ok (.getfield 15, 3) := by decide +kernel
theorem dX9_tellWind_83 : decode cX9_tellWind 83 = .ok (.iload_n 2, 1) := by decide +kernel
theorem dX9_tellWind_84 : decode cX9_tellWind 84 = .ok (.putfield 162, 3) := by decide +kernel
theorem dX9_tellWind_87 : decode cX9_tellWind 87 = .ok (.iconst 1, 1) := by decide +kernel
theorem dX9_tellWind_88 : decode cX9_tellWind 88 = .ok (.ireturn, 1) := by decide +kernel
theorem dX9_kindHere_0 : decode cX9_kindHere 0 = .ok (.aload_n 0, 1) := by decide +kernel
theorem dX9_kindHere_1 : decode cX9_kindHere 1 = .ok (.getfield 9, 3) := by decide +kernel
theorem dX9_kindHere_4 : decode cX9_kindHere 4 = .ok (.ldc 86, 2) := by decide +kernel
theorem dX9_kindHere_6 : decode cX9_kindHere 6 = .ok (.invokevirtual 47, 3) := by decide +kernel
theorem dX9_kindHere_9 : decode cX9_kindHere 9 = .ok (.ifCond .eq 5, 3) := by decide +kernel
theorem dX9_kindHere_12 : decode cX9_kindHere 12 = .ok (.iconst 0, 1) := by decide +kernel
theorem dX9_kindHere_13 : decode cX9_kindHere 13 = .ok (.ireturn, 1) := by decide +kernel
theorem dX9_kindHere_14 : decode cX9_kindHere 14 = .ok (.aload_n 0, 1) := by decide +kernel
theorem dX9_kindHere_15 : decode cX9_kindHere 15 = .ok (.getfield 9, 3) := by decide +kernel
theorem dX9_kindHere_18 : decode cX9_kindHere 18 = .ok (.ldc 90, 2) := by decide +kernel
theorem dX9_kindHere_20 : decode cX9_kindHere 20 = .ok (.invokevirtual 47, 3) := by decide +kernel
theorem dX9_kindHere_23 : decode cX9_kindHere 23 = .ok (.ifCond .eq 5, 3) := by decide +kernel
theorem dX9_kindHere_26 : decode cX9_kindHere 26 = .ok (.iconst 1, 1) := by decide +kernel
theorem dX9_kindHere_27 : decode cX9_kindHere 27 = .ok (.ireturn, 1) := by decide +kernel
theorem dX9_kindHere_28 : decode cX9_kindHere 28 = .ok (.aload_n 0, 1) := by decide +kernel
theorem dX9_kindHere_29 : decode cX9_kindHere 29 = .ok (.getfield 9, 3) := by decide +kernel
theorem dX9_kindHere_32 : decode cX9_kindHere 32 = .ok (.ldc 92, 2) := by decide +kernel
theorem dX9_kindHere_34 : decode cX9_kindHere 34 = .ok (.invokevirtual 47, 3) := by decide +kernel
theorem dX9_kindHere_37 : decode cX9_kindHere 37 = .ok (.ifCond .eq 5, 3) := by decide +kernel
theorem dX9_kindHere_40 : decode cX9_kindHere 40 = .ok (.iconst 2, 1) := by decide +kernel
theorem dX9_kindHere_41 : decode cX9_kindHere 41 = .ok (.ireturn, 1) := by decide +kernel
theorem dX9_kindHere_42 : decode cX9_kindHere 42 = .ok (.aload_n 0, 1) := by decide +kernel
theorem dX9_kindHere_43 : decode cX9_kindHere 43 = .ok (.getfield 9, 3) := by decide +kernel
theorem dX9_kindHere_46 : decode cX9_kindHere 46 = .ok (.ldc 94, 2) := by decide +kernel
theorem dX9_kindHere_48 : decode cX9_kindHere 48 = .ok (.invokevirtual 47, 3) := by decide +kernel
theorem dX9_kindHere_51 : decode cX9_kindHere 51 = .ok (.ifCond .eq 5, 3) := by decide +kernel
theorem dX9_kindHere_54 : decode cX9_kindHere 54 = .ok (.iconst 3, 1) := by decide +kernel
theorem dX9_kindHere_55 : decode cX9_kindHere 55 = .ok (.ireturn, 1) := by decide +kernel
theorem dX9_kindHere_56 : decode cX9_kindHere 56 = .ok (.aload_n 0, 1) := by decide +kernel
theorem dX9_kindHere_57 : decode cX9_kindHere 57 = .ok (.getfield 9, 3) := by decide +kernel
theorem dX9_kindHere_60 : decode cX9_kindHere 60 = .ok (.ldc 96, 2) := by decide +kernel
theorem dX9_kindHere_62 : decode cX9_kindHere 62 = .ok (.invokevirtual 47, 3) := by decide +kernel
theorem dX9_kindHere_65 : decode cX9_kindHere 65 = .ok (.ifCond .eq 7, 3) := by decide +kernel
theorem dX9_kindHere_68 : decode cX9_kindHere 68 = .ok (.iconst 4, 1) := by decide +kernel
theorem dX9_kindHere_69 : decode cX9_kindHere 69 = .ok (.goto 4, 3) := by decide +kernel
theorem dX9_kindHere_72 : decode cX9_kindHere 72 = .ok (.iconst (-1), 1) := by decide +kernel
theorem dX9_kindHere_73 : decode cX9_kindHere 73 = .ok (.ireturn, 1) := by decide +kernel
theorem dX9_tellLine_0 : decode cX9_tellLine 0 = .ok (.aload_n 0, 1) := by decide +kernel
theorem dX9_tellLine_1 : decode cX9_tellLine 1 = .ok (.getfield 9, 3) := by decide +kernel
theorem dX9_tellLine_4 : decode cX9_tellLine 4 = .ok (.ldc 45, 2) := by decide +kernel
theorem dX9_tellLine_6 : decode cX9_tellLine 6 = .ok (.invokevirtual 47, 3) := by decide +kernel
theorem dX9_tellLine_9 : decode cX9_tellLine 9 = .ok (.ifCond .eq 23, 3) := by decide +kernel
theorem dX9_tellLine_12 : decode cX9_tellLine 12 = .ok (.iload_n 1, 1) := by decide +kernel
theorem dX9_tellLine_13 : decode cX9_tellLine 13 = .ok (.ifCond .eq 10, 3) := by decide +kernel
theorem dX9_tellLine_16 : decode cX9_tellLine 16 = .ok (.aload_n 0, 1) := by decide +kernel
theorem dX9_tellLine_17 : decode cX9_tellLine 17 = .ok (.invokevirtual 51, 3) := by decide +kernel
theorem dX9_tellLine_20 : decode cX9_tellLine 20 = .ok (.goto 11, 3) := by decide +kernel
theorem dX9_tellLine_23 : decode cX9_tellLine 23 = .ok (.aload_n 0, 1) := by decide +kernel
theorem dX9_tellLine_24 : decode cX9_tellLine 24 = .ok (.getfield 9, 3) := by decide +kernel
theorem dX9_tellLine_27 : decode cX9_tellLine 27 = .ok (.iconst 3, 1) := by decide +kernel
theorem dX9_tellLine_28 : decode cX9_tellLine 28 = .ok (.invokevirtual 55, 3) := by decide +kernel
theorem dX9_tellLine_31 : decode cX9_tellLine 31 = .ok (.ireturn, 1) := by decide +kernel
theorem dX9_tellLine_32 : decode cX9_tellLine 32 = .ok (.aload_n 0, 1) := by decide +kernel
theorem dX9_tellLine_33 : decode cX9_tellLine 33 = .ok (.getfield 9, 3) := by decide +kernel
theorem dX9_tellLine_36 : decode cX9_tellLine 36 = .ok (.ldc 59, 2) := by decide +kernel
theorem dX9_tellLine_38 : decode cX9_tellLine 38 = .ok (.invokevirtual 47, 3) := by decide +kernel
theorem dX9_tellLine_41 : decode cX9_tellLine 41 = .ok (.ifCond .eq 8, 3) := by decide +kernel
theorem dX9_tellLine_44 : decode cX9_tellLine 44 = .ok (.aload_n 0, 1) := by decide +kernel
theorem dX9_tellLine_45 : decode cX9_tellLine 45 = .ok (.invokevirtual 61, 3) := by decide +kernel
theorem dX9_tellLine_48 : decode cX9_tellLine 48 = .ok (.ireturn, 1) := by decide +kernel
theorem dX9_tellLine_49 : decode cX9_tellLine 49 = .ok (.aload_n 0, 1) := by decide +kernel
theorem dX9_tellLine_50 : decode cX9_tellLine 50 = .ok (.getfield 9, 3) := by decide +kernel
theorem dX9_tellLine_53 : decode cX9_tellLine 53 = .ok (.ldc 64, 2) := by decide +kernel
theorem dX9_tellLine_55 : decode cX9_tellLine 55 = .ok (.invokevirtual 47, 3) := by decide +kernel
theorem dX9_tellLine_58 : decode cX9_tellLine 58 = .ok (.ifCond .eq 8, 3) := by decide +kernel
theorem dX9_tellLine_61 : decode cX9_tellLine 61 = .ok (.aload_n 0, 1) := by decide +kernel
theorem dX9_tellLine_62 : decode cX9_tellLine 62 = .ok (.invokevirtual 66, 3) := by decide +kernel
theorem dX9_tellLine_65 : decode cX9_tellLine 65 = .ok (.ireturn, 1) := by decide +kernel
theorem dX9_tellLine_66 : decode cX9_tellLine 66 = .ok (.aload_n 0, 1) := by decide +kernel
theorem dX9_tellLine_67 : decode cX9_tellLine 67 = .ok (.getfield 9, 3) := by decide +kernel
theorem dX9_tellLine_70 : decode cX9_tellLine 70 = .ok (.ldc 69, 2) := by decide +kernel
theorem dX9_tellLine_72 : decode cX9_tellLine 72 = .ok (.invokevirtual 47, 3) := by decide +kernel
theorem dX9_tellLine_75 : decode cX9_tellLine 75 = .ok (.ifCond .eq 8, 3) := by decide +kernel
theorem dX9_tellLine_78 : decode cX9_tellLine 78 = .ok (.aload_n 0, 1) := by decide +kernel
theorem dX9_tellLine_79 : decode cX9_tellLine 79 = .ok (.invokevirtual 71, 3) := by decide +kernel
theorem dX9_tellLine_82 : decode cX9_tellLine 82 = .ok (.ireturn, 1) := by decide +kernel
theorem dX9_tellLine_83 : decode cX9_tellLine 83 = .ok (.aload_n 0, 1) := by decide +kernel
theorem dX9_tellLine_84 : decode cX9_tellLine 84 = .ok (.getfield 9, 3) := by decide +kernel
theorem dX9_tellLine_87 : decode cX9_tellLine 87 = .ok (.ldc 74, 2) := by decide +kernel
theorem dX9_tellLine_89 : decode cX9_tellLine 89 = .ok (.invokevirtual 47, 3) := by decide +kernel
theorem dX9_tellLine_92 : decode cX9_tellLine 92 = .ok (.ifCond .eq 8, 3) := by decide +kernel
theorem dX9_tellLine_95 : decode cX9_tellLine 95 = .ok (.aload_n 0, 1) := by decide +kernel
theorem dX9_tellLine_96 : decode cX9_tellLine 96 = .ok (.invokevirtual 76, 3) := by decide +kernel
theorem dX9_tellLine_99 : decode cX9_tellLine 99 = .ok (.ireturn, 1) := by decide +kernel
theorem dX9_tellLine_100 : decode cX9_tellLine 100 = .ok (.aload_n 0, 1) := by decide +kernel
theorem dX9_tellLine_101 : decode cX9_tellLine 101 = .ok (.invokevirtual 79, 3) := by decide +kernel
theorem dX9_tellLine_104 : decode cX9_tellLine 104 = .ok (.istore_n 2, 1) := by decide +kernel
theorem dX9_tellLine_105 : decode cX9_tellLine 105 = .ok (.iload_n 2, 1) := by decide +kernel
theorem dX9_tellLine_106 : decode cX9_tellLine 106 = .ok (.iconst (-1), 1) := by decide +kernel
theorem dX9_tellLine_107 : decode cX9_tellLine 107 = .ok (.if_icmp .ne 14, 3) := by decide +kernel
theorem dX9_tellLine_110 : decode cX9_tellLine 110 = .ok (.aload_n 0, 1) := by decide +kernel
theorem dX9_tellLine_111 : decode cX9_tellLine 111 = .ok (.getfield 9, 3) := by decide +kernel
theorem dX9_tellLine_114 : decode cX9_tellLine 114 = .ok (.iconst 1, 1) := by decide +kernel
theorem dX9_tellLine_115 : decode cX9_tellLine 115 = .ok (.invokevirtual 55, 3) := by decide +kernel
theorem dX9_tellLine_118 : decode cX9_tellLine 118 = .ok (.goto 8, 3) := by decide +kernel
theorem dX9_tellLine_121 : decode cX9_tellLine 121 = .ok (.aload_n 0, 1) := by decide +kernel
theorem dX9_tellLine_122 : decode cX9_tellLine 122 = .ok (.iload_n 2, 1) := by decide +kernel
theorem dX9_tellLine_123 : decode cX9_tellLine 123 = .ok (.invokevirtual 83, 3) := by decide +kernel
theorem dX9_tellLine_126 : decode cX9_tellLine 126 = .ok (.ireturn, 1) := by decide +kernel
theorem dX9_tell_0 : decode cX9_tell 0 = .ok (.aload_n 0, 1) := by decide +kernel
theorem dX9_tell_1 : decode cX9_tell 1 = .ok (.getfield 15, 3) := by decide +kernel
theorem dX9_tell_4 : decode cX9_tell 4 = .ok (.invokevirtual 19, 3) := by decide +kernel
theorem dX9_tell_7 : decode cX9_tell 7 = .ok (.aload_n 0, 1) := by decide +kernel
theorem dX9_tell_8 : decode cX9_tell 8 = .ok (.iconst 0, 1) := by decide +kernel
theorem dX9_tell_9 : decode cX9_tell 9 = .ok (.putfield 24, 3) := by decide +kernel
theorem dX9_tell_12 : decode cX9_tell 12 = .ok (.aload_n 0, 1) := by decide +kernel
theorem dX9_tell_13 : decode cX9_tell 13 = .ok (.iconst 0, 1) := by decide +kernel
theorem dX9_tell_14 : decode cX9_tell 14 = .ok (.putfield 28, 3) := by decide +kernel
theorem dX9_tell_17 : decode cX9_tell 17 = .ok (.iconst 0, 1) := by decide +kernel
theorem dX9_tell_18 : decode cX9_tell 18 = .ok (.istore_n 1, 1) := by decide +kernel
theorem dX9_tell_19 : decode cX9_tell 19 = .ok (.iload_n 1, 1) := by decide +kernel
theorem dX9_tell_20 : decode cX9_tell 20 = .ok (.sipush 500, 3) := by decide +kernel
theorem dX9_tell_23 : decode cX9_tell 23 = .ok (.if_icmp .gt 49, 3) := by decide +kernel
theorem dX9_tell_26 : decode cX9_tell 26 = .ok (.aload_n 0, 1) := by decide +kernel
theorem dX9_tell_27 : decode cX9_tell 27 = .ok (.getfield 9, 3) := by decide +kernel
theorem dX9_tell_30 : decode cX9_tell 30 = .ok (.getfield 31, 3) := by decide +kernel
theorem dX9_tell_33 : decode cX9_tell 33 = .ok (.ifCond .eq 39, 3) := by decide +kernel
theorem dX9_tell_36 : decode cX9_tell 36 = .ok (.aload_n 0, 1) := by decide +kernel
theorem dX9_tell_37 : decode cX9_tell 37 = .ok (.iload_n 1, 1) := by decide +kernel
theorem dX9_tell_38 : decode cX9_tell 38 = .ok (.ifCond .ne 7, 3) := by decide +kernel
theorem dX9_tell_41 : decode cX9_tell 41 = .ok (.iconst 1, 1) := by decide +kernel
theorem dX9_tell_42 : decode cX9_tell 42 = .ok (.goto 4, 3) := by decide +kernel
theorem dX9_tell_45 : decode cX9_tell 45 = .ok (.iconst 0, 1) := by decide +kernel
theorem dX9_tell_46 : decode cX9_tell 46 = .ok (.invokevirtual 37, 3) := by decide +kernel
theorem dX9_tell_49 : decode cX9_tell 49 = .ok (.ifCond .eq 15, 3) := by decide +kernel
theorem dX9_tell_52 : decode cX9_tell 52 = .ok (.aload_n 0, 1) := by decide +kernel
theorem dX9_tell_53 : decode cX9_tell 53 = .ok (.getfield 9, 3) := by decide +kernel
theorem dX9_tell_56 : decode cX9_tell 56 = .ok (.bipush 59, 2) := by decide +kernel
theorem dX9_tell_58 : decode cX9_tell 58 = .ok (.invokevirtual 41, 3) := by decide +kernel
theorem dX9_tell_61 : decode cX9_tell 61 = .ok (.ifCond .ne 5, 3) := by decide +kernel
theorem dX9_tell_64 : decode cX9_tell 64 = .ok (.iconst 0, 1) := by decide +kernel
theorem dX9_tell_65 : decode cX9_tell 65 = .ok (.ireturn, 1) := by decide +kernel
theorem dX9_tell_66 : decode cX9_tell 66 = .ok (.iinc 1 1, 3) := by decide +kernel
theorem dX9_tell_69 : decode cX9_tell 69 = .ok (.goto (-50), 3) := by decide +kernel
theorem dX9_tell_72 : decode cX9_tell 72 = .ok (.iconst 1, 1) := by decide +kernel
theorem dX9_tell_73 : decode cX9_tell 73 = .ok (.ireturn, 1) := by decide +kernel
def wpX9_tellSize (sR : AR) (sG : AR) (R_text : AR) (post : Int32 → AR → AR → Prop) : Prop := wpX8_advance sR R_text (fun sR_4 => wpX8_number sR_4 R_text (2 : Int32) (10 : Int32) (fun r14 sR_14 => ((¬ r14 = (-1 : Int32) → wpX8_number sR_14 R_text (2 : Int32) (10 : Int32) (fun r32 sR_32 => ((¬ r32 = (-1 : Int32) → post (1 : Int32) sR_32 (upd (upd sG 0 r14) 1 r32)) ∧ (r32 = (-1 : Int32) → post (0 : Int32) sR_32 sG)))) ∧ (r14 = (-1 : Int32) → post (0 : Int32) sR_14 sG))))
set_option maxHeartbeats 4000000 in
set_option maxRecDepth 100000 in
theorem ctX9_tellSize (l : Launch) (D : va_G) (cy : Nat → ClassId) (ev : Nat → Nat) (h0 : Nat) (rL : Nat → Nat) (rR : Nat → Nat) (rG : Nat → Nat) (sL : AR) (sR : AR) (sG : AR) (R_text : AR) (sz : Nat) (post : Int32 → AR → AR → Prop) (h : wpX9_tellSize sR sG R_text post) : Met l yX9_tellSize (Cond.code yX9_tellSize cX9_tellSize 3 (some .boolean) :: TB) ({ frames := 2, cells := 0, slots := 0, locals := 44 }) (va_Pc [.ref h0] (PreX D cy ev [(h0, .inr (9, oX9 rL sL)), ((rL 0), .inr (8, oX8 rR sR)), ((rL 1), .inr (4, oX4 rG sG)), ((rR 0), .inl (cy 1, 500, .inl R_text))] sz)) (va_Qi (fun (r : Int32) (u : AR × AR) => post r (u.1) (u.2)) (fun u => BkX D cy [(h0, .inr (9, oX9 rL sL)), ((rL 0), .inr (8, oX8 rR sR)), ((rL 1), .inr (4, oX4 rG sG)), ((rR 0), .inl (cy 1, 500, .inl R_text))] sz [(h0, .inr (9, oX9 rL sL)), ((rL 0), .inr (8, oX8 rR (u.1))), ((rL 1), .inr (4, oX4 rG (u.2))), ((rR 0), .inl (cy 1, 500, .inl R_text))]) (va_A [(h0, .inr (9, oX9 rL sL)), ((rL 0), .inr (8, oX8 rR sR)), ((rL 1), .inr (4, oX4 rG sG)), ((rR 0), .inl (cy 1, 500, .inl R_text))] sz)) 0 0 (va_A [(h0, .inr (9, oX9 rL sL)), ((rL 0), .inr (8, oX8 rR sR)), ((rL 1), .inr (4, oX4 rG sG)), ((rR 0), .inl (cy 1, 500, .inl R_text))] sz) := by
  refine ofWi (by decide) (Nat.le_of_ble_eq_true rfl) ?_
  intro p e s m args below meth c ls A R QQ hx hb hml hown hts hR hlk hE hK hP hD hS hA hl hret
  have hown : s.vm.findClass RX9 = some m.cls := hown
  have hRf : 2 ≤ R.frames := by rw [hR]; exact Nat.le_refl _
  have hRl : 44 ≤ R.locals := by rw [hR]; exact Nat.le_refl _
  clear hR
  have hl : lv_has ls 3 [(0, .ref h0)] := hl
  refine lv_aload_n hx hb dX9_tellSize_0 rfl (lv_at hl 0 rfl) ?_
  refine gfX9_9 hx hb hts hown hK hP 0 rfl dX9_tellSize_1 ?_
  refine clVv (As := []) (rest := []) (Wr := [(h0, .inr (9, oX9 rL sL)), ((rL 1), .inr (4, oX4 rG sG))]) (cq := (RX8, TX8, 10)) ⟨hx, hb, hml, hown, hts⟩ ⟨callB_of 0 hts (goodC mw736) rfl rfl rfl (hts _ (tb mw2)) (hts _ (tb mw803)) kdX8_advance ⟨Nat.le_trans (by decide) hRf, Nat.le_trans (by decide) hRl⟩, hts _ (tb mw734), hts _ (tb mw735)⟩ (ctX8_advance l D cy ev (rL 0) rR sR R_text  _ _ h) hE hK hP hD hS hA [1, 3] [0, 2] rfl rfl (by decide) (by decide) (by decide) 0 rfl rfl rfl hl.1 rfl (Nat.le_of_ble_eq_true rfl) ⟨Nat.zero_le _, Nat.zero_le _⟩ dX9_tellSize_4 (fun sR_4 H locs h hP hD hS => ?_)
  have hP : va_P D clsX [(h0, .inr (9, oX9 rL sL)), ((rL 1), .inr (4, oX4 rG sG)), ((rL 0), .inr (8, oX8 rR sR_4)), ((rR 0), .inl (cy 1, 500, .inl R_text))] H := hP
  have hD : va_D A [(h0, .inr (9, oX9 rL sL)), ((rL 1), .inr (4, oX4 rG sG)), ((rL 0), .inr (8, oX8 rR sR_4)), ((rR 0), .inl (cy 1, 500, .inl R_text))] := hD
  refine lv_aload_n hx hb dX9_tellSize_7 rfl (lv_at hl 0 rfl) ?_
  refine gfX9_9 hx hb hts hown hK hP 0 rfl dX9_tellSize_8 ?_
  refine lv_iconst (v := (2 : Int32)) hx hb dX9_tellSize_11 (by decide) ?_
  refine lv_bipush (v := (10 : Int32)) hx hb dX9_tellSize_12 (by decide) ?_
  refine clVi (As := [.int (2 : Int32), .int (10 : Int32)]) (rest := []) (Wr := [(h0, .inr (9, oX9 rL sL)), ((rL 1), .inr (4, oX4 rG sG))]) (cq := (RX8, TX8, 10)) ⟨hx, hb, hml, hown, hts⟩ ⟨callB_of 2 hts (goodC mw807) rfl rfl rfl (hts _ (tb mw2)) (hts _ (tb mw804)) kdX8_number ⟨Nat.le_trans (by decide) hRf, Nat.le_trans (by decide) hRl⟩, hts _ (tb mw805), hts _ (tb mw806)⟩ (ctX8_number l D cy ev (rL 0) rR sR_4 R_text (2 : Int32) (10 : Int32) _ _ h) hE hK hP hD hS hA [2, 3] [0, 1] rfl rfl (by decide) (by decide) (by decide) 0 rfl rfl rfl hl.1 rfl (Nat.le_of_ble_eq_true rfl) ⟨Nat.zero_le _, Nat.zero_le _⟩ dX9_tellSize_14 (fun r14 sR_14 H locs h hP hD hS => ?_)
  have hP : va_P D clsX [(h0, .inr (9, oX9 rL sL)), ((rL 1), .inr (4, oX4 rG sG)), ((rL 0), .inr (8, oX8 rR sR_14)), ((rR 0), .inl (cy 1, 500, .inl R_text))] H := hP
  have hD : va_D A [(h0, .inr (9, oX9 rL sL)), ((rL 1), .inr (4, oX4 rG sG)), ((rL 0), .inr (8, oX8 rR sR_14)), ((rR 0), .inl (cy 1, 500, .inl R_text))] := hD
  refine lv_istore_n (lv' := [(1, .int r14), (0, .ref h0)]) hx hb dX9_tellSize_17 rfl hl (by decide) rfl (fun ls hl => ?_)
  refine lv_iload_n hx hb dX9_tellSize_18 rfl (lv_at hl 0 rfl) ?_
  refine lv_iconst (v := (-1 : Int32)) hx hb dX9_tellSize_19 (by decide) ?_
  refine lv_icmp_ne (tgt := 25) hx hb dX9_tellSize_20 (by decide) (fun c20 => ?_) (fun c20 => ?_)
  · have h := h.1 c20
    refine lv_aload_n hx hb dX9_tellSize_25 rfl (lv_at hl 1 rfl) ?_
    refine gfX9_9 hx hb hts hown hK hP 0 rfl dX9_tellSize_26 ?_
    refine lv_iconst (v := (2 : Int32)) hx hb dX9_tellSize_29 (by decide) ?_
    refine lv_bipush (v := (10 : Int32)) hx hb dX9_tellSize_30 (by decide) ?_
    refine clVi (As := [.int (2 : Int32), .int (10 : Int32)]) (rest := []) (Wr := [(h0, .inr (9, oX9 rL sL)), ((rL 1), .inr (4, oX4 rG sG))]) (cq := (RX8, TX8, 10)) ⟨hx, hb, hml, hown, hts⟩ ⟨callB_of 2 hts (goodC mw807) rfl rfl rfl (hts _ (tb mw2)) (hts _ (tb mw804)) kdX8_number ⟨Nat.le_trans (by decide) hRf, Nat.le_trans (by decide) hRl⟩, hts _ (tb mw805), hts _ (tb mw806)⟩ (ctX8_number l D cy ev (rL 0) rR sR_14 R_text (2 : Int32) (10 : Int32) _ _ h) hE hK hP hD hS hA [2, 3] [0, 1] rfl rfl (by decide) (by decide) (by decide) 0 rfl rfl rfl hl.1 rfl (Nat.le_of_ble_eq_true rfl) ⟨Nat.zero_le _, Nat.zero_le _⟩ dX9_tellSize_32 (fun r32 sR_32 H locs h hP hD hS => ?_)
    have hP : va_P D clsX [(h0, .inr (9, oX9 rL sL)), ((rL 1), .inr (4, oX4 rG sG)), ((rL 0), .inr (8, oX8 rR sR_32)), ((rR 0), .inl (cy 1, 500, .inl R_text))] H := hP
    have hD : va_D A [(h0, .inr (9, oX9 rL sL)), ((rL 1), .inr (4, oX4 rG sG)), ((rL 0), .inr (8, oX8 rR sR_32)), ((rR 0), .inl (cy 1, 500, .inl R_text))] := hD
    refine lv_istore_n (lv' := [(2, .int r32), (1, .int r14), (0, .ref h0)]) hx hb dX9_tellSize_35 rfl hl (by decide) rfl (fun ls hl => ?_)
    refine lv_iload_n hx hb dX9_tellSize_36 rfl (lv_at hl 0 rfl) ?_
    refine lv_iconst (v := (-1 : Int32)) hx hb dX9_tellSize_37 (by decide) ?_
    refine lv_icmp_ne (tgt := 43) hx hb dX9_tellSize_38 (by decide) (fun c38 => ?_) (fun c38 => ?_)
    · have h := h.1 c38
      refine lv_aload_n hx hb dX9_tellSize_43 rfl (lv_at hl 2 rfl) ?_
      refine gfX9_15 hx hb hts hown hK hP 0 rfl dX9_tellSize_44 ?_
      refine lv_iload_n hx hb dX9_tellSize_47 rfl (lv_at hl 1 rfl) ?_
      refine pfX9_105 hx hb hts hown hK hP hD hS 1 rfl dX9_tellSize_48 (fun H locs hP hD hS => ?_)
      have hP : va_P D clsX [(h0, .inr (9, oX9 rL sL)), ((rL 1), .inr (4, oX4 rG (upd sG 0 r14))), ((rL 0), .inr (8, oX8 rR sR_32)), ((rR 0), .inl (cy 1, 500, .inl R_text))] H := hP
      have hD : va_D A [(h0, .inr (9, oX9 rL sL)), ((rL 1), .inr (4, oX4 rG (upd sG 0 r14))), ((rL 0), .inr (8, oX8 rR sR_32)), ((rR 0), .inl (cy 1, 500, .inl R_text))] := hD
      refine lv_aload_n hx hb dX9_tellSize_51 rfl (lv_at hl 2 rfl) ?_
      refine gfX9_15 hx hb hts hown hK hP 0 rfl dX9_tellSize_52 ?_
      refine lv_iload_n hx hb dX9_tellSize_55 rfl (lv_at hl 0 rfl) ?_
      refine pfX9_108 hx hb hts hown hK hP hD hS 1 rfl dX9_tellSize_56 (fun H locs hP hD hS => ?_)
      have hP : va_P D clsX [(h0, .inr (9, oX9 rL sL)), ((rL 1), .inr (4, oX4 rG (upd (upd sG 0 r14) 1 r32))), ((rL 0), .inr (8, oX8 rR sR_32)), ((rR 0), .inl (cy 1, 500, .inl R_text))] H := hP
      have hD : va_D A [(h0, .inr (9, oX9 rL sL)), ((rL 1), .inr (4, oX4 rG (upd (upd sG 0 r14) 1 r32))), ((rL 0), .inr (8, oX8 rR sR_32)), ((rR 0), .inl (cy 1, 500, .inl R_text))] := hD
      refine lv_iconst (v := (1 : Int32)) hx hb dX9_tellSize_59 (by decide) ?_
      exact hret (1 : Int32) (sR_32, (upd (upd sG 0 r14) 1 r32)) _ _ _ _ rfl dX9_tellSize_60 h (hP.sub [0, 2, 1, 3] rfl) (hD.sub [0, 2, 1, 3] (by decide) rfl) hS
    · have h := h.2 c38
      refine lv_iconst (v := (0 : Int32)) hx hb dX9_tellSize_41 (by decide) ?_
      exact hret (0 : Int32) (sR_32, sG) _ _ _ _ rfl dX9_tellSize_42 h (hP.sub [0, 2, 1, 3] rfl) (hD.sub [0, 2, 1, 3] (by decide) rfl) hS
  · have h := h.2 c20
    refine lv_iconst (v := (0 : Int32)) hx hb dX9_tellSize_23 (by decide) ?_
    exact hret (0 : Int32) (sR_14, sG) _ _ _ _ rfl dX9_tellSize_24 h (hP.sub [0, 2, 1, 3] rfl) (hD.sub [0, 2, 1, 3] (by decide) rfl) hS
def wpX9_tellCell (sG : AR) (sR : AR) (R_text : AR) (post : Int32 → AR → Prop) : Prop := wpX8_number sR R_text (0 : Int32) ((sG 0) - (1 : Int32)) (fun r14 sR_14 => ((¬ r14 = (-1 : Int32) → wpX8_number sR_14 R_text (0 : Int32) ((sG 1) - (1 : Int32)) (fun r39 sR_39 => ((¬ r39 = (-1 : Int32) → post (((sG 0) * r39) + r14) sR_39) ∧ (r39 = (-1 : Int32) → post (-1 : Int32) sR_39)))) ∧ (r14 = (-1 : Int32) → post (-1 : Int32) sR_14)))
set_option maxHeartbeats 4000000 in
set_option maxRecDepth 100000 in
theorem ctX9_tellCell (l : Launch) (D : va_G) (cy : Nat → ClassId) (ev : Nat → Nat) (h0 : Nat) (rL : Nat → Nat) (rG : Nat → Nat) (rR : Nat → Nat) (sL : AR) (sG : AR) (sR : AR) (R_text : AR) (sz : Nat) (post : Int32 → AR → Prop) (h : wpX9_tellCell sG sR R_text post) : Met l yX9_tellCell (Cond.code yX9_tellCell cX9_tellCell 3 (some .int) :: TB) ({ frames := 2, cells := 0, slots := 0, locals := 44 }) (va_Pc [.ref h0] (PreX D cy ev [(h0, .inr (9, oX9 rL sL)), ((rL 1), .inr (4, oX4 rG sG)), ((rL 0), .inr (8, oX8 rR sR)), ((rR 0), .inl (cy 1, 500, .inl R_text))] sz)) (va_Qi (fun (r : Int32) (u : AR) => post r u) (fun u => BkX D cy [(h0, .inr (9, oX9 rL sL)), ((rL 1), .inr (4, oX4 rG sG)), ((rL 0), .inr (8, oX8 rR sR)), ((rR 0), .inl (cy 1, 500, .inl R_text))] sz [(h0, .inr (9, oX9 rL sL)), ((rL 1), .inr (4, oX4 rG sG)), ((rL 0), .inr (8, oX8 rR u)), ((rR 0), .inl (cy 1, 500, .inl R_text))]) (va_A [(h0, .inr (9, oX9 rL sL)), ((rL 1), .inr (4, oX4 rG sG)), ((rL 0), .inr (8, oX8 rR sR)), ((rR 0), .inl (cy 1, 500, .inl R_text))] sz)) 0 0 (va_A [(h0, .inr (9, oX9 rL sL)), ((rL 1), .inr (4, oX4 rG sG)), ((rL 0), .inr (8, oX8 rR sR)), ((rR 0), .inl (cy 1, 500, .inl R_text))] sz) := by
  refine ofWi (by decide) (Nat.le_of_ble_eq_true rfl) ?_
  intro p e s m args below meth c ls A R QQ hx hb hml hown hts hR hlk hE hK hP hD hS hA hl hret
  have hown : s.vm.findClass RX9 = some m.cls := hown
  have hRf : 2 ≤ R.frames := by rw [hR]; exact Nat.le_refl _
  have hRl : 44 ≤ R.locals := by rw [hR]; exact Nat.le_refl _
  clear hR
  have hl : lv_has ls 3 [(0, .ref h0)] := hl
  refine lv_aload_n hx hb dX9_tellCell_0 rfl (lv_at hl 0 rfl) ?_
  refine gfX9_9 hx hb hts hown hK hP 0 rfl dX9_tellCell_1 ?_
  refine lv_iconst (v := (0 : Int32)) hx hb dX9_tellCell_4 (by decide) ?_
  refine lv_aload_n hx hb dX9_tellCell_5 rfl (lv_at hl 0 rfl) ?_
  refine gfX9_15 hx hb hts hown hK hP 0 rfl dX9_tellCell_6 ?_
  refine gfX9_105 (v := (sG 0)) hx hb hts hown hK hP 1 rfl rfl dX9_tellCell_9 ?_
  refine lv_iconst (v := (1 : Int32)) hx hb dX9_tellCell_12 (by decide) ?_
  refine lv_isub hx hb dX9_tellCell_13 ?_
  refine clVi (As := [.int (0 : Int32), .int ((sG 0) - (1 : Int32))]) (rest := []) (Wr := [(h0, .inr (9, oX9 rL sL)), ((rL 1), .inr (4, oX4 rG sG))]) (cq := (RX8, TX8, 10)) ⟨hx, hb, hml, hown, hts⟩ ⟨callB_of 2 hts (goodC mw807) rfl rfl rfl (hts _ (tb mw2)) (hts _ (tb mw804)) kdX8_number ⟨Nat.le_trans (by decide) hRf, Nat.le_trans (by decide) hRl⟩, hts _ (tb mw805), hts _ (tb mw806)⟩ (ctX8_number l D cy ev (rL 0) rR sR R_text (0 : Int32) ((sG 0) - (1 : Int32)) _ _ h) hE hK hP hD hS hA [2, 3] [0, 1] rfl rfl (by decide) (by decide) (by decide) 0 rfl rfl rfl hl.1 rfl (Nat.le_of_ble_eq_true rfl) ⟨Nat.zero_le _, Nat.zero_le _⟩ dX9_tellCell_14 (fun r14 sR_14 H locs h hP hD hS => ?_)
  have hP : va_P D clsX [(h0, .inr (9, oX9 rL sL)), ((rL 1), .inr (4, oX4 rG sG)), ((rL 0), .inr (8, oX8 rR sR_14)), ((rR 0), .inl (cy 1, 500, .inl R_text))] H := hP
  have hD : va_D A [(h0, .inr (9, oX9 rL sL)), ((rL 1), .inr (4, oX4 rG sG)), ((rL 0), .inr (8, oX8 rR sR_14)), ((rR 0), .inl (cy 1, 500, .inl R_text))] := hD
  refine lv_istore_n (lv' := [(1, .int r14), (0, .ref h0)]) hx hb dX9_tellCell_17 rfl hl (by decide) rfl (fun ls hl => ?_)
  refine lv_iload_n hx hb dX9_tellCell_18 rfl (lv_at hl 0 rfl) ?_
  refine lv_iconst (v := (-1 : Int32)) hx hb dX9_tellCell_19 (by decide) ?_
  refine lv_icmp_ne (tgt := 25) hx hb dX9_tellCell_20 (by decide) (fun c20 => ?_) (fun c20 => ?_)
  · have h := h.1 c20
    refine lv_aload_n hx hb dX9_tellCell_25 rfl (lv_at hl 1 rfl) ?_
    refine gfX9_9 hx hb hts hown hK hP 0 rfl dX9_tellCell_26 ?_
    refine lv_iconst (v := (0 : Int32)) hx hb dX9_tellCell_29 (by decide) ?_
    refine lv_aload_n hx hb dX9_tellCell_30 rfl (lv_at hl 1 rfl) ?_
    refine gfX9_15 hx hb hts hown hK hP 0 rfl dX9_tellCell_31 ?_
    refine gfX9_108 (v := (sG 1)) hx hb hts hown hK hP 1 rfl rfl dX9_tellCell_34 ?_
    refine lv_iconst (v := (1 : Int32)) hx hb dX9_tellCell_37 (by decide) ?_
    refine lv_isub hx hb dX9_tellCell_38 ?_
    refine clVi (As := [.int (0 : Int32), .int ((sG 1) - (1 : Int32))]) (rest := []) (Wr := [(h0, .inr (9, oX9 rL sL)), ((rL 1), .inr (4, oX4 rG sG))]) (cq := (RX8, TX8, 10)) ⟨hx, hb, hml, hown, hts⟩ ⟨callB_of 2 hts (goodC mw807) rfl rfl rfl (hts _ (tb mw2)) (hts _ (tb mw804)) kdX8_number ⟨Nat.le_trans (by decide) hRf, Nat.le_trans (by decide) hRl⟩, hts _ (tb mw805), hts _ (tb mw806)⟩ (ctX8_number l D cy ev (rL 0) rR sR_14 R_text (0 : Int32) ((sG 1) - (1 : Int32)) _ _ h) hE hK hP hD hS hA [2, 3] [0, 1] rfl rfl (by decide) (by decide) (by decide) 0 rfl rfl rfl hl.1 rfl (Nat.le_of_ble_eq_true rfl) ⟨Nat.zero_le _, Nat.zero_le _⟩ dX9_tellCell_39 (fun r39 sR_39 H locs h hP hD hS => ?_)
    have hP : va_P D clsX [(h0, .inr (9, oX9 rL sL)), ((rL 1), .inr (4, oX4 rG sG)), ((rL 0), .inr (8, oX8 rR sR_39)), ((rR 0), .inl (cy 1, 500, .inl R_text))] H := hP
    have hD : va_D A [(h0, .inr (9, oX9 rL sL)), ((rL 1), .inr (4, oX4 rG sG)), ((rL 0), .inr (8, oX8 rR sR_39)), ((rR 0), .inl (cy 1, 500, .inl R_text))] := hD
    refine lv_istore_n (lv' := [(2, .int r39), (1, .int r14), (0, .ref h0)]) hx hb dX9_tellCell_42 rfl hl (by decide) rfl (fun ls hl => ?_)
    refine lv_iload_n hx hb dX9_tellCell_43 rfl (lv_at hl 0 rfl) ?_
    refine lv_iconst (v := (-1 : Int32)) hx hb dX9_tellCell_44 (by decide) ?_
    refine lv_icmp_ne (tgt := 52) hx hb dX9_tellCell_45 (by decide) (fun c45 => ?_) (fun c45 => ?_)
    · have h := h.1 c45
      refine lv_aload_n hx hb dX9_tellCell_52 rfl (lv_at hl 2 rfl) ?_
      refine gfX9_15 hx hb hts hown hK hP 0 rfl dX9_tellCell_53 ?_
      refine gfX9_105 (v := (sG 0)) hx hb hts hown hK hP 1 rfl rfl dX9_tellCell_56 ?_
      refine lv_iload_n hx hb dX9_tellCell_59 rfl (lv_at hl 0 rfl) ?_
      refine lv_imul hx hb dX9_tellCell_60 ?_
      refine lv_iload_n hx hb dX9_tellCell_61 rfl (lv_at hl 1 rfl) ?_
      refine lv_iadd hx hb dX9_tellCell_62 ?_
      exact hret (((sG 0) * r39) + r14) (sR_39) _ _ _ _ rfl dX9_tellCell_63 h hP hD hS
    · have h := h.2 c45
      refine lv_iconst (v := (-1 : Int32)) hx hb dX9_tellCell_48 (by decide) ?_
      refine lv_goto (tgt := 63) hx hb dX9_tellCell_49 (by decide) ?_
      exact hret (-1 : Int32) (sR_39) _ _ _ _ rfl dX9_tellCell_63 h hP hD hS
  · have h := h.2 c20
    refine lv_iconst (v := (-1 : Int32)) hx hb dX9_tellCell_23 (by decide) ?_
    exact hret (-1 : Int32) (sR_14) _ _ _ _ rfl dX9_tellCell_24 h hP hD hS
def wpX9_tellWalker (sG : AR) (sR : AR) (G_kind : AR) (G_home : AR) (G_water : AR) (R_text : AR) (x1 : Int32) (post : Int32 → AR → AR → AR → AR → AR → Prop) : Prop := ∀ l2_7 : Int32, l2_7 = (sG 3) → ((l2_7 < (4 : Int32) → wpX8_advance sR R_text (fun sR_26 => wpX9_tellCell sG sR_26 R_text (fun r30 sR_30 => ((¬ r30 = (-1 : Int32) → wpX8_number sR_30 R_text (0 : Int32) (99 : Int32) (fun r48 sR_48 => ((¬ r48 = (-1 : Int32) → vp_in l2_7 4 ∧ ∀ G_kind_70 : AR, G_kind_70 = upd G_kind l2_7.toNatClampNeg x1 → vp_in l2_7 4 ∧ ∀ G_home_80 : AR, G_home_80 = upd G_home l2_7.toNatClampNeg r30 → vp_in l2_7 4 ∧ ∀ G_water_91 : AR, G_water_91 = upd G_water l2_7.toNatClampNeg r48 → ∀ f3_99 : Int32, f3_99 = (l2_7 + (1 : Int32)) → post (1 : Int32) (upd sG 3 f3_99) sR_48 G_kind_70 G_home_80 G_water_91) ∧ (r48 = (-1 : Int32) → post (0 : Int32) sG sR_48 G_kind G_home G_water)))) ∧ (r30 = (-1 : Int32) → post (0 : Int32) sG sR_30 G_kind G_home G_water))))) ∧ (¬ l2_7 < (4 : Int32) → wpX8_refuse sR (2 : Int32) (fun r18 sR_18 => narrow .boolean (.int r18) = .int r18 ∧ post r18 sG sR_18 G_kind G_home G_water)))
set_option maxHeartbeats 4000000 in
set_option maxRecDepth 100000 in
theorem ctX9_tellWalker (l : Launch) (D : va_G) (cy : Nat → ClassId) (ev : Nat → Nat) (h0 : Nat) (rL : Nat → Nat) (rG : Nat → Nat) (rR : Nat → Nat) (sL : AR) (sG : AR) (sR : AR) (G_kind : AR) (G_home : AR) (G_water : AR) (R_text : AR) (x1 : Int32) (sz : Nat) (post : Int32 → AR → AR → AR → AR → AR → Prop) (h : wpX9_tellWalker sG sR G_kind G_home G_water R_text x1 post) : Met l yX9_tellWalker (Cond.code yX9_tellWalker cX9_tellWalker 5 (some .boolean) :: TB) ({ frames := 3, cells := 0, slots := 0, locals := 66 }) (va_Pc [.ref h0, .int x1] (PreX D cy ev [(h0, .inr (9, oX9 rL sL)), ((rL 1), .inr (4, oX4 rG sG)), ((rL 0), .inr (8, oX8 rR sR)), ((rG 12), .inl (cy 0, 4, .inl G_kind)), ((rG 13), .inl (cy 0, 4, .inl G_home)), ((rG 14), .inl (cy 0, 4, .inl G_water)), ((rR 0), .inl (cy 1, 500, .inl R_text))] sz)) (va_Qi (fun (r : Int32) (u : AR × AR × AR × AR × AR) => post r (u.1) (u.2.1) (u.2.2.1) (u.2.2.2.1) (u.2.2.2.2)) (fun u => BkX D cy [(h0, .inr (9, oX9 rL sL)), ((rL 1), .inr (4, oX4 rG sG)), ((rL 0), .inr (8, oX8 rR sR)), ((rG 12), .inl (cy 0, 4, .inl G_kind)), ((rG 13), .inl (cy 0, 4, .inl G_home)), ((rG 14), .inl (cy 0, 4, .inl G_water)), ((rR 0), .inl (cy 1, 500, .inl R_text))] sz [(h0, .inr (9, oX9 rL sL)), ((rL 1), .inr (4, oX4 rG (u.1))), ((rL 0), .inr (8, oX8 rR (u.2.1))), ((rG 12), .inl (cy 0, 4, .inl (u.2.2.1))), ((rG 13), .inl (cy 0, 4, .inl (u.2.2.2.1))), ((rG 14), .inl (cy 0, 4, .inl (u.2.2.2.2))), ((rR 0), .inl (cy 1, 500, .inl R_text))]) (va_A [(h0, .inr (9, oX9 rL sL)), ((rL 1), .inr (4, oX4 rG sG)), ((rL 0), .inr (8, oX8 rR sR)), ((rG 12), .inl (cy 0, 4, .inl G_kind)), ((rG 13), .inl (cy 0, 4, .inl G_home)), ((rG 14), .inl (cy 0, 4, .inl G_water)), ((rR 0), .inl (cy 1, 500, .inl R_text))] sz)) 0 0 (va_A [(h0, .inr (9, oX9 rL sL)), ((rL 1), .inr (4, oX4 rG sG)), ((rL 0), .inr (8, oX8 rR sR)), ((rG 12), .inl (cy 0, 4, .inl G_kind)), ((rG 13), .inl (cy 0, 4, .inl G_home)), ((rG 14), .inl (cy 0, 4, .inl G_water)), ((rR 0), .inl (cy 1, 500, .inl R_text))] sz) := by
  refine ofWi (by decide) (Nat.le_of_ble_eq_true rfl) ?_
  intro p e s m args below meth c ls A R QQ hx hb hml hown hts hR hlk hE hK hP hD hS hA hl hret
  have hown : s.vm.findClass RX9 = some m.cls := hown
  have hRf : 3 ≤ R.frames := by rw [hR]; exact Nat.le_refl _
  have hRl : 66 ≤ R.locals := by rw [hR]; exact Nat.le_refl _
  clear hR
  have hl : lv_has ls 5 [(0, .ref h0), (1, .int x1)] := hl
  refine lv_aload_n hx hb dX9_tellWalker_0 rfl (lv_at hl 0 rfl) ?_
  refine gfX9_15 hx hb hts hown hK hP 0 rfl dX9_tellWalker_1 ?_
  refine gfX9_146 (v := (sG 3)) hx hb hts hown hK hP 1 rfl rfl dX9_tellWalker_4 ?_
  refine lv_topi (fun l2_7 el2_7 => ?_)
  have h := h l2_7 el2_7
  refine lv_istore_n (lv' := [(2, .int l2_7), (0, .ref h0), (1, .int x1)]) hx hb dX9_tellWalker_7 rfl hl (by decide) rfl (fun ls hl => ?_)
  refine lv_iload_n hx hb dX9_tellWalker_8 rfl (lv_at hl 0 rfl) ?_
  refine lv_iconst (v := (4 : Int32)) hx hb dX9_tellWalker_9 (by decide) ?_
  refine lv_icmp_lt (tgt := 22) hx hb dX9_tellWalker_10 (by decide) (fun c10 => ?_) (fun c10 => ?_)
  · have h := h.1 c10
    refine lv_aload_n hx hb dX9_tellWalker_22 rfl (lv_at hl 1 rfl) ?_
    refine gfX9_9 hx hb hts hown hK hP 0 rfl dX9_tellWalker_23 ?_
    refine clVv (As := []) (rest := []) (Wr := [(h0, .inr (9, oX9 rL sL)), ((rL 1), .inr (4, oX4 rG sG)), ((rG 12), .inl (cy 0, 4, .inl G_kind)), ((rG 13), .inl (cy 0, 4, .inl G_home)), ((rG 14), .inl (cy 0, 4, .inl G_water))]) (cq := (RX8, TX8, 10)) ⟨hx, hb, hml, hown, hts⟩ ⟨callB_of 0 hts (goodC mw736) rfl rfl rfl (hts _ (tb mw2)) (hts _ (tb mw803)) kdX8_advance ⟨Nat.le_trans (by decide) hRf, Nat.le_trans (by decide) hRl⟩, hts _ (tb mw734), hts _ (tb mw735)⟩ (ctX8_advance l D cy ev (rL 0) rR sR R_text  _ _ h) hE hK hP hD hS hA [2, 6] [0, 1, 3, 4, 5] rfl rfl (by decide) (by decide) (by decide) 0 rfl rfl rfl hl.1 rfl (Nat.le_of_ble_eq_true rfl) ⟨Nat.zero_le _, Nat.zero_le _⟩ dX9_tellWalker_26 (fun sR_26 H locs h hP hD hS => ?_)
    have hP : va_P D clsX [(h0, .inr (9, oX9 rL sL)), ((rL 1), .inr (4, oX4 rG sG)), ((rG 12), .inl (cy 0, 4, .inl G_kind)), ((rG 13), .inl (cy 0, 4, .inl G_home)), ((rG 14), .inl (cy 0, 4, .inl G_water)), ((rL 0), .inr (8, oX8 rR sR_26)), ((rR 0), .inl (cy 1, 500, .inl R_text))] H := hP
    have hD : va_D A [(h0, .inr (9, oX9 rL sL)), ((rL 1), .inr (4, oX4 rG sG)), ((rG 12), .inl (cy 0, 4, .inl G_kind)), ((rG 13), .inl (cy 0, 4, .inl G_home)), ((rG 14), .inl (cy 0, 4, .inl G_water)), ((rL 0), .inr (8, oX8 rR sR_26)), ((rR 0), .inl (cy 1, 500, .inl R_text))] := hD
    refine lv_aload_n hx hb dX9_tellWalker_29 rfl (lv_at hl 1 rfl) ?_
    refine clVi (As := []) (rest := []) (Wr := [((rG 12), .inl (cy 0, 4, .inl G_kind)), ((rG 13), .inl (cy 0, 4, .inl G_home)), ((rG 14), .inl (cy 0, 4, .inl G_water))]) (cq := (RX9, TX9, 4)) ⟨hx, hb, hml, hown, hts⟩ ⟨callB_of 0 hts (goodC mw821) rfl rfl rfl (hts _ (tb mw6)) (hts _ (tb mw818)) kdX9_tellCell ⟨Nat.le_trans (by decide) hRf, Nat.le_trans (by decide) hRl⟩, hts _ (tb mw820), hts _ (tb ms15)⟩ (ctX9_tellCell l D cy ev h0 rL rG rR sL sG sR_26 R_text  _ _ h) hE hK hP hD hS hA [0, 1, 5, 6] [2, 3, 4] rfl rfl (by decide) (by decide) (by decide) 0 rfl rfl rfl hl.1 rfl (Nat.le_of_ble_eq_true rfl) ⟨Nat.zero_le _, Nat.zero_le _⟩ dX9_tellWalker_30 (fun r30 sR_30 H locs h hP hD hS => ?_)
    have hP : va_P D clsX [((rG 12), .inl (cy 0, 4, .inl G_kind)), ((rG 13), .inl (cy 0, 4, .inl G_home)), ((rG 14), .inl (cy 0, 4, .inl G_water)), (h0, .inr (9, oX9 rL sL)), ((rL 1), .inr (4, oX4 rG sG)), ((rL 0), .inr (8, oX8 rR sR_30)), ((rR 0), .inl (cy 1, 500, .inl R_text))] H := hP
    have hD : va_D A [((rG 12), .inl (cy 0, 4, .inl G_kind)), ((rG 13), .inl (cy 0, 4, .inl G_home)), ((rG 14), .inl (cy 0, 4, .inl G_water)), (h0, .inr (9, oX9 rL sL)), ((rL 1), .inr (4, oX4 rG sG)), ((rL 0), .inr (8, oX8 rR sR_30)), ((rR 0), .inl (cy 1, 500, .inl R_text))] := hD
    refine lv_istore_n (lv' := [(3, .int r30), (2, .int l2_7), (0, .ref h0), (1, .int x1)]) hx hb dX9_tellWalker_33 rfl hl (by decide) rfl (fun ls hl => ?_)
    refine lv_iload_n hx hb dX9_tellWalker_34 rfl (lv_at hl 0 rfl) ?_
    refine lv_iconst (v := (-1 : Int32)) hx hb dX9_tellWalker_35 (by decide) ?_
    refine lv_icmp_ne (tgt := 41) hx hb dX9_tellWalker_36 (by decide) (fun c36 => ?_) (fun c36 => ?_)
    · have h := h.1 c36
      refine lv_aload_n hx hb dX9_tellWalker_41 rfl (lv_at hl 2 rfl) ?_
      refine gfX9_9 hx hb hts hown hK hP 3 rfl dX9_tellWalker_42 ?_
      refine lv_iconst (v := (0 : Int32)) hx hb dX9_tellWalker_45 (by decide) ?_
      refine lv_bipush (v := (99 : Int32)) hx hb dX9_tellWalker_46 (by decide) ?_
      refine clVi (As := [.int (0 : Int32), .int (99 : Int32)]) (rest := []) (Wr := [((rG 12), .inl (cy 0, 4, .inl G_kind)), ((rG 13), .inl (cy 0, 4, .inl G_home)), ((rG 14), .inl (cy 0, 4, .inl G_water)), (h0, .inr (9, oX9 rL sL)), ((rL 1), .inr (4, oX4 rG sG))]) (cq := (RX8, TX8, 10)) ⟨hx, hb, hml, hown, hts⟩ ⟨callB_of 2 hts (goodC mw807) rfl rfl rfl (hts _ (tb mw2)) (hts _ (tb mw804)) kdX8_number ⟨Nat.le_trans (by decide) hRf, Nat.le_trans (by decide) hRl⟩, hts _ (tb mw805), hts _ (tb mw806)⟩ (ctX8_number l D cy ev (rL 0) rR sR_30 R_text (0 : Int32) (99 : Int32) _ _ h) hE hK hP hD hS hA [5, 6] [0, 1, 2, 3, 4] rfl rfl (by decide) (by decide) (by decide) 0 rfl rfl rfl hl.1 rfl (Nat.le_of_ble_eq_true rfl) ⟨Nat.zero_le _, Nat.zero_le _⟩ dX9_tellWalker_48 (fun r48 sR_48 H locs h hP hD hS => ?_)
      have hP : va_P D clsX [((rG 12), .inl (cy 0, 4, .inl G_kind)), ((rG 13), .inl (cy 0, 4, .inl G_home)), ((rG 14), .inl (cy 0, 4, .inl G_water)), (h0, .inr (9, oX9 rL sL)), ((rL 1), .inr (4, oX4 rG sG)), ((rL 0), .inr (8, oX8 rR sR_48)), ((rR 0), .inl (cy 1, 500, .inl R_text))] H := hP
      have hD : va_D A [((rG 12), .inl (cy 0, 4, .inl G_kind)), ((rG 13), .inl (cy 0, 4, .inl G_home)), ((rG 14), .inl (cy 0, 4, .inl G_water)), (h0, .inr (9, oX9 rL sL)), ((rL 1), .inr (4, oX4 rG sG)), ((rL 0), .inr (8, oX8 rR sR_48)), ((rR 0), .inl (cy 1, 500, .inl R_text))] := hD
      refine lv_istore (lv' := [(4, .int r48), (3, .int r30), (2, .int l2_7), (0, .ref h0), (1, .int x1)]) hx hb dX9_tellWalker_51 hl (by decide) rfl (fun ls hl => ?_)
      refine lv_iload hx hb dX9_tellWalker_53 (lv_at hl 0 rfl) ?_
      refine lv_iconst (v := (-1 : Int32)) hx hb dX9_tellWalker_55 (by decide) ?_
      refine lv_icmp_ne (tgt := 61) hx hb dX9_tellWalker_56 (by decide) (fun c56 => ?_) (fun c56 => ?_)
      · have h := h.1 c56
        refine lv_aload_n hx hb dX9_tellWalker_61 rfl (lv_at hl 3 rfl) ?_
        refine gfX9_15 hx hb hts hown hK hP 3 rfl dX9_tellWalker_62 ?_
        refine gfX9_149 hx hb hts hown hK hP 4 rfl dX9_tellWalker_65 ?_
        refine lv_iload_n hx hb dX9_tellWalker_68 rfl (lv_at hl 2 rfl) ?_
        refine lv_iload_n hx hb dX9_tellWalker_69 rfl (lv_at hl 4 rfl) ?_
        obtain ⟨hin, h⟩ := h
        refine sti (k := l2_7.toNatClampNeg) (y := x1) hx hb hK hP hD hS 0 rfl hin rfl rfl dX9_tellWalker_70 (fun G_kind_70 eG_kind_70 H locs hP hD hS => ?_)
        have h := h G_kind_70 eG_kind_70
        have hP : va_P D clsX [((rG 12), .inl (cy 0, 4, .inl G_kind_70)), ((rG 13), .inl (cy 0, 4, .inl G_home)), ((rG 14), .inl (cy 0, 4, .inl G_water)), (h0, .inr (9, oX9 rL sL)), ((rL 1), .inr (4, oX4 rG sG)), ((rL 0), .inr (8, oX8 rR sR_48)), ((rR 0), .inl (cy 1, 500, .inl R_text))] H := hP
        have hD : va_D A [((rG 12), .inl (cy 0, 4, .inl G_kind_70)), ((rG 13), .inl (cy 0, 4, .inl G_home)), ((rG 14), .inl (cy 0, 4, .inl G_water)), (h0, .inr (9, oX9 rL sL)), ((rL 1), .inr (4, oX4 rG sG)), ((rL 0), .inr (8, oX8 rR sR_48)), ((rR 0), .inl (cy 1, 500, .inl R_text))] := hD
        refine lv_aload_n hx hb dX9_tellWalker_71 rfl (lv_at hl 3 rfl) ?_
        refine gfX9_15 hx hb hts hown hK hP 3 rfl dX9_tellWalker_72 ?_
        refine gfX9_151 hx hb hts hown hK hP 4 rfl dX9_tellWalker_75 ?_
        refine lv_iload_n hx hb dX9_tellWalker_78 rfl (lv_at hl 2 rfl) ?_
        refine lv_iload_n hx hb dX9_tellWalker_79 rfl (lv_at hl 1 rfl) ?_
        obtain ⟨hin, h⟩ := h
        refine sti (k := l2_7.toNatClampNeg) (y := r30) hx hb hK hP hD hS 1 rfl hin rfl rfl dX9_tellWalker_80 (fun G_home_80 eG_home_80 H locs hP hD hS => ?_)
        have h := h G_home_80 eG_home_80
        have hP : va_P D clsX [((rG 12), .inl (cy 0, 4, .inl G_kind_70)), ((rG 13), .inl (cy 0, 4, .inl G_home_80)), ((rG 14), .inl (cy 0, 4, .inl G_water)), (h0, .inr (9, oX9 rL sL)), ((rL 1), .inr (4, oX4 rG sG)), ((rL 0), .inr (8, oX8 rR sR_48)), ((rR 0), .inl (cy 1, 500, .inl R_text))] H := hP
        have hD : va_D A [((rG 12), .inl (cy 0, 4, .inl G_kind_70)), ((rG 13), .inl (cy 0, 4, .inl G_home_80)), ((rG 14), .inl (cy 0, 4, .inl G_water)), (h0, .inr (9, oX9 rL sL)), ((rL 1), .inr (4, oX4 rG sG)), ((rL 0), .inr (8, oX8 rR sR_48)), ((rR 0), .inl (cy 1, 500, .inl R_text))] := hD
        refine lv_aload_n hx hb dX9_tellWalker_81 rfl (lv_at hl 3 rfl) ?_
        refine gfX9_15 hx hb hts hown hK hP 3 rfl dX9_tellWalker_82 ?_
        refine gfX9_154 hx hb hts hown hK hP 4 rfl dX9_tellWalker_85 ?_
        refine lv_iload_n hx hb dX9_tellWalker_88 rfl (lv_at hl 2 rfl) ?_
        refine lv_iload hx hb dX9_tellWalker_89 (lv_at hl 0 rfl) ?_
        obtain ⟨hin, h⟩ := h
        refine sti (k := l2_7.toNatClampNeg) (y := r48) hx hb hK hP hD hS 2 rfl hin rfl rfl dX9_tellWalker_91 (fun G_water_91 eG_water_91 H locs hP hD hS => ?_)
        have h := h G_water_91 eG_water_91
        have hP : va_P D clsX [((rG 12), .inl (cy 0, 4, .inl G_kind_70)), ((rG 13), .inl (cy 0, 4, .inl G_home_80)), ((rG 14), .inl (cy 0, 4, .inl G_water_91)), (h0, .inr (9, oX9 rL sL)), ((rL 1), .inr (4, oX4 rG sG)), ((rL 0), .inr (8, oX8 rR sR_48)), ((rR 0), .inl (cy 1, 500, .inl R_text))] H := hP
        have hD : va_D A [((rG 12), .inl (cy 0, 4, .inl G_kind_70)), ((rG 13), .inl (cy 0, 4, .inl G_home_80)), ((rG 14), .inl (cy 0, 4, .inl G_water_91)), (h0, .inr (9, oX9 rL sL)), ((rL 1), .inr (4, oX4 rG sG)), ((rL 0), .inr (8, oX8 rR sR_48)), ((rR 0), .inl (cy 1, 500, .inl R_text))] := hD
        refine lv_aload_n hx hb dX9_tellWalker_92 rfl (lv_at hl 3 rfl) ?_
        refine gfX9_15 hx hb hts hown hK hP 3 rfl dX9_tellWalker_93 ?_
        refine lv_iload_n hx hb dX9_tellWalker_96 rfl (lv_at hl 2 rfl) ?_
        refine lv_iconst (v := (1 : Int32)) hx hb dX9_tellWalker_97 (by decide) ?_
        refine lv_iadd hx hb dX9_tellWalker_98 ?_
        refine lv_topi (fun f3_99 ef3_99 => ?_)
        have h := h f3_99 ef3_99
        refine pfX9_146 hx hb hts hown hK hP hD hS 4 rfl dX9_tellWalker_99 (fun H locs hP hD hS => ?_)
        have hP : va_P D clsX [((rG 12), .inl (cy 0, 4, .inl G_kind_70)), ((rG 13), .inl (cy 0, 4, .inl G_home_80)), ((rG 14), .inl (cy 0, 4, .inl G_water_91)), (h0, .inr (9, oX9 rL sL)), ((rL 1), .inr (4, oX4 rG (upd sG 3 f3_99))), ((rL 0), .inr (8, oX8 rR sR_48)), ((rR 0), .inl (cy 1, 500, .inl R_text))] H := hP
        have hD : va_D A [((rG 12), .inl (cy 0, 4, .inl G_kind_70)), ((rG 13), .inl (cy 0, 4, .inl G_home_80)), ((rG 14), .inl (cy 0, 4, .inl G_water_91)), (h0, .inr (9, oX9 rL sL)), ((rL 1), .inr (4, oX4 rG (upd sG 3 f3_99))), ((rL 0), .inr (8, oX8 rR sR_48)), ((rR 0), .inl (cy 1, 500, .inl R_text))] := hD
        refine lv_iconst (v := (1 : Int32)) hx hb dX9_tellWalker_102 (by decide) ?_
        exact hret (1 : Int32) ((upd sG 3 f3_99), sR_48, G_kind_70, G_home_80, G_water_91) _ _ _ _ rfl dX9_tellWalker_103 h (hP.sub [3, 4, 5, 0, 1, 2, 6] rfl) (hD.sub [3, 4, 5, 0, 1, 2, 6] (by decide) rfl) hS
      · have h := h.2 c56
        refine lv_iconst (v := (0 : Int32)) hx hb dX9_tellWalker_59 (by decide) ?_
        exact hret (0 : Int32) (sG, sR_48, G_kind, G_home, G_water) _ _ _ _ rfl dX9_tellWalker_60 h (hP.sub [3, 4, 5, 0, 1, 2, 6] rfl) (hD.sub [3, 4, 5, 0, 1, 2, 6] (by decide) rfl) hS
    · have h := h.2 c36
      refine lv_iconst (v := (0 : Int32)) hx hb dX9_tellWalker_39 (by decide) ?_
      exact hret (0 : Int32) (sG, sR_30, G_kind, G_home, G_water) _ _ _ _ rfl dX9_tellWalker_40 h (hP.sub [3, 4, 5, 0, 1, 2, 6] rfl) (hD.sub [3, 4, 5, 0, 1, 2, 6] (by decide) rfl) hS
  · have h := h.2 c10
    refine lv_aload_n hx hb dX9_tellWalker_13 rfl (lv_at hl 1 rfl) ?_
    refine gfX9_9 hx hb hts hown hK hP 0 rfl dX9_tellWalker_14 ?_
    refine lv_iconst (v := (2 : Int32)) hx hb dX9_tellWalker_17 (by decide) ?_
    refine clVi (As := [.int (2 : Int32)]) (rest := []) (Wr := [(h0, .inr (9, oX9 rL sL)), ((rL 1), .inr (4, oX4 rG sG)), ((rG 12), .inl (cy 0, 4, .inl G_kind)), ((rG 13), .inl (cy 0, 4, .inl G_home)), ((rG 14), .inl (cy 0, 4, .inl G_water)), ((rR 0), .inl (cy 1, 500, .inl R_text))]) (cq := (RX8, TX8, 10)) ⟨hx, hb, hml, hown, hts⟩ ⟨callB_of 1 hts (goodC mw811) rfl rfl rfl (hts _ (tb mw2)) (hts _ (tb mw812)) kdX8_refuse ⟨Nat.le_trans (by decide) hRf, Nat.le_trans (by decide) hRl⟩, hts _ (tb mw809), hts _ (tb mw810)⟩ (ctX8_refuse l D cy ev (rL 0) rR sR (2 : Int32) _ _ h) hE hK hP hD hS hA [2] [0, 1, 3, 4, 5, 6] rfl rfl (by decide) (by decide) (by decide) 0 rfl rfl rfl hl.1 rfl (Nat.le_of_ble_eq_true rfl) ⟨Nat.zero_le _, Nat.zero_le _⟩ dX9_tellWalker_18 (fun r18 sR_18 H locs h hP hD hS => ?_)
    have hP : va_P D clsX [(h0, .inr (9, oX9 rL sL)), ((rL 1), .inr (4, oX4 rG sG)), ((rG 12), .inl (cy 0, 4, .inl G_kind)), ((rG 13), .inl (cy 0, 4, .inl G_home)), ((rG 14), .inl (cy 0, 4, .inl G_water)), ((rR 0), .inl (cy 1, 500, .inl R_text)), ((rL 0), .inr (8, oX8 rR sR_18))] H := hP
    have hD : va_D A [(h0, .inr (9, oX9 rL sL)), ((rL 1), .inr (4, oX4 rG sG)), ((rG 12), .inl (cy 0, 4, .inl G_kind)), ((rG 13), .inl (cy 0, 4, .inl G_home)), ((rG 14), .inl (cy 0, 4, .inl G_water)), ((rR 0), .inl (cy 1, 500, .inl R_text)), ((rL 0), .inr (8, oX8 rR sR_18))] := hD
    obtain ⟨hz, h⟩ := h
    exact hret r18 (sG, sR_18, G_kind, G_home, G_water) _ _ _ _ hz dX9_tellWalker_21 h (hP.sub [0, 1, 6, 2, 3, 4, 5] rfl) (hD.sub [0, 1, 6, 2, 3, 4, 5] (by decide) rfl) hS
def wpX9_tellNight (sL : AR) (sR : AR) (sG : AR) (R_text : AR) (post : Int32 → AR → AR → AR → Prop) : Prop := (((sL 3) = 0 → wpX8_advance sR R_text (fun sR_25 => wpX8_number sR_25 R_text (0 : Int32) (9 : Int32) (fun r35 sR_35 => ((¬ r35 = (-1 : Int32) → post (1 : Int32) (upd sL 3 (1 : Int32)) sR_35 (upd sG 6 r35)) ∧ (r35 = (-1 : Int32) → post (0 : Int32) (upd sL 3 (1 : Int32)) sR_35 sG))))) ∧ (¬ (sL 3) = 0 → wpX8_refuse sR (4 : Int32) (fun r12 sR_12 => narrow .boolean (.int r12) = .int r12 ∧ post r12 sL sR_12 sG)))
set_option maxHeartbeats 4000000 in
set_option maxRecDepth 100000 in
theorem ctX9_tellNight (l : Launch) (D : va_G) (cy : Nat → ClassId) (ev : Nat → Nat) (h0 : Nat) (rL : Nat → Nat) (rR : Nat → Nat) (rG : Nat → Nat) (sL : AR) (sR : AR) (sG : AR) (R_text : AR) (sz : Nat) (post : Int32 → AR → AR → AR → Prop) (h : wpX9_tellNight sL sR sG R_text post) : Met l yX9_tellNight (Cond.code yX9_tellNight cX9_tellNight 2 (some .boolean) :: TB) ({ frames := 2, cells := 0, slots := 0, locals := 44 }) (va_Pc [.ref h0] (PreX D cy ev [(h0, .inr (9, oX9 rL sL)), ((rL 0), .inr (8, oX8 rR sR)), ((rL 1), .inr (4, oX4 rG sG)), ((rR 0), .inl (cy 1, 500, .inl R_text))] sz)) (va_Qi (fun (r : Int32) (u : AR × AR × AR) => post r (u.1) (u.2.1) (u.2.2)) (fun u => BkX D cy [(h0, .inr (9, oX9 rL sL)), ((rL 0), .inr (8, oX8 rR sR)), ((rL 1), .inr (4, oX4 rG sG)), ((rR 0), .inl (cy 1, 500, .inl R_text))] sz [(h0, .inr (9, oX9 rL (u.1))), ((rL 0), .inr (8, oX8 rR (u.2.1))), ((rL 1), .inr (4, oX4 rG (u.2.2))), ((rR 0), .inl (cy 1, 500, .inl R_text))]) (va_A [(h0, .inr (9, oX9 rL sL)), ((rL 0), .inr (8, oX8 rR sR)), ((rL 1), .inr (4, oX4 rG sG)), ((rR 0), .inl (cy 1, 500, .inl R_text))] sz)) 0 0 (va_A [(h0, .inr (9, oX9 rL sL)), ((rL 0), .inr (8, oX8 rR sR)), ((rL 1), .inr (4, oX4 rG sG)), ((rR 0), .inl (cy 1, 500, .inl R_text))] sz) := by
  refine ofWi (by decide) (Nat.le_of_ble_eq_true rfl) ?_
  intro p e s m args below meth c ls A R QQ hx hb hml hown hts hR hlk hE hK hP hD hS hA hl hret
  have hown : s.vm.findClass RX9 = some m.cls := hown
  have hRf : 2 ≤ R.frames := by rw [hR]; exact Nat.le_refl _
  have hRl : 44 ≤ R.locals := by rw [hR]; exact Nat.le_refl _
  clear hR
  have hl : lv_has ls 2 [(0, .ref h0)] := hl
  refine lv_aload_n hx hb dX9_tellNight_0 rfl (lv_at hl 0 rfl) ?_
  refine gfX9_28 (v := (sL 3)) hx hb hts hown hK hP 0 rfl rfl dX9_tellNight_1 ?_
  refine lv_if_eq (tgt := 16) hx hb dX9_tellNight_4 (by decide) (fun c4 => ?_) (fun c4 => ?_)
  · have h := h.1 c4
    refine lv_aload_n hx hb dX9_tellNight_16 rfl (lv_at hl 0 rfl) ?_
    refine lv_iconst (v := (1 : Int32)) hx hb dX9_tellNight_17 (by decide) ?_
    refine pfX9_28 hx hb hts hown hK hP hD hS 0 rfl rfl dX9_tellNight_18 (fun H locs hP hD hS => ?_)
    have hP : va_P D clsX [(h0, .inr (9, oX9 rL (upd sL 3 (1 : Int32)))), ((rL 0), .inr (8, oX8 rR sR)), ((rL 1), .inr (4, oX4 rG sG)), ((rR 0), .inl (cy 1, 500, .inl R_text))] H := hP
    have hD : va_D A [(h0, .inr (9, oX9 rL (upd sL 3 (1 : Int32)))), ((rL 0), .inr (8, oX8 rR sR)), ((rL 1), .inr (4, oX4 rG sG)), ((rR 0), .inl (cy 1, 500, .inl R_text))] := hD
    refine lv_aload_n hx hb dX9_tellNight_21 rfl (lv_at hl 0 rfl) ?_
    refine gfX9_9 hx hb hts hown hK hP 0 rfl dX9_tellNight_22 ?_
    refine clVv (As := []) (rest := []) (Wr := [(h0, .inr (9, oX9 rL (upd sL 3 (1 : Int32)))), ((rL 1), .inr (4, oX4 rG sG))]) (cq := (RX8, TX8, 10)) ⟨hx, hb, hml, hown, hts⟩ ⟨callB_of 0 hts (goodC mw736) rfl rfl rfl (hts _ (tb mw2)) (hts _ (tb mw803)) kdX8_advance ⟨Nat.le_trans (by decide) hRf, Nat.le_trans (by decide) hRl⟩, hts _ (tb mw734), hts _ (tb mw735)⟩ (ctX8_advance l D cy ev (rL 0) rR sR R_text  _ _ h) hE hK hP hD hS hA [1, 3] [0, 2] rfl rfl (by decide) (by decide) (by decide) 0 rfl rfl rfl hl.1 rfl (Nat.le_of_ble_eq_true rfl) ⟨Nat.zero_le _, Nat.zero_le _⟩ dX9_tellNight_25 (fun sR_25 H locs h hP hD hS => ?_)
    have hP : va_P D clsX [(h0, .inr (9, oX9 rL (upd sL 3 (1 : Int32)))), ((rL 1), .inr (4, oX4 rG sG)), ((rL 0), .inr (8, oX8 rR sR_25)), ((rR 0), .inl (cy 1, 500, .inl R_text))] H := hP
    have hD : va_D A [(h0, .inr (9, oX9 rL (upd sL 3 (1 : Int32)))), ((rL 1), .inr (4, oX4 rG sG)), ((rL 0), .inr (8, oX8 rR sR_25)), ((rR 0), .inl (cy 1, 500, .inl R_text))] := hD
    refine lv_aload_n hx hb dX9_tellNight_28 rfl (lv_at hl 0 rfl) ?_
    refine gfX9_9 hx hb hts hown hK hP 0 rfl dX9_tellNight_29 ?_
    refine lv_iconst (v := (0 : Int32)) hx hb dX9_tellNight_32 (by decide) ?_
    refine lv_bipush (v := (9 : Int32)) hx hb dX9_tellNight_33 (by decide) ?_
    refine clVi (As := [.int (0 : Int32), .int (9 : Int32)]) (rest := []) (Wr := [(h0, .inr (9, oX9 rL (upd sL 3 (1 : Int32)))), ((rL 1), .inr (4, oX4 rG sG))]) (cq := (RX8, TX8, 10)) ⟨hx, hb, hml, hown, hts⟩ ⟨callB_of 2 hts (goodC mw807) rfl rfl rfl (hts _ (tb mw2)) (hts _ (tb mw804)) kdX8_number ⟨Nat.le_trans (by decide) hRf, Nat.le_trans (by decide) hRl⟩, hts _ (tb mw805), hts _ (tb mw806)⟩ (ctX8_number l D cy ev (rL 0) rR sR_25 R_text (0 : Int32) (9 : Int32) _ _ h) hE hK hP hD hS hA [2, 3] [0, 1] rfl rfl (by decide) (by decide) (by decide) 0 rfl rfl rfl hl.1 rfl (Nat.le_of_ble_eq_true rfl) ⟨Nat.zero_le _, Nat.zero_le _⟩ dX9_tellNight_35 (fun r35 sR_35 H locs h hP hD hS => ?_)
    have hP : va_P D clsX [(h0, .inr (9, oX9 rL (upd sL 3 (1 : Int32)))), ((rL 1), .inr (4, oX4 rG sG)), ((rL 0), .inr (8, oX8 rR sR_35)), ((rR 0), .inl (cy 1, 500, .inl R_text))] H := hP
    have hD : va_D A [(h0, .inr (9, oX9 rL (upd sL 3 (1 : Int32)))), ((rL 1), .inr (4, oX4 rG sG)), ((rL 0), .inr (8, oX8 rR sR_35)), ((rR 0), .inl (cy 1, 500, .inl R_text))] := hD
    refine lv_istore_n (lv' := [(1, .int r35), (0, .ref h0)]) hx hb dX9_tellNight_38 rfl hl (by decide) rfl (fun ls hl => ?_)
    refine lv_iload_n hx hb dX9_tellNight_39 rfl (lv_at hl 0 rfl) ?_
    refine lv_iconst (v := (-1 : Int32)) hx hb dX9_tellNight_40 (by decide) ?_
    refine lv_icmp_ne (tgt := 46) hx hb dX9_tellNight_41 (by decide) (fun c41 => ?_) (fun c41 => ?_)
    · have h := h.1 c41
      refine lv_aload_n hx hb dX9_tellNight_46 rfl (lv_at hl 1 rfl) ?_
      refine gfX9_15 hx hb hts hown hK hP 0 rfl dX9_tellNight_47 ?_
      refine lv_iload_n hx hb dX9_tellNight_50 rfl (lv_at hl 0 rfl) ?_
      refine pfX9_173 hx hb hts hown hK hP hD hS 1 rfl dX9_tellNight_51 (fun H locs hP hD hS => ?_)
      have hP : va_P D clsX [(h0, .inr (9, oX9 rL (upd sL 3 (1 : Int32)))), ((rL 1), .inr (4, oX4 rG (upd sG 6 r35))), ((rL 0), .inr (8, oX8 rR sR_35)), ((rR 0), .inl (cy 1, 500, .inl R_text))] H := hP
      have hD : va_D A [(h0, .inr (9, oX9 rL (upd sL 3 (1 : Int32)))), ((rL 1), .inr (4, oX4 rG (upd sG 6 r35))), ((rL 0), .inr (8, oX8 rR sR_35)), ((rR 0), .inl (cy 1, 500, .inl R_text))] := hD
      refine lv_iconst (v := (1 : Int32)) hx hb dX9_tellNight_54 (by decide) ?_
      exact hret (1 : Int32) ((upd sL 3 (1 : Int32)), sR_35, (upd sG 6 r35)) _ _ _ _ rfl dX9_tellNight_55 h (hP.sub [0, 2, 1, 3] rfl) (hD.sub [0, 2, 1, 3] (by decide) rfl) hS
    · have h := h.2 c41
      refine lv_iconst (v := (0 : Int32)) hx hb dX9_tellNight_44 (by decide) ?_
      exact hret (0 : Int32) ((upd sL 3 (1 : Int32)), sR_35, sG) _ _ _ _ rfl dX9_tellNight_45 h (hP.sub [0, 2, 1, 3] rfl) (hD.sub [0, 2, 1, 3] (by decide) rfl) hS
  · have h := h.2 c4
    refine lv_aload_n hx hb dX9_tellNight_7 rfl (lv_at hl 0 rfl) ?_
    refine gfX9_9 hx hb hts hown hK hP 0 rfl dX9_tellNight_8 ?_
    refine lv_iconst (v := (4 : Int32)) hx hb dX9_tellNight_11 (by decide) ?_
    refine clVi (As := [.int (4 : Int32)]) (rest := []) (Wr := [(h0, .inr (9, oX9 rL sL)), ((rL 1), .inr (4, oX4 rG sG)), ((rR 0), .inl (cy 1, 500, .inl R_text))]) (cq := (RX8, TX8, 10)) ⟨hx, hb, hml, hown, hts⟩ ⟨callB_of 1 hts (goodC mw811) rfl rfl rfl (hts _ (tb mw2)) (hts _ (tb mw812)) kdX8_refuse ⟨Nat.le_trans (by decide) hRf, Nat.le_trans (by decide) hRl⟩, hts _ (tb mw809), hts _ (tb mw810)⟩ (ctX8_refuse l D cy ev (rL 0) rR sR (4 : Int32) _ _ h) hE hK hP hD hS hA [1] [0, 2, 3] rfl rfl (by decide) (by decide) (by decide) 0 rfl rfl rfl hl.1 rfl (Nat.le_of_ble_eq_true rfl) ⟨Nat.zero_le _, Nat.zero_le _⟩ dX9_tellNight_12 (fun r12 sR_12 H locs h hP hD hS => ?_)
    have hP : va_P D clsX [(h0, .inr (9, oX9 rL sL)), ((rL 1), .inr (4, oX4 rG sG)), ((rR 0), .inl (cy 1, 500, .inl R_text)), ((rL 0), .inr (8, oX8 rR sR_12))] H := hP
    have hD : va_D A [(h0, .inr (9, oX9 rL sL)), ((rL 1), .inr (4, oX4 rG sG)), ((rR 0), .inl (cy 1, 500, .inl R_text)), ((rL 0), .inr (8, oX8 rR sR_12))] := hD
    obtain ⟨hz, h⟩ := h
    exact hret r12 (sL, sR_12, sG) _ _ _ _ hz dX9_tellNight_15 h (hP.sub [0, 3, 1, 2] rfl) (hD.sub [0, 3, 1, 2] (by decide) rfl) hS
def wpX9_tellMirage (sR : AR) (sG : AR) (R_text : AR) (G_mirage : AR) (post : Int32 → AR → AR → Prop) : Prop := wpX8_advance sR R_text (fun sR_4 => wpX9_tellCell sG sR_4 R_text (fun r8 sR_8 => ((¬ r8 = (-1 : Int32) → vp_in r8 100 ∧ (((G_mirage r8.toNatClampNeg) = 0 → vp_in r8 100 ∧ ∀ G_mirage_49 : AR, G_mirage_49 = upd G_mirage r8.toNatClampNeg (1 : Int32) → post (1 : Int32) sR_8 G_mirage_49) ∧ (¬ (G_mirage r8.toNatClampNeg) = 0 → wpX8_refuseBefore sR_8 (4 : Int32) (fun r36 sR_36 => narrow .boolean (.int r36) = .int r36 ∧ post r36 sR_36 G_mirage)))) ∧ (r8 = (-1 : Int32) → post (0 : Int32) sR_8 G_mirage))))
set_option maxHeartbeats 4000000 in
set_option maxRecDepth 100000 in
theorem ctX9_tellMirage (l : Launch) (D : va_G) (cy : Nat → ClassId) (ev : Nat → Nat) (h0 : Nat) (rL : Nat → Nat) (rR : Nat → Nat) (rG : Nat → Nat) (sL : AR) (sR : AR) (sG : AR) (R_text : AR) (G_mirage : AR) (sz : Nat) (post : Int32 → AR → AR → Prop) (h : wpX9_tellMirage sR sG R_text G_mirage post) : Met l yX9_tellMirage (Cond.code yX9_tellMirage cX9_tellMirage 2 (some .boolean) :: TB) ({ frames := 3, cells := 0, slots := 0, locals := 66 }) (va_Pc [.ref h0] (PreX D cy ev [(h0, .inr (9, oX9 rL sL)), ((rL 0), .inr (8, oX8 rR sR)), ((rL 1), .inr (4, oX4 rG sG)), ((rR 0), .inl (cy 1, 500, .inl R_text)), ((rG 15), .inl (cy 2, 100, .inl G_mirage))] sz)) (va_Qi (fun (r : Int32) (u : AR × AR) => post r (u.1) (u.2)) (fun u => BkX D cy [(h0, .inr (9, oX9 rL sL)), ((rL 0), .inr (8, oX8 rR sR)), ((rL 1), .inr (4, oX4 rG sG)), ((rR 0), .inl (cy 1, 500, .inl R_text)), ((rG 15), .inl (cy 2, 100, .inl G_mirage))] sz [(h0, .inr (9, oX9 rL sL)), ((rL 0), .inr (8, oX8 rR (u.1))), ((rL 1), .inr (4, oX4 rG sG)), ((rR 0), .inl (cy 1, 500, .inl R_text)), ((rG 15), .inl (cy 2, 100, .inl (u.2)))]) (va_A [(h0, .inr (9, oX9 rL sL)), ((rL 0), .inr (8, oX8 rR sR)), ((rL 1), .inr (4, oX4 rG sG)), ((rR 0), .inl (cy 1, 500, .inl R_text)), ((rG 15), .inl (cy 2, 100, .inl G_mirage))] sz)) 0 0 (va_A [(h0, .inr (9, oX9 rL sL)), ((rL 0), .inr (8, oX8 rR sR)), ((rL 1), .inr (4, oX4 rG sG)), ((rR 0), .inl (cy 1, 500, .inl R_text)), ((rG 15), .inl (cy 2, 100, .inl G_mirage))] sz) := by
  refine ofWi (by decide) (Nat.le_of_ble_eq_true rfl) ?_
  intro p e s m args below meth c ls A R QQ hx hb hml hown hts hR hlk hE hK hP hD hS hA hl hret
  have hown : s.vm.findClass RX9 = some m.cls := hown
  have hRf : 3 ≤ R.frames := by rw [hR]; exact Nat.le_refl _
  have hRl : 66 ≤ R.locals := by rw [hR]; exact Nat.le_refl _
  clear hR
  have hl : lv_has ls 2 [(0, .ref h0)] := hl
  refine lv_aload_n hx hb dX9_tellMirage_0 rfl (lv_at hl 0 rfl) ?_
  refine gfX9_9 hx hb hts hown hK hP 0 rfl dX9_tellMirage_1 ?_
  refine clVv (As := []) (rest := []) (Wr := [(h0, .inr (9, oX9 rL sL)), ((rL 1), .inr (4, oX4 rG sG)), ((rG 15), .inl (cy 2, 100, .inl G_mirage))]) (cq := (RX8, TX8, 10)) ⟨hx, hb, hml, hown, hts⟩ ⟨callB_of 0 hts (goodC mw736) rfl rfl rfl (hts _ (tb mw2)) (hts _ (tb mw803)) kdX8_advance ⟨Nat.le_trans (by decide) hRf, Nat.le_trans (by decide) hRl⟩, hts _ (tb mw734), hts _ (tb mw735)⟩ (ctX8_advance l D cy ev (rL 0) rR sR R_text  _ _ h) hE hK hP hD hS hA [1, 3] [0, 2, 4] rfl rfl (by decide) (by decide) (by decide) 0 rfl rfl rfl hl.1 rfl (Nat.le_of_ble_eq_true rfl) ⟨Nat.zero_le _, Nat.zero_le _⟩ dX9_tellMirage_4 (fun sR_4 H locs h hP hD hS => ?_)
  have hP : va_P D clsX [(h0, .inr (9, oX9 rL sL)), ((rL 1), .inr (4, oX4 rG sG)), ((rG 15), .inl (cy 2, 100, .inl G_mirage)), ((rL 0), .inr (8, oX8 rR sR_4)), ((rR 0), .inl (cy 1, 500, .inl R_text))] H := hP
  have hD : va_D A [(h0, .inr (9, oX9 rL sL)), ((rL 1), .inr (4, oX4 rG sG)), ((rG 15), .inl (cy 2, 100, .inl G_mirage)), ((rL 0), .inr (8, oX8 rR sR_4)), ((rR 0), .inl (cy 1, 500, .inl R_text))] := hD
  refine lv_aload_n hx hb dX9_tellMirage_7 rfl (lv_at hl 0 rfl) ?_
  refine clVi (As := []) (rest := []) (Wr := [((rG 15), .inl (cy 2, 100, .inl G_mirage))]) (cq := (RX9, TX9, 4)) ⟨hx, hb, hml, hown, hts⟩ ⟨callB_of 0 hts (goodC mw821) rfl rfl rfl (hts _ (tb mw6)) (hts _ (tb mw818)) kdX9_tellCell ⟨Nat.le_trans (by decide) hRf, Nat.le_trans (by decide) hRl⟩, hts _ (tb mw820), hts _ (tb ms15)⟩ (ctX9_tellCell l D cy ev h0 rL rG rR sL sG sR_4 R_text  _ _ h) hE hK hP hD hS hA [0, 1, 3, 4] [2] rfl rfl (by decide) (by decide) (by decide) 0 rfl rfl rfl hl.1 rfl (Nat.le_of_ble_eq_true rfl) ⟨Nat.zero_le _, Nat.zero_le _⟩ dX9_tellMirage_8 (fun r8 sR_8 H locs h hP hD hS => ?_)
  have hP : va_P D clsX [((rG 15), .inl (cy 2, 100, .inl G_mirage)), (h0, .inr (9, oX9 rL sL)), ((rL 1), .inr (4, oX4 rG sG)), ((rL 0), .inr (8, oX8 rR sR_8)), ((rR 0), .inl (cy 1, 500, .inl R_text))] H := hP
  have hD : va_D A [((rG 15), .inl (cy 2, 100, .inl G_mirage)), (h0, .inr (9, oX9 rL sL)), ((rL 1), .inr (4, oX4 rG sG)), ((rL 0), .inr (8, oX8 rR sR_8)), ((rR 0), .inl (cy 1, 500, .inl R_text))] := hD
  refine lv_istore_n (lv' := [(1, .int r8), (0, .ref h0)]) hx hb dX9_tellMirage_11 rfl hl (by decide) rfl (fun ls hl => ?_)
  refine lv_iload_n hx hb dX9_tellMirage_12 rfl (lv_at hl 0 rfl) ?_
  refine lv_iconst (v := (-1 : Int32)) hx hb dX9_tellMirage_13 (by decide) ?_
  refine lv_icmp_ne (tgt := 19) hx hb dX9_tellMirage_14 (by decide) (fun c14 => ?_) (fun c14 => ?_)
  · have h := h.1 c14
    refine lv_aload_n hx hb dX9_tellMirage_19 rfl (lv_at hl 1 rfl) ?_
    refine gfX9_15 hx hb hts hown hK hP 1 rfl dX9_tellMirage_20 ?_
    refine gfX9_176 hx hb hts hown hK hP 2 rfl dX9_tellMirage_23 ?_
    refine lv_iload_n hx hb dX9_tellMirage_26 rfl (lv_at hl 0 rfl) ?_
    obtain ⟨hin, h⟩ := h
    refine ldz (k := r8.toNatClampNeg) hx hb hK hP 0 rfl hin rfl dX9_tellMirage_27 ?_
    refine lv_if_eq (tgt := 40) hx hb dX9_tellMirage_28 (by decide) (fun c28 => ?_) (fun c28 => ?_)
    · have h := h.1 c28
      refine lv_aload_n hx hb dX9_tellMirage_40 rfl (lv_at hl 1 rfl) ?_
      refine gfX9_15 hx hb hts hown hK hP 1 rfl dX9_tellMirage_41 ?_
      refine gfX9_176 hx hb hts hown hK hP 2 rfl dX9_tellMirage_44 ?_
      refine lv_iload_n hx hb dX9_tellMirage_47 rfl (lv_at hl 0 rfl) ?_
      refine lv_iconst (v := (1 : Int32)) hx hb dX9_tellMirage_48 (by decide) ?_
      obtain ⟨hin, h⟩ := h
      refine stz (k := r8.toNatClampNeg) (y := (1 : Int32)) hx hb hK hP hD hS 0 rfl hin rfl (by decide) dX9_tellMirage_49 (fun G_mirage_49 eG_mirage_49 H locs hP hD hS => ?_)
      have h := h G_mirage_49 eG_mirage_49
      have hP : va_P D clsX [((rG 15), .inl (cy 2, 100, .inl G_mirage_49)), (h0, .inr (9, oX9 rL sL)), ((rL 1), .inr (4, oX4 rG sG)), ((rL 0), .inr (8, oX8 rR sR_8)), ((rR 0), .inl (cy 1, 500, .inl R_text))] H := hP
      have hD : va_D A [((rG 15), .inl (cy 2, 100, .inl G_mirage_49)), (h0, .inr (9, oX9 rL sL)), ((rL 1), .inr (4, oX4 rG sG)), ((rL 0), .inr (8, oX8 rR sR_8)), ((rR 0), .inl (cy 1, 500, .inl R_text))] := hD
      refine lv_iconst (v := (1 : Int32)) hx hb dX9_tellMirage_50 (by decide) ?_
      exact hret (1 : Int32) (sR_8, G_mirage_49) _ _ _ _ rfl dX9_tellMirage_51 h (hP.sub [1, 3, 2, 4, 0] rfl) (hD.sub [1, 3, 2, 4, 0] (by decide) rfl) hS
    · have h := h.2 c28
      refine lv_aload_n hx hb dX9_tellMirage_31 rfl (lv_at hl 1 rfl) ?_
      refine gfX9_9 hx hb hts hown hK hP 1 rfl dX9_tellMirage_32 ?_
      refine lv_iconst (v := (4 : Int32)) hx hb dX9_tellMirage_35 (by decide) ?_
      refine clVi (As := [.int (4 : Int32)]) (rest := []) (Wr := [((rG 15), .inl (cy 2, 100, .inl G_mirage)), (h0, .inr (9, oX9 rL sL)), ((rL 1), .inr (4, oX4 rG sG)), ((rR 0), .inl (cy 1, 500, .inl R_text))]) (cq := (RX8, TX8, 10)) ⟨hx, hb, hml, hown, hts⟩ ⟨callB_of 1 hts (goodC mw829) rfl rfl rfl (hts _ (tb mw2)) (hts _ (tb mw826)) kdX8_refuseBefore ⟨Nat.le_trans (by decide) hRf, Nat.le_trans (by decide) hRl⟩, hts _ (tb mw827), hts _ (tb mw828)⟩ (ctX8_refuseBefore l D cy ev (rL 0) rR sR_8 (4 : Int32) _ _ h) hE hK hP hD hS hA [3] [0, 1, 2, 4] rfl rfl (by decide) (by decide) (by decide) 0 rfl rfl rfl hl.1 rfl (Nat.le_of_ble_eq_true rfl) ⟨Nat.zero_le _, Nat.zero_le _⟩ dX9_tellMirage_36 (fun r36 sR_36 H locs h hP hD hS => ?_)
      have hP : va_P D clsX [((rG 15), .inl (cy 2, 100, .inl G_mirage)), (h0, .inr (9, oX9 rL sL)), ((rL 1), .inr (4, oX4 rG sG)), ((rR 0), .inl (cy 1, 500, .inl R_text)), ((rL 0), .inr (8, oX8 rR sR_36))] H := hP
      have hD : va_D A [((rG 15), .inl (cy 2, 100, .inl G_mirage)), (h0, .inr (9, oX9 rL sL)), ((rL 1), .inr (4, oX4 rG sG)), ((rR 0), .inl (cy 1, 500, .inl R_text)), ((rL 0), .inr (8, oX8 rR sR_36))] := hD
      obtain ⟨hz, h⟩ := h
      exact hret r36 (sR_36, G_mirage) _ _ _ _ hz dX9_tellMirage_39 h (hP.sub [1, 4, 2, 3, 0] rfl) (hD.sub [1, 4, 2, 3, 0] (by decide) rfl) hS
  · have h := h.2 c14
    refine lv_iconst (v := (0 : Int32)) hx hb dX9_tellMirage_17 (by decide) ?_
    exact hret (0 : Int32) (sR_8, G_mirage) _ _ _ _ rfl dX9_tellMirage_18 h (hP.sub [1, 3, 2, 4, 0] rfl) (hD.sub [1, 3, 2, 4, 0] (by decide) rfl) hS
def wpX9_tellStrokes (sR : AR) (R_text : AR) (post : Int32 → AR → Prop) : Prop := wpX8_isWord sR R_text 3 (fun r6 => ((¬ r6 = 0 → wpX8_advance sR R_text (fun sR_19 => wpX8_number sR_19 R_text (1 : Int32) (99 : Int32) (fun r29 sR_29 => post r29 sR_29))) ∧ (r6 = 0 → post (99 : Int32) sR)))
set_option maxHeartbeats 4000000 in
set_option maxRecDepth 100000 in
theorem ctX9_tellStrokes (l : Launch) (D : va_G) (cy : Nat → ClassId) (ev : Nat → Nat) (h0 : Nat) (rL : Nat → Nat) (rR : Nat → Nat) (sL : AR) (sR : AR) (R_text : AR) (sz : Nat) (post : Int32 → AR → Prop) (h : wpX9_tellStrokes sR R_text post) : Met l yX9_tellStrokes (Cond.code yX9_tellStrokes cX9_tellStrokes 1 (some .int) :: TB) ({ frames := 5, cells := 0, slots := 0, locals := 222 }) (va_Pc [.ref h0] (PreX D cy ev [(h0, .inr (9, oX9 rL sL)), ((rL 0), .inr (8, oX8 rR sR)), ((rR 0), .inl (cy 1, 500, .inl R_text))] sz)) (va_Qi (fun (r : Int32) (u : AR) => post r u) (fun u => BkX D cy [(h0, .inr (9, oX9 rL sL)), ((rL 0), .inr (8, oX8 rR sR)), ((rR 0), .inl (cy 1, 500, .inl R_text))] sz [(h0, .inr (9, oX9 rL sL)), ((rL 0), .inr (8, oX8 rR u)), ((rR 0), .inl (cy 1, 500, .inl R_text))]) (va_A [(h0, .inr (9, oX9 rL sL)), ((rL 0), .inr (8, oX8 rR sR)), ((rR 0), .inl (cy 1, 500, .inl R_text))] sz)) 0 0 (va_A [(h0, .inr (9, oX9 rL sL)), ((rL 0), .inr (8, oX8 rR sR)), ((rR 0), .inl (cy 1, 500, .inl R_text))] sz) := by
  refine ofWi (by decide) (Nat.le_of_ble_eq_true rfl) ?_
  intro p e s m args below meth c ls A R QQ hx hb hml hown hts hR hlk hE hK hP hD hS hA hl hret
  have hown : s.vm.findClass RX9 = some m.cls := hown
  have hRf : 5 ≤ R.frames := by rw [hR]; exact Nat.le_refl _
  have hRl : 222 ≤ R.locals := by rw [hR]; exact Nat.le_refl _
  clear hR
  have hl : lv_has ls 1 [(0, .ref h0)] := hl
  refine lv_aload_n hx hb dX9_tellStrokes_0 rfl (lv_at hl 0 rfl) ?_
  refine gfX9_9 hx hb hts hown hK hP 0 rfl dX9_tellStrokes_1 ?_
  refine va_ldcS hx hb hown (hE.1 3 (by decide)).1 dX9_tellStrokes_4 ?_
  refine clVi (As := [.ref (ev (2 * 3))]) (rest := []) (Wr := [(h0, .inr (9, oX9 rL sL))]) (cq := (RX8, TX8, 10)) ⟨hx, hb, hml, hown, hts⟩ ⟨callB_of 1 hts (goodC mw750) rfl rfl rfl (hts _ (tb mw2)) (hts _ (tb mw747)) kdX8_isWord ⟨Nat.le_trans (by decide) hRf, Nat.le_trans (by decide) hRl⟩, hts _ (tb mw748), hts _ (tb mw749)⟩ (ctX8_isWord l D cy ev (rL 0) rR sR R_text 3  _ _ h) hE hK hP hD hS hA [1, 2] [0] rfl rfl (by decide) (by decide) (by decide) 0 rfl rfl rfl hl.1 rfl (Nat.le_of_ble_eq_true rfl) ⟨Nat.zero_le _, Nat.zero_le _⟩ dX9_tellStrokes_6 (fun r6 u H locs h hP hD hS => ?_)
  have hP : va_P D clsX [(h0, .inr (9, oX9 rL sL)), ((rL 0), .inr (8, oX8 rR sR)), ((rR 0), .inl (cy 1, 500, .inl R_text))] H := hP
  have hD : va_D A [(h0, .inr (9, oX9 rL sL)), ((rL 0), .inr (8, oX8 rR sR)), ((rR 0), .inl (cy 1, 500, .inl R_text))] := hD
  refine lv_if_ne (tgt := 15) hx hb dX9_tellStrokes_9 (by decide) (fun c9 => ?_) (fun c9 => ?_)
  · have h := h.1 c9
    refine lv_aload_n hx hb dX9_tellStrokes_15 rfl (lv_at hl 0 rfl) ?_
    refine gfX9_9 hx hb hts hown hK hP 0 rfl dX9_tellStrokes_16 ?_
    refine clVv (As := []) (rest := []) (Wr := [(h0, .inr (9, oX9 rL sL))]) (cq := (RX8, TX8, 10)) ⟨hx, hb, hml, hown, hts⟩ ⟨callB_of 0 hts (goodC mw736) rfl rfl rfl (hts _ (tb mw2)) (hts _ (tb mw803)) kdX8_advance ⟨Nat.le_trans (by decide) hRf, Nat.le_trans (by decide) hRl⟩, hts _ (tb mw734), hts _ (tb mw735)⟩ (ctX8_advance l D cy ev (rL 0) rR sR R_text  _ _ h) hE hK hP hD hS hA [1, 2] [0] rfl rfl (by decide) (by decide) (by decide) 0 rfl rfl rfl hl.1 rfl (Nat.le_of_ble_eq_true rfl) ⟨Nat.zero_le _, Nat.zero_le _⟩ dX9_tellStrokes_19 (fun sR_19 H locs h hP hD hS => ?_)
    have hP : va_P D clsX [(h0, .inr (9, oX9 rL sL)), ((rL 0), .inr (8, oX8 rR sR_19)), ((rR 0), .inl (cy 1, 500, .inl R_text))] H := hP
    have hD : va_D A [(h0, .inr (9, oX9 rL sL)), ((rL 0), .inr (8, oX8 rR sR_19)), ((rR 0), .inl (cy 1, 500, .inl R_text))] := hD
    refine lv_aload_n hx hb dX9_tellStrokes_22 rfl (lv_at hl 0 rfl) ?_
    refine gfX9_9 hx hb hts hown hK hP 0 rfl dX9_tellStrokes_23 ?_
    refine lv_iconst (v := (1 : Int32)) hx hb dX9_tellStrokes_26 (by decide) ?_
    refine lv_bipush (v := (99 : Int32)) hx hb dX9_tellStrokes_27 (by decide) ?_
    refine clVi (As := [.int (1 : Int32), .int (99 : Int32)]) (rest := []) (Wr := [(h0, .inr (9, oX9 rL sL))]) (cq := (RX8, TX8, 10)) ⟨hx, hb, hml, hown, hts⟩ ⟨callB_of 2 hts (goodC mw807) rfl rfl rfl (hts _ (tb mw2)) (hts _ (tb mw804)) kdX8_number ⟨Nat.le_trans (by decide) hRf, Nat.le_trans (by decide) hRl⟩, hts _ (tb mw805), hts _ (tb mw806)⟩ (ctX8_number l D cy ev (rL 0) rR sR_19 R_text (1 : Int32) (99 : Int32) _ _ h) hE hK hP hD hS hA [1, 2] [0] rfl rfl (by decide) (by decide) (by decide) 0 rfl rfl rfl hl.1 rfl (Nat.le_of_ble_eq_true rfl) ⟨Nat.zero_le _, Nat.zero_le _⟩ dX9_tellStrokes_29 (fun r29 sR_29 H locs h hP hD hS => ?_)
    have hP : va_P D clsX [(h0, .inr (9, oX9 rL sL)), ((rL 0), .inr (8, oX8 rR sR_29)), ((rR 0), .inl (cy 1, 500, .inl R_text))] H := hP
    have hD : va_D A [(h0, .inr (9, oX9 rL sL)), ((rL 0), .inr (8, oX8 rR sR_29)), ((rR 0), .inl (cy 1, 500, .inl R_text))] := hD
    exact hret r29 (sR_29) _ _ _ _ rfl dX9_tellStrokes_32 h hP hD hS
  · have h := h.2 c9
    refine lv_bipush (v := (99 : Int32)) hx hb dX9_tellStrokes_12 (by decide) ?_
    exact hret (99 : Int32) (sR) _ _ _ _ rfl dX9_tellStrokes_14 h hP hD hS
def wpX9_tellTower_J191 (sG : AR) (sR : AR) (G_towerCell : AR) (G_range : AR) (G_voice : AR) (G_strokes : AR) (G_isFalse : AR) (R_text : AR) (l1 : Int32) (post : Int32 → AR → AR → AR → AR → AR → AR → AR → Prop) : Prop := ∀ f2_198 : Int32, f2_198 = (l1 + (1 : Int32)) → post (1 : Int32) (upd sG 2 f2_198) sR G_towerCell G_range G_voice G_strokes G_isFalse
def wpX9_tellTower (sG : AR) (sR : AR) (G_towerCell : AR) (G_range : AR) (G_voice : AR) (G_strokes : AR) (G_isFalse : AR) (R_text : AR) (post : Int32 → AR → AR → AR → AR → AR → AR → AR → Prop) : Prop := ∀ l1_7 : Int32, l1_7 = (sG 2) → ((l1_7 < (5 : Int32) → wpX8_advance sR R_text (fun sR_26 => wpX9_tellCell sG sR_26 R_text (fun r30 sR_30 => ((¬ r30 = (-1 : Int32) → wpX4_hasTowerAt sG G_towerCell r30 (fun r46 => ((r46 = 0 → wpX8_number sR_30 R_text (1 : Int32) (20 : Int32) (fun r68 sR_68 => ((¬ r68 = (-1 : Int32) → wpX8_number sR_68 R_text (0 : Int32) (3 : Int32) (fun r85 sR_85 => ((¬ r85 = (-1 : Int32) → wpX9_tellStrokes sR_85 R_text (fun r99 sR_99 => ((¬ r99 = (-1 : Int32) → vp_in l1_7 5 ∧ ∀ G_towerCell_121 : AR, G_towerCell_121 = upd G_towerCell l1_7.toNatClampNeg r30 → vp_in l1_7 5 ∧ ∀ G_range_131 : AR, G_range_131 = upd G_range l1_7.toNatClampNeg r68 → vp_in l1_7 5 ∧ ∀ G_voice_142 : AR, G_voice_142 = upd G_voice l1_7.toNatClampNeg r85 → vp_in l1_7 5 ∧ ∀ G_strokes_153 : AR, G_strokes_153 = upd G_strokes l1_7.toNatClampNeg r99 → wpX8_isWord sR_99 R_text 4 (fun r168 => vp_in l1_7 5 ∧ ∀ G_isFalse_171 : AR, G_isFalse_171 = upd G_isFalse l1_7.toNatClampNeg (vp_nar .boolean r168) → vp_in l1_7 5 ∧ (((G_isFalse_171 l1_7.toNatClampNeg) = 0 → wpX9_tellTower_J191 sG sR_99 G_towerCell_121 G_range_131 G_voice_142 G_strokes_153 G_isFalse_171 R_text l1_7 post) ∧ (¬ (G_isFalse_171 l1_7.toNatClampNeg) = 0 → wpX8_advance sR_99 R_text (fun sR_188 => wpX9_tellTower_J191 sG sR_188 G_towerCell_121 G_range_131 G_voice_142 G_strokes_153 G_isFalse_171 R_text l1_7 post))))) ∧ (r99 = (-1 : Int32) → post (0 : Int32) sG sR_99 G_towerCell G_range G_voice G_strokes G_isFalse)))) ∧ (r85 = (-1 : Int32) → post (0 : Int32) sG sR_85 G_towerCell G_range G_voice G_strokes G_isFalse)))) ∧ (r68 = (-1 : Int32) → post (0 : Int32) sG sR_68 G_towerCell G_range G_voice G_strokes G_isFalse)))) ∧ (¬ r46 = 0 → wpX8_refuseBefore sR_30 (4 : Int32) (fun r57 sR_57 => narrow .boolean (.int r57) = .int r57 ∧ post r57 sG sR_57 G_towerCell G_range G_voice G_strokes G_isFalse))))) ∧ (r30 = (-1 : Int32) → post (0 : Int32) sG sR_30 G_towerCell G_range G_voice G_strokes G_isFalse))))) ∧ (¬ l1_7 < (5 : Int32) → wpX8_refuse sR (2 : Int32) (fun r18 sR_18 => narrow .boolean (.int r18) = .int r18 ∧ post r18 sG sR_18 G_towerCell G_range G_voice G_strokes G_isFalse)))
set_option maxHeartbeats 4000000 in
set_option maxRecDepth 100000 in
theorem ctX9_tellTower (l : Launch) (D : va_G) (cy : Nat → ClassId) (ev : Nat → Nat) (h0 : Nat) (rL : Nat → Nat) (rG : Nat → Nat) (rR : Nat → Nat) (sL : AR) (sG : AR) (sR : AR) (G_towerCell : AR) (G_range : AR) (G_voice : AR) (G_strokes : AR) (G_isFalse : AR) (R_text : AR) (sz : Nat) (post : Int32 → AR → AR → AR → AR → AR → AR → AR → Prop) (h : wpX9_tellTower sG sR G_towerCell G_range G_voice G_strokes G_isFalse R_text post) : Met l yX9_tellTower (Cond.code yX9_tellTower cX9_tellTower 6 (some .boolean) :: TB) ({ frames := 6, cells := 0, slots := 0, locals := 242 }) (va_Pc [.ref h0] (PreX D cy ev [(h0, .inr (9, oX9 rL sL)), ((rL 1), .inr (4, oX4 rG sG)), ((rL 0), .inr (8, oX8 rR sR)), ((rG 7), .inl (cy 0, 5, .inl G_towerCell)), ((rG 8), .inl (cy 0, 5, .inl G_range)), ((rG 9), .inl (cy 0, 5, .inl G_voice)), ((rG 10), .inl (cy 0, 5, .inl G_strokes)), ((rG 11), .inl (cy 2, 5, .inl G_isFalse)), ((rR 0), .inl (cy 1, 500, .inl R_text))] sz)) (va_Qi (fun (r : Int32) (u : AR × AR × AR × AR × AR × AR × AR) => post r (u.1) (u.2.1) (u.2.2.1) (u.2.2.2.1) (u.2.2.2.2.1) (u.2.2.2.2.2.1) (u.2.2.2.2.2.2)) (fun u => BkX D cy [(h0, .inr (9, oX9 rL sL)), ((rL 1), .inr (4, oX4 rG sG)), ((rL 0), .inr (8, oX8 rR sR)), ((rG 7), .inl (cy 0, 5, .inl G_towerCell)), ((rG 8), .inl (cy 0, 5, .inl G_range)), ((rG 9), .inl (cy 0, 5, .inl G_voice)), ((rG 10), .inl (cy 0, 5, .inl G_strokes)), ((rG 11), .inl (cy 2, 5, .inl G_isFalse)), ((rR 0), .inl (cy 1, 500, .inl R_text))] sz [(h0, .inr (9, oX9 rL sL)), ((rL 1), .inr (4, oX4 rG (u.1))), ((rL 0), .inr (8, oX8 rR (u.2.1))), ((rG 7), .inl (cy 0, 5, .inl (u.2.2.1))), ((rG 8), .inl (cy 0, 5, .inl (u.2.2.2.1))), ((rG 9), .inl (cy 0, 5, .inl (u.2.2.2.2.1))), ((rG 10), .inl (cy 0, 5, .inl (u.2.2.2.2.2.1))), ((rG 11), .inl (cy 2, 5, .inl (u.2.2.2.2.2.2))), ((rR 0), .inl (cy 1, 500, .inl R_text))]) (va_A [(h0, .inr (9, oX9 rL sL)), ((rL 1), .inr (4, oX4 rG sG)), ((rL 0), .inr (8, oX8 rR sR)), ((rG 7), .inl (cy 0, 5, .inl G_towerCell)), ((rG 8), .inl (cy 0, 5, .inl G_range)), ((rG 9), .inl (cy 0, 5, .inl G_voice)), ((rG 10), .inl (cy 0, 5, .inl G_strokes)), ((rG 11), .inl (cy 2, 5, .inl G_isFalse)), ((rR 0), .inl (cy 1, 500, .inl R_text))] sz)) 0 0 (va_A [(h0, .inr (9, oX9 rL sL)), ((rL 1), .inr (4, oX4 rG sG)), ((rL 0), .inr (8, oX8 rR sR)), ((rG 7), .inl (cy 0, 5, .inl G_towerCell)), ((rG 8), .inl (cy 0, 5, .inl G_range)), ((rG 9), .inl (cy 0, 5, .inl G_voice)), ((rG 10), .inl (cy 0, 5, .inl G_strokes)), ((rG 11), .inl (cy 2, 5, .inl G_isFalse)), ((rR 0), .inl (cy 1, 500, .inl R_text))] sz) := by
  refine ofWi (by decide) (Nat.le_of_ble_eq_true rfl) ?_
  intro p e s m args below meth c ls A R QQ hx hb hml hown hts hR hlk hE hK hP hD hS hA hl hret
  have hown : s.vm.findClass RX9 = some m.cls := hown
  have hRf : 6 ≤ R.frames := by rw [hR]; exact Nat.le_refl _
  have hRl : 242 ≤ R.locals := by rw [hR]; exact Nat.le_refl _
  clear hR
  have hl : lv_has ls 6 [(0, .ref h0)] := hl
  have J191 : ∀ (sR : AR) (G_towerCell : AR) (G_range : AR) (G_voice : AR) (G_strokes : AR) (G_isFalse : AR) (l1 : Int32) (H : Heap) (locs : List Loc) (ls : Array Slot), wpX9_tellTower_J191 sG sR G_towerCell G_range G_voice G_strokes G_isFalse R_text l1 post → va_P D clsX [(h0, .inr (9, oX9 rL sL)), ((rL 1), .inr (4, oX4 rG sG)), ((rL 0), .inr (8, oX8 rR sR)), ((rG 7), .inl (cy 0, 5, .inl G_towerCell)), ((rG 8), .inl (cy 0, 5, .inl G_range)), ((rG 9), .inl (cy 0, 5, .inl G_voice)), ((rG 10), .inl (cy 0, 5, .inl G_strokes)), ((rG 11), .inl (cy 2, 5, .inl G_isFalse)), ((rR 0), .inl (cy 1, 500, .inl R_text))] H → va_D A [(h0, .inr (9, oX9 rL sL)), ((rL 1), .inr (4, oX4 rG sG)), ((rL 0), .inr (8, oX8 rR sR)), ((rG 7), .inl (cy 0, 5, .inl G_towerCell)), ((rG 8), .inl (cy 0, 5, .inl G_range)), ((rG 9), .inl (cy 0, 5, .inl G_voice)), ((rG 10), .inl (cy 0, 5, .inl G_strokes)), ((rG 11), .inl (cy 2, 5, .inl G_isFalse)), ((rR 0), .inl (cy 1, 500, .inl R_text))] → va_S A s.heap H locs → lv_has ls 6 [(0, .ref h0), (1, .int l1)] → W p l e R s m args below meth c H locs 0 0 QQ (F0 m 191 ls []) := by
    intro sR G_towerCell G_range G_voice G_strokes G_isFalse l1 H locs ls h hP hD hS hl
    refine lv_aload_n hx hb dX9_tellTower_191 rfl (lv_at hl 0 rfl) ?_
    refine gfX9_15 hx hb hts hown hK hP 0 rfl dX9_tellTower_192 ?_
    refine lv_iload_n hx hb dX9_tellTower_195 rfl (lv_at hl 1 rfl) ?_
    refine lv_iconst (v := (1 : Int32)) hx hb dX9_tellTower_196 (by decide) ?_
    refine lv_iadd hx hb dX9_tellTower_197 ?_
    refine lv_topi (fun f2_198 ef2_198 => ?_)
    have h := h f2_198 ef2_198
    refine pfX9_111 hx hb hts hown hK hP hD hS 1 rfl dX9_tellTower_198 (fun H locs hP hD hS => ?_)
    have hP : va_P D clsX [(h0, .inr (9, oX9 rL sL)), ((rL 1), .inr (4, oX4 rG (upd sG 2 f2_198))), ((rL 0), .inr (8, oX8 rR sR)), ((rG 7), .inl (cy 0, 5, .inl G_towerCell)), ((rG 8), .inl (cy 0, 5, .inl G_range)), ((rG 9), .inl (cy 0, 5, .inl G_voice)), ((rG 10), .inl (cy 0, 5, .inl G_strokes)), ((rG 11), .inl (cy 2, 5, .inl G_isFalse)), ((rR 0), .inl (cy 1, 500, .inl R_text))] H := hP
    have hD : va_D A [(h0, .inr (9, oX9 rL sL)), ((rL 1), .inr (4, oX4 rG (upd sG 2 f2_198))), ((rL 0), .inr (8, oX8 rR sR)), ((rG 7), .inl (cy 0, 5, .inl G_towerCell)), ((rG 8), .inl (cy 0, 5, .inl G_range)), ((rG 9), .inl (cy 0, 5, .inl G_voice)), ((rG 10), .inl (cy 0, 5, .inl G_strokes)), ((rG 11), .inl (cy 2, 5, .inl G_isFalse)), ((rR 0), .inl (cy 1, 500, .inl R_text))] := hD
    refine lv_iconst (v := (1 : Int32)) hx hb dX9_tellTower_201 (by decide) ?_
    exact hret (1 : Int32) ((upd sG 2 f2_198), sR, G_towerCell, G_range, G_voice, G_strokes, G_isFalse) _ _ _ _ rfl dX9_tellTower_202 h hP hD hS
  refine lv_aload_n hx hb dX9_tellTower_0 rfl (lv_at hl 0 rfl) ?_
  refine gfX9_15 hx hb hts hown hK hP 0 rfl dX9_tellTower_1 ?_
  refine gfX9_111 (v := (sG 2)) hx hb hts hown hK hP 1 rfl rfl dX9_tellTower_4 ?_
  refine lv_topi (fun l1_7 el1_7 => ?_)
  have h := h l1_7 el1_7
  refine lv_istore_n (lv' := [(1, .int l1_7), (0, .ref h0)]) hx hb dX9_tellTower_7 rfl hl (by decide) rfl (fun ls hl => ?_)
  refine lv_iload_n hx hb dX9_tellTower_8 rfl (lv_at hl 0 rfl) ?_
  refine lv_iconst (v := (5 : Int32)) hx hb dX9_tellTower_9 (by decide) ?_
  refine lv_icmp_lt (tgt := 22) hx hb dX9_tellTower_10 (by decide) (fun c10 => ?_) (fun c10 => ?_)
  · have h := h.1 c10
    refine lv_aload_n hx hb dX9_tellTower_22 rfl (lv_at hl 1 rfl) ?_
    refine gfX9_9 hx hb hts hown hK hP 0 rfl dX9_tellTower_23 ?_
    refine clVv (As := []) (rest := []) (Wr := [(h0, .inr (9, oX9 rL sL)), ((rL 1), .inr (4, oX4 rG sG)), ((rG 7), .inl (cy 0, 5, .inl G_towerCell)), ((rG 8), .inl (cy 0, 5, .inl G_range)), ((rG 9), .inl (cy 0, 5, .inl G_voice)), ((rG 10), .inl (cy 0, 5, .inl G_strokes)), ((rG 11), .inl (cy 2, 5, .inl G_isFalse))]) (cq := (RX8, TX8, 10)) ⟨hx, hb, hml, hown, hts⟩ ⟨callB_of 0 hts (goodC mw736) rfl rfl rfl (hts _ (tb mw2)) (hts _ (tb mw803)) kdX8_advance ⟨Nat.le_trans (by decide) hRf, Nat.le_trans (by decide) hRl⟩, hts _ (tb mw734), hts _ (tb mw735)⟩ (ctX8_advance l D cy ev (rL 0) rR sR R_text  _ _ h) hE hK hP hD hS hA [2, 8] [0, 1, 3, 4, 5, 6, 7] rfl rfl (by decide) (by decide) (by decide) 0 rfl rfl rfl hl.1 rfl (Nat.le_of_ble_eq_true rfl) ⟨Nat.zero_le _, Nat.zero_le _⟩ dX9_tellTower_26 (fun sR_26 H locs h hP hD hS => ?_)
    have hP : va_P D clsX [(h0, .inr (9, oX9 rL sL)), ((rL 1), .inr (4, oX4 rG sG)), ((rG 7), .inl (cy 0, 5, .inl G_towerCell)), ((rG 8), .inl (cy 0, 5, .inl G_range)), ((rG 9), .inl (cy 0, 5, .inl G_voice)), ((rG 10), .inl (cy 0, 5, .inl G_strokes)), ((rG 11), .inl (cy 2, 5, .inl G_isFalse)), ((rL 0), .inr (8, oX8 rR sR_26)), ((rR 0), .inl (cy 1, 500, .inl R_text))] H := hP
    have hD : va_D A [(h0, .inr (9, oX9 rL sL)), ((rL 1), .inr (4, oX4 rG sG)), ((rG 7), .inl (cy 0, 5, .inl G_towerCell)), ((rG 8), .inl (cy 0, 5, .inl G_range)), ((rG 9), .inl (cy 0, 5, .inl G_voice)), ((rG 10), .inl (cy 0, 5, .inl G_strokes)), ((rG 11), .inl (cy 2, 5, .inl G_isFalse)), ((rL 0), .inr (8, oX8 rR sR_26)), ((rR 0), .inl (cy 1, 500, .inl R_text))] := hD
    refine lv_aload_n hx hb dX9_tellTower_29 rfl (lv_at hl 1 rfl) ?_
    refine clVi (As := []) (rest := []) (Wr := [((rG 7), .inl (cy 0, 5, .inl G_towerCell)), ((rG 8), .inl (cy 0, 5, .inl G_range)), ((rG 9), .inl (cy 0, 5, .inl G_voice)), ((rG 10), .inl (cy 0, 5, .inl G_strokes)), ((rG 11), .inl (cy 2, 5, .inl G_isFalse))]) (cq := (RX9, TX9, 4)) ⟨hx, hb, hml, hown, hts⟩ ⟨callB_of 0 hts (goodC mw821) rfl rfl rfl (hts _ (tb mw6)) (hts _ (tb mw818)) kdX9_tellCell ⟨Nat.le_trans (by decide) hRf, Nat.le_trans (by decide) hRl⟩, hts _ (tb mw820), hts _ (tb ms15)⟩ (ctX9_tellCell l D cy ev h0 rL rG rR sL sG sR_26 R_text  _ _ h) hE hK hP hD hS hA [0, 1, 7, 8] [2, 3, 4, 5, 6] rfl rfl (by decide) (by decide) (by decide) 0 rfl rfl rfl hl.1 rfl (Nat.le_of_ble_eq_true rfl) ⟨Nat.zero_le _, Nat.zero_le _⟩ dX9_tellTower_30 (fun r30 sR_30 H locs h hP hD hS => ?_)
    have hP : va_P D clsX [((rG 7), .inl (cy 0, 5, .inl G_towerCell)), ((rG 8), .inl (cy 0, 5, .inl G_range)), ((rG 9), .inl (cy 0, 5, .inl G_voice)), ((rG 10), .inl (cy 0, 5, .inl G_strokes)), ((rG 11), .inl (cy 2, 5, .inl G_isFalse)), (h0, .inr (9, oX9 rL sL)), ((rL 1), .inr (4, oX4 rG sG)), ((rL 0), .inr (8, oX8 rR sR_30)), ((rR 0), .inl (cy 1, 500, .inl R_text))] H := hP
    have hD : va_D A [((rG 7), .inl (cy 0, 5, .inl G_towerCell)), ((rG 8), .inl (cy 0, 5, .inl G_range)), ((rG 9), .inl (cy 0, 5, .inl G_voice)), ((rG 10), .inl (cy 0, 5, .inl G_strokes)), ((rG 11), .inl (cy 2, 5, .inl G_isFalse)), (h0, .inr (9, oX9 rL sL)), ((rL 1), .inr (4, oX4 rG sG)), ((rL 0), .inr (8, oX8 rR sR_30)), ((rR 0), .inl (cy 1, 500, .inl R_text))] := hD
    refine lv_istore_n (lv' := [(2, .int r30), (1, .int l1_7), (0, .ref h0)]) hx hb dX9_tellTower_33 rfl hl (by decide) rfl (fun ls hl => ?_)
    refine lv_iload_n hx hb dX9_tellTower_34 rfl (lv_at hl 0 rfl) ?_
    refine lv_iconst (v := (-1 : Int32)) hx hb dX9_tellTower_35 (by decide) ?_
    refine lv_icmp_ne (tgt := 41) hx hb dX9_tellTower_36 (by decide) (fun c36 => ?_) (fun c36 => ?_)
    · have h := h.1 c36
      refine lv_aload_n hx hb dX9_tellTower_41 rfl (lv_at hl 2 rfl) ?_
      refine gfX9_15 hx hb hts hown hK hP 5 rfl dX9_tellTower_42 ?_
      refine lv_iload_n hx hb dX9_tellTower_45 rfl (lv_at hl 0 rfl) ?_
      refine clVi (As := [.int r30]) (rest := []) (Wr := [((rG 8), .inl (cy 0, 5, .inl G_range)), ((rG 9), .inl (cy 0, 5, .inl G_voice)), ((rG 10), .inl (cy 0, 5, .inl G_strokes)), ((rG 11), .inl (cy 2, 5, .inl G_isFalse)), (h0, .inr (9, oX9 rL sL)), ((rL 0), .inr (8, oX8 rR sR_30)), ((rR 0), .inl (cy 1, 500, .inl R_text))]) (cq := (RX4, TX4, 16)) ⟨hx, hb, hml, hown, hts⟩ ⟨callB_of 1 hts (goodC mw825) rfl rfl rfl (hts _ (tb mw3)) (hts _ (tb mw822)) kdX4_hasTowerAt ⟨Nat.le_trans (by decide) hRf, Nat.le_trans (by decide) hRl⟩, hts _ (tb mw823), hts _ (tb mw824)⟩ (ctX4_hasTowerAt l D cy ev (rL 1) rG sG G_towerCell r30 _ _ h) hE hK hP hD hS hA [6, 0] [1, 2, 3, 4, 5, 7, 8] rfl rfl (by decide) (by decide) (by decide) 0 rfl rfl rfl hl.1 rfl (Nat.le_of_ble_eq_true rfl) ⟨Nat.zero_le _, Nat.zero_le _⟩ dX9_tellTower_46 (fun r46 u H locs h hP hD hS => ?_)
      have hP : va_P D clsX [((rG 8), .inl (cy 0, 5, .inl G_range)), ((rG 9), .inl (cy 0, 5, .inl G_voice)), ((rG 10), .inl (cy 0, 5, .inl G_strokes)), ((rG 11), .inl (cy 2, 5, .inl G_isFalse)), (h0, .inr (9, oX9 rL sL)), ((rL 0), .inr (8, oX8 rR sR_30)), ((rR 0), .inl (cy 1, 500, .inl R_text)), ((rL 1), .inr (4, oX4 rG sG)), ((rG 7), .inl (cy 0, 5, .inl G_towerCell))] H := hP
      have hD : va_D A [((rG 8), .inl (cy 0, 5, .inl G_range)), ((rG 9), .inl (cy 0, 5, .inl G_voice)), ((rG 10), .inl (cy 0, 5, .inl G_strokes)), ((rG 11), .inl (cy 2, 5, .inl G_isFalse)), (h0, .inr (9, oX9 rL sL)), ((rL 0), .inr (8, oX8 rR sR_30)), ((rR 0), .inl (cy 1, 500, .inl R_text)), ((rL 1), .inr (4, oX4 rG sG)), ((rG 7), .inl (cy 0, 5, .inl G_towerCell))] := hD
      refine lv_if_eq (tgt := 61) hx hb dX9_tellTower_49 (by decide) (fun c49 => ?_) (fun c49 => ?_)
      · have h := h.1 c49
        refine lv_aload_n hx hb dX9_tellTower_61 rfl (lv_at hl 2 rfl) ?_
        refine gfX9_9 hx hb hts hown hK hP 4 rfl dX9_tellTower_62 ?_
        refine lv_iconst (v := (1 : Int32)) hx hb dX9_tellTower_65 (by decide) ?_
        refine lv_bipush (v := (20 : Int32)) hx hb dX9_tellTower_66 (by decide) ?_
        refine clVi (As := [.int (1 : Int32), .int (20 : Int32)]) (rest := []) (Wr := [((rG 8), .inl (cy 0, 5, .inl G_range)), ((rG 9), .inl (cy 0, 5, .inl G_voice)), ((rG 10), .inl (cy 0, 5, .inl G_strokes)), ((rG 11), .inl (cy 2, 5, .inl G_isFalse)), (h0, .inr (9, oX9 rL sL)), ((rL 1), .inr (4, oX4 rG sG)), ((rG 7), .inl (cy 0, 5, .inl G_towerCell))]) (cq := (RX8, TX8, 10)) ⟨hx, hb, hml, hown, hts⟩ ⟨callB_of 2 hts (goodC mw807) rfl rfl rfl (hts _ (tb mw2)) (hts _ (tb mw804)) kdX8_number ⟨Nat.le_trans (by decide) hRf, Nat.le_trans (by decide) hRl⟩, hts _ (tb mw805), hts _ (tb mw806)⟩ (ctX8_number l D cy ev (rL 0) rR sR_30 R_text (1 : Int32) (20 : Int32) _ _ h) hE hK hP hD hS hA [5, 6] [0, 1, 2, 3, 4, 7, 8] rfl rfl (by decide) (by decide) (by decide) 0 rfl rfl rfl hl.1 rfl (Nat.le_of_ble_eq_true rfl) ⟨Nat.zero_le _, Nat.zero_le _⟩ dX9_tellTower_68 (fun r68 sR_68 H locs h hP hD hS => ?_)
        have hP : va_P D clsX [((rG 8), .inl (cy 0, 5, .inl G_range)), ((rG 9), .inl (cy 0, 5, .inl G_voice)), ((rG 10), .inl (cy 0, 5, .inl G_strokes)), ((rG 11), .inl (cy 2, 5, .inl G_isFalse)), (h0, .inr (9, oX9 rL sL)), ((rL 1), .inr (4, oX4 rG sG)), ((rG 7), .inl (cy 0, 5, .inl G_towerCell)), ((rL 0), .inr (8, oX8 rR sR_68)), ((rR 0), .inl (cy 1, 500, .inl R_text))] H := hP
        have hD : va_D A [((rG 8), .inl (cy 0, 5, .inl G_range)), ((rG 9), .inl (cy 0, 5, .inl G_voice)), ((rG 10), .inl (cy 0, 5, .inl G_strokes)), ((rG 11), .inl (cy 2, 5, .inl G_isFalse)), (h0, .inr (9, oX9 rL sL)), ((rL 1), .inr (4, oX4 rG sG)), ((rG 7), .inl (cy 0, 5, .inl G_towerCell)), ((rL 0), .inr (8, oX8 rR sR_68)), ((rR 0), .inl (cy 1, 500, .inl R_text))] := hD
        refine lv_istore_n (lv' := [(3, .int r68), (2, .int r30), (1, .int l1_7), (0, .ref h0)]) hx hb dX9_tellTower_71 rfl hl (by decide) rfl (fun ls hl => ?_)
        refine lv_iload_n hx hb dX9_tellTower_72 rfl (lv_at hl 0 rfl) ?_
        refine lv_iconst (v := (-1 : Int32)) hx hb dX9_tellTower_73 (by decide) ?_
        refine lv_icmp_ne (tgt := 79) hx hb dX9_tellTower_74 (by decide) (fun c74 => ?_) (fun c74 => ?_)
        · have h := h.1 c74
          refine lv_aload_n hx hb dX9_tellTower_79 rfl (lv_at hl 3 rfl) ?_
          refine gfX9_9 hx hb hts hown hK hP 4 rfl dX9_tellTower_80 ?_
          refine lv_iconst (v := (0 : Int32)) hx hb dX9_tellTower_83 (by decide) ?_
          refine lv_iconst (v := (3 : Int32)) hx hb dX9_tellTower_84 (by decide) ?_
          refine clVi (As := [.int (0 : Int32), .int (3 : Int32)]) (rest := []) (Wr := [((rG 8), .inl (cy 0, 5, .inl G_range)), ((rG 9), .inl (cy 0, 5, .inl G_voice)), ((rG 10), .inl (cy 0, 5, .inl G_strokes)), ((rG 11), .inl (cy 2, 5, .inl G_isFalse)), (h0, .inr (9, oX9 rL sL)), ((rL 1), .inr (4, oX4 rG sG)), ((rG 7), .inl (cy 0, 5, .inl G_towerCell))]) (cq := (RX8, TX8, 10)) ⟨hx, hb, hml, hown, hts⟩ ⟨callB_of 2 hts (goodC mw807) rfl rfl rfl (hts _ (tb mw2)) (hts _ (tb mw804)) kdX8_number ⟨Nat.le_trans (by decide) hRf, Nat.le_trans (by decide) hRl⟩, hts _ (tb mw805), hts _ (tb mw806)⟩ (ctX8_number l D cy ev (rL 0) rR sR_68 R_text (0 : Int32) (3 : Int32) _ _ h) hE hK hP hD hS hA [7, 8] [0, 1, 2, 3, 4, 5, 6] rfl rfl (by decide) (by decide) (by decide) 0 rfl rfl rfl hl.1 rfl (Nat.le_of_ble_eq_true rfl) ⟨Nat.zero_le _, Nat.zero_le _⟩ dX9_tellTower_85 (fun r85 sR_85 H locs h hP hD hS => ?_)
          have hP : va_P D clsX [((rG 8), .inl (cy 0, 5, .inl G_range)), ((rG 9), .inl (cy 0, 5, .inl G_voice)), ((rG 10), .inl (cy 0, 5, .inl G_strokes)), ((rG 11), .inl (cy 2, 5, .inl G_isFalse)), (h0, .inr (9, oX9 rL sL)), ((rL 1), .inr (4, oX4 rG sG)), ((rG 7), .inl (cy 0, 5, .inl G_towerCell)), ((rL 0), .inr (8, oX8 rR sR_85)), ((rR 0), .inl (cy 1, 500, .inl R_text))] H := hP
          have hD : va_D A [((rG 8), .inl (cy 0, 5, .inl G_range)), ((rG 9), .inl (cy 0, 5, .inl G_voice)), ((rG 10), .inl (cy 0, 5, .inl G_strokes)), ((rG 11), .inl (cy 2, 5, .inl G_isFalse)), (h0, .inr (9, oX9 rL sL)), ((rL 1), .inr (4, oX4 rG sG)), ((rG 7), .inl (cy 0, 5, .inl G_towerCell)), ((rL 0), .inr (8, oX8 rR sR_85)), ((rR 0), .inl (cy 1, 500, .inl R_text))] := hD
          refine lv_istore (lv' := [(4, .int r85), (3, .int r68), (2, .int r30), (1, .int l1_7), (0, .ref h0)]) hx hb dX9_tellTower_88 hl (by decide) rfl (fun ls hl => ?_)
          refine lv_iload hx hb dX9_tellTower_90 (lv_at hl 0 rfl) ?_
          refine lv_iconst (v := (-1 : Int32)) hx hb dX9_tellTower_92 (by decide) ?_
          refine lv_icmp_ne (tgt := 98) hx hb dX9_tellTower_93 (by decide) (fun c93 => ?_) (fun c93 => ?_)
          · have h := h.1 c93
            refine lv_aload_n hx hb dX9_tellTower_98 rfl (lv_at hl 4 rfl) ?_
            refine clVi (As := []) (rest := []) (Wr := [((rG 8), .inl (cy 0, 5, .inl G_range)), ((rG 9), .inl (cy 0, 5, .inl G_voice)), ((rG 10), .inl (cy 0, 5, .inl G_strokes)), ((rG 11), .inl (cy 2, 5, .inl G_isFalse)), ((rL 1), .inr (4, oX4 rG sG)), ((rG 7), .inl (cy 0, 5, .inl G_towerCell))]) (cq := (RX9, TX9, 4)) ⟨hx, hb, hml, hown, hts⟩ ⟨callB_of 0 hts (goodC mw833) rfl rfl rfl (hts _ (tb mw6)) (hts _ (tb mw830)) kdX9_tellStrokes ⟨Nat.le_trans (by decide) hRf, Nat.le_trans (by decide) hRl⟩, hts _ (tb mw832), hts _ (tb ms16)⟩ (ctX9_tellStrokes l D cy ev h0 rL rR sL sR_85 R_text  _ _ h) hE hK hP hD hS hA [4, 7, 8] [0, 1, 2, 3, 5, 6] rfl rfl (by decide) (by decide) (by decide) 0 rfl rfl rfl hl.1 rfl (Nat.le_of_ble_eq_true rfl) ⟨Nat.zero_le _, Nat.zero_le _⟩ dX9_tellTower_99 (fun r99 sR_99 H locs h hP hD hS => ?_)
            have hP : va_P D clsX [((rG 8), .inl (cy 0, 5, .inl G_range)), ((rG 9), .inl (cy 0, 5, .inl G_voice)), ((rG 10), .inl (cy 0, 5, .inl G_strokes)), ((rG 11), .inl (cy 2, 5, .inl G_isFalse)), ((rL 1), .inr (4, oX4 rG sG)), ((rG 7), .inl (cy 0, 5, .inl G_towerCell)), (h0, .inr (9, oX9 rL sL)), ((rL 0), .inr (8, oX8 rR sR_99)), ((rR 0), .inl (cy 1, 500, .inl R_text))] H := hP
            have hD : va_D A [((rG 8), .inl (cy 0, 5, .inl G_range)), ((rG 9), .inl (cy 0, 5, .inl G_voice)), ((rG 10), .inl (cy 0, 5, .inl G_strokes)), ((rG 11), .inl (cy 2, 5, .inl G_isFalse)), ((rL 1), .inr (4, oX4 rG sG)), ((rG 7), .inl (cy 0, 5, .inl G_towerCell)), (h0, .inr (9, oX9 rL sL)), ((rL 0), .inr (8, oX8 rR sR_99)), ((rR 0), .inl (cy 1, 500, .inl R_text))] := hD
            refine lv_istore (lv' := [(5, .int r99), (4, .int r85), (3, .int r68), (2, .int r30), (1, .int l1_7), (0, .ref h0)]) hx hb dX9_tellTower_102 hl (by decide) rfl (fun ls hl => ?_)
            refine lv_iload hx hb dX9_tellTower_104 (lv_at hl 0 rfl) ?_
            refine lv_iconst (v := (-1 : Int32)) hx hb dX9_tellTower_106 (by decide) ?_
            refine lv_icmp_ne (tgt := 112) hx hb dX9_tellTower_107 (by decide) (fun c107 => ?_) (fun c107 => ?_)
            · have h := h.1 c107
              refine lv_aload_n hx hb dX9_tellTower_112 rfl (lv_at hl 5 rfl) ?_
              refine gfX9_15 hx hb hts hown hK hP 6 rfl dX9_tellTower_113 ?_
              refine gfX9_126 hx hb hts hown hK hP 4 rfl dX9_tellTower_116 ?_
              refine lv_iload_n hx hb dX9_tellTower_119 rfl (lv_at hl 4 rfl) ?_
              refine lv_iload_n hx hb dX9_tellTower_120 rfl (lv_at hl 3 rfl) ?_
              obtain ⟨hin, h⟩ := h
              refine sti (k := l1_7.toNatClampNeg) (y := r30) hx hb hK hP hD hS 5 rfl hin rfl rfl dX9_tellTower_121 (fun G_towerCell_121 eG_towerCell_121 H locs hP hD hS => ?_)
              have h := h G_towerCell_121 eG_towerCell_121
              have hP : va_P D clsX [((rG 8), .inl (cy 0, 5, .inl G_range)), ((rG 9), .inl (cy 0, 5, .inl G_voice)), ((rG 10), .inl (cy 0, 5, .inl G_strokes)), ((rG 11), .inl (cy 2, 5, .inl G_isFalse)), ((rL 1), .inr (4, oX4 rG sG)), ((rG 7), .inl (cy 0, 5, .inl G_towerCell_121)), (h0, .inr (9, oX9 rL sL)), ((rL 0), .inr (8, oX8 rR sR_99)), ((rR 0), .inl (cy 1, 500, .inl R_text))] H := hP
              have hD : va_D A [((rG 8), .inl (cy 0, 5, .inl G_range)), ((rG 9), .inl (cy 0, 5, .inl G_voice)), ((rG 10), .inl (cy 0, 5, .inl G_strokes)), ((rG 11), .inl (cy 2, 5, .inl G_isFalse)), ((rL 1), .inr (4, oX4 rG sG)), ((rG 7), .inl (cy 0, 5, .inl G_towerCell_121)), (h0, .inr (9, oX9 rL sL)), ((rL 0), .inr (8, oX8 rR sR_99)), ((rR 0), .inl (cy 1, 500, .inl R_text))] := hD
              refine lv_aload_n hx hb dX9_tellTower_122 rfl (lv_at hl 5 rfl) ?_
              refine gfX9_15 hx hb hts hown hK hP 6 rfl dX9_tellTower_123 ?_
              refine gfX9_130 hx hb hts hown hK hP 4 rfl dX9_tellTower_126 ?_
              refine lv_iload_n hx hb dX9_tellTower_129 rfl (lv_at hl 4 rfl) ?_
              refine lv_iload_n hx hb dX9_tellTower_130 rfl (lv_at hl 2 rfl) ?_
              obtain ⟨hin, h⟩ := h
              refine sti (k := l1_7.toNatClampNeg) (y := r68) hx hb hK hP hD hS 0 rfl hin rfl rfl dX9_tellTower_131 (fun G_range_131 eG_range_131 H locs hP hD hS => ?_)
              have h := h G_range_131 eG_range_131
              have hP : va_P D clsX [((rG 8), .inl (cy 0, 5, .inl G_range_131)), ((rG 9), .inl (cy 0, 5, .inl G_voice)), ((rG 10), .inl (cy 0, 5, .inl G_strokes)), ((rG 11), .inl (cy 2, 5, .inl G_isFalse)), ((rL 1), .inr (4, oX4 rG sG)), ((rG 7), .inl (cy 0, 5, .inl G_towerCell_121)), (h0, .inr (9, oX9 rL sL)), ((rL 0), .inr (8, oX8 rR sR_99)), ((rR 0), .inl (cy 1, 500, .inl R_text))] H := hP
              have hD : va_D A [((rG 8), .inl (cy 0, 5, .inl G_range_131)), ((rG 9), .inl (cy 0, 5, .inl G_voice)), ((rG 10), .inl (cy 0, 5, .inl G_strokes)), ((rG 11), .inl (cy 2, 5, .inl G_isFalse)), ((rL 1), .inr (4, oX4 rG sG)), ((rG 7), .inl (cy 0, 5, .inl G_towerCell_121)), (h0, .inr (9, oX9 rL sL)), ((rL 0), .inr (8, oX8 rR sR_99)), ((rR 0), .inl (cy 1, 500, .inl R_text))] := hD
              refine lv_aload_n hx hb dX9_tellTower_132 rfl (lv_at hl 5 rfl) ?_
              refine gfX9_15 hx hb hts hown hK hP 6 rfl dX9_tellTower_133 ?_
              refine gfX9_133 hx hb hts hown hK hP 4 rfl dX9_tellTower_136 ?_
              refine lv_iload_n hx hb dX9_tellTower_139 rfl (lv_at hl 4 rfl) ?_
              refine lv_iload hx hb dX9_tellTower_140 (lv_at hl 1 rfl) ?_
              obtain ⟨hin, h⟩ := h
              refine sti (k := l1_7.toNatClampNeg) (y := r85) hx hb hK hP hD hS 1 rfl hin rfl rfl dX9_tellTower_142 (fun G_voice_142 eG_voice_142 H locs hP hD hS => ?_)
              have h := h G_voice_142 eG_voice_142
              have hP : va_P D clsX [((rG 8), .inl (cy 0, 5, .inl G_range_131)), ((rG 9), .inl (cy 0, 5, .inl G_voice_142)), ((rG 10), .inl (cy 0, 5, .inl G_strokes)), ((rG 11), .inl (cy 2, 5, .inl G_isFalse)), ((rL 1), .inr (4, oX4 rG sG)), ((rG 7), .inl (cy 0, 5, .inl G_towerCell_121)), (h0, .inr (9, oX9 rL sL)), ((rL 0), .inr (8, oX8 rR sR_99)), ((rR 0), .inl (cy 1, 500, .inl R_text))] H := hP
              have hD : va_D A [((rG 8), .inl (cy 0, 5, .inl G_range_131)), ((rG 9), .inl (cy 0, 5, .inl G_voice_142)), ((rG 10), .inl (cy 0, 5, .inl G_strokes)), ((rG 11), .inl (cy 2, 5, .inl G_isFalse)), ((rL 1), .inr (4, oX4 rG sG)), ((rG 7), .inl (cy 0, 5, .inl G_towerCell_121)), (h0, .inr (9, oX9 rL sL)), ((rL 0), .inr (8, oX8 rR sR_99)), ((rR 0), .inl (cy 1, 500, .inl R_text))] := hD
              refine lv_aload_n hx hb dX9_tellTower_143 rfl (lv_at hl 5 rfl) ?_
              refine gfX9_15 hx hb hts hown hK hP 6 rfl dX9_tellTower_144 ?_
              refine gfX9_136 hx hb hts hown hK hP 4 rfl dX9_tellTower_147 ?_
              refine lv_iload_n hx hb dX9_tellTower_150 rfl (lv_at hl 4 rfl) ?_
              refine lv_iload hx hb dX9_tellTower_151 (lv_at hl 0 rfl) ?_
              obtain ⟨hin, h⟩ := h
              refine sti (k := l1_7.toNatClampNeg) (y := r99) hx hb hK hP hD hS 2 rfl hin rfl rfl dX9_tellTower_153 (fun G_strokes_153 eG_strokes_153 H locs hP hD hS => ?_)
              have h := h G_strokes_153 eG_strokes_153
              have hP : va_P D clsX [((rG 8), .inl (cy 0, 5, .inl G_range_131)), ((rG 9), .inl (cy 0, 5, .inl G_voice_142)), ((rG 10), .inl (cy 0, 5, .inl G_strokes_153)), ((rG 11), .inl (cy 2, 5, .inl G_isFalse)), ((rL 1), .inr (4, oX4 rG sG)), ((rG 7), .inl (cy 0, 5, .inl G_towerCell_121)), (h0, .inr (9, oX9 rL sL)), ((rL 0), .inr (8, oX8 rR sR_99)), ((rR 0), .inl (cy 1, 500, .inl R_text))] H := hP
              have hD : va_D A [((rG 8), .inl (cy 0, 5, .inl G_range_131)), ((rG 9), .inl (cy 0, 5, .inl G_voice_142)), ((rG 10), .inl (cy 0, 5, .inl G_strokes_153)), ((rG 11), .inl (cy 2, 5, .inl G_isFalse)), ((rL 1), .inr (4, oX4 rG sG)), ((rG 7), .inl (cy 0, 5, .inl G_towerCell_121)), (h0, .inr (9, oX9 rL sL)), ((rL 0), .inr (8, oX8 rR sR_99)), ((rR 0), .inl (cy 1, 500, .inl R_text))] := hD
              refine lv_aload_n hx hb dX9_tellTower_154 rfl (lv_at hl 5 rfl) ?_
              refine gfX9_15 hx hb hts hown hK hP 6 rfl dX9_tellTower_155 ?_
              refine gfX9_139 hx hb hts hown hK hP 4 rfl dX9_tellTower_158 ?_
              refine lv_iload_n hx hb dX9_tellTower_161 rfl (lv_at hl 4 rfl) ?_
              refine lv_aload_n hx hb dX9_tellTower_162 rfl (lv_at hl 5 rfl) ?_
              refine gfX9_9 hx hb hts hown hK hP 6 rfl dX9_tellTower_163 ?_
              refine va_ldcS hx hb hown (hE.1 4 (by decide)).1 dX9_tellTower_166 ?_
              refine clVi (As := [.ref (ev (2 * 4))]) (rest := [.int l1_7, .ref (rG 11)]) (Wr := [((rG 8), .inl (cy 0, 5, .inl G_range_131)), ((rG 9), .inl (cy 0, 5, .inl G_voice_142)), ((rG 10), .inl (cy 0, 5, .inl G_strokes_153)), ((rG 11), .inl (cy 2, 5, .inl G_isFalse)), ((rL 1), .inr (4, oX4 rG sG)), ((rG 7), .inl (cy 0, 5, .inl G_towerCell_121)), (h0, .inr (9, oX9 rL sL))]) (cq := (RX8, TX8, 10)) ⟨hx, hb, hml, hown, hts⟩ ⟨callB_of 1 hts (goodC mw750) rfl rfl rfl (hts _ (tb mw2)) (hts _ (tb mw747)) kdX8_isWord ⟨Nat.le_trans (by decide) hRf, Nat.le_trans (by decide) hRl⟩, hts _ (tb mw748), hts _ (tb mw749)⟩ (ctX8_isWord l D cy ev (rL 0) rR sR_99 R_text 4  _ _ h) hE hK hP hD hS hA [7, 8] [0, 1, 2, 3, 4, 5, 6] rfl rfl (by decide) (by decide) (by decide) 0 rfl rfl rfl hl.1 rfl (Nat.le_of_ble_eq_true rfl) ⟨Nat.zero_le _, Nat.zero_le _⟩ dX9_tellTower_168 (fun r168 u H locs h hP hD hS => ?_)
              have hP : va_P D clsX [((rG 8), .inl (cy 0, 5, .inl G_range_131)), ((rG 9), .inl (cy 0, 5, .inl G_voice_142)), ((rG 10), .inl (cy 0, 5, .inl G_strokes_153)), ((rG 11), .inl (cy 2, 5, .inl G_isFalse)), ((rL 1), .inr (4, oX4 rG sG)), ((rG 7), .inl (cy 0, 5, .inl G_towerCell_121)), (h0, .inr (9, oX9 rL sL)), ((rL 0), .inr (8, oX8 rR sR_99)), ((rR 0), .inl (cy 1, 500, .inl R_text))] H := hP
              have hD : va_D A [((rG 8), .inl (cy 0, 5, .inl G_range_131)), ((rG 9), .inl (cy 0, 5, .inl G_voice_142)), ((rG 10), .inl (cy 0, 5, .inl G_strokes_153)), ((rG 11), .inl (cy 2, 5, .inl G_isFalse)), ((rL 1), .inr (4, oX4 rG sG)), ((rG 7), .inl (cy 0, 5, .inl G_towerCell_121)), (h0, .inr (9, oX9 rL sL)), ((rL 0), .inr (8, oX8 rR sR_99)), ((rR 0), .inl (cy 1, 500, .inl R_text))] := hD
              obtain ⟨hin, h⟩ := h
              refine stz (k := l1_7.toNatClampNeg) (y := (vp_nar .boolean r168)) hx hb hK hP hD hS 3 rfl hin rfl rfl dX9_tellTower_171 (fun G_isFalse_171 eG_isFalse_171 H locs hP hD hS => ?_)
              have h := h G_isFalse_171 eG_isFalse_171
              have hP : va_P D clsX [((rG 8), .inl (cy 0, 5, .inl G_range_131)), ((rG 9), .inl (cy 0, 5, .inl G_voice_142)), ((rG 10), .inl (cy 0, 5, .inl G_strokes_153)), ((rG 11), .inl (cy 2, 5, .inl G_isFalse_171)), ((rL 1), .inr (4, oX4 rG sG)), ((rG 7), .inl (cy 0, 5, .inl G_towerCell_121)), (h0, .inr (9, oX9 rL sL)), ((rL 0), .inr (8, oX8 rR sR_99)), ((rR 0), .inl (cy 1, 500, .inl R_text))] H := hP
              have hD : va_D A [((rG 8), .inl (cy 0, 5, .inl G_range_131)), ((rG 9), .inl (cy 0, 5, .inl G_voice_142)), ((rG 10), .inl (cy 0, 5, .inl G_strokes_153)), ((rG 11), .inl (cy 2, 5, .inl G_isFalse_171)), ((rL 1), .inr (4, oX4 rG sG)), ((rG 7), .inl (cy 0, 5, .inl G_towerCell_121)), (h0, .inr (9, oX9 rL sL)), ((rL 0), .inr (8, oX8 rR sR_99)), ((rR 0), .inl (cy 1, 500, .inl R_text))] := hD
              refine lv_aload_n hx hb dX9_tellTower_172 rfl (lv_at hl 5 rfl) ?_
              refine gfX9_15 hx hb hts hown hK hP 6 rfl dX9_tellTower_173 ?_
              refine gfX9_139 hx hb hts hown hK hP 4 rfl dX9_tellTower_176 ?_
              refine lv_iload_n hx hb dX9_tellTower_179 rfl (lv_at hl 4 rfl) ?_
              obtain ⟨hin, h⟩ := h
              refine ldz (k := l1_7.toNatClampNeg) hx hb hK hP 3 rfl hin rfl dX9_tellTower_180 ?_
              refine lv_if_eq (tgt := 191) hx hb dX9_tellTower_181 (by decide) (fun c181 => ?_) (fun c181 => ?_)
              · have h := h.1 c181
                exact J191 sR_99 G_towerCell_121 G_range_131 G_voice_142 G_strokes_153 G_isFalse_171 l1_7 _ _ _ h (hP.sub [6, 4, 7, 5, 0, 1, 2, 3, 8] rfl) (hD.sub [6, 4, 7, 5, 0, 1, 2, 3, 8] (by decide) rfl) hS (lv_sub hl [5, 4] rfl)
              · have h := h.2 c181
                refine lv_aload_n hx hb dX9_tellTower_184 rfl (lv_at hl 5 rfl) ?_
                refine gfX9_9 hx hb hts hown hK hP 6 rfl dX9_tellTower_185 ?_
                refine clVv (As := []) (rest := []) (Wr := [((rG 8), .inl (cy 0, 5, .inl G_range_131)), ((rG 9), .inl (cy 0, 5, .inl G_voice_142)), ((rG 10), .inl (cy 0, 5, .inl G_strokes_153)), ((rG 11), .inl (cy 2, 5, .inl G_isFalse_171)), ((rL 1), .inr (4, oX4 rG sG)), ((rG 7), .inl (cy 0, 5, .inl G_towerCell_121)), (h0, .inr (9, oX9 rL sL))]) (cq := (RX8, TX8, 10)) ⟨hx, hb, hml, hown, hts⟩ ⟨callB_of 0 hts (goodC mw736) rfl rfl rfl (hts _ (tb mw2)) (hts _ (tb mw803)) kdX8_advance ⟨Nat.le_trans (by decide) hRf, Nat.le_trans (by decide) hRl⟩, hts _ (tb mw734), hts _ (tb mw735)⟩ (ctX8_advance l D cy ev (rL 0) rR sR_99 R_text  _ _ h) hE hK hP hD hS hA [7, 8] [0, 1, 2, 3, 4, 5, 6] rfl rfl (by decide) (by decide) (by decide) 0 rfl rfl rfl hl.1 rfl (Nat.le_of_ble_eq_true rfl) ⟨Nat.zero_le _, Nat.zero_le _⟩ dX9_tellTower_188 (fun sR_188 H locs h hP hD hS => ?_)
                have hP : va_P D clsX [((rG 8), .inl (cy 0, 5, .inl G_range_131)), ((rG 9), .inl (cy 0, 5, .inl G_voice_142)), ((rG 10), .inl (cy 0, 5, .inl G_strokes_153)), ((rG 11), .inl (cy 2, 5, .inl G_isFalse_171)), ((rL 1), .inr (4, oX4 rG sG)), ((rG 7), .inl (cy 0, 5, .inl G_towerCell_121)), (h0, .inr (9, oX9 rL sL)), ((rL 0), .inr (8, oX8 rR sR_188)), ((rR 0), .inl (cy 1, 500, .inl R_text))] H := hP
                have hD : va_D A [((rG 8), .inl (cy 0, 5, .inl G_range_131)), ((rG 9), .inl (cy 0, 5, .inl G_voice_142)), ((rG 10), .inl (cy 0, 5, .inl G_strokes_153)), ((rG 11), .inl (cy 2, 5, .inl G_isFalse_171)), ((rL 1), .inr (4, oX4 rG sG)), ((rG 7), .inl (cy 0, 5, .inl G_towerCell_121)), (h0, .inr (9, oX9 rL sL)), ((rL 0), .inr (8, oX8 rR sR_188)), ((rR 0), .inl (cy 1, 500, .inl R_text))] := hD
                exact J191 sR_188 G_towerCell_121 G_range_131 G_voice_142 G_strokes_153 G_isFalse_171 l1_7 _ _ _ h (hP.sub [6, 4, 7, 5, 0, 1, 2, 3, 8] rfl) (hD.sub [6, 4, 7, 5, 0, 1, 2, 3, 8] (by decide) rfl) hS (lv_sub hl [5, 4] rfl)
            · have h := h.2 c107
              refine lv_iconst (v := (0 : Int32)) hx hb dX9_tellTower_110 (by decide) ?_
              exact hret (0 : Int32) (sG, sR_99, G_towerCell, G_range, G_voice, G_strokes, G_isFalse) _ _ _ _ rfl dX9_tellTower_111 h (hP.sub [6, 4, 7, 5, 0, 1, 2, 3, 8] rfl) (hD.sub [6, 4, 7, 5, 0, 1, 2, 3, 8] (by decide) rfl) hS
          · have h := h.2 c93
            refine lv_iconst (v := (0 : Int32)) hx hb dX9_tellTower_96 (by decide) ?_
            exact hret (0 : Int32) (sG, sR_85, G_towerCell, G_range, G_voice, G_strokes, G_isFalse) _ _ _ _ rfl dX9_tellTower_97 h (hP.sub [4, 5, 7, 6, 0, 1, 2, 3, 8] rfl) (hD.sub [4, 5, 7, 6, 0, 1, 2, 3, 8] (by decide) rfl) hS
        · have h := h.2 c74
          refine lv_iconst (v := (0 : Int32)) hx hb dX9_tellTower_77 (by decide) ?_
          exact hret (0 : Int32) (sG, sR_68, G_towerCell, G_range, G_voice, G_strokes, G_isFalse) _ _ _ _ rfl dX9_tellTower_78 h (hP.sub [4, 5, 7, 6, 0, 1, 2, 3, 8] rfl) (hD.sub [4, 5, 7, 6, 0, 1, 2, 3, 8] (by decide) rfl) hS
      · have h := h.2 c49
        refine lv_aload_n hx hb dX9_tellTower_52 rfl (lv_at hl 2 rfl) ?_
        refine gfX9_9 hx hb hts hown hK hP 4 rfl dX9_tellTower_53 ?_
        refine lv_iconst (v := (4 : Int32)) hx hb dX9_tellTower_56 (by decide) ?_
        refine clVi (As := [.int (4 : Int32)]) (rest := []) (Wr := [((rG 8), .inl (cy 0, 5, .inl G_range)), ((rG 9), .inl (cy 0, 5, .inl G_voice)), ((rG 10), .inl (cy 0, 5, .inl G_strokes)), ((rG 11), .inl (cy 2, 5, .inl G_isFalse)), (h0, .inr (9, oX9 rL sL)), ((rR 0), .inl (cy 1, 500, .inl R_text)), ((rL 1), .inr (4, oX4 rG sG)), ((rG 7), .inl (cy 0, 5, .inl G_towerCell))]) (cq := (RX8, TX8, 10)) ⟨hx, hb, hml, hown, hts⟩ ⟨callB_of 1 hts (goodC mw829) rfl rfl rfl (hts _ (tb mw2)) (hts _ (tb mw826)) kdX8_refuseBefore ⟨Nat.le_trans (by decide) hRf, Nat.le_trans (by decide) hRl⟩, hts _ (tb mw827), hts _ (tb mw828)⟩ (ctX8_refuseBefore l D cy ev (rL 0) rR sR_30 (4 : Int32) _ _ h) hE hK hP hD hS hA [5] [0, 1, 2, 3, 4, 6, 7, 8] rfl rfl (by decide) (by decide) (by decide) 0 rfl rfl rfl hl.1 rfl (Nat.le_of_ble_eq_true rfl) ⟨Nat.zero_le _, Nat.zero_le _⟩ dX9_tellTower_57 (fun r57 sR_57 H locs h hP hD hS => ?_)
        have hP : va_P D clsX [((rG 8), .inl (cy 0, 5, .inl G_range)), ((rG 9), .inl (cy 0, 5, .inl G_voice)), ((rG 10), .inl (cy 0, 5, .inl G_strokes)), ((rG 11), .inl (cy 2, 5, .inl G_isFalse)), (h0, .inr (9, oX9 rL sL)), ((rR 0), .inl (cy 1, 500, .inl R_text)), ((rL 1), .inr (4, oX4 rG sG)), ((rG 7), .inl (cy 0, 5, .inl G_towerCell)), ((rL 0), .inr (8, oX8 rR sR_57))] H := hP
        have hD : va_D A [((rG 8), .inl (cy 0, 5, .inl G_range)), ((rG 9), .inl (cy 0, 5, .inl G_voice)), ((rG 10), .inl (cy 0, 5, .inl G_strokes)), ((rG 11), .inl (cy 2, 5, .inl G_isFalse)), (h0, .inr (9, oX9 rL sL)), ((rR 0), .inl (cy 1, 500, .inl R_text)), ((rL 1), .inr (4, oX4 rG sG)), ((rG 7), .inl (cy 0, 5, .inl G_towerCell)), ((rL 0), .inr (8, oX8 rR sR_57))] := hD
        obtain ⟨hz, h⟩ := h
        exact hret r57 (sG, sR_57, G_towerCell, G_range, G_voice, G_strokes, G_isFalse) _ _ _ _ hz dX9_tellTower_60 h (hP.sub [4, 6, 8, 7, 0, 1, 2, 3, 5] rfl) (hD.sub [4, 6, 8, 7, 0, 1, 2, 3, 5] (by decide) rfl) hS
    · have h := h.2 c36
      refine lv_iconst (v := (0 : Int32)) hx hb dX9_tellTower_39 (by decide) ?_
      exact hret (0 : Int32) (sG, sR_30, G_towerCell, G_range, G_voice, G_strokes, G_isFalse) _ _ _ _ rfl dX9_tellTower_40 h (hP.sub [5, 6, 7, 0, 1, 2, 3, 4, 8] rfl) (hD.sub [5, 6, 7, 0, 1, 2, 3, 4, 8] (by decide) rfl) hS
  · have h := h.2 c10
    refine lv_aload_n hx hb dX9_tellTower_13 rfl (lv_at hl 1 rfl) ?_
    refine gfX9_9 hx hb hts hown hK hP 0 rfl dX9_tellTower_14 ?_
    refine lv_iconst (v := (2 : Int32)) hx hb dX9_tellTower_17 (by decide) ?_
    refine clVi (As := [.int (2 : Int32)]) (rest := []) (Wr := [(h0, .inr (9, oX9 rL sL)), ((rL 1), .inr (4, oX4 rG sG)), ((rG 7), .inl (cy 0, 5, .inl G_towerCell)), ((rG 8), .inl (cy 0, 5, .inl G_range)), ((rG 9), .inl (cy 0, 5, .inl G_voice)), ((rG 10), .inl (cy 0, 5, .inl G_strokes)), ((rG 11), .inl (cy 2, 5, .inl G_isFalse)), ((rR 0), .inl (cy 1, 500, .inl R_text))]) (cq := (RX8, TX8, 10)) ⟨hx, hb, hml, hown, hts⟩ ⟨callB_of 1 hts (goodC mw811) rfl rfl rfl (hts _ (tb mw2)) (hts _ (tb mw812)) kdX8_refuse ⟨Nat.le_trans (by decide) hRf, Nat.le_trans (by decide) hRl⟩, hts _ (tb mw809), hts _ (tb mw810)⟩ (ctX8_refuse l D cy ev (rL 0) rR sR (2 : Int32) _ _ h) hE hK hP hD hS hA [2] [0, 1, 3, 4, 5, 6, 7, 8] rfl rfl (by decide) (by decide) (by decide) 0 rfl rfl rfl hl.1 rfl (Nat.le_of_ble_eq_true rfl) ⟨Nat.zero_le _, Nat.zero_le _⟩ dX9_tellTower_18 (fun r18 sR_18 H locs h hP hD hS => ?_)
    have hP : va_P D clsX [(h0, .inr (9, oX9 rL sL)), ((rL 1), .inr (4, oX4 rG sG)), ((rG 7), .inl (cy 0, 5, .inl G_towerCell)), ((rG 8), .inl (cy 0, 5, .inl G_range)), ((rG 9), .inl (cy 0, 5, .inl G_voice)), ((rG 10), .inl (cy 0, 5, .inl G_strokes)), ((rG 11), .inl (cy 2, 5, .inl G_isFalse)), ((rR 0), .inl (cy 1, 500, .inl R_text)), ((rL 0), .inr (8, oX8 rR sR_18))] H := hP
    have hD : va_D A [(h0, .inr (9, oX9 rL sL)), ((rL 1), .inr (4, oX4 rG sG)), ((rG 7), .inl (cy 0, 5, .inl G_towerCell)), ((rG 8), .inl (cy 0, 5, .inl G_range)), ((rG 9), .inl (cy 0, 5, .inl G_voice)), ((rG 10), .inl (cy 0, 5, .inl G_strokes)), ((rG 11), .inl (cy 2, 5, .inl G_isFalse)), ((rR 0), .inl (cy 1, 500, .inl R_text)), ((rL 0), .inr (8, oX8 rR sR_18))] := hD
    obtain ⟨hz, h⟩ := h
    exact hret r18 (sG, sR_18, G_towerCell, G_range, G_voice, G_strokes, G_isFalse) _ _ _ _ hz dX9_tellTower_21 h (hP.sub [0, 1, 8, 2, 3, 4, 5, 6, 7] rfl) (hD.sub [0, 1, 8, 2, 3, 4, 5, 6, 7] (by decide) rfl) hS
def wpX9_directionHere (sR : AR) (R_text : AR) (post : Int32 → Prop) : Prop := wpX8_isWord sR R_text 6 (fun r6 => ((r6 = 0 → wpX8_isWord sR R_text 7 (fun r20 => ((r20 = 0 → wpX8_isWord sR R_text 8 (fun r34 => ((r34 = 0 → wpX8_isWord sR R_text 9 (fun r48 => ((r48 = 0 → post (-1 : Int32)) ∧ (¬ r48 = 0 → post (3 : Int32))))) ∧ (¬ r34 = 0 → post (2 : Int32))))) ∧ (¬ r20 = 0 → post (1 : Int32))))) ∧ (¬ r6 = 0 → post (0 : Int32))))
set_option maxHeartbeats 4000000 in
set_option maxRecDepth 100000 in
theorem ctX9_directionHere (l : Launch) (D : va_G) (cy : Nat → ClassId) (ev : Nat → Nat) (h0 : Nat) (rL : Nat → Nat) (rR : Nat → Nat) (sL : AR) (sR : AR) (R_text : AR) (sz : Nat) (post : Int32 → Prop) (h : wpX9_directionHere sR R_text post) : Met l yX9_directionHere (Cond.code yX9_directionHere cX9_directionHere 1 (some .int) :: TB) ({ frames := 5, cells := 0, slots := 0, locals := 222 }) (va_Pc [.ref h0] (PreX D cy ev [(h0, .inr (9, oX9 rL sL)), ((rL 0), .inr (8, oX8 rR sR)), ((rR 0), .inl (cy 1, 500, .inl R_text))] sz)) (va_Qi (fun (r : Int32) (u : Unit) => post r) (fun u => BkX D cy [(h0, .inr (9, oX9 rL sL)), ((rL 0), .inr (8, oX8 rR sR)), ((rR 0), .inl (cy 1, 500, .inl R_text))] sz [(h0, .inr (9, oX9 rL sL)), ((rL 0), .inr (8, oX8 rR sR)), ((rR 0), .inl (cy 1, 500, .inl R_text))]) (va_A [(h0, .inr (9, oX9 rL sL)), ((rL 0), .inr (8, oX8 rR sR)), ((rR 0), .inl (cy 1, 500, .inl R_text))] sz)) 0 0 (va_A [(h0, .inr (9, oX9 rL sL)), ((rL 0), .inr (8, oX8 rR sR)), ((rR 0), .inl (cy 1, 500, .inl R_text))] sz) := by
  refine ofWi (by decide) (Nat.le_of_ble_eq_true rfl) ?_
  intro p e s m args below meth c ls A R QQ hx hb hml hown hts hR hlk hE hK hP hD hS hA hl hret
  have hown : s.vm.findClass RX9 = some m.cls := hown
  have hRf : 5 ≤ R.frames := by rw [hR]; exact Nat.le_refl _
  have hRl : 222 ≤ R.locals := by rw [hR]; exact Nat.le_refl _
  clear hR
  have hl : lv_has ls 1 [(0, .ref h0)] := hl
  refine lv_aload_n hx hb dX9_directionHere_0 rfl (lv_at hl 0 rfl) ?_
  refine gfX9_9 hx hb hts hown hK hP 0 rfl dX9_directionHere_1 ?_
  refine va_ldcS hx hb hown (hE.1 6 (by decide)).1 dX9_directionHere_4 ?_
  refine clVi (As := [.ref (ev (2 * 6))]) (rest := []) (Wr := [(h0, .inr (9, oX9 rL sL))]) (cq := (RX8, TX8, 10)) ⟨hx, hb, hml, hown, hts⟩ ⟨callB_of 1 hts (goodC mw750) rfl rfl rfl (hts _ (tb mw2)) (hts _ (tb mw747)) kdX8_isWord ⟨Nat.le_trans (by decide) hRf, Nat.le_trans (by decide) hRl⟩, hts _ (tb mw748), hts _ (tb mw749)⟩ (ctX8_isWord l D cy ev (rL 0) rR sR R_text 6  _ _ h) hE hK hP hD hS hA [1, 2] [0] rfl rfl (by decide) (by decide) (by decide) 0 rfl rfl rfl hl.1 rfl (Nat.le_of_ble_eq_true rfl) ⟨Nat.zero_le _, Nat.zero_le _⟩ dX9_directionHere_6 (fun r6 u H locs h hP hD hS => ?_)
  have hP : va_P D clsX [(h0, .inr (9, oX9 rL sL)), ((rL 0), .inr (8, oX8 rR sR)), ((rR 0), .inl (cy 1, 500, .inl R_text))] H := hP
  have hD : va_D A [(h0, .inr (9, oX9 rL sL)), ((rL 0), .inr (8, oX8 rR sR)), ((rR 0), .inl (cy 1, 500, .inl R_text))] := hD
  refine lv_if_eq (tgt := 14) hx hb dX9_directionHere_9 (by decide) (fun c9 => ?_) (fun c9 => ?_)
  · have h := h.1 c9
    refine lv_aload_n hx hb dX9_directionHere_14 rfl (lv_at hl 0 rfl) ?_
    refine gfX9_9 hx hb hts hown hK hP 0 rfl dX9_directionHere_15 ?_
    refine va_ldcS hx hb hown (hE.1 7 (by decide)).1 dX9_directionHere_18 ?_
    refine clVi (As := [.ref (ev (2 * 7))]) (rest := []) (Wr := [(h0, .inr (9, oX9 rL sL))]) (cq := (RX8, TX8, 10)) ⟨hx, hb, hml, hown, hts⟩ ⟨callB_of 1 hts (goodC mw750) rfl rfl rfl (hts _ (tb mw2)) (hts _ (tb mw747)) kdX8_isWord ⟨Nat.le_trans (by decide) hRf, Nat.le_trans (by decide) hRl⟩, hts _ (tb mw748), hts _ (tb mw749)⟩ (ctX8_isWord l D cy ev (rL 0) rR sR R_text 7  _ _ h) hE hK hP hD hS hA [1, 2] [0] rfl rfl (by decide) (by decide) (by decide) 0 rfl rfl rfl hl.1 rfl (Nat.le_of_ble_eq_true rfl) ⟨Nat.zero_le _, Nat.zero_le _⟩ dX9_directionHere_20 (fun r20 u H locs h hP hD hS => ?_)
    have hP : va_P D clsX [(h0, .inr (9, oX9 rL sL)), ((rL 0), .inr (8, oX8 rR sR)), ((rR 0), .inl (cy 1, 500, .inl R_text))] H := hP
    have hD : va_D A [(h0, .inr (9, oX9 rL sL)), ((rL 0), .inr (8, oX8 rR sR)), ((rR 0), .inl (cy 1, 500, .inl R_text))] := hD
    refine lv_if_eq (tgt := 28) hx hb dX9_directionHere_23 (by decide) (fun c23 => ?_) (fun c23 => ?_)
    · have h := h.1 c23
      refine lv_aload_n hx hb dX9_directionHere_28 rfl (lv_at hl 0 rfl) ?_
      refine gfX9_9 hx hb hts hown hK hP 0 rfl dX9_directionHere_29 ?_
      refine va_ldcS hx hb hown (hE.1 8 (by decide)).1 dX9_directionHere_32 ?_
      refine clVi (As := [.ref (ev (2 * 8))]) (rest := []) (Wr := [(h0, .inr (9, oX9 rL sL))]) (cq := (RX8, TX8, 10)) ⟨hx, hb, hml, hown, hts⟩ ⟨callB_of 1 hts (goodC mw750) rfl rfl rfl (hts _ (tb mw2)) (hts _ (tb mw747)) kdX8_isWord ⟨Nat.le_trans (by decide) hRf, Nat.le_trans (by decide) hRl⟩, hts _ (tb mw748), hts _ (tb mw749)⟩ (ctX8_isWord l D cy ev (rL 0) rR sR R_text 8  _ _ h) hE hK hP hD hS hA [1, 2] [0] rfl rfl (by decide) (by decide) (by decide) 0 rfl rfl rfl hl.1 rfl (Nat.le_of_ble_eq_true rfl) ⟨Nat.zero_le _, Nat.zero_le _⟩ dX9_directionHere_34 (fun r34 u H locs h hP hD hS => ?_)
      have hP : va_P D clsX [(h0, .inr (9, oX9 rL sL)), ((rL 0), .inr (8, oX8 rR sR)), ((rR 0), .inl (cy 1, 500, .inl R_text))] H := hP
      have hD : va_D A [(h0, .inr (9, oX9 rL sL)), ((rL 0), .inr (8, oX8 rR sR)), ((rR 0), .inl (cy 1, 500, .inl R_text))] := hD
      refine lv_if_eq (tgt := 42) hx hb dX9_directionHere_37 (by decide) (fun c37 => ?_) (fun c37 => ?_)
      · have h := h.1 c37
        refine lv_aload_n hx hb dX9_directionHere_42 rfl (lv_at hl 0 rfl) ?_
        refine gfX9_9 hx hb hts hown hK hP 0 rfl dX9_directionHere_43 ?_
        refine va_ldcS hx hb hown (hE.1 9 (by decide)).1 dX9_directionHere_46 ?_
        refine clVi (As := [.ref (ev (2 * 9))]) (rest := []) (Wr := [(h0, .inr (9, oX9 rL sL))]) (cq := (RX8, TX8, 10)) ⟨hx, hb, hml, hown, hts⟩ ⟨callB_of 1 hts (goodC mw750) rfl rfl rfl (hts _ (tb mw2)) (hts _ (tb mw747)) kdX8_isWord ⟨Nat.le_trans (by decide) hRf, Nat.le_trans (by decide) hRl⟩, hts _ (tb mw748), hts _ (tb mw749)⟩ (ctX8_isWord l D cy ev (rL 0) rR sR R_text 9  _ _ h) hE hK hP hD hS hA [1, 2] [0] rfl rfl (by decide) (by decide) (by decide) 0 rfl rfl rfl hl.1 rfl (Nat.le_of_ble_eq_true rfl) ⟨Nat.zero_le _, Nat.zero_le _⟩ dX9_directionHere_48 (fun r48 u H locs h hP hD hS => ?_)
        have hP : va_P D clsX [(h0, .inr (9, oX9 rL sL)), ((rL 0), .inr (8, oX8 rR sR)), ((rR 0), .inl (cy 1, 500, .inl R_text))] H := hP
        have hD : va_D A [(h0, .inr (9, oX9 rL sL)), ((rL 0), .inr (8, oX8 rR sR)), ((rR 0), .inl (cy 1, 500, .inl R_text))] := hD
        refine lv_if_eq (tgt := 58) hx hb dX9_directionHere_51 (by decide) (fun c51 => ?_) (fun c51 => ?_)
        · have h := h.1 c51
          refine lv_iconst (v := (-1 : Int32)) hx hb dX9_directionHere_58 (by decide) ?_
          exact hret (-1 : Int32) () _ _ _ _ rfl dX9_directionHere_59 h hP hD hS
        · have h := h.2 c51
          refine lv_iconst (v := (3 : Int32)) hx hb dX9_directionHere_54 (by decide) ?_
          refine lv_goto (tgt := 59) hx hb dX9_directionHere_55 (by decide) ?_
          exact hret (3 : Int32) () _ _ _ _ rfl dX9_directionHere_59 h hP hD hS
      · have h := h.2 c37
        refine lv_iconst (v := (2 : Int32)) hx hb dX9_directionHere_40 (by decide) ?_
        exact hret (2 : Int32) () _ _ _ _ rfl dX9_directionHere_41 h hP hD hS
    · have h := h.2 c23
      refine lv_iconst (v := (1 : Int32)) hx hb dX9_directionHere_26 (by decide) ?_
      exact hret (1 : Int32) () _ _ _ _ rfl dX9_directionHere_27 h hP hD hS
  · have h := h.2 c9
    refine lv_iconst (v := (0 : Int32)) hx hb dX9_directionHere_12 (by decide) ?_
    exact hret (0 : Int32) () _ _ _ _ rfl dX9_directionHere_13 h hP hD hS
def wpX9_tellWind (sL : AR) (sR : AR) (sG : AR) (R_text : AR) (post : Int32 → AR → AR → AR → Prop) : Prop := (((sL 2) = 0 → wpX8_advance sR R_text (fun sR_25 => wpX9_directionHere sR_25 R_text (fun r29 => ((¬ r29 = (-1 : Int32) → wpX8_advance sR_25 R_text (fun sR_51 => wpX8_number sR_51 R_text (0 : Int32) (3 : Int32) (fun r60 sR_60 => ((¬ r60 = (-1 : Int32) → post (1 : Int32) (upd sL 2 (1 : Int32)) sR_60 (upd (upd sG 4 r29) 5 r60)) ∧ (r60 = (-1 : Int32) → post (0 : Int32) (upd sL 2 (1 : Int32)) sR_60 sG))))) ∧ (r29 = (-1 : Int32) → wpX8_refuse sR_25 (1 : Int32) (fun r43 sR_43 => narrow .boolean (.int r43) = .int r43 ∧ post r43 (upd sL 2 (1 : Int32)) sR_43 sG)))))) ∧ (¬ (sL 2) = 0 → wpX8_refuse sR (4 : Int32) (fun r12 sR_12 => narrow .boolean (.int r12) = .int r12 ∧ post r12 sL sR_12 sG)))
set_option maxHeartbeats 4000000 in
set_option maxRecDepth 100000 in
theorem ctX9_tellWind (l : Launch) (D : va_G) (cy : Nat → ClassId) (ev : Nat → Nat) (h0 : Nat) (rL : Nat → Nat) (rR : Nat → Nat) (rG : Nat → Nat) (sL : AR) (sR : AR) (sG : AR) (R_text : AR) (sz : Nat) (post : Int32 → AR → AR → AR → Prop) (h : wpX9_tellWind sL sR sG R_text post) : Met l yX9_tellWind (Cond.code yX9_tellWind cX9_tellWind 3 (some .boolean) :: TB) ({ frames := 6, cells := 0, slots := 0, locals := 242 }) (va_Pc [.ref h0] (PreX D cy ev [(h0, .inr (9, oX9 rL sL)), ((rL 0), .inr (8, oX8 rR sR)), ((rL 1), .inr (4, oX4 rG sG)), ((rR 0), .inl (cy 1, 500, .inl R_text))] sz)) (va_Qi (fun (r : Int32) (u : AR × AR × AR) => post r (u.1) (u.2.1) (u.2.2)) (fun u => BkX D cy [(h0, .inr (9, oX9 rL sL)), ((rL 0), .inr (8, oX8 rR sR)), ((rL 1), .inr (4, oX4 rG sG)), ((rR 0), .inl (cy 1, 500, .inl R_text))] sz [(h0, .inr (9, oX9 rL (u.1))), ((rL 0), .inr (8, oX8 rR (u.2.1))), ((rL 1), .inr (4, oX4 rG (u.2.2))), ((rR 0), .inl (cy 1, 500, .inl R_text))]) (va_A [(h0, .inr (9, oX9 rL sL)), ((rL 0), .inr (8, oX8 rR sR)), ((rL 1), .inr (4, oX4 rG sG)), ((rR 0), .inl (cy 1, 500, .inl R_text))] sz)) 0 0 (va_A [(h0, .inr (9, oX9 rL sL)), ((rL 0), .inr (8, oX8 rR sR)), ((rL 1), .inr (4, oX4 rG sG)), ((rR 0), .inl (cy 1, 500, .inl R_text))] sz) := by
  refine ofWi (by decide) (Nat.le_of_ble_eq_true rfl) ?_
  intro p e s m args below meth c ls A R QQ hx hb hml hown hts hR hlk hE hK hP hD hS hA hl hret
  have hown : s.vm.findClass RX9 = some m.cls := hown
  have hRf : 6 ≤ R.frames := by rw [hR]; exact Nat.le_refl _
  have hRl : 242 ≤ R.locals := by rw [hR]; exact Nat.le_refl _
  clear hR
  have hl : lv_has ls 3 [(0, .ref h0)] := hl
  refine lv_aload_n hx hb dX9_tellWind_0 rfl (lv_at hl 0 rfl) ?_
  refine gfX9_24 (v := (sL 2)) hx hb hts hown hK hP 0 rfl rfl dX9_tellWind_1 ?_
  refine lv_if_eq (tgt := 16) hx hb dX9_tellWind_4 (by decide) (fun c4 => ?_) (fun c4 => ?_)
  · have h := h.1 c4
    refine lv_aload_n hx hb dX9_tellWind_16 rfl (lv_at hl 0 rfl) ?_
    refine lv_iconst (v := (1 : Int32)) hx hb dX9_tellWind_17 (by decide) ?_
    refine pfX9_24 hx hb hts hown hK hP hD hS 0 rfl rfl dX9_tellWind_18 (fun H locs hP hD hS => ?_)
    have hP : va_P D clsX [(h0, .inr (9, oX9 rL (upd sL 2 (1 : Int32)))), ((rL 0), .inr (8, oX8 rR sR)), ((rL 1), .inr (4, oX4 rG sG)), ((rR 0), .inl (cy 1, 500, .inl R_text))] H := hP
    have hD : va_D A [(h0, .inr (9, oX9 rL (upd sL 2 (1 : Int32)))), ((rL 0), .inr (8, oX8 rR sR)), ((rL 1), .inr (4, oX4 rG sG)), ((rR 0), .inl (cy 1, 500, .inl R_text))] := hD
    refine lv_aload_n hx hb dX9_tellWind_21 rfl (lv_at hl 0 rfl) ?_
    refine gfX9_9 hx hb hts hown hK hP 0 rfl dX9_tellWind_22 ?_
    refine clVv (As := []) (rest := []) (Wr := [(h0, .inr (9, oX9 rL (upd sL 2 (1 : Int32)))), ((rL 1), .inr (4, oX4 rG sG))]) (cq := (RX8, TX8, 10)) ⟨hx, hb, hml, hown, hts⟩ ⟨callB_of 0 hts (goodC mw736) rfl rfl rfl (hts _ (tb mw2)) (hts _ (tb mw803)) kdX8_advance ⟨Nat.le_trans (by decide) hRf, Nat.le_trans (by decide) hRl⟩, hts _ (tb mw734), hts _ (tb mw735)⟩ (ctX8_advance l D cy ev (rL 0) rR sR R_text  _ _ h) hE hK hP hD hS hA [1, 3] [0, 2] rfl rfl (by decide) (by decide) (by decide) 0 rfl rfl rfl hl.1 rfl (Nat.le_of_ble_eq_true rfl) ⟨Nat.zero_le _, Nat.zero_le _⟩ dX9_tellWind_25 (fun sR_25 H locs h hP hD hS => ?_)
    have hP : va_P D clsX [(h0, .inr (9, oX9 rL (upd sL 2 (1 : Int32)))), ((rL 1), .inr (4, oX4 rG sG)), ((rL 0), .inr (8, oX8 rR sR_25)), ((rR 0), .inl (cy 1, 500, .inl R_text))] H := hP
    have hD : va_D A [(h0, .inr (9, oX9 rL (upd sL 2 (1 : Int32)))), ((rL 1), .inr (4, oX4 rG sG)), ((rL 0), .inr (8, oX8 rR sR_25)), ((rR 0), .inl (cy 1, 500, .inl R_text))] := hD
    refine lv_aload_n hx hb dX9_tellWind_28 rfl (lv_at hl 0 rfl) ?_
    refine clVi (As := []) (rest := []) (Wr := [((rL 1), .inr (4, oX4 rG sG))]) (cq := (RX9, TX9, 4)) ⟨hx, hb, hml, hown, hts⟩ ⟨callB_of 0 hts (goodC mw844) rfl rfl rfl (hts _ (tb mw6)) (hts _ (tb mw841)) kdX9_directionHere ⟨Nat.le_trans (by decide) hRf, Nat.le_trans (by decide) hRl⟩, hts _ (tb mw843), hts _ (tb ms18)⟩ (ctX9_directionHere l D cy ev h0 rL rR (upd sL 2 (1 : Int32)) sR_25 R_text  _ _ h) hE hK hP hD hS hA [0, 2, 3] [1] rfl rfl (by decide) (by decide) (by decide) 0 rfl rfl rfl hl.1 rfl (Nat.le_of_ble_eq_true rfl) ⟨Nat.zero_le _, Nat.zero_le _⟩ dX9_tellWind_29 (fun r29 u H locs h hP hD hS => ?_)
    have hP : va_P D clsX [((rL 1), .inr (4, oX4 rG sG)), (h0, .inr (9, oX9 rL (upd sL 2 (1 : Int32)))), ((rL 0), .inr (8, oX8 rR sR_25)), ((rR 0), .inl (cy 1, 500, .inl R_text))] H := hP
    have hD : va_D A [((rL 1), .inr (4, oX4 rG sG)), (h0, .inr (9, oX9 rL (upd sL 2 (1 : Int32)))), ((rL 0), .inr (8, oX8 rR sR_25)), ((rR 0), .inl (cy 1, 500, .inl R_text))] := hD
    refine lv_istore_n (lv' := [(1, .int r29), (0, .ref h0)]) hx hb dX9_tellWind_32 rfl hl (by decide) rfl (fun ls hl => ?_)
    refine lv_iload_n hx hb dX9_tellWind_33 rfl (lv_at hl 0 rfl) ?_
    refine lv_iconst (v := (-1 : Int32)) hx hb dX9_tellWind_34 (by decide) ?_
    refine lv_icmp_ne (tgt := 47) hx hb dX9_tellWind_35 (by decide) (fun c35 => ?_) (fun c35 => ?_)
    · have h := h.1 c35
      refine lv_aload_n hx hb dX9_tellWind_47 rfl (lv_at hl 1 rfl) ?_
      refine gfX9_9 hx hb hts hown hK hP 1 rfl dX9_tellWind_48 ?_
      refine clVv (As := []) (rest := []) (Wr := [((rL 1), .inr (4, oX4 rG sG)), (h0, .inr (9, oX9 rL (upd sL 2 (1 : Int32))))]) (cq := (RX8, TX8, 10)) ⟨hx, hb, hml, hown, hts⟩ ⟨callB_of 0 hts (goodC mw736) rfl rfl rfl (hts _ (tb mw2)) (hts _ (tb mw803)) kdX8_advance ⟨Nat.le_trans (by decide) hRf, Nat.le_trans (by decide) hRl⟩, hts _ (tb mw734), hts _ (tb mw735)⟩ (ctX8_advance l D cy ev (rL 0) rR sR_25 R_text  _ _ h) hE hK hP hD hS hA [2, 3] [0, 1] rfl rfl (by decide) (by decide) (by decide) 0 rfl rfl rfl hl.1 rfl (Nat.le_of_ble_eq_true rfl) ⟨Nat.zero_le _, Nat.zero_le _⟩ dX9_tellWind_51 (fun sR_51 H locs h hP hD hS => ?_)
      have hP : va_P D clsX [((rL 1), .inr (4, oX4 rG sG)), (h0, .inr (9, oX9 rL (upd sL 2 (1 : Int32)))), ((rL 0), .inr (8, oX8 rR sR_51)), ((rR 0), .inl (cy 1, 500, .inl R_text))] H := hP
      have hD : va_D A [((rL 1), .inr (4, oX4 rG sG)), (h0, .inr (9, oX9 rL (upd sL 2 (1 : Int32)))), ((rL 0), .inr (8, oX8 rR sR_51)), ((rR 0), .inl (cy 1, 500, .inl R_text))] := hD
      refine lv_aload_n hx hb dX9_tellWind_54 rfl (lv_at hl 1 rfl) ?_
      refine gfX9_9 hx hb hts hown hK hP 1 rfl dX9_tellWind_55 ?_
      refine lv_iconst (v := (0 : Int32)) hx hb dX9_tellWind_58 (by decide) ?_
      refine lv_iconst (v := (3 : Int32)) hx hb dX9_tellWind_59 (by decide) ?_
      refine clVi (As := [.int (0 : Int32), .int (3 : Int32)]) (rest := []) (Wr := [((rL 1), .inr (4, oX4 rG sG)), (h0, .inr (9, oX9 rL (upd sL 2 (1 : Int32))))]) (cq := (RX8, TX8, 10)) ⟨hx, hb, hml, hown, hts⟩ ⟨callB_of 2 hts (goodC mw807) rfl rfl rfl (hts _ (tb mw2)) (hts _ (tb mw804)) kdX8_number ⟨Nat.le_trans (by decide) hRf, Nat.le_trans (by decide) hRl⟩, hts _ (tb mw805), hts _ (tb mw806)⟩ (ctX8_number l D cy ev (rL 0) rR sR_51 R_text (0 : Int32) (3 : Int32) _ _ h) hE hK hP hD hS hA [2, 3] [0, 1] rfl rfl (by decide) (by decide) (by decide) 0 rfl rfl rfl hl.1 rfl (Nat.le_of_ble_eq_true rfl) ⟨Nat.zero_le _, Nat.zero_le _⟩ dX9_tellWind_60 (fun r60 sR_60 H locs h hP hD hS => ?_)
      have hP : va_P D clsX [((rL 1), .inr (4, oX4 rG sG)), (h0, .inr (9, oX9 rL (upd sL 2 (1 : Int32)))), ((rL 0), .inr (8, oX8 rR sR_60)), ((rR 0), .inl (cy 1, 500, .inl R_text))] H := hP
      have hD : va_D A [((rL 1), .inr (4, oX4 rG sG)), (h0, .inr (9, oX9 rL (upd sL 2 (1 : Int32)))), ((rL 0), .inr (8, oX8 rR sR_60)), ((rR 0), .inl (cy 1, 500, .inl R_text))] := hD
      refine lv_istore_n (lv' := [(2, .int r60), (1, .int r29), (0, .ref h0)]) hx hb dX9_tellWind_63 rfl hl (by decide) rfl (fun ls hl => ?_)
      refine lv_iload_n hx hb dX9_tellWind_64 rfl (lv_at hl 0 rfl) ?_
      refine lv_iconst (v := (-1 : Int32)) hx hb dX9_tellWind_65 (by decide) ?_
      refine lv_icmp_ne (tgt := 71) hx hb dX9_tellWind_66 (by decide) (fun c66 => ?_) (fun c66 => ?_)
      · have h := h.1 c66
        refine lv_aload_n hx hb dX9_tellWind_71 rfl (lv_at hl 2 rfl) ?_
        refine gfX9_15 hx hb hts hown hK hP 1 rfl dX9_tellWind_72 ?_
        refine lv_iload_n hx hb dX9_tellWind_75 rfl (lv_at hl 1 rfl) ?_
        refine pfX9_160 hx hb hts hown hK hP hD hS 0 rfl dX9_tellWind_76 (fun H locs hP hD hS => ?_)
        have hP : va_P D clsX [((rL 1), .inr (4, oX4 rG (upd sG 4 r29))), (h0, .inr (9, oX9 rL (upd sL 2 (1 : Int32)))), ((rL 0), .inr (8, oX8 rR sR_60)), ((rR 0), .inl (cy 1, 500, .inl R_text))] H := hP
        have hD : va_D A [((rL 1), .inr (4, oX4 rG (upd sG 4 r29))), (h0, .inr (9, oX9 rL (upd sL 2 (1 : Int32)))), ((rL 0), .inr (8, oX8 rR sR_60)), ((rR 0), .inl (cy 1, 500, .inl R_text))] := hD
        refine lv_aload_n hx hb dX9_tellWind_79 rfl (lv_at hl 2 rfl) ?_
        refine gfX9_15 hx hb hts hown hK hP 1 rfl dX9_tellWind_80 ?_
        refine lv_iload_n hx hb dX9_tellWind_83 rfl (lv_at hl 0 rfl) ?_
        refine pfX9_162 hx hb hts hown hK hP hD hS 0 rfl dX9_tellWind_84 (fun H locs hP hD hS => ?_)
        have hP : va_P D clsX [((rL 1), .inr (4, oX4 rG (upd (upd sG 4 r29) 5 r60))), (h0, .inr (9, oX9 rL (upd sL 2 (1 : Int32)))), ((rL 0), .inr (8, oX8 rR sR_60)), ((rR 0), .inl (cy 1, 500, .inl R_text))] H := hP
        have hD : va_D A [((rL 1), .inr (4, oX4 rG (upd (upd sG 4 r29) 5 r60))), (h0, .inr (9, oX9 rL (upd sL 2 (1 : Int32)))), ((rL 0), .inr (8, oX8 rR sR_60)), ((rR 0), .inl (cy 1, 500, .inl R_text))] := hD
        refine lv_iconst (v := (1 : Int32)) hx hb dX9_tellWind_87 (by decide) ?_
        exact hret (1 : Int32) ((upd sL 2 (1 : Int32)), sR_60, (upd (upd sG 4 r29) 5 r60)) _ _ _ _ rfl dX9_tellWind_88 h (hP.sub [1, 2, 0, 3] rfl) (hD.sub [1, 2, 0, 3] (by decide) rfl) hS
      · have h := h.2 c66
        refine lv_iconst (v := (0 : Int32)) hx hb dX9_tellWind_69 (by decide) ?_
        exact hret (0 : Int32) ((upd sL 2 (1 : Int32)), sR_60, sG) _ _ _ _ rfl dX9_tellWind_70 h (hP.sub [1, 2, 0, 3] rfl) (hD.sub [1, 2, 0, 3] (by decide) rfl) hS
    · have h := h.2 c35
      refine lv_aload_n hx hb dX9_tellWind_38 rfl (lv_at hl 1 rfl) ?_
      refine gfX9_9 hx hb hts hown hK hP 1 rfl dX9_tellWind_39 ?_
      refine lv_iconst (v := (1 : Int32)) hx hb dX9_tellWind_42 (by decide) ?_
      refine clVi (As := [.int (1 : Int32)]) (rest := []) (Wr := [((rL 1), .inr (4, oX4 rG sG)), (h0, .inr (9, oX9 rL (upd sL 2 (1 : Int32)))), ((rR 0), .inl (cy 1, 500, .inl R_text))]) (cq := (RX8, TX8, 10)) ⟨hx, hb, hml, hown, hts⟩ ⟨callB_of 1 hts (goodC mw811) rfl rfl rfl (hts _ (tb mw2)) (hts _ (tb mw812)) kdX8_refuse ⟨Nat.le_trans (by decide) hRf, Nat.le_trans (by decide) hRl⟩, hts _ (tb mw809), hts _ (tb mw810)⟩ (ctX8_refuse l D cy ev (rL 0) rR sR_25 (1 : Int32) _ _ h) hE hK hP hD hS hA [2] [0, 1, 3] rfl rfl (by decide) (by decide) (by decide) 0 rfl rfl rfl hl.1 rfl (Nat.le_of_ble_eq_true rfl) ⟨Nat.zero_le _, Nat.zero_le _⟩ dX9_tellWind_43 (fun r43 sR_43 H locs h hP hD hS => ?_)
      have hP : va_P D clsX [((rL 1), .inr (4, oX4 rG sG)), (h0, .inr (9, oX9 rL (upd sL 2 (1 : Int32)))), ((rR 0), .inl (cy 1, 500, .inl R_text)), ((rL 0), .inr (8, oX8 rR sR_43))] H := hP
      have hD : va_D A [((rL 1), .inr (4, oX4 rG sG)), (h0, .inr (9, oX9 rL (upd sL 2 (1 : Int32)))), ((rR 0), .inl (cy 1, 500, .inl R_text)), ((rL 0), .inr (8, oX8 rR sR_43))] := hD
      obtain ⟨hz, h⟩ := h
      exact hret r43 ((upd sL 2 (1 : Int32)), sR_43, sG) _ _ _ _ hz dX9_tellWind_46 h (hP.sub [1, 3, 0, 2] rfl) (hD.sub [1, 3, 0, 2] (by decide) rfl) hS
  · have h := h.2 c4
    refine lv_aload_n hx hb dX9_tellWind_7 rfl (lv_at hl 0 rfl) ?_
    refine gfX9_9 hx hb hts hown hK hP 0 rfl dX9_tellWind_8 ?_
    refine lv_iconst (v := (4 : Int32)) hx hb dX9_tellWind_11 (by decide) ?_
    refine clVi (As := [.int (4 : Int32)]) (rest := []) (Wr := [(h0, .inr (9, oX9 rL sL)), ((rL 1), .inr (4, oX4 rG sG)), ((rR 0), .inl (cy 1, 500, .inl R_text))]) (cq := (RX8, TX8, 10)) ⟨hx, hb, hml, hown, hts⟩ ⟨callB_of 1 hts (goodC mw811) rfl rfl rfl (hts _ (tb mw2)) (hts _ (tb mw812)) kdX8_refuse ⟨Nat.le_trans (by decide) hRf, Nat.le_trans (by decide) hRl⟩, hts _ (tb mw809), hts _ (tb mw810)⟩ (ctX8_refuse l D cy ev (rL 0) rR sR (4 : Int32) _ _ h) hE hK hP hD hS hA [1] [0, 2, 3] rfl rfl (by decide) (by decide) (by decide) 0 rfl rfl rfl hl.1 rfl (Nat.le_of_ble_eq_true rfl) ⟨Nat.zero_le _, Nat.zero_le _⟩ dX9_tellWind_12 (fun r12 sR_12 H locs h hP hD hS => ?_)
    have hP : va_P D clsX [(h0, .inr (9, oX9 rL sL)), ((rL 1), .inr (4, oX4 rG sG)), ((rR 0), .inl (cy 1, 500, .inl R_text)), ((rL 0), .inr (8, oX8 rR sR_12))] H := hP
    have hD : va_D A [(h0, .inr (9, oX9 rL sL)), ((rL 1), .inr (4, oX4 rG sG)), ((rR 0), .inl (cy 1, 500, .inl R_text)), ((rL 0), .inr (8, oX8 rR sR_12))] := hD
    obtain ⟨hz, h⟩ := h
    exact hret r12 (sL, sR_12, sG) _ _ _ _ hz dX9_tellWind_15 h (hP.sub [0, 3, 1, 2] rfl) (hD.sub [0, 3, 1, 2] (by decide) rfl) hS
def wpX9_kindHere (sR : AR) (R_text : AR) (post : Int32 → Prop) : Prop := wpX8_isWord sR R_text 12 (fun r6 => ((r6 = 0 → wpX8_isWord sR R_text 13 (fun r20 => ((r20 = 0 → wpX8_isWord sR R_text 14 (fun r34 => ((r34 = 0 → wpX8_isWord sR R_text 15 (fun r48 => ((r48 = 0 → wpX8_isWord sR R_text 16 (fun r62 => ((r62 = 0 → post (-1 : Int32)) ∧ (¬ r62 = 0 → post (4 : Int32))))) ∧ (¬ r48 = 0 → post (3 : Int32))))) ∧ (¬ r34 = 0 → post (2 : Int32))))) ∧ (¬ r20 = 0 → post (1 : Int32))))) ∧ (¬ r6 = 0 → post (0 : Int32))))
set_option maxHeartbeats 4000000 in
set_option maxRecDepth 100000 in
theorem ctX9_kindHere (l : Launch) (D : va_G) (cy : Nat → ClassId) (ev : Nat → Nat) (h0 : Nat) (rL : Nat → Nat) (rR : Nat → Nat) (sL : AR) (sR : AR) (R_text : AR) (sz : Nat) (post : Int32 → Prop) (h : wpX9_kindHere sR R_text post) : Met l yX9_kindHere (Cond.code yX9_kindHere cX9_kindHere 1 (some .int) :: TB) ({ frames := 5, cells := 0, slots := 0, locals := 222 }) (va_Pc [.ref h0] (PreX D cy ev [(h0, .inr (9, oX9 rL sL)), ((rL 0), .inr (8, oX8 rR sR)), ((rR 0), .inl (cy 1, 500, .inl R_text))] sz)) (va_Qi (fun (r : Int32) (u : Unit) => post r) (fun u => BkX D cy [(h0, .inr (9, oX9 rL sL)), ((rL 0), .inr (8, oX8 rR sR)), ((rR 0), .inl (cy 1, 500, .inl R_text))] sz [(h0, .inr (9, oX9 rL sL)), ((rL 0), .inr (8, oX8 rR sR)), ((rR 0), .inl (cy 1, 500, .inl R_text))]) (va_A [(h0, .inr (9, oX9 rL sL)), ((rL 0), .inr (8, oX8 rR sR)), ((rR 0), .inl (cy 1, 500, .inl R_text))] sz)) 0 0 (va_A [(h0, .inr (9, oX9 rL sL)), ((rL 0), .inr (8, oX8 rR sR)), ((rR 0), .inl (cy 1, 500, .inl R_text))] sz) := by
  refine ofWi (by decide) (Nat.le_of_ble_eq_true rfl) ?_
  intro p e s m args below meth c ls A R QQ hx hb hml hown hts hR hlk hE hK hP hD hS hA hl hret
  have hown : s.vm.findClass RX9 = some m.cls := hown
  have hRf : 5 ≤ R.frames := by rw [hR]; exact Nat.le_refl _
  have hRl : 222 ≤ R.locals := by rw [hR]; exact Nat.le_refl _
  clear hR
  have hl : lv_has ls 1 [(0, .ref h0)] := hl
  refine lv_aload_n hx hb dX9_kindHere_0 rfl (lv_at hl 0 rfl) ?_
  refine gfX9_9 hx hb hts hown hK hP 0 rfl dX9_kindHere_1 ?_
  refine va_ldcS hx hb hown (hE.1 12 (by decide)).1 dX9_kindHere_4 ?_
  refine clVi (As := [.ref (ev (2 * 12))]) (rest := []) (Wr := [(h0, .inr (9, oX9 rL sL))]) (cq := (RX8, TX8, 10)) ⟨hx, hb, hml, hown, hts⟩ ⟨callB_of 1 hts (goodC mw750) rfl rfl rfl (hts _ (tb mw2)) (hts _ (tb mw747)) kdX8_isWord ⟨Nat.le_trans (by decide) hRf, Nat.le_trans (by decide) hRl⟩, hts _ (tb mw748), hts _ (tb mw749)⟩ (ctX8_isWord l D cy ev (rL 0) rR sR R_text 12  _ _ h) hE hK hP hD hS hA [1, 2] [0] rfl rfl (by decide) (by decide) (by decide) 0 rfl rfl rfl hl.1 rfl (Nat.le_of_ble_eq_true rfl) ⟨Nat.zero_le _, Nat.zero_le _⟩ dX9_kindHere_6 (fun r6 u H locs h hP hD hS => ?_)
  have hP : va_P D clsX [(h0, .inr (9, oX9 rL sL)), ((rL 0), .inr (8, oX8 rR sR)), ((rR 0), .inl (cy 1, 500, .inl R_text))] H := hP
  have hD : va_D A [(h0, .inr (9, oX9 rL sL)), ((rL 0), .inr (8, oX8 rR sR)), ((rR 0), .inl (cy 1, 500, .inl R_text))] := hD
  refine lv_if_eq (tgt := 14) hx hb dX9_kindHere_9 (by decide) (fun c9 => ?_) (fun c9 => ?_)
  · have h := h.1 c9
    refine lv_aload_n hx hb dX9_kindHere_14 rfl (lv_at hl 0 rfl) ?_
    refine gfX9_9 hx hb hts hown hK hP 0 rfl dX9_kindHere_15 ?_
    refine va_ldcS hx hb hown (hE.1 13 (by decide)).1 dX9_kindHere_18 ?_
    refine clVi (As := [.ref (ev (2 * 13))]) (rest := []) (Wr := [(h0, .inr (9, oX9 rL sL))]) (cq := (RX8, TX8, 10)) ⟨hx, hb, hml, hown, hts⟩ ⟨callB_of 1 hts (goodC mw750) rfl rfl rfl (hts _ (tb mw2)) (hts _ (tb mw747)) kdX8_isWord ⟨Nat.le_trans (by decide) hRf, Nat.le_trans (by decide) hRl⟩, hts _ (tb mw748), hts _ (tb mw749)⟩ (ctX8_isWord l D cy ev (rL 0) rR sR R_text 13  _ _ h) hE hK hP hD hS hA [1, 2] [0] rfl rfl (by decide) (by decide) (by decide) 0 rfl rfl rfl hl.1 rfl (Nat.le_of_ble_eq_true rfl) ⟨Nat.zero_le _, Nat.zero_le _⟩ dX9_kindHere_20 (fun r20 u H locs h hP hD hS => ?_)
    have hP : va_P D clsX [(h0, .inr (9, oX9 rL sL)), ((rL 0), .inr (8, oX8 rR sR)), ((rR 0), .inl (cy 1, 500, .inl R_text))] H := hP
    have hD : va_D A [(h0, .inr (9, oX9 rL sL)), ((rL 0), .inr (8, oX8 rR sR)), ((rR 0), .inl (cy 1, 500, .inl R_text))] := hD
    refine lv_if_eq (tgt := 28) hx hb dX9_kindHere_23 (by decide) (fun c23 => ?_) (fun c23 => ?_)
    · have h := h.1 c23
      refine lv_aload_n hx hb dX9_kindHere_28 rfl (lv_at hl 0 rfl) ?_
      refine gfX9_9 hx hb hts hown hK hP 0 rfl dX9_kindHere_29 ?_
      refine va_ldcS hx hb hown (hE.1 14 (by decide)).1 dX9_kindHere_32 ?_
      refine clVi (As := [.ref (ev (2 * 14))]) (rest := []) (Wr := [(h0, .inr (9, oX9 rL sL))]) (cq := (RX8, TX8, 10)) ⟨hx, hb, hml, hown, hts⟩ ⟨callB_of 1 hts (goodC mw750) rfl rfl rfl (hts _ (tb mw2)) (hts _ (tb mw747)) kdX8_isWord ⟨Nat.le_trans (by decide) hRf, Nat.le_trans (by decide) hRl⟩, hts _ (tb mw748), hts _ (tb mw749)⟩ (ctX8_isWord l D cy ev (rL 0) rR sR R_text 14  _ _ h) hE hK hP hD hS hA [1, 2] [0] rfl rfl (by decide) (by decide) (by decide) 0 rfl rfl rfl hl.1 rfl (Nat.le_of_ble_eq_true rfl) ⟨Nat.zero_le _, Nat.zero_le _⟩ dX9_kindHere_34 (fun r34 u H locs h hP hD hS => ?_)
      have hP : va_P D clsX [(h0, .inr (9, oX9 rL sL)), ((rL 0), .inr (8, oX8 rR sR)), ((rR 0), .inl (cy 1, 500, .inl R_text))] H := hP
      have hD : va_D A [(h0, .inr (9, oX9 rL sL)), ((rL 0), .inr (8, oX8 rR sR)), ((rR 0), .inl (cy 1, 500, .inl R_text))] := hD
      refine lv_if_eq (tgt := 42) hx hb dX9_kindHere_37 (by decide) (fun c37 => ?_) (fun c37 => ?_)
      · have h := h.1 c37
        refine lv_aload_n hx hb dX9_kindHere_42 rfl (lv_at hl 0 rfl) ?_
        refine gfX9_9 hx hb hts hown hK hP 0 rfl dX9_kindHere_43 ?_
        refine va_ldcS hx hb hown (hE.1 15 (by decide)).1 dX9_kindHere_46 ?_
        refine clVi (As := [.ref (ev (2 * 15))]) (rest := []) (Wr := [(h0, .inr (9, oX9 rL sL))]) (cq := (RX8, TX8, 10)) ⟨hx, hb, hml, hown, hts⟩ ⟨callB_of 1 hts (goodC mw750) rfl rfl rfl (hts _ (tb mw2)) (hts _ (tb mw747)) kdX8_isWord ⟨Nat.le_trans (by decide) hRf, Nat.le_trans (by decide) hRl⟩, hts _ (tb mw748), hts _ (tb mw749)⟩ (ctX8_isWord l D cy ev (rL 0) rR sR R_text 15  _ _ h) hE hK hP hD hS hA [1, 2] [0] rfl rfl (by decide) (by decide) (by decide) 0 rfl rfl rfl hl.1 rfl (Nat.le_of_ble_eq_true rfl) ⟨Nat.zero_le _, Nat.zero_le _⟩ dX9_kindHere_48 (fun r48 u H locs h hP hD hS => ?_)
        have hP : va_P D clsX [(h0, .inr (9, oX9 rL sL)), ((rL 0), .inr (8, oX8 rR sR)), ((rR 0), .inl (cy 1, 500, .inl R_text))] H := hP
        have hD : va_D A [(h0, .inr (9, oX9 rL sL)), ((rL 0), .inr (8, oX8 rR sR)), ((rR 0), .inl (cy 1, 500, .inl R_text))] := hD
        refine lv_if_eq (tgt := 56) hx hb dX9_kindHere_51 (by decide) (fun c51 => ?_) (fun c51 => ?_)
        · have h := h.1 c51
          refine lv_aload_n hx hb dX9_kindHere_56 rfl (lv_at hl 0 rfl) ?_
          refine gfX9_9 hx hb hts hown hK hP 0 rfl dX9_kindHere_57 ?_
          refine va_ldcS hx hb hown (hE.1 16 (by decide)).1 dX9_kindHere_60 ?_
          refine clVi (As := [.ref (ev (2 * 16))]) (rest := []) (Wr := [(h0, .inr (9, oX9 rL sL))]) (cq := (RX8, TX8, 10)) ⟨hx, hb, hml, hown, hts⟩ ⟨callB_of 1 hts (goodC mw750) rfl rfl rfl (hts _ (tb mw2)) (hts _ (tb mw747)) kdX8_isWord ⟨Nat.le_trans (by decide) hRf, Nat.le_trans (by decide) hRl⟩, hts _ (tb mw748), hts _ (tb mw749)⟩ (ctX8_isWord l D cy ev (rL 0) rR sR R_text 16  _ _ h) hE hK hP hD hS hA [1, 2] [0] rfl rfl (by decide) (by decide) (by decide) 0 rfl rfl rfl hl.1 rfl (Nat.le_of_ble_eq_true rfl) ⟨Nat.zero_le _, Nat.zero_le _⟩ dX9_kindHere_62 (fun r62 u H locs h hP hD hS => ?_)
          have hP : va_P D clsX [(h0, .inr (9, oX9 rL sL)), ((rL 0), .inr (8, oX8 rR sR)), ((rR 0), .inl (cy 1, 500, .inl R_text))] H := hP
          have hD : va_D A [(h0, .inr (9, oX9 rL sL)), ((rL 0), .inr (8, oX8 rR sR)), ((rR 0), .inl (cy 1, 500, .inl R_text))] := hD
          refine lv_if_eq (tgt := 72) hx hb dX9_kindHere_65 (by decide) (fun c65 => ?_) (fun c65 => ?_)
          · have h := h.1 c65
            refine lv_iconst (v := (-1 : Int32)) hx hb dX9_kindHere_72 (by decide) ?_
            exact hret (-1 : Int32) () _ _ _ _ rfl dX9_kindHere_73 h hP hD hS
          · have h := h.2 c65
            refine lv_iconst (v := (4 : Int32)) hx hb dX9_kindHere_68 (by decide) ?_
            refine lv_goto (tgt := 73) hx hb dX9_kindHere_69 (by decide) ?_
            exact hret (4 : Int32) () _ _ _ _ rfl dX9_kindHere_73 h hP hD hS
        · have h := h.2 c51
          refine lv_iconst (v := (3 : Int32)) hx hb dX9_kindHere_54 (by decide) ?_
          exact hret (3 : Int32) () _ _ _ _ rfl dX9_kindHere_55 h hP hD hS
      · have h := h.2 c37
        refine lv_iconst (v := (2 : Int32)) hx hb dX9_kindHere_40 (by decide) ?_
        exact hret (2 : Int32) () _ _ _ _ rfl dX9_kindHere_41 h hP hD hS
    · have h := h.2 c23
      refine lv_iconst (v := (1 : Int32)) hx hb dX9_kindHere_26 (by decide) ?_
      exact hret (1 : Int32) () _ _ _ _ rfl dX9_kindHere_27 h hP hD hS
  · have h := h.2 c9
    refine lv_iconst (v := (0 : Int32)) hx hb dX9_kindHere_12 (by decide) ?_
    exact hret (0 : Int32) () _ _ _ _ rfl dX9_kindHere_13 h hP hD hS
def wpX9_tellLine (sL : AR) (sR : AR) (sG : AR) (R_text : AR) (G_towerCell : AR) (G_range : AR) (G_voice : AR) (G_strokes : AR) (G_isFalse : AR) (G_kind : AR) (G_home : AR) (G_water : AR) (G_mirage : AR) (x1 : Int32) (post : Int32 → AR → AR → AR → AR → AR → AR → AR → AR → AR → AR → AR → AR → Prop) : Prop := wpX8_isWord sR R_text 1 (fun r6 => ((r6 = 0 → wpX8_isWord sR R_text 2 (fun r38 => ((r38 = 0 → wpX8_isWord sR R_text 5 (fun r55 => ((r55 = 0 → wpX8_isWord sR R_text 10 (fun r72 => ((r72 = 0 → wpX8_isWord sR R_text 11 (fun r89 => ((r89 = 0 → wpX9_kindHere sR R_text (fun r101 => ((¬ r101 = (-1 : Int32) → wpX9_tellWalker sG sR G_kind G_home G_water R_text r101 (fun r123 sG_123 sR_123 G_kind_123 G_home_123 G_water_123 => narrow .boolean (.int r123) = .int r123 ∧ post r123 sL sR_123 sG_123 G_towerCell G_range G_voice G_strokes G_isFalse G_kind_123 G_home_123 G_water_123 G_mirage)) ∧ (r101 = (-1 : Int32) → wpX8_refuse sR (1 : Int32) (fun r115 sR_115 => narrow .boolean (.int r115) = .int r115 ∧ post r115 sL sR_115 sG G_towerCell G_range G_voice G_strokes G_isFalse G_kind G_home G_water G_mirage))))) ∧ (¬ r89 = 0 → wpX9_tellMirage sR sG R_text G_mirage (fun r96 sR_96 G_mirage_96 => narrow .boolean (.int r96) = .int r96 ∧ post r96 sL sR_96 sG G_towerCell G_range G_voice G_strokes G_isFalse G_kind G_home G_water G_mirage_96))))) ∧ (¬ r72 = 0 → wpX9_tellNight sL sR sG R_text (fun r79 sL_79 sR_79 sG_79 => narrow .boolean (.int r79) = .int r79 ∧ post r79 sL_79 sR_79 sG_79 G_towerCell G_range G_voice G_strokes G_isFalse G_kind G_home G_water G_mirage))))) ∧ (¬ r55 = 0 → wpX9_tellWind sL sR sG R_text (fun r62 sL_62 sR_62 sG_62 => narrow .boolean (.int r62) = .int r62 ∧ post r62 sL_62 sR_62 sG_62 G_towerCell G_range G_voice G_strokes G_isFalse G_kind G_home G_water G_mirage))))) ∧ (¬ r38 = 0 → wpX9_tellTower sG sR G_towerCell G_range G_voice G_strokes G_isFalse R_text (fun r45 sG_45 sR_45 G_towerCell_45 G_range_45 G_voice_45 G_strokes_45 G_isFalse_45 => narrow .boolean (.int r45) = .int r45 ∧ post r45 sL sR_45 sG_45 G_towerCell_45 G_range_45 G_voice_45 G_strokes_45 G_isFalse_45 G_kind G_home G_water G_mirage))))) ∧ (¬ r6 = 0 → ((x1 = 0 → wpX8_refuse sR (3 : Int32) (fun r28 sR_28 => narrow .boolean (.int r28) = .int r28 ∧ post r28 sL sR_28 sG G_towerCell G_range G_voice G_strokes G_isFalse G_kind G_home G_water G_mirage)) ∧ (¬ x1 = 0 → wpX9_tellSize sR sG R_text (fun r17 sR_17 sG_17 => narrow .boolean (.int r17) = .int r17 ∧ post r17 sL sR_17 sG_17 G_towerCell G_range G_voice G_strokes G_isFalse G_kind G_home G_water G_mirage))))))
set_option maxHeartbeats 4000000 in
set_option maxRecDepth 100000 in
theorem ctX9_tellLine (l : Launch) (D : va_G) (cy : Nat → ClassId) (ev : Nat → Nat) (h0 : Nat) (rL : Nat → Nat) (rR : Nat → Nat) (rG : Nat → Nat) (sL : AR) (sR : AR) (sG : AR) (R_text : AR) (G_towerCell : AR) (G_range : AR) (G_voice : AR) (G_strokes : AR) (G_isFalse : AR) (G_kind : AR) (G_home : AR) (G_water : AR) (G_mirage : AR) (x1 : Int32) (sz : Nat) (post : Int32 → AR → AR → AR → AR → AR → AR → AR → AR → AR → AR → AR → AR → Prop) (h : wpX9_tellLine sL sR sG R_text G_towerCell G_range G_voice G_strokes G_isFalse G_kind G_home G_water G_mirage x1 post) : Met l yX9_tellLine (Cond.code yX9_tellLine cX9_tellLine 3 (some .boolean) :: TB) ({ frames := 7, cells := 0, slots := 0, locals := 267 }) (va_Pc [.ref h0, .int x1] (PreX D cy ev [(h0, .inr (9, oX9 rL sL)), ((rL 0), .inr (8, oX8 rR sR)), ((rL 1), .inr (4, oX4 rG sG)), ((rR 0), .inl (cy 1, 500, .inl R_text)), ((rG 7), .inl (cy 0, 5, .inl G_towerCell)), ((rG 8), .inl (cy 0, 5, .inl G_range)), ((rG 9), .inl (cy 0, 5, .inl G_voice)), ((rG 10), .inl (cy 0, 5, .inl G_strokes)), ((rG 11), .inl (cy 2, 5, .inl G_isFalse)), ((rG 12), .inl (cy 0, 4, .inl G_kind)), ((rG 13), .inl (cy 0, 4, .inl G_home)), ((rG 14), .inl (cy 0, 4, .inl G_water)), ((rG 15), .inl (cy 2, 100, .inl G_mirage))] sz)) (va_Qi (fun (r : Int32) (u : AR × AR × AR × AR × AR × AR × AR × AR × AR × AR × AR × AR) => post r (u.1) (u.2.1) (u.2.2.1) (u.2.2.2.1) (u.2.2.2.2.1) (u.2.2.2.2.2.1) (u.2.2.2.2.2.2.1) (u.2.2.2.2.2.2.2.1) (u.2.2.2.2.2.2.2.2.1) (u.2.2.2.2.2.2.2.2.2.1) (u.2.2.2.2.2.2.2.2.2.2.1) (u.2.2.2.2.2.2.2.2.2.2.2)) (fun u => BkX D cy [(h0, .inr (9, oX9 rL sL)), ((rL 0), .inr (8, oX8 rR sR)), ((rL 1), .inr (4, oX4 rG sG)), ((rR 0), .inl (cy 1, 500, .inl R_text)), ((rG 7), .inl (cy 0, 5, .inl G_towerCell)), ((rG 8), .inl (cy 0, 5, .inl G_range)), ((rG 9), .inl (cy 0, 5, .inl G_voice)), ((rG 10), .inl (cy 0, 5, .inl G_strokes)), ((rG 11), .inl (cy 2, 5, .inl G_isFalse)), ((rG 12), .inl (cy 0, 4, .inl G_kind)), ((rG 13), .inl (cy 0, 4, .inl G_home)), ((rG 14), .inl (cy 0, 4, .inl G_water)), ((rG 15), .inl (cy 2, 100, .inl G_mirage))] sz [(h0, .inr (9, oX9 rL (u.1))), ((rL 0), .inr (8, oX8 rR (u.2.1))), ((rL 1), .inr (4, oX4 rG (u.2.2.1))), ((rR 0), .inl (cy 1, 500, .inl R_text)), ((rG 7), .inl (cy 0, 5, .inl (u.2.2.2.1))), ((rG 8), .inl (cy 0, 5, .inl (u.2.2.2.2.1))), ((rG 9), .inl (cy 0, 5, .inl (u.2.2.2.2.2.1))), ((rG 10), .inl (cy 0, 5, .inl (u.2.2.2.2.2.2.1))), ((rG 11), .inl (cy 2, 5, .inl (u.2.2.2.2.2.2.2.1))), ((rG 12), .inl (cy 0, 4, .inl (u.2.2.2.2.2.2.2.2.1))), ((rG 13), .inl (cy 0, 4, .inl (u.2.2.2.2.2.2.2.2.2.1))), ((rG 14), .inl (cy 0, 4, .inl (u.2.2.2.2.2.2.2.2.2.2.1))), ((rG 15), .inl (cy 2, 100, .inl (u.2.2.2.2.2.2.2.2.2.2.2)))]) (va_A [(h0, .inr (9, oX9 rL sL)), ((rL 0), .inr (8, oX8 rR sR)), ((rL 1), .inr (4, oX4 rG sG)), ((rR 0), .inl (cy 1, 500, .inl R_text)), ((rG 7), .inl (cy 0, 5, .inl G_towerCell)), ((rG 8), .inl (cy 0, 5, .inl G_range)), ((rG 9), .inl (cy 0, 5, .inl G_voice)), ((rG 10), .inl (cy 0, 5, .inl G_strokes)), ((rG 11), .inl (cy 2, 5, .inl G_isFalse)), ((rG 12), .inl (cy 0, 4, .inl G_kind)), ((rG 13), .inl (cy 0, 4, .inl G_home)), ((rG 14), .inl (cy 0, 4, .inl G_water)), ((rG 15), .inl (cy 2, 100, .inl G_mirage))] sz)) 0 0 (va_A [(h0, .inr (9, oX9 rL sL)), ((rL 0), .inr (8, oX8 rR sR)), ((rL 1), .inr (4, oX4 rG sG)), ((rR 0), .inl (cy 1, 500, .inl R_text)), ((rG 7), .inl (cy 0, 5, .inl G_towerCell)), ((rG 8), .inl (cy 0, 5, .inl G_range)), ((rG 9), .inl (cy 0, 5, .inl G_voice)), ((rG 10), .inl (cy 0, 5, .inl G_strokes)), ((rG 11), .inl (cy 2, 5, .inl G_isFalse)), ((rG 12), .inl (cy 0, 4, .inl G_kind)), ((rG 13), .inl (cy 0, 4, .inl G_home)), ((rG 14), .inl (cy 0, 4, .inl G_water)), ((rG 15), .inl (cy 2, 100, .inl G_mirage))] sz) := by
  refine ofWi (by decide) (Nat.le_of_ble_eq_true rfl) ?_
  intro p e s m args below meth c ls A R QQ hx hb hml hown hts hR hlk hE hK hP hD hS hA hl hret
  have hown : s.vm.findClass RX9 = some m.cls := hown
  have hRf : 7 ≤ R.frames := by rw [hR]; exact Nat.le_refl _
  have hRl : 267 ≤ R.locals := by rw [hR]; exact Nat.le_refl _
  clear hR
  have hl : lv_has ls 3 [(0, .ref h0), (1, .int x1)] := hl
  refine lv_aload_n hx hb dX9_tellLine_0 rfl (lv_at hl 0 rfl) ?_
  refine gfX9_9 hx hb hts hown hK hP 0 rfl dX9_tellLine_1 ?_
  refine va_ldcS hx hb hown (hE.1 1 (by decide)).1 dX9_tellLine_4 ?_
  refine clVi (As := [.ref (ev (2 * 1))]) (rest := []) (Wr := [(h0, .inr (9, oX9 rL sL)), ((rL 1), .inr (4, oX4 rG sG)), ((rG 7), .inl (cy 0, 5, .inl G_towerCell)), ((rG 8), .inl (cy 0, 5, .inl G_range)), ((rG 9), .inl (cy 0, 5, .inl G_voice)), ((rG 10), .inl (cy 0, 5, .inl G_strokes)), ((rG 11), .inl (cy 2, 5, .inl G_isFalse)), ((rG 12), .inl (cy 0, 4, .inl G_kind)), ((rG 13), .inl (cy 0, 4, .inl G_home)), ((rG 14), .inl (cy 0, 4, .inl G_water)), ((rG 15), .inl (cy 2, 100, .inl G_mirage))]) (cq := (RX8, TX8, 10)) ⟨hx, hb, hml, hown, hts⟩ ⟨callB_of 1 hts (goodC mw750) rfl rfl rfl (hts _ (tb mw2)) (hts _ (tb mw747)) kdX8_isWord ⟨Nat.le_trans (by decide) hRf, Nat.le_trans (by decide) hRl⟩, hts _ (tb mw748), hts _ (tb mw749)⟩ (ctX8_isWord l D cy ev (rL 0) rR sR R_text 1  _ _ h) hE hK hP hD hS hA [1, 3] [0, 2, 4, 5, 6, 7, 8, 9, 10, 11, 12] rfl rfl (by decide) (by decide) (by decide) 0 rfl rfl rfl hl.1 rfl (Nat.le_of_ble_eq_true rfl) ⟨Nat.zero_le _, Nat.zero_le _⟩ dX9_tellLine_6 (fun r6 u H locs h hP hD hS => ?_)
  have hP : va_P D clsX [(h0, .inr (9, oX9 rL sL)), ((rL 1), .inr (4, oX4 rG sG)), ((rG 7), .inl (cy 0, 5, .inl G_towerCell)), ((rG 8), .inl (cy 0, 5, .inl G_range)), ((rG 9), .inl (cy 0, 5, .inl G_voice)), ((rG 10), .inl (cy 0, 5, .inl G_strokes)), ((rG 11), .inl (cy 2, 5, .inl G_isFalse)), ((rG 12), .inl (cy 0, 4, .inl G_kind)), ((rG 13), .inl (cy 0, 4, .inl G_home)), ((rG 14), .inl (cy 0, 4, .inl G_water)), ((rG 15), .inl (cy 2, 100, .inl G_mirage)), ((rL 0), .inr (8, oX8 rR sR)), ((rR 0), .inl (cy 1, 500, .inl R_text))] H := hP
  have hD : va_D A [(h0, .inr (9, oX9 rL sL)), ((rL 1), .inr (4, oX4 rG sG)), ((rG 7), .inl (cy 0, 5, .inl G_towerCell)), ((rG 8), .inl (cy 0, 5, .inl G_range)), ((rG 9), .inl (cy 0, 5, .inl G_voice)), ((rG 10), .inl (cy 0, 5, .inl G_strokes)), ((rG 11), .inl (cy 2, 5, .inl G_isFalse)), ((rG 12), .inl (cy 0, 4, .inl G_kind)), ((rG 13), .inl (cy 0, 4, .inl G_home)), ((rG 14), .inl (cy 0, 4, .inl G_water)), ((rG 15), .inl (cy 2, 100, .inl G_mirage)), ((rL 0), .inr (8, oX8 rR sR)), ((rR 0), .inl (cy 1, 500, .inl R_text))] := hD
  refine lv_if_eq (tgt := 32) hx hb dX9_tellLine_9 (by decide) (fun c9 => ?_) (fun c9 => ?_)
  · have h := h.1 c9
    refine lv_aload_n hx hb dX9_tellLine_32 rfl (lv_at hl 0 rfl) ?_
    refine gfX9_9 hx hb hts hown hK hP 0 rfl dX9_tellLine_33 ?_
    refine va_ldcS hx hb hown (hE.1 2 (by decide)).1 dX9_tellLine_36 ?_
    refine clVi (As := [.ref (ev (2 * 2))]) (rest := []) (Wr := [(h0, .inr (9, oX9 rL sL)), ((rL 1), .inr (4, oX4 rG sG)), ((rG 7), .inl (cy 0, 5, .inl G_towerCell)), ((rG 8), .inl (cy 0, 5, .inl G_range)), ((rG 9), .inl (cy 0, 5, .inl G_voice)), ((rG 10), .inl (cy 0, 5, .inl G_strokes)), ((rG 11), .inl (cy 2, 5, .inl G_isFalse)), ((rG 12), .inl (cy 0, 4, .inl G_kind)), ((rG 13), .inl (cy 0, 4, .inl G_home)), ((rG 14), .inl (cy 0, 4, .inl G_water)), ((rG 15), .inl (cy 2, 100, .inl G_mirage))]) (cq := (RX8, TX8, 10)) ⟨hx, hb, hml, hown, hts⟩ ⟨callB_of 1 hts (goodC mw750) rfl rfl rfl (hts _ (tb mw2)) (hts _ (tb mw747)) kdX8_isWord ⟨Nat.le_trans (by decide) hRf, Nat.le_trans (by decide) hRl⟩, hts _ (tb mw748), hts _ (tb mw749)⟩ (ctX8_isWord l D cy ev (rL 0) rR sR R_text 2  _ _ h) hE hK hP hD hS hA [11, 12] [0, 1, 2, 3, 4, 5, 6, 7, 8, 9, 10] rfl rfl (by decide) (by decide) (by decide) 0 rfl rfl rfl hl.1 rfl (Nat.le_of_ble_eq_true rfl) ⟨Nat.zero_le _, Nat.zero_le _⟩ dX9_tellLine_38 (fun r38 u H locs h hP hD hS => ?_)
    have hP : va_P D clsX [(h0, .inr (9, oX9 rL sL)), ((rL 1), .inr (4, oX4 rG sG)), ((rG 7), .inl (cy 0, 5, .inl G_towerCell)), ((rG 8), .inl (cy 0, 5, .inl G_range)), ((rG 9), .inl (cy 0, 5, .inl G_voice)), ((rG 10), .inl (cy 0, 5, .inl G_strokes)), ((rG 11), .inl (cy 2, 5, .inl G_isFalse)), ((rG 12), .inl (cy 0, 4, .inl G_kind)), ((rG 13), .inl (cy 0, 4, .inl G_home)), ((rG 14), .inl (cy 0, 4, .inl G_water)), ((rG 15), .inl (cy 2, 100, .inl G_mirage)), ((rL 0), .inr (8, oX8 rR sR)), ((rR 0), .inl (cy 1, 500, .inl R_text))] H := hP
    have hD : va_D A [(h0, .inr (9, oX9 rL sL)), ((rL 1), .inr (4, oX4 rG sG)), ((rG 7), .inl (cy 0, 5, .inl G_towerCell)), ((rG 8), .inl (cy 0, 5, .inl G_range)), ((rG 9), .inl (cy 0, 5, .inl G_voice)), ((rG 10), .inl (cy 0, 5, .inl G_strokes)), ((rG 11), .inl (cy 2, 5, .inl G_isFalse)), ((rG 12), .inl (cy 0, 4, .inl G_kind)), ((rG 13), .inl (cy 0, 4, .inl G_home)), ((rG 14), .inl (cy 0, 4, .inl G_water)), ((rG 15), .inl (cy 2, 100, .inl G_mirage)), ((rL 0), .inr (8, oX8 rR sR)), ((rR 0), .inl (cy 1, 500, .inl R_text))] := hD
    refine lv_if_eq (tgt := 49) hx hb dX9_tellLine_41 (by decide) (fun c41 => ?_) (fun c41 => ?_)
    · have h := h.1 c41
      refine lv_aload_n hx hb dX9_tellLine_49 rfl (lv_at hl 0 rfl) ?_
      refine gfX9_9 hx hb hts hown hK hP 0 rfl dX9_tellLine_50 ?_
      refine va_ldcS hx hb hown (hE.1 5 (by decide)).1 dX9_tellLine_53 ?_
      refine clVi (As := [.ref (ev (2 * 5))]) (rest := []) (Wr := [(h0, .inr (9, oX9 rL sL)), ((rL 1), .inr (4, oX4 rG sG)), ((rG 7), .inl (cy 0, 5, .inl G_towerCell)), ((rG 8), .inl (cy 0, 5, .inl G_range)), ((rG 9), .inl (cy 0, 5, .inl G_voice)), ((rG 10), .inl (cy 0, 5, .inl G_strokes)), ((rG 11), .inl (cy 2, 5, .inl G_isFalse)), ((rG 12), .inl (cy 0, 4, .inl G_kind)), ((rG 13), .inl (cy 0, 4, .inl G_home)), ((rG 14), .inl (cy 0, 4, .inl G_water)), ((rG 15), .inl (cy 2, 100, .inl G_mirage))]) (cq := (RX8, TX8, 10)) ⟨hx, hb, hml, hown, hts⟩ ⟨callB_of 1 hts (goodC mw750) rfl rfl rfl (hts _ (tb mw2)) (hts _ (tb mw747)) kdX8_isWord ⟨Nat.le_trans (by decide) hRf, Nat.le_trans (by decide) hRl⟩, hts _ (tb mw748), hts _ (tb mw749)⟩ (ctX8_isWord l D cy ev (rL 0) rR sR R_text 5  _ _ h) hE hK hP hD hS hA [11, 12] [0, 1, 2, 3, 4, 5, 6, 7, 8, 9, 10] rfl rfl (by decide) (by decide) (by decide) 0 rfl rfl rfl hl.1 rfl (Nat.le_of_ble_eq_true rfl) ⟨Nat.zero_le _, Nat.zero_le _⟩ dX9_tellLine_55 (fun r55 u H locs h hP hD hS => ?_)
      have hP : va_P D clsX [(h0, .inr (9, oX9 rL sL)), ((rL 1), .inr (4, oX4 rG sG)), ((rG 7), .inl (cy 0, 5, .inl G_towerCell)), ((rG 8), .inl (cy 0, 5, .inl G_range)), ((rG 9), .inl (cy 0, 5, .inl G_voice)), ((rG 10), .inl (cy 0, 5, .inl G_strokes)), ((rG 11), .inl (cy 2, 5, .inl G_isFalse)), ((rG 12), .inl (cy 0, 4, .inl G_kind)), ((rG 13), .inl (cy 0, 4, .inl G_home)), ((rG 14), .inl (cy 0, 4, .inl G_water)), ((rG 15), .inl (cy 2, 100, .inl G_mirage)), ((rL 0), .inr (8, oX8 rR sR)), ((rR 0), .inl (cy 1, 500, .inl R_text))] H := hP
      have hD : va_D A [(h0, .inr (9, oX9 rL sL)), ((rL 1), .inr (4, oX4 rG sG)), ((rG 7), .inl (cy 0, 5, .inl G_towerCell)), ((rG 8), .inl (cy 0, 5, .inl G_range)), ((rG 9), .inl (cy 0, 5, .inl G_voice)), ((rG 10), .inl (cy 0, 5, .inl G_strokes)), ((rG 11), .inl (cy 2, 5, .inl G_isFalse)), ((rG 12), .inl (cy 0, 4, .inl G_kind)), ((rG 13), .inl (cy 0, 4, .inl G_home)), ((rG 14), .inl (cy 0, 4, .inl G_water)), ((rG 15), .inl (cy 2, 100, .inl G_mirage)), ((rL 0), .inr (8, oX8 rR sR)), ((rR 0), .inl (cy 1, 500, .inl R_text))] := hD
      refine lv_if_eq (tgt := 66) hx hb dX9_tellLine_58 (by decide) (fun c58 => ?_) (fun c58 => ?_)
      · have h := h.1 c58
        refine lv_aload_n hx hb dX9_tellLine_66 rfl (lv_at hl 0 rfl) ?_
        refine gfX9_9 hx hb hts hown hK hP 0 rfl dX9_tellLine_67 ?_
        refine va_ldcS hx hb hown (hE.1 10 (by decide)).1 dX9_tellLine_70 ?_
        refine clVi (As := [.ref (ev (2 * 10))]) (rest := []) (Wr := [(h0, .inr (9, oX9 rL sL)), ((rL 1), .inr (4, oX4 rG sG)), ((rG 7), .inl (cy 0, 5, .inl G_towerCell)), ((rG 8), .inl (cy 0, 5, .inl G_range)), ((rG 9), .inl (cy 0, 5, .inl G_voice)), ((rG 10), .inl (cy 0, 5, .inl G_strokes)), ((rG 11), .inl (cy 2, 5, .inl G_isFalse)), ((rG 12), .inl (cy 0, 4, .inl G_kind)), ((rG 13), .inl (cy 0, 4, .inl G_home)), ((rG 14), .inl (cy 0, 4, .inl G_water)), ((rG 15), .inl (cy 2, 100, .inl G_mirage))]) (cq := (RX8, TX8, 10)) ⟨hx, hb, hml, hown, hts⟩ ⟨callB_of 1 hts (goodC mw750) rfl rfl rfl (hts _ (tb mw2)) (hts _ (tb mw747)) kdX8_isWord ⟨Nat.le_trans (by decide) hRf, Nat.le_trans (by decide) hRl⟩, hts _ (tb mw748), hts _ (tb mw749)⟩ (ctX8_isWord l D cy ev (rL 0) rR sR R_text 10  _ _ h) hE hK hP hD hS hA [11, 12] [0, 1, 2, 3, 4, 5, 6, 7, 8, 9, 10] rfl rfl (by decide) (by decide) (by decide) 0 rfl rfl rfl hl.1 rfl (Nat.le_of_ble_eq_true rfl) ⟨Nat.zero_le _, Nat.zero_le _⟩ dX9_tellLine_72 (fun r72 u H locs h hP hD hS => ?_)
        have hP : va_P D clsX [(h0, .inr (9, oX9 rL sL)), ((rL 1), .inr (4, oX4 rG sG)), ((rG 7), .inl (cy 0, 5, .inl G_towerCell)), ((rG 8), .inl (cy 0, 5, .inl G_range)), ((rG 9), .inl (cy 0, 5, .inl G_voice)), ((rG 10), .inl (cy 0, 5, .inl G_strokes)), ((rG 11), .inl (cy 2, 5, .inl G_isFalse)), ((rG 12), .inl (cy 0, 4, .inl G_kind)), ((rG 13), .inl (cy 0, 4, .inl G_home)), ((rG 14), .inl (cy 0, 4, .inl G_water)), ((rG 15), .inl (cy 2, 100, .inl G_mirage)), ((rL 0), .inr (8, oX8 rR sR)), ((rR 0), .inl (cy 1, 500, .inl R_text))] H := hP
        have hD : va_D A [(h0, .inr (9, oX9 rL sL)), ((rL 1), .inr (4, oX4 rG sG)), ((rG 7), .inl (cy 0, 5, .inl G_towerCell)), ((rG 8), .inl (cy 0, 5, .inl G_range)), ((rG 9), .inl (cy 0, 5, .inl G_voice)), ((rG 10), .inl (cy 0, 5, .inl G_strokes)), ((rG 11), .inl (cy 2, 5, .inl G_isFalse)), ((rG 12), .inl (cy 0, 4, .inl G_kind)), ((rG 13), .inl (cy 0, 4, .inl G_home)), ((rG 14), .inl (cy 0, 4, .inl G_water)), ((rG 15), .inl (cy 2, 100, .inl G_mirage)), ((rL 0), .inr (8, oX8 rR sR)), ((rR 0), .inl (cy 1, 500, .inl R_text))] := hD
        refine lv_if_eq (tgt := 83) hx hb dX9_tellLine_75 (by decide) (fun c75 => ?_) (fun c75 => ?_)
        · have h := h.1 c75
          refine lv_aload_n hx hb dX9_tellLine_83 rfl (lv_at hl 0 rfl) ?_
          refine gfX9_9 hx hb hts hown hK hP 0 rfl dX9_tellLine_84 ?_
          refine va_ldcS hx hb hown (hE.1 11 (by decide)).1 dX9_tellLine_87 ?_
          refine clVi (As := [.ref (ev (2 * 11))]) (rest := []) (Wr := [(h0, .inr (9, oX9 rL sL)), ((rL 1), .inr (4, oX4 rG sG)), ((rG 7), .inl (cy 0, 5, .inl G_towerCell)), ((rG 8), .inl (cy 0, 5, .inl G_range)), ((rG 9), .inl (cy 0, 5, .inl G_voice)), ((rG 10), .inl (cy 0, 5, .inl G_strokes)), ((rG 11), .inl (cy 2, 5, .inl G_isFalse)), ((rG 12), .inl (cy 0, 4, .inl G_kind)), ((rG 13), .inl (cy 0, 4, .inl G_home)), ((rG 14), .inl (cy 0, 4, .inl G_water)), ((rG 15), .inl (cy 2, 100, .inl G_mirage))]) (cq := (RX8, TX8, 10)) ⟨hx, hb, hml, hown, hts⟩ ⟨callB_of 1 hts (goodC mw750) rfl rfl rfl (hts _ (tb mw2)) (hts _ (tb mw747)) kdX8_isWord ⟨Nat.le_trans (by decide) hRf, Nat.le_trans (by decide) hRl⟩, hts _ (tb mw748), hts _ (tb mw749)⟩ (ctX8_isWord l D cy ev (rL 0) rR sR R_text 11  _ _ h) hE hK hP hD hS hA [11, 12] [0, 1, 2, 3, 4, 5, 6, 7, 8, 9, 10] rfl rfl (by decide) (by decide) (by decide) 0 rfl rfl rfl hl.1 rfl (Nat.le_of_ble_eq_true rfl) ⟨Nat.zero_le _, Nat.zero_le _⟩ dX9_tellLine_89 (fun r89 u H locs h hP hD hS => ?_)
          have hP : va_P D clsX [(h0, .inr (9, oX9 rL sL)), ((rL 1), .inr (4, oX4 rG sG)), ((rG 7), .inl (cy 0, 5, .inl G_towerCell)), ((rG 8), .inl (cy 0, 5, .inl G_range)), ((rG 9), .inl (cy 0, 5, .inl G_voice)), ((rG 10), .inl (cy 0, 5, .inl G_strokes)), ((rG 11), .inl (cy 2, 5, .inl G_isFalse)), ((rG 12), .inl (cy 0, 4, .inl G_kind)), ((rG 13), .inl (cy 0, 4, .inl G_home)), ((rG 14), .inl (cy 0, 4, .inl G_water)), ((rG 15), .inl (cy 2, 100, .inl G_mirage)), ((rL 0), .inr (8, oX8 rR sR)), ((rR 0), .inl (cy 1, 500, .inl R_text))] H := hP
          have hD : va_D A [(h0, .inr (9, oX9 rL sL)), ((rL 1), .inr (4, oX4 rG sG)), ((rG 7), .inl (cy 0, 5, .inl G_towerCell)), ((rG 8), .inl (cy 0, 5, .inl G_range)), ((rG 9), .inl (cy 0, 5, .inl G_voice)), ((rG 10), .inl (cy 0, 5, .inl G_strokes)), ((rG 11), .inl (cy 2, 5, .inl G_isFalse)), ((rG 12), .inl (cy 0, 4, .inl G_kind)), ((rG 13), .inl (cy 0, 4, .inl G_home)), ((rG 14), .inl (cy 0, 4, .inl G_water)), ((rG 15), .inl (cy 2, 100, .inl G_mirage)), ((rL 0), .inr (8, oX8 rR sR)), ((rR 0), .inl (cy 1, 500, .inl R_text))] := hD
          refine lv_if_eq (tgt := 100) hx hb dX9_tellLine_92 (by decide) (fun c92 => ?_) (fun c92 => ?_)
          · have h := h.1 c92
            refine lv_aload_n hx hb dX9_tellLine_100 rfl (lv_at hl 0 rfl) ?_
            refine clVi (As := []) (rest := []) (Wr := [((rL 1), .inr (4, oX4 rG sG)), ((rG 7), .inl (cy 0, 5, .inl G_towerCell)), ((rG 8), .inl (cy 0, 5, .inl G_range)), ((rG 9), .inl (cy 0, 5, .inl G_voice)), ((rG 10), .inl (cy 0, 5, .inl G_strokes)), ((rG 11), .inl (cy 2, 5, .inl G_isFalse)), ((rG 12), .inl (cy 0, 4, .inl G_kind)), ((rG 13), .inl (cy 0, 4, .inl G_home)), ((rG 14), .inl (cy 0, 4, .inl G_water)), ((rG 15), .inl (cy 2, 100, .inl G_mirage))]) (cq := (RX9, TX9, 4)) ⟨hx, hb, hml, hown, hts⟩ ⟨callB_of 0 hts (goodC mw862) rfl rfl rfl (hts _ (tb mw6)) (hts _ (tb mw859)) kdX9_kindHere ⟨Nat.le_trans (by decide) hRf, Nat.le_trans (by decide) hRl⟩, hts _ (tb mw861), hts _ (tb ms21)⟩ (ctX9_kindHere l D cy ev h0 rL rR sL sR R_text  _ _ h) hE hK hP hD hS hA [0, 11, 12] [1, 2, 3, 4, 5, 6, 7, 8, 9, 10] rfl rfl (by decide) (by decide) (by decide) 0 rfl rfl rfl hl.1 rfl (Nat.le_of_ble_eq_true rfl) ⟨Nat.zero_le _, Nat.zero_le _⟩ dX9_tellLine_101 (fun r101 u H locs h hP hD hS => ?_)
            have hP : va_P D clsX [((rL 1), .inr (4, oX4 rG sG)), ((rG 7), .inl (cy 0, 5, .inl G_towerCell)), ((rG 8), .inl (cy 0, 5, .inl G_range)), ((rG 9), .inl (cy 0, 5, .inl G_voice)), ((rG 10), .inl (cy 0, 5, .inl G_strokes)), ((rG 11), .inl (cy 2, 5, .inl G_isFalse)), ((rG 12), .inl (cy 0, 4, .inl G_kind)), ((rG 13), .inl (cy 0, 4, .inl G_home)), ((rG 14), .inl (cy 0, 4, .inl G_water)), ((rG 15), .inl (cy 2, 100, .inl G_mirage)), (h0, .inr (9, oX9 rL sL)), ((rL 0), .inr (8, oX8 rR sR)), ((rR 0), .inl (cy 1, 500, .inl R_text))] H := hP
            have hD : va_D A [((rL 1), .inr (4, oX4 rG sG)), ((rG 7), .inl (cy 0, 5, .inl G_towerCell)), ((rG 8), .inl (cy 0, 5, .inl G_range)), ((rG 9), .inl (cy 0, 5, .inl G_voice)), ((rG 10), .inl (cy 0, 5, .inl G_strokes)), ((rG 11), .inl (cy 2, 5, .inl G_isFalse)), ((rG 12), .inl (cy 0, 4, .inl G_kind)), ((rG 13), .inl (cy 0, 4, .inl G_home)), ((rG 14), .inl (cy 0, 4, .inl G_water)), ((rG 15), .inl (cy 2, 100, .inl G_mirage)), (h0, .inr (9, oX9 rL sL)), ((rL 0), .inr (8, oX8 rR sR)), ((rR 0), .inl (cy 1, 500, .inl R_text))] := hD
            refine lv_istore_n (lv' := [(2, .int r101), (0, .ref h0), (1, .int x1)]) hx hb dX9_tellLine_104 rfl hl (by decide) rfl (fun ls hl => ?_)
            refine lv_iload_n hx hb dX9_tellLine_105 rfl (lv_at hl 0 rfl) ?_
            refine lv_iconst (v := (-1 : Int32)) hx hb dX9_tellLine_106 (by decide) ?_
            refine lv_icmp_ne (tgt := 121) hx hb dX9_tellLine_107 (by decide) (fun c107 => ?_) (fun c107 => ?_)
            · have h := h.1 c107
              refine lv_aload_n hx hb dX9_tellLine_121 rfl (lv_at hl 1 rfl) ?_
              refine lv_iload_n hx hb dX9_tellLine_122 rfl (lv_at hl 0 rfl) ?_
              refine clVi (As := [.int r101]) (rest := []) (Wr := [((rG 7), .inl (cy 0, 5, .inl G_towerCell)), ((rG 8), .inl (cy 0, 5, .inl G_range)), ((rG 9), .inl (cy 0, 5, .inl G_voice)), ((rG 10), .inl (cy 0, 5, .inl G_strokes)), ((rG 11), .inl (cy 2, 5, .inl G_isFalse)), ((rG 15), .inl (cy 2, 100, .inl G_mirage))]) (cq := (RX9, TX9, 4)) ⟨hx, hb, hml, hown, hts⟩ ⟨callB_of 1 hts (goodC mw871) rfl rfl rfl (hts _ (tb mw6)) (hts _ (tb mw868)) kdX9_tellWalker ⟨Nat.le_trans (by decide) hRf, Nat.le_trans (by decide) hRl⟩, hts _ (tb mw870), hts _ (tb ms22)⟩ (ctX9_tellWalker l D cy ev h0 rL rG rR sL sG sR G_kind G_home G_water R_text r101 _ _ h) hE hK hP hD hS hA [10, 0, 11, 6, 7, 8, 12] [1, 2, 3, 4, 5, 9] rfl rfl (by decide) (by decide) (by decide) 0 rfl rfl rfl hl.1 rfl (Nat.le_of_ble_eq_true rfl) ⟨Nat.zero_le _, Nat.zero_le _⟩ dX9_tellLine_123 (fun r123 u H locs h hP hD hS => ?_)
              obtain ⟨sG_123, sR_123, G_kind_123, G_home_123, G_water_123⟩ := u
              have hP : va_P D clsX [((rG 7), .inl (cy 0, 5, .inl G_towerCell)), ((rG 8), .inl (cy 0, 5, .inl G_range)), ((rG 9), .inl (cy 0, 5, .inl G_voice)), ((rG 10), .inl (cy 0, 5, .inl G_strokes)), ((rG 11), .inl (cy 2, 5, .inl G_isFalse)), ((rG 15), .inl (cy 2, 100, .inl G_mirage)), (h0, .inr (9, oX9 rL sL)), ((rL 1), .inr (4, oX4 rG sG_123)), ((rL 0), .inr (8, oX8 rR sR_123)), ((rG 12), .inl (cy 0, 4, .inl G_kind_123)), ((rG 13), .inl (cy 0, 4, .inl G_home_123)), ((rG 14), .inl (cy 0, 4, .inl G_water_123)), ((rR 0), .inl (cy 1, 500, .inl R_text))] H := hP
              have hD : va_D A [((rG 7), .inl (cy 0, 5, .inl G_towerCell)), ((rG 8), .inl (cy 0, 5, .inl G_range)), ((rG 9), .inl (cy 0, 5, .inl G_voice)), ((rG 10), .inl (cy 0, 5, .inl G_strokes)), ((rG 11), .inl (cy 2, 5, .inl G_isFalse)), ((rG 15), .inl (cy 2, 100, .inl G_mirage)), (h0, .inr (9, oX9 rL sL)), ((rL 1), .inr (4, oX4 rG sG_123)), ((rL 0), .inr (8, oX8 rR sR_123)), ((rG 12), .inl (cy 0, 4, .inl G_kind_123)), ((rG 13), .inl (cy 0, 4, .inl G_home_123)), ((rG 14), .inl (cy 0, 4, .inl G_water_123)), ((rR 0), .inl (cy 1, 500, .inl R_text))] := hD
              obtain ⟨hz, h⟩ := h
              exact hret r123 (sL, sR_123, sG_123, G_towerCell, G_range, G_voice, G_strokes, G_isFalse, G_kind_123, G_home_123, G_water_123, G_mirage) _ _ _ _ hz dX9_tellLine_126 h (hP.sub [6, 8, 7, 12, 0, 1, 2, 3, 4, 9, 10, 11, 5] rfl) (hD.sub [6, 8, 7, 12, 0, 1, 2, 3, 4, 9, 10, 11, 5] (by decide) rfl) hS
            · have h := h.2 c107
              refine lv_aload_n hx hb dX9_tellLine_110 rfl (lv_at hl 1 rfl) ?_
              refine gfX9_9 hx hb hts hown hK hP 10 rfl dX9_tellLine_111 ?_
              refine lv_iconst (v := (1 : Int32)) hx hb dX9_tellLine_114 (by decide) ?_
              refine clVi (As := [.int (1 : Int32)]) (rest := []) (Wr := [((rL 1), .inr (4, oX4 rG sG)), ((rG 7), .inl (cy 0, 5, .inl G_towerCell)), ((rG 8), .inl (cy 0, 5, .inl G_range)), ((rG 9), .inl (cy 0, 5, .inl G_voice)), ((rG 10), .inl (cy 0, 5, .inl G_strokes)), ((rG 11), .inl (cy 2, 5, .inl G_isFalse)), ((rG 12), .inl (cy 0, 4, .inl G_kind)), ((rG 13), .inl (cy 0, 4, .inl G_home)), ((rG 14), .inl (cy 0, 4, .inl G_water)), ((rG 15), .inl (cy 2, 100, .inl G_mirage)), (h0, .inr (9, oX9 rL sL)), ((rR 0), .inl (cy 1, 500, .inl R_text))]) (cq := (RX8, TX8, 10)) ⟨hx, hb, hml, hown, hts⟩ ⟨callB_of 1 hts (goodC mw811) rfl rfl rfl (hts _ (tb mw2)) (hts _ (tb mw812)) kdX8_refuse ⟨Nat.le_trans (by decide) hRf, Nat.le_trans (by decide) hRl⟩, hts _ (tb mw809), hts _ (tb mw810)⟩ (ctX8_refuse l D cy ev (rL 0) rR sR (1 : Int32) _ _ h) hE hK hP hD hS hA [11] [0, 1, 2, 3, 4, 5, 6, 7, 8, 9, 10, 12] rfl rfl (by decide) (by decide) (by decide) 0 rfl rfl rfl hl.1 rfl (Nat.le_of_ble_eq_true rfl) ⟨Nat.zero_le _, Nat.zero_le _⟩ dX9_tellLine_115 (fun r115 sR_115 H locs h hP hD hS => ?_)
              have hP : va_P D clsX [((rL 1), .inr (4, oX4 rG sG)), ((rG 7), .inl (cy 0, 5, .inl G_towerCell)), ((rG 8), .inl (cy 0, 5, .inl G_range)), ((rG 9), .inl (cy 0, 5, .inl G_voice)), ((rG 10), .inl (cy 0, 5, .inl G_strokes)), ((rG 11), .inl (cy 2, 5, .inl G_isFalse)), ((rG 12), .inl (cy 0, 4, .inl G_kind)), ((rG 13), .inl (cy 0, 4, .inl G_home)), ((rG 14), .inl (cy 0, 4, .inl G_water)), ((rG 15), .inl (cy 2, 100, .inl G_mirage)), (h0, .inr (9, oX9 rL sL)), ((rR 0), .inl (cy 1, 500, .inl R_text)), ((rL 0), .inr (8, oX8 rR sR_115))] H := hP
              have hD : va_D A [((rL 1), .inr (4, oX4 rG sG)), ((rG 7), .inl (cy 0, 5, .inl G_towerCell)), ((rG 8), .inl (cy 0, 5, .inl G_range)), ((rG 9), .inl (cy 0, 5, .inl G_voice)), ((rG 10), .inl (cy 0, 5, .inl G_strokes)), ((rG 11), .inl (cy 2, 5, .inl G_isFalse)), ((rG 12), .inl (cy 0, 4, .inl G_kind)), ((rG 13), .inl (cy 0, 4, .inl G_home)), ((rG 14), .inl (cy 0, 4, .inl G_water)), ((rG 15), .inl (cy 2, 100, .inl G_mirage)), (h0, .inr (9, oX9 rL sL)), ((rR 0), .inl (cy 1, 500, .inl R_text)), ((rL 0), .inr (8, oX8 rR sR_115))] := hD
              refine lv_goto (tgt := 126) hx hb dX9_tellLine_118 (by decide) ?_
              obtain ⟨hz, h⟩ := h
              exact hret r115 (sL, sR_115, sG, G_towerCell, G_range, G_voice, G_strokes, G_isFalse, G_kind, G_home, G_water, G_mirage) _ _ _ _ hz dX9_tellLine_126 h (hP.sub [10, 12, 0, 11, 1, 2, 3, 4, 5, 6, 7, 8, 9] rfl) (hD.sub [10, 12, 0, 11, 1, 2, 3, 4, 5, 6, 7, 8, 9] (by decide) rfl) hS
          · have h := h.2 c92
            refine lv_aload_n hx hb dX9_tellLine_95 rfl (lv_at hl 0 rfl) ?_
            refine clVi (As := []) (rest := []) (Wr := [((rG 7), .inl (cy 0, 5, .inl G_towerCell)), ((rG 8), .inl (cy 0, 5, .inl G_range)), ((rG 9), .inl (cy 0, 5, .inl G_voice)), ((rG 10), .inl (cy 0, 5, .inl G_strokes)), ((rG 11), .inl (cy 2, 5, .inl G_isFalse)), ((rG 12), .inl (cy 0, 4, .inl G_kind)), ((rG 13), .inl (cy 0, 4, .inl G_home)), ((rG 14), .inl (cy 0, 4, .inl G_water))]) (cq := (RX9, TX9, 4)) ⟨hx, hb, hml, hown, hts⟩ ⟨callB_of 0 hts (goodC mw858) rfl rfl rfl (hts _ (tb mw6)) (hts _ (tb mw855)) kdX9_tellMirage ⟨Nat.le_trans (by decide) hRf, Nat.le_trans (by decide) hRl⟩, hts _ (tb mw857), hts _ (tb ms20)⟩ (ctX9_tellMirage l D cy ev h0 rL rR rG sL sR sG R_text G_mirage  _ _ h) hE hK hP hD hS hA [0, 11, 1, 12, 10] [2, 3, 4, 5, 6, 7, 8, 9] rfl rfl (by decide) (by decide) (by decide) 0 rfl rfl rfl hl.1 rfl (Nat.le_of_ble_eq_true rfl) ⟨Nat.zero_le _, Nat.zero_le _⟩ dX9_tellLine_96 (fun r96 u H locs h hP hD hS => ?_)
            obtain ⟨sR_96, G_mirage_96⟩ := u
            have hP : va_P D clsX [((rG 7), .inl (cy 0, 5, .inl G_towerCell)), ((rG 8), .inl (cy 0, 5, .inl G_range)), ((rG 9), .inl (cy 0, 5, .inl G_voice)), ((rG 10), .inl (cy 0, 5, .inl G_strokes)), ((rG 11), .inl (cy 2, 5, .inl G_isFalse)), ((rG 12), .inl (cy 0, 4, .inl G_kind)), ((rG 13), .inl (cy 0, 4, .inl G_home)), ((rG 14), .inl (cy 0, 4, .inl G_water)), (h0, .inr (9, oX9 rL sL)), ((rL 0), .inr (8, oX8 rR sR_96)), ((rL 1), .inr (4, oX4 rG sG)), ((rR 0), .inl (cy 1, 500, .inl R_text)), ((rG 15), .inl (cy 2, 100, .inl G_mirage_96))] H := hP
            have hD : va_D A [((rG 7), .inl (cy 0, 5, .inl G_towerCell)), ((rG 8), .inl (cy 0, 5, .inl G_range)), ((rG 9), .inl (cy 0, 5, .inl G_voice)), ((rG 10), .inl (cy 0, 5, .inl G_strokes)), ((rG 11), .inl (cy 2, 5, .inl G_isFalse)), ((rG 12), .inl (cy 0, 4, .inl G_kind)), ((rG 13), .inl (cy 0, 4, .inl G_home)), ((rG 14), .inl (cy 0, 4, .inl G_water)), (h0, .inr (9, oX9 rL sL)), ((rL 0), .inr (8, oX8 rR sR_96)), ((rL 1), .inr (4, oX4 rG sG)), ((rR 0), .inl (cy 1, 500, .inl R_text)), ((rG 15), .inl (cy 2, 100, .inl G_mirage_96))] := hD
            obtain ⟨hz, h⟩ := h
            exact hret r96 (sL, sR_96, sG, G_towerCell, G_range, G_voice, G_strokes, G_isFalse, G_kind, G_home, G_water, G_mirage_96) _ _ _ _ hz dX9_tellLine_99 h (hP.sub [8, 9, 10, 11, 0, 1, 2, 3, 4, 5, 6, 7, 12] rfl) (hD.sub [8, 9, 10, 11, 0, 1, 2, 3, 4, 5, 6, 7, 12] (by decide) rfl) hS
        · have h := h.2 c75
          refine lv_aload_n hx hb dX9_tellLine_78 rfl (lv_at hl 0 rfl) ?_
          refine clVi (As := []) (rest := []) (Wr := [((rG 7), .inl (cy 0, 5, .inl G_towerCell)), ((rG 8), .inl (cy 0, 5, .inl G_range)), ((rG 9), .inl (cy 0, 5, .inl G_voice)), ((rG 10), .inl (cy 0, 5, .inl G_strokes)), ((rG 11), .inl (cy 2, 5, .inl G_isFalse)), ((rG 12), .inl (cy 0, 4, .inl G_kind)), ((rG 13), .inl (cy 0, 4, .inl G_home)), ((rG 14), .inl (cy 0, 4, .inl G_water)), ((rG 15), .inl (cy 2, 100, .inl G_mirage))]) (cq := (RX9, TX9, 4)) ⟨hx, hb, hml, hown, hts⟩ ⟨callB_of 0 hts (goodC mw853) rfl rfl rfl (hts _ (tb mw6)) (hts _ (tb mw850)) kdX9_tellNight ⟨Nat.le_trans (by decide) hRf, Nat.le_trans (by decide) hRl⟩, hts _ (tb mw852), hts _ (tb ms19)⟩ (ctX9_tellNight l D cy ev h0 rL rR rG sL sR sG R_text  _ _ h) hE hK hP hD hS hA [0, 11, 1, 12] [2, 3, 4, 5, 6, 7, 8, 9, 10] rfl rfl (by decide) (by decide) (by decide) 0 rfl rfl rfl hl.1 rfl (Nat.le_of_ble_eq_true rfl) ⟨Nat.zero_le _, Nat.zero_le _⟩ dX9_tellLine_79 (fun r79 u H locs h hP hD hS => ?_)
          obtain ⟨sL_79, sR_79, sG_79⟩ := u
          have hP : va_P D clsX [((rG 7), .inl (cy 0, 5, .inl G_towerCell)), ((rG 8), .inl (cy 0, 5, .inl G_range)), ((rG 9), .inl (cy 0, 5, .inl G_voice)), ((rG 10), .inl (cy 0, 5, .inl G_strokes)), ((rG 11), .inl (cy 2, 5, .inl G_isFalse)), ((rG 12), .inl (cy 0, 4, .inl G_kind)), ((rG 13), .inl (cy 0, 4, .inl G_home)), ((rG 14), .inl (cy 0, 4, .inl G_water)), ((rG 15), .inl (cy 2, 100, .inl G_mirage)), (h0, .inr (9, oX9 rL sL_79)), ((rL 0), .inr (8, oX8 rR sR_79)), ((rL 1), .inr (4, oX4 rG sG_79)), ((rR 0), .inl (cy 1, 500, .inl R_text))] H := hP
          have hD : va_D A [((rG 7), .inl (cy 0, 5, .inl G_towerCell)), ((rG 8), .inl (cy 0, 5, .inl G_range)), ((rG 9), .inl (cy 0, 5, .inl G_voice)), ((rG 10), .inl (cy 0, 5, .inl G_strokes)), ((rG 11), .inl (cy 2, 5, .inl G_isFalse)), ((rG 12), .inl (cy 0, 4, .inl G_kind)), ((rG 13), .inl (cy 0, 4, .inl G_home)), ((rG 14), .inl (cy 0, 4, .inl G_water)), ((rG 15), .inl (cy 2, 100, .inl G_mirage)), (h0, .inr (9, oX9 rL sL_79)), ((rL 0), .inr (8, oX8 rR sR_79)), ((rL 1), .inr (4, oX4 rG sG_79)), ((rR 0), .inl (cy 1, 500, .inl R_text))] := hD
          obtain ⟨hz, h⟩ := h
          exact hret r79 (sL_79, sR_79, sG_79, G_towerCell, G_range, G_voice, G_strokes, G_isFalse, G_kind, G_home, G_water, G_mirage) _ _ _ _ hz dX9_tellLine_82 h (hP.sub [9, 10, 11, 12, 0, 1, 2, 3, 4, 5, 6, 7, 8] rfl) (hD.sub [9, 10, 11, 12, 0, 1, 2, 3, 4, 5, 6, 7, 8] (by decide) rfl) hS
      · have h := h.2 c58
        refine lv_aload_n hx hb dX9_tellLine_61 rfl (lv_at hl 0 rfl) ?_
        refine clVi (As := []) (rest := []) (Wr := [((rG 7), .inl (cy 0, 5, .inl G_towerCell)), ((rG 8), .inl (cy 0, 5, .inl G_range)), ((rG 9), .inl (cy 0, 5, .inl G_voice)), ((rG 10), .inl (cy 0, 5, .inl G_strokes)), ((rG 11), .inl (cy 2, 5, .inl G_isFalse)), ((rG 12), .inl (cy 0, 4, .inl G_kind)), ((rG 13), .inl (cy 0, 4, .inl G_home)), ((rG 14), .inl (cy 0, 4, .inl G_water)), ((rG 15), .inl (cy 2, 100, .inl G_mirage))]) (cq := (RX9, TX9, 4)) ⟨hx, hb, hml, hown, hts⟩ ⟨callB_of 0 hts (goodC mw840) rfl rfl rfl (hts _ (tb mw6)) (hts _ (tb mw837)) kdX9_tellWind ⟨Nat.le_trans (by decide) hRf, Nat.le_trans (by decide) hRl⟩, hts _ (tb mw839), hts _ (tb ms17)⟩ (ctX9_tellWind l D cy ev h0 rL rR rG sL sR sG R_text  _ _ h) hE hK hP hD hS hA [0, 11, 1, 12] [2, 3, 4, 5, 6, 7, 8, 9, 10] rfl rfl (by decide) (by decide) (by decide) 0 rfl rfl rfl hl.1 rfl (Nat.le_of_ble_eq_true rfl) ⟨Nat.zero_le _, Nat.zero_le _⟩ dX9_tellLine_62 (fun r62 u H locs h hP hD hS => ?_)
        obtain ⟨sL_62, sR_62, sG_62⟩ := u
        have hP : va_P D clsX [((rG 7), .inl (cy 0, 5, .inl G_towerCell)), ((rG 8), .inl (cy 0, 5, .inl G_range)), ((rG 9), .inl (cy 0, 5, .inl G_voice)), ((rG 10), .inl (cy 0, 5, .inl G_strokes)), ((rG 11), .inl (cy 2, 5, .inl G_isFalse)), ((rG 12), .inl (cy 0, 4, .inl G_kind)), ((rG 13), .inl (cy 0, 4, .inl G_home)), ((rG 14), .inl (cy 0, 4, .inl G_water)), ((rG 15), .inl (cy 2, 100, .inl G_mirage)), (h0, .inr (9, oX9 rL sL_62)), ((rL 0), .inr (8, oX8 rR sR_62)), ((rL 1), .inr (4, oX4 rG sG_62)), ((rR 0), .inl (cy 1, 500, .inl R_text))] H := hP
        have hD : va_D A [((rG 7), .inl (cy 0, 5, .inl G_towerCell)), ((rG 8), .inl (cy 0, 5, .inl G_range)), ((rG 9), .inl (cy 0, 5, .inl G_voice)), ((rG 10), .inl (cy 0, 5, .inl G_strokes)), ((rG 11), .inl (cy 2, 5, .inl G_isFalse)), ((rG 12), .inl (cy 0, 4, .inl G_kind)), ((rG 13), .inl (cy 0, 4, .inl G_home)), ((rG 14), .inl (cy 0, 4, .inl G_water)), ((rG 15), .inl (cy 2, 100, .inl G_mirage)), (h0, .inr (9, oX9 rL sL_62)), ((rL 0), .inr (8, oX8 rR sR_62)), ((rL 1), .inr (4, oX4 rG sG_62)), ((rR 0), .inl (cy 1, 500, .inl R_text))] := hD
        obtain ⟨hz, h⟩ := h
        exact hret r62 (sL_62, sR_62, sG_62, G_towerCell, G_range, G_voice, G_strokes, G_isFalse, G_kind, G_home, G_water, G_mirage) _ _ _ _ hz dX9_tellLine_65 h (hP.sub [9, 10, 11, 12, 0, 1, 2, 3, 4, 5, 6, 7, 8] rfl) (hD.sub [9, 10, 11, 12, 0, 1, 2, 3, 4, 5, 6, 7, 8] (by decide) rfl) hS
    · have h := h.2 c41
      refine lv_aload_n hx hb dX9_tellLine_44 rfl (lv_at hl 0 rfl) ?_
      refine clVi (As := []) (rest := []) (Wr := [((rG 12), .inl (cy 0, 4, .inl G_kind)), ((rG 13), .inl (cy 0, 4, .inl G_home)), ((rG 14), .inl (cy 0, 4, .inl G_water)), ((rG 15), .inl (cy 2, 100, .inl G_mirage))]) (cq := (RX9, TX9, 4)) ⟨hx, hb, hml, hown, hts⟩ ⟨callB_of 0 hts (goodC mw817) rfl rfl rfl (hts _ (tb mw6)) (hts _ (tb mw814)) kdX9_tellTower ⟨Nat.le_trans (by decide) hRf, Nat.le_trans (by decide) hRl⟩, hts _ (tb mw816), hts _ (tb ms14)⟩ (ctX9_tellTower l D cy ev h0 rL rG rR sL sG sR G_towerCell G_range G_voice G_strokes G_isFalse R_text  _ _ h) hE hK hP hD hS hA [0, 1, 11, 2, 3, 4, 5, 6, 12] [7, 8, 9, 10] rfl rfl (by decide) (by decide) (by decide) 0 rfl rfl rfl hl.1 rfl (Nat.le_of_ble_eq_true rfl) ⟨Nat.zero_le _, Nat.zero_le _⟩ dX9_tellLine_45 (fun r45 u H locs h hP hD hS => ?_)
      obtain ⟨sG_45, sR_45, G_towerCell_45, G_range_45, G_voice_45, G_strokes_45, G_isFalse_45⟩ := u
      have hP : va_P D clsX [((rG 12), .inl (cy 0, 4, .inl G_kind)), ((rG 13), .inl (cy 0, 4, .inl G_home)), ((rG 14), .inl (cy 0, 4, .inl G_water)), ((rG 15), .inl (cy 2, 100, .inl G_mirage)), (h0, .inr (9, oX9 rL sL)), ((rL 1), .inr (4, oX4 rG sG_45)), ((rL 0), .inr (8, oX8 rR sR_45)), ((rG 7), .inl (cy 0, 5, .inl G_towerCell_45)), ((rG 8), .inl (cy 0, 5, .inl G_range_45)), ((rG 9), .inl (cy 0, 5, .inl G_voice_45)), ((rG 10), .inl (cy 0, 5, .inl G_strokes_45)), ((rG 11), .inl (cy 2, 5, .inl G_isFalse_45)), ((rR 0), .inl (cy 1, 500, .inl R_text))] H := hP
      have hD : va_D A [((rG 12), .inl (cy 0, 4, .inl G_kind)), ((rG 13), .inl (cy 0, 4, .inl G_home)), ((rG 14), .inl (cy 0, 4, .inl G_water)), ((rG 15), .inl (cy 2, 100, .inl G_mirage)), (h0, .inr (9, oX9 rL sL)), ((rL 1), .inr (4, oX4 rG sG_45)), ((rL 0), .inr (8, oX8 rR sR_45)), ((rG 7), .inl (cy 0, 5, .inl G_towerCell_45)), ((rG 8), .inl (cy 0, 5, .inl G_range_45)), ((rG 9), .inl (cy 0, 5, .inl G_voice_45)), ((rG 10), .inl (cy 0, 5, .inl G_strokes_45)), ((rG 11), .inl (cy 2, 5, .inl G_isFalse_45)), ((rR 0), .inl (cy 1, 500, .inl R_text))] := hD
      obtain ⟨hz, h⟩ := h
      exact hret r45 (sL, sR_45, sG_45, G_towerCell_45, G_range_45, G_voice_45, G_strokes_45, G_isFalse_45, G_kind, G_home, G_water, G_mirage) _ _ _ _ hz dX9_tellLine_48 h (hP.sub [4, 6, 5, 12, 7, 8, 9, 10, 11, 0, 1, 2, 3] rfl) (hD.sub [4, 6, 5, 12, 7, 8, 9, 10, 11, 0, 1, 2, 3] (by decide) rfl) hS
  · have h := h.2 c9
    refine lv_iload_n hx hb dX9_tellLine_12 rfl (lv_at hl 1 rfl) ?_
    refine lv_if_eq (tgt := 23) hx hb dX9_tellLine_13 (by decide) (fun c13 => ?_) (fun c13 => ?_)
    · have h := h.1 c13
      refine lv_aload_n hx hb dX9_tellLine_23 rfl (lv_at hl 0 rfl) ?_
      refine gfX9_9 hx hb hts hown hK hP 0 rfl dX9_tellLine_24 ?_
      refine lv_iconst (v := (3 : Int32)) hx hb dX9_tellLine_27 (by decide) ?_
      refine clVi (As := [.int (3 : Int32)]) (rest := []) (Wr := [(h0, .inr (9, oX9 rL sL)), ((rL 1), .inr (4, oX4 rG sG)), ((rG 7), .inl (cy 0, 5, .inl G_towerCell)), ((rG 8), .inl (cy 0, 5, .inl G_range)), ((rG 9), .inl (cy 0, 5, .inl G_voice)), ((rG 10), .inl (cy 0, 5, .inl G_strokes)), ((rG 11), .inl (cy 2, 5, .inl G_isFalse)), ((rG 12), .inl (cy 0, 4, .inl G_kind)), ((rG 13), .inl (cy 0, 4, .inl G_home)), ((rG 14), .inl (cy 0, 4, .inl G_water)), ((rG 15), .inl (cy 2, 100, .inl G_mirage)), ((rR 0), .inl (cy 1, 500, .inl R_text))]) (cq := (RX8, TX8, 10)) ⟨hx, hb, hml, hown, hts⟩ ⟨callB_of 1 hts (goodC mw811) rfl rfl rfl (hts _ (tb mw2)) (hts _ (tb mw812)) kdX8_refuse ⟨Nat.le_trans (by decide) hRf, Nat.le_trans (by decide) hRl⟩, hts _ (tb mw809), hts _ (tb mw810)⟩ (ctX8_refuse l D cy ev (rL 0) rR sR (3 : Int32) _ _ h) hE hK hP hD hS hA [11] [0, 1, 2, 3, 4, 5, 6, 7, 8, 9, 10, 12] rfl rfl (by decide) (by decide) (by decide) 0 rfl rfl rfl hl.1 rfl (Nat.le_of_ble_eq_true rfl) ⟨Nat.zero_le _, Nat.zero_le _⟩ dX9_tellLine_28 (fun r28 sR_28 H locs h hP hD hS => ?_)
      have hP : va_P D clsX [(h0, .inr (9, oX9 rL sL)), ((rL 1), .inr (4, oX4 rG sG)), ((rG 7), .inl (cy 0, 5, .inl G_towerCell)), ((rG 8), .inl (cy 0, 5, .inl G_range)), ((rG 9), .inl (cy 0, 5, .inl G_voice)), ((rG 10), .inl (cy 0, 5, .inl G_strokes)), ((rG 11), .inl (cy 2, 5, .inl G_isFalse)), ((rG 12), .inl (cy 0, 4, .inl G_kind)), ((rG 13), .inl (cy 0, 4, .inl G_home)), ((rG 14), .inl (cy 0, 4, .inl G_water)), ((rG 15), .inl (cy 2, 100, .inl G_mirage)), ((rR 0), .inl (cy 1, 500, .inl R_text)), ((rL 0), .inr (8, oX8 rR sR_28))] H := hP
      have hD : va_D A [(h0, .inr (9, oX9 rL sL)), ((rL 1), .inr (4, oX4 rG sG)), ((rG 7), .inl (cy 0, 5, .inl G_towerCell)), ((rG 8), .inl (cy 0, 5, .inl G_range)), ((rG 9), .inl (cy 0, 5, .inl G_voice)), ((rG 10), .inl (cy 0, 5, .inl G_strokes)), ((rG 11), .inl (cy 2, 5, .inl G_isFalse)), ((rG 12), .inl (cy 0, 4, .inl G_kind)), ((rG 13), .inl (cy 0, 4, .inl G_home)), ((rG 14), .inl (cy 0, 4, .inl G_water)), ((rG 15), .inl (cy 2, 100, .inl G_mirage)), ((rR 0), .inl (cy 1, 500, .inl R_text)), ((rL 0), .inr (8, oX8 rR sR_28))] := hD
      obtain ⟨hz, h⟩ := h
      exact hret r28 (sL, sR_28, sG, G_towerCell, G_range, G_voice, G_strokes, G_isFalse, G_kind, G_home, G_water, G_mirage) _ _ _ _ hz dX9_tellLine_31 h (hP.sub [0, 12, 1, 11, 2, 3, 4, 5, 6, 7, 8, 9, 10] rfl) (hD.sub [0, 12, 1, 11, 2, 3, 4, 5, 6, 7, 8, 9, 10] (by decide) rfl) hS
    · have h := h.2 c13
      refine lv_aload_n hx hb dX9_tellLine_16 rfl (lv_at hl 0 rfl) ?_
      refine clVi (As := []) (rest := []) (Wr := [((rG 7), .inl (cy 0, 5, .inl G_towerCell)), ((rG 8), .inl (cy 0, 5, .inl G_range)), ((rG 9), .inl (cy 0, 5, .inl G_voice)), ((rG 10), .inl (cy 0, 5, .inl G_strokes)), ((rG 11), .inl (cy 2, 5, .inl G_isFalse)), ((rG 12), .inl (cy 0, 4, .inl G_kind)), ((rG 13), .inl (cy 0, 4, .inl G_home)), ((rG 14), .inl (cy 0, 4, .inl G_water)), ((rG 15), .inl (cy 2, 100, .inl G_mirage))]) (cq := (RX9, TX9, 4)) ⟨hx, hb, hml, hown, hts⟩ ⟨callB_of 0 hts (goodC mw802) rfl rfl rfl (hts _ (tb mw6)) (hts _ (tb mw799)) kdX9_tellSize ⟨Nat.le_trans (by decide) hRf, Nat.le_trans (by decide) hRl⟩, hts _ (tb mw801), hts _ (tb ms13)⟩ (ctX9_tellSize l D cy ev h0 rL rR rG sL sR sG R_text  _ _ h) hE hK hP hD hS hA [0, 11, 1, 12] [2, 3, 4, 5, 6, 7, 8, 9, 10] rfl rfl (by decide) (by decide) (by decide) 0 rfl rfl rfl hl.1 rfl (Nat.le_of_ble_eq_true rfl) ⟨Nat.zero_le _, Nat.zero_le _⟩ dX9_tellLine_17 (fun r17 u H locs h hP hD hS => ?_)
      obtain ⟨sR_17, sG_17⟩ := u
      have hP : va_P D clsX [((rG 7), .inl (cy 0, 5, .inl G_towerCell)), ((rG 8), .inl (cy 0, 5, .inl G_range)), ((rG 9), .inl (cy 0, 5, .inl G_voice)), ((rG 10), .inl (cy 0, 5, .inl G_strokes)), ((rG 11), .inl (cy 2, 5, .inl G_isFalse)), ((rG 12), .inl (cy 0, 4, .inl G_kind)), ((rG 13), .inl (cy 0, 4, .inl G_home)), ((rG 14), .inl (cy 0, 4, .inl G_water)), ((rG 15), .inl (cy 2, 100, .inl G_mirage)), (h0, .inr (9, oX9 rL sL)), ((rL 0), .inr (8, oX8 rR sR_17)), ((rL 1), .inr (4, oX4 rG sG_17)), ((rR 0), .inl (cy 1, 500, .inl R_text))] H := hP
      have hD : va_D A [((rG 7), .inl (cy 0, 5, .inl G_towerCell)), ((rG 8), .inl (cy 0, 5, .inl G_range)), ((rG 9), .inl (cy 0, 5, .inl G_voice)), ((rG 10), .inl (cy 0, 5, .inl G_strokes)), ((rG 11), .inl (cy 2, 5, .inl G_isFalse)), ((rG 12), .inl (cy 0, 4, .inl G_kind)), ((rG 13), .inl (cy 0, 4, .inl G_home)), ((rG 14), .inl (cy 0, 4, .inl G_water)), ((rG 15), .inl (cy 2, 100, .inl G_mirage)), (h0, .inr (9, oX9 rL sL)), ((rL 0), .inr (8, oX8 rR sR_17)), ((rL 1), .inr (4, oX4 rG sG_17)), ((rR 0), .inl (cy 1, 500, .inl R_text))] := hD
      refine lv_goto (tgt := 31) hx hb dX9_tellLine_20 (by decide) ?_
      obtain ⟨hz, h⟩ := h
      exact hret r17 (sL, sR_17, sG_17, G_towerCell, G_range, G_voice, G_strokes, G_isFalse, G_kind, G_home, G_water, G_mirage) _ _ _ _ hz dX9_tellLine_31 h (hP.sub [9, 10, 11, 12, 0, 1, 2, 3, 4, 5, 6, 7, 8] rfl) (hD.sub [9, 10, 11, 12, 0, 1, 2, 3, 4, 5, 6, 7, 8] (by decide) rfl) hS
def wpX9_tell_J46 (sL : AR) (sG : AR) (sR : AR) (G_towerCell : AR) (G_range : AR) (G_voice : AR) (G_strokes : AR) (G_isFalse : AR) (G_kind : AR) (G_home : AR) (G_water : AR) (G_mirage : AR) (R_text : AR) (l1 : Int32) (t1 : Int32) (kb : AR → AR → AR → AR → AR → AR → AR → AR → AR → AR → AR → AR → Int32 → Prop) (kx72 : AR → AR → AR → AR → AR → AR → AR → AR → AR → AR → AR → AR → Int32 → Prop) (post : Int32 → AR → AR → AR → AR → AR → AR → AR → AR → AR → AR → AR → AR → Prop) : Prop := wpX9_tellLine sL sR sG R_text G_towerCell G_range G_voice G_strokes G_isFalse G_kind G_home G_water G_mirage t1 (fun r46 sL_46 sR_46 sG_46 G_towerCell_46 G_range_46 G_voice_46 G_strokes_46 G_isFalse_46 G_kind_46 G_home_46 G_water_46 G_mirage_46 => ((r46 = 0 → post (0 : Int32) sL_46 sG_46 sR_46 G_towerCell_46 G_range_46 G_voice_46 G_strokes_46 G_isFalse_46 G_kind_46 G_home_46 G_water_46 G_mirage_46) ∧ (¬ r46 = 0 → wpX8_passSign sR_46 R_text (59 : Int32) (fun r58 sR_58 => ((¬ r58 = 0 → ∀ l1_66 : Int32, l1_66 = (l1 + (1 : Int32)) → kb sL_46 sG_46 sR_58 G_towerCell_46 G_range_46 G_voice_46 G_strokes_46 G_isFalse_46 G_kind_46 G_home_46 G_water_46 G_mirage_46 l1_66) ∧ (r58 = 0 → post (0 : Int32) sL_46 sG_46 sR_58 G_towerCell_46 G_range_46 G_voice_46 G_strokes_46 G_isFalse_46 G_kind_46 G_home_46 G_water_46 G_mirage_46))))))
def wpX9_tell_L19 (R_text : AR) (kx72 : AR → AR → AR → AR → AR → AR → AR → AR → AR → AR → AR → AR → Int32 → Prop) (post : Int32 → AR → AR → AR → AR → AR → AR → AR → AR → AR → AR → AR → AR → Prop) : Nat → AR → AR → AR → AR → AR → AR → AR → AR → AR → AR → AR → AR → Int32 → Prop
  | 0, _, _, _, _, _, _, _, _, _, _, _, _, _ => False
  | nf19 + 1, sL, sG, sR, G_towerCell, G_range, G_voice, G_strokes, G_isFalse, G_kind, G_home, G_water, G_mirage, l1 => (((500 : Int32) < l1 → kx72 sL sG sR G_towerCell G_range G_voice G_strokes G_isFalse G_kind G_home G_water G_mirage l1) ∧ (¬ (500 : Int32) < l1 → (((sR 7) = 0 → kx72 sL sG sR G_towerCell G_range G_voice G_strokes G_isFalse G_kind G_home G_water G_mirage l1) ∧ (¬ (sR 7) = 0 → ((¬ l1 = 0 → wpX9_tell_J46 sL sG sR G_towerCell G_range G_voice G_strokes G_isFalse G_kind G_home G_water G_mirage R_text l1 (0 : Int32) (fun b0 b1 b2 b3 b4 b5 b6 b7 b8 b9 b10 b11 b12 => wpX9_tell_L19 R_text kx72 post nf19 b0 b1 b2 b3 b4 b5 b6 b7 b8 b9 b10 b11 b12) kx72 post) ∧ (l1 = 0 → wpX9_tell_J46 sL sG sR G_towerCell G_range G_voice G_strokes G_isFalse G_kind G_home G_water G_mirage R_text l1 (1 : Int32) (fun b0 b1 b2 b3 b4 b5 b6 b7 b8 b9 b10 b11 b12 => wpX9_tell_L19 R_text kx72 post nf19 b0 b1 b2 b3 b4 b5 b6 b7 b8 b9 b10 b11 b12) kx72 post))))))
def wpX9_tell (sL : AR) (sG : AR) (sR : AR) (G_towerCell : AR) (G_range : AR) (G_voice : AR) (G_strokes : AR) (G_isFalse : AR) (G_kind : AR) (G_home : AR) (G_water : AR) (G_mirage : AR) (R_text : AR) (post : Int32 → AR → AR → AR → AR → AR → AR → AR → AR → AR → AR → AR → AR → Prop) : Prop := wpX4_clear sG G_mirage (fun sG_4 G_mirage_4 => ∃ nf19 : Nat, wpX9_tell_L19 R_text (fun sL_72 sG_72 sR_72 G_towerCell_72 G_range_72 G_voice_72 G_strokes_72 G_isFalse_72 G_kind_72 G_home_72 G_water_72 G_mirage_72 l1_72 => post (1 : Int32) sL_72 sG_72 sR_72 G_towerCell_72 G_range_72 G_voice_72 G_strokes_72 G_isFalse_72 G_kind_72 G_home_72 G_water_72 G_mirage_72) post nf19 (upd (upd sL 2 (0 : Int32)) 3 (0 : Int32)) sG_4 sR G_towerCell G_range G_voice G_strokes G_isFalse G_kind G_home G_water G_mirage_4 (0 : Int32))
set_option maxHeartbeats 4000000 in
set_option maxRecDepth 100000 in
theorem ctX9_tell (l : Launch) (D : va_G) (cy : Nat → ClassId) (ev : Nat → Nat) (h0 : Nat) (rL : Nat → Nat) (rG : Nat → Nat) (rR : Nat → Nat) (sL : AR) (sG : AR) (sR : AR) (G_towerCell : AR) (G_range : AR) (G_voice : AR) (G_strokes : AR) (G_isFalse : AR) (G_kind : AR) (G_home : AR) (G_water : AR) (G_mirage : AR) (R_text : AR) (sz : Nat) (post : Int32 → AR → AR → AR → AR → AR → AR → AR → AR → AR → AR → AR → AR → Prop) (h : wpX9_tell sL sG sR G_towerCell G_range G_voice G_strokes G_isFalse G_kind G_home G_water G_mirage R_text post) : Met l yX9_tell (Cond.code yX9_tell cX9_tell 2 (some .boolean) :: TB) ({ frames := 8, cells := 0, slots := 0, locals := 289 }) (va_Pc [.ref h0] (PreX D cy ev [(h0, .inr (9, oX9 rL sL)), ((rL 1), .inr (4, oX4 rG sG)), ((rL 0), .inr (8, oX8 rR sR)), ((rG 7), .inl (cy 0, 5, .inl G_towerCell)), ((rG 8), .inl (cy 0, 5, .inl G_range)), ((rG 9), .inl (cy 0, 5, .inl G_voice)), ((rG 10), .inl (cy 0, 5, .inl G_strokes)), ((rG 11), .inl (cy 2, 5, .inl G_isFalse)), ((rG 12), .inl (cy 0, 4, .inl G_kind)), ((rG 13), .inl (cy 0, 4, .inl G_home)), ((rG 14), .inl (cy 0, 4, .inl G_water)), ((rG 15), .inl (cy 2, 100, .inl G_mirage)), ((rR 0), .inl (cy 1, 500, .inl R_text))] sz)) (va_Qi (fun (r : Int32) (u : AR × AR × AR × AR × AR × AR × AR × AR × AR × AR × AR × AR) => post r (u.1) (u.2.1) (u.2.2.1) (u.2.2.2.1) (u.2.2.2.2.1) (u.2.2.2.2.2.1) (u.2.2.2.2.2.2.1) (u.2.2.2.2.2.2.2.1) (u.2.2.2.2.2.2.2.2.1) (u.2.2.2.2.2.2.2.2.2.1) (u.2.2.2.2.2.2.2.2.2.2.1) (u.2.2.2.2.2.2.2.2.2.2.2)) (fun u => BkX D cy [(h0, .inr (9, oX9 rL sL)), ((rL 1), .inr (4, oX4 rG sG)), ((rL 0), .inr (8, oX8 rR sR)), ((rG 7), .inl (cy 0, 5, .inl G_towerCell)), ((rG 8), .inl (cy 0, 5, .inl G_range)), ((rG 9), .inl (cy 0, 5, .inl G_voice)), ((rG 10), .inl (cy 0, 5, .inl G_strokes)), ((rG 11), .inl (cy 2, 5, .inl G_isFalse)), ((rG 12), .inl (cy 0, 4, .inl G_kind)), ((rG 13), .inl (cy 0, 4, .inl G_home)), ((rG 14), .inl (cy 0, 4, .inl G_water)), ((rG 15), .inl (cy 2, 100, .inl G_mirage)), ((rR 0), .inl (cy 1, 500, .inl R_text))] sz [(h0, .inr (9, oX9 rL (u.1))), ((rL 1), .inr (4, oX4 rG (u.2.1))), ((rL 0), .inr (8, oX8 rR (u.2.2.1))), ((rG 7), .inl (cy 0, 5, .inl (u.2.2.2.1))), ((rG 8), .inl (cy 0, 5, .inl (u.2.2.2.2.1))), ((rG 9), .inl (cy 0, 5, .inl (u.2.2.2.2.2.1))), ((rG 10), .inl (cy 0, 5, .inl (u.2.2.2.2.2.2.1))), ((rG 11), .inl (cy 2, 5, .inl (u.2.2.2.2.2.2.2.1))), ((rG 12), .inl (cy 0, 4, .inl (u.2.2.2.2.2.2.2.2.1))), ((rG 13), .inl (cy 0, 4, .inl (u.2.2.2.2.2.2.2.2.2.1))), ((rG 14), .inl (cy 0, 4, .inl (u.2.2.2.2.2.2.2.2.2.2.1))), ((rG 15), .inl (cy 2, 100, .inl (u.2.2.2.2.2.2.2.2.2.2.2))), ((rR 0), .inl (cy 1, 500, .inl R_text))]) (va_A [(h0, .inr (9, oX9 rL sL)), ((rL 1), .inr (4, oX4 rG sG)), ((rL 0), .inr (8, oX8 rR sR)), ((rG 7), .inl (cy 0, 5, .inl G_towerCell)), ((rG 8), .inl (cy 0, 5, .inl G_range)), ((rG 9), .inl (cy 0, 5, .inl G_voice)), ((rG 10), .inl (cy 0, 5, .inl G_strokes)), ((rG 11), .inl (cy 2, 5, .inl G_isFalse)), ((rG 12), .inl (cy 0, 4, .inl G_kind)), ((rG 13), .inl (cy 0, 4, .inl G_home)), ((rG 14), .inl (cy 0, 4, .inl G_water)), ((rG 15), .inl (cy 2, 100, .inl G_mirage)), ((rR 0), .inl (cy 1, 500, .inl R_text))] sz)) 0 0 (va_A [(h0, .inr (9, oX9 rL sL)), ((rL 1), .inr (4, oX4 rG sG)), ((rL 0), .inr (8, oX8 rR sR)), ((rG 7), .inl (cy 0, 5, .inl G_towerCell)), ((rG 8), .inl (cy 0, 5, .inl G_range)), ((rG 9), .inl (cy 0, 5, .inl G_voice)), ((rG 10), .inl (cy 0, 5, .inl G_strokes)), ((rG 11), .inl (cy 2, 5, .inl G_isFalse)), ((rG 12), .inl (cy 0, 4, .inl G_kind)), ((rG 13), .inl (cy 0, 4, .inl G_home)), ((rG 14), .inl (cy 0, 4, .inl G_water)), ((rG 15), .inl (cy 2, 100, .inl G_mirage)), ((rR 0), .inl (cy 1, 500, .inl R_text))] sz) := by
  refine ofWi (by decide) (Nat.le_of_ble_eq_true rfl) ?_
  intro p e s m args below meth c ls A R QQ hx hb hml hown hts hR hlk hE hK hP hD hS hA hl hret
  have hown : s.vm.findClass RX9 = some m.cls := hown
  have hRf : 8 ≤ R.frames := by rw [hR]; exact Nat.le_refl _
  have hRl : 289 ≤ R.locals := by rw [hR]; exact Nat.le_refl _
  clear hR
  have hl : lv_has ls 2 [(0, .ref h0)] := hl
  have L19 : ∀ (kx72 : AR → AR → AR → AR → AR → AR → AR → AR → AR → AR → AR → AR → Int32 → Prop), (∀ (sL : AR) (sG : AR) (sR : AR) (G_towerCell : AR) (G_range : AR) (G_voice : AR) (G_strokes : AR) (G_isFalse : AR) (G_kind : AR) (G_home : AR) (G_water : AR) (G_mirage : AR) (l1 : Int32) (H : Heap) (locs : List Loc) (ls : Array Slot), kx72 sL sG sR G_towerCell G_range G_voice G_strokes G_isFalse G_kind G_home G_water G_mirage l1 → va_P D clsX [(h0, .inr (9, oX9 rL sL)), ((rL 1), .inr (4, oX4 rG sG)), ((rL 0), .inr (8, oX8 rR sR)), ((rG 7), .inl (cy 0, 5, .inl G_towerCell)), ((rG 8), .inl (cy 0, 5, .inl G_range)), ((rG 9), .inl (cy 0, 5, .inl G_voice)), ((rG 10), .inl (cy 0, 5, .inl G_strokes)), ((rG 11), .inl (cy 2, 5, .inl G_isFalse)), ((rG 12), .inl (cy 0, 4, .inl G_kind)), ((rG 13), .inl (cy 0, 4, .inl G_home)), ((rG 14), .inl (cy 0, 4, .inl G_water)), ((rG 15), .inl (cy 2, 100, .inl G_mirage)), ((rR 0), .inl (cy 1, 500, .inl R_text))] H → va_D A [(h0, .inr (9, oX9 rL sL)), ((rL 1), .inr (4, oX4 rG sG)), ((rL 0), .inr (8, oX8 rR sR)), ((rG 7), .inl (cy 0, 5, .inl G_towerCell)), ((rG 8), .inl (cy 0, 5, .inl G_range)), ((rG 9), .inl (cy 0, 5, .inl G_voice)), ((rG 10), .inl (cy 0, 5, .inl G_strokes)), ((rG 11), .inl (cy 2, 5, .inl G_isFalse)), ((rG 12), .inl (cy 0, 4, .inl G_kind)), ((rG 13), .inl (cy 0, 4, .inl G_home)), ((rG 14), .inl (cy 0, 4, .inl G_water)), ((rG 15), .inl (cy 2, 100, .inl G_mirage)), ((rR 0), .inl (cy 1, 500, .inl R_text))] → va_S A s.heap H locs → lv_has ls 2 [(0, .ref h0)] → W p l e R s m args below meth c H locs 0 0 QQ (F0 m 72 ls [])) → ∀ (nf19 : Nat) (sL : AR) (sG : AR) (sR : AR) (G_towerCell : AR) (G_range : AR) (G_voice : AR) (G_strokes : AR) (G_isFalse : AR) (G_kind : AR) (G_home : AR) (G_water : AR) (G_mirage : AR) (l1 : Int32) (H : Heap) (locs : List Loc) (ls : Array Slot), wpX9_tell_L19 R_text kx72 post nf19 sL sG sR G_towerCell G_range G_voice G_strokes G_isFalse G_kind G_home G_water G_mirage l1 → va_P D clsX [(h0, .inr (9, oX9 rL sL)), ((rL 1), .inr (4, oX4 rG sG)), ((rL 0), .inr (8, oX8 rR sR)), ((rG 7), .inl (cy 0, 5, .inl G_towerCell)), ((rG 8), .inl (cy 0, 5, .inl G_range)), ((rG 9), .inl (cy 0, 5, .inl G_voice)), ((rG 10), .inl (cy 0, 5, .inl G_strokes)), ((rG 11), .inl (cy 2, 5, .inl G_isFalse)), ((rG 12), .inl (cy 0, 4, .inl G_kind)), ((rG 13), .inl (cy 0, 4, .inl G_home)), ((rG 14), .inl (cy 0, 4, .inl G_water)), ((rG 15), .inl (cy 2, 100, .inl G_mirage)), ((rR 0), .inl (cy 1, 500, .inl R_text))] H → va_D A [(h0, .inr (9, oX9 rL sL)), ((rL 1), .inr (4, oX4 rG sG)), ((rL 0), .inr (8, oX8 rR sR)), ((rG 7), .inl (cy 0, 5, .inl G_towerCell)), ((rG 8), .inl (cy 0, 5, .inl G_range)), ((rG 9), .inl (cy 0, 5, .inl G_voice)), ((rG 10), .inl (cy 0, 5, .inl G_strokes)), ((rG 11), .inl (cy 2, 5, .inl G_isFalse)), ((rG 12), .inl (cy 0, 4, .inl G_kind)), ((rG 13), .inl (cy 0, 4, .inl G_home)), ((rG 14), .inl (cy 0, 4, .inl G_water)), ((rG 15), .inl (cy 2, 100, .inl G_mirage)), ((rR 0), .inl (cy 1, 500, .inl R_text))] → va_S A s.heap H locs → lv_has ls 2 [(0, .ref h0), (1, .int l1)] → W p l e R s m args below meth c H locs 0 0 QQ (F0 m 19 ls []) := by
    intro kx72 hk19_72 nf19
    induction nf19 with
    | zero =>
      intro sL sG sR G_towerCell G_range G_voice G_strokes G_isFalse G_kind G_home G_water G_mirage l1 H locs ls h
      exact (show False from h).elim
    | succ nf19 ih19 =>
      intro sL sG sR G_towerCell G_range G_voice G_strokes G_isFalse G_kind G_home G_water G_mirage l1 H locs ls h hP hD hS hl
      have J46 : ∀ (sL : AR) (sG : AR) (sR : AR) (G_towerCell : AR) (G_range : AR) (G_voice : AR) (G_strokes : AR) (G_isFalse : AR) (G_kind : AR) (G_home : AR) (G_water : AR) (G_mirage : AR) (l1 : Int32) (t1 : Int32) (H : Heap) (locs : List Loc) (ls : Array Slot), wpX9_tell_J46 sL sG sR G_towerCell G_range G_voice G_strokes G_isFalse G_kind G_home G_water G_mirage R_text l1 t1 (fun b0 b1 b2 b3 b4 b5 b6 b7 b8 b9 b10 b11 b12 => wpX9_tell_L19 R_text kx72 post nf19 b0 b1 b2 b3 b4 b5 b6 b7 b8 b9 b10 b11 b12) kx72 post → va_P D clsX [(h0, .inr (9, oX9 rL sL)), ((rL 1), .inr (4, oX4 rG sG)), ((rL 0), .inr (8, oX8 rR sR)), ((rG 7), .inl (cy 0, 5, .inl G_towerCell)), ((rG 8), .inl (cy 0, 5, .inl G_range)), ((rG 9), .inl (cy 0, 5, .inl G_voice)), ((rG 10), .inl (cy 0, 5, .inl G_strokes)), ((rG 11), .inl (cy 2, 5, .inl G_isFalse)), ((rG 12), .inl (cy 0, 4, .inl G_kind)), ((rG 13), .inl (cy 0, 4, .inl G_home)), ((rG 14), .inl (cy 0, 4, .inl G_water)), ((rG 15), .inl (cy 2, 100, .inl G_mirage)), ((rR 0), .inl (cy 1, 500, .inl R_text))] H → va_D A [(h0, .inr (9, oX9 rL sL)), ((rL 1), .inr (4, oX4 rG sG)), ((rL 0), .inr (8, oX8 rR sR)), ((rG 7), .inl (cy 0, 5, .inl G_towerCell)), ((rG 8), .inl (cy 0, 5, .inl G_range)), ((rG 9), .inl (cy 0, 5, .inl G_voice)), ((rG 10), .inl (cy 0, 5, .inl G_strokes)), ((rG 11), .inl (cy 2, 5, .inl G_isFalse)), ((rG 12), .inl (cy 0, 4, .inl G_kind)), ((rG 13), .inl (cy 0, 4, .inl G_home)), ((rG 14), .inl (cy 0, 4, .inl G_water)), ((rG 15), .inl (cy 2, 100, .inl G_mirage)), ((rR 0), .inl (cy 1, 500, .inl R_text))] → va_S A s.heap H locs → lv_has ls 2 [(0, .ref h0), (1, .int l1)] → W p l e R s m args below meth c H locs 0 0 QQ (F0 m 46 ls [.int t1, .ref h0]) := by
        intro sL sG sR G_towerCell G_range G_voice G_strokes G_isFalse G_kind G_home G_water G_mirage l1 t1 H locs ls h hP hD hS hl
        refine clVi (As := [.int t1]) (rest := []) (Wr := []) (cq := (RX9, TX9, 4)) ⟨hx, hb, hml, hown, hts⟩ ⟨callB_of 1 hts (goodC mw745) rfl rfl rfl (hts _ (tb mw6)) (hts _ (tb mw742)) kdX9_tellLine ⟨Nat.le_trans (by decide) hRf, Nat.le_trans (by decide) hRl⟩, hts _ (tb mw744), hts _ (tb ms12)⟩ (ctX9_tellLine l D cy ev h0 rL rR rG sL sR sG R_text G_towerCell G_range G_voice G_strokes G_isFalse G_kind G_home G_water G_mirage t1 _ _ h) hE hK hP hD hS hA [0, 2, 1, 12, 3, 4, 5, 6, 7, 8, 9, 10, 11] [] rfl rfl (by decide) (by decide) (by decide) 0 rfl rfl rfl hl.1 rfl (Nat.le_of_ble_eq_true rfl) ⟨Nat.zero_le _, Nat.zero_le _⟩ dX9_tell_46 (fun r46 u H locs h hP hD hS => ?_)
        obtain ⟨sL_46, sR_46, sG_46, G_towerCell_46, G_range_46, G_voice_46, G_strokes_46, G_isFalse_46, G_kind_46, G_home_46, G_water_46, G_mirage_46⟩ := u
        have hP : va_P D clsX [(h0, .inr (9, oX9 rL sL_46)), ((rL 0), .inr (8, oX8 rR sR_46)), ((rL 1), .inr (4, oX4 rG sG_46)), ((rR 0), .inl (cy 1, 500, .inl R_text)), ((rG 7), .inl (cy 0, 5, .inl G_towerCell_46)), ((rG 8), .inl (cy 0, 5, .inl G_range_46)), ((rG 9), .inl (cy 0, 5, .inl G_voice_46)), ((rG 10), .inl (cy 0, 5, .inl G_strokes_46)), ((rG 11), .inl (cy 2, 5, .inl G_isFalse_46)), ((rG 12), .inl (cy 0, 4, .inl G_kind_46)), ((rG 13), .inl (cy 0, 4, .inl G_home_46)), ((rG 14), .inl (cy 0, 4, .inl G_water_46)), ((rG 15), .inl (cy 2, 100, .inl G_mirage_46))] H := hP
        have hD : va_D A [(h0, .inr (9, oX9 rL sL_46)), ((rL 0), .inr (8, oX8 rR sR_46)), ((rL 1), .inr (4, oX4 rG sG_46)), ((rR 0), .inl (cy 1, 500, .inl R_text)), ((rG 7), .inl (cy 0, 5, .inl G_towerCell_46)), ((rG 8), .inl (cy 0, 5, .inl G_range_46)), ((rG 9), .inl (cy 0, 5, .inl G_voice_46)), ((rG 10), .inl (cy 0, 5, .inl G_strokes_46)), ((rG 11), .inl (cy 2, 5, .inl G_isFalse_46)), ((rG 12), .inl (cy 0, 4, .inl G_kind_46)), ((rG 13), .inl (cy 0, 4, .inl G_home_46)), ((rG 14), .inl (cy 0, 4, .inl G_water_46)), ((rG 15), .inl (cy 2, 100, .inl G_mirage_46))] := hD
        refine lv_if_eq (tgt := 64) hx hb dX9_tell_49 (by decide) (fun c49 => ?_) (fun c49 => ?_)
        · have h := h.1 c49
          refine lv_iconst (v := (0 : Int32)) hx hb dX9_tell_64 (by decide) ?_
          exact hret (0 : Int32) (sL_46, sG_46, sR_46, G_towerCell_46, G_range_46, G_voice_46, G_strokes_46, G_isFalse_46, G_kind_46, G_home_46, G_water_46, G_mirage_46) _ _ _ _ rfl dX9_tell_65 h (hP.sub [0, 2, 1, 4, 5, 6, 7, 8, 9, 10, 11, 12, 3] rfl) (hD.sub [0, 2, 1, 4, 5, 6, 7, 8, 9, 10, 11, 12, 3] (by decide) rfl) hS
        · have h := h.2 c49
          refine lv_aload_n hx hb dX9_tell_52 rfl (lv_at hl 0 rfl) ?_
          refine gfX9_9 hx hb hts hown hK hP 0 rfl dX9_tell_53 ?_
          refine lv_bipush (v := (59 : Int32)) hx hb dX9_tell_56 (by decide) ?_
          refine clVi (As := [.int (59 : Int32)]) (rest := []) (Wr := [(h0, .inr (9, oX9 rL sL_46)), ((rL 1), .inr (4, oX4 rG sG_46)), ((rG 7), .inl (cy 0, 5, .inl G_towerCell_46)), ((rG 8), .inl (cy 0, 5, .inl G_range_46)), ((rG 9), .inl (cy 0, 5, .inl G_voice_46)), ((rG 10), .inl (cy 0, 5, .inl G_strokes_46)), ((rG 11), .inl (cy 2, 5, .inl G_isFalse_46)), ((rG 12), .inl (cy 0, 4, .inl G_kind_46)), ((rG 13), .inl (cy 0, 4, .inl G_home_46)), ((rG 14), .inl (cy 0, 4, .inl G_water_46)), ((rG 15), .inl (cy 2, 100, .inl G_mirage_46))]) (cq := (RX8, TX8, 10)) ⟨hx, hb, hml, hown, hts⟩ ⟨callB_of 1 hts (goodC mw875) rfl rfl rfl (hts _ (tb mw2)) (hts _ (tb mw872)) kdX8_passSign ⟨Nat.le_trans (by decide) hRf, Nat.le_trans (by decide) hRl⟩, hts _ (tb mw873), hts _ (tb mw874)⟩ (ctX8_passSign l D cy ev (rL 0) rR sR_46 R_text (59 : Int32) _ _ h) hE hK hP hD hS hA [1, 3] [0, 2, 4, 5, 6, 7, 8, 9, 10, 11, 12] rfl rfl (by decide) (by decide) (by decide) 0 rfl rfl rfl hl.1 rfl (Nat.le_of_ble_eq_true rfl) ⟨Nat.zero_le _, Nat.zero_le _⟩ dX9_tell_58 (fun r58 sR_58 H locs h hP hD hS => ?_)
          have hP : va_P D clsX [(h0, .inr (9, oX9 rL sL_46)), ((rL 1), .inr (4, oX4 rG sG_46)), ((rG 7), .inl (cy 0, 5, .inl G_towerCell_46)), ((rG 8), .inl (cy 0, 5, .inl G_range_46)), ((rG 9), .inl (cy 0, 5, .inl G_voice_46)), ((rG 10), .inl (cy 0, 5, .inl G_strokes_46)), ((rG 11), .inl (cy 2, 5, .inl G_isFalse_46)), ((rG 12), .inl (cy 0, 4, .inl G_kind_46)), ((rG 13), .inl (cy 0, 4, .inl G_home_46)), ((rG 14), .inl (cy 0, 4, .inl G_water_46)), ((rG 15), .inl (cy 2, 100, .inl G_mirage_46)), ((rL 0), .inr (8, oX8 rR sR_58)), ((rR 0), .inl (cy 1, 500, .inl R_text))] H := hP
          have hD : va_D A [(h0, .inr (9, oX9 rL sL_46)), ((rL 1), .inr (4, oX4 rG sG_46)), ((rG 7), .inl (cy 0, 5, .inl G_towerCell_46)), ((rG 8), .inl (cy 0, 5, .inl G_range_46)), ((rG 9), .inl (cy 0, 5, .inl G_voice_46)), ((rG 10), .inl (cy 0, 5, .inl G_strokes_46)), ((rG 11), .inl (cy 2, 5, .inl G_isFalse_46)), ((rG 12), .inl (cy 0, 4, .inl G_kind_46)), ((rG 13), .inl (cy 0, 4, .inl G_home_46)), ((rG 14), .inl (cy 0, 4, .inl G_water_46)), ((rG 15), .inl (cy 2, 100, .inl G_mirage_46)), ((rL 0), .inr (8, oX8 rR sR_58)), ((rR 0), .inl (cy 1, 500, .inl R_text))] := hD
          refine lv_if_ne (tgt := 66) hx hb dX9_tell_61 (by decide) (fun c61 => ?_) (fun c61 => ?_)
          · have h := h.1 c61
            obtain ⟨l1_66, el1_66⟩ : ∃ y : Int32, y = l1 + (1 : Int32) := ⟨_, rfl⟩
            have h := h l1_66 el1_66
            refine lv_iinc (v := l1_66) (lv' := [(1, .int l1_66), (0, .ref h0)]) hx hb dX9_tell_66 hl (k := 1) rfl (by rw [el1_66]; rfl) (by decide) rfl (fun ls hl => ?_)
            refine lv_goto (tgt := 19) hx hb dX9_tell_69 (by decide) ?_
            exact ih19 sL_46 sG_46 sR_58 G_towerCell_46 G_range_46 G_voice_46 G_strokes_46 G_isFalse_46 G_kind_46 G_home_46 G_water_46 G_mirage_46 l1_66 _ _ _ h (hP.sub [0, 1, 11, 2, 3, 4, 5, 6, 7, 8, 9, 10, 12] rfl) (hD.sub [0, 1, 11, 2, 3, 4, 5, 6, 7, 8, 9, 10, 12] (by decide) rfl) hS (lv_sub hl [1, 0] rfl)
          · have h := h.2 c61
            refine lv_iconst (v := (0 : Int32)) hx hb dX9_tell_64 (by decide) ?_
            exact hret (0 : Int32) (sL_46, sG_46, sR_58, G_towerCell_46, G_range_46, G_voice_46, G_strokes_46, G_isFalse_46, G_kind_46, G_home_46, G_water_46, G_mirage_46) _ _ _ _ rfl dX9_tell_65 h (hP.sub [0, 1, 11, 2, 3, 4, 5, 6, 7, 8, 9, 10, 12] rfl) (hD.sub [0, 1, 11, 2, 3, 4, 5, 6, 7, 8, 9, 10, 12] (by decide) rfl) hS
      refine lv_iload_n hx hb dX9_tell_19 rfl (lv_at hl 1 rfl) ?_
      refine lv_sipush (v := (500 : Int32)) hx hb dX9_tell_20 (by decide) ?_
      refine lv_icmp_gt (tgt := 72) hx hb dX9_tell_23 (by decide) (fun c23 => ?_) (fun c23 => ?_)
      · have h := h.1 c23
        exact hk19_72 sL sG sR G_towerCell G_range G_voice G_strokes G_isFalse G_kind G_home G_water G_mirage l1 _ _ _ h hP hD hS (lv_sub hl [0] rfl)
      · have h := h.2 c23
        refine lv_aload_n hx hb dX9_tell_26 rfl (lv_at hl 0 rfl) ?_
        refine gfX9_9 hx hb hts hown hK hP 0 rfl dX9_tell_27 ?_
        refine gfX9_31 (v := (sR 7)) hx hb hts hown hK hP 2 rfl rfl dX9_tell_30 ?_
        refine lv_if_eq (tgt := 72) hx hb dX9_tell_33 (by decide) (fun c33 => ?_) (fun c33 => ?_)
        · have h := h.1 c33
          exact hk19_72 sL sG sR G_towerCell G_range G_voice G_strokes G_isFalse G_kind G_home G_water G_mirage l1 _ _ _ h hP hD hS (lv_sub hl [0] rfl)
        · have h := h.2 c33
          refine lv_aload_n hx hb dX9_tell_36 rfl (lv_at hl 0 rfl) ?_
          refine lv_iload_n hx hb dX9_tell_37 rfl (lv_at hl 1 rfl) ?_
          refine lv_if_ne (tgt := 45) hx hb dX9_tell_38 (by decide) (fun c38 => ?_) (fun c38 => ?_)
          · have h := h.1 c38
            refine lv_iconst (v := (0 : Int32)) hx hb dX9_tell_45 (by decide) ?_
            exact J46 sL sG sR G_towerCell G_range G_voice G_strokes G_isFalse G_kind G_home G_water G_mirage l1 (0 : Int32) _ _ _ h hP hD hS hl
          · have h := h.2 c38
            refine lv_iconst (v := (1 : Int32)) hx hb dX9_tell_41 (by decide) ?_
            refine lv_goto (tgt := 46) hx hb dX9_tell_42 (by decide) ?_
            exact J46 sL sG sR G_towerCell G_range G_voice G_strokes G_isFalse G_kind G_home G_water G_mirage l1 (1 : Int32) _ _ _ h hP hD hS hl
  refine lv_aload_n hx hb dX9_tell_0 rfl (lv_at hl 0 rfl) ?_
  refine gfX9_15 hx hb hts hown hK hP 0 rfl dX9_tell_1 ?_
  refine clVv (As := []) (rest := []) (Wr := [(h0, .inr (9, oX9 rL sL)), ((rL 0), .inr (8, oX8 rR sR)), ((rG 7), .inl (cy 0, 5, .inl G_towerCell)), ((rG 8), .inl (cy 0, 5, .inl G_range)), ((rG 9), .inl (cy 0, 5, .inl G_voice)), ((rG 10), .inl (cy 0, 5, .inl G_strokes)), ((rG 11), .inl (cy 2, 5, .inl G_isFalse)), ((rG 12), .inl (cy 0, 4, .inl G_kind)), ((rG 13), .inl (cy 0, 4, .inl G_home)), ((rG 14), .inl (cy 0, 4, .inl G_water)), ((rR 0), .inl (cy 1, 500, .inl R_text))]) (cq := (RX4, TX4, 16)) ⟨hx, hb, hml, hown, hts⟩ ⟨callB_of 0 hts (goodC mw382) rfl rfl rfl (hts _ (tb mw3)) (hts _ (tb mw741)) kdX4_clear ⟨Nat.le_trans (by decide) hRf, Nat.le_trans (by decide) hRl⟩, hts _ (tb mw380), hts _ (tb mw381)⟩ (ctX4_clear l D cy ev (rL 1) rG sG G_mirage  _ _ h) hE hK hP hD hS hA [1, 11] [0, 2, 3, 4, 5, 6, 7, 8, 9, 10, 12] rfl rfl (by decide) (by decide) (by decide) 0 rfl rfl rfl hl.1 rfl (Nat.le_of_ble_eq_true rfl) ⟨Nat.zero_le _, Nat.zero_le _⟩ dX9_tell_4 (fun u H locs h hP hD hS => ?_)
  obtain ⟨sG_4, G_mirage_4⟩ := u
  have hP : va_P D clsX [(h0, .inr (9, oX9 rL sL)), ((rL 0), .inr (8, oX8 rR sR)), ((rG 7), .inl (cy 0, 5, .inl G_towerCell)), ((rG 8), .inl (cy 0, 5, .inl G_range)), ((rG 9), .inl (cy 0, 5, .inl G_voice)), ((rG 10), .inl (cy 0, 5, .inl G_strokes)), ((rG 11), .inl (cy 2, 5, .inl G_isFalse)), ((rG 12), .inl (cy 0, 4, .inl G_kind)), ((rG 13), .inl (cy 0, 4, .inl G_home)), ((rG 14), .inl (cy 0, 4, .inl G_water)), ((rR 0), .inl (cy 1, 500, .inl R_text)), ((rL 1), .inr (4, oX4 rG sG_4)), ((rG 15), .inl (cy 2, 100, .inl G_mirage_4))] H := hP
  have hD : va_D A [(h0, .inr (9, oX9 rL sL)), ((rL 0), .inr (8, oX8 rR sR)), ((rG 7), .inl (cy 0, 5, .inl G_towerCell)), ((rG 8), .inl (cy 0, 5, .inl G_range)), ((rG 9), .inl (cy 0, 5, .inl G_voice)), ((rG 10), .inl (cy 0, 5, .inl G_strokes)), ((rG 11), .inl (cy 2, 5, .inl G_isFalse)), ((rG 12), .inl (cy 0, 4, .inl G_kind)), ((rG 13), .inl (cy 0, 4, .inl G_home)), ((rG 14), .inl (cy 0, 4, .inl G_water)), ((rR 0), .inl (cy 1, 500, .inl R_text)), ((rL 1), .inr (4, oX4 rG sG_4)), ((rG 15), .inl (cy 2, 100, .inl G_mirage_4))] := hD
  refine lv_aload_n hx hb dX9_tell_7 rfl (lv_at hl 0 rfl) ?_
  refine lv_iconst (v := (0 : Int32)) hx hb dX9_tell_8 (by decide) ?_
  refine pfX9_24 hx hb hts hown hK hP hD hS 0 rfl rfl dX9_tell_9 (fun H locs hP hD hS => ?_)
  have hP : va_P D clsX [(h0, .inr (9, oX9 rL (upd sL 2 (0 : Int32)))), ((rL 0), .inr (8, oX8 rR sR)), ((rG 7), .inl (cy 0, 5, .inl G_towerCell)), ((rG 8), .inl (cy 0, 5, .inl G_range)), ((rG 9), .inl (cy 0, 5, .inl G_voice)), ((rG 10), .inl (cy 0, 5, .inl G_strokes)), ((rG 11), .inl (cy 2, 5, .inl G_isFalse)), ((rG 12), .inl (cy 0, 4, .inl G_kind)), ((rG 13), .inl (cy 0, 4, .inl G_home)), ((rG 14), .inl (cy 0, 4, .inl G_water)), ((rR 0), .inl (cy 1, 500, .inl R_text)), ((rL 1), .inr (4, oX4 rG sG_4)), ((rG 15), .inl (cy 2, 100, .inl G_mirage_4))] H := hP
  have hD : va_D A [(h0, .inr (9, oX9 rL (upd sL 2 (0 : Int32)))), ((rL 0), .inr (8, oX8 rR sR)), ((rG 7), .inl (cy 0, 5, .inl G_towerCell)), ((rG 8), .inl (cy 0, 5, .inl G_range)), ((rG 9), .inl (cy 0, 5, .inl G_voice)), ((rG 10), .inl (cy 0, 5, .inl G_strokes)), ((rG 11), .inl (cy 2, 5, .inl G_isFalse)), ((rG 12), .inl (cy 0, 4, .inl G_kind)), ((rG 13), .inl (cy 0, 4, .inl G_home)), ((rG 14), .inl (cy 0, 4, .inl G_water)), ((rR 0), .inl (cy 1, 500, .inl R_text)), ((rL 1), .inr (4, oX4 rG sG_4)), ((rG 15), .inl (cy 2, 100, .inl G_mirage_4))] := hD
  refine lv_aload_n hx hb dX9_tell_12 rfl (lv_at hl 0 rfl) ?_
  refine lv_iconst (v := (0 : Int32)) hx hb dX9_tell_13 (by decide) ?_
  refine pfX9_28 hx hb hts hown hK hP hD hS 0 rfl rfl dX9_tell_14 (fun H locs hP hD hS => ?_)
  have hP : va_P D clsX [(h0, .inr (9, oX9 rL (upd (upd sL 2 (0 : Int32)) 3 (0 : Int32)))), ((rL 0), .inr (8, oX8 rR sR)), ((rG 7), .inl (cy 0, 5, .inl G_towerCell)), ((rG 8), .inl (cy 0, 5, .inl G_range)), ((rG 9), .inl (cy 0, 5, .inl G_voice)), ((rG 10), .inl (cy 0, 5, .inl G_strokes)), ((rG 11), .inl (cy 2, 5, .inl G_isFalse)), ((rG 12), .inl (cy 0, 4, .inl G_kind)), ((rG 13), .inl (cy 0, 4, .inl G_home)), ((rG 14), .inl (cy 0, 4, .inl G_water)), ((rR 0), .inl (cy 1, 500, .inl R_text)), ((rL 1), .inr (4, oX4 rG sG_4)), ((rG 15), .inl (cy 2, 100, .inl G_mirage_4))] H := hP
  have hD : va_D A [(h0, .inr (9, oX9 rL (upd (upd sL 2 (0 : Int32)) 3 (0 : Int32)))), ((rL 0), .inr (8, oX8 rR sR)), ((rG 7), .inl (cy 0, 5, .inl G_towerCell)), ((rG 8), .inl (cy 0, 5, .inl G_range)), ((rG 9), .inl (cy 0, 5, .inl G_voice)), ((rG 10), .inl (cy 0, 5, .inl G_strokes)), ((rG 11), .inl (cy 2, 5, .inl G_isFalse)), ((rG 12), .inl (cy 0, 4, .inl G_kind)), ((rG 13), .inl (cy 0, 4, .inl G_home)), ((rG 14), .inl (cy 0, 4, .inl G_water)), ((rR 0), .inl (cy 1, 500, .inl R_text)), ((rL 1), .inr (4, oX4 rG sG_4)), ((rG 15), .inl (cy 2, 100, .inl G_mirage_4))] := hD
  refine lv_iconst (v := (0 : Int32)) hx hb dX9_tell_17 (by decide) ?_
  refine lv_istore_n (lv' := [(1, .int (0 : Int32)), (0, .ref h0)]) hx hb dX9_tell_18 rfl hl (by decide) rfl (fun ls hl => ?_)
  obtain ⟨nf19, h⟩ := h
  refine L19  _ (fun sL_72 sG_72 sR_72 G_towerCell_72 G_range_72 G_voice_72 G_strokes_72 G_isFalse_72 G_kind_72 G_home_72 G_water_72 G_mirage_72 l1_72 H locs ls h hP hD hS hl => ?_) nf19 (upd (upd sL 2 (0 : Int32)) 3 (0 : Int32)) sG_4 sR G_towerCell G_range G_voice G_strokes G_isFalse G_kind G_home G_water G_mirage_4 (0 : Int32) _ _ _ h (hP.sub [0, 11, 1, 2, 3, 4, 5, 6, 7, 8, 9, 12, 10] rfl) (hD.sub [0, 11, 1, 2, 3, 4, 5, 6, 7, 8, 9, 12, 10] (by decide) rfl) hS (lv_sub hl [1, 0] rfl)
  refine lv_iconst (v := (1 : Int32)) hx hb dX9_tell_72 (by decide) ?_
  exact hret (1 : Int32) (sL_72, sG_72, sR_72, G_towerCell_72, G_range_72, G_voice_72, G_strokes_72, G_isFalse_72, G_kind_72, G_home_72, G_water_72, G_mirage_72) _ _ _ _ rfl dX9_tell_73 h hP hD hS
