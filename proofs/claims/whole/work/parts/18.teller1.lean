theorem dX9_tellSize_0 : decode cX9_tellSize 0 = .ok (.aload_n 0, 1) := by decide +kernel
theorem dX9_tellSize_1 : decode cX9_tellSize 1 = .ok (.getfield 9, 3) := by decide +kernel
theorem dX9_tellSize_4 : decode cX9_tellSize 4 = .ok (.invokevirtual 98, 3) := by decide +kernel
theorem dX9_tellSize_7 : decode cX9_tellSize 7 = .ok (.aload_n 0, 1) := by decide +kernel
theorem dX9_tellSize_8 : decode cX9_tellSize 8 = .ok (.getfield 9, 3) := by decide +kernel
theorem dX9_tellSize_11 : decode cX9_tellSize 11 = .ok (.iconst 2, 1) := by decide +kernel
theorem dX9_tellSize_12 : decode cX9_tellSize 12 = .ok (.bipush 10, 2) := by decide +kernel
theorem dX9_tellSize_14 : decode cX9_tellSize 14 = .ok (.invokevirtual 101, 3) := by decide +kernel
theorem dX9_tellSize_17 : decode cX9_tellSize 17 = .ok (.istore_n 1, 1) := by decide +kernel
theorem dX9_tellSize_18 : decode cX9_tellSize 18 = .ok (.iload_n 1, 1) := by decide +kernel
theorem dX9_tellSize_19 : decode cX9_tellSize 19 = .ok (.iconst (-1), 1) := by decide +kernel
theorem dX9_tellSize_20 : decode cX9_tellSize 20 = .ok (.if_icmp .ne 5, 3) := by decide +kernel
theorem dX9_tellSize_23 : decode cX9_tellSize 23 = .ok (.iconst 0, 1) := by decide +kernel
theorem dX9_tellSize_24 : decode cX9_tellSize 24 = .ok (.ireturn, 1) := by decide +kernel
theorem dX9_tellSize_25 : decode cX9_tellSize 25 = .ok (.aload_n 0, 1) := by decide +kernel
theorem dX9_tellSize_26 : decode cX9_tellSize 26 = .ok (.getfield 9, 3) := by decide +kernel
theorem dX9_tellSize_29 : decode cX9_tellSize 29 = .ok (.iconst 2, 1) := by decide +kernel
theorem dX9_tellSize_30 : decode cX9_tellSize 30 = .ok (.bipush 10, 2) := by decide +kernel
theorem dX9_tellSize_32 : decode cX9_tellSize 32 = .ok (.invokevirtual 101, 3) := by decide +kernel
theorem dX9_tellSize_35 : decode cX9_tellSize 35 = .ok (.istore_n 2, 1) := by decide +kernel
theorem dX9_tellSize_36 : decode cX9_tellSize 36 = .ok (.iload_n 2, 1) := by decide +kernel
theorem dX9_tellSize_37 : decode cX9_tellSize 37 = .ok (.iconst (-1), 1) := by decide +kernel
theorem dX9_tellSize_38 : decode cX9_tellSize 38 = .ok (.if_icmp .ne 5, 3) := by decide +kernel
theorem dX9_tellSize_41 : decode cX9_tellSize 41 = .ok (.iconst 0, 1) := by decide +kernel
theorem dX9_tellSize_42 : decode cX9_tellSize 42 = .ok (.ireturn, 1) := by decide +kernel
theorem dX9_tellSize_43 : decode cX9_tellSize 43 = .ok (.aload_n 0, 1) := by decide +kernel
theorem dX9_tellSize_44 : decode cX9_tellSize 44 = .ok (.getfield 15, 3) := by decide +kernel
theorem dX9_tellSize_47 : decode cX9_tellSize 47 = .ok (.iload_n 1, 1) := by decide +kernel
theorem dX9_tellSize_48 : decode cX9_tellSize 48 = .ok (.putfield 105, 3) := by decide +kernel
theorem dX9_tellSize_51 : decode cX9_tellSize 51 = .ok (.aload_n 0, 1) := by decide +kernel
theorem dX9_tellSize_52 : decode cX9_tellSize 52 = .ok (.getfield 15, 3) := by decide +kernel
theorem dX9_tellSize_55 : decode cX9_tellSize 55 = .ok (.iload_n 2, 1) := by decide +kernel
theorem dX9_tellSize_56 : decode cX9_tellSize 56 = .ok (.putfield 108, 3) := by decide +kernel
theorem dX9_tellSize_59 : decode cX9_tellSize 59 = .ok (.iconst 1, 1) := by decide +kernel
theorem dX9_tellSize_60 : decode cX9_tellSize 60 = .ok (.ireturn, 1) := by decide +kernel
theorem dX9_tellCell_0 : decode cX9_tellCell 0 = .ok (.aload_n 0, 1) := by decide +kernel
theorem dX9_tellCell_1 : decode cX9_tellCell 1 = .ok (.getfield 9, 3) := by decide +kernel
theorem dX9_tellCell_4 : decode cX9_tellCell 4 = .ok (.iconst 0, 1) := by decide +kernel
theorem dX9_tellCell_5 : decode cX9_tellCell 5 = .ok (.aload_n 0, 1) := by decide +kernel
theorem dX9_tellCell_6 : decode cX9_tellCell 6 = .ok (.getfield 15, 3) := by decide +kernel
theorem dX9_tellCell_9 : decode cX9_tellCell 9 = .ok (.getfield 105, 3) := by decide +kernel
theorem dX9_tellCell_12 : decode cX9_tellCell 12 = .ok (.iconst 1, 1) := by decide +kernel
theorem dX9_tellCell_13 : decode cX9_tellCell 13 = .ok (.isub, 1) := by decide +kernel
theorem dX9_tellCell_14 : decode cX9_tellCell 14 = .ok (.invokevirtual 101, 3) := by decide +kernel
theorem dX9_tellCell_17 : decode cX9_tellCell 17 = .ok (.istore_n 1, 1) := by decide +kernel
theorem dX9_tellCell_18 : decode cX9_tellCell 18 = .ok (.iload_n 1, 1) := by decide +kernel
theorem dX9_tellCell_19 : decode cX9_tellCell 19 = .ok (.iconst (-1), 1) := by decide +kernel
theorem dX9_tellCell_20 : decode cX9_tellCell 20 = .ok (.if_icmp .ne 5, 3) := by decide +kernel
theorem dX9_tellCell_23 : decode cX9_tellCell 23 = .ok (.iconst (-1), 1) := by decide +kernel
theorem dX9_tellCell_24 : decode cX9_tellCell 24 = .ok (.ireturn, 1) := by decide +kernel
theorem dX9_tellCell_25 : decode cX9_tellCell 25 = .ok (.aload_n 0, 1) := by decide +kernel
theorem dX9_tellCell_26 : decode cX9_tellCell 26 = .ok (.getfield 9, 3) := by decide +kernel
theorem dX9_tellCell_29 : decode cX9_tellCell 29 = .ok (.iconst 0, 1) := by decide +kernel
theorem dX9_tellCell_30 : decode cX9_tellCell 30 = .ok (.aload_n 0, 1) := by decide +kernel
theorem dX9_tellCell_31 : decode cX9_tellCell 31 = .ok (.getfield 15, 3) := by decide +kernel
theorem dX9_tellCell_34 : decode cX9_tellCell 34 = .ok (.getfield 108, 3) := by decide +kernel
theorem dX9_tellCell_37 : decode cX9_tellCell 37 = .ok (.iconst 1, 1) := by decide +kernel
theorem dX9_tellCell_38 : decode cX9_tellCell 38 = .ok (.isub, 1) := by decide +kernel
theorem dX9_tellCell_39 : decode cX9_tellCell 39 = .ok (.invokevirtual 101, 3) := by decide +kernel
theorem dX9_tellCell_42 : decode cX9_tellCell 42 = .ok (.istore_n 2, 1) := by decide +kernel
theorem dX9_tellCell_43 : decode cX9_tellCell 43 = .ok (.iload_n 2, 1) := by decide +kernel
theorem dX9_tellCell_44 : decode cX9_tellCell 44 = .ok (.iconst (-1), 1) := by decide +kernel
theorem dX9_tellCell_45 : decode cX9_tellCell 45 = .ok (.if_icmp .ne 7, 3) := by decide +kernel
theorem dX9_tellCell_48 : decode cX9_tellCell 48 = .ok (.iconst (-1), 1) := by decide +kernel
theorem dX9_tellCell_49 : decode cX9_tellCell 49 = .ok (.goto 14, 3) := by decide +kernel
theorem dX9_tellCell_52 : decode cX9_tellCell 52 = .ok (.aload_n 0, 1) := by decide +kernel
theorem dX9_tellCell_53 : decode cX9_tellCell 53 = .ok (.getfield 15, 3) := by decide +kernel
theorem dX9_tellCell_56 : decode cX9_tellCell 56 = .ok (.getfield 105, 3) := by decide +kernel
theorem dX9_tellCell_59 : decode cX9_tellCell 59 = .ok (.iload_n 2, 1) := by decide +kernel
theorem dX9_tellCell_60 : decode cX9_tellCell 60 = .ok (.imul, 1) := by decide +kernel
theorem dX9_tellCell_61 : decode cX9_tellCell 61 = .ok (.iload_n 1, 1) := by decide +kernel
theorem dX9_tellCell_62 : decode cX9_tellCell 62 = .ok (.iadd, 1) := by decide +kernel
theorem dX9_tellCell_63 : decode cX9_tellCell 63 = .ok (.ireturn, 1) := by decide +kernel
theorem dX9_tellWalker_0 : decode cX9_tellWalker 0 = .ok (.aload_n 0, 1) := by decide +kernel
theorem dX9_tellWalker_1 : decode cX9_tellWalker 1 = .ok (.getfield 15, 3) := by decide +kernel
theorem dX9_tellWalker_4 : decode cX9_tellWalker 4 = .ok (.getfield 146, 3) := by decide +kernel
theorem dX9_tellWalker_7 : decode cX9_tellWalker 7 = .ok (.istore_n 2, 1) := by decide +kernel
theorem dX9_tellWalker_8 : decode cX9_tellWalker 8 = .ok (.iload_n 2, 1) := by decide +kernel
theorem dX9_tellWalker_9 : decode cX9_tellWalker 9 = .ok (.iconst 4, 1) := by decide +kernel
theorem dX9_tellWalker_10 : decode cX9_tellWalker 10 = .ok (.if_icmp .lt 12, 3) := by decide +kernel
theorem dX9_tellWalker_13 : decode cX9_tellWalker 13 = .ok (.aload_n 0, 1) := by decide +kernel
theorem dX9_tellWalker_14 : decode cX9_tellWalker 14 = .ok (.getfield 9, 3) := by decide +kernel
theorem dX9_tellWalker_17 : decode cX9_tellWalker 17 = .ok (.iconst 2, 1) := by decide +kernel
theorem dX9_tellWalker_18 : decode cX9_tellWalker 18 = .ok (.invokevirtual 55, 3) := by decide +kernel
theorem dX9_tellWalker_21 : decode cX9_tellWalker 21 = .ok (.ireturn, 1) := by decide +kernel
theorem dX9_tellWalker_22 : decode cX9_tellWalker 22 = .ok (.aload_n 0, 1) := by decide +kernel
theorem dX9_tellWalker_23 : decode cX9_tellWalker 23 = .ok (.getfield 9, 3) := by decide +kernel
theorem dX9_tellWalker_26 : decode cX9_tellWalker 26 = .ok (.invokevirtual 98, 3) := by decide +kernel
theorem dX9_tellWalker_29 : decode cX9_tellWalker 29 = .ok (.aload_n 0, 1) := by decide +kernel
theorem dX9_tellWalker_30 : decode cX9_tellWalker 30 = .ok (.invokevirtual 114, 3) := by decide +kernel
theorem dX9_tellWalker_33 : decode cX9_tellWalker 33 = .ok (.istore_n 3, 1) := by decide +kernel
theorem dX9_tellWalker_34 : decode cX9_tellWalker 34 = .ok (.iload_n 3, 1) := by decide +kernel
theorem dX9_tellWalker_35 : decode cX9_tellWalker 35 = .ok (.iconst (-1), 1) := by decide +kernel
theorem dX9_tellWalker_36 : decode cX9_tellWalker 36 = .ok (.if_icmp .ne 5, 3) := by decide +kernel
theorem dX9_tellWalker_39 : decode cX9_tellWalker 39 = .ok (.iconst 0, 1) := by decide +kernel
theorem dX9_tellWalker_40 : decode cX9_tellWalker 40 = .ok (.ireturn, 1) := by decide +kernel
theorem dX9_tellWalker_41 : decode cX9_tellWalker 41 = .ok (.aload_n 0, 1) := by decide +kernel
theorem dX9_tellWalker_42 : decode cX9_tellWalker 42 = .ok (.getfield 9, 3) := by decide +kernel
theorem dX9_tellWalker_45 : decode cX9_tellWalker 45 = .ok (.iconst 0, 1) := by decide +kernel
theorem dX9_tellWalker_46 : decode cX9_tellWalker 46 = .ok (.bipush 99, 2) := by decide +kernel
theorem dX9_tellWalker_48 : decode cX9_tellWalker 48 = .ok (.invokevirtual 101, 3) := by decide +kernel
theorem dX9_tellWalker_51 : decode cX9_tellWalker 51 = .ok (.istore 4, 2) := by decide +kernel
theorem dX9_tellWalker_53 : decode cX9_tellWalker 53 = .ok (.iload 4, 2) := by decide +kernel
theorem dX9_tellWalker_55 : decode cX9_tellWalker 55 = .ok (.iconst (-1), 1) := by decide +kernel
theorem dX9_tellWalker_56 : decode cX9_tellWalker 56 = .ok (.if_icmp .ne 5, 3) := by decide +kernel
theorem dX9_tellWalker_59 : decode cX9_tellWalker 59 = .ok (.iconst 0, 1) := by decide +kernel
theorem dX9_tellWalker_60 : decode cX9_tellWalker 60 = .ok (.ireturn, 1) := by decide +kernel
theorem dX9_tellWalker_61 : decode cX9_tellWalker 61 = .ok (.aload_n 0, 1) := by decide +kernel
theorem dX9_tellWalker_62 : decode cX9_tellWalker 62 = .ok (.getfield 15, 3) := by decide +kernel
theorem dX9_tellWalker_65 : decode cX9_tellWalker 65 = .ok (.getfield 149, 3) := by decide +kernel
theorem dX9_tellWalker_68 : decode cX9_tellWalker 68 = .ok (.iload_n 2, 1) := by decide +kernel
theorem dX9_tellWalker_69 : decode cX9_tellWalker 69 = .ok (.iload_n 1, 1) := by decide +kernel
theorem dX9_tellWalker_70 : decode cX9_tellWalker 70 = .ok (.iastore, 1) := by decide +kernel
theorem dX9_tellWalker_71 : decode cX9_tellWalker 71 = .ok (.aload_n 0, 1) := by decide +kernel
theorem dX9_tellWalker_72 : decode cX9_tellWalker 72 = .ok (.getfield 15, 3) := by decide +kernel
theorem dX9_tellWalker_75 : decode cX9_tellWalker 75 = .ok (.getfield 151, 3) := by decide +kernel
theorem dX9_tellWalker_78 : decode cX9_tellWalker 78 = .ok (.iload_n 2, 1) := by decide +kernel
theorem dX9_tellWalker_79 : decode cX9_tellWalker 79 = .ok (.iload_n 3, 1) := by decide +kernel
theorem dX9_tellWalker_80 : decode cX9_tellWalker 80 = .ok (.iastore, 1) := by decide +kernel
theorem dX9_tellWalker_81 : decode cX9_tellWalker 81 = .ok (.aload_n 0, 1) := by decide +kernel
theorem dX9_tellWalker_82 : decode cX9_tellWalker 82 = .ok (.getfield 15, 3) := by decide +kernel
theorem dX9_tellWalker_85 : decode cX9_tellWalker 85 = .ok (.getfield 154, 3) := by decide +kernel
theorem dX9_tellWalker_88 : decode cX9_tellWalker 88 = .ok (.iload_n 2, 1) := by decide +kernel
theorem dX9_tellWalker_89 : decode cX9_tellWalker 89 = .ok (.iload 4, 2) := by decide +kernel
theorem dX9_tellWalker_91 : decode cX9_tellWalker 91 = .ok (.iastore, 1) := by decide +kernel
theorem dX9_tellWalker_92 : decode cX9_tellWalker 92 = .ok (.aload_n 0, 1) := by decide +kernel
theorem dX9_tellWalker_93 : decode cX9_tellWalker 93 = .ok (.getfield 15, 3) := by decide +kernel
theorem dX9_tellWalker_96 : decode cX9_tellWalker 96 = .ok (.iload_n 2, 1) := by decide +kernel
theorem dX9_tellWalker_97 : decode cX9_tellWalker 97 = .ok (.iconst 1, 1) := by decide +kernel
theorem dX9_tellWalker_98 : decode cX9_tellWalker 98 = .ok (.iadd, 1) := by decide +kernel
theorem dX9_tellWalker_99 : decode cX9_tellWalker 99 = .ok (.putfield 146, 3) := by decide +kernel
theorem dX9_tellWalker_102 : decode cX9_tellWalker 102 = .ok (.iconst 1, 1) := by decide +kernel
theorem dX9_tellWalker_103 : decode cX9_tellWalker 103 = .ok (.ireturn, 1) := by decide +kernel
theorem dX9_tellNight_0 : decode cX9_tellNight 0 = .ok (.aload_n 0, 1) := by decide +kernel
theorem dX9_tellNight_1 : decode cX9_tellNight 1 = .ok (.getfield 28, 3) := by decide +kernel
theorem dX9_tellNight_4 : decode cX9_tellNight 4 = .ok (.ifCond .eq 12, 3) := by decide +kernel
theorem dX9_tellNight_7 : decode cX9_tellNight 7 = .ok (.aload_n 0, 1) := by decide +kernel
theorem dX9_tellNight_8 : decode cX9_tellNight 8 = .ok (.getfield 9, 3) := by decide +kernel
theorem dX9_tellNight_11 : decode cX9_tellNight 11 = .ok (.iconst 4, 1) := by decide +kernel
theorem dX9_tellNight_12 : decode cX9_tellNight 12 = .ok (.invokevirtual 55, 3) := by decide +kernel
theorem dX9_tellNight_15 : decode cX9_tellNight 15 = .ok (.ireturn, 1) := by decide +kernel
theorem dX9_tellNight_16 : decode cX9_tellNight 16 = .ok (.aload_n 0, 1) := by decide +kernel
theorem dX9_tellNight_17 : decode cX9_tellNight 17 = .ok (.iconst 1, 1) := by decide +kernel
theorem dX9_tellNight_18 : decode cX9_tellNight 18 = .ok (.putfield 28, 3) := by decide +kernel
theorem dX9_tellNight_21 : decode cX9_tellNight 21 = .ok (.aload_n 0, 1) := by decide +kernel
theorem dX9_tellNight_22 : decode cX9_tellNight 22 = .ok (.getfield 9, 3) := by decide +kernel
theorem dX9_tellNight_25 : decode cX9_tellNight 25 = .ok (.invokevirtual 98, 3) := by decide +kernel
theorem dX9_tellNight_28 : decode cX9_tellNight 28 = .ok (.aload_n 0, 1) := by decide +kernel
theorem dX9_tellNight_29 : decode cX9_tellNight 29 = .ok (.getfield 9, 3) := by decide +kernel
theorem dX9_tellNight_32 : decode cX9_tellNight 32 = .ok (.iconst 0, 1) := by decide +kernel
theorem dX9_tellNight_33 : decode cX9_tellNight 33 = .ok (.bipush 9, 2) := by decide +kernel
theorem dX9_tellNight_35 : decode cX9_tellNight 35 = .ok (.invokevirtual 101, 3) := by decide +kernel
theorem dX9_tellNight_38 : decode cX9_tellNight 38 = .ok (.istore_n 1, 1) := by decide +kernel
theorem dX9_tellNight_39 : decode cX9_tellNight 39 = .ok (.iload_n 1, 1) := by decide +kernel
theorem dX9_tellNight_40 : decode cX9_tellNight 40 = .ok (.iconst (-1), 1) := by decide +kernel
theorem dX9_tellNight_41 : decode cX9_tellNight 41 = .ok (.if_icmp .ne 5, 3) := by decide +kernel
theorem dX9_tellNight_44 : decode cX9_tellNight 44 = .ok (.iconst 0, 1) := by decide +kernel
theorem dX9_tellNight_45 : decode cX9_tellNight 45 = .ok (.ireturn, 1) := by decide +kernel
theorem dX9_tellNight_46 : decode cX9_tellNight 46 = .ok (.aload_n 0, 1) := by decide +kernel
theorem dX9_tellNight_47 : decode cX9_tellNight 47 = .ok (.getfield 15, 3) := by decide +kernel
theorem dX9_tellNight_50 : decode cX9_tellNight 50 = .ok (.iload_n 1, 1) := by decide +kernel
theorem dX9_tellNight_51 : decode cX9_tellNight 51 = .ok (.putfield 173, 3) := by decide +kernel
theorem dX9_tellNight_54 : decode cX9_tellNight 54 = .ok (.iconst 1, 1) := by decide +kernel
theorem dX9_tellNight_55 : decode cX9_tellNight 55 = .ok (.ireturn, 1) := by decide +kernel
theorem dX9_tellMirage_0 : decode cX9_tellMirage 0 = .ok (.aload_n 0, 1) := by decide +kernel
theorem dX9_tellMirage_1 : decode cX9_tellMirage 1 = .ok (.getfield 9, 3) := by decide +kernel
theorem dX9_tellMirage_4 : decode cX9_tellMirage 4 = .ok (.invokevirtual 98, 3) := by decide +kernel
theorem dX9_tellMirage_7 : decode cX9_tellMirage 7 = .ok (.aload_n 0, 1) := by decide +kernel
theorem dX9_tellMirage_8 : decode cX9_tellMirage 8 = .ok (.invokevirtual 114, 3) := by decide +kernel
theorem dX9_tellMirage_11 : decode cX9_tellMirage 11 = .ok (.istore_n 1, 1) := by decide +kernel
theorem dX9_tellMirage_12 : decode cX9_tellMirage 12 = .ok (.iload_n 1, 1) := by decide +kernel
theorem dX9_tellMirage_13 : decode cX9_tellMirage 13 = .ok (.iconst (-1), 1) := by decide +kernel
theorem dX9_tellMirage_14 : decode cX9_tellMirage 14 = .ok (.if_icmp .ne 5, 3) := by decide +kernel
theorem dX9_tellMirage_17 : decode cX9_tellMirage 17 = .ok (.iconst 0, 1) := by decide +kernel
theorem dX9_tellMirage_18 : decode cX9_tellMirage 18 = .ok (.ireturn, 1) := by decide +kernel
theorem dX9_tellMirage_19 : decode cX9_tellMirage 19 = .ok (.aload_n 0, 1) := by decide +kernel
theorem dX9_tellMirage_20 : decode cX9_tellMirage 20 = .ok (.getfield 15, 3) := by decide +kernel
theorem dX9_tellMirage_23 : decode cX9_tellMirage 23 = .ok (.getfield 176, 3) := by decide +kernel
theorem dX9_tellMirage_26 : decode cX9_tellMirage 26 = .ok (.iload_n 1, 1) := by decide +kernel
theorem dX9_tellMirage_27 : decode cX9_tellMirage 27 = .ok (.baload, 1) := by decide +kernel
theorem dX9_tellMirage_28 : decode cX9_tellMirage 28 = .ok (.ifCond .eq 12, 3) := by decide +kernel
theorem dX9_tellMirage_31 : decode cX9_tellMirage 31 = .ok (.aload_n 0, 1) := by decide +kernel
theorem dX9_tellMirage_32 : decode cX9_tellMirage 32 = .ok (.getfield 9, 3) := by decide +kernel
theorem dX9_tellMirage_35 : decode cX9_tellMirage 35 = .ok (.iconst 4, 1) := by decide +kernel
theorem dX9_tellMirage_36 : decode cX9_tellMirage 36 = .ok (.invokevirtual 120, 3) := by decide +kernel
theorem dX9_tellMirage_39 : decode cX9_tellMirage 39 = .ok (.ireturn, 1) := by decide +kernel
theorem dX9_tellMirage_40 : decode cX9_tellMirage 40 = .ok (.aload_n 0, 1) := by decide +kernel
theorem dX9_tellMirage_41 : decode cX9_tellMirage 41 = .ok (.getfield 15, 3) := by decide +kernel
theorem dX9_tellMirage_44 : decode cX9_tellMirage 44 = .ok (.getfield 176, 3) := by decide +kernel
theorem dX9_tellMirage_47 : decode cX9_tellMirage 47 = .ok (.iload_n 1, 1) := by decide +kernel
theorem dX9_tellMirage_48 : decode cX9_tellMirage 48 = .ok (.iconst 1, 1) := by decide +kernel
theorem dX9_tellMirage_49 : decode cX9_tellMirage 49 = .ok (.bastore, 1) := by decide +kernel
theorem dX9_tellMirage_50 : decode cX9_tellMirage 50 = .ok (.iconst 1, 1) := by decide +kernel
theorem dX9_tellMirage_51 : decode cX9_tellMirage 51 = .ok (.ireturn, 1) := by decide +kernel
def wpX9_tellSize (sR : AR) (sG : AR) (R_text : AR) (post : Int32 → AR → AR → Prop) : Prop := wpX8_advance sR R_text (fun sR_4 => wpX8_number sR_4 R_text (2 : Int32) (10 : Int32) (fun r14 sR_14 => ((¬ r14 = (-1 : Int32) → wpX8_number sR_14 R_text (2 : Int32) (10 : Int32) (fun r32 sR_32 => ((¬ r32 = (-1 : Int32) → post (1 : Int32) sR_32 (upd (upd sG 0 r14) 1 r32)) ∧ (r32 = (-1 : Int32) → post (0 : Int32) sR_32 sG)))) ∧ (r14 = (-1 : Int32) → post (0 : Int32) sR_14 sG))))
set_option maxHeartbeats 4000000 in
set_option maxRecDepth 100000 in
theorem ctX9_tellSize (l : Launch) (D : va_G) (cy : Nat → ClassId) (h0 : Nat) (rL : Nat → Nat) (rR : Nat → Nat) (rG : Nat → Nat) (sL : AR) (sR : AR) (sG : AR) (R_text : AR) (sz : Nat) (post : Int32 → AR → AR → Prop) (h : wpX9_tellSize sR sG R_text post) : Met l yX9_tellSize (Cond.code yX9_tellSize cX9_tellSize 3 (some .boolean) :: TB) ({ frames := 2, cells := 0, slots := 0, locals := 44 }) (va_Pc [.ref h0] (PreX D cy [(h0, .inr (9, oX9 rL sL)), ((rL 0), .inr (8, oX8 rR sR)), ((rL 1), .inr (4, oX4 rG sG)), ((rR 0), .inl (cy 1, 500, .inl R_text))] sz)) (va_Qi (fun (r : Int32) (u : AR × AR) => post r (u.1) (u.2)) (fun u => BkX D cy [(h0, .inr (9, oX9 rL sL)), ((rL 0), .inr (8, oX8 rR sR)), ((rL 1), .inr (4, oX4 rG sG)), ((rR 0), .inl (cy 1, 500, .inl R_text))] sz [(h0, .inr (9, oX9 rL sL)), ((rL 0), .inr (8, oX8 rR (u.1))), ((rL 1), .inr (4, oX4 rG (u.2))), ((rR 0), .inl (cy 1, 500, .inl R_text))]) (va_A [(h0, .inr (9, oX9 rL sL)), ((rL 0), .inr (8, oX8 rR sR)), ((rL 1), .inr (4, oX4 rG sG)), ((rR 0), .inl (cy 1, 500, .inl R_text))] sz)) 0 0 (va_A [(h0, .inr (9, oX9 rL sL)), ((rL 0), .inr (8, oX8 rR sR)), ((rL 1), .inr (4, oX4 rG sG)), ((rR 0), .inl (cy 1, 500, .inl R_text))] sz) := by
  refine ofWi (by decide) (Nat.le_of_ble_eq_true rfl) ?_
  intro p e s m args below meth c ls A R QQ hx hb hml hown hts hR hK hP hD hS hA hl hret
  have hown : s.vm.findClass RX9 = some m.cls := hown
  have hRf : 2 ≤ R.frames := by rw [hR]; exact Nat.le_refl _
  have hRl : 44 ≤ R.locals := by rw [hR]; exact Nat.le_refl _
  clear hR
  have hl : lv_has ls 3 [(0, .ref h0)] := hl
  refine lv_aload_n hx hb dX9_tellSize_0 rfl (lv_at hl 0 rfl) ?_
  refine gfX9_9 hx hb hts hown hK hP 0 rfl dX9_tellSize_1 ?_
  refine clVv (As := []) (rest := []) (Wr := [(h0, .inr (9, oX9 rL sL)), ((rL 1), .inr (4, oX4 rG sG))]) (cq := (RX8, TX8, 10)) ⟨hx, hb, hml, hown, hts⟩ ⟨callB_of 0 hts (goodC mw736) rfl rfl rfl (hts _ (tb mw2)) (hts _ (tb mw803)) kdX8_advance ⟨Nat.le_trans (by decide) hRf, Nat.le_trans (by decide) hRl⟩, hts _ (tb mw734), hts _ (tb mw735)⟩ (ctX8_advance l D cy (rL 0) rR sR R_text  _ _ h) hK hP hD hS hA [1, 3] [0, 2] rfl rfl (by decide) (by decide) (by decide) 0 rfl rfl rfl hl.1 rfl (Nat.le_of_ble_eq_true rfl) ⟨Nat.zero_le _, Nat.zero_le _⟩ dX9_tellSize_4 (fun sR_4 H locs h hP hD hS => ?_)
  have hP : va_P D clsX [(h0, .inr (9, oX9 rL sL)), ((rL 1), .inr (4, oX4 rG sG)), ((rL 0), .inr (8, oX8 rR sR_4)), ((rR 0), .inl (cy 1, 500, .inl R_text))] H := hP
  have hD : va_D A [(h0, .inr (9, oX9 rL sL)), ((rL 1), .inr (4, oX4 rG sG)), ((rL 0), .inr (8, oX8 rR sR_4)), ((rR 0), .inl (cy 1, 500, .inl R_text))] := hD
  refine lv_aload_n hx hb dX9_tellSize_7 rfl (lv_at hl 0 rfl) ?_
  refine gfX9_9 hx hb hts hown hK hP 0 rfl dX9_tellSize_8 ?_
  refine lv_iconst (v := (2 : Int32)) hx hb dX9_tellSize_11 (by decide) ?_
  refine lv_bipush (v := (10 : Int32)) hx hb dX9_tellSize_12 (by decide) ?_
  refine clVi (As := [.int (2 : Int32), .int (10 : Int32)]) (rest := []) (Wr := [(h0, .inr (9, oX9 rL sL)), ((rL 1), .inr (4, oX4 rG sG))]) (cq := (RX8, TX8, 10)) ⟨hx, hb, hml, hown, hts⟩ ⟨callB_of 2 hts (goodC mw807) rfl rfl rfl (hts _ (tb mw2)) (hts _ (tb mw804)) kdX8_number ⟨Nat.le_trans (by decide) hRf, Nat.le_trans (by decide) hRl⟩, hts _ (tb mw805), hts _ (tb mw806)⟩ (ctX8_number l D cy (rL 0) rR sR_4 R_text (2 : Int32) (10 : Int32) _ _ h) hK hP hD hS hA [2, 3] [0, 1] rfl rfl (by decide) (by decide) (by decide) 0 rfl rfl rfl hl.1 rfl (Nat.le_of_ble_eq_true rfl) ⟨Nat.zero_le _, Nat.zero_le _⟩ dX9_tellSize_14 (fun r14 sR_14 H locs h hP hD hS => ?_)
  have hP : va_P D clsX [(h0, .inr (9, oX9 rL sL)), ((rL 1), .inr (4, oX4 rG sG)), ((rL 0), .inr (8, oX8 rR sR_14)), ((rR 0), .inl (cy 1, 500, .inl R_text))] H := hP
  have hD : va_D A [(h0, .inr (9, oX9 rL sL)), ((rL 1), .inr (4, oX4 rG sG)), ((rL 0), .inr (8, oX8 rR sR_14)), ((rR 0), .inl (cy 1, 500, .inl R_text))] := hD
  refine lv_istore_n (lv' := [(1, .int r14), (0, .ref h0)]) hx hb dX9_tellSize_17 rfl hl (by decide) rfl (fun ls hl => ?_)
  refine lv_iload_n hx hb dX9_tellSize_18 rfl (lv_at hl 0 rfl) ?_
  refine lv_iconst (v := (-1 : Int32)) hx hb dX9_tellSize_19 (by decide) ?_
  refine lv_icmp_ne (tgt := 25) hx hb dX9_tellSize_20 (by decide) (fun c20 => ?_) (fun c20 => ?_)
  · have h := h.1 c20
    refine lv_aload_n hx hb dX9_tellSize_25 rfl (lv_at hl 1 rfl) ?_
    refine gfX9_9 hx hb hts hown hK hP 0 rfl dX9_tellSize_26 ?_
    refine lv_iconst (v := (2 : Int32)) hx hb dX9_tellSize_29 (by decide) ?_
    refine lv_bipush (v := (10 : Int32)) hx hb dX9_tellSize_30 (by decide) ?_
    refine clVi (As := [.int (2 : Int32), .int (10 : Int32)]) (rest := []) (Wr := [(h0, .inr (9, oX9 rL sL)), ((rL 1), .inr (4, oX4 rG sG))]) (cq := (RX8, TX8, 10)) ⟨hx, hb, hml, hown, hts⟩ ⟨callB_of 2 hts (goodC mw807) rfl rfl rfl (hts _ (tb mw2)) (hts _ (tb mw804)) kdX8_number ⟨Nat.le_trans (by decide) hRf, Nat.le_trans (by decide) hRl⟩, hts _ (tb mw805), hts _ (tb mw806)⟩ (ctX8_number l D cy (rL 0) rR sR_14 R_text (2 : Int32) (10 : Int32) _ _ h) hK hP hD hS hA [2, 3] [0, 1] rfl rfl (by decide) (by decide) (by decide) 0 rfl rfl rfl hl.1 rfl (Nat.le_of_ble_eq_true rfl) ⟨Nat.zero_le _, Nat.zero_le _⟩ dX9_tellSize_32 (fun r32 sR_32 H locs h hP hD hS => ?_)
    have hP : va_P D clsX [(h0, .inr (9, oX9 rL sL)), ((rL 1), .inr (4, oX4 rG sG)), ((rL 0), .inr (8, oX8 rR sR_32)), ((rR 0), .inl (cy 1, 500, .inl R_text))] H := hP
    have hD : va_D A [(h0, .inr (9, oX9 rL sL)), ((rL 1), .inr (4, oX4 rG sG)), ((rL 0), .inr (8, oX8 rR sR_32)), ((rR 0), .inl (cy 1, 500, .inl R_text))] := hD
    refine lv_istore_n (lv' := [(2, .int r32), (1, .int r14), (0, .ref h0)]) hx hb dX9_tellSize_35 rfl hl (by decide) rfl (fun ls hl => ?_)
    refine lv_iload_n hx hb dX9_tellSize_36 rfl (lv_at hl 0 rfl) ?_
    refine lv_iconst (v := (-1 : Int32)) hx hb dX9_tellSize_37 (by decide) ?_
    refine lv_icmp_ne (tgt := 43) hx hb dX9_tellSize_38 (by decide) (fun c38 => ?_) (fun c38 => ?_)
    · have h := h.1 c38
      refine lv_aload_n hx hb dX9_tellSize_43 rfl (lv_at hl 2 rfl) ?_
      refine gfX9_15 hx hb hts hown hK hP 0 rfl dX9_tellSize_44 ?_
      refine lv_iload_n hx hb dX9_tellSize_47 rfl (lv_at hl 1 rfl) ?_
      refine pfX9_105 hx hb hts hown hK hP hD hS 1 rfl dX9_tellSize_48 (fun H locs hP hD hS => ?_)
      have hP : va_P D clsX [(h0, .inr (9, oX9 rL sL)), ((rL 1), .inr (4, oX4 rG (upd sG 0 r14))), ((rL 0), .inr (8, oX8 rR sR_32)), ((rR 0), .inl (cy 1, 500, .inl R_text))] H := hP
      have hD : va_D A [(h0, .inr (9, oX9 rL sL)), ((rL 1), .inr (4, oX4 rG (upd sG 0 r14))), ((rL 0), .inr (8, oX8 rR sR_32)), ((rR 0), .inl (cy 1, 500, .inl R_text))] := hD
      refine lv_aload_n hx hb dX9_tellSize_51 rfl (lv_at hl 2 rfl) ?_
      refine gfX9_15 hx hb hts hown hK hP 0 rfl dX9_tellSize_52 ?_
      refine lv_iload_n hx hb dX9_tellSize_55 rfl (lv_at hl 0 rfl) ?_
      refine pfX9_108 hx hb hts hown hK hP hD hS 1 rfl dX9_tellSize_56 (fun H locs hP hD hS => ?_)
      have hP : va_P D clsX [(h0, .inr (9, oX9 rL sL)), ((rL 1), .inr (4, oX4 rG (upd (upd sG 0 r14) 1 r32))), ((rL 0), .inr (8, oX8 rR sR_32)), ((rR 0), .inl (cy 1, 500, .inl R_text))] H := hP
      have hD : va_D A [(h0, .inr (9, oX9 rL sL)), ((rL 1), .inr (4, oX4 rG (upd (upd sG 0 r14) 1 r32))), ((rL 0), .inr (8, oX8 rR sR_32)), ((rR 0), .inl (cy 1, 500, .inl R_text))] := hD
      refine lv_iconst (v := (1 : Int32)) hx hb dX9_tellSize_59 (by decide) ?_
      exact hret (1 : Int32) (sR_32, (upd (upd sG 0 r14) 1 r32)) _ _ _ _ rfl dX9_tellSize_60 h (hP.sub [0, 2, 1, 3] rfl) (hD.sub [0, 2, 1, 3] (by decide) rfl) hS
    · have h := h.2 c38
      refine lv_iconst (v := (0 : Int32)) hx hb dX9_tellSize_41 (by decide) ?_
      exact hret (0 : Int32) (sR_32, sG) _ _ _ _ rfl dX9_tellSize_42 h (hP.sub [0, 2, 1, 3] rfl) (hD.sub [0, 2, 1, 3] (by decide) rfl) hS
  · have h := h.2 c20
    refine lv_iconst (v := (0 : Int32)) hx hb dX9_tellSize_23 (by decide) ?_
    exact hret (0 : Int32) (sR_14, sG) _ _ _ _ rfl dX9_tellSize_24 h (hP.sub [0, 2, 1, 3] rfl) (hD.sub [0, 2, 1, 3] (by decide) rfl) hS
def wpX9_tellCell (sG : AR) (sR : AR) (R_text : AR) (post : Int32 → AR → Prop) : Prop := wpX8_number sR R_text (0 : Int32) ((sG 0) - (1 : Int32)) (fun r14 sR_14 => ((¬ r14 = (-1 : Int32) → wpX8_number sR_14 R_text (0 : Int32) ((sG 1) - (1 : Int32)) (fun r39 sR_39 => ((¬ r39 = (-1 : Int32) → post (((sG 0) * r39) + r14) sR_39) ∧ (r39 = (-1 : Int32) → post (-1 : Int32) sR_39)))) ∧ (r14 = (-1 : Int32) → post (-1 : Int32) sR_14)))
set_option maxHeartbeats 4000000 in
set_option maxRecDepth 100000 in
theorem ctX9_tellCell (l : Launch) (D : va_G) (cy : Nat → ClassId) (h0 : Nat) (rL : Nat → Nat) (rG : Nat → Nat) (rR : Nat → Nat) (sL : AR) (sG : AR) (sR : AR) (R_text : AR) (sz : Nat) (post : Int32 → AR → Prop) (h : wpX9_tellCell sG sR R_text post) : Met l yX9_tellCell (Cond.code yX9_tellCell cX9_tellCell 3 (some .int) :: TB) ({ frames := 2, cells := 0, slots := 0, locals := 44 }) (va_Pc [.ref h0] (PreX D cy [(h0, .inr (9, oX9 rL sL)), ((rL 1), .inr (4, oX4 rG sG)), ((rL 0), .inr (8, oX8 rR sR)), ((rR 0), .inl (cy 1, 500, .inl R_text))] sz)) (va_Qi (fun (r : Int32) (u : AR) => post r u) (fun u => BkX D cy [(h0, .inr (9, oX9 rL sL)), ((rL 1), .inr (4, oX4 rG sG)), ((rL 0), .inr (8, oX8 rR sR)), ((rR 0), .inl (cy 1, 500, .inl R_text))] sz [(h0, .inr (9, oX9 rL sL)), ((rL 1), .inr (4, oX4 rG sG)), ((rL 0), .inr (8, oX8 rR u)), ((rR 0), .inl (cy 1, 500, .inl R_text))]) (va_A [(h0, .inr (9, oX9 rL sL)), ((rL 1), .inr (4, oX4 rG sG)), ((rL 0), .inr (8, oX8 rR sR)), ((rR 0), .inl (cy 1, 500, .inl R_text))] sz)) 0 0 (va_A [(h0, .inr (9, oX9 rL sL)), ((rL 1), .inr (4, oX4 rG sG)), ((rL 0), .inr (8, oX8 rR sR)), ((rR 0), .inl (cy 1, 500, .inl R_text))] sz) := by
  refine ofWi (by decide) (Nat.le_of_ble_eq_true rfl) ?_
  intro p e s m args below meth c ls A R QQ hx hb hml hown hts hR hK hP hD hS hA hl hret
  have hown : s.vm.findClass RX9 = some m.cls := hown
  have hRf : 2 ≤ R.frames := by rw [hR]; exact Nat.le_refl _
  have hRl : 44 ≤ R.locals := by rw [hR]; exact Nat.le_refl _
  clear hR
  have hl : lv_has ls 3 [(0, .ref h0)] := hl
  refine lv_aload_n hx hb dX9_tellCell_0 rfl (lv_at hl 0 rfl) ?_
  refine gfX9_9 hx hb hts hown hK hP 0 rfl dX9_tellCell_1 ?_
  refine lv_iconst (v := (0 : Int32)) hx hb dX9_tellCell_4 (by decide) ?_
  refine lv_aload_n hx hb dX9_tellCell_5 rfl (lv_at hl 0 rfl) ?_
  refine gfX9_15 hx hb hts hown hK hP 0 rfl dX9_tellCell_6 ?_
  refine gfX9_105 (v := (sG 0)) hx hb hts hown hK hP 1 rfl rfl dX9_tellCell_9 ?_
  refine lv_iconst (v := (1 : Int32)) hx hb dX9_tellCell_12 (by decide) ?_
  refine lv_isub hx hb dX9_tellCell_13 ?_
  refine clVi (As := [.int (0 : Int32), .int ((sG 0) - (1 : Int32))]) (rest := []) (Wr := [(h0, .inr (9, oX9 rL sL)), ((rL 1), .inr (4, oX4 rG sG))]) (cq := (RX8, TX8, 10)) ⟨hx, hb, hml, hown, hts⟩ ⟨callB_of 2 hts (goodC mw807) rfl rfl rfl (hts _ (tb mw2)) (hts _ (tb mw804)) kdX8_number ⟨Nat.le_trans (by decide) hRf, Nat.le_trans (by decide) hRl⟩, hts _ (tb mw805), hts _ (tb mw806)⟩ (ctX8_number l D cy (rL 0) rR sR R_text (0 : Int32) ((sG 0) - (1 : Int32)) _ _ h) hK hP hD hS hA [2, 3] [0, 1] rfl rfl (by decide) (by decide) (by decide) 0 rfl rfl rfl hl.1 rfl (Nat.le_of_ble_eq_true rfl) ⟨Nat.zero_le _, Nat.zero_le _⟩ dX9_tellCell_14 (fun r14 sR_14 H locs h hP hD hS => ?_)
  have hP : va_P D clsX [(h0, .inr (9, oX9 rL sL)), ((rL 1), .inr (4, oX4 rG sG)), ((rL 0), .inr (8, oX8 rR sR_14)), ((rR 0), .inl (cy 1, 500, .inl R_text))] H := hP
  have hD : va_D A [(h0, .inr (9, oX9 rL sL)), ((rL 1), .inr (4, oX4 rG sG)), ((rL 0), .inr (8, oX8 rR sR_14)), ((rR 0), .inl (cy 1, 500, .inl R_text))] := hD
  refine lv_istore_n (lv' := [(1, .int r14), (0, .ref h0)]) hx hb dX9_tellCell_17 rfl hl (by decide) rfl (fun ls hl => ?_)
  refine lv_iload_n hx hb dX9_tellCell_18 rfl (lv_at hl 0 rfl) ?_
  refine lv_iconst (v := (-1 : Int32)) hx hb dX9_tellCell_19 (by decide) ?_
  refine lv_icmp_ne (tgt := 25) hx hb dX9_tellCell_20 (by decide) (fun c20 => ?_) (fun c20 => ?_)
  · have h := h.1 c20
    refine lv_aload_n hx hb dX9_tellCell_25 rfl (lv_at hl 1 rfl) ?_
    refine gfX9_9 hx hb hts hown hK hP 0 rfl dX9_tellCell_26 ?_
    refine lv_iconst (v := (0 : Int32)) hx hb dX9_tellCell_29 (by decide) ?_
    refine lv_aload_n hx hb dX9_tellCell_30 rfl (lv_at hl 1 rfl) ?_
    refine gfX9_15 hx hb hts hown hK hP 0 rfl dX9_tellCell_31 ?_
    refine gfX9_108 (v := (sG 1)) hx hb hts hown hK hP 1 rfl rfl dX9_tellCell_34 ?_
    refine lv_iconst (v := (1 : Int32)) hx hb dX9_tellCell_37 (by decide) ?_
    refine lv_isub hx hb dX9_tellCell_38 ?_
    refine clVi (As := [.int (0 : Int32), .int ((sG 1) - (1 : Int32))]) (rest := []) (Wr := [(h0, .inr (9, oX9 rL sL)), ((rL 1), .inr (4, oX4 rG sG))]) (cq := (RX8, TX8, 10)) ⟨hx, hb, hml, hown, hts⟩ ⟨callB_of 2 hts (goodC mw807) rfl rfl rfl (hts _ (tb mw2)) (hts _ (tb mw804)) kdX8_number ⟨Nat.le_trans (by decide) hRf, Nat.le_trans (by decide) hRl⟩, hts _ (tb mw805), hts _ (tb mw806)⟩ (ctX8_number l D cy (rL 0) rR sR_14 R_text (0 : Int32) ((sG 1) - (1 : Int32)) _ _ h) hK hP hD hS hA [2, 3] [0, 1] rfl rfl (by decide) (by decide) (by decide) 0 rfl rfl rfl hl.1 rfl (Nat.le_of_ble_eq_true rfl) ⟨Nat.zero_le _, Nat.zero_le _⟩ dX9_tellCell_39 (fun r39 sR_39 H locs h hP hD hS => ?_)
    have hP : va_P D clsX [(h0, .inr (9, oX9 rL sL)), ((rL 1), .inr (4, oX4 rG sG)), ((rL 0), .inr (8, oX8 rR sR_39)), ((rR 0), .inl (cy 1, 500, .inl R_text))] H := hP
    have hD : va_D A [(h0, .inr (9, oX9 rL sL)), ((rL 1), .inr (4, oX4 rG sG)), ((rL 0), .inr (8, oX8 rR sR_39)), ((rR 0), .inl (cy 1, 500, .inl R_text))] := hD
    refine lv_istore_n (lv' := [(2, .int r39), (1, .int r14), (0, .ref h0)]) hx hb dX9_tellCell_42 rfl hl (by decide) rfl (fun ls hl => ?_)
    refine lv_iload_n hx hb dX9_tellCell_43 rfl (lv_at hl 0 rfl) ?_
    refine lv_iconst (v := (-1 : Int32)) hx hb dX9_tellCell_44 (by decide) ?_
    refine lv_icmp_ne (tgt := 52) hx hb dX9_tellCell_45 (by decide) (fun c45 => ?_) (fun c45 => ?_)
    · have h := h.1 c45
      refine lv_aload_n hx hb dX9_tellCell_52 rfl (lv_at hl 2 rfl) ?_
      refine gfX9_15 hx hb hts hown hK hP 0 rfl dX9_tellCell_53 ?_
      refine gfX9_105 (v := (sG 0)) hx hb hts hown hK hP 1 rfl rfl dX9_tellCell_56 ?_
      refine lv_iload_n hx hb dX9_tellCell_59 rfl (lv_at hl 0 rfl) ?_
      refine lv_imul hx hb dX9_tellCell_60 ?_
      refine lv_iload_n hx hb dX9_tellCell_61 rfl (lv_at hl 1 rfl) ?_
      refine lv_iadd hx hb dX9_tellCell_62 ?_
      exact hret (((sG 0) * r39) + r14) (sR_39) _ _ _ _ rfl dX9_tellCell_63 h hP hD hS
    · have h := h.2 c45
      refine lv_iconst (v := (-1 : Int32)) hx hb dX9_tellCell_48 (by decide) ?_
      refine lv_goto (tgt := 63) hx hb dX9_tellCell_49 (by decide) ?_
      exact hret (-1 : Int32) (sR_39) _ _ _ _ rfl dX9_tellCell_63 h hP hD hS
  · have h := h.2 c20
    refine lv_iconst (v := (-1 : Int32)) hx hb dX9_tellCell_23 (by decide) ?_
    exact hret (-1 : Int32) (sR_14) _ _ _ _ rfl dX9_tellCell_24 h hP hD hS
def wpX9_tellWalker (sG : AR) (sR : AR) (G_kind : AR) (G_home : AR) (G_water : AR) (R_text : AR) (x1 : Int32) (post : Int32 → AR → AR → AR → AR → AR → Prop) : Prop := ∀ l2_7 : Int32, l2_7 = (sG 3) → ((l2_7 < (4 : Int32) → wpX8_advance sR R_text (fun sR_26 => wpX9_tellCell sG sR_26 R_text (fun r30 sR_30 => ((¬ r30 = (-1 : Int32) → wpX8_number sR_30 R_text (0 : Int32) (99 : Int32) (fun r48 sR_48 => ((¬ r48 = (-1 : Int32) → vp_in l2_7 4 ∧ ∀ G_kind_70 : AR, G_kind_70 = upd G_kind l2_7.toNatClampNeg x1 → vp_in l2_7 4 ∧ ∀ G_home_80 : AR, G_home_80 = upd G_home l2_7.toNatClampNeg r30 → vp_in l2_7 4 ∧ ∀ G_water_91 : AR, G_water_91 = upd G_water l2_7.toNatClampNeg r48 → ∀ f3_99 : Int32, f3_99 = (l2_7 + (1 : Int32)) → post (1 : Int32) (upd sG 3 f3_99) sR_48 G_kind_70 G_home_80 G_water_91) ∧ (r48 = (-1 : Int32) → post (0 : Int32) sG sR_48 G_kind G_home G_water)))) ∧ (r30 = (-1 : Int32) → post (0 : Int32) sG sR_30 G_kind G_home G_water))))) ∧ (¬ l2_7 < (4 : Int32) → wpX8_refuse sR (2 : Int32) (fun r18 sR_18 => narrow .boolean (.int r18) = .int r18 ∧ post r18 sG sR_18 G_kind G_home G_water)))
set_option maxHeartbeats 4000000 in
set_option maxRecDepth 100000 in
theorem ctX9_tellWalker (l : Launch) (D : va_G) (cy : Nat → ClassId) (h0 : Nat) (rL : Nat → Nat) (rG : Nat → Nat) (rR : Nat → Nat) (sL : AR) (sG : AR) (sR : AR) (G_kind : AR) (G_home : AR) (G_water : AR) (R_text : AR) (x1 : Int32) (sz : Nat) (post : Int32 → AR → AR → AR → AR → AR → Prop) (h : wpX9_tellWalker sG sR G_kind G_home G_water R_text x1 post) : Met l yX9_tellWalker (Cond.code yX9_tellWalker cX9_tellWalker 5 (some .boolean) :: TB) ({ frames := 3, cells := 0, slots := 0, locals := 66 }) (va_Pc [.ref h0, .int x1] (PreX D cy [(h0, .inr (9, oX9 rL sL)), ((rL 1), .inr (4, oX4 rG sG)), ((rL 0), .inr (8, oX8 rR sR)), ((rG 12), .inl (cy 0, 4, .inl G_kind)), ((rG 13), .inl (cy 0, 4, .inl G_home)), ((rG 14), .inl (cy 0, 4, .inl G_water)), ((rR 0), .inl (cy 1, 500, .inl R_text))] sz)) (va_Qi (fun (r : Int32) (u : AR × AR × AR × AR × AR) => post r (u.1) (u.2.1) (u.2.2.1) (u.2.2.2.1) (u.2.2.2.2)) (fun u => BkX D cy [(h0, .inr (9, oX9 rL sL)), ((rL 1), .inr (4, oX4 rG sG)), ((rL 0), .inr (8, oX8 rR sR)), ((rG 12), .inl (cy 0, 4, .inl G_kind)), ((rG 13), .inl (cy 0, 4, .inl G_home)), ((rG 14), .inl (cy 0, 4, .inl G_water)), ((rR 0), .inl (cy 1, 500, .inl R_text))] sz [(h0, .inr (9, oX9 rL sL)), ((rL 1), .inr (4, oX4 rG (u.1))), ((rL 0), .inr (8, oX8 rR (u.2.1))), ((rG 12), .inl (cy 0, 4, .inl (u.2.2.1))), ((rG 13), .inl (cy 0, 4, .inl (u.2.2.2.1))), ((rG 14), .inl (cy 0, 4, .inl (u.2.2.2.2))), ((rR 0), .inl (cy 1, 500, .inl R_text))]) (va_A [(h0, .inr (9, oX9 rL sL)), ((rL 1), .inr (4, oX4 rG sG)), ((rL 0), .inr (8, oX8 rR sR)), ((rG 12), .inl (cy 0, 4, .inl G_kind)), ((rG 13), .inl (cy 0, 4, .inl G_home)), ((rG 14), .inl (cy 0, 4, .inl G_water)), ((rR 0), .inl (cy 1, 500, .inl R_text))] sz)) 0 0 (va_A [(h0, .inr (9, oX9 rL sL)), ((rL 1), .inr (4, oX4 rG sG)), ((rL 0), .inr (8, oX8 rR sR)), ((rG 12), .inl (cy 0, 4, .inl G_kind)), ((rG 13), .inl (cy 0, 4, .inl G_home)), ((rG 14), .inl (cy 0, 4, .inl G_water)), ((rR 0), .inl (cy 1, 500, .inl R_text))] sz) := by
  refine ofWi (by decide) (Nat.le_of_ble_eq_true rfl) ?_
  intro p e s m args below meth c ls A R QQ hx hb hml hown hts hR hK hP hD hS hA hl hret
  have hown : s.vm.findClass RX9 = some m.cls := hown
  have hRf : 3 ≤ R.frames := by rw [hR]; exact Nat.le_refl _
  have hRl : 66 ≤ R.locals := by rw [hR]; exact Nat.le_refl _
  clear hR
  have hl : lv_has ls 5 [(0, .ref h0), (1, .int x1)] := hl
  refine lv_aload_n hx hb dX9_tellWalker_0 rfl (lv_at hl 0 rfl) ?_
  refine gfX9_15 hx hb hts hown hK hP 0 rfl dX9_tellWalker_1 ?_
  refine gfX9_146 (v := (sG 3)) hx hb hts hown hK hP 1 rfl rfl dX9_tellWalker_4 ?_
  refine lv_topi (fun l2_7 el2_7 => ?_)
  have h := h l2_7 el2_7
  refine lv_istore_n (lv' := [(2, .int l2_7), (0, .ref h0), (1, .int x1)]) hx hb dX9_tellWalker_7 rfl hl (by decide) rfl (fun ls hl => ?_)
  refine lv_iload_n hx hb dX9_tellWalker_8 rfl (lv_at hl 0 rfl) ?_
  refine lv_iconst (v := (4 : Int32)) hx hb dX9_tellWalker_9 (by decide) ?_
  refine lv_icmp_lt (tgt := 22) hx hb dX9_tellWalker_10 (by decide) (fun c10 => ?_) (fun c10 => ?_)
  · have h := h.1 c10
    refine lv_aload_n hx hb dX9_tellWalker_22 rfl (lv_at hl 1 rfl) ?_
    refine gfX9_9 hx hb hts hown hK hP 0 rfl dX9_tellWalker_23 ?_
    refine clVv (As := []) (rest := []) (Wr := [(h0, .inr (9, oX9 rL sL)), ((rL 1), .inr (4, oX4 rG sG)), ((rG 12), .inl (cy 0, 4, .inl G_kind)), ((rG 13), .inl (cy 0, 4, .inl G_home)), ((rG 14), .inl (cy 0, 4, .inl G_water))]) (cq := (RX8, TX8, 10)) ⟨hx, hb, hml, hown, hts⟩ ⟨callB_of 0 hts (goodC mw736) rfl rfl rfl (hts _ (tb mw2)) (hts _ (tb mw803)) kdX8_advance ⟨Nat.le_trans (by decide) hRf, Nat.le_trans (by decide) hRl⟩, hts _ (tb mw734), hts _ (tb mw735)⟩ (ctX8_advance l D cy (rL 0) rR sR R_text  _ _ h) hK hP hD hS hA [2, 6] [0, 1, 3, 4, 5] rfl rfl (by decide) (by decide) (by decide) 0 rfl rfl rfl hl.1 rfl (Nat.le_of_ble_eq_true rfl) ⟨Nat.zero_le _, Nat.zero_le _⟩ dX9_tellWalker_26 (fun sR_26 H locs h hP hD hS => ?_)
    have hP : va_P D clsX [(h0, .inr (9, oX9 rL sL)), ((rL 1), .inr (4, oX4 rG sG)), ((rG 12), .inl (cy 0, 4, .inl G_kind)), ((rG 13), .inl (cy 0, 4, .inl G_home)), ((rG 14), .inl (cy 0, 4, .inl G_water)), ((rL 0), .inr (8, oX8 rR sR_26)), ((rR 0), .inl (cy 1, 500, .inl R_text))] H := hP
    have hD : va_D A [(h0, .inr (9, oX9 rL sL)), ((rL 1), .inr (4, oX4 rG sG)), ((rG 12), .inl (cy 0, 4, .inl G_kind)), ((rG 13), .inl (cy 0, 4, .inl G_home)), ((rG 14), .inl (cy 0, 4, .inl G_water)), ((rL 0), .inr (8, oX8 rR sR_26)), ((rR 0), .inl (cy 1, 500, .inl R_text))] := hD
    refine lv_aload_n hx hb dX9_tellWalker_29 rfl (lv_at hl 1 rfl) ?_
    refine clVi (As := []) (rest := []) (Wr := [((rG 12), .inl (cy 0, 4, .inl G_kind)), ((rG 13), .inl (cy 0, 4, .inl G_home)), ((rG 14), .inl (cy 0, 4, .inl G_water))]) (cq := (RX9, TX9, 4)) ⟨hx, hb, hml, hown, hts⟩ ⟨callB_of 0 hts (goodC mw821) rfl rfl rfl (hts _ (tb mw6)) (hts _ (tb mw818)) kdX9_tellCell ⟨Nat.le_trans (by decide) hRf, Nat.le_trans (by decide) hRl⟩, hts _ (tb mw820), hts _ (tb ms15)⟩ (ctX9_tellCell l D cy h0 rL rG rR sL sG sR_26 R_text  _ _ h) hK hP hD hS hA [0, 1, 5, 6] [2, 3, 4] rfl rfl (by decide) (by decide) (by decide) 0 rfl rfl rfl hl.1 rfl (Nat.le_of_ble_eq_true rfl) ⟨Nat.zero_le _, Nat.zero_le _⟩ dX9_tellWalker_30 (fun r30 sR_30 H locs h hP hD hS => ?_)
    have hP : va_P D clsX [((rG 12), .inl (cy 0, 4, .inl G_kind)), ((rG 13), .inl (cy 0, 4, .inl G_home)), ((rG 14), .inl (cy 0, 4, .inl G_water)), (h0, .inr (9, oX9 rL sL)), ((rL 1), .inr (4, oX4 rG sG)), ((rL 0), .inr (8, oX8 rR sR_30)), ((rR 0), .inl (cy 1, 500, .inl R_text))] H := hP
    have hD : va_D A [((rG 12), .inl (cy 0, 4, .inl G_kind)), ((rG 13), .inl (cy 0, 4, .inl G_home)), ((rG 14), .inl (cy 0, 4, .inl G_water)), (h0, .inr (9, oX9 rL sL)), ((rL 1), .inr (4, oX4 rG sG)), ((rL 0), .inr (8, oX8 rR sR_30)), ((rR 0), .inl (cy 1, 500, .inl R_text))] := hD
    refine lv_istore_n (lv' := [(3, .int r30), (2, .int l2_7), (0, .ref h0), (1, .int x1)]) hx hb dX9_tellWalker_33 rfl hl (by decide) rfl (fun ls hl => ?_)
    refine lv_iload_n hx hb dX9_tellWalker_34 rfl (lv_at hl 0 rfl) ?_
    refine lv_iconst (v := (-1 : Int32)) hx hb dX9_tellWalker_35 (by decide) ?_
    refine lv_icmp_ne (tgt := 41) hx hb dX9_tellWalker_36 (by decide) (fun c36 => ?_) (fun c36 => ?_)
    · have h := h.1 c36
      refine lv_aload_n hx hb dX9_tellWalker_41 rfl (lv_at hl 2 rfl) ?_
      refine gfX9_9 hx hb hts hown hK hP 3 rfl dX9_tellWalker_42 ?_
      refine lv_iconst (v := (0 : Int32)) hx hb dX9_tellWalker_45 (by decide) ?_
      refine lv_bipush (v := (99 : Int32)) hx hb dX9_tellWalker_46 (by decide) ?_
      refine clVi (As := [.int (0 : Int32), .int (99 : Int32)]) (rest := []) (Wr := [((rG 12), .inl (cy 0, 4, .inl G_kind)), ((rG 13), .inl (cy 0, 4, .inl G_home)), ((rG 14), .inl (cy 0, 4, .inl G_water)), (h0, .inr (9, oX9 rL sL)), ((rL 1), .inr (4, oX4 rG sG))]) (cq := (RX8, TX8, 10)) ⟨hx, hb, hml, hown, hts⟩ ⟨callB_of 2 hts (goodC mw807) rfl rfl rfl (hts _ (tb mw2)) (hts _ (tb mw804)) kdX8_number ⟨Nat.le_trans (by decide) hRf, Nat.le_trans (by decide) hRl⟩, hts _ (tb mw805), hts _ (tb mw806)⟩ (ctX8_number l D cy (rL 0) rR sR_30 R_text (0 : Int32) (99 : Int32) _ _ h) hK hP hD hS hA [5, 6] [0, 1, 2, 3, 4] rfl rfl (by decide) (by decide) (by decide) 0 rfl rfl rfl hl.1 rfl (Nat.le_of_ble_eq_true rfl) ⟨Nat.zero_le _, Nat.zero_le _⟩ dX9_tellWalker_48 (fun r48 sR_48 H locs h hP hD hS => ?_)
      have hP : va_P D clsX [((rG 12), .inl (cy 0, 4, .inl G_kind)), ((rG 13), .inl (cy 0, 4, .inl G_home)), ((rG 14), .inl (cy 0, 4, .inl G_water)), (h0, .inr (9, oX9 rL sL)), ((rL 1), .inr (4, oX4 rG sG)), ((rL 0), .inr (8, oX8 rR sR_48)), ((rR 0), .inl (cy 1, 500, .inl R_text))] H := hP
      have hD : va_D A [((rG 12), .inl (cy 0, 4, .inl G_kind)), ((rG 13), .inl (cy 0, 4, .inl G_home)), ((rG 14), .inl (cy 0, 4, .inl G_water)), (h0, .inr (9, oX9 rL sL)), ((rL 1), .inr (4, oX4 rG sG)), ((rL 0), .inr (8, oX8 rR sR_48)), ((rR 0), .inl (cy 1, 500, .inl R_text))] := hD
      refine lv_istore (lv' := [(4, .int r48), (3, .int r30), (2, .int l2_7), (0, .ref h0), (1, .int x1)]) hx hb dX9_tellWalker_51 hl (by decide) rfl (fun ls hl => ?_)
      refine lv_iload hx hb dX9_tellWalker_53 (lv_at hl 0 rfl) ?_
      refine lv_iconst (v := (-1 : Int32)) hx hb dX9_tellWalker_55 (by decide) ?_
      refine lv_icmp_ne (tgt := 61) hx hb dX9_tellWalker_56 (by decide) (fun c56 => ?_) (fun c56 => ?_)
      · have h := h.1 c56
        refine lv_aload_n hx hb dX9_tellWalker_61 rfl (lv_at hl 3 rfl) ?_
        refine gfX9_15 hx hb hts hown hK hP 3 rfl dX9_tellWalker_62 ?_
        refine gfX9_149 hx hb hts hown hK hP 4 rfl dX9_tellWalker_65 ?_
        refine lv_iload_n hx hb dX9_tellWalker_68 rfl (lv_at hl 2 rfl) ?_
        refine lv_iload_n hx hb dX9_tellWalker_69 rfl (lv_at hl 4 rfl) ?_
        obtain ⟨hin, h⟩ := h
        refine sti (k := l2_7.toNatClampNeg) (y := x1) hx hb hK hP hD hS 0 rfl hin rfl rfl dX9_tellWalker_70 (fun G_kind_70 eG_kind_70 H locs hP hD hS => ?_)
        have h := h G_kind_70 eG_kind_70
        have hP : va_P D clsX [((rG 12), .inl (cy 0, 4, .inl G_kind_70)), ((rG 13), .inl (cy 0, 4, .inl G_home)), ((rG 14), .inl (cy 0, 4, .inl G_water)), (h0, .inr (9, oX9 rL sL)), ((rL 1), .inr (4, oX4 rG sG)), ((rL 0), .inr (8, oX8 rR sR_48)), ((rR 0), .inl (cy 1, 500, .inl R_text))] H := hP
        have hD : va_D A [((rG 12), .inl (cy 0, 4, .inl G_kind_70)), ((rG 13), .inl (cy 0, 4, .inl G_home)), ((rG 14), .inl (cy 0, 4, .inl G_water)), (h0, .inr (9, oX9 rL sL)), ((rL 1), .inr (4, oX4 rG sG)), ((rL 0), .inr (8, oX8 rR sR_48)), ((rR 0), .inl (cy 1, 500, .inl R_text))] := hD
        refine lv_aload_n hx hb dX9_tellWalker_71 rfl (lv_at hl 3 rfl) ?_
        refine gfX9_15 hx hb hts hown hK hP 3 rfl dX9_tellWalker_72 ?_
        refine gfX9_151 hx hb hts hown hK hP 4 rfl dX9_tellWalker_75 ?_
        refine lv_iload_n hx hb dX9_tellWalker_78 rfl (lv_at hl 2 rfl) ?_
        refine lv_iload_n hx hb dX9_tellWalker_79 rfl (lv_at hl 1 rfl) ?_
        obtain ⟨hin, h⟩ := h
        refine sti (k := l2_7.toNatClampNeg) (y := r30) hx hb hK hP hD hS 1 rfl hin rfl rfl dX9_tellWalker_80 (fun G_home_80 eG_home_80 H locs hP hD hS => ?_)
        have h := h G_home_80 eG_home_80
        have hP : va_P D clsX [((rG 12), .inl (cy 0, 4, .inl G_kind_70)), ((rG 13), .inl (cy 0, 4, .inl G_home_80)), ((rG 14), .inl (cy 0, 4, .inl G_water)), (h0, .inr (9, oX9 rL sL)), ((rL 1), .inr (4, oX4 rG sG)), ((rL 0), .inr (8, oX8 rR sR_48)), ((rR 0), .inl (cy 1, 500, .inl R_text))] H := hP
        have hD : va_D A [((rG 12), .inl (cy 0, 4, .inl G_kind_70)), ((rG 13), .inl (cy 0, 4, .inl G_home_80)), ((rG 14), .inl (cy 0, 4, .inl G_water)), (h0, .inr (9, oX9 rL sL)), ((rL 1), .inr (4, oX4 rG sG)), ((rL 0), .inr (8, oX8 rR sR_48)), ((rR 0), .inl (cy 1, 500, .inl R_text))] := hD
        refine lv_aload_n hx hb dX9_tellWalker_81 rfl (lv_at hl 3 rfl) ?_
        refine gfX9_15 hx hb hts hown hK hP 3 rfl dX9_tellWalker_82 ?_
        refine gfX9_154 hx hb hts hown hK hP 4 rfl dX9_tellWalker_85 ?_
        refine lv_iload_n hx hb dX9_tellWalker_88 rfl (lv_at hl 2 rfl) ?_
        refine lv_iload hx hb dX9_tellWalker_89 (lv_at hl 0 rfl) ?_
        obtain ⟨hin, h⟩ := h
        refine sti (k := l2_7.toNatClampNeg) (y := r48) hx hb hK hP hD hS 2 rfl hin rfl rfl dX9_tellWalker_91 (fun G_water_91 eG_water_91 H locs hP hD hS => ?_)
        have h := h G_water_91 eG_water_91
        have hP : va_P D clsX [((rG 12), .inl (cy 0, 4, .inl G_kind_70)), ((rG 13), .inl (cy 0, 4, .inl G_home_80)), ((rG 14), .inl (cy 0, 4, .inl G_water_91)), (h0, .inr (9, oX9 rL sL)), ((rL 1), .inr (4, oX4 rG sG)), ((rL 0), .inr (8, oX8 rR sR_48)), ((rR 0), .inl (cy 1, 500, .inl R_text))] H := hP
        have hD : va_D A [((rG 12), .inl (cy 0, 4, .inl G_kind_70)), ((rG 13), .inl (cy 0, 4, .inl G_home_80)), ((rG 14), .inl (cy 0, 4, .inl G_water_91)), (h0, .inr (9, oX9 rL sL)), ((rL 1), .inr (4, oX4 rG sG)), ((rL 0), .inr (8, oX8 rR sR_48)), ((rR 0), .inl (cy 1, 500, .inl R_text))] := hD
        refine lv_aload_n hx hb dX9_tellWalker_92 rfl (lv_at hl 3 rfl) ?_
        refine gfX9_15 hx hb hts hown hK hP 3 rfl dX9_tellWalker_93 ?_
        refine lv_iload_n hx hb dX9_tellWalker_96 rfl (lv_at hl 2 rfl) ?_
        refine lv_iconst (v := (1 : Int32)) hx hb dX9_tellWalker_97 (by decide) ?_
        refine lv_iadd hx hb dX9_tellWalker_98 ?_
        refine lv_topi (fun f3_99 ef3_99 => ?_)
        have h := h f3_99 ef3_99
        refine pfX9_146 hx hb hts hown hK hP hD hS 4 rfl dX9_tellWalker_99 (fun H locs hP hD hS => ?_)
        have hP : va_P D clsX [((rG 12), .inl (cy 0, 4, .inl G_kind_70)), ((rG 13), .inl (cy 0, 4, .inl G_home_80)), ((rG 14), .inl (cy 0, 4, .inl G_water_91)), (h0, .inr (9, oX9 rL sL)), ((rL 1), .inr (4, oX4 rG (upd sG 3 f3_99))), ((rL 0), .inr (8, oX8 rR sR_48)), ((rR 0), .inl (cy 1, 500, .inl R_text))] H := hP
        have hD : va_D A [((rG 12), .inl (cy 0, 4, .inl G_kind_70)), ((rG 13), .inl (cy 0, 4, .inl G_home_80)), ((rG 14), .inl (cy 0, 4, .inl G_water_91)), (h0, .inr (9, oX9 rL sL)), ((rL 1), .inr (4, oX4 rG (upd sG 3 f3_99))), ((rL 0), .inr (8, oX8 rR sR_48)), ((rR 0), .inl (cy 1, 500, .inl R_text))] := hD
        refine lv_iconst (v := (1 : Int32)) hx hb dX9_tellWalker_102 (by decide) ?_
        exact hret (1 : Int32) ((upd sG 3 f3_99), sR_48, G_kind_70, G_home_80, G_water_91) _ _ _ _ rfl dX9_tellWalker_103 h (hP.sub [3, 4, 5, 0, 1, 2, 6] rfl) (hD.sub [3, 4, 5, 0, 1, 2, 6] (by decide) rfl) hS
      · have h := h.2 c56
        refine lv_iconst (v := (0 : Int32)) hx hb dX9_tellWalker_59 (by decide) ?_
        exact hret (0 : Int32) (sG, sR_48, G_kind, G_home, G_water) _ _ _ _ rfl dX9_tellWalker_60 h (hP.sub [3, 4, 5, 0, 1, 2, 6] rfl) (hD.sub [3, 4, 5, 0, 1, 2, 6] (by decide) rfl) hS
    · have h := h.2 c36
      refine lv_iconst (v := (0 : Int32)) hx hb dX9_tellWalker_39 (by decide) ?_
      exact hret (0 : Int32) (sG, sR_30, G_kind, G_home, G_water) _ _ _ _ rfl dX9_tellWalker_40 h (hP.sub [3, 4, 5, 0, 1, 2, 6] rfl) (hD.sub [3, 4, 5, 0, 1, 2, 6] (by decide) rfl) hS
  · have h := h.2 c10
    refine lv_aload_n hx hb dX9_tellWalker_13 rfl (lv_at hl 1 rfl) ?_
    refine gfX9_9 hx hb hts hown hK hP 0 rfl dX9_tellWalker_14 ?_
    refine lv_iconst (v := (2 : Int32)) hx hb dX9_tellWalker_17 (by decide) ?_
    refine clVi (As := [.int (2 : Int32)]) (rest := []) (Wr := [(h0, .inr (9, oX9 rL sL)), ((rL 1), .inr (4, oX4 rG sG)), ((rG 12), .inl (cy 0, 4, .inl G_kind)), ((rG 13), .inl (cy 0, 4, .inl G_home)), ((rG 14), .inl (cy 0, 4, .inl G_water)), ((rR 0), .inl (cy 1, 500, .inl R_text))]) (cq := (RX8, TX8, 10)) ⟨hx, hb, hml, hown, hts⟩ ⟨callB_of 1 hts (goodC mw811) rfl rfl rfl (hts _ (tb mw2)) (hts _ (tb mw812)) kdX8_refuse ⟨Nat.le_trans (by decide) hRf, Nat.le_trans (by decide) hRl⟩, hts _ (tb mw809), hts _ (tb mw810)⟩ (ctX8_refuse l D cy (rL 0) rR sR (2 : Int32) _ _ h) hK hP hD hS hA [2] [0, 1, 3, 4, 5, 6] rfl rfl (by decide) (by decide) (by decide) 0 rfl rfl rfl hl.1 rfl (Nat.le_of_ble_eq_true rfl) ⟨Nat.zero_le _, Nat.zero_le _⟩ dX9_tellWalker_18 (fun r18 sR_18 H locs h hP hD hS => ?_)
    have hP : va_P D clsX [(h0, .inr (9, oX9 rL sL)), ((rL 1), .inr (4, oX4 rG sG)), ((rG 12), .inl (cy 0, 4, .inl G_kind)), ((rG 13), .inl (cy 0, 4, .inl G_home)), ((rG 14), .inl (cy 0, 4, .inl G_water)), ((rR 0), .inl (cy 1, 500, .inl R_text)), ((rL 0), .inr (8, oX8 rR sR_18))] H := hP
    have hD : va_D A [(h0, .inr (9, oX9 rL sL)), ((rL 1), .inr (4, oX4 rG sG)), ((rG 12), .inl (cy 0, 4, .inl G_kind)), ((rG 13), .inl (cy 0, 4, .inl G_home)), ((rG 14), .inl (cy 0, 4, .inl G_water)), ((rR 0), .inl (cy 1, 500, .inl R_text)), ((rL 0), .inr (8, oX8 rR sR_18))] := hD
    obtain ⟨hz, h⟩ := h
    exact hret r18 (sG, sR_18, G_kind, G_home, G_water) _ _ _ _ hz dX9_tellWalker_21 h (hP.sub [0, 1, 6, 2, 3, 4, 5] rfl) (hD.sub [0, 1, 6, 2, 3, 4, 5] (by decide) rfl) hS
def wpX9_tellNight (sL : AR) (sR : AR) (sG : AR) (R_text : AR) (post : Int32 → AR → AR → AR → Prop) : Prop := (((sL 3) = 0 → wpX8_advance sR R_text (fun sR_25 => wpX8_number sR_25 R_text (0 : Int32) (9 : Int32) (fun r35 sR_35 => ((¬ r35 = (-1 : Int32) → post (1 : Int32) (upd sL 3 (1 : Int32)) sR_35 (upd sG 6 r35)) ∧ (r35 = (-1 : Int32) → post (0 : Int32) (upd sL 3 (1 : Int32)) sR_35 sG))))) ∧ (¬ (sL 3) = 0 → wpX8_refuse sR (4 : Int32) (fun r12 sR_12 => narrow .boolean (.int r12) = .int r12 ∧ post r12 sL sR_12 sG)))
set_option maxHeartbeats 4000000 in
set_option maxRecDepth 100000 in
theorem ctX9_tellNight (l : Launch) (D : va_G) (cy : Nat → ClassId) (h0 : Nat) (rL : Nat → Nat) (rR : Nat → Nat) (rG : Nat → Nat) (sL : AR) (sR : AR) (sG : AR) (R_text : AR) (sz : Nat) (post : Int32 → AR → AR → AR → Prop) (h : wpX9_tellNight sL sR sG R_text post) : Met l yX9_tellNight (Cond.code yX9_tellNight cX9_tellNight 2 (some .boolean) :: TB) ({ frames := 2, cells := 0, slots := 0, locals := 44 }) (va_Pc [.ref h0] (PreX D cy [(h0, .inr (9, oX9 rL sL)), ((rL 0), .inr (8, oX8 rR sR)), ((rL 1), .inr (4, oX4 rG sG)), ((rR 0), .inl (cy 1, 500, .inl R_text))] sz)) (va_Qi (fun (r : Int32) (u : AR × AR × AR) => post r (u.1) (u.2.1) (u.2.2)) (fun u => BkX D cy [(h0, .inr (9, oX9 rL sL)), ((rL 0), .inr (8, oX8 rR sR)), ((rL 1), .inr (4, oX4 rG sG)), ((rR 0), .inl (cy 1, 500, .inl R_text))] sz [(h0, .inr (9, oX9 rL (u.1))), ((rL 0), .inr (8, oX8 rR (u.2.1))), ((rL 1), .inr (4, oX4 rG (u.2.2))), ((rR 0), .inl (cy 1, 500, .inl R_text))]) (va_A [(h0, .inr (9, oX9 rL sL)), ((rL 0), .inr (8, oX8 rR sR)), ((rL 1), .inr (4, oX4 rG sG)), ((rR 0), .inl (cy 1, 500, .inl R_text))] sz)) 0 0 (va_A [(h0, .inr (9, oX9 rL sL)), ((rL 0), .inr (8, oX8 rR sR)), ((rL 1), .inr (4, oX4 rG sG)), ((rR 0), .inl (cy 1, 500, .inl R_text))] sz) := by
  refine ofWi (by decide) (Nat.le_of_ble_eq_true rfl) ?_
  intro p e s m args below meth c ls A R QQ hx hb hml hown hts hR hK hP hD hS hA hl hret
  have hown : s.vm.findClass RX9 = some m.cls := hown
  have hRf : 2 ≤ R.frames := by rw [hR]; exact Nat.le_refl _
  have hRl : 44 ≤ R.locals := by rw [hR]; exact Nat.le_refl _
  clear hR
  have hl : lv_has ls 2 [(0, .ref h0)] := hl
  refine lv_aload_n hx hb dX9_tellNight_0 rfl (lv_at hl 0 rfl) ?_
  refine gfX9_28 (v := (sL 3)) hx hb hts hown hK hP 0 rfl rfl dX9_tellNight_1 ?_
  refine lv_if_eq (tgt := 16) hx hb dX9_tellNight_4 (by decide) (fun c4 => ?_) (fun c4 => ?_)
  · have h := h.1 c4
    refine lv_aload_n hx hb dX9_tellNight_16 rfl (lv_at hl 0 rfl) ?_
    refine lv_iconst (v := (1 : Int32)) hx hb dX9_tellNight_17 (by decide) ?_
    refine pfX9_28 hx hb hts hown hK hP hD hS 0 rfl rfl dX9_tellNight_18 (fun H locs hP hD hS => ?_)
    have hP : va_P D clsX [(h0, .inr (9, oX9 rL (upd sL 3 (1 : Int32)))), ((rL 0), .inr (8, oX8 rR sR)), ((rL 1), .inr (4, oX4 rG sG)), ((rR 0), .inl (cy 1, 500, .inl R_text))] H := hP
    have hD : va_D A [(h0, .inr (9, oX9 rL (upd sL 3 (1 : Int32)))), ((rL 0), .inr (8, oX8 rR sR)), ((rL 1), .inr (4, oX4 rG sG)), ((rR 0), .inl (cy 1, 500, .inl R_text))] := hD
    refine lv_aload_n hx hb dX9_tellNight_21 rfl (lv_at hl 0 rfl) ?_
    refine gfX9_9 hx hb hts hown hK hP 0 rfl dX9_tellNight_22 ?_
    refine clVv (As := []) (rest := []) (Wr := [(h0, .inr (9, oX9 rL (upd sL 3 (1 : Int32)))), ((rL 1), .inr (4, oX4 rG sG))]) (cq := (RX8, TX8, 10)) ⟨hx, hb, hml, hown, hts⟩ ⟨callB_of 0 hts (goodC mw736) rfl rfl rfl (hts _ (tb mw2)) (hts _ (tb mw803)) kdX8_advance ⟨Nat.le_trans (by decide) hRf, Nat.le_trans (by decide) hRl⟩, hts _ (tb mw734), hts _ (tb mw735)⟩ (ctX8_advance l D cy (rL 0) rR sR R_text  _ _ h) hK hP hD hS hA [1, 3] [0, 2] rfl rfl (by decide) (by decide) (by decide) 0 rfl rfl rfl hl.1 rfl (Nat.le_of_ble_eq_true rfl) ⟨Nat.zero_le _, Nat.zero_le _⟩ dX9_tellNight_25 (fun sR_25 H locs h hP hD hS => ?_)
    have hP : va_P D clsX [(h0, .inr (9, oX9 rL (upd sL 3 (1 : Int32)))), ((rL 1), .inr (4, oX4 rG sG)), ((rL 0), .inr (8, oX8 rR sR_25)), ((rR 0), .inl (cy 1, 500, .inl R_text))] H := hP
    have hD : va_D A [(h0, .inr (9, oX9 rL (upd sL 3 (1 : Int32)))), ((rL 1), .inr (4, oX4 rG sG)), ((rL 0), .inr (8, oX8 rR sR_25)), ((rR 0), .inl (cy 1, 500, .inl R_text))] := hD
    refine lv_aload_n hx hb dX9_tellNight_28 rfl (lv_at hl 0 rfl) ?_
    refine gfX9_9 hx hb hts hown hK hP 0 rfl dX9_tellNight_29 ?_
    refine lv_iconst (v := (0 : Int32)) hx hb dX9_tellNight_32 (by decide) ?_
    refine lv_bipush (v := (9 : Int32)) hx hb dX9_tellNight_33 (by decide) ?_
    refine clVi (As := [.int (0 : Int32), .int (9 : Int32)]) (rest := []) (Wr := [(h0, .inr (9, oX9 rL (upd sL 3 (1 : Int32)))), ((rL 1), .inr (4, oX4 rG sG))]) (cq := (RX8, TX8, 10)) ⟨hx, hb, hml, hown, hts⟩ ⟨callB_of 2 hts (goodC mw807) rfl rfl rfl (hts _ (tb mw2)) (hts _ (tb mw804)) kdX8_number ⟨Nat.le_trans (by decide) hRf, Nat.le_trans (by decide) hRl⟩, hts _ (tb mw805), hts _ (tb mw806)⟩ (ctX8_number l D cy (rL 0) rR sR_25 R_text (0 : Int32) (9 : Int32) _ _ h) hK hP hD hS hA [2, 3] [0, 1] rfl rfl (by decide) (by decide) (by decide) 0 rfl rfl rfl hl.1 rfl (Nat.le_of_ble_eq_true rfl) ⟨Nat.zero_le _, Nat.zero_le _⟩ dX9_tellNight_35 (fun r35 sR_35 H locs h hP hD hS => ?_)
    have hP : va_P D clsX [(h0, .inr (9, oX9 rL (upd sL 3 (1 : Int32)))), ((rL 1), .inr (4, oX4 rG sG)), ((rL 0), .inr (8, oX8 rR sR_35)), ((rR 0), .inl (cy 1, 500, .inl R_text))] H := hP
    have hD : va_D A [(h0, .inr (9, oX9 rL (upd sL 3 (1 : Int32)))), ((rL 1), .inr (4, oX4 rG sG)), ((rL 0), .inr (8, oX8 rR sR_35)), ((rR 0), .inl (cy 1, 500, .inl R_text))] := hD
    refine lv_istore_n (lv' := [(1, .int r35), (0, .ref h0)]) hx hb dX9_tellNight_38 rfl hl (by decide) rfl (fun ls hl => ?_)
    refine lv_iload_n hx hb dX9_tellNight_39 rfl (lv_at hl 0 rfl) ?_
    refine lv_iconst (v := (-1 : Int32)) hx hb dX9_tellNight_40 (by decide) ?_
    refine lv_icmp_ne (tgt := 46) hx hb dX9_tellNight_41 (by decide) (fun c41 => ?_) (fun c41 => ?_)
    · have h := h.1 c41
      refine lv_aload_n hx hb dX9_tellNight_46 rfl (lv_at hl 1 rfl) ?_
      refine gfX9_15 hx hb hts hown hK hP 0 rfl dX9_tellNight_47 ?_
      refine lv_iload_n hx hb dX9_tellNight_50 rfl (lv_at hl 0 rfl) ?_
      refine pfX9_173 hx hb hts hown hK hP hD hS 1 rfl dX9_tellNight_51 (fun H locs hP hD hS => ?_)
      have hP : va_P D clsX [(h0, .inr (9, oX9 rL (upd sL 3 (1 : Int32)))), ((rL 1), .inr (4, oX4 rG (upd sG 6 r35))), ((rL 0), .inr (8, oX8 rR sR_35)), ((rR 0), .inl (cy 1, 500, .inl R_text))] H := hP
      have hD : va_D A [(h0, .inr (9, oX9 rL (upd sL 3 (1 : Int32)))), ((rL 1), .inr (4, oX4 rG (upd sG 6 r35))), ((rL 0), .inr (8, oX8 rR sR_35)), ((rR 0), .inl (cy 1, 500, .inl R_text))] := hD
      refine lv_iconst (v := (1 : Int32)) hx hb dX9_tellNight_54 (by decide) ?_
      exact hret (1 : Int32) ((upd sL 3 (1 : Int32)), sR_35, (upd sG 6 r35)) _ _ _ _ rfl dX9_tellNight_55 h (hP.sub [0, 2, 1, 3] rfl) (hD.sub [0, 2, 1, 3] (by decide) rfl) hS
    · have h := h.2 c41
      refine lv_iconst (v := (0 : Int32)) hx hb dX9_tellNight_44 (by decide) ?_
      exact hret (0 : Int32) ((upd sL 3 (1 : Int32)), sR_35, sG) _ _ _ _ rfl dX9_tellNight_45 h (hP.sub [0, 2, 1, 3] rfl) (hD.sub [0, 2, 1, 3] (by decide) rfl) hS
  · have h := h.2 c4
    refine lv_aload_n hx hb dX9_tellNight_7 rfl (lv_at hl 0 rfl) ?_
    refine gfX9_9 hx hb hts hown hK hP 0 rfl dX9_tellNight_8 ?_
    refine lv_iconst (v := (4 : Int32)) hx hb dX9_tellNight_11 (by decide) ?_
    refine clVi (As := [.int (4 : Int32)]) (rest := []) (Wr := [(h0, .inr (9, oX9 rL sL)), ((rL 1), .inr (4, oX4 rG sG)), ((rR 0), .inl (cy 1, 500, .inl R_text))]) (cq := (RX8, TX8, 10)) ⟨hx, hb, hml, hown, hts⟩ ⟨callB_of 1 hts (goodC mw811) rfl rfl rfl (hts _ (tb mw2)) (hts _ (tb mw812)) kdX8_refuse ⟨Nat.le_trans (by decide) hRf, Nat.le_trans (by decide) hRl⟩, hts _ (tb mw809), hts _ (tb mw810)⟩ (ctX8_refuse l D cy (rL 0) rR sR (4 : Int32) _ _ h) hK hP hD hS hA [1] [0, 2, 3] rfl rfl (by decide) (by decide) (by decide) 0 rfl rfl rfl hl.1 rfl (Nat.le_of_ble_eq_true rfl) ⟨Nat.zero_le _, Nat.zero_le _⟩ dX9_tellNight_12 (fun r12 sR_12 H locs h hP hD hS => ?_)
    have hP : va_P D clsX [(h0, .inr (9, oX9 rL sL)), ((rL 1), .inr (4, oX4 rG sG)), ((rR 0), .inl (cy 1, 500, .inl R_text)), ((rL 0), .inr (8, oX8 rR sR_12))] H := hP
    have hD : va_D A [(h0, .inr (9, oX9 rL sL)), ((rL 1), .inr (4, oX4 rG sG)), ((rR 0), .inl (cy 1, 500, .inl R_text)), ((rL 0), .inr (8, oX8 rR sR_12))] := hD
    obtain ⟨hz, h⟩ := h
    exact hret r12 (sL, sR_12, sG) _ _ _ _ hz dX9_tellNight_15 h (hP.sub [0, 3, 1, 2] rfl) (hD.sub [0, 3, 1, 2] (by decide) rfl) hS
def wpX9_tellMirage (sR : AR) (sG : AR) (R_text : AR) (G_mirage : AR) (post : Int32 → AR → AR → Prop) : Prop := wpX8_advance sR R_text (fun sR_4 => wpX9_tellCell sG sR_4 R_text (fun r8 sR_8 => ((¬ r8 = (-1 : Int32) → vp_in r8 100 ∧ (((G_mirage r8.toNatClampNeg) = 0 → vp_in r8 100 ∧ ∀ G_mirage_49 : AR, G_mirage_49 = upd G_mirage r8.toNatClampNeg (1 : Int32) → post (1 : Int32) sR_8 G_mirage_49) ∧ (¬ (G_mirage r8.toNatClampNeg) = 0 → wpX8_refuseBefore sR_8 (4 : Int32) (fun r36 sR_36 => narrow .boolean (.int r36) = .int r36 ∧ post r36 sR_36 G_mirage)))) ∧ (r8 = (-1 : Int32) → post (0 : Int32) sR_8 G_mirage))))
set_option maxHeartbeats 4000000 in
set_option maxRecDepth 100000 in
theorem ctX9_tellMirage (l : Launch) (D : va_G) (cy : Nat → ClassId) (h0 : Nat) (rL : Nat → Nat) (rR : Nat → Nat) (rG : Nat → Nat) (sL : AR) (sR : AR) (sG : AR) (R_text : AR) (G_mirage : AR) (sz : Nat) (post : Int32 → AR → AR → Prop) (h : wpX9_tellMirage sR sG R_text G_mirage post) : Met l yX9_tellMirage (Cond.code yX9_tellMirage cX9_tellMirage 2 (some .boolean) :: TB) ({ frames := 3, cells := 0, slots := 0, locals := 66 }) (va_Pc [.ref h0] (PreX D cy [(h0, .inr (9, oX9 rL sL)), ((rL 0), .inr (8, oX8 rR sR)), ((rL 1), .inr (4, oX4 rG sG)), ((rR 0), .inl (cy 1, 500, .inl R_text)), ((rG 15), .inl (cy 2, 100, .inl G_mirage))] sz)) (va_Qi (fun (r : Int32) (u : AR × AR) => post r (u.1) (u.2)) (fun u => BkX D cy [(h0, .inr (9, oX9 rL sL)), ((rL 0), .inr (8, oX8 rR sR)), ((rL 1), .inr (4, oX4 rG sG)), ((rR 0), .inl (cy 1, 500, .inl R_text)), ((rG 15), .inl (cy 2, 100, .inl G_mirage))] sz [(h0, .inr (9, oX9 rL sL)), ((rL 0), .inr (8, oX8 rR (u.1))), ((rL 1), .inr (4, oX4 rG sG)), ((rR 0), .inl (cy 1, 500, .inl R_text)), ((rG 15), .inl (cy 2, 100, .inl (u.2)))]) (va_A [(h0, .inr (9, oX9 rL sL)), ((rL 0), .inr (8, oX8 rR sR)), ((rL 1), .inr (4, oX4 rG sG)), ((rR 0), .inl (cy 1, 500, .inl R_text)), ((rG 15), .inl (cy 2, 100, .inl G_mirage))] sz)) 0 0 (va_A [(h0, .inr (9, oX9 rL sL)), ((rL 0), .inr (8, oX8 rR sR)), ((rL 1), .inr (4, oX4 rG sG)), ((rR 0), .inl (cy 1, 500, .inl R_text)), ((rG 15), .inl (cy 2, 100, .inl G_mirage))] sz) := by
  refine ofWi (by decide) (Nat.le_of_ble_eq_true rfl) ?_
  intro p e s m args below meth c ls A R QQ hx hb hml hown hts hR hK hP hD hS hA hl hret
  have hown : s.vm.findClass RX9 = some m.cls := hown
  have hRf : 3 ≤ R.frames := by rw [hR]; exact Nat.le_refl _
  have hRl : 66 ≤ R.locals := by rw [hR]; exact Nat.le_refl _
  clear hR
  have hl : lv_has ls 2 [(0, .ref h0)] := hl
  refine lv_aload_n hx hb dX9_tellMirage_0 rfl (lv_at hl 0 rfl) ?_
  refine gfX9_9 hx hb hts hown hK hP 0 rfl dX9_tellMirage_1 ?_
  refine clVv (As := []) (rest := []) (Wr := [(h0, .inr (9, oX9 rL sL)), ((rL 1), .inr (4, oX4 rG sG)), ((rG 15), .inl (cy 2, 100, .inl G_mirage))]) (cq := (RX8, TX8, 10)) ⟨hx, hb, hml, hown, hts⟩ ⟨callB_of 0 hts (goodC mw736) rfl rfl rfl (hts _ (tb mw2)) (hts _ (tb mw803)) kdX8_advance ⟨Nat.le_trans (by decide) hRf, Nat.le_trans (by decide) hRl⟩, hts _ (tb mw734), hts _ (tb mw735)⟩ (ctX8_advance l D cy (rL 0) rR sR R_text  _ _ h) hK hP hD hS hA [1, 3] [0, 2, 4] rfl rfl (by decide) (by decide) (by decide) 0 rfl rfl rfl hl.1 rfl (Nat.le_of_ble_eq_true rfl) ⟨Nat.zero_le _, Nat.zero_le _⟩ dX9_tellMirage_4 (fun sR_4 H locs h hP hD hS => ?_)
  have hP : va_P D clsX [(h0, .inr (9, oX9 rL sL)), ((rL 1), .inr (4, oX4 rG sG)), ((rG 15), .inl (cy 2, 100, .inl G_mirage)), ((rL 0), .inr (8, oX8 rR sR_4)), ((rR 0), .inl (cy 1, 500, .inl R_text))] H := hP
  have hD : va_D A [(h0, .inr (9, oX9 rL sL)), ((rL 1), .inr (4, oX4 rG sG)), ((rG 15), .inl (cy 2, 100, .inl G_mirage)), ((rL 0), .inr (8, oX8 rR sR_4)), ((rR 0), .inl (cy 1, 500, .inl R_text))] := hD
  refine lv_aload_n hx hb dX9_tellMirage_7 rfl (lv_at hl 0 rfl) ?_
  refine clVi (As := []) (rest := []) (Wr := [((rG 15), .inl (cy 2, 100, .inl G_mirage))]) (cq := (RX9, TX9, 4)) ⟨hx, hb, hml, hown, hts⟩ ⟨callB_of 0 hts (goodC mw821) rfl rfl rfl (hts _ (tb mw6)) (hts _ (tb mw818)) kdX9_tellCell ⟨Nat.le_trans (by decide) hRf, Nat.le_trans (by decide) hRl⟩, hts _ (tb mw820), hts _ (tb ms15)⟩ (ctX9_tellCell l D cy h0 rL rG rR sL sG sR_4 R_text  _ _ h) hK hP hD hS hA [0, 1, 3, 4] [2] rfl rfl (by decide) (by decide) (by decide) 0 rfl rfl rfl hl.1 rfl (Nat.le_of_ble_eq_true rfl) ⟨Nat.zero_le _, Nat.zero_le _⟩ dX9_tellMirage_8 (fun r8 sR_8 H locs h hP hD hS => ?_)
  have hP : va_P D clsX [((rG 15), .inl (cy 2, 100, .inl G_mirage)), (h0, .inr (9, oX9 rL sL)), ((rL 1), .inr (4, oX4 rG sG)), ((rL 0), .inr (8, oX8 rR sR_8)), ((rR 0), .inl (cy 1, 500, .inl R_text))] H := hP
  have hD : va_D A [((rG 15), .inl (cy 2, 100, .inl G_mirage)), (h0, .inr (9, oX9 rL sL)), ((rL 1), .inr (4, oX4 rG sG)), ((rL 0), .inr (8, oX8 rR sR_8)), ((rR 0), .inl (cy 1, 500, .inl R_text))] := hD
  refine lv_istore_n (lv' := [(1, .int r8), (0, .ref h0)]) hx hb dX9_tellMirage_11 rfl hl (by decide) rfl (fun ls hl => ?_)
  refine lv_iload_n hx hb dX9_tellMirage_12 rfl (lv_at hl 0 rfl) ?_
  refine lv_iconst (v := (-1 : Int32)) hx hb dX9_tellMirage_13 (by decide) ?_
  refine lv_icmp_ne (tgt := 19) hx hb dX9_tellMirage_14 (by decide) (fun c14 => ?_) (fun c14 => ?_)
  · have h := h.1 c14
    refine lv_aload_n hx hb dX9_tellMirage_19 rfl (lv_at hl 1 rfl) ?_
    refine gfX9_15 hx hb hts hown hK hP 1 rfl dX9_tellMirage_20 ?_
    refine gfX9_176 hx hb hts hown hK hP 2 rfl dX9_tellMirage_23 ?_
    refine lv_iload_n hx hb dX9_tellMirage_26 rfl (lv_at hl 0 rfl) ?_
    obtain ⟨hin, h⟩ := h
    refine ldz (k := r8.toNatClampNeg) hx hb hK hP 0 rfl hin rfl dX9_tellMirage_27 ?_
    refine lv_if_eq (tgt := 40) hx hb dX9_tellMirage_28 (by decide) (fun c28 => ?_) (fun c28 => ?_)
    · have h := h.1 c28
      refine lv_aload_n hx hb dX9_tellMirage_40 rfl (lv_at hl 1 rfl) ?_
      refine gfX9_15 hx hb hts hown hK hP 1 rfl dX9_tellMirage_41 ?_
      refine gfX9_176 hx hb hts hown hK hP 2 rfl dX9_tellMirage_44 ?_
      refine lv_iload_n hx hb dX9_tellMirage_47 rfl (lv_at hl 0 rfl) ?_
      refine lv_iconst (v := (1 : Int32)) hx hb dX9_tellMirage_48 (by decide) ?_
      obtain ⟨hin, h⟩ := h
      refine stz (k := r8.toNatClampNeg) (y := (1 : Int32)) hx hb hK hP hD hS 0 rfl hin rfl (by decide) dX9_tellMirage_49 (fun G_mirage_49 eG_mirage_49 H locs hP hD hS => ?_)
      have h := h G_mirage_49 eG_mirage_49
      have hP : va_P D clsX [((rG 15), .inl (cy 2, 100, .inl G_mirage_49)), (h0, .inr (9, oX9 rL sL)), ((rL 1), .inr (4, oX4 rG sG)), ((rL 0), .inr (8, oX8 rR sR_8)), ((rR 0), .inl (cy 1, 500, .inl R_text))] H := hP
      have hD : va_D A [((rG 15), .inl (cy 2, 100, .inl G_mirage_49)), (h0, .inr (9, oX9 rL sL)), ((rL 1), .inr (4, oX4 rG sG)), ((rL 0), .inr (8, oX8 rR sR_8)), ((rR 0), .inl (cy 1, 500, .inl R_text))] := hD
      refine lv_iconst (v := (1 : Int32)) hx hb dX9_tellMirage_50 (by decide) ?_
      exact hret (1 : Int32) (sR_8, G_mirage_49) _ _ _ _ rfl dX9_tellMirage_51 h (hP.sub [1, 3, 2, 4, 0] rfl) (hD.sub [1, 3, 2, 4, 0] (by decide) rfl) hS
    · have h := h.2 c28
      refine lv_aload_n hx hb dX9_tellMirage_31 rfl (lv_at hl 1 rfl) ?_
      refine gfX9_9 hx hb hts hown hK hP 1 rfl dX9_tellMirage_32 ?_
      refine lv_iconst (v := (4 : Int32)) hx hb dX9_tellMirage_35 (by decide) ?_
      refine clVi (As := [.int (4 : Int32)]) (rest := []) (Wr := [((rG 15), .inl (cy 2, 100, .inl G_mirage)), (h0, .inr (9, oX9 rL sL)), ((rL 1), .inr (4, oX4 rG sG)), ((rR 0), .inl (cy 1, 500, .inl R_text))]) (cq := (RX8, TX8, 10)) ⟨hx, hb, hml, hown, hts⟩ ⟨callB_of 1 hts (goodC mw829) rfl rfl rfl (hts _ (tb mw2)) (hts _ (tb mw826)) kdX8_refuseBefore ⟨Nat.le_trans (by decide) hRf, Nat.le_trans (by decide) hRl⟩, hts _ (tb mw827), hts _ (tb mw828)⟩ (ctX8_refuseBefore l D cy (rL 0) rR sR_8 (4 : Int32) _ _ h) hK hP hD hS hA [3] [0, 1, 2, 4] rfl rfl (by decide) (by decide) (by decide) 0 rfl rfl rfl hl.1 rfl (Nat.le_of_ble_eq_true rfl) ⟨Nat.zero_le _, Nat.zero_le _⟩ dX9_tellMirage_36 (fun r36 sR_36 H locs h hP hD hS => ?_)
      have hP : va_P D clsX [((rG 15), .inl (cy 2, 100, .inl G_mirage)), (h0, .inr (9, oX9 rL sL)), ((rL 1), .inr (4, oX4 rG sG)), ((rR 0), .inl (cy 1, 500, .inl R_text)), ((rL 0), .inr (8, oX8 rR sR_36))] H := hP
      have hD : va_D A [((rG 15), .inl (cy 2, 100, .inl G_mirage)), (h0, .inr (9, oX9 rL sL)), ((rL 1), .inr (4, oX4 rG sG)), ((rR 0), .inl (cy 1, 500, .inl R_text)), ((rL 0), .inr (8, oX8 rR sR_36))] := hD
      obtain ⟨hz, h⟩ := h
      exact hret r36 (sR_36, G_mirage) _ _ _ _ hz dX9_tellMirage_39 h (hP.sub [1, 4, 2, 3, 0] rfl) (hD.sub [1, 4, 2, 3, 0] (by decide) rfl) hS
  · have h := h.2 c14
    refine lv_iconst (v := (0 : Int32)) hx hb dX9_tellMirage_17 (by decide) ?_
    exact hret (0 : Int32) (sR_8, G_mirage) _ _ _ _ rfl dX9_tellMirage_18 h (hP.sub [1, 3, 2, 4, 0] rfl) (hD.sub [1, 3, 2, 4, 0] (by decide) rfl) hS
