theorem dX2_learnSteps_0 : decode cX2_learnSteps 0 = .ok (.aload_n 1, 1) := by decide +kernel
theorem dX2_learnSteps_1 : decode cX2_learnSteps 1 = .ok (.iload_n 2, 1) := by decide +kernel
theorem dX2_learnSteps_2 : decode cX2_learnSteps 2 = .ok (.invokevirtual 54, 3) := by decide +kernel
theorem dX2_learnSteps_5 : decode cX2_learnSteps 5 = .ok (.istore_n 3, 1) := by decide +kernel
theorem dX2_learnSteps_6 : decode cX2_learnSteps 6 = .ok (.aload_n 1, 1) := by decide +kernel
theorem dX2_learnSteps_7 : decode cX2_learnSteps 7 = .ok (.iload_n 2, 1) := by decide +kernel
theorem dX2_learnSteps_8 : decode cX2_learnSteps 8 = .ok (.invokevirtual 58, 3) := by decide +kernel
theorem dX2_learnSteps_11 : decode cX2_learnSteps 11 = .ok (.istore 4, 2) := by decide +kernel
theorem dX2_learnSteps_13 : decode cX2_learnSteps 13 = .ok (.iload_n 2, 1) := by decide +kernel
theorem dX2_learnSteps_14 : decode cX2_learnSteps 14 = .ok (.iconst 4, 1) := by decide +kernel
theorem dX2_learnSteps_15 : decode cX2_learnSteps 15 = .ok (.imul, 1) := by decide +kernel
theorem dX2_learnSteps_16 : decode cX2_learnSteps 16 = .ok (.istore 5, 2) := by decide +kernel
theorem dX2_learnSteps_18 : decode cX2_learnSteps 18 = .ok (.aload_n 0, 1) := by decide +kernel
theorem dX2_learnSteps_19 : decode cX2_learnSteps 19 = .ok (.getfield 11, 3) := by decide +kernel
theorem dX2_learnSteps_22 : decode cX2_learnSteps 22 = .ok (.iload 5, 2) := by decide +kernel
theorem dX2_learnSteps_24 : decode cX2_learnSteps 24 = .ok (.iconst 0, 1) := by decide +kernel
theorem dX2_learnSteps_25 : decode cX2_learnSteps 25 = .ok (.iadd, 1) := by decide +kernel
theorem dX2_learnSteps_26 : decode cX2_learnSteps 26 = .ok (.iload 4, 2) := by decide +kernel
theorem dX2_learnSteps_28 : decode cX2_learnSteps 28 = .ok (.ifCond .le 12, 3) := by decide +kernel
theorem dX2_learnSteps_31 : decode cX2_learnSteps 31 = .ok (.iload_n 2, 1) := by decide +kernel
theorem dX2_learnSteps_32 : decode cX2_learnSteps 32 = .ok (.aload_n 1, 1) := by decide +kernel
theorem dX2_learnSteps_33 : decode cX2_learnSteps 33 = .ok (.getfield 61, 3) := by decide +kernel
theorem dX2_learnSteps_36 : decode cX2_learnSteps 36 = .ok (.isub, 1) := by decide +kernel
theorem dX2_learnSteps_37 : decode cX2_learnSteps 37 = .ok (.goto 4, 3) := by decide +kernel
theorem dX2_learnSteps_40 : decode cX2_learnSteps 40 = .ok (.iload_n 2, 1) := by decide +kernel
theorem dX2_learnSteps_41 : decode cX2_learnSteps 41 = .ok (.iastore, 1) := by decide +kernel
theorem dX2_learnSteps_42 : decode cX2_learnSteps 42 = .ok (.aload_n 0, 1) := by decide +kernel
theorem dX2_learnSteps_43 : decode cX2_learnSteps 43 = .ok (.getfield 11, 3) := by decide +kernel
theorem dX2_learnSteps_46 : decode cX2_learnSteps 46 = .ok (.iload 5, 2) := by decide +kernel
theorem dX2_learnSteps_48 : decode cX2_learnSteps 48 = .ok (.iconst 1, 1) := by decide +kernel
theorem dX2_learnSteps_49 : decode cX2_learnSteps 49 = .ok (.iadd, 1) := by decide +kernel
theorem dX2_learnSteps_50 : decode cX2_learnSteps 50 = .ok (.iload_n 3, 1) := by decide +kernel
theorem dX2_learnSteps_51 : decode cX2_learnSteps 51 = .ok (.aload_n 1, 1) := by decide +kernel
theorem dX2_learnSteps_52 : decode cX2_learnSteps 52 = .ok (.getfield 61, 3) := by decide +kernel
theorem dX2_learnSteps_55 : decode cX2_learnSteps 55 = .ok (.iconst 1, 1) := by decide +kernel
theorem dX2_learnSteps_56 : decode cX2_learnSteps 56 = .ok (.isub, 1) := by decide +kernel
theorem dX2_learnSteps_57 : decode cX2_learnSteps 57 = .ok (.if_icmp .ge 9, 3) := by decide +kernel
theorem dX2_learnSteps_60 : decode cX2_learnSteps 60 = .ok (.iload_n 2, 1) := by decide +kernel
theorem dX2_learnSteps_61 : decode cX2_learnSteps 61 = .ok (.iconst 1, 1) := by decide +kernel
theorem dX2_learnSteps_62 : decode cX2_learnSteps 62 = .ok (.iadd, 1) := by decide +kernel
theorem dX2_learnSteps_63 : decode cX2_learnSteps 63 = .ok (.goto 4, 3) := by decide +kernel
theorem dX2_learnSteps_66 : decode cX2_learnSteps 66 = .ok (.iload_n 2, 1) := by decide +kernel
theorem dX2_learnSteps_67 : decode cX2_learnSteps 67 = .ok (.iastore, 1) := by decide +kernel
theorem dX2_learnSteps_68 : decode cX2_learnSteps 68 = .ok (.aload_n 0, 1) := by decide +kernel
theorem dX2_learnSteps_69 : decode cX2_learnSteps 69 = .ok (.getfield 11, 3) := by decide +kernel
theorem dX2_learnSteps_72 : decode cX2_learnSteps 72 = .ok (.iload 5, 2) := by decide +kernel
theorem dX2_learnSteps_74 : decode cX2_learnSteps 74 = .ok (.iconst 2, 1) := by decide +kernel
theorem dX2_learnSteps_75 : decode cX2_learnSteps 75 = .ok (.iadd, 1) := by decide +kernel
theorem dX2_learnSteps_76 : decode cX2_learnSteps 76 = .ok (.iload 4, 2) := by decide +kernel
theorem dX2_learnSteps_78 : decode cX2_learnSteps 78 = .ok (.aload_n 1, 1) := by decide +kernel
theorem dX2_learnSteps_79 : decode cX2_learnSteps 79 = .ok (.getfield 64, 3) := by decide +kernel
theorem dX2_learnSteps_82 : decode cX2_learnSteps 82 = .ok (.iconst 1, 1) := by decide +kernel
theorem dX2_learnSteps_83 : decode cX2_learnSteps 83 = .ok (.isub, 1) := by decide +kernel
theorem dX2_learnSteps_84 : decode cX2_learnSteps 84 = .ok (.if_icmp .ge 12, 3) := by decide +kernel
theorem dX2_learnSteps_87 : decode cX2_learnSteps 87 = .ok (.iload_n 2, 1) := by decide +kernel
theorem dX2_learnSteps_88 : decode cX2_learnSteps 88 = .ok (.aload_n 1, 1) := by decide +kernel
theorem dX2_learnSteps_89 : decode cX2_learnSteps 89 = .ok (.getfield 61, 3) := by decide +kernel
theorem dX2_learnSteps_92 : decode cX2_learnSteps 92 = .ok (.iadd, 1) := by decide +kernel
theorem dX2_learnSteps_93 : decode cX2_learnSteps 93 = .ok (.goto 4, 3) := by decide +kernel
theorem dX2_learnSteps_96 : decode cX2_learnSteps 96 = .ok (.iload_n 2, 1) := by decide +kernel
theorem dX2_learnSteps_97 : decode cX2_learnSteps 97 = .ok (.iastore, 1) := by decide +kernel
theorem dX2_learnSteps_98 : decode cX2_learnSteps 98 = .ok (.aload_n 0, 1) := by decide +kernel
theorem dX2_learnSteps_99 : decode cX2_learnSteps 99 = .ok (.getfield 11, 3) := by decide +kernel
theorem dX2_learnSteps_102 : decode cX2_learnSteps 102 = .ok (.iload 5, 2) := by decide +kernel
theorem dX2_learnSteps_104 : decode cX2_learnSteps 104 = .ok (.iconst 3, 1) := by decide +kernel
theorem dX2_learnSteps_105 : decode cX2_learnSteps 105 = .ok (.iadd, 1) := by decide +kernel
theorem dX2_learnSteps_106 : decode cX2_learnSteps 106 = .ok (.iload_n 3, 1) := by decide +kernel
theorem dX2_learnSteps_107 : decode cX2_learnSteps 107 = .ok (.ifCond .le 9, 3) := by decide +kernel
theorem dX2_learnSteps_110 : decode cX2_learnSteps 110 = .ok (.iload_n 2, 1) := by decide +kernel
theorem dX2_learnSteps_111 : decode cX2_learnSteps 111 = .ok (.iconst 1, 1) := by decide +kernel
theorem dX2_learnSteps_112 : decode cX2_learnSteps 112 = .ok (.isub, 1) := by decide +kernel
theorem dX2_learnSteps_113 : decode cX2_learnSteps 113 = .ok (.goto 4, 3) := by decide +kernel
theorem dX2_learnSteps_116 : decode cX2_learnSteps 116 = .ok (.iload_n 2, 1) := by decide +kernel
theorem dX2_learnSteps_117 : decode cX2_learnSteps 117 = .ok (.iastore, 1) := by decide +kernel
theorem dX2_learnSteps_118 : decode cX2_learnSteps 118 = .ok (.return_, 1) := by decide +kernel
theorem dX2_towards_0 : decode cX2_towards 0 = .ok (.aload_n 0, 1) := by decide +kernel
theorem dX2_towards_1 : decode cX2_towards 1 = .ok (.getfield 45, 3) := by decide +kernel
theorem dX2_towards_4 : decode cX2_towards 4 = .ok (.iload_n 2, 1) := by decide +kernel
theorem dX2_towards_5 : decode cX2_towards 5 = .ok (.iaload, 1) := by decide +kernel
theorem dX2_towards_6 : decode cX2_towards 6 = .ok (.istore_n 3, 1) := by decide +kernel
theorem dX2_towards_7 : decode cX2_towards 7 = .ok (.aload_n 0, 1) := by decide +kernel
theorem dX2_towards_8 : decode cX2_towards 8 = .ok (.iload_n 3, 1) := by decide +kernel
theorem dX2_towards_9 : decode cX2_towards 9 = .ok (.invokevirtual 54, 3) := by decide +kernel
theorem dX2_towards_12 : decode cX2_towards 12 = .ok (.aload_n 0, 1) := by decide +kernel
theorem dX2_towards_13 : decode cX2_towards 13 = .ok (.iload_n 1, 1) := by decide +kernel
theorem dX2_towards_14 : decode cX2_towards 14 = .ok (.invokevirtual 54, 3) := by decide +kernel
theorem dX2_towards_17 : decode cX2_towards 17 = .ok (.isub, 1) := by decide +kernel
theorem dX2_towards_18 : decode cX2_towards 18 = .ok (.istore 4, 2) := by decide +kernel
theorem dX2_towards_20 : decode cX2_towards 20 = .ok (.aload_n 0, 1) := by decide +kernel
theorem dX2_towards_21 : decode cX2_towards 21 = .ok (.iload_n 3, 1) := by decide +kernel
theorem dX2_towards_22 : decode cX2_towards 22 = .ok (.invokevirtual 58, 3) := by decide +kernel
theorem dX2_towards_25 : decode cX2_towards 25 = .ok (.aload_n 0, 1) := by decide +kernel
theorem dX2_towards_26 : decode cX2_towards 26 = .ok (.iload_n 1, 1) := by decide +kernel
theorem dX2_towards_27 : decode cX2_towards 27 = .ok (.invokevirtual 58, 3) := by decide +kernel
theorem dX2_towards_30 : decode cX2_towards 30 = .ok (.isub, 1) := by decide +kernel
theorem dX2_towards_31 : decode cX2_towards 31 = .ok (.istore 5, 2) := by decide +kernel
theorem dX2_towards_33 : decode cX2_towards 33 = .ok (.iload 4, 2) := by decide +kernel
theorem dX2_towards_35 : decode cX2_towards 35 = .ok (.invokestatic 67, 3) := by decide +kernel
theorem dX2_towards_38 : decode cX2_towards 38 = .ok (.iload 5, 2) := by decide +kernel
theorem dX2_towards_40 : decode cX2_towards 40 = .ok (.invokestatic 67, 3) := by decide +kernel
theorem dX2_towards_43 : decode cX2_towards 43 = .ok (.if_icmp .lt 18, 3) := by decide +kernel
theorem dX2_towards_46 : decode cX2_towards 46 = .ok (.iload 4, 2) := by decide +kernel
theorem dX2_towards_48 : decode cX2_towards 48 = .ok (.ifCond .le 7, 3) := by decide +kernel
theorem dX2_towards_51 : decode cX2_towards 51 = .ok (.iconst 1, 1) := by decide +kernel
theorem dX2_towards_52 : decode cX2_towards 52 = .ok (.goto 4, 3) := by decide +kernel
theorem dX2_towards_55 : decode cX2_towards 55 = .ok (.iconst 3, 1) := by decide +kernel
theorem dX2_towards_56 : decode cX2_towards 56 = .ok (.istore 6, 2) := by decide +kernel
theorem dX2_towards_58 : decode cX2_towards 58 = .ok (.goto 15, 3) := by decide +kernel
theorem dX2_towards_61 : decode cX2_towards 61 = .ok (.iload 5, 2) := by decide +kernel
theorem dX2_towards_63 : decode cX2_towards 63 = .ok (.ifCond .le 7, 3) := by decide +kernel
theorem dX2_towards_66 : decode cX2_towards 66 = .ok (.iconst 2, 1) := by decide +kernel
theorem dX2_towards_67 : decode cX2_towards 67 = .ok (.goto 4, 3) := by decide +kernel
theorem dX2_towards_70 : decode cX2_towards 70 = .ok (.iconst 0, 1) := by decide +kernel
theorem dX2_towards_71 : decode cX2_towards 71 = .ok (.istore 6, 2) := by decide +kernel
theorem dX2_towards_73 : decode cX2_towards 73 = .ok (.aload_n 0, 1) := by decide +kernel
theorem dX2_towards_74 : decode cX2_towards 74 = .ok (.getfield 70, 3) := by decide +kernel
theorem dX2_towards_77 : decode cX2_towards 77 = .ok (.ifCond .ne 16, 3) := by decide +kernel
theorem dX2_towards_80 : decode cX2_towards 80 = .ok (.aload_n 0, 1) := by decide +kernel
theorem dX2_towards_81 : decode cX2_towards 81 = .ok (.getfield 73, 3) := by decide +kernel
theorem dX2_towards_84 : decode cX2_towards 84 = .ok (.iload_n 1, 1) := by decide +kernel
theorem dX2_towards_85 : decode cX2_towards 85 = .ok (.baload, 1) := by decide +kernel
theorem dX2_towards_86 : decode cX2_towards 86 = .ok (.ifCond .eq 7, 3) := by decide +kernel
theorem dX2_towards_89 : decode cX2_towards 89 = .ok (.iconst 1, 1) := by decide +kernel
theorem dX2_towards_90 : decode cX2_towards 90 = .ok (.goto 4, 3) := by decide +kernel
theorem dX2_towards_93 : decode cX2_towards 93 = .ok (.iconst 0, 1) := by decide +kernel
theorem dX2_towards_94 : decode cX2_towards 94 = .ok (.istore 7, 2) := by decide +kernel
theorem dX2_towards_96 : decode cX2_towards 96 = .ok (.iload 7, 2) := by decide +kernel
theorem dX2_towards_98 : decode cX2_towards 98 = .ok (.ifCond .eq 12, 3) := by decide +kernel
theorem dX2_towards_101 : decode cX2_towards 101 = .ok (.iload 6, 2) := by decide +kernel
theorem dX2_towards_103 : decode cX2_towards 103 = .ok (.iconst 2, 1) := by decide +kernel
theorem dX2_towards_104 : decode cX2_towards 104 = .ok (.iadd, 1) := by decide +kernel
theorem dX2_towards_105 : decode cX2_towards 105 = .ok (.iconst 4, 1) := by decide +kernel
theorem dX2_towards_106 : decode cX2_towards 106 = .ok (.irem, 1) := by decide +kernel
theorem dX2_towards_107 : decode cX2_towards 107 = .ok (.goto 5, 3) := by decide +kernel
theorem dX2_towards_110 : decode cX2_towards 110 = .ok (.iload 6, 2) := by decide +kernel
theorem dX2_towards_112 : decode cX2_towards 112 = .ok (.ireturn, 1) := by decide +kernel
theorem dX2_learn_0 : decode cX2_learn 0 = .ok (.aload_n 1, 1) := by decide +kernel
theorem dX2_learn_1 : decode cX2_learn 1 = .ok (.invokevirtual 21, 3) := by decide +kernel
theorem dX2_learn_4 : decode cX2_learn 4 = .ok (.bipush 100, 2) := by decide +kernel
theorem dX2_learn_6 : decode cX2_learn 6 = .ok (.invokestatic 27, 3) := by decide +kernel
theorem dX2_learn_9 : decode cX2_learn 9 = .ok (.istore_n 2, 1) := by decide +kernel
theorem dX2_learn_10 : decode cX2_learn 10 = .ok (.iconst 0, 1) := by decide +kernel
theorem dX2_learn_11 : decode cX2_learn 11 = .ok (.istore_n 3, 1) := by decide +kernel
theorem dX2_learn_12 : decode cX2_learn 12 = .ok (.iload_n 3, 1) := by decide +kernel
theorem dX2_learn_13 : decode cX2_learn 13 = .ok (.iload_n 2, 1) := by decide +kernel
theorem dX2_learn_14 : decode cX2_learn 14 = .ok (.if_icmp .ge 51, 3) := by decide +kernel
theorem dX2_learn_17 : decode cX2_learn 17 = .ok (.aload_n 0, 1) := by decide +kernel
theorem dX2_learn_18 : decode cX2_learn 18 = .ok (.aload_n 1, 1) := by decide +kernel
theorem dX2_learn_19 : decode cX2_learn 19 = .ok (.iload_n 3, 1) := by decide +kernel
theorem dX2_learn_20 : decode cX2_learn 20 = .ok (.invokevirtual 33, 3) := by decide +kernel
theorem dX2_learn_23 : decode cX2_learn 23 = .ok (.iconst 0, 1) := by decide +kernel
theorem dX2_learn_24 : decode cX2_learn 24 = .ok (.istore 4, 2) := by decide +kernel
theorem dX2_learn_26 : decode cX2_learn 26 = .ok (.iload 4, 2) := by decide +kernel
theorem dX2_learn_28 : decode cX2_learn 28 = .ok (.aload_n 1, 1) := by decide +kernel
theorem dX2_learn_29 : decode cX2_learn 29 = .ok (.getfield 37, 3) := by decide +kernel
theorem dX2_learn_32 : decode cX2_learn 32 = .ok (.if_icmp .ge 27, 3) := by decide +kernel
theorem dX2_learn_35 : decode cX2_learn 35 = .ok (.aload_n 0, 1) := by decide +kernel
theorem dX2_learn_36 : decode cX2_learn 36 = .ok (.getfield 15, 3) := by decide +kernel
theorem dX2_learn_39 : decode cX2_learn 39 = .ok (.iload_n 3, 1) := by decide +kernel
theorem dX2_learn_40 : decode cX2_learn 40 = .ok (.iconst 5, 1) := by decide +kernel
theorem dX2_learn_41 : decode cX2_learn 41 = .ok (.imul, 1) := by decide +kernel
theorem dX2_learn_42 : decode cX2_learn 42 = .ok (.iload 4, 2) := by decide +kernel
theorem dX2_learn_44 : decode cX2_learn 44 = .ok (.iadd, 1) := by decide +kernel
theorem dX2_learn_45 : decode cX2_learn 45 = .ok (.aload_n 1, 1) := by decide +kernel
theorem dX2_learn_46 : decode cX2_learn 46 = .ok (.iload_n 3, 1) := by decide +kernel
theorem dX2_learn_47 : decode cX2_learn 47 = .ok (.iload 4, 2) := by decide +kernel
theorem dX2_learn_49 : decode cX2_learn 49 = .ok (.invokestatic 41, 3) := by decide +kernel
theorem dX2_learn_52 : decode cX2_learn 52 = .ok (.iastore, 1) := by decide +kernel
theorem dX2_learn_53 : decode cX2_learn 53 = .ok (.iinc 4 1, 3) := by decide +kernel
theorem dX2_learn_56 : decode cX2_learn 56 = .ok (.goto (-30), 3) := by decide +kernel
theorem dX2_learn_59 : decode cX2_learn 59 = .ok (.iinc 3 1, 3) := by decide +kernel
theorem dX2_learn_62 : decode cX2_learn 62 = .ok (.goto (-50), 3) := by decide +kernel
theorem dX2_learn_65 : decode cX2_learn 65 = .ok (.aload_n 1, 1) := by decide +kernel
theorem dX2_learn_66 : decode cX2_learn 66 = .ok (.getfield 45, 3) := by decide +kernel
theorem dX2_learn_69 : decode cX2_learn 69 = .ok (.iconst 0, 1) := by decide +kernel
theorem dX2_learn_70 : decode cX2_learn 70 = .ok (.aload_n 0, 1) := by decide +kernel
theorem dX2_learn_71 : decode cX2_learn 71 = .ok (.getfield 18, 3) := by decide +kernel
theorem dX2_learn_74 : decode cX2_learn 74 = .ok (.iconst 0, 1) := by decide +kernel
theorem dX2_learn_75 : decode cX2_learn 75 = .ok (.iconst 5, 1) := by decide +kernel
theorem dX2_learn_76 : decode cX2_learn 76 = .ok (.invokestatic 48, 3) := by decide +kernel
theorem dX2_learn_79 : decode cX2_learn 79 = .ok (.return_, 1) := by decide +kernel
theorem dX2_pace_0 : decode cX2_pace 0 = .ok (.iload_n 3, 1) := by decide +kernel
theorem dX2_pace_1 : decode cX2_pace 1 = .ok (.ifCond .ge 22, 3) := by decide +kernel
theorem dX2_pace_4 : decode cX2_pace 4 = .ok (.aload_n 0, 1) := by decide +kernel
theorem dX2_pace_5 : decode cX2_pace 5 = .ok (.getfield 11, 3) := by decide +kernel
theorem dX2_pace_8 : decode cX2_pace 8 = .ok (.iload_n 1, 1) := by decide +kernel
theorem dX2_pace_9 : decode cX2_pace 9 = .ok (.iconst 4, 1) := by decide +kernel
theorem dX2_pace_10 : decode cX2_pace 10 = .ok (.imul, 1) := by decide +kernel
theorem dX2_pace_11 : decode cX2_pace 11 = .ok (.iload_n 2, 1) := by decide +kernel
theorem dX2_pace_12 : decode cX2_pace 12 = .ok (.iadd, 1) := by decide +kernel
theorem dX2_pace_13 : decode cX2_pace 13 = .ok (.iaload, 1) := by decide +kernel
theorem dX2_pace_14 : decode cX2_pace 14 = .ok (.iconst 4, 1) := by decide +kernel
theorem dX2_pace_15 : decode cX2_pace 15 = .ok (.imul, 1) := by decide +kernel
theorem dX2_pace_16 : decode cX2_pace 16 = .ok (.iload_n 2, 1) := by decide +kernel
theorem dX2_pace_17 : decode cX2_pace 17 = .ok (.iconst 1, 1) := by decide +kernel
theorem dX2_pace_18 : decode cX2_pace 18 = .ok (.iadd, 1) := by decide +kernel
theorem dX2_pace_19 : decode cX2_pace 19 = .ok (.iconst 4, 1) := by decide +kernel
theorem dX2_pace_20 : decode cX2_pace 20 = .ok (.irem, 1) := by decide +kernel
theorem dX2_pace_21 : decode cX2_pace 21 = .ok (.iadd, 1) := by decide +kernel
theorem dX2_pace_22 : decode cX2_pace 22 = .ok (.ireturn, 1) := by decide +kernel
theorem dX2_pace_23 : decode cX2_pace 23 = .ok (.aload_n 0, 1) := by decide +kernel
theorem dX2_pace_24 : decode cX2_pace 24 = .ok (.getfield 18, 3) := by decide +kernel
theorem dX2_pace_27 : decode cX2_pace 27 = .ok (.iload_n 3, 1) := by decide +kernel
theorem dX2_pace_28 : decode cX2_pace 28 = .ok (.iaload, 1) := by decide +kernel
theorem dX2_pace_29 : decode cX2_pace 29 = .ok (.iload_n 1, 1) := by decide +kernel
theorem dX2_pace_30 : decode cX2_pace 30 = .ok (.if_icmp .ne 9, 3) := by decide +kernel
theorem dX2_pace_33 : decode cX2_pace 33 = .ok (.iload_n 1, 1) := by decide +kernel
theorem dX2_pace_34 : decode cX2_pace 34 = .ok (.iconst 4, 1) := by decide +kernel
theorem dX2_pace_35 : decode cX2_pace 35 = .ok (.imul, 1) := by decide +kernel
theorem dX2_pace_36 : decode cX2_pace 36 = .ok (.iload_n 2, 1) := by decide +kernel
theorem dX2_pace_37 : decode cX2_pace 37 = .ok (.iadd, 1) := by decide +kernel
theorem dX2_pace_38 : decode cX2_pace 38 = .ok (.ireturn, 1) := by decide +kernel
theorem dX2_pace_39 : decode cX2_pace 39 = .ok (.aload_n 0, 1) := by decide +kernel
theorem dX2_pace_40 : decode cX2_pace 40 = .ok (.getfield 15, 3) := by decide +kernel
theorem dX2_pace_43 : decode cX2_pace 43 = .ok (.iload_n 1, 1) := by decide +kernel
theorem dX2_pace_44 : decode cX2_pace 44 = .ok (.iconst 5, 1) := by decide +kernel
theorem dX2_pace_45 : decode cX2_pace 45 = .ok (.imul, 1) := by decide +kernel
theorem dX2_pace_46 : decode cX2_pace 46 = .ok (.iload_n 3, 1) := by decide +kernel
theorem dX2_pace_47 : decode cX2_pace 47 = .ok (.iadd, 1) := by decide +kernel
theorem dX2_pace_48 : decode cX2_pace 48 = .ok (.iaload, 1) := by decide +kernel
theorem dX2_pace_49 : decode cX2_pace 49 = .ok (.istore 4, 2) := by decide +kernel
theorem dX2_pace_51 : decode cX2_pace 51 = .ok (.aload_n 0, 1) := by decide +kernel
theorem dX2_pace_52 : decode cX2_pace 52 = .ok (.getfield 11, 3) := by decide +kernel
theorem dX2_pace_55 : decode cX2_pace 55 = .ok (.iload_n 1, 1) := by decide +kernel
theorem dX2_pace_56 : decode cX2_pace 56 = .ok (.iconst 4, 1) := by decide +kernel
theorem dX2_pace_57 : decode cX2_pace 57 = .ok (.imul, 1) := by decide +kernel
theorem dX2_pace_58 : decode cX2_pace 58 = .ok (.iload 4, 2) := by decide +kernel
theorem dX2_pace_60 : decode cX2_pace 60 = .ok (.iadd, 1) := by decide +kernel
theorem dX2_pace_61 : decode cX2_pace 61 = .ok (.iaload, 1) := by decide +kernel
theorem dX2_pace_62 : decode cX2_pace 62 = .ok (.iconst 4, 1) := by decide +kernel
theorem dX2_pace_63 : decode cX2_pace 63 = .ok (.imul, 1) := by decide +kernel
theorem dX2_pace_64 : decode cX2_pace 64 = .ok (.iload 4, 2) := by decide +kernel
theorem dX2_pace_66 : decode cX2_pace 66 = .ok (.iadd, 1) := by decide +kernel
theorem dX2_pace_67 : decode cX2_pace 67 = .ok (.ireturn, 1) := by decide +kernel
theorem dX2_cellOf_0 : decode cX2_cellOf 0 = .ok (.iload_n 0, 1) := by decide +kernel
theorem dX2_cellOf_1 : decode cX2_cellOf 1 = .ok (.iconst 4, 1) := by decide +kernel
theorem dX2_cellOf_2 : decode cX2_cellOf 2 = .ok (.idiv, 1) := by decide +kernel
theorem dX2_cellOf_3 : decode cX2_cellOf 3 = .ok (.ireturn, 1) := by decide +kernel
theorem dX2_headingOf_0 : decode cX2_headingOf 0 = .ok (.iload_n 0, 1) := by decide +kernel
theorem dX2_headingOf_1 : decode cX2_headingOf 1 = .ok (.iconst 4, 1) := by decide +kernel
theorem dX2_headingOf_2 : decode cX2_headingOf 2 = .ok (.irem, 1) := by decide +kernel
theorem dX2_headingOf_3 : decode cX2_headingOf 3 = .ok (.ireturn, 1) := by decide +kernel
theorem dX2_isAt_0 : decode cX2_isAt 0 = .ok (.iload_n 2, 1) := by decide +kernel
theorem dX2_isAt_1 : decode cX2_isAt 1 = .ok (.ifCond .lt 17, 3) := by decide +kernel
theorem dX2_isAt_4 : decode cX2_isAt 4 = .ok (.aload_n 0, 1) := by decide +kernel
theorem dX2_isAt_5 : decode cX2_isAt 5 = .ok (.getfield 18, 3) := by decide +kernel
theorem dX2_isAt_8 : decode cX2_isAt 8 = .ok (.iload_n 2, 1) := by decide +kernel
theorem dX2_isAt_9 : decode cX2_isAt 9 = .ok (.iaload, 1) := by decide +kernel
theorem dX2_isAt_10 : decode cX2_isAt 10 = .ok (.iload_n 1, 1) := by decide +kernel
theorem dX2_isAt_11 : decode cX2_isAt 11 = .ok (.if_icmp .ne 7, 3) := by decide +kernel
theorem dX2_isAt_14 : decode cX2_isAt 14 = .ok (.iconst 1, 1) := by decide +kernel
theorem dX2_isAt_15 : decode cX2_isAt 15 = .ok (.goto 4, 3) := by decide +kernel
theorem dX2_isAt_18 : decode cX2_isAt 18 = .ok (.iconst 0, 1) := by decide +kernel
theorem dX2_isAt_19 : decode cX2_isAt 19 = .ok (.ireturn, 1) := by decide +kernel
def wpX2_learnSteps_J117 (sG : AR) (W_next : AR) (t1 : Int32) (t2 : Int32) (post : AR → Prop) : Prop := vp_in t1 400 ∧ ∀ W_next_117 : AR, W_next_117 = upd W_next t1.toNatClampNeg t2 → post W_next_117
def wpX2_learnSteps_J97 (sG : AR) (W_next : AR) (l2 : Int32) (l3 : Int32) (l5 : Int32) (t1 : Int32) (t2 : Int32) (post : AR → Prop) : Prop := vp_in t1 400 ∧ ∀ W_next_97 : AR, W_next_97 = upd W_next t1.toNatClampNeg t2 → ((l3 ≤ 0 → wpX2_learnSteps_J117 sG W_next_97 (l5 + (3 : Int32)) l2 post) ∧ (¬ l3 ≤ 0 → wpX2_learnSteps_J117 sG W_next_97 (l5 + (3 : Int32)) (l2 - (1 : Int32)) post))
def wpX2_learnSteps_J67 (sG : AR) (W_next : AR) (l2 : Int32) (l3 : Int32) (l4 : Int32) (l5 : Int32) (t1 : Int32) (t2 : Int32) (post : AR → Prop) : Prop := vp_in t1 400 ∧ ∀ W_next_67 : AR, W_next_67 = upd W_next t1.toNatClampNeg t2 → ((((sG 1) - (1 : Int32)) ≤ l4 → wpX2_learnSteps_J97 sG W_next_67 l2 l3 l5 (l5 + (2 : Int32)) l2 post) ∧ (¬ ((sG 1) - (1 : Int32)) ≤ l4 → wpX2_learnSteps_J97 sG W_next_67 l2 l3 l5 (l5 + (2 : Int32)) (l2 + (sG 0)) post))
def wpX2_learnSteps_J41 (sG : AR) (W_next : AR) (l2 : Int32) (l3 : Int32) (l4 : Int32) (l5 : Int32) (t1 : Int32) (t2 : Int32) (post : AR → Prop) : Prop := vp_in t1 400 ∧ ∀ W_next_41 : AR, W_next_41 = upd W_next t1.toNatClampNeg t2 → ((((sG 0) - (1 : Int32)) ≤ l3 → wpX2_learnSteps_J67 sG W_next_41 l2 l3 l4 l5 (l5 + (1 : Int32)) l2 post) ∧ (¬ ((sG 0) - (1 : Int32)) ≤ l3 → wpX2_learnSteps_J67 sG W_next_41 l2 l3 l4 l5 (l5 + (1 : Int32)) (l2 + (1 : Int32)) post))
def wpX2_learnSteps (sG : AR) (W_next : AR) (x2 : Int32) (post : AR → Prop) : Prop := wpX4_xOf sG x2 (fun r2 => wpX4_yOf sG x2 (fun r8 => ∀ l5_16 : Int32, l5_16 = (x2 * (4 : Int32)) → ((r8 ≤ 0 → wpX2_learnSteps_J41 sG W_next x2 r2 r8 l5_16 (l5_16 + (0 : Int32)) x2 post) ∧ (¬ r8 ≤ 0 → wpX2_learnSteps_J41 sG W_next x2 r2 r8 l5_16 (l5_16 + (0 : Int32)) (x2 - (sG 0)) post))))
set_option maxHeartbeats 4000000 in
set_option maxRecDepth 100000 in
theorem ctX2_learnSteps (l : Launch) (D : va_G) (cy : Nat → ClassId) (ev : Nat → Nat) (h0 : Nat) (a1 : Nat) (rG : Nat → Nat) (rW : Nat → Nat) (sG : AR) (W_next : AR) (x2 : Int32) (sz : Nat) (post : AR → Prop) (h : wpX2_learnSteps sG W_next x2 post) : Met l yX2_learnSteps (Cond.code yX2_learnSteps cX2_learnSteps 6 none :: TB) ({ frames := 1, cells := 0, slots := 0, locals := 21 }) (va_Pc [.ref h0, .ref a1, .int x2] (PreX D cy ev [(a1, .inr (4, oX4 rG sG)), (h0, .inr (2, oX2 rW)), ((rW 0), .inl (cy 0, 400, .inl W_next))] sz)) (va_Qv (fun (u : AR) => post u) (fun u => BkX D cy [(a1, .inr (4, oX4 rG sG)), (h0, .inr (2, oX2 rW)), ((rW 0), .inl (cy 0, 400, .inl W_next))] sz [(a1, .inr (4, oX4 rG sG)), (h0, .inr (2, oX2 rW)), ((rW 0), .inl (cy 0, 400, .inl u))]) (va_A [(a1, .inr (4, oX4 rG sG)), (h0, .inr (2, oX2 rW)), ((rW 0), .inl (cy 0, 400, .inl W_next))] sz)) 0 0 (va_A [(a1, .inr (4, oX4 rG sG)), (h0, .inr (2, oX2 rW)), ((rW 0), .inl (cy 0, 400, .inl W_next))] sz) := by
  refine ofWv (by decide) (Nat.le_of_ble_eq_true rfl) ?_
  intro p e s m args below meth c ls A R QQ hx hb hml hown hts hR hlk hE hK hP hD hS hA hl hret
  have hown : s.vm.findClass RX2 = some m.cls := hown
  have hRf : 1 ≤ R.frames := by rw [hR]; exact Nat.le_refl _
  have hRl : 21 ≤ R.locals := by rw [hR]; exact Nat.le_refl _
  clear hR
  have hl : lv_has ls 6 [(0, .ref h0), (1, .ref a1), (2, .int x2)] := hl
  have J41 : ∀ (l2 : Int32) (l3 : Int32) (l4 : Int32) (l5 : Int32) (t1 : Int32) (t2 : Int32) (H : Heap) (locs : List Loc) (ls : Array Slot), wpX2_learnSteps_J41 sG W_next l2 l3 l4 l5 t1 t2 post → va_P D clsX [(a1, .inr (4, oX4 rG sG)), (h0, .inr (2, oX2 rW)), ((rW 0), .inl (cy 0, 400, .inl W_next))] H → va_D A [(a1, .inr (4, oX4 rG sG)), (h0, .inr (2, oX2 rW)), ((rW 0), .inl (cy 0, 400, .inl W_next))] → va_S A s.heap H locs → lv_has ls 6 [(0, .ref h0), (1, .ref a1), (2, .int l2), (3, .int l3), (4, .int l4), (5, .int l5)] → W p l e R s m args below meth c H locs 0 0 QQ (F0 m 41 ls [.int t2, .int t1, .ref (rW 0)]) := by
    intro l2 l3 l4 l5 t1 t2 H locs ls h hP hD hS hl
    have J67 : ∀ (W_next : AR) (l2 : Int32) (l3 : Int32) (l4 : Int32) (l5 : Int32) (t1 : Int32) (t2 : Int32) (H : Heap) (locs : List Loc) (ls : Array Slot), wpX2_learnSteps_J67 sG W_next l2 l3 l4 l5 t1 t2 post → va_P D clsX [(a1, .inr (4, oX4 rG sG)), (h0, .inr (2, oX2 rW)), ((rW 0), .inl (cy 0, 400, .inl W_next))] H → va_D A [(a1, .inr (4, oX4 rG sG)), (h0, .inr (2, oX2 rW)), ((rW 0), .inl (cy 0, 400, .inl W_next))] → va_S A s.heap H locs → lv_has ls 6 [(0, .ref h0), (1, .ref a1), (2, .int l2), (3, .int l3), (4, .int l4), (5, .int l5)] → W p l e R s m args below meth c H locs 0 0 QQ (F0 m 67 ls [.int t2, .int t1, .ref (rW 0)]) := by
      intro W_next l2 l3 l4 l5 t1 t2 H locs ls h hP hD hS hl
      have J97 : ∀ (W_next : AR) (l2 : Int32) (l3 : Int32) (l5 : Int32) (t1 : Int32) (t2 : Int32) (H : Heap) (locs : List Loc) (ls : Array Slot), wpX2_learnSteps_J97 sG W_next l2 l3 l5 t1 t2 post → va_P D clsX [(a1, .inr (4, oX4 rG sG)), (h0, .inr (2, oX2 rW)), ((rW 0), .inl (cy 0, 400, .inl W_next))] H → va_D A [(a1, .inr (4, oX4 rG sG)), (h0, .inr (2, oX2 rW)), ((rW 0), .inl (cy 0, 400, .inl W_next))] → va_S A s.heap H locs → lv_has ls 6 [(0, .ref h0), (1, .ref a1), (2, .int l2), (3, .int l3), (5, .int l5)] → W p l e R s m args below meth c H locs 0 0 QQ (F0 m 97 ls [.int t2, .int t1, .ref (rW 0)]) := by
        intro W_next l2 l3 l5 t1 t2 H locs ls h hP hD hS hl
        have J117 : ∀ (W_next : AR) (t1 : Int32) (t2 : Int32) (H : Heap) (locs : List Loc) (ls : Array Slot), wpX2_learnSteps_J117 sG W_next t1 t2 post → va_P D clsX [(a1, .inr (4, oX4 rG sG)), (h0, .inr (2, oX2 rW)), ((rW 0), .inl (cy 0, 400, .inl W_next))] H → va_D A [(a1, .inr (4, oX4 rG sG)), (h0, .inr (2, oX2 rW)), ((rW 0), .inl (cy 0, 400, .inl W_next))] → va_S A s.heap H locs → lv_has ls 6 [(0, .ref h0), (1, .ref a1)] → W p l e R s m args below meth c H locs 0 0 QQ (F0 m 117 ls [.int t2, .int t1, .ref (rW 0)]) := by
          intro W_next t1 t2 H locs ls h hP hD hS hl
          obtain ⟨hin, h⟩ := h
          refine sti (k := t1.toNatClampNeg) (y := t2) hx hb hK hP hD hS 2 rfl hin rfl rfl dX2_learnSteps_117 (fun W_next_117 eW_next_117 H locs hP hD hS => ?_)
          have h := h W_next_117 eW_next_117
          have hP : va_P D clsX [(a1, .inr (4, oX4 rG sG)), (h0, .inr (2, oX2 rW)), ((rW 0), .inl (cy 0, 400, .inl W_next_117))] H := hP
          have hD : va_D A [(a1, .inr (4, oX4 rG sG)), (h0, .inr (2, oX2 rW)), ((rW 0), .inl (cy 0, 400, .inl W_next_117))] := hD
          exact hret (W_next_117) _ _ _ _ dX2_learnSteps_118 h hP hD hS
        obtain ⟨hin, h⟩ := h
        refine sti (k := t1.toNatClampNeg) (y := t2) hx hb hK hP hD hS 2 rfl hin rfl rfl dX2_learnSteps_97 (fun W_next_97 eW_next_97 H locs hP hD hS => ?_)
        have h := h W_next_97 eW_next_97
        have hP : va_P D clsX [(a1, .inr (4, oX4 rG sG)), (h0, .inr (2, oX2 rW)), ((rW 0), .inl (cy 0, 400, .inl W_next_97))] H := hP
        have hD : va_D A [(a1, .inr (4, oX4 rG sG)), (h0, .inr (2, oX2 rW)), ((rW 0), .inl (cy 0, 400, .inl W_next_97))] := hD
        refine lv_aload_n hx hb dX2_learnSteps_98 rfl (lv_at hl 0 rfl) ?_
        refine gfX2_11 hx hb hts hown hK hP 1 rfl dX2_learnSteps_99 ?_
        refine lv_iload hx hb dX2_learnSteps_102 (lv_at hl 4 rfl) ?_
        refine lv_iconst (v := (3 : Int32)) hx hb dX2_learnSteps_104 (by decide) ?_
        refine lv_iadd hx hb dX2_learnSteps_105 ?_
        refine lv_iload_n hx hb dX2_learnSteps_106 rfl (lv_at hl 3 rfl) ?_
        refine lv_if_le (tgt := 116) hx hb dX2_learnSteps_107 (by decide) (fun c107 => ?_) (fun c107 => ?_)
        · have h := h.1 c107
          refine lv_iload_n hx hb dX2_learnSteps_116 rfl (lv_at hl 2 rfl) ?_
          exact J117 W_next_97 (l5 + (3 : Int32)) l2 _ _ _ h hP hD hS (lv_sub hl [0, 1] rfl)
        · have h := h.2 c107
          refine lv_iload_n hx hb dX2_learnSteps_110 rfl (lv_at hl 2 rfl) ?_
          refine lv_iconst (v := (1 : Int32)) hx hb dX2_learnSteps_111 (by decide) ?_
          refine lv_isub hx hb dX2_learnSteps_112 ?_
          refine lv_goto (tgt := 117) hx hb dX2_learnSteps_113 (by decide) ?_
          exact J117 W_next_97 (l5 + (3 : Int32)) (l2 - (1 : Int32)) _ _ _ h hP hD hS (lv_sub hl [0, 1] rfl)
      obtain ⟨hin, h⟩ := h
      refine sti (k := t1.toNatClampNeg) (y := t2) hx hb hK hP hD hS 2 rfl hin rfl rfl dX2_learnSteps_67 (fun W_next_67 eW_next_67 H locs hP hD hS => ?_)
      have h := h W_next_67 eW_next_67
      have hP : va_P D clsX [(a1, .inr (4, oX4 rG sG)), (h0, .inr (2, oX2 rW)), ((rW 0), .inl (cy 0, 400, .inl W_next_67))] H := hP
      have hD : va_D A [(a1, .inr (4, oX4 rG sG)), (h0, .inr (2, oX2 rW)), ((rW 0), .inl (cy 0, 400, .inl W_next_67))] := hD
      refine lv_aload_n hx hb dX2_learnSteps_68 rfl (lv_at hl 0 rfl) ?_
      refine gfX2_11 hx hb hts hown hK hP 1 rfl dX2_learnSteps_69 ?_
      refine lv_iload hx hb dX2_learnSteps_72 (lv_at hl 5 rfl) ?_
      refine lv_iconst (v := (2 : Int32)) hx hb dX2_learnSteps_74 (by decide) ?_
      refine lv_iadd hx hb dX2_learnSteps_75 ?_
      refine lv_iload hx hb dX2_learnSteps_76 (lv_at hl 4 rfl) ?_
      refine lv_aload_n hx hb dX2_learnSteps_78 rfl (lv_at hl 1 rfl) ?_
      refine gfX2_64 (v := (sG 1)) hx hb hts hown hK hP 0 rfl rfl dX2_learnSteps_79 ?_
      refine lv_iconst (v := (1 : Int32)) hx hb dX2_learnSteps_82 (by decide) ?_
      refine lv_isub hx hb dX2_learnSteps_83 ?_
      refine lv_icmp_ge (tgt := 96) hx hb dX2_learnSteps_84 (by decide) (fun c84 => ?_) (fun c84 => ?_)
      · have h := h.1 c84
        refine lv_iload_n hx hb dX2_learnSteps_96 rfl (lv_at hl 2 rfl) ?_
        exact J97 W_next_67 l2 l3 l5 (l5 + (2 : Int32)) l2 _ _ _ h hP hD hS (lv_sub hl [0, 1, 2, 3, 5] rfl)
      · have h := h.2 c84
        refine lv_iload_n hx hb dX2_learnSteps_87 rfl (lv_at hl 2 rfl) ?_
        refine lv_aload_n hx hb dX2_learnSteps_88 rfl (lv_at hl 1 rfl) ?_
        refine gfX2_61 (v := (sG 0)) hx hb hts hown hK hP 0 rfl rfl dX2_learnSteps_89 ?_
        refine lv_iadd hx hb dX2_learnSteps_92 ?_
        refine lv_goto (tgt := 97) hx hb dX2_learnSteps_93 (by decide) ?_
        exact J97 W_next_67 l2 l3 l5 (l5 + (2 : Int32)) (l2 + (sG 0)) _ _ _ h hP hD hS (lv_sub hl [0, 1, 2, 3, 5] rfl)
    obtain ⟨hin, h⟩ := h
    refine sti (k := t1.toNatClampNeg) (y := t2) hx hb hK hP hD hS 2 rfl hin rfl rfl dX2_learnSteps_41 (fun W_next_41 eW_next_41 H locs hP hD hS => ?_)
    have h := h W_next_41 eW_next_41
    have hP : va_P D clsX [(a1, .inr (4, oX4 rG sG)), (h0, .inr (2, oX2 rW)), ((rW 0), .inl (cy 0, 400, .inl W_next_41))] H := hP
    have hD : va_D A [(a1, .inr (4, oX4 rG sG)), (h0, .inr (2, oX2 rW)), ((rW 0), .inl (cy 0, 400, .inl W_next_41))] := hD
    refine lv_aload_n hx hb dX2_learnSteps_42 rfl (lv_at hl 0 rfl) ?_
    refine gfX2_11 hx hb hts hown hK hP 1 rfl dX2_learnSteps_43 ?_
    refine lv_iload hx hb dX2_learnSteps_46 (lv_at hl 5 rfl) ?_
    refine lv_iconst (v := (1 : Int32)) hx hb dX2_learnSteps_48 (by decide) ?_
    refine lv_iadd hx hb dX2_learnSteps_49 ?_
    refine lv_iload_n hx hb dX2_learnSteps_50 rfl (lv_at hl 3 rfl) ?_
    refine lv_aload_n hx hb dX2_learnSteps_51 rfl (lv_at hl 1 rfl) ?_
    refine gfX2_61 (v := (sG 0)) hx hb hts hown hK hP 0 rfl rfl dX2_learnSteps_52 ?_
    refine lv_iconst (v := (1 : Int32)) hx hb dX2_learnSteps_55 (by decide) ?_
    refine lv_isub hx hb dX2_learnSteps_56 ?_
    refine lv_icmp_ge (tgt := 66) hx hb dX2_learnSteps_57 (by decide) (fun c57 => ?_) (fun c57 => ?_)
    · have h := h.1 c57
      refine lv_iload_n hx hb dX2_learnSteps_66 rfl (lv_at hl 2 rfl) ?_
      exact J67 W_next_41 l2 l3 l4 l5 (l5 + (1 : Int32)) l2 _ _ _ h hP hD hS hl
    · have h := h.2 c57
      refine lv_iload_n hx hb dX2_learnSteps_60 rfl (lv_at hl 2 rfl) ?_
      refine lv_iconst (v := (1 : Int32)) hx hb dX2_learnSteps_61 (by decide) ?_
      refine lv_iadd hx hb dX2_learnSteps_62 ?_
      refine lv_goto (tgt := 67) hx hb dX2_learnSteps_63 (by decide) ?_
      exact J67 W_next_41 l2 l3 l4 l5 (l5 + (1 : Int32)) (l2 + (1 : Int32)) _ _ _ h hP hD hS hl
  refine lv_aload_n hx hb dX2_learnSteps_0 rfl (lv_at hl 1 rfl) ?_
  refine lv_iload_n hx hb dX2_learnSteps_1 rfl (lv_at hl 2 rfl) ?_
  refine clVi (As := [.int x2]) (rest := []) (Wr := [(h0, .inr (2, oX2 rW)), ((rW 0), .inl (cy 0, 400, .inl W_next))]) (cq := (RX4, TX4, 16)) ⟨hx, hb, hml, hown, hts⟩ ⟨callB_of 1 hts (goodC mw412) rfl rfl rfl (hts _ (tb mw3)) (hts _ (tb mw435)) kdX4_xOf ⟨Nat.le_trans (by decide) hRf, Nat.le_trans (by decide) hRl⟩, hts _ (tb mw410), hts _ (tb mw411)⟩ (ctX4_xOf l D cy ev a1 rG sG x2 _ _ h) hE hK hP hD hS hA [0] [1, 2] rfl rfl (by decide) (by decide) (by decide) 0 rfl rfl rfl hl.1 rfl (Nat.le_of_ble_eq_true rfl) ⟨Nat.zero_le _, Nat.zero_le _⟩ dX2_learnSteps_2 (fun r2 u H locs h hP hD hS => ?_)
  have hP : va_P D clsX [(h0, .inr (2, oX2 rW)), ((rW 0), .inl (cy 0, 400, .inl W_next)), (a1, .inr (4, oX4 rG sG))] H := hP
  have hD : va_D A [(h0, .inr (2, oX2 rW)), ((rW 0), .inl (cy 0, 400, .inl W_next)), (a1, .inr (4, oX4 rG sG))] := hD
  refine lv_istore_n (lv' := [(3, .int r2), (0, .ref h0), (1, .ref a1), (2, .int x2)]) hx hb dX2_learnSteps_5 rfl hl (by decide) rfl (fun ls hl => ?_)
  refine lv_aload_n hx hb dX2_learnSteps_6 rfl (lv_at hl 2 rfl) ?_
  refine lv_iload_n hx hb dX2_learnSteps_7 rfl (lv_at hl 3 rfl) ?_
  refine clVi (As := [.int x2]) (rest := []) (Wr := [(h0, .inr (2, oX2 rW)), ((rW 0), .inl (cy 0, 400, .inl W_next))]) (cq := (RX4, TX4, 16)) ⟨hx, hb, hml, hown, hts⟩ ⟨callB_of 1 hts (goodC mw416) rfl rfl rfl (hts _ (tb mw3)) (hts _ (tb mw436)) kdX4_yOf ⟨Nat.le_trans (by decide) hRf, Nat.le_trans (by decide) hRl⟩, hts _ (tb mw414), hts _ (tb mw415)⟩ (ctX4_yOf l D cy ev a1 rG sG x2 _ _ h) hE hK hP hD hS hA [2] [0, 1] rfl rfl (by decide) (by decide) (by decide) 0 rfl rfl rfl hl.1 rfl (Nat.le_of_ble_eq_true rfl) ⟨Nat.zero_le _, Nat.zero_le _⟩ dX2_learnSteps_8 (fun r8 u H locs h hP hD hS => ?_)
  have hP : va_P D clsX [(h0, .inr (2, oX2 rW)), ((rW 0), .inl (cy 0, 400, .inl W_next)), (a1, .inr (4, oX4 rG sG))] H := hP
  have hD : va_D A [(h0, .inr (2, oX2 rW)), ((rW 0), .inl (cy 0, 400, .inl W_next)), (a1, .inr (4, oX4 rG sG))] := hD
  refine lv_istore (lv' := [(4, .int r8), (3, .int r2), (0, .ref h0), (1, .ref a1), (2, .int x2)]) hx hb dX2_learnSteps_11 hl (by decide) rfl (fun ls hl => ?_)
  refine lv_iload_n hx hb dX2_learnSteps_13 rfl (lv_at hl 4 rfl) ?_
  refine lv_iconst (v := (4 : Int32)) hx hb dX2_learnSteps_14 (by decide) ?_
  refine lv_imul hx hb dX2_learnSteps_15 ?_
  refine lv_topi (fun l5_16 el5_16 => ?_)
  have h := h l5_16 el5_16
  refine lv_istore (lv' := [(5, .int l5_16), (4, .int r8), (3, .int r2), (0, .ref h0), (1, .ref a1), (2, .int x2)]) hx hb dX2_learnSteps_16 hl (by decide) rfl (fun ls hl => ?_)
  refine lv_aload_n hx hb dX2_learnSteps_18 rfl (lv_at hl 3 rfl) ?_
  refine gfX2_11 hx hb hts hown hK hP 0 rfl dX2_learnSteps_19 ?_
  refine lv_iload hx hb dX2_learnSteps_22 (lv_at hl 0 rfl) ?_
  refine lv_iconst (v := (0 : Int32)) hx hb dX2_learnSteps_24 (by decide) ?_
  refine lv_iadd hx hb dX2_learnSteps_25 ?_
  refine lv_iload hx hb dX2_learnSteps_26 (lv_at hl 1 rfl) ?_
  refine lv_if_le (tgt := 40) hx hb dX2_learnSteps_28 (by decide) (fun c28 => ?_) (fun c28 => ?_)
  · have h := h.1 c28
    refine lv_iload_n hx hb dX2_learnSteps_40 rfl (lv_at hl 5 rfl) ?_
    exact J41 x2 r2 r8 l5_16 (l5_16 + (0 : Int32)) x2 _ _ _ h (hP.sub [2, 0, 1] rfl) (hD.sub [2, 0, 1] (by decide) rfl) hS (lv_sub hl [3, 4, 5, 2, 1, 0] rfl)
  · have h := h.2 c28
    refine lv_iload_n hx hb dX2_learnSteps_31 rfl (lv_at hl 5 rfl) ?_
    refine lv_aload_n hx hb dX2_learnSteps_32 rfl (lv_at hl 4 rfl) ?_
    refine gfX2_61 (v := (sG 0)) hx hb hts hown hK hP 2 rfl rfl dX2_learnSteps_33 ?_
    refine lv_isub hx hb dX2_learnSteps_36 ?_
    refine lv_goto (tgt := 41) hx hb dX2_learnSteps_37 (by decide) ?_
    exact J41 x2 r2 r8 l5_16 (l5_16 + (0 : Int32)) (x2 - (sG 0)) _ _ _ h (hP.sub [2, 0, 1] rfl) (hD.sub [2, 0, 1] (by decide) rfl) hS (lv_sub hl [3, 4, 5, 2, 1, 0] rfl)
def wpX2_towards_J94 (sG : AR) (G_towerCell : AR) (G_mirage : AR) (l6 : Int32) (t0 : Int32) (post : Int32 → Prop) : Prop := ((t0 = 0 → post l6) ∧ (¬ t0 = 0 → post (jrem (l6 + (2 : Int32)) (4 : Int32))))
def wpX2_towards_J73 (sG : AR) (G_towerCell : AR) (G_mirage : AR) (l1 : Int32) (l6 : Int32) (post : Int32 → Prop) : Prop := ((¬ (sG 6) = 0 → wpX2_towards_J94 sG G_towerCell G_mirage l6 (0 : Int32) post) ∧ ((sG 6) = 0 → vp_in l1 100 ∧ (((G_mirage l1.toNatClampNeg) = 0 → wpX2_towards_J94 sG G_towerCell G_mirage l6 (0 : Int32) post) ∧ (¬ (G_mirage l1.toNatClampNeg) = 0 → wpX2_towards_J94 sG G_towerCell G_mirage l6 (1 : Int32) post))))
def wpX2_towards (sG : AR) (G_towerCell : AR) (G_mirage : AR) (x1 : Int32) (x2 : Int32) (post : Int32 → Prop) : Prop := vp_in x2 5 ∧ ∀ l3_6 : Int32, l3_6 = (G_towerCell x2.toNatClampNeg) → wpX4_xOf sG l3_6 (fun r9 => wpX4_xOf sG x1 (fun r14 => ∀ l4_18 : Int32, l4_18 = (r9 - r14) → wpX4_yOf sG l3_6 (fun r22 => wpX4_yOf sG x1 (fun r27 => ∀ l5_31 : Int32, l5_31 = (r22 - r27) → (((jabs l4_18) < (jabs l5_31) → ((l5_31 ≤ 0 → wpX2_towards_J73 sG G_towerCell G_mirage x1 (0 : Int32) post) ∧ (¬ l5_31 ≤ 0 → wpX2_towards_J73 sG G_towerCell G_mirage x1 (2 : Int32) post))) ∧ (¬ (jabs l4_18) < (jabs l5_31) → ((l4_18 ≤ 0 → wpX2_towards_J73 sG G_towerCell G_mirage x1 (3 : Int32) post) ∧ (¬ l4_18 ≤ 0 → wpX2_towards_J73 sG G_towerCell G_mirage x1 (1 : Int32) post))))))))
set_option maxHeartbeats 4000000 in
set_option maxRecDepth 100000 in
theorem ctX2_towards (l : Launch) (D : va_G) (cy : Nat → ClassId) (ev : Nat → Nat) (a0 : Nat) (rG : Nat → Nat) (sG : AR) (G_towerCell : AR) (G_mirage : AR) (x1 : Int32) (x2 : Int32) (sz : Nat) (post : Int32 → Prop) (h : wpX2_towards sG G_towerCell G_mirage x1 x2 post) : Met l yX2_towards (Cond.code yX2_towards cX2_towards 8 (some .int) :: TB) ({ frames := 1, cells := 0, slots := 0, locals := 60 }) (va_Pc [.ref a0, .int x1, .int x2] (PreX D cy ev [(a0, .inr (4, oX4 rG sG)), ((rG 7), .inl (cy 0, 5, .inl G_towerCell)), ((rG 15), .inl (cy 2, 100, .inl G_mirage))] sz)) (va_Qi (fun (r : Int32) (u : Unit) => post r) (fun u => BkX D cy [(a0, .inr (4, oX4 rG sG)), ((rG 7), .inl (cy 0, 5, .inl G_towerCell)), ((rG 15), .inl (cy 2, 100, .inl G_mirage))] sz [(a0, .inr (4, oX4 rG sG)), ((rG 7), .inl (cy 0, 5, .inl G_towerCell)), ((rG 15), .inl (cy 2, 100, .inl G_mirage))]) (va_A [(a0, .inr (4, oX4 rG sG)), ((rG 7), .inl (cy 0, 5, .inl G_towerCell)), ((rG 15), .inl (cy 2, 100, .inl G_mirage))] sz)) 0 0 (va_A [(a0, .inr (4, oX4 rG sG)), ((rG 7), .inl (cy 0, 5, .inl G_towerCell)), ((rG 15), .inl (cy 2, 100, .inl G_mirage))] sz) := by
  refine ofWi (by decide) (Nat.le_of_ble_eq_true rfl) ?_
  intro p e s m args below meth c ls A R QQ hx hb hml hown hts hR hlk hE hK hP hD hS hA hl hret
  have hown : s.vm.findClass RX2 = some m.cls := hown
  have hRf : 1 ≤ R.frames := by rw [hR]; exact Nat.le_refl _
  have hRl : 60 ≤ R.locals := by rw [hR]; exact Nat.le_refl _
  clear hR
  have hl : lv_has ls 8 [(0, .ref a0), (1, .int x1), (2, .int x2)] := hl
  have J73 : ∀ (l1 : Int32) (l6 : Int32) (H : Heap) (locs : List Loc) (ls : Array Slot), wpX2_towards_J73 sG G_towerCell G_mirage l1 l6 post → va_P D clsX [(a0, .inr (4, oX4 rG sG)), ((rG 7), .inl (cy 0, 5, .inl G_towerCell)), ((rG 15), .inl (cy 2, 100, .inl G_mirage))] H → va_D A [(a0, .inr (4, oX4 rG sG)), ((rG 7), .inl (cy 0, 5, .inl G_towerCell)), ((rG 15), .inl (cy 2, 100, .inl G_mirage))] → va_S A s.heap H locs → lv_has ls 8 [(0, .ref a0), (1, .int l1), (6, .int l6)] → W p l e R s m args below meth c H locs 0 0 QQ (F0 m 73 ls []) := by
    intro l1 l6 H locs ls h hP hD hS hl
    have J94 : ∀ (l6 : Int32) (t0 : Int32) (H : Heap) (locs : List Loc) (ls : Array Slot), wpX2_towards_J94 sG G_towerCell G_mirage l6 t0 post → va_P D clsX [(a0, .inr (4, oX4 rG sG)), ((rG 7), .inl (cy 0, 5, .inl G_towerCell)), ((rG 15), .inl (cy 2, 100, .inl G_mirage))] H → va_D A [(a0, .inr (4, oX4 rG sG)), ((rG 7), .inl (cy 0, 5, .inl G_towerCell)), ((rG 15), .inl (cy 2, 100, .inl G_mirage))] → va_S A s.heap H locs → lv_has ls 8 [(0, .ref a0), (6, .int l6)] → W p l e R s m args below meth c H locs 0 0 QQ (F0 m 94 ls [.int t0]) := by
      intro l6 t0 H locs ls h hP hD hS hl
      refine lv_istore (lv' := [(7, .int t0), (0, .ref a0), (6, .int l6)]) hx hb dX2_towards_94 hl (by decide) rfl (fun ls hl => ?_)
      refine lv_iload hx hb dX2_towards_96 (lv_at hl 0 rfl) ?_
      refine lv_if_eq (tgt := 110) hx hb dX2_towards_98 (by decide) (fun c98 => ?_) (fun c98 => ?_)
      · have h := h.1 c98
        refine lv_iload hx hb dX2_towards_110 (lv_at hl 2 rfl) ?_
        exact hret l6 () _ _ _ _ rfl dX2_towards_112 h hP hD hS
      · have h := h.2 c98
        refine lv_iload hx hb dX2_towards_101 (lv_at hl 2 rfl) ?_
        refine lv_iconst (v := (2 : Int32)) hx hb dX2_towards_103 (by decide) ?_
        refine lv_iadd hx hb dX2_towards_104 ?_
        refine lv_iconst (v := (4 : Int32)) hx hb dX2_towards_105 (by decide) ?_
        refine lv_irem hx hb dX2_towards_106 (by decide) ?_
        refine lv_goto (tgt := 112) hx hb dX2_towards_107 (by decide) ?_
        exact hret (jrem (l6 + (2 : Int32)) (4 : Int32)) () _ _ _ _ rfl dX2_towards_112 h hP hD hS
    refine lv_aload_n hx hb dX2_towards_73 rfl (lv_at hl 0 rfl) ?_
    refine gfX2_70 (v := (sG 6)) hx hb hts hown hK hP 0 rfl rfl dX2_towards_74 ?_
    refine lv_if_ne (tgt := 93) hx hb dX2_towards_77 (by decide) (fun c77 => ?_) (fun c77 => ?_)
    · have h := h.1 c77
      refine lv_iconst (v := (0 : Int32)) hx hb dX2_towards_93 (by decide) ?_
      exact J94 l6 (0 : Int32) _ _ _ h hP hD hS (lv_sub hl [0, 2] rfl)
    · have h := h.2 c77
      refine lv_aload_n hx hb dX2_towards_80 rfl (lv_at hl 0 rfl) ?_
      refine gfX2_73 hx hb hts hown hK hP 0 rfl dX2_towards_81 ?_
      refine lv_iload_n hx hb dX2_towards_84 rfl (lv_at hl 1 rfl) ?_
      obtain ⟨hin, h⟩ := h
      refine ldz (k := l1.toNatClampNeg) hx hb hK hP 2 rfl hin rfl dX2_towards_85 ?_
      refine lv_if_eq (tgt := 93) hx hb dX2_towards_86 (by decide) (fun c86 => ?_) (fun c86 => ?_)
      · have h := h.1 c86
        refine lv_iconst (v := (0 : Int32)) hx hb dX2_towards_93 (by decide) ?_
        exact J94 l6 (0 : Int32) _ _ _ h hP hD hS (lv_sub hl [0, 2] rfl)
      · have h := h.2 c86
        refine lv_iconst (v := (1 : Int32)) hx hb dX2_towards_89 (by decide) ?_
        refine lv_goto (tgt := 94) hx hb dX2_towards_90 (by decide) ?_
        exact J94 l6 (1 : Int32) _ _ _ h hP hD hS (lv_sub hl [0, 2] rfl)
  refine lv_aload_n hx hb dX2_towards_0 rfl (lv_at hl 0 rfl) ?_
  refine gfX2_45 hx hb hts hown hK hP 0 rfl dX2_towards_1 ?_
  refine lv_iload_n hx hb dX2_towards_4 rfl (lv_at hl 2 rfl) ?_
  obtain ⟨hin, h⟩ := h
  refine ldi (k := x2.toNatClampNeg) hx hb hK hP 1 rfl hin rfl dX2_towards_5 ?_
  refine lv_topi (fun l3_6 el3_6 => ?_)
  have h := h l3_6 el3_6
  refine lv_istore_n (lv' := [(3, .int l3_6), (0, .ref a0), (1, .int x1), (2, .int x2)]) hx hb dX2_towards_6 rfl hl (by decide) rfl (fun ls hl => ?_)
  refine lv_aload_n hx hb dX2_towards_7 rfl (lv_at hl 1 rfl) ?_
  refine lv_iload_n hx hb dX2_towards_8 rfl (lv_at hl 0 rfl) ?_
  refine clVi (As := [.int l3_6]) (rest := []) (Wr := [((rG 7), .inl (cy 0, 5, .inl G_towerCell)), ((rG 15), .inl (cy 2, 100, .inl G_mirage))]) (cq := (RX4, TX4, 16)) ⟨hx, hb, hml, hown, hts⟩ ⟨callB_of 1 hts (goodC mw412) rfl rfl rfl (hts _ (tb mw3)) (hts _ (tb mw435)) kdX4_xOf ⟨Nat.le_trans (by decide) hRf, Nat.le_trans (by decide) hRl⟩, hts _ (tb mw410), hts _ (tb mw411)⟩ (ctX4_xOf l D cy ev a0 rG sG l3_6 _ _ h) hE hK hP hD hS hA [0] [1, 2] rfl rfl (by decide) (by decide) (by decide) 0 rfl rfl rfl hl.1 rfl (Nat.le_of_ble_eq_true rfl) ⟨Nat.zero_le _, Nat.zero_le _⟩ dX2_towards_9 (fun r9 u H locs h hP hD hS => ?_)
  have hP : va_P D clsX [((rG 7), .inl (cy 0, 5, .inl G_towerCell)), ((rG 15), .inl (cy 2, 100, .inl G_mirage)), (a0, .inr (4, oX4 rG sG))] H := hP
  have hD : va_D A [((rG 7), .inl (cy 0, 5, .inl G_towerCell)), ((rG 15), .inl (cy 2, 100, .inl G_mirage)), (a0, .inr (4, oX4 rG sG))] := hD
  refine lv_aload_n hx hb dX2_towards_12 rfl (lv_at hl 1 rfl) ?_
  refine lv_iload_n hx hb dX2_towards_13 rfl (lv_at hl 2 rfl) ?_
  refine clVi (As := [.int x1]) (rest := [.int r9]) (Wr := [((rG 7), .inl (cy 0, 5, .inl G_towerCell)), ((rG 15), .inl (cy 2, 100, .inl G_mirage))]) (cq := (RX4, TX4, 16)) ⟨hx, hb, hml, hown, hts⟩ ⟨callB_of 1 hts (goodC mw412) rfl rfl rfl (hts _ (tb mw3)) (hts _ (tb mw435)) kdX4_xOf ⟨Nat.le_trans (by decide) hRf, Nat.le_trans (by decide) hRl⟩, hts _ (tb mw410), hts _ (tb mw411)⟩ (ctX4_xOf l D cy ev a0 rG sG x1 _ _ h) hE hK hP hD hS hA [2] [0, 1] rfl rfl (by decide) (by decide) (by decide) 0 rfl rfl rfl hl.1 rfl (Nat.le_of_ble_eq_true rfl) ⟨Nat.zero_le _, Nat.zero_le _⟩ dX2_towards_14 (fun r14 u H locs h hP hD hS => ?_)
  have hP : va_P D clsX [((rG 7), .inl (cy 0, 5, .inl G_towerCell)), ((rG 15), .inl (cy 2, 100, .inl G_mirage)), (a0, .inr (4, oX4 rG sG))] H := hP
  have hD : va_D A [((rG 7), .inl (cy 0, 5, .inl G_towerCell)), ((rG 15), .inl (cy 2, 100, .inl G_mirage)), (a0, .inr (4, oX4 rG sG))] := hD
  refine lv_isub hx hb dX2_towards_17 ?_
  refine lv_topi (fun l4_18 el4_18 => ?_)
  have h := h l4_18 el4_18
  refine lv_istore (lv' := [(4, .int l4_18), (3, .int l3_6), (0, .ref a0), (1, .int x1), (2, .int x2)]) hx hb dX2_towards_18 hl (by decide) rfl (fun ls hl => ?_)
  refine lv_aload_n hx hb dX2_towards_20 rfl (lv_at hl 2 rfl) ?_
  refine lv_iload_n hx hb dX2_towards_21 rfl (lv_at hl 1 rfl) ?_
  refine clVi (As := [.int l3_6]) (rest := []) (Wr := [((rG 7), .inl (cy 0, 5, .inl G_towerCell)), ((rG 15), .inl (cy 2, 100, .inl G_mirage))]) (cq := (RX4, TX4, 16)) ⟨hx, hb, hml, hown, hts⟩ ⟨callB_of 1 hts (goodC mw416) rfl rfl rfl (hts _ (tb mw3)) (hts _ (tb mw436)) kdX4_yOf ⟨Nat.le_trans (by decide) hRf, Nat.le_trans (by decide) hRl⟩, hts _ (tb mw414), hts _ (tb mw415)⟩ (ctX4_yOf l D cy ev a0 rG sG l3_6 _ _ h) hE hK hP hD hS hA [2] [0, 1] rfl rfl (by decide) (by decide) (by decide) 0 rfl rfl rfl hl.1 rfl (Nat.le_of_ble_eq_true rfl) ⟨Nat.zero_le _, Nat.zero_le _⟩ dX2_towards_22 (fun r22 u H locs h hP hD hS => ?_)
  have hP : va_P D clsX [((rG 7), .inl (cy 0, 5, .inl G_towerCell)), ((rG 15), .inl (cy 2, 100, .inl G_mirage)), (a0, .inr (4, oX4 rG sG))] H := hP
  have hD : va_D A [((rG 7), .inl (cy 0, 5, .inl G_towerCell)), ((rG 15), .inl (cy 2, 100, .inl G_mirage)), (a0, .inr (4, oX4 rG sG))] := hD
  refine lv_aload_n hx hb dX2_towards_25 rfl (lv_at hl 2 rfl) ?_
  refine lv_iload_n hx hb dX2_towards_26 rfl (lv_at hl 3 rfl) ?_
  refine clVi (As := [.int x1]) (rest := [.int r22]) (Wr := [((rG 7), .inl (cy 0, 5, .inl G_towerCell)), ((rG 15), .inl (cy 2, 100, .inl G_mirage))]) (cq := (RX4, TX4, 16)) ⟨hx, hb, hml, hown, hts⟩ ⟨callB_of 1 hts (goodC mw416) rfl rfl rfl (hts _ (tb mw3)) (hts _ (tb mw436)) kdX4_yOf ⟨Nat.le_trans (by decide) hRf, Nat.le_trans (by decide) hRl⟩, hts _ (tb mw414), hts _ (tb mw415)⟩ (ctX4_yOf l D cy ev a0 rG sG x1 _ _ h) hE hK hP hD hS hA [2] [0, 1] rfl rfl (by decide) (by decide) (by decide) 0 rfl rfl rfl hl.1 rfl (Nat.le_of_ble_eq_true rfl) ⟨Nat.zero_le _, Nat.zero_le _⟩ dX2_towards_27 (fun r27 u H locs h hP hD hS => ?_)
  have hP : va_P D clsX [((rG 7), .inl (cy 0, 5, .inl G_towerCell)), ((rG 15), .inl (cy 2, 100, .inl G_mirage)), (a0, .inr (4, oX4 rG sG))] H := hP
  have hD : va_D A [((rG 7), .inl (cy 0, 5, .inl G_towerCell)), ((rG 15), .inl (cy 2, 100, .inl G_mirage)), (a0, .inr (4, oX4 rG sG))] := hD
  refine lv_isub hx hb dX2_towards_30 ?_
  refine lv_topi (fun l5_31 el5_31 => ?_)
  have h := h l5_31 el5_31
  refine lv_istore (lv' := [(5, .int l5_31), (4, .int l4_18), (3, .int l3_6), (0, .ref a0), (1, .int x1), (2, .int x2)]) hx hb dX2_towards_31 hl (by decide) rfl (fun ls hl => ?_)
  refine lv_iload hx hb dX2_towards_33 (lv_at hl 1 rfl) ?_
  refine mabs hx hb (hml.trans hl.1.symm) hts hown mw440 (Nat.le_trans (by decide) hRf) (Nat.le_trans (Nat.le_of_ble_eq_true rfl) hRl) (Nat.zero_le _) (Nat.zero_le _) dX2_towards_35 ?_
  refine lv_iload hx hb dX2_towards_38 (lv_at hl 0 rfl) ?_
  refine mabs hx hb (hml.trans hl.1.symm) hts hown mw440 (Nat.le_trans (by decide) hRf) (Nat.le_trans (Nat.le_of_ble_eq_true rfl) hRl) (Nat.zero_le _) (Nat.zero_le _) dX2_towards_40 ?_
  refine lv_icmp_lt (tgt := 61) hx hb dX2_towards_43 (by decide) (fun c43 => ?_) (fun c43 => ?_)
  · have h := h.1 c43
    refine lv_iload hx hb dX2_towards_61 (lv_at hl 0 rfl) ?_
    refine lv_if_le (tgt := 70) hx hb dX2_towards_63 (by decide) (fun c63 => ?_) (fun c63 => ?_)
    · have h := h.1 c63
      refine lv_iconst (v := (0 : Int32)) hx hb dX2_towards_70 (by decide) ?_
      refine lv_istore (lv' := [(6, .int (0 : Int32)), (5, .int l5_31), (4, .int l4_18), (3, .int l3_6), (0, .ref a0), (1, .int x1), (2, .int x2)]) hx hb dX2_towards_71 hl (by decide) rfl (fun ls hl => ?_)
      exact J73 x1 (0 : Int32) _ _ _ h (hP.sub [2, 0, 1] rfl) (hD.sub [2, 0, 1] (by decide) rfl) hS (lv_sub hl [4, 5, 0] rfl)
    · have h := h.2 c63
      refine lv_iconst (v := (2 : Int32)) hx hb dX2_towards_66 (by decide) ?_
      refine lv_goto (tgt := 71) hx hb dX2_towards_67 (by decide) ?_
      refine lv_istore (lv' := [(6, .int (2 : Int32)), (5, .int l5_31), (4, .int l4_18), (3, .int l3_6), (0, .ref a0), (1, .int x1), (2, .int x2)]) hx hb dX2_towards_71 hl (by decide) rfl (fun ls hl => ?_)
      exact J73 x1 (2 : Int32) _ _ _ h (hP.sub [2, 0, 1] rfl) (hD.sub [2, 0, 1] (by decide) rfl) hS (lv_sub hl [4, 5, 0] rfl)
  · have h := h.2 c43
    refine lv_iload hx hb dX2_towards_46 (lv_at hl 1 rfl) ?_
    refine lv_if_le (tgt := 55) hx hb dX2_towards_48 (by decide) (fun c48 => ?_) (fun c48 => ?_)
    · have h := h.1 c48
      refine lv_iconst (v := (3 : Int32)) hx hb dX2_towards_55 (by decide) ?_
      refine lv_istore (lv' := [(6, .int (3 : Int32)), (5, .int l5_31), (4, .int l4_18), (3, .int l3_6), (0, .ref a0), (1, .int x1), (2, .int x2)]) hx hb dX2_towards_56 hl (by decide) rfl (fun ls hl => ?_)
      refine lv_goto (tgt := 73) hx hb dX2_towards_58 (by decide) ?_
      exact J73 x1 (3 : Int32) _ _ _ h (hP.sub [2, 0, 1] rfl) (hD.sub [2, 0, 1] (by decide) rfl) hS (lv_sub hl [4, 5, 0] rfl)
    · have h := h.2 c48
      refine lv_iconst (v := (1 : Int32)) hx hb dX2_towards_51 (by decide) ?_
      refine lv_goto (tgt := 56) hx hb dX2_towards_52 (by decide) ?_
      refine lv_istore (lv' := [(6, .int (1 : Int32)), (5, .int l5_31), (4, .int l4_18), (3, .int l3_6), (0, .ref a0), (1, .int x1), (2, .int x2)]) hx hb dX2_towards_56 hl (by decide) rfl (fun ls hl => ?_)
      refine lv_goto (tgt := 73) hx hb dX2_towards_58 (by decide) ?_
      exact J73 x1 (1 : Int32) _ _ _ h (hP.sub [2, 0, 1] rfl) (hD.sub [2, 0, 1] (by decide) rfl) hS (lv_sub hl [4, 5, 0] rfl)
def wpX2_learn_L26 (sG : AR) (G_towerCell : AR) (G_mirage : AR) (W_next : AR) (W_goal : AR) (l2 : Int32) (l3 : Int32) (kx59 : AR → Int32 → Prop) (post : AR → AR → AR → Prop) : Nat → AR → Int32 → Prop
  | 0, _, _ => False
  | nf26 + 1, W_way, l4 => (((sG 2) ≤ l4 → kx59 W_way l4) ∧ (¬ (sG 2) ≤ l4 → wpX2_towards sG G_towerCell G_mirage l3 l4 (fun r49 => vp_in ((l3 * (5 : Int32)) + l4) 500 ∧ ∀ W_way_52 : AR, W_way_52 = upd W_way ((l3 * (5 : Int32)) + l4).toNatClampNeg r49 → ∀ l4_53 : Int32, l4_53 = (l4 + (1 : Int32)) → wpX2_learn_L26 sG G_towerCell G_mirage W_next W_goal l2 l3 kx59 post nf26 W_way_52 l4_53)))
def wpX2_learn_L12 (sG : AR) (G_towerCell : AR) (G_mirage : AR) (W_goal : AR) (l2 : Int32) (kx65 : AR → AR → Int32 → Prop) (post : AR → AR → AR → Prop) : Nat → AR → AR → Int32 → Prop
  | 0, _, _, _ => False
  | nf12 + 1, W_next, W_way, l3 => ((l2 ≤ l3 → kx65 W_next W_way l3) ∧ (¬ l2 ≤ l3 → wpX2_learnSteps sG W_next l3 (fun W_next_20 => ∃ nf26 : Nat, wpX2_learn_L26 sG G_towerCell G_mirage W_next_20 W_goal l2 l3 (fun W_way_59 l4_59 => ∀ l3_59 : Int32, l3_59 = (l3 + (1 : Int32)) → wpX2_learn_L12 sG G_towerCell G_mirage W_goal l2 kx65 post nf12 W_next_20 W_way_59 l3_59) post nf26 W_way (0 : Int32))))
def wpX2_learn (sG : AR) (G_towerCell : AR) (G_mirage : AR) (W_next : AR) (W_way : AR) (W_goal : AR) (post : AR → AR → AR → Prop) : Prop := wpX4_cells sG (fun r1 => ∀ l2_9 : Int32, l2_9 = (jmin r1 (100 : Int32)) → ∃ nf12 : Nat, wpX2_learn_L12 sG G_towerCell G_mirage W_goal l2_9 (fun W_next_65 W_way_65 l3_65 => ∀ W_goal_76 : AR, W_goal_76 = va_cpy G_towerCell W_goal 0 0 5 → post W_next_65 W_way_65 W_goal_76) post nf12 W_next W_way (0 : Int32))
set_option maxHeartbeats 4000000 in
set_option maxRecDepth 100000 in
theorem ctX2_learn (l : Launch) (D : va_G) (cy : Nat → ClassId) (ev : Nat → Nat) (h0 : Nat) (a1 : Nat) (rG : Nat → Nat) (rW : Nat → Nat) (sG : AR) (G_towerCell : AR) (G_mirage : AR) (W_next : AR) (W_way : AR) (W_goal : AR) (sz : Nat) (post : AR → AR → AR → Prop) (h : wpX2_learn sG G_towerCell G_mirage W_next W_way W_goal post) : Met l yX2_learn (Cond.code yX2_learn cX2_learn 5 none :: TB) ({ frames := 2, cells := 0, slots := 0, locals := 87 }) (va_Pc [.ref h0, .ref a1] (PreX D cy ev [(a1, .inr (4, oX4 rG sG)), (h0, .inr (2, oX2 rW)), ((rG 7), .inl (cy 0, 5, .inl G_towerCell)), ((rG 15), .inl (cy 2, 100, .inl G_mirage)), ((rW 0), .inl (cy 0, 400, .inl W_next)), ((rW 1), .inl (cy 0, 500, .inl W_way)), ((rW 2), .inl (cy 0, 5, .inl W_goal))] sz)) (va_Qv (fun (u : AR × AR × AR) => post (u.1) (u.2.1) (u.2.2)) (fun u => BkX D cy [(a1, .inr (4, oX4 rG sG)), (h0, .inr (2, oX2 rW)), ((rG 7), .inl (cy 0, 5, .inl G_towerCell)), ((rG 15), .inl (cy 2, 100, .inl G_mirage)), ((rW 0), .inl (cy 0, 400, .inl W_next)), ((rW 1), .inl (cy 0, 500, .inl W_way)), ((rW 2), .inl (cy 0, 5, .inl W_goal))] sz [(a1, .inr (4, oX4 rG sG)), (h0, .inr (2, oX2 rW)), ((rG 7), .inl (cy 0, 5, .inl G_towerCell)), ((rG 15), .inl (cy 2, 100, .inl G_mirage)), ((rW 0), .inl (cy 0, 400, .inl (u.1))), ((rW 1), .inl (cy 0, 500, .inl (u.2.1))), ((rW 2), .inl (cy 0, 5, .inl (u.2.2)))]) (va_A [(a1, .inr (4, oX4 rG sG)), (h0, .inr (2, oX2 rW)), ((rG 7), .inl (cy 0, 5, .inl G_towerCell)), ((rG 15), .inl (cy 2, 100, .inl G_mirage)), ((rW 0), .inl (cy 0, 400, .inl W_next)), ((rW 1), .inl (cy 0, 500, .inl W_way)), ((rW 2), .inl (cy 0, 5, .inl W_goal))] sz)) 0 0 (va_A [(a1, .inr (4, oX4 rG sG)), (h0, .inr (2, oX2 rW)), ((rG 7), .inl (cy 0, 5, .inl G_towerCell)), ((rG 15), .inl (cy 2, 100, .inl G_mirage)), ((rW 0), .inl (cy 0, 400, .inl W_next)), ((rW 1), .inl (cy 0, 500, .inl W_way)), ((rW 2), .inl (cy 0, 5, .inl W_goal))] sz) := by
  refine ofWv (by decide) (Nat.le_of_ble_eq_true rfl) ?_
  intro p e s m args below meth c ls A R QQ hx hb hml hown hts hR hlk hE hK hP hD hS hA hl hret
  have hown : s.vm.findClass RX2 = some m.cls := hown
  have hRf : 2 ≤ R.frames := by rw [hR]; exact Nat.le_refl _
  have hRl : 87 ≤ R.locals := by rw [hR]; exact Nat.le_refl _
  clear hR
  have hl : lv_has ls 5 [(0, .ref h0), (1, .ref a1)] := hl
  have L12 : ∀ (l2 : Int32) (kx65 : AR → AR → Int32 → Prop), (∀ (W_next : AR) (W_way : AR) (l3 : Int32) (H : Heap) (locs : List Loc) (ls : Array Slot), kx65 W_next W_way l3 → va_P D clsX [(a1, .inr (4, oX4 rG sG)), (h0, .inr (2, oX2 rW)), ((rG 7), .inl (cy 0, 5, .inl G_towerCell)), ((rG 15), .inl (cy 2, 100, .inl G_mirage)), ((rW 0), .inl (cy 0, 400, .inl W_next)), ((rW 1), .inl (cy 0, 500, .inl W_way)), ((rW 2), .inl (cy 0, 5, .inl W_goal))] H → va_D A [(a1, .inr (4, oX4 rG sG)), (h0, .inr (2, oX2 rW)), ((rG 7), .inl (cy 0, 5, .inl G_towerCell)), ((rG 15), .inl (cy 2, 100, .inl G_mirage)), ((rW 0), .inl (cy 0, 400, .inl W_next)), ((rW 1), .inl (cy 0, 500, .inl W_way)), ((rW 2), .inl (cy 0, 5, .inl W_goal))] → va_S A s.heap H locs → lv_has ls 5 [(0, .ref h0), (1, .ref a1)] → W p l e R s m args below meth c H locs 0 0 QQ (F0 m 65 ls [])) → ∀ (nf12 : Nat) (W_next : AR) (W_way : AR) (l3 : Int32) (H : Heap) (locs : List Loc) (ls : Array Slot), wpX2_learn_L12 sG G_towerCell G_mirage W_goal l2 kx65 post nf12 W_next W_way l3 → va_P D clsX [(a1, .inr (4, oX4 rG sG)), (h0, .inr (2, oX2 rW)), ((rG 7), .inl (cy 0, 5, .inl G_towerCell)), ((rG 15), .inl (cy 2, 100, .inl G_mirage)), ((rW 0), .inl (cy 0, 400, .inl W_next)), ((rW 1), .inl (cy 0, 500, .inl W_way)), ((rW 2), .inl (cy 0, 5, .inl W_goal))] H → va_D A [(a1, .inr (4, oX4 rG sG)), (h0, .inr (2, oX2 rW)), ((rG 7), .inl (cy 0, 5, .inl G_towerCell)), ((rG 15), .inl (cy 2, 100, .inl G_mirage)), ((rW 0), .inl (cy 0, 400, .inl W_next)), ((rW 1), .inl (cy 0, 500, .inl W_way)), ((rW 2), .inl (cy 0, 5, .inl W_goal))] → va_S A s.heap H locs → lv_has ls 5 [(0, .ref h0), (1, .ref a1), (2, .int l2), (3, .int l3)] → W p l e R s m args below meth c H locs 0 0 QQ (F0 m 12 ls []) := by
    intro l2 kx65 hk12_65 nf12
    induction nf12 with
    | zero =>
      intro W_next W_way l3 H locs ls h
      exact (show False from h).elim
    | succ nf12 ih12 =>
      intro W_next W_way l3 H locs ls h hP hD hS hl
      have L26 : ∀ (W_next : AR) (l2 : Int32) (l3 : Int32) (kx59 : AR → Int32 → Prop), (∀ (W_way : AR) (l4 : Int32) (H : Heap) (locs : List Loc) (ls : Array Slot), kx59 W_way l4 → va_P D clsX [(a1, .inr (4, oX4 rG sG)), (h0, .inr (2, oX2 rW)), ((rG 7), .inl (cy 0, 5, .inl G_towerCell)), ((rG 15), .inl (cy 2, 100, .inl G_mirage)), ((rW 0), .inl (cy 0, 400, .inl W_next)), ((rW 1), .inl (cy 0, 500, .inl W_way)), ((rW 2), .inl (cy 0, 5, .inl W_goal))] H → va_D A [(a1, .inr (4, oX4 rG sG)), (h0, .inr (2, oX2 rW)), ((rG 7), .inl (cy 0, 5, .inl G_towerCell)), ((rG 15), .inl (cy 2, 100, .inl G_mirage)), ((rW 0), .inl (cy 0, 400, .inl W_next)), ((rW 1), .inl (cy 0, 500, .inl W_way)), ((rW 2), .inl (cy 0, 5, .inl W_goal))] → va_S A s.heap H locs → lv_has ls 5 [(0, .ref h0), (1, .ref a1), (2, .int l2), (3, .int l3)] → W p l e R s m args below meth c H locs 0 0 QQ (F0 m 59 ls [])) → ∀ (nf26 : Nat) (W_way : AR) (l4 : Int32) (H : Heap) (locs : List Loc) (ls : Array Slot), wpX2_learn_L26 sG G_towerCell G_mirage W_next W_goal l2 l3 kx59 post nf26 W_way l4 → va_P D clsX [(a1, .inr (4, oX4 rG sG)), (h0, .inr (2, oX2 rW)), ((rG 7), .inl (cy 0, 5, .inl G_towerCell)), ((rG 15), .inl (cy 2, 100, .inl G_mirage)), ((rW 0), .inl (cy 0, 400, .inl W_next)), ((rW 1), .inl (cy 0, 500, .inl W_way)), ((rW 2), .inl (cy 0, 5, .inl W_goal))] H → va_D A [(a1, .inr (4, oX4 rG sG)), (h0, .inr (2, oX2 rW)), ((rG 7), .inl (cy 0, 5, .inl G_towerCell)), ((rG 15), .inl (cy 2, 100, .inl G_mirage)), ((rW 0), .inl (cy 0, 400, .inl W_next)), ((rW 1), .inl (cy 0, 500, .inl W_way)), ((rW 2), .inl (cy 0, 5, .inl W_goal))] → va_S A s.heap H locs → lv_has ls 5 [(0, .ref h0), (1, .ref a1), (2, .int l2), (3, .int l3), (4, .int l4)] → W p l e R s m args below meth c H locs 0 0 QQ (F0 m 26 ls []) := by
        intro W_next l2 l3 kx59 hk26_59 nf26
        induction nf26 with
        | zero =>
          intro W_way l4 H locs ls h
          exact (show False from h).elim
        | succ nf26 ih26 =>
          intro W_way l4 H locs ls h hP hD hS hl
          refine lv_iload hx hb dX2_learn_26 (lv_at hl 4 rfl) ?_
          refine lv_aload_n hx hb dX2_learn_28 rfl (lv_at hl 1 rfl) ?_
          refine gfX2_37 (v := (sG 2)) hx hb hts hown hK hP 0 rfl rfl dX2_learn_29 ?_
          refine lv_icmp_ge (tgt := 59) hx hb dX2_learn_32 (by decide) (fun c32 => ?_) (fun c32 => ?_)
          · have h := h.1 c32
            exact hk26_59 W_way l4 _ _ _ h hP hD hS (lv_sub hl [0, 1, 2, 3] rfl)
          · have h := h.2 c32
            refine lv_aload_n hx hb dX2_learn_35 rfl (lv_at hl 0 rfl) ?_
            refine gfX2_15 hx hb hts hown hK hP 1 rfl dX2_learn_36 ?_
            refine lv_iload_n hx hb dX2_learn_39 rfl (lv_at hl 3 rfl) ?_
            refine lv_iconst (v := (5 : Int32)) hx hb dX2_learn_40 (by decide) ?_
            refine lv_imul hx hb dX2_learn_41 ?_
            refine lv_iload hx hb dX2_learn_42 (lv_at hl 4 rfl) ?_
            refine lv_iadd hx hb dX2_learn_44 ?_
            refine lv_aload_n hx hb dX2_learn_45 rfl (lv_at hl 1 rfl) ?_
            refine lv_iload_n hx hb dX2_learn_46 rfl (lv_at hl 3 rfl) ?_
            refine lv_iload hx hb dX2_learn_47 (lv_at hl 4 rfl) ?_
            refine clSi (As := [.ref a1, .int l3, .int l4]) (rest := [.int ((l3 * (5 : Int32)) + l4), .ref (rW 1)]) (Wr := [(h0, .inr (2, oX2 rW)), ((rW 0), .inl (cy 0, 400, .inl W_next)), ((rW 1), .inl (cy 0, 500, .inl W_way)), ((rW 2), .inl (cy 0, 5, .inl W_goal))]) ⟨hx, hb, hml, hown, hts⟩ ⟨callB_of 3 hts (goodC mw439) rfl rfl rfl (hts _ (tb mw5)) (hts _ (tb mw437)) kdX2_towards ⟨Nat.le_trans (by decide) hRf, Nat.le_trans (by decide) hRl⟩, hts _ (tb mw438)⟩ (ctX2_towards l D cy ev a1 rG sG G_towerCell G_mirage l3 l4 _ _ h) hE hK hP hD hS hA [0, 2, 3] [1, 4, 5, 6] rfl rfl (by decide) (by decide) (by decide) rfl hl.1 rfl (Nat.le_of_ble_eq_true rfl) ⟨Nat.zero_le _, Nat.zero_le _⟩ dX2_learn_49 (fun r49 u H locs h hP hD hS => ?_)
            have hP : va_P D clsX [(h0, .inr (2, oX2 rW)), ((rW 0), .inl (cy 0, 400, .inl W_next)), ((rW 1), .inl (cy 0, 500, .inl W_way)), ((rW 2), .inl (cy 0, 5, .inl W_goal)), (a1, .inr (4, oX4 rG sG)), ((rG 7), .inl (cy 0, 5, .inl G_towerCell)), ((rG 15), .inl (cy 2, 100, .inl G_mirage))] H := hP
            have hD : va_D A [(h0, .inr (2, oX2 rW)), ((rW 0), .inl (cy 0, 400, .inl W_next)), ((rW 1), .inl (cy 0, 500, .inl W_way)), ((rW 2), .inl (cy 0, 5, .inl W_goal)), (a1, .inr (4, oX4 rG sG)), ((rG 7), .inl (cy 0, 5, .inl G_towerCell)), ((rG 15), .inl (cy 2, 100, .inl G_mirage))] := hD
            obtain ⟨hin, h⟩ := h
            refine sti (k := ((l3 * (5 : Int32)) + l4).toNatClampNeg) (y := r49) hx hb hK hP hD hS 2 rfl hin rfl rfl dX2_learn_52 (fun W_way_52 eW_way_52 H locs hP hD hS => ?_)
            have h := h W_way_52 eW_way_52
            have hP : va_P D clsX [(h0, .inr (2, oX2 rW)), ((rW 0), .inl (cy 0, 400, .inl W_next)), ((rW 1), .inl (cy 0, 500, .inl W_way_52)), ((rW 2), .inl (cy 0, 5, .inl W_goal)), (a1, .inr (4, oX4 rG sG)), ((rG 7), .inl (cy 0, 5, .inl G_towerCell)), ((rG 15), .inl (cy 2, 100, .inl G_mirage))] H := hP
            have hD : va_D A [(h0, .inr (2, oX2 rW)), ((rW 0), .inl (cy 0, 400, .inl W_next)), ((rW 1), .inl (cy 0, 500, .inl W_way_52)), ((rW 2), .inl (cy 0, 5, .inl W_goal)), (a1, .inr (4, oX4 rG sG)), ((rG 7), .inl (cy 0, 5, .inl G_towerCell)), ((rG 15), .inl (cy 2, 100, .inl G_mirage))] := hD
            obtain ⟨l4_53, el4_53⟩ : ∃ y : Int32, y = l4 + (1 : Int32) := ⟨_, rfl⟩
            have h := h l4_53 el4_53
            refine lv_iinc (v := l4_53) (lv' := [(4, .int l4_53), (0, .ref h0), (1, .ref a1), (2, .int l2), (3, .int l3)]) hx hb dX2_learn_53 hl (k := 4) rfl (by rw [el4_53]; rfl) (by decide) rfl (fun ls hl => ?_)
            refine lv_goto (tgt := 26) hx hb dX2_learn_56 (by decide) ?_
            exact ih26 W_way_52 l4_53 _ _ _ h (hP.sub [4, 0, 5, 6, 1, 2, 3] rfl) (hD.sub [4, 0, 5, 6, 1, 2, 3] (by decide) rfl) hS (lv_sub hl [1, 2, 3, 4, 0] rfl)
      refine lv_iload_n hx hb dX2_learn_12 rfl (lv_at hl 3 rfl) ?_
      refine lv_iload_n hx hb dX2_learn_13 rfl (lv_at hl 2 rfl) ?_
      refine lv_icmp_ge (tgt := 65) hx hb dX2_learn_14 (by decide) (fun c14 => ?_) (fun c14 => ?_)
      · have h := h.1 c14
        exact hk12_65 W_next W_way l3 _ _ _ h hP hD hS (lv_sub hl [0, 1] rfl)
      · have h := h.2 c14
        refine lv_aload_n hx hb dX2_learn_17 rfl (lv_at hl 0 rfl) ?_
        refine lv_aload_n hx hb dX2_learn_18 rfl (lv_at hl 1 rfl) ?_
        refine lv_iload_n hx hb dX2_learn_19 rfl (lv_at hl 3 rfl) ?_
        refine clVv (As := [.ref a1, .int l3]) (rest := []) (Wr := [((rG 7), .inl (cy 0, 5, .inl G_towerCell)), ((rG 15), .inl (cy 2, 100, .inl G_mirage)), ((rW 1), .inl (cy 0, 500, .inl W_way)), ((rW 2), .inl (cy 0, 5, .inl W_goal))]) (cq := (RX2, TX2, 3)) ⟨hx, hb, hml, hown, hts⟩ ⟨callB_of 2 hts (goodC mw434) rfl rfl rfl (hts _ (tb mw5)) (hts _ (tb mw431)) kdX2_learnSteps ⟨Nat.le_trans (by decide) hRf, Nat.le_trans (by decide) hRl⟩, hts _ (tb mw433), hts _ (tb ms2)⟩ (ctX2_learnSteps l D cy ev h0 a1 rG rW sG W_next l3 _ _ h) hE hK hP hD hS hA [0, 1, 4] [2, 3, 5, 6] rfl rfl (by decide) (by decide) (by decide) 1 rfl rfl rfl hl.1 rfl (Nat.le_of_ble_eq_true rfl) ⟨Nat.zero_le _, Nat.zero_le _⟩ dX2_learn_20 (fun W_next_20 H locs h hP hD hS => ?_)
        have hP : va_P D clsX [((rG 7), .inl (cy 0, 5, .inl G_towerCell)), ((rG 15), .inl (cy 2, 100, .inl G_mirage)), ((rW 1), .inl (cy 0, 500, .inl W_way)), ((rW 2), .inl (cy 0, 5, .inl W_goal)), (a1, .inr (4, oX4 rG sG)), (h0, .inr (2, oX2 rW)), ((rW 0), .inl (cy 0, 400, .inl W_next_20))] H := hP
        have hD : va_D A [((rG 7), .inl (cy 0, 5, .inl G_towerCell)), ((rG 15), .inl (cy 2, 100, .inl G_mirage)), ((rW 1), .inl (cy 0, 500, .inl W_way)), ((rW 2), .inl (cy 0, 5, .inl W_goal)), (a1, .inr (4, oX4 rG sG)), (h0, .inr (2, oX2 rW)), ((rW 0), .inl (cy 0, 400, .inl W_next_20))] := hD
        refine lv_iconst (v := (0 : Int32)) hx hb dX2_learn_23 (by decide) ?_
        refine lv_istore (lv' := [(4, .int (0 : Int32)), (0, .ref h0), (1, .ref a1), (2, .int l2), (3, .int l3)]) hx hb dX2_learn_24 hl (by decide) rfl (fun ls hl => ?_)
        obtain ⟨nf26, h⟩ := h
        refine L26 W_next_20 l2 l3 _ (fun W_way_59 l4_59 H locs ls h hP hD hS hl => ?_) nf26 W_way (0 : Int32) _ _ _ h (hP.sub [4, 5, 0, 1, 6, 2, 3] rfl) (hD.sub [4, 5, 0, 1, 6, 2, 3] (by decide) rfl) hS (lv_sub hl [1, 2, 3, 4, 0] rfl)
        obtain ⟨l3_59, el3_59⟩ : ∃ y : Int32, y = l3 + (1 : Int32) := ⟨_, rfl⟩
        have h := h l3_59 el3_59
        refine lv_iinc (v := l3_59) (lv' := [(3, .int l3_59), (0, .ref h0), (1, .ref a1), (2, .int l2)]) hx hb dX2_learn_59 hl (k := 3) rfl (by rw [el3_59]; rfl) (by decide) rfl (fun ls hl => ?_)
        refine lv_goto (tgt := 12) hx hb dX2_learn_62 (by decide) ?_
        exact ih12 W_next_20 W_way_59 l3_59 _ _ _ h hP hD hS (lv_sub hl [1, 2, 3, 0] rfl)
  refine lv_aload_n hx hb dX2_learn_0 rfl (lv_at hl 1 rfl) ?_
  refine clVi (As := []) (rest := []) (Wr := [(h0, .inr (2, oX2 rW)), ((rG 7), .inl (cy 0, 5, .inl G_towerCell)), ((rG 15), .inl (cy 2, 100, .inl G_mirage)), ((rW 0), .inl (cy 0, 400, .inl W_next)), ((rW 1), .inl (cy 0, 500, .inl W_way)), ((rW 2), .inl (cy 0, 5, .inl W_goal))]) (cq := (RX4, TX4, 16)) ⟨hx, hb, hml, hown, hts⟩ ⟨callB_of 0 hts (goodC mw397) rfl rfl rfl (hts _ (tb mw3)) (hts _ (tb mw429)) kdX4_cells ⟨Nat.le_trans (by decide) hRf, Nat.le_trans (by decide) hRl⟩, hts _ (tb mw395), hts _ (tb mw396)⟩ (ctX4_cells l D cy ev a1 rG sG  _ _ h) hE hK hP hD hS hA [0] [1, 2, 3, 4, 5, 6] rfl rfl (by decide) (by decide) (by decide) 0 rfl rfl rfl hl.1 rfl (Nat.le_of_ble_eq_true rfl) ⟨Nat.zero_le _, Nat.zero_le _⟩ dX2_learn_1 (fun r1 u H locs h hP hD hS => ?_)
  have hP : va_P D clsX [(h0, .inr (2, oX2 rW)), ((rG 7), .inl (cy 0, 5, .inl G_towerCell)), ((rG 15), .inl (cy 2, 100, .inl G_mirage)), ((rW 0), .inl (cy 0, 400, .inl W_next)), ((rW 1), .inl (cy 0, 500, .inl W_way)), ((rW 2), .inl (cy 0, 5, .inl W_goal)), (a1, .inr (4, oX4 rG sG))] H := hP
  have hD : va_D A [(h0, .inr (2, oX2 rW)), ((rG 7), .inl (cy 0, 5, .inl G_towerCell)), ((rG 15), .inl (cy 2, 100, .inl G_mirage)), ((rW 0), .inl (cy 0, 400, .inl W_next)), ((rW 1), .inl (cy 0, 500, .inl W_way)), ((rW 2), .inl (cy 0, 5, .inl W_goal)), (a1, .inr (4, oX4 rG sG))] := hD
  refine lv_bipush (v := (100 : Int32)) hx hb dX2_learn_4 (by decide) ?_
  refine mmin hx hb (hml.trans hl.1.symm) hts hown mw430 (Nat.le_trans (by decide) hRf) (Nat.le_trans (Nat.le_of_ble_eq_true rfl) hRl) (Nat.zero_le _) (Nat.zero_le _) dX2_learn_6 ?_
  refine lv_topi (fun l2_9 el2_9 => ?_)
  have h := h l2_9 el2_9
  refine lv_istore_n (lv' := [(2, .int l2_9), (0, .ref h0), (1, .ref a1)]) hx hb dX2_learn_9 rfl hl (by decide) rfl (fun ls hl => ?_)
  refine lv_iconst (v := (0 : Int32)) hx hb dX2_learn_10 (by decide) ?_
  refine lv_istore_n (lv' := [(3, .int (0 : Int32)), (2, .int l2_9), (0, .ref h0), (1, .ref a1)]) hx hb dX2_learn_11 rfl hl (by decide) rfl (fun ls hl => ?_)
  obtain ⟨nf12, h⟩ := h
  refine L12 l2_9 _ (fun W_next_65 W_way_65 l3_65 H locs ls h hP hD hS hl => ?_) nf12 W_next W_way (0 : Int32) _ _ _ h (hP.sub [6, 0, 1, 2, 3, 4, 5] rfl) (hD.sub [6, 0, 1, 2, 3, 4, 5] (by decide) rfl) hS (lv_sub hl [2, 3, 1, 0] rfl)
  refine lv_aload_n hx hb dX2_learn_65 rfl (lv_at hl 1 rfl) ?_
  refine gfX2_45 hx hb hts hown hK hP 0 rfl dX2_learn_66 ?_
  refine lv_iconst (v := (0 : Int32)) hx hb dX2_learn_69 (by decide) ?_
  refine lv_aload_n hx hb dX2_learn_70 rfl (lv_at hl 0 rfl) ?_
  refine gfX2_18 hx hb hts hown hK hP 1 rfl dX2_learn_71 ?_
  refine lv_iconst (v := (0 : Int32)) hx hb dX2_learn_74 (by decide) ?_
  refine lv_iconst (v := (5 : Int32)) hx hb dX2_learn_75 (by decide) ?_
  refine cpi (k0 := 0) (k1 := 0) (kn := 5) hx hb (hml.trans hl.1.symm) hts hown mw441 hK hP hD hS 2 6 rfl rfl (by decide) (by decide) (by decide) (by decide) (by decide) (by decide) (by decide) (by decide) (Nat.le_trans (by decide) hRf) (Nat.le_trans (Nat.le_of_ble_eq_true rfl) hRl) dX2_learn_76 (fun W_goal_76 eW_goal_76 H locs hP hD hS => ?_)
  have h := h W_goal_76 eW_goal_76
  have hP : va_P D clsX [(a1, .inr (4, oX4 rG sG)), (h0, .inr (2, oX2 rW)), ((rG 7), .inl (cy 0, 5, .inl G_towerCell)), ((rG 15), .inl (cy 2, 100, .inl G_mirage)), ((rW 0), .inl (cy 0, 400, .inl W_next_65)), ((rW 1), .inl (cy 0, 500, .inl W_way_65)), ((rW 2), .inl (cy 0, 5, .inl W_goal_76))] H := hP
  have hD : va_D A [(a1, .inr (4, oX4 rG sG)), (h0, .inr (2, oX2 rW)), ((rG 7), .inl (cy 0, 5, .inl G_towerCell)), ((rG 15), .inl (cy 2, 100, .inl G_mirage)), ((rW 0), .inl (cy 0, 400, .inl W_next_65)), ((rW 1), .inl (cy 0, 500, .inl W_way_65)), ((rW 2), .inl (cy 0, 5, .inl W_goal_76))] := hD
  exact hret (W_next_65, W_way_65, W_goal_76) _ _ _ _ dX2_learn_79 h hP hD hS
def wpX2_pace (W_next : AR) (W_way : AR) (W_goal : AR) (x1 : Int32) (x2 : Int32) (x3 : Int32) (post : Int32 → Prop) : Prop := ((0 ≤ x3 → vp_in x3 5 ∧ ((¬ (W_goal x3.toNatClampNeg) = x1 → vp_in ((x1 * (5 : Int32)) + x3) 500 ∧ ∀ l4_49 : Int32, l4_49 = (W_way ((x1 * (5 : Int32)) + x3).toNatClampNeg) → vp_in ((x1 * (4 : Int32)) + l4_49) 400 ∧ post (((W_next ((x1 * (4 : Int32)) + l4_49).toNatClampNeg) * (4 : Int32)) + l4_49)) ∧ ((W_goal x3.toNatClampNeg) = x1 → post ((x1 * (4 : Int32)) + x2)))) ∧ (¬ 0 ≤ x3 → vp_in ((x1 * (4 : Int32)) + x2) 400 ∧ post (((W_next ((x1 * (4 : Int32)) + x2).toNatClampNeg) * (4 : Int32)) + (jrem (x2 + (1 : Int32)) (4 : Int32)))))
set_option maxHeartbeats 4000000 in
set_option maxRecDepth 100000 in
theorem ctX2_pace (l : Launch) (D : va_G) (cy : Nat → ClassId) (ev : Nat → Nat) (h0 : Nat) (rW : Nat → Nat) (W_next : AR) (W_way : AR) (W_goal : AR) (x1 : Int32) (x2 : Int32) (x3 : Int32) (sz : Nat) (post : Int32 → Prop) (h : wpX2_pace W_next W_way W_goal x1 x2 x3 post) : Met l yX2_pace (Cond.code yX2_pace cX2_pace 5 (some .int) :: TB) ({ frames := 0, cells := 0, slots := 0, locals := 0 }) (va_Pc [.ref h0, .int x1, .int x2, .int x3] (PreX D cy ev [(h0, .inr (2, oX2 rW)), ((rW 0), .inl (cy 0, 400, .inl W_next)), ((rW 1), .inl (cy 0, 500, .inl W_way)), ((rW 2), .inl (cy 0, 5, .inl W_goal))] sz)) (va_Qi (fun (r : Int32) (u : Unit) => post r) (fun u => BkX D cy [(h0, .inr (2, oX2 rW)), ((rW 0), .inl (cy 0, 400, .inl W_next)), ((rW 1), .inl (cy 0, 500, .inl W_way)), ((rW 2), .inl (cy 0, 5, .inl W_goal))] sz [(h0, .inr (2, oX2 rW)), ((rW 0), .inl (cy 0, 400, .inl W_next)), ((rW 1), .inl (cy 0, 500, .inl W_way)), ((rW 2), .inl (cy 0, 5, .inl W_goal))]) (va_A [(h0, .inr (2, oX2 rW)), ((rW 0), .inl (cy 0, 400, .inl W_next)), ((rW 1), .inl (cy 0, 500, .inl W_way)), ((rW 2), .inl (cy 0, 5, .inl W_goal))] sz)) 0 0 (va_A [(h0, .inr (2, oX2 rW)), ((rW 0), .inl (cy 0, 400, .inl W_next)), ((rW 1), .inl (cy 0, 500, .inl W_way)), ((rW 2), .inl (cy 0, 5, .inl W_goal))] sz) := by
  refine ofWi (by decide) (Nat.le_of_ble_eq_true rfl) ?_
  intro p e s m args below meth c ls A R QQ hx hb hml hown hts hR hlk hE hK hP hD hS hA hl hret
  have hown : s.vm.findClass RX2 = some m.cls := hown
  have hRf : 0 ≤ R.frames := by rw [hR]; exact Nat.le_refl _
  have hRl : 0 ≤ R.locals := by rw [hR]; exact Nat.le_refl _
  clear hR
  have hl : lv_has ls 5 [(0, .ref h0), (1, .int x1), (2, .int x2), (3, .int x3)] := hl
  refine lv_iload_n hx hb dX2_pace_0 rfl (lv_at hl 3 rfl) ?_
  refine lv_if_ge (tgt := 23) hx hb dX2_pace_1 (by decide) (fun c1 => ?_) (fun c1 => ?_)
  · have h := h.1 c1
    refine lv_aload_n hx hb dX2_pace_23 rfl (lv_at hl 0 rfl) ?_
    refine gfX2_18 hx hb hts hown hK hP 0 rfl dX2_pace_24 ?_
    refine lv_iload_n hx hb dX2_pace_27 rfl (lv_at hl 3 rfl) ?_
    obtain ⟨hin, h⟩ := h
    refine ldi (k := x3.toNatClampNeg) hx hb hK hP 3 rfl hin rfl dX2_pace_28 ?_
    refine lv_iload_n hx hb dX2_pace_29 rfl (lv_at hl 1 rfl) ?_
    refine lv_icmp_ne (tgt := 39) hx hb dX2_pace_30 (by decide) (fun c30 => ?_) (fun c30 => ?_)
    · have h := h.1 c30
      refine lv_aload_n hx hb dX2_pace_39 rfl (lv_at hl 0 rfl) ?_
      refine gfX2_15 hx hb hts hown hK hP 0 rfl dX2_pace_40 ?_
      refine lv_iload_n hx hb dX2_pace_43 rfl (lv_at hl 1 rfl) ?_
      refine lv_iconst (v := (5 : Int32)) hx hb dX2_pace_44 (by decide) ?_
      refine lv_imul hx hb dX2_pace_45 ?_
      refine lv_iload_n hx hb dX2_pace_46 rfl (lv_at hl 3 rfl) ?_
      refine lv_iadd hx hb dX2_pace_47 ?_
      obtain ⟨hin, h⟩ := h
      refine ldi (k := ((x1 * (5 : Int32)) + x3).toNatClampNeg) hx hb hK hP 2 rfl hin rfl dX2_pace_48 ?_
      refine lv_topi (fun l4_49 el4_49 => ?_)
      have h := h l4_49 el4_49
      refine lv_istore (lv' := [(4, .int l4_49), (0, .ref h0), (1, .int x1), (2, .int x2), (3, .int x3)]) hx hb dX2_pace_49 hl (by decide) rfl (fun ls hl => ?_)
      refine lv_aload_n hx hb dX2_pace_51 rfl (lv_at hl 1 rfl) ?_
      refine gfX2_11 hx hb hts hown hK hP 0 rfl dX2_pace_52 ?_
      refine lv_iload_n hx hb dX2_pace_55 rfl (lv_at hl 2 rfl) ?_
      refine lv_iconst (v := (4 : Int32)) hx hb dX2_pace_56 (by decide) ?_
      refine lv_imul hx hb dX2_pace_57 ?_
      refine lv_iload hx hb dX2_pace_58 (lv_at hl 0 rfl) ?_
      refine lv_iadd hx hb dX2_pace_60 ?_
      obtain ⟨hin, h⟩ := h
      refine ldi (k := ((x1 * (4 : Int32)) + l4_49).toNatClampNeg) hx hb hK hP 1 rfl hin rfl dX2_pace_61 ?_
      refine lv_iconst (v := (4 : Int32)) hx hb dX2_pace_62 (by decide) ?_
      refine lv_imul hx hb dX2_pace_63 ?_
      refine lv_iload hx hb dX2_pace_64 (lv_at hl 0 rfl) ?_
      refine lv_iadd hx hb dX2_pace_66 ?_
      exact hret (((W_next ((x1 * (4 : Int32)) + l4_49).toNatClampNeg) * (4 : Int32)) + l4_49) () _ _ _ _ rfl dX2_pace_67 h hP hD hS
    · have h := h.2 c30
      refine lv_iload_n hx hb dX2_pace_33 rfl (lv_at hl 1 rfl) ?_
      refine lv_iconst (v := (4 : Int32)) hx hb dX2_pace_34 (by decide) ?_
      refine lv_imul hx hb dX2_pace_35 ?_
      refine lv_iload_n hx hb dX2_pace_36 rfl (lv_at hl 2 rfl) ?_
      refine lv_iadd hx hb dX2_pace_37 ?_
      exact hret ((x1 * (4 : Int32)) + x2) () _ _ _ _ rfl dX2_pace_38 h hP hD hS
  · have h := h.2 c1
    refine lv_aload_n hx hb dX2_pace_4 rfl (lv_at hl 0 rfl) ?_
    refine gfX2_11 hx hb hts hown hK hP 0 rfl dX2_pace_5 ?_
    refine lv_iload_n hx hb dX2_pace_8 rfl (lv_at hl 1 rfl) ?_
    refine lv_iconst (v := (4 : Int32)) hx hb dX2_pace_9 (by decide) ?_
    refine lv_imul hx hb dX2_pace_10 ?_
    refine lv_iload_n hx hb dX2_pace_11 rfl (lv_at hl 2 rfl) ?_
    refine lv_iadd hx hb dX2_pace_12 ?_
    obtain ⟨hin, h⟩ := h
    refine ldi (k := ((x1 * (4 : Int32)) + x2).toNatClampNeg) hx hb hK hP 1 rfl hin rfl dX2_pace_13 ?_
    refine lv_iconst (v := (4 : Int32)) hx hb dX2_pace_14 (by decide) ?_
    refine lv_imul hx hb dX2_pace_15 ?_
    refine lv_iload_n hx hb dX2_pace_16 rfl (lv_at hl 2 rfl) ?_
    refine lv_iconst (v := (1 : Int32)) hx hb dX2_pace_17 (by decide) ?_
    refine lv_iadd hx hb dX2_pace_18 ?_
    refine lv_iconst (v := (4 : Int32)) hx hb dX2_pace_19 (by decide) ?_
    refine lv_irem hx hb dX2_pace_20 (by decide) ?_
    refine lv_iadd hx hb dX2_pace_21 ?_
    exact hret (((W_next ((x1 * (4 : Int32)) + x2).toNatClampNeg) * (4 : Int32)) + (jrem (x2 + (1 : Int32)) (4 : Int32))) () _ _ _ _ rfl dX2_pace_22 h hP hD hS
def wpX2_cellOf (x0 : Int32) (post : Int32 → Prop) : Prop := post (x0 / (4 : Int32))
set_option maxHeartbeats 4000000 in
set_option maxRecDepth 100000 in
theorem ctX2_cellOf (l : Launch) (D : va_G) (cy : Nat → ClassId) (ev : Nat → Nat) (x0 : Int32) (sz : Nat) (post : Int32 → Prop) (h : wpX2_cellOf x0 post) : Met l yX2_cellOf (Cond.code yX2_cellOf cX2_cellOf 1 (some .int) :: TB) ({ frames := 0, cells := 0, slots := 0, locals := 0 }) (va_Pc [.int x0] (PreX D cy ev [] sz)) (va_Qi (fun (r : Int32) (u : Unit) => post r) (fun u => BkX D cy [] sz []) (va_A [] sz)) 0 0 (va_A [] sz) := by
  refine ofWi (by decide) (Nat.le_of_ble_eq_true rfl) ?_
  intro p e s m args below meth c ls A R QQ hx hb hml hown hts hR hlk hE hK hP hD hS hA hl hret
  have hown : s.vm.findClass RX2 = some m.cls := hown
  have hRf : 0 ≤ R.frames := by rw [hR]; exact Nat.le_refl _
  have hRl : 0 ≤ R.locals := by rw [hR]; exact Nat.le_refl _
  clear hR
  have hl : lv_has ls 1 [(0, .int x0)] := hl
  refine lv_iload_n hx hb dX2_cellOf_0 rfl (lv_at hl 0 rfl) ?_
  refine lv_iconst (v := (4 : Int32)) hx hb dX2_cellOf_1 (by decide) ?_
  refine lv_idiv hx hb dX2_cellOf_2 (by decide) ?_
  exact hret (x0 / (4 : Int32)) () _ _ _ _ rfl dX2_cellOf_3 h hP hD hS
def wpX2_headingOf (x0 : Int32) (post : Int32 → Prop) : Prop := post (jrem x0 (4 : Int32))
set_option maxHeartbeats 4000000 in
set_option maxRecDepth 100000 in
theorem ctX2_headingOf (l : Launch) (D : va_G) (cy : Nat → ClassId) (ev : Nat → Nat) (x0 : Int32) (sz : Nat) (post : Int32 → Prop) (h : wpX2_headingOf x0 post) : Met l yX2_headingOf (Cond.code yX2_headingOf cX2_headingOf 1 (some .int) :: TB) ({ frames := 0, cells := 0, slots := 0, locals := 0 }) (va_Pc [.int x0] (PreX D cy ev [] sz)) (va_Qi (fun (r : Int32) (u : Unit) => post r) (fun u => BkX D cy [] sz []) (va_A [] sz)) 0 0 (va_A [] sz) := by
  refine ofWi (by decide) (Nat.le_of_ble_eq_true rfl) ?_
  intro p e s m args below meth c ls A R QQ hx hb hml hown hts hR hlk hE hK hP hD hS hA hl hret
  have hown : s.vm.findClass RX2 = some m.cls := hown
  have hRf : 0 ≤ R.frames := by rw [hR]; exact Nat.le_refl _
  have hRl : 0 ≤ R.locals := by rw [hR]; exact Nat.le_refl _
  clear hR
  have hl : lv_has ls 1 [(0, .int x0)] := hl
  refine lv_iload_n hx hb dX2_headingOf_0 rfl (lv_at hl 0 rfl) ?_
  refine lv_iconst (v := (4 : Int32)) hx hb dX2_headingOf_1 (by decide) ?_
  refine lv_irem hx hb dX2_headingOf_2 (by decide) ?_
  exact hret (jrem x0 (4 : Int32)) () _ _ _ _ rfl dX2_headingOf_3 h hP hD hS
def wpX2_isAt (W_goal : AR) (x1 : Int32) (x2 : Int32) (post : Int32 → Prop) : Prop := ((x2 < 0 → post (0 : Int32)) ∧ (¬ x2 < 0 → vp_in x2 5 ∧ ((¬ (W_goal x2.toNatClampNeg) = x1 → post (0 : Int32)) ∧ ((W_goal x2.toNatClampNeg) = x1 → post (1 : Int32)))))
set_option maxHeartbeats 4000000 in
set_option maxRecDepth 100000 in
theorem ctX2_isAt (l : Launch) (D : va_G) (cy : Nat → ClassId) (ev : Nat → Nat) (h0 : Nat) (rW : Nat → Nat) (W_goal : AR) (x1 : Int32) (x2 : Int32) (sz : Nat) (post : Int32 → Prop) (h : wpX2_isAt W_goal x1 x2 post) : Met l yX2_isAt (Cond.code yX2_isAt cX2_isAt 3 (some .boolean) :: TB) ({ frames := 0, cells := 0, slots := 0, locals := 0 }) (va_Pc [.ref h0, .int x1, .int x2] (PreX D cy ev [(h0, .inr (2, oX2 rW)), ((rW 2), .inl (cy 0, 5, .inl W_goal))] sz)) (va_Qi (fun (r : Int32) (u : Unit) => post r) (fun u => BkX D cy [(h0, .inr (2, oX2 rW)), ((rW 2), .inl (cy 0, 5, .inl W_goal))] sz [(h0, .inr (2, oX2 rW)), ((rW 2), .inl (cy 0, 5, .inl W_goal))]) (va_A [(h0, .inr (2, oX2 rW)), ((rW 2), .inl (cy 0, 5, .inl W_goal))] sz)) 0 0 (va_A [(h0, .inr (2, oX2 rW)), ((rW 2), .inl (cy 0, 5, .inl W_goal))] sz) := by
  refine ofWi (by decide) (Nat.le_of_ble_eq_true rfl) ?_
  intro p e s m args below meth c ls A R QQ hx hb hml hown hts hR hlk hE hK hP hD hS hA hl hret
  have hown : s.vm.findClass RX2 = some m.cls := hown
  have hRf : 0 ≤ R.frames := by rw [hR]; exact Nat.le_refl _
  have hRl : 0 ≤ R.locals := by rw [hR]; exact Nat.le_refl _
  clear hR
  have hl : lv_has ls 3 [(0, .ref h0), (1, .int x1), (2, .int x2)] := hl
  refine lv_iload_n hx hb dX2_isAt_0 rfl (lv_at hl 2 rfl) ?_
  refine lv_if_lt (tgt := 18) hx hb dX2_isAt_1 (by decide) (fun c1 => ?_) (fun c1 => ?_)
  · have h := h.1 c1
    refine lv_iconst (v := (0 : Int32)) hx hb dX2_isAt_18 (by decide) ?_
    exact hret (0 : Int32) () _ _ _ _ rfl dX2_isAt_19 h hP hD hS
  · have h := h.2 c1
    refine lv_aload_n hx hb dX2_isAt_4 rfl (lv_at hl 0 rfl) ?_
    refine gfX2_18 hx hb hts hown hK hP 0 rfl dX2_isAt_5 ?_
    refine lv_iload_n hx hb dX2_isAt_8 rfl (lv_at hl 2 rfl) ?_
    obtain ⟨hin, h⟩ := h
    refine ldi (k := x2.toNatClampNeg) hx hb hK hP 1 rfl hin rfl dX2_isAt_9 ?_
    refine lv_iload_n hx hb dX2_isAt_10 rfl (lv_at hl 1 rfl) ?_
    refine lv_icmp_ne (tgt := 18) hx hb dX2_isAt_11 (by decide) (fun c11 => ?_) (fun c11 => ?_)
    · have h := h.1 c11
      refine lv_iconst (v := (0 : Int32)) hx hb dX2_isAt_18 (by decide) ?_
      exact hret (0 : Int32) () _ _ _ _ rfl dX2_isAt_19 h hP hD hS
    · have h := h.2 c11
      refine lv_iconst (v := (1 : Int32)) hx hb dX2_isAt_14 (by decide) ?_
      refine lv_goto (tgt := 19) hx hb dX2_isAt_15 (by decide) ?_
      exact hret (1 : Int32) () _ _ _ _ rfl dX2_isAt_19 h hP hD hS
