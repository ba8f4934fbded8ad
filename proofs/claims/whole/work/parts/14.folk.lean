theorem dX3_begin_0 : decode cX3_begin 0 = .ok (.iconst 0, 1) := by decide +kernel
theorem dX3_begin_1 : decode cX3_begin 1 = .ok (.istore_n 1, 1) := by decide +kernel
theorem dX3_begin_2 : decode cX3_begin 2 = .ok (.iload_n 1, 1) := by decide +kernel
theorem dX3_begin_3 : decode cX3_begin 3 = .ok (.aload_n 0, 1) := by decide +kernel
theorem dX3_begin_4 : decode cX3_begin 4 = .ok (.getfield 18, 3) := by decide +kernel
theorem dX3_begin_7 : decode cX3_begin 7 = .ok (.getfield 30, 3) := by decide +kernel
theorem dX3_begin_10 : decode cX3_begin 10 = .ok (.if_icmp .ge 84, 3) := by decide +kernel
theorem dX3_begin_13 : decode cX3_begin 13 = .ok (.iload_n 1, 1) := by decide +kernel
theorem dX3_begin_14 : decode cX3_begin 14 = .ok (.bipush 6, 2) := by decide +kernel
theorem dX3_begin_16 : decode cX3_begin 16 = .ok (.imul, 1) := by decide +kernel
theorem dX3_begin_17 : decode cX3_begin 17 = .ok (.istore_n 2, 1) := by decide +kernel
theorem dX3_begin_18 : decode cX3_begin 18 = .ok (.aload_n 0, 1) := by decide +kernel
theorem dX3_begin_19 : decode cX3_begin 19 = .ok (.getfield 11, 3) := by decide +kernel
theorem dX3_begin_22 : decode cX3_begin 22 = .ok (.iload_n 2, 1) := by decide +kernel
theorem dX3_begin_23 : decode cX3_begin 23 = .ok (.iconst 0, 1) := by decide +kernel
theorem dX3_begin_24 : decode cX3_begin 24 = .ok (.iadd, 1) := by decide +kernel
theorem dX3_begin_25 : decode cX3_begin 25 = .ok (.aload_n 0, 1) := by decide +kernel
theorem dX3_begin_26 : decode cX3_begin 26 = .ok (.getfield 18, 3) := by decide +kernel
theorem dX3_begin_29 : decode cX3_begin 29 = .ok (.getfield 36, 3) := by decide +kernel
theorem dX3_begin_32 : decode cX3_begin 32 = .ok (.iload_n 1, 1) := by decide +kernel
theorem dX3_begin_33 : decode cX3_begin 33 = .ok (.iaload, 1) := by decide +kernel
theorem dX3_begin_34 : decode cX3_begin 34 = .ok (.iastore, 1) := by decide +kernel
theorem dX3_begin_35 : decode cX3_begin 35 = .ok (.aload_n 0, 1) := by decide +kernel
theorem dX3_begin_36 : decode cX3_begin 36 = .ok (.getfield 11, 3) := by decide +kernel
theorem dX3_begin_39 : decode cX3_begin 39 = .ok (.iload_n 2, 1) := by decide +kernel
theorem dX3_begin_40 : decode cX3_begin 40 = .ok (.iconst 1, 1) := by decide +kernel
theorem dX3_begin_41 : decode cX3_begin 41 = .ok (.iadd, 1) := by decide +kernel
theorem dX3_begin_42 : decode cX3_begin 42 = .ok (.aload_n 0, 1) := by decide +kernel
theorem dX3_begin_43 : decode cX3_begin 43 = .ok (.getfield 18, 3) := by decide +kernel
theorem dX3_begin_46 : decode cX3_begin 46 = .ok (.getfield 39, 3) := by decide +kernel
theorem dX3_begin_49 : decode cX3_begin 49 = .ok (.iload_n 1, 1) := by decide +kernel
theorem dX3_begin_50 : decode cX3_begin 50 = .ok (.iaload, 1) := by decide +kernel
theorem dX3_begin_51 : decode cX3_begin 51 = .ok (.iastore, 1) := by decide +kernel
theorem dX3_begin_52 : decode cX3_begin 52 = .ok (.aload_n 0, 1) := by decide +kernel
theorem dX3_begin_53 : decode cX3_begin 53 = .ok (.getfield 11, 3) := by decide +kernel
theorem dX3_begin_56 : decode cX3_begin 56 = .ok (.iload_n 2, 1) := by decide +kernel
theorem dX3_begin_57 : decode cX3_begin 57 = .ok (.iconst 2, 1) := by decide +kernel
theorem dX3_begin_58 : decode cX3_begin 58 = .ok (.iadd, 1) := by decide +kernel
theorem dX3_begin_59 : decode cX3_begin 59 = .ok (.iconst 0, 1) := by decide +kernel
theorem dX3_begin_60 : decode cX3_begin 60 = .ok (.iastore, 1) := by decide +kernel
theorem dX3_begin_61 : decode cX3_begin 61 = .ok (.aload_n 0, 1) := by decide +kernel
theorem dX3_begin_62 : decode cX3_begin 62 = .ok (.getfield 11, 3) := by decide +kernel
theorem dX3_begin_65 : decode cX3_begin 65 = .ok (.iload_n 2, 1) := by decide +kernel
theorem dX3_begin_66 : decode cX3_begin 66 = .ok (.iconst 3, 1) := by decide +kernel
theorem dX3_begin_67 : decode cX3_begin 67 = .ok (.iadd, 1) := by decide +kernel
theorem dX3_begin_68 : decode cX3_begin 68 = .ok (.iconst 0, 1) := by decide +kernel
theorem dX3_begin_69 : decode cX3_begin 69 = .ok (.iastore, 1) := by decide +kernel
theorem dX3_begin_70 : decode cX3_begin 70 = .ok (.aload_n 0, 1) := by decide +kernel
theorem dX3_begin_71 : decode cX3_begin 71 = .ok (.getfield 11, 3) := by decide +kernel
theorem dX3_begin_74 : decode cX3_begin 74 = .ok (.iload_n 2, 1) := by decide +kernel
theorem dX3_begin_75 : decode cX3_begin 75 = .ok (.iconst 4, 1) := by decide +kernel
theorem dX3_begin_76 : decode cX3_begin 76 = .ok (.iadd, 1) := by decide +kernel
theorem dX3_begin_77 : decode cX3_begin 77 = .ok (.iconst (-1), 1) := by decide +kernel
theorem dX3_begin_78 : decode cX3_begin 78 = .ok (.iastore, 1) := by decide +kernel
theorem dX3_begin_79 : decode cX3_begin 79 = .ok (.aload_n 0, 1) := by decide +kernel
theorem dX3_begin_80 : decode cX3_begin 80 = .ok (.getfield 11, 3) := by decide +kernel
theorem dX3_begin_83 : decode cX3_begin 83 = .ok (.iload_n 2, 1) := by decide +kernel
theorem dX3_begin_84 : decode cX3_begin 84 = .ok (.iconst 5, 1) := by decide +kernel
theorem dX3_begin_85 : decode cX3_begin 85 = .ok (.iadd, 1) := by decide +kernel
theorem dX3_begin_86 : decode cX3_begin 86 = .ok (.iconst 0, 1) := by decide +kernel
theorem dX3_begin_87 : decode cX3_begin 87 = .ok (.iastore, 1) := by decide +kernel
theorem dX3_begin_88 : decode cX3_begin 88 = .ok (.iinc 1 1, 3) := by decide +kernel
theorem dX3_begin_91 : decode cX3_begin 91 = .ok (.goto (-89), 3) := by decide +kernel
theorem dX3_begin_94 : decode cX3_begin 94 = .ok (.iconst 0, 1) := by decide +kernel
theorem dX3_begin_95 : decode cX3_begin 95 = .ok (.istore_n 1, 1) := by decide +kernel
theorem dX3_begin_96 : decode cX3_begin 96 = .ok (.iload_n 1, 1) := by decide +kernel
theorem dX3_begin_97 : decode cX3_begin 97 = .ok (.aload_n 0, 1) := by decide +kernel
theorem dX3_begin_98 : decode cX3_begin 98 = .ok (.getfield 18, 3) := by decide +kernel
theorem dX3_begin_101 : decode cX3_begin 101 = .ok (.getfield 42, 3) := by decide +kernel
theorem dX3_begin_104 : decode cX3_begin 104 = .ok (.if_icmp .ge 27, 3) := by decide +kernel
theorem dX3_begin_107 : decode cX3_begin 107 = .ok (.aload_n 0, 1) := by decide +kernel
theorem dX3_begin_108 : decode cX3_begin 108 = .ok (.getfield 11, 3) := by decide +kernel
theorem dX3_begin_111 : decode cX3_begin 111 = .ok (.bipush 24, 2) := by decide +kernel
theorem dX3_begin_113 : decode cX3_begin 113 = .ok (.iload_n 1, 1) := by decide +kernel
theorem dX3_begin_114 : decode cX3_begin 114 = .ok (.iadd, 1) := by decide +kernel
theorem dX3_begin_115 : decode cX3_begin 115 = .ok (.aload_n 0, 1) := by decide +kernel
theorem dX3_begin_116 : decode cX3_begin 116 = .ok (.getfield 18, 3) := by decide +kernel
theorem dX3_begin_119 : decode cX3_begin 119 = .ok (.getfield 45, 3) := by decide +kernel
theorem dX3_begin_122 : decode cX3_begin 122 = .ok (.iload_n 1, 1) := by decide +kernel
theorem dX3_begin_123 : decode cX3_begin 123 = .ok (.iaload, 1) := by decide +kernel
theorem dX3_begin_124 : decode cX3_begin 124 = .ok (.iastore, 1) := by decide +kernel
theorem dX3_begin_125 : decode cX3_begin 125 = .ok (.iinc 1 1, 3) := by decide +kernel
theorem dX3_begin_128 : decode cX3_begin 128 = .ok (.goto (-32), 3) := by decide +kernel
theorem dX3_begin_131 : decode cX3_begin 131 = .ok (.return_, 1) := by decide +kernel
theorem dX3_take_0 : decode cX3_take 0 = .ok (.aload_n 1, 1) := by decide +kernel
theorem dX3_take_1 : decode cX3_take 1 = .ok (.getfield 11, 3) := by decide +kernel
theorem dX3_take_4 : decode cX3_take 4 = .ok (.iconst 0, 1) := by decide +kernel
theorem dX3_take_5 : decode cX3_take 5 = .ok (.aload_n 0, 1) := by decide +kernel
theorem dX3_take_6 : decode cX3_take 6 = .ok (.getfield 11, 3) := by decide +kernel
theorem dX3_take_9 : decode cX3_take 9 = .ok (.iconst 0, 1) := by decide +kernel
theorem dX3_take_10 : decode cX3_take 10 = .ok (.bipush 29, 2) := by decide +kernel
theorem dX3_take_12 : decode cX3_take 12 = .ok (.invokestatic 48, 3) := by decide +kernel
theorem dX3_take_15 : decode cX3_take 15 = .ok (.return_, 1) := by decide +kernel
theorem dX3_of_0 : decode cX3_of 0 = .ok (.aload_n 0, 1) := by decide +kernel
theorem dX3_of_1 : decode cX3_of 1 = .ok (.getfield 11, 3) := by decide +kernel
theorem dX3_of_4 : decode cX3_of 4 = .ok (.iload_n 1, 1) := by decide +kernel
theorem dX3_of_5 : decode cX3_of 5 = .ok (.bipush 6, 2) := by decide +kernel
theorem dX3_of_7 : decode cX3_of 7 = .ok (.imul, 1) := by decide +kernel
theorem dX3_of_8 : decode cX3_of 8 = .ok (.iload_n 2, 1) := by decide +kernel
theorem dX3_of_9 : decode cX3_of 9 = .ok (.iadd, 1) := by decide +kernel
theorem dX3_of_10 : decode cX3_of 10 = .ok (.iaload, 1) := by decide +kernel
theorem dX3_of_11 : decode cX3_of 11 = .ok (.ireturn, 1) := by decide +kernel
theorem dX3_strokesLeft_0 : decode cX3_strokesLeft 0 = .ok (.aload_n 0, 1) := by decide +kernel
theorem dX3_strokesLeft_1 : decode cX3_strokesLeft 1 = .ok (.getfield 11, 3) := by decide +kernel
theorem dX3_strokesLeft_4 : decode cX3_strokesLeft 4 = .ok (.bipush 24, 2) := by decide +kernel
theorem dX3_strokesLeft_6 : decode cX3_strokesLeft 6 = .ok (.iload_n 1, 1) := by decide +kernel
theorem dX3_strokesLeft_7 : decode cX3_strokesLeft 7 = .ok (.iadd, 1) := by decide +kernel
theorem dX3_strokesLeft_8 : decode cX3_strokesLeft 8 = .ok (.iaload, 1) := by decide +kernel
theorem dX3_strokesLeft_9 : decode cX3_strokesLeft 9 = .ok (.ireturn, 1) := by decide +kernel
theorem dX3_silence_0 : decode cX3_silence 0 = .ok (.aload_n 0, 1) := by decide +kernel
theorem dX3_silence_1 : decode cX3_silence 1 = .ok (.getfield 11, 3) := by decide +kernel
theorem dX3_silence_4 : decode cX3_silence 4 = .ok (.bipush 24, 2) := by decide +kernel
theorem dX3_silence_6 : decode cX3_silence 6 = .ok (.iload_n 1, 1) := by decide +kernel
theorem dX3_silence_7 : decode cX3_silence 7 = .ok (.iadd, 1) := by decide +kernel
theorem dX3_silence_8 : decode cX3_silence 8 = .ok (.iconst 0, 1) := by decide +kernel
theorem dX3_silence_9 : decode cX3_silence 9 = .ok (.iastore, 1) := by decide +kernel
theorem dX3_silence_10 : decode cX3_silence 10 = .ok (.return_, 1) := by decide +kernel
theorem dX3_howMany_0 : decode cX3_howMany 0 = .ok (.iconst 0, 1) := by decide +kernel
theorem dX3_howMany_1 : decode cX3_howMany 1 = .ok (.istore_n 2, 1) := by decide +kernel
theorem dX3_howMany_2 : decode cX3_howMany 2 = .ok (.iconst 0, 1) := by decide +kernel
theorem dX3_howMany_3 : decode cX3_howMany 3 = .ok (.istore_n 3, 1) := by decide +kernel
theorem dX3_howMany_4 : decode cX3_howMany 4 = .ok (.iload_n 3, 1) := by decide +kernel
theorem dX3_howMany_5 : decode cX3_howMany 5 = .ok (.aload_n 0, 1) := by decide +kernel
theorem dX3_howMany_6 : decode cX3_howMany 6 = .ok (.getfield 18, 3) := by decide +kernel
theorem dX3_howMany_9 : decode cX3_howMany 9 = .ok (.getfield 30, 3) := by decide +kernel
theorem dX3_howMany_12 : decode cX3_howMany 12 = .ok (.if_icmp .ge 27, 3) := by decide +kernel
theorem dX3_howMany_15 : decode cX3_howMany 15 = .ok (.aload_n 0, 1) := by decide +kernel
theorem dX3_howMany_16 : decode cX3_howMany 16 = .ok (.getfield 11, 3) := by decide +kernel
theorem dX3_howMany_19 : decode cX3_howMany 19 = .ok (.iload_n 3, 1) := by decide +kernel
theorem dX3_howMany_20 : decode cX3_howMany 20 = .ok (.bipush 6, 2) := by decide +kernel
theorem dX3_howMany_22 : decode cX3_howMany 22 = .ok (.imul, 1) := by decide +kernel
theorem dX3_howMany_23 : decode cX3_howMany 23 = .ok (.iconst 3, 1) := by decide +kernel
theorem dX3_howMany_24 : decode cX3_howMany 24 = .ok (.iadd, 1) := by decide +kernel
theorem dX3_howMany_25 : decode cX3_howMany 25 = .ok (.iaload, 1) := by decide +kernel
theorem dX3_howMany_26 : decode cX3_howMany 26 = .ok (.iload_n 1, 1) := by decide +kernel
theorem dX3_howMany_27 : decode cX3_howMany 27 = .ok (.if_icmp .ne 6, 3) := by decide +kernel
theorem dX3_howMany_30 : decode cX3_howMany 30 = .ok (.iinc 2 1, 3) := by decide +kernel
theorem dX3_howMany_33 : decode cX3_howMany 33 = .ok (.iinc 3 1, 3) := by decide +kernel
theorem dX3_howMany_36 : decode cX3_howMany 36 = .ok (.goto (-32), 3) := by decide +kernel
theorem dX3_howMany_39 : decode cX3_howMany 39 = .ok (.iload_n 2, 1) := by decide +kernel
theorem dX3_howMany_40 : decode cX3_howMany 40 = .ok (.ireturn, 1) := by decide +kernel
theorem dX3_canRing_0 : decode cX3_canRing 0 = .ok (.aload_n 0, 1) := by decide +kernel
theorem dX3_canRing_1 : decode cX3_canRing 1 = .ok (.getfield 18, 3) := by decide +kernel
theorem dX3_canRing_4 : decode cX3_canRing 4 = .ok (.iload_n 1, 1) := by decide +kernel
theorem dX3_canRing_5 : decode cX3_canRing 5 = .ok (.invokevirtual 54, 3) := by decide +kernel
theorem dX3_canRing_8 : decode cX3_canRing 8 = .ok (.ifCond .ne 5, 3) := by decide +kernel
theorem dX3_canRing_11 : decode cX3_canRing 11 = .ok (.iconst 0, 1) := by decide +kernel
theorem dX3_canRing_12 : decode cX3_canRing 12 = .ok (.ireturn, 1) := by decide +kernel
theorem dX3_canRing_13 : decode cX3_canRing 13 = .ok (.iconst 0, 1) := by decide +kernel
theorem dX3_canRing_14 : decode cX3_canRing 14 = .ok (.istore_n 2, 1) := by decide +kernel
theorem dX3_canRing_15 : decode cX3_canRing 15 = .ok (.iload_n 2, 1) := by decide +kernel
theorem dX3_canRing_16 : decode cX3_canRing 16 = .ok (.aload_n 0, 1) := by decide +kernel
theorem dX3_canRing_17 : decode cX3_canRing 17 = .ok (.getfield 18, 3) := by decide +kernel
theorem dX3_canRing_20 : decode cX3_canRing 20 = .ok (.getfield 42, 3) := by decide +kernel
theorem dX3_canRing_23 : decode cX3_canRing 23 = .ok (.if_icmp .ge 33, 3) := by decide +kernel
theorem dX3_canRing_26 : decode cX3_canRing 26 = .ok (.iload_n 1, 1) := by decide +kernel
theorem dX3_canRing_27 : decode cX3_canRing 27 = .ok (.iload_n 2, 1) := by decide +kernel
theorem dX3_canRing_28 : decode cX3_canRing 28 = .ok (.ishr, 1) := by decide +kernel
theorem dX3_canRing_29 : decode cX3_canRing 29 = .ok (.iconst 1, 1) := by decide +kernel
theorem dX3_canRing_30 : decode cX3_canRing 30 = .ok (.iand, 1) := by decide +kernel
theorem dX3_canRing_31 : decode cX3_canRing 31 = .ok (.iconst 1, 1) := by decide +kernel
theorem dX3_canRing_32 : decode cX3_canRing 32 = .ok (.if_icmp .ne 18, 3) := by decide +kernel
theorem dX3_canRing_35 : decode cX3_canRing 35 = .ok (.aload_n 0, 1) := by decide +kernel
theorem dX3_canRing_36 : decode cX3_canRing 36 = .ok (.getfield 11, 3) := by decide +kernel
theorem dX3_canRing_39 : decode cX3_canRing 39 = .ok (.bipush 24, 2) := by decide +kernel
theorem dX3_canRing_41 : decode cX3_canRing 41 = .ok (.iload_n 2, 1) := by decide +kernel
theorem dX3_canRing_42 : decode cX3_canRing 42 = .ok (.iadd, 1) := by decide +kernel
theorem dX3_canRing_43 : decode cX3_canRing 43 = .ok (.iaload, 1) := by decide +kernel
theorem dX3_canRing_44 : decode cX3_canRing 44 = .ok (.iconst 1, 1) := by decide +kernel
theorem dX3_canRing_45 : decode cX3_canRing 45 = .ok (.if_icmp .ge 5, 3) := by decide +kernel
theorem dX3_canRing_48 : decode cX3_canRing 48 = .ok (.iconst 0, 1) := by decide +kernel
theorem dX3_canRing_49 : decode cX3_canRing 49 = .ok (.ireturn, 1) := by decide +kernel
theorem dX3_canRing_50 : decode cX3_canRing 50 = .ok (.iinc 2 1, 3) := by decide +kernel
theorem dX3_canRing_53 : decode cX3_canRing 53 = .ok (.goto (-38), 3) := by decide +kernel
theorem dX3_canRing_56 : decode cX3_canRing 56 = .ok (.iconst 1, 1) := by decide +kernel
theorem dX3_canRing_57 : decode cX3_canRing 57 = .ok (.ireturn, 1) := by decide +kernel
theorem dX3_falls_0 : decode cX3_falls 0 = .ok (.iload_n 1, 1) := by decide +kernel
theorem dX3_falls_1 : decode cX3_falls 1 = .ok (.bipush 6, 2) := by decide +kernel
theorem dX3_falls_3 : decode cX3_falls 3 = .ok (.imul, 1) := by decide +kernel
theorem dX3_falls_4 : decode cX3_falls 4 = .ok (.istore_n 2, 1) := by decide +kernel
theorem dX3_falls_5 : decode cX3_falls 5 = .ok (.aload_n 0, 1) := by decide +kernel
theorem dX3_falls_6 : decode cX3_falls 6 = .ok (.getfield 18, 3) := by decide +kernel
theorem dX3_falls_9 : decode cX3_falls 9 = .ok (.getfield 68, 3) := by decide +kernel
theorem dX3_falls_12 : decode cX3_falls 12 = .ok (.iload_n 1, 1) := by decide +kernel
theorem dX3_falls_13 : decode cX3_falls 13 = .ok (.iaload, 1) := by decide +kernel
theorem dX3_falls_14 : decode cX3_falls 14 = .ok (.iconst 4, 1) := by decide +kernel
theorem dX3_falls_15 : decode cX3_falls 15 = .ok (.if_icmp .ne 5, 3) := by decide +kernel
theorem dX3_falls_18 : decode cX3_falls 18 = .ok (.iconst 0, 1) := by decide +kernel
theorem dX3_falls_19 : decode cX3_falls 19 = .ok (.ireturn, 1) := by decide +kernel
theorem dX3_falls_20 : decode cX3_falls 20 = .ok (.aload_n 0, 1) := by decide +kernel
theorem dX3_falls_21 : decode cX3_falls 21 = .ok (.getfield 11, 3) := by decide +kernel
theorem dX3_falls_24 : decode cX3_falls 24 = .ok (.iload_n 2, 1) := by decide +kernel
theorem dX3_falls_25 : decode cX3_falls 25 = .ok (.iconst 1, 1) := by decide +kernel
theorem dX3_falls_26 : decode cX3_falls 26 = .ok (.iadd, 1) := by decide +kernel
theorem dX3_falls_27 : decode cX3_falls 27 = .ok (.iaload, 1) := by decide +kernel
theorem dX3_falls_28 : decode cX3_falls 28 = .ok (.ifCond .le 17, 3) := by decide +kernel
theorem dX3_falls_31 : decode cX3_falls 31 = .ok (.aload_n 0, 1) := by decide +kernel
theorem dX3_falls_32 : decode cX3_falls 32 = .ok (.getfield 11, 3) := by decide +kernel
theorem dX3_falls_35 : decode cX3_falls 35 = .ok (.iload_n 2, 1) := by decide +kernel
theorem dX3_falls_36 : decode cX3_falls 36 = .ok (.iconst 1, 1) := by decide +kernel
theorem dX3_falls_37 : decode cX3_falls 37 = .ok (.iadd, 1) := by decide +kernel
theorem dX3_falls_38 : decode cX3_falls 38 = .ok (.dup2, 1) := by decide +kernel
theorem dX3_falls_39 : decode cX3_falls 39 = .ok (.iaload, 1) := by decide +kernel
theorem dX3_falls_40 : decode cX3_falls 40 = .ok (.iconst 1, 1) := by decide +kernel
theorem dX3_falls_41 : decode cX3_falls 41 = .ok (.isub, 1) := by decide +kernel
theorem dX3_falls_42 : decode cX3_falls 42 = .ok (.iastore, 1) := by decide +kernel
theorem dX3_falls_43 : decode cX3_falls 43 = .ok (.iconst 0, 1) := by decide +kernel
theorem dX3_falls_44 : decode cX3_falls 44 = .ok (.ireturn, 1) := by decide +kernel
theorem dX3_falls_45 : decode cX3_falls 45 = .ok (.aload_n 0, 1) := by decide +kernel
theorem dX3_falls_46 : decode cX3_falls 46 = .ok (.getfield 11, 3) := by decide +kernel
theorem dX3_falls_49 : decode cX3_falls 49 = .ok (.iload_n 2, 1) := by decide +kernel
theorem dX3_falls_50 : decode cX3_falls 50 = .ok (.iconst 3, 1) := by decide +kernel
theorem dX3_falls_51 : decode cX3_falls 51 = .ok (.iadd, 1) := by decide +kernel
theorem dX3_falls_52 : decode cX3_falls 52 = .ok (.iconst 3, 1) := by decide +kernel
theorem dX3_falls_53 : decode cX3_falls 53 = .ok (.iastore, 1) := by decide +kernel
theorem dX3_falls_54 : decode cX3_falls 54 = .ok (.aload_n 0, 1) := by decide +kernel
theorem dX3_falls_55 : decode cX3_falls 55 = .ok (.getfield 11, 3) := by decide +kernel
theorem dX3_falls_58 : decode cX3_falls 58 = .ok (.iload_n 2, 1) := by decide +kernel
theorem dX3_falls_59 : decode cX3_falls 59 = .ok (.iconst 5, 1) := by decide +kernel
theorem dX3_falls_60 : decode cX3_falls 60 = .ok (.iadd, 1) := by decide +kernel
theorem dX3_falls_61 : decode cX3_falls 61 = .ok (.dup2, 1) := by decide +kernel
theorem dX3_falls_62 : decode cX3_falls 62 = .ok (.iaload, 1) := by decide +kernel
theorem dX3_falls_63 : decode cX3_falls 63 = .ok (.iconst 1, 1) := by decide +kernel
theorem dX3_falls_64 : decode cX3_falls 64 = .ok (.iadd, 1) := by decide +kernel
theorem dX3_falls_65 : decode cX3_falls 65 = .ok (.iastore, 1) := by decide +kernel
theorem dX3_falls_66 : decode cX3_falls 66 = .ok (.iconst 1, 1) := by decide +kernel
theorem dX3_falls_67 : decode cX3_falls 67 = .ok (.ireturn, 1) := by decide +kernel
theorem dX3_choose_0 : decode cX3_choose 0 = .ok (.aload_n 0, 1) := by decide +kernel
theorem dX3_choose_1 : decode cX3_choose 1 = .ok (.iload_n 1, 1) := by decide +kernel
theorem dX3_choose_2 : decode cX3_choose 2 = .ok (.iconst 0, 1) := by decide +kernel
theorem dX3_choose_3 : decode cX3_choose 3 = .ok (.invokevirtual 58, 3) := by decide +kernel
theorem dX3_choose_6 : decode cX3_choose 6 = .ok (.istore_n 3, 1) := by decide +kernel
theorem dX3_choose_7 : decode cX3_choose 7 = .ok (.aload_n 0, 1) := by decide +kernel
theorem dX3_choose_8 : decode cX3_choose 8 = .ok (.getfield 18, 3) := by decide +kernel
theorem dX3_choose_11 : decode cX3_choose 11 = .ok (.getfield 68, 3) := by decide +kernel
theorem dX3_choose_14 : decode cX3_choose 14 = .ok (.iload_n 1, 1) := by decide +kernel
theorem dX3_choose_15 : decode cX3_choose 15 = .ok (.iaload, 1) := by decide +kernel
theorem dX3_choose_16 : decode cX3_choose 16 = .ok (.istore 4, 2) := by decide +kernel
theorem dX3_choose_18 : decode cX3_choose 18 = .ok (.iload 4, 2) := by decide +kernel
theorem dX3_choose_20 : decode cX3_choose 20 = .ok (.iconst 2, 1) := by decide +kernel
theorem dX3_choose_21 : decode cX3_choose 21 = .ok (.if_icmp .ne 18, 3) := by decide +kernel
theorem dX3_choose_24 : decode cX3_choose 24 = .ok (.aload_n 0, 1) := by decide +kernel
theorem dX3_choose_25 : decode cX3_choose 25 = .ok (.getfield 22, 3) := by decide +kernel
theorem dX3_choose_28 : decode cX3_choose 28 = .ok (.iload_n 2, 1) := by decide +kernel
theorem dX3_choose_29 : decode cX3_choose 29 = .ok (.iload_n 3, 1) := by decide +kernel
theorem dX3_choose_30 : decode cX3_choose 30 = .ok (.invokevirtual 95, 3) := by decide +kernel
theorem dX3_choose_33 : decode cX3_choose 33 = .ok (.ifCond .eq 6, 3) := by decide +kernel
theorem dX3_choose_36 : decode cX3_choose 36 = .ok (.bipush (-2), 2) := by decide +kernel
theorem dX3_choose_38 : decode cX3_choose 38 = .ok (.ireturn, 1) := by decide +kernel
theorem dX3_choose_39 : decode cX3_choose 39 = .ok (.aload_n 0, 1) := by decide +kernel
theorem dX3_choose_40 : decode cX3_choose 40 = .ok (.iload_n 1, 1) := by decide +kernel
theorem dX3_choose_41 : decode cX3_choose 41 = .ok (.iconst 4, 1) := by decide +kernel
theorem dX3_choose_42 : decode cX3_choose 42 = .ok (.invokevirtual 58, 3) := by decide +kernel
theorem dX3_choose_45 : decode cX3_choose 45 = .ok (.istore 5, 2) := by decide +kernel
theorem dX3_choose_47 : decode cX3_choose 47 = .ok (.iload 4, 2) := by decide +kernel
theorem dX3_choose_49 : decode cX3_choose 49 = .ok (.iconst 1, 1) := by decide +kernel
theorem dX3_choose_50 : decode cX3_choose 50 = .ok (.if_icmp .ne 29, 3) := by decide +kernel
theorem dX3_choose_53 : decode cX3_choose 53 = .ok (.iload 5, 2) := by decide +kernel
theorem dX3_choose_55 : decode cX3_choose 55 = .ok (.ifCond .lt 24, 3) := by decide +kernel
theorem dX3_choose_58 : decode cX3_choose 58 = .ok (.aload_n 0, 1) := by decide +kernel
theorem dX3_choose_59 : decode cX3_choose 59 = .ok (.getfield 22, 3) := by decide +kernel
theorem dX3_choose_62 : decode cX3_choose 62 = .ok (.iload 5, 2) := by decide +kernel
theorem dX3_choose_64 : decode cX3_choose 64 = .ok (.iload_n 2, 1) := by decide +kernel
theorem dX3_choose_65 : decode cX3_choose 65 = .ok (.iload_n 3, 1) := by decide +kernel
theorem dX3_choose_66 : decode cX3_choose 66 = .ok (.invokevirtual 100, 3) := by decide +kernel
theorem dX3_choose_69 : decode cX3_choose 69 = .ok (.istore 6, 2) := by decide +kernel
theorem dX3_choose_71 : decode cX3_choose 71 = .ok (.iload 6, 2) := by decide +kernel
theorem dX3_choose_73 : decode cX3_choose 73 = .ok (.ifCond .lt 6, 3) := by decide +kernel
theorem dX3_choose_76 : decode cX3_choose 76 = .ok (.iload 6, 2) := by decide +kernel
theorem dX3_choose_78 : decode cX3_choose 78 = .ok (.ireturn, 1) := by decide +kernel
theorem dX3_choose_79 : decode cX3_choose 79 = .ok (.aload_n 0, 1) := by decide +kernel
theorem dX3_choose_80 : decode cX3_choose 80 = .ok (.getfield 22, 3) := by decide +kernel
theorem dX3_choose_83 : decode cX3_choose 83 = .ok (.iload_n 2, 1) := by decide +kernel
theorem dX3_choose_84 : decode cX3_choose 84 = .ok (.iload_n 3, 1) := by decide +kernel
theorem dX3_choose_85 : decode cX3_choose 85 = .ok (.invokevirtual 103, 3) := by decide +kernel
theorem dX3_choose_88 : decode cX3_choose 88 = .ok (.ireturn, 1) := by decide +kernel
theorem dX3_go_0 : decode cX3_go 0 = .ok (.iload_n 1, 1) := by decide +kernel
theorem dX3_go_1 : decode cX3_go 1 = .ok (.bipush 6, 2) := by decide +kernel
theorem dX3_go_3 : decode cX3_go 3 = .ok (.imul, 1) := by decide +kernel
theorem dX3_go_4 : decode cX3_go 4 = .ok (.istore_n 3, 1) := by decide +kernel
theorem dX3_go_5 : decode cX3_go 5 = .ok (.aload_n 0, 1) := by decide +kernel
theorem dX3_go_6 : decode cX3_go 6 = .ok (.getfield 18, 3) := by decide +kernel
theorem dX3_go_9 : decode cX3_go 9 = .ok (.getfield 68, 3) := by decide +kernel
theorem dX3_go_12 : decode cX3_go 12 = .ok (.iload_n 1, 1) := by decide +kernel
theorem dX3_go_13 : decode cX3_go 13 = .ok (.iaload, 1) := by decide +kernel
theorem dX3_go_14 : decode cX3_go 14 = .ok (.iconst 3, 1) := by decide +kernel
theorem dX3_go_15 : decode cX3_go 15 = .ok (.if_icmp .ne 20, 3) := by decide +kernel
theorem dX3_go_18 : decode cX3_go 18 = .ok (.aload_n 0, 1) := by decide +kernel
theorem dX3_go_19 : decode cX3_go 19 = .ok (.getfield 11, 3) := by decide +kernel
theorem dX3_go_22 : decode cX3_go 22 = .ok (.iload_n 3, 1) := by decide +kernel
theorem dX3_go_23 : decode cX3_go 23 = .ok (.iconst 5, 1) := by decide +kernel
theorem dX3_go_24 : decode cX3_go 24 = .ok (.iadd, 1) := by decide +kernel
theorem dX3_go_25 : decode cX3_go 25 = .ok (.iaload, 1) := by decide +kernel
theorem dX3_go_26 : decode cX3_go 26 = .ok (.iconst 2, 1) := by decide +kernel
theorem dX3_go_27 : decode cX3_go 27 = .ok (.irem, 1) := by decide +kernel
theorem dX3_go_28 : decode cX3_go 28 = .ok (.ifCond .ne 7, 3) := by decide +kernel
theorem dX3_go_31 : decode cX3_go 31 = .ok (.iconst 1, 1) := by decide +kernel
theorem dX3_go_32 : decode cX3_go 32 = .ok (.goto 4, 3) := by decide +kernel
theorem dX3_go_35 : decode cX3_go 35 = .ok (.iconst 0, 1) := by decide +kernel
theorem dX3_go_36 : decode cX3_go 36 = .ok (.istore 4, 2) := by decide +kernel
theorem dX3_go_38 : decode cX3_go 38 = .ok (.aload_n 0, 1) := by decide +kernel
theorem dX3_go_39 : decode cX3_go 39 = .ok (.getfield 11, 3) := by decide +kernel
theorem dX3_go_42 : decode cX3_go 42 = .ok (.iload_n 3, 1) := by decide +kernel
theorem dX3_go_43 : decode cX3_go 43 = .ok (.iconst 5, 1) := by decide +kernel
theorem dX3_go_44 : decode cX3_go 44 = .ok (.iadd, 1) := by decide +kernel
theorem dX3_go_45 : decode cX3_go 45 = .ok (.dup2, 1) := by decide +kernel
theorem dX3_go_46 : decode cX3_go 46 = .ok (.iaload, 1) := by decide +kernel
theorem dX3_go_47 : decode cX3_go 47 = .ok (.iconst 1, 1) := by decide +kernel
theorem dX3_go_48 : decode cX3_go 48 = .ok (.iadd, 1) := by decide +kernel
theorem dX3_go_49 : decode cX3_go 49 = .ok (.iastore, 1) := by decide +kernel
theorem dX3_go_50 : decode cX3_go 50 = .ok (.iload 4, 2) := by decide +kernel
theorem dX3_go_52 : decode cX3_go 52 = .ok (.ifCond .eq 6, 3) := by decide +kernel
theorem dX3_go_55 : decode cX3_go 55 = .ok (.bipush (-3), 2) := by decide +kernel
theorem dX3_go_57 : decode cX3_go 57 = .ok (.ireturn, 1) := by decide +kernel
theorem dX3_go_58 : decode cX3_go 58 = .ok (.aload_n 0, 1) := by decide +kernel
theorem dX3_go_59 : decode cX3_go 59 = .ok (.iload_n 1, 1) := by decide +kernel
theorem dX3_go_60 : decode cX3_go 60 = .ok (.iload_n 2, 1) := by decide +kernel
theorem dX3_go_61 : decode cX3_go 61 = .ok (.invokevirtual 71, 3) := by decide +kernel
theorem dX3_go_64 : decode cX3_go 64 = .ok (.istore 5, 2) := by decide +kernel
theorem dX3_go_66 : decode cX3_go 66 = .ok (.iload 5, 2) := by decide +kernel
theorem dX3_go_68 : decode cX3_go 68 = .ok (.bipush (-2), 2) := by decide +kernel
theorem dX3_go_70 : decode cX3_go 70 = .ok (.if_icmp .ne 6, 3) := by decide +kernel
theorem dX3_go_73 : decode cX3_go 73 = .ok (.bipush (-2), 2) := by decide +kernel
theorem dX3_go_75 : decode cX3_go 75 = .ok (.ireturn, 1) := by decide +kernel
theorem dX3_go_76 : decode cX3_go 76 = .ok (.aload_n 0, 1) := by decide +kernel
theorem dX3_go_77 : decode cX3_go 77 = .ok (.getfield 26, 3) := by decide +kernel
theorem dX3_go_80 : decode cX3_go 80 = .ok (.aload_n 0, 1) := by decide +kernel
theorem dX3_go_81 : decode cX3_go 81 = .ok (.getfield 11, 3) := by decide +kernel
theorem dX3_go_84 : decode cX3_go 84 = .ok (.iload_n 3, 1) := by decide +kernel
theorem dX3_go_85 : decode cX3_go 85 = .ok (.iconst 0, 1) := by decide +kernel
theorem dX3_go_86 : decode cX3_go 86 = .ok (.iadd, 1) := by decide +kernel
theorem dX3_go_87 : decode cX3_go 87 = .ok (.iaload, 1) := by decide +kernel
theorem dX3_go_88 : decode cX3_go 88 = .ok (.aload_n 0, 1) := by decide +kernel
theorem dX3_go_89 : decode cX3_go 89 = .ok (.getfield 11, 3) := by decide +kernel
theorem dX3_go_92 : decode cX3_go 92 = .ok (.iload_n 3, 1) := by decide +kernel
theorem dX3_go_93 : decode cX3_go 93 = .ok (.iconst 2, 1) := by decide +kernel
theorem dX3_go_94 : decode cX3_go 94 = .ok (.iadd, 1) := by decide +kernel
theorem dX3_go_95 : decode cX3_go 95 = .ok (.iaload, 1) := by decide +kernel
theorem dX3_go_96 : decode cX3_go 96 = .ok (.iload 5, 2) := by decide +kernel
theorem dX3_go_98 : decode cX3_go 98 = .ok (.invokevirtual 74, 3) := by decide +kernel
theorem dX3_go_101 : decode cX3_go 101 = .ok (.istore 6, 2) := by decide +kernel
theorem dX3_go_103 : decode cX3_go 103 = .ok (.aload_n 0, 1) := by decide +kernel
theorem dX3_go_104 : decode cX3_go 104 = .ok (.getfield 11, 3) := by decide +kernel
theorem dX3_go_107 : decode cX3_go 107 = .ok (.iload_n 3, 1) := by decide +kernel
theorem dX3_go_108 : decode cX3_go 108 = .ok (.iconst 0, 1) := by decide +kernel
theorem dX3_go_109 : decode cX3_go 109 = .ok (.iadd, 1) := by decide +kernel
theorem dX3_go_110 : decode cX3_go 110 = .ok (.iload 6, 2) := by decide +kernel
theorem dX3_go_112 : decode cX3_go 112 = .ok (.invokestatic 80, 3) := by decide +kernel
theorem dX3_go_115 : decode cX3_go 115 = .ok (.iastore, 1) := by decide +kernel
theorem dX3_go_116 : decode cX3_go 116 = .ok (.aload_n 0, 1) := by decide +kernel
theorem dX3_go_117 : decode cX3_go 117 = .ok (.getfield 11, 3) := by decide +kernel
theorem dX3_go_120 : decode cX3_go 120 = .ok (.iload_n 3, 1) := by decide +kernel
theorem dX3_go_121 : decode cX3_go 121 = .ok (.iconst 2, 1) := by decide +kernel
theorem dX3_go_122 : decode cX3_go 122 = .ok (.iadd, 1) := by decide +kernel
theorem dX3_go_123 : decode cX3_go 123 = .ok (.iload 6, 2) := by decide +kernel
theorem dX3_go_125 : decode cX3_go 125 = .ok (.invokestatic 84, 3) := by decide +kernel
theorem dX3_go_128 : decode cX3_go 128 = .ok (.iastore, 1) := by decide +kernel
theorem dX3_go_129 : decode cX3_go 129 = .ok (.iload 5, 2) := by decide +kernel
theorem dX3_go_131 : decode cX3_go 131 = .ok (.ifCond .ge 6, 3) := by decide +kernel
theorem dX3_go_134 : decode cX3_go 134 = .ok (.bipush (-2), 2) := by decide +kernel
theorem dX3_go_136 : decode cX3_go 136 = .ok (.ireturn, 1) := by decide +kernel
theorem dX3_go_137 : decode cX3_go 137 = .ok (.aload_n 0, 1) := by decide +kernel
theorem dX3_go_138 : decode cX3_go 138 = .ok (.getfield 11, 3) := by decide +kernel
theorem dX3_go_141 : decode cX3_go 141 = .ok (.iload_n 3, 1) := by decide +kernel
theorem dX3_go_142 : decode cX3_go 142 = .ok (.iconst 4, 1) := by decide +kernel
theorem dX3_go_143 : decode cX3_go 143 = .ok (.iadd, 1) := by decide +kernel
theorem dX3_go_144 : decode cX3_go 144 = .ok (.iload 5, 2) := by decide +kernel
theorem dX3_go_146 : decode cX3_go 146 = .ok (.iastore, 1) := by decide +kernel
theorem dX3_go_147 : decode cX3_go 147 = .ok (.aload_n 0, 1) := by decide +kernel
theorem dX3_go_148 : decode cX3_go 148 = .ok (.getfield 26, 3) := by decide +kernel
theorem dX3_go_151 : decode cX3_go 151 = .ok (.aload_n 0, 1) := by decide +kernel
theorem dX3_go_152 : decode cX3_go 152 = .ok (.getfield 11, 3) := by decide +kernel
theorem dX3_go_155 : decode cX3_go 155 = .ok (.iload_n 3, 1) := by decide +kernel
theorem dX3_go_156 : decode cX3_go 156 = .ok (.iconst 0, 1) := by decide +kernel
theorem dX3_go_157 : decode cX3_go 157 = .ok (.iadd, 1) := by decide +kernel
theorem dX3_go_158 : decode cX3_go 158 = .ok (.iaload, 1) := by decide +kernel
theorem dX3_go_159 : decode cX3_go 159 = .ok (.iload 5, 2) := by decide +kernel
theorem dX3_go_161 : decode cX3_go 161 = .ok (.invokevirtual 87, 3) := by decide +kernel
theorem dX3_go_164 : decode cX3_go 164 = .ok (.ifCond .eq 29, 3) := by decide +kernel
theorem dX3_go_167 : decode cX3_go 167 = .ok (.aload_n 0, 1) := by decide +kernel
theorem dX3_go_168 : decode cX3_go 168 = .ok (.getfield 11, 3) := by decide +kernel
theorem dX3_go_171 : decode cX3_go 171 = .ok (.iload_n 3, 1) := by decide +kernel
theorem dX3_go_172 : decode cX3_go 172 = .ok (.iconst 3, 1) := by decide +kernel
theorem dX3_go_173 : decode cX3_go 173 = .ok (.iadd, 1) := by decide +kernel
theorem dX3_go_174 : decode cX3_go 174 = .ok (.aload_n 0, 1) := by decide +kernel
theorem dX3_go_175 : decode cX3_go 175 = .ok (.getfield 18, 3) := by decide +kernel
theorem dX3_go_178 : decode cX3_go 178 = .ok (.getfield 91, 3) := by decide +kernel
theorem dX3_go_181 : decode cX3_go 181 = .ok (.iload 5, 2) := by decide +kernel
theorem dX3_go_183 : decode cX3_go 183 = .ok (.baload, 1) := by decide +kernel
theorem dX3_go_184 : decode cX3_go 184 = .ok (.ifCond .eq 7, 3) := by decide +kernel
theorem dX3_go_187 : decode cX3_go 187 = .ok (.iconst 2, 1) := by decide +kernel
theorem dX3_go_188 : decode cX3_go 188 = .ok (.goto 4, 3) := by decide +kernel
theorem dX3_go_191 : decode cX3_go 191 = .ok (.iconst 1, 1) := by decide +kernel
theorem dX3_go_192 : decode cX3_go 192 = .ok (.iastore, 1) := by decide +kernel
theorem dX3_go_193 : decode cX3_go 193 = .ok (.iload 5, 2) := by decide +kernel
theorem dX3_go_195 : decode cX3_go 195 = .ok (.ireturn, 1) := by decide +kernel
theorem dX3_hear_0 : decode cX3_hear 0 = .ok (.iconst 0, 1) := by decide +kernel
theorem dX3_hear_1 : decode cX3_hear 1 = .ok (.istore_n 2, 1) := by decide +kernel
theorem dX3_hear_2 : decode cX3_hear 2 = .ok (.iload_n 2, 1) := by decide +kernel
theorem dX3_hear_3 : decode cX3_hear 3 = .ok (.aload_n 0, 1) := by decide +kernel
theorem dX3_hear_4 : decode cX3_hear 4 = .ok (.getfield 18, 3) := by decide +kernel
theorem dX3_hear_7 : decode cX3_hear 7 = .ok (.getfield 42, 3) := by decide +kernel
theorem dX3_hear_10 : decode cX3_hear 10 = .ok (.if_icmp .ge 26, 3) := by decide +kernel
theorem dX3_hear_13 : decode cX3_hear 13 = .ok (.aload_n 0, 1) := by decide +kernel
theorem dX3_hear_14 : decode cX3_hear 14 = .ok (.getfield 11, 3) := by decide +kernel
theorem dX3_hear_17 : decode cX3_hear 17 = .ok (.bipush 24, 2) := by decide +kernel
theorem dX3_hear_19 : decode cX3_hear 19 = .ok (.iload_n 2, 1) := by decide +kernel
theorem dX3_hear_20 : decode cX3_hear 20 = .ok (.iadd, 1) := by decide +kernel
theorem dX3_hear_21 : decode cX3_hear 21 = .ok (.dup2, 1) := by decide +kernel
theorem dX3_hear_22 : decode cX3_hear 22 = .ok (.iaload, 1) := by decide +kernel
theorem dX3_hear_23 : decode cX3_hear 23 = .ok (.iload_n 1, 1) := by decide +kernel
theorem dX3_hear_24 : decode cX3_hear 24 = .ok (.iload_n 2, 1) := by decide +kernel
theorem dX3_hear_25 : decode cX3_hear 25 = .ok (.ishr, 1) := by decide +kernel
theorem dX3_hear_26 : decode cX3_hear 26 = .ok (.iconst 1, 1) := by decide +kernel
theorem dX3_hear_27 : decode cX3_hear 27 = .ok (.iand, 1) := by decide +kernel
theorem dX3_hear_28 : decode cX3_hear 28 = .ok (.isub, 1) := by decide +kernel
theorem dX3_hear_29 : decode cX3_hear 29 = .ok (.iastore, 1) := by decide +kernel
theorem dX3_hear_30 : decode cX3_hear 30 = .ok (.iinc 2 1, 3) := by decide +kernel
theorem dX3_hear_33 : decode cX3_hear 33 = .ok (.goto (-31), 3) := by decide +kernel
theorem dX3_hear_36 : decode cX3_hear 36 = .ok (.iconst 0, 1) := by decide +kernel
theorem dX3_hear_37 : decode cX3_hear 37 = .ok (.istore_n 2, 1) := by decide +kernel
theorem dX3_hear_38 : decode cX3_hear 38 = .ok (.iload_n 2, 1) := by decide +kernel
theorem dX3_hear_39 : decode cX3_hear 39 = .ok (.aload_n 0, 1) := by decide +kernel
theorem dX3_hear_40 : decode cX3_hear 40 = .ok (.getfield 18, 3) := by decide +kernel
theorem dX3_hear_43 : decode cX3_hear 43 = .ok (.getfield 30, 3) := by decide +kernel
theorem dX3_hear_46 : decode cX3_hear 46 = .ok (.if_icmp .ge 53, 3) := by decide +kernel
theorem dX3_hear_49 : decode cX3_hear 49 = .ok (.aload_n 0, 1) := by decide +kernel
theorem dX3_hear_50 : decode cX3_hear 50 = .ok (.iload_n 2, 1) := by decide +kernel
theorem dX3_hear_51 : decode cX3_hear 51 = .ok (.iconst 3, 1) := by decide +kernel
theorem dX3_hear_52 : decode cX3_hear 52 = .ok (.invokevirtual 58, 3) := by decide +kernel
theorem dX3_hear_55 : decode cX3_hear 55 = .ok (.ifCond .ne 15, 3) := by decide +kernel
theorem dX3_hear_58 : decode cX3_hear 58 = .ok (.aload_n 0, 1) := by decide +kernel
theorem dX3_hear_59 : decode cX3_hear 59 = .ok (.iload_n 2, 1) := by decide +kernel
theorem dX3_hear_60 : decode cX3_hear 60 = .ok (.invokevirtual 62, 3) := by decide +kernel
theorem dX3_hear_63 : decode cX3_hear 63 = .ok (.ifCond .ne 7, 3) := by decide +kernel
theorem dX3_hear_66 : decode cX3_hear 66 = .ok (.iconst 1, 1) := by decide +kernel
theorem dX3_hear_67 : decode cX3_hear 67 = .ok (.goto 4, 3) := by decide +kernel
theorem dX3_hear_70 : decode cX3_hear 70 = .ok (.iconst 0, 1) := by decide +kernel
theorem dX3_hear_71 : decode cX3_hear 71 = .ok (.istore_n 3, 1) := by decide +kernel
theorem dX3_hear_72 : decode cX3_hear 72 = .ok (.aload_n 0, 1) := by decide +kernel
theorem dX3_hear_73 : decode cX3_hear 73 = .ok (.getfield 15, 3) := by decide +kernel
theorem dX3_hear_76 : decode cX3_hear 76 = .ok (.iload_n 2, 1) := by decide +kernel
theorem dX3_hear_77 : decode cX3_hear 77 = .ok (.iload_n 3, 1) := by decide +kernel
theorem dX3_hear_78 : decode cX3_hear 78 = .ok (.ifCond .eq 12, 3) := by decide +kernel
theorem dX3_hear_81 : decode cX3_hear 81 = .ok (.aload_n 0, 1) := by decide +kernel
theorem dX3_hear_82 : decode cX3_hear 82 = .ok (.iload_n 2, 1) := by decide +kernel
theorem dX3_hear_83 : decode cX3_hear 83 = .ok (.iload_n 1, 1) := by decide +kernel
theorem dX3_hear_84 : decode cX3_hear 84 = .ok (.invokevirtual 65, 3) := by decide +kernel
theorem dX3_hear_87 : decode cX3_hear 87 = .ok (.goto 5, 3) := by decide +kernel
theorem dX3_hear_90 : decode cX3_hear 90 = .ok (.bipush (-3), 2) := by decide +kernel
theorem dX3_hear_92 : decode cX3_hear 92 = .ok (.iastore, 1) := by decide +kernel
theorem dX3_hear_93 : decode cX3_hear 93 = .ok (.iinc 2 1, 3) := by decide +kernel
theorem dX3_hear_96 : decode cX3_hear 96 = .ok (.goto (-58), 3) := by decide +kernel
theorem dX3_hear_99 : decode cX3_hear 99 = .ok (.return_, 1) := by decide +kernel
theorem dX3_likeness_0 : decode cX3_likeness 0 = .ok (.aload_n 0, 1) := by decide +kernel
theorem dX3_likeness_1 : decode cX3_likeness 1 = .ok (.iload_n 1, 1) := by decide +kernel
theorem dX3_likeness_2 : decode cX3_likeness 2 = .ok (.iconst 0, 1) := by decide +kernel
theorem dX3_likeness_3 : decode cX3_likeness 3 = .ok (.invokevirtual 58, 3) := by decide +kernel
theorem dX3_likeness_6 : decode cX3_likeness 6 = .ok (.iconst 4, 1) := by decide +kernel
theorem dX3_likeness_7 : decode cX3_likeness 7 = .ok (.imul, 1) := by decide +kernel
theorem dX3_likeness_8 : decode cX3_likeness 8 = .ok (.aload_n 0, 1) := by decide +kernel
theorem dX3_likeness_9 : decode cX3_likeness 9 = .ok (.iload_n 1, 1) := by decide +kernel
theorem dX3_likeness_10 : decode cX3_likeness 10 = .ok (.iconst 2, 1) := by decide +kernel
theorem dX3_likeness_11 : decode cX3_likeness 11 = .ok (.invokevirtual 58, 3) := by decide +kernel
theorem dX3_likeness_14 : decode cX3_likeness 14 = .ok (.iadd, 1) := by decide +kernel
theorem dX3_likeness_15 : decode cX3_likeness 15 = .ok (.istore_n 2, 1) := by decide +kernel
theorem dX3_likeness_16 : decode cX3_likeness 16 = .ok (.aload_n 0, 1) := by decide +kernel
theorem dX3_likeness_17 : decode cX3_likeness 17 = .ok (.getfield 18, 3) := by decide +kernel
theorem dX3_likeness_20 : decode cX3_likeness 20 = .ok (.getfield 68, 3) := by decide +kernel
theorem dX3_likeness_23 : decode cX3_likeness 23 = .ok (.iload_n 1, 1) := by decide +kernel
theorem dX3_likeness_24 : decode cX3_likeness 24 = .ok (.iaload, 1) := by decide +kernel
theorem dX3_likeness_25 : decode cX3_likeness 25 = .ok (.iconst 3, 1) := by decide +kernel
theorem dX3_likeness_26 : decode cX3_likeness 26 = .ok (.if_icmp .ne 14, 3) := by decide +kernel
theorem dX3_likeness_29 : decode cX3_likeness 29 = .ok (.aload_n 0, 1) := by decide +kernel
theorem dX3_likeness_30 : decode cX3_likeness 30 = .ok (.iload_n 1, 1) := by decide +kernel
theorem dX3_likeness_31 : decode cX3_likeness 31 = .ok (.iconst 5, 1) := by decide +kernel
theorem dX3_likeness_32 : decode cX3_likeness 32 = .ok (.invokevirtual 58, 3) := by decide +kernel
theorem dX3_likeness_35 : decode cX3_likeness 35 = .ok (.iconst 2, 1) := by decide +kernel
theorem dX3_likeness_36 : decode cX3_likeness 36 = .ok (.irem, 1) := by decide +kernel
theorem dX3_likeness_37 : decode cX3_likeness 37 = .ok (.goto 4, 3) := by decide +kernel
theorem dX3_likeness_40 : decode cX3_likeness 40 = .ok (.iconst 0, 1) := by decide +kernel
theorem dX3_likeness_41 : decode cX3_likeness 41 = .ok (.istore_n 3, 1) := by decide +kernel
theorem dX3_likeness_42 : decode cX3_likeness 42 = .ok (.iload_n 2, 1) := by decide +kernel
theorem dX3_likeness_43 : decode cX3_likeness 43 = .ok (.bipush 6, 2) := by decide +kernel
theorem dX3_likeness_45 : decode cX3_likeness 45 = .ok (.imul, 1) := by decide +kernel
theorem dX3_likeness_46 : decode cX3_likeness 46 = .ok (.aload_n 0, 1) := by decide +kernel
theorem dX3_likeness_47 : decode cX3_likeness 47 = .ok (.iload_n 1, 1) := by decide +kernel
theorem dX3_likeness_48 : decode cX3_likeness 48 = .ok (.iconst 4, 1) := by decide +kernel
theorem dX3_likeness_49 : decode cX3_likeness 49 = .ok (.invokevirtual 58, 3) := by decide +kernel
theorem dX3_likeness_52 : decode cX3_likeness 52 = .ok (.iadd, 1) := by decide +kernel
theorem dX3_likeness_53 : decode cX3_likeness 53 = .ok (.iconst 1, 1) := by decide +kernel
theorem dX3_likeness_54 : decode cX3_likeness 54 = .ok (.iadd, 1) := by decide +kernel
theorem dX3_likeness_55 : decode cX3_likeness 55 = .ok (.iconst 2, 1) := by decide +kernel
theorem dX3_likeness_56 : decode cX3_likeness 56 = .ok (.imul, 1) := by decide +kernel
theorem dX3_likeness_57 : decode cX3_likeness 57 = .ok (.iload_n 3, 1) := by decide +kernel
theorem dX3_likeness_58 : decode cX3_likeness 58 = .ok (.iadd, 1) := by decide +kernel
theorem dX3_likeness_59 : decode cX3_likeness 59 = .ok (.ireturn, 1) := by decide +kernel
theorem dX3_endOf_0 : decode cX3_endOf 0 = .ok (.aload_n 0, 1) := by decide +kernel
theorem dX3_endOf_1 : decode cX3_endOf 1 = .ok (.iload_n 1, 1) := by decide +kernel
theorem dX3_endOf_2 : decode cX3_endOf 2 = .ok (.invokevirtual 106, 3) := by decide +kernel
theorem dX3_endOf_5 : decode cX3_endOf 5 = .ok (.istore 4, 2) := by decide +kernel
theorem dX3_endOf_7 : decode cX3_endOf 7 = .ok (.iconst 0, 1) := by decide +kernel
theorem dX3_endOf_8 : decode cX3_endOf 8 = .ok (.istore 5, 2) := by decide +kernel
theorem dX3_endOf_10 : decode cX3_endOf 10 = .ok (.iconst 1, 1) := by decide +kernel
theorem dX3_endOf_11 : decode cX3_endOf 11 = .ok (.istore 6, 2) := by decide +kernel
theorem dX3_endOf_13 : decode cX3_endOf 13 = .ok (.iconst 1, 1) := by decide +kernel
theorem dX3_endOf_14 : decode cX3_endOf 14 = .ok (.istore 7, 2) := by decide +kernel
theorem dX3_endOf_16 : decode cX3_endOf 16 = .ok (.iload 7, 2) := by decide +kernel
theorem dX3_endOf_18 : decode cX3_endOf 18 = .ok (.ldc 109, 2) := by decide +kernel
theorem dX3_endOf_20 : decode cX3_endOf 20 = .ok (.if_icmp .gt 88, 3) := by decide +kernel
theorem dX3_endOf_23 : decode cX3_endOf 23 = .ok (.aload_n 0, 1) := by decide +kernel
theorem dX3_endOf_24 : decode cX3_endOf 24 = .ok (.iload_n 1, 1) := by decide +kernel
theorem dX3_endOf_25 : decode cX3_endOf 25 = .ok (.iload_n 2, 1) := by decide +kernel
theorem dX3_endOf_26 : decode cX3_endOf 26 = .ok (.invokevirtual 65, 3) := by decide +kernel
theorem dX3_endOf_29 : decode cX3_endOf 29 = .ok (.pop, 1) := by decide +kernel
theorem dX3_endOf_30 : decode cX3_endOf 30 = .ok (.iinc 5 1, 3) := by decide +kernel
theorem dX3_endOf_33 : decode cX3_endOf 33 = .ok (.aload_n 0, 1) := by decide +kernel
theorem dX3_endOf_34 : decode cX3_endOf 34 = .ok (.iload_n 1, 1) := by decide +kernel
theorem dX3_endOf_35 : decode cX3_endOf 35 = .ok (.iconst 3, 1) := by decide +kernel
theorem dX3_endOf_36 : decode cX3_endOf 36 = .ok (.invokevirtual 58, 3) := by decide +kernel
theorem dX3_endOf_39 : decode cX3_endOf 39 = .ok (.istore 8, 2) := by decide +kernel
theorem dX3_endOf_41 : decode cX3_endOf 41 = .ok (.iload 8, 2) := by decide +kernel
theorem dX3_endOf_43 : decode cX3_endOf 43 = .ok (.ifCond .eq 15, 3) := by decide +kernel
theorem dX3_endOf_46 : decode cX3_endOf 46 = .ok (.iload_n 3, 1) := by decide +kernel
theorem dX3_endOf_47 : decode cX3_endOf 47 = .ok (.ifCond .ne 8, 3) := by decide +kernel
theorem dX3_endOf_50 : decode cX3_endOf 50 = .ok (.iload 8, 2) := by decide +kernel
theorem dX3_endOf_52 : decode cX3_endOf 52 = .ok (.goto 5, 3) := by decide +kernel
theorem dX3_endOf_55 : decode cX3_endOf 55 = .ok (.iload 7, 2) := by decide +kernel
theorem dX3_endOf_57 : decode cX3_endOf 57 = .ok (.ireturn, 1) := by decide +kernel
theorem dX3_endOf_58 : decode cX3_endOf 58 = .ok (.aload_n 0, 1) := by decide +kernel
theorem dX3_endOf_59 : decode cX3_endOf 59 = .ok (.iload_n 1, 1) := by decide +kernel
theorem dX3_endOf_60 : decode cX3_endOf 60 = .ok (.invokevirtual 106, 3) := by decide +kernel
theorem dX3_endOf_63 : decode cX3_endOf 63 = .ok (.iload 4, 2) := by decide +kernel
theorem dX3_endOf_65 : decode cX3_endOf 65 = .ok (.if_icmp .ne 14, 3) := by decide +kernel
theorem dX3_endOf_68 : decode cX3_endOf 68 = .ok (.iload_n 3, 1) := by decide +kernel
theorem dX3_endOf_69 : decode cX3_endOf 69 = .ok (.ifCond .ne 7, 3) := by decide +kernel
theorem dX3_endOf_72 : decode cX3_endOf 72 = .ok (.iconst 3, 1) := by decide +kernel
theorem dX3_endOf_73 : decode cX3_endOf 73 = .ok (.goto 5, 3) := by decide +kernel
theorem dX3_endOf_76 : decode cX3_endOf 76 = .ok (.iload 5, 2) := by decide +kernel
theorem dX3_endOf_78 : decode cX3_endOf 78 = .ok (.ireturn, 1) := by decide +kernel
theorem dX3_endOf_79 : decode cX3_endOf 79 = .ok (.iload 5, 2) := by decide +kernel
theorem dX3_endOf_81 : decode cX3_endOf 81 = .ok (.iload 6, 2) := by decide +kernel
theorem dX3_endOf_83 : decode cX3_endOf 83 = .ok (.if_icmp .ne 19, 3) := by decide +kernel
theorem dX3_endOf_86 : decode cX3_endOf 86 = .ok (.aload_n 0, 1) := by decide +kernel
theorem dX3_endOf_87 : decode cX3_endOf 87 = .ok (.iload_n 1, 1) := by decide +kernel
theorem dX3_endOf_88 : decode cX3_endOf 88 = .ok (.invokevirtual 106, 3) := by decide +kernel
theorem dX3_endOf_91 : decode cX3_endOf 91 = .ok (.istore 4, 2) := by decide +kernel
theorem dX3_endOf_93 : decode cX3_endOf 93 = .ok (.iconst 0, 1) := by decide +kernel
theorem dX3_endOf_94 : decode cX3_endOf 94 = .ok (.istore 5, 2) := by decide +kernel
theorem dX3_endOf_96 : decode cX3_endOf 96 = .ok (.iload 6, 2) := by decide +kernel
theorem dX3_endOf_98 : decode cX3_endOf 98 = .ok (.iconst 2, 1) := by decide +kernel
theorem dX3_endOf_99 : decode cX3_endOf 99 = .ok (.imul, 1) := by decide +kernel
theorem dX3_endOf_100 : decode cX3_endOf 100 = .ok (.istore 6, 2) := by decide +kernel
theorem dX3_endOf_102 : decode cX3_endOf 102 = .ok (.iinc 7 1, 3) := by decide +kernel
theorem dX3_endOf_105 : decode cX3_endOf 105 = .ok (.goto (-89), 3) := by decide +kernel
theorem dX3_endOf_108 : decode cX3_endOf 108 = .ok (.iconst (-1), 1) := by decide +kernel
theorem dX3_endOf_109 : decode cX3_endOf 109 = .ok (.ireturn, 1) := by decide +kernel
def wpX3_begin_L2 (sG : AR) (G_strokes : AR) (G_home : AR) (G_water : AR) (kx94 : AR → Int32 → Prop) (post : AR → Prop) : Nat → AR → Int32 → Prop
  | 0, _, _ => False
  | nf2 + 1, F_all, l1 => (((sG 3) ≤ l1 → kx94 F_all l1) ∧ (¬ (sG 3) ≤ l1 → ∀ l2_17 : Int32, l2_17 = (l1 * (6 : Int32)) → vp_in l1 4 ∧ vp_in (l2_17 + (0 : Int32)) 29 ∧ ∀ F_all_34 : AR, F_all_34 = upd F_all (l2_17 + (0 : Int32)).toNatClampNeg (G_home l1.toNatClampNeg) → vp_in l1 4 ∧ vp_in (l2_17 + (1 : Int32)) 29 ∧ ∀ F_all_51 : AR, F_all_51 = upd F_all_34 (l2_17 + (1 : Int32)).toNatClampNeg (G_water l1.toNatClampNeg) → vp_in (l2_17 + (2 : Int32)) 29 ∧ ∀ F_all_60 : AR, F_all_60 = upd F_all_51 (l2_17 + (2 : Int32)).toNatClampNeg (0 : Int32) → vp_in (l2_17 + (3 : Int32)) 29 ∧ ∀ F_all_69 : AR, F_all_69 = upd F_all_60 (l2_17 + (3 : Int32)).toNatClampNeg (0 : Int32) → vp_in (l2_17 + (4 : Int32)) 29 ∧ ∀ F_all_78 : AR, F_all_78 = upd F_all_69 (l2_17 + (4 : Int32)).toNatClampNeg (-1 : Int32) → vp_in (l2_17 + (5 : Int32)) 29 ∧ ∀ F_all_87 : AR, F_all_87 = upd F_all_78 (l2_17 + (5 : Int32)).toNatClampNeg (0 : Int32) → ∀ l1_88 : Int32, l1_88 = (l1 + (1 : Int32)) → wpX3_begin_L2 sG G_strokes G_home G_water kx94 post nf2 F_all_87 l1_88))
def wpX3_begin_L96 (sG : AR) (G_strokes : AR) (G_home : AR) (G_water : AR) (kx131 : AR → Int32 → Prop) (post : AR → Prop) : Nat → AR → Int32 → Prop
  | 0, _, _ => False
  | nf96 + 1, F_all, l1 => (((sG 2) ≤ l1 → kx131 F_all l1) ∧ (¬ (sG 2) ≤ l1 → vp_in l1 5 ∧ vp_in ((24 : Int32) + l1) 29 ∧ ∀ F_all_124 : AR, F_all_124 = upd F_all ((24 : Int32) + l1).toNatClampNeg (G_strokes l1.toNatClampNeg) → ∀ l1_125 : Int32, l1_125 = (l1 + (1 : Int32)) → wpX3_begin_L96 sG G_strokes G_home G_water kx131 post nf96 F_all_124 l1_125))
def wpX3_begin (sG : AR) (F_all : AR) (G_strokes : AR) (G_home : AR) (G_water : AR) (post : AR → Prop) : Prop := ∃ nf2 : Nat, wpX3_begin_L2 sG G_strokes G_home G_water (fun F_all_94 l1_94 => ∃ nf96 : Nat, wpX3_begin_L96 sG G_strokes G_home G_water (fun F_all_131 l1_131 => post F_all_131) post nf96 F_all_94 (0 : Int32)) post nf2 F_all (0 : Int32)
set_option maxHeartbeats 4000000 in
set_option maxRecDepth 100000 in
theorem ctX3_begin (l : Launch) (D : va_G) (cy : Nat → ClassId) (ev : Nat → Nat) (h0 : Nat) (rF : Nat → Nat) (rG : Nat → Nat) (sG : AR) (F_all : AR) (G_strokes : AR) (G_home : AR) (G_water : AR) (sz : Nat) (post : AR → Prop) (h : wpX3_begin sG F_all G_strokes G_home G_water post) : Met l yX3_begin (Cond.code yX3_begin cX3_begin 3 none :: TB) ({ frames := 0, cells := 0, slots := 0, locals := 0 }) (va_Pc [.ref h0] (PreX D cy ev [(h0, .inr (3, oX3 rF)), ((rF 0), .inr (4, oX4 rG sG)), ((rF 3), .inl (cy 0, 29, .inl F_all)), ((rG 10), .inl (cy 0, 5, .inl G_strokes)), ((rG 13), .inl (cy 0, 4, .inl G_home)), ((rG 14), .inl (cy 0, 4, .inl G_water))] sz)) (va_Qv (fun (u : AR) => post u) (fun u => BkX D cy [(h0, .inr (3, oX3 rF)), ((rF 0), .inr (4, oX4 rG sG)), ((rF 3), .inl (cy 0, 29, .inl F_all)), ((rG 10), .inl (cy 0, 5, .inl G_strokes)), ((rG 13), .inl (cy 0, 4, .inl G_home)), ((rG 14), .inl (cy 0, 4, .inl G_water))] sz [(h0, .inr (3, oX3 rF)), ((rF 0), .inr (4, oX4 rG sG)), ((rF 3), .inl (cy 0, 29, .inl u)), ((rG 10), .inl (cy 0, 5, .inl G_strokes)), ((rG 13), .inl (cy 0, 4, .inl G_home)), ((rG 14), .inl (cy 0, 4, .inl G_water))]) (va_A [(h0, .inr (3, oX3 rF)), ((rF 0), .inr (4, oX4 rG sG)), ((rF 3), .inl (cy 0, 29, .inl F_all)), ((rG 10), .inl (cy 0, 5, .inl G_strokes)), ((rG 13), .inl (cy 0, 4, .inl G_home)), ((rG 14), .inl (cy 0, 4, .inl G_water))] sz)) 0 0 (va_A [(h0, .inr (3, oX3 rF)), ((rF 0), .inr (4, oX4 rG sG)), ((rF 3), .inl (cy 0, 29, .inl F_all)), ((rG 10), .inl (cy 0, 5, .inl G_strokes)), ((rG 13), .inl (cy 0, 4, .inl G_home)), ((rG 14), .inl (cy 0, 4, .inl G_water))] sz) := by
  refine ofWv (by decide) (Nat.le_of_ble_eq_true rfl) ?_
  intro p e s m args below meth c ls A R QQ hx hb hml hown hts hR hlk hE hK hP hD hS hA hl hret
  have hown : s.vm.findClass RX3 = some m.cls := hown
  have hRf : 0 ≤ R.frames := by rw [hR]; exact Nat.le_refl _
  have hRl : 0 ≤ R.locals := by rw [hR]; exact Nat.le_refl _
  clear hR
  have hl : lv_has ls 3 [(0, .ref h0)] := hl
  have L96 : ∀ (kx131 : AR → Int32 → Prop), (∀ (F_all : AR) (l1 : Int32) (H : Heap) (locs : List Loc) (ls : Array Slot), kx131 F_all l1 → va_P D clsX [(h0, .inr (3, oX3 rF)), ((rF 0), .inr (4, oX4 rG sG)), ((rF 3), .inl (cy 0, 29, .inl F_all)), ((rG 10), .inl (cy 0, 5, .inl G_strokes)), ((rG 13), .inl (cy 0, 4, .inl G_home)), ((rG 14), .inl (cy 0, 4, .inl G_water))] H → va_D A [(h0, .inr (3, oX3 rF)), ((rF 0), .inr (4, oX4 rG sG)), ((rF 3), .inl (cy 0, 29, .inl F_all)), ((rG 10), .inl (cy 0, 5, .inl G_strokes)), ((rG 13), .inl (cy 0, 4, .inl G_home)), ((rG 14), .inl (cy 0, 4, .inl G_water))] → va_S A s.heap H locs → lv_has ls 3 [(0, .ref h0)] → W p l e R s m args below meth c H locs 0 0 QQ (F0 m 131 ls [])) → ∀ (nf96 : Nat) (F_all : AR) (l1 : Int32) (H : Heap) (locs : List Loc) (ls : Array Slot), wpX3_begin_L96 sG G_strokes G_home G_water kx131 post nf96 F_all l1 → va_P D clsX [(h0, .inr (3, oX3 rF)), ((rF 0), .inr (4, oX4 rG sG)), ((rF 3), .inl (cy 0, 29, .inl F_all)), ((rG 10), .inl (cy 0, 5, .inl G_strokes)), ((rG 13), .inl (cy 0, 4, .inl G_home)), ((rG 14), .inl (cy 0, 4, .inl G_water))] H → va_D A [(h0, .inr (3, oX3 rF)), ((rF 0), .inr (4, oX4 rG sG)), ((rF 3), .inl (cy 0, 29, .inl F_all)), ((rG 10), .inl (cy 0, 5, .inl G_strokes)), ((rG 13), .inl (cy 0, 4, .inl G_home)), ((rG 14), .inl (cy 0, 4, .inl G_water))] → va_S A s.heap H locs → lv_has ls 3 [(0, .ref h0), (1, .int l1)] → W p l e R s m args below meth c H locs 0 0 QQ (F0 m 96 ls []) := by
    intro kx131 hk96_131 nf96
    induction nf96 with
    | zero =>
      intro F_all l1 H locs ls h
      exact (show False from h).elim
    | succ nf96 ih96 =>
      intro F_all l1 H locs ls h hP hD hS hl
      refine lv_iload_n hx hb dX3_begin_96 rfl (lv_at hl 1 rfl) ?_
      refine lv_aload_n hx hb dX3_begin_97 rfl (lv_at hl 0 rfl) ?_
      refine gfX3_18 hx hb hts hown hK hP 0 rfl dX3_begin_98 ?_
      refine gfX3_42 (v := (sG 2)) hx hb hts hown hK hP 1 rfl rfl dX3_begin_101 ?_
      refine lv_icmp_ge (tgt := 131) hx hb dX3_begin_104 (by decide) (fun c104 => ?_) (fun c104 => ?_)
      · have h := h.1 c104
        exact hk96_131 F_all l1 _ _ _ h hP hD hS (lv_sub hl [0] rfl)
      · have h := h.2 c104
        refine lv_aload_n hx hb dX3_begin_107 rfl (lv_at hl 0 rfl) ?_
        refine gfX3_11 hx hb hts hown hK hP 0 rfl dX3_begin_108 ?_
        refine lv_bipush (v := (24 : Int32)) hx hb dX3_begin_111 (by decide) ?_
        refine lv_iload_n hx hb dX3_begin_113 rfl (lv_at hl 1 rfl) ?_
        refine lv_iadd hx hb dX3_begin_114 ?_
        refine lv_aload_n hx hb dX3_begin_115 rfl (lv_at hl 0 rfl) ?_
        refine gfX3_18 hx hb hts hown hK hP 0 rfl dX3_begin_116 ?_
        refine gfX3_45 hx hb hts hown hK hP 1 rfl dX3_begin_119 ?_
        refine lv_iload_n hx hb dX3_begin_122 rfl (lv_at hl 1 rfl) ?_
        obtain ⟨hin, h⟩ := h
        refine ldi (k := l1.toNatClampNeg) hx hb hK hP 3 rfl hin rfl dX3_begin_123 ?_
        obtain ⟨hin, h⟩ := h
        refine sti (k := ((24 : Int32) + l1).toNatClampNeg) (y := (G_strokes l1.toNatClampNeg)) hx hb hK hP hD hS 2 rfl hin rfl rfl dX3_begin_124 (fun F_all_124 eF_all_124 H locs hP hD hS => ?_)
        have h := h F_all_124 eF_all_124
        have hP : va_P D clsX [(h0, .inr (3, oX3 rF)), ((rF 0), .inr (4, oX4 rG sG)), ((rF 3), .inl (cy 0, 29, .inl F_all_124)), ((rG 10), .inl (cy 0, 5, .inl G_strokes)), ((rG 13), .inl (cy 0, 4, .inl G_home)), ((rG 14), .inl (cy 0, 4, .inl G_water))] H := hP
        have hD : va_D A [(h0, .inr (3, oX3 rF)), ((rF 0), .inr (4, oX4 rG sG)), ((rF 3), .inl (cy 0, 29, .inl F_all_124)), ((rG 10), .inl (cy 0, 5, .inl G_strokes)), ((rG 13), .inl (cy 0, 4, .inl G_home)), ((rG 14), .inl (cy 0, 4, .inl G_water))] := hD
        obtain ⟨l1_125, el1_125⟩ : ∃ y : Int32, y = l1 + (1 : Int32) := ⟨_, rfl⟩
        have h := h l1_125 el1_125
        refine lv_iinc (v := l1_125) (lv' := [(1, .int l1_125), (0, .ref h0)]) hx hb dX3_begin_125 hl (k := 1) rfl (by rw [el1_125]; rfl) (by decide) rfl (fun ls hl => ?_)
        refine lv_goto (tgt := 96) hx hb dX3_begin_128 (by decide) ?_
        exact ih96 F_all_124 l1_125 _ _ _ h hP hD hS (lv_sub hl [1, 0] rfl)
  have L2 : ∀ (kx94 : AR → Int32 → Prop), (∀ (F_all : AR) (l1 : Int32) (H : Heap) (locs : List Loc) (ls : Array Slot), kx94 F_all l1 → va_P D clsX [(h0, .inr (3, oX3 rF)), ((rF 0), .inr (4, oX4 rG sG)), ((rF 3), .inl (cy 0, 29, .inl F_all)), ((rG 10), .inl (cy 0, 5, .inl G_strokes)), ((rG 13), .inl (cy 0, 4, .inl G_home)), ((rG 14), .inl (cy 0, 4, .inl G_water))] H → va_D A [(h0, .inr (3, oX3 rF)), ((rF 0), .inr (4, oX4 rG sG)), ((rF 3), .inl (cy 0, 29, .inl F_all)), ((rG 10), .inl (cy 0, 5, .inl G_strokes)), ((rG 13), .inl (cy 0, 4, .inl G_home)), ((rG 14), .inl (cy 0, 4, .inl G_water))] → va_S A s.heap H locs → lv_has ls 3 [(0, .ref h0)] → W p l e R s m args below meth c H locs 0 0 QQ (F0 m 94 ls [])) → ∀ (nf2 : Nat) (F_all : AR) (l1 : Int32) (H : Heap) (locs : List Loc) (ls : Array Slot), wpX3_begin_L2 sG G_strokes G_home G_water kx94 post nf2 F_all l1 → va_P D clsX [(h0, .inr (3, oX3 rF)), ((rF 0), .inr (4, oX4 rG sG)), ((rF 3), .inl (cy 0, 29, .inl F_all)), ((rG 10), .inl (cy 0, 5, .inl G_strokes)), ((rG 13), .inl (cy 0, 4, .inl G_home)), ((rG 14), .inl (cy 0, 4, .inl G_water))] H → va_D A [(h0, .inr (3, oX3 rF)), ((rF 0), .inr (4, oX4 rG sG)), ((rF 3), .inl (cy 0, 29, .inl F_all)), ((rG 10), .inl (cy 0, 5, .inl G_strokes)), ((rG 13), .inl (cy 0, 4, .inl G_home)), ((rG 14), .inl (cy 0, 4, .inl G_water))] → va_S A s.heap H locs → lv_has ls 3 [(0, .ref h0), (1, .int l1)] → W p l e R s m args below meth c H locs 0 0 QQ (F0 m 2 ls []) := by
    intro kx94 hk2_94 nf2
    induction nf2 with
    | zero =>
      intro F_all l1 H locs ls h
      exact (show False from h).elim
    | succ nf2 ih2 =>
      intro F_all l1 H locs ls h hP hD hS hl
      refine lv_iload_n hx hb dX3_begin_2 rfl (lv_at hl 1 rfl) ?_
      refine lv_aload_n hx hb dX3_begin_3 rfl (lv_at hl 0 rfl) ?_
      refine gfX3_18 hx hb hts hown hK hP 0 rfl dX3_begin_4 ?_
      refine gfX3_30 (v := (sG 3)) hx hb hts hown hK hP 1 rfl rfl dX3_begin_7 ?_
      refine lv_icmp_ge (tgt := 94) hx hb dX3_begin_10 (by decide) (fun c10 => ?_) (fun c10 => ?_)
      · have h := h.1 c10
        exact hk2_94 F_all l1 _ _ _ h hP hD hS (lv_sub hl [0] rfl)
      · have h := h.2 c10
        refine lv_iload_n hx hb dX3_begin_13 rfl (lv_at hl 1 rfl) ?_
        refine lv_bipush (v := (6 : Int32)) hx hb dX3_begin_14 (by decide) ?_
        refine lv_imul hx hb dX3_begin_16 ?_
        refine lv_topi (fun l2_17 el2_17 => ?_)
        have h := h l2_17 el2_17
        refine lv_istore_n (lv' := [(2, .int l2_17), (0, .ref h0), (1, .int l1)]) hx hb dX3_begin_17 rfl hl (by decide) rfl (fun ls hl => ?_)
        refine lv_aload_n hx hb dX3_begin_18 rfl (lv_at hl 1 rfl) ?_
        refine gfX3_11 hx hb hts hown hK hP 0 rfl dX3_begin_19 ?_
        refine lv_iload_n hx hb dX3_begin_22 rfl (lv_at hl 0 rfl) ?_
        refine lv_iconst (v := (0 : Int32)) hx hb dX3_begin_23 (by decide) ?_
        refine lv_iadd hx hb dX3_begin_24 ?_
        refine lv_aload_n hx hb dX3_begin_25 rfl (lv_at hl 1 rfl) ?_
        refine gfX3_18 hx hb hts hown hK hP 0 rfl dX3_begin_26 ?_
        refine gfX3_36 hx hb hts hown hK hP 1 rfl dX3_begin_29 ?_
        refine lv_iload_n hx hb dX3_begin_32 rfl (lv_at hl 2 rfl) ?_
        obtain ⟨hin, h⟩ := h
        refine ldi (k := l1.toNatClampNeg) hx hb hK hP 4 rfl hin rfl dX3_begin_33 ?_
        obtain ⟨hin, h⟩ := h
        refine sti (k := (l2_17 + (0 : Int32)).toNatClampNeg) (y := (G_home l1.toNatClampNeg)) hx hb hK hP hD hS 2 rfl hin rfl rfl dX3_begin_34 (fun F_all_34 eF_all_34 H locs hP hD hS => ?_)
        have h := h F_all_34 eF_all_34
        have hP : va_P D clsX [(h0, .inr (3, oX3 rF)), ((rF 0), .inr (4, oX4 rG sG)), ((rF 3), .inl (cy 0, 29, .inl F_all_34)), ((rG 10), .inl (cy 0, 5, .inl G_strokes)), ((rG 13), .inl (cy 0, 4, .inl G_home)), ((rG 14), .inl (cy 0, 4, .inl G_water))] H := hP
        have hD : va_D A [(h0, .inr (3, oX3 rF)), ((rF 0), .inr (4, oX4 rG sG)), ((rF 3), .inl (cy 0, 29, .inl F_all_34)), ((rG 10), .inl (cy 0, 5, .inl G_strokes)), ((rG 13), .inl (cy 0, 4, .inl G_home)), ((rG 14), .inl (cy 0, 4, .inl G_water))] := hD
        refine lv_aload_n hx hb dX3_begin_35 rfl (lv_at hl 1 rfl) ?_
        refine gfX3_11 hx hb hts hown hK hP 0 rfl dX3_begin_36 ?_
        refine lv_iload_n hx hb dX3_begin_39 rfl (lv_at hl 0 rfl) ?_
        refine lv_iconst (v := (1 : Int32)) hx hb dX3_begin_40 (by decide) ?_
        refine lv_iadd hx hb dX3_begin_41 ?_
        refine lv_aload_n hx hb dX3_begin_42 rfl (lv_at hl 1 rfl) ?_
        refine gfX3_18 hx hb hts hown hK hP 0 rfl dX3_begin_43 ?_
        refine gfX3_39 hx hb hts hown hK hP 1 rfl dX3_begin_46 ?_
        refine lv_iload_n hx hb dX3_begin_49 rfl (lv_at hl 2 rfl) ?_
        obtain ⟨hin, h⟩ := h
        refine ldi (k := l1.toNatClampNeg) hx hb hK hP 5 rfl hin rfl dX3_begin_50 ?_
        obtain ⟨hin, h⟩ := h
        refine sti (k := (l2_17 + (1 : Int32)).toNatClampNeg) (y := (G_water l1.toNatClampNeg)) hx hb hK hP hD hS 2 rfl hin rfl rfl dX3_begin_51 (fun F_all_51 eF_all_51 H locs hP hD hS => ?_)
        have h := h F_all_51 eF_all_51
        have hP : va_P D clsX [(h0, .inr (3, oX3 rF)), ((rF 0), .inr (4, oX4 rG sG)), ((rF 3), .inl (cy 0, 29, .inl F_all_51)), ((rG 10), .inl (cy 0, 5, .inl G_strokes)), ((rG 13), .inl (cy 0, 4, .inl G_home)), ((rG 14), .inl (cy 0, 4, .inl G_water))] H := hP
        have hD : va_D A [(h0, .inr (3, oX3 rF)), ((rF 0), .inr (4, oX4 rG sG)), ((rF 3), .inl (cy 0, 29, .inl F_all_51)), ((rG 10), .inl (cy 0, 5, .inl G_strokes)), ((rG 13), .inl (cy 0, 4, .inl G_home)), ((rG 14), .inl (cy 0, 4, .inl G_water))] := hD
        refine lv_aload_n hx hb dX3_begin_52 rfl (lv_at hl 1 rfl) ?_
        refine gfX3_11 hx hb hts hown hK hP 0 rfl dX3_begin_53 ?_
        refine lv_iload_n hx hb dX3_begin_56 rfl (lv_at hl 0 rfl) ?_
        refine lv_iconst (v := (2 : Int32)) hx hb dX3_begin_57 (by decide) ?_
        refine lv_iadd hx hb dX3_begin_58 ?_
        refine lv_iconst (v := (0 : Int32)) hx hb dX3_begin_59 (by decide) ?_
        obtain ⟨hin, h⟩ := h
        refine sti (k := (l2_17 + (2 : Int32)).toNatClampNeg) (y := (0 : Int32)) hx hb hK hP hD hS 2 rfl hin rfl rfl dX3_begin_60 (fun F_all_60 eF_all_60 H locs hP hD hS => ?_)
        have h := h F_all_60 eF_all_60
        have hP : va_P D clsX [(h0, .inr (3, oX3 rF)), ((rF 0), .inr (4, oX4 rG sG)), ((rF 3), .inl (cy 0, 29, .inl F_all_60)), ((rG 10), .inl (cy 0, 5, .inl G_strokes)), ((rG 13), .inl (cy 0, 4, .inl G_home)), ((rG 14), .inl (cy 0, 4, .inl G_water))] H := hP
        have hD : va_D A [(h0, .inr (3, oX3 rF)), ((rF 0), .inr (4, oX4 rG sG)), ((rF 3), .inl (cy 0, 29, .inl F_all_60)), ((rG 10), .inl (cy 0, 5, .inl G_strokes)), ((rG 13), .inl (cy 0, 4, .inl G_home)), ((rG 14), .inl (cy 0, 4, .inl G_water))] := hD
        refine lv_aload_n hx hb dX3_begin_61 rfl (lv_at hl 1 rfl) ?_
        refine gfX3_11 hx hb hts hown hK hP 0 rfl dX3_begin_62 ?_
        refine lv_iload_n hx hb dX3_begin_65 rfl (lv_at hl 0 rfl) ?_
        refine lv_iconst (v := (3 : Int32)) hx hb dX3_begin_66 (by decide) ?_
        refine lv_iadd hx hb dX3_begin_67 ?_
        refine lv_iconst (v := (0 : Int32)) hx hb dX3_begin_68 (by decide) ?_
        obtain ⟨hin, h⟩ := h
        refine sti (k := (l2_17 + (3 : Int32)).toNatClampNeg) (y := (0 : Int32)) hx hb hK hP hD hS 2 rfl hin rfl rfl dX3_begin_69 (fun F_all_69 eF_all_69 H locs hP hD hS => ?_)
        have h := h F_all_69 eF_all_69
        have hP : va_P D clsX [(h0, .inr (3, oX3 rF)), ((rF 0), .inr (4, oX4 rG sG)), ((rF 3), .inl (cy 0, 29, .inl F_all_69)), ((rG 10), .inl (cy 0, 5, .inl G_strokes)), ((rG 13), .inl (cy 0, 4, .inl G_home)), ((rG 14), .inl (cy 0, 4, .inl G_water))] H := hP
        have hD : va_D A [(h0, .inr (3, oX3 rF)), ((rF 0), .inr (4, oX4 rG sG)), ((rF 3), .inl (cy 0, 29, .inl F_all_69)), ((rG 10), .inl (cy 0, 5, .inl G_strokes)), ((rG 13), .inl (cy 0, 4, .inl G_home)), ((rG 14), .inl (cy 0, 4, .inl G_water))] := hD
        refine lv_aload_n hx hb dX3_begin_70 rfl (lv_at hl 1 rfl) ?_
        refine gfX3_11 hx hb hts hown hK hP 0 rfl dX3_begin_71 ?_
        refine lv_iload_n hx hb dX3_begin_74 rfl (lv_at hl 0 rfl) ?_
        refine lv_iconst (v := (4 : Int32)) hx hb dX3_begin_75 (by decide) ?_
        refine lv_iadd hx hb dX3_begin_76 ?_
        refine lv_iconst (v := (-1 : Int32)) hx hb dX3_begin_77 (by decide) ?_
        obtain ⟨hin, h⟩ := h
        refine sti (k := (l2_17 + (4 : Int32)).toNatClampNeg) (y := (-1 : Int32)) hx hb hK hP hD hS 2 rfl hin rfl rfl dX3_begin_78 (fun F_all_78 eF_all_78 H locs hP hD hS => ?_)
        have h := h F_all_78 eF_all_78
        have hP : va_P D clsX [(h0, .inr (3, oX3 rF)), ((rF 0), .inr (4, oX4 rG sG)), ((rF 3), .inl (cy 0, 29, .inl F_all_78)), ((rG 10), .inl (cy 0, 5, .inl G_strokes)), ((rG 13), .inl (cy 0, 4, .inl G_home)), ((rG 14), .inl (cy 0, 4, .inl G_water))] H := hP
        have hD : va_D A [(h0, .inr (3, oX3 rF)), ((rF 0), .inr (4, oX4 rG sG)), ((rF 3), .inl (cy 0, 29, .inl F_all_78)), ((rG 10), .inl (cy 0, 5, .inl G_strokes)), ((rG 13), .inl (cy 0, 4, .inl G_home)), ((rG 14), .inl (cy 0, 4, .inl G_water))] := hD
        refine lv_aload_n hx hb dX3_begin_79 rfl (lv_at hl 1 rfl) ?_
        refine gfX3_11 hx hb hts hown hK hP 0 rfl dX3_begin_80 ?_
        refine lv_iload_n hx hb dX3_begin_83 rfl (lv_at hl 0 rfl) ?_
        refine lv_iconst (v := (5 : Int32)) hx hb dX3_begin_84 (by decide) ?_
        refine lv_iadd hx hb dX3_begin_85 ?_
        refine lv_iconst (v := (0 : Int32)) hx hb dX3_begin_86 (by decide) ?_
        obtain ⟨hin, h⟩ := h
        refine sti (k := (l2_17 + (5 : Int32)).toNatClampNeg) (y := (0 : Int32)) hx hb hK hP hD hS 2 rfl hin rfl rfl dX3_begin_87 (fun F_all_87 eF_all_87 H locs hP hD hS => ?_)
        have h := h F_all_87 eF_all_87
        have hP : va_P D clsX [(h0, .inr (3, oX3 rF)), ((rF 0), .inr (4, oX4 rG sG)), ((rF 3), .inl (cy 0, 29, .inl F_all_87)), ((rG 10), .inl (cy 0, 5, .inl G_strokes)), ((rG 13), .inl (cy 0, 4, .inl G_home)), ((rG 14), .inl (cy 0, 4, .inl G_water))] H := hP
        have hD : va_D A [(h0, .inr (3, oX3 rF)), ((rF 0), .inr (4, oX4 rG sG)), ((rF 3), .inl (cy 0, 29, .inl F_all_87)), ((rG 10), .inl (cy 0, 5, .inl G_strokes)), ((rG 13), .inl (cy 0, 4, .inl G_home)), ((rG 14), .inl (cy 0, 4, .inl G_water))] := hD
        obtain ⟨l1_88, el1_88⟩ : ∃ y : Int32, y = l1 + (1 : Int32) := ⟨_, rfl⟩
        have h := h l1_88 el1_88
        refine lv_iinc (v := l1_88) (lv' := [(1, .int l1_88), (2, .int l2_17), (0, .ref h0)]) hx hb dX3_begin_88 hl (k := 2) rfl (by rw [el1_88]; rfl) (by decide) rfl (fun ls hl => ?_)
        refine lv_goto (tgt := 2) hx hb dX3_begin_91 (by decide) ?_
        exact ih2 F_all_87 l1_88 _ _ _ h hP hD hS (lv_sub hl [2, 0] rfl)
  refine lv_iconst (v := (0 : Int32)) hx hb dX3_begin_0 (by decide) ?_
  refine lv_istore_n (lv' := [(1, .int (0 : Int32)), (0, .ref h0)]) hx hb dX3_begin_1 rfl hl (by decide) rfl (fun ls hl => ?_)
  obtain ⟨nf2, h⟩ := h
  refine L2  _ (fun F_all_94 l1_94 H locs ls h hP hD hS hl => ?_) nf2 F_all (0 : Int32) _ _ _ h hP hD hS (lv_sub hl [1, 0] rfl)
  refine lv_iconst (v := (0 : Int32)) hx hb dX3_begin_94 (by decide) ?_
  refine lv_istore_n (lv' := [(1, .int (0 : Int32)), (0, .ref h0)]) hx hb dX3_begin_95 rfl hl (by decide) rfl (fun ls hl => ?_)
  obtain ⟨nf96, h⟩ := h
  refine L96  _ (fun F_all_131 l1_131 H locs ls h hP hD hS hl => ?_) nf96 F_all_94 (0 : Int32) _ _ _ h hP hD hS (lv_sub hl [1, 0] rfl)
  exact hret (F_all_131) _ _ _ _ dX3_begin_131 h hP hD hS
def wpX3_take (K_all : AR) (F_all : AR) (post : AR → Prop) : Prop := ∀ F_all_12 : AR, F_all_12 = va_cpy K_all F_all 0 0 29 → post F_all_12
set_option maxHeartbeats 4000000 in
set_option maxRecDepth 100000 in
theorem ctX3_take (l : Launch) (D : va_G) (cy : Nat → ClassId) (ev : Nat → Nat) (h0 : Nat) (a1 : Nat) (rK : Nat → Nat) (rF : Nat → Nat) (K_all : AR) (F_all : AR) (sz : Nat) (post : AR → Prop) (h : wpX3_take K_all F_all post) : Met l yX3_take (Cond.code yX3_take cX3_take 2 none :: TB) ({ frames := 1, cells := 0, slots := 0, locals := 60 }) (va_Pc [.ref h0, .ref a1] (PreX D cy ev [(a1, .inr (3, oX3 rK)), (h0, .inr (3, oX3 rF)), ((rK 3), .inl (cy 0, 29, .inl K_all)), ((rF 3), .inl (cy 0, 29, .inl F_all))] sz)) (va_Qv (fun (u : AR) => post u) (fun u => BkX D cy [(a1, .inr (3, oX3 rK)), (h0, .inr (3, oX3 rF)), ((rK 3), .inl (cy 0, 29, .inl K_all)), ((rF 3), .inl (cy 0, 29, .inl F_all))] sz [(a1, .inr (3, oX3 rK)), (h0, .inr (3, oX3 rF)), ((rK 3), .inl (cy 0, 29, .inl K_all)), ((rF 3), .inl (cy 0, 29, .inl u))]) (va_A [(a1, .inr (3, oX3 rK)), (h0, .inr (3, oX3 rF)), ((rK 3), .inl (cy 0, 29, .inl K_all)), ((rF 3), .inl (cy 0, 29, .inl F_all))] sz)) 0 0 (va_A [(a1, .inr (3, oX3 rK)), (h0, .inr (3, oX3 rF)), ((rK 3), .inl (cy 0, 29, .inl K_all)), ((rF 3), .inl (cy 0, 29, .inl F_all))] sz) := by
  refine ofWv (by decide) (Nat.le_of_ble_eq_true rfl) ?_
  intro p e s m args below meth c ls A R QQ hx hb hml hown hts hR hlk hE hK hP hD hS hA hl hret
  have hown : s.vm.findClass RX3 = some m.cls := hown
  have hRf : 1 ≤ R.frames := by rw [hR]; exact Nat.le_refl _
  have hRl : 60 ≤ R.locals := by rw [hR]; exact Nat.le_refl _
  clear hR
  have hl : lv_has ls 2 [(0, .ref h0), (1, .ref a1)] := hl
  refine lv_aload_n hx hb dX3_take_0 rfl (lv_at hl 1 rfl) ?_
  refine gfX3_11 hx hb hts hown hK hP 0 rfl dX3_take_1 ?_
  refine lv_iconst (v := (0 : Int32)) hx hb dX3_take_4 (by decide) ?_
  refine lv_aload_n hx hb dX3_take_5 rfl (lv_at hl 0 rfl) ?_
  refine gfX3_11 hx hb hts hown hK hP 1 rfl dX3_take_6 ?_
  refine lv_iconst (v := (0 : Int32)) hx hb dX3_take_9 (by decide) ?_
  refine lv_bipush (v := (29 : Int32)) hx hb dX3_take_10 (by decide) ?_
  refine cpi (k0 := 0) (k1 := 0) (kn := 29) hx hb (hml.trans hl.1.symm) hts hown mw645 hK hP hD hS 2 3 rfl rfl (by decide) (by decide) (by decide) (by decide) (by decide) (by decide) (by decide) (by decide) (Nat.le_trans (by decide) hRf) (Nat.le_trans (Nat.le_of_ble_eq_true rfl) hRl) dX3_take_12 (fun F_all_12 eF_all_12 H locs hP hD hS => ?_)
  have h := h F_all_12 eF_all_12
  have hP : va_P D clsX [(a1, .inr (3, oX3 rK)), (h0, .inr (3, oX3 rF)), ((rK 3), .inl (cy 0, 29, .inl K_all)), ((rF 3), .inl (cy 0, 29, .inl F_all_12))] H := hP
  have hD : va_D A [(a1, .inr (3, oX3 rK)), (h0, .inr (3, oX3 rF)), ((rK 3), .inl (cy 0, 29, .inl K_all)), ((rF 3), .inl (cy 0, 29, .inl F_all_12))] := hD
  exact hret (F_all_12) _ _ _ _ dX3_take_15 h hP hD hS
def wpX3_of (F_all : AR) (x1 : Int32) (x2 : Int32) (post : Int32 → Prop) : Prop := vp_in ((x1 * (6 : Int32)) + x2) 29 ∧ post (F_all ((x1 * (6 : Int32)) + x2).toNatClampNeg)
set_option maxHeartbeats 4000000 in
set_option maxRecDepth 100000 in
theorem ctX3_of (l : Launch) (D : va_G) (cy : Nat → ClassId) (ev : Nat → Nat) (h0 : Nat) (rF : Nat → Nat) (F_all : AR) (x1 : Int32) (x2 : Int32) (sz : Nat) (post : Int32 → Prop) (h : wpX3_of F_all x1 x2 post) : Met l yX3_of (Cond.code yX3_of cX3_of 3 (some .int) :: TB) ({ frames := 0, cells := 0, slots := 0, locals := 0 }) (va_Pc [.ref h0, .int x1, .int x2] (PreX D cy ev [(h0, .inr (3, oX3 rF)), ((rF 3), .inl (cy 0, 29, .inl F_all))] sz)) (va_Qi (fun (r : Int32) (u : Unit) => post r) (fun u => BkX D cy [(h0, .inr (3, oX3 rF)), ((rF 3), .inl (cy 0, 29, .inl F_all))] sz [(h0, .inr (3, oX3 rF)), ((rF 3), .inl (cy 0, 29, .inl F_all))]) (va_A [(h0, .inr (3, oX3 rF)), ((rF 3), .inl (cy 0, 29, .inl F_all))] sz)) 0 0 (va_A [(h0, .inr (3, oX3 rF)), ((rF 3), .inl (cy 0, 29, .inl F_all))] sz) := by
  refine ofWi (by decide) (Nat.le_of_ble_eq_true rfl) ?_
  intro p e s m args below meth c ls A R QQ hx hb hml hown hts hR hlk hE hK hP hD hS hA hl hret
  have hown : s.vm.findClass RX3 = some m.cls := hown
  have hRf : 0 ≤ R.frames := by rw [hR]; exact Nat.le_refl _
  have hRl : 0 ≤ R.locals := by rw [hR]; exact Nat.le_refl _
  clear hR
  have hl : lv_has ls 3 [(0, .ref h0), (1, .int x1), (2, .int x2)] := hl
  refine lv_aload_n hx hb dX3_of_0 rfl (lv_at hl 0 rfl) ?_
  refine gfX3_11 hx hb hts hown hK hP 0 rfl dX3_of_1 ?_
  refine lv_iload_n hx hb dX3_of_4 rfl (lv_at hl 1 rfl) ?_
  refine lv_bipush (v := (6 : Int32)) hx hb dX3_of_5 (by decide) ?_
  refine lv_imul hx hb dX3_of_7 ?_
  refine lv_iload_n hx hb dX3_of_8 rfl (lv_at hl 2 rfl) ?_
  refine lv_iadd hx hb dX3_of_9 ?_
  obtain ⟨hin, h⟩ := h
  refine ldi (k := ((x1 * (6 : Int32)) + x2).toNatClampNeg) hx hb hK hP 1 rfl hin rfl dX3_of_10 ?_
  exact hret (F_all ((x1 * (6 : Int32)) + x2).toNatClampNeg) () _ _ _ _ rfl dX3_of_11 h hP hD hS
def wpX3_strokesLeft (F_all : AR) (x1 : Int32) (post : Int32 → Prop) : Prop := vp_in ((24 : Int32) + x1) 29 ∧ post (F_all ((24 : Int32) + x1).toNatClampNeg)
set_option maxHeartbeats 4000000 in
set_option maxRecDepth 100000 in
theorem ctX3_strokesLeft (l : Launch) (D : va_G) (cy : Nat → ClassId) (ev : Nat → Nat) (h0 : Nat) (rF : Nat → Nat) (F_all : AR) (x1 : Int32) (sz : Nat) (post : Int32 → Prop) (h : wpX3_strokesLeft F_all x1 post) : Met l yX3_strokesLeft (Cond.code yX3_strokesLeft cX3_strokesLeft 2 (some .int) :: TB) ({ frames := 0, cells := 0, slots := 0, locals := 0 }) (va_Pc [.ref h0, .int x1] (PreX D cy ev [(h0, .inr (3, oX3 rF)), ((rF 3), .inl (cy 0, 29, .inl F_all))] sz)) (va_Qi (fun (r : Int32) (u : Unit) => post r) (fun u => BkX D cy [(h0, .inr (3, oX3 rF)), ((rF 3), .inl (cy 0, 29, .inl F_all))] sz [(h0, .inr (3, oX3 rF)), ((rF 3), .inl (cy 0, 29, .inl F_all))]) (va_A [(h0, .inr (3, oX3 rF)), ((rF 3), .inl (cy 0, 29, .inl F_all))] sz)) 0 0 (va_A [(h0, .inr (3, oX3 rF)), ((rF 3), .inl (cy 0, 29, .inl F_all))] sz) := by
  refine ofWi (by decide) (Nat.le_of_ble_eq_true rfl) ?_
  intro p e s m args below meth c ls A R QQ hx hb hml hown hts hR hlk hE hK hP hD hS hA hl hret
  have hown : s.vm.findClass RX3 = some m.cls := hown
  have hRf : 0 ≤ R.frames := by rw [hR]; exact Nat.le_refl _
  have hRl : 0 ≤ R.locals := by rw [hR]; exact Nat.le_refl _
  clear hR
  have hl : lv_has ls 2 [(0, .ref h0), (1, .int x1)] := hl
  refine lv_aload_n hx hb dX3_strokesLeft_0 rfl (lv_at hl 0 rfl) ?_
  refine gfX3_11 hx hb hts hown hK hP 0 rfl dX3_strokesLeft_1 ?_
  refine lv_bipush (v := (24 : Int32)) hx hb dX3_strokesLeft_4 (by decide) ?_
  refine lv_iload_n hx hb dX3_strokesLeft_6 rfl (lv_at hl 1 rfl) ?_
  refine lv_iadd hx hb dX3_strokesLeft_7 ?_
  obtain ⟨hin, h⟩ := h
  refine ldi (k := ((24 : Int32) + x1).toNatClampNeg) hx hb hK hP 1 rfl hin rfl dX3_strokesLeft_8 ?_
  exact hret (F_all ((24 : Int32) + x1).toNatClampNeg) () _ _ _ _ rfl dX3_strokesLeft_9 h hP hD hS
def wpX3_silence (F_all : AR) (x1 : Int32) (post : AR → Prop) : Prop := vp_in ((24 : Int32) + x1) 29 ∧ ∀ F_all_9 : AR, F_all_9 = upd F_all ((24 : Int32) + x1).toNatClampNeg (0 : Int32) → post F_all_9
set_option maxHeartbeats 4000000 in
set_option maxRecDepth 100000 in
theorem ctX3_silence (l : Launch) (D : va_G) (cy : Nat → ClassId) (ev : Nat → Nat) (h0 : Nat) (rF : Nat → Nat) (F_all : AR) (x1 : Int32) (sz : Nat) (post : AR → Prop) (h : wpX3_silence F_all x1 post) : Met l yX3_silence (Cond.code yX3_silence cX3_silence 2 none :: TB) ({ frames := 0, cells := 0, slots := 0, locals := 0 }) (va_Pc [.ref h0, .int x1] (PreX D cy ev [(h0, .inr (3, oX3 rF)), ((rF 3), .inl (cy 0, 29, .inl F_all))] sz)) (va_Qv (fun (u : AR) => post u) (fun u => BkX D cy [(h0, .inr (3, oX3 rF)), ((rF 3), .inl (cy 0, 29, .inl F_all))] sz [(h0, .inr (3, oX3 rF)), ((rF 3), .inl (cy 0, 29, .inl u))]) (va_A [(h0, .inr (3, oX3 rF)), ((rF 3), .inl (cy 0, 29, .inl F_all))] sz)) 0 0 (va_A [(h0, .inr (3, oX3 rF)), ((rF 3), .inl (cy 0, 29, .inl F_all))] sz) := by
  refine ofWv (by decide) (Nat.le_of_ble_eq_true rfl) ?_
  intro p e s m args below meth c ls A R QQ hx hb hml hown hts hR hlk hE hK hP hD hS hA hl hret
  have hown : s.vm.findClass RX3 = some m.cls := hown
  have hRf : 0 ≤ R.frames := by rw [hR]; exact Nat.le_refl _
  have hRl : 0 ≤ R.locals := by rw [hR]; exact Nat.le_refl _
  clear hR
  have hl : lv_has ls 2 [(0, .ref h0), (1, .int x1)] := hl
  refine lv_aload_n hx hb dX3_silence_0 rfl (lv_at hl 0 rfl) ?_
  refine gfX3_11 hx hb hts hown hK hP 0 rfl dX3_silence_1 ?_
  refine lv_bipush (v := (24 : Int32)) hx hb dX3_silence_4 (by decide) ?_
  refine lv_iload_n hx hb dX3_silence_6 rfl (lv_at hl 1 rfl) ?_
  refine lv_iadd hx hb dX3_silence_7 ?_
  refine lv_iconst (v := (0 : Int32)) hx hb dX3_silence_8 (by decide) ?_
  obtain ⟨hin, h⟩ := h
  refine sti (k := ((24 : Int32) + x1).toNatClampNeg) (y := (0 : Int32)) hx hb hK hP hD hS 1 rfl hin rfl rfl dX3_silence_9 (fun F_all_9 eF_all_9 H locs hP hD hS => ?_)
  have h := h F_all_9 eF_all_9
  have hP : va_P D clsX [(h0, .inr (3, oX3 rF)), ((rF 3), .inl (cy 0, 29, .inl F_all_9))] H := hP
  have hD : va_D A [(h0, .inr (3, oX3 rF)), ((rF 3), .inl (cy 0, 29, .inl F_all_9))] := hD
  exact hret (F_all_9) _ _ _ _ dX3_silence_10 h hP hD hS
def wpX3_howMany_L4 (sG : AR) (F_all : AR) (l1 : Int32) (kx39 : Int32 → Int32 → Prop) (post : Int32 → Prop) : Nat → Int32 → Int32 → Prop
  | 0, _, _ => False
  | nf4 + 1, l2, l3 => (((sG 3) ≤ l3 → kx39 l2 l3) ∧ (¬ (sG 3) ≤ l3 → vp_in ((l3 * (6 : Int32)) + (3 : Int32)) 29 ∧ ((¬ (F_all ((l3 * (6 : Int32)) + (3 : Int32)).toNatClampNeg) = l1 → ∀ l3_33 : Int32, l3_33 = (l3 + (1 : Int32)) → wpX3_howMany_L4 sG F_all l1 kx39 post nf4 l2 l3_33) ∧ ((F_all ((l3 * (6 : Int32)) + (3 : Int32)).toNatClampNeg) = l1 → ∀ l2_30 : Int32, l2_30 = (l2 + (1 : Int32)) → ∀ l3_33 : Int32, l3_33 = (l3 + (1 : Int32)) → wpX3_howMany_L4 sG F_all l1 kx39 post nf4 l2_30 l3_33))))
def wpX3_howMany (sG : AR) (F_all : AR) (x1 : Int32) (post : Int32 → Prop) : Prop := ∃ nf4 : Nat, wpX3_howMany_L4 sG F_all x1 (fun l2_39 l3_39 => post l2_39) post nf4 (0 : Int32) (0 : Int32)
set_option maxHeartbeats 4000000 in
set_option maxRecDepth 100000 in
theorem ctX3_howMany (l : Launch) (D : va_G) (cy : Nat → ClassId) (ev : Nat → Nat) (h0 : Nat) (rF : Nat → Nat) (rG : Nat → Nat) (sG : AR) (F_all : AR) (x1 : Int32) (sz : Nat) (post : Int32 → Prop) (h : wpX3_howMany sG F_all x1 post) : Met l yX3_howMany (Cond.code yX3_howMany cX3_howMany 4 (some .int) :: TB) ({ frames := 0, cells := 0, slots := 0, locals := 0 }) (va_Pc [.ref h0, .int x1] (PreX D cy ev [(h0, .inr (3, oX3 rF)), ((rF 0), .inr (4, oX4 rG sG)), ((rF 3), .inl (cy 0, 29, .inl F_all))] sz)) (va_Qi (fun (r : Int32) (u : Unit) => post r) (fun u => BkX D cy [(h0, .inr (3, oX3 rF)), ((rF 0), .inr (4, oX4 rG sG)), ((rF 3), .inl (cy 0, 29, .inl F_all))] sz [(h0, .inr (3, oX3 rF)), ((rF 0), .inr (4, oX4 rG sG)), ((rF 3), .inl (cy 0, 29, .inl F_all))]) (va_A [(h0, .inr (3, oX3 rF)), ((rF 0), .inr (4, oX4 rG sG)), ((rF 3), .inl (cy 0, 29, .inl F_all))] sz)) 0 0 (va_A [(h0, .inr (3, oX3 rF)), ((rF 0), .inr (4, oX4 rG sG)), ((rF 3), .inl (cy 0, 29, .inl F_all))] sz) := by
  refine ofWi (by decide) (Nat.le_of_ble_eq_true rfl) ?_
  intro p e s m args below meth c ls A R QQ hx hb hml hown hts hR hlk hE hK hP hD hS hA hl hret
  have hown : s.vm.findClass RX3 = some m.cls := hown
  have hRf : 0 ≤ R.frames := by rw [hR]; exact Nat.le_refl _
  have hRl : 0 ≤ R.locals := by rw [hR]; exact Nat.le_refl _
  clear hR
  have hl : lv_has ls 4 [(0, .ref h0), (1, .int x1)] := hl
  have L4 : ∀ (l1 : Int32) (kx39 : Int32 → Int32 → Prop), (∀ (l2 : Int32) (l3 : Int32) (H : Heap) (locs : List Loc) (ls : Array Slot), kx39 l2 l3 → va_P D clsX [(h0, .inr (3, oX3 rF)), ((rF 0), .inr (4, oX4 rG sG)), ((rF 3), .inl (cy 0, 29, .inl F_all))] H → va_D A [(h0, .inr (3, oX3 rF)), ((rF 0), .inr (4, oX4 rG sG)), ((rF 3), .inl (cy 0, 29, .inl F_all))] → va_S A s.heap H locs → lv_has ls 4 [(0, .ref h0), (2, .int l2)] → W p l e R s m args below meth c H locs 0 0 QQ (F0 m 39 ls [])) → ∀ (nf4 : Nat) (l2 : Int32) (l3 : Int32) (H : Heap) (locs : List Loc) (ls : Array Slot), wpX3_howMany_L4 sG F_all l1 kx39 post nf4 l2 l3 → va_P D clsX [(h0, .inr (3, oX3 rF)), ((rF 0), .inr (4, oX4 rG sG)), ((rF 3), .inl (cy 0, 29, .inl F_all))] H → va_D A [(h0, .inr (3, oX3 rF)), ((rF 0), .inr (4, oX4 rG sG)), ((rF 3), .inl (cy 0, 29, .inl F_all))] → va_S A s.heap H locs → lv_has ls 4 [(0, .ref h0), (1, .int l1), (2, .int l2), (3, .int l3)] → W p l e R s m args below meth c H locs 0 0 QQ (F0 m 4 ls []) := by
    intro l1 kx39 hk4_39 nf4
    induction nf4 with
    | zero =>
      intro l2 l3 H locs ls h
      exact (show False from h).elim
    | succ nf4 ih4 =>
      intro l2 l3 H locs ls h hP hD hS hl
      refine lv_iload_n hx hb dX3_howMany_4 rfl (lv_at hl 3 rfl) ?_
      refine lv_aload_n hx hb dX3_howMany_5 rfl (lv_at hl 0 rfl) ?_
      refine gfX3_18 hx hb hts hown hK hP 0 rfl dX3_howMany_6 ?_
      refine gfX3_30 (v := (sG 3)) hx hb hts hown hK hP 1 rfl rfl dX3_howMany_9 ?_
      refine lv_icmp_ge (tgt := 39) hx hb dX3_howMany_12 (by decide) (fun c12 => ?_) (fun c12 => ?_)
      · have h := h.1 c12
        exact hk4_39 l2 l3 _ _ _ h hP hD hS (lv_sub hl [0, 2] rfl)
      · have h := h.2 c12
        refine lv_aload_n hx hb dX3_howMany_15 rfl (lv_at hl 0 rfl) ?_
        refine gfX3_11 hx hb hts hown hK hP 0 rfl dX3_howMany_16 ?_
        refine lv_iload_n hx hb dX3_howMany_19 rfl (lv_at hl 3 rfl) ?_
        refine lv_bipush (v := (6 : Int32)) hx hb dX3_howMany_20 (by decide) ?_
        refine lv_imul hx hb dX3_howMany_22 ?_
        refine lv_iconst (v := (3 : Int32)) hx hb dX3_howMany_23 (by decide) ?_
        refine lv_iadd hx hb dX3_howMany_24 ?_
        obtain ⟨hin, h⟩ := h
        refine ldi (k := ((l3 * (6 : Int32)) + (3 : Int32)).toNatClampNeg) hx hb hK hP 2 rfl hin rfl dX3_howMany_25 ?_
        refine lv_iload_n hx hb dX3_howMany_26 rfl (lv_at hl 1 rfl) ?_
        refine lv_icmp_ne (tgt := 33) hx hb dX3_howMany_27 (by decide) (fun c27 => ?_) (fun c27 => ?_)
        · have h := h.1 c27
          obtain ⟨l3_33, el3_33⟩ : ∃ y : Int32, y = l3 + (1 : Int32) := ⟨_, rfl⟩
          have h := h l3_33 el3_33
          refine lv_iinc (v := l3_33) (lv' := [(3, .int l3_33), (0, .ref h0), (1, .int l1), (2, .int l2)]) hx hb dX3_howMany_33 hl (k := 3) rfl (by rw [el3_33]; rfl) (by decide) rfl (fun ls hl => ?_)
          refine lv_goto (tgt := 4) hx hb dX3_howMany_36 (by decide) ?_
          exact ih4 l2 l3_33 _ _ _ h hP hD hS (lv_sub hl [1, 2, 3, 0] rfl)
        · have h := h.2 c27
          obtain ⟨l2_30, el2_30⟩ : ∃ y : Int32, y = l2 + (1 : Int32) := ⟨_, rfl⟩
          have h := h l2_30 el2_30
          refine lv_iinc (v := l2_30) (lv' := [(2, .int l2_30), (0, .ref h0), (1, .int l1), (3, .int l3)]) hx hb dX3_howMany_30 hl (k := 2) rfl (by rw [el2_30]; rfl) (by decide) rfl (fun ls hl => ?_)
          obtain ⟨l3_33, el3_33⟩ : ∃ y : Int32, y = l3 + (1 : Int32) := ⟨_, rfl⟩
          have h := h l3_33 el3_33
          refine lv_iinc (v := l3_33) (lv' := [(3, .int l3_33), (2, .int l2_30), (0, .ref h0), (1, .int l1)]) hx hb dX3_howMany_33 hl (k := 3) rfl (by rw [el3_33]; rfl) (by decide) rfl (fun ls hl => ?_)
          refine lv_goto (tgt := 4) hx hb dX3_howMany_36 (by decide) ?_
          exact ih4 l2_30 l3_33 _ _ _ h hP hD hS (lv_sub hl [2, 3, 1, 0] rfl)
  refine lv_iconst (v := (0 : Int32)) hx hb dX3_howMany_0 (by decide) ?_
  refine lv_istore_n (lv' := [(2, .int (0 : Int32)), (0, .ref h0), (1, .int x1)]) hx hb dX3_howMany_1 rfl hl (by decide) rfl (fun ls hl => ?_)
  refine lv_iconst (v := (0 : Int32)) hx hb dX3_howMany_2 (by decide) ?_
  refine lv_istore_n (lv' := [(3, .int (0 : Int32)), (2, .int (0 : Int32)), (0, .ref h0), (1, .int x1)]) hx hb dX3_howMany_3 rfl hl (by decide) rfl (fun ls hl => ?_)
  obtain ⟨nf4, h⟩ := h
  refine L4 x1 _ (fun l2_39 l3_39 H locs ls h hP hD hS hl => ?_) nf4 (0 : Int32) (0 : Int32) _ _ _ h hP hD hS (lv_sub hl [2, 3, 1, 0] rfl)
  refine lv_iload_n hx hb dX3_howMany_39 rfl (lv_at hl 1 rfl) ?_
  exact hret l2_39 () _ _ _ _ rfl dX3_howMany_40 h hP hD hS
def wpX3_canRing_L15 (sG : AR) (F_all : AR) (l1 : Int32) (kx56 : Int32 → Prop) (post : Int32 → Prop) : Nat → Int32 → Prop
  | 0, _ => False
  | nf15 + 1, l2 => (((sG 2) ≤ l2 → kx56 l2) ∧ (¬ (sG 2) ≤ l2 → ((¬ ((jshr l1 l2) &&& (1 : Int32)) = (1 : Int32) → ∀ l2_50 : Int32, l2_50 = (l2 + (1 : Int32)) → wpX3_canRing_L15 sG F_all l1 kx56 post nf15 l2_50) ∧ (((jshr l1 l2) &&& (1 : Int32)) = (1 : Int32) → vp_in ((24 : Int32) + l2) 29 ∧ (((1 : Int32) ≤ (F_all ((24 : Int32) + l2).toNatClampNeg) → ∀ l2_50 : Int32, l2_50 = (l2 + (1 : Int32)) → wpX3_canRing_L15 sG F_all l1 kx56 post nf15 l2_50) ∧ (¬ (1 : Int32) ≤ (F_all ((24 : Int32) + l2).toNatClampNeg) → post (0 : Int32)))))))
def wpX3_canRing (sG : AR) (F_all : AR) (x1 : Int32) (post : Int32 → Prop) : Prop := wpX4_hasTowers sG x1 (fun r5 => ((¬ r5 = 0 → ∃ nf15 : Nat, wpX3_canRing_L15 sG F_all x1 (fun l2_56 => post (1 : Int32)) post nf15 (0 : Int32)) ∧ (r5 = 0 → post (0 : Int32))))
set_option maxHeartbeats 4000000 in
set_option maxRecDepth 100000 in
theorem ctX3_canRing (l : Launch) (D : va_G) (cy : Nat → ClassId) (ev : Nat → Nat) (h0 : Nat) (rF : Nat → Nat) (rG : Nat → Nat) (sG : AR) (F_all : AR) (x1 : Int32) (sz : Nat) (post : Int32 → Prop) (h : wpX3_canRing sG F_all x1 post) : Met l yX3_canRing (Cond.code yX3_canRing cX3_canRing 3 (some .boolean) :: TB) ({ frames := 1, cells := 0, slots := 0, locals := 21 }) (va_Pc [.ref h0, .int x1] (PreX D cy ev [(h0, .inr (3, oX3 rF)), ((rF 0), .inr (4, oX4 rG sG)), ((rF 3), .inl (cy 0, 29, .inl F_all))] sz)) (va_Qi (fun (r : Int32) (u : Unit) => post r) (fun u => BkX D cy [(h0, .inr (3, oX3 rF)), ((rF 0), .inr (4, oX4 rG sG)), ((rF 3), .inl (cy 0, 29, .inl F_all))] sz [(h0, .inr (3, oX3 rF)), ((rF 0), .inr (4, oX4 rG sG)), ((rF 3), .inl (cy 0, 29, .inl F_all))]) (va_A [(h0, .inr (3, oX3 rF)), ((rF 0), .inr (4, oX4 rG sG)), ((rF 3), .inl (cy 0, 29, .inl F_all))] sz)) 0 0 (va_A [(h0, .inr (3, oX3 rF)), ((rF 0), .inr (4, oX4 rG sG)), ((rF 3), .inl (cy 0, 29, .inl F_all))] sz) := by
  refine ofWi (by decide) (Nat.le_of_ble_eq_true rfl) ?_
  intro p e s m args below meth c ls A R QQ hx hb hml hown hts hR hlk hE hK hP hD hS hA hl hret
  have hown : s.vm.findClass RX3 = some m.cls := hown
  have hRf : 1 ≤ R.frames := by rw [hR]; exact Nat.le_refl _
  have hRl : 21 ≤ R.locals := by rw [hR]; exact Nat.le_refl _
  clear hR
  have hl : lv_has ls 3 [(0, .ref h0), (1, .int x1)] := hl
  have L15 : ∀ (l1 : Int32) (kx56 : Int32 → Prop), (∀ (l2 : Int32) (H : Heap) (locs : List Loc) (ls : Array Slot), kx56 l2 → va_P D clsX [(h0, .inr (3, oX3 rF)), ((rF 0), .inr (4, oX4 rG sG)), ((rF 3), .inl (cy 0, 29, .inl F_all))] H → va_D A [(h0, .inr (3, oX3 rF)), ((rF 0), .inr (4, oX4 rG sG)), ((rF 3), .inl (cy 0, 29, .inl F_all))] → va_S A s.heap H locs → lv_has ls 3 [(0, .ref h0)] → W p l e R s m args below meth c H locs 0 0 QQ (F0 m 56 ls [])) → ∀ (nf15 : Nat) (l2 : Int32) (H : Heap) (locs : List Loc) (ls : Array Slot), wpX3_canRing_L15 sG F_all l1 kx56 post nf15 l2 → va_P D clsX [(h0, .inr (3, oX3 rF)), ((rF 0), .inr (4, oX4 rG sG)), ((rF 3), .inl (cy 0, 29, .inl F_all))] H → va_D A [(h0, .inr (3, oX3 rF)), ((rF 0), .inr (4, oX4 rG sG)), ((rF 3), .inl (cy 0, 29, .inl F_all))] → va_S A s.heap H locs → lv_has ls 3 [(0, .ref h0), (1, .int l1), (2, .int l2)] → W p l e R s m args below meth c H locs 0 0 QQ (F0 m 15 ls []) := by
    intro l1 kx56 hk15_56 nf15
    induction nf15 with
    | zero =>
      intro l2 H locs ls h
      exact (show False from h).elim
    | succ nf15 ih15 =>
      intro l2 H locs ls h hP hD hS hl
      refine lv_iload_n hx hb dX3_canRing_15 rfl (lv_at hl 2 rfl) ?_
      refine lv_aload_n hx hb dX3_canRing_16 rfl (lv_at hl 0 rfl) ?_
      refine gfX3_18 hx hb hts hown hK hP 0 rfl dX3_canRing_17 ?_
      refine gfX3_42 (v := (sG 2)) hx hb hts hown hK hP 1 rfl rfl dX3_canRing_20 ?_
      refine lv_icmp_ge (tgt := 56) hx hb dX3_canRing_23 (by decide) (fun c23 => ?_) (fun c23 => ?_)
      · have h := h.1 c23
        exact hk15_56 l2 _ _ _ h hP hD hS (lv_sub hl [0] rfl)
      · have h := h.2 c23
        refine lv_iload_n hx hb dX3_canRing_26 rfl (lv_at hl 1 rfl) ?_
        refine lv_iload_n hx hb dX3_canRing_27 rfl (lv_at hl 2 rfl) ?_
        refine lv_ishr hx hb dX3_canRing_28 ?_
        refine lv_iconst (v := (1 : Int32)) hx hb dX3_canRing_29 (by decide) ?_
        refine lv_iand hx hb dX3_canRing_30 ?_
        refine lv_iconst (v := (1 : Int32)) hx hb dX3_canRing_31 (by decide) ?_
        refine lv_icmp_ne (tgt := 50) hx hb dX3_canRing_32 (by decide) (fun c32 => ?_) (fun c32 => ?_)
        · have h := h.1 c32
          obtain ⟨l2_50, el2_50⟩ : ∃ y : Int32, y = l2 + (1 : Int32) := ⟨_, rfl⟩
          have h := h l2_50 el2_50
          refine lv_iinc (v := l2_50) (lv' := [(2, .int l2_50), (0, .ref h0), (1, .int l1)]) hx hb dX3_canRing_50 hl (k := 2) rfl (by rw [el2_50]; rfl) (by decide) rfl (fun ls hl => ?_)
          refine lv_goto (tgt := 15) hx hb dX3_canRing_53 (by decide) ?_
          exact ih15 l2_50 _ _ _ h hP hD hS (lv_sub hl [1, 2, 0] rfl)
        · have h := h.2 c32
          refine lv_aload_n hx hb dX3_canRing_35 rfl (lv_at hl 0 rfl) ?_
          refine gfX3_11 hx hb hts hown hK hP 0 rfl dX3_canRing_36 ?_
          refine lv_bipush (v := (24 : Int32)) hx hb dX3_canRing_39 (by decide) ?_
          refine lv_iload_n hx hb dX3_canRing_41 rfl (lv_at hl 2 rfl) ?_
          refine lv_iadd hx hb dX3_canRing_42 ?_
          obtain ⟨hin, h⟩ := h
          refine ldi (k := ((24 : Int32) + l2).toNatClampNeg) hx hb hK hP 2 rfl hin rfl dX3_canRing_43 ?_
          refine lv_iconst (v := (1 : Int32)) hx hb dX3_canRing_44 (by decide) ?_
          refine lv_icmp_ge (tgt := 50) hx hb dX3_canRing_45 (by decide) (fun c45 => ?_) (fun c45 => ?_)
          · have h := h.1 c45
            obtain ⟨l2_50, el2_50⟩ : ∃ y : Int32, y = l2 + (1 : Int32) := ⟨_, rfl⟩
            have h := h l2_50 el2_50
            refine lv_iinc (v := l2_50) (lv' := [(2, .int l2_50), (0, .ref h0), (1, .int l1)]) hx hb dX3_canRing_50 hl (k := 2) rfl (by rw [el2_50]; rfl) (by decide) rfl (fun ls hl => ?_)
            refine lv_goto (tgt := 15) hx hb dX3_canRing_53 (by decide) ?_
            exact ih15 l2_50 _ _ _ h hP hD hS (lv_sub hl [1, 2, 0] rfl)
          · have h := h.2 c45
            refine lv_iconst (v := (0 : Int32)) hx hb dX3_canRing_48 (by decide) ?_
            exact hret (0 : Int32) () _ _ _ _ rfl dX3_canRing_49 h hP hD hS
  refine lv_aload_n hx hb dX3_canRing_0 rfl (lv_at hl 0 rfl) ?_
  refine gfX3_18 hx hb hts hown hK hP 0 rfl dX3_canRing_1 ?_
  refine lv_iload_n hx hb dX3_canRing_4 rfl (lv_at hl 1 rfl) ?_
  refine clVi (As := [.int x1]) (rest := []) (Wr := [(h0, .inr (3, oX3 rF)), ((rF 3), .inl (cy 0, 29, .inl F_all))]) (cq := (RX4, TX4, 16)) ⟨hx, hb, hml, hown, hts⟩ ⟨callB_of 1 hts (goodC mw534) rfl rfl rfl (hts _ (tb mw3)) (hts _ (tb mw531)) kdX4_hasTowers ⟨Nat.le_trans (by decide) hRf, Nat.le_trans (by decide) hRl⟩, hts _ (tb mw532), hts _ (tb mw533)⟩ (ctX4_hasTowers l D cy ev (rF 0) rG sG x1 _ _ h) hE hK hP hD hS hA [1] [0, 2] rfl rfl (by decide) (by decide) (by decide) 0 rfl rfl rfl hl.1 rfl (Nat.le_of_ble_eq_true rfl) ⟨Nat.zero_le _, Nat.zero_le _⟩ dX3_canRing_5 (fun r5 u H locs h hP hD hS => ?_)
  have hP : va_P D clsX [(h0, .inr (3, oX3 rF)), ((rF 3), .inl (cy 0, 29, .inl F_all)), ((rF 0), .inr (4, oX4 rG sG))] H := hP
  have hD : va_D A [(h0, .inr (3, oX3 rF)), ((rF 3), .inl (cy 0, 29, .inl F_all)), ((rF 0), .inr (4, oX4 rG sG))] := hD
  refine lv_if_ne (tgt := 13) hx hb dX3_canRing_8 (by decide) (fun c8 => ?_) (fun c8 => ?_)
  · have h := h.1 c8
    refine lv_iconst (v := (0 : Int32)) hx hb dX3_canRing_13 (by decide) ?_
    refine lv_istore_n (lv' := [(2, .int (0 : Int32)), (0, .ref h0), (1, .int x1)]) hx hb dX3_canRing_14 rfl hl (by decide) rfl (fun ls hl => ?_)
    obtain ⟨nf15, h⟩ := h
    refine L15 x1 _ (fun l2_56 H locs ls h hP hD hS hl => ?_) nf15 (0 : Int32) _ _ _ h (hP.sub [0, 2, 1] rfl) (hD.sub [0, 2, 1] (by decide) rfl) hS (lv_sub hl [1, 2, 0] rfl)
    refine lv_iconst (v := (1 : Int32)) hx hb dX3_canRing_56 (by decide) ?_
    exact hret (1 : Int32) () _ _ _ _ rfl dX3_canRing_57 h hP hD hS
  · have h := h.2 c8
    refine lv_iconst (v := (0 : Int32)) hx hb dX3_canRing_11 (by decide) ?_
    exact hret (0 : Int32) () _ _ _ _ rfl dX3_canRing_12 h (hP.sub [0, 2, 1] rfl) (hD.sub [0, 2, 1] (by decide) rfl) hS
def wpX3_falls (F_all : AR) (G_kind : AR) (x1 : Int32) (post : Int32 → AR → Prop) : Prop := ∀ l2_4 : Int32, l2_4 = (x1 * (6 : Int32)) → vp_in x1 4 ∧ ((¬ (G_kind x1.toNatClampNeg) = (4 : Int32) → vp_in (l2_4 + (1 : Int32)) 29 ∧ (((F_all (l2_4 + (1 : Int32)).toNatClampNeg) ≤ 0 → vp_in (l2_4 + (3 : Int32)) 29 ∧ ∀ F_all_53 : AR, F_all_53 = upd F_all (l2_4 + (3 : Int32)).toNatClampNeg (3 : Int32) → vp_in (l2_4 + (5 : Int32)) 29 ∧ vp_in (l2_4 + (5 : Int32)) 29 ∧ ∀ F_all_65 : AR, F_all_65 = upd F_all_53 (l2_4 + (5 : Int32)).toNatClampNeg ((F_all_53 (l2_4 + (5 : Int32)).toNatClampNeg) + (1 : Int32)) → post (1 : Int32) F_all_65) ∧ (¬ (F_all (l2_4 + (1 : Int32)).toNatClampNeg) ≤ 0 → vp_in (l2_4 + (1 : Int32)) 29 ∧ vp_in (l2_4 + (1 : Int32)) 29 ∧ ∀ F_all_42 : AR, F_all_42 = upd F_all (l2_4 + (1 : Int32)).toNatClampNeg ((F_all (l2_4 + (1 : Int32)).toNatClampNeg) - (1 : Int32)) → post (0 : Int32) F_all_42))) ∧ ((G_kind x1.toNatClampNeg) = (4 : Int32) → post (0 : Int32) F_all))
set_option maxHeartbeats 4000000 in
set_option maxRecDepth 100000 in
theorem ctX3_falls (l : Launch) (D : va_G) (cy : Nat → ClassId) (ev : Nat → Nat) (h0 : Nat) (rF : Nat → Nat) (rG : Nat → Nat) (sG : AR) (F_all : AR) (G_kind : AR) (x1 : Int32) (sz : Nat) (post : Int32 → AR → Prop) (h : wpX3_falls F_all G_kind x1 post) : Met l yX3_falls (Cond.code yX3_falls cX3_falls 3 (some .boolean) :: TB) ({ frames := 0, cells := 0, slots := 0, locals := 0 }) (va_Pc [.ref h0, .int x1] (PreX D cy ev [(h0, .inr (3, oX3 rF)), ((rF 0), .inr (4, oX4 rG sG)), ((rF 3), .inl (cy 0, 29, .inl F_all)), ((rG 12), .inl (cy 0, 4, .inl G_kind))] sz)) (va_Qi (fun (r : Int32) (u : AR) => post r u) (fun u => BkX D cy [(h0, .inr (3, oX3 rF)), ((rF 0), .inr (4, oX4 rG sG)), ((rF 3), .inl (cy 0, 29, .inl F_all)), ((rG 12), .inl (cy 0, 4, .inl G_kind))] sz [(h0, .inr (3, oX3 rF)), ((rF 0), .inr (4, oX4 rG sG)), ((rF 3), .inl (cy 0, 29, .inl u)), ((rG 12), .inl (cy 0, 4, .inl G_kind))]) (va_A [(h0, .inr (3, oX3 rF)), ((rF 0), .inr (4, oX4 rG sG)), ((rF 3), .inl (cy 0, 29, .inl F_all)), ((rG 12), .inl (cy 0, 4, .inl G_kind))] sz)) 0 0 (va_A [(h0, .inr (3, oX3 rF)), ((rF 0), .inr (4, oX4 rG sG)), ((rF 3), .inl (cy 0, 29, .inl F_all)), ((rG 12), .inl (cy 0, 4, .inl G_kind))] sz) := by
  refine ofWi (by decide) (Nat.le_of_ble_eq_true rfl) ?_
  intro p e s m args below meth c ls A R QQ hx hb hml hown hts hR hlk hE hK hP hD hS hA hl hret
  have hown : s.vm.findClass RX3 = some m.cls := hown
  have hRf : 0 ≤ R.frames := by rw [hR]; exact Nat.le_refl _
  have hRl : 0 ≤ R.locals := by rw [hR]; exact Nat.le_refl _
  clear hR
  have hl : lv_has ls 3 [(0, .ref h0), (1, .int x1)] := hl
  refine lv_iload_n hx hb dX3_falls_0 rfl (lv_at hl 1 rfl) ?_
  refine lv_bipush (v := (6 : Int32)) hx hb dX3_falls_1 (by decide) ?_
  refine lv_imul hx hb dX3_falls_3 ?_
  refine lv_topi (fun l2_4 el2_4 => ?_)
  have h := h l2_4 el2_4
  refine lv_istore_n (lv' := [(2, .int l2_4), (0, .ref h0), (1, .int x1)]) hx hb dX3_falls_4 rfl hl (by decide) rfl (fun ls hl => ?_)
  refine lv_aload_n hx hb dX3_falls_5 rfl (lv_at hl 1 rfl) ?_
  refine gfX3_18 hx hb hts hown hK hP 0 rfl dX3_falls_6 ?_
  refine gfX3_68 hx hb hts hown hK hP 1 rfl dX3_falls_9 ?_
  refine lv_iload_n hx hb dX3_falls_12 rfl (lv_at hl 2 rfl) ?_
  obtain ⟨hin, h⟩ := h
  refine ldi (k := x1.toNatClampNeg) hx hb hK hP 3 rfl hin rfl dX3_falls_13 ?_
  refine lv_iconst (v := (4 : Int32)) hx hb dX3_falls_14 (by decide) ?_
  refine lv_icmp_ne (tgt := 20) hx hb dX3_falls_15 (by decide) (fun c15 => ?_) (fun c15 => ?_)
  · have h := h.1 c15
    refine lv_aload_n hx hb dX3_falls_20 rfl (lv_at hl 1 rfl) ?_
    refine gfX3_11 hx hb hts hown hK hP 0 rfl dX3_falls_21 ?_
    refine lv_iload_n hx hb dX3_falls_24 rfl (lv_at hl 0 rfl) ?_
    refine lv_iconst (v := (1 : Int32)) hx hb dX3_falls_25 (by decide) ?_
    refine lv_iadd hx hb dX3_falls_26 ?_
    obtain ⟨hin, h⟩ := h
    refine ldi (k := (l2_4 + (1 : Int32)).toNatClampNeg) hx hb hK hP 2 rfl hin rfl dX3_falls_27 ?_
    refine lv_if_le (tgt := 45) hx hb dX3_falls_28 (by decide) (fun c28 => ?_) (fun c28 => ?_)
    · have h := h.1 c28
      refine lv_aload_n hx hb dX3_falls_45 rfl (lv_at hl 1 rfl) ?_
      refine gfX3_11 hx hb hts hown hK hP 0 rfl dX3_falls_46 ?_
      refine lv_iload_n hx hb dX3_falls_49 rfl (lv_at hl 0 rfl) ?_
      refine lv_iconst (v := (3 : Int32)) hx hb dX3_falls_50 (by decide) ?_
      refine lv_iadd hx hb dX3_falls_51 ?_
      refine lv_iconst (v := (3 : Int32)) hx hb dX3_falls_52 (by decide) ?_
      obtain ⟨hin, h⟩ := h
      refine sti (k := (l2_4 + (3 : Int32)).toNatClampNeg) (y := (3 : Int32)) hx hb hK hP hD hS 2 rfl hin rfl rfl dX3_falls_53 (fun F_all_53 eF_all_53 H locs hP hD hS => ?_)
      have h := h F_all_53 eF_all_53
      have hP : va_P D clsX [(h0, .inr (3, oX3 rF)), ((rF 0), .inr (4, oX4 rG sG)), ((rF 3), .inl (cy 0, 29, .inl F_all_53)), ((rG 12), .inl (cy 0, 4, .inl G_kind))] H := hP
      have hD : va_D A [(h0, .inr (3, oX3 rF)), ((rF 0), .inr (4, oX4 rG sG)), ((rF 3), .inl (cy 0, 29, .inl F_all_53)), ((rG 12), .inl (cy 0, 4, .inl G_kind))] := hD
      refine lv_aload_n hx hb dX3_falls_54 rfl (lv_at hl 1 rfl) ?_
      refine gfX3_11 hx hb hts hown hK hP 0 rfl dX3_falls_55 ?_
      refine lv_iload_n hx hb dX3_falls_58 rfl (lv_at hl 0 rfl) ?_
      refine lv_iconst (v := (5 : Int32)) hx hb dX3_falls_59 (by decide) ?_
      refine lv_iadd hx hb dX3_falls_60 ?_
      refine lv_dup2_11 hx hb dX3_falls_61 rfl rfl ?_
      obtain ⟨hin, h⟩ := h
      refine ldi (k := (l2_4 + (5 : Int32)).toNatClampNeg) hx hb hK hP 2 rfl hin rfl dX3_falls_62 ?_
      refine lv_iconst (v := (1 : Int32)) hx hb dX3_falls_63 (by decide) ?_
      refine lv_iadd hx hb dX3_falls_64 ?_
      obtain ⟨hin, h⟩ := h
      refine sti (k := (l2_4 + (5 : Int32)).toNatClampNeg) (y := ((F_all_53 (l2_4 + (5 : Int32)).toNatClampNeg) + (1 : Int32))) hx hb hK hP hD hS 2 rfl hin rfl rfl dX3_falls_65 (fun F_all_65 eF_all_65 H locs hP hD hS => ?_)
      have h := h F_all_65 eF_all_65
      have hP : va_P D clsX [(h0, .inr (3, oX3 rF)), ((rF 0), .inr (4, oX4 rG sG)), ((rF 3), .inl (cy 0, 29, .inl F_all_65)), ((rG 12), .inl (cy 0, 4, .inl G_kind))] H := hP
      have hD : va_D A [(h0, .inr (3, oX3 rF)), ((rF 0), .inr (4, oX4 rG sG)), ((rF 3), .inl (cy 0, 29, .inl F_all_65)), ((rG 12), .inl (cy 0, 4, .inl G_kind))] := hD
      refine lv_iconst (v := (1 : Int32)) hx hb dX3_falls_66 (by decide) ?_
      exact hret (1 : Int32) (F_all_65) _ _ _ _ rfl dX3_falls_67 h hP hD hS
    · have h := h.2 c28
      refine lv_aload_n hx hb dX3_falls_31 rfl (lv_at hl 1 rfl) ?_
      refine gfX3_11 hx hb hts hown hK hP 0 rfl dX3_falls_32 ?_
      refine lv_iload_n hx hb dX3_falls_35 rfl (lv_at hl 0 rfl) ?_
      refine lv_iconst (v := (1 : Int32)) hx hb dX3_falls_36 (by decide) ?_
      refine lv_iadd hx hb dX3_falls_37 ?_
      refine lv_dup2_11 hx hb dX3_falls_38 rfl rfl ?_
      obtain ⟨hin, h⟩ := h
      refine ldi (k := (l2_4 + (1 : Int32)).toNatClampNeg) hx hb hK hP 2 rfl hin rfl dX3_falls_39 ?_
      refine lv_iconst (v := (1 : Int32)) hx hb dX3_falls_40 (by decide) ?_
      refine lv_isub hx hb dX3_falls_41 ?_
      obtain ⟨hin, h⟩ := h
      refine sti (k := (l2_4 + (1 : Int32)).toNatClampNeg) (y := ((F_all (l2_4 + (1 : Int32)).toNatClampNeg) - (1 : Int32))) hx hb hK hP hD hS 2 rfl hin rfl rfl dX3_falls_42 (fun F_all_42 eF_all_42 H locs hP hD hS => ?_)
      have h := h F_all_42 eF_all_42
      have hP : va_P D clsX [(h0, .inr (3, oX3 rF)), ((rF 0), .inr (4, oX4 rG sG)), ((rF 3), .inl (cy 0, 29, .inl F_all_42)), ((rG 12), .inl (cy 0, 4, .inl G_kind))] H := hP
      have hD : va_D A [(h0, .inr (3, oX3 rF)), ((rF 0), .inr (4, oX4 rG sG)), ((rF 3), .inl (cy 0, 29, .inl F_all_42)), ((rG 12), .inl (cy 0, 4, .inl G_kind))] := hD
      refine lv_iconst (v := (0 : Int32)) hx hb dX3_falls_43 (by decide) ?_
      exact hret (0 : Int32) (F_all_42) _ _ _ _ rfl dX3_falls_44 h hP hD hS
  · have h := h.2 c15
    refine lv_iconst (v := (0 : Int32)) hx hb dX3_falls_18 (by decide) ?_
    exact hret (0 : Int32) (F_all) _ _ _ _ rfl dX3_falls_19 h hP hD hS
def wpX3_choose_J79 (F_all : AR) (G_kind : AR) (E_heardAt : AR) (E_nearest : AR) (E_ofVoice : AR) (E_alike : AR) (l2 : Int32) (l3 : Int32) (post : Int32 → Prop) : Prop := wpX1_nearestOf E_nearest l2 l3 (fun r85 => post r85)
def wpX3_choose_J39 (F_all : AR) (G_kind : AR) (E_heardAt : AR) (E_nearest : AR) (E_ofVoice : AR) (E_alike : AR) (l1 : Int32) (l2 : Int32) (l3 : Int32) (l4 : Int32) (post : Int32 → Prop) : Prop := wpX3_of F_all l1 (4 : Int32) (fun r42 => ((¬ l4 = (1 : Int32) → wpX3_choose_J79 F_all G_kind E_heardAt E_nearest E_ofVoice E_alike l2 l3 post) ∧ (l4 = (1 : Int32) → ((r42 < 0 → wpX3_choose_J79 F_all G_kind E_heardAt E_nearest E_ofVoice E_alike l2 l3 post) ∧ (¬ r42 < 0 → wpX1_nearestLike E_nearest E_alike r42 l2 l3 (fun r66 => ((r66 < 0 → wpX3_choose_J79 F_all G_kind E_heardAt E_nearest E_ofVoice E_alike l2 l3 post) ∧ (¬ r66 < 0 → post r66))))))))
def wpX3_choose (F_all : AR) (G_kind : AR) (E_heardAt : AR) (E_nearest : AR) (E_ofVoice : AR) (E_alike : AR) (x1 : Int32) (x2 : Int32) (post : Int32 → Prop) : Prop := wpX3_of F_all x1 (0 : Int32) (fun r3 => vp_in x1 4 ∧ ∀ l4_16 : Int32, l4_16 = (G_kind x1.toNatClampNeg) → ((¬ l4_16 = (2 : Int32) → wpX3_choose_J39 F_all G_kind E_heardAt E_nearest E_ofVoice E_alike x1 x2 r3 l4_16 post) ∧ (l4_16 = (2 : Int32) → wpX1_confuse E_heardAt E_ofVoice x2 r3 (fun r30 => ((r30 = 0 → wpX3_choose_J39 F_all G_kind E_heardAt E_nearest E_ofVoice E_alike x1 x2 r3 l4_16 post) ∧ (¬ r30 = 0 → post (-2 : Int32)))))))
set_option maxHeartbeats 4000000 in
set_option maxRecDepth 100000 in
theorem ctX3_choose (l : Launch) (D : va_G) (cy : Nat → ClassId) (ev : Nat → Nat) (h0 : Nat) (rF : Nat → Nat) (rG : Nat → Nat) (rE : Nat → Nat) (sG : AR) (F_all : AR) (G_kind : AR) (E_heardAt : AR) (E_nearest : AR) (E_ofVoice : AR) (E_alike : AR) (x1 : Int32) (x2 : Int32) (sz : Nat) (post : Int32 → Prop) (h : wpX3_choose F_all G_kind E_heardAt E_nearest E_ofVoice E_alike x1 x2 post) : Met l yX3_choose (Cond.code yX3_choose cX3_choose 7 (some .int) :: TB) ({ frames := 1, cells := 0, slots := 0, locals := 25 }) (va_Pc [.ref h0, .int x1, .int x2] (PreX D cy ev [(h0, .inr (3, oX3 rF)), ((rF 0), .inr (4, oX4 rG sG)), ((rF 1), .inr (1, oX1 rE)), ((rF 3), .inl (cy 0, 29, .inl F_all)), ((rG 12), .inl (cy 0, 4, .inl G_kind)), ((rE 0), .inl (cy 1, 100, .inl E_heardAt)), ((rE 1), .inl (cy 1, 3200, .inl E_nearest)), ((rE 3), .inl (cy 0, 4, .inl E_ofVoice)), ((rE 4), .inl (cy 0, 5, .inl E_alike))] sz)) (va_Qi (fun (r : Int32) (u : Unit) => post r) (fun u => BkX D cy [(h0, .inr (3, oX3 rF)), ((rF 0), .inr (4, oX4 rG sG)), ((rF 1), .inr (1, oX1 rE)), ((rF 3), .inl (cy 0, 29, .inl F_all)), ((rG 12), .inl (cy 0, 4, .inl G_kind)), ((rE 0), .inl (cy 1, 100, .inl E_heardAt)), ((rE 1), .inl (cy 1, 3200, .inl E_nearest)), ((rE 3), .inl (cy 0, 4, .inl E_ofVoice)), ((rE 4), .inl (cy 0, 5, .inl E_alike))] sz [(h0, .inr (3, oX3 rF)), ((rF 0), .inr (4, oX4 rG sG)), ((rF 1), .inr (1, oX1 rE)), ((rF 3), .inl (cy 0, 29, .inl F_all)), ((rG 12), .inl (cy 0, 4, .inl G_kind)), ((rE 0), .inl (cy 1, 100, .inl E_heardAt)), ((rE 1), .inl (cy 1, 3200, .inl E_nearest)), ((rE 3), .inl (cy 0, 4, .inl E_ofVoice)), ((rE 4), .inl (cy 0, 5, .inl E_alike))]) (va_A [(h0, .inr (3, oX3 rF)), ((rF 0), .inr (4, oX4 rG sG)), ((rF 1), .inr (1, oX1 rE)), ((rF 3), .inl (cy 0, 29, .inl F_all)), ((rG 12), .inl (cy 0, 4, .inl G_kind)), ((rE 0), .inl (cy 1, 100, .inl E_heardAt)), ((rE 1), .inl (cy 1, 3200, .inl E_nearest)), ((rE 3), .inl (cy 0, 4, .inl E_ofVoice)), ((rE 4), .inl (cy 0, 5, .inl E_alike))] sz)) 0 0 (va_A [(h0, .inr (3, oX3 rF)), ((rF 0), .inr (4, oX4 rG sG)), ((rF 1), .inr (1, oX1 rE)), ((rF 3), .inl (cy 0, 29, .inl F_all)), ((rG 12), .inl (cy 0, 4, .inl G_kind)), ((rE 0), .inl (cy 1, 100, .inl E_heardAt)), ((rE 1), .inl (cy 1, 3200, .inl E_nearest)), ((rE 3), .inl (cy 0, 4, .inl E_ofVoice)), ((rE 4), .inl (cy 0, 5, .inl E_alike))] sz) := by
  refine ofWi (by decide) (Nat.le_of_ble_eq_true rfl) ?_
  intro p e s m args below meth c ls A R QQ hx hb hml hown hts hR hlk hE hK hP hD hS hA hl hret
  have hown : s.vm.findClass RX3 = some m.cls := hown
  have hRf : 1 ≤ R.frames := by rw [hR]; exact Nat.le_refl _
  have hRl : 25 ≤ R.locals := by rw [hR]; exact Nat.le_refl _
  clear hR
  have hl : lv_has ls 7 [(0, .ref h0), (1, .int x1), (2, .int x2)] := hl
  have J39 : ∀ (l1 : Int32) (l2 : Int32) (l3 : Int32) (l4 : Int32) (H : Heap) (locs : List Loc) (ls : Array Slot), wpX3_choose_J39 F_all G_kind E_heardAt E_nearest E_ofVoice E_alike l1 l2 l3 l4 post → va_P D clsX [(h0, .inr (3, oX3 rF)), ((rF 0), .inr (4, oX4 rG sG)), ((rF 1), .inr (1, oX1 rE)), ((rF 3), .inl (cy 0, 29, .inl F_all)), ((rG 12), .inl (cy 0, 4, .inl G_kind)), ((rE 0), .inl (cy 1, 100, .inl E_heardAt)), ((rE 1), .inl (cy 1, 3200, .inl E_nearest)), ((rE 3), .inl (cy 0, 4, .inl E_ofVoice)), ((rE 4), .inl (cy 0, 5, .inl E_alike))] H → va_D A [(h0, .inr (3, oX3 rF)), ((rF 0), .inr (4, oX4 rG sG)), ((rF 1), .inr (1, oX1 rE)), ((rF 3), .inl (cy 0, 29, .inl F_all)), ((rG 12), .inl (cy 0, 4, .inl G_kind)), ((rE 0), .inl (cy 1, 100, .inl E_heardAt)), ((rE 1), .inl (cy 1, 3200, .inl E_nearest)), ((rE 3), .inl (cy 0, 4, .inl E_ofVoice)), ((rE 4), .inl (cy 0, 5, .inl E_alike))] → va_S A s.heap H locs → lv_has ls 7 [(0, .ref h0), (1, .int l1), (2, .int l2), (3, .int l3), (4, .int l4)] → W p l e R s m args below meth c H locs 0 0 QQ (F0 m 39 ls []) := by
    intro l1 l2 l3 l4 H locs ls h hP hD hS hl
    have J79 : ∀ (l2 : Int32) (l3 : Int32) (H : Heap) (locs : List Loc) (ls : Array Slot), wpX3_choose_J79 F_all G_kind E_heardAt E_nearest E_ofVoice E_alike l2 l3 post → va_P D clsX [(h0, .inr (3, oX3 rF)), ((rF 0), .inr (4, oX4 rG sG)), ((rF 1), .inr (1, oX1 rE)), ((rF 3), .inl (cy 0, 29, .inl F_all)), ((rG 12), .inl (cy 0, 4, .inl G_kind)), ((rE 0), .inl (cy 1, 100, .inl E_heardAt)), ((rE 1), .inl (cy 1, 3200, .inl E_nearest)), ((rE 3), .inl (cy 0, 4, .inl E_ofVoice)), ((rE 4), .inl (cy 0, 5, .inl E_alike))] H → va_D A [(h0, .inr (3, oX3 rF)), ((rF 0), .inr (4, oX4 rG sG)), ((rF 1), .inr (1, oX1 rE)), ((rF 3), .inl (cy 0, 29, .inl F_all)), ((rG 12), .inl (cy 0, 4, .inl G_kind)), ((rE 0), .inl (cy 1, 100, .inl E_heardAt)), ((rE 1), .inl (cy 1, 3200, .inl E_nearest)), ((rE 3), .inl (cy 0, 4, .inl E_ofVoice)), ((rE 4), .inl (cy 0, 5, .inl E_alike))] → va_S A s.heap H locs → lv_has ls 7 [(0, .ref h0), (2, .int l2), (3, .int l3)] → W p l e R s m args below meth c H locs 0 0 QQ (F0 m 79 ls []) := by
      intro l2 l3 H locs ls h hP hD hS hl
      refine lv_aload_n hx hb dX3_choose_79 rfl (lv_at hl 0 rfl) ?_
      refine gfX3_22 hx hb hts hown hK hP 0 rfl dX3_choose_80 ?_
      refine lv_iload_n hx hb dX3_choose_83 rfl (lv_at hl 1 rfl) ?_
      refine lv_iload_n hx hb dX3_choose_84 rfl (lv_at hl 2 rfl) ?_
      refine clVi (As := [.int l2, .int l3]) (rest := []) (Wr := [(h0, .inr (3, oX3 rF)), ((rF 0), .inr (4, oX4 rG sG)), ((rF 3), .inl (cy 0, 29, .inl F_all)), ((rG 12), .inl (cy 0, 4, .inl G_kind)), ((rE 0), .inl (cy 1, 100, .inl E_heardAt)), ((rE 3), .inl (cy 0, 4, .inl E_ofVoice)), ((rE 4), .inl (cy 0, 5, .inl E_alike))]) (cq := (RX1, TX1, 5)) ⟨hx, hb, hml, hown, hts⟩ ⟨callB_of 2 hts (goodC mw583) rfl rfl rfl (hts _ (tb mw4)) (hts _ (tb mw580)) kdX1_nearestOf ⟨Nat.le_trans (by decide) hRf, Nat.le_trans (by decide) hRl⟩, hts _ (tb mw581), hts _ (tb mw582)⟩ (ctX1_nearestOf l D cy ev (rF 1) rE E_nearest l2 l3 _ _ h) hE hK hP hD hS hA [2, 6] [0, 1, 3, 4, 5, 7, 8] rfl rfl (by decide) (by decide) (by decide) 0 rfl rfl rfl hl.1 rfl (Nat.le_of_ble_eq_true rfl) ⟨Nat.zero_le _, Nat.zero_le _⟩ dX3_choose_85 (fun r85 u H locs h hP hD hS => ?_)
      have hP : va_P D clsX [(h0, .inr (3, oX3 rF)), ((rF 0), .inr (4, oX4 rG sG)), ((rF 3), .inl (cy 0, 29, .inl F_all)), ((rG 12), .inl (cy 0, 4, .inl G_kind)), ((rE 0), .inl (cy 1, 100, .inl E_heardAt)), ((rE 3), .inl (cy 0, 4, .inl E_ofVoice)), ((rE 4), .inl (cy 0, 5, .inl E_alike)), ((rF 1), .inr (1, oX1 rE)), ((rE 1), .inl (cy 1, 3200, .inl E_nearest))] H := hP
      have hD : va_D A [(h0, .inr (3, oX3 rF)), ((rF 0), .inr (4, oX4 rG sG)), ((rF 3), .inl (cy 0, 29, .inl F_all)), ((rG 12), .inl (cy 0, 4, .inl G_kind)), ((rE 0), .inl (cy 1, 100, .inl E_heardAt)), ((rE 3), .inl (cy 0, 4, .inl E_ofVoice)), ((rE 4), .inl (cy 0, 5, .inl E_alike)), ((rF 1), .inr (1, oX1 rE)), ((rE 1), .inl (cy 1, 3200, .inl E_nearest))] := hD
      exact hret r85 () _ _ _ _ rfl dX3_choose_88 h (hP.sub [0, 1, 7, 2, 3, 4, 8, 5, 6] rfl) (hD.sub [0, 1, 7, 2, 3, 4, 8, 5, 6] (by decide) rfl) hS
    refine lv_aload_n hx hb dX3_choose_39 rfl (lv_at hl 0 rfl) ?_
    refine lv_iload_n hx hb dX3_choose_40 rfl (lv_at hl 1 rfl) ?_
    refine lv_iconst (v := (4 : Int32)) hx hb dX3_choose_41 (by decide) ?_
    refine clVi (As := [.int l1, .int (4 : Int32)]) (rest := []) (Wr := [((rF 0), .inr (4, oX4 rG sG)), ((rF 1), .inr (1, oX1 rE)), ((rG 12), .inl (cy 0, 4, .inl G_kind)), ((rE 0), .inl (cy 1, 100, .inl E_heardAt)), ((rE 1), .inl (cy 1, 3200, .inl E_nearest)), ((rE 3), .inl (cy 0, 4, .inl E_ofVoice)), ((rE 4), .inl (cy 0, 5, .inl E_alike))]) (cq := (RX3, TX3, 5)) ⟨hx, hb, hml, hown, hts⟩ ⟨callB_of 2 hts (goodC mw559) rfl rfl rfl (hts _ (tb mw9)) (hts _ (tb mw556)) kdX3_of ⟨Nat.le_trans (by decide) hRf, Nat.le_trans (by decide) hRl⟩, hts _ (tb mw557), hts _ (tb mw558)⟩ (ctX3_of l D cy ev h0 rF F_all l1 (4 : Int32) _ _ h) hE hK hP hD hS hA [0, 3] [1, 2, 4, 5, 6, 7, 8] rfl rfl (by decide) (by decide) (by decide) 0 rfl rfl rfl hl.1 rfl (Nat.le_of_ble_eq_true rfl) ⟨Nat.zero_le _, Nat.zero_le _⟩ dX3_choose_42 (fun r42 u H locs h hP hD hS => ?_)
    have hP : va_P D clsX [((rF 0), .inr (4, oX4 rG sG)), ((rF 1), .inr (1, oX1 rE)), ((rG 12), .inl (cy 0, 4, .inl G_kind)), ((rE 0), .inl (cy 1, 100, .inl E_heardAt)), ((rE 1), .inl (cy 1, 3200, .inl E_nearest)), ((rE 3), .inl (cy 0, 4, .inl E_ofVoice)), ((rE 4), .inl (cy 0, 5, .inl E_alike)), (h0, .inr (3, oX3 rF)), ((rF 3), .inl (cy 0, 29, .inl F_all))] H := hP
    have hD : va_D A [((rF 0), .inr (4, oX4 rG sG)), ((rF 1), .inr (1, oX1 rE)), ((rG 12), .inl (cy 0, 4, .inl G_kind)), ((rE 0), .inl (cy 1, 100, .inl E_heardAt)), ((rE 1), .inl (cy 1, 3200, .inl E_nearest)), ((rE 3), .inl (cy 0, 4, .inl E_ofVoice)), ((rE 4), .inl (cy 0, 5, .inl E_alike)), (h0, .inr (3, oX3 rF)), ((rF 3), .inl (cy 0, 29, .inl F_all))] := hD
    refine lv_istore (lv' := [(5, .int r42), (0, .ref h0), (1, .int l1), (2, .int l2), (3, .int l3), (4, .int l4)]) hx hb dX3_choose_45 hl (by decide) rfl (fun ls hl => ?_)
    refine lv_iload hx hb dX3_choose_47 (lv_at hl 5 rfl) ?_
    refine lv_iconst (v := (1 : Int32)) hx hb dX3_choose_49 (by decide) ?_
    refine lv_icmp_ne (tgt := 79) hx hb dX3_choose_50 (by decide) (fun c50 => ?_) (fun c50 => ?_)
    · have h := h.1 c50
      exact J79 l2 l3 _ _ _ h (hP.sub [7, 0, 1, 8, 2, 3, 4, 5, 6] rfl) (hD.sub [7, 0, 1, 8, 2, 3, 4, 5, 6] (by decide) rfl) hS (lv_sub hl [1, 3, 4] rfl)
    · have h := h.2 c50
      refine lv_iload hx hb dX3_choose_53 (lv_at hl 0 rfl) ?_
      refine lv_if_lt (tgt := 79) hx hb dX3_choose_55 (by decide) (fun c55 => ?_) (fun c55 => ?_)
      · have h := h.1 c55
        exact J79 l2 l3 _ _ _ h (hP.sub [7, 0, 1, 8, 2, 3, 4, 5, 6] rfl) (hD.sub [7, 0, 1, 8, 2, 3, 4, 5, 6] (by decide) rfl) hS (lv_sub hl [1, 3, 4] rfl)
      · have h := h.2 c55
        refine lv_aload_n hx hb dX3_choose_58 rfl (lv_at hl 1 rfl) ?_
        refine gfX3_22 hx hb hts hown hK hP 7 rfl dX3_choose_59 ?_
        refine lv_iload hx hb dX3_choose_62 (lv_at hl 0 rfl) ?_
        refine lv_iload_n hx hb dX3_choose_64 rfl (lv_at hl 3 rfl) ?_
        refine lv_iload_n hx hb dX3_choose_65 rfl (lv_at hl 4 rfl) ?_
        refine clVi (As := [.int r42, .int l2, .int l3]) (rest := []) (Wr := [((rF 0), .inr (4, oX4 rG sG)), ((rG 12), .inl (cy 0, 4, .inl G_kind)), ((rE 0), .inl (cy 1, 100, .inl E_heardAt)), ((rE 3), .inl (cy 0, 4, .inl E_ofVoice)), (h0, .inr (3, oX3 rF)), ((rF 3), .inl (cy 0, 29, .inl F_all))]) (cq := (RX1, TX1, 5)) ⟨hx, hb, hml, hown, hts⟩ ⟨callB_of 3 hts (goodC mw579) rfl rfl rfl (hts _ (tb mw4)) (hts _ (tb mw576)) kdX1_nearestLike ⟨Nat.le_trans (by decide) hRf, Nat.le_trans (by decide) hRl⟩, hts _ (tb mw577), hts _ (tb mw578)⟩ (ctX1_nearestLike l D cy ev (rF 1) rE E_nearest E_alike r42 l2 l3 _ _ h) hE hK hP hD hS hA [1, 4, 6] [0, 2, 3, 5, 7, 8] rfl rfl (by decide) (by decide) (by decide) 0 rfl rfl rfl hl.1 rfl (Nat.le_of_ble_eq_true rfl) ⟨Nat.zero_le _, Nat.zero_le _⟩ dX3_choose_66 (fun r66 u H locs h hP hD hS => ?_)
        have hP : va_P D clsX [((rF 0), .inr (4, oX4 rG sG)), ((rG 12), .inl (cy 0, 4, .inl G_kind)), ((rE 0), .inl (cy 1, 100, .inl E_heardAt)), ((rE 3), .inl (cy 0, 4, .inl E_ofVoice)), (h0, .inr (3, oX3 rF)), ((rF 3), .inl (cy 0, 29, .inl F_all)), ((rF 1), .inr (1, oX1 rE)), ((rE 1), .inl (cy 1, 3200, .inl E_nearest)), ((rE 4), .inl (cy 0, 5, .inl E_alike))] H := hP
        have hD : va_D A [((rF 0), .inr (4, oX4 rG sG)), ((rG 12), .inl (cy 0, 4, .inl G_kind)), ((rE 0), .inl (cy 1, 100, .inl E_heardAt)), ((rE 3), .inl (cy 0, 4, .inl E_ofVoice)), (h0, .inr (3, oX3 rF)), ((rF 3), .inl (cy 0, 29, .inl F_all)), ((rF 1), .inr (1, oX1 rE)), ((rE 1), .inl (cy 1, 3200, .inl E_nearest)), ((rE 4), .inl (cy 0, 5, .inl E_alike))] := hD
        refine lv_istore (lv' := [(6, .int r66), (5, .int r42), (0, .ref h0), (1, .int l1), (2, .int l2), (3, .int l3), (4, .int l4)]) hx hb dX3_choose_69 hl (by decide) rfl (fun ls hl => ?_)
        refine lv_iload hx hb dX3_choose_71 (lv_at hl 0 rfl) ?_
        refine lv_if_lt (tgt := 79) hx hb dX3_choose_73 (by decide) (fun c73 => ?_) (fun c73 => ?_)
        · have h := h.1 c73
          exact J79 l2 l3 _ _ _ h (hP.sub [4, 0, 6, 5, 1, 2, 7, 3, 8] rfl) (hD.sub [4, 0, 6, 5, 1, 2, 7, 3, 8] (by decide) rfl) hS (lv_sub hl [2, 4, 5] rfl)
        · have h := h.2 c73
          refine lv_iload hx hb dX3_choose_76 (lv_at hl 0 rfl) ?_
          exact hret r66 () _ _ _ _ rfl dX3_choose_78 h (hP.sub [4, 0, 6, 5, 1, 2, 7, 3, 8] rfl) (hD.sub [4, 0, 6, 5, 1, 2, 7, 3, 8] (by decide) rfl) hS
  refine lv_aload_n hx hb dX3_choose_0 rfl (lv_at hl 0 rfl) ?_
  refine lv_iload_n hx hb dX3_choose_1 rfl (lv_at hl 1 rfl) ?_
  refine lv_iconst (v := (0 : Int32)) hx hb dX3_choose_2 (by decide) ?_
  refine clVi (As := [.int x1, .int (0 : Int32)]) (rest := []) (Wr := [((rF 0), .inr (4, oX4 rG sG)), ((rF 1), .inr (1, oX1 rE)), ((rG 12), .inl (cy 0, 4, .inl G_kind)), ((rE 0), .inl (cy 1, 100, .inl E_heardAt)), ((rE 1), .inl (cy 1, 3200, .inl E_nearest)), ((rE 3), .inl (cy 0, 4, .inl E_ofVoice)), ((rE 4), .inl (cy 0, 5, .inl E_alike))]) (cq := (RX3, TX3, 5)) ⟨hx, hb, hml, hown, hts⟩ ⟨callB_of 2 hts (goodC mw559) rfl rfl rfl (hts _ (tb mw9)) (hts _ (tb mw556)) kdX3_of ⟨Nat.le_trans (by decide) hRf, Nat.le_trans (by decide) hRl⟩, hts _ (tb mw557), hts _ (tb mw558)⟩ (ctX3_of l D cy ev h0 rF F_all x1 (0 : Int32) _ _ h) hE hK hP hD hS hA [0, 3] [1, 2, 4, 5, 6, 7, 8] rfl rfl (by decide) (by decide) (by decide) 0 rfl rfl rfl hl.1 rfl (Nat.le_of_ble_eq_true rfl) ⟨Nat.zero_le _, Nat.zero_le _⟩ dX3_choose_3 (fun r3 u H locs h hP hD hS => ?_)
  have hP : va_P D clsX [((rF 0), .inr (4, oX4 rG sG)), ((rF 1), .inr (1, oX1 rE)), ((rG 12), .inl (cy 0, 4, .inl G_kind)), ((rE 0), .inl (cy 1, 100, .inl E_heardAt)), ((rE 1), .inl (cy 1, 3200, .inl E_nearest)), ((rE 3), .inl (cy 0, 4, .inl E_ofVoice)), ((rE 4), .inl (cy 0, 5, .inl E_alike)), (h0, .inr (3, oX3 rF)), ((rF 3), .inl (cy 0, 29, .inl F_all))] H := hP
  have hD : va_D A [((rF 0), .inr (4, oX4 rG sG)), ((rF 1), .inr (1, oX1 rE)), ((rG 12), .inl (cy 0, 4, .inl G_kind)), ((rE 0), .inl (cy 1, 100, .inl E_heardAt)), ((rE 1), .inl (cy 1, 3200, .inl E_nearest)), ((rE 3), .inl (cy 0, 4, .inl E_ofVoice)), ((rE 4), .inl (cy 0, 5, .inl E_alike)), (h0, .inr (3, oX3 rF)), ((rF 3), .inl (cy 0, 29, .inl F_all))] := hD
  refine lv_istore_n (lv' := [(3, .int r3), (0, .ref h0), (1, .int x1), (2, .int x2)]) hx hb dX3_choose_6 rfl hl (by decide) rfl (fun ls hl => ?_)
  refine lv_aload_n hx hb dX3_choose_7 rfl (lv_at hl 1 rfl) ?_
  refine gfX3_18 hx hb hts hown hK hP 7 rfl dX3_choose_8 ?_
  refine gfX3_68 hx hb hts hown hK hP 0 rfl dX3_choose_11 ?_
  refine lv_iload_n hx hb dX3_choose_14 rfl (lv_at hl 2 rfl) ?_
  obtain ⟨hin, h⟩ := h
  refine ldi (k := x1.toNatClampNeg) hx hb hK hP 2 rfl hin rfl dX3_choose_15 ?_
  refine lv_topi (fun l4_16 el4_16 => ?_)
  have h := h l4_16 el4_16
  refine lv_istore (lv' := [(4, .int l4_16), (3, .int r3), (0, .ref h0), (1, .int x1), (2, .int x2)]) hx hb dX3_choose_16 hl (by decide) rfl (fun ls hl => ?_)
  refine lv_iload hx hb dX3_choose_18 (lv_at hl 0 rfl) ?_
  refine lv_iconst (v := (2 : Int32)) hx hb dX3_choose_20 (by decide) ?_
  refine lv_icmp_ne (tgt := 39) hx hb dX3_choose_21 (by decide) (fun c21 => ?_) (fun c21 => ?_)
  · have h := h.1 c21
    exact J39 x1 x2 r3 l4_16 _ _ _ h (hP.sub [7, 0, 1, 8, 2, 3, 4, 5, 6] rfl) (hD.sub [7, 0, 1, 8, 2, 3, 4, 5, 6] (by decide) rfl) hS (lv_sub hl [2, 3, 4, 1, 0] rfl)
  · have h := h.2 c21
    refine lv_aload_n hx hb dX3_choose_24 rfl (lv_at hl 2 rfl) ?_
    refine gfX3_22 hx hb hts hown hK hP 7 rfl dX3_choose_25 ?_
    refine lv_iload_n hx hb dX3_choose_28 rfl (lv_at hl 4 rfl) ?_
    refine lv_iload_n hx hb dX3_choose_29 rfl (lv_at hl 1 rfl) ?_
    refine clVi (As := [.int x2, .int r3]) (rest := []) (Wr := [((rF 0), .inr (4, oX4 rG sG)), ((rG 12), .inl (cy 0, 4, .inl G_kind)), ((rE 1), .inl (cy 1, 3200, .inl E_nearest)), ((rE 4), .inl (cy 0, 5, .inl E_alike)), (h0, .inr (3, oX3 rF)), ((rF 3), .inl (cy 0, 29, .inl F_all))]) (cq := (RX1, TX1, 5)) ⟨hx, hb, hml, hown, hts⟩ ⟨callB_of 2 hts (goodC mw575) rfl rfl rfl (hts _ (tb mw4)) (hts _ (tb mw572)) kdX1_confuse ⟨Nat.le_trans (by decide) hRf, Nat.le_trans (by decide) hRl⟩, hts _ (tb mw573), hts _ (tb mw574)⟩ (ctX1_confuse l D cy ev (rF 1) rE E_heardAt E_ofVoice x2 r3 _ _ h) hE hK hP hD hS hA [1, 3, 5] [0, 2, 4, 6, 7, 8] rfl rfl (by decide) (by decide) (by decide) 0 rfl rfl rfl hl.1 rfl (Nat.le_of_ble_eq_true rfl) ⟨Nat.zero_le _, Nat.zero_le _⟩ dX3_choose_30 (fun r30 u H locs h hP hD hS => ?_)
    have hP : va_P D clsX [((rF 0), .inr (4, oX4 rG sG)), ((rG 12), .inl (cy 0, 4, .inl G_kind)), ((rE 1), .inl (cy 1, 3200, .inl E_nearest)), ((rE 4), .inl (cy 0, 5, .inl E_alike)), (h0, .inr (3, oX3 rF)), ((rF 3), .inl (cy 0, 29, .inl F_all)), ((rF 1), .inr (1, oX1 rE)), ((rE 0), .inl (cy 1, 100, .inl E_heardAt)), ((rE 3), .inl (cy 0, 4, .inl E_ofVoice))] H := hP
    have hD : va_D A [((rF 0), .inr (4, oX4 rG sG)), ((rG 12), .inl (cy 0, 4, .inl G_kind)), ((rE 1), .inl (cy 1, 3200, .inl E_nearest)), ((rE 4), .inl (cy 0, 5, .inl E_alike)), (h0, .inr (3, oX3 rF)), ((rF 3), .inl (cy 0, 29, .inl F_all)), ((rF 1), .inr (1, oX1 rE)), ((rE 0), .inl (cy 1, 100, .inl E_heardAt)), ((rE 3), .inl (cy 0, 4, .inl E_ofVoice))] := hD
    refine lv_if_eq (tgt := 39) hx hb dX3_choose_33 (by decide) (fun c33 => ?_) (fun c33 => ?_)
    · have h := h.1 c33
      exact J39 x1 x2 r3 l4_16 _ _ _ h (hP.sub [4, 0, 6, 5, 1, 7, 2, 8, 3] rfl) (hD.sub [4, 0, 6, 5, 1, 7, 2, 8, 3] (by decide) rfl) hS (lv_sub hl [2, 3, 4, 1, 0] rfl)
    · have h := h.2 c33
      refine lv_bipush (v := (-2 : Int32)) hx hb dX3_choose_36 (by decide) ?_
      exact hret (-2 : Int32) () _ _ _ _ rfl dX3_choose_38 h (hP.sub [4, 0, 6, 5, 1, 7, 2, 8, 3] rfl) (hD.sub [4, 0, 6, 5, 1, 7, 2, 8, 3] (by decide) rfl) hS
def wpX3_go_J192 (F_all : AR) (G_isFalse : AR) (G_kind : AR) (E_heardAt : AR) (E_nearest : AR) (E_ofVoice : AR) (E_alike : AR) (W_next : AR) (W_way : AR) (W_goal : AR) (l5 : Int32) (t1 : Int32) (t2 : Int32) (post : Int32 → AR → Prop) : Prop := vp_in t1 29 ∧ ∀ F_all_192 : AR, F_all_192 = upd F_all t1.toNatClampNeg t2 → post l5 F_all_192
def wpX3_go_J36 (F_all : AR) (G_isFalse : AR) (G_kind : AR) (E_heardAt : AR) (E_nearest : AR) (E_ofVoice : AR) (E_alike : AR) (W_next : AR) (W_way : AR) (W_goal : AR) (l1 : Int32) (l2 : Int32) (l3 : Int32) (t0 : Int32) (post : Int32 → AR → Prop) : Prop := vp_in (l3 + (5 : Int32)) 29 ∧ vp_in (l3 + (5 : Int32)) 29 ∧ ∀ F_all_49 : AR, F_all_49 = upd F_all (l3 + (5 : Int32)).toNatClampNeg ((F_all (l3 + (5 : Int32)).toNatClampNeg) + (1 : Int32)) → ((t0 = 0 → wpX3_choose F_all_49 G_kind E_heardAt E_nearest E_ofVoice E_alike l1 l2 (fun r61 => ((¬ r61 = (-2 : Int32) → vp_in (l3 + (0 : Int32)) 29 ∧ vp_in (l3 + (2 : Int32)) 29 ∧ wpX2_pace W_next W_way W_goal (F_all_49 (l3 + (0 : Int32)).toNatClampNeg) (F_all_49 (l3 + (2 : Int32)).toNatClampNeg) r61 (fun r98 => wpX2_cellOf r98 (fun r112 => vp_in (l3 + (0 : Int32)) 29 ∧ ∀ F_all_115 : AR, F_all_115 = upd F_all_49 (l3 + (0 : Int32)).toNatClampNeg r112 → wpX2_headingOf r98 (fun r125 => vp_in (l3 + (2 : Int32)) 29 ∧ ∀ F_all_128 : AR, F_all_128 = upd F_all_115 (l3 + (2 : Int32)).toNatClampNeg r125 → ((0 ≤ r61 → vp_in (l3 + (4 : Int32)) 29 ∧ ∀ F_all_146 : AR, F_all_146 = upd F_all_128 (l3 + (4 : Int32)).toNatClampNeg r61 → vp_in (l3 + (0 : Int32)) 29 ∧ wpX2_isAt W_goal (F_all_146 (l3 + (0 : Int32)).toNatClampNeg) r61 (fun r161 => ((r161 = 0 → post r61 F_all_146) ∧ (¬ r161 = 0 → vp_in r61 5 ∧ (((G_isFalse r61.toNatClampNeg) = 0 → wpX3_go_J192 F_all_146 G_isFalse G_kind E_heardAt E_nearest E_ofVoice E_alike W_next W_way W_goal r61 (l3 + (3 : Int32)) (1 : Int32) post) ∧ (¬ (G_isFalse r61.toNatClampNeg) = 0 → wpX3_go_J192 F_all_146 G_isFalse G_kind E_heardAt E_nearest E_ofVoice E_alike W_next W_way W_goal r61 (l3 + (3 : Int32)) (2 : Int32) post)))))) ∧ (¬ 0 ≤ r61 → post (-2 : Int32) F_all_128)))))) ∧ (r61 = (-2 : Int32) → post (-2 : Int32) F_all_49)))) ∧ (¬ t0 = 0 → post (-3 : Int32) F_all_49))
def wpX3_go (F_all : AR) (G_isFalse : AR) (G_kind : AR) (E_heardAt : AR) (E_nearest : AR) (E_ofVoice : AR) (E_alike : AR) (W_next : AR) (W_way : AR) (W_goal : AR) (x1 : Int32) (x2 : Int32) (post : Int32 → AR → Prop) : Prop := ∀ l3_4 : Int32, l3_4 = (x1 * (6 : Int32)) → vp_in x1 4 ∧ ((¬ (G_kind x1.toNatClampNeg) = (3 : Int32) → wpX3_go_J36 F_all G_isFalse G_kind E_heardAt E_nearest E_ofVoice E_alike W_next W_way W_goal x1 x2 l3_4 (0 : Int32) post) ∧ ((G_kind x1.toNatClampNeg) = (3 : Int32) → vp_in (l3_4 + (5 : Int32)) 29 ∧ ((¬ (jrem (F_all (l3_4 + (5 : Int32)).toNatClampNeg) (2 : Int32)) = 0 → wpX3_go_J36 F_all G_isFalse G_kind E_heardAt E_nearest E_ofVoice E_alike W_next W_way W_goal x1 x2 l3_4 (0 : Int32) post) ∧ ((jrem (F_all (l3_4 + (5 : Int32)).toNatClampNeg) (2 : Int32)) = 0 → wpX3_go_J36 F_all G_isFalse G_kind E_heardAt E_nearest E_ofVoice E_alike W_next W_way W_goal x1 x2 l3_4 (1 : Int32) post))))
set_option maxHeartbeats 4000000 in
set_option maxRecDepth 100000 in
theorem ctX3_go (l : Launch) (D : va_G) (cy : Nat → ClassId) (ev : Nat → Nat) (h0 : Nat) (rF : Nat → Nat) (rG : Nat → Nat) (rE : Nat → Nat) (rW : Nat → Nat) (sG : AR) (F_all : AR) (G_isFalse : AR) (G_kind : AR) (E_heardAt : AR) (E_nearest : AR) (E_ofVoice : AR) (E_alike : AR) (W_next : AR) (W_way : AR) (W_goal : AR) (x1 : Int32) (x2 : Int32) (sz : Nat) (post : Int32 → AR → Prop) (h : wpX3_go F_all G_isFalse G_kind E_heardAt E_nearest E_ofVoice E_alike W_next W_way W_goal x1 x2 post) : Met l yX3_go (Cond.code yX3_go cX3_go 7 (some .int) :: TB) ({ frames := 2, cells := 0, slots := 0, locals := 51 }) (va_Pc [.ref h0, .int x1, .int x2] (PreX D cy ev [(h0, .inr (3, oX3 rF)), ((rF 0), .inr (4, oX4 rG sG)), ((rF 1), .inr (1, oX1 rE)), ((rF 2), .inr (2, oX2 rW)), ((rF 3), .inl (cy 0, 29, .inl F_all)), ((rG 11), .inl (cy 2, 5, .inl G_isFalse)), ((rG 12), .inl (cy 0, 4, .inl G_kind)), ((rE 0), .inl (cy 1, 100, .inl E_heardAt)), ((rE 1), .inl (cy 1, 3200, .inl E_nearest)), ((rE 3), .inl (cy 0, 4, .inl E_ofVoice)), ((rE 4), .inl (cy 0, 5, .inl E_alike)), ((rW 0), .inl (cy 0, 400, .inl W_next)), ((rW 1), .inl (cy 0, 500, .inl W_way)), ((rW 2), .inl (cy 0, 5, .inl W_goal))] sz)) (va_Qi (fun (r : Int32) (u : AR) => post r u) (fun u => BkX D cy [(h0, .inr (3, oX3 rF)), ((rF 0), .inr (4, oX4 rG sG)), ((rF 1), .inr (1, oX1 rE)), ((rF 2), .inr (2, oX2 rW)), ((rF 3), .inl (cy 0, 29, .inl F_all)), ((rG 11), .inl (cy 2, 5, .inl G_isFalse)), ((rG 12), .inl (cy 0, 4, .inl G_kind)), ((rE 0), .inl (cy 1, 100, .inl E_heardAt)), ((rE 1), .inl (cy 1, 3200, .inl E_nearest)), ((rE 3), .inl (cy 0, 4, .inl E_ofVoice)), ((rE 4), .inl (cy 0, 5, .inl E_alike)), ((rW 0), .inl (cy 0, 400, .inl W_next)), ((rW 1), .inl (cy 0, 500, .inl W_way)), ((rW 2), .inl (cy 0, 5, .inl W_goal))] sz [(h0, .inr (3, oX3 rF)), ((rF 0), .inr (4, oX4 rG sG)), ((rF 1), .inr (1, oX1 rE)), ((rF 2), .inr (2, oX2 rW)), ((rF 3), .inl (cy 0, 29, .inl u)), ((rG 11), .inl (cy 2, 5, .inl G_isFalse)), ((rG 12), .inl (cy 0, 4, .inl G_kind)), ((rE 0), .inl (cy 1, 100, .inl E_heardAt)), ((rE 1), .inl (cy 1, 3200, .inl E_nearest)), ((rE 3), .inl (cy 0, 4, .inl E_ofVoice)), ((rE 4), .inl (cy 0, 5, .inl E_alike)), ((rW 0), .inl (cy 0, 400, .inl W_next)), ((rW 1), .inl (cy 0, 500, .inl W_way)), ((rW 2), .inl (cy 0, 5, .inl W_goal))]) (va_A [(h0, .inr (3, oX3 rF)), ((rF 0), .inr (4, oX4 rG sG)), ((rF 1), .inr (1, oX1 rE)), ((rF 2), .inr (2, oX2 rW)), ((rF 3), .inl (cy 0, 29, .inl F_all)), ((rG 11), .inl (cy 2, 5, .inl G_isFalse)), ((rG 12), .inl (cy 0, 4, .inl G_kind)), ((rE 0), .inl (cy 1, 100, .inl E_heardAt)), ((rE 1), .inl (cy 1, 3200, .inl E_nearest)), ((rE 3), .inl (cy 0, 4, .inl E_ofVoice)), ((rE 4), .inl (cy 0, 5, .inl E_alike)), ((rW 0), .inl (cy 0, 400, .inl W_next)), ((rW 1), .inl (cy 0, 500, .inl W_way)), ((rW 2), .inl (cy 0, 5, .inl W_goal))] sz)) 0 0 (va_A [(h0, .inr (3, oX3 rF)), ((rF 0), .inr (4, oX4 rG sG)), ((rF 1), .inr (1, oX1 rE)), ((rF 2), .inr (2, oX2 rW)), ((rF 3), .inl (cy 0, 29, .inl F_all)), ((rG 11), .inl (cy 2, 5, .inl G_isFalse)), ((rG 12), .inl (cy 0, 4, .inl G_kind)), ((rE 0), .inl (cy 1, 100, .inl E_heardAt)), ((rE 1), .inl (cy 1, 3200, .inl E_nearest)), ((rE 3), .inl (cy 0, 4, .inl E_ofVoice)), ((rE 4), .inl (cy 0, 5, .inl E_alike)), ((rW 0), .inl (cy 0, 400, .inl W_next)), ((rW 1), .inl (cy 0, 500, .inl W_way)), ((rW 2), .inl (cy 0, 5, .inl W_goal))] sz) := by
  refine ofWi (by decide) (Nat.le_of_ble_eq_true rfl) ?_
  intro p e s m args below meth c ls A R QQ hx hb hml hown hts hR hlk hE hK hP hD hS hA hl hret
  have hown : s.vm.findClass RX3 = some m.cls := hown
  have hRf : 2 ≤ R.frames := by rw [hR]; exact Nat.le_refl _
  have hRl : 51 ≤ R.locals := by rw [hR]; exact Nat.le_refl _
  clear hR
  have hl : lv_has ls 7 [(0, .ref h0), (1, .int x1), (2, .int x2)] := hl
  have J36 : ∀ (l1 : Int32) (l2 : Int32) (l3 : Int32) (t0 : Int32) (H : Heap) (locs : List Loc) (ls : Array Slot), wpX3_go_J36 F_all G_isFalse G_kind E_heardAt E_nearest E_ofVoice E_alike W_next W_way W_goal l1 l2 l3 t0 post → va_P D clsX [(h0, .inr (3, oX3 rF)), ((rF 0), .inr (4, oX4 rG sG)), ((rF 1), .inr (1, oX1 rE)), ((rF 2), .inr (2, oX2 rW)), ((rF 3), .inl (cy 0, 29, .inl F_all)), ((rG 11), .inl (cy 2, 5, .inl G_isFalse)), ((rG 12), .inl (cy 0, 4, .inl G_kind)), ((rE 0), .inl (cy 1, 100, .inl E_heardAt)), ((rE 1), .inl (cy 1, 3200, .inl E_nearest)), ((rE 3), .inl (cy 0, 4, .inl E_ofVoice)), ((rE 4), .inl (cy 0, 5, .inl E_alike)), ((rW 0), .inl (cy 0, 400, .inl W_next)), ((rW 1), .inl (cy 0, 500, .inl W_way)), ((rW 2), .inl (cy 0, 5, .inl W_goal))] H → va_D A [(h0, .inr (3, oX3 rF)), ((rF 0), .inr (4, oX4 rG sG)), ((rF 1), .inr (1, oX1 rE)), ((rF 2), .inr (2, oX2 rW)), ((rF 3), .inl (cy 0, 29, .inl F_all)), ((rG 11), .inl (cy 2, 5, .inl G_isFalse)), ((rG 12), .inl (cy 0, 4, .inl G_kind)), ((rE 0), .inl (cy 1, 100, .inl E_heardAt)), ((rE 1), .inl (cy 1, 3200, .inl E_nearest)), ((rE 3), .inl (cy 0, 4, .inl E_ofVoice)), ((rE 4), .inl (cy 0, 5, .inl E_alike)), ((rW 0), .inl (cy 0, 400, .inl W_next)), ((rW 1), .inl (cy 0, 500, .inl W_way)), ((rW 2), .inl (cy 0, 5, .inl W_goal))] → va_S A s.heap H locs → lv_has ls 7 [(0, .ref h0), (1, .int l1), (2, .int l2), (3, .int l3)] → W p l e R s m args below meth c H locs 0 0 QQ (F0 m 36 ls [.int t0]) := by
    intro l1 l2 l3 t0 H locs ls h hP hD hS hl
    have J192 : ∀ (F_all : AR) (l5 : Int32) (t1 : Int32) (t2 : Int32) (H : Heap) (locs : List Loc) (ls : Array Slot), wpX3_go_J192 F_all G_isFalse G_kind E_heardAt E_nearest E_ofVoice E_alike W_next W_way W_goal l5 t1 t2 post → va_P D clsX [(h0, .inr (3, oX3 rF)), ((rF 0), .inr (4, oX4 rG sG)), ((rF 1), .inr (1, oX1 rE)), ((rF 2), .inr (2, oX2 rW)), ((rF 3), .inl (cy 0, 29, .inl F_all)), ((rG 11), .inl (cy 2, 5, .inl G_isFalse)), ((rG 12), .inl (cy 0, 4, .inl G_kind)), ((rE 0), .inl (cy 1, 100, .inl E_heardAt)), ((rE 1), .inl (cy 1, 3200, .inl E_nearest)), ((rE 3), .inl (cy 0, 4, .inl E_ofVoice)), ((rE 4), .inl (cy 0, 5, .inl E_alike)), ((rW 0), .inl (cy 0, 400, .inl W_next)), ((rW 1), .inl (cy 0, 500, .inl W_way)), ((rW 2), .inl (cy 0, 5, .inl W_goal))] H → va_D A [(h0, .inr (3, oX3 rF)), ((rF 0), .inr (4, oX4 rG sG)), ((rF 1), .inr (1, oX1 rE)), ((rF 2), .inr (2, oX2 rW)), ((rF 3), .inl (cy 0, 29, .inl F_all)), ((rG 11), .inl (cy 2, 5, .inl G_isFalse)), ((rG 12), .inl (cy 0, 4, .inl G_kind)), ((rE 0), .inl (cy 1, 100, .inl E_heardAt)), ((rE 1), .inl (cy 1, 3200, .inl E_nearest)), ((rE 3), .inl (cy 0, 4, .inl E_ofVoice)), ((rE 4), .inl (cy 0, 5, .inl E_alike)), ((rW 0), .inl (cy 0, 400, .inl W_next)), ((rW 1), .inl (cy 0, 500, .inl W_way)), ((rW 2), .inl (cy 0, 5, .inl W_goal))] → va_S A s.heap H locs → lv_has ls 7 [(0, .ref h0), (5, .int l5)] → W p l e R s m args below meth c H locs 0 0 QQ (F0 m 192 ls [.int t2, .int t1, .ref (rF 3)]) := by
      intro F_all l5 t1 t2 H locs ls h hP hD hS hl
      obtain ⟨hin, h⟩ := h
      refine sti (k := t1.toNatClampNeg) (y := t2) hx hb hK hP hD hS 4 rfl hin rfl rfl dX3_go_192 (fun F_all_192 eF_all_192 H locs hP hD hS => ?_)
      have h := h F_all_192 eF_all_192
      have hP : va_P D clsX [(h0, .inr (3, oX3 rF)), ((rF 0), .inr (4, oX4 rG sG)), ((rF 1), .inr (1, oX1 rE)), ((rF 2), .inr (2, oX2 rW)), ((rF 3), .inl (cy 0, 29, .inl F_all_192)), ((rG 11), .inl (cy 2, 5, .inl G_isFalse)), ((rG 12), .inl (cy 0, 4, .inl G_kind)), ((rE 0), .inl (cy 1, 100, .inl E_heardAt)), ((rE 1), .inl (cy 1, 3200, .inl E_nearest)), ((rE 3), .inl (cy 0, 4, .inl E_ofVoice)), ((rE 4), .inl (cy 0, 5, .inl E_alike)), ((rW 0), .inl (cy 0, 400, .inl W_next)), ((rW 1), .inl (cy 0, 500, .inl W_way)), ((rW 2), .inl (cy 0, 5, .inl W_goal))] H := hP
      have hD : va_D A [(h0, .inr (3, oX3 rF)), ((rF 0), .inr (4, oX4 rG sG)), ((rF 1), .inr (1, oX1 rE)), ((rF 2), .inr (2, oX2 rW)), ((rF 3), .inl (cy 0, 29, .inl F_all_192)), ((rG 11), .inl (cy 2, 5, .inl G_isFalse)), ((rG 12), .inl (cy 0, 4, .inl G_kind)), ((rE 0), .inl (cy 1, 100, .inl E_heardAt)), ((rE 1), .inl (cy 1, 3200, .inl E_nearest)), ((rE 3), .inl (cy 0, 4, .inl E_ofVoice)), ((rE 4), .inl (cy 0, 5, .inl E_alike)), ((rW 0), .inl (cy 0, 400, .inl W_next)), ((rW 1), .inl (cy 0, 500, .inl W_way)), ((rW 2), .inl (cy 0, 5, .inl W_goal))] := hD
      refine lv_iload hx hb dX3_go_193 (lv_at hl 1 rfl) ?_
      exact hret l5 (F_all_192) _ _ _ _ rfl dX3_go_195 h hP hD hS
    refine lv_istore (lv' := [(4, .int t0), (0, .ref h0), (1, .int l1), (2, .int l2), (3, .int l3)]) hx hb dX3_go_36 hl (by decide) rfl (fun ls hl => ?_)
    refine lv_aload_n hx hb dX3_go_38 rfl (lv_at hl 1 rfl) ?_
    refine gfX3_11 hx hb hts hown hK hP 0 rfl dX3_go_39 ?_
    refine lv_iload_n hx hb dX3_go_42 rfl (lv_at hl 4 rfl) ?_
    refine lv_iconst (v := (5 : Int32)) hx hb dX3_go_43 (by decide) ?_
    refine lv_iadd hx hb dX3_go_44 ?_
    refine lv_dup2_11 hx hb dX3_go_45 rfl rfl ?_
    obtain ⟨hin, h⟩ := h
    refine ldi (k := (l3 + (5 : Int32)).toNatClampNeg) hx hb hK hP 4 rfl hin rfl dX3_go_46 ?_
    refine lv_iconst (v := (1 : Int32)) hx hb dX3_go_47 (by decide) ?_
    refine lv_iadd hx hb dX3_go_48 ?_
    obtain ⟨hin, h⟩ := h
    refine sti (k := (l3 + (5 : Int32)).toNatClampNeg) (y := ((F_all (l3 + (5 : Int32)).toNatClampNeg) + (1 : Int32))) hx hb hK hP hD hS 4 rfl hin rfl rfl dX3_go_49 (fun F_all_49 eF_all_49 H locs hP hD hS => ?_)
    have h := h F_all_49 eF_all_49
    have hP : va_P D clsX [(h0, .inr (3, oX3 rF)), ((rF 0), .inr (4, oX4 rG sG)), ((rF 1), .inr (1, oX1 rE)), ((rF 2), .inr (2, oX2 rW)), ((rF 3), .inl (cy 0, 29, .inl F_all_49)), ((rG 11), .inl (cy 2, 5, .inl G_isFalse)), ((rG 12), .inl (cy 0, 4, .inl G_kind)), ((rE 0), .inl (cy 1, 100, .inl E_heardAt)), ((rE 1), .inl (cy 1, 3200, .inl E_nearest)), ((rE 3), .inl (cy 0, 4, .inl E_ofVoice)), ((rE 4), .inl (cy 0, 5, .inl E_alike)), ((rW 0), .inl (cy 0, 400, .inl W_next)), ((rW 1), .inl (cy 0, 500, .inl W_way)), ((rW 2), .inl (cy 0, 5, .inl W_goal))] H := hP
    have hD : va_D A [(h0, .inr (3, oX3 rF)), ((rF 0), .inr (4, oX4 rG sG)), ((rF 1), .inr (1, oX1 rE)), ((rF 2), .inr (2, oX2 rW)), ((rF 3), .inl (cy 0, 29, .inl F_all_49)), ((rG 11), .inl (cy 2, 5, .inl G_isFalse)), ((rG 12), .inl (cy 0, 4, .inl G_kind)), ((rE 0), .inl (cy 1, 100, .inl E_heardAt)), ((rE 1), .inl (cy 1, 3200, .inl E_nearest)), ((rE 3), .inl (cy 0, 4, .inl E_ofVoice)), ((rE 4), .inl (cy 0, 5, .inl E_alike)), ((rW 0), .inl (cy 0, 400, .inl W_next)), ((rW 1), .inl (cy 0, 500, .inl W_way)), ((rW 2), .inl (cy 0, 5, .inl W_goal))] := hD
    refine lv_iload hx hb dX3_go_50 (lv_at hl 0 rfl) ?_
    refine lv_if_eq (tgt := 58) hx hb dX3_go_52 (by decide) (fun c52 => ?_) (fun c52 => ?_)
    · have h := h.1 c52
      refine lv_aload_n hx hb dX3_go_58 rfl (lv_at hl 1 rfl) ?_
      refine lv_iload_n hx hb dX3_go_59 rfl (lv_at hl 2 rfl) ?_
      refine lv_iload_n hx hb dX3_go_60 rfl (lv_at hl 3 rfl) ?_
      refine clVi (As := [.int l1, .int l2]) (rest := []) (Wr := [((rF 2), .inr (2, oX2 rW)), ((rG 11), .inl (cy 2, 5, .inl G_isFalse)), ((rW 0), .inl (cy 0, 400, .inl W_next)), ((rW 1), .inl (cy 0, 500, .inl W_way)), ((rW 2), .inl (cy 0, 5, .inl W_goal))]) (cq := (RX3, TX3, 5)) ⟨hx, hb, hml, hown, hts⟩ ⟨callB_of 2 hts (goodC mw571) rfl rfl rfl (hts _ (tb mw9)) (hts _ (tb mw568)) kdX3_choose ⟨Nat.le_trans (by decide) hRf, Nat.le_trans (by decide) hRl⟩, hts _ (tb mw570), hts _ (tb ms9)⟩ (ctX3_choose l D cy ev h0 rF rG rE sG F_all_49 G_kind E_heardAt E_nearest E_ofVoice E_alike l1 l2 _ _ h) hE hK hP hD hS hA [0, 1, 2, 4, 6, 7, 8, 9, 10] [3, 5, 11, 12, 13] rfl rfl (by decide) (by decide) (by decide) 0 rfl rfl rfl hl.1 rfl (Nat.le_of_ble_eq_true rfl) ⟨Nat.zero_le _, Nat.zero_le _⟩ dX3_go_61 (fun r61 u H locs h hP hD hS => ?_)
      have hP : va_P D clsX [((rF 2), .inr (2, oX2 rW)), ((rG 11), .inl (cy 2, 5, .inl G_isFalse)), ((rW 0), .inl (cy 0, 400, .inl W_next)), ((rW 1), .inl (cy 0, 500, .inl W_way)), ((rW 2), .inl (cy 0, 5, .inl W_goal)), (h0, .inr (3, oX3 rF)), ((rF 0), .inr (4, oX4 rG sG)), ((rF 1), .inr (1, oX1 rE)), ((rF 3), .inl (cy 0, 29, .inl F_all_49)), ((rG 12), .inl (cy 0, 4, .inl G_kind)), ((rE 0), .inl (cy 1, 100, .inl E_heardAt)), ((rE 1), .inl (cy 1, 3200, .inl E_nearest)), ((rE 3), .inl (cy 0, 4, .inl E_ofVoice)), ((rE 4), .inl (cy 0, 5, .inl E_alike))] H := hP
      have hD : va_D A [((rF 2), .inr (2, oX2 rW)), ((rG 11), .inl (cy 2, 5, .inl G_isFalse)), ((rW 0), .inl (cy 0, 400, .inl W_next)), ((rW 1), .inl (cy 0, 500, .inl W_way)), ((rW 2), .inl (cy 0, 5, .inl W_goal)), (h0, .inr (3, oX3 rF)), ((rF 0), .inr (4, oX4 rG sG)), ((rF 1), .inr (1, oX1 rE)), ((rF 3), .inl (cy 0, 29, .inl F_all_49)), ((rG 12), .inl (cy 0, 4, .inl G_kind)), ((rE 0), .inl (cy 1, 100, .inl E_heardAt)), ((rE 1), .inl (cy 1, 3200, .inl E_nearest)), ((rE 3), .inl (cy 0, 4, .inl E_ofVoice)), ((rE 4), .inl (cy 0, 5, .inl E_alike))] := hD
      refine lv_istore (lv' := [(5, .int r61), (4, .int t0), (0, .ref h0), (1, .int l1), (2, .int l2), (3, .int l3)]) hx hb dX3_go_64 hl (by decide) rfl (fun ls hl => ?_)
      refine lv_iload hx hb dX3_go_66 (lv_at hl 0 rfl) ?_
      refine lv_bipush (v := (-2 : Int32)) hx hb dX3_go_68 (by decide) ?_
      refine lv_icmp_ne (tgt := 76) hx hb dX3_go_70 (by decide) (fun c70 => ?_) (fun c70 => ?_)
      · have h := h.1 c70
        refine lv_aload_n hx hb dX3_go_76 rfl (lv_at hl 2 rfl) ?_
        refine gfX3_26 hx hb hts hown hK hP 5 rfl dX3_go_77 ?_
        refine lv_aload_n hx hb dX3_go_80 rfl (lv_at hl 2 rfl) ?_
        refine gfX3_11 hx hb hts hown hK hP 5 rfl dX3_go_81 ?_
        refine lv_iload_n hx hb dX3_go_84 rfl (lv_at hl 5 rfl) ?_
        refine lv_iconst (v := (0 : Int32)) hx hb dX3_go_85 (by decide) ?_
        refine lv_iadd hx hb dX3_go_86 ?_
        obtain ⟨hin, h⟩ := h
        refine ldi (k := (l3 + (0 : Int32)).toNatClampNeg) hx hb hK hP 8 rfl hin rfl dX3_go_87 ?_
        refine lv_aload_n hx hb dX3_go_88 rfl (lv_at hl 2 rfl) ?_
        refine gfX3_11 hx hb hts hown hK hP 5 rfl dX3_go_89 ?_
        refine lv_iload_n hx hb dX3_go_92 rfl (lv_at hl 5 rfl) ?_
        refine lv_iconst (v := (2 : Int32)) hx hb dX3_go_93 (by decide) ?_
        refine lv_iadd hx hb dX3_go_94 ?_
        obtain ⟨hin, h⟩ := h
        refine ldi (k := (l3 + (2 : Int32)).toNatClampNeg) hx hb hK hP 8 rfl hin rfl dX3_go_95 ?_
        refine lv_iload hx hb dX3_go_96 (lv_at hl 0 rfl) ?_
        refine clVi (As := [.int (F_all_49 (l3 + (0 : Int32)).toNatClampNeg), .int (F_all_49 (l3 + (2 : Int32)).toNatClampNeg), .int r61]) (rest := []) (Wr := [((rG 11), .inl (cy 2, 5, .inl G_isFalse)), (h0, .inr (3, oX3 rF)), ((rF 0), .inr (4, oX4 rG sG)), ((rF 1), .inr (1, oX1 rE)), ((rF 3), .inl (cy 0, 29, .inl F_all_49)), ((rG 12), .inl (cy 0, 4, .inl G_kind)), ((rE 0), .inl (cy 1, 100, .inl E_heardAt)), ((rE 1), .inl (cy 1, 3200, .inl E_nearest)), ((rE 3), .inl (cy 0, 4, .inl E_ofVoice)), ((rE 4), .inl (cy 0, 5, .inl E_alike))]) (cq := (RX2, TX2, 3)) ⟨hx, hb, hml, hown, hts⟩ ⟨callB_of 3 hts (goodC mw587) rfl rfl rfl (hts _ (tb mw5)) (hts _ (tb mw584)) kdX2_pace ⟨Nat.le_trans (by decide) hRf, Nat.le_trans (by decide) hRl⟩, hts _ (tb mw585), hts _ (tb mw586)⟩ (ctX2_pace l D cy ev (rF 2) rW W_next W_way W_goal (F_all_49 (l3 + (0 : Int32)).toNatClampNeg) (F_all_49 (l3 + (2 : Int32)).toNatClampNeg) r61 _ _ h) hE hK hP hD hS hA [0, 2, 3, 4] [1, 5, 6, 7, 8, 9, 10, 11, 12, 13] rfl rfl (by decide) (by decide) (by decide) 0 rfl rfl rfl hl.1 rfl (Nat.le_of_ble_eq_true rfl) ⟨Nat.zero_le _, Nat.zero_le _⟩ dX3_go_98 (fun r98 u H locs h hP hD hS => ?_)
        have hP : va_P D clsX [((rG 11), .inl (cy 2, 5, .inl G_isFalse)), (h0, .inr (3, oX3 rF)), ((rF 0), .inr (4, oX4 rG sG)), ((rF 1), .inr (1, oX1 rE)), ((rF 3), .inl (cy 0, 29, .inl F_all_49)), ((rG 12), .inl (cy 0, 4, .inl G_kind)), ((rE 0), .inl (cy 1, 100, .inl E_heardAt)), ((rE 1), .inl (cy 1, 3200, .inl E_nearest)), ((rE 3), .inl (cy 0, 4, .inl E_ofVoice)), ((rE 4), .inl (cy 0, 5, .inl E_alike)), ((rF 2), .inr (2, oX2 rW)), ((rW 0), .inl (cy 0, 400, .inl W_next)), ((rW 1), .inl (cy 0, 500, .inl W_way)), ((rW 2), .inl (cy 0, 5, .inl W_goal))] H := hP
        have hD : va_D A [((rG 11), .inl (cy 2, 5, .inl G_isFalse)), (h0, .inr (3, oX3 rF)), ((rF 0), .inr (4, oX4 rG sG)), ((rF 1), .inr (1, oX1 rE)), ((rF 3), .inl (cy 0, 29, .inl F_all_49)), ((rG 12), .inl (cy 0, 4, .inl G_kind)), ((rE 0), .inl (cy 1, 100, .inl E_heardAt)), ((rE 1), .inl (cy 1, 3200, .inl E_nearest)), ((rE 3), .inl (cy 0, 4, .inl E_ofVoice)), ((rE 4), .inl (cy 0, 5, .inl E_alike)), ((rF 2), .inr (2, oX2 rW)), ((rW 0), .inl (cy 0, 400, .inl W_next)), ((rW 1), .inl (cy 0, 500, .inl W_way)), ((rW 2), .inl (cy 0, 5, .inl W_goal))] := hD
        refine lv_istore (lv' := [(6, .int r98), (5, .int r61), (4, .int t0), (0, .ref h0), (1, .int l1), (2, .int l2), (3, .int l3)]) hx hb dX3_go_101 hl (by decide) rfl (fun ls hl => ?_)
        refine lv_aload_n hx hb dX3_go_103 rfl (lv_at hl 3 rfl) ?_
        refine gfX3_11 hx hb hts hown hK hP 1 rfl dX3_go_104 ?_
        refine lv_iload_n hx hb dX3_go_107 rfl (lv_at hl 6 rfl) ?_
        refine lv_iconst (v := (0 : Int32)) hx hb dX3_go_108 (by decide) ?_
        refine lv_iadd hx hb dX3_go_109 ?_
        refine lv_iload hx hb dX3_go_110 (lv_at hl 0 rfl) ?_
        refine clSi (As := [.int r98]) (rest := [.int (l3 + (0 : Int32)), .ref (rF 3)]) (Wr := [((rG 11), .inl (cy 2, 5, .inl G_isFalse)), (h0, .inr (3, oX3 rF)), ((rF 0), .inr (4, oX4 rG sG)), ((rF 1), .inr (1, oX1 rE)), ((rF 3), .inl (cy 0, 29, .inl F_all_49)), ((rG 12), .inl (cy 0, 4, .inl G_kind)), ((rE 0), .inl (cy 1, 100, .inl E_heardAt)), ((rE 1), .inl (cy 1, 3200, .inl E_nearest)), ((rE 3), .inl (cy 0, 4, .inl E_ofVoice)), ((rE 4), .inl (cy 0, 5, .inl E_alike)), ((rF 2), .inr (2, oX2 rW)), ((rW 0), .inl (cy 0, 400, .inl W_next)), ((rW 1), .inl (cy 0, 500, .inl W_way)), ((rW 2), .inl (cy 0, 5, .inl W_goal))]) ⟨hx, hb, hml, hown, hts⟩ ⟨callB_of 1 hts (goodC mw590) rfl rfl rfl (hts _ (tb mw5)) (hts _ (tb mw588)) kdX2_cellOf ⟨Nat.le_trans (by decide) hRf, Nat.le_trans (by decide) hRl⟩, hts _ (tb mw589)⟩ (ctX2_cellOf l D cy ev  r98 _ _ h) hE hK hP hD hS hA [] [0, 1, 2, 3, 4, 5, 6, 7, 8, 9, 10, 11, 12, 13] rfl rfl (by decide) (by decide) (by decide) rfl hl.1 rfl (Nat.le_of_ble_eq_true rfl) ⟨Nat.zero_le _, Nat.zero_le _⟩ dX3_go_112 (fun r112 u H locs h hP hD hS => ?_)
        have hP : va_P D clsX [((rG 11), .inl (cy 2, 5, .inl G_isFalse)), (h0, .inr (3, oX3 rF)), ((rF 0), .inr (4, oX4 rG sG)), ((rF 1), .inr (1, oX1 rE)), ((rF 3), .inl (cy 0, 29, .inl F_all_49)), ((rG 12), .inl (cy 0, 4, .inl G_kind)), ((rE 0), .inl (cy 1, 100, .inl E_heardAt)), ((rE 1), .inl (cy 1, 3200, .inl E_nearest)), ((rE 3), .inl (cy 0, 4, .inl E_ofVoice)), ((rE 4), .inl (cy 0, 5, .inl E_alike)), ((rF 2), .inr (2, oX2 rW)), ((rW 0), .inl (cy 0, 400, .inl W_next)), ((rW 1), .inl (cy 0, 500, .inl W_way)), ((rW 2), .inl (cy 0, 5, .inl W_goal))] H := hP
        have hD : va_D A [((rG 11), .inl (cy 2, 5, .inl G_isFalse)), (h0, .inr (3, oX3 rF)), ((rF 0), .inr (4, oX4 rG sG)), ((rF 1), .inr (1, oX1 rE)), ((rF 3), .inl (cy 0, 29, .inl F_all_49)), ((rG 12), .inl (cy 0, 4, .inl G_kind)), ((rE 0), .inl (cy 1, 100, .inl E_heardAt)), ((rE 1), .inl (cy 1, 3200, .inl E_nearest)), ((rE 3), .inl (cy 0, 4, .inl E_ofVoice)), ((rE 4), .inl (cy 0, 5, .inl E_alike)), ((rF 2), .inr (2, oX2 rW)), ((rW 0), .inl (cy 0, 400, .inl W_next)), ((rW 1), .inl (cy 0, 500, .inl W_way)), ((rW 2), .inl (cy 0, 5, .inl W_goal))] := hD
        obtain ⟨hin, h⟩ := h
        refine sti (k := (l3 + (0 : Int32)).toNatClampNeg) (y := r112) hx hb hK hP hD hS 4 rfl hin rfl rfl dX3_go_115 (fun F_all_115 eF_all_115 H locs hP hD hS => ?_)
        have h := h F_all_115 eF_all_115
        have hP : va_P D clsX [((rG 11), .inl (cy 2, 5, .inl G_isFalse)), (h0, .inr (3, oX3 rF)), ((rF 0), .inr (4, oX4 rG sG)), ((rF 1), .inr (1, oX1 rE)), ((rF 3), .inl (cy 0, 29, .inl F_all_115)), ((rG 12), .inl (cy 0, 4, .inl G_kind)), ((rE 0), .inl (cy 1, 100, .inl E_heardAt)), ((rE 1), .inl (cy 1, 3200, .inl E_nearest)), ((rE 3), .inl (cy 0, 4, .inl E_ofVoice)), ((rE 4), .inl (cy 0, 5, .inl E_alike)), ((rF 2), .inr (2, oX2 rW)), ((rW 0), .inl (cy 0, 400, .inl W_next)), ((rW 1), .inl (cy 0, 500, .inl W_way)), ((rW 2), .inl (cy 0, 5, .inl W_goal))] H := hP
        have hD : va_D A [((rG 11), .inl (cy 2, 5, .inl G_isFalse)), (h0, .inr (3, oX3 rF)), ((rF 0), .inr (4, oX4 rG sG)), ((rF 1), .inr (1, oX1 rE)), ((rF 3), .inl (cy 0, 29, .inl F_all_115)), ((rG 12), .inl (cy 0, 4, .inl G_kind)), ((rE 0), .inl (cy 1, 100, .inl E_heardAt)), ((rE 1), .inl (cy 1, 3200, .inl E_nearest)), ((rE 3), .inl (cy 0, 4, .inl E_ofVoice)), ((rE 4), .inl (cy 0, 5, .inl E_alike)), ((rF 2), .inr (2, oX2 rW)), ((rW 0), .inl (cy 0, 400, .inl W_next)), ((rW 1), .inl (cy 0, 500, .inl W_way)), ((rW 2), .inl (cy 0, 5, .inl W_goal))] := hD
        refine lv_aload_n hx hb dX3_go_116 rfl (lv_at hl 3 rfl) ?_
        refine gfX3_11 hx hb hts hown hK hP 1 rfl dX3_go_117 ?_
        refine lv_iload_n hx hb dX3_go_120 rfl (lv_at hl 6 rfl) ?_
        refine lv_iconst (v := (2 : Int32)) hx hb dX3_go_121 (by decide) ?_
        refine lv_iadd hx hb dX3_go_122 ?_
        refine lv_iload hx hb dX3_go_123 (lv_at hl 0 rfl) ?_
        refine clSi (As := [.int r98]) (rest := [.int (l3 + (2 : Int32)), .ref (rF 3)]) (Wr := [((rG 11), .inl (cy 2, 5, .inl G_isFalse)), (h0, .inr (3, oX3 rF)), ((rF 0), .inr (4, oX4 rG sG)), ((rF 1), .inr (1, oX1 rE)), ((rF 3), .inl (cy 0, 29, .inl F_all_115)), ((rG 12), .inl (cy 0, 4, .inl G_kind)), ((rE 0), .inl (cy 1, 100, .inl E_heardAt)), ((rE 1), .inl (cy 1, 3200, .inl E_nearest)), ((rE 3), .inl (cy 0, 4, .inl E_ofVoice)), ((rE 4), .inl (cy 0, 5, .inl E_alike)), ((rF 2), .inr (2, oX2 rW)), ((rW 0), .inl (cy 0, 400, .inl W_next)), ((rW 1), .inl (cy 0, 500, .inl W_way)), ((rW 2), .inl (cy 0, 5, .inl W_goal))]) ⟨hx, hb, hml, hown, hts⟩ ⟨callB_of 1 hts (goodC mw593) rfl rfl rfl (hts _ (tb mw5)) (hts _ (tb mw591)) kdX2_headingOf ⟨Nat.le_trans (by decide) hRf, Nat.le_trans (by decide) hRl⟩, hts _ (tb mw592)⟩ (ctX2_headingOf l D cy ev  r98 _ _ h) hE hK hP hD hS hA [] [0, 1, 2, 3, 4, 5, 6, 7, 8, 9, 10, 11, 12, 13] rfl rfl (by decide) (by decide) (by decide) rfl hl.1 rfl (Nat.le_of_ble_eq_true rfl) ⟨Nat.zero_le _, Nat.zero_le _⟩ dX3_go_125 (fun r125 u H locs h hP hD hS => ?_)
        have hP : va_P D clsX [((rG 11), .inl (cy 2, 5, .inl G_isFalse)), (h0, .inr (3, oX3 rF)), ((rF 0), .inr (4, oX4 rG sG)), ((rF 1), .inr (1, oX1 rE)), ((rF 3), .inl (cy 0, 29, .inl F_all_115)), ((rG 12), .inl (cy 0, 4, .inl G_kind)), ((rE 0), .inl (cy 1, 100, .inl E_heardAt)), ((rE 1), .inl (cy 1, 3200, .inl E_nearest)), ((rE 3), .inl (cy 0, 4, .inl E_ofVoice)), ((rE 4), .inl (cy 0, 5, .inl E_alike)), ((rF 2), .inr (2, oX2 rW)), ((rW 0), .inl (cy 0, 400, .inl W_next)), ((rW 1), .inl (cy 0, 500, .inl W_way)), ((rW 2), .inl (cy 0, 5, .inl W_goal))] H := hP
        have hD : va_D A [((rG 11), .inl (cy 2, 5, .inl G_isFalse)), (h0, .inr (3, oX3 rF)), ((rF 0), .inr (4, oX4 rG sG)), ((rF 1), .inr (1, oX1 rE)), ((rF 3), .inl (cy 0, 29, .inl F_all_115)), ((rG 12), .inl (cy 0, 4, .inl G_kind)), ((rE 0), .inl (cy 1, 100, .inl E_heardAt)), ((rE 1), .inl (cy 1, 3200, .inl E_nearest)), ((rE 3), .inl (cy 0, 4, .inl E_ofVoice)), ((rE 4), .inl (cy 0, 5, .inl E_alike)), ((rF 2), .inr (2, oX2 rW)), ((rW 0), .inl (cy 0, 400, .inl W_next)), ((rW 1), .inl (cy 0, 500, .inl W_way)), ((rW 2), .inl (cy 0, 5, .inl W_goal))] := hD
        obtain ⟨hin, h⟩ := h
        refine sti (k := (l3 + (2 : Int32)).toNatClampNeg) (y := r125) hx hb hK hP hD hS 4 rfl hin rfl rfl dX3_go_128 (fun F_all_128 eF_all_128 H locs hP hD hS => ?_)
        have h := h F_all_128 eF_all_128
        have hP : va_P D clsX [((rG 11), .inl (cy 2, 5, .inl G_isFalse)), (h0, .inr (3, oX3 rF)), ((rF 0), .inr (4, oX4 rG sG)), ((rF 1), .inr (1, oX1 rE)), ((rF 3), .inl (cy 0, 29, .inl F_all_128)), ((rG 12), .inl (cy 0, 4, .inl G_kind)), ((rE 0), .inl (cy 1, 100, .inl E_heardAt)), ((rE 1), .inl (cy 1, 3200, .inl E_nearest)), ((rE 3), .inl (cy 0, 4, .inl E_ofVoice)), ((rE 4), .inl (cy 0, 5, .inl E_alike)), ((rF 2), .inr (2, oX2 rW)), ((rW 0), .inl (cy 0, 400, .inl W_next)), ((rW 1), .inl (cy 0, 500, .inl W_way)), ((rW 2), .inl (cy 0, 5, .inl W_goal))] H := hP
        have hD : va_D A [((rG 11), .inl (cy 2, 5, .inl G_isFalse)), (h0, .inr (3, oX3 rF)), ((rF 0), .inr (4, oX4 rG sG)), ((rF 1), .inr (1, oX1 rE)), ((rF 3), .inl (cy 0, 29, .inl F_all_128)), ((rG 12), .inl (cy 0, 4, .inl G_kind)), ((rE 0), .inl (cy 1, 100, .inl E_heardAt)), ((rE 1), .inl (cy 1, 3200, .inl E_nearest)), ((rE 3), .inl (cy 0, 4, .inl E_ofVoice)), ((rE 4), .inl (cy 0, 5, .inl E_alike)), ((rF 2), .inr (2, oX2 rW)), ((rW 0), .inl (cy 0, 400, .inl W_next)), ((rW 1), .inl (cy 0, 500, .inl W_way)), ((rW 2), .inl (cy 0, 5, .inl W_goal))] := hD
        refine lv_iload hx hb dX3_go_129 (lv_at hl 1 rfl) ?_
        refine lv_if_ge (tgt := 137) hx hb dX3_go_131 (by decide) (fun c131 => ?_) (fun c131 => ?_)
        · have h := h.1 c131
          refine lv_aload_n hx hb dX3_go_137 rfl (lv_at hl 3 rfl) ?_
          refine gfX3_11 hx hb hts hown hK hP 1 rfl dX3_go_138 ?_
          refine lv_iload_n hx hb dX3_go_141 rfl (lv_at hl 6 rfl) ?_
          refine lv_iconst (v := (4 : Int32)) hx hb dX3_go_142 (by decide) ?_
          refine lv_iadd hx hb dX3_go_143 ?_
          refine lv_iload hx hb dX3_go_144 (lv_at hl 1 rfl) ?_
          obtain ⟨hin, h⟩ := h
          refine sti (k := (l3 + (4 : Int32)).toNatClampNeg) (y := r61) hx hb hK hP hD hS 4 rfl hin rfl rfl dX3_go_146 (fun F_all_146 eF_all_146 H locs hP hD hS => ?_)
          have h := h F_all_146 eF_all_146
          have hP : va_P D clsX [((rG 11), .inl (cy 2, 5, .inl G_isFalse)), (h0, .inr (3, oX3 rF)), ((rF 0), .inr (4, oX4 rG sG)), ((rF 1), .inr (1, oX1 rE)), ((rF 3), .inl (cy 0, 29, .inl F_all_146)), ((rG 12), .inl (cy 0, 4, .inl G_kind)), ((rE 0), .inl (cy 1, 100, .inl E_heardAt)), ((rE 1), .inl (cy 1, 3200, .inl E_nearest)), ((rE 3), .inl (cy 0, 4, .inl E_ofVoice)), ((rE 4), .inl (cy 0, 5, .inl E_alike)), ((rF 2), .inr (2, oX2 rW)), ((rW 0), .inl (cy 0, 400, .inl W_next)), ((rW 1), .inl (cy 0, 500, .inl W_way)), ((rW 2), .inl (cy 0, 5, .inl W_goal))] H := hP
          have hD : va_D A [((rG 11), .inl (cy 2, 5, .inl G_isFalse)), (h0, .inr (3, oX3 rF)), ((rF 0), .inr (4, oX4 rG sG)), ((rF 1), .inr (1, oX1 rE)), ((rF 3), .inl (cy 0, 29, .inl F_all_146)), ((rG 12), .inl (cy 0, 4, .inl G_kind)), ((rE 0), .inl (cy 1, 100, .inl E_heardAt)), ((rE 1), .inl (cy 1, 3200, .inl E_nearest)), ((rE 3), .inl (cy 0, 4, .inl E_ofVoice)), ((rE 4), .inl (cy 0, 5, .inl E_alike)), ((rF 2), .inr (2, oX2 rW)), ((rW 0), .inl (cy 0, 400, .inl W_next)), ((rW 1), .inl (cy 0, 500, .inl W_way)), ((rW 2), .inl (cy 0, 5, .inl W_goal))] := hD
          refine lv_aload_n hx hb dX3_go_147 rfl (lv_at hl 3 rfl) ?_
          refine gfX3_26 hx hb hts hown hK hP 1 rfl dX3_go_148 ?_
          refine lv_aload_n hx hb dX3_go_151 rfl (lv_at hl 3 rfl) ?_
          refine gfX3_11 hx hb hts hown hK hP 1 rfl dX3_go_152 ?_
          refine lv_iload_n hx hb dX3_go_155 rfl (lv_at hl 6 rfl) ?_
          refine lv_iconst (v := (0 : Int32)) hx hb dX3_go_156 (by decide) ?_
          refine lv_iadd hx hb dX3_go_157 ?_
          obtain ⟨hin, h⟩ := h
          refine ldi (k := (l3 + (0 : Int32)).toNatClampNeg) hx hb hK hP 4 rfl hin rfl dX3_go_158 ?_
          refine lv_iload hx hb dX3_go_159 (lv_at hl 1 rfl) ?_
          refine clVi (As := [.int (F_all_146 (l3 + (0 : Int32)).toNatClampNeg), .int r61]) (rest := []) (Wr := [((rG 11), .inl (cy 2, 5, .inl G_isFalse)), (h0, .inr (3, oX3 rF)), ((rF 0), .inr (4, oX4 rG sG)), ((rF 1), .inr (1, oX1 rE)), ((rF 3), .inl (cy 0, 29, .inl F_all_146)), ((rG 12), .inl (cy 0, 4, .inl G_kind)), ((rE 0), .inl (cy 1, 100, .inl E_heardAt)), ((rE 1), .inl (cy 1, 3200, .inl E_nearest)), ((rE 3), .inl (cy 0, 4, .inl E_ofVoice)), ((rE 4), .inl (cy 0, 5, .inl E_alike)), ((rW 0), .inl (cy 0, 400, .inl W_next)), ((rW 1), .inl (cy 0, 500, .inl W_way))]) (cq := (RX2, TX2, 3)) ⟨hx, hb, hml, hown, hts⟩ ⟨callB_of 2 hts (goodC mw597) rfl rfl rfl (hts _ (tb mw5)) (hts _ (tb mw594)) kdX2_isAt ⟨Nat.le_trans (by decide) hRf, Nat.le_trans (by decide) hRl⟩, hts _ (tb mw595), hts _ (tb mw596)⟩ (ctX2_isAt l D cy ev (rF 2) rW W_goal (F_all_146 (l3 + (0 : Int32)).toNatClampNeg) r61 _ _ h) hE hK hP hD hS hA [10, 13] [0, 1, 2, 3, 4, 5, 6, 7, 8, 9, 11, 12] rfl rfl (by decide) (by decide) (by decide) 0 rfl rfl rfl hl.1 rfl (Nat.le_of_ble_eq_true rfl) ⟨Nat.zero_le _, Nat.zero_le _⟩ dX3_go_161 (fun r161 u H locs h hP hD hS => ?_)
          have hP : va_P D clsX [((rG 11), .inl (cy 2, 5, .inl G_isFalse)), (h0, .inr (3, oX3 rF)), ((rF 0), .inr (4, oX4 rG sG)), ((rF 1), .inr (1, oX1 rE)), ((rF 3), .inl (cy 0, 29, .inl F_all_146)), ((rG 12), .inl (cy 0, 4, .inl G_kind)), ((rE 0), .inl (cy 1, 100, .inl E_heardAt)), ((rE 1), .inl (cy 1, 3200, .inl E_nearest)), ((rE 3), .inl (cy 0, 4, .inl E_ofVoice)), ((rE 4), .inl (cy 0, 5, .inl E_alike)), ((rW 0), .inl (cy 0, 400, .inl W_next)), ((rW 1), .inl (cy 0, 500, .inl W_way)), ((rF 2), .inr (2, oX2 rW)), ((rW 2), .inl (cy 0, 5, .inl W_goal))] H := hP
          have hD : va_D A [((rG 11), .inl (cy 2, 5, .inl G_isFalse)), (h0, .inr (3, oX3 rF)), ((rF 0), .inr (4, oX4 rG sG)), ((rF 1), .inr (1, oX1 rE)), ((rF 3), .inl (cy 0, 29, .inl F_all_146)), ((rG 12), .inl (cy 0, 4, .inl G_kind)), ((rE 0), .inl (cy 1, 100, .inl E_heardAt)), ((rE 1), .inl (cy 1, 3200, .inl E_nearest)), ((rE 3), .inl (cy 0, 4, .inl E_ofVoice)), ((rE 4), .inl (cy 0, 5, .inl E_alike)), ((rW 0), .inl (cy 0, 400, .inl W_next)), ((rW 1), .inl (cy 0, 500, .inl W_way)), ((rF 2), .inr (2, oX2 rW)), ((rW 2), .inl (cy 0, 5, .inl W_goal))] := hD
          refine lv_if_eq (tgt := 193) hx hb dX3_go_164 (by decide) (fun c164 => ?_) (fun c164 => ?_)
          · have h := h.1 c164
            refine lv_iload hx hb dX3_go_193 (lv_at hl 1 rfl) ?_
            exact hret r61 (F_all_146) _ _ _ _ rfl dX3_go_195 h (hP.sub [1, 2, 3, 12, 4, 0, 5, 6, 7, 8, 9, 10, 11, 13] rfl) (hD.sub [1, 2, 3, 12, 4, 0, 5, 6, 7, 8, 9, 10, 11, 13] (by decide) rfl) hS
          · have h := h.2 c164
            refine lv_aload_n hx hb dX3_go_167 rfl (lv_at hl 3 rfl) ?_
            refine gfX3_11 hx hb hts hown hK hP 1 rfl dX3_go_168 ?_
            refine lv_iload_n hx hb dX3_go_171 rfl (lv_at hl 6 rfl) ?_
            refine lv_iconst (v := (3 : Int32)) hx hb dX3_go_172 (by decide) ?_
            refine lv_iadd hx hb dX3_go_173 ?_
            refine lv_aload_n hx hb dX3_go_174 rfl (lv_at hl 3 rfl) ?_
            refine gfX3_18 hx hb hts hown hK hP 1 rfl dX3_go_175 ?_
            refine gfX3_91 hx hb hts hown hK hP 2 rfl dX3_go_178 ?_
            refine lv_iload hx hb dX3_go_181 (lv_at hl 1 rfl) ?_
            obtain ⟨hin, h⟩ := h
            refine ldz (k := r61.toNatClampNeg) hx hb hK hP 0 rfl hin rfl dX3_go_183 ?_
            refine lv_if_eq (tgt := 191) hx hb dX3_go_184 (by decide) (fun c184 => ?_) (fun c184 => ?_)
            · have h := h.1 c184
              refine lv_iconst (v := (1 : Int32)) hx hb dX3_go_191 (by decide) ?_
              exact J192 F_all_146 r61 (l3 + (3 : Int32)) (1 : Int32) _ _ _ h (hP.sub [1, 2, 3, 12, 4, 0, 5, 6, 7, 8, 9, 10, 11, 13] rfl) (hD.sub [1, 2, 3, 12, 4, 0, 5, 6, 7, 8, 9, 10, 11, 13] (by decide) rfl) hS (lv_sub hl [3, 1] rfl)
            · have h := h.2 c184
              refine lv_iconst (v := (2 : Int32)) hx hb dX3_go_187 (by decide) ?_
              refine lv_goto (tgt := 192) hx hb dX3_go_188 (by decide) ?_
              exact J192 F_all_146 r61 (l3 + (3 : Int32)) (2 : Int32) _ _ _ h (hP.sub [1, 2, 3, 12, 4, 0, 5, 6, 7, 8, 9, 10, 11, 13] rfl) (hD.sub [1, 2, 3, 12, 4, 0, 5, 6, 7, 8, 9, 10, 11, 13] (by decide) rfl) hS (lv_sub hl [3, 1] rfl)
        · have h := h.2 c131
          refine lv_bipush (v := (-2 : Int32)) hx hb dX3_go_134 (by decide) ?_
          exact hret (-2 : Int32) (F_all_128) _ _ _ _ rfl dX3_go_136 h (hP.sub [1, 2, 3, 10, 4, 0, 5, 6, 7, 8, 9, 11, 12, 13] rfl) (hD.sub [1, 2, 3, 10, 4, 0, 5, 6, 7, 8, 9, 11, 12, 13] (by decide) rfl) hS
      · have h := h.2 c70
        refine lv_bipush (v := (-2 : Int32)) hx hb dX3_go_73 (by decide) ?_
        exact hret (-2 : Int32) (F_all_49) _ _ _ _ rfl dX3_go_75 h (hP.sub [5, 6, 7, 0, 8, 1, 9, 10, 11, 12, 13, 2, 3, 4] rfl) (hD.sub [5, 6, 7, 0, 8, 1, 9, 10, 11, 12, 13, 2, 3, 4] (by decide) rfl) hS
    · have h := h.2 c52
      refine lv_bipush (v := (-3 : Int32)) hx hb dX3_go_55 (by decide) ?_
      exact hret (-3 : Int32) (F_all_49) _ _ _ _ rfl dX3_go_57 h hP hD hS
  refine lv_iload_n hx hb dX3_go_0 rfl (lv_at hl 1 rfl) ?_
  refine lv_bipush (v := (6 : Int32)) hx hb dX3_go_1 (by decide) ?_
  refine lv_imul hx hb dX3_go_3 ?_
  refine lv_topi (fun l3_4 el3_4 => ?_)
  have h := h l3_4 el3_4
  refine lv_istore_n (lv' := [(3, .int l3_4), (0, .ref h0), (1, .int x1), (2, .int x2)]) hx hb dX3_go_4 rfl hl (by decide) rfl (fun ls hl => ?_)
  refine lv_aload_n hx hb dX3_go_5 rfl (lv_at hl 1 rfl) ?_
  refine gfX3_18 hx hb hts hown hK hP 0 rfl dX3_go_6 ?_
  refine gfX3_68 hx hb hts hown hK hP 1 rfl dX3_go_9 ?_
  refine lv_iload_n hx hb dX3_go_12 rfl (lv_at hl 2 rfl) ?_
  obtain ⟨hin, h⟩ := h
  refine ldi (k := x1.toNatClampNeg) hx hb hK hP 6 rfl hin rfl dX3_go_13 ?_
  refine lv_iconst (v := (3 : Int32)) hx hb dX3_go_14 (by decide) ?_
  refine lv_icmp_ne (tgt := 35) hx hb dX3_go_15 (by decide) (fun c15 => ?_) (fun c15 => ?_)
  · have h := h.1 c15
    refine lv_iconst (v := (0 : Int32)) hx hb dX3_go_35 (by decide) ?_
    exact J36 x1 x2 l3_4 (0 : Int32) _ _ _ h hP hD hS (lv_sub hl [1, 2, 3, 0] rfl)
  · have h := h.2 c15
    refine lv_aload_n hx hb dX3_go_18 rfl (lv_at hl 1 rfl) ?_
    refine gfX3_11 hx hb hts hown hK hP 0 rfl dX3_go_19 ?_
    refine lv_iload_n hx hb dX3_go_22 rfl (lv_at hl 0 rfl) ?_
    refine lv_iconst (v := (5 : Int32)) hx hb dX3_go_23 (by decide) ?_
    refine lv_iadd hx hb dX3_go_24 ?_
    obtain ⟨hin, h⟩ := h
    refine ldi (k := (l3_4 + (5 : Int32)).toNatClampNeg) hx hb hK hP 4 rfl hin rfl dX3_go_25 ?_
    refine lv_iconst (v := (2 : Int32)) hx hb dX3_go_26 (by decide) ?_
    refine lv_irem hx hb dX3_go_27 (by decide) ?_
    refine lv_if_ne (tgt := 35) hx hb dX3_go_28 (by decide) (fun c28 => ?_) (fun c28 => ?_)
    · have h := h.1 c28
      refine lv_iconst (v := (0 : Int32)) hx hb dX3_go_35 (by decide) ?_
      exact J36 x1 x2 l3_4 (0 : Int32) _ _ _ h hP hD hS (lv_sub hl [1, 2, 3, 0] rfl)
    · have h := h.2 c28
      refine lv_iconst (v := (1 : Int32)) hx hb dX3_go_31 (by decide) ?_
      refine lv_goto (tgt := 36) hx hb dX3_go_32 (by decide) ?_
      exact J36 x1 x2 l3_4 (1 : Int32) _ _ _ h hP hD hS (lv_sub hl [1, 2, 3, 0] rfl)
def wpX3_hear_L2 (sG : AR) (F_reasons : AR) (G_isFalse : AR) (G_kind : AR) (E_heardAt : AR) (E_nearest : AR) (E_ofVoice : AR) (E_alike : AR) (W_next : AR) (W_way : AR) (W_goal : AR) (l1 : Int32) (kx36 : AR → Int32 → Prop) (post : AR → AR → Prop) : Nat → AR → Int32 → Prop
  | 0, _, _ => False
  | nf2 + 1, F_all, l2 => (((sG 2) ≤ l2 → kx36 F_all l2) ∧ (¬ (sG 2) ≤ l2 → vp_in ((24 : Int32) + l2) 29 ∧ vp_in ((24 : Int32) + l2) 29 ∧ ∀ F_all_29 : AR, F_all_29 = upd F_all ((24 : Int32) + l2).toNatClampNeg ((F_all ((24 : Int32) + l2).toNatClampNeg) - ((jshr l1 l2) &&& (1 : Int32))) → ∀ l2_30 : Int32, l2_30 = (l2 + (1 : Int32)) → wpX3_hear_L2 sG F_reasons G_isFalse G_kind E_heardAt E_nearest E_ofVoice E_alike W_next W_way W_goal l1 kx36 post nf2 F_all_29 l2_30))
def wpX3_hear_J92 (sG : AR) (F_all : AR) (F_reasons : AR) (G_isFalse : AR) (G_kind : AR) (E_heardAt : AR) (E_nearest : AR) (E_ofVoice : AR) (E_alike : AR) (W_next : AR) (W_way : AR) (W_goal : AR) (l1 : Int32) (l2 : Int32) (t1 : Int32) (t2 : Int32) (kb : AR → AR → Int32 → Prop) (kx99 : AR → AR → Int32 → Prop) (post : AR → AR → Prop) : Prop := vp_in t1 4 ∧ ∀ F_reasons_92 : AR, F_reasons_92 = upd F_reasons t1.toNatClampNeg t2 → ∀ l2_93 : Int32, l2_93 = (l2 + (1 : Int32)) → kb F_all F_reasons_92 l2_93
def wpX3_hear_J71 (sG : AR) (F_all : AR) (F_reasons : AR) (G_isFalse : AR) (G_kind : AR) (E_heardAt : AR) (E_nearest : AR) (E_ofVoice : AR) (E_alike : AR) (W_next : AR) (W_way : AR) (W_goal : AR) (l1 : Int32) (l2 : Int32) (t0 : Int32) (kb : AR → AR → Int32 → Prop) (kx99 : AR → AR → Int32 → Prop) (post : AR → AR → Prop) : Prop := ((t0 = 0 → wpX3_hear_J92 sG F_all F_reasons G_isFalse G_kind E_heardAt E_nearest E_ofVoice E_alike W_next W_way W_goal l1 l2 l2 (-3 : Int32) kb kx99 post) ∧ (¬ t0 = 0 → wpX3_go F_all G_isFalse G_kind E_heardAt E_nearest E_ofVoice E_alike W_next W_way W_goal l2 l1 (fun r84 F_all_84 => wpX3_hear_J92 sG F_all_84 F_reasons G_isFalse G_kind E_heardAt E_nearest E_ofVoice E_alike W_next W_way W_goal l1 l2 l2 r84 kb kx99 post)))
def wpX3_hear_L38 (sG : AR) (G_isFalse : AR) (G_kind : AR) (E_heardAt : AR) (E_nearest : AR) (E_ofVoice : AR) (E_alike : AR) (W_next : AR) (W_way : AR) (W_goal : AR) (l1 : Int32) (kx99 : AR → AR → Int32 → Prop) (post : AR → AR → Prop) : Nat → AR → AR → Int32 → Prop
  | 0, _, _, _ => False
  | nf38 + 1, F_all, F_reasons, l2 => (((sG 3) ≤ l2 → kx99 F_all F_reasons l2) ∧ (¬ (sG 3) ≤ l2 → wpX3_of F_all l2 (3 : Int32) (fun r52 => ((¬ r52 = 0 → wpX3_hear_J71 sG F_all F_reasons G_isFalse G_kind E_heardAt E_nearest E_ofVoice E_alike W_next W_way W_goal l1 l2 (0 : Int32) (fun b0 b1 b2 => wpX3_hear_L38 sG G_isFalse G_kind E_heardAt E_nearest E_ofVoice E_alike W_next W_way W_goal l1 kx99 post nf38 b0 b1 b2) kx99 post) ∧ (r52 = 0 → wpX3_falls F_all G_kind l2 (fun r60 F_all_60 => ((¬ r60 = 0 → wpX3_hear_J71 sG F_all_60 F_reasons G_isFalse G_kind E_heardAt E_nearest E_ofVoice E_alike W_next W_way W_goal l1 l2 (0 : Int32) (fun b0 b1 b2 => wpX3_hear_L38 sG G_isFalse G_kind E_heardAt E_nearest E_ofVoice E_alike W_next W_way W_goal l1 kx99 post nf38 b0 b1 b2) kx99 post) ∧ (r60 = 0 → wpX3_hear_J71 sG F_all_60 F_reasons G_isFalse G_kind E_heardAt E_nearest E_ofVoice E_alike W_next W_way W_goal l1 l2 (1 : Int32) (fun b0 b1 b2 => wpX3_hear_L38 sG G_isFalse G_kind E_heardAt E_nearest E_ofVoice E_alike W_next W_way W_goal l1 kx99 post nf38 b0 b1 b2) kx99 post))))))))
def wpX3_hear (sG : AR) (F_all : AR) (F_reasons : AR) (G_isFalse : AR) (G_kind : AR) (E_heardAt : AR) (E_nearest : AR) (E_ofVoice : AR) (E_alike : AR) (W_next : AR) (W_way : AR) (W_goal : AR) (x1 : Int32) (post : AR → AR → Prop) : Prop := ∃ nf2 : Nat, wpX3_hear_L2 sG F_reasons G_isFalse G_kind E_heardAt E_nearest E_ofVoice E_alike W_next W_way W_goal x1 (fun F_all_36 l2_36 => ∃ nf38 : Nat, wpX3_hear_L38 sG G_isFalse G_kind E_heardAt E_nearest E_ofVoice E_alike W_next W_way W_goal x1 (fun F_all_99 F_reasons_99 l2_99 => post F_all_99 F_reasons_99) post nf38 F_all_36 F_reasons (0 : Int32)) post nf2 F_all (0 : Int32)
set_option maxHeartbeats 4000000 in
set_option maxRecDepth 100000 in
theorem ctX3_hear (l : Launch) (D : va_G) (cy : Nat → ClassId) (ev : Nat → Nat) (h0 : Nat) (rF : Nat → Nat) (rG : Nat → Nat) (rE : Nat → Nat) (rW : Nat → Nat) (sG : AR) (F_all : AR) (F_reasons : AR) (G_isFalse : AR) (G_kind : AR) (E_heardAt : AR) (E_nearest : AR) (E_ofVoice : AR) (E_alike : AR) (W_next : AR) (W_way : AR) (W_goal : AR) (x1 : Int32) (sz : Nat) (post : AR → AR → Prop) (h : wpX3_hear sG F_all F_reasons G_isFalse G_kind E_heardAt E_nearest E_ofVoice E_alike W_next W_way W_goal x1 post) : Met l yX3_hear (Cond.code yX3_hear cX3_hear 4 none :: TB) ({ frames := 3, cells := 0, slots := 0, locals := 77 }) (va_Pc [.ref h0, .int x1] (PreX D cy ev [(h0, .inr (3, oX3 rF)), ((rF 0), .inr (4, oX4 rG sG)), ((rF 1), .inr (1, oX1 rE)), ((rF 2), .inr (2, oX2 rW)), ((rF 3), .inl (cy 0, 29, .inl F_all)), ((rF 4), .inl (cy 0, 4, .inl F_reasons)), ((rG 11), .inl (cy 2, 5, .inl G_isFalse)), ((rG 12), .inl (cy 0, 4, .inl G_kind)), ((rE 0), .inl (cy 1, 100, .inl E_heardAt)), ((rE 1), .inl (cy 1, 3200, .inl E_nearest)), ((rE 3), .inl (cy 0, 4, .inl E_ofVoice)), ((rE 4), .inl (cy 0, 5, .inl E_alike)), ((rW 0), .inl (cy 0, 400, .inl W_next)), ((rW 1), .inl (cy 0, 500, .inl W_way)), ((rW 2), .inl (cy 0, 5, .inl W_goal))] sz)) (va_Qv (fun (u : AR × AR) => post (u.1) (u.2)) (fun u => BkX D cy [(h0, .inr (3, oX3 rF)), ((rF 0), .inr (4, oX4 rG sG)), ((rF 1), .inr (1, oX1 rE)), ((rF 2), .inr (2, oX2 rW)), ((rF 3), .inl (cy 0, 29, .inl F_all)), ((rF 4), .inl (cy 0, 4, .inl F_reasons)), ((rG 11), .inl (cy 2, 5, .inl G_isFalse)), ((rG 12), .inl (cy 0, 4, .inl G_kind)), ((rE 0), .inl (cy 1, 100, .inl E_heardAt)), ((rE 1), .inl (cy 1, 3200, .inl E_nearest)), ((rE 3), .inl (cy 0, 4, .inl E_ofVoice)), ((rE 4), .inl (cy 0, 5, .inl E_alike)), ((rW 0), .inl (cy 0, 400, .inl W_next)), ((rW 1), .inl (cy 0, 500, .inl W_way)), ((rW 2), .inl (cy 0, 5, .inl W_goal))] sz [(h0, .inr (3, oX3 rF)), ((rF 0), .inr (4, oX4 rG sG)), ((rF 1), .inr (1, oX1 rE)), ((rF 2), .inr (2, oX2 rW)), ((rF 3), .inl (cy 0, 29, .inl (u.1))), ((rF 4), .inl (cy 0, 4, .inl (u.2))), ((rG 11), .inl (cy 2, 5, .inl G_isFalse)), ((rG 12), .inl (cy 0, 4, .inl G_kind)), ((rE 0), .inl (cy 1, 100, .inl E_heardAt)), ((rE 1), .inl (cy 1, 3200, .inl E_nearest)), ((rE 3), .inl (cy 0, 4, .inl E_ofVoice)), ((rE 4), .inl (cy 0, 5, .inl E_alike)), ((rW 0), .inl (cy 0, 400, .inl W_next)), ((rW 1), .inl (cy 0, 500, .inl W_way)), ((rW 2), .inl (cy 0, 5, .inl W_goal))]) (va_A [(h0, .inr (3, oX3 rF)), ((rF 0), .inr (4, oX4 rG sG)), ((rF 1), .inr (1, oX1 rE)), ((rF 2), .inr (2, oX2 rW)), ((rF 3), .inl (cy 0, 29, .inl F_all)), ((rF 4), .inl (cy 0, 4, .inl F_reasons)), ((rG 11), .inl (cy 2, 5, .inl G_isFalse)), ((rG 12), .inl (cy 0, 4, .inl G_kind)), ((rE 0), .inl (cy 1, 100, .inl E_heardAt)), ((rE 1), .inl (cy 1, 3200, .inl E_nearest)), ((rE 3), .inl (cy 0, 4, .inl E_ofVoice)), ((rE 4), .inl (cy 0, 5, .inl E_alike)), ((rW 0), .inl (cy 0, 400, .inl W_next)), ((rW 1), .inl (cy 0, 500, .inl W_way)), ((rW 2), .inl (cy 0, 5, .inl W_goal))] sz)) 0 0 (va_A [(h0, .inr (3, oX3 rF)), ((rF 0), .inr (4, oX4 rG sG)), ((rF 1), .inr (1, oX1 rE)), ((rF 2), .inr (2, oX2 rW)), ((rF 3), .inl (cy 0, 29, .inl F_all)), ((rF 4), .inl (cy 0, 4, .inl F_reasons)), ((rG 11), .inl (cy 2, 5, .inl G_isFalse)), ((rG 12), .inl (cy 0, 4, .inl G_kind)), ((rE 0), .inl (cy 1, 100, .inl E_heardAt)), ((rE 1), .inl (cy 1, 3200, .inl E_nearest)), ((rE 3), .inl (cy 0, 4, .inl E_ofVoice)), ((rE 4), .inl (cy 0, 5, .inl E_alike)), ((rW 0), .inl (cy 0, 400, .inl W_next)), ((rW 1), .inl (cy 0, 500, .inl W_way)), ((rW 2), .inl (cy 0, 5, .inl W_goal))] sz) := by
  refine ofWv (by decide) (Nat.le_of_ble_eq_true rfl) ?_
  intro p e s m args below meth c ls A R QQ hx hb hml hown hts hR hlk hE hK hP hD hS hA hl hret
  have hown : s.vm.findClass RX3 = some m.cls := hown
  have hRf : 3 ≤ R.frames := by rw [hR]; exact Nat.le_refl _
  have hRl : 77 ≤ R.locals := by rw [hR]; exact Nat.le_refl _
  clear hR
  have hl : lv_has ls 4 [(0, .ref h0), (1, .int x1)] := hl
  have L38 : ∀ (l1 : Int32) (kx99 : AR → AR → Int32 → Prop), (∀ (F_all : AR) (F_reasons : AR) (l2 : Int32) (H : Heap) (locs : List Loc) (ls : Array Slot), kx99 F_all F_reasons l2 → va_P D clsX [(h0, .inr (3, oX3 rF)), ((rF 0), .inr (4, oX4 rG sG)), ((rF 1), .inr (1, oX1 rE)), ((rF 2), .inr (2, oX2 rW)), ((rF 3), .inl (cy 0, 29, .inl F_all)), ((rF 4), .inl (cy 0, 4, .inl F_reasons)), ((rG 11), .inl (cy 2, 5, .inl G_isFalse)), ((rG 12), .inl (cy 0, 4, .inl G_kind)), ((rE 0), .inl (cy 1, 100, .inl E_heardAt)), ((rE 1), .inl (cy 1, 3200, .inl E_nearest)), ((rE 3), .inl (cy 0, 4, .inl E_ofVoice)), ((rE 4), .inl (cy 0, 5, .inl E_alike)), ((rW 0), .inl (cy 0, 400, .inl W_next)), ((rW 1), .inl (cy 0, 500, .inl W_way)), ((rW 2), .inl (cy 0, 5, .inl W_goal))] H → va_D A [(h0, .inr (3, oX3 rF)), ((rF 0), .inr (4, oX4 rG sG)), ((rF 1), .inr (1, oX1 rE)), ((rF 2), .inr (2, oX2 rW)), ((rF 3), .inl (cy 0, 29, .inl F_all)), ((rF 4), .inl (cy 0, 4, .inl F_reasons)), ((rG 11), .inl (cy 2, 5, .inl G_isFalse)), ((rG 12), .inl (cy 0, 4, .inl G_kind)), ((rE 0), .inl (cy 1, 100, .inl E_heardAt)), ((rE 1), .inl (cy 1, 3200, .inl E_nearest)), ((rE 3), .inl (cy 0, 4, .inl E_ofVoice)), ((rE 4), .inl (cy 0, 5, .inl E_alike)), ((rW 0), .inl (cy 0, 400, .inl W_next)), ((rW 1), .inl (cy 0, 500, .inl W_way)), ((rW 2), .inl (cy 0, 5, .inl W_goal))] → va_S A s.heap H locs → lv_has ls 4 [(0, .ref h0)] → W p l e R s m args below meth c H locs 0 0 QQ (F0 m 99 ls [])) → ∀ (nf38 : Nat) (F_all : AR) (F_reasons : AR) (l2 : Int32) (H : Heap) (locs : List Loc) (ls : Array Slot), wpX3_hear_L38 sG G_isFalse G_kind E_heardAt E_nearest E_ofVoice E_alike W_next W_way W_goal l1 kx99 post nf38 F_all F_reasons l2 → va_P D clsX [(h0, .inr (3, oX3 rF)), ((rF 0), .inr (4, oX4 rG sG)), ((rF 1), .inr (1, oX1 rE)), ((rF 2), .inr (2, oX2 rW)), ((rF 3), .inl (cy 0, 29, .inl F_all)), ((rF 4), .inl (cy 0, 4, .inl F_reasons)), ((rG 11), .inl (cy 2, 5, .inl G_isFalse)), ((rG 12), .inl (cy 0, 4, .inl G_kind)), ((rE 0), .inl (cy 1, 100, .inl E_heardAt)), ((rE 1), .inl (cy 1, 3200, .inl E_nearest)), ((rE 3), .inl (cy 0, 4, .inl E_ofVoice)), ((rE 4), .inl (cy 0, 5, .inl E_alike)), ((rW 0), .inl (cy 0, 400, .inl W_next)), ((rW 1), .inl (cy 0, 500, .inl W_way)), ((rW 2), .inl (cy 0, 5, .inl W_goal))] H → va_D A [(h0, .inr (3, oX3 rF)), ((rF 0), .inr (4, oX4 rG sG)), ((rF 1), .inr (1, oX1 rE)), ((rF 2), .inr (2, oX2 rW)), ((rF 3), .inl (cy 0, 29, .inl F_all)), ((rF 4), .inl (cy 0, 4, .inl F_reasons)), ((rG 11), .inl (cy 2, 5, .inl G_isFalse)), ((rG 12), .inl (cy 0, 4, .inl G_kind)), ((rE 0), .inl (cy 1, 100, .inl E_heardAt)), ((rE 1), .inl (cy 1, 3200, .inl E_nearest)), ((rE 3), .inl (cy 0, 4, .inl E_ofVoice)), ((rE 4), .inl (cy 0, 5, .inl E_alike)), ((rW 0), .inl (cy 0, 400, .inl W_next)), ((rW 1), .inl (cy 0, 500, .inl W_way)), ((rW 2), .inl (cy 0, 5, .inl W_goal))] → va_S A s.heap H locs → lv_has ls 4 [(0, .ref h0), (1, .int l1), (2, .int l2)] → W p l e R s m args below meth c H locs 0 0 QQ (F0 m 38 ls []) := by
    intro l1 kx99 hk38_99 nf38
    induction nf38 with
    | zero =>
      intro F_all F_reasons l2 H locs ls h
      exact (show False from h).elim
    | succ nf38 ih38 =>
      intro F_all F_reasons l2 H locs ls h hP hD hS hl
      have J71 : ∀ (F_all : AR) (F_reasons : AR) (l2 : Int32) (t0 : Int32) (H : Heap) (locs : List Loc) (ls : Array Slot), wpX3_hear_J71 sG F_all F_reasons G_isFalse G_kind E_heardAt E_nearest E_ofVoice E_alike W_next W_way W_goal l1 l2 t0 (fun b0 b1 b2 => wpX3_hear_L38 sG G_isFalse G_kind E_heardAt E_nearest E_ofVoice E_alike W_next W_way W_goal l1 kx99 post nf38 b0 b1 b2) kx99 post → va_P D clsX [(h0, .inr (3, oX3 rF)), ((rF 0), .inr (4, oX4 rG sG)), ((rF 1), .inr (1, oX1 rE)), ((rF 2), .inr (2, oX2 rW)), ((rF 3), .inl (cy 0, 29, .inl F_all)), ((rF 4), .inl (cy 0, 4, .inl F_reasons)), ((rG 11), .inl (cy 2, 5, .inl G_isFalse)), ((rG 12), .inl (cy 0, 4, .inl G_kind)), ((rE 0), .inl (cy 1, 100, .inl E_heardAt)), ((rE 1), .inl (cy 1, 3200, .inl E_nearest)), ((rE 3), .inl (cy 0, 4, .inl E_ofVoice)), ((rE 4), .inl (cy 0, 5, .inl E_alike)), ((rW 0), .inl (cy 0, 400, .inl W_next)), ((rW 1), .inl (cy 0, 500, .inl W_way)), ((rW 2), .inl (cy 0, 5, .inl W_goal))] H → va_D A [(h0, .inr (3, oX3 rF)), ((rF 0), .inr (4, oX4 rG sG)), ((rF 1), .inr (1, oX1 rE)), ((rF 2), .inr (2, oX2 rW)), ((rF 3), .inl (cy 0, 29, .inl F_all)), ((rF 4), .inl (cy 0, 4, .inl F_reasons)), ((rG 11), .inl (cy 2, 5, .inl G_isFalse)), ((rG 12), .inl (cy 0, 4, .inl G_kind)), ((rE 0), .inl (cy 1, 100, .inl E_heardAt)), ((rE 1), .inl (cy 1, 3200, .inl E_nearest)), ((rE 3), .inl (cy 0, 4, .inl E_ofVoice)), ((rE 4), .inl (cy 0, 5, .inl E_alike)), ((rW 0), .inl (cy 0, 400, .inl W_next)), ((rW 1), .inl (cy 0, 500, .inl W_way)), ((rW 2), .inl (cy 0, 5, .inl W_goal))] → va_S A s.heap H locs → lv_has ls 4 [(0, .ref h0), (1, .int l1), (2, .int l2)] → W p l e R s m args below meth c H locs 0 0 QQ (F0 m 71 ls [.int t0]) := by
        intro F_all F_reasons l2 t0 H locs ls h hP hD hS hl
        have J92 : ∀ (F_all : AR) (F_reasons : AR) (l2 : Int32) (t1 : Int32) (t2 : Int32) (H : Heap) (locs : List Loc) (ls : Array Slot), wpX3_hear_J92 sG F_all F_reasons G_isFalse G_kind E_heardAt E_nearest E_ofVoice E_alike W_next W_way W_goal l1 l2 t1 t2 (fun b0 b1 b2 => wpX3_hear_L38 sG G_isFalse G_kind E_heardAt E_nearest E_ofVoice E_alike W_next W_way W_goal l1 kx99 post nf38 b0 b1 b2) kx99 post → va_P D clsX [(h0, .inr (3, oX3 rF)), ((rF 0), .inr (4, oX4 rG sG)), ((rF 1), .inr (1, oX1 rE)), ((rF 2), .inr (2, oX2 rW)), ((rF 3), .inl (cy 0, 29, .inl F_all)), ((rF 4), .inl (cy 0, 4, .inl F_reasons)), ((rG 11), .inl (cy 2, 5, .inl G_isFalse)), ((rG 12), .inl (cy 0, 4, .inl G_kind)), ((rE 0), .inl (cy 1, 100, .inl E_heardAt)), ((rE 1), .inl (cy 1, 3200, .inl E_nearest)), ((rE 3), .inl (cy 0, 4, .inl E_ofVoice)), ((rE 4), .inl (cy 0, 5, .inl E_alike)), ((rW 0), .inl (cy 0, 400, .inl W_next)), ((rW 1), .inl (cy 0, 500, .inl W_way)), ((rW 2), .inl (cy 0, 5, .inl W_goal))] H → va_D A [(h0, .inr (3, oX3 rF)), ((rF 0), .inr (4, oX4 rG sG)), ((rF 1), .inr (1, oX1 rE)), ((rF 2), .inr (2, oX2 rW)), ((rF 3), .inl (cy 0, 29, .inl F_all)), ((rF 4), .inl (cy 0, 4, .inl F_reasons)), ((rG 11), .inl (cy 2, 5, .inl G_isFalse)), ((rG 12), .inl (cy 0, 4, .inl G_kind)), ((rE 0), .inl (cy 1, 100, .inl E_heardAt)), ((rE 1), .inl (cy 1, 3200, .inl E_nearest)), ((rE 3), .inl (cy 0, 4, .inl E_ofVoice)), ((rE 4), .inl (cy 0, 5, .inl E_alike)), ((rW 0), .inl (cy 0, 400, .inl W_next)), ((rW 1), .inl (cy 0, 500, .inl W_way)), ((rW 2), .inl (cy 0, 5, .inl W_goal))] → va_S A s.heap H locs → lv_has ls 4 [(0, .ref h0), (1, .int l1), (2, .int l2)] → W p l e R s m args below meth c H locs 0 0 QQ (F0 m 92 ls [.int t2, .int t1, .ref (rF 4)]) := by
          intro F_all F_reasons l2 t1 t2 H locs ls h hP hD hS hl
          obtain ⟨hin, h⟩ := h
          refine sti (k := t1.toNatClampNeg) (y := t2) hx hb hK hP hD hS 5 rfl hin rfl rfl dX3_hear_92 (fun F_reasons_92 eF_reasons_92 H locs hP hD hS => ?_)
          have h := h F_reasons_92 eF_reasons_92
          have hP : va_P D clsX [(h0, .inr (3, oX3 rF)), ((rF 0), .inr (4, oX4 rG sG)), ((rF 1), .inr (1, oX1 rE)), ((rF 2), .inr (2, oX2 rW)), ((rF 3), .inl (cy 0, 29, .inl F_all)), ((rF 4), .inl (cy 0, 4, .inl F_reasons_92)), ((rG 11), .inl (cy 2, 5, .inl G_isFalse)), ((rG 12), .inl (cy 0, 4, .inl G_kind)), ((rE 0), .inl (cy 1, 100, .inl E_heardAt)), ((rE 1), .inl (cy 1, 3200, .inl E_nearest)), ((rE 3), .inl (cy 0, 4, .inl E_ofVoice)), ((rE 4), .inl (cy 0, 5, .inl E_alike)), ((rW 0), .inl (cy 0, 400, .inl W_next)), ((rW 1), .inl (cy 0, 500, .inl W_way)), ((rW 2), .inl (cy 0, 5, .inl W_goal))] H := hP
          have hD : va_D A [(h0, .inr (3, oX3 rF)), ((rF 0), .inr (4, oX4 rG sG)), ((rF 1), .inr (1, oX1 rE)), ((rF 2), .inr (2, oX2 rW)), ((rF 3), .inl (cy 0, 29, .inl F_all)), ((rF 4), .inl (cy 0, 4, .inl F_reasons_92)), ((rG 11), .inl (cy 2, 5, .inl G_isFalse)), ((rG 12), .inl (cy 0, 4, .inl G_kind)), ((rE 0), .inl (cy 1, 100, .inl E_heardAt)), ((rE 1), .inl (cy 1, 3200, .inl E_nearest)), ((rE 3), .inl (cy 0, 4, .inl E_ofVoice)), ((rE 4), .inl (cy 0, 5, .inl E_alike)), ((rW 0), .inl (cy 0, 400, .inl W_next)), ((rW 1), .inl (cy 0, 500, .inl W_way)), ((rW 2), .inl (cy 0, 5, .inl W_goal))] := hD
          obtain ⟨l2_93, el2_93⟩ : ∃ y : Int32, y = l2 + (1 : Int32) := ⟨_, rfl⟩
          have h := h l2_93 el2_93
          refine lv_iinc (v := l2_93) (lv' := [(2, .int l2_93), (0, .ref h0), (1, .int l1)]) hx hb dX3_hear_93 hl (k := 2) rfl (by rw [el2_93]; rfl) (by decide) rfl (fun ls hl => ?_)
          refine lv_goto (tgt := 38) hx hb dX3_hear_96 (by decide) ?_
          exact ih38 F_all F_reasons_92 l2_93 _ _ _ h hP hD hS (lv_sub hl [1, 2, 0] rfl)
        refine lv_istore_n (lv' := [(3, .int t0), (0, .ref h0), (1, .int l1), (2, .int l2)]) hx hb dX3_hear_71 rfl hl (by decide) rfl (fun ls hl => ?_)
        refine lv_aload_n hx hb dX3_hear_72 rfl (lv_at hl 1 rfl) ?_
        refine gfX3_15 hx hb hts hown hK hP 0 rfl dX3_hear_73 ?_
        refine lv_iload_n hx hb dX3_hear_76 rfl (lv_at hl 3 rfl) ?_
        refine lv_iload_n hx hb dX3_hear_77 rfl (lv_at hl 0 rfl) ?_
        refine lv_if_eq (tgt := 90) hx hb dX3_hear_78 (by decide) (fun c78 => ?_) (fun c78 => ?_)
        · have h := h.1 c78
          refine lv_bipush (v := (-3 : Int32)) hx hb dX3_hear_90 (by decide) ?_
          exact J92 F_all F_reasons l2 l2 (-3 : Int32) _ _ _ h hP hD hS (lv_sub hl [1, 2, 3] rfl)
        · have h := h.2 c78
          refine lv_aload_n hx hb dX3_hear_81 rfl (lv_at hl 1 rfl) ?_
          refine lv_iload_n hx hb dX3_hear_82 rfl (lv_at hl 3 rfl) ?_
          refine lv_iload_n hx hb dX3_hear_83 rfl (lv_at hl 2 rfl) ?_
          refine clVi (As := [.int l2, .int l1]) (rest := [.int l2, .ref (rF 4)]) (Wr := [((rF 4), .inl (cy 0, 4, .inl F_reasons))]) (cq := (RX3, TX3, 5)) ⟨hx, hb, hml, hown, hts⟩ ⟨callB_of 2 hts (goodC mw567) rfl rfl rfl (hts _ (tb mw9)) (hts _ (tb mw564)) kdX3_go ⟨Nat.le_trans (by decide) hRf, Nat.le_trans (by decide) hRl⟩, hts _ (tb mw566), hts _ (tb ms8)⟩ (ctX3_go l D cy ev h0 rF rG rE rW sG F_all G_isFalse G_kind E_heardAt E_nearest E_ofVoice E_alike W_next W_way W_goal l2 l1 _ _ h) hE hK hP hD hS hA [0, 1, 2, 3, 4, 6, 7, 8, 9, 10, 11, 12, 13, 14] [5] rfl rfl (by decide) (by decide) (by decide) 0 rfl rfl rfl hl.1 rfl (Nat.le_of_ble_eq_true rfl) ⟨Nat.zero_le _, Nat.zero_le _⟩ dX3_hear_84 (fun r84 F_all_84 H locs h hP hD hS => ?_)
          have hP : va_P D clsX [((rF 4), .inl (cy 0, 4, .inl F_reasons)), (h0, .inr (3, oX3 rF)), ((rF 0), .inr (4, oX4 rG sG)), ((rF 1), .inr (1, oX1 rE)), ((rF 2), .inr (2, oX2 rW)), ((rF 3), .inl (cy 0, 29, .inl F_all_84)), ((rG 11), .inl (cy 2, 5, .inl G_isFalse)), ((rG 12), .inl (cy 0, 4, .inl G_kind)), ((rE 0), .inl (cy 1, 100, .inl E_heardAt)), ((rE 1), .inl (cy 1, 3200, .inl E_nearest)), ((rE 3), .inl (cy 0, 4, .inl E_ofVoice)), ((rE 4), .inl (cy 0, 5, .inl E_alike)), ((rW 0), .inl (cy 0, 400, .inl W_next)), ((rW 1), .inl (cy 0, 500, .inl W_way)), ((rW 2), .inl (cy 0, 5, .inl W_goal))] H := hP
          have hD : va_D A [((rF 4), .inl (cy 0, 4, .inl F_reasons)), (h0, .inr (3, oX3 rF)), ((rF 0), .inr (4, oX4 rG sG)), ((rF 1), .inr (1, oX1 rE)), ((rF 2), .inr (2, oX2 rW)), ((rF 3), .inl (cy 0, 29, .inl F_all_84)), ((rG 11), .inl (cy 2, 5, .inl G_isFalse)), ((rG 12), .inl (cy 0, 4, .inl G_kind)), ((rE 0), .inl (cy 1, 100, .inl E_heardAt)), ((rE 1), .inl (cy 1, 3200, .inl E_nearest)), ((rE 3), .inl (cy 0, 4, .inl E_ofVoice)), ((rE 4), .inl (cy 0, 5, .inl E_alike)), ((rW 0), .inl (cy 0, 400, .inl W_next)), ((rW 1), .inl (cy 0, 500, .inl W_way)), ((rW 2), .inl (cy 0, 5, .inl W_goal))] := hD
          refine lv_goto (tgt := 92) hx hb dX3_hear_87 (by decide) ?_
          exact J92 F_all_84 F_reasons l2 l2 r84 _ _ _ h (hP.sub [1, 2, 3, 4, 5, 0, 6, 7, 8, 9, 10, 11, 12, 13, 14] rfl) (hD.sub [1, 2, 3, 4, 5, 0, 6, 7, 8, 9, 10, 11, 12, 13, 14] (by decide) rfl) hS (lv_sub hl [1, 2, 3] rfl)
      refine lv_iload_n hx hb dX3_hear_38 rfl (lv_at hl 2 rfl) ?_
      refine lv_aload_n hx hb dX3_hear_39 rfl (lv_at hl 0 rfl) ?_
      refine gfX3_18 hx hb hts hown hK hP 0 rfl dX3_hear_40 ?_
      refine gfX3_30 (v := (sG 3)) hx hb hts hown hK hP 1 rfl rfl dX3_hear_43 ?_
      refine lv_icmp_ge (tgt := 99) hx hb dX3_hear_46 (by decide) (fun c46 => ?_) (fun c46 => ?_)
      · have h := h.1 c46
        exact hk38_99 F_all F_reasons l2 _ _ _ h hP hD hS (lv_sub hl [0] rfl)
      · have h := h.2 c46
        refine lv_aload_n hx hb dX3_hear_49 rfl (lv_at hl 0 rfl) ?_
        refine lv_iload_n hx hb dX3_hear_50 rfl (lv_at hl 2 rfl) ?_
        refine lv_iconst (v := (3 : Int32)) hx hb dX3_hear_51 (by decide) ?_
        refine clVi (As := [.int l2, .int (3 : Int32)]) (rest := []) (Wr := [((rF 0), .inr (4, oX4 rG sG)), ((rF 1), .inr (1, oX1 rE)), ((rF 2), .inr (2, oX2 rW)), ((rF 4), .inl (cy 0, 4, .inl F_reasons)), ((rG 11), .inl (cy 2, 5, .inl G_isFalse)), ((rG 12), .inl (cy 0, 4, .inl G_kind)), ((rE 0), .inl (cy 1, 100, .inl E_heardAt)), ((rE 1), .inl (cy 1, 3200, .inl E_nearest)), ((rE 3), .inl (cy 0, 4, .inl E_ofVoice)), ((rE 4), .inl (cy 0, 5, .inl E_alike)), ((rW 0), .inl (cy 0, 400, .inl W_next)), ((rW 1), .inl (cy 0, 500, .inl W_way)), ((rW 2), .inl (cy 0, 5, .inl W_goal))]) (cq := (RX3, TX3, 5)) ⟨hx, hb, hml, hown, hts⟩ ⟨callB_of 2 hts (goodC mw559) rfl rfl rfl (hts _ (tb mw9)) (hts _ (tb mw556)) kdX3_of ⟨Nat.le_trans (by decide) hRf, Nat.le_trans (by decide) hRl⟩, hts _ (tb mw557), hts _ (tb mw558)⟩ (ctX3_of l D cy ev h0 rF F_all l2 (3 : Int32) _ _ h) hE hK hP hD hS hA [0, 4] [1, 2, 3, 5, 6, 7, 8, 9, 10, 11, 12, 13, 14] rfl rfl (by decide) (by decide) (by decide) 0 rfl rfl rfl hl.1 rfl (Nat.le_of_ble_eq_true rfl) ⟨Nat.zero_le _, Nat.zero_le _⟩ dX3_hear_52 (fun r52 u H locs h hP hD hS => ?_)
        have hP : va_P D clsX [((rF 0), .inr (4, oX4 rG sG)), ((rF 1), .inr (1, oX1 rE)), ((rF 2), .inr (2, oX2 rW)), ((rF 4), .inl (cy 0, 4, .inl F_reasons)), ((rG 11), .inl (cy 2, 5, .inl G_isFalse)), ((rG 12), .inl (cy 0, 4, .inl G_kind)), ((rE 0), .inl (cy 1, 100, .inl E_heardAt)), ((rE 1), .inl (cy 1, 3200, .inl E_nearest)), ((rE 3), .inl (cy 0, 4, .inl E_ofVoice)), ((rE 4), .inl (cy 0, 5, .inl E_alike)), ((rW 0), .inl (cy 0, 400, .inl W_next)), ((rW 1), .inl (cy 0, 500, .inl W_way)), ((rW 2), .inl (cy 0, 5, .inl W_goal)), (h0, .inr (3, oX3 rF)), ((rF 3), .inl (cy 0, 29, .inl F_all))] H := hP
        have hD : va_D A [((rF 0), .inr (4, oX4 rG sG)), ((rF 1), .inr (1, oX1 rE)), ((rF 2), .inr (2, oX2 rW)), ((rF 4), .inl (cy 0, 4, .inl F_reasons)), ((rG 11), .inl (cy 2, 5, .inl G_isFalse)), ((rG 12), .inl (cy 0, 4, .inl G_kind)), ((rE 0), .inl (cy 1, 100, .inl E_heardAt)), ((rE 1), .inl (cy 1, 3200, .inl E_nearest)), ((rE 3), .inl (cy 0, 4, .inl E_ofVoice)), ((rE 4), .inl (cy 0, 5, .inl E_alike)), ((rW 0), .inl (cy 0, 400, .inl W_next)), ((rW 1), .inl (cy 0, 500, .inl W_way)), ((rW 2), .inl (cy 0, 5, .inl W_goal)), (h0, .inr (3, oX3 rF)), ((rF 3), .inl (cy 0, 29, .inl F_all))] := hD
        refine lv_if_ne (tgt := 70) hx hb dX3_hear_55 (by decide) (fun c55 => ?_) (fun c55 => ?_)
        · have h := h.1 c55
          refine lv_iconst (v := (0 : Int32)) hx hb dX3_hear_70 (by decide) ?_
          exact J71 F_all F_reasons l2 (0 : Int32) _ _ _ h (hP.sub [13, 0, 1, 2, 14, 3, 4, 5, 6, 7, 8, 9, 10, 11, 12] rfl) (hD.sub [13, 0, 1, 2, 14, 3, 4, 5, 6, 7, 8, 9, 10, 11, 12] (by decide) rfl) hS hl
        · have h := h.2 c55
          refine lv_aload_n hx hb dX3_hear_58 rfl (lv_at hl 0 rfl) ?_
          refine lv_iload_n hx hb dX3_hear_59 rfl (lv_at hl 2 rfl) ?_
          refine clVi (As := [.int l2]) (rest := []) (Wr := [((rF 1), .inr (1, oX1 rE)), ((rF 2), .inr (2, oX2 rW)), ((rF 4), .inl (cy 0, 4, .inl F_reasons)), ((rG 11), .inl (cy 2, 5, .inl G_isFalse)), ((rE 0), .inl (cy 1, 100, .inl E_heardAt)), ((rE 1), .inl (cy 1, 3200, .inl E_nearest)), ((rE 3), .inl (cy 0, 4, .inl E_ofVoice)), ((rE 4), .inl (cy 0, 5, .inl E_alike)), ((rW 0), .inl (cy 0, 400, .inl W_next)), ((rW 1), .inl (cy 0, 500, .inl W_way)), ((rW 2), .inl (cy 0, 5, .inl W_goal))]) (cq := (RX3, TX3, 5)) ⟨hx, hb, hml, hown, hts⟩ ⟨callB_of 1 hts (goodC mw563) rfl rfl rfl (hts _ (tb mw9)) (hts _ (tb mw560)) kdX3_falls ⟨Nat.le_trans (by decide) hRf, Nat.le_trans (by decide) hRl⟩, hts _ (tb mw562), hts _ (tb ms7)⟩ (ctX3_falls l D cy ev h0 rF rG sG F_all G_kind l2 _ _ h) hE hK hP hD hS hA [13, 0, 14, 5] [1, 2, 3, 4, 6, 7, 8, 9, 10, 11, 12] rfl rfl (by decide) (by decide) (by decide) 0 rfl rfl rfl hl.1 rfl (Nat.le_of_ble_eq_true rfl) ⟨Nat.zero_le _, Nat.zero_le _⟩ dX3_hear_60 (fun r60 F_all_60 H locs h hP hD hS => ?_)
          have hP : va_P D clsX [((rF 1), .inr (1, oX1 rE)), ((rF 2), .inr (2, oX2 rW)), ((rF 4), .inl (cy 0, 4, .inl F_reasons)), ((rG 11), .inl (cy 2, 5, .inl G_isFalse)), ((rE 0), .inl (cy 1, 100, .inl E_heardAt)), ((rE 1), .inl (cy 1, 3200, .inl E_nearest)), ((rE 3), .inl (cy 0, 4, .inl E_ofVoice)), ((rE 4), .inl (cy 0, 5, .inl E_alike)), ((rW 0), .inl (cy 0, 400, .inl W_next)), ((rW 1), .inl (cy 0, 500, .inl W_way)), ((rW 2), .inl (cy 0, 5, .inl W_goal)), (h0, .inr (3, oX3 rF)), ((rF 0), .inr (4, oX4 rG sG)), ((rF 3), .inl (cy 0, 29, .inl F_all_60)), ((rG 12), .inl (cy 0, 4, .inl G_kind))] H := hP
          have hD : va_D A [((rF 1), .inr (1, oX1 rE)), ((rF 2), .inr (2, oX2 rW)), ((rF 4), .inl (cy 0, 4, .inl F_reasons)), ((rG 11), .inl (cy 2, 5, .inl G_isFalse)), ((rE 0), .inl (cy 1, 100, .inl E_heardAt)), ((rE 1), .inl (cy 1, 3200, .inl E_nearest)), ((rE 3), .inl (cy 0, 4, .inl E_ofVoice)), ((rE 4), .inl (cy 0, 5, .inl E_alike)), ((rW 0), .inl (cy 0, 400, .inl W_next)), ((rW 1), .inl (cy 0, 500, .inl W_way)), ((rW 2), .inl (cy 0, 5, .inl W_goal)), (h0, .inr (3, oX3 rF)), ((rF 0), .inr (4, oX4 rG sG)), ((rF 3), .inl (cy 0, 29, .inl F_all_60)), ((rG 12), .inl (cy 0, 4, .inl G_kind))] := hD
          refine lv_if_ne (tgt := 70) hx hb dX3_hear_63 (by decide) (fun c63 => ?_) (fun c63 => ?_)
          · have h := h.1 c63
            refine lv_iconst (v := (0 : Int32)) hx hb dX3_hear_70 (by decide) ?_
            exact J71 F_all_60 F_reasons l2 (0 : Int32) _ _ _ h (hP.sub [11, 12, 0, 1, 13, 2, 3, 14, 4, 5, 6, 7, 8, 9, 10] rfl) (hD.sub [11, 12, 0, 1, 13, 2, 3, 14, 4, 5, 6, 7, 8, 9, 10] (by decide) rfl) hS hl
          · have h := h.2 c63
            refine lv_iconst (v := (1 : Int32)) hx hb dX3_hear_66 (by decide) ?_
            refine lv_goto (tgt := 71) hx hb dX3_hear_67 (by decide) ?_
            exact J71 F_all_60 F_reasons l2 (1 : Int32) _ _ _ h (hP.sub [11, 12, 0, 1, 13, 2, 3, 14, 4, 5, 6, 7, 8, 9, 10] rfl) (hD.sub [11, 12, 0, 1, 13, 2, 3, 14, 4, 5, 6, 7, 8, 9, 10] (by decide) rfl) hS hl
  have L2 : ∀ (l1 : Int32) (kx36 : AR → Int32 → Prop), (∀ (F_all : AR) (l2 : Int32) (H : Heap) (locs : List Loc) (ls : Array Slot), kx36 F_all l2 → va_P D clsX [(h0, .inr (3, oX3 rF)), ((rF 0), .inr (4, oX4 rG sG)), ((rF 1), .inr (1, oX1 rE)), ((rF 2), .inr (2, oX2 rW)), ((rF 3), .inl (cy 0, 29, .inl F_all)), ((rF 4), .inl (cy 0, 4, .inl F_reasons)), ((rG 11), .inl (cy 2, 5, .inl G_isFalse)), ((rG 12), .inl (cy 0, 4, .inl G_kind)), ((rE 0), .inl (cy 1, 100, .inl E_heardAt)), ((rE 1), .inl (cy 1, 3200, .inl E_nearest)), ((rE 3), .inl (cy 0, 4, .inl E_ofVoice)), ((rE 4), .inl (cy 0, 5, .inl E_alike)), ((rW 0), .inl (cy 0, 400, .inl W_next)), ((rW 1), .inl (cy 0, 500, .inl W_way)), ((rW 2), .inl (cy 0, 5, .inl W_goal))] H → va_D A [(h0, .inr (3, oX3 rF)), ((rF 0), .inr (4, oX4 rG sG)), ((rF 1), .inr (1, oX1 rE)), ((rF 2), .inr (2, oX2 rW)), ((rF 3), .inl (cy 0, 29, .inl F_all)), ((rF 4), .inl (cy 0, 4, .inl F_reasons)), ((rG 11), .inl (cy 2, 5, .inl G_isFalse)), ((rG 12), .inl (cy 0, 4, .inl G_kind)), ((rE 0), .inl (cy 1, 100, .inl E_heardAt)), ((rE 1), .inl (cy 1, 3200, .inl E_nearest)), ((rE 3), .inl (cy 0, 4, .inl E_ofVoice)), ((rE 4), .inl (cy 0, 5, .inl E_alike)), ((rW 0), .inl (cy 0, 400, .inl W_next)), ((rW 1), .inl (cy 0, 500, .inl W_way)), ((rW 2), .inl (cy 0, 5, .inl W_goal))] → va_S A s.heap H locs → lv_has ls 4 [(0, .ref h0), (1, .int l1)] → W p l e R s m args below meth c H locs 0 0 QQ (F0 m 36 ls [])) → ∀ (nf2 : Nat) (F_all : AR) (l2 : Int32) (H : Heap) (locs : List Loc) (ls : Array Slot), wpX3_hear_L2 sG F_reasons G_isFalse G_kind E_heardAt E_nearest E_ofVoice E_alike W_next W_way W_goal l1 kx36 post nf2 F_all l2 → va_P D clsX [(h0, .inr (3, oX3 rF)), ((rF 0), .inr (4, oX4 rG sG)), ((rF 1), .inr (1, oX1 rE)), ((rF 2), .inr (2, oX2 rW)), ((rF 3), .inl (cy 0, 29, .inl F_all)), ((rF 4), .inl (cy 0, 4, .inl F_reasons)), ((rG 11), .inl (cy 2, 5, .inl G_isFalse)), ((rG 12), .inl (cy 0, 4, .inl G_kind)), ((rE 0), .inl (cy 1, 100, .inl E_heardAt)), ((rE 1), .inl (cy 1, 3200, .inl E_nearest)), ((rE 3), .inl (cy 0, 4, .inl E_ofVoice)), ((rE 4), .inl (cy 0, 5, .inl E_alike)), ((rW 0), .inl (cy 0, 400, .inl W_next)), ((rW 1), .inl (cy 0, 500, .inl W_way)), ((rW 2), .inl (cy 0, 5, .inl W_goal))] H → va_D A [(h0, .inr (3, oX3 rF)), ((rF 0), .inr (4, oX4 rG sG)), ((rF 1), .inr (1, oX1 rE)), ((rF 2), .inr (2, oX2 rW)), ((rF 3), .inl (cy 0, 29, .inl F_all)), ((rF 4), .inl (cy 0, 4, .inl F_reasons)), ((rG 11), .inl (cy 2, 5, .inl G_isFalse)), ((rG 12), .inl (cy 0, 4, .inl G_kind)), ((rE 0), .inl (cy 1, 100, .inl E_heardAt)), ((rE 1), .inl (cy 1, 3200, .inl E_nearest)), ((rE 3), .inl (cy 0, 4, .inl E_ofVoice)), ((rE 4), .inl (cy 0, 5, .inl E_alike)), ((rW 0), .inl (cy 0, 400, .inl W_next)), ((rW 1), .inl (cy 0, 500, .inl W_way)), ((rW 2), .inl (cy 0, 5, .inl W_goal))] → va_S A s.heap H locs → lv_has ls 4 [(0, .ref h0), (1, .int l1), (2, .int l2)] → W p l e R s m args below meth c H locs 0 0 QQ (F0 m 2 ls []) := by
    intro l1 kx36 hk2_36 nf2
    induction nf2 with
    | zero =>
      intro F_all l2 H locs ls h
      exact (show False from h).elim
    | succ nf2 ih2 =>
      intro F_all l2 H locs ls h hP hD hS hl
      refine lv_iload_n hx hb dX3_hear_2 rfl (lv_at hl 2 rfl) ?_
      refine lv_aload_n hx hb dX3_hear_3 rfl (lv_at hl 0 rfl) ?_
      refine gfX3_18 hx hb hts hown hK hP 0 rfl dX3_hear_4 ?_
      refine gfX3_42 (v := (sG 2)) hx hb hts hown hK hP 1 rfl rfl dX3_hear_7 ?_
      refine lv_icmp_ge (tgt := 36) hx hb dX3_hear_10 (by decide) (fun c10 => ?_) (fun c10 => ?_)
      · have h := h.1 c10
        exact hk2_36 F_all l2 _ _ _ h hP hD hS (lv_sub hl [0, 1] rfl)
      · have h := h.2 c10
        refine lv_aload_n hx hb dX3_hear_13 rfl (lv_at hl 0 rfl) ?_
        refine gfX3_11 hx hb hts hown hK hP 0 rfl dX3_hear_14 ?_
        refine lv_bipush (v := (24 : Int32)) hx hb dX3_hear_17 (by decide) ?_
        refine lv_iload_n hx hb dX3_hear_19 rfl (lv_at hl 2 rfl) ?_
        refine lv_iadd hx hb dX3_hear_20 ?_
        refine lv_dup2_11 hx hb dX3_hear_21 rfl rfl ?_
        obtain ⟨hin, h⟩ := h
        refine ldi (k := ((24 : Int32) + l2).toNatClampNeg) hx hb hK hP 4 rfl hin rfl dX3_hear_22 ?_
        refine lv_iload_n hx hb dX3_hear_23 rfl (lv_at hl 1 rfl) ?_
        refine lv_iload_n hx hb dX3_hear_24 rfl (lv_at hl 2 rfl) ?_
        refine lv_ishr hx hb dX3_hear_25 ?_
        refine lv_iconst (v := (1 : Int32)) hx hb dX3_hear_26 (by decide) ?_
        refine lv_iand hx hb dX3_hear_27 ?_
        refine lv_isub hx hb dX3_hear_28 ?_
        obtain ⟨hin, h⟩ := h
        refine sti (k := ((24 : Int32) + l2).toNatClampNeg) (y := ((F_all ((24 : Int32) + l2).toNatClampNeg) - ((jshr l1 l2) &&& (1 : Int32)))) hx hb hK hP hD hS 4 rfl hin rfl rfl dX3_hear_29 (fun F_all_29 eF_all_29 H locs hP hD hS => ?_)
        have h := h F_all_29 eF_all_29
        have hP : va_P D clsX [(h0, .inr (3, oX3 rF)), ((rF 0), .inr (4, oX4 rG sG)), ((rF 1), .inr (1, oX1 rE)), ((rF 2), .inr (2, oX2 rW)), ((rF 3), .inl (cy 0, 29, .inl F_all_29)), ((rF 4), .inl (cy 0, 4, .inl F_reasons)), ((rG 11), .inl (cy 2, 5, .inl G_isFalse)), ((rG 12), .inl (cy 0, 4, .inl G_kind)), ((rE 0), .inl (cy 1, 100, .inl E_heardAt)), ((rE 1), .inl (cy 1, 3200, .inl E_nearest)), ((rE 3), .inl (cy 0, 4, .inl E_ofVoice)), ((rE 4), .inl (cy 0, 5, .inl E_alike)), ((rW 0), .inl (cy 0, 400, .inl W_next)), ((rW 1), .inl (cy 0, 500, .inl W_way)), ((rW 2), .inl (cy 0, 5, .inl W_goal))] H := hP
        have hD : va_D A [(h0, .inr (3, oX3 rF)), ((rF 0), .inr (4, oX4 rG sG)), ((rF 1), .inr (1, oX1 rE)), ((rF 2), .inr (2, oX2 rW)), ((rF 3), .inl (cy 0, 29, .inl F_all_29)), ((rF 4), .inl (cy 0, 4, .inl F_reasons)), ((rG 11), .inl (cy 2, 5, .inl G_isFalse)), ((rG 12), .inl (cy 0, 4, .inl G_kind)), ((rE 0), .inl (cy 1, 100, .inl E_heardAt)), ((rE 1), .inl (cy 1, 3200, .inl E_nearest)), ((rE 3), .inl (cy 0, 4, .inl E_ofVoice)), ((rE 4), .inl (cy 0, 5, .inl E_alike)), ((rW 0), .inl (cy 0, 400, .inl W_next)), ((rW 1), .inl (cy 0, 500, .inl W_way)), ((rW 2), .inl (cy 0, 5, .inl W_goal))] := hD
        obtain ⟨l2_30, el2_30⟩ : ∃ y : Int32, y = l2 + (1 : Int32) := ⟨_, rfl⟩
        have h := h l2_30 el2_30
        refine lv_iinc (v := l2_30) (lv' := [(2, .int l2_30), (0, .ref h0), (1, .int l1)]) hx hb dX3_hear_30 hl (k := 2) rfl (by rw [el2_30]; rfl) (by decide) rfl (fun ls hl => ?_)
        refine lv_goto (tgt := 2) hx hb dX3_hear_33 (by decide) ?_
        exact ih2 F_all_29 l2_30 _ _ _ h hP hD hS (lv_sub hl [1, 2, 0] rfl)
  refine lv_iconst (v := (0 : Int32)) hx hb dX3_hear_0 (by decide) ?_
  refine lv_istore_n (lv' := [(2, .int (0 : Int32)), (0, .ref h0), (1, .int x1)]) hx hb dX3_hear_1 rfl hl (by decide) rfl (fun ls hl => ?_)
  obtain ⟨nf2, h⟩ := h
  refine L2 x1 _ (fun F_all_36 l2_36 H locs ls h hP hD hS hl => ?_) nf2 F_all (0 : Int32) _ _ _ h hP hD hS (lv_sub hl [1, 2, 0] rfl)
  refine lv_iconst (v := (0 : Int32)) hx hb dX3_hear_36 (by decide) ?_
  refine lv_istore_n (lv' := [(2, .int (0 : Int32)), (0, .ref h0), (1, .int x1)]) hx hb dX3_hear_37 rfl hl (by decide) rfl (fun ls hl => ?_)
  obtain ⟨nf38, h⟩ := h
  refine L38 x1 _ (fun F_all_99 F_reasons_99 l2_99 H locs ls h hP hD hS hl => ?_) nf38 F_all_36 F_reasons (0 : Int32) _ _ _ h hP hD hS (lv_sub hl [1, 2, 0] rfl)
  exact hret (F_all_99, F_reasons_99) _ _ _ _ dX3_hear_99 h hP hD hS
def wpX3_likeness_J41 (F_all : AR) (G_kind : AR) (l1 : Int32) (l2 : Int32) (t0 : Int32) (post : Int32 → Prop) : Prop := wpX3_of F_all l1 (4 : Int32) (fun r49 => post (((((l2 * (6 : Int32)) + r49) + (1 : Int32)) * (2 : Int32)) + t0))
def wpX3_likeness (F_all : AR) (G_kind : AR) (x1 : Int32) (post : Int32 → Prop) : Prop := wpX3_of F_all x1 (0 : Int32) (fun r3 => wpX3_of F_all x1 (2 : Int32) (fun r11 => ∀ l2_15 : Int32, l2_15 = ((r3 * (4 : Int32)) + r11) → vp_in x1 4 ∧ ((¬ (G_kind x1.toNatClampNeg) = (3 : Int32) → wpX3_likeness_J41 F_all G_kind x1 l2_15 (0 : Int32) post) ∧ ((G_kind x1.toNatClampNeg) = (3 : Int32) → wpX3_of F_all x1 (5 : Int32) (fun r32 => wpX3_likeness_J41 F_all G_kind x1 l2_15 (jrem r32 (2 : Int32)) post)))))
set_option maxHeartbeats 4000000 in
set_option maxRecDepth 100000 in
theorem ctX3_likeness (l : Launch) (D : va_G) (cy : Nat → ClassId) (ev : Nat → Nat) (h0 : Nat) (rF : Nat → Nat) (rG : Nat → Nat) (sG : AR) (F_all : AR) (G_kind : AR) (x1 : Int32) (sz : Nat) (post : Int32 → Prop) (h : wpX3_likeness F_all G_kind x1 post) : Met l yX3_likeness (Cond.code yX3_likeness cX3_likeness 4 (some .int) :: TB) ({ frames := 1, cells := 0, slots := 0, locals := 22 }) (va_Pc [.ref h0, .int x1] (PreX D cy ev [(h0, .inr (3, oX3 rF)), ((rF 0), .inr (4, oX4 rG sG)), ((rF 3), .inl (cy 0, 29, .inl F_all)), ((rG 12), .inl (cy 0, 4, .inl G_kind))] sz)) (va_Qi (fun (r : Int32) (u : Unit) => post r) (fun u => BkX D cy [(h0, .inr (3, oX3 rF)), ((rF 0), .inr (4, oX4 rG sG)), ((rF 3), .inl (cy 0, 29, .inl F_all)), ((rG 12), .inl (cy 0, 4, .inl G_kind))] sz [(h0, .inr (3, oX3 rF)), ((rF 0), .inr (4, oX4 rG sG)), ((rF 3), .inl (cy 0, 29, .inl F_all)), ((rG 12), .inl (cy 0, 4, .inl G_kind))]) (va_A [(h0, .inr (3, oX3 rF)), ((rF 0), .inr (4, oX4 rG sG)), ((rF 3), .inl (cy 0, 29, .inl F_all)), ((rG 12), .inl (cy 0, 4, .inl G_kind))] sz)) 0 0 (va_A [(h0, .inr (3, oX3 rF)), ((rF 0), .inr (4, oX4 rG sG)), ((rF 3), .inl (cy 0, 29, .inl F_all)), ((rG 12), .inl (cy 0, 4, .inl G_kind))] sz) := by
  refine ofWi (by decide) (Nat.le_of_ble_eq_true rfl) ?_
  intro p e s m args below meth c ls A R QQ hx hb hml hown hts hR hlk hE hK hP hD hS hA hl hret
  have hown : s.vm.findClass RX3 = some m.cls := hown
  have hRf : 1 ≤ R.frames := by rw [hR]; exact Nat.le_refl _
  have hRl : 22 ≤ R.locals := by rw [hR]; exact Nat.le_refl _
  clear hR
  have hl : lv_has ls 4 [(0, .ref h0), (1, .int x1)] := hl
  have J41 : ∀ (l1 : Int32) (l2 : Int32) (t0 : Int32) (H : Heap) (locs : List Loc) (ls : Array Slot), wpX3_likeness_J41 F_all G_kind l1 l2 t0 post → va_P D clsX [(h0, .inr (3, oX3 rF)), ((rF 0), .inr (4, oX4 rG sG)), ((rF 3), .inl (cy 0, 29, .inl F_all)), ((rG 12), .inl (cy 0, 4, .inl G_kind))] H → va_D A [(h0, .inr (3, oX3 rF)), ((rF 0), .inr (4, oX4 rG sG)), ((rF 3), .inl (cy 0, 29, .inl F_all)), ((rG 12), .inl (cy 0, 4, .inl G_kind))] → va_S A s.heap H locs → lv_has ls 4 [(0, .ref h0), (1, .int l1), (2, .int l2)] → W p l e R s m args below meth c H locs 0 0 QQ (F0 m 41 ls [.int t0]) := by
    intro l1 l2 t0 H locs ls h hP hD hS hl
    refine lv_istore_n (lv' := [(3, .int t0), (0, .ref h0), (1, .int l1), (2, .int l2)]) hx hb dX3_likeness_41 rfl hl (by decide) rfl (fun ls hl => ?_)
    refine lv_iload_n hx hb dX3_likeness_42 rfl (lv_at hl 3 rfl) ?_
    refine lv_bipush (v := (6 : Int32)) hx hb dX3_likeness_43 (by decide) ?_
    refine lv_imul hx hb dX3_likeness_45 ?_
    refine lv_aload_n hx hb dX3_likeness_46 rfl (lv_at hl 1 rfl) ?_
    refine lv_iload_n hx hb dX3_likeness_47 rfl (lv_at hl 2 rfl) ?_
    refine lv_iconst (v := (4 : Int32)) hx hb dX3_likeness_48 (by decide) ?_
    refine clVi (As := [.int l1, .int (4 : Int32)]) (rest := [.int (l2 * (6 : Int32))]) (Wr := [((rF 0), .inr (4, oX4 rG sG)), ((rG 12), .inl (cy 0, 4, .inl G_kind))]) (cq := (RX3, TX3, 5)) ⟨hx, hb, hml, hown, hts⟩ ⟨callB_of 2 hts (goodC mw559) rfl rfl rfl (hts _ (tb mw9)) (hts _ (tb mw556)) kdX3_of ⟨Nat.le_trans (by decide) hRf, Nat.le_trans (by decide) hRl⟩, hts _ (tb mw557), hts _ (tb mw558)⟩ (ctX3_of l D cy ev h0 rF F_all l1 (4 : Int32) _ _ h) hE hK hP hD hS hA [0, 2] [1, 3] rfl rfl (by decide) (by decide) (by decide) 0 rfl rfl rfl hl.1 rfl (Nat.le_of_ble_eq_true rfl) ⟨Nat.zero_le _, Nat.zero_le _⟩ dX3_likeness_49 (fun r49 u H locs h hP hD hS => ?_)
    have hP : va_P D clsX [((rF 0), .inr (4, oX4 rG sG)), ((rG 12), .inl (cy 0, 4, .inl G_kind)), (h0, .inr (3, oX3 rF)), ((rF 3), .inl (cy 0, 29, .inl F_all))] H := hP
    have hD : va_D A [((rF 0), .inr (4, oX4 rG sG)), ((rG 12), .inl (cy 0, 4, .inl G_kind)), (h0, .inr (3, oX3 rF)), ((rF 3), .inl (cy 0, 29, .inl F_all))] := hD
    refine lv_iadd hx hb dX3_likeness_52 ?_
    refine lv_iconst (v := (1 : Int32)) hx hb dX3_likeness_53 (by decide) ?_
    refine lv_iadd hx hb dX3_likeness_54 ?_
    refine lv_iconst (v := (2 : Int32)) hx hb dX3_likeness_55 (by decide) ?_
    refine lv_imul hx hb dX3_likeness_56 ?_
    refine lv_iload_n hx hb dX3_likeness_57 rfl (lv_at hl 0 rfl) ?_
    refine lv_iadd hx hb dX3_likeness_58 ?_
    exact hret (((((l2 * (6 : Int32)) + r49) + (1 : Int32)) * (2 : Int32)) + t0) () _ _ _ _ rfl dX3_likeness_59 h (hP.sub [2, 0, 3, 1] rfl) (hD.sub [2, 0, 3, 1] (by decide) rfl) hS
  refine lv_aload_n hx hb dX3_likeness_0 rfl (lv_at hl 0 rfl) ?_
  refine lv_iload_n hx hb dX3_likeness_1 rfl (lv_at hl 1 rfl) ?_
  refine lv_iconst (v := (0 : Int32)) hx hb dX3_likeness_2 (by decide) ?_
  refine clVi (As := [.int x1, .int (0 : Int32)]) (rest := []) (Wr := [((rF 0), .inr (4, oX4 rG sG)), ((rG 12), .inl (cy 0, 4, .inl G_kind))]) (cq := (RX3, TX3, 5)) ⟨hx, hb, hml, hown, hts⟩ ⟨callB_of 2 hts (goodC mw559) rfl rfl rfl (hts _ (tb mw9)) (hts _ (tb mw556)) kdX3_of ⟨Nat.le_trans (by decide) hRf, Nat.le_trans (by decide) hRl⟩, hts _ (tb mw557), hts _ (tb mw558)⟩ (ctX3_of l D cy ev h0 rF F_all x1 (0 : Int32) _ _ h) hE hK hP hD hS hA [0, 2] [1, 3] rfl rfl (by decide) (by decide) (by decide) 0 rfl rfl rfl hl.1 rfl (Nat.le_of_ble_eq_true rfl) ⟨Nat.zero_le _, Nat.zero_le _⟩ dX3_likeness_3 (fun r3 u H locs h hP hD hS => ?_)
  have hP : va_P D clsX [((rF 0), .inr (4, oX4 rG sG)), ((rG 12), .inl (cy 0, 4, .inl G_kind)), (h0, .inr (3, oX3 rF)), ((rF 3), .inl (cy 0, 29, .inl F_all))] H := hP
  have hD : va_D A [((rF 0), .inr (4, oX4 rG sG)), ((rG 12), .inl (cy 0, 4, .inl G_kind)), (h0, .inr (3, oX3 rF)), ((rF 3), .inl (cy 0, 29, .inl F_all))] := hD
  refine lv_iconst (v := (4 : Int32)) hx hb dX3_likeness_6 (by decide) ?_
  refine lv_imul hx hb dX3_likeness_7 ?_
  refine lv_aload_n hx hb dX3_likeness_8 rfl (lv_at hl 0 rfl) ?_
  refine lv_iload_n hx hb dX3_likeness_9 rfl (lv_at hl 1 rfl) ?_
  refine lv_iconst (v := (2 : Int32)) hx hb dX3_likeness_10 (by decide) ?_
  refine clVi (As := [.int x1, .int (2 : Int32)]) (rest := [.int (r3 * (4 : Int32))]) (Wr := [((rF 0), .inr (4, oX4 rG sG)), ((rG 12), .inl (cy 0, 4, .inl G_kind))]) (cq := (RX3, TX3, 5)) ⟨hx, hb, hml, hown, hts⟩ ⟨callB_of 2 hts (goodC mw559) rfl rfl rfl (hts _ (tb mw9)) (hts _ (tb mw556)) kdX3_of ⟨Nat.le_trans (by decide) hRf, Nat.le_trans (by decide) hRl⟩, hts _ (tb mw557), hts _ (tb mw558)⟩ (ctX3_of l D cy ev h0 rF F_all x1 (2 : Int32) _ _ h) hE hK hP hD hS hA [2, 3] [0, 1] rfl rfl (by decide) (by decide) (by decide) 0 rfl rfl rfl hl.1 rfl (Nat.le_of_ble_eq_true rfl) ⟨Nat.zero_le _, Nat.zero_le _⟩ dX3_likeness_11 (fun r11 u H locs h hP hD hS => ?_)
  have hP : va_P D clsX [((rF 0), .inr (4, oX4 rG sG)), ((rG 12), .inl (cy 0, 4, .inl G_kind)), (h0, .inr (3, oX3 rF)), ((rF 3), .inl (cy 0, 29, .inl F_all))] H := hP
  have hD : va_D A [((rF 0), .inr (4, oX4 rG sG)), ((rG 12), .inl (cy 0, 4, .inl G_kind)), (h0, .inr (3, oX3 rF)), ((rF 3), .inl (cy 0, 29, .inl F_all))] := hD
  refine lv_iadd hx hb dX3_likeness_14 ?_
  refine lv_topi (fun l2_15 el2_15 => ?_)
  have h := h l2_15 el2_15
  refine lv_istore_n (lv' := [(2, .int l2_15), (0, .ref h0), (1, .int x1)]) hx hb dX3_likeness_15 rfl hl (by decide) rfl (fun ls hl => ?_)
  refine lv_aload_n hx hb dX3_likeness_16 rfl (lv_at hl 1 rfl) ?_
  refine gfX3_18 hx hb hts hown hK hP 2 rfl dX3_likeness_17 ?_
  refine gfX3_68 hx hb hts hown hK hP 0 rfl dX3_likeness_20 ?_
  refine lv_iload_n hx hb dX3_likeness_23 rfl (lv_at hl 2 rfl) ?_
  obtain ⟨hin, h⟩ := h
  refine ldi (k := x1.toNatClampNeg) hx hb hK hP 1 rfl hin rfl dX3_likeness_24 ?_
  refine lv_iconst (v := (3 : Int32)) hx hb dX3_likeness_25 (by decide) ?_
  refine lv_icmp_ne (tgt := 40) hx hb dX3_likeness_26 (by decide) (fun c26 => ?_) (fun c26 => ?_)
  · have h := h.1 c26
    refine lv_iconst (v := (0 : Int32)) hx hb dX3_likeness_40 (by decide) ?_
    exact J41 x1 l2_15 (0 : Int32) _ _ _ h (hP.sub [2, 0, 3, 1] rfl) (hD.sub [2, 0, 3, 1] (by decide) rfl) hS (lv_sub hl [1, 2, 0] rfl)
  · have h := h.2 c26
    refine lv_aload_n hx hb dX3_likeness_29 rfl (lv_at hl 1 rfl) ?_
    refine lv_iload_n hx hb dX3_likeness_30 rfl (lv_at hl 2 rfl) ?_
    refine lv_iconst (v := (5 : Int32)) hx hb dX3_likeness_31 (by decide) ?_
    refine clVi (As := [.int x1, .int (5 : Int32)]) (rest := []) (Wr := [((rF 0), .inr (4, oX4 rG sG)), ((rG 12), .inl (cy 0, 4, .inl G_kind))]) (cq := (RX3, TX3, 5)) ⟨hx, hb, hml, hown, hts⟩ ⟨callB_of 2 hts (goodC mw559) rfl rfl rfl (hts _ (tb mw9)) (hts _ (tb mw556)) kdX3_of ⟨Nat.le_trans (by decide) hRf, Nat.le_trans (by decide) hRl⟩, hts _ (tb mw557), hts _ (tb mw558)⟩ (ctX3_of l D cy ev h0 rF F_all x1 (5 : Int32) _ _ h) hE hK hP hD hS hA [2, 3] [0, 1] rfl rfl (by decide) (by decide) (by decide) 0 rfl rfl rfl hl.1 rfl (Nat.le_of_ble_eq_true rfl) ⟨Nat.zero_le _, Nat.zero_le _⟩ dX3_likeness_32 (fun r32 u H locs h hP hD hS => ?_)
    have hP : va_P D clsX [((rF 0), .inr (4, oX4 rG sG)), ((rG 12), .inl (cy 0, 4, .inl G_kind)), (h0, .inr (3, oX3 rF)), ((rF 3), .inl (cy 0, 29, .inl F_all))] H := hP
    have hD : va_D A [((rF 0), .inr (4, oX4 rG sG)), ((rG 12), .inl (cy 0, 4, .inl G_kind)), (h0, .inr (3, oX3 rF)), ((rF 3), .inl (cy 0, 29, .inl F_all))] := hD
    refine lv_iconst (v := (2 : Int32)) hx hb dX3_likeness_35 (by decide) ?_
    refine lv_irem hx hb dX3_likeness_36 (by decide) ?_
    refine lv_goto (tgt := 41) hx hb dX3_likeness_37 (by decide) ?_
    exact J41 x1 l2_15 (jrem r32 (2 : Int32)) _ _ _ h (hP.sub [2, 0, 3, 1] rfl) (hD.sub [2, 0, 3, 1] (by decide) rfl) hS (lv_sub hl [1, 2, 0] rfl)
def wpX3_endOf_L16 (G_isFalse : AR) (G_kind : AR) (E_heardAt : AR) (E_nearest : AR) (E_ofVoice : AR) (E_alike : AR) (W_next : AR) (W_way : AR) (W_goal : AR) (l1 : Int32) (l2 : Int32) (l3 : Int32) (kx108 : AR → Int32 → Int32 → Int32 → Int32 → Prop) (post : Int32 → AR → Prop) : Nat → AR → Int32 → Int32 → Int32 → Int32 → Prop
  | 0, _, _, _, _, _ => False
  | nf16 + 1, F_all, l4, l5, l6, l7 => (((1000000 : Int32) < l7 → kx108 F_all l4 l5 l6 l7) ∧ (¬ (1000000 : Int32) < l7 → wpX3_go F_all G_isFalse G_kind E_heardAt E_nearest E_ofVoice E_alike W_next W_way W_goal l1 l2 (fun r26 F_all_26 => ∀ l5_30 : Int32, l5_30 = (l5 + (1 : Int32)) → wpX3_of F_all_26 l1 (3 : Int32) (fun r36 => ((r36 = 0 → wpX3_likeness F_all_26 G_kind l1 (fun r60 => ((¬ r60 = l4 → ((¬ l5_30 = l6 → ∀ l7_102 : Int32, l7_102 = (l7 + (1 : Int32)) → wpX3_endOf_L16 G_isFalse G_kind E_heardAt E_nearest E_ofVoice E_alike W_next W_way W_goal l1 l2 l3 kx108 post nf16 F_all_26 l4 l5_30 l6 l7_102) ∧ (l5_30 = l6 → wpX3_likeness F_all_26 G_kind l1 (fun r88 => ∀ l6_100 : Int32, l6_100 = (l6 * (2 : Int32)) → ∀ l7_102 : Int32, l7_102 = (l7 + (1 : Int32)) → wpX3_endOf_L16 G_isFalse G_kind E_heardAt E_nearest E_ofVoice E_alike W_next W_way W_goal l1 l2 l3 kx108 post nf16 F_all_26 r88 (0 : Int32) l6_100 l7_102)))) ∧ (r60 = l4 → ((¬ l3 = 0 → post l5_30 F_all_26) ∧ (l3 = 0 → post (3 : Int32) F_all_26)))))) ∧ (¬ r36 = 0 → ((¬ l3 = 0 → post l7 F_all_26) ∧ (l3 = 0 → post r36 F_all_26))))))))
def wpX3_endOf (F_all : AR) (G_isFalse : AR) (G_kind : AR) (E_heardAt : AR) (E_nearest : AR) (E_ofVoice : AR) (E_alike : AR) (W_next : AR) (W_way : AR) (W_goal : AR) (x1 : Int32) (x2 : Int32) (x3 : Int32) (post : Int32 → AR → Prop) : Prop := wpX3_likeness F_all G_kind x1 (fun r2 => ∃ nf16 : Nat, wpX3_endOf_L16 G_isFalse G_kind E_heardAt E_nearest E_ofVoice E_alike W_next W_way W_goal x1 x2 x3 (fun F_all_108 l4_108 l5_108 l6_108 l7_108 => post (-1 : Int32) F_all_108) post nf16 F_all r2 (0 : Int32) (1 : Int32) (1 : Int32))
set_option maxHeartbeats 4000000 in
set_option maxRecDepth 100000 in
theorem ctX3_endOf (l : Launch) (D : va_G) (cy : Nat → ClassId) (ev : Nat → Nat) (h0 : Nat) (rF : Nat → Nat) (rG : Nat → Nat) (rE : Nat → Nat) (rW : Nat → Nat) (sG : AR) (F_all : AR) (G_isFalse : AR) (G_kind : AR) (E_heardAt : AR) (E_nearest : AR) (E_ofVoice : AR) (E_alike : AR) (W_next : AR) (W_way : AR) (W_goal : AR) (x1 : Int32) (x2 : Int32) (x3 : Int32) (sz : Nat) (post : Int32 → AR → Prop) (h : wpX3_endOf F_all G_isFalse G_kind E_heardAt E_nearest E_ofVoice E_alike W_next W_way W_goal x1 x2 x3 post) : Met l yX3_endOf (Cond.code yX3_endOf cX3_endOf 9 (some .int) :: TB) ({ frames := 3, cells := 0, slots := 0, locals := 77 }) (va_Pc [.ref h0, .int x1, .int x2, .int x3] (PreX D cy ev [(h0, .inr (3, oX3 rF)), ((rF 0), .inr (4, oX4 rG sG)), ((rF 1), .inr (1, oX1 rE)), ((rF 2), .inr (2, oX2 rW)), ((rF 3), .inl (cy 0, 29, .inl F_all)), ((rG 11), .inl (cy 2, 5, .inl G_isFalse)), ((rG 12), .inl (cy 0, 4, .inl G_kind)), ((rE 0), .inl (cy 1, 100, .inl E_heardAt)), ((rE 1), .inl (cy 1, 3200, .inl E_nearest)), ((rE 3), .inl (cy 0, 4, .inl E_ofVoice)), ((rE 4), .inl (cy 0, 5, .inl E_alike)), ((rW 0), .inl (cy 0, 400, .inl W_next)), ((rW 1), .inl (cy 0, 500, .inl W_way)), ((rW 2), .inl (cy 0, 5, .inl W_goal))] sz)) (va_Qi (fun (r : Int32) (u : AR) => post r u) (fun u => BkX D cy [(h0, .inr (3, oX3 rF)), ((rF 0), .inr (4, oX4 rG sG)), ((rF 1), .inr (1, oX1 rE)), ((rF 2), .inr (2, oX2 rW)), ((rF 3), .inl (cy 0, 29, .inl F_all)), ((rG 11), .inl (cy 2, 5, .inl G_isFalse)), ((rG 12), .inl (cy 0, 4, .inl G_kind)), ((rE 0), .inl (cy 1, 100, .inl E_heardAt)), ((rE 1), .inl (cy 1, 3200, .inl E_nearest)), ((rE 3), .inl (cy 0, 4, .inl E_ofVoice)), ((rE 4), .inl (cy 0, 5, .inl E_alike)), ((rW 0), .inl (cy 0, 400, .inl W_next)), ((rW 1), .inl (cy 0, 500, .inl W_way)), ((rW 2), .inl (cy 0, 5, .inl W_goal))] sz [(h0, .inr (3, oX3 rF)), ((rF 0), .inr (4, oX4 rG sG)), ((rF 1), .inr (1, oX1 rE)), ((rF 2), .inr (2, oX2 rW)), ((rF 3), .inl (cy 0, 29, .inl u)), ((rG 11), .inl (cy 2, 5, .inl G_isFalse)), ((rG 12), .inl (cy 0, 4, .inl G_kind)), ((rE 0), .inl (cy 1, 100, .inl E_heardAt)), ((rE 1), .inl (cy 1, 3200, .inl E_nearest)), ((rE 3), .inl (cy 0, 4, .inl E_ofVoice)), ((rE 4), .inl (cy 0, 5, .inl E_alike)), ((rW 0), .inl (cy 0, 400, .inl W_next)), ((rW 1), .inl (cy 0, 500, .inl W_way)), ((rW 2), .inl (cy 0, 5, .inl W_goal))]) (va_A [(h0, .inr (3, oX3 rF)), ((rF 0), .inr (4, oX4 rG sG)), ((rF 1), .inr (1, oX1 rE)), ((rF 2), .inr (2, oX2 rW)), ((rF 3), .inl (cy 0, 29, .inl F_all)), ((rG 11), .inl (cy 2, 5, .inl G_isFalse)), ((rG 12), .inl (cy 0, 4, .inl G_kind)), ((rE 0), .inl (cy 1, 100, .inl E_heardAt)), ((rE 1), .inl (cy 1, 3200, .inl E_nearest)), ((rE 3), .inl (cy 0, 4, .inl E_ofVoice)), ((rE 4), .inl (cy 0, 5, .inl E_alike)), ((rW 0), .inl (cy 0, 400, .inl W_next)), ((rW 1), .inl (cy 0, 500, .inl W_way)), ((rW 2), .inl (cy 0, 5, .inl W_goal))] sz)) 0 0 (va_A [(h0, .inr (3, oX3 rF)), ((rF 0), .inr (4, oX4 rG sG)), ((rF 1), .inr (1, oX1 rE)), ((rF 2), .inr (2, oX2 rW)), ((rF 3), .inl (cy 0, 29, .inl F_all)), ((rG 11), .inl (cy 2, 5, .inl G_isFalse)), ((rG 12), .inl (cy 0, 4, .inl G_kind)), ((rE 0), .inl (cy 1, 100, .inl E_heardAt)), ((rE 1), .inl (cy 1, 3200, .inl E_nearest)), ((rE 3), .inl (cy 0, 4, .inl E_ofVoice)), ((rE 4), .inl (cy 0, 5, .inl E_alike)), ((rW 0), .inl (cy 0, 400, .inl W_next)), ((rW 1), .inl (cy 0, 500, .inl W_way)), ((rW 2), .inl (cy 0, 5, .inl W_goal))] sz) := by
  refine ofWi (by decide) (Nat.le_of_ble_eq_true rfl) ?_
  intro p e s m args below meth c ls A R QQ hx hb hml hown hts hR hlk hE hK hP hD hS hA hl hret
  have hown : s.vm.findClass RX3 = some m.cls := hown
  have hRf : 3 ≤ R.frames := by rw [hR]; exact Nat.le_refl _
  have hRl : 77 ≤ R.locals := by rw [hR]; exact Nat.le_refl _
  clear hR
  have hl : lv_has ls 9 [(0, .ref h0), (1, .int x1), (2, .int x2), (3, .int x3)] := hl
  have L16 : ∀ (l1 : Int32) (l2 : Int32) (l3 : Int32) (kx108 : AR → Int32 → Int32 → Int32 → Int32 → Prop), (∀ (F_all : AR) (l4 : Int32) (l5 : Int32) (l6 : Int32) (l7 : Int32) (H : Heap) (locs : List Loc) (ls : Array Slot), kx108 F_all l4 l5 l6 l7 → va_P D clsX [(h0, .inr (3, oX3 rF)), ((rF 0), .inr (4, oX4 rG sG)), ((rF 1), .inr (1, oX1 rE)), ((rF 2), .inr (2, oX2 rW)), ((rF 3), .inl (cy 0, 29, .inl F_all)), ((rG 11), .inl (cy 2, 5, .inl G_isFalse)), ((rG 12), .inl (cy 0, 4, .inl G_kind)), ((rE 0), .inl (cy 1, 100, .inl E_heardAt)), ((rE 1), .inl (cy 1, 3200, .inl E_nearest)), ((rE 3), .inl (cy 0, 4, .inl E_ofVoice)), ((rE 4), .inl (cy 0, 5, .inl E_alike)), ((rW 0), .inl (cy 0, 400, .inl W_next)), ((rW 1), .inl (cy 0, 500, .inl W_way)), ((rW 2), .inl (cy 0, 5, .inl W_goal))] H → va_D A [(h0, .inr (3, oX3 rF)), ((rF 0), .inr (4, oX4 rG sG)), ((rF 1), .inr (1, oX1 rE)), ((rF 2), .inr (2, oX2 rW)), ((rF 3), .inl (cy 0, 29, .inl F_all)), ((rG 11), .inl (cy 2, 5, .inl G_isFalse)), ((rG 12), .inl (cy 0, 4, .inl G_kind)), ((rE 0), .inl (cy 1, 100, .inl E_heardAt)), ((rE 1), .inl (cy 1, 3200, .inl E_nearest)), ((rE 3), .inl (cy 0, 4, .inl E_ofVoice)), ((rE 4), .inl (cy 0, 5, .inl E_alike)), ((rW 0), .inl (cy 0, 400, .inl W_next)), ((rW 1), .inl (cy 0, 500, .inl W_way)), ((rW 2), .inl (cy 0, 5, .inl W_goal))] → va_S A s.heap H locs → lv_has ls 9 [(0, .ref h0)] → W p l e R s m args below meth c H locs 0 0 QQ (F0 m 108 ls [])) → ∀ (nf16 : Nat) (F_all : AR) (l4 : Int32) (l5 : Int32) (l6 : Int32) (l7 : Int32) (H : Heap) (locs : List Loc) (ls : Array Slot), wpX3_endOf_L16 G_isFalse G_kind E_heardAt E_nearest E_ofVoice E_alike W_next W_way W_goal l1 l2 l3 kx108 post nf16 F_all l4 l5 l6 l7 → va_P D clsX [(h0, .inr (3, oX3 rF)), ((rF 0), .inr (4, oX4 rG sG)), ((rF 1), .inr (1, oX1 rE)), ((rF 2), .inr (2, oX2 rW)), ((rF 3), .inl (cy 0, 29, .inl F_all)), ((rG 11), .inl (cy 2, 5, .inl G_isFalse)), ((rG 12), .inl (cy 0, 4, .inl G_kind)), ((rE 0), .inl (cy 1, 100, .inl E_heardAt)), ((rE 1), .inl (cy 1, 3200, .inl E_nearest)), ((rE 3), .inl (cy 0, 4, .inl E_ofVoice)), ((rE 4), .inl (cy 0, 5, .inl E_alike)), ((rW 0), .inl (cy 0, 400, .inl W_next)), ((rW 1), .inl (cy 0, 500, .inl W_way)), ((rW 2), .inl (cy 0, 5, .inl W_goal))] H → va_D A [(h0, .inr (3, oX3 rF)), ((rF 0), .inr (4, oX4 rG sG)), ((rF 1), .inr (1, oX1 rE)), ((rF 2), .inr (2, oX2 rW)), ((rF 3), .inl (cy 0, 29, .inl F_all)), ((rG 11), .inl (cy 2, 5, .inl G_isFalse)), ((rG 12), .inl (cy 0, 4, .inl G_kind)), ((rE 0), .inl (cy 1, 100, .inl E_heardAt)), ((rE 1), .inl (cy 1, 3200, .inl E_nearest)), ((rE 3), .inl (cy 0, 4, .inl E_ofVoice)), ((rE 4), .inl (cy 0, 5, .inl E_alike)), ((rW 0), .inl (cy 0, 400, .inl W_next)), ((rW 1), .inl (cy 0, 500, .inl W_way)), ((rW 2), .inl (cy 0, 5, .inl W_goal))] → va_S A s.heap H locs → lv_has ls 9 [(0, .ref h0), (1, .int l1), (2, .int l2), (3, .int l3), (4, .int l4), (5, .int l5), (6, .int l6), (7, .int l7)] → W p l e R s m args below meth c H locs 0 0 QQ (F0 m 16 ls []) := by
    intro l1 l2 l3 kx108 hk16_108 nf16
    induction nf16 with
    | zero =>
      intro F_all l4 l5 l6 l7 H locs ls h
      exact (show False from h).elim
    | succ nf16 ih16 =>
      intro F_all l4 l5 l6 l7 H locs ls h hP hD hS hl
      refine lv_iload hx hb dX3_endOf_16 (lv_at hl 7 rfl) ?_
      refine lv_ldc hx hb hown (hts _ (tb mw1143)) dX3_endOf_18 ?_
      refine lv_icmp_gt (tgt := 108) hx hb dX3_endOf_20 (by decide) (fun c20 => ?_) (fun c20 => ?_)
      · have h := h.1 c20
        exact hk16_108 F_all l4 l5 l6 l7 _ _ _ h hP hD hS (lv_sub hl [0] rfl)
      · have h := h.2 c20
        refine lv_aload_n hx hb dX3_endOf_23 rfl (lv_at hl 0 rfl) ?_
        refine lv_iload_n hx hb dX3_endOf_24 rfl (lv_at hl 1 rfl) ?_
        refine lv_iload_n hx hb dX3_endOf_25 rfl (lv_at hl 2 rfl) ?_
        refine clVi (As := [.int l1, .int l2]) (rest := []) (Wr := []) (cq := (RX3, TX3, 5)) ⟨hx, hb, hml, hown, hts⟩ ⟨callB_of 2 hts (goodC mw567) rfl rfl rfl (hts _ (tb mw9)) (hts _ (tb mw564)) kdX3_go ⟨Nat.le_trans (by decide) hRf, Nat.le_trans (by decide) hRl⟩, hts _ (tb mw566), hts _ (tb ms8)⟩ (ctX3_go l D cy ev h0 rF rG rE rW sG F_all G_isFalse G_kind E_heardAt E_nearest E_ofVoice E_alike W_next W_way W_goal l1 l2 _ _ h) hE hK hP hD hS hA [0, 1, 2, 3, 4, 5, 6, 7, 8, 9, 10, 11, 12, 13] [] rfl rfl (by decide) (by decide) (by decide) 0 rfl rfl rfl hl.1 rfl (Nat.le_of_ble_eq_true rfl) ⟨Nat.zero_le _, Nat.zero_le _⟩ dX3_endOf_26 (fun r26 F_all_26 H locs h hP hD hS => ?_)
        have hP : va_P D clsX [(h0, .inr (3, oX3 rF)), ((rF 0), .inr (4, oX4 rG sG)), ((rF 1), .inr (1, oX1 rE)), ((rF 2), .inr (2, oX2 rW)), ((rF 3), .inl (cy 0, 29, .inl F_all_26)), ((rG 11), .inl (cy 2, 5, .inl G_isFalse)), ((rG 12), .inl (cy 0, 4, .inl G_kind)), ((rE 0), .inl (cy 1, 100, .inl E_heardAt)), ((rE 1), .inl (cy 1, 3200, .inl E_nearest)), ((rE 3), .inl (cy 0, 4, .inl E_ofVoice)), ((rE 4), .inl (cy 0, 5, .inl E_alike)), ((rW 0), .inl (cy 0, 400, .inl W_next)), ((rW 1), .inl (cy 0, 500, .inl W_way)), ((rW 2), .inl (cy 0, 5, .inl W_goal))] H := hP
        have hD : va_D A [(h0, .inr (3, oX3 rF)), ((rF 0), .inr (4, oX4 rG sG)), ((rF 1), .inr (1, oX1 rE)), ((rF 2), .inr (2, oX2 rW)), ((rF 3), .inl (cy 0, 29, .inl F_all_26)), ((rG 11), .inl (cy 2, 5, .inl G_isFalse)), ((rG 12), .inl (cy 0, 4, .inl G_kind)), ((rE 0), .inl (cy 1, 100, .inl E_heardAt)), ((rE 1), .inl (cy 1, 3200, .inl E_nearest)), ((rE 3), .inl (cy 0, 4, .inl E_ofVoice)), ((rE 4), .inl (cy 0, 5, .inl E_alike)), ((rW 0), .inl (cy 0, 400, .inl W_next)), ((rW 1), .inl (cy 0, 500, .inl W_way)), ((rW 2), .inl (cy 0, 5, .inl W_goal))] := hD
        refine lv_pop hx hb dX3_endOf_29 rfl ?_
        obtain ⟨l5_30, el5_30⟩ : ∃ y : Int32, y = l5 + (1 : Int32) := ⟨_, rfl⟩
        have h := h l5_30 el5_30
        refine lv_iinc (v := l5_30) (lv' := [(5, .int l5_30), (0, .ref h0), (1, .int l1), (2, .int l2), (3, .int l3), (4, .int l4), (6, .int l6), (7, .int l7)]) hx hb dX3_endOf_30 hl (k := 5) rfl (by rw [el5_30]; rfl) (by decide) rfl (fun ls hl => ?_)
        refine lv_aload_n hx hb dX3_endOf_33 rfl (lv_at hl 1 rfl) ?_
        refine lv_iload_n hx hb dX3_endOf_34 rfl (lv_at hl 2 rfl) ?_
        refine lv_iconst (v := (3 : Int32)) hx hb dX3_endOf_35 (by decide) ?_
        refine clVi (As := [.int l1, .int (3 : Int32)]) (rest := []) (Wr := [((rF 0), .inr (4, oX4 rG sG)), ((rF 1), .inr (1, oX1 rE)), ((rF 2), .inr (2, oX2 rW)), ((rG 11), .inl (cy 2, 5, .inl G_isFalse)), ((rG 12), .inl (cy 0, 4, .inl G_kind)), ((rE 0), .inl (cy 1, 100, .inl E_heardAt)), ((rE 1), .inl (cy 1, 3200, .inl E_nearest)), ((rE 3), .inl (cy 0, 4, .inl E_ofVoice)), ((rE 4), .inl (cy 0, 5, .inl E_alike)), ((rW 0), .inl (cy 0, 400, .inl W_next)), ((rW 1), .inl (cy 0, 500, .inl W_way)), ((rW 2), .inl (cy 0, 5, .inl W_goal))]) (cq := (RX3, TX3, 5)) ⟨hx, hb, hml, hown, hts⟩ ⟨callB_of 2 hts (goodC mw559) rfl rfl rfl (hts _ (tb mw9)) (hts _ (tb mw556)) kdX3_of ⟨Nat.le_trans (by decide) hRf, Nat.le_trans (by decide) hRl⟩, hts _ (tb mw557), hts _ (tb mw558)⟩ (ctX3_of l D cy ev h0 rF F_all_26 l1 (3 : Int32) _ _ h) hE hK hP hD hS hA [0, 4] [1, 2, 3, 5, 6, 7, 8, 9, 10, 11, 12, 13] rfl rfl (by decide) (by decide) (by decide) 0 rfl rfl rfl hl.1 rfl (Nat.le_of_ble_eq_true rfl) ⟨Nat.zero_le _, Nat.zero_le _⟩ dX3_endOf_36 (fun r36 u H locs h hP hD hS => ?_)
        have hP : va_P D clsX [((rF 0), .inr (4, oX4 rG sG)), ((rF 1), .inr (1, oX1 rE)), ((rF 2), .inr (2, oX2 rW)), ((rG 11), .inl (cy 2, 5, .inl G_isFalse)), ((rG 12), .inl (cy 0, 4, .inl G_kind)), ((rE 0), .inl (cy 1, 100, .inl E_heardAt)), ((rE 1), .inl (cy 1, 3200, .inl E_nearest)), ((rE 3), .inl (cy 0, 4, .inl E_ofVoice)), ((rE 4), .inl (cy 0, 5, .inl E_alike)), ((rW 0), .inl (cy 0, 400, .inl W_next)), ((rW 1), .inl (cy 0, 500, .inl W_way)), ((rW 2), .inl (cy 0, 5, .inl W_goal)), (h0, .inr (3, oX3 rF)), ((rF 3), .inl (cy 0, 29, .inl F_all_26))] H := hP
        have hD : va_D A [((rF 0), .inr (4, oX4 rG sG)), ((rF 1), .inr (1, oX1 rE)), ((rF 2), .inr (2, oX2 rW)), ((rG 11), .inl (cy 2, 5, .inl G_isFalse)), ((rG 12), .inl (cy 0, 4, .inl G_kind)), ((rE 0), .inl (cy 1, 100, .inl E_heardAt)), ((rE 1), .inl (cy 1, 3200, .inl E_nearest)), ((rE 3), .inl (cy 0, 4, .inl E_ofVoice)), ((rE 4), .inl (cy 0, 5, .inl E_alike)), ((rW 0), .inl (cy 0, 400, .inl W_next)), ((rW 1), .inl (cy 0, 500, .inl W_way)), ((rW 2), .inl (cy 0, 5, .inl W_goal)), (h0, .inr (3, oX3 rF)), ((rF 3), .inl (cy 0, 29, .inl F_all_26))] := hD
        refine lv_istore (lv' := [(8, .int r36), (5, .int l5_30), (0, .ref h0), (1, .int l1), (2, .int l2), (3, .int l3), (4, .int l4), (6, .int l6), (7, .int l7)]) hx hb dX3_endOf_39 hl (by decide) rfl (fun ls hl => ?_)
        refine lv_iload hx hb dX3_endOf_41 (lv_at hl 0 rfl) ?_
        refine lv_if_eq (tgt := 58) hx hb dX3_endOf_43 (by decide) (fun c43 => ?_) (fun c43 => ?_)
        · have h := h.1 c43
          refine lv_aload_n hx hb dX3_endOf_58 rfl (lv_at hl 2 rfl) ?_
          refine lv_iload_n hx hb dX3_endOf_59 rfl (lv_at hl 3 rfl) ?_
          refine clVi (As := [.int l1]) (rest := []) (Wr := [((rF 1), .inr (1, oX1 rE)), ((rF 2), .inr (2, oX2 rW)), ((rG 11), .inl (cy 2, 5, .inl G_isFalse)), ((rE 0), .inl (cy 1, 100, .inl E_heardAt)), ((rE 1), .inl (cy 1, 3200, .inl E_nearest)), ((rE 3), .inl (cy 0, 4, .inl E_ofVoice)), ((rE 4), .inl (cy 0, 5, .inl E_alike)), ((rW 0), .inl (cy 0, 400, .inl W_next)), ((rW 1), .inl (cy 0, 500, .inl W_way)), ((rW 2), .inl (cy 0, 5, .inl W_goal))]) (cq := (RX3, TX3, 5)) ⟨hx, hb, hml, hown, hts⟩ ⟨callB_of 1 hts (goodC mw1142) rfl rfl rfl (hts _ (tb mw9)) (hts _ (tb mw1139)) kdX3_likeness ⟨Nat.le_trans (by decide) hRf, Nat.le_trans (by decide) hRl⟩, hts _ (tb mw1141), hts _ (tb ms37)⟩ (ctX3_likeness l D cy ev h0 rF rG sG F_all_26 G_kind l1 _ _ h) hE hK hP hD hS hA [12, 0, 13, 4] [1, 2, 3, 5, 6, 7, 8, 9, 10, 11] rfl rfl (by decide) (by decide) (by decide) 0 rfl rfl rfl hl.1 rfl (Nat.le_of_ble_eq_true rfl) ⟨Nat.zero_le _, Nat.zero_le _⟩ dX3_endOf_60 (fun r60 u H locs h hP hD hS => ?_)
          have hP : va_P D clsX [((rF 1), .inr (1, oX1 rE)), ((rF 2), .inr (2, oX2 rW)), ((rG 11), .inl (cy 2, 5, .inl G_isFalse)), ((rE 0), .inl (cy 1, 100, .inl E_heardAt)), ((rE 1), .inl (cy 1, 3200, .inl E_nearest)), ((rE 3), .inl (cy 0, 4, .inl E_ofVoice)), ((rE 4), .inl (cy 0, 5, .inl E_alike)), ((rW 0), .inl (cy 0, 400, .inl W_next)), ((rW 1), .inl (cy 0, 500, .inl W_way)), ((rW 2), .inl (cy 0, 5, .inl W_goal)), (h0, .inr (3, oX3 rF)), ((rF 0), .inr (4, oX4 rG sG)), ((rF 3), .inl (cy 0, 29, .inl F_all_26)), ((rG 12), .inl (cy 0, 4, .inl G_kind))] H := hP
          have hD : va_D A [((rF 1), .inr (1, oX1 rE)), ((rF 2), .inr (2, oX2 rW)), ((rG 11), .inl (cy 2, 5, .inl G_isFalse)), ((rE 0), .inl (cy 1, 100, .inl E_heardAt)), ((rE 1), .inl (cy 1, 3200, .inl E_nearest)), ((rE 3), .inl (cy 0, 4, .inl E_ofVoice)), ((rE 4), .inl (cy 0, 5, .inl E_alike)), ((rW 0), .inl (cy 0, 400, .inl W_next)), ((rW 1), .inl (cy 0, 500, .inl W_way)), ((rW 2), .inl (cy 0, 5, .inl W_goal)), (h0, .inr (3, oX3 rF)), ((rF 0), .inr (4, oX4 rG sG)), ((rF 3), .inl (cy 0, 29, .inl F_all_26)), ((rG 12), .inl (cy 0, 4, .inl G_kind))] := hD
          refine lv_iload hx hb dX3_endOf_63 (lv_at hl 6 rfl) ?_
          refine lv_icmp_ne (tgt := 79) hx hb dX3_endOf_65 (by decide) (fun c65 => ?_) (fun c65 => ?_)
          · have h := h.1 c65
            refine lv_iload hx hb dX3_endOf_79 (lv_at hl 1 rfl) ?_
            refine lv_iload hx hb dX3_endOf_81 (lv_at hl 7 rfl) ?_
            refine lv_icmp_ne (tgt := 102) hx hb dX3_endOf_83 (by decide) (fun c83 => ?_) (fun c83 => ?_)
            · have h := h.1 c83
              obtain ⟨l7_102, el7_102⟩ : ∃ y : Int32, y = l7 + (1 : Int32) := ⟨_, rfl⟩
              have h := h l7_102 el7_102
              refine lv_iinc (v := l7_102) (lv' := [(7, .int l7_102), (8, .int r36), (5, .int l5_30), (0, .ref h0), (1, .int l1), (2, .int l2), (3, .int l3), (4, .int l4), (6, .int l6)]) hx hb dX3_endOf_102 hl (k := 8) rfl (by rw [el7_102]; rfl) (by decide) rfl (fun ls hl => ?_)
              refine lv_goto (tgt := 16) hx hb dX3_endOf_105 (by decide) ?_
              exact ih16 F_all_26 l4 l5_30 l6 l7_102 _ _ _ h (hP.sub [10, 11, 0, 1, 12, 2, 13, 3, 4, 5, 6, 7, 8, 9] rfl) (hD.sub [10, 11, 0, 1, 12, 2, 13, 3, 4, 5, 6, 7, 8, 9] (by decide) rfl) hS (lv_sub hl [3, 4, 5, 6, 7, 2, 8, 0] rfl)
            · have h := h.2 c83
              refine lv_aload_n hx hb dX3_endOf_86 rfl (lv_at hl 2 rfl) ?_
              refine lv_iload_n hx hb dX3_endOf_87 rfl (lv_at hl 3 rfl) ?_
              refine clVi (As := [.int l1]) (rest := []) (Wr := [((rF 1), .inr (1, oX1 rE)), ((rF 2), .inr (2, oX2 rW)), ((rG 11), .inl (cy 2, 5, .inl G_isFalse)), ((rE 0), .inl (cy 1, 100, .inl E_heardAt)), ((rE 1), .inl (cy 1, 3200, .inl E_nearest)), ((rE 3), .inl (cy 0, 4, .inl E_ofVoice)), ((rE 4), .inl (cy 0, 5, .inl E_alike)), ((rW 0), .inl (cy 0, 400, .inl W_next)), ((rW 1), .inl (cy 0, 500, .inl W_way)), ((rW 2), .inl (cy 0, 5, .inl W_goal))]) (cq := (RX3, TX3, 5)) ⟨hx, hb, hml, hown, hts⟩ ⟨callB_of 1 hts (goodC mw1142) rfl rfl rfl (hts _ (tb mw9)) (hts _ (tb mw1139)) kdX3_likeness ⟨Nat.le_trans (by decide) hRf, Nat.le_trans (by decide) hRl⟩, hts _ (tb mw1141), hts _ (tb ms37)⟩ (ctX3_likeness l D cy ev h0 rF rG sG F_all_26 G_kind l1 _ _ h) hE hK hP hD hS hA [10, 11, 12, 13] [0, 1, 2, 3, 4, 5, 6, 7, 8, 9] rfl rfl (by decide) (by decide) (by decide) 0 rfl rfl rfl hl.1 rfl (Nat.le_of_ble_eq_true rfl) ⟨Nat.zero_le _, Nat.zero_le _⟩ dX3_endOf_88 (fun r88 u H locs h hP hD hS => ?_)
              have hP : va_P D clsX [((rF 1), .inr (1, oX1 rE)), ((rF 2), .inr (2, oX2 rW)), ((rG 11), .inl (cy 2, 5, .inl G_isFalse)), ((rE 0), .inl (cy 1, 100, .inl E_heardAt)), ((rE 1), .inl (cy 1, 3200, .inl E_nearest)), ((rE 3), .inl (cy 0, 4, .inl E_ofVoice)), ((rE 4), .inl (cy 0, 5, .inl E_alike)), ((rW 0), .inl (cy 0, 400, .inl W_next)), ((rW 1), .inl (cy 0, 500, .inl W_way)), ((rW 2), .inl (cy 0, 5, .inl W_goal)), (h0, .inr (3, oX3 rF)), ((rF 0), .inr (4, oX4 rG sG)), ((rF 3), .inl (cy 0, 29, .inl F_all_26)), ((rG 12), .inl (cy 0, 4, .inl G_kind))] H := hP
              have hD : va_D A [((rF 1), .inr (1, oX1 rE)), ((rF 2), .inr (2, oX2 rW)), ((rG 11), .inl (cy 2, 5, .inl G_isFalse)), ((rE 0), .inl (cy 1, 100, .inl E_heardAt)), ((rE 1), .inl (cy 1, 3200, .inl E_nearest)), ((rE 3), .inl (cy 0, 4, .inl E_ofVoice)), ((rE 4), .inl (cy 0, 5, .inl E_alike)), ((rW 0), .inl (cy 0, 400, .inl W_next)), ((rW 1), .inl (cy 0, 500, .inl W_way)), ((rW 2), .inl (cy 0, 5, .inl W_goal)), (h0, .inr (3, oX3 rF)), ((rF 0), .inr (4, oX4 rG sG)), ((rF 3), .inl (cy 0, 29, .inl F_all_26)), ((rG 12), .inl (cy 0, 4, .inl G_kind))] := hD
              refine lv_istore (lv' := [(4, .int r88), (8, .int r36), (5, .int l5_30), (0, .ref h0), (1, .int l1), (2, .int l2), (3, .int l3), (6, .int l6), (7, .int l7)]) hx hb dX3_endOf_91 hl (by decide) rfl (fun ls hl => ?_)
              refine lv_iconst (v := (0 : Int32)) hx hb dX3_endOf_93 (by decide) ?_
              refine lv_istore (lv' := [(5, .int (0 : Int32)), (4, .int r88), (8, .int r36), (0, .ref h0), (1, .int l1), (2, .int l2), (3, .int l3), (6, .int l6), (7, .int l7)]) hx hb dX3_endOf_94 hl (by decide) rfl (fun ls hl => ?_)
              refine lv_iload hx hb dX3_endOf_96 (lv_at hl 7 rfl) ?_
              refine lv_iconst (v := (2 : Int32)) hx hb dX3_endOf_98 (by decide) ?_
              refine lv_imul hx hb dX3_endOf_99 ?_
              refine lv_topi (fun l6_100 el6_100 => ?_)
              have h := h l6_100 el6_100
              refine lv_istore (lv' := [(6, .int l6_100), (5, .int (0 : Int32)), (4, .int r88), (8, .int r36), (0, .ref h0), (1, .int l1), (2, .int l2), (3, .int l3), (7, .int l7)]) hx hb dX3_endOf_100 hl (by decide) rfl (fun ls hl => ?_)
              obtain ⟨l7_102, el7_102⟩ : ∃ y : Int32, y = l7 + (1 : Int32) := ⟨_, rfl⟩
              have h := h l7_102 el7_102
              refine lv_iinc (v := l7_102) (lv' := [(7, .int l7_102), (6, .int l6_100), (5, .int (0 : Int32)), (4, .int r88), (8, .int r36), (0, .ref h0), (1, .int l1), (2, .int l2), (3, .int l3)]) hx hb dX3_endOf_102 hl (k := 8) rfl (by rw [el7_102]; rfl) (by decide) rfl (fun ls hl => ?_)
              refine lv_goto (tgt := 16) hx hb dX3_endOf_105 (by decide) ?_
              exact ih16 F_all_26 r88 (0 : Int32) l6_100 l7_102 _ _ _ h (hP.sub [10, 11, 0, 1, 12, 2, 13, 3, 4, 5, 6, 7, 8, 9] rfl) (hD.sub [10, 11, 0, 1, 12, 2, 13, 3, 4, 5, 6, 7, 8, 9] (by decide) rfl) hS (lv_sub hl [5, 6, 7, 8, 3, 2, 1, 0] rfl)
          · have h := h.2 c65
            refine lv_iload_n hx hb dX3_endOf_68 rfl (lv_at hl 5 rfl) ?_
            refine lv_if_ne (tgt := 76) hx hb dX3_endOf_69 (by decide) (fun c69 => ?_) (fun c69 => ?_)
            · have h := h.1 c69
              refine lv_iload hx hb dX3_endOf_76 (lv_at hl 1 rfl) ?_
              exact hret l5_30 (F_all_26) _ _ _ _ rfl dX3_endOf_78 h (hP.sub [10, 11, 0, 1, 12, 2, 13, 3, 4, 5, 6, 7, 8, 9] rfl) (hD.sub [10, 11, 0, 1, 12, 2, 13, 3, 4, 5, 6, 7, 8, 9] (by decide) rfl) hS
            · have h := h.2 c69
              refine lv_iconst (v := (3 : Int32)) hx hb dX3_endOf_72 (by decide) ?_
              refine lv_goto (tgt := 78) hx hb dX3_endOf_73 (by decide) ?_
              exact hret (3 : Int32) (F_all_26) _ _ _ _ rfl dX3_endOf_78 h (hP.sub [10, 11, 0, 1, 12, 2, 13, 3, 4, 5, 6, 7, 8, 9] rfl) (hD.sub [10, 11, 0, 1, 12, 2, 13, 3, 4, 5, 6, 7, 8, 9] (by decide) rfl) hS
        · have h := h.2 c43
          refine lv_iload_n hx hb dX3_endOf_46 rfl (lv_at hl 5 rfl) ?_
          refine lv_if_ne (tgt := 55) hx hb dX3_endOf_47 (by decide) (fun c47 => ?_) (fun c47 => ?_)
          · have h := h.1 c47
            refine lv_iload hx hb dX3_endOf_55 (lv_at hl 8 rfl) ?_
            exact hret l7 (F_all_26) _ _ _ _ rfl dX3_endOf_57 h (hP.sub [12, 0, 1, 2, 13, 3, 4, 5, 6, 7, 8, 9, 10, 11] rfl) (hD.sub [12, 0, 1, 2, 13, 3, 4, 5, 6, 7, 8, 9, 10, 11] (by decide) rfl) hS
          · have h := h.2 c47
            refine lv_iload hx hb dX3_endOf_50 (lv_at hl 0 rfl) ?_
            refine lv_goto (tgt := 57) hx hb dX3_endOf_52 (by decide) ?_
            exact hret r36 (F_all_26) _ _ _ _ rfl dX3_endOf_57 h (hP.sub [12, 0, 1, 2, 13, 3, 4, 5, 6, 7, 8, 9, 10, 11] rfl) (hD.sub [12, 0, 1, 2, 13, 3, 4, 5, 6, 7, 8, 9, 10, 11] (by decide) rfl) hS
  refine lv_aload_n hx hb dX3_endOf_0 rfl (lv_at hl 0 rfl) ?_
  refine lv_iload_n hx hb dX3_endOf_1 rfl (lv_at hl 1 rfl) ?_
  refine clVi (As := [.int x1]) (rest := []) (Wr := [((rF 1), .inr (1, oX1 rE)), ((rF 2), .inr (2, oX2 rW)), ((rG 11), .inl (cy 2, 5, .inl G_isFalse)), ((rE 0), .inl (cy 1, 100, .inl E_heardAt)), ((rE 1), .inl (cy 1, 3200, .inl E_nearest)), ((rE 3), .inl (cy 0, 4, .inl E_ofVoice)), ((rE 4), .inl (cy 0, 5, .inl E_alike)), ((rW 0), .inl (cy 0, 400, .inl W_next)), ((rW 1), .inl (cy 0, 500, .inl W_way)), ((rW 2), .inl (cy 0, 5, .inl W_goal))]) (cq := (RX3, TX3, 5)) ⟨hx, hb, hml, hown, hts⟩ ⟨callB_of 1 hts (goodC mw1142) rfl rfl rfl (hts _ (tb mw9)) (hts _ (tb mw1139)) kdX3_likeness ⟨Nat.le_trans (by decide) hRf, Nat.le_trans (by decide) hRl⟩, hts _ (tb mw1141), hts _ (tb ms37)⟩ (ctX3_likeness l D cy ev h0 rF rG sG F_all G_kind x1 _ _ h) hE hK hP hD hS hA [0, 1, 4, 6] [2, 3, 5, 7, 8, 9, 10, 11, 12, 13] rfl rfl (by decide) (by decide) (by decide) 0 rfl rfl rfl hl.1 rfl (Nat.le_of_ble_eq_true rfl) ⟨Nat.zero_le _, Nat.zero_le _⟩ dX3_endOf_2 (fun r2 u H locs h hP hD hS => ?_)
  have hP : va_P D clsX [((rF 1), .inr (1, oX1 rE)), ((rF 2), .inr (2, oX2 rW)), ((rG 11), .inl (cy 2, 5, .inl G_isFalse)), ((rE 0), .inl (cy 1, 100, .inl E_heardAt)), ((rE 1), .inl (cy 1, 3200, .inl E_nearest)), ((rE 3), .inl (cy 0, 4, .inl E_ofVoice)), ((rE 4), .inl (cy 0, 5, .inl E_alike)), ((rW 0), .inl (cy 0, 400, .inl W_next)), ((rW 1), .inl (cy 0, 500, .inl W_way)), ((rW 2), .inl (cy 0, 5, .inl W_goal)), (h0, .inr (3, oX3 rF)), ((rF 0), .inr (4, oX4 rG sG)), ((rF 3), .inl (cy 0, 29, .inl F_all)), ((rG 12), .inl (cy 0, 4, .inl G_kind))] H := hP
  have hD : va_D A [((rF 1), .inr (1, oX1 rE)), ((rF 2), .inr (2, oX2 rW)), ((rG 11), .inl (cy 2, 5, .inl G_isFalse)), ((rE 0), .inl (cy 1, 100, .inl E_heardAt)), ((rE 1), .inl (cy 1, 3200, .inl E_nearest)), ((rE 3), .inl (cy 0, 4, .inl E_ofVoice)), ((rE 4), .inl (cy 0, 5, .inl E_alike)), ((rW 0), .inl (cy 0, 400, .inl W_next)), ((rW 1), .inl (cy 0, 500, .inl W_way)), ((rW 2), .inl (cy 0, 5, .inl W_goal)), (h0, .inr (3, oX3 rF)), ((rF 0), .inr (4, oX4 rG sG)), ((rF 3), .inl (cy 0, 29, .inl F_all)), ((rG 12), .inl (cy 0, 4, .inl G_kind))] := hD
  refine lv_istore (lv' := [(4, .int r2), (0, .ref h0), (1, .int x1), (2, .int x2), (3, .int x3)]) hx hb dX3_endOf_5 hl (by decide) rfl (fun ls hl => ?_)
  refine lv_iconst (v := (0 : Int32)) hx hb dX3_endOf_7 (by decide) ?_
  refine lv_istore (lv' := [(5, .int (0 : Int32)), (4, .int r2), (0, .ref h0), (1, .int x1), (2, .int x2), (3, .int x3)]) hx hb dX3_endOf_8 hl (by decide) rfl (fun ls hl => ?_)
  refine lv_iconst (v := (1 : Int32)) hx hb dX3_endOf_10 (by decide) ?_
  refine lv_istore (lv' := [(6, .int (1 : Int32)), (5, .int (0 : Int32)), (4, .int r2), (0, .ref h0), (1, .int x1), (2, .int x2), (3, .int x3)]) hx hb dX3_endOf_11 hl (by decide) rfl (fun ls hl => ?_)
  refine lv_iconst (v := (1 : Int32)) hx hb dX3_endOf_13 (by decide) ?_
  refine lv_istore (lv' := [(7, .int (1 : Int32)), (6, .int (1 : Int32)), (5, .int (0 : Int32)), (4, .int r2), (0, .ref h0), (1, .int x1), (2, .int x2), (3, .int x3)]) hx hb dX3_endOf_14 hl (by decide) rfl (fun ls hl => ?_)
  obtain ⟨nf16, h⟩ := h
  refine L16 x1 x2 x3 _ (fun F_all_108 l4_108 l5_108 l6_108 l7_108 H locs ls h hP hD hS hl => ?_) nf16 F_all r2 (0 : Int32) (1 : Int32) (1 : Int32) _ _ _ h (hP.sub [10, 11, 0, 1, 12, 2, 13, 3, 4, 5, 6, 7, 8, 9] rfl) (hD.sub [10, 11, 0, 1, 12, 2, 13, 3, 4, 5, 6, 7, 8, 9] (by decide) rfl) hS (lv_sub hl [4, 5, 6, 7, 3, 2, 1, 0] rfl)
  refine lv_iconst (v := (-1 : Int32)) hx hb dX3_endOf_108 (by decide) ?_
  exact hret (-1 : Int32) (F_all_108) _ _ _ _ rfl dX3_endOf_109 h hP hD hS
