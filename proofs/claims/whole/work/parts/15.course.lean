theorem dX0_begin_0 : decode cX0_begin 0 = .ok (.aload_n 0, 1) := by decide +kernel
theorem dX0_begin_1 : decode cX0_begin 1 = .ok (.getfield 20, 3) := by decide +kernel
theorem dX0_begin_4 : decode cX0_begin 4 = .ok (.invokevirtual 24, 3) := by decide +kernel
theorem dX0_begin_7 : decode cX0_begin 7 = .ok (.aload_n 0, 1) := by decide +kernel
theorem dX0_begin_8 : decode cX0_begin 8 = .ok (.iconst 0, 1) := by decide +kernel
theorem dX0_begin_9 : decode cX0_begin 9 = .ok (.putfield 27, 3) := by decide +kernel
theorem dX0_begin_12 : decode cX0_begin 12 = .ok (.aload_n 0, 1) := by decide +kernel
theorem dX0_begin_13 : decode cX0_begin 13 = .ok (.iconst 0, 1) := by decide +kernel
theorem dX0_begin_14 : decode cX0_begin 14 = .ok (.putfield 31, 3) := by decide +kernel
theorem dX0_begin_17 : decode cX0_begin 17 = .ok (.aload_n 0, 1) := by decide +kernel
theorem dX0_begin_18 : decode cX0_begin 18 = .ok (.iconst 0, 1) := by decide +kernel
theorem dX0_begin_19 : decode cX0_begin 19 = .ok (.putfield 34, 3) := by decide +kernel
theorem dX0_begin_22 : decode cX0_begin 22 = .ok (.return_, 1) := by decide +kernel
theorem dX0_take_0 : decode cX0_take 0 = .ok (.aload_n 0, 1) := by decide +kernel
theorem dX0_take_1 : decode cX0_take 1 = .ok (.getfield 20, 3) := by decide +kernel
theorem dX0_take_4 : decode cX0_take 4 = .ok (.aload_n 1, 1) := by decide +kernel
theorem dX0_take_5 : decode cX0_take 5 = .ok (.getfield 20, 3) := by decide +kernel
theorem dX0_take_8 : decode cX0_take 8 = .ok (.invokevirtual 37, 3) := by decide +kernel
theorem dX0_take_11 : decode cX0_take 11 = .ok (.aload_n 1, 1) := by decide +kernel
theorem dX0_take_12 : decode cX0_take 12 = .ok (.getfield 13, 3) := by decide +kernel
theorem dX0_take_15 : decode cX0_take 15 = .ok (.iconst 0, 1) := by decide +kernel
theorem dX0_take_16 : decode cX0_take 16 = .ok (.aload_n 0, 1) := by decide +kernel
theorem dX0_take_17 : decode cX0_take 17 = .ok (.getfield 13, 3) := by decide +kernel
theorem dX0_take_20 : decode cX0_take 20 = .ok (.iconst 0, 1) := by decide +kernel
theorem dX0_take_21 : decode cX0_take 21 = .ok (.aload_n 0, 1) := by decide +kernel
theorem dX0_take_22 : decode cX0_take 22 = .ok (.getfield 13, 3) := by decide +kernel
theorem dX0_take_25 : decode cX0_take 25 = .ok (.arraylength, 1) := by decide +kernel
theorem dX0_take_26 : decode cX0_take 26 = .ok (.invokestatic 41, 3) := by decide +kernel
theorem dX0_take_29 : decode cX0_take 29 = .ok (.aload_n 0, 1) := by decide +kernel
theorem dX0_take_30 : decode cX0_take 30 = .ok (.aload_n 1, 1) := by decide +kernel
theorem dX0_take_31 : decode cX0_take 31 = .ok (.getfield 27, 3) := by decide +kernel
theorem dX0_take_34 : decode cX0_take 34 = .ok (.putfield 27, 3) := by decide +kernel
theorem dX0_take_37 : decode cX0_take 37 = .ok (.aload_n 0, 1) := by decide +kernel
theorem dX0_take_38 : decode cX0_take 38 = .ok (.aload_n 1, 1) := by decide +kernel
theorem dX0_take_39 : decode cX0_take 39 = .ok (.getfield 31, 3) := by decide +kernel
theorem dX0_take_42 : decode cX0_take 42 = .ok (.putfield 31, 3) := by decide +kernel
theorem dX0_take_45 : decode cX0_take 45 = .ok (.aload_n 0, 1) := by decide +kernel
theorem dX0_take_46 : decode cX0_take 46 = .ok (.aload_n 1, 1) := by decide +kernel
theorem dX0_take_47 : decode cX0_take 47 = .ok (.getfield 34, 3) := by decide +kernel
theorem dX0_take_50 : decode cX0_take 50 = .ok (.putfield 34, 3) := by decide +kernel
theorem dX0_take_53 : decode cX0_take 53 = .ok (.aload_n 0, 1) := by decide +kernel
theorem dX0_take_54 : decode cX0_take 54 = .ok (.aload_n 1, 1) := by decide +kernel
theorem dX0_take_55 : decode cX0_take 55 = .ok (.getfield 47, 3) := by decide +kernel
theorem dX0_take_58 : decode cX0_take 58 = .ok (.putfield 47, 3) := by decide +kernel
theorem dX0_take_61 : decode cX0_take 61 = .ok (.aload_n 0, 1) := by decide +kernel
theorem dX0_take_62 : decode cX0_take 62 = .ok (.aload_n 1, 1) := by decide +kernel
theorem dX0_take_63 : decode cX0_take 63 = .ok (.getfield 50, 3) := by decide +kernel
theorem dX0_take_66 : decode cX0_take 66 = .ok (.putfield 50, 3) := by decide +kernel
theorem dX0_take_69 : decode cX0_take 69 = .ok (.return_, 1) := by decide +kernel
theorem dX0_entry_0 : decode cX0_entry 0 = .ok (.aload_n 0, 1) := by decide +kernel
theorem dX0_entry_1 : decode cX0_entry 1 = .ok (.getfield 27, 3) := by decide +kernel
theorem dX0_entry_4 : decode cX0_entry 4 = .ok (.iload_n 1, 1) := by decide +kernel
theorem dX0_entry_5 : decode cX0_entry 5 = .ok (.iadd, 1) := by decide +kernel
theorem dX0_entry_6 : decode cX0_entry 6 = .ok (.bipush 100, 2) := by decide +kernel
theorem dX0_entry_8 : decode cX0_entry 8 = .ok (.irem, 1) := by decide +kernel
theorem dX0_entry_9 : decode cX0_entry 9 = .ok (.bipush 34, 2) := by decide +kernel
theorem dX0_entry_11 : decode cX0_entry 11 = .ok (.imul, 1) := by decide +kernel
theorem dX0_entry_12 : decode cX0_entry 12 = .ok (.ireturn, 1) := by decide +kernel
theorem dX0_strikeNext_0 : decode cX0_strikeNext 0 = .ok (.aload_n 0, 1) := by decide +kernel
theorem dX0_strikeNext_1 : decode cX0_strikeNext 1 = .ok (.aload_n 0, 1) := by decide +kernel
theorem dX0_strikeNext_2 : decode cX0_strikeNext 2 = .ok (.getfield 31, 3) := by decide +kernel
theorem dX0_strikeNext_5 : decode cX0_strikeNext 5 = .ok (.invokevirtual 61, 3) := by decide +kernel
theorem dX0_strikeNext_8 : decode cX0_strikeNext 8 = .ok (.istore_n 2, 1) := by decide +kernel
theorem dX0_strikeNext_9 : decode cX0_strikeNext 9 = .ok (.aload_n 0, 1) := by decide +kernel
theorem dX0_strikeNext_10 : decode cX0_strikeNext 10 = .ok (.getfield 20, 3) := by decide +kernel
theorem dX0_strikeNext_13 : decode cX0_strikeNext 13 = .ok (.getfield 64, 3) := by decide +kernel
theorem dX0_strikeNext_16 : decode cX0_strikeNext 16 = .ok (.iconst 0, 1) := by decide +kernel
theorem dX0_strikeNext_17 : decode cX0_strikeNext 17 = .ok (.aload_n 0, 1) := by decide +kernel
theorem dX0_strikeNext_18 : decode cX0_strikeNext 18 = .ok (.getfield 13, 3) := by decide +kernel
theorem dX0_strikeNext_21 : decode cX0_strikeNext 21 = .ok (.iload_n 2, 1) := by decide +kernel
theorem dX0_strikeNext_22 : decode cX0_strikeNext 22 = .ok (.bipush 29, 2) := by decide +kernel
theorem dX0_strikeNext_24 : decode cX0_strikeNext 24 = .ok (.invokestatic 41, 3) := by decide +kernel
theorem dX0_strikeNext_27 : decode cX0_strikeNext 27 = .ok (.aload_n 0, 1) := by decide +kernel
theorem dX0_strikeNext_28 : decode cX0_strikeNext 28 = .ok (.getfield 20, 3) := by decide +kernel
theorem dX0_strikeNext_31 : decode cX0_strikeNext 31 = .ok (.iload_n 1, 1) := by decide +kernel
theorem dX0_strikeNext_32 : decode cX0_strikeNext 32 = .ok (.invokevirtual 67, 3) := by decide +kernel
theorem dX0_strikeNext_35 : decode cX0_strikeNext 35 = .ok (.aload_n 0, 1) := by decide +kernel
theorem dX0_strikeNext_36 : decode cX0_strikeNext 36 = .ok (.getfield 13, 3) := by decide +kernel
theorem dX0_strikeNext_39 : decode cX0_strikeNext 39 = .ok (.iload_n 2, 1) := by decide +kernel
theorem dX0_strikeNext_40 : decode cX0_strikeNext 40 = .ok (.bipush 29, 2) := by decide +kernel
theorem dX0_strikeNext_42 : decode cX0_strikeNext 42 = .ok (.iadd, 1) := by decide +kernel
theorem dX0_strikeNext_43 : decode cX0_strikeNext 43 = .ok (.iload_n 1, 1) := by decide +kernel
theorem dX0_strikeNext_44 : decode cX0_strikeNext 44 = .ok (.iastore, 1) := by decide +kernel
theorem dX0_strikeNext_45 : decode cX0_strikeNext 45 = .ok (.aload_n 0, 1) := by decide +kernel
theorem dX0_strikeNext_46 : decode cX0_strikeNext 46 = .ok (.getfield 20, 3) := by decide +kernel
theorem dX0_strikeNext_49 : decode cX0_strikeNext 49 = .ok (.getfield 70, 3) := by decide +kernel
theorem dX0_strikeNext_52 : decode cX0_strikeNext 52 = .ok (.iconst 0, 1) := by decide +kernel
theorem dX0_strikeNext_53 : decode cX0_strikeNext 53 = .ok (.aload_n 0, 1) := by decide +kernel
theorem dX0_strikeNext_54 : decode cX0_strikeNext 54 = .ok (.getfield 13, 3) := by decide +kernel
theorem dX0_strikeNext_57 : decode cX0_strikeNext 57 = .ok (.iload_n 2, 1) := by decide +kernel
theorem dX0_strikeNext_58 : decode cX0_strikeNext 58 = .ok (.bipush 30, 2) := by decide +kernel
theorem dX0_strikeNext_60 : decode cX0_strikeNext 60 = .ok (.iadd, 1) := by decide +kernel
theorem dX0_strikeNext_61 : decode cX0_strikeNext 61 = .ok (.iconst 4, 1) := by decide +kernel
theorem dX0_strikeNext_62 : decode cX0_strikeNext 62 = .ok (.invokestatic 41, 3) := by decide +kernel
theorem dX0_strikeNext_65 : decode cX0_strikeNext 65 = .ok (.aload_n 0, 1) := by decide +kernel
theorem dX0_strikeNext_66 : decode cX0_strikeNext 66 = .ok (.dup, 1) := by decide +kernel
theorem dX0_strikeNext_67 : decode cX0_strikeNext 67 = .ok (.getfield 31, 3) := by decide +kernel
theorem dX0_strikeNext_70 : decode cX0_strikeNext 70 = .ok (.iconst 1, 1) := by decide +kernel
theorem dX0_strikeNext_71 : decode cX0_strikeNext 71 = .ok (.iadd, 1) := by decide +kernel
theorem dX0_strikeNext_72 : decode cX0_strikeNext 72 = .ok (.putfield 31, 3) := by decide +kernel
theorem dX0_strikeNext_75 : decode cX0_strikeNext 75 = .ok (.return_, 1) := by decide +kernel
theorem dX0_strikeNew_0 : decode cX0_strikeNew 0 = .ok (.aload_n 0, 1) := by decide +kernel
theorem dX0_strikeNew_1 : decode cX0_strikeNew 1 = .ok (.iconst 0, 1) := by decide +kernel
theorem dX0_strikeNew_2 : decode cX0_strikeNew 2 = .ok (.putfield 34, 3) := by decide +kernel
theorem dX0_strikeNew_5 : decode cX0_strikeNew 5 = .ok (.aload_n 0, 1) := by decide +kernel
theorem dX0_strikeNew_6 : decode cX0_strikeNew 6 = .ok (.getfield 31, 3) := by decide +kernel
theorem dX0_strikeNew_9 : decode cX0_strikeNew 9 = .ok (.bipush 100, 2) := by decide +kernel
theorem dX0_strikeNew_11 : decode cX0_strikeNew 11 = .ok (.if_icmp .ne 26, 3) := by decide +kernel
theorem dX0_strikeNew_14 : decode cX0_strikeNew 14 = .ok (.aload_n 0, 1) := by decide +kernel
theorem dX0_strikeNew_15 : decode cX0_strikeNew 15 = .ok (.aload_n 0, 1) := by decide +kernel
theorem dX0_strikeNew_16 : decode cX0_strikeNew 16 = .ok (.getfield 27, 3) := by decide +kernel
theorem dX0_strikeNew_19 : decode cX0_strikeNew 19 = .ok (.iconst 1, 1) := by decide +kernel
theorem dX0_strikeNew_20 : decode cX0_strikeNew 20 = .ok (.iadd, 1) := by decide +kernel
theorem dX0_strikeNew_21 : decode cX0_strikeNew 21 = .ok (.bipush 100, 2) := by decide +kernel
theorem dX0_strikeNew_23 : decode cX0_strikeNew 23 = .ok (.irem, 1) := by decide +kernel
theorem dX0_strikeNew_24 : decode cX0_strikeNew 24 = .ok (.putfield 27, 3) := by decide +kernel
theorem dX0_strikeNew_27 : decode cX0_strikeNew 27 = .ok (.aload_n 0, 1) := by decide +kernel
theorem dX0_strikeNew_28 : decode cX0_strikeNew 28 = .ok (.dup, 1) := by decide +kernel
theorem dX0_strikeNew_29 : decode cX0_strikeNew 29 = .ok (.getfield 31, 3) := by decide +kernel
theorem dX0_strikeNew_32 : decode cX0_strikeNew 32 = .ok (.iconst 1, 1) := by decide +kernel
theorem dX0_strikeNew_33 : decode cX0_strikeNew 33 = .ok (.isub, 1) := by decide +kernel
theorem dX0_strikeNew_34 : decode cX0_strikeNew 34 = .ok (.putfield 31, 3) := by decide +kernel
theorem dX0_strikeNew_37 : decode cX0_strikeNew 37 = .ok (.aload_n 0, 1) := by decide +kernel
theorem dX0_strikeNew_38 : decode cX0_strikeNew 38 = .ok (.getfield 20, 3) := by decide +kernel
theorem dX0_strikeNew_41 : decode cX0_strikeNew 41 = .ok (.iconst 1, 1) := by decide +kernel
theorem dX0_strikeNew_42 : decode cX0_strikeNew 42 = .ok (.invokevirtual 53, 3) := by decide +kernel
theorem dX0_strikeNew_45 : decode cX0_strikeNew 45 = .ok (.istore_n 2, 1) := by decide +kernel
theorem dX0_strikeNew_46 : decode cX0_strikeNew 46 = .ok (.aload_n 0, 1) := by decide +kernel
theorem dX0_strikeNew_47 : decode cX0_strikeNew 47 = .ok (.iload_n 1, 1) := by decide +kernel
theorem dX0_strikeNew_48 : decode cX0_strikeNew 48 = .ok (.invokevirtual 57, 3) := by decide +kernel
theorem dX0_strikeNew_51 : decode cX0_strikeNew 51 = .ok (.aload_n 0, 1) := by decide +kernel
theorem dX0_strikeNew_52 : decode cX0_strikeNew 52 = .ok (.getfield 20, 3) := by decide +kernel
theorem dX0_strikeNew_55 : decode cX0_strikeNew 55 = .ok (.iconst 1, 1) := by decide +kernel
theorem dX0_strikeNew_56 : decode cX0_strikeNew 56 = .ok (.invokevirtual 53, 3) := by decide +kernel
theorem dX0_strikeNew_59 : decode cX0_strikeNew 59 = .ok (.iload_n 2, 1) := by decide +kernel
theorem dX0_strikeNew_60 : decode cX0_strikeNew 60 = .ok (.isub, 1) := by decide +kernel
theorem dX0_strikeNew_61 : decode cX0_strikeNew 61 = .ok (.ireturn, 1) := by decide +kernel
theorem dX0_takeBack_0 : decode cX0_takeBack 0 = .ok (.aload_n 0, 1) := by decide +kernel
theorem dX0_takeBack_1 : decode cX0_takeBack 1 = .ok (.dup, 1) := by decide +kernel
theorem dX0_takeBack_2 : decode cX0_takeBack 2 = .ok (.getfield 31, 3) := by decide +kernel
theorem dX0_takeBack_5 : decode cX0_takeBack 5 = .ok (.iconst 1, 1) := by decide +kernel
theorem dX0_takeBack_6 : decode cX0_takeBack 6 = .ok (.isub, 1) := by decide +kernel
theorem dX0_takeBack_7 : decode cX0_takeBack 7 = .ok (.putfield 31, 3) := by decide +kernel
theorem dX0_takeBack_10 : decode cX0_takeBack 10 = .ok (.aload_n 0, 1) := by decide +kernel
theorem dX0_takeBack_11 : decode cX0_takeBack 11 = .ok (.dup, 1) := by decide +kernel
theorem dX0_takeBack_12 : decode cX0_takeBack 12 = .ok (.getfield 34, 3) := by decide +kernel
theorem dX0_takeBack_15 : decode cX0_takeBack 15 = .ok (.iconst 1, 1) := by decide +kernel
theorem dX0_takeBack_16 : decode cX0_takeBack 16 = .ok (.iadd, 1) := by decide +kernel
theorem dX0_takeBack_17 : decode cX0_takeBack 17 = .ok (.putfield 34, 3) := by decide +kernel
theorem dX0_takeBack_20 : decode cX0_takeBack 20 = .ok (.aload_n 0, 1) := by decide +kernel
theorem dX0_takeBack_21 : decode cX0_takeBack 21 = .ok (.getfield 13, 3) := by decide +kernel
theorem dX0_takeBack_24 : decode cX0_takeBack 24 = .ok (.aload_n 0, 1) := by decide +kernel
theorem dX0_takeBack_25 : decode cX0_takeBack 25 = .ok (.aload_n 0, 1) := by decide +kernel
theorem dX0_takeBack_26 : decode cX0_takeBack 26 = .ok (.getfield 31, 3) := by decide +kernel
theorem dX0_takeBack_29 : decode cX0_takeBack 29 = .ok (.invokevirtual 61, 3) := by decide +kernel
theorem dX0_takeBack_32 : decode cX0_takeBack 32 = .ok (.aload_n 0, 1) := by decide +kernel
theorem dX0_takeBack_33 : decode cX0_takeBack 33 = .ok (.getfield 20, 3) := by decide +kernel
theorem dX0_takeBack_36 : decode cX0_takeBack 36 = .ok (.getfield 64, 3) := by decide +kernel
theorem dX0_takeBack_39 : decode cX0_takeBack 39 = .ok (.iconst 0, 1) := by decide +kernel
theorem dX0_takeBack_40 : decode cX0_takeBack 40 = .ok (.bipush 29, 2) := by decide +kernel
theorem dX0_takeBack_42 : decode cX0_takeBack 42 = .ok (.invokestatic 41, 3) := by decide +kernel
theorem dX0_takeBack_45 : decode cX0_takeBack 45 = .ok (.return_, 1) := by decide +kernel
theorem dX0_strikeAgain_0 : decode cX0_strikeAgain 0 = .ok (.aload_n 0, 1) := by decide +kernel
theorem dX0_strikeAgain_1 : decode cX0_strikeAgain 1 = .ok (.getfield 13, 3) := by decide +kernel
theorem dX0_strikeAgain_4 : decode cX0_strikeAgain 4 = .ok (.aload_n 0, 1) := by decide +kernel
theorem dX0_strikeAgain_5 : decode cX0_strikeAgain 5 = .ok (.aload_n 0, 1) := by decide +kernel
theorem dX0_strikeAgain_6 : decode cX0_strikeAgain 6 = .ok (.getfield 31, 3) := by decide +kernel
theorem dX0_strikeAgain_9 : decode cX0_strikeAgain 9 = .ok (.invokevirtual 61, 3) := by decide +kernel
theorem dX0_strikeAgain_12 : decode cX0_strikeAgain 12 = .ok (.bipush 29, 2) := by decide +kernel
theorem dX0_strikeAgain_14 : decode cX0_strikeAgain 14 = .ok (.iadd, 1) := by decide +kernel
theorem dX0_strikeAgain_15 : decode cX0_strikeAgain 15 = .ok (.iaload, 1) := by decide +kernel
theorem dX0_strikeAgain_16 : decode cX0_strikeAgain 16 = .ok (.istore_n 1, 1) := by decide +kernel
theorem dX0_strikeAgain_17 : decode cX0_strikeAgain 17 = .ok (.aload_n 0, 1) := by decide +kernel
theorem dX0_strikeAgain_18 : decode cX0_strikeAgain 18 = .ok (.iload_n 1, 1) := by decide +kernel
theorem dX0_strikeAgain_19 : decode cX0_strikeAgain 19 = .ok (.invokevirtual 57, 3) := by decide +kernel
theorem dX0_strikeAgain_22 : decode cX0_strikeAgain 22 = .ok (.aload_n 0, 1) := by decide +kernel
theorem dX0_strikeAgain_23 : decode cX0_strikeAgain 23 = .ok (.dup, 1) := by decide +kernel
theorem dX0_strikeAgain_24 : decode cX0_strikeAgain 24 = .ok (.getfield 34, 3) := by decide +kernel
theorem dX0_strikeAgain_27 : decode cX0_strikeAgain 27 = .ok (.iconst 1, 1) := by decide +kernel
theorem dX0_strikeAgain_28 : decode cX0_strikeAgain 28 = .ok (.isub, 1) := by decide +kernel
theorem dX0_strikeAgain_29 : decode cX0_strikeAgain 29 = .ok (.putfield 34, 3) := by decide +kernel
theorem dX0_strikeAgain_32 : decode cX0_strikeAgain 32 = .ok (.iload_n 1, 1) := by decide +kernel
theorem dX0_strikeAgain_33 : decode cX0_strikeAgain 33 = .ok (.ireturn, 1) := by decide +kernel
theorem dX0_reason_0 : decode cX0_reason 0 = .ok (.aload_n 0, 1) := by decide +kernel
theorem dX0_reason_1 : decode cX0_reason 1 = .ok (.getfield 13, 3) := by decide +kernel
theorem dX0_reason_4 : decode cX0_reason 4 = .ok (.aload_n 0, 1) := by decide +kernel
theorem dX0_reason_5 : decode cX0_reason 5 = .ok (.iload_n 2, 1) := by decide +kernel
theorem dX0_reason_6 : decode cX0_reason 6 = .ok (.invokevirtual 61, 3) := by decide +kernel
theorem dX0_reason_9 : decode cX0_reason 9 = .ok (.bipush 30, 2) := by decide +kernel
theorem dX0_reason_11 : decode cX0_reason 11 = .ok (.iadd, 1) := by decide +kernel
theorem dX0_reason_12 : decode cX0_reason 12 = .ok (.iload_n 1, 1) := by decide +kernel
theorem dX0_reason_13 : decode cX0_reason 13 = .ok (.iadd, 1) := by decide +kernel
theorem dX0_reason_14 : decode cX0_reason 14 = .ok (.iaload, 1) := by decide +kernel
theorem dX0_reason_15 : decode cX0_reason 15 = .ok (.ireturn, 1) := by decide +kernel
def wpX0_begin (sC : AR) (sG : AR) (F_all : AR) (G_strokes : AR) (G_home : AR) (G_water : AR) (post : AR → AR → Prop) : Prop := wpX3_begin sG F_all G_strokes G_home G_water (fun F_all_4 => post (upd (upd (upd sC 2 (0 : Int32)) 3 (0 : Int32)) 4 (0 : Int32)) F_all_4)
set_option maxHeartbeats 4000000 in
set_option maxRecDepth 100000 in
theorem ctX0_begin (l : Launch) (D : va_G) (cy : Nat → ClassId) (ev : Nat → Nat) (h0 : Nat) (rC : Nat → Nat) (rF : Nat → Nat) (rG : Nat → Nat) (sC : AR) (sG : AR) (F_all : AR) (G_strokes : AR) (G_home : AR) (G_water : AR) (sz : Nat) (post : AR → AR → Prop) (h : wpX0_begin sC sG F_all G_strokes G_home G_water post) : Met l yX0_begin (Cond.code yX0_begin cX0_begin 1 none :: TB) ({ frames := 1, cells := 0, slots := 0, locals := 22 }) (va_Pc [.ref h0] (PreX D cy ev [(h0, .inr (0, oX0 rC sC)), ((rC 0), .inr (3, oX3 rF)), ((rF 0), .inr (4, oX4 rG sG)), ((rF 3), .inl (cy 0, 29, .inl F_all)), ((rG 10), .inl (cy 0, 5, .inl G_strokes)), ((rG 13), .inl (cy 0, 4, .inl G_home)), ((rG 14), .inl (cy 0, 4, .inl G_water))] sz)) (va_Qv (fun (u : AR × AR) => post (u.1) (u.2)) (fun u => BkX D cy [(h0, .inr (0, oX0 rC sC)), ((rC 0), .inr (3, oX3 rF)), ((rF 0), .inr (4, oX4 rG sG)), ((rF 3), .inl (cy 0, 29, .inl F_all)), ((rG 10), .inl (cy 0, 5, .inl G_strokes)), ((rG 13), .inl (cy 0, 4, .inl G_home)), ((rG 14), .inl (cy 0, 4, .inl G_water))] sz [(h0, .inr (0, oX0 rC (u.1))), ((rC 0), .inr (3, oX3 rF)), ((rF 0), .inr (4, oX4 rG sG)), ((rF 3), .inl (cy 0, 29, .inl (u.2))), ((rG 10), .inl (cy 0, 5, .inl G_strokes)), ((rG 13), .inl (cy 0, 4, .inl G_home)), ((rG 14), .inl (cy 0, 4, .inl G_water))]) (va_A [(h0, .inr (0, oX0 rC sC)), ((rC 0), .inr (3, oX3 rF)), ((rF 0), .inr (4, oX4 rG sG)), ((rF 3), .inl (cy 0, 29, .inl F_all)), ((rG 10), .inl (cy 0, 5, .inl G_strokes)), ((rG 13), .inl (cy 0, 4, .inl G_home)), ((rG 14), .inl (cy 0, 4, .inl G_water))] sz)) 0 0 (va_A [(h0, .inr (0, oX0 rC sC)), ((rC 0), .inr (3, oX3 rF)), ((rF 0), .inr (4, oX4 rG sG)), ((rF 3), .inl (cy 0, 29, .inl F_all)), ((rG 10), .inl (cy 0, 5, .inl G_strokes)), ((rG 13), .inl (cy 0, 4, .inl G_home)), ((rG 14), .inl (cy 0, 4, .inl G_water))] sz) := by
  refine ofWv (by decide) (Nat.le_of_ble_eq_true rfl) ?_
  intro p e s m args below meth c ls A R QQ hx hb hml hown hts hR hlk hE hK hP hD hS hA hl hret
  have hown : s.vm.findClass RX0 = some m.cls := hown
  have hRf : 1 ≤ R.frames := by rw [hR]; exact Nat.le_refl _
  have hRl : 22 ≤ R.locals := by rw [hR]; exact Nat.le_refl _
  clear hR
  have hl : lv_has ls 1 [(0, .ref h0)] := hl
  refine lv_aload_n hx hb dX0_begin_0 rfl (lv_at hl 0 rfl) ?_
  refine gfX0_20 hx hb hts hown hK hP 0 rfl dX0_begin_1 ?_
  refine clVv (As := []) (rest := []) (Wr := [(h0, .inr (0, oX0 rC sC))]) (cq := (RX3, TX3, 5)) ⟨hx, hb, hml, hown, hts⟩ ⟨callB_of 0 hts (goodC mw451) rfl rfl rfl (hts _ (tb mw9)) (hts _ (tb mw448)) kdX3_begin ⟨Nat.le_trans (by decide) hRf, Nat.le_trans (by decide) hRl⟩, hts _ (tb mw449), hts _ (tb mw450)⟩ (ctX3_begin l D cy ev (rC 0) rF rG sG F_all G_strokes G_home G_water  _ _ h) hE hK hP hD hS hA [1, 2, 3, 4, 5, 6] [0] rfl rfl (by decide) (by decide) (by decide) 0 rfl rfl rfl hl.1 rfl (Nat.le_of_ble_eq_true rfl) ⟨Nat.zero_le _, Nat.zero_le _⟩ dX0_begin_4 (fun F_all_4 H locs h hP hD hS => ?_)
  have hP : va_P D clsX [(h0, .inr (0, oX0 rC sC)), ((rC 0), .inr (3, oX3 rF)), ((rF 0), .inr (4, oX4 rG sG)), ((rF 3), .inl (cy 0, 29, .inl F_all_4)), ((rG 10), .inl (cy 0, 5, .inl G_strokes)), ((rG 13), .inl (cy 0, 4, .inl G_home)), ((rG 14), .inl (cy 0, 4, .inl G_water))] H := hP
  have hD : va_D A [(h0, .inr (0, oX0 rC sC)), ((rC 0), .inr (3, oX3 rF)), ((rF 0), .inr (4, oX4 rG sG)), ((rF 3), .inl (cy 0, 29, .inl F_all_4)), ((rG 10), .inl (cy 0, 5, .inl G_strokes)), ((rG 13), .inl (cy 0, 4, .inl G_home)), ((rG 14), .inl (cy 0, 4, .inl G_water))] := hD
  refine lv_aload_n hx hb dX0_begin_7 rfl (lv_at hl 0 rfl) ?_
  refine lv_iconst (v := (0 : Int32)) hx hb dX0_begin_8 (by decide) ?_
  refine pfX0_27 hx hb hts hown hK hP hD hS 0 rfl dX0_begin_9 (fun H locs hP hD hS => ?_)
  have hP : va_P D clsX [(h0, .inr (0, oX0 rC (upd sC 2 (0 : Int32)))), ((rC 0), .inr (3, oX3 rF)), ((rF 0), .inr (4, oX4 rG sG)), ((rF 3), .inl (cy 0, 29, .inl F_all_4)), ((rG 10), .inl (cy 0, 5, .inl G_strokes)), ((rG 13), .inl (cy 0, 4, .inl G_home)), ((rG 14), .inl (cy 0, 4, .inl G_water))] H := hP
  have hD : va_D A [(h0, .inr (0, oX0 rC (upd sC 2 (0 : Int32)))), ((rC 0), .inr (3, oX3 rF)), ((rF 0), .inr (4, oX4 rG sG)), ((rF 3), .inl (cy 0, 29, .inl F_all_4)), ((rG 10), .inl (cy 0, 5, .inl G_strokes)), ((rG 13), .inl (cy 0, 4, .inl G_home)), ((rG 14), .inl (cy 0, 4, .inl G_water))] := hD
  refine lv_aload_n hx hb dX0_begin_12 rfl (lv_at hl 0 rfl) ?_
  refine lv_iconst (v := (0 : Int32)) hx hb dX0_begin_13 (by decide) ?_
  refine pfX0_31 hx hb hts hown hK hP hD hS 0 rfl dX0_begin_14 (fun H locs hP hD hS => ?_)
  have hP : va_P D clsX [(h0, .inr (0, oX0 rC (upd (upd sC 2 (0 : Int32)) 3 (0 : Int32)))), ((rC 0), .inr (3, oX3 rF)), ((rF 0), .inr (4, oX4 rG sG)), ((rF 3), .inl (cy 0, 29, .inl F_all_4)), ((rG 10), .inl (cy 0, 5, .inl G_strokes)), ((rG 13), .inl (cy 0, 4, .inl G_home)), ((rG 14), .inl (cy 0, 4, .inl G_water))] H := hP
  have hD : va_D A [(h0, .inr (0, oX0 rC (upd (upd sC 2 (0 : Int32)) 3 (0 : Int32)))), ((rC 0), .inr (3, oX3 rF)), ((rF 0), .inr (4, oX4 rG sG)), ((rF 3), .inl (cy 0, 29, .inl F_all_4)), ((rG 10), .inl (cy 0, 5, .inl G_strokes)), ((rG 13), .inl (cy 0, 4, .inl G_home)), ((rG 14), .inl (cy 0, 4, .inl G_water))] := hD
  refine lv_aload_n hx hb dX0_begin_17 rfl (lv_at hl 0 rfl) ?_
  refine lv_iconst (v := (0 : Int32)) hx hb dX0_begin_18 (by decide) ?_
  refine pfX0_34 hx hb hts hown hK hP hD hS 0 rfl dX0_begin_19 (fun H locs hP hD hS => ?_)
  have hP : va_P D clsX [(h0, .inr (0, oX0 rC (upd (upd (upd sC 2 (0 : Int32)) 3 (0 : Int32)) 4 (0 : Int32)))), ((rC 0), .inr (3, oX3 rF)), ((rF 0), .inr (4, oX4 rG sG)), ((rF 3), .inl (cy 0, 29, .inl F_all_4)), ((rG 10), .inl (cy 0, 5, .inl G_strokes)), ((rG 13), .inl (cy 0, 4, .inl G_home)), ((rG 14), .inl (cy 0, 4, .inl G_water))] H := hP
  have hD : va_D A [(h0, .inr (0, oX0 rC (upd (upd (upd sC 2 (0 : Int32)) 3 (0 : Int32)) 4 (0 : Int32)))), ((rC 0), .inr (3, oX3 rF)), ((rF 0), .inr (4, oX4 rG sG)), ((rF 3), .inl (cy 0, 29, .inl F_all_4)), ((rG 10), .inl (cy 0, 5, .inl G_strokes)), ((rG 13), .inl (cy 0, 4, .inl G_home)), ((rG 14), .inl (cy 0, 4, .inl G_water))] := hD
  exact hret ((upd (upd (upd sC 2 (0 : Int32)) 3 (0 : Int32)) 4 (0 : Int32)), F_all_4) _ _ _ _ dX0_begin_22 h hP hD hS
def wpX0_take (sC : AR) (sD : AR) (C_past : AR) (D_past : AR) (K_all : AR) (F_all : AR) (post : AR → AR → AR → Prop) : Prop := wpX3_take K_all F_all (fun F_all_8 => ∀ C_past_26 : AR, C_past_26 = va_cpy D_past C_past 0 0 3400 → ∀ f2_34 : Int32, f2_34 = (sD 2) → ∀ f3_42 : Int32, f3_42 = (sD 3) → ∀ f4_50 : Int32, f4_50 = (sD 4) → ∀ f5_58 : Int32, f5_58 = (sD 5) → ∀ f6_66 : Int32, f6_66 = (sD 6) → post (upd (upd (upd (upd (upd sC 2 f2_34) 3 f3_42) 4 f4_50) 5 f5_58) 6 f6_66) C_past_26 F_all_8)
set_option maxHeartbeats 4000000 in
set_option maxRecDepth 100000 in
theorem ctX0_take (l : Launch) (D : va_G) (cy : Nat → ClassId) (ev : Nat → Nat) (h0 : Nat) (a1 : Nat) (rC : Nat → Nat) (rD : Nat → Nat) (rK : Nat → Nat) (rF : Nat → Nat) (sC : AR) (sD : AR) (C_past : AR) (D_past : AR) (K_all : AR) (F_all : AR) (sz : Nat) (post : AR → AR → AR → Prop) (h : wpX0_take sC sD C_past D_past K_all F_all post) : Met l yX0_take (Cond.code yX0_take cX0_take 2 none :: TB) ({ frames := 2, cells := 0, slots := 0, locals := 81 }) (va_Pc [.ref h0, .ref a1] (PreX D cy ev [(h0, .inr (0, oX0 rC sC)), (a1, .inr (0, oX0 rD sD)), ((rD 0), .inr (3, oX3 rK)), ((rC 0), .inr (3, oX3 rF)), ((rC 1), .inl (cy 0, 3400, .inl C_past)), ((rD 1), .inl (cy 0, 3400, .inl D_past)), ((rK 3), .inl (cy 0, 29, .inl K_all)), ((rF 3), .inl (cy 0, 29, .inl F_all))] sz)) (va_Qv (fun (u : AR × AR × AR) => post (u.1) (u.2.1) (u.2.2)) (fun u => BkX D cy [(h0, .inr (0, oX0 rC sC)), (a1, .inr (0, oX0 rD sD)), ((rD 0), .inr (3, oX3 rK)), ((rC 0), .inr (3, oX3 rF)), ((rC 1), .inl (cy 0, 3400, .inl C_past)), ((rD 1), .inl (cy 0, 3400, .inl D_past)), ((rK 3), .inl (cy 0, 29, .inl K_all)), ((rF 3), .inl (cy 0, 29, .inl F_all))] sz [(h0, .inr (0, oX0 rC (u.1))), (a1, .inr (0, oX0 rD sD)), ((rD 0), .inr (3, oX3 rK)), ((rC 0), .inr (3, oX3 rF)), ((rC 1), .inl (cy 0, 3400, .inl (u.2.1))), ((rD 1), .inl (cy 0, 3400, .inl D_past)), ((rK 3), .inl (cy 0, 29, .inl K_all)), ((rF 3), .inl (cy 0, 29, .inl (u.2.2)))]) (va_A [(h0, .inr (0, oX0 rC sC)), (a1, .inr (0, oX0 rD sD)), ((rD 0), .inr (3, oX3 rK)), ((rC 0), .inr (3, oX3 rF)), ((rC 1), .inl (cy 0, 3400, .inl C_past)), ((rD 1), .inl (cy 0, 3400, .inl D_past)), ((rK 3), .inl (cy 0, 29, .inl K_all)), ((rF 3), .inl (cy 0, 29, .inl F_all))] sz)) 0 0 (va_A [(h0, .inr (0, oX0 rC sC)), (a1, .inr (0, oX0 rD sD)), ((rD 0), .inr (3, oX3 rK)), ((rC 0), .inr (3, oX3 rF)), ((rC 1), .inl (cy 0, 3400, .inl C_past)), ((rD 1), .inl (cy 0, 3400, .inl D_past)), ((rK 3), .inl (cy 0, 29, .inl K_all)), ((rF 3), .inl (cy 0, 29, .inl F_all))] sz) := by
  refine ofWv (by decide) (Nat.le_of_ble_eq_true rfl) ?_
  intro p e s m args below meth c ls A R QQ hx hb hml hown hts hR hlk hE hK hP hD hS hA hl hret
  have hown : s.vm.findClass RX0 = some m.cls := hown
  have hRf : 2 ≤ R.frames := by rw [hR]; exact Nat.le_refl _
  have hRl : 81 ≤ R.locals := by rw [hR]; exact Nat.le_refl _
  clear hR
  have hl : lv_has ls 2 [(0, .ref h0), (1, .ref a1)] := hl
  refine lv_aload_n hx hb dX0_take_0 rfl (lv_at hl 0 rfl) ?_
  refine gfX0_20 hx hb hts hown hK hP 0 rfl dX0_take_1 ?_
  refine lv_aload_n hx hb dX0_take_4 rfl (lv_at hl 1 rfl) ?_
  refine gfX0_20 hx hb hts hown hK hP 1 rfl dX0_take_5 ?_
  refine clVv (As := [.ref (rD 0)]) (rest := []) (Wr := [(h0, .inr (0, oX0 rC sC)), (a1, .inr (0, oX0 rD sD)), ((rC 1), .inl (cy 0, 3400, .inl C_past)), ((rD 1), .inl (cy 0, 3400, .inl D_past))]) (cq := (RX3, TX3, 5)) ⟨hx, hb, hml, hown, hts⟩ ⟨callB_of 1 hts (goodC mw644) rfl rfl rfl (hts _ (tb mw9)) (hts _ (tb mw641)) kdX3_take ⟨Nat.le_trans (by decide) hRf, Nat.le_trans (by decide) hRl⟩, hts _ (tb mw642), hts _ (tb mw643)⟩ (ctX3_take l D cy ev (rC 0) (rD 0) rK rF K_all F_all  _ _ h) hE hK hP hD hS hA [2, 3, 6, 7] [0, 1, 4, 5] rfl rfl (by decide) (by decide) (by decide) 1 rfl rfl rfl hl.1 rfl (Nat.le_of_ble_eq_true rfl) ⟨Nat.zero_le _, Nat.zero_le _⟩ dX0_take_8 (fun F_all_8 H locs h hP hD hS => ?_)
  have hP : va_P D clsX [(h0, .inr (0, oX0 rC sC)), (a1, .inr (0, oX0 rD sD)), ((rC 1), .inl (cy 0, 3400, .inl C_past)), ((rD 1), .inl (cy 0, 3400, .inl D_past)), ((rD 0), .inr (3, oX3 rK)), ((rC 0), .inr (3, oX3 rF)), ((rK 3), .inl (cy 0, 29, .inl K_all)), ((rF 3), .inl (cy 0, 29, .inl F_all_8))] H := hP
  have hD : va_D A [(h0, .inr (0, oX0 rC sC)), (a1, .inr (0, oX0 rD sD)), ((rC 1), .inl (cy 0, 3400, .inl C_past)), ((rD 1), .inl (cy 0, 3400, .inl D_past)), ((rD 0), .inr (3, oX3 rK)), ((rC 0), .inr (3, oX3 rF)), ((rK 3), .inl (cy 0, 29, .inl K_all)), ((rF 3), .inl (cy 0, 29, .inl F_all_8))] := hD
  refine lv_aload_n hx hb dX0_take_11 rfl (lv_at hl 1 rfl) ?_
  refine gfX0_13 hx hb hts hown hK hP 1 rfl dX0_take_12 ?_
  refine lv_iconst (v := (0 : Int32)) hx hb dX0_take_15 (by decide) ?_
  refine lv_aload_n hx hb dX0_take_16 rfl (lv_at hl 0 rfl) ?_
  refine gfX0_13 hx hb hts hown hK hP 0 rfl dX0_take_17 ?_
  refine lv_iconst (v := (0 : Int32)) hx hb dX0_take_20 (by decide) ?_
  refine lv_aload_n hx hb dX0_take_21 rfl (lv_at hl 0 rfl) ?_
  refine gfX0_13 hx hb hts hown hK hP 0 rfl dX0_take_22 ?_
  refine va_alen hx hb hK hP 2 0 rfl rfl (show Int32.ofNat 3400 = (3400 : Int32) from rfl) dX0_take_25 ?_
  refine cpi (k0 := 0) (k1 := 0) (kn := 3400) hx hb (hml.trans hl.1.symm) hts hown mw551 hK hP hD hS 3 2 rfl rfl (by decide) (by decide) (by decide) (by decide) (by decide) (by decide) (by decide) (by decide) (Nat.le_trans (by decide) hRf) (Nat.le_trans (Nat.le_of_ble_eq_true rfl) hRl) dX0_take_26 (fun C_past_26 eC_past_26 H locs hP hD hS => ?_)
  have h := h C_past_26 eC_past_26
  have hP : va_P D clsX [(h0, .inr (0, oX0 rC sC)), (a1, .inr (0, oX0 rD sD)), ((rC 1), .inl (cy 0, 3400, .inl C_past_26)), ((rD 1), .inl (cy 0, 3400, .inl D_past)), ((rD 0), .inr (3, oX3 rK)), ((rC 0), .inr (3, oX3 rF)), ((rK 3), .inl (cy 0, 29, .inl K_all)), ((rF 3), .inl (cy 0, 29, .inl F_all_8))] H := hP
  have hD : va_D A [(h0, .inr (0, oX0 rC sC)), (a1, .inr (0, oX0 rD sD)), ((rC 1), .inl (cy 0, 3400, .inl C_past_26)), ((rD 1), .inl (cy 0, 3400, .inl D_past)), ((rD 0), .inr (3, oX3 rK)), ((rC 0), .inr (3, oX3 rF)), ((rK 3), .inl (cy 0, 29, .inl K_all)), ((rF 3), .inl (cy 0, 29, .inl F_all_8))] := hD
  refine lv_aload_n hx hb dX0_take_29 rfl (lv_at hl 0 rfl) ?_
  refine lv_aload_n hx hb dX0_take_30 rfl (lv_at hl 1 rfl) ?_
  refine gfX0_27 (v := (sD 2)) hx hb hts hown hK hP 1 rfl rfl dX0_take_31 ?_
  refine lv_topi (fun f2_34 ef2_34 => ?_)
  have h := h f2_34 ef2_34
  refine pfX0_27 hx hb hts hown hK hP hD hS 0 rfl dX0_take_34 (fun H locs hP hD hS => ?_)
  have hP : va_P D clsX [(h0, .inr (0, oX0 rC (upd sC 2 f2_34))), (a1, .inr (0, oX0 rD sD)), ((rC 1), .inl (cy 0, 3400, .inl C_past_26)), ((rD 1), .inl (cy 0, 3400, .inl D_past)), ((rD 0), .inr (3, oX3 rK)), ((rC 0), .inr (3, oX3 rF)), ((rK 3), .inl (cy 0, 29, .inl K_all)), ((rF 3), .inl (cy 0, 29, .inl F_all_8))] H := hP
  have hD : va_D A [(h0, .inr (0, oX0 rC (upd sC 2 f2_34))), (a1, .inr (0, oX0 rD sD)), ((rC 1), .inl (cy 0, 3400, .inl C_past_26)), ((rD 1), .inl (cy 0, 3400, .inl D_past)), ((rD 0), .inr (3, oX3 rK)), ((rC 0), .inr (3, oX3 rF)), ((rK 3), .inl (cy 0, 29, .inl K_all)), ((rF 3), .inl (cy 0, 29, .inl F_all_8))] := hD
  refine lv_aload_n hx hb dX0_take_37 rfl (lv_at hl 0 rfl) ?_
  refine lv_aload_n hx hb dX0_take_38 rfl (lv_at hl 1 rfl) ?_
  refine gfX0_31 (v := (sD 3)) hx hb hts hown hK hP 1 rfl rfl dX0_take_39 ?_
  refine lv_topi (fun f3_42 ef3_42 => ?_)
  have h := h f3_42 ef3_42
  refine pfX0_31 hx hb hts hown hK hP hD hS 0 rfl dX0_take_42 (fun H locs hP hD hS => ?_)
  have hP : va_P D clsX [(h0, .inr (0, oX0 rC (upd (upd sC 2 f2_34) 3 f3_42))), (a1, .inr (0, oX0 rD sD)), ((rC 1), .inl (cy 0, 3400, .inl C_past_26)), ((rD 1), .inl (cy 0, 3400, .inl D_past)), ((rD 0), .inr (3, oX3 rK)), ((rC 0), .inr (3, oX3 rF)), ((rK 3), .inl (cy 0, 29, .inl K_all)), ((rF 3), .inl (cy 0, 29, .inl F_all_8))] H := hP
  have hD : va_D A [(h0, .inr (0, oX0 rC (upd (upd sC 2 f2_34) 3 f3_42))), (a1, .inr (0, oX0 rD sD)), ((rC 1), .inl (cy 0, 3400, .inl C_past_26)), ((rD 1), .inl (cy 0, 3400, .inl D_past)), ((rD 0), .inr (3, oX3 rK)), ((rC 0), .inr (3, oX3 rF)), ((rK 3), .inl (cy 0, 29, .inl K_all)), ((rF 3), .inl (cy 0, 29, .inl F_all_8))] := hD
  refine lv_aload_n hx hb dX0_take_45 rfl (lv_at hl 0 rfl) ?_
  refine lv_aload_n hx hb dX0_take_46 rfl (lv_at hl 1 rfl) ?_
  refine gfX0_34 (v := (sD 4)) hx hb hts hown hK hP 1 rfl rfl dX0_take_47 ?_
  refine lv_topi (fun f4_50 ef4_50 => ?_)
  have h := h f4_50 ef4_50
  refine pfX0_34 hx hb hts hown hK hP hD hS 0 rfl dX0_take_50 (fun H locs hP hD hS => ?_)
  have hP : va_P D clsX [(h0, .inr (0, oX0 rC (upd (upd (upd sC 2 f2_34) 3 f3_42) 4 f4_50))), (a1, .inr (0, oX0 rD sD)), ((rC 1), .inl (cy 0, 3400, .inl C_past_26)), ((rD 1), .inl (cy 0, 3400, .inl D_past)), ((rD 0), .inr (3, oX3 rK)), ((rC 0), .inr (3, oX3 rF)), ((rK 3), .inl (cy 0, 29, .inl K_all)), ((rF 3), .inl (cy 0, 29, .inl F_all_8))] H := hP
  have hD : va_D A [(h0, .inr (0, oX0 rC (upd (upd (upd sC 2 f2_34) 3 f3_42) 4 f4_50))), (a1, .inr (0, oX0 rD sD)), ((rC 1), .inl (cy 0, 3400, .inl C_past_26)), ((rD 1), .inl (cy 0, 3400, .inl D_past)), ((rD 0), .inr (3, oX3 rK)), ((rC 0), .inr (3, oX3 rF)), ((rK 3), .inl (cy 0, 29, .inl K_all)), ((rF 3), .inl (cy 0, 29, .inl F_all_8))] := hD
  refine lv_aload_n hx hb dX0_take_53 rfl (lv_at hl 0 rfl) ?_
  refine lv_aload_n hx hb dX0_take_54 rfl (lv_at hl 1 rfl) ?_
  refine gfX0_47 (v := (sD 5)) hx hb hts hown hK hP 1 rfl rfl dX0_take_55 ?_
  refine lv_topi (fun f5_58 ef5_58 => ?_)
  have h := h f5_58 ef5_58
  refine pfX0_47 hx hb hts hown hK hP hD hS 0 rfl dX0_take_58 (fun H locs hP hD hS => ?_)
  have hP : va_P D clsX [(h0, .inr (0, oX0 rC (upd (upd (upd (upd sC 2 f2_34) 3 f3_42) 4 f4_50) 5 f5_58))), (a1, .inr (0, oX0 rD sD)), ((rC 1), .inl (cy 0, 3400, .inl C_past_26)), ((rD 1), .inl (cy 0, 3400, .inl D_past)), ((rD 0), .inr (3, oX3 rK)), ((rC 0), .inr (3, oX3 rF)), ((rK 3), .inl (cy 0, 29, .inl K_all)), ((rF 3), .inl (cy 0, 29, .inl F_all_8))] H := hP
  have hD : va_D A [(h0, .inr (0, oX0 rC (upd (upd (upd (upd sC 2 f2_34) 3 f3_42) 4 f4_50) 5 f5_58))), (a1, .inr (0, oX0 rD sD)), ((rC 1), .inl (cy 0, 3400, .inl C_past_26)), ((rD 1), .inl (cy 0, 3400, .inl D_past)), ((rD 0), .inr (3, oX3 rK)), ((rC 0), .inr (3, oX3 rF)), ((rK 3), .inl (cy 0, 29, .inl K_all)), ((rF 3), .inl (cy 0, 29, .inl F_all_8))] := hD
  refine lv_aload_n hx hb dX0_take_61 rfl (lv_at hl 0 rfl) ?_
  refine lv_aload_n hx hb dX0_take_62 rfl (lv_at hl 1 rfl) ?_
  refine gfX0_50 (v := (sD 6)) hx hb hts hown hK hP 1 rfl rfl dX0_take_63 ?_
  refine lv_topi (fun f6_66 ef6_66 => ?_)
  have h := h f6_66 ef6_66
  refine pfX0_50 hx hb hts hown hK hP hD hS 0 rfl dX0_take_66 (fun H locs hP hD hS => ?_)
  have hP : va_P D clsX [(h0, .inr (0, oX0 rC (upd (upd (upd (upd (upd sC 2 f2_34) 3 f3_42) 4 f4_50) 5 f5_58) 6 f6_66))), (a1, .inr (0, oX0 rD sD)), ((rC 1), .inl (cy 0, 3400, .inl C_past_26)), ((rD 1), .inl (cy 0, 3400, .inl D_past)), ((rD 0), .inr (3, oX3 rK)), ((rC 0), .inr (3, oX3 rF)), ((rK 3), .inl (cy 0, 29, .inl K_all)), ((rF 3), .inl (cy 0, 29, .inl F_all_8))] H := hP
  have hD : va_D A [(h0, .inr (0, oX0 rC (upd (upd (upd (upd (upd sC 2 f2_34) 3 f3_42) 4 f4_50) 5 f5_58) 6 f6_66))), (a1, .inr (0, oX0 rD sD)), ((rC 1), .inl (cy 0, 3400, .inl C_past_26)), ((rD 1), .inl (cy 0, 3400, .inl D_past)), ((rD 0), .inr (3, oX3 rK)), ((rC 0), .inr (3, oX3 rF)), ((rK 3), .inl (cy 0, 29, .inl K_all)), ((rF 3), .inl (cy 0, 29, .inl F_all_8))] := hD
  exact hret ((upd (upd (upd (upd (upd sC 2 f2_34) 3 f3_42) 4 f4_50) 5 f5_58) 6 f6_66), C_past_26, F_all_8) _ _ _ _ dX0_take_69 h (hP.sub [0, 1, 4, 5, 2, 3, 6, 7] rfl) (hD.sub [0, 1, 4, 5, 2, 3, 6, 7] (by decide) rfl) hS
def wpX0_entry (sC : AR) (x1 : Int32) (post : Int32 → Prop) : Prop := post ((jrem ((sC 2) + x1) (100 : Int32)) * (34 : Int32))
set_option maxHeartbeats 4000000 in
set_option maxRecDepth 100000 in
theorem ctX0_entry (l : Launch) (D : va_G) (cy : Nat → ClassId) (ev : Nat → Nat) (h0 : Nat) (rC : Nat → Nat) (sC : AR) (x1 : Int32) (sz : Nat) (post : Int32 → Prop) (h : wpX0_entry sC x1 post) : Met l yX0_entry (Cond.code yX0_entry cX0_entry 2 (some .int) :: TB) ({ frames := 0, cells := 0, slots := 0, locals := 0 }) (va_Pc [.ref h0, .int x1] (PreX D cy ev [(h0, .inr (0, oX0 rC sC))] sz)) (va_Qi (fun (r : Int32) (u : Unit) => post r) (fun u => BkX D cy [(h0, .inr (0, oX0 rC sC))] sz [(h0, .inr (0, oX0 rC sC))]) (va_A [(h0, .inr (0, oX0 rC sC))] sz)) 0 0 (va_A [(h0, .inr (0, oX0 rC sC))] sz) := by
  refine ofWi (by decide) (Nat.le_of_ble_eq_true rfl) ?_
  intro p e s m args below meth c ls A R QQ hx hb hml hown hts hR hlk hE hK hP hD hS hA hl hret
  have hown : s.vm.findClass RX0 = some m.cls := hown
  have hRf : 0 ≤ R.frames := by rw [hR]; exact Nat.le_refl _
  have hRl : 0 ≤ R.locals := by rw [hR]; exact Nat.le_refl _
  clear hR
  have hl : lv_has ls 2 [(0, .ref h0), (1, .int x1)] := hl
  refine lv_aload_n hx hb dX0_entry_0 rfl (lv_at hl 0 rfl) ?_
  refine gfX0_27 (v := (sC 2)) hx hb hts hown hK hP 0 rfl rfl dX0_entry_1 ?_
  refine lv_iload_n hx hb dX0_entry_4 rfl (lv_at hl 1 rfl) ?_
  refine lv_iadd hx hb dX0_entry_5 ?_
  refine lv_bipush (v := (100 : Int32)) hx hb dX0_entry_6 (by decide) ?_
  refine lv_irem hx hb dX0_entry_8 (by decide) ?_
  refine lv_bipush (v := (34 : Int32)) hx hb dX0_entry_9 (by decide) ?_
  refine lv_imul hx hb dX0_entry_11 ?_
  exact hret ((jrem ((sC 2) + x1) (100 : Int32)) * (34 : Int32)) () _ _ _ _ rfl dX0_entry_12 h hP hD hS
def wpX0_strikeNext (sC : AR) (sG : AR) (C_past : AR) (F_all : AR) (F_reasons : AR) (G_isFalse : AR) (G_kind : AR) (E_heardAt : AR) (E_nearest : AR) (E_ofVoice : AR) (E_alike : AR) (W_next : AR) (W_way : AR) (W_goal : AR) (x1 : Int32) (post : AR → AR → AR → AR → Prop) : Prop := wpX0_entry sC (sC 3) (fun r5 => ¬ r5 < 0 ∧ r5.toNatClampNeg + 29 ≤ 3400 ∧ ∀ C_past_24 : AR, C_past_24 = va_cpy F_all C_past 0 r5.toNatClampNeg 29 → wpX3_hear sG F_all F_reasons G_isFalse G_kind E_heardAt E_nearest E_ofVoice E_alike W_next W_way W_goal x1 (fun F_all_32 F_reasons_32 => vp_in (r5 + (29 : Int32)) 3400 ∧ ∀ C_past_44 : AR, C_past_44 = upd C_past_24 (r5 + (29 : Int32)).toNatClampNeg x1 → ¬ (r5 + (30 : Int32)) < 0 ∧ (r5 + (30 : Int32)).toNatClampNeg + 4 ≤ 3400 ∧ ∀ C_past_62 : AR, C_past_62 = va_cpy F_reasons_32 C_past_44 0 (r5 + (30 : Int32)).toNatClampNeg 4 → ∀ f3_72 : Int32, f3_72 = ((sC 3) + (1 : Int32)) → post (upd sC 3 f3_72) C_past_62 F_all_32 F_reasons_32))
set_option maxHeartbeats 4000000 in
set_option maxRecDepth 100000 in
theorem ctX0_strikeNext (l : Launch) (D : va_G) (cy : Nat → ClassId) (ev : Nat → Nat) (h0 : Nat) (rC : Nat → Nat) (rF : Nat → Nat) (rG : Nat → Nat) (rE : Nat → Nat) (rW : Nat → Nat) (sC : AR) (sG : AR) (C_past : AR) (F_all : AR) (F_reasons : AR) (G_isFalse : AR) (G_kind : AR) (E_heardAt : AR) (E_nearest : AR) (E_ofVoice : AR) (E_alike : AR) (W_next : AR) (W_way : AR) (W_goal : AR) (x1 : Int32) (sz : Nat) (post : AR → AR → AR → AR → Prop) (h : wpX0_strikeNext sC sG C_past F_all F_reasons G_isFalse G_kind E_heardAt E_nearest E_ofVoice E_alike W_next W_way W_goal x1 post) : Met l yX0_strikeNext (Cond.code yX0_strikeNext cX0_strikeNext 3 none :: TB) ({ frames := 4, cells := 0, slots := 0, locals := 100 }) (va_Pc [.ref h0, .int x1] (PreX D cy ev [(h0, .inr (0, oX0 rC sC)), ((rC 0), .inr (3, oX3 rF)), ((rF 0), .inr (4, oX4 rG sG)), ((rF 1), .inr (1, oX1 rE)), ((rF 2), .inr (2, oX2 rW)), ((rC 1), .inl (cy 0, 3400, .inl C_past)), ((rF 3), .inl (cy 0, 29, .inl F_all)), ((rF 4), .inl (cy 0, 4, .inl F_reasons)), ((rG 11), .inl (cy 2, 5, .inl G_isFalse)), ((rG 12), .inl (cy 0, 4, .inl G_kind)), ((rE 0), .inl (cy 1, 100, .inl E_heardAt)), ((rE 1), .inl (cy 1, 3200, .inl E_nearest)), ((rE 3), .inl (cy 0, 4, .inl E_ofVoice)), ((rE 4), .inl (cy 0, 5, .inl E_alike)), ((rW 0), .inl (cy 0, 400, .inl W_next)), ((rW 1), .inl (cy 0, 500, .inl W_way)), ((rW 2), .inl (cy 0, 5, .inl W_goal))] sz)) (va_Qv (fun (u : AR × AR × AR × AR) => post (u.1) (u.2.1) (u.2.2.1) (u.2.2.2)) (fun u => BkX D cy [(h0, .inr (0, oX0 rC sC)), ((rC 0), .inr (3, oX3 rF)), ((rF 0), .inr (4, oX4 rG sG)), ((rF 1), .inr (1, oX1 rE)), ((rF 2), .inr (2, oX2 rW)), ((rC 1), .inl (cy 0, 3400, .inl C_past)), ((rF 3), .inl (cy 0, 29, .inl F_all)), ((rF 4), .inl (cy 0, 4, .inl F_reasons)), ((rG 11), .inl (cy 2, 5, .inl G_isFalse)), ((rG 12), .inl (cy 0, 4, .inl G_kind)), ((rE 0), .inl (cy 1, 100, .inl E_heardAt)), ((rE 1), .inl (cy 1, 3200, .inl E_nearest)), ((rE 3), .inl (cy 0, 4, .inl E_ofVoice)), ((rE 4), .inl (cy 0, 5, .inl E_alike)), ((rW 0), .inl (cy 0, 400, .inl W_next)), ((rW 1), .inl (cy 0, 500, .inl W_way)), ((rW 2), .inl (cy 0, 5, .inl W_goal))] sz [(h0, .inr (0, oX0 rC (u.1))), ((rC 0), .inr (3, oX3 rF)), ((rF 0), .inr (4, oX4 rG sG)), ((rF 1), .inr (1, oX1 rE)), ((rF 2), .inr (2, oX2 rW)), ((rC 1), .inl (cy 0, 3400, .inl (u.2.1))), ((rF 3), .inl (cy 0, 29, .inl (u.2.2.1))), ((rF 4), .inl (cy 0, 4, .inl (u.2.2.2))), ((rG 11), .inl (cy 2, 5, .inl G_isFalse)), ((rG 12), .inl (cy 0, 4, .inl G_kind)), ((rE 0), .inl (cy 1, 100, .inl E_heardAt)), ((rE 1), .inl (cy 1, 3200, .inl E_nearest)), ((rE 3), .inl (cy 0, 4, .inl E_ofVoice)), ((rE 4), .inl (cy 0, 5, .inl E_alike)), ((rW 0), .inl (cy 0, 400, .inl W_next)), ((rW 1), .inl (cy 0, 500, .inl W_way)), ((rW 2), .inl (cy 0, 5, .inl W_goal))]) (va_A [(h0, .inr (0, oX0 rC sC)), ((rC 0), .inr (3, oX3 rF)), ((rF 0), .inr (4, oX4 rG sG)), ((rF 1), .inr (1, oX1 rE)), ((rF 2), .inr (2, oX2 rW)), ((rC 1), .inl (cy 0, 3400, .inl C_past)), ((rF 3), .inl (cy 0, 29, .inl F_all)), ((rF 4), .inl (cy 0, 4, .inl F_reasons)), ((rG 11), .inl (cy 2, 5, .inl G_isFalse)), ((rG 12), .inl (cy 0, 4, .inl G_kind)), ((rE 0), .inl (cy 1, 100, .inl E_heardAt)), ((rE 1), .inl (cy 1, 3200, .inl E_nearest)), ((rE 3), .inl (cy 0, 4, .inl E_ofVoice)), ((rE 4), .inl (cy 0, 5, .inl E_alike)), ((rW 0), .inl (cy 0, 400, .inl W_next)), ((rW 1), .inl (cy 0, 500, .inl W_way)), ((rW 2), .inl (cy 0, 5, .inl W_goal))] sz)) 0 0 (va_A [(h0, .inr (0, oX0 rC sC)), ((rC 0), .inr (3, oX3 rF)), ((rF 0), .inr (4, oX4 rG sG)), ((rF 1), .inr (1, oX1 rE)), ((rF 2), .inr (2, oX2 rW)), ((rC 1), .inl (cy 0, 3400, .inl C_past)), ((rF 3), .inl (cy 0, 29, .inl F_all)), ((rF 4), .inl (cy 0, 4, .inl F_reasons)), ((rG 11), .inl (cy 2, 5, .inl G_isFalse)), ((rG 12), .inl (cy 0, 4, .inl G_kind)), ((rE 0), .inl (cy 1, 100, .inl E_heardAt)), ((rE 1), .inl (cy 1, 3200, .inl E_nearest)), ((rE 3), .inl (cy 0, 4, .inl E_ofVoice)), ((rE 4), .inl (cy 0, 5, .inl E_alike)), ((rW 0), .inl (cy 0, 400, .inl W_next)), ((rW 1), .inl (cy 0, 500, .inl W_way)), ((rW 2), .inl (cy 0, 5, .inl W_goal))] sz) := by
  refine ofWv (by decide) (Nat.le_of_ble_eq_true rfl) ?_
  intro p e s m args below meth c ls A R QQ hx hb hml hown hts hR hlk hE hK hP hD hS hA hl hret
  have hown : s.vm.findClass RX0 = some m.cls := hown
  have hRf : 4 ≤ R.frames := by rw [hR]; exact Nat.le_refl _
  have hRl : 100 ≤ R.locals := by rw [hR]; exact Nat.le_refl _
  clear hR
  have hl : lv_has ls 3 [(0, .ref h0), (1, .int x1)] := hl
  refine lv_aload_n hx hb dX0_strikeNext_0 rfl (lv_at hl 0 rfl) ?_
  refine lv_aload_n hx hb dX0_strikeNext_1 rfl (lv_at hl 0 rfl) ?_
  refine gfX0_31 (v := (sC 3)) hx hb hts hown hK hP 0 rfl rfl dX0_strikeNext_2 ?_
  refine clVi (As := [.int (sC 3)]) (rest := []) (Wr := [((rC 0), .inr (3, oX3 rF)), ((rF 0), .inr (4, oX4 rG sG)), ((rF 1), .inr (1, oX1 rE)), ((rF 2), .inr (2, oX2 rW)), ((rC 1), .inl (cy 0, 3400, .inl C_past)), ((rF 3), .inl (cy 0, 29, .inl F_all)), ((rF 4), .inl (cy 0, 4, .inl F_reasons)), ((rG 11), .inl (cy 2, 5, .inl G_isFalse)), ((rG 12), .inl (cy 0, 4, .inl G_kind)), ((rE 0), .inl (cy 1, 100, .inl E_heardAt)), ((rE 1), .inl (cy 1, 3200, .inl E_nearest)), ((rE 3), .inl (cy 0, 4, .inl E_ofVoice)), ((rE 4), .inl (cy 0, 5, .inl E_alike)), ((rW 0), .inl (cy 0, 400, .inl W_next)), ((rW 1), .inl (cy 0, 500, .inl W_way)), ((rW 2), .inl (cy 0, 5, .inl W_goal))]) (cq := (RX0, TX0, 7)) ⟨hx, hb, hml, hown, hts⟩ ⟨callB_of 1 hts (goodC mw550) rfl rfl rfl (hts _ (tb mw8)) (hts _ (tb mw547)) kdX0_entry ⟨Nat.le_trans (by decide) hRf, Nat.le_trans (by decide) hRl⟩, hts _ (tb mw549), hts _ (tb ms6)⟩ (ctX0_entry l D cy ev h0 rC sC (sC 3) _ _ h) hE hK hP hD hS hA [0] [1, 2, 3, 4, 5, 6, 7, 8, 9, 10, 11, 12, 13, 14, 15, 16] rfl rfl (by decide) (by decide) (by decide) 0 rfl rfl rfl hl.1 rfl (Nat.le_of_ble_eq_true rfl) ⟨Nat.zero_le _, Nat.zero_le _⟩ dX0_strikeNext_5 (fun r5 u H locs h hP hD hS => ?_)
  have hP : va_P D clsX [((rC 0), .inr (3, oX3 rF)), ((rF 0), .inr (4, oX4 rG sG)), ((rF 1), .inr (1, oX1 rE)), ((rF 2), .inr (2, oX2 rW)), ((rC 1), .inl (cy 0, 3400, .inl C_past)), ((rF 3), .inl (cy 0, 29, .inl F_all)), ((rF 4), .inl (cy 0, 4, .inl F_reasons)), ((rG 11), .inl (cy 2, 5, .inl G_isFalse)), ((rG 12), .inl (cy 0, 4, .inl G_kind)), ((rE 0), .inl (cy 1, 100, .inl E_heardAt)), ((rE 1), .inl (cy 1, 3200, .inl E_nearest)), ((rE 3), .inl (cy 0, 4, .inl E_ofVoice)), ((rE 4), .inl (cy 0, 5, .inl E_alike)), ((rW 0), .inl (cy 0, 400, .inl W_next)), ((rW 1), .inl (cy 0, 500, .inl W_way)), ((rW 2), .inl (cy 0, 5, .inl W_goal)), (h0, .inr (0, oX0 rC sC))] H := hP
  have hD : va_D A [((rC 0), .inr (3, oX3 rF)), ((rF 0), .inr (4, oX4 rG sG)), ((rF 1), .inr (1, oX1 rE)), ((rF 2), .inr (2, oX2 rW)), ((rC 1), .inl (cy 0, 3400, .inl C_past)), ((rF 3), .inl (cy 0, 29, .inl F_all)), ((rF 4), .inl (cy 0, 4, .inl F_reasons)), ((rG 11), .inl (cy 2, 5, .inl G_isFalse)), ((rG 12), .inl (cy 0, 4, .inl G_kind)), ((rE 0), .inl (cy 1, 100, .inl E_heardAt)), ((rE 1), .inl (cy 1, 3200, .inl E_nearest)), ((rE 3), .inl (cy 0, 4, .inl E_ofVoice)), ((rE 4), .inl (cy 0, 5, .inl E_alike)), ((rW 0), .inl (cy 0, 400, .inl W_next)), ((rW 1), .inl (cy 0, 500, .inl W_way)), ((rW 2), .inl (cy 0, 5, .inl W_goal)), (h0, .inr (0, oX0 rC sC))] := hD
  refine lv_istore_n (lv' := [(2, .int r5), (0, .ref h0), (1, .int x1)]) hx hb dX0_strikeNext_8 rfl hl (by decide) rfl (fun ls hl => ?_)
  refine lv_aload_n hx hb dX0_strikeNext_9 rfl (lv_at hl 1 rfl) ?_
  refine gfX0_20 hx hb hts hown hK hP 16 rfl dX0_strikeNext_10 ?_
  refine gfX0_64 hx hb hts hown hK hP 0 rfl dX0_strikeNext_13 ?_
  refine lv_iconst (v := (0 : Int32)) hx hb dX0_strikeNext_16 (by decide) ?_
  refine lv_aload_n hx hb dX0_strikeNext_17 rfl (lv_at hl 1 rfl) ?_
  refine gfX0_13 hx hb hts hown hK hP 16 rfl dX0_strikeNext_18 ?_
  refine lv_iload_n hx hb dX0_strikeNext_21 rfl (lv_at hl 0 rfl) ?_
  refine lv_bipush (v := (29 : Int32)) hx hb dX0_strikeNext_22 (by decide) ?_
  obtain ⟨hq1, h⟩ := h
  obtain ⟨hq4, h⟩ := h
  refine cpi (k0 := 0) (k1 := r5.toNatClampNeg) (kn := 29) hx hb (hml.trans hl.1.symm) hts hown mw551 hK hP hD hS 5 4 rfl rfl (by decide) hq1 (by decide) (by decide) rfl (by decide) (by decide) hq4 (Nat.le_trans (by decide) hRf) (Nat.le_trans (Nat.le_of_ble_eq_true rfl) hRl) dX0_strikeNext_24 (fun C_past_24 eC_past_24 H locs hP hD hS => ?_)
  have h := h C_past_24 eC_past_24
  have hP : va_P D clsX [((rC 0), .inr (3, oX3 rF)), ((rF 0), .inr (4, oX4 rG sG)), ((rF 1), .inr (1, oX1 rE)), ((rF 2), .inr (2, oX2 rW)), ((rC 1), .inl (cy 0, 3400, .inl C_past_24)), ((rF 3), .inl (cy 0, 29, .inl F_all)), ((rF 4), .inl (cy 0, 4, .inl F_reasons)), ((rG 11), .inl (cy 2, 5, .inl G_isFalse)), ((rG 12), .inl (cy 0, 4, .inl G_kind)), ((rE 0), .inl (cy 1, 100, .inl E_heardAt)), ((rE 1), .inl (cy 1, 3200, .inl E_nearest)), ((rE 3), .inl (cy 0, 4, .inl E_ofVoice)), ((rE 4), .inl (cy 0, 5, .inl E_alike)), ((rW 0), .inl (cy 0, 400, .inl W_next)), ((rW 1), .inl (cy 0, 500, .inl W_way)), ((rW 2), .inl (cy 0, 5, .inl W_goal)), (h0, .inr (0, oX0 rC sC))] H := hP
  have hD : va_D A [((rC 0), .inr (3, oX3 rF)), ((rF 0), .inr (4, oX4 rG sG)), ((rF 1), .inr (1, oX1 rE)), ((rF 2), .inr (2, oX2 rW)), ((rC 1), .inl (cy 0, 3400, .inl C_past_24)), ((rF 3), .inl (cy 0, 29, .inl F_all)), ((rF 4), .inl (cy 0, 4, .inl F_reasons)), ((rG 11), .inl (cy 2, 5, .inl G_isFalse)), ((rG 12), .inl (cy 0, 4, .inl G_kind)), ((rE 0), .inl (cy 1, 100, .inl E_heardAt)), ((rE 1), .inl (cy 1, 3200, .inl E_nearest)), ((rE 3), .inl (cy 0, 4, .inl E_ofVoice)), ((rE 4), .inl (cy 0, 5, .inl E_alike)), ((rW 0), .inl (cy 0, 400, .inl W_next)), ((rW 1), .inl (cy 0, 500, .inl W_way)), ((rW 2), .inl (cy 0, 5, .inl W_goal)), (h0, .inr (0, oX0 rC sC))] := hD
  refine lv_aload_n hx hb dX0_strikeNext_27 rfl (lv_at hl 1 rfl) ?_
  refine gfX0_20 hx hb hts hown hK hP 16 rfl dX0_strikeNext_28 ?_
  refine lv_iload_n hx hb dX0_strikeNext_31 rfl (lv_at hl 2 rfl) ?_
  refine clVv (As := [.int x1]) (rest := []) (Wr := [((rC 1), .inl (cy 0, 3400, .inl C_past_24)), (h0, .inr (0, oX0 rC sC))]) (cq := (RX3, TX3, 5)) ⟨hx, hb, hml, hown, hts⟩ ⟨callB_of 1 hts (goodC mw555) rfl rfl rfl (hts _ (tb mw9)) (hts _ (tb mw552)) kdX3_hear ⟨Nat.le_trans (by decide) hRf, Nat.le_trans (by decide) hRl⟩, hts _ (tb mw553), hts _ (tb mw554)⟩ (ctX3_hear l D cy ev (rC 0) rF rG rE rW sG F_all F_reasons G_isFalse G_kind E_heardAt E_nearest E_ofVoice E_alike W_next W_way W_goal x1 _ _ h) hE hK hP hD hS hA [0, 1, 2, 3, 5, 6, 7, 8, 9, 10, 11, 12, 13, 14, 15] [4, 16] rfl rfl (by decide) (by decide) (by decide) 0 rfl rfl rfl hl.1 rfl (Nat.le_of_ble_eq_true rfl) ⟨Nat.zero_le _, Nat.zero_le _⟩ dX0_strikeNext_32 (fun u H locs h hP hD hS => ?_)
  obtain ⟨F_all_32, F_reasons_32⟩ := u
  have hP : va_P D clsX [((rC 1), .inl (cy 0, 3400, .inl C_past_24)), (h0, .inr (0, oX0 rC sC)), ((rC 0), .inr (3, oX3 rF)), ((rF 0), .inr (4, oX4 rG sG)), ((rF 1), .inr (1, oX1 rE)), ((rF 2), .inr (2, oX2 rW)), ((rF 3), .inl (cy 0, 29, .inl F_all_32)), ((rF 4), .inl (cy 0, 4, .inl F_reasons_32)), ((rG 11), .inl (cy 2, 5, .inl G_isFalse)), ((rG 12), .inl (cy 0, 4, .inl G_kind)), ((rE 0), .inl (cy 1, 100, .inl E_heardAt)), ((rE 1), .inl (cy 1, 3200, .inl E_nearest)), ((rE 3), .inl (cy 0, 4, .inl E_ofVoice)), ((rE 4), .inl (cy 0, 5, .inl E_alike)), ((rW 0), .inl (cy 0, 400, .inl W_next)), ((rW 1), .inl (cy 0, 500, .inl W_way)), ((rW 2), .inl (cy 0, 5, .inl W_goal))] H := hP
  have hD : va_D A [((rC 1), .inl (cy 0, 3400, .inl C_past_24)), (h0, .inr (0, oX0 rC sC)), ((rC 0), .inr (3, oX3 rF)), ((rF 0), .inr (4, oX4 rG sG)), ((rF 1), .inr (1, oX1 rE)), ((rF 2), .inr (2, oX2 rW)), ((rF 3), .inl (cy 0, 29, .inl F_all_32)), ((rF 4), .inl (cy 0, 4, .inl F_reasons_32)), ((rG 11), .inl (cy 2, 5, .inl G_isFalse)), ((rG 12), .inl (cy 0, 4, .inl G_kind)), ((rE 0), .inl (cy 1, 100, .inl E_heardAt)), ((rE 1), .inl (cy 1, 3200, .inl E_nearest)), ((rE 3), .inl (cy 0, 4, .inl E_ofVoice)), ((rE 4), .inl (cy 0, 5, .inl E_alike)), ((rW 0), .inl (cy 0, 400, .inl W_next)), ((rW 1), .inl (cy 0, 500, .inl W_way)), ((rW 2), .inl (cy 0, 5, .inl W_goal))] := hD
  refine lv_aload_n hx hb dX0_strikeNext_35 rfl (lv_at hl 1 rfl) ?_
  refine gfX0_13 hx hb hts hown hK hP 1 rfl dX0_strikeNext_36 ?_
  refine lv_iload_n hx hb dX0_strikeNext_39 rfl (lv_at hl 0 rfl) ?_
  refine lv_bipush (v := (29 : Int32)) hx hb dX0_strikeNext_40 (by decide) ?_
  refine lv_iadd hx hb dX0_strikeNext_42 ?_
  refine lv_iload_n hx hb dX0_strikeNext_43 rfl (lv_at hl 2 rfl) ?_
  obtain ⟨hin, h⟩ := h
  refine sti (k := (r5 + (29 : Int32)).toNatClampNeg) (y := x1) hx hb hK hP hD hS 0 rfl hin rfl rfl dX0_strikeNext_44 (fun C_past_44 eC_past_44 H locs hP hD hS => ?_)
  have h := h C_past_44 eC_past_44
  have hP : va_P D clsX [((rC 1), .inl (cy 0, 3400, .inl C_past_44)), (h0, .inr (0, oX0 rC sC)), ((rC 0), .inr (3, oX3 rF)), ((rF 0), .inr (4, oX4 rG sG)), ((rF 1), .inr (1, oX1 rE)), ((rF 2), .inr (2, oX2 rW)), ((rF 3), .inl (cy 0, 29, .inl F_all_32)), ((rF 4), .inl (cy 0, 4, .inl F_reasons_32)), ((rG 11), .inl (cy 2, 5, .inl G_isFalse)), ((rG 12), .inl (cy 0, 4, .inl G_kind)), ((rE 0), .inl (cy 1, 100, .inl E_heardAt)), ((rE 1), .inl (cy 1, 3200, .inl E_nearest)), ((rE 3), .inl (cy 0, 4, .inl E_ofVoice)), ((rE 4), .inl (cy 0, 5, .inl E_alike)), ((rW 0), .inl (cy 0, 400, .inl W_next)), ((rW 1), .inl (cy 0, 500, .inl W_way)), ((rW 2), .inl (cy 0, 5, .inl W_goal))] H := hP
  have hD : va_D A [((rC 1), .inl (cy 0, 3400, .inl C_past_44)), (h0, .inr (0, oX0 rC sC)), ((rC 0), .inr (3, oX3 rF)), ((rF 0), .inr (4, oX4 rG sG)), ((rF 1), .inr (1, oX1 rE)), ((rF 2), .inr (2, oX2 rW)), ((rF 3), .inl (cy 0, 29, .inl F_all_32)), ((rF 4), .inl (cy 0, 4, .inl F_reasons_32)), ((rG 11), .inl (cy 2, 5, .inl G_isFalse)), ((rG 12), .inl (cy 0, 4, .inl G_kind)), ((rE 0), .inl (cy 1, 100, .inl E_heardAt)), ((rE 1), .inl (cy 1, 3200, .inl E_nearest)), ((rE 3), .inl (cy 0, 4, .inl E_ofVoice)), ((rE 4), .inl (cy 0, 5, .inl E_alike)), ((rW 0), .inl (cy 0, 400, .inl W_next)), ((rW 1), .inl (cy 0, 500, .inl W_way)), ((rW 2), .inl (cy 0, 5, .inl W_goal))] := hD
  refine lv_aload_n hx hb dX0_strikeNext_45 rfl (lv_at hl 1 rfl) ?_
  refine gfX0_20 hx hb hts hown hK hP 1 rfl dX0_strikeNext_46 ?_
  refine gfX0_70 hx hb hts hown hK hP 2 rfl dX0_strikeNext_49 ?_
  refine lv_iconst (v := (0 : Int32)) hx hb dX0_strikeNext_52 (by decide) ?_
  refine lv_aload_n hx hb dX0_strikeNext_53 rfl (lv_at hl 1 rfl) ?_
  refine gfX0_13 hx hb hts hown hK hP 1 rfl dX0_strikeNext_54 ?_
  refine lv_iload_n hx hb dX0_strikeNext_57 rfl (lv_at hl 0 rfl) ?_
  refine lv_bipush (v := (30 : Int32)) hx hb dX0_strikeNext_58 (by decide) ?_
  refine lv_iadd hx hb dX0_strikeNext_60 ?_
  refine lv_iconst (v := (4 : Int32)) hx hb dX0_strikeNext_61 (by decide) ?_
  obtain ⟨hq1, h⟩ := h
  obtain ⟨hq4, h⟩ := h
  refine cpi (k0 := 0) (k1 := (r5 + (30 : Int32)).toNatClampNeg) (kn := 4) hx hb (hml.trans hl.1.symm) hts hown mw551 hK hP hD hS 7 0 rfl rfl (by decide) hq1 (by decide) (by decide) rfl (by decide) (by decide) hq4 (Nat.le_trans (by decide) hRf) (Nat.le_trans (Nat.le_of_ble_eq_true rfl) hRl) dX0_strikeNext_62 (fun C_past_62 eC_past_62 H locs hP hD hS => ?_)
  have h := h C_past_62 eC_past_62
  have hP : va_P D clsX [((rC 1), .inl (cy 0, 3400, .inl C_past_62)), (h0, .inr (0, oX0 rC sC)), ((rC 0), .inr (3, oX3 rF)), ((rF 0), .inr (4, oX4 rG sG)), ((rF 1), .inr (1, oX1 rE)), ((rF 2), .inr (2, oX2 rW)), ((rF 3), .inl (cy 0, 29, .inl F_all_32)), ((rF 4), .inl (cy 0, 4, .inl F_reasons_32)), ((rG 11), .inl (cy 2, 5, .inl G_isFalse)), ((rG 12), .inl (cy 0, 4, .inl G_kind)), ((rE 0), .inl (cy 1, 100, .inl E_heardAt)), ((rE 1), .inl (cy 1, 3200, .inl E_nearest)), ((rE 3), .inl (cy 0, 4, .inl E_ofVoice)), ((rE 4), .inl (cy 0, 5, .inl E_alike)), ((rW 0), .inl (cy 0, 400, .inl W_next)), ((rW 1), .inl (cy 0, 500, .inl W_way)), ((rW 2), .inl (cy 0, 5, .inl W_goal))] H := hP
  have hD : va_D A [((rC 1), .inl (cy 0, 3400, .inl C_past_62)), (h0, .inr (0, oX0 rC sC)), ((rC 0), .inr (3, oX3 rF)), ((rF 0), .inr (4, oX4 rG sG)), ((rF 1), .inr (1, oX1 rE)), ((rF 2), .inr (2, oX2 rW)), ((rF 3), .inl (cy 0, 29, .inl F_all_32)), ((rF 4), .inl (cy 0, 4, .inl F_reasons_32)), ((rG 11), .inl (cy 2, 5, .inl G_isFalse)), ((rG 12), .inl (cy 0, 4, .inl G_kind)), ((rE 0), .inl (cy 1, 100, .inl E_heardAt)), ((rE 1), .inl (cy 1, 3200, .inl E_nearest)), ((rE 3), .inl (cy 0, 4, .inl E_ofVoice)), ((rE 4), .inl (cy 0, 5, .inl E_alike)), ((rW 0), .inl (cy 0, 400, .inl W_next)), ((rW 1), .inl (cy 0, 500, .inl W_way)), ((rW 2), .inl (cy 0, 5, .inl W_goal))] := hD
  refine lv_aload_n hx hb dX0_strikeNext_65 rfl (lv_at hl 1 rfl) ?_
  refine lv_dup hx hb dX0_strikeNext_66 rfl ?_
  refine gfX0_31 (v := (sC 3)) hx hb hts hown hK hP 1 rfl rfl dX0_strikeNext_67 ?_
  refine lv_iconst (v := (1 : Int32)) hx hb dX0_strikeNext_70 (by decide) ?_
  refine lv_iadd hx hb dX0_strikeNext_71 ?_
  refine lv_topi (fun f3_72 ef3_72 => ?_)
  have h := h f3_72 ef3_72
  refine pfX0_31 hx hb hts hown hK hP hD hS 1 rfl dX0_strikeNext_72 (fun H locs hP hD hS => ?_)
  have hP : va_P D clsX [((rC 1), .inl (cy 0, 3400, .inl C_past_62)), (h0, .inr (0, oX0 rC (upd sC 3 f3_72))), ((rC 0), .inr (3, oX3 rF)), ((rF 0), .inr (4, oX4 rG sG)), ((rF 1), .inr (1, oX1 rE)), ((rF 2), .inr (2, oX2 rW)), ((rF 3), .inl (cy 0, 29, .inl F_all_32)), ((rF 4), .inl (cy 0, 4, .inl F_reasons_32)), ((rG 11), .inl (cy 2, 5, .inl G_isFalse)), ((rG 12), .inl (cy 0, 4, .inl G_kind)), ((rE 0), .inl (cy 1, 100, .inl E_heardAt)), ((rE 1), .inl (cy 1, 3200, .inl E_nearest)), ((rE 3), .inl (cy 0, 4, .inl E_ofVoice)), ((rE 4), .inl (cy 0, 5, .inl E_alike)), ((rW 0), .inl (cy 0, 400, .inl W_next)), ((rW 1), .inl (cy 0, 500, .inl W_way)), ((rW 2), .inl (cy 0, 5, .inl W_goal))] H := hP
  have hD : va_D A [((rC 1), .inl (cy 0, 3400, .inl C_past_62)), (h0, .inr (0, oX0 rC (upd sC 3 f3_72))), ((rC 0), .inr (3, oX3 rF)), ((rF 0), .inr (4, oX4 rG sG)), ((rF 1), .inr (1, oX1 rE)), ((rF 2), .inr (2, oX2 rW)), ((rF 3), .inl (cy 0, 29, .inl F_all_32)), ((rF 4), .inl (cy 0, 4, .inl F_reasons_32)), ((rG 11), .inl (cy 2, 5, .inl G_isFalse)), ((rG 12), .inl (cy 0, 4, .inl G_kind)), ((rE 0), .inl (cy 1, 100, .inl E_heardAt)), ((rE 1), .inl (cy 1, 3200, .inl E_nearest)), ((rE 3), .inl (cy 0, 4, .inl E_ofVoice)), ((rE 4), .inl (cy 0, 5, .inl E_alike)), ((rW 0), .inl (cy 0, 400, .inl W_next)), ((rW 1), .inl (cy 0, 500, .inl W_way)), ((rW 2), .inl (cy 0, 5, .inl W_goal))] := hD
  exact hret ((upd sC 3 f3_72), C_past_62, F_all_32, F_reasons_32) _ _ _ _ dX0_strikeNext_75 h (hP.sub [1, 2, 3, 4, 5, 0, 6, 7, 8, 9, 10, 11, 12, 13, 14, 15, 16] rfl) (hD.sub [1, 2, 3, 4, 5, 0, 6, 7, 8, 9, 10, 11, 12, 13, 14, 15, 16] (by decide) rfl) hS
def wpX0_strikeNew_J37 (sC : AR) (sG : AR) (C_past : AR) (F_all : AR) (F_reasons : AR) (G_isFalse : AR) (G_kind : AR) (E_heardAt : AR) (E_nearest : AR) (E_ofVoice : AR) (E_alike : AR) (W_next : AR) (W_way : AR) (W_goal : AR) (l1 : Int32) (post : Int32 → AR → AR → AR → AR → Prop) : Prop := wpX3_howMany sG F_all (1 : Int32) (fun r42 => wpX0_strikeNext sC sG C_past F_all F_reasons G_isFalse G_kind E_heardAt E_nearest E_ofVoice E_alike W_next W_way W_goal l1 (fun sC_48 C_past_48 F_all_48 F_reasons_48 => wpX3_howMany sG F_all_48 (1 : Int32) (fun r56 => post (r56 - r42) sC_48 C_past_48 F_all_48 F_reasons_48)))
def wpX0_strikeNew (sC : AR) (sG : AR) (C_past : AR) (F_all : AR) (F_reasons : AR) (G_isFalse : AR) (G_kind : AR) (E_heardAt : AR) (E_nearest : AR) (E_ofVoice : AR) (E_alike : AR) (W_next : AR) (W_way : AR) (W_goal : AR) (x1 : Int32) (post : Int32 → AR → AR → AR → AR → Prop) : Prop := ((¬ (sC 3) = (100 : Int32) → wpX0_strikeNew_J37 (upd sC 4 (0 : Int32)) sG C_past F_all F_reasons G_isFalse G_kind E_heardAt E_nearest E_ofVoice E_alike W_next W_way W_goal x1 post) ∧ ((sC 3) = (100 : Int32) → ∀ f2_24 : Int32, f2_24 = (jrem ((sC 2) + (1 : Int32)) (100 : Int32)) → ∀ f3_34 : Int32, f3_34 = ((sC 3) - (1 : Int32)) → wpX0_strikeNew_J37 (upd (upd (upd sC 4 (0 : Int32)) 2 f2_24) 3 f3_34) sG C_past F_all F_reasons G_isFalse G_kind E_heardAt E_nearest E_ofVoice E_alike W_next W_way W_goal x1 post))
set_option maxHeartbeats 4000000 in
set_option maxRecDepth 100000 in
theorem ctX0_strikeNew (l : Launch) (D : va_G) (cy : Nat → ClassId) (ev : Nat → Nat) (h0 : Nat) (rC : Nat → Nat) (rF : Nat → Nat) (rG : Nat → Nat) (rE : Nat → Nat) (rW : Nat → Nat) (sC : AR) (sG : AR) (C_past : AR) (F_all : AR) (F_reasons : AR) (G_isFalse : AR) (G_kind : AR) (E_heardAt : AR) (E_nearest : AR) (E_ofVoice : AR) (E_alike : AR) (W_next : AR) (W_way : AR) (W_goal : AR) (x1 : Int32) (sz : Nat) (post : Int32 → AR → AR → AR → AR → Prop) (h : wpX0_strikeNew sC sG C_past F_all F_reasons G_isFalse G_kind E_heardAt E_nearest E_ofVoice E_alike W_next W_way W_goal x1 post) : Met l yX0_strikeNew (Cond.code yX0_strikeNew cX0_strikeNew 3 (some .int) :: TB) ({ frames := 5, cells := 0, slots := 0, locals := 122 }) (va_Pc [.ref h0, .int x1] (PreX D cy ev [(h0, .inr (0, oX0 rC sC)), ((rC 0), .inr (3, oX3 rF)), ((rF 0), .inr (4, oX4 rG sG)), ((rF 1), .inr (1, oX1 rE)), ((rF 2), .inr (2, oX2 rW)), ((rC 1), .inl (cy 0, 3400, .inl C_past)), ((rF 3), .inl (cy 0, 29, .inl F_all)), ((rF 4), .inl (cy 0, 4, .inl F_reasons)), ((rG 11), .inl (cy 2, 5, .inl G_isFalse)), ((rG 12), .inl (cy 0, 4, .inl G_kind)), ((rE 0), .inl (cy 1, 100, .inl E_heardAt)), ((rE 1), .inl (cy 1, 3200, .inl E_nearest)), ((rE 3), .inl (cy 0, 4, .inl E_ofVoice)), ((rE 4), .inl (cy 0, 5, .inl E_alike)), ((rW 0), .inl (cy 0, 400, .inl W_next)), ((rW 1), .inl (cy 0, 500, .inl W_way)), ((rW 2), .inl (cy 0, 5, .inl W_goal))] sz)) (va_Qi (fun (r : Int32) (u : AR × AR × AR × AR) => post r (u.1) (u.2.1) (u.2.2.1) (u.2.2.2)) (fun u => BkX D cy [(h0, .inr (0, oX0 rC sC)), ((rC 0), .inr (3, oX3 rF)), ((rF 0), .inr (4, oX4 rG sG)), ((rF 1), .inr (1, oX1 rE)), ((rF 2), .inr (2, oX2 rW)), ((rC 1), .inl (cy 0, 3400, .inl C_past)), ((rF 3), .inl (cy 0, 29, .inl F_all)), ((rF 4), .inl (cy 0, 4, .inl F_reasons)), ((rG 11), .inl (cy 2, 5, .inl G_isFalse)), ((rG 12), .inl (cy 0, 4, .inl G_kind)), ((rE 0), .inl (cy 1, 100, .inl E_heardAt)), ((rE 1), .inl (cy 1, 3200, .inl E_nearest)), ((rE 3), .inl (cy 0, 4, .inl E_ofVoice)), ((rE 4), .inl (cy 0, 5, .inl E_alike)), ((rW 0), .inl (cy 0, 400, .inl W_next)), ((rW 1), .inl (cy 0, 500, .inl W_way)), ((rW 2), .inl (cy 0, 5, .inl W_goal))] sz [(h0, .inr (0, oX0 rC (u.1))), ((rC 0), .inr (3, oX3 rF)), ((rF 0), .inr (4, oX4 rG sG)), ((rF 1), .inr (1, oX1 rE)), ((rF 2), .inr (2, oX2 rW)), ((rC 1), .inl (cy 0, 3400, .inl (u.2.1))), ((rF 3), .inl (cy 0, 29, .inl (u.2.2.1))), ((rF 4), .inl (cy 0, 4, .inl (u.2.2.2))), ((rG 11), .inl (cy 2, 5, .inl G_isFalse)), ((rG 12), .inl (cy 0, 4, .inl G_kind)), ((rE 0), .inl (cy 1, 100, .inl E_heardAt)), ((rE 1), .inl (cy 1, 3200, .inl E_nearest)), ((rE 3), .inl (cy 0, 4, .inl E_ofVoice)), ((rE 4), .inl (cy 0, 5, .inl E_alike)), ((rW 0), .inl (cy 0, 400, .inl W_next)), ((rW 1), .inl (cy 0, 500, .inl W_way)), ((rW 2), .inl (cy 0, 5, .inl W_goal))]) (va_A [(h0, .inr (0, oX0 rC sC)), ((rC 0), .inr (3, oX3 rF)), ((rF 0), .inr (4, oX4 rG sG)), ((rF 1), .inr (1, oX1 rE)), ((rF 2), .inr (2, oX2 rW)), ((rC 1), .inl (cy 0, 3400, .inl C_past)), ((rF 3), .inl (cy 0, 29, .inl F_all)), ((rF 4), .inl (cy 0, 4, .inl F_reasons)), ((rG 11), .inl (cy 2, 5, .inl G_isFalse)), ((rG 12), .inl (cy 0, 4, .inl G_kind)), ((rE 0), .inl (cy 1, 100, .inl E_heardAt)), ((rE 1), .inl (cy 1, 3200, .inl E_nearest)), ((rE 3), .inl (cy 0, 4, .inl E_ofVoice)), ((rE 4), .inl (cy 0, 5, .inl E_alike)), ((rW 0), .inl (cy 0, 400, .inl W_next)), ((rW 1), .inl (cy 0, 500, .inl W_way)), ((rW 2), .inl (cy 0, 5, .inl W_goal))] sz)) 0 0 (va_A [(h0, .inr (0, oX0 rC sC)), ((rC 0), .inr (3, oX3 rF)), ((rF 0), .inr (4, oX4 rG sG)), ((rF 1), .inr (1, oX1 rE)), ((rF 2), .inr (2, oX2 rW)), ((rC 1), .inl (cy 0, 3400, .inl C_past)), ((rF 3), .inl (cy 0, 29, .inl F_all)), ((rF 4), .inl (cy 0, 4, .inl F_reasons)), ((rG 11), .inl (cy 2, 5, .inl G_isFalse)), ((rG 12), .inl (cy 0, 4, .inl G_kind)), ((rE 0), .inl (cy 1, 100, .inl E_heardAt)), ((rE 1), .inl (cy 1, 3200, .inl E_nearest)), ((rE 3), .inl (cy 0, 4, .inl E_ofVoice)), ((rE 4), .inl (cy 0, 5, .inl E_alike)), ((rW 0), .inl (cy 0, 400, .inl W_next)), ((rW 1), .inl (cy 0, 500, .inl W_way)), ((rW 2), .inl (cy 0, 5, .inl W_goal))] sz) := by
  refine ofWi (by decide) (Nat.le_of_ble_eq_true rfl) ?_
  intro p e s m args below meth c ls A R QQ hx hb hml hown hts hR hlk hE hK hP hD hS hA hl hret
  have hown : s.vm.findClass RX0 = some m.cls := hown
  have hRf : 5 ≤ R.frames := by rw [hR]; exact Nat.le_refl _
  have hRl : 122 ≤ R.locals := by rw [hR]; exact Nat.le_refl _
  clear hR
  have hl : lv_has ls 3 [(0, .ref h0), (1, .int x1)] := hl
  have J37 : ∀ (sC : AR) (l1 : Int32) (H : Heap) (locs : List Loc) (ls : Array Slot), wpX0_strikeNew_J37 sC sG C_past F_all F_reasons G_isFalse G_kind E_heardAt E_nearest E_ofVoice E_alike W_next W_way W_goal l1 post → va_P D clsX [(h0, .inr (0, oX0 rC sC)), ((rC 0), .inr (3, oX3 rF)), ((rF 0), .inr (4, oX4 rG sG)), ((rF 1), .inr (1, oX1 rE)), ((rF 2), .inr (2, oX2 rW)), ((rC 1), .inl (cy 0, 3400, .inl C_past)), ((rF 3), .inl (cy 0, 29, .inl F_all)), ((rF 4), .inl (cy 0, 4, .inl F_reasons)), ((rG 11), .inl (cy 2, 5, .inl G_isFalse)), ((rG 12), .inl (cy 0, 4, .inl G_kind)), ((rE 0), .inl (cy 1, 100, .inl E_heardAt)), ((rE 1), .inl (cy 1, 3200, .inl E_nearest)), ((rE 3), .inl (cy 0, 4, .inl E_ofVoice)), ((rE 4), .inl (cy 0, 5, .inl E_alike)), ((rW 0), .inl (cy 0, 400, .inl W_next)), ((rW 1), .inl (cy 0, 500, .inl W_way)), ((rW 2), .inl (cy 0, 5, .inl W_goal))] H → va_D A [(h0, .inr (0, oX0 rC sC)), ((rC 0), .inr (3, oX3 rF)), ((rF 0), .inr (4, oX4 rG sG)), ((rF 1), .inr (1, oX1 rE)), ((rF 2), .inr (2, oX2 rW)), ((rC 1), .inl (cy 0, 3400, .inl C_past)), ((rF 3), .inl (cy 0, 29, .inl F_all)), ((rF 4), .inl (cy 0, 4, .inl F_reasons)), ((rG 11), .inl (cy 2, 5, .inl G_isFalse)), ((rG 12), .inl (cy 0, 4, .inl G_kind)), ((rE 0), .inl (cy 1, 100, .inl E_heardAt)), ((rE 1), .inl (cy 1, 3200, .inl E_nearest)), ((rE 3), .inl (cy 0, 4, .inl E_ofVoice)), ((rE 4), .inl (cy 0, 5, .inl E_alike)), ((rW 0), .inl (cy 0, 400, .inl W_next)), ((rW 1), .inl (cy 0, 500, .inl W_way)), ((rW 2), .inl (cy 0, 5, .inl W_goal))] → va_S A s.heap H locs → lv_has ls 3 [(0, .ref h0), (1, .int l1)] → W p l e R s m args below meth c H locs 0 0 QQ (F0 m 37 ls []) := by
    intro sC l1 H locs ls h hP hD hS hl
    refine lv_aload_n hx hb dX0_strikeNew_37 rfl (lv_at hl 0 rfl) ?_
    refine gfX0_20 hx hb hts hown hK hP 0 rfl dX0_strikeNew_38 ?_
    refine lv_iconst (v := (1 : Int32)) hx hb dX0_strikeNew_41 (by decide) ?_
    refine clVi (As := [.int (1 : Int32)]) (rest := []) (Wr := [(h0, .inr (0, oX0 rC sC)), ((rF 1), .inr (1, oX1 rE)), ((rF 2), .inr (2, oX2 rW)), ((rC 1), .inl (cy 0, 3400, .inl C_past)), ((rF 4), .inl (cy 0, 4, .inl F_reasons)), ((rG 11), .inl (cy 2, 5, .inl G_isFalse)), ((rG 12), .inl (cy 0, 4, .inl G_kind)), ((rE 0), .inl (cy 1, 100, .inl E_heardAt)), ((rE 1), .inl (cy 1, 3200, .inl E_nearest)), ((rE 3), .inl (cy 0, 4, .inl E_ofVoice)), ((rE 4), .inl (cy 0, 5, .inl E_alike)), ((rW 0), .inl (cy 0, 400, .inl W_next)), ((rW 1), .inl (cy 0, 500, .inl W_way)), ((rW 2), .inl (cy 0, 5, .inl W_goal))]) (cq := (RX3, TX3, 5)) ⟨hx, hb, hml, hown, hts⟩ ⟨callB_of 1 hts (goodC mw542) rfl rfl rfl (hts _ (tb mw9)) (hts _ (tb mw539)) kdX3_howMany ⟨Nat.le_trans (by decide) hRf, Nat.le_trans (by decide) hRl⟩, hts _ (tb mw540), hts _ (tb mw541)⟩ (ctX3_howMany l D cy ev (rC 0) rF rG sG F_all (1 : Int32) _ _ h) hE hK hP hD hS hA [1, 2, 6] [0, 3, 4, 5, 7, 8, 9, 10, 11, 12, 13, 14, 15, 16] rfl rfl (by decide) (by decide) (by decide) 0 rfl rfl rfl hl.1 rfl (Nat.le_of_ble_eq_true rfl) ⟨Nat.zero_le _, Nat.zero_le _⟩ dX0_strikeNew_42 (fun r42 u H locs h hP hD hS => ?_)
    have hP : va_P D clsX [(h0, .inr (0, oX0 rC sC)), ((rF 1), .inr (1, oX1 rE)), ((rF 2), .inr (2, oX2 rW)), ((rC 1), .inl (cy 0, 3400, .inl C_past)), ((rF 4), .inl (cy 0, 4, .inl F_reasons)), ((rG 11), .inl (cy 2, 5, .inl G_isFalse)), ((rG 12), .inl (cy 0, 4, .inl G_kind)), ((rE 0), .inl (cy 1, 100, .inl E_heardAt)), ((rE 1), .inl (cy 1, 3200, .inl E_nearest)), ((rE 3), .inl (cy 0, 4, .inl E_ofVoice)), ((rE 4), .inl (cy 0, 5, .inl E_alike)), ((rW 0), .inl (cy 0, 400, .inl W_next)), ((rW 1), .inl (cy 0, 500, .inl W_way)), ((rW 2), .inl (cy 0, 5, .inl W_goal)), ((rC 0), .inr (3, oX3 rF)), ((rF 0), .inr (4, oX4 rG sG)), ((rF 3), .inl (cy 0, 29, .inl F_all))] H := hP
    have hD : va_D A [(h0, .inr (0, oX0 rC sC)), ((rF 1), .inr (1, oX1 rE)), ((rF 2), .inr (2, oX2 rW)), ((rC 1), .inl (cy 0, 3400, .inl C_past)), ((rF 4), .inl (cy 0, 4, .inl F_reasons)), ((rG 11), .inl (cy 2, 5, .inl G_isFalse)), ((rG 12), .inl (cy 0, 4, .inl G_kind)), ((rE 0), .inl (cy 1, 100, .inl E_heardAt)), ((rE 1), .inl (cy 1, 3200, .inl E_nearest)), ((rE 3), .inl (cy 0, 4, .inl E_ofVoice)), ((rE 4), .inl (cy 0, 5, .inl E_alike)), ((rW 0), .inl (cy 0, 400, .inl W_next)), ((rW 1), .inl (cy 0, 500, .inl W_way)), ((rW 2), .inl (cy 0, 5, .inl W_goal)), ((rC 0), .inr (3, oX3 rF)), ((rF 0), .inr (4, oX4 rG sG)), ((rF 3), .inl (cy 0, 29, .inl F_all))] := hD
    refine lv_istore_n (lv' := [(2, .int r42), (0, .ref h0), (1, .int l1)]) hx hb dX0_strikeNew_45 rfl hl (by decide) rfl (fun ls hl => ?_)
    refine lv_aload_n hx hb dX0_strikeNew_46 rfl (lv_at hl 1 rfl) ?_
    refine lv_iload_n hx hb dX0_strikeNew_47 rfl (lv_at hl 2 rfl) ?_
    refine clVv (As := [.int l1]) (rest := []) (Wr := []) (cq := (RX0, TX0, 7)) ⟨hx, hb, hml, hown, hts⟩ ⟨callB_of 1 hts (goodC mw546) rfl rfl rfl (hts _ (tb mw8)) (hts _ (tb mw543)) kdX0_strikeNext ⟨Nat.le_trans (by decide) hRf, Nat.le_trans (by decide) hRl⟩, hts _ (tb mw545), hts _ (tb ms5)⟩ (ctX0_strikeNext l D cy ev h0 rC rF rG rE rW sC sG C_past F_all F_reasons G_isFalse G_kind E_heardAt E_nearest E_ofVoice E_alike W_next W_way W_goal l1 _ _ h) hE hK hP hD hS hA [0, 14, 15, 1, 2, 3, 16, 4, 5, 6, 7, 8, 9, 10, 11, 12, 13] [] rfl rfl (by decide) (by decide) (by decide) 0 rfl rfl rfl hl.1 rfl (Nat.le_of_ble_eq_true rfl) ⟨Nat.zero_le _, Nat.zero_le _⟩ dX0_strikeNew_48 (fun u H locs h hP hD hS => ?_)
    obtain ⟨sC_48, C_past_48, F_all_48, F_reasons_48⟩ := u
    have hP : va_P D clsX [(h0, .inr (0, oX0 rC sC_48)), ((rC 0), .inr (3, oX3 rF)), ((rF 0), .inr (4, oX4 rG sG)), ((rF 1), .inr (1, oX1 rE)), ((rF 2), .inr (2, oX2 rW)), ((rC 1), .inl (cy 0, 3400, .inl C_past_48)), ((rF 3), .inl (cy 0, 29, .inl F_all_48)), ((rF 4), .inl (cy 0, 4, .inl F_reasons_48)), ((rG 11), .inl (cy 2, 5, .inl G_isFalse)), ((rG 12), .inl (cy 0, 4, .inl G_kind)), ((rE 0), .inl (cy 1, 100, .inl E_heardAt)), ((rE 1), .inl (cy 1, 3200, .inl E_nearest)), ((rE 3), .inl (cy 0, 4, .inl E_ofVoice)), ((rE 4), .inl (cy 0, 5, .inl E_alike)), ((rW 0), .inl (cy 0, 400, .inl W_next)), ((rW 1), .inl (cy 0, 500, .inl W_way)), ((rW 2), .inl (cy 0, 5, .inl W_goal))] H := hP
    have hD : va_D A [(h0, .inr (0, oX0 rC sC_48)), ((rC 0), .inr (3, oX3 rF)), ((rF 0), .inr (4, oX4 rG sG)), ((rF 1), .inr (1, oX1 rE)), ((rF 2), .inr (2, oX2 rW)), ((rC 1), .inl (cy 0, 3400, .inl C_past_48)), ((rF 3), .inl (cy 0, 29, .inl F_all_48)), ((rF 4), .inl (cy 0, 4, .inl F_reasons_48)), ((rG 11), .inl (cy 2, 5, .inl G_isFalse)), ((rG 12), .inl (cy 0, 4, .inl G_kind)), ((rE 0), .inl (cy 1, 100, .inl E_heardAt)), ((rE 1), .inl (cy 1, 3200, .inl E_nearest)), ((rE 3), .inl (cy 0, 4, .inl E_ofVoice)), ((rE 4), .inl (cy 0, 5, .inl E_alike)), ((rW 0), .inl (cy 0, 400, .inl W_next)), ((rW 1), .inl (cy 0, 500, .inl W_way)), ((rW 2), .inl (cy 0, 5, .inl W_goal))] := hD
    refine lv_aload_n hx hb dX0_strikeNew_51 rfl (lv_at hl 1 rfl) ?_
    refine gfX0_20 hx hb hts hown hK hP 0 rfl dX0_strikeNew_52 ?_
    refine lv_iconst (v := (1 : Int32)) hx hb dX0_strikeNew_55 (by decide) ?_
    refine clVi (As := [.int (1 : Int32)]) (rest := []) (Wr := [(h0, .inr (0, oX0 rC sC_48)), ((rF 1), .inr (1, oX1 rE)), ((rF 2), .inr (2, oX2 rW)), ((rC 1), .inl (cy 0, 3400, .inl C_past_48)), ((rF 4), .inl (cy 0, 4, .inl F_reasons_48)), ((rG 11), .inl (cy 2, 5, .inl G_isFalse)), ((rG 12), .inl (cy 0, 4, .inl G_kind)), ((rE 0), .inl (cy 1, 100, .inl E_heardAt)), ((rE 1), .inl (cy 1, 3200, .inl E_nearest)), ((rE 3), .inl (cy 0, 4, .inl E_ofVoice)), ((rE 4), .inl (cy 0, 5, .inl E_alike)), ((rW 0), .inl (cy 0, 400, .inl W_next)), ((rW 1), .inl (cy 0, 500, .inl W_way)), ((rW 2), .inl (cy 0, 5, .inl W_goal))]) (cq := (RX3, TX3, 5)) ⟨hx, hb, hml, hown, hts⟩ ⟨callB_of 1 hts (goodC mw542) rfl rfl rfl (hts _ (tb mw9)) (hts _ (tb mw539)) kdX3_howMany ⟨Nat.le_trans (by decide) hRf, Nat.le_trans (by decide) hRl⟩, hts _ (tb mw540), hts _ (tb mw541)⟩ (ctX3_howMany l D cy ev (rC 0) rF rG sG F_all_48 (1 : Int32) _ _ h) hE hK hP hD hS hA [1, 2, 6] [0, 3, 4, 5, 7, 8, 9, 10, 11, 12, 13, 14, 15, 16] rfl rfl (by decide) (by decide) (by decide) 0 rfl rfl rfl hl.1 rfl (Nat.le_of_ble_eq_true rfl) ⟨Nat.zero_le _, Nat.zero_le _⟩ dX0_strikeNew_56 (fun r56 u H locs h hP hD hS => ?_)
    have hP : va_P D clsX [(h0, .inr (0, oX0 rC sC_48)), ((rF 1), .inr (1, oX1 rE)), ((rF 2), .inr (2, oX2 rW)), ((rC 1), .inl (cy 0, 3400, .inl C_past_48)), ((rF 4), .inl (cy 0, 4, .inl F_reasons_48)), ((rG 11), .inl (cy 2, 5, .inl G_isFalse)), ((rG 12), .inl (cy 0, 4, .inl G_kind)), ((rE 0), .inl (cy 1, 100, .inl E_heardAt)), ((rE 1), .inl (cy 1, 3200, .inl E_nearest)), ((rE 3), .inl (cy 0, 4, .inl E_ofVoice)), ((rE 4), .inl (cy 0, 5, .inl E_alike)), ((rW 0), .inl (cy 0, 400, .inl W_next)), ((rW 1), .inl (cy 0, 500, .inl W_way)), ((rW 2), .inl (cy 0, 5, .inl W_goal)), ((rC 0), .inr (3, oX3 rF)), ((rF 0), .inr (4, oX4 rG sG)), ((rF 3), .inl (cy 0, 29, .inl F_all_48))] H := hP
    have hD : va_D A [(h0, .inr (0, oX0 rC sC_48)), ((rF 1), .inr (1, oX1 rE)), ((rF 2), .inr (2, oX2 rW)), ((rC 1), .inl (cy 0, 3400, .inl C_past_48)), ((rF 4), .inl (cy 0, 4, .inl F_reasons_48)), ((rG 11), .inl (cy 2, 5, .inl G_isFalse)), ((rG 12), .inl (cy 0, 4, .inl G_kind)), ((rE 0), .inl (cy 1, 100, .inl E_heardAt)), ((rE 1), .inl (cy 1, 3200, .inl E_nearest)), ((rE 3), .inl (cy 0, 4, .inl E_ofVoice)), ((rE 4), .inl (cy 0, 5, .inl E_alike)), ((rW 0), .inl (cy 0, 400, .inl W_next)), ((rW 1), .inl (cy 0, 500, .inl W_way)), ((rW 2), .inl (cy 0, 5, .inl W_goal)), ((rC 0), .inr (3, oX3 rF)), ((rF 0), .inr (4, oX4 rG sG)), ((rF 3), .inl (cy 0, 29, .inl F_all_48))] := hD
    refine lv_iload_n hx hb dX0_strikeNew_59 rfl (lv_at hl 0 rfl) ?_
    refine lv_isub hx hb dX0_strikeNew_60 ?_
    exact hret (r56 - r42) (sC_48, C_past_48, F_all_48, F_reasons_48) _ _ _ _ rfl dX0_strikeNew_61 h (hP.sub [0, 14, 15, 1, 2, 3, 16, 4, 5, 6, 7, 8, 9, 10, 11, 12, 13] rfl) (hD.sub [0, 14, 15, 1, 2, 3, 16, 4, 5, 6, 7, 8, 9, 10, 11, 12, 13] (by decide) rfl) hS
  refine lv_aload_n hx hb dX0_strikeNew_0 rfl (lv_at hl 0 rfl) ?_
  refine lv_iconst (v := (0 : Int32)) hx hb dX0_strikeNew_1 (by decide) ?_
  refine pfX0_34 hx hb hts hown hK hP hD hS 0 rfl dX0_strikeNew_2 (fun H locs hP hD hS => ?_)
  have hP : va_P D clsX [(h0, .inr (0, oX0 rC (upd sC 4 (0 : Int32)))), ((rC 0), .inr (3, oX3 rF)), ((rF 0), .inr (4, oX4 rG sG)), ((rF 1), .inr (1, oX1 rE)), ((rF 2), .inr (2, oX2 rW)), ((rC 1), .inl (cy 0, 3400, .inl C_past)), ((rF 3), .inl (cy 0, 29, .inl F_all)), ((rF 4), .inl (cy 0, 4, .inl F_reasons)), ((rG 11), .inl (cy 2, 5, .inl G_isFalse)), ((rG 12), .inl (cy 0, 4, .inl G_kind)), ((rE 0), .inl (cy 1, 100, .inl E_heardAt)), ((rE 1), .inl (cy 1, 3200, .inl E_nearest)), ((rE 3), .inl (cy 0, 4, .inl E_ofVoice)), ((rE 4), .inl (cy 0, 5, .inl E_alike)), ((rW 0), .inl (cy 0, 400, .inl W_next)), ((rW 1), .inl (cy 0, 500, .inl W_way)), ((rW 2), .inl (cy 0, 5, .inl W_goal))] H := hP
  have hD : va_D A [(h0, .inr (0, oX0 rC (upd sC 4 (0 : Int32)))), ((rC 0), .inr (3, oX3 rF)), ((rF 0), .inr (4, oX4 rG sG)), ((rF 1), .inr (1, oX1 rE)), ((rF 2), .inr (2, oX2 rW)), ((rC 1), .inl (cy 0, 3400, .inl C_past)), ((rF 3), .inl (cy 0, 29, .inl F_all)), ((rF 4), .inl (cy 0, 4, .inl F_reasons)), ((rG 11), .inl (cy 2, 5, .inl G_isFalse)), ((rG 12), .inl (cy 0, 4, .inl G_kind)), ((rE 0), .inl (cy 1, 100, .inl E_heardAt)), ((rE 1), .inl (cy 1, 3200, .inl E_nearest)), ((rE 3), .inl (cy 0, 4, .inl E_ofVoice)), ((rE 4), .inl (cy 0, 5, .inl E_alike)), ((rW 0), .inl (cy 0, 400, .inl W_next)), ((rW 1), .inl (cy 0, 500, .inl W_way)), ((rW 2), .inl (cy 0, 5, .inl W_goal))] := hD
  refine lv_aload_n hx hb dX0_strikeNew_5 rfl (lv_at hl 0 rfl) ?_
  refine gfX0_31 (v := (sC 3)) hx hb hts hown hK hP 0 rfl rfl dX0_strikeNew_6 ?_
  refine lv_bipush (v := (100 : Int32)) hx hb dX0_strikeNew_9 (by decide) ?_
  refine lv_icmp_ne (tgt := 37) hx hb dX0_strikeNew_11 (by decide) (fun c11 => ?_) (fun c11 => ?_)
  · have h := h.1 c11
    exact J37 (upd sC 4 (0 : Int32)) x1 _ _ _ h hP hD hS hl
  · have h := h.2 c11
    refine lv_aload_n hx hb dX0_strikeNew_14 rfl (lv_at hl 0 rfl) ?_
    refine lv_aload_n hx hb dX0_strikeNew_15 rfl (lv_at hl 0 rfl) ?_
    refine gfX0_27 (v := (sC 2)) hx hb hts hown hK hP 0 rfl rfl dX0_strikeNew_16 ?_
    refine lv_iconst (v := (1 : Int32)) hx hb dX0_strikeNew_19 (by decide) ?_
    refine lv_iadd hx hb dX0_strikeNew_20 ?_
    refine lv_bipush (v := (100 : Int32)) hx hb dX0_strikeNew_21 (by decide) ?_
    refine lv_irem hx hb dX0_strikeNew_23 (by decide) ?_
    refine lv_topi (fun f2_24 ef2_24 => ?_)
    have h := h f2_24 ef2_24
    refine pfX0_27 hx hb hts hown hK hP hD hS 0 rfl dX0_strikeNew_24 (fun H locs hP hD hS => ?_)
    have hP : va_P D clsX [(h0, .inr (0, oX0 rC (upd (upd sC 4 (0 : Int32)) 2 f2_24))), ((rC 0), .inr (3, oX3 rF)), ((rF 0), .inr (4, oX4 rG sG)), ((rF 1), .inr (1, oX1 rE)), ((rF 2), .inr (2, oX2 rW)), ((rC 1), .inl (cy 0, 3400, .inl C_past)), ((rF 3), .inl (cy 0, 29, .inl F_all)), ((rF 4), .inl (cy 0, 4, .inl F_reasons)), ((rG 11), .inl (cy 2, 5, .inl G_isFalse)), ((rG 12), .inl (cy 0, 4, .inl G_kind)), ((rE 0), .inl (cy 1, 100, .inl E_heardAt)), ((rE 1), .inl (cy 1, 3200, .inl E_nearest)), ((rE 3), .inl (cy 0, 4, .inl E_ofVoice)), ((rE 4), .inl (cy 0, 5, .inl E_alike)), ((rW 0), .inl (cy 0, 400, .inl W_next)), ((rW 1), .inl (cy 0, 500, .inl W_way)), ((rW 2), .inl (cy 0, 5, .inl W_goal))] H := hP
    have hD : va_D A [(h0, .inr (0, oX0 rC (upd (upd sC 4 (0 : Int32)) 2 f2_24))), ((rC 0), .inr (3, oX3 rF)), ((rF 0), .inr (4, oX4 rG sG)), ((rF 1), .inr (1, oX1 rE)), ((rF 2), .inr (2, oX2 rW)), ((rC 1), .inl (cy 0, 3400, .inl C_past)), ((rF 3), .inl (cy 0, 29, .inl F_all)), ((rF 4), .inl (cy 0, 4, .inl F_reasons)), ((rG 11), .inl (cy 2, 5, .inl G_isFalse)), ((rG 12), .inl (cy 0, 4, .inl G_kind)), ((rE 0), .inl (cy 1, 100, .inl E_heardAt)), ((rE 1), .inl (cy 1, 3200, .inl E_nearest)), ((rE 3), .inl (cy 0, 4, .inl E_ofVoice)), ((rE 4), .inl (cy 0, 5, .inl E_alike)), ((rW 0), .inl (cy 0, 400, .inl W_next)), ((rW 1), .inl (cy 0, 500, .inl W_way)), ((rW 2), .inl (cy 0, 5, .inl W_goal))] := hD
    refine lv_aload_n hx hb dX0_strikeNew_27 rfl (lv_at hl 0 rfl) ?_
    refine lv_dup hx hb dX0_strikeNew_28 rfl ?_
    refine gfX0_31 (v := (sC 3)) hx hb hts hown hK hP 0 rfl rfl dX0_strikeNew_29 ?_
    refine lv_iconst (v := (1 : Int32)) hx hb dX0_strikeNew_32 (by decide) ?_
    refine lv_isub hx hb dX0_strikeNew_33 ?_
    refine lv_topi (fun f3_34 ef3_34 => ?_)
    have h := h f3_34 ef3_34
    refine pfX0_31 hx hb hts hown hK hP hD hS 0 rfl dX0_strikeNew_34 (fun H locs hP hD hS => ?_)
    have hP : va_P D clsX [(h0, .inr (0, oX0 rC (upd (upd (upd sC 4 (0 : Int32)) 2 f2_24) 3 f3_34))), ((rC 0), .inr (3, oX3 rF)), ((rF 0), .inr (4, oX4 rG sG)), ((rF 1), .inr (1, oX1 rE)), ((rF 2), .inr (2, oX2 rW)), ((rC 1), .inl (cy 0, 3400, .inl C_past)), ((rF 3), .inl (cy 0, 29, .inl F_all)), ((rF 4), .inl (cy 0, 4, .inl F_reasons)), ((rG 11), .inl (cy 2, 5, .inl G_isFalse)), ((rG 12), .inl (cy 0, 4, .inl G_kind)), ((rE 0), .inl (cy 1, 100, .inl E_heardAt)), ((rE 1), .inl (cy 1, 3200, .inl E_nearest)), ((rE 3), .inl (cy 0, 4, .inl E_ofVoice)), ((rE 4), .inl (cy 0, 5, .inl E_alike)), ((rW 0), .inl (cy 0, 400, .inl W_next)), ((rW 1), .inl (cy 0, 500, .inl W_way)), ((rW 2), .inl (cy 0, 5, .inl W_goal))] H := hP
    have hD : va_D A [(h0, .inr (0, oX0 rC (upd (upd (upd sC 4 (0 : Int32)) 2 f2_24) 3 f3_34))), ((rC 0), .inr (3, oX3 rF)), ((rF 0), .inr (4, oX4 rG sG)), ((rF 1), .inr (1, oX1 rE)), ((rF 2), .inr (2, oX2 rW)), ((rC 1), .inl (cy 0, 3400, .inl C_past)), ((rF 3), .inl (cy 0, 29, .inl F_all)), ((rF 4), .inl (cy 0, 4, .inl F_reasons)), ((rG 11), .inl (cy 2, 5, .inl G_isFalse)), ((rG 12), .inl (cy 0, 4, .inl G_kind)), ((rE 0), .inl (cy 1, 100, .inl E_heardAt)), ((rE 1), .inl (cy 1, 3200, .inl E_nearest)), ((rE 3), .inl (cy 0, 4, .inl E_ofVoice)), ((rE 4), .inl (cy 0, 5, .inl E_alike)), ((rW 0), .inl (cy 0, 400, .inl W_next)), ((rW 1), .inl (cy 0, 500, .inl W_way)), ((rW 2), .inl (cy 0, 5, .inl W_goal))] := hD
    exact J37 (upd (upd (upd sC 4 (0 : Int32)) 2 f2_24) 3 f3_34) x1 _ _ _ h hP hD hS hl
def wpX0_takeBack (sC : AR) (C_past : AR) (F_all : AR) (post : AR → AR → Prop) : Prop := ∀ f3_7 : Int32, f3_7 = ((sC 3) - (1 : Int32)) → ∀ f4_17 : Int32, f4_17 = ((sC 4) + (1 : Int32)) → wpX0_entry (upd (upd sC 3 f3_7) 4 f4_17) f3_7 (fun r29 => ¬ r29 < 0 ∧ r29.toNatClampNeg + 29 ≤ 3400 ∧ ∀ F_all_42 : AR, F_all_42 = va_cpy C_past F_all r29.toNatClampNeg 0 29 → post (upd (upd sC 3 f3_7) 4 f4_17) F_all_42)
set_option maxHeartbeats 4000000 in
set_option maxRecDepth 100000 in
theorem ctX0_takeBack (l : Launch) (D : va_G) (cy : Nat → ClassId) (ev : Nat → Nat) (h0 : Nat) (rC : Nat → Nat) (rF : Nat → Nat) (sC : AR) (C_past : AR) (F_all : AR) (sz : Nat) (post : AR → AR → Prop) (h : wpX0_takeBack sC C_past F_all post) : Met l yX0_takeBack (Cond.code yX0_takeBack cX0_takeBack 1 none :: TB) ({ frames := 1, cells := 0, slots := 0, locals := 60 }) (va_Pc [.ref h0] (PreX D cy ev [(h0, .inr (0, oX0 rC sC)), ((rC 0), .inr (3, oX3 rF)), ((rC 1), .inl (cy 0, 3400, .inl C_past)), ((rF 3), .inl (cy 0, 29, .inl F_all))] sz)) (va_Qv (fun (u : AR × AR) => post (u.1) (u.2)) (fun u => BkX D cy [(h0, .inr (0, oX0 rC sC)), ((rC 0), .inr (3, oX3 rF)), ((rC 1), .inl (cy 0, 3400, .inl C_past)), ((rF 3), .inl (cy 0, 29, .inl F_all))] sz [(h0, .inr (0, oX0 rC (u.1))), ((rC 0), .inr (3, oX3 rF)), ((rC 1), .inl (cy 0, 3400, .inl C_past)), ((rF 3), .inl (cy 0, 29, .inl (u.2)))]) (va_A [(h0, .inr (0, oX0 rC sC)), ((rC 0), .inr (3, oX3 rF)), ((rC 1), .inl (cy 0, 3400, .inl C_past)), ((rF 3), .inl (cy 0, 29, .inl F_all))] sz)) 0 0 (va_A [(h0, .inr (0, oX0 rC sC)), ((rC 0), .inr (3, oX3 rF)), ((rC 1), .inl (cy 0, 3400, .inl C_past)), ((rF 3), .inl (cy 0, 29, .inl F_all))] sz) := by
  refine ofWv (by decide) (Nat.le_of_ble_eq_true rfl) ?_
  intro p e s m args below meth c ls A R QQ hx hb hml hown hts hR hlk hE hK hP hD hS hA hl hret
  have hown : s.vm.findClass RX0 = some m.cls := hown
  have hRf : 1 ≤ R.frames := by rw [hR]; exact Nat.le_refl _
  have hRl : 60 ≤ R.locals := by rw [hR]; exact Nat.le_refl _
  clear hR
  have hl : lv_has ls 1 [(0, .ref h0)] := hl
  refine lv_aload_n hx hb dX0_takeBack_0 rfl (lv_at hl 0 rfl) ?_
  refine lv_dup hx hb dX0_takeBack_1 rfl ?_
  refine gfX0_31 (v := (sC 3)) hx hb hts hown hK hP 0 rfl rfl dX0_takeBack_2 ?_
  refine lv_iconst (v := (1 : Int32)) hx hb dX0_takeBack_5 (by decide) ?_
  refine lv_isub hx hb dX0_takeBack_6 ?_
  refine lv_topi (fun f3_7 ef3_7 => ?_)
  have h := h f3_7 ef3_7
  refine pfX0_31 hx hb hts hown hK hP hD hS 0 rfl dX0_takeBack_7 (fun H locs hP hD hS => ?_)
  have hP : va_P D clsX [(h0, .inr (0, oX0 rC (upd sC 3 f3_7))), ((rC 0), .inr (3, oX3 rF)), ((rC 1), .inl (cy 0, 3400, .inl C_past)), ((rF 3), .inl (cy 0, 29, .inl F_all))] H := hP
  have hD : va_D A [(h0, .inr (0, oX0 rC (upd sC 3 f3_7))), ((rC 0), .inr (3, oX3 rF)), ((rC 1), .inl (cy 0, 3400, .inl C_past)), ((rF 3), .inl (cy 0, 29, .inl F_all))] := hD
  refine lv_aload_n hx hb dX0_takeBack_10 rfl (lv_at hl 0 rfl) ?_
  refine lv_dup hx hb dX0_takeBack_11 rfl ?_
  refine gfX0_34 (v := (sC 4)) hx hb hts hown hK hP 0 rfl rfl dX0_takeBack_12 ?_
  refine lv_iconst (v := (1 : Int32)) hx hb dX0_takeBack_15 (by decide) ?_
  refine lv_iadd hx hb dX0_takeBack_16 ?_
  refine lv_topi (fun f4_17 ef4_17 => ?_)
  have h := h f4_17 ef4_17
  refine pfX0_34 hx hb hts hown hK hP hD hS 0 rfl dX0_takeBack_17 (fun H locs hP hD hS => ?_)
  have hP : va_P D clsX [(h0, .inr (0, oX0 rC (upd (upd sC 3 f3_7) 4 f4_17))), ((rC 0), .inr (3, oX3 rF)), ((rC 1), .inl (cy 0, 3400, .inl C_past)), ((rF 3), .inl (cy 0, 29, .inl F_all))] H := hP
  have hD : va_D A [(h0, .inr (0, oX0 rC (upd (upd sC 3 f3_7) 4 f4_17))), ((rC 0), .inr (3, oX3 rF)), ((rC 1), .inl (cy 0, 3400, .inl C_past)), ((rF 3), .inl (cy 0, 29, .inl F_all))] := hD
  refine lv_aload_n hx hb dX0_takeBack_20 rfl (lv_at hl 0 rfl) ?_
  refine gfX0_13 hx hb hts hown hK hP 0 rfl dX0_takeBack_21 ?_
  refine lv_aload_n hx hb dX0_takeBack_24 rfl (lv_at hl 0 rfl) ?_
  refine lv_aload_n hx hb dX0_takeBack_25 rfl (lv_at hl 0 rfl) ?_
  refine gfX0_31 (v := f3_7) hx hb hts hown hK hP 0 rfl rfl dX0_takeBack_26 ?_
  refine clVi (As := [.int f3_7]) (rest := [.ref (rC 1)]) (Wr := [((rC 0), .inr (3, oX3 rF)), ((rC 1), .inl (cy 0, 3400, .inl C_past)), ((rF 3), .inl (cy 0, 29, .inl F_all))]) (cq := (RX0, TX0, 7)) ⟨hx, hb, hml, hown, hts⟩ ⟨callB_of 1 hts (goodC mw550) rfl rfl rfl (hts _ (tb mw8)) (hts _ (tb mw547)) kdX0_entry ⟨Nat.le_trans (by decide) hRf, Nat.le_trans (by decide) hRl⟩, hts _ (tb mw549), hts _ (tb ms6)⟩ (ctX0_entry l D cy ev h0 rC (upd (upd sC 3 f3_7) 4 f4_17) f3_7 _ _ h) hE hK hP hD hS hA [0] [1, 2, 3] rfl rfl (by decide) (by decide) (by decide) 0 rfl rfl rfl hl.1 rfl (Nat.le_of_ble_eq_true rfl) ⟨Nat.zero_le _, Nat.zero_le _⟩ dX0_takeBack_29 (fun r29 u H locs h hP hD hS => ?_)
  have hP : va_P D clsX [((rC 0), .inr (3, oX3 rF)), ((rC 1), .inl (cy 0, 3400, .inl C_past)), ((rF 3), .inl (cy 0, 29, .inl F_all)), (h0, .inr (0, oX0 rC (upd (upd sC 3 f3_7) 4 f4_17)))] H := hP
  have hD : va_D A [((rC 0), .inr (3, oX3 rF)), ((rC 1), .inl (cy 0, 3400, .inl C_past)), ((rF 3), .inl (cy 0, 29, .inl F_all)), (h0, .inr (0, oX0 rC (upd (upd sC 3 f3_7) 4 f4_17)))] := hD
  refine lv_aload_n hx hb dX0_takeBack_32 rfl (lv_at hl 0 rfl) ?_
  refine gfX0_20 hx hb hts hown hK hP 3 rfl dX0_takeBack_33 ?_
  refine gfX0_64 hx hb hts hown hK hP 0 rfl dX0_takeBack_36 ?_
  refine lv_iconst (v := (0 : Int32)) hx hb dX0_takeBack_39 (by decide) ?_
  refine lv_bipush (v := (29 : Int32)) hx hb dX0_takeBack_40 (by decide) ?_
  obtain ⟨hq0, h⟩ := h
  obtain ⟨hq3, h⟩ := h
  refine cpi (k0 := r29.toNatClampNeg) (k1 := 0) (kn := 29) hx hb (hml.trans hl.1.symm) hts hown mw551 hK hP hD hS 1 2 rfl rfl hq0 (by decide) (by decide) rfl (by decide) (by decide) hq3 (by decide) (Nat.le_trans (by decide) hRf) (Nat.le_trans (Nat.le_of_ble_eq_true rfl) hRl) dX0_takeBack_42 (fun F_all_42 eF_all_42 H locs hP hD hS => ?_)
  have h := h F_all_42 eF_all_42
  have hP : va_P D clsX [((rC 0), .inr (3, oX3 rF)), ((rC 1), .inl (cy 0, 3400, .inl C_past)), ((rF 3), .inl (cy 0, 29, .inl F_all_42)), (h0, .inr (0, oX0 rC (upd (upd sC 3 f3_7) 4 f4_17)))] H := hP
  have hD : va_D A [((rC 0), .inr (3, oX3 rF)), ((rC 1), .inl (cy 0, 3400, .inl C_past)), ((rF 3), .inl (cy 0, 29, .inl F_all_42)), (h0, .inr (0, oX0 rC (upd (upd sC 3 f3_7) 4 f4_17)))] := hD
  exact hret ((upd (upd sC 3 f3_7) 4 f4_17), F_all_42) _ _ _ _ dX0_takeBack_45 h (hP.sub [3, 0, 1, 2] rfl) (hD.sub [3, 0, 1, 2] (by decide) rfl) hS
def wpX0_strikeAgain (sC : AR) (sG : AR) (C_past : AR) (F_all : AR) (F_reasons : AR) (G_isFalse : AR) (G_kind : AR) (E_heardAt : AR) (E_nearest : AR) (E_ofVoice : AR) (E_alike : AR) (W_next : AR) (W_way : AR) (W_goal : AR) (post : Int32 → AR → AR → AR → AR → Prop) : Prop := wpX0_entry sC (sC 3) (fun r9 => vp_in (r9 + (29 : Int32)) 3400 ∧ ∀ l1_16 : Int32, l1_16 = (C_past (r9 + (29 : Int32)).toNatClampNeg) → wpX0_strikeNext sC sG C_past F_all F_reasons G_isFalse G_kind E_heardAt E_nearest E_ofVoice E_alike W_next W_way W_goal l1_16 (fun sC_19 C_past_19 F_all_19 F_reasons_19 => ∀ f4_29 : Int32, f4_29 = ((sC_19 4) - (1 : Int32)) → post l1_16 (upd sC_19 4 f4_29) C_past_19 F_all_19 F_reasons_19))
set_option maxHeartbeats 4000000 in
set_option maxRecDepth 100000 in
theorem ctX0_strikeAgain (l : Launch) (D : va_G) (cy : Nat → ClassId) (ev : Nat → Nat) (h0 : Nat) (rC : Nat → Nat) (rF : Nat → Nat) (rG : Nat → Nat) (rE : Nat → Nat) (rW : Nat → Nat) (sC : AR) (sG : AR) (C_past : AR) (F_all : AR) (F_reasons : AR) (G_isFalse : AR) (G_kind : AR) (E_heardAt : AR) (E_nearest : AR) (E_ofVoice : AR) (E_alike : AR) (W_next : AR) (W_way : AR) (W_goal : AR) (sz : Nat) (post : Int32 → AR → AR → AR → AR → Prop) (h : wpX0_strikeAgain sC sG C_past F_all F_reasons G_isFalse G_kind E_heardAt E_nearest E_ofVoice E_alike W_next W_way W_goal post) : Met l yX0_strikeAgain (Cond.code yX0_strikeAgain cX0_strikeAgain 2 (some .int) :: TB) ({ frames := 5, cells := 0, slots := 0, locals := 122 }) (va_Pc [.ref h0] (PreX D cy ev [(h0, .inr (0, oX0 rC sC)), ((rC 0), .inr (3, oX3 rF)), ((rF 0), .inr (4, oX4 rG sG)), ((rF 1), .inr (1, oX1 rE)), ((rF 2), .inr (2, oX2 rW)), ((rC 1), .inl (cy 0, 3400, .inl C_past)), ((rF 3), .inl (cy 0, 29, .inl F_all)), ((rF 4), .inl (cy 0, 4, .inl F_reasons)), ((rG 11), .inl (cy 2, 5, .inl G_isFalse)), ((rG 12), .inl (cy 0, 4, .inl G_kind)), ((rE 0), .inl (cy 1, 100, .inl E_heardAt)), ((rE 1), .inl (cy 1, 3200, .inl E_nearest)), ((rE 3), .inl (cy 0, 4, .inl E_ofVoice)), ((rE 4), .inl (cy 0, 5, .inl E_alike)), ((rW 0), .inl (cy 0, 400, .inl W_next)), ((rW 1), .inl (cy 0, 500, .inl W_way)), ((rW 2), .inl (cy 0, 5, .inl W_goal))] sz)) (va_Qi (fun (r : Int32) (u : AR × AR × AR × AR) => post r (u.1) (u.2.1) (u.2.2.1) (u.2.2.2)) (fun u => BkX D cy [(h0, .inr (0, oX0 rC sC)), ((rC 0), .inr (3, oX3 rF)), ((rF 0), .inr (4, oX4 rG sG)), ((rF 1), .inr (1, oX1 rE)), ((rF 2), .inr (2, oX2 rW)), ((rC 1), .inl (cy 0, 3400, .inl C_past)), ((rF 3), .inl (cy 0, 29, .inl F_all)), ((rF 4), .inl (cy 0, 4, .inl F_reasons)), ((rG 11), .inl (cy 2, 5, .inl G_isFalse)), ((rG 12), .inl (cy 0, 4, .inl G_kind)), ((rE 0), .inl (cy 1, 100, .inl E_heardAt)), ((rE 1), .inl (cy 1, 3200, .inl E_nearest)), ((rE 3), .inl (cy 0, 4, .inl E_ofVoice)), ((rE 4), .inl (cy 0, 5, .inl E_alike)), ((rW 0), .inl (cy 0, 400, .inl W_next)), ((rW 1), .inl (cy 0, 500, .inl W_way)), ((rW 2), .inl (cy 0, 5, .inl W_goal))] sz [(h0, .inr (0, oX0 rC (u.1))), ((rC 0), .inr (3, oX3 rF)), ((rF 0), .inr (4, oX4 rG sG)), ((rF 1), .inr (1, oX1 rE)), ((rF 2), .inr (2, oX2 rW)), ((rC 1), .inl (cy 0, 3400, .inl (u.2.1))), ((rF 3), .inl (cy 0, 29, .inl (u.2.2.1))), ((rF 4), .inl (cy 0, 4, .inl (u.2.2.2))), ((rG 11), .inl (cy 2, 5, .inl G_isFalse)), ((rG 12), .inl (cy 0, 4, .inl G_kind)), ((rE 0), .inl (cy 1, 100, .inl E_heardAt)), ((rE 1), .inl (cy 1, 3200, .inl E_nearest)), ((rE 3), .inl (cy 0, 4, .inl E_ofVoice)), ((rE 4), .inl (cy 0, 5, .inl E_alike)), ((rW 0), .inl (cy 0, 400, .inl W_next)), ((rW 1), .inl (cy 0, 500, .inl W_way)), ((rW 2), .inl (cy 0, 5, .inl W_goal))]) (va_A [(h0, .inr (0, oX0 rC sC)), ((rC 0), .inr (3, oX3 rF)), ((rF 0), .inr (4, oX4 rG sG)), ((rF 1), .inr (1, oX1 rE)), ((rF 2), .inr (2, oX2 rW)), ((rC 1), .inl (cy 0, 3400, .inl C_past)), ((rF 3), .inl (cy 0, 29, .inl F_all)), ((rF 4), .inl (cy 0, 4, .inl F_reasons)), ((rG 11), .inl (cy 2, 5, .inl G_isFalse)), ((rG 12), .inl (cy 0, 4, .inl G_kind)), ((rE 0), .inl (cy 1, 100, .inl E_heardAt)), ((rE 1), .inl (cy 1, 3200, .inl E_nearest)), ((rE 3), .inl (cy 0, 4, .inl E_ofVoice)), ((rE 4), .inl (cy 0, 5, .inl E_alike)), ((rW 0), .inl (cy 0, 400, .inl W_next)), ((rW 1), .inl (cy 0, 500, .inl W_way)), ((rW 2), .inl (cy 0, 5, .inl W_goal))] sz)) 0 0 (va_A [(h0, .inr (0, oX0 rC sC)), ((rC 0), .inr (3, oX3 rF)), ((rF 0), .inr (4, oX4 rG sG)), ((rF 1), .inr (1, oX1 rE)), ((rF 2), .inr (2, oX2 rW)), ((rC 1), .inl (cy 0, 3400, .inl C_past)), ((rF 3), .inl (cy 0, 29, .inl F_all)), ((rF 4), .inl (cy 0, 4, .inl F_reasons)), ((rG 11), .inl (cy 2, 5, .inl G_isFalse)), ((rG 12), .inl (cy 0, 4, .inl G_kind)), ((rE 0), .inl (cy 1, 100, .inl E_heardAt)), ((rE 1), .inl (cy 1, 3200, .inl E_nearest)), ((rE 3), .inl (cy 0, 4, .inl E_ofVoice)), ((rE 4), .inl (cy 0, 5, .inl E_alike)), ((rW 0), .inl (cy 0, 400, .inl W_next)), ((rW 1), .inl (cy 0, 500, .inl W_way)), ((rW 2), .inl (cy 0, 5, .inl W_goal))] sz) := by
  refine ofWi (by decide) (Nat.le_of_ble_eq_true rfl) ?_
  intro p e s m args below meth c ls A R QQ hx hb hml hown hts hR hlk hE hK hP hD hS hA hl hret
  have hown : s.vm.findClass RX0 = some m.cls := hown
  have hRf : 5 ≤ R.frames := by rw [hR]; exact Nat.le_refl _
  have hRl : 122 ≤ R.locals := by rw [hR]; exact Nat.le_refl _
  clear hR
  have hl : lv_has ls 2 [(0, .ref h0)] := hl
  refine lv_aload_n hx hb dX0_strikeAgain_0 rfl (lv_at hl 0 rfl) ?_
  refine gfX0_13 hx hb hts hown hK hP 0 rfl dX0_strikeAgain_1 ?_
  refine lv_aload_n hx hb dX0_strikeAgain_4 rfl (lv_at hl 0 rfl) ?_
  refine lv_aload_n hx hb dX0_strikeAgain_5 rfl (lv_at hl 0 rfl) ?_
  refine gfX0_31 (v := (sC 3)) hx hb hts hown hK hP 0 rfl rfl dX0_strikeAgain_6 ?_
  refine clVi (As := [.int (sC 3)]) (rest := [.ref (rC 1)]) (Wr := [((rC 0), .inr (3, oX3 rF)), ((rF 0), .inr (4, oX4 rG sG)), ((rF 1), .inr (1, oX1 rE)), ((rF 2), .inr (2, oX2 rW)), ((rC 1), .inl (cy 0, 3400, .inl C_past)), ((rF 3), .inl (cy 0, 29, .inl F_all)), ((rF 4), .inl (cy 0, 4, .inl F_reasons)), ((rG 11), .inl (cy 2, 5, .inl G_isFalse)), ((rG 12), .inl (cy 0, 4, .inl G_kind)), ((rE 0), .inl (cy 1, 100, .inl E_heardAt)), ((rE 1), .inl (cy 1, 3200, .inl E_nearest)), ((rE 3), .inl (cy 0, 4, .inl E_ofVoice)), ((rE 4), .inl (cy 0, 5, .inl E_alike)), ((rW 0), .inl (cy 0, 400, .inl W_next)), ((rW 1), .inl (cy 0, 500, .inl W_way)), ((rW 2), .inl (cy 0, 5, .inl W_goal))]) (cq := (RX0, TX0, 7)) ⟨hx, hb, hml, hown, hts⟩ ⟨callB_of 1 hts (goodC mw550) rfl rfl rfl (hts _ (tb mw8)) (hts _ (tb mw547)) kdX0_entry ⟨Nat.le_trans (by decide) hRf, Nat.le_trans (by decide) hRl⟩, hts _ (tb mw549), hts _ (tb ms6)⟩ (ctX0_entry l D cy ev h0 rC sC (sC 3) _ _ h) hE hK hP hD hS hA [0] [1, 2, 3, 4, 5, 6, 7, 8, 9, 10, 11, 12, 13, 14, 15, 16] rfl rfl (by decide) (by decide) (by decide) 0 rfl rfl rfl hl.1 rfl (Nat.le_of_ble_eq_true rfl) ⟨Nat.zero_le _, Nat.zero_le _⟩ dX0_strikeAgain_9 (fun r9 u H locs h hP hD hS => ?_)
  have hP : va_P D clsX [((rC 0), .inr (3, oX3 rF)), ((rF 0), .inr (4, oX4 rG sG)), ((rF 1), .inr (1, oX1 rE)), ((rF 2), .inr (2, oX2 rW)), ((rC 1), .inl (cy 0, 3400, .inl C_past)), ((rF 3), .inl (cy 0, 29, .inl F_all)), ((rF 4), .inl (cy 0, 4, .inl F_reasons)), ((rG 11), .inl (cy 2, 5, .inl G_isFalse)), ((rG 12), .inl (cy 0, 4, .inl G_kind)), ((rE 0), .inl (cy 1, 100, .inl E_heardAt)), ((rE 1), .inl (cy 1, 3200, .inl E_nearest)), ((rE 3), .inl (cy 0, 4, .inl E_ofVoice)), ((rE 4), .inl (cy 0, 5, .inl E_alike)), ((rW 0), .inl (cy 0, 400, .inl W_next)), ((rW 1), .inl (cy 0, 500, .inl W_way)), ((rW 2), .inl (cy 0, 5, .inl W_goal)), (h0, .inr (0, oX0 rC sC))] H := hP
  have hD : va_D A [((rC 0), .inr (3, oX3 rF)), ((rF 0), .inr (4, oX4 rG sG)), ((rF 1), .inr (1, oX1 rE)), ((rF 2), .inr (2, oX2 rW)), ((rC 1), .inl (cy 0, 3400, .inl C_past)), ((rF 3), .inl (cy 0, 29, .inl F_all)), ((rF 4), .inl (cy 0, 4, .inl F_reasons)), ((rG 11), .inl (cy 2, 5, .inl G_isFalse)), ((rG 12), .inl (cy 0, 4, .inl G_kind)), ((rE 0), .inl (cy 1, 100, .inl E_heardAt)), ((rE 1), .inl (cy 1, 3200, .inl E_nearest)), ((rE 3), .inl (cy 0, 4, .inl E_ofVoice)), ((rE 4), .inl (cy 0, 5, .inl E_alike)), ((rW 0), .inl (cy 0, 400, .inl W_next)), ((rW 1), .inl (cy 0, 500, .inl W_way)), ((rW 2), .inl (cy 0, 5, .inl W_goal)), (h0, .inr (0, oX0 rC sC))] := hD
  refine lv_bipush (v := (29 : Int32)) hx hb dX0_strikeAgain_12 (by decide) ?_
  refine lv_iadd hx hb dX0_strikeAgain_14 ?_
  obtain ⟨hin, h⟩ := h
  refine ldi (k := (r9 + (29 : Int32)).toNatClampNeg) hx hb hK hP 4 rfl hin rfl dX0_strikeAgain_15 ?_
  refine lv_topi (fun l1_16 el1_16 => ?_)
  have h := h l1_16 el1_16
  refine lv_istore_n (lv' := [(1, .int l1_16), (0, .ref h0)]) hx hb dX0_strikeAgain_16 rfl hl (by decide) rfl (fun ls hl => ?_)
  refine lv_aload_n hx hb dX0_strikeAgain_17 rfl (lv_at hl 1 rfl) ?_
  refine lv_iload_n hx hb dX0_strikeAgain_18 rfl (lv_at hl 0 rfl) ?_
  refine clVv (As := [.int l1_16]) (rest := []) (Wr := []) (cq := (RX0, TX0, 7)) ⟨hx, hb, hml, hown, hts⟩ ⟨callB_of 1 hts (goodC mw546) rfl rfl rfl (hts _ (tb mw8)) (hts _ (tb mw543)) kdX0_strikeNext ⟨Nat.le_trans (by decide) hRf, Nat.le_trans (by decide) hRl⟩, hts _ (tb mw545), hts _ (tb ms5)⟩ (ctX0_strikeNext l D cy ev h0 rC rF rG rE rW sC sG C_past F_all F_reasons G_isFalse G_kind E_heardAt E_nearest E_ofVoice E_alike W_next W_way W_goal l1_16 _ _ h) hE hK hP hD hS hA [16, 0, 1, 2, 3, 4, 5, 6, 7, 8, 9, 10, 11, 12, 13, 14, 15] [] rfl rfl (by decide) (by decide) (by decide) 0 rfl rfl rfl hl.1 rfl (Nat.le_of_ble_eq_true rfl) ⟨Nat.zero_le _, Nat.zero_le _⟩ dX0_strikeAgain_19 (fun u H locs h hP hD hS => ?_)
  obtain ⟨sC_19, C_past_19, F_all_19, F_reasons_19⟩ := u
  have hP : va_P D clsX [(h0, .inr (0, oX0 rC sC_19)), ((rC 0), .inr (3, oX3 rF)), ((rF 0), .inr (4, oX4 rG sG)), ((rF 1), .inr (1, oX1 rE)), ((rF 2), .inr (2, oX2 rW)), ((rC 1), .inl (cy 0, 3400, .inl C_past_19)), ((rF 3), .inl (cy 0, 29, .inl F_all_19)), ((rF 4), .inl (cy 0, 4, .inl F_reasons_19)), ((rG 11), .inl (cy 2, 5, .inl G_isFalse)), ((rG 12), .inl (cy 0, 4, .inl G_kind)), ((rE 0), .inl (cy 1, 100, .inl E_heardAt)), ((rE 1), .inl (cy 1, 3200, .inl E_nearest)), ((rE 3), .inl (cy 0, 4, .inl E_ofVoice)), ((rE 4), .inl (cy 0, 5, .inl E_alike)), ((rW 0), .inl (cy 0, 400, .inl W_next)), ((rW 1), .inl (cy 0, 500, .inl W_way)), ((rW 2), .inl (cy 0, 5, .inl W_goal))] H := hP
  have hD : va_D A [(h0, .inr (0, oX0 rC sC_19)), ((rC 0), .inr (3, oX3 rF)), ((rF 0), .inr (4, oX4 rG sG)), ((rF 1), .inr (1, oX1 rE)), ((rF 2), .inr (2, oX2 rW)), ((rC 1), .inl (cy 0, 3400, .inl C_past_19)), ((rF 3), .inl (cy 0, 29, .inl F_all_19)), ((rF 4), .inl (cy 0, 4, .inl F_reasons_19)), ((rG 11), .inl (cy 2, 5, .inl G_isFalse)), ((rG 12), .inl (cy 0, 4, .inl G_kind)), ((rE 0), .inl (cy 1, 100, .inl E_heardAt)), ((rE 1), .inl (cy 1, 3200, .inl E_nearest)), ((rE 3), .inl (cy 0, 4, .inl E_ofVoice)), ((rE 4), .inl (cy 0, 5, .inl E_alike)), ((rW 0), .inl (cy 0, 400, .inl W_next)), ((rW 1), .inl (cy 0, 500, .inl W_way)), ((rW 2), .inl (cy 0, 5, .inl W_goal))] := hD
  refine lv_aload_n hx hb dX0_strikeAgain_22 rfl (lv_at hl 1 rfl) ?_
  refine lv_dup hx hb dX0_strikeAgain_23 rfl ?_
  refine gfX0_34 (v := (sC_19 4)) hx hb hts hown hK hP 0 rfl rfl dX0_strikeAgain_24 ?_
  refine lv_iconst (v := (1 : Int32)) hx hb dX0_strikeAgain_27 (by decide) ?_
  refine lv_isub hx hb dX0_strikeAgain_28 ?_
  refine lv_topi (fun f4_29 ef4_29 => ?_)
  have h := h f4_29 ef4_29
  refine pfX0_34 hx hb hts hown hK hP hD hS 0 rfl dX0_strikeAgain_29 (fun H locs hP hD hS => ?_)
  have hP : va_P D clsX [(h0, .inr (0, oX0 rC (upd sC_19 4 f4_29))), ((rC 0), .inr (3, oX3 rF)), ((rF 0), .inr (4, oX4 rG sG)), ((rF 1), .inr (1, oX1 rE)), ((rF 2), .inr (2, oX2 rW)), ((rC 1), .inl (cy 0, 3400, .inl C_past_19)), ((rF 3), .inl (cy 0, 29, .inl F_all_19)), ((rF 4), .inl (cy 0, 4, .inl F_reasons_19)), ((rG 11), .inl (cy 2, 5, .inl G_isFalse)), ((rG 12), .inl (cy 0, 4, .inl G_kind)), ((rE 0), .inl (cy 1, 100, .inl E_heardAt)), ((rE 1), .inl (cy 1, 3200, .inl E_nearest)), ((rE 3), .inl (cy 0, 4, .inl E_ofVoice)), ((rE 4), .inl (cy 0, 5, .inl E_alike)), ((rW 0), .inl (cy 0, 400, .inl W_next)), ((rW 1), .inl (cy 0, 500, .inl W_way)), ((rW 2), .inl (cy 0, 5, .inl W_goal))] H := hP
  have hD : va_D A [(h0, .inr (0, oX0 rC (upd sC_19 4 f4_29))), ((rC 0), .inr (3, oX3 rF)), ((rF 0), .inr (4, oX4 rG sG)), ((rF 1), .inr (1, oX1 rE)), ((rF 2), .inr (2, oX2 rW)), ((rC 1), .inl (cy 0, 3400, .inl C_past_19)), ((rF 3), .inl (cy 0, 29, .inl F_all_19)), ((rF 4), .inl (cy 0, 4, .inl F_reasons_19)), ((rG 11), .inl (cy 2, 5, .inl G_isFalse)), ((rG 12), .inl (cy 0, 4, .inl G_kind)), ((rE 0), .inl (cy 1, 100, .inl E_heardAt)), ((rE 1), .inl (cy 1, 3200, .inl E_nearest)), ((rE 3), .inl (cy 0, 4, .inl E_ofVoice)), ((rE 4), .inl (cy 0, 5, .inl E_alike)), ((rW 0), .inl (cy 0, 400, .inl W_next)), ((rW 1), .inl (cy 0, 500, .inl W_way)), ((rW 2), .inl (cy 0, 5, .inl W_goal))] := hD
  refine lv_iload_n hx hb dX0_strikeAgain_32 rfl (lv_at hl 0 rfl) ?_
  exact hret l1_16 ((upd sC_19 4 f4_29), C_past_19, F_all_19, F_reasons_19) _ _ _ _ rfl dX0_strikeAgain_33 h hP hD hS
def wpX0_reason (sC : AR) (C_past : AR) (x1 : Int32) (x2 : Int32) (post : Int32 → Prop) : Prop := wpX0_entry sC x2 (fun r6 => vp_in ((r6 + (30 : Int32)) + x1) 3400 ∧ post (C_past ((r6 + (30 : Int32)) + x1).toNatClampNeg))
set_option maxHeartbeats 4000000 in
set_option maxRecDepth 100000 in
theorem ctX0_reason (l : Launch) (D : va_G) (cy : Nat → ClassId) (ev : Nat → Nat) (h0 : Nat) (rC : Nat → Nat) (sC : AR) (C_past : AR) (x1 : Int32) (x2 : Int32) (sz : Nat) (post : Int32 → Prop) (h : wpX0_reason sC C_past x1 x2 post) : Met l yX0_reason (Cond.code yX0_reason cX0_reason 3 (some .int) :: TB) ({ frames := 1, cells := 0, slots := 0, locals := 21 }) (va_Pc [.ref h0, .int x1, .int x2] (PreX D cy ev [(h0, .inr (0, oX0 rC sC)), ((rC 1), .inl (cy 0, 3400, .inl C_past))] sz)) (va_Qi (fun (r : Int32) (u : Unit) => post r) (fun u => BkX D cy [(h0, .inr (0, oX0 rC sC)), ((rC 1), .inl (cy 0, 3400, .inl C_past))] sz [(h0, .inr (0, oX0 rC sC)), ((rC 1), .inl (cy 0, 3400, .inl C_past))]) (va_A [(h0, .inr (0, oX0 rC sC)), ((rC 1), .inl (cy 0, 3400, .inl C_past))] sz)) 0 0 (va_A [(h0, .inr (0, oX0 rC sC)), ((rC 1), .inl (cy 0, 3400, .inl C_past))] sz) := by
  refine ofWi (by decide) (Nat.le_of_ble_eq_true rfl) ?_
  intro p e s m args below meth c ls A R QQ hx hb hml hown hts hR hlk hE hK hP hD hS hA hl hret
  have hown : s.vm.findClass RX0 = some m.cls := hown
  have hRf : 1 ≤ R.frames := by rw [hR]; exact Nat.le_refl _
  have hRl : 21 ≤ R.locals := by rw [hR]; exact Nat.le_refl _
  clear hR
  have hl : lv_has ls 3 [(0, .ref h0), (1, .int x1), (2, .int x2)] := hl
  refine lv_aload_n hx hb dX0_reason_0 rfl (lv_at hl 0 rfl) ?_
  refine gfX0_13 hx hb hts hown hK hP 0 rfl dX0_reason_1 ?_
  refine lv_aload_n hx hb dX0_reason_4 rfl (lv_at hl 0 rfl) ?_
  refine lv_iload_n hx hb dX0_reason_5 rfl (lv_at hl 2 rfl) ?_
  refine clVi (As := [.int x2]) (rest := [.ref (rC 1)]) (Wr := [((rC 1), .inl (cy 0, 3400, .inl C_past))]) (cq := (RX0, TX0, 7)) ⟨hx, hb, hml, hown, hts⟩ ⟨callB_of 1 hts (goodC mw550) rfl rfl rfl (hts _ (tb mw8)) (hts _ (tb mw547)) kdX0_entry ⟨Nat.le_trans (by decide) hRf, Nat.le_trans (by decide) hRl⟩, hts _ (tb mw549), hts _ (tb ms6)⟩ (ctX0_entry l D cy ev h0 rC sC x2 _ _ h) hE hK hP hD hS hA [0] [1] rfl rfl (by decide) (by decide) (by decide) 0 rfl rfl rfl hl.1 rfl (Nat.le_of_ble_eq_true rfl) ⟨Nat.zero_le _, Nat.zero_le _⟩ dX0_reason_6 (fun r6 u H locs h hP hD hS => ?_)
  have hP : va_P D clsX [((rC 1), .inl (cy 0, 3400, .inl C_past)), (h0, .inr (0, oX0 rC sC))] H := hP
  have hD : va_D A [((rC 1), .inl (cy 0, 3400, .inl C_past)), (h0, .inr (0, oX0 rC sC))] := hD
  refine lv_bipush (v := (30 : Int32)) hx hb dX0_reason_9 (by decide) ?_
  refine lv_iadd hx hb dX0_reason_11 ?_
  refine lv_iload_n hx hb dX0_reason_12 rfl (lv_at hl 1 rfl) ?_
  refine lv_iadd hx hb dX0_reason_13 ?_
  obtain ⟨hin, h⟩ := h
  refine ldi (k := ((r6 + (30 : Int32)) + x1).toNatClampNeg) hx hb hK hP 0 rfl hin rfl dX0_reason_14 ?_
  exact hret (C_past ((r6 + (30 : Int32)) + x1).toNatClampNeg) () _ _ _ _ rfl dX0_reason_15 h (hP.sub [1, 0] rfl) (hD.sub [1, 0] (by decide) rfl) hS
