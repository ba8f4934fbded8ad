theorem dX7_begin_0 : decode cX7_begin 0 = .ok (.aload_n 0, 1) := by decide +kernel
theorem dX7_begin_1 : decode cX7_begin 1 = .ok (.iconst 1, 1) := by decide +kernel
theorem dX7_begin_2 : decode cX7_begin 2 = .ok (.putfield 30, 3) := by decide +kernel
theorem dX7_begin_5 : decode cX7_begin 5 = .ok (.aload_n 0, 1) := by decide +kernel
theorem dX7_begin_6 : decode cX7_begin 6 = .ok (.aload_n 0, 1) := by decide +kernel
theorem dX7_begin_7 : decode cX7_begin 7 = .ok (.getfield 18, 3) := by decide +kernel
theorem dX7_begin_10 : decode cX7_begin 10 = .ok (.invokevirtual 34, 3) := by decide +kernel
theorem dX7_begin_13 : decode cX7_begin 13 = .ok (.bipush 100, 2) := by decide +kernel
theorem dX7_begin_15 : decode cX7_begin 15 = .ok (.invokestatic 40, 3) := by decide +kernel
theorem dX7_begin_18 : decode cX7_begin 18 = .ok (.putfield 46, 3) := by decide +kernel
theorem dX7_begin_21 : decode cX7_begin 21 = .ok (.iconst 0, 1) := by decide +kernel
theorem dX7_begin_22 : decode cX7_begin 22 = .ok (.istore_n 1, 1) := by decide +kernel
theorem dX7_begin_23 : decode cX7_begin 23 = .ok (.iload_n 1, 1) := by decide +kernel
theorem dX7_begin_24 : decode cX7_begin 24 = .ok (.aload_n 0, 1) := by decide +kernel
theorem dX7_begin_25 : decode cX7_begin 25 = .ok (.getfield 46, 3) := by decide +kernel
theorem dX7_begin_28 : decode cX7_begin 28 = .ok (.if_icmp .ge 23, 3) := by decide +kernel
theorem dX7_begin_31 : decode cX7_begin 31 = .ok (.aload_n 0, 1) := by decide +kernel
theorem dX7_begin_32 : decode cX7_begin 32 = .ok (.getfield 9, 3) := by decide +kernel
theorem dX7_begin_35 : decode cX7_begin 35 = .ok (.iload_n 1, 1) := by decide +kernel
theorem dX7_begin_36 : decode cX7_begin 36 = .ok (.iload_n 1, 1) := by decide +kernel
theorem dX7_begin_37 : decode cX7_begin 37 = .ok (.iastore, 1) := by decide +kernel
theorem dX7_begin_38 : decode cX7_begin 38 = .ok (.aload_n 0, 1) := by decide +kernel
theorem dX7_begin_39 : decode cX7_begin 39 = .ok (.getfield 15, 3) := by decide +kernel
theorem dX7_begin_42 : decode cX7_begin 42 = .ok (.iload_n 1, 1) := by decide +kernel
theorem dX7_begin_43 : decode cX7_begin 43 = .ok (.iconst 0, 1) := by decide +kernel
theorem dX7_begin_44 : decode cX7_begin 44 = .ok (.iastore, 1) := by decide +kernel
theorem dX7_begin_45 : decode cX7_begin 45 = .ok (.iinc 1 1, 3) := by decide +kernel
theorem dX7_begin_48 : decode cX7_begin 48 = .ok (.goto (-25), 3) := by decide +kernel
theorem dX7_begin_51 : decode cX7_begin 51 = .ok (.return_, 1) := by decide +kernel
theorem dX7_goOn_0 : decode cX7_goOn 0 = .ok (.aload_n 0, 1) := by decide +kernel
theorem dX7_goOn_1 : decode cX7_goOn 1 = .ok (.getfield 30, 3) := by decide +kernel
theorem dX7_goOn_4 : decode cX7_goOn 4 = .ok (.ifCond .ne 4, 3) := by decide +kernel
theorem dX7_goOn_7 : decode cX7_goOn 7 = .ok (.return_, 1) := by decide +kernel
theorem dX7_goOn_8 : decode cX7_goOn 8 = .ok (.iconst 0, 1) := by decide +kernel
theorem dX7_goOn_9 : decode cX7_goOn 9 = .ok (.istore_n 2, 1) := by decide +kernel
theorem dX7_goOn_10 : decode cX7_goOn 10 = .ok (.iconst 0, 1) := by decide +kernel
theorem dX7_goOn_11 : decode cX7_goOn 11 = .ok (.istore_n 3, 1) := by decide +kernel
theorem dX7_goOn_12 : decode cX7_goOn 12 = .ok (.iload_n 3, 1) := by decide +kernel
theorem dX7_goOn_13 : decode cX7_goOn 13 = .ok (.aload_n 0, 1) := by decide +kernel
theorem dX7_goOn_14 : decode cX7_goOn 14 = .ok (.getfield 46, 3) := by decide +kernel
theorem dX7_goOn_17 : decode cX7_goOn 17 = .ok (.if_icmp .ge 90, 3) := by decide +kernel
theorem dX7_goOn_20 : decode cX7_goOn 20 = .ok (.aload_n 0, 1) := by decide +kernel
theorem dX7_goOn_21 : decode cX7_goOn 21 = .ok (.getfield 22, 3) := by decide +kernel
theorem dX7_goOn_24 : decode cX7_goOn 24 = .ok (.iload_n 1, 1) := by decide +kernel
theorem dX7_goOn_25 : decode cX7_goOn 25 = .ok (.aload_n 0, 1) := by decide +kernel
theorem dX7_goOn_26 : decode cX7_goOn 26 = .ok (.getfield 9, 3) := by decide +kernel
theorem dX7_goOn_29 : decode cX7_goOn 29 = .ok (.iload_n 3, 1) := by decide +kernel
theorem dX7_goOn_30 : decode cX7_goOn 30 = .ok (.iaload, 1) := by decide +kernel
theorem dX7_goOn_31 : decode cX7_goOn 31 = .ok (.invokevirtual 50, 3) := by decide +kernel
theorem dX7_goOn_34 : decode cX7_goOn 34 = .ok (.istore 4, 2) := by decide +kernel
theorem dX7_goOn_36 : decode cX7_goOn 36 = .ok (.aload_n 0, 1) := by decide +kernel
theorem dX7_goOn_37 : decode cX7_goOn 37 = .ok (.getfield 26, 3) := by decide +kernel
theorem dX7_goOn_40 : decode cX7_goOn 40 = .ok (.aload_n 0, 1) := by decide +kernel
theorem dX7_goOn_41 : decode cX7_goOn 41 = .ok (.getfield 9, 3) := by decide +kernel
theorem dX7_goOn_44 : decode cX7_goOn 44 = .ok (.iload_n 3, 1) := by decide +kernel
theorem dX7_goOn_45 : decode cX7_goOn 45 = .ok (.iaload, 1) := by decide +kernel
theorem dX7_goOn_46 : decode cX7_goOn 46 = .ok (.aload_n 0, 1) := by decide +kernel
theorem dX7_goOn_47 : decode cX7_goOn 47 = .ok (.getfield 15, 3) := by decide +kernel
theorem dX7_goOn_50 : decode cX7_goOn 50 = .ok (.iload_n 3, 1) := by decide +kernel
theorem dX7_goOn_51 : decode cX7_goOn 51 = .ok (.iaload, 1) := by decide +kernel
theorem dX7_goOn_52 : decode cX7_goOn 52 = .ok (.iload 4, 2) := by decide +kernel
theorem dX7_goOn_54 : decode cX7_goOn 54 = .ok (.invokevirtual 55, 3) := by decide +kernel
theorem dX7_goOn_57 : decode cX7_goOn 57 = .ok (.istore 5, 2) := by decide +kernel
theorem dX7_goOn_59 : decode cX7_goOn 59 = .ok (.aload_n 0, 1) := by decide +kernel
theorem dX7_goOn_60 : decode cX7_goOn 60 = .ok (.getfield 26, 3) := by decide +kernel
theorem dX7_goOn_63 : decode cX7_goOn 63 = .ok (.iload 5, 2) := by decide +kernel
theorem dX7_goOn_65 : decode cX7_goOn 65 = .ok (.invokestatic 61, 3) := by decide +kernel
theorem dX7_goOn_68 : decode cX7_goOn 68 = .ok (.iload 4, 2) := by decide +kernel
theorem dX7_goOn_70 : decode cX7_goOn 70 = .ok (.invokevirtual 65, 3) := by decide +kernel
theorem dX7_goOn_73 : decode cX7_goOn 73 = .ok (.ifCond .ne 28, 3) := by decide +kernel
theorem dX7_goOn_76 : decode cX7_goOn 76 = .ok (.aload_n 0, 1) := by decide +kernel
theorem dX7_goOn_77 : decode cX7_goOn 77 = .ok (.getfield 9, 3) := by decide +kernel
theorem dX7_goOn_80 : decode cX7_goOn 80 = .ok (.iload_n 2, 1) := by decide +kernel
theorem dX7_goOn_81 : decode cX7_goOn 81 = .ok (.iload 5, 2) := by decide +kernel
theorem dX7_goOn_83 : decode cX7_goOn 83 = .ok (.invokestatic 61, 3) := by decide +kernel
theorem dX7_goOn_86 : decode cX7_goOn 86 = .ok (.iastore, 1) := by decide +kernel
theorem dX7_goOn_87 : decode cX7_goOn 87 = .ok (.aload_n 0, 1) := by decide +kernel
theorem dX7_goOn_88 : decode cX7_goOn 88 = .ok (.getfield 15, 3) := by decide +kernel
theorem dX7_goOn_91 : decode cX7_goOn 91 = .ok (.iload_n 2, 1) := by decide +kernel
theorem dX7_goOn_92 : decode cX7_goOn 92 = .ok (.iload 5, 2) := by decide +kernel
theorem dX7_goOn_94 : decode cX7_goOn 94 = .ok (.invokestatic 69, 3) := by decide +kernel
theorem dX7_goOn_97 : decode cX7_goOn 97 = .ok (.iastore, 1) := by decide +kernel
theorem dX7_goOn_98 : decode cX7_goOn 98 = .ok (.iinc 2 1, 3) := by decide +kernel
theorem dX7_goOn_101 : decode cX7_goOn 101 = .ok (.iinc 3 1, 3) := by decide +kernel
theorem dX7_goOn_104 : decode cX7_goOn 104 = .ok (.goto (-92), 3) := by decide +kernel
theorem dX7_goOn_107 : decode cX7_goOn 107 = .ok (.aload_n 0, 1) := by decide +kernel
theorem dX7_goOn_108 : decode cX7_goOn 108 = .ok (.iload_n 2, 1) := by decide +kernel
theorem dX7_goOn_109 : decode cX7_goOn 109 = .ok (.putfield 46, 3) := by decide +kernel
theorem dX7_goOn_112 : decode cX7_goOn 112 = .ok (.return_, 1) := by decide +kernel
theorem dX7_keepThose_0 : decode cX7_keepThose 0 = .ok (.iconst 0, 1) := by decide +kernel
theorem dX7_keepThose_1 : decode cX7_keepThose 1 = .ok (.istore 4, 2) := by decide +kernel
theorem dX7_keepThose_3 : decode cX7_keepThose 3 = .ok (.iconst 0, 1) := by decide +kernel
theorem dX7_keepThose_4 : decode cX7_keepThose 4 = .ok (.istore 5, 2) := by decide +kernel
theorem dX7_keepThose_6 : decode cX7_keepThose 6 = .ok (.iload 5, 2) := by decide +kernel
theorem dX7_keepThose_8 : decode cX7_keepThose 8 = .ok (.aload_n 0, 1) := by decide +kernel
theorem dX7_keepThose_9 : decode cX7_keepThose 9 = .ok (.getfield 46, 3) := by decide +kernel
theorem dX7_keepThose_12 : decode cX7_keepThose 12 = .ok (.if_icmp .ge 92, 3) := by decide +kernel
theorem dX7_keepThose_15 : decode cX7_keepThose 15 = .ok (.iload_n 2, 1) := by decide +kernel
theorem dX7_keepThose_16 : decode cX7_keepThose 16 = .ok (.ifCond .eq 20, 3) := by decide +kernel
theorem dX7_keepThose_19 : decode cX7_keepThose 19 = .ok (.aload_n 0, 1) := by decide +kernel
theorem dX7_keepThose_20 : decode cX7_keepThose 20 = .ok (.getfield 18, 3) := by decide +kernel
theorem dX7_keepThose_23 : decode cX7_keepThose 23 = .ok (.aload_n 0, 1) := by decide +kernel
theorem dX7_keepThose_24 : decode cX7_keepThose 24 = .ok (.getfield 9, 3) := by decide +kernel
theorem dX7_keepThose_27 : decode cX7_keepThose 27 = .ok (.iload 5, 2) := by decide +kernel
theorem dX7_keepThose_29 : decode cX7_keepThose 29 = .ok (.iaload, 1) := by decide +kernel
theorem dX7_keepThose_30 : decode cX7_keepThose 30 = .ok (.invokevirtual 72, 3) := by decide +kernel
theorem dX7_keepThose_33 : decode cX7_keepThose 33 = .ok (.goto 17, 3) := by decide +kernel
theorem dX7_keepThose_36 : decode cX7_keepThose 36 = .ok (.aload_n 0, 1) := by decide +kernel
theorem dX7_keepThose_37 : decode cX7_keepThose 37 = .ok (.getfield 18, 3) := by decide +kernel
theorem dX7_keepThose_40 : decode cX7_keepThose 40 = .ok (.aload_n 0, 1) := by decide +kernel
theorem dX7_keepThose_41 : decode cX7_keepThose 41 = .ok (.getfield 9, 3) := by decide +kernel
theorem dX7_keepThose_44 : decode cX7_keepThose 44 = .ok (.iload 5, 2) := by decide +kernel
theorem dX7_keepThose_46 : decode cX7_keepThose 46 = .ok (.iaload, 1) := by decide +kernel
theorem dX7_keepThose_47 : decode cX7_keepThose 47 = .ok (.invokevirtual 75, 3) := by decide +kernel
theorem dX7_keepThose_50 : decode cX7_keepThose 50 = .ok (.istore 6, 2) := by decide +kernel
theorem dX7_keepThose_52 : decode cX7_keepThose 52 = .ok (.iload 6, 2) := by decide +kernel
theorem dX7_keepThose_54 : decode cX7_keepThose 54 = .ok (.iload_n 1, 1) := by decide +kernel
theorem dX7_keepThose_55 : decode cX7_keepThose 55 = .ok (.if_icmp .ne 7, 3) := by decide +kernel
theorem dX7_keepThose_58 : decode cX7_keepThose 58 = .ok (.iconst 1, 1) := by decide +kernel
theorem dX7_keepThose_59 : decode cX7_keepThose 59 = .ok (.goto 4, 3) := by decide +kernel
theorem dX7_keepThose_62 : decode cX7_keepThose 62 = .ok (.iconst 0, 1) := by decide +kernel
theorem dX7_keepThose_63 : decode cX7_keepThose 63 = .ok (.iload_n 3, 1) := by decide +kernel
theorem dX7_keepThose_64 : decode cX7_keepThose 64 = .ok (.if_icmp .eq 34, 3) := by decide +kernel
theorem dX7_keepThose_67 : decode cX7_keepThose 67 = .ok (.aload_n 0, 1) := by decide +kernel
theorem dX7_keepThose_68 : decode cX7_keepThose 68 = .ok (.getfield 9, 3) := by decide +kernel
theorem dX7_keepThose_71 : decode cX7_keepThose 71 = .ok (.iload 4, 2) := by decide +kernel
theorem dX7_keepThose_73 : decode cX7_keepThose 73 = .ok (.aload_n 0, 1) := by decide +kernel
theorem dX7_keepThose_74 : decode cX7_keepThose 74 = .ok (.getfield 9, 3) := by decide +kernel
theorem dX7_keepThose_77 : decode cX7_keepThose 77 = .ok (.iload 5, 2) := by decide +kernel
theorem dX7_keepThose_79 : decode cX7_keepThose 79 = .ok (.iaload, 1) := by decide +kernel
theorem dX7_keepThose_80 : decode cX7_keepThose 80 = .ok (.iastore, 1) := by decide +kernel
theorem dX7_keepThose_81 : decode cX7_keepThose 81 = .ok (.aload_n 0, 1) := by decide +kernel
theorem dX7_keepThose_82 : decode cX7_keepThose 82 = .ok (.getfield 15, 3) := by decide +kernel
theorem dX7_keepThose_85 : decode cX7_keepThose 85 = .ok (.iload 4, 2) := by decide +kernel
theorem dX7_keepThose_87 : decode cX7_keepThose 87 = .ok (.aload_n 0, 1) := by decide +kernel
theorem dX7_keepThose_88 : decode cX7_keepThose 88 = .ok (.getfield 15, 3) := by decide +kernel
theorem dX7_keepThose_91 : decode cX7_keepThose 91 = .ok (.iload 5, 2) := by decide +kernel
theorem dX7_keepThose_93 : decode cX7_keepThose 93 = .ok (.iaload, 1) := by decide +kernel
theorem dX7_keepThose_94 : decode cX7_keepThose 94 = .ok (.iastore, 1) := by decide +kernel
theorem dX7_keepThose_95 : decode cX7_keepThose 95 = .ok (.iinc 4 1, 3) := by decide +kernel
theorem dX7_keepThose_98 : decode cX7_keepThose 98 = .ok (.iinc 5 1, 3) := by decide +kernel
theorem dX7_keepThose_101 : decode cX7_keepThose 101 = .ok (.goto (-95), 3) := by decide +kernel
theorem dX7_keepThose_104 : decode cX7_keepThose 104 = .ok (.aload_n 0, 1) := by decide +kernel
theorem dX7_keepThose_105 : decode cX7_keepThose 105 = .ok (.iload 4, 2) := by decide +kernel
theorem dX7_keepThose_107 : decode cX7_keepThose 107 = .ok (.putfield 46, 3) := by decide +kernel
theorem dX7_keepThose_110 : decode cX7_keepThose 110 = .ok (.return_, 1) := by decide +kernel
theorem dX7_howManyIn_0 : decode cX7_howManyIn 0 = .ok (.iconst 0, 1) := by decide +kernel
theorem dX7_howManyIn_1 : decode cX7_howManyIn 1 = .ok (.istore_n 2, 1) := by decide +kernel
theorem dX7_howManyIn_2 : decode cX7_howManyIn 2 = .ok (.iconst 0, 1) := by decide +kernel
theorem dX7_howManyIn_3 : decode cX7_howManyIn 3 = .ok (.istore_n 3, 1) := by decide +kernel
theorem dX7_howManyIn_4 : decode cX7_howManyIn 4 = .ok (.iload_n 3, 1) := by decide +kernel
theorem dX7_howManyIn_5 : decode cX7_howManyIn 5 = .ok (.aload_n 0, 1) := by decide +kernel
theorem dX7_howManyIn_6 : decode cX7_howManyIn 6 = .ok (.getfield 46, 3) := by decide +kernel
theorem dX7_howManyIn_9 : decode cX7_howManyIn 9 = .ok (.if_icmp .ge 22, 3) := by decide +kernel
theorem dX7_howManyIn_12 : decode cX7_howManyIn 12 = .ok (.aload_n 0, 1) := by decide +kernel
theorem dX7_howManyIn_13 : decode cX7_howManyIn 13 = .ok (.getfield 9, 3) := by decide +kernel
theorem dX7_howManyIn_16 : decode cX7_howManyIn 16 = .ok (.iload_n 3, 1) := by decide +kernel
theorem dX7_howManyIn_17 : decode cX7_howManyIn 17 = .ok (.iaload, 1) := by decide +kernel
theorem dX7_howManyIn_18 : decode cX7_howManyIn 18 = .ok (.iload_n 1, 1) := by decide +kernel
theorem dX7_howManyIn_19 : decode cX7_howManyIn 19 = .ok (.if_icmp .ne 6, 3) := by decide +kernel
theorem dX7_howManyIn_22 : decode cX7_howManyIn 22 = .ok (.iinc 2 1, 3) := by decide +kernel
theorem dX7_howManyIn_25 : decode cX7_howManyIn 25 = .ok (.iinc 3 1, 3) := by decide +kernel
theorem dX7_howManyIn_28 : decode cX7_howManyIn 28 = .ok (.goto (-24), 3) := by decide +kernel
theorem dX7_howManyIn_31 : decode cX7_howManyIn 31 = .ok (.iload_n 2, 1) := by decide +kernel
theorem dX7_howManyIn_32 : decode cX7_howManyIn 32 = .ok (.ireturn, 1) := by decide +kernel
def wpX7_begin_L23 (sQ : AR) (sG : AR) (kx51 : AR → AR → Int32 → Prop) (post : AR → AR → AR → Prop) : Nat → AR → AR → Int32 → Prop
  | 0, _, _, _ => False
  | nf23 + 1, Q_cell, Q_heading, l1 => (((sQ 6) ≤ l1 → kx51 Q_cell Q_heading l1) ∧ (¬ (sQ 6) ≤ l1 → vp_in l1 100 ∧ ∀ Q_cell_37 : AR, Q_cell_37 = upd Q_cell l1.toNatClampNeg l1 → vp_in l1 100 ∧ ∀ Q_heading_44 : AR, Q_heading_44 = upd Q_heading l1.toNatClampNeg (0 : Int32) → ∀ l1_45 : Int32, l1_45 = (l1 + (1 : Int32)) → wpX7_begin_L23 sQ sG kx51 post nf23 Q_cell_37 Q_heading_44 l1_45))
def wpX7_begin (sQ : AR) (sG : AR) (Q_cell : AR) (Q_heading : AR) (post : AR → AR → AR → Prop) : Prop := wpX4_cells sG (fun r10 => ∀ f6_18 : Int32, f6_18 = (jmin r10 (100 : Int32)) → ∃ nf23 : Nat, wpX7_begin_L23 (upd (upd sQ 5 (1 : Int32)) 6 f6_18) sG (fun Q_cell_51 Q_heading_51 l1_51 => post (upd (upd sQ 5 (1 : Int32)) 6 f6_18) Q_cell_51 Q_heading_51) post nf23 Q_cell Q_heading (0 : Int32))
set_option maxHeartbeats 4000000 in
set_option maxRecDepth 100000 in
theorem ctX7_begin (l : Launch) (D : va_G) (cy : Nat → ClassId) (ev : Nat → Nat) (h0 : Nat) (rQ : Nat → Nat) (rG : Nat → Nat) (sQ : AR) (sG : AR) (Q_cell : AR) (Q_heading : AR) (sz : Nat) (post : AR → AR → AR → Prop) (h : wpX7_begin sQ sG Q_cell Q_heading post) : Met l yX7_begin (Cond.code yX7_begin cX7_begin 2 none :: TB) ({ frames := 1, cells := 0, slots := 0, locals := 60 }) (va_Pc [.ref h0] (PreX D cy ev [(h0, .inr (7, oX7 rQ sQ)), ((rQ 0), .inr (4, oX4 rG sG)), ((rQ 3), .inl (cy 0, 100, .inl Q_cell)), ((rQ 4), .inl (cy 0, 100, .inl Q_heading))] sz)) (va_Qv (fun (u : AR × AR × AR) => post (u.1) (u.2.1) (u.2.2)) (fun u => BkX D cy [(h0, .inr (7, oX7 rQ sQ)), ((rQ 0), .inr (4, oX4 rG sG)), ((rQ 3), .inl (cy 0, 100, .inl Q_cell)), ((rQ 4), .inl (cy 0, 100, .inl Q_heading))] sz [(h0, .inr (7, oX7 rQ (u.1))), ((rQ 0), .inr (4, oX4 rG sG)), ((rQ 3), .inl (cy 0, 100, .inl (u.2.1))), ((rQ 4), .inl (cy 0, 100, .inl (u.2.2)))]) (va_A [(h0, .inr (7, oX7 rQ sQ)), ((rQ 0), .inr (4, oX4 rG sG)), ((rQ 3), .inl (cy 0, 100, .inl Q_cell)), ((rQ 4), .inl (cy 0, 100, .inl Q_heading))] sz)) 0 0 (va_A [(h0, .inr (7, oX7 rQ sQ)), ((rQ 0), .inr (4, oX4 rG sG)), ((rQ 3), .inl (cy 0, 100, .inl Q_cell)), ((rQ 4), .inl (cy 0, 100, .inl Q_heading))] sz) := by
  refine ofWv (by decide) (Nat.le_of_ble_eq_true rfl) ?_
  intro p e s m args below meth c ls A R QQ hx hb hml hown hts hR hlk hE hK hP hD hS hA hl hret
  have hown : s.vm.findClass RX7 = some m.cls := hown
  have hRf : 1 ≤ R.frames := by rw [hR]; exact Nat.le_refl _
  have hRl : 60 ≤ R.locals := by rw [hR]; exact Nat.le_refl _
  clear hR
  have hl : lv_has ls 2 [(0, .ref h0)] := hl
  have L23 : ∀ (sQ : AR) (kx51 : AR → AR → Int32 → Prop), (∀ (Q_cell : AR) (Q_heading : AR) (l1 : Int32) (H : Heap) (locs : List Loc) (ls : Array Slot), kx51 Q_cell Q_heading l1 → va_P D clsX [(h0, .inr (7, oX7 rQ sQ)), ((rQ 0), .inr (4, oX4 rG sG)), ((rQ 3), .inl (cy 0, 100, .inl Q_cell)), ((rQ 4), .inl (cy 0, 100, .inl Q_heading))] H → va_D A [(h0, .inr (7, oX7 rQ sQ)), ((rQ 0), .inr (4, oX4 rG sG)), ((rQ 3), .inl (cy 0, 100, .inl Q_cell)), ((rQ 4), .inl (cy 0, 100, .inl Q_heading))] → va_S A s.heap H locs → lv_has ls 2 [(0, .ref h0)] → W p l e R s m args below meth c H locs 0 0 QQ (F0 m 51 ls [])) → ∀ (nf23 : Nat) (Q_cell : AR) (Q_heading : AR) (l1 : Int32) (H : Heap) (locs : List Loc) (ls : Array Slot), wpX7_begin_L23 sQ sG kx51 post nf23 Q_cell Q_heading l1 → va_P D clsX [(h0, .inr (7, oX7 rQ sQ)), ((rQ 0), .inr (4, oX4 rG sG)), ((rQ 3), .inl (cy 0, 100, .inl Q_cell)), ((rQ 4), .inl (cy 0, 100, .inl Q_heading))] H → va_D A [(h0, .inr (7, oX7 rQ sQ)), ((rQ 0), .inr (4, oX4 rG sG)), ((rQ 3), .inl (cy 0, 100, .inl Q_cell)), ((rQ 4), .inl (cy 0, 100, .inl Q_heading))] → va_S A s.heap H locs → lv_has ls 2 [(0, .ref h0), (1, .int l1)] → W p l e R s m args below meth c H locs 0 0 QQ (F0 m 23 ls []) := by
    intro sQ kx51 hk23_51 nf23
    induction nf23 with
    | zero =>
      intro Q_cell Q_heading l1 H locs ls h
      exact (show False from h).elim
    | succ nf23 ih23 =>
      intro Q_cell Q_heading l1 H locs ls h hP hD hS hl
      refine lv_iload_n hx hb dX7_begin_23 rfl (lv_at hl 1 rfl) ?_
      refine lv_aload_n hx hb dX7_begin_24 rfl (lv_at hl 0 rfl) ?_
      refine gfX7_46 (v := (sQ 6)) hx hb hts hown hK hP 0 rfl rfl dX7_begin_25 ?_
      refine lv_icmp_ge (tgt := 51) hx hb dX7_begin_28 (by decide) (fun c28 => ?_) (fun c28 => ?_)
      · have h := h.1 c28
        exact hk23_51 Q_cell Q_heading l1 _ _ _ h hP hD hS (lv_sub hl [0] rfl)
      · have h := h.2 c28
        refine lv_aload_n hx hb dX7_begin_31 rfl (lv_at hl 0 rfl) ?_
        refine gfX7_9 hx hb hts hown hK hP 0 rfl dX7_begin_32 ?_
        refine lv_iload_n hx hb dX7_begin_35 rfl (lv_at hl 1 rfl) ?_
        refine lv_iload_n hx hb dX7_begin_36 rfl (lv_at hl 1 rfl) ?_
        obtain ⟨hin, h⟩ := h
        refine sti (k := l1.toNatClampNeg) (y := l1) hx hb hK hP hD hS 2 rfl hin rfl rfl dX7_begin_37 (fun Q_cell_37 eQ_cell_37 H locs hP hD hS => ?_)
        have h := h Q_cell_37 eQ_cell_37
        have hP : va_P D clsX [(h0, .inr (7, oX7 rQ sQ)), ((rQ 0), .inr (4, oX4 rG sG)), ((rQ 3), .inl (cy 0, 100, .inl Q_cell_37)), ((rQ 4), .inl (cy 0, 100, .inl Q_heading))] H := hP
        have hD : va_D A [(h0, .inr (7, oX7 rQ sQ)), ((rQ 0), .inr (4, oX4 rG sG)), ((rQ 3), .inl (cy 0, 100, .inl Q_cell_37)), ((rQ 4), .inl (cy 0, 100, .inl Q_heading))] := hD
        refine lv_aload_n hx hb dX7_begin_38 rfl (lv_at hl 0 rfl) ?_
        refine gfX7_15 hx hb hts hown hK hP 0 rfl dX7_begin_39 ?_
        refine lv_iload_n hx hb dX7_begin_42 rfl (lv_at hl 1 rfl) ?_
        refine lv_iconst (v := (0 : Int32)) hx hb dX7_begin_43 (by decide) ?_
        obtain ⟨hin, h⟩ := h
        refine sti (k := l1.toNatClampNeg) (y := (0 : Int32)) hx hb hK hP hD hS 3 rfl hin rfl rfl dX7_begin_44 (fun Q_heading_44 eQ_heading_44 H locs hP hD hS => ?_)
        have h := h Q_heading_44 eQ_heading_44
        have hP : va_P D clsX [(h0, .inr (7, oX7 rQ sQ)), ((rQ 0), .inr (4, oX4 rG sG)), ((rQ 3), .inl (cy 0, 100, .inl Q_cell_37)), ((rQ 4), .inl (cy 0, 100, .inl Q_heading_44))] H := hP
        have hD : va_D A [(h0, .inr (7, oX7 rQ sQ)), ((rQ 0), .inr (4, oX4 rG sG)), ((rQ 3), .inl (cy 0, 100, .inl Q_cell_37)), ((rQ 4), .inl (cy 0, 100, .inl Q_heading_44))] := hD
        obtain ⟨l1_45, el1_45⟩ : ∃ y : Int32, y = l1 + (1 : Int32) := ⟨_, rfl⟩
        have h := h l1_45 el1_45
        refine lv_iinc (v := l1_45) (lv' := [(1, .int l1_45), (0, .ref h0)]) hx hb dX7_begin_45 hl (k := 1) rfl (by rw [el1_45]; rfl) (by decide) rfl (fun ls hl => ?_)
        refine lv_goto (tgt := 23) hx hb dX7_begin_48 (by decide) ?_
        exact ih23 Q_cell_37 Q_heading_44 l1_45 _ _ _ h hP hD hS (lv_sub hl [1, 0] rfl)
  refine lv_aload_n hx hb dX7_begin_0 rfl (lv_at hl 0 rfl) ?_
  refine lv_iconst (v := (1 : Int32)) hx hb dX7_begin_1 (by decide) ?_
  refine pfX7_30 hx hb hts hown hK hP hD hS 0 rfl rfl dX7_begin_2 (fun H locs hP hD hS => ?_)
  have hP : va_P D clsX [(h0, .inr (7, oX7 rQ (upd sQ 5 (1 : Int32)))), ((rQ 0), .inr (4, oX4 rG sG)), ((rQ 3), .inl (cy 0, 100, .inl Q_cell)), ((rQ 4), .inl (cy 0, 100, .inl Q_heading))] H := hP
  have hD : va_D A [(h0, .inr (7, oX7 rQ (upd sQ 5 (1 : Int32)))), ((rQ 0), .inr (4, oX4 rG sG)), ((rQ 3), .inl (cy 0, 100, .inl Q_cell)), ((rQ 4), .inl (cy 0, 100, .inl Q_heading))] := hD
  refine lv_aload_n hx hb dX7_begin_5 rfl (lv_at hl 0 rfl) ?_
  refine lv_aload_n hx hb dX7_begin_6 rfl (lv_at hl 0 rfl) ?_
  refine gfX7_18 hx hb hts hown hK hP 0 rfl dX7_begin_7 ?_
  refine clVi (As := []) (rest := [.ref h0]) (Wr := [(h0, .inr (7, oX7 rQ (upd sQ 5 (1 : Int32)))), ((rQ 3), .inl (cy 0, 100, .inl Q_cell)), ((rQ 4), .inl (cy 0, 100, .inl Q_heading))]) (cq := (RX4, TX4, 16)) ⟨hx, hb, hml, hown, hts⟩ ⟨callB_of 0 hts (goodC mw397) rfl rfl rfl (hts _ (tb mw3)) (hts _ (tb mw631)) kdX4_cells ⟨Nat.le_trans (by decide) hRf, Nat.le_trans (by decide) hRl⟩, hts _ (tb mw395), hts _ (tb mw396)⟩ (ctX4_cells l D cy ev (rQ 0) rG sG  _ _ h) hE hK hP hD hS hA [1] [0, 2, 3] rfl rfl (by decide) (by decide) (by decide) 0 rfl rfl rfl hl.1 rfl (Nat.le_of_ble_eq_true rfl) ⟨Nat.zero_le _, Nat.zero_le _⟩ dX7_begin_10 (fun r10 u H locs h hP hD hS => ?_)
  have hP : va_P D clsX [(h0, .inr (7, oX7 rQ (upd sQ 5 (1 : Int32)))), ((rQ 3), .inl (cy 0, 100, .inl Q_cell)), ((rQ 4), .inl (cy 0, 100, .inl Q_heading)), ((rQ 0), .inr (4, oX4 rG sG))] H := hP
  have hD : va_D A [(h0, .inr (7, oX7 rQ (upd sQ 5 (1 : Int32)))), ((rQ 3), .inl (cy 0, 100, .inl Q_cell)), ((rQ 4), .inl (cy 0, 100, .inl Q_heading)), ((rQ 0), .inr (4, oX4 rG sG))] := hD
  refine lv_bipush (v := (100 : Int32)) hx hb dX7_begin_13 (by decide) ?_
  refine mmin hx hb (hml.trans hl.1.symm) hts hown mw632 (Nat.le_trans (by decide) hRf) (Nat.le_trans (Nat.le_of_ble_eq_true rfl) hRl) (Nat.zero_le _) (Nat.zero_le _) dX7_begin_15 ?_
  refine lv_topi (fun f6_18 ef6_18 => ?_)
  have h := h f6_18 ef6_18
  refine pfX7_46 hx hb hts hown hK hP hD hS 0 rfl dX7_begin_18 (fun H locs hP hD hS => ?_)
  have hP : va_P D clsX [(h0, .inr (7, oX7 rQ (upd (upd sQ 5 (1 : Int32)) 6 f6_18))), ((rQ 3), .inl (cy 0, 100, .inl Q_cell)), ((rQ 4), .inl (cy 0, 100, .inl Q_heading)), ((rQ 0), .inr (4, oX4 rG sG))] H := hP
  have hD : va_D A [(h0, .inr (7, oX7 rQ (upd (upd sQ 5 (1 : Int32)) 6 f6_18))), ((rQ 3), .inl (cy 0, 100, .inl Q_cell)), ((rQ 4), .inl (cy 0, 100, .inl Q_heading)), ((rQ 0), .inr (4, oX4 rG sG))] := hD
  refine lv_iconst (v := (0 : Int32)) hx hb dX7_begin_21 (by decide) ?_
  refine lv_istore_n (lv' := [(1, .int (0 : Int32)), (0, .ref h0)]) hx hb dX7_begin_22 rfl hl (by decide) rfl (fun ls hl => ?_)
  obtain ⟨nf23, h⟩ := h
  refine L23 (upd (upd sQ 5 (1 : Int32)) 6 f6_18) _ (fun Q_cell_51 Q_heading_51 l1_51 H locs ls h hP hD hS hl => ?_) nf23 Q_cell Q_heading (0 : Int32) _ _ _ h (hP.sub [0, 3, 1, 2] rfl) (hD.sub [0, 3, 1, 2] (by decide) rfl) hS (lv_sub hl [1, 0] rfl)
  exact hret ((upd (upd sQ 5 (1 : Int32)) 6 f6_18), Q_cell_51, Q_heading_51) _ _ _ _ dX7_begin_51 h hP hD hS
def wpX7_goOn_L12 (sQ : AR) (E_nearest : AR) (W_next : AR) (W_way : AR) (W_goal : AR) (l1 : Int32) (kx107 : AR → AR → Int32 → Int32 → Prop) (post : AR → AR → AR → Prop) : Nat → AR → AR → Int32 → Int32 → Prop
  | 0, _, _, _, _ => False
  | nf12 + 1, Q_cell, Q_heading, l2, l3 => (((sQ 6) ≤ l3 → kx107 Q_cell Q_heading l2 l3) ∧ (¬ (sQ 6) ≤ l3 → vp_in l3 100 ∧ wpX1_nearestOf E_nearest l1 (Q_cell l3.toNatClampNeg) (fun r31 => vp_in l3 100 ∧ vp_in l3 100 ∧ wpX2_pace W_next W_way W_goal (Q_cell l3.toNatClampNeg) (Q_heading l3.toNatClampNeg) r31 (fun r54 => wpX2_cellOf r54 (fun r65 => wpX2_isAt W_goal r65 r31 (fun r70 => ((¬ r70 = 0 → ∀ l3_101 : Int32, l3_101 = (l3 + (1 : Int32)) → wpX7_goOn_L12 sQ E_nearest W_next W_way W_goal l1 kx107 post nf12 Q_cell Q_heading l2 l3_101) ∧ (r70 = 0 → wpX2_cellOf r54 (fun r83 => vp_in l2 100 ∧ ∀ Q_cell_86 : AR, Q_cell_86 = upd Q_cell l2.toNatClampNeg r83 → wpX2_headingOf r54 (fun r94 => vp_in l2 100 ∧ ∀ Q_heading_97 : AR, Q_heading_97 = upd Q_heading l2.toNatClampNeg r94 → ∀ l2_98 : Int32, l2_98 = (l2 + (1 : Int32)) → ∀ l3_101 : Int32, l3_101 = (l3 + (1 : Int32)) → wpX7_goOn_L12 sQ E_nearest W_next W_way W_goal l1 kx107 post nf12 Q_cell_86 Q_heading_97 l2_98 l3_101))))))))))
def wpX7_goOn (sQ : AR) (Q_cell : AR) (Q_heading : AR) (E_nearest : AR) (W_next : AR) (W_way : AR) (W_goal : AR) (x1 : Int32) (post : AR → AR → AR → Prop) : Prop := ((¬ (sQ 5) = 0 → ∃ nf12 : Nat, wpX7_goOn_L12 sQ E_nearest W_next W_way W_goal x1 (fun Q_cell_107 Q_heading_107 l2_107 l3_107 => post (upd sQ 6 l2_107) Q_cell_107 Q_heading_107) post nf12 Q_cell Q_heading (0 : Int32) (0 : Int32)) ∧ ((sQ 5) = 0 → post sQ Q_cell Q_heading))
set_option maxHeartbeats 4000000 in
set_option maxRecDepth 100000 in
theorem ctX7_goOn (l : Launch) (D : va_G) (cy : Nat → ClassId) (ev : Nat → Nat) (h0 : Nat) (rQ : Nat → Nat) (rE : Nat → Nat) (rW : Nat → Nat) (sQ : AR) (Q_cell : AR) (Q_heading : AR) (E_nearest : AR) (W_next : AR) (W_way : AR) (W_goal : AR) (x1 : Int32) (sz : Nat) (post : AR → AR → AR → Prop) (h : wpX7_goOn sQ Q_cell Q_heading E_nearest W_next W_way W_goal x1 post) : Met l yX7_goOn (Cond.code yX7_goOn cX7_goOn 6 none :: TB) ({ frames := 1, cells := 0, slots := 0, locals := 24 }) (va_Pc [.ref h0, .int x1] (PreX D cy ev [(h0, .inr (7, oX7 rQ sQ)), ((rQ 1), .inr (1, oX1 rE)), ((rQ 2), .inr (2, oX2 rW)), ((rQ 3), .inl (cy 0, 100, .inl Q_cell)), ((rQ 4), .inl (cy 0, 100, .inl Q_heading)), ((rE 1), .inl (cy 1, 3200, .inl E_nearest)), ((rW 0), .inl (cy 0, 400, .inl W_next)), ((rW 1), .inl (cy 0, 500, .inl W_way)), ((rW 2), .inl (cy 0, 5, .inl W_goal))] sz)) (va_Qv (fun (u : AR × AR × AR) => post (u.1) (u.2.1) (u.2.2)) (fun u => BkX D cy [(h0, .inr (7, oX7 rQ sQ)), ((rQ 1), .inr (1, oX1 rE)), ((rQ 2), .inr (2, oX2 rW)), ((rQ 3), .inl (cy 0, 100, .inl Q_cell)), ((rQ 4), .inl (cy 0, 100, .inl Q_heading)), ((rE 1), .inl (cy 1, 3200, .inl E_nearest)), ((rW 0), .inl (cy 0, 400, .inl W_next)), ((rW 1), .inl (cy 0, 500, .inl W_way)), ((rW 2), .inl (cy 0, 5, .inl W_goal))] sz [(h0, .inr (7, oX7 rQ (u.1))), ((rQ 1), .inr (1, oX1 rE)), ((rQ 2), .inr (2, oX2 rW)), ((rQ 3), .inl (cy 0, 100, .inl (u.2.1))), ((rQ 4), .inl (cy 0, 100, .inl (u.2.2))), ((rE 1), .inl (cy 1, 3200, .inl E_nearest)), ((rW 0), .inl (cy 0, 400, .inl W_next)), ((rW 1), .inl (cy 0, 500, .inl W_way)), ((rW 2), .inl (cy 0, 5, .inl W_goal))]) (va_A [(h0, .inr (7, oX7 rQ sQ)), ((rQ 1), .inr (1, oX1 rE)), ((rQ 2), .inr (2, oX2 rW)), ((rQ 3), .inl (cy 0, 100, .inl Q_cell)), ((rQ 4), .inl (cy 0, 100, .inl Q_heading)), ((rE 1), .inl (cy 1, 3200, .inl E_nearest)), ((rW 0), .inl (cy 0, 400, .inl W_next)), ((rW 1), .inl (cy 0, 500, .inl W_way)), ((rW 2), .inl (cy 0, 5, .inl W_goal))] sz)) 0 0 (va_A [(h0, .inr (7, oX7 rQ sQ)), ((rQ 1), .inr (1, oX1 rE)), ((rQ 2), .inr (2, oX2 rW)), ((rQ 3), .inl (cy 0, 100, .inl Q_cell)), ((rQ 4), .inl (cy 0, 100, .inl Q_heading)), ((rE 1), .inl (cy 1, 3200, .inl E_nearest)), ((rW 0), .inl (cy 0, 400, .inl W_next)), ((rW 1), .inl (cy 0, 500, .inl W_way)), ((rW 2), .inl (cy 0, 5, .inl W_goal))] sz) := by
  refine ofWv (by decide) (Nat.le_of_ble_eq_true rfl) ?_
  intro p e s m args below meth c ls A R QQ hx hb hml hown hts hR hlk hE hK hP hD hS hA hl hret
  have hown : s.vm.findClass RX7 = some m.cls := hown
  have hRf : 1 ≤ R.frames := by rw [hR]; exact Nat.le_refl _
  have hRl : 24 ≤ R.locals := by rw [hR]; exact Nat.le_refl _
  clear hR
  have hl : lv_has ls 6 [(0, .ref h0), (1, .int x1)] := hl
  have L12 : ∀ (l1 : Int32) (kx107 : AR → AR → Int32 → Int32 → Prop), (∀ (Q_cell : AR) (Q_heading : AR) (l2 : Int32) (l3 : Int32) (H : Heap) (locs : List Loc) (ls : Array Slot), kx107 Q_cell Q_heading l2 l3 → va_P D clsX [(h0, .inr (7, oX7 rQ sQ)), ((rQ 1), .inr (1, oX1 rE)), ((rQ 2), .inr (2, oX2 rW)), ((rQ 3), .inl (cy 0, 100, .inl Q_cell)), ((rQ 4), .inl (cy 0, 100, .inl Q_heading)), ((rE 1), .inl (cy 1, 3200, .inl E_nearest)), ((rW 0), .inl (cy 0, 400, .inl W_next)), ((rW 1), .inl (cy 0, 500, .inl W_way)), ((rW 2), .inl (cy 0, 5, .inl W_goal))] H → va_D A [(h0, .inr (7, oX7 rQ sQ)), ((rQ 1), .inr (1, oX1 rE)), ((rQ 2), .inr (2, oX2 rW)), ((rQ 3), .inl (cy 0, 100, .inl Q_cell)), ((rQ 4), .inl (cy 0, 100, .inl Q_heading)), ((rE 1), .inl (cy 1, 3200, .inl E_nearest)), ((rW 0), .inl (cy 0, 400, .inl W_next)), ((rW 1), .inl (cy 0, 500, .inl W_way)), ((rW 2), .inl (cy 0, 5, .inl W_goal))] → va_S A s.heap H locs → lv_has ls 6 [(0, .ref h0), (2, .int l2)] → W p l e R s m args below meth c H locs 0 0 QQ (F0 m 107 ls [])) → ∀ (nf12 : Nat) (Q_cell : AR) (Q_heading : AR) (l2 : Int32) (l3 : Int32) (H : Heap) (locs : List Loc) (ls : Array Slot), wpX7_goOn_L12 sQ E_nearest W_next W_way W_goal l1 kx107 post nf12 Q_cell Q_heading l2 l3 → va_P D clsX [(h0, .inr (7, oX7 rQ sQ)), ((rQ 1), .inr (1, oX1 rE)), ((rQ 2), .inr (2, oX2 rW)), ((rQ 3), .inl (cy 0, 100, .inl Q_cell)), ((rQ 4), .inl (cy 0, 100, .inl Q_heading)), ((rE 1), .inl (cy 1, 3200, .inl E_nearest)), ((rW 0), .inl (cy 0, 400, .inl W_next)), ((rW 1), .inl (cy 0, 500, .inl W_way)), ((rW 2), .inl (cy 0, 5, .inl W_goal))] H → va_D A [(h0, .inr (7, oX7 rQ sQ)), ((rQ 1), .inr (1, oX1 rE)), ((rQ 2), .inr (2, oX2 rW)), ((rQ 3), .inl (cy 0, 100, .inl Q_cell)), ((rQ 4), .inl (cy 0, 100, .inl Q_heading)), ((rE 1), .inl (cy 1, 3200, .inl E_nearest)), ((rW 0), .inl (cy 0, 400, .inl W_next)), ((rW 1), .inl (cy 0, 500, .inl W_way)), ((rW 2), .inl (cy 0, 5, .inl W_goal))] → va_S A s.heap H locs → lv_has ls 6 [(0, .ref h0), (1, .int l1), (2, .int l2), (3, .int l3)] → W p l e R s m args below meth c H locs 0 0 QQ (F0 m 12 ls []) := by
    intro l1 kx107 hk12_107 nf12
    induction nf12 with
    | zero =>
      intro Q_cell Q_heading l2 l3 H locs ls h
      exact (show False from h).elim
    | succ nf12 ih12 =>
      intro Q_cell Q_heading l2 l3 H locs ls h hP hD hS hl
      refine lv_iload_n hx hb dX7_goOn_12 rfl (lv_at hl 3 rfl) ?_
      refine lv_aload_n hx hb dX7_goOn_13 rfl (lv_at hl 0 rfl) ?_
      refine gfX7_46 (v := (sQ 6)) hx hb hts hown hK hP 0 rfl rfl dX7_goOn_14 ?_
      refine lv_icmp_ge (tgt := 107) hx hb dX7_goOn_17 (by decide) (fun c17 => ?_) (fun c17 => ?_)
      · have h := h.1 c17
        exact hk12_107 Q_cell Q_heading l2 l3 _ _ _ h hP hD hS (lv_sub hl [0, 2] rfl)
      · have h := h.2 c17
        refine lv_aload_n hx hb dX7_goOn_20 rfl (lv_at hl 0 rfl) ?_
        refine gfX7_22 hx hb hts hown hK hP 0 rfl dX7_goOn_21 ?_
        refine lv_iload_n hx hb dX7_goOn_24 rfl (lv_at hl 1 rfl) ?_
        refine lv_aload_n hx hb dX7_goOn_25 rfl (lv_at hl 0 rfl) ?_
        refine gfX7_9 hx hb hts hown hK hP 0 rfl dX7_goOn_26 ?_
        refine lv_iload_n hx hb dX7_goOn_29 rfl (lv_at hl 3 rfl) ?_
        obtain ⟨hin, h⟩ := h
        refine ldi (k := l3.toNatClampNeg) hx hb hK hP 3 rfl hin rfl dX7_goOn_30 ?_
        refine clVi (As := [.int l1, .int (Q_cell l3.toNatClampNeg)]) (rest := []) (Wr := [(h0, .inr (7, oX7 rQ sQ)), ((rQ 2), .inr (2, oX2 rW)), ((rQ 3), .inl (cy 0, 100, .inl Q_cell)), ((rQ 4), .inl (cy 0, 100, .inl Q_heading)), ((rW 0), .inl (cy 0, 400, .inl W_next)), ((rW 1), .inl (cy 0, 500, .inl W_way)), ((rW 2), .inl (cy 0, 5, .inl W_goal))]) (cq := (RX1, TX1, 5)) ⟨hx, hb, hml, hown, hts⟩ ⟨callB_of 2 hts (goodC mw583) rfl rfl rfl (hts _ (tb mw4)) (hts _ (tb mw602)) kdX1_nearestOf ⟨Nat.le_trans (by decide) hRf, Nat.le_trans (by decide) hRl⟩, hts _ (tb mw581), hts _ (tb mw582)⟩ (ctX1_nearestOf l D cy ev (rQ 1) rE E_nearest l1 (Q_cell l3.toNatClampNeg) _ _ h) hE hK hP hD hS hA [1, 5] [0, 2, 3, 4, 6, 7, 8] rfl rfl (by decide) (by decide) (by decide) 0 rfl rfl rfl hl.1 rfl (Nat.le_of_ble_eq_true rfl) ⟨Nat.zero_le _, Nat.zero_le _⟩ dX7_goOn_31 (fun r31 u H locs h hP hD hS => ?_)
        have hP : va_P D clsX [(h0, .inr (7, oX7 rQ sQ)), ((rQ 2), .inr (2, oX2 rW)), ((rQ 3), .inl (cy 0, 100, .inl Q_cell)), ((rQ 4), .inl (cy 0, 100, .inl Q_heading)), ((rW 0), .inl (cy 0, 400, .inl W_next)), ((rW 1), .inl (cy 0, 500, .inl W_way)), ((rW 2), .inl (cy 0, 5, .inl W_goal)), ((rQ 1), .inr (1, oX1 rE)), ((rE 1), .inl (cy 1, 3200, .inl E_nearest))] H := hP
        have hD : va_D A [(h0, .inr (7, oX7 rQ sQ)), ((rQ 2), .inr (2, oX2 rW)), ((rQ 3), .inl (cy 0, 100, .inl Q_cell)), ((rQ 4), .inl (cy 0, 100, .inl Q_heading)), ((rW 0), .inl (cy 0, 400, .inl W_next)), ((rW 1), .inl (cy 0, 500, .inl W_way)), ((rW 2), .inl (cy 0, 5, .inl W_goal)), ((rQ 1), .inr (1, oX1 rE)), ((rE 1), .inl (cy 1, 3200, .inl E_nearest))] := hD
        refine lv_istore (lv' := [(4, .int r31), (0, .ref h0), (1, .int l1), (2, .int l2), (3, .int l3)]) hx hb dX7_goOn_34 hl (by decide) rfl (fun ls hl => ?_)
        refine lv_aload_n hx hb dX7_goOn_36 rfl (lv_at hl 1 rfl) ?_
        refine gfX7_26 hx hb hts hown hK hP 0 rfl dX7_goOn_37 ?_
        refine lv_aload_n hx hb dX7_goOn_40 rfl (lv_at hl 1 rfl) ?_
        refine gfX7_9 hx hb hts hown hK hP 0 rfl dX7_goOn_41 ?_
        refine lv_iload_n hx hb dX7_goOn_44 rfl (lv_at hl 4 rfl) ?_
        obtain ⟨hin, h⟩ := h
        refine ldi (k := l3.toNatClampNeg) hx hb hK hP 2 rfl hin rfl dX7_goOn_45 ?_
        refine lv_aload_n hx hb dX7_goOn_46 rfl (lv_at hl 1 rfl) ?_
        refine gfX7_15 hx hb hts hown hK hP 0 rfl dX7_goOn_47 ?_
        refine lv_iload_n hx hb dX7_goOn_50 rfl (lv_at hl 4 rfl) ?_
        obtain ⟨hin, h⟩ := h
        refine ldi (k := l3.toNatClampNeg) hx hb hK hP 3 rfl hin rfl dX7_goOn_51 ?_
        refine lv_iload hx hb dX7_goOn_52 (lv_at hl 0 rfl) ?_
        refine clVi (As := [.int (Q_cell l3.toNatClampNeg), .int (Q_heading l3.toNatClampNeg), .int r31]) (rest := []) (Wr := [(h0, .inr (7, oX7 rQ sQ)), ((rQ 3), .inl (cy 0, 100, .inl Q_cell)), ((rQ 4), .inl (cy 0, 100, .inl Q_heading)), ((rQ 1), .inr (1, oX1 rE)), ((rE 1), .inl (cy 1, 3200, .inl E_nearest))]) (cq := (RX2, TX2, 3)) ⟨hx, hb, hml, hown, hts⟩ ⟨callB_of 3 hts (goodC mw587) rfl rfl rfl (hts _ (tb mw5)) (hts _ (tb mw603)) kdX2_pace ⟨Nat.le_trans (by decide) hRf, Nat.le_trans (by decide) hRl⟩, hts _ (tb mw585), hts _ (tb mw586)⟩ (ctX2_pace l D cy ev (rQ 2) rW W_next W_way W_goal (Q_cell l3.toNatClampNeg) (Q_heading l3.toNatClampNeg) r31 _ _ h) hE hK hP hD hS hA [1, 4, 5, 6] [0, 2, 3, 7, 8] rfl rfl (by decide) (by decide) (by decide) 0 rfl rfl rfl hl.1 rfl (Nat.le_of_ble_eq_true rfl) ⟨Nat.zero_le _, Nat.zero_le _⟩ dX7_goOn_54 (fun r54 u H locs h hP hD hS => ?_)
        have hP : va_P D clsX [(h0, .inr (7, oX7 rQ sQ)), ((rQ 3), .inl (cy 0, 100, .inl Q_cell)), ((rQ 4), .inl (cy 0, 100, .inl Q_heading)), ((rQ 1), .inr (1, oX1 rE)), ((rE 1), .inl (cy 1, 3200, .inl E_nearest)), ((rQ 2), .inr (2, oX2 rW)), ((rW 0), .inl (cy 0, 400, .inl W_next)), ((rW 1), .inl (cy 0, 500, .inl W_way)), ((rW 2), .inl (cy 0, 5, .inl W_goal))] H := hP
        have hD : va_D A [(h0, .inr (7, oX7 rQ sQ)), ((rQ 3), .inl (cy 0, 100, .inl Q_cell)), ((rQ 4), .inl (cy 0, 100, .inl Q_heading)), ((rQ 1), .inr (1, oX1 rE)), ((rE 1), .inl (cy 1, 3200, .inl E_nearest)), ((rQ 2), .inr (2, oX2 rW)), ((rW 0), .inl (cy 0, 400, .inl W_next)), ((rW 1), .inl (cy 0, 500, .inl W_way)), ((rW 2), .inl (cy 0, 5, .inl W_goal))] := hD
        refine lv_istore (lv' := [(5, .int r54), (4, .int r31), (0, .ref h0), (1, .int l1), (2, .int l2), (3, .int l3)]) hx hb dX7_goOn_57 hl (by decide) rfl (fun ls hl => ?_)
        refine lv_aload_n hx hb dX7_goOn_59 rfl (lv_at hl 2 rfl) ?_
        refine gfX7_26 hx hb hts hown hK hP 0 rfl dX7_goOn_60 ?_
        refine lv_iload hx hb dX7_goOn_63 (lv_at hl 0 rfl) ?_
        refine clSi (As := [.int r54]) (rest := [.ref (rQ 2)]) (Wr := [(h0, .inr (7, oX7 rQ sQ)), ((rQ 3), .inl (cy 0, 100, .inl Q_cell)), ((rQ 4), .inl (cy 0, 100, .inl Q_heading)), ((rQ 1), .inr (1, oX1 rE)), ((rE 1), .inl (cy 1, 3200, .inl E_nearest)), ((rQ 2), .inr (2, oX2 rW)), ((rW 0), .inl (cy 0, 400, .inl W_next)), ((rW 1), .inl (cy 0, 500, .inl W_way)), ((rW 2), .inl (cy 0, 5, .inl W_goal))]) ⟨hx, hb, hml, hown, hts⟩ ⟨callB_of 1 hts (goodC mw590) rfl rfl rfl (hts _ (tb mw5)) (hts _ (tb mw604)) kdX2_cellOf ⟨Nat.le_trans (by decide) hRf, Nat.le_trans (by decide) hRl⟩, hts _ (tb mw589)⟩ (ctX2_cellOf l D cy ev  r54 _ _ h) hE hK hP hD hS hA [] [0, 1, 2, 3, 4, 5, 6, 7, 8] rfl rfl (by decide) (by decide) (by decide) rfl hl.1 rfl (Nat.le_of_ble_eq_true rfl) ⟨Nat.zero_le _, Nat.zero_le _⟩ dX7_goOn_65 (fun r65 u H locs h hP hD hS => ?_)
        have hP : va_P D clsX [(h0, .inr (7, oX7 rQ sQ)), ((rQ 3), .inl (cy 0, 100, .inl Q_cell)), ((rQ 4), .inl (cy 0, 100, .inl Q_heading)), ((rQ 1), .inr (1, oX1 rE)), ((rE 1), .inl (cy 1, 3200, .inl E_nearest)), ((rQ 2), .inr (2, oX2 rW)), ((rW 0), .inl (cy 0, 400, .inl W_next)), ((rW 1), .inl (cy 0, 500, .inl W_way)), ((rW 2), .inl (cy 0, 5, .inl W_goal))] H := hP
        have hD : va_D A [(h0, .inr (7, oX7 rQ sQ)), ((rQ 3), .inl (cy 0, 100, .inl Q_cell)), ((rQ 4), .inl (cy 0, 100, .inl Q_heading)), ((rQ 1), .inr (1, oX1 rE)), ((rE 1), .inl (cy 1, 3200, .inl E_nearest)), ((rQ 2), .inr (2, oX2 rW)), ((rW 0), .inl (cy 0, 400, .inl W_next)), ((rW 1), .inl (cy 0, 500, .inl W_way)), ((rW 2), .inl (cy 0, 5, .inl W_goal))] := hD
        refine lv_iload hx hb dX7_goOn_68 (lv_at hl 1 rfl) ?_
        refine clVi (As := [.int r65, .int r31]) (rest := []) (Wr := [(h0, .inr (7, oX7 rQ sQ)), ((rQ 3), .inl (cy 0, 100, .inl Q_cell)), ((rQ 4), .inl (cy 0, 100, .inl Q_heading)), ((rQ 1), .inr (1, oX1 rE)), ((rE 1), .inl (cy 1, 3200, .inl E_nearest)), ((rW 0), .inl (cy 0, 400, .inl W_next)), ((rW 1), .inl (cy 0, 500, .inl W_way))]) (cq := (RX2, TX2, 3)) ⟨hx, hb, hml, hown, hts⟩ ⟨callB_of 2 hts (goodC mw597) rfl rfl rfl (hts _ (tb mw5)) (hts _ (tb mw605)) kdX2_isAt ⟨Nat.le_trans (by decide) hRf, Nat.le_trans (by decide) hRl⟩, hts _ (tb mw595), hts _ (tb mw596)⟩ (ctX2_isAt l D cy ev (rQ 2) rW W_goal r65 r31 _ _ h) hE hK hP hD hS hA [5, 8] [0, 1, 2, 3, 4, 6, 7] rfl rfl (by decide) (by decide) (by decide) 0 rfl rfl rfl hl.1 rfl (Nat.le_of_ble_eq_true rfl) ⟨Nat.zero_le _, Nat.zero_le _⟩ dX7_goOn_70 (fun r70 u H locs h hP hD hS => ?_)
        have hP : va_P D clsX [(h0, .inr (7, oX7 rQ sQ)), ((rQ 3), .inl (cy 0, 100, .inl Q_cell)), ((rQ 4), .inl (cy 0, 100, .inl Q_heading)), ((rQ 1), .inr (1, oX1 rE)), ((rE 1), .inl (cy 1, 3200, .inl E_nearest)), ((rW 0), .inl (cy 0, 400, .inl W_next)), ((rW 1), .inl (cy 0, 500, .inl W_way)), ((rQ 2), .inr (2, oX2 rW)), ((rW 2), .inl (cy 0, 5, .inl W_goal))] H := hP
        have hD : va_D A [(h0, .inr (7, oX7 rQ sQ)), ((rQ 3), .inl (cy 0, 100, .inl Q_cell)), ((rQ 4), .inl (cy 0, 100, .inl Q_heading)), ((rQ 1), .inr (1, oX1 rE)), ((rE 1), .inl (cy 1, 3200, .inl E_nearest)), ((rW 0), .inl (cy 0, 400, .inl W_next)), ((rW 1), .inl (cy 0, 500, .inl W_way)), ((rQ 2), .inr (2, oX2 rW)), ((rW 2), .inl (cy 0, 5, .inl W_goal))] := hD
        refine lv_if_ne (tgt := 101) hx hb dX7_goOn_73 (by decide) (fun c73 => ?_) (fun c73 => ?_)
        · have h := h.1 c73
          obtain ⟨l3_101, el3_101⟩ : ∃ y : Int32, y = l3 + (1 : Int32) := ⟨_, rfl⟩
          have h := h l3_101 el3_101
          refine lv_iinc (v := l3_101) (lv' := [(3, .int l3_101), (5, .int r54), (4, .int r31), (0, .ref h0), (1, .int l1), (2, .int l2)]) hx hb dX7_goOn_101 hl (k := 5) rfl (by rw [el3_101]; rfl) (by decide) rfl (fun ls hl => ?_)
          refine lv_goto (tgt := 12) hx hb dX7_goOn_104 (by decide) ?_
          exact ih12 Q_cell Q_heading l2 l3_101 _ _ _ h (hP.sub [0, 3, 7, 1, 2, 4, 5, 6, 8] rfl) (hD.sub [0, 3, 7, 1, 2, 4, 5, 6, 8] (by decide) rfl) hS (lv_sub hl [3, 4, 5, 0] rfl)
        · have h := h.2 c73
          refine lv_aload_n hx hb dX7_goOn_76 rfl (lv_at hl 2 rfl) ?_
          refine gfX7_9 hx hb hts hown hK hP 0 rfl dX7_goOn_77 ?_
          refine lv_iload_n hx hb dX7_goOn_80 rfl (lv_at hl 4 rfl) ?_
          refine lv_iload hx hb dX7_goOn_81 (lv_at hl 0 rfl) ?_
          refine clSi (As := [.int r54]) (rest := [.int l2, .ref (rQ 3)]) (Wr := [(h0, .inr (7, oX7 rQ sQ)), ((rQ 3), .inl (cy 0, 100, .inl Q_cell)), ((rQ 4), .inl (cy 0, 100, .inl Q_heading)), ((rQ 1), .inr (1, oX1 rE)), ((rE 1), .inl (cy 1, 3200, .inl E_nearest)), ((rW 0), .inl (cy 0, 400, .inl W_next)), ((rW 1), .inl (cy 0, 500, .inl W_way)), ((rQ 2), .inr (2, oX2 rW)), ((rW 2), .inl (cy 0, 5, .inl W_goal))]) ⟨hx, hb, hml, hown, hts⟩ ⟨callB_of 1 hts (goodC mw590) rfl rfl rfl (hts _ (tb mw5)) (hts _ (tb mw604)) kdX2_cellOf ⟨Nat.le_trans (by decide) hRf, Nat.le_trans (by decide) hRl⟩, hts _ (tb mw589)⟩ (ctX2_cellOf l D cy ev  r54 _ _ h) hE hK hP hD hS hA [] [0, 1, 2, 3, 4, 5, 6, 7, 8] rfl rfl (by decide) (by decide) (by decide) rfl hl.1 rfl (Nat.le_of_ble_eq_true rfl) ⟨Nat.zero_le _, Nat.zero_le _⟩ dX7_goOn_83 (fun r83 u H locs h hP hD hS => ?_)
          have hP : va_P D clsX [(h0, .inr (7, oX7 rQ sQ)), ((rQ 3), .inl (cy 0, 100, .inl Q_cell)), ((rQ 4), .inl (cy 0, 100, .inl Q_heading)), ((rQ 1), .inr (1, oX1 rE)), ((rE 1), .inl (cy 1, 3200, .inl E_nearest)), ((rW 0), .inl (cy 0, 400, .inl W_next)), ((rW 1), .inl (cy 0, 500, .inl W_way)), ((rQ 2), .inr (2, oX2 rW)), ((rW 2), .inl (cy 0, 5, .inl W_goal))] H := hP
          have hD : va_D A [(h0, .inr (7, oX7 rQ sQ)), ((rQ 3), .inl (cy 0, 100, .inl Q_cell)), ((rQ 4), .inl (cy 0, 100, .inl Q_heading)), ((rQ 1), .inr (1, oX1 rE)), ((rE 1), .inl (cy 1, 3200, .inl E_nearest)), ((rW 0), .inl (cy 0, 400, .inl W_next)), ((rW 1), .inl (cy 0, 500, .inl W_way)), ((rQ 2), .inr (2, oX2 rW)), ((rW 2), .inl (cy 0, 5, .inl W_goal))] := hD
          obtain ⟨hin, h⟩ := h
          refine sti (k := l2.toNatClampNeg) (y := r83) hx hb hK hP hD hS 1 rfl hin rfl rfl dX7_goOn_86 (fun Q_cell_86 eQ_cell_86 H locs hP hD hS => ?_)
          have h := h Q_cell_86 eQ_cell_86
          have hP : va_P D clsX [(h0, .inr (7, oX7 rQ sQ)), ((rQ 3), .inl (cy 0, 100, .inl Q_cell_86)), ((rQ 4), .inl (cy 0, 100, .inl Q_heading)), ((rQ 1), .inr (1, oX1 rE)), ((rE 1), .inl (cy 1, 3200, .inl E_nearest)), ((rW 0), .inl (cy 0, 400, .inl W_next)), ((rW 1), .inl (cy 0, 500, .inl W_way)), ((rQ 2), .inr (2, oX2 rW)), ((rW 2), .inl (cy 0, 5, .inl W_goal))] H := hP
          have hD : va_D A [(h0, .inr (7, oX7 rQ sQ)), ((rQ 3), .inl (cy 0, 100, .inl Q_cell_86)), ((rQ 4), .inl (cy 0, 100, .inl Q_heading)), ((rQ 1), .inr (1, oX1 rE)), ((rE 1), .inl (cy 1, 3200, .inl E_nearest)), ((rW 0), .inl (cy 0, 400, .inl W_next)), ((rW 1), .inl (cy 0, 500, .inl W_way)), ((rQ 2), .inr (2, oX2 rW)), ((rW 2), .inl (cy 0, 5, .inl W_goal))] := hD
          refine lv_aload_n hx hb dX7_goOn_87 rfl (lv_at hl 2 rfl) ?_
          refine gfX7_15 hx hb hts hown hK hP 0 rfl dX7_goOn_88 ?_
          refine lv_iload_n hx hb dX7_goOn_91 rfl (lv_at hl 4 rfl) ?_
          refine lv_iload hx hb dX7_goOn_92 (lv_at hl 0 rfl) ?_
          refine clSi (As := [.int r54]) (rest := [.int l2, .ref (rQ 4)]) (Wr := [(h0, .inr (7, oX7 rQ sQ)), ((rQ 3), .inl (cy 0, 100, .inl Q_cell_86)), ((rQ 4), .inl (cy 0, 100, .inl Q_heading)), ((rQ 1), .inr (1, oX1 rE)), ((rE 1), .inl (cy 1, 3200, .inl E_nearest)), ((rW 0), .inl (cy 0, 400, .inl W_next)), ((rW 1), .inl (cy 0, 500, .inl W_way)), ((rQ 2), .inr (2, oX2 rW)), ((rW 2), .inl (cy 0, 5, .inl W_goal))]) ⟨hx, hb, hml, hown, hts⟩ ⟨callB_of 1 hts (goodC mw593) rfl rfl rfl (hts _ (tb mw5)) (hts _ (tb mw606)) kdX2_headingOf ⟨Nat.le_trans (by decide) hRf, Nat.le_trans (by decide) hRl⟩, hts _ (tb mw592)⟩ (ctX2_headingOf l D cy ev  r54 _ _ h) hE hK hP hD hS hA [] [0, 1, 2, 3, 4, 5, 6, 7, 8] rfl rfl (by decide) (by decide) (by decide) rfl hl.1 rfl (Nat.le_of_ble_eq_true rfl) ⟨Nat.zero_le _, Nat.zero_le _⟩ dX7_goOn_94 (fun r94 u H locs h hP hD hS => ?_)
          have hP : va_P D clsX [(h0, .inr (7, oX7 rQ sQ)), ((rQ 3), .inl (cy 0, 100, .inl Q_cell_86)), ((rQ 4), .inl (cy 0, 100, .inl Q_heading)), ((rQ 1), .inr (1, oX1 rE)), ((rE 1), .inl (cy 1, 3200, .inl E_nearest)), ((rW 0), .inl (cy 0, 400, .inl W_next)), ((rW 1), .inl (cy 0, 500, .inl W_way)), ((rQ 2), .inr (2, oX2 rW)), ((rW 2), .inl (cy 0, 5, .inl W_goal))] H := hP
          have hD : va_D A [(h0, .inr (7, oX7 rQ sQ)), ((rQ 3), .inl (cy 0, 100, .inl Q_cell_86)), ((rQ 4), .inl (cy 0, 100, .inl Q_heading)), ((rQ 1), .inr (1, oX1 rE)), ((rE 1), .inl (cy 1, 3200, .inl E_nearest)), ((rW 0), .inl (cy 0, 400, .inl W_next)), ((rW 1), .inl (cy 0, 500, .inl W_way)), ((rQ 2), .inr (2, oX2 rW)), ((rW 2), .inl (cy 0, 5, .inl W_goal))] := hD
          obtain ⟨hin, h⟩ := h
          refine sti (k := l2.toNatClampNeg) (y := r94) hx hb hK hP hD hS 2 rfl hin rfl rfl dX7_goOn_97 (fun Q_heading_97 eQ_heading_97 H locs hP hD hS => ?_)
          have h := h Q_heading_97 eQ_heading_97
          have hP : va_P D clsX [(h0, .inr (7, oX7 rQ sQ)), ((rQ 3), .inl (cy 0, 100, .inl Q_cell_86)), ((rQ 4), .inl (cy 0, 100, .inl Q_heading_97)), ((rQ 1), .inr (1, oX1 rE)), ((rE 1), .inl (cy 1, 3200, .inl E_nearest)), ((rW 0), .inl (cy 0, 400, .inl W_next)), ((rW 1), .inl (cy 0, 500, .inl W_way)), ((rQ 2), .inr (2, oX2 rW)), ((rW 2), .inl (cy 0, 5, .inl W_goal))] H := hP
          have hD : va_D A [(h0, .inr (7, oX7 rQ sQ)), ((rQ 3), .inl (cy 0, 100, .inl Q_cell_86)), ((rQ 4), .inl (cy 0, 100, .inl Q_heading_97)), ((rQ 1), .inr (1, oX1 rE)), ((rE 1), .inl (cy 1, 3200, .inl E_nearest)), ((rW 0), .inl (cy 0, 400, .inl W_next)), ((rW 1), .inl (cy 0, 500, .inl W_way)), ((rQ 2), .inr (2, oX2 rW)), ((rW 2), .inl (cy 0, 5, .inl W_goal))] := hD
          obtain ⟨l2_98, el2_98⟩ : ∃ y : Int32, y = l2 + (1 : Int32) := ⟨_, rfl⟩
          have h := h l2_98 el2_98
          refine lv_iinc (v := l2_98) (lv' := [(2, .int l2_98), (5, .int r54), (4, .int r31), (0, .ref h0), (1, .int l1), (3, .int l3)]) hx hb dX7_goOn_98 hl (k := 4) rfl (by rw [el2_98]; rfl) (by decide) rfl (fun ls hl => ?_)
          obtain ⟨l3_101, el3_101⟩ : ∃ y : Int32, y = l3 + (1 : Int32) := ⟨_, rfl⟩
          have h := h l3_101 el3_101
          refine lv_iinc (v := l3_101) (lv' := [(3, .int l3_101), (2, .int l2_98), (5, .int r54), (4, .int r31), (0, .ref h0), (1, .int l1)]) hx hb dX7_goOn_101 hl (k := 5) rfl (by rw [el3_101]; rfl) (by decide) rfl (fun ls hl => ?_)
          refine lv_goto (tgt := 12) hx hb dX7_goOn_104 (by decide) ?_
          exact ih12 Q_cell_86 Q_heading_97 l2_98 l3_101 _ _ _ h (hP.sub [0, 3, 7, 1, 2, 4, 5, 6, 8] rfl) (hD.sub [0, 3, 7, 1, 2, 4, 5, 6, 8] (by decide) rfl) hS (lv_sub hl [4, 5, 1, 0] rfl)
  refine lv_aload_n hx hb dX7_goOn_0 rfl (lv_at hl 0 rfl) ?_
  refine gfX7_30 (v := (sQ 5)) hx hb hts hown hK hP 0 rfl rfl dX7_goOn_1 ?_
  refine lv_if_ne (tgt := 8) hx hb dX7_goOn_4 (by decide) (fun c4 => ?_) (fun c4 => ?_)
  · have h := h.1 c4
    refine lv_iconst (v := (0 : Int32)) hx hb dX7_goOn_8 (by decide) ?_
    refine lv_istore_n (lv' := [(2, .int (0 : Int32)), (0, .ref h0), (1, .int x1)]) hx hb dX7_goOn_9 rfl hl (by decide) rfl (fun ls hl => ?_)
    refine lv_iconst (v := (0 : Int32)) hx hb dX7_goOn_10 (by decide) ?_
    refine lv_istore_n (lv' := [(3, .int (0 : Int32)), (2, .int (0 : Int32)), (0, .ref h0), (1, .int x1)]) hx hb dX7_goOn_11 rfl hl (by decide) rfl (fun ls hl => ?_)
    obtain ⟨nf12, h⟩ := h
    refine L12 x1 _ (fun Q_cell_107 Q_heading_107 l2_107 l3_107 H locs ls h hP hD hS hl => ?_) nf12 Q_cell Q_heading (0 : Int32) (0 : Int32) _ _ _ h hP hD hS (lv_sub hl [2, 3, 1, 0] rfl)
    refine lv_aload_n hx hb dX7_goOn_107 rfl (lv_at hl 0 rfl) ?_
    refine lv_iload_n hx hb dX7_goOn_108 rfl (lv_at hl 1 rfl) ?_
    refine pfX7_46 hx hb hts hown hK hP hD hS 0 rfl dX7_goOn_109 (fun H locs hP hD hS => ?_)
    have hP : va_P D clsX [(h0, .inr (7, oX7 rQ (upd sQ 6 l2_107))), ((rQ 1), .inr (1, oX1 rE)), ((rQ 2), .inr (2, oX2 rW)), ((rQ 3), .inl (cy 0, 100, .inl Q_cell_107)), ((rQ 4), .inl (cy 0, 100, .inl Q_heading_107)), ((rE 1), .inl (cy 1, 3200, .inl E_nearest)), ((rW 0), .inl (cy 0, 400, .inl W_next)), ((rW 1), .inl (cy 0, 500, .inl W_way)), ((rW 2), .inl (cy 0, 5, .inl W_goal))] H := hP
    have hD : va_D A [(h0, .inr (7, oX7 rQ (upd sQ 6 l2_107))), ((rQ 1), .inr (1, oX1 rE)), ((rQ 2), .inr (2, oX2 rW)), ((rQ 3), .inl (cy 0, 100, .inl Q_cell_107)), ((rQ 4), .inl (cy 0, 100, .inl Q_heading_107)), ((rE 1), .inl (cy 1, 3200, .inl E_nearest)), ((rW 0), .inl (cy 0, 400, .inl W_next)), ((rW 1), .inl (cy 0, 500, .inl W_way)), ((rW 2), .inl (cy 0, 5, .inl W_goal))] := hD
    exact hret ((upd sQ 6 l2_107), Q_cell_107, Q_heading_107) _ _ _ _ dX7_goOn_112 h hP hD hS
  · have h := h.2 c4
    exact hret (sQ, Q_cell, Q_heading) _ _ _ _ dX7_goOn_7 h hP hD hS
def wpX7_keepThose_J63 (sQ : AR) (sG : AR) (Q_cell : AR) (Q_heading : AR) (l1 : Int32) (l2 : Int32) (l3 : Int32) (l4 : Int32) (l5 : Int32) (t0 : Int32) (kb : AR → AR → Int32 → Int32 → Prop) (kx104 : AR → AR → Int32 → Int32 → Prop) (post : AR → AR → AR → Prop) : Prop := ((t0 = l3 → ∀ l5_98 : Int32, l5_98 = (l5 + (1 : Int32)) → kb Q_cell Q_heading l4 l5_98) ∧ (¬ t0 = l3 → vp_in l5 100 ∧ vp_in l4 100 ∧ ∀ Q_cell_80 : AR, Q_cell_80 = upd Q_cell l4.toNatClampNeg (Q_cell l5.toNatClampNeg) → vp_in l5 100 ∧ vp_in l4 100 ∧ ∀ Q_heading_94 : AR, Q_heading_94 = upd Q_heading l4.toNatClampNeg (Q_heading l5.toNatClampNeg) → ∀ l4_95 : Int32, l4_95 = (l4 + (1 : Int32)) → ∀ l5_98 : Int32, l5_98 = (l5 + (1 : Int32)) → kb Q_cell_80 Q_heading_94 l4_95 l5_98))
def wpX7_keepThose_J50 (sQ : AR) (sG : AR) (Q_cell : AR) (Q_heading : AR) (l1 : Int32) (l2 : Int32) (l3 : Int32) (l4 : Int32) (l5 : Int32) (t0 : Int32) (kb : AR → AR → Int32 → Int32 → Prop) (kx104 : AR → AR → Int32 → Int32 → Prop) (post : AR → AR → AR → Prop) : Prop := ((¬ t0 = l1 → wpX7_keepThose_J63 sQ sG Q_cell Q_heading l1 l2 l3 l4 l5 (0 : Int32) kb kx104 post) ∧ (t0 = l1 → wpX7_keepThose_J63 sQ sG Q_cell Q_heading l1 l2 l3 l4 l5 (1 : Int32) kb kx104 post))
def wpX7_keepThose_L6 (sQ : AR) (sG : AR) (l1 : Int32) (l2 : Int32) (l3 : Int32) (kx104 : AR → AR → Int32 → Int32 → Prop) (post : AR → AR → AR → Prop) : Nat → AR → AR → Int32 → Int32 → Prop
  | 0, _, _, _, _ => False
  | nf6 + 1, Q_cell, Q_heading, l4, l5 => (((sQ 6) ≤ l5 → kx104 Q_cell Q_heading l4 l5) ∧ (¬ (sQ 6) ≤ l5 → ((l2 = 0 → vp_in l5 100 ∧ wpX4_xOf sG (Q_cell l5.toNatClampNeg) (fun r47 => wpX7_keepThose_J50 sQ sG Q_cell Q_heading l1 l2 l3 l4 l5 r47 (fun b0 b1 b2 b3 => wpX7_keepThose_L6 sQ sG l1 l2 l3 kx104 post nf6 b0 b1 b2 b3) kx104 post)) ∧ (¬ l2 = 0 → vp_in l5 100 ∧ wpX4_yOf sG (Q_cell l5.toNatClampNeg) (fun r30 => wpX7_keepThose_J50 sQ sG Q_cell Q_heading l1 l2 l3 l4 l5 r30 (fun b0 b1 b2 b3 => wpX7_keepThose_L6 sQ sG l1 l2 l3 kx104 post nf6 b0 b1 b2 b3) kx104 post)))))
def wpX7_keepThose (sQ : AR) (sG : AR) (Q_cell : AR) (Q_heading : AR) (x1 : Int32) (x2 : Int32) (x3 : Int32) (post : AR → AR → AR → Prop) : Prop := ∃ nf6 : Nat, wpX7_keepThose_L6 sQ sG x1 x2 x3 (fun Q_cell_104 Q_heading_104 l4_104 l5_104 => post (upd sQ 6 l4_104) Q_cell_104 Q_heading_104) post nf6 Q_cell Q_heading (0 : Int32) (0 : Int32)
set_option maxHeartbeats 4000000 in
set_option maxRecDepth 100000 in
theorem ctX7_keepThose (l : Launch) (D : va_G) (cy : Nat → ClassId) (ev : Nat → Nat) (h0 : Nat) (rQ : Nat → Nat) (rG : Nat → Nat) (sQ : AR) (sG : AR) (Q_cell : AR) (Q_heading : AR) (x1 : Int32) (x2 : Int32) (x3 : Int32) (sz : Nat) (post : AR → AR → AR → Prop) (h : wpX7_keepThose sQ sG Q_cell Q_heading x1 x2 x3 post) : Met l yX7_keepThose (Cond.code yX7_keepThose cX7_keepThose 7 none :: TB) ({ frames := 1, cells := 0, slots := 0, locals := 21 }) (va_Pc [.ref h0, .int x1, .int x2, .int x3] (PreX D cy ev [(h0, .inr (7, oX7 rQ sQ)), ((rQ 0), .inr (4, oX4 rG sG)), ((rQ 3), .inl (cy 0, 100, .inl Q_cell)), ((rQ 4), .inl (cy 0, 100, .inl Q_heading))] sz)) (va_Qv (fun (u : AR × AR × AR) => post (u.1) (u.2.1) (u.2.2)) (fun u => BkX D cy [(h0, .inr (7, oX7 rQ sQ)), ((rQ 0), .inr (4, oX4 rG sG)), ((rQ 3), .inl (cy 0, 100, .inl Q_cell)), ((rQ 4), .inl (cy 0, 100, .inl Q_heading))] sz [(h0, .inr (7, oX7 rQ (u.1))), ((rQ 0), .inr (4, oX4 rG sG)), ((rQ 3), .inl (cy 0, 100, .inl (u.2.1))), ((rQ 4), .inl (cy 0, 100, .inl (u.2.2)))]) (va_A [(h0, .inr (7, oX7 rQ sQ)), ((rQ 0), .inr (4, oX4 rG sG)), ((rQ 3), .inl (cy 0, 100, .inl Q_cell)), ((rQ 4), .inl (cy 0, 100, .inl Q_heading))] sz)) 0 0 (va_A [(h0, .inr (7, oX7 rQ sQ)), ((rQ 0), .inr (4, oX4 rG sG)), ((rQ 3), .inl (cy 0, 100, .inl Q_cell)), ((rQ 4), .inl (cy 0, 100, .inl Q_heading))] sz) := by
  refine ofWv (by decide) (Nat.le_of_ble_eq_true rfl) ?_
  intro p e s m args below meth c ls A R QQ hx hb hml hown hts hR hlk hE hK hP hD hS hA hl hret
  have hown : s.vm.findClass RX7 = some m.cls := hown
  have hRf : 1 ≤ R.frames := by rw [hR]; exact Nat.le_refl _
  have hRl : 21 ≤ R.locals := by rw [hR]; exact Nat.le_refl _
  clear hR
  have hl : lv_has ls 7 [(0, .ref h0), (1, .int x1), (2, .int x2), (3, .int x3)] := hl
  have L6 : ∀ (l1 : Int32) (l2 : Int32) (l3 : Int32) (kx104 : AR → AR → Int32 → Int32 → Prop), (∀ (Q_cell : AR) (Q_heading : AR) (l4 : Int32) (l5 : Int32) (H : Heap) (locs : List Loc) (ls : Array Slot), kx104 Q_cell Q_heading l4 l5 → va_P D clsX [(h0, .inr (7, oX7 rQ sQ)), ((rQ 0), .inr (4, oX4 rG sG)), ((rQ 3), .inl (cy 0, 100, .inl Q_cell)), ((rQ 4), .inl (cy 0, 100, .inl Q_heading))] H → va_D A [(h0, .inr (7, oX7 rQ sQ)), ((rQ 0), .inr (4, oX4 rG sG)), ((rQ 3), .inl (cy 0, 100, .inl Q_cell)), ((rQ 4), .inl (cy 0, 100, .inl Q_heading))] → va_S A s.heap H locs → lv_has ls 7 [(0, .ref h0), (4, .int l4)] → W p l e R s m args below meth c H locs 0 0 QQ (F0 m 104 ls [])) → ∀ (nf6 : Nat) (Q_cell : AR) (Q_heading : AR) (l4 : Int32) (l5 : Int32) (H : Heap) (locs : List Loc) (ls : Array Slot), wpX7_keepThose_L6 sQ sG l1 l2 l3 kx104 post nf6 Q_cell Q_heading l4 l5 → va_P D clsX [(h0, .inr (7, oX7 rQ sQ)), ((rQ 0), .inr (4, oX4 rG sG)), ((rQ 3), .inl (cy 0, 100, .inl Q_cell)), ((rQ 4), .inl (cy 0, 100, .inl Q_heading))] H → va_D A [(h0, .inr (7, oX7 rQ sQ)), ((rQ 0), .inr (4, oX4 rG sG)), ((rQ 3), .inl (cy 0, 100, .inl Q_cell)), ((rQ 4), .inl (cy 0, 100, .inl Q_heading))] → va_S A s.heap H locs → lv_has ls 7 [(0, .ref h0), (1, .int l1), (2, .int l2), (3, .int l3), (4, .int l4), (5, .int l5)] → W p l e R s m args below meth c H locs 0 0 QQ (F0 m 6 ls []) := by
    intro l1 l2 l3 kx104 hk6_104 nf6
    induction nf6 with
    | zero =>
      intro Q_cell Q_heading l4 l5 H locs ls h
      exact (show False from h).elim
    | succ nf6 ih6 =>
      intro Q_cell Q_heading l4 l5 H locs ls h hP hD hS hl
      have J50 : ∀ (Q_cell : AR) (Q_heading : AR) (l4 : Int32) (l5 : Int32) (t0 : Int32) (H : Heap) (locs : List Loc) (ls : Array Slot), wpX7_keepThose_J50 sQ sG Q_cell Q_heading l1 l2 l3 l4 l5 t0 (fun b0 b1 b2 b3 => wpX7_keepThose_L6 sQ sG l1 l2 l3 kx104 post nf6 b0 b1 b2 b3) kx104 post → va_P D clsX [(h0, .inr (7, oX7 rQ sQ)), ((rQ 0), .inr (4, oX4 rG sG)), ((rQ 3), .inl (cy 0, 100, .inl Q_cell)), ((rQ 4), .inl (cy 0, 100, .inl Q_heading))] H → va_D A [(h0, .inr (7, oX7 rQ sQ)), ((rQ 0), .inr (4, oX4 rG sG)), ((rQ 3), .inl (cy 0, 100, .inl Q_cell)), ((rQ 4), .inl (cy 0, 100, .inl Q_heading))] → va_S A s.heap H locs → lv_has ls 7 [(0, .ref h0), (1, .int l1), (2, .int l2), (3, .int l3), (4, .int l4), (5, .int l5)] → W p l e R s m args below meth c H locs 0 0 QQ (F0 m 50 ls [.int t0]) := by
        intro Q_cell Q_heading l4 l5 t0 H locs ls h hP hD hS hl
        have J63 : ∀ (Q_cell : AR) (Q_heading : AR) (l4 : Int32) (l5 : Int32) (t0 : Int32) (H : Heap) (locs : List Loc) (ls : Array Slot), wpX7_keepThose_J63 sQ sG Q_cell Q_heading l1 l2 l3 l4 l5 t0 (fun b0 b1 b2 b3 => wpX7_keepThose_L6 sQ sG l1 l2 l3 kx104 post nf6 b0 b1 b2 b3) kx104 post → va_P D clsX [(h0, .inr (7, oX7 rQ sQ)), ((rQ 0), .inr (4, oX4 rG sG)), ((rQ 3), .inl (cy 0, 100, .inl Q_cell)), ((rQ 4), .inl (cy 0, 100, .inl Q_heading))] H → va_D A [(h0, .inr (7, oX7 rQ sQ)), ((rQ 0), .inr (4, oX4 rG sG)), ((rQ 3), .inl (cy 0, 100, .inl Q_cell)), ((rQ 4), .inl (cy 0, 100, .inl Q_heading))] → va_S A s.heap H locs → lv_has ls 7 [(0, .ref h0), (1, .int l1), (2, .int l2), (3, .int l3), (4, .int l4), (5, .int l5)] → W p l e R s m args below meth c H locs 0 0 QQ (F0 m 63 ls [.int t0]) := by
          intro Q_cell Q_heading l4 l5 t0 H locs ls h hP hD hS hl
          refine lv_iload_n hx hb dX7_keepThose_63 rfl (lv_at hl 3 rfl) ?_
          refine lv_icmp_eq (tgt := 98) hx hb dX7_keepThose_64 (by decide) (fun c64 => ?_) (fun c64 => ?_)
          · have h := h.1 c64
            obtain ⟨l5_98, el5_98⟩ : ∃ y : Int32, y = l5 + (1 : Int32) := ⟨_, rfl⟩
            have h := h l5_98 el5_98
            refine lv_iinc (v := l5_98) (lv' := [(5, .int l5_98), (0, .ref h0), (1, .int l1), (2, .int l2), (3, .int l3), (4, .int l4)]) hx hb dX7_keepThose_98 hl (k := 5) rfl (by rw [el5_98]; rfl) (by decide) rfl (fun ls hl => ?_)
            refine lv_goto (tgt := 6) hx hb dX7_keepThose_101 (by decide) ?_
            exact ih6 Q_cell Q_heading l4 l5_98 _ _ _ h hP hD hS (lv_sub hl [1, 2, 3, 4, 5, 0] rfl)
          · have h := h.2 c64
            refine lv_aload_n hx hb dX7_keepThose_67 rfl (lv_at hl 0 rfl) ?_
            refine gfX7_9 hx hb hts hown hK hP 0 rfl dX7_keepThose_68 ?_
            refine lv_iload hx hb dX7_keepThose_71 (lv_at hl 4 rfl) ?_
            refine lv_aload_n hx hb dX7_keepThose_73 rfl (lv_at hl 0 rfl) ?_
            refine gfX7_9 hx hb hts hown hK hP 0 rfl dX7_keepThose_74 ?_
            refine lv_iload hx hb dX7_keepThose_77 (lv_at hl 5 rfl) ?_
            obtain ⟨hin, h⟩ := h
            refine ldi (k := l5.toNatClampNeg) hx hb hK hP 2 rfl hin rfl dX7_keepThose_79 ?_
            obtain ⟨hin, h⟩ := h
            refine sti (k := l4.toNatClampNeg) (y := (Q_cell l5.toNatClampNeg)) hx hb hK hP hD hS 2 rfl hin rfl rfl dX7_keepThose_80 (fun Q_cell_80 eQ_cell_80 H locs hP hD hS => ?_)
            have h := h Q_cell_80 eQ_cell_80
            have hP : va_P D clsX [(h0, .inr (7, oX7 rQ sQ)), ((rQ 0), .inr (4, oX4 rG sG)), ((rQ 3), .inl (cy 0, 100, .inl Q_cell_80)), ((rQ 4), .inl (cy 0, 100, .inl Q_heading))] H := hP
            have hD : va_D A [(h0, .inr (7, oX7 rQ sQ)), ((rQ 0), .inr (4, oX4 rG sG)), ((rQ 3), .inl (cy 0, 100, .inl Q_cell_80)), ((rQ 4), .inl (cy 0, 100, .inl Q_heading))] := hD
            refine lv_aload_n hx hb dX7_keepThose_81 rfl (lv_at hl 0 rfl) ?_
            refine gfX7_15 hx hb hts hown hK hP 0 rfl dX7_keepThose_82 ?_
            refine lv_iload hx hb dX7_keepThose_85 (lv_at hl 4 rfl) ?_
            refine lv_aload_n hx hb dX7_keepThose_87 rfl (lv_at hl 0 rfl) ?_
            refine gfX7_15 hx hb hts hown hK hP 0 rfl dX7_keepThose_88 ?_
            refine lv_iload hx hb dX7_keepThose_91 (lv_at hl 5 rfl) ?_
            obtain ⟨hin, h⟩ := h
            refine ldi (k := l5.toNatClampNeg) hx hb hK hP 3 rfl hin rfl dX7_keepThose_93 ?_
            obtain ⟨hin, h⟩ := h
            refine sti (k := l4.toNatClampNeg) (y := (Q_heading l5.toNatClampNeg)) hx hb hK hP hD hS 3 rfl hin rfl rfl dX7_keepThose_94 (fun Q_heading_94 eQ_heading_94 H locs hP hD hS => ?_)
            have h := h Q_heading_94 eQ_heading_94
            have hP : va_P D clsX [(h0, .inr (7, oX7 rQ sQ)), ((rQ 0), .inr (4, oX4 rG sG)), ((rQ 3), .inl (cy 0, 100, .inl Q_cell_80)), ((rQ 4), .inl (cy 0, 100, .inl Q_heading_94))] H := hP
            have hD : va_D A [(h0, .inr (7, oX7 rQ sQ)), ((rQ 0), .inr (4, oX4 rG sG)), ((rQ 3), .inl (cy 0, 100, .inl Q_cell_80)), ((rQ 4), .inl (cy 0, 100, .inl Q_heading_94))] := hD
            obtain ⟨l4_95, el4_95⟩ : ∃ y : Int32, y = l4 + (1 : Int32) := ⟨_, rfl⟩
            have h := h l4_95 el4_95
            refine lv_iinc (v := l4_95) (lv' := [(4, .int l4_95), (0, .ref h0), (1, .int l1), (2, .int l2), (3, .int l3), (5, .int l5)]) hx hb dX7_keepThose_95 hl (k := 4) rfl (by rw [el4_95]; rfl) (by decide) rfl (fun ls hl => ?_)
            obtain ⟨l5_98, el5_98⟩ : ∃ y : Int32, y = l5 + (1 : Int32) := ⟨_, rfl⟩
            have h := h l5_98 el5_98
            refine lv_iinc (v := l5_98) (lv' := [(5, .int l5_98), (4, .int l4_95), (0, .ref h0), (1, .int l1), (2, .int l2), (3, .int l3)]) hx hb dX7_keepThose_98 hl (k := 5) rfl (by rw [el5_98]; rfl) (by decide) rfl (fun ls hl => ?_)
            refine lv_goto (tgt := 6) hx hb dX7_keepThose_101 (by decide) ?_
            exact ih6 Q_cell_80 Q_heading_94 l4_95 l5_98 _ _ _ h hP hD hS (lv_sub hl [2, 3, 4, 5, 1, 0] rfl)
        refine lv_istore (lv' := [(6, .int t0), (0, .ref h0), (1, .int l1), (2, .int l2), (3, .int l3), (4, .int l4), (5, .int l5)]) hx hb dX7_keepThose_50 hl (by decide) rfl (fun ls hl => ?_)
        refine lv_iload hx hb dX7_keepThose_52 (lv_at hl 0 rfl) ?_
        refine lv_iload_n hx hb dX7_keepThose_54 rfl (lv_at hl 2 rfl) ?_
        refine lv_icmp_ne (tgt := 62) hx hb dX7_keepThose_55 (by decide) (fun c55 => ?_) (fun c55 => ?_)
        · have h := h.1 c55
          refine lv_iconst (v := (0 : Int32)) hx hb dX7_keepThose_62 (by decide) ?_
          exact J63 Q_cell Q_heading l4 l5 (0 : Int32) _ _ _ h hP hD hS (lv_sub hl [1, 2, 3, 4, 5, 6] rfl)
        · have h := h.2 c55
          refine lv_iconst (v := (1 : Int32)) hx hb dX7_keepThose_58 (by decide) ?_
          refine lv_goto (tgt := 63) hx hb dX7_keepThose_59 (by decide) ?_
          exact J63 Q_cell Q_heading l4 l5 (1 : Int32) _ _ _ h hP hD hS (lv_sub hl [1, 2, 3, 4, 5, 6] rfl)
      refine lv_iload hx hb dX7_keepThose_6 (lv_at hl 5 rfl) ?_
      refine lv_aload_n hx hb dX7_keepThose_8 rfl (lv_at hl 0 rfl) ?_
      refine gfX7_46 (v := (sQ 6)) hx hb hts hown hK hP 0 rfl rfl dX7_keepThose_9 ?_
      refine lv_icmp_ge (tgt := 104) hx hb dX7_keepThose_12 (by decide) (fun c12 => ?_) (fun c12 => ?_)
      · have h := h.1 c12
        exact hk6_104 Q_cell Q_heading l4 l5 _ _ _ h hP hD hS (lv_sub hl [0, 4] rfl)
      · have h := h.2 c12
        refine lv_iload_n hx hb dX7_keepThose_15 rfl (lv_at hl 2 rfl) ?_
        refine lv_if_eq (tgt := 36) hx hb dX7_keepThose_16 (by decide) (fun c16 => ?_) (fun c16 => ?_)
        · have h := h.1 c16
          refine lv_aload_n hx hb dX7_keepThose_36 rfl (lv_at hl 0 rfl) ?_
          refine gfX7_18 hx hb hts hown hK hP 0 rfl dX7_keepThose_37 ?_
          refine lv_aload_n hx hb dX7_keepThose_40 rfl (lv_at hl 0 rfl) ?_
          refine gfX7_9 hx hb hts hown hK hP 0 rfl dX7_keepThose_41 ?_
          refine lv_iload hx hb dX7_keepThose_44 (lv_at hl 5 rfl) ?_
          obtain ⟨hin, h⟩ := h
          refine ldi (k := l5.toNatClampNeg) hx hb hK hP 2 rfl hin rfl dX7_keepThose_46 ?_
          refine clVi (As := [.int (Q_cell l5.toNatClampNeg)]) (rest := []) (Wr := [(h0, .inr (7, oX7 rQ sQ)), ((rQ 3), .inl (cy 0, 100, .inl Q_cell)), ((rQ 4), .inl (cy 0, 100, .inl Q_heading))]) (cq := (RX4, TX4, 16)) ⟨hx, hb, hml, hown, hts⟩ ⟨callB_of 1 hts (goodC mw412) rfl rfl rfl (hts _ (tb mw3)) (hts _ (tb mw1034)) kdX4_xOf ⟨Nat.le_trans (by decide) hRf, Nat.le_trans (by decide) hRl⟩, hts _ (tb mw410), hts _ (tb mw411)⟩ (ctX4_xOf l D cy ev (rQ 0) rG sG (Q_cell l5.toNatClampNeg) _ _ h) hE hK hP hD hS hA [1] [0, 2, 3] rfl rfl (by decide) (by decide) (by decide) 0 rfl rfl rfl hl.1 rfl (Nat.le_of_ble_eq_true rfl) ⟨Nat.zero_le _, Nat.zero_le _⟩ dX7_keepThose_47 (fun r47 u H locs h hP hD hS => ?_)
          have hP : va_P D clsX [(h0, .inr (7, oX7 rQ sQ)), ((rQ 3), .inl (cy 0, 100, .inl Q_cell)), ((rQ 4), .inl (cy 0, 100, .inl Q_heading)), ((rQ 0), .inr (4, oX4 rG sG))] H := hP
          have hD : va_D A [(h0, .inr (7, oX7 rQ sQ)), ((rQ 3), .inl (cy 0, 100, .inl Q_cell)), ((rQ 4), .inl (cy 0, 100, .inl Q_heading)), ((rQ 0), .inr (4, oX4 rG sG))] := hD
          exact J50 Q_cell Q_heading l4 l5 r47 _ _ _ h (hP.sub [0, 3, 1, 2] rfl) (hD.sub [0, 3, 1, 2] (by decide) rfl) hS hl
        · have h := h.2 c16
          refine lv_aload_n hx hb dX7_keepThose_19 rfl (lv_at hl 0 rfl) ?_
          refine gfX7_18 hx hb hts hown hK hP 0 rfl dX7_keepThose_20 ?_
          refine lv_aload_n hx hb dX7_keepThose_23 rfl (lv_at hl 0 rfl) ?_
          refine gfX7_9 hx hb hts hown hK hP 0 rfl dX7_keepThose_24 ?_
          refine lv_iload hx hb dX7_keepThose_27 (lv_at hl 5 rfl) ?_
          obtain ⟨hin, h⟩ := h
          refine ldi (k := l5.toNatClampNeg) hx hb hK hP 2 rfl hin rfl dX7_keepThose_29 ?_
          refine clVi (As := [.int (Q_cell l5.toNatClampNeg)]) (rest := []) (Wr := [(h0, .inr (7, oX7 rQ sQ)), ((rQ 3), .inl (cy 0, 100, .inl Q_cell)), ((rQ 4), .inl (cy 0, 100, .inl Q_heading))]) (cq := (RX4, TX4, 16)) ⟨hx, hb, hml, hown, hts⟩ ⟨callB_of 1 hts (goodC mw416) rfl rfl rfl (hts _ (tb mw3)) (hts _ (tb mw1033)) kdX4_yOf ⟨Nat.le_trans (by decide) hRf, Nat.le_trans (by decide) hRl⟩, hts _ (tb mw414), hts _ (tb mw415)⟩ (ctX4_yOf l D cy ev (rQ 0) rG sG (Q_cell l5.toNatClampNeg) _ _ h) hE hK hP hD hS hA [1] [0, 2, 3] rfl rfl (by decide) (by decide) (by decide) 0 rfl rfl rfl hl.1 rfl (Nat.le_of_ble_eq_true rfl) ⟨Nat.zero_le _, Nat.zero_le _⟩ dX7_keepThose_30 (fun r30 u H locs h hP hD hS => ?_)
          have hP : va_P D clsX [(h0, .inr (7, oX7 rQ sQ)), ((rQ 3), .inl (cy 0, 100, .inl Q_cell)), ((rQ 4), .inl (cy 0, 100, .inl Q_heading)), ((rQ 0), .inr (4, oX4 rG sG))] H := hP
          have hD : va_D A [(h0, .inr (7, oX7 rQ sQ)), ((rQ 3), .inl (cy 0, 100, .inl Q_cell)), ((rQ 4), .inl (cy 0, 100, .inl Q_heading)), ((rQ 0), .inr (4, oX4 rG sG))] := hD
          refine lv_goto (tgt := 50) hx hb dX7_keepThose_33 (by decide) ?_
          exact J50 Q_cell Q_heading l4 l5 r30 _ _ _ h (hP.sub [0, 3, 1, 2] rfl) (hD.sub [0, 3, 1, 2] (by decide) rfl) hS hl
  refine lv_iconst (v := (0 : Int32)) hx hb dX7_keepThose_0 (by decide) ?_
  refine lv_istore (lv' := [(4, .int (0 : Int32)), (0, .ref h0), (1, .int x1), (2, .int x2), (3, .int x3)]) hx hb dX7_keepThose_1 hl (by decide) rfl (fun ls hl => ?_)
  refine lv_iconst (v := (0 : Int32)) hx hb dX7_keepThose_3 (by decide) ?_
  refine lv_istore (lv' := [(5, .int (0 : Int32)), (4, .int (0 : Int32)), (0, .ref h0), (1, .int x1), (2, .int x2), (3, .int x3)]) hx hb dX7_keepThose_4 hl (by decide) rfl (fun ls hl => ?_)
  obtain ⟨nf6, h⟩ := h
  refine L6 x1 x2 x3 _ (fun Q_cell_104 Q_heading_104 l4_104 l5_104 H locs ls h hP hD hS hl => ?_) nf6 Q_cell Q_heading (0 : Int32) (0 : Int32) _ _ _ h hP hD hS (lv_sub hl [2, 3, 4, 5, 1, 0] rfl)
  refine lv_aload_n hx hb dX7_keepThose_104 rfl (lv_at hl 0 rfl) ?_
  refine lv_iload hx hb dX7_keepThose_105 (lv_at hl 1 rfl) ?_
  refine pfX7_46 hx hb hts hown hK hP hD hS 0 rfl dX7_keepThose_107 (fun H locs hP hD hS => ?_)
  have hP : va_P D clsX [(h0, .inr (7, oX7 rQ (upd sQ 6 l4_104))), ((rQ 0), .inr (4, oX4 rG sG)), ((rQ 3), .inl (cy 0, 100, .inl Q_cell_104)), ((rQ 4), .inl (cy 0, 100, .inl Q_heading_104))] H := hP
  have hD : va_D A [(h0, .inr (7, oX7 rQ (upd sQ 6 l4_104))), ((rQ 0), .inr (4, oX4 rG sG)), ((rQ 3), .inl (cy 0, 100, .inl Q_cell_104)), ((rQ 4), .inl (cy 0, 100, .inl Q_heading_104))] := hD
  exact hret ((upd sQ 6 l4_104), Q_cell_104, Q_heading_104) _ _ _ _ dX7_keepThose_110 h hP hD hS
def wpX7_howManyIn_L4 (sQ : AR) (Q_cell : AR) (l1 : Int32) (kx31 : Int32 → Int32 → Prop) (post : Int32 → Prop) : Nat → Int32 → Int32 → Prop
  | 0, _, _ => False
  | nf4 + 1, l2, l3 => (((sQ 6) ≤ l3 → kx31 l2 l3) ∧ (¬ (sQ 6) ≤ l3 → vp_in l3 100 ∧ ((¬ (Q_cell l3.toNatClampNeg) = l1 → ∀ l3_25 : Int32, l3_25 = (l3 + (1 : Int32)) → wpX7_howManyIn_L4 sQ Q_cell l1 kx31 post nf4 l2 l3_25) ∧ ((Q_cell l3.toNatClampNeg) = l1 → ∀ l2_22 : Int32, l2_22 = (l2 + (1 : Int32)) → ∀ l3_25 : Int32, l3_25 = (l3 + (1 : Int32)) → wpX7_howManyIn_L4 sQ Q_cell l1 kx31 post nf4 l2_22 l3_25))))
def wpX7_howManyIn (sQ : AR) (Q_cell : AR) (x1 : Int32) (post : Int32 → Prop) : Prop := ∃ nf4 : Nat, wpX7_howManyIn_L4 sQ Q_cell x1 (fun l2_31 l3_31 => post l2_31) post nf4 (0 : Int32) (0 : Int32)
set_option maxHeartbeats 4000000 in
set_option maxRecDepth 100000 in
theorem ctX7_howManyIn (l : Launch) (D : va_G) (cy : Nat → ClassId) (ev : Nat → Nat) (h0 : Nat) (rQ : Nat → Nat) (sQ : AR) (Q_cell : AR) (x1 : Int32) (sz : Nat) (post : Int32 → Prop) (h : wpX7_howManyIn sQ Q_cell x1 post) : Met l yX7_howManyIn (Cond.code yX7_howManyIn cX7_howManyIn 4 (some .int) :: TB) ({ frames := 0, cells := 0, slots := 0, locals := 0 }) (va_Pc [.ref h0, .int x1] (PreX D cy ev [(h0, .inr (7, oX7 rQ sQ)), ((rQ 3), .inl (cy 0, 100, .inl Q_cell))] sz)) (va_Qi (fun (r : Int32) (u : Unit) => post r) (fun u => BkX D cy [(h0, .inr (7, oX7 rQ sQ)), ((rQ 3), .inl (cy 0, 100, .inl Q_cell))] sz [(h0, .inr (7, oX7 rQ sQ)), ((rQ 3), .inl (cy 0, 100, .inl Q_cell))]) (va_A [(h0, .inr (7, oX7 rQ sQ)), ((rQ 3), .inl (cy 0, 100, .inl Q_cell))] sz)) 0 0 (va_A [(h0, .inr (7, oX7 rQ sQ)), ((rQ 3), .inl (cy 0, 100, .inl Q_cell))] sz) := by
  refine ofWi (by decide) (Nat.le_of_ble_eq_true rfl) ?_
  intro p e s m args below meth c ls A R QQ hx hb hml hown hts hR hlk hE hK hP hD hS hA hl hret
  have hown : s.vm.findClass RX7 = some m.cls := hown
  have hRf : 0 ≤ R.frames := by rw [hR]; exact Nat.le_refl _
  have hRl : 0 ≤ R.locals := by rw [hR]; exact Nat.le_refl _
  clear hR
  have hl : lv_has ls 4 [(0, .ref h0), (1, .int x1)] := hl
  have L4 : ∀ (l1 : Int32) (kx31 : Int32 → Int32 → Prop), (∀ (l2 : Int32) (l3 : Int32) (H : Heap) (locs : List Loc) (ls : Array Slot), kx31 l2 l3 → va_P D clsX [(h0, .inr (7, oX7 rQ sQ)), ((rQ 3), .inl (cy 0, 100, .inl Q_cell))] H → va_D A [(h0, .inr (7, oX7 rQ sQ)), ((rQ 3), .inl (cy 0, 100, .inl Q_cell))] → va_S A s.heap H locs → lv_has ls 4 [(0, .ref h0), (2, .int l2)] → W p l e R s m args below meth c H locs 0 0 QQ (F0 m 31 ls [])) → ∀ (nf4 : Nat) (l2 : Int32) (l3 : Int32) (H : Heap) (locs : List Loc) (ls : Array Slot), wpX7_howManyIn_L4 sQ Q_cell l1 kx31 post nf4 l2 l3 → va_P D clsX [(h0, .inr (7, oX7 rQ sQ)), ((rQ 3), .inl (cy 0, 100, .inl Q_cell))] H → va_D A [(h0, .inr (7, oX7 rQ sQ)), ((rQ 3), .inl (cy 0, 100, .inl Q_cell))] → va_S A s.heap H locs → lv_has ls 4 [(0, .ref h0), (1, .int l1), (2, .int l2), (3, .int l3)] → W p l e R s m args below meth c H locs 0 0 QQ (F0 m 4 ls []) := by
    intro l1 kx31 hk4_31 nf4
    induction nf4 with
    | zero =>
      intro l2 l3 H locs ls h
      exact (show False from h).elim
    | succ nf4 ih4 =>
      intro l2 l3 H locs ls h hP hD hS hl
      refine lv_iload_n hx hb dX7_howManyIn_4 rfl (lv_at hl 3 rfl) ?_
      refine lv_aload_n hx hb dX7_howManyIn_5 rfl (lv_at hl 0 rfl) ?_
      refine gfX7_46 (v := (sQ 6)) hx hb hts hown hK hP 0 rfl rfl dX7_howManyIn_6 ?_
      refine lv_icmp_ge (tgt := 31) hx hb dX7_howManyIn_9 (by decide) (fun c9 => ?_) (fun c9 => ?_)
      · have h := h.1 c9
        exact hk4_31 l2 l3 _ _ _ h hP hD hS (lv_sub hl [0, 2] rfl)
      · have h := h.2 c9
        refine lv_aload_n hx hb dX7_howManyIn_12 rfl (lv_at hl 0 rfl) ?_
        refine gfX7_9 hx hb hts hown hK hP 0 rfl dX7_howManyIn_13 ?_
        refine lv_iload_n hx hb dX7_howManyIn_16 rfl (lv_at hl 3 rfl) ?_
        obtain ⟨hin, h⟩ := h
        refine ldi (k := l3.toNatClampNeg) hx hb hK hP 1 rfl hin rfl dX7_howManyIn_17 ?_
        refine lv_iload_n hx hb dX7_howManyIn_18 rfl (lv_at hl 1 rfl) ?_
        refine lv_icmp_ne (tgt := 25) hx hb dX7_howManyIn_19 (by decide) (fun c19 => ?_) (fun c19 => ?_)
        · have h := h.1 c19
          obtain ⟨l3_25, el3_25⟩ : ∃ y : Int32, y = l3 + (1 : Int32) := ⟨_, rfl⟩
          have h := h l3_25 el3_25
          refine lv_iinc (v := l3_25) (lv' := [(3, .int l3_25), (0, .ref h0), (1, .int l1), (2, .int l2)]) hx hb dX7_howManyIn_25 hl (k := 3) rfl (by rw [el3_25]; rfl) (by decide) rfl (fun ls hl => ?_)
          refine lv_goto (tgt := 4) hx hb dX7_howManyIn_28 (by decide) ?_
          exact ih4 l2 l3_25 _ _ _ h hP hD hS (lv_sub hl [1, 2, 3, 0] rfl)
        · have h := h.2 c19
          obtain ⟨l2_22, el2_22⟩ : ∃ y : Int32, y = l2 + (1 : Int32) := ⟨_, rfl⟩
          have h := h l2_22 el2_22
          refine lv_iinc (v := l2_22) (lv' := [(2, .int l2_22), (0, .ref h0), (1, .int l1), (3, .int l3)]) hx hb dX7_howManyIn_22 hl (k := 2) rfl (by rw [el2_22]; rfl) (by decide) rfl (fun ls hl => ?_)
          obtain ⟨l3_25, el3_25⟩ : ∃ y : Int32, y = l3 + (1 : Int32) := ⟨_, rfl⟩
          have h := h l3_25 el3_25
          refine lv_iinc (v := l3_25) (lv' := [(3, .int l3_25), (2, .int l2_22), (0, .ref h0), (1, .int l1)]) hx hb dX7_howManyIn_25 hl (k := 3) rfl (by rw [el3_25]; rfl) (by decide) rfl (fun ls hl => ?_)
          refine lv_goto (tgt := 4) hx hb dX7_howManyIn_28 (by decide) ?_
          exact ih4 l2_22 l3_25 _ _ _ h hP hD hS (lv_sub hl [2, 3, 1, 0] rfl)
  refine lv_iconst (v := (0 : Int32)) hx hb dX7_howManyIn_0 (by decide) ?_
  refine lv_istore_n (lv' := [(2, .int (0 : Int32)), (0, .ref h0), (1, .int x1)]) hx hb dX7_howManyIn_1 rfl hl (by decide) rfl (fun ls hl => ?_)
  refine lv_iconst (v := (0 : Int32)) hx hb dX7_howManyIn_2 (by decide) ?_
  refine lv_istore_n (lv' := [(3, .int (0 : Int32)), (2, .int (0 : Int32)), (0, .ref h0), (1, .int x1)]) hx hb dX7_howManyIn_3 rfl hl (by decide) rfl (fun ls hl => ?_)
  obtain ⟨nf4, h⟩ := h
  refine L4 x1 _ (fun l2_31 l3_31 H locs ls h hP hD hS hl => ?_) nf4 (0 : Int32) (0 : Int32) _ _ _ h hP hD hS (lv_sub hl [2, 3, 1, 0] rfl)
  refine lv_iload_n hx hb dX7_howManyIn_31 rfl (lv_at hl 1 rfl) ?_
  exact hret l2_31 () _ _ _ _ rfl dX7_howManyIn_32 h hP hD hS
