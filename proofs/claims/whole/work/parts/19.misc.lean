theorem dX5_put_0 : decode cX5_put 0 = .ok (.aload_n 0, 1) := by decide +kernel
theorem dX5_put_1 : decode cX5_put 1 = .ok (.getfield 25, 3) := by decide +kernel
theorem dX5_put_4 : decode cX5_put 4 = .ok (.sipush 200, 3) := by decide +kernel
theorem dX5_put_7 : decode cX5_put 7 = .ok (.if_icmp .ge 23, 3) := by decide +kernel
theorem dX5_put_10 : decode cX5_put 10 = .ok (.aload_n 0, 1) := by decide +kernel
theorem dX5_put_11 : decode cX5_put 11 = .ok (.getfield 18, 3) := by decide +kernel
theorem dX5_put_14 : decode cX5_put 14 = .ok (.aload_n 0, 1) := by decide +kernel
theorem dX5_put_15 : decode cX5_put 15 = .ok (.getfield 25, 3) := by decide +kernel
theorem dX5_put_18 : decode cX5_put 18 = .ok (.iload_n 1, 1) := by decide +kernel
theorem dX5_put_19 : decode cX5_put 19 = .ok (.iastore, 1) := by decide +kernel
theorem dX5_put_20 : decode cX5_put 20 = .ok (.aload_n 0, 1) := by decide +kernel
theorem dX5_put_21 : decode cX5_put 21 = .ok (.dup, 1) := by decide +kernel
theorem dX5_put_22 : decode cX5_put 22 = .ok (.getfield 25, 3) := by decide +kernel
theorem dX5_put_25 : decode cX5_put 25 = .ok (.iconst 1, 1) := by decide +kernel
theorem dX5_put_26 : decode cX5_put 26 = .ok (.iadd, 1) := by decide +kernel
theorem dX5_put_27 : decode cX5_put 27 = .ok (.putfield 25, 3) := by decide +kernel
theorem dX5_put_30 : decode cX5_put 30 = .ok (.return_, 1) := by decide +kernel
theorem dX5_closeAgain_0 : decode cX5_closeAgain 0 = .ok (.aload_n 0, 1) := by decide +kernel
theorem dX5_closeAgain_1 : decode cX5_closeAgain 1 = .ok (.getfield 21, 3) := by decide +kernel
theorem dX5_closeAgain_4 : decode cX5_closeAgain 4 = .ok (.invokevirtual 66, 3) := by decide +kernel
theorem dX5_closeAgain_7 : decode cX5_closeAgain 7 = .ok (.aload_n 0, 1) := by decide +kernel
theorem dX5_closeAgain_8 : decode cX5_closeAgain 8 = .ok (.dup, 1) := by decide +kernel
theorem dX5_closeAgain_9 : decode cX5_closeAgain 9 = .ok (.getfield 29, 3) := by decide +kernel
theorem dX5_closeAgain_12 : decode cX5_closeAgain 12 = .ok (.iconst 1, 1) := by decide +kernel
theorem dX5_closeAgain_13 : decode cX5_closeAgain 13 = .ok (.isub, 1) := by decide +kernel
theorem dX5_closeAgain_14 : decode cX5_closeAgain 14 = .ok (.putfield 29, 3) := by decide +kernel
theorem dX5_closeAgain_17 : decode cX5_closeAgain 17 = .ok (.aload_n 0, 1) := by decide +kernel
theorem dX5_closeAgain_18 : decode cX5_closeAgain 18 = .ok (.getfield 11, 3) := by decide +kernel
theorem dX5_closeAgain_21 : decode cX5_closeAgain 21 = .ok (.aload_n 0, 1) := by decide +kernel
theorem dX5_closeAgain_22 : decode cX5_closeAgain 22 = .ok (.getfield 29, 3) := by decide +kernel
theorem dX5_closeAgain_25 : decode cX5_closeAgain 25 = .ok (.iaload, 1) := by decide +kernel
theorem dX5_closeAgain_26 : decode cX5_closeAgain 26 = .ok (.istore_n 1, 1) := by decide +kernel
theorem dX5_closeAgain_27 : decode cX5_closeAgain 27 = .ok (.aload_n 0, 1) := by decide +kernel
theorem dX5_closeAgain_28 : decode cX5_closeAgain 28 = .ok (.getfield 25, 3) := by decide +kernel
theorem dX5_closeAgain_31 : decode cX5_closeAgain 31 = .ok (.istore_n 2, 1) := by decide +kernel
theorem dX5_closeAgain_32 : decode cX5_closeAgain 32 = .ok (.iconst 1, 1) := by decide +kernel
theorem dX5_closeAgain_33 : decode cX5_closeAgain 33 = .ok (.istore_n 3, 1) := by decide +kernel
theorem dX5_closeAgain_34 : decode cX5_closeAgain 34 = .ok (.iload_n 3, 1) := by decide +kernel
theorem dX5_closeAgain_35 : decode cX5_closeAgain 35 = .ok (.aload_n 0, 1) := by decide +kernel
theorem dX5_closeAgain_36 : decode cX5_closeAgain 36 = .ok (.getfield 15, 3) := by decide +kernel
theorem dX5_closeAgain_39 : decode cX5_closeAgain 39 = .ok (.aload_n 0, 1) := by decide +kernel
theorem dX5_closeAgain_40 : decode cX5_closeAgain 40 = .ok (.getfield 29, 3) := by decide +kernel
theorem dX5_closeAgain_43 : decode cX5_closeAgain 43 = .ok (.iaload, 1) := by decide +kernel
theorem dX5_closeAgain_44 : decode cX5_closeAgain 44 = .ok (.if_icmp .ge 35, 3) := by decide +kernel
theorem dX5_closeAgain_47 : decode cX5_closeAgain 47 = .ok (.iload_n 1, 1) := by decide +kernel
theorem dX5_closeAgain_48 : decode cX5_closeAgain 48 = .ok (.istore 4, 2) := by decide +kernel
theorem dX5_closeAgain_50 : decode cX5_closeAgain 50 = .ok (.iload 4, 2) := by decide +kernel
theorem dX5_closeAgain_52 : decode cX5_closeAgain 52 = .ok (.iload_n 2, 1) := by decide +kernel
theorem dX5_closeAgain_53 : decode cX5_closeAgain 53 = .ok (.if_icmp .ge 20, 3) := by decide +kernel
theorem dX5_closeAgain_56 : decode cX5_closeAgain 56 = .ok (.aload_n 0, 1) := by decide +kernel
theorem dX5_closeAgain_57 : decode cX5_closeAgain 57 = .ok (.aload_n 0, 1) := by decide +kernel
theorem dX5_closeAgain_58 : decode cX5_closeAgain 58 = .ok (.getfield 18, 3) := by decide +kernel
theorem dX5_closeAgain_61 : decode cX5_closeAgain 61 = .ok (.iload 4, 2) := by decide +kernel
theorem dX5_closeAgain_63 : decode cX5_closeAgain 63 = .ok (.iaload, 1) := by decide +kernel
theorem dX5_closeAgain_64 : decode cX5_closeAgain 64 = .ok (.invokevirtual 79, 3) := by decide +kernel
theorem dX5_closeAgain_67 : decode cX5_closeAgain 67 = .ok (.iinc 4 1, 3) := by decide +kernel
theorem dX5_closeAgain_70 : decode cX5_closeAgain 70 = .ok (.goto (-20), 3) := by decide +kernel
theorem dX5_closeAgain_73 : decode cX5_closeAgain 73 = .ok (.iinc 3 1, 3) := by decide +kernel
theorem dX5_closeAgain_76 : decode cX5_closeAgain 76 = .ok (.goto (-42), 3) := by decide +kernel
theorem dX5_closeAgain_79 : decode cX5_closeAgain 79 = .ok (.return_, 1) := by decide +kernel
theorem dX6_waysToRing_0 : decode cX6_waysToRing 0 = .ok (.iconst 0, 1) := by decide +kernel
theorem dX6_waysToRing_1 : decode cX6_waysToRing 1 = .ok (.istore_n 2, 1) := by decide +kernel
theorem dX6_waysToRing_2 : decode cX6_waysToRing 2 = .ok (.iconst 1, 1) := by decide +kernel
theorem dX6_waysToRing_3 : decode cX6_waysToRing 3 = .ok (.istore_n 3, 1) := by decide +kernel
theorem dX6_waysToRing_4 : decode cX6_waysToRing 4 = .ok (.iconst 0, 1) := by decide +kernel
theorem dX6_waysToRing_5 : decode cX6_waysToRing 5 = .ok (.istore 4, 2) := by decide +kernel
theorem dX6_waysToRing_7 : decode cX6_waysToRing 7 = .ok (.iload 4, 2) := by decide +kernel
theorem dX6_waysToRing_9 : decode cX6_waysToRing 9 = .ok (.iload_n 1, 1) := by decide +kernel
theorem dX6_waysToRing_10 : decode cX6_waysToRing 10 = .ok (.if_icmp .gt 31, 3) := by decide +kernel
theorem dX6_waysToRing_13 : decode cX6_waysToRing 13 = .ok (.iload 4, 2) := by decide +kernel
theorem dX6_waysToRing_15 : decode cX6_waysToRing 15 = .ok (.iload_n 0, 1) := by decide +kernel
theorem dX6_waysToRing_16 : decode cX6_waysToRing 16 = .ok (.if_icmp .gt 25, 3) := by decide +kernel
theorem dX6_waysToRing_19 : decode cX6_waysToRing 19 = .ok (.iload_n 2, 1) := by decide +kernel
theorem dX6_waysToRing_20 : decode cX6_waysToRing 20 = .ok (.iload_n 3, 1) := by decide +kernel
theorem dX6_waysToRing_21 : decode cX6_waysToRing 21 = .ok (.iadd, 1) := by decide +kernel
theorem dX6_waysToRing_22 : decode cX6_waysToRing 22 = .ok (.istore_n 2, 1) := by decide +kernel
theorem dX6_waysToRing_23 : decode cX6_waysToRing 23 = .ok (.iload_n 3, 1) := by decide +kernel
theorem dX6_waysToRing_24 : decode cX6_waysToRing 24 = .ok (.iload_n 1, 1) := by decide +kernel
theorem dX6_waysToRing_25 : decode cX6_waysToRing 25 = .ok (.iload 4, 2) := by decide +kernel
theorem dX6_waysToRing_27 : decode cX6_waysToRing 27 = .ok (.isub, 1) := by decide +kernel
theorem dX6_waysToRing_28 : decode cX6_waysToRing 28 = .ok (.imul, 1) := by decide +kernel
theorem dX6_waysToRing_29 : decode cX6_waysToRing 29 = .ok (.iload 4, 2) := by decide +kernel
theorem dX6_waysToRing_31 : decode cX6_waysToRing 31 = .ok (.iconst 1, 1) := by decide +kernel
theorem dX6_waysToRing_32 : decode cX6_waysToRing 32 = .ok (.iadd, 1) := by decide +kernel
theorem dX6_waysToRing_33 : decode cX6_waysToRing 33 = .ok (.idiv, 1) := by decide +kernel
theorem dX6_waysToRing_34 : decode cX6_waysToRing 34 = .ok (.istore_n 3, 1) := by decide +kernel
theorem dX6_waysToRing_35 : decode cX6_waysToRing 35 = .ok (.iinc 4 1, 3) := by decide +kernel
theorem dX6_waysToRing_38 : decode cX6_waysToRing 38 = .ok (.goto (-31), 3) := by decide +kernel
theorem dX6_waysToRing_41 : decode cX6_waysToRing 41 = .ok (.iload_n 2, 1) := by decide +kernel
theorem dX6_waysToRing_42 : decode cX6_waysToRing 42 = .ok (.ireturn, 1) := by decide +kernel
theorem dX10_commonDivisor_0 : decode cX10_commonDivisor 0 = .ok (.iload_n 0, 1) := by decide +kernel
theorem dX10_commonDivisor_1 : decode cX10_commonDivisor 1 = .ok (.istore_n 2, 1) := by decide +kernel
theorem dX10_commonDivisor_2 : decode cX10_commonDivisor 2 = .ok (.iload_n 1, 1) := by decide +kernel
theorem dX10_commonDivisor_3 : decode cX10_commonDivisor 3 = .ok (.istore_n 3, 1) := by decide +kernel
theorem dX10_commonDivisor_4 : decode cX10_commonDivisor 4 = .ok (.iconst 0, 1) := by decide +kernel
theorem dX10_commonDivisor_5 : decode cX10_commonDivisor 5 = .ok (.istore 4, 2) := by decide +kernel
theorem dX10_commonDivisor_7 : decode cX10_commonDivisor 7 = .ok (.iload 4, 2) := by decide +kernel
theorem dX10_commonDivisor_9 : decode cX10_commonDivisor 9 = .ok (.bipush 100, 2) := by decide +kernel
theorem dX10_commonDivisor_11 : decode cX10_commonDivisor 11 = .ok (.if_icmp .ge 23, 3) := by decide +kernel
theorem dX10_commonDivisor_14 : decode cX10_commonDivisor 14 = .ok (.iload_n 3, 1) := by decide +kernel
theorem dX10_commonDivisor_15 : decode cX10_commonDivisor 15 = .ok (.ifCond .le 19, 3) := by decide +kernel
theorem dX10_commonDivisor_18 : decode cX10_commonDivisor 18 = .ok (.iload_n 2, 1) := by decide +kernel
theorem dX10_commonDivisor_19 : decode cX10_commonDivisor 19 = .ok (.iload_n 3, 1) := by decide +kernel
theorem dX10_commonDivisor_20 : decode cX10_commonDivisor 20 = .ok (.irem, 1) := by decide +kernel
theorem dX10_commonDivisor_21 : decode cX10_commonDivisor 21 = .ok (.istore 5, 2) := by decide +kernel
theorem dX10_commonDivisor_23 : decode cX10_commonDivisor 23 = .ok (.iload_n 3, 1) := by decide +kernel
theorem dX10_commonDivisor_24 : decode cX10_commonDivisor 24 = .ok (.istore_n 2, 1) := by decide +kernel
theorem dX10_commonDivisor_25 : decode cX10_commonDivisor 25 = .ok (.iload 5, 2) := by decide +kernel
theorem dX10_commonDivisor_27 : decode cX10_commonDivisor 27 = .ok (.istore_n 3, 1) := by decide +kernel
theorem dX10_commonDivisor_28 : decode cX10_commonDivisor 28 = .ok (.iinc 4 1, 3) := by decide +kernel
theorem dX10_commonDivisor_31 : decode cX10_commonDivisor 31 = .ok (.goto (-24), 3) := by decide +kernel
theorem dX10_commonDivisor_34 : decode cX10_commonDivisor 34 = .ok (.iload_n 2, 1) := by decide +kernel
theorem dX10_commonDivisor_35 : decode cX10_commonDivisor 35 = .ok (.ireturn, 1) := by decide +kernel
def wpX5_put (sB : AR) (B_sets : AR) (x1 : Int32) (post : AR → AR → Prop) : Prop := (((200 : Int32) ≤ (sB 5) → post sB B_sets) ∧ (¬ (200 : Int32) ≤ (sB 5) → vp_in (sB 5) 200 ∧ ∀ B_sets_19 : AR, B_sets_19 = upd B_sets (sB 5).toNatClampNeg x1 → ∀ f5_27 : Int32, f5_27 = ((sB 5) + (1 : Int32)) → post (upd sB 5 f5_27) B_sets_19))
set_option maxHeartbeats 4000000 in
set_option maxRecDepth 100000 in
theorem ctX5_put (l : Launch) (D : va_G) (cy : Nat → ClassId) (h0 : Nat) (rB : Nat → Nat) (sB : AR) (B_sets : AR) (x1 : Int32) (sz : Nat) (post : AR → AR → Prop) (h : wpX5_put sB B_sets x1 post) : Met l yX5_put (Cond.code yX5_put cX5_put 2 none :: TB) ({ frames := 0, cells := 0, slots := 0, locals := 0 }) (va_Pc [.ref h0, .int x1] (PreX D cy [(h0, .inr (5, oX5 rB sB)), ((rB 4), .inl (cy 0, 200, .inl B_sets))] sz)) (va_Qv (fun (u : AR × AR) => post (u.1) (u.2)) (fun u => BkX D cy [(h0, .inr (5, oX5 rB sB)), ((rB 4), .inl (cy 0, 200, .inl B_sets))] sz [(h0, .inr (5, oX5 rB (u.1))), ((rB 4), .inl (cy 0, 200, .inl (u.2)))]) (va_A [(h0, .inr (5, oX5 rB sB)), ((rB 4), .inl (cy 0, 200, .inl B_sets))] sz)) 0 0 (va_A [(h0, .inr (5, oX5 rB sB)), ((rB 4), .inl (cy 0, 200, .inl B_sets))] sz) := by
  refine ofWv (by decide) (Nat.le_of_ble_eq_true rfl) ?_
  intro p e s m args below meth c ls A R QQ hx hb hml hown hts hR hK hP hD hS hA hl hret
  have hown : s.vm.findClass RX5 = some m.cls := hown
  have hRf : 0 ≤ R.frames := by rw [hR]; exact Nat.le_refl _
  have hRl : 0 ≤ R.locals := by rw [hR]; exact Nat.le_refl _
  clear hR
  have hl : lv_has ls 2 [(0, .ref h0), (1, .int x1)] := hl
  refine lv_aload_n hx hb dX5_put_0 rfl (lv_at hl 0 rfl) ?_
  refine gfX5_25 (v := (sB 5)) hx hb hts hown hK hP 0 rfl rfl dX5_put_1 ?_
  refine lv_sipush (v := (200 : Int32)) hx hb dX5_put_4 (by decide) ?_
  refine lv_icmp_ge (tgt := 30) hx hb dX5_put_7 (by decide) (fun c7 => ?_) (fun c7 => ?_)
  · have h := h.1 c7
    exact hret (sB, B_sets) _ _ _ _ dX5_put_30 h hP hD hS
  · have h := h.2 c7
    refine lv_aload_n hx hb dX5_put_10 rfl (lv_at hl 0 rfl) ?_
    refine gfX5_18 hx hb hts hown hK hP 0 rfl dX5_put_11 ?_
    refine lv_aload_n hx hb dX5_put_14 rfl (lv_at hl 0 rfl) ?_
    refine gfX5_25 (v := (sB 5)) hx hb hts hown hK hP 0 rfl rfl dX5_put_15 ?_
    refine lv_iload_n hx hb dX5_put_18 rfl (lv_at hl 1 rfl) ?_
    obtain ⟨hin, h⟩ := h
    refine sti (k := (sB 5).toNatClampNeg) (y := x1) hx hb hK hP hD hS 1 rfl hin rfl rfl dX5_put_19 (fun B_sets_19 eB_sets_19 H locs hP hD hS => ?_)
    have h := h B_sets_19 eB_sets_19
    have hP : va_P D clsX [(h0, .inr (5, oX5 rB sB)), ((rB 4), .inl (cy 0, 200, .inl B_sets_19))] H := hP
    have hD : va_D A [(h0, .inr (5, oX5 rB sB)), ((rB 4), .inl (cy 0, 200, .inl B_sets_19))] := hD
    refine lv_aload_n hx hb dX5_put_20 rfl (lv_at hl 0 rfl) ?_
    refine lv_dup hx hb dX5_put_21 rfl ?_
    refine gfX5_25 (v := (sB 5)) hx hb hts hown hK hP 0 rfl rfl dX5_put_22 ?_
    refine lv_iconst (v := (1 : Int32)) hx hb dX5_put_25 (by decide) ?_
    refine lv_iadd hx hb dX5_put_26 ?_
    refine lv_topi (fun f5_27 ef5_27 => ?_)
    have h := h f5_27 ef5_27
    refine pfX5_25 hx hb hts hown hK hP hD hS 0 rfl dX5_put_27 (fun H locs hP hD hS => ?_)
    have hP : va_P D clsX [(h0, .inr (5, oX5 rB (upd sB 5 f5_27))), ((rB 4), .inl (cy 0, 200, .inl B_sets_19))] H := hP
    have hD : va_D A [(h0, .inr (5, oX5 rB (upd sB 5 f5_27))), ((rB 4), .inl (cy 0, 200, .inl B_sets_19))] := hD
    exact hret ((upd sB 5 f5_27), B_sets_19) _ _ _ _ dX5_put_30 h hP hD hS
def wpX5_closeAgain_L50 (sR : AR) (B_begins : AR) (B_times : AR) (R_text : AR) (l1 : Int32) (l2 : Int32) (l3 : Int32) (kx73 : AR → AR → Int32 → Prop) (post : AR → AR → AR → Prop) : Nat → AR → AR → Int32 → Prop
  | 0, _, _, _ => False
  | nf50 + 1, sB, B_sets, l4 => ((l2 ≤ l4 → kx73 sB B_sets l4) ∧ (¬ l2 ≤ l4 → vp_in l4 200 ∧ wpX5_put sB B_sets (B_sets l4.toNatClampNeg) (fun sB_64 B_sets_64 => ∀ l4_67 : Int32, l4_67 = (l4 + (1 : Int32)) → wpX5_closeAgain_L50 sR B_begins B_times R_text l1 l2 l3 kx73 post nf50 sB_64 B_sets_64 l4_67)))
def wpX5_closeAgain_L34 (sR : AR) (B_begins : AR) (B_times : AR) (R_text : AR) (l1 : Int32) (l2 : Int32) (kx79 : AR → AR → Int32 → Prop) (post : AR → AR → AR → Prop) : Nat → AR → AR → Int32 → Prop
  | 0, _, _, _ => False
  | nf34 + 1, sB, B_sets, l3 => vp_in (sB 3) 3 ∧ (((B_times (sB 3).toNatClampNeg) ≤ l3 → kx79 sB B_sets l3) ∧ (¬ (B_times (sB 3).toNatClampNeg) ≤ l3 → ∃ nf50 : Nat, wpX5_closeAgain_L50 sR B_begins B_times R_text l1 l2 l3 (fun sB_73 B_sets_73 l4_73 => ∀ l3_73 : Int32, l3_73 = (l3 + (1 : Int32)) → wpX5_closeAgain_L34 sR B_begins B_times R_text l1 l2 kx79 post nf34 sB_73 B_sets_73 l3_73) post nf50 sB B_sets l1))
def wpX5_closeAgain (sB : AR) (sR : AR) (B_begins : AR) (B_times : AR) (B_sets : AR) (R_text : AR) (post : AR → AR → AR → Prop) : Prop := wpX8_advance sR R_text (fun sR_4 => ∀ f3_14 : Int32, f3_14 = ((sB 3) - (1 : Int32)) → vp_in f3_14 3 ∧ ∀ l1_26 : Int32, l1_26 = (B_begins f3_14.toNatClampNeg) → ∀ l2_31 : Int32, l2_31 = (sB 5) → ∃ nf34 : Nat, wpX5_closeAgain_L34 sR_4 B_begins B_times R_text l1_26 l2_31 (fun sB_79 B_sets_79 l3_79 => post sB_79 sR_4 B_sets_79) post nf34 (upd sB 3 f3_14) B_sets (1 : Int32))
set_option maxHeartbeats 4000000 in
set_option maxRecDepth 100000 in
theorem ctX5_closeAgain (l : Launch) (D : va_G) (cy : Nat → ClassId) (h0 : Nat) (rB : Nat → Nat) (rR : Nat → Nat) (sB : AR) (sR : AR) (B_begins : AR) (B_times : AR) (B_sets : AR) (R_text : AR) (sz : Nat) (post : AR → AR → AR → Prop) (h : wpX5_closeAgain sB sR B_begins B_times B_sets R_text post) : Met l yX5_closeAgain (Cond.code yX5_closeAgain cX5_closeAgain 5 none :: TB) ({ frames := 1, cells := 0, slots := 0, locals := 21 }) (va_Pc [.ref h0] (PreX D cy [(h0, .inr (5, oX5 rB sB)), ((rB 0), .inr (8, oX8 rR sR)), ((rB 1), .inl (cy 0, 3, .inl B_begins)), ((rB 2), .inl (cy 0, 3, .inl B_times)), ((rB 4), .inl (cy 0, 200, .inl B_sets)), ((rR 0), .inl (cy 1, 500, .inl R_text))] sz)) (va_Qv (fun (u : AR × AR × AR) => post (u.1) (u.2.1) (u.2.2)) (fun u => BkX D cy [(h0, .inr (5, oX5 rB sB)), ((rB 0), .inr (8, oX8 rR sR)), ((rB 1), .inl (cy 0, 3, .inl B_begins)), ((rB 2), .inl (cy 0, 3, .inl B_times)), ((rB 4), .inl (cy 0, 200, .inl B_sets)), ((rR 0), .inl (cy 1, 500, .inl R_text))] sz [(h0, .inr (5, oX5 rB (u.1))), ((rB 0), .inr (8, oX8 rR (u.2.1))), ((rB 1), .inl (cy 0, 3, .inl B_begins)), ((rB 2), .inl (cy 0, 3, .inl B_times)), ((rB 4), .inl (cy 0, 200, .inl (u.2.2))), ((rR 0), .inl (cy 1, 500, .inl R_text))]) (va_A [(h0, .inr (5, oX5 rB sB)), ((rB 0), .inr (8, oX8 rR sR)), ((rB 1), .inl (cy 0, 3, .inl B_begins)), ((rB 2), .inl (cy 0, 3, .inl B_times)), ((rB 4), .inl (cy 0, 200, .inl B_sets)), ((rR 0), .inl (cy 1, 500, .inl R_text))] sz)) 0 0 (va_A [(h0, .inr (5, oX5 rB sB)), ((rB 0), .inr (8, oX8 rR sR)), ((rB 1), .inl (cy 0, 3, .inl B_begins)), ((rB 2), .inl (cy 0, 3, .inl B_times)), ((rB 4), .inl (cy 0, 200, .inl B_sets)), ((rR 0), .inl (cy 1, 500, .inl R_text))] sz) := by
  refine ofWv (by decide) (Nat.le_of_ble_eq_true rfl) ?_
  intro p e s m args below meth c ls A R QQ hx hb hml hown hts hR hK hP hD hS hA hl hret
  have hown : s.vm.findClass RX5 = some m.cls := hown
  have hRf : 1 ≤ R.frames := by rw [hR]; exact Nat.le_refl _
  have hRl : 21 ≤ R.locals := by rw [hR]; exact Nat.le_refl _
  clear hR
  have hl : lv_has ls 5 [(0, .ref h0)] := hl
  have L34 : ∀ (sR : AR) (l1 : Int32) (l2 : Int32) (kx79 : AR → AR → Int32 → Prop), (∀ (sB : AR) (B_sets : AR) (l3 : Int32) (H : Heap) (locs : List Loc) (ls : Array Slot), kx79 sB B_sets l3 → va_P D clsX [(h0, .inr (5, oX5 rB sB)), ((rB 0), .inr (8, oX8 rR sR)), ((rB 1), .inl (cy 0, 3, .inl B_begins)), ((rB 2), .inl (cy 0, 3, .inl B_times)), ((rB 4), .inl (cy 0, 200, .inl B_sets)), ((rR 0), .inl (cy 1, 500, .inl R_text))] H → va_D A [(h0, .inr (5, oX5 rB sB)), ((rB 0), .inr (8, oX8 rR sR)), ((rB 1), .inl (cy 0, 3, .inl B_begins)), ((rB 2), .inl (cy 0, 3, .inl B_times)), ((rB 4), .inl (cy 0, 200, .inl B_sets)), ((rR 0), .inl (cy 1, 500, .inl R_text))] → va_S A s.heap H locs → lv_has ls 5 [(0, .ref h0)] → W p l e R s m args below meth c H locs 0 0 QQ (F0 m 79 ls [])) → ∀ (nf34 : Nat) (sB : AR) (B_sets : AR) (l3 : Int32) (H : Heap) (locs : List Loc) (ls : Array Slot), wpX5_closeAgain_L34 sR B_begins B_times R_text l1 l2 kx79 post nf34 sB B_sets l3 → va_P D clsX [(h0, .inr (5, oX5 rB sB)), ((rB 0), .inr (8, oX8 rR sR)), ((rB 1), .inl (cy 0, 3, .inl B_begins)), ((rB 2), .inl (cy 0, 3, .inl B_times)), ((rB 4), .inl (cy 0, 200, .inl B_sets)), ((rR 0), .inl (cy 1, 500, .inl R_text))] H → va_D A [(h0, .inr (5, oX5 rB sB)), ((rB 0), .inr (8, oX8 rR sR)), ((rB 1), .inl (cy 0, 3, .inl B_begins)), ((rB 2), .inl (cy 0, 3, .inl B_times)), ((rB 4), .inl (cy 0, 200, .inl B_sets)), ((rR 0), .inl (cy 1, 500, .inl R_text))] → va_S A s.heap H locs → lv_has ls 5 [(0, .ref h0), (1, .int l1), (2, .int l2), (3, .int l3)] → W p l e R s m args below meth c H locs 0 0 QQ (F0 m 34 ls []) := by
    intro sR l1 l2 kx79 hk34_79 nf34
    induction nf34 with
    | zero =>
      intro sB B_sets l3 H locs ls h
      exact (show False from h).elim
    | succ nf34 ih34 =>
      intro sB B_sets l3 H locs ls h hP hD hS hl
      have L50 : ∀ (sR : AR) (l1 : Int32) (l2 : Int32) (l3 : Int32) (kx73 : AR → AR → Int32 → Prop), (∀ (sB : AR) (B_sets : AR) (l4 : Int32) (H : Heap) (locs : List Loc) (ls : Array Slot), kx73 sB B_sets l4 → va_P D clsX [(h0, .inr (5, oX5 rB sB)), ((rB 0), .inr (8, oX8 rR sR)), ((rB 1), .inl (cy 0, 3, .inl B_begins)), ((rB 2), .inl (cy 0, 3, .inl B_times)), ((rB 4), .inl (cy 0, 200, .inl B_sets)), ((rR 0), .inl (cy 1, 500, .inl R_text))] H → va_D A [(h0, .inr (5, oX5 rB sB)), ((rB 0), .inr (8, oX8 rR sR)), ((rB 1), .inl (cy 0, 3, .inl B_begins)), ((rB 2), .inl (cy 0, 3, .inl B_times)), ((rB 4), .inl (cy 0, 200, .inl B_sets)), ((rR 0), .inl (cy 1, 500, .inl R_text))] → va_S A s.heap H locs → lv_has ls 5 [(0, .ref h0), (1, .int l1), (2, .int l2), (3, .int l3)] → W p l e R s m args below meth c H locs 0 0 QQ (F0 m 73 ls [])) → ∀ (nf50 : Nat) (sB : AR) (B_sets : AR) (l4 : Int32) (H : Heap) (locs : List Loc) (ls : Array Slot), wpX5_closeAgain_L50 sR B_begins B_times R_text l1 l2 l3 kx73 post nf50 sB B_sets l4 → va_P D clsX [(h0, .inr (5, oX5 rB sB)), ((rB 0), .inr (8, oX8 rR sR)), ((rB 1), .inl (cy 0, 3, .inl B_begins)), ((rB 2), .inl (cy 0, 3, .inl B_times)), ((rB 4), .inl (cy 0, 200, .inl B_sets)), ((rR 0), .inl (cy 1, 500, .inl R_text))] H → va_D A [(h0, .inr (5, oX5 rB sB)), ((rB 0), .inr (8, oX8 rR sR)), ((rB 1), .inl (cy 0, 3, .inl B_begins)), ((rB 2), .inl (cy 0, 3, .inl B_times)), ((rB 4), .inl (cy 0, 200, .inl B_sets)), ((rR 0), .inl (cy 1, 500, .inl R_text))] → va_S A s.heap H locs → lv_has ls 5 [(0, .ref h0), (1, .int l1), (2, .int l2), (3, .int l3), (4, .int l4)] → W p l e R s m args below meth c H locs 0 0 QQ (F0 m 50 ls []) := by
        intro sR l1 l2 l3 kx73 hk50_73 nf50
        induction nf50 with
        | zero =>
          intro sB B_sets l4 H locs ls h
          exact (show False from h).elim
        | succ nf50 ih50 =>
          intro sB B_sets l4 H locs ls h hP hD hS hl
          refine lv_iload hx hb dX5_closeAgain_50 (lv_at hl 4 rfl) ?_
          refine lv_iload_n hx hb dX5_closeAgain_52 rfl (lv_at hl 2 rfl) ?_
          refine lv_icmp_ge (tgt := 73) hx hb dX5_closeAgain_53 (by decide) (fun c53 => ?_) (fun c53 => ?_)
          · have h := h.1 c53
            exact hk50_73 sB B_sets l4 _ _ _ h hP hD hS (lv_sub hl [0, 1, 2, 3] rfl)
          · have h := h.2 c53
            refine lv_aload_n hx hb dX5_closeAgain_56 rfl (lv_at hl 0 rfl) ?_
            refine lv_aload_n hx hb dX5_closeAgain_57 rfl (lv_at hl 0 rfl) ?_
            refine gfX5_18 hx hb hts hown hK hP 0 rfl dX5_closeAgain_58 ?_
            refine lv_iload hx hb dX5_closeAgain_61 (lv_at hl 4 rfl) ?_
            obtain ⟨hin, h⟩ := h
            refine ldi (k := l4.toNatClampNeg) hx hb hK hP 4 rfl hin rfl dX5_closeAgain_63 ?_
            refine clVv (As := [.int (B_sets l4.toNatClampNeg)]) (rest := []) (Wr := [((rB 0), .inr (8, oX8 rR sR)), ((rB 1), .inl (cy 0, 3, .inl B_begins)), ((rB 2), .inl (cy 0, 3, .inl B_times)), ((rR 0), .inl (cy 1, 500, .inl R_text))]) (cq := (RX5, TX5, 6)) ⟨hx, hb, hml, hown, hts⟩ ⟨callB_of 1 hts (goodC mw912) rfl rfl rfl (hts _ (tb mw7)) (hts _ (tb mw909)) kdX5_put ⟨Nat.le_trans (by decide) hRf, Nat.le_trans (by decide) hRl⟩, hts _ (tb mw911), hts _ (tb ms25)⟩ (ctX5_put l D cy h0 rB sB B_sets (B_sets l4.toNatClampNeg) _ _ h) hK hP hD hS hA [0, 4] [1, 2, 3, 5] rfl rfl (by decide) (by decide) (by decide) 0 rfl rfl rfl hl.1 rfl (Nat.le_of_ble_eq_true rfl) ⟨Nat.zero_le _, Nat.zero_le _⟩ dX5_closeAgain_64 (fun u H locs h hP hD hS => ?_)
            obtain ⟨sB_64, B_sets_64⟩ := u
            have hP : va_P D clsX [((rB 0), .inr (8, oX8 rR sR)), ((rB 1), .inl (cy 0, 3, .inl B_begins)), ((rB 2), .inl (cy 0, 3, .inl B_times)), ((rR 0), .inl (cy 1, 500, .inl R_text)), (h0, .inr (5, oX5 rB sB_64)), ((rB 4), .inl (cy 0, 200, .inl B_sets_64))] H := hP
            have hD : va_D A [((rB 0), .inr (8, oX8 rR sR)), ((rB 1), .inl (cy 0, 3, .inl B_begins)), ((rB 2), .inl (cy 0, 3, .inl B_times)), ((rR 0), .inl (cy 1, 500, .inl R_text)), (h0, .inr (5, oX5 rB sB_64)), ((rB 4), .inl (cy 0, 200, .inl B_sets_64))] := hD
            obtain ⟨l4_67, el4_67⟩ : ∃ y : Int32, y = l4 + (1 : Int32) := ⟨_, rfl⟩
            have h := h l4_67 el4_67
            refine lv_iinc (v := l4_67) (lv' := [(4, .int l4_67), (0, .ref h0), (1, .int l1), (2, .int l2), (3, .int l3)]) hx hb dX5_closeAgain_67 hl (k := 4) rfl (by rw [el4_67]; rfl) (by decide) rfl (fun ls hl => ?_)
            refine lv_goto (tgt := 50) hx hb dX5_closeAgain_70 (by decide) ?_
            exact ih50 sB_64 B_sets_64 l4_67 _ _ _ h (hP.sub [4, 0, 1, 2, 5, 3] rfl) (hD.sub [4, 0, 1, 2, 5, 3] (by decide) rfl) hS (lv_sub hl [1, 2, 3, 4, 0] rfl)
      refine lv_iload_n hx hb dX5_closeAgain_34 rfl (lv_at hl 3 rfl) ?_
      refine lv_aload_n hx hb dX5_closeAgain_35 rfl (lv_at hl 0 rfl) ?_
      refine gfX5_15 hx hb hts hown hK hP 0 rfl dX5_closeAgain_36 ?_
      refine lv_aload_n hx hb dX5_closeAgain_39 rfl (lv_at hl 0 rfl) ?_
      refine gfX5_29 (v := (sB 3)) hx hb hts hown hK hP 0 rfl rfl dX5_closeAgain_40 ?_
      obtain ⟨hin, h⟩ := h
      refine ldi (k := (sB 3).toNatClampNeg) hx hb hK hP 3 rfl hin rfl dX5_closeAgain_43 ?_
      refine lv_icmp_ge (tgt := 79) hx hb dX5_closeAgain_44 (by decide) (fun c44 => ?_) (fun c44 => ?_)
      · have h := h.1 c44
        exact hk34_79 sB B_sets l3 _ _ _ h hP hD hS (lv_sub hl [0] rfl)
      · have h := h.2 c44
        refine lv_iload_n hx hb dX5_closeAgain_47 rfl (lv_at hl 1 rfl) ?_
        refine lv_istore (lv' := [(4, .int l1), (0, .ref h0), (1, .int l1), (2, .int l2), (3, .int l3)]) hx hb dX5_closeAgain_48 hl (by decide) rfl (fun ls hl => ?_)
        obtain ⟨nf50, h⟩ := h
        refine L50 sR l1 l2 l3 _ (fun sB_73 B_sets_73 l4_73 H locs ls h hP hD hS hl => ?_) nf50 sB B_sets l1 _ _ _ h hP hD hS (lv_sub hl [1, 2, 3, 4, 0] rfl)
        obtain ⟨l3_73, el3_73⟩ : ∃ y : Int32, y = l3 + (1 : Int32) := ⟨_, rfl⟩
        have h := h l3_73 el3_73
        refine lv_iinc (v := l3_73) (lv' := [(3, .int l3_73), (0, .ref h0), (1, .int l1), (2, .int l2)]) hx hb dX5_closeAgain_73 hl (k := 3) rfl (by rw [el3_73]; rfl) (by decide) rfl (fun ls hl => ?_)
        refine lv_goto (tgt := 34) hx hb dX5_closeAgain_76 (by decide) ?_
        exact ih34 sB_73 B_sets_73 l3_73 _ _ _ h hP hD hS (lv_sub hl [1, 2, 3, 0] rfl)
  refine lv_aload_n hx hb dX5_closeAgain_0 rfl (lv_at hl 0 rfl) ?_
  refine gfX5_21 hx hb hts hown hK hP 0 rfl dX5_closeAgain_1 ?_
  refine clVv (As := []) (rest := []) (Wr := [(h0, .inr (5, oX5 rB sB)), ((rB 1), .inl (cy 0, 3, .inl B_begins)), ((rB 2), .inl (cy 0, 3, .inl B_times)), ((rB 4), .inl (cy 0, 200, .inl B_sets))]) (cq := (RX8, TX8, 10)) ⟨hx, hb, hml, hown, hts⟩ ⟨callB_of 0 hts (goodC mw736) rfl rfl rfl (hts _ (tb mw2)) (hts _ (tb mw905)) kdX8_advance ⟨Nat.le_trans (by decide) hRf, Nat.le_trans (by decide) hRl⟩, hts _ (tb mw734), hts _ (tb mw735)⟩ (ctX8_advance l D cy (rB 0) rR sR R_text  _ _ h) hK hP hD hS hA [1, 5] [0, 2, 3, 4] rfl rfl (by decide) (by decide) (by decide) 0 rfl rfl rfl hl.1 rfl (Nat.le_of_ble_eq_true rfl) ⟨Nat.zero_le _, Nat.zero_le _⟩ dX5_closeAgain_4 (fun sR_4 H locs h hP hD hS => ?_)
  have hP : va_P D clsX [(h0, .inr (5, oX5 rB sB)), ((rB 1), .inl (cy 0, 3, .inl B_begins)), ((rB 2), .inl (cy 0, 3, .inl B_times)), ((rB 4), .inl (cy 0, 200, .inl B_sets)), ((rB 0), .inr (8, oX8 rR sR_4)), ((rR 0), .inl (cy 1, 500, .inl R_text))] H := hP
  have hD : va_D A [(h0, .inr (5, oX5 rB sB)), ((rB 1), .inl (cy 0, 3, .inl B_begins)), ((rB 2), .inl (cy 0, 3, .inl B_times)), ((rB 4), .inl (cy 0, 200, .inl B_sets)), ((rB 0), .inr (8, oX8 rR sR_4)), ((rR 0), .inl (cy 1, 500, .inl R_text))] := hD
  refine lv_aload_n hx hb dX5_closeAgain_7 rfl (lv_at hl 0 rfl) ?_
  refine lv_dup hx hb dX5_closeAgain_8 rfl ?_
  refine gfX5_29 (v := (sB 3)) hx hb hts hown hK hP 0 rfl rfl dX5_closeAgain_9 ?_
  refine lv_iconst (v := (1 : Int32)) hx hb dX5_closeAgain_12 (by decide) ?_
  refine lv_isub hx hb dX5_closeAgain_13 ?_
  refine lv_topi (fun f3_14 ef3_14 => ?_)
  have h := h f3_14 ef3_14
  refine pfX5_29 hx hb hts hown hK hP hD hS 0 rfl dX5_closeAgain_14 (fun H locs hP hD hS => ?_)
  have hP : va_P D clsX [(h0, .inr (5, oX5 rB (upd sB 3 f3_14))), ((rB 1), .inl (cy 0, 3, .inl B_begins)), ((rB 2), .inl (cy 0, 3, .inl B_times)), ((rB 4), .inl (cy 0, 200, .inl B_sets)), ((rB 0), .inr (8, oX8 rR sR_4)), ((rR 0), .inl (cy 1, 500, .inl R_text))] H := hP
  have hD : va_D A [(h0, .inr (5, oX5 rB (upd sB 3 f3_14))), ((rB 1), .inl (cy 0, 3, .inl B_begins)), ((rB 2), .inl (cy 0, 3, .inl B_times)), ((rB 4), .inl (cy 0, 200, .inl B_sets)), ((rB 0), .inr (8, oX8 rR sR_4)), ((rR 0), .inl (cy 1, 500, .inl R_text))] := hD
  refine lv_aload_n hx hb dX5_closeAgain_17 rfl (lv_at hl 0 rfl) ?_
  refine gfX5_11 hx hb hts hown hK hP 0 rfl dX5_closeAgain_18 ?_
  refine lv_aload_n hx hb dX5_closeAgain_21 rfl (lv_at hl 0 rfl) ?_
  refine gfX5_29 (v := f3_14) hx hb hts hown hK hP 0 rfl rfl dX5_closeAgain_22 ?_
  obtain ⟨hin, h⟩ := h
  refine ldi (k := f3_14.toNatClampNeg) hx hb hK hP 1 rfl hin rfl dX5_closeAgain_25 ?_
  refine lv_topi (fun l1_26 el1_26 => ?_)
  have h := h l1_26 el1_26
  refine lv_istore_n (lv' := [(1, .int l1_26), (0, .ref h0)]) hx hb dX5_closeAgain_26 rfl hl (by decide) rfl (fun ls hl => ?_)
  refine lv_aload_n hx hb dX5_closeAgain_27 rfl (lv_at hl 1 rfl) ?_
  refine gfX5_25 (v := (sB 5)) hx hb hts hown hK hP 0 rfl rfl dX5_closeAgain_28 ?_
  refine lv_topi (fun l2_31 el2_31 => ?_)
  have h := h l2_31 el2_31
  refine lv_istore_n (lv' := [(2, .int l2_31), (1, .int l1_26), (0, .ref h0)]) hx hb dX5_closeAgain_31 rfl hl (by decide) rfl (fun ls hl => ?_)
  refine lv_iconst (v := (1 : Int32)) hx hb dX5_closeAgain_32 (by decide) ?_
  refine lv_istore_n (lv' := [(3, .int (1 : Int32)), (2, .int l2_31), (1, .int l1_26), (0, .ref h0)]) hx hb dX5_closeAgain_33 rfl hl (by decide) rfl (fun ls hl => ?_)
  obtain ⟨nf34, h⟩ := h
  refine L34 sR_4 l1_26 l2_31 _ (fun sB_79 B_sets_79 l3_79 H locs ls h hP hD hS hl => ?_) nf34 (upd sB 3 f3_14) B_sets (1 : Int32) _ _ _ h (hP.sub [0, 4, 1, 2, 3, 5] rfl) (hD.sub [0, 4, 1, 2, 3, 5] (by decide) rfl) hS (lv_sub hl [3, 2, 1, 0] rfl)
  exact hret (sB_79, sR_4, B_sets_79) _ _ _ _ dX5_closeAgain_79 h hP hD hS
def wpX6_waysToRing_L7 (l0 : Int32) (l1 : Int32) (kx41 : Int32 → Int32 → Int32 → Prop) (post : Int32 → Prop) : Nat → Int32 → Int32 → Int32 → Prop
  | 0, _, _, _ => False
  | nf7 + 1, l2, l3, l4 => ((l1 < l4 → kx41 l2 l3 l4) ∧ (¬ l1 < l4 → ((l0 < l4 → kx41 l2 l3 l4) ∧ (¬ l0 < l4 → ∀ l2_22 : Int32, l2_22 = (l2 + l3) → ¬ (l4 + (1 : Int32)) = 0 ∧ ∀ l3_34 : Int32, l3_34 = ((l3 * (l1 - l4)) / (l4 + (1 : Int32))) → ∀ l4_35 : Int32, l4_35 = (l4 + (1 : Int32)) → wpX6_waysToRing_L7 l0 l1 kx41 post nf7 l2_22 l3_34 l4_35))))
def wpX6_waysToRing (x0 : Int32) (x1 : Int32) (post : Int32 → Prop) : Prop := ∃ nf7 : Nat, wpX6_waysToRing_L7 x0 x1 (fun l2_41 l3_41 l4_41 => post l2_41) post nf7 (0 : Int32) (1 : Int32) (0 : Int32)
set_option maxHeartbeats 4000000 in
set_option maxRecDepth 100000 in
theorem ctX6_waysToRing (l : Launch) (D : va_G) (cy : Nat → ClassId) (x0 : Int32) (x1 : Int32) (sz : Nat) (post : Int32 → Prop) (h : wpX6_waysToRing x0 x1 post) : Met l yX6_waysToRing (Cond.code yX6_waysToRing cX6_waysToRing 5 (some .int) :: TB) ({ frames := 0, cells := 0, slots := 0, locals := 0 }) (va_Pc [.int x0, .int x1] (PreX D cy [] sz)) (va_Qi (fun (r : Int32) (u : Unit) => post r) (fun u => BkX D cy [] sz []) (va_A [] sz)) 0 0 (va_A [] sz) := by
  refine ofWi (by decide) (Nat.le_of_ble_eq_true rfl) ?_
  intro p e s m args below meth c ls A R QQ hx hb hml hown hts hR hK hP hD hS hA hl hret
  have hown : s.vm.findClass RX6 = some m.cls := hown
  have hRf : 0 ≤ R.frames := by rw [hR]; exact Nat.le_refl _
  have hRl : 0 ≤ R.locals := by rw [hR]; exact Nat.le_refl _
  clear hR
  have hl : lv_has ls 5 [(0, .int x0), (1, .int x1)] := hl
  have L7 : ∀ (l0 : Int32) (l1 : Int32) (kx41 : Int32 → Int32 → Int32 → Prop), (∀ (l2 : Int32) (l3 : Int32) (l4 : Int32) (H : Heap) (locs : List Loc) (ls : Array Slot), kx41 l2 l3 l4 → va_P D clsX [] H → va_D A [] → va_S A s.heap H locs → lv_has ls 5 [(2, .int l2)] → W p l e R s m args below meth c H locs 0 0 QQ (F0 m 41 ls [])) → ∀ (nf7 : Nat) (l2 : Int32) (l3 : Int32) (l4 : Int32) (H : Heap) (locs : List Loc) (ls : Array Slot), wpX6_waysToRing_L7 l0 l1 kx41 post nf7 l2 l3 l4 → va_P D clsX [] H → va_D A [] → va_S A s.heap H locs → lv_has ls 5 [(0, .int l0), (1, .int l1), (2, .int l2), (3, .int l3), (4, .int l4)] → W p l e R s m args below meth c H locs 0 0 QQ (F0 m 7 ls []) := by
    intro l0 l1 kx41 hk7_41 nf7
    induction nf7 with
    | zero =>
      intro l2 l3 l4 H locs ls h
      exact (show False from h).elim
    | succ nf7 ih7 =>
      intro l2 l3 l4 H locs ls h hP hD hS hl
      refine lv_iload hx hb dX6_waysToRing_7 (lv_at hl 4 rfl) ?_
      refine lv_iload_n hx hb dX6_waysToRing_9 rfl (lv_at hl 1 rfl) ?_
      refine lv_icmp_gt (tgt := 41) hx hb dX6_waysToRing_10 (by decide) (fun c10 => ?_) (fun c10 => ?_)
      · have h := h.1 c10
        exact hk7_41 l2 l3 l4 _ _ _ h hP hD hS (lv_sub hl [2] rfl)
      · have h := h.2 c10
        refine lv_iload hx hb dX6_waysToRing_13 (lv_at hl 4 rfl) ?_
        refine lv_iload_n hx hb dX6_waysToRing_15 rfl (lv_at hl 0 rfl) ?_
        refine lv_icmp_gt (tgt := 41) hx hb dX6_waysToRing_16 (by decide) (fun c16 => ?_) (fun c16 => ?_)
        · have h := h.1 c16
          exact hk7_41 l2 l3 l4 _ _ _ h hP hD hS (lv_sub hl [2] rfl)
        · have h := h.2 c16
          refine lv_iload_n hx hb dX6_waysToRing_19 rfl (lv_at hl 2 rfl) ?_
          refine lv_iload_n hx hb dX6_waysToRing_20 rfl (lv_at hl 3 rfl) ?_
          refine lv_iadd hx hb dX6_waysToRing_21 ?_
          refine lv_topi (fun l2_22 el2_22 => ?_)
          have h := h l2_22 el2_22
          refine lv_istore_n (lv' := [(2, .int l2_22), (0, .int l0), (1, .int l1), (3, .int l3), (4, .int l4)]) hx hb dX6_waysToRing_22 rfl hl (by decide) rfl (fun ls hl => ?_)
          refine lv_iload_n hx hb dX6_waysToRing_23 rfl (lv_at hl 3 rfl) ?_
          refine lv_iload_n hx hb dX6_waysToRing_24 rfl (lv_at hl 2 rfl) ?_
          refine lv_iload hx hb dX6_waysToRing_25 (lv_at hl 4 rfl) ?_
          refine lv_isub hx hb dX6_waysToRing_27 ?_
          refine lv_imul hx hb dX6_waysToRing_28 ?_
          refine lv_iload hx hb dX6_waysToRing_29 (lv_at hl 4 rfl) ?_
          refine lv_iconst (v := (1 : Int32)) hx hb dX6_waysToRing_31 (by decide) ?_
          refine lv_iadd hx hb dX6_waysToRing_32 ?_
          obtain ⟨hne, h⟩ := h
          refine lv_idiv hx hb dX6_waysToRing_33 hne ?_
          refine lv_topi (fun l3_34 el3_34 => ?_)
          have h := h l3_34 el3_34
          refine lv_istore_n (lv' := [(3, .int l3_34), (2, .int l2_22), (0, .int l0), (1, .int l1), (4, .int l4)]) hx hb dX6_waysToRing_34 rfl hl (by decide) rfl (fun ls hl => ?_)
          obtain ⟨l4_35, el4_35⟩ : ∃ y : Int32, y = l4 + (1 : Int32) := ⟨_, rfl⟩
          have h := h l4_35 el4_35
          refine lv_iinc (v := l4_35) (lv' := [(4, .int l4_35), (3, .int l3_34), (2, .int l2_22), (0, .int l0), (1, .int l1)]) hx hb dX6_waysToRing_35 hl (k := 4) rfl (by rw [el4_35]; rfl) (by decide) rfl (fun ls hl => ?_)
          refine lv_goto (tgt := 7) hx hb dX6_waysToRing_38 (by decide) ?_
          exact ih7 l2_22 l3_34 l4_35 _ _ _ h hP hD hS (lv_sub hl [3, 4, 2, 1, 0] rfl)
  refine lv_iconst (v := (0 : Int32)) hx hb dX6_waysToRing_0 (by decide) ?_
  refine lv_istore_n (lv' := [(2, .int (0 : Int32)), (0, .int x0), (1, .int x1)]) hx hb dX6_waysToRing_1 rfl hl (by decide) rfl (fun ls hl => ?_)
  refine lv_iconst (v := (1 : Int32)) hx hb dX6_waysToRing_2 (by decide) ?_
  refine lv_istore_n (lv' := [(3, .int (1 : Int32)), (2, .int (0 : Int32)), (0, .int x0), (1, .int x1)]) hx hb dX6_waysToRing_3 rfl hl (by decide) rfl (fun ls hl => ?_)
  refine lv_iconst (v := (0 : Int32)) hx hb dX6_waysToRing_4 (by decide) ?_
  refine lv_istore (lv' := [(4, .int (0 : Int32)), (3, .int (1 : Int32)), (2, .int (0 : Int32)), (0, .int x0), (1, .int x1)]) hx hb dX6_waysToRing_5 hl (by decide) rfl (fun ls hl => ?_)
  obtain ⟨nf7, h⟩ := h
  refine L7 x0 x1 _ (fun l2_41 l3_41 l4_41 H locs ls h hP hD hS hl => ?_) nf7 (0 : Int32) (1 : Int32) (0 : Int32) _ _ _ h hP hD hS (lv_sub hl [3, 4, 2, 1, 0] rfl)
  refine lv_iload_n hx hb dX6_waysToRing_41 rfl (lv_at hl 0 rfl) ?_
  exact hret l2_41 () _ _ _ _ rfl dX6_waysToRing_42 h hP hD hS
def wpX10_commonDivisor_L7 (kx34 : Int32 → Int32 → Int32 → Prop) (post : Int32 → Prop) : Nat → Int32 → Int32 → Int32 → Prop
  | 0, _, _, _ => False
  | nf7 + 1, l2, l3, l4 => (((100 : Int32) ≤ l4 → kx34 l2 l3 l4) ∧ (¬ (100 : Int32) ≤ l4 → ((l3 ≤ 0 → kx34 l2 l3 l4) ∧ (¬ l3 ≤ 0 → ¬ l3 = 0 ∧ ∀ l5_21 : Int32, l5_21 = (jrem l2 l3) → ∀ l4_28 : Int32, l4_28 = (l4 + (1 : Int32)) → wpX10_commonDivisor_L7 kx34 post nf7 l3 l5_21 l4_28))))
def wpX10_commonDivisor (x0 : Int32) (x1 : Int32) (post : Int32 → Prop) : Prop := ∃ nf7 : Nat, wpX10_commonDivisor_L7 (fun l2_34 l3_34 l4_34 => post l2_34) post nf7 x0 x1 (0 : Int32)
set_option maxHeartbeats 4000000 in
set_option maxRecDepth 100000 in
theorem ctX10_commonDivisor (l : Launch) (D : va_G) (cy : Nat → ClassId) (x0 : Int32) (x1 : Int32) (sz : Nat) (post : Int32 → Prop) (h : wpX10_commonDivisor x0 x1 post) : Met l yX10_commonDivisor (Cond.code yX10_commonDivisor cX10_commonDivisor 6 (some .int) :: TB) ({ frames := 0, cells := 0, slots := 0, locals := 0 }) (va_Pc [.int x0, .int x1] (PreX D cy [] sz)) (va_Qi (fun (r : Int32) (u : Unit) => post r) (fun u => BkX D cy [] sz []) (va_A [] sz)) 0 0 (va_A [] sz) := by
  refine ofWi (by decide) (Nat.le_of_ble_eq_true rfl) ?_
  intro p e s m args below meth c ls A R QQ hx hb hml hown hts hR hK hP hD hS hA hl hret
  have hown : s.vm.findClass RX10 = some m.cls := hown
  have hRf : 0 ≤ R.frames := by rw [hR]; exact Nat.le_refl _
  have hRl : 0 ≤ R.locals := by rw [hR]; exact Nat.le_refl _
  clear hR
  have hl : lv_has ls 6 [(0, .int x0), (1, .int x1)] := hl
  have L7 : ∀ (kx34 : Int32 → Int32 → Int32 → Prop), (∀ (l2 : Int32) (l3 : Int32) (l4 : Int32) (H : Heap) (locs : List Loc) (ls : Array Slot), kx34 l2 l3 l4 → va_P D clsX [] H → va_D A [] → va_S A s.heap H locs → lv_has ls 6 [(2, .int l2)] → W p l e R s m args below meth c H locs 0 0 QQ (F0 m 34 ls [])) → ∀ (nf7 : Nat) (l2 : Int32) (l3 : Int32) (l4 : Int32) (H : Heap) (locs : List Loc) (ls : Array Slot), wpX10_commonDivisor_L7 kx34 post nf7 l2 l3 l4 → va_P D clsX [] H → va_D A [] → va_S A s.heap H locs → lv_has ls 6 [(2, .int l2), (3, .int l3), (4, .int l4)] → W p l e R s m args below meth c H locs 0 0 QQ (F0 m 7 ls []) := by
    intro kx34 hk7_34 nf7
    induction nf7 with
    | zero =>
      intro l2 l3 l4 H locs ls h
      exact (show False from h).elim
    | succ nf7 ih7 =>
      intro l2 l3 l4 H locs ls h hP hD hS hl
      refine lv_iload hx hb dX10_commonDivisor_7 (lv_at hl 2 rfl) ?_
      refine lv_bipush (v := (100 : Int32)) hx hb dX10_commonDivisor_9 (by decide) ?_
      refine lv_icmp_ge (tgt := 34) hx hb dX10_commonDivisor_11 (by decide) (fun c11 => ?_) (fun c11 => ?_)
      · have h := h.1 c11
        exact hk7_34 l2 l3 l4 _ _ _ h hP hD hS (lv_sub hl [0] rfl)
      · have h := h.2 c11
        refine lv_iload_n hx hb dX10_commonDivisor_14 rfl (lv_at hl 1 rfl) ?_
        refine lv_if_le (tgt := 34) hx hb dX10_commonDivisor_15 (by decide) (fun c15 => ?_) (fun c15 => ?_)
        · have h := h.1 c15
          exact hk7_34 l2 l3 l4 _ _ _ h hP hD hS (lv_sub hl [0] rfl)
        · have h := h.2 c15
          refine lv_iload_n hx hb dX10_commonDivisor_18 rfl (lv_at hl 0 rfl) ?_
          refine lv_iload_n hx hb dX10_commonDivisor_19 rfl (lv_at hl 1 rfl) ?_
          obtain ⟨hne, h⟩ := h
          refine lv_irem hx hb dX10_commonDivisor_20 hne ?_
          refine lv_topi (fun l5_21 el5_21 => ?_)
          have h := h l5_21 el5_21
          refine lv_istore (lv' := [(5, .int l5_21), (2, .int l2), (3, .int l3), (4, .int l4)]) hx hb dX10_commonDivisor_21 hl (by decide) rfl (fun ls hl => ?_)
          refine lv_iload_n hx hb dX10_commonDivisor_23 rfl (lv_at hl 2 rfl) ?_
          refine lv_istore_n (lv' := [(2, .int l3), (5, .int l5_21), (3, .int l3), (4, .int l4)]) hx hb dX10_commonDivisor_24 rfl hl (by decide) rfl (fun ls hl => ?_)
          refine lv_iload hx hb dX10_commonDivisor_25 (lv_at hl 1 rfl) ?_
          refine lv_istore_n (lv' := [(3, .int l5_21), (2, .int l3), (5, .int l5_21), (4, .int l4)]) hx hb dX10_commonDivisor_27 rfl hl (by decide) rfl (fun ls hl => ?_)
          obtain ⟨l4_28, el4_28⟩ : ∃ y : Int32, y = l4 + (1 : Int32) := ⟨_, rfl⟩
          have h := h l4_28 el4_28
          refine lv_iinc (v := l4_28) (lv' := [(4, .int l4_28), (3, .int l5_21), (2, .int l3), (5, .int l5_21)]) hx hb dX10_commonDivisor_28 hl (k := 3) rfl (by rw [el4_28]; rfl) (by decide) rfl (fun ls hl => ?_)
          refine lv_goto (tgt := 7) hx hb dX10_commonDivisor_31 (by decide) ?_
          exact ih7 l3 l5_21 l4_28 _ _ _ h hP hD hS (lv_sub hl [2, 1, 0] rfl)
  refine lv_iload_n hx hb dX10_commonDivisor_0 rfl (lv_at hl 0 rfl) ?_
  refine lv_istore_n (lv' := [(2, .int x0), (0, .int x0), (1, .int x1)]) hx hb dX10_commonDivisor_1 rfl hl (by decide) rfl (fun ls hl => ?_)
  refine lv_iload_n hx hb dX10_commonDivisor_2 rfl (lv_at hl 2 rfl) ?_
  refine lv_istore_n (lv' := [(3, .int x1), (2, .int x0), (0, .int x0), (1, .int x1)]) hx hb dX10_commonDivisor_3 rfl hl (by decide) rfl (fun ls hl => ?_)
  refine lv_iconst (v := (0 : Int32)) hx hb dX10_commonDivisor_4 (by decide) ?_
  refine lv_istore (lv' := [(4, .int (0 : Int32)), (3, .int x1), (2, .int x0), (0, .int x0), (1, .int x1)]) hx hb dX10_commonDivisor_5 hl (by decide) rfl (fun ls hl => ?_)
  obtain ⟨nf7, h⟩ := h
  refine L7  _ (fun l2_34 l3_34 l4_34 H locs ls h hP hD hS hl => ?_) nf7 x0 x1 (0 : Int32) _ _ _ h hP hD hS (lv_sub hl [2, 1, 0] rfl)
  refine lv_iload_n hx hb dX10_commonDivisor_34 rfl (lv_at hl 0 rfl) ?_
  exact hret l2_34 () _ _ _ _ rfl dX10_commonDivisor_35 h hP hD hS
