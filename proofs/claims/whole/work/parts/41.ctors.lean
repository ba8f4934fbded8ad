theorem dX4_init_0 : decode cX4_init 0 = .ok (.aload_n 0, 1) := by decide +kernel
theorem dX4_init_1 : decode cX4_init 1 = .ok (.invokespecial 3, 3) := by decide +kernel
theorem dX4_init_4 : decode cX4_init 4 = .ok (.aload_n 0, 1) := by decide +kernel
theorem dX4_init_5 : decode cX4_init 5 = .ok (.iconst 5, 1) := by decide +kernel
theorem dX4_init_6 : decode cX4_init 6 = .ok (.newarray .int, 2) := by decide +kernel
theorem dX4_init_8 : decode cX4_init 8 = .ok (.putfield 9, 3) := by decide +kernel
theorem dX4_init_11 : decode cX4_init 11 = .ok (.aload_n 0, 1) := by decide +kernel
theorem dX4_init_12 : decode cX4_init 12 = .ok (.iconst 5, 1) := by decide +kernel
theorem dX4_init_13 : decode cX4_init 13 = .ok (.newarray .int, 2) := by decide +kernel
theorem dX4_init_15 : decode cX4_init 15 = .ok (.putfield 15, 3) := by decide +kernel
theorem dX4_init_18 : decode cX4_init 18 = .ok (.aload_n 0, 1) := by decide +kernel
theorem dX4_init_19 : decode cX4_init 19 = .ok (.iconst 5, 1) := by decide +kernel
theorem dX4_init_20 : decode cX4_init 20 = .ok (.newarray .int, 2) := by decide +kernel
theorem dX4_init_22 : decode cX4_init 22 = .ok (.putfield 18, 3) := by decide +kernel
theorem dX4_init_25 : decode cX4_init 25 = .ok (.aload_n 0, 1) := by decide +kernel
theorem dX4_init_26 : decode cX4_init 26 = .ok (.iconst 5, 1) := by decide +kernel
theorem dX4_init_27 : decode cX4_init 27 = .ok (.newarray .int, 2) := by decide +kernel
theorem dX4_init_29 : decode cX4_init 29 = .ok (.putfield 21, 3) := by decide +kernel
theorem dX4_init_32 : decode cX4_init 32 = .ok (.aload_n 0, 1) := by decide +kernel
theorem dX4_init_33 : decode cX4_init 33 = .ok (.iconst 5, 1) := by decide +kernel
theorem dX4_init_34 : decode cX4_init 34 = .ok (.newarray .boolean, 2) := by decide +kernel
theorem dX4_init_36 : decode cX4_init 36 = .ok (.putfield 24, 3) := by decide +kernel
theorem dX4_init_39 : decode cX4_init 39 = .ok (.aload_n 0, 1) := by decide +kernel
theorem dX4_init_40 : decode cX4_init 40 = .ok (.iconst 4, 1) := by decide +kernel
theorem dX4_init_41 : decode cX4_init 41 = .ok (.newarray .int, 2) := by decide +kernel
theorem dX4_init_43 : decode cX4_init 43 = .ok (.putfield 28, 3) := by decide +kernel
theorem dX4_init_46 : decode cX4_init 46 = .ok (.aload_n 0, 1) := by decide +kernel
theorem dX4_init_47 : decode cX4_init 47 = .ok (.iconst 4, 1) := by decide +kernel
theorem dX4_init_48 : decode cX4_init 48 = .ok (.newarray .int, 2) := by decide +kernel
theorem dX4_init_50 : decode cX4_init 50 = .ok (.putfield 31, 3) := by decide +kernel
theorem dX4_init_53 : decode cX4_init 53 = .ok (.aload_n 0, 1) := by decide +kernel
theorem dX4_init_54 : decode cX4_init 54 = .ok (.iconst 4, 1) := by decide +kernel
theorem dX4_init_55 : decode cX4_init 55 = .ok (.newarray .int, 2) := by decide +kernel
theorem dX4_init_57 : decode cX4_init 57 = .ok (.putfield 34, 3) := by decide +kernel
theorem dX4_init_60 : decode cX4_init 60 = .ok (.aload_n 0, 1) := by decide +kernel
theorem dX4_init_61 : decode cX4_init 61 = .ok (.bipush 100, 2) := by decide +kernel
theorem dX4_init_63 : decode cX4_init 63 = .ok (.newarray .boolean, 2) := by decide +kernel
theorem dX4_init_65 : decode cX4_init 65 = .ok (.putfield 37, 3) := by decide +kernel
theorem dX4_init_68 : decode cX4_init 68 = .ok (.return_, 1) := by decide +kernel
set_option maxHeartbeats 4000000 in
set_option maxRecDepth 100000 in
theorem ctX4_init (l : Launch) (D : va_G) (cy : Nat → ClassId) (ev : Nat → Nat) (h0 : Nat) (sz : Nat) : Met l yX4_init (Cond.code yX4_init cX4_init 1 none :: TB) ({ frames := 1, cells := 9, slots := 137, locals := 60 }) (va_Pc [.ref h0] (PreX D cy ev [(h0, .inr (4, [.int 0, .int 0, .int 0, .int 0, .int 0, .int 0, .int 0, .null, .null, .null, .null, .null, .null, .null, .null, .null]))] sz)) (va_Qv (fun (_ : Nat → Nat) => True) (fun u => BkX D cy [(h0, .inr (4, [.int 0, .int 0, .int 0, .int 0, .int 0, .int 0, .int 0, .null, .null, .null, .null, .null, .null, .null, .null, .null]))] sz [(h0, .inr (4, oX4 u (fun _ => 0))), ((u 7), .inl (cy 0, 5, .inl (fun _ => 0))), ((u 8), .inl (cy 0, 5, .inl (fun _ => 0))), ((u 9), .inl (cy 0, 5, .inl (fun _ => 0))), ((u 10), .inl (cy 0, 5, .inl (fun _ => 0))), ((u 11), .inl (cy 2, 5, .inl (fun _ => 0))), ((u 12), .inl (cy 0, 4, .inl (fun _ => 0))), ((u 13), .inl (cy 0, 4, .inl (fun _ => 0))), ((u 14), .inl (cy 0, 4, .inl (fun _ => 0))), ((u 15), .inl (cy 2, 100, .inl (fun _ => 0)))]) (va_A [(h0, .inr (4, [.int 0, .int 0, .int 0, .int 0, .int 0, .int 0, .int 0, .null, .null, .null, .null, .null, .null, .null, .null, .null]))] sz)) 9 137 (va_A [(h0, .inr (4, [.int 0, .int 0, .int 0, .int 0, .int 0, .int 0, .int 0, .null, .null, .null, .null, .null, .null, .null, .null, .null]))] sz) := by
  refine ofWc (by decide) (Nat.le_of_ble_eq_true rfl) ?_
  intro p e s m args below meth c ls A R QQ hx hb hml hown hts hR hlk hin hE hK hP hD hS hA hl hret
  have hown : s.vm.findClass RX4 = some m.cls := hown
  have hRf : 1 ≤ R.frames := by rw [hR]; exact Nat.le_refl _
  have hRl : 60 ≤ R.locals := by rw [hR]; exact Nat.le_refl _
  have hRc : 9 ≤ R.cells := by rw [hR]; exact Nat.le_refl _
  have hRs : 137 ≤ R.slots := by rw [hR]; exact Nat.le_refl _
  clear hR
  have hl : lv_has ls 1 [(0, .ref h0)] := hl
  refine lv_aload_n hx hb dX4_init_0 rfl (lv_at hl 0 rfl) ?_
  refine W.objInit hx hb hown (hts _ (tb mw80)) (hts _ (tb mw31)) (hts _ (tb mw32)) rfl (by rw [hml]; exact hl.1) rfl dX4_init_1 (Nat.le_trans (by decide) hRf) (Nat.le_trans (Nat.le_of_ble_eq_true rfl) hRl) ?_
  refine W.eq (g2 := F0 m 4 ls []) rfl ?_
  refine lv_aload_n hx hb dX4_init_4 rfl (lv_at hl 0 rfl) ?_
  refine lv_iconst (v := (5 : Int32)) hx hb dX4_init_5 (by decide) ?_
  refine nwI (N := 5) hx hb hts hK hP hD hS hA (by decide) (by decide) (by decide) (Nat.le_trans (by decide) hRc) (Nat.le_trans (by decide) hRs) dX4_init_6 (fun q0 H hP hD hS => ?_)
  have hP : va_P D clsX [(h0, .inr (4, [.int 0, .int 0, .int 0, .int 0, .int 0, .int 0, .int 0, .null, .null, .null, .null, .null, .null, .null, .null, .null])), (q0, .inl (cy 0, 5, .inl (fun _ => 0)))] H := hP
  have hD : va_D A [(h0, .inr (4, [.int 0, .int 0, .int 0, .int 0, .int 0, .int 0, .int 0, .null, .null, .null, .null, .null, .null, .null, .null, .null])), (q0, .inl (cy 0, 5, .inl (fun _ => 0)))] := hD
  refine va_putF (D := D) (ci := 4) (v := .ref q0) (ty := .array .int) (C := RX4) (T := TX4) (N := 16) hx hb hts (fun w h => tb (iX4 w h)) tyX4 tyX4_ok nmX4 hown hK hP hD hS 0 rfl rfl 7 (by decide) (hts _ (tb mw110)) (fun _ h9 => h9) rfl hin rfl (by decide +kernel) rfl rfl (Nat.le_of_ble_eq_true rfl) dX4_init_8 (fun H locs hP hD hS => ?_)
  have hP : va_P D clsX [(h0, .inr (4, [.int 0, .int 0, .int 0, .int 0, .int 0, .int 0, .int 0, .ref q0, .null, .null, .null, .null, .null, .null, .null, .null])), (q0, .inl (cy 0, 5, .inl (fun _ => 0)))] H := hP
  have hD : va_D A [(h0, .inr (4, [.int 0, .int 0, .int 0, .int 0, .int 0, .int 0, .int 0, .ref q0, .null, .null, .null, .null, .null, .null, .null, .null])), (q0, .inl (cy 0, 5, .inl (fun _ => 0)))] := hD
  refine lv_aload_n hx hb dX4_init_11 rfl (lv_at hl 0 rfl) ?_
  refine lv_iconst (v := (5 : Int32)) hx hb dX4_init_12 (by decide) ?_
  refine nwI (N := 5) hx hb hts hK hP hD hS hA (by decide) (by decide) (by decide) (Nat.le_trans (by decide) hRc) (Nat.le_trans (by decide) hRs) dX4_init_13 (fun q1 H hP hD hS => ?_)
  have hP : va_P D clsX [(h0, .inr (4, [.int 0, .int 0, .int 0, .int 0, .int 0, .int 0, .int 0, .ref q0, .null, .null, .null, .null, .null, .null, .null, .null])), (q0, .inl (cy 0, 5, .inl (fun _ => 0))), (q1, .inl (cy 0, 5, .inl (fun _ => 0)))] H := hP
  have hD : va_D A [(h0, .inr (4, [.int 0, .int 0, .int 0, .int 0, .int 0, .int 0, .int 0, .ref q0, .null, .null, .null, .null, .null, .null, .null, .null])), (q0, .inl (cy 0, 5, .inl (fun _ => 0))), (q1, .inl (cy 0, 5, .inl (fun _ => 0)))] := hD
  refine va_putF (D := D) (ci := 4) (v := .ref q1) (ty := .array .int) (C := RX4) (T := TX4) (N := 16) hx hb hts (fun w h => tb (iX4 w h)) tyX4 tyX4_ok nmX4 hown hK hP hD hS 0 rfl rfl 8 (by decide) (hts _ (tb mw114)) (fun _ h9 => h9) rfl hin rfl (by decide +kernel) rfl rfl (Nat.le_of_ble_eq_true rfl) dX4_init_15 (fun H locs hP hD hS => ?_)
  have hP : va_P D clsX [(h0, .inr (4, [.int 0, .int 0, .int 0, .int 0, .int 0, .int 0, .int 0, .ref q0, .ref q1, .null, .null, .null, .null, .null, .null, .null])), (q0, .inl (cy 0, 5, .inl (fun _ => 0))), (q1, .inl (cy 0, 5, .inl (fun _ => 0)))] H := hP
  have hD : va_D A [(h0, .inr (4, [.int 0, .int 0, .int 0, .int 0, .int 0, .int 0, .int 0, .ref q0, .ref q1, .null, .null, .null, .null, .null, .null, .null])), (q0, .inl (cy 0, 5, .inl (fun _ => 0))), (q1, .inl (cy 0, 5, .inl (fun _ => 0)))] := hD
  refine lv_aload_n hx hb dX4_init_18 rfl (lv_at hl 0 rfl) ?_
  refine lv_iconst (v := (5 : Int32)) hx hb dX4_init_19 (by decide) ?_
  refine nwI (N := 5) hx hb hts hK hP hD hS hA (by decide) (by decide) (by decide) (Nat.le_trans (by decide) hRc) (Nat.le_trans (by decide) hRs) dX4_init_20 (fun q2 H hP hD hS => ?_)
  have hP : va_P D clsX [(h0, .inr (4, [.int 0, .int 0, .int 0, .int 0, .int 0, .int 0, .int 0, .ref q0, .ref q1, .null, .null, .null, .null, .null, .null, .null])), (q0, .inl (cy 0, 5, .inl (fun _ => 0))), (q1, .inl (cy 0, 5, .inl (fun _ => 0))), (q2, .inl (cy 0, 5, .inl (fun _ => 0)))] H := hP
  have hD : va_D A [(h0, .inr (4, [.int 0, .int 0, .int 0, .int 0, .int 0, .int 0, .int 0, .ref q0, .ref q1, .null, .null, .null, .null, .null, .null, .null])), (q0, .inl (cy 0, 5, .inl (fun _ => 0))), (q1, .inl (cy 0, 5, .inl (fun _ => 0))), (q2, .inl (cy 0, 5, .inl (fun _ => 0)))] := hD
  refine va_putF (D := D) (ci := 4) (v := .ref q2) (ty := .array .int) (C := RX4) (T := TX4) (N := 16) hx hb hts (fun w h => tb (iX4 w h)) tyX4 tyX4_ok nmX4 hown hK hP hD hS 0 rfl rfl 9 (by decide) (hts _ (tb mw117)) (fun _ h9 => h9) rfl hin rfl (by decide +kernel) rfl rfl (Nat.le_of_ble_eq_true rfl) dX4_init_22 (fun H locs hP hD hS => ?_)
  have hP : va_P D clsX [(h0, .inr (4, [.int 0, .int 0, .int 0, .int 0, .int 0, .int 0, .int 0, .ref q0, .ref q1, .ref q2, .null, .null, .null, .null, .null, .null])), (q0, .inl (cy 0, 5, .inl (fun _ => 0))), (q1, .inl (cy 0, 5, .inl (fun _ => 0))), (q2, .inl (cy 0, 5, .inl (fun _ => 0)))] H := hP
  have hD : va_D A [(h0, .inr (4, [.int 0, .int 0, .int 0, .int 0, .int 0, .int 0, .int 0, .ref q0, .ref q1, .ref q2, .null, .null, .null, .null, .null, .null])), (q0, .inl (cy 0, 5, .inl (fun _ => 0))), (q1, .inl (cy 0, 5, .inl (fun _ => 0))), (q2, .inl (cy 0, 5, .inl (fun _ => 0)))] := hD
  refine lv_aload_n hx hb dX4_init_25 rfl (lv_at hl 0 rfl) ?_
  refine lv_iconst (v := (5 : Int32)) hx hb dX4_init_26 (by decide) ?_
  refine nwI (N := 5) hx hb hts hK hP hD hS hA (by decide) (by decide) (by decide) (Nat.le_trans (by decide) hRc) (Nat.le_trans (by decide) hRs) dX4_init_27 (fun q3 H hP hD hS => ?_)
  have hP : va_P D clsX [(h0, .inr (4, [.int 0, .int 0, .int 0, .int 0, .int 0, .int 0, .int 0, .ref q0, .ref q1, .ref q2, .null, .null, .null, .null, .null, .null])), (q0, .inl (cy 0, 5, .inl (fun _ => 0))), (q1, .inl (cy 0, 5, .inl (fun _ => 0))), (q2, .inl (cy 0, 5, .inl (fun _ => 0))), (q3, .inl (cy 0, 5, .inl (fun _ => 0)))] H := hP
  have hD : va_D A [(h0, .inr (4, [.int 0, .int 0, .int 0, .int 0, .int 0, .int 0, .int 0, .ref q0, .ref q1, .ref q2, .null, .null, .null, .null, .null, .null])), (q0, .inl (cy 0, 5, .inl (fun _ => 0))), (q1, .inl (cy 0, 5, .inl (fun _ => 0))), (q2, .inl (cy 0, 5, .inl (fun _ => 0))), (q3, .inl (cy 0, 5, .inl (fun _ => 0)))] := hD
  refine va_putF (D := D) (ci := 4) (v := .ref q3) (ty := .array .int) (C := RX4) (T := TX4) (N := 16) hx hb hts (fun w h => tb (iX4 w h)) tyX4 tyX4_ok nmX4 hown hK hP hD hS 0 rfl rfl 10 (by decide) (hts _ (tb mw121)) (fun _ h9 => h9) rfl hin rfl (by decide +kernel) rfl rfl (Nat.le_of_ble_eq_true rfl) dX4_init_29 (fun H locs hP hD hS => ?_)
  have hP : va_P D clsX [(h0, .inr (4, [.int 0, .int 0, .int 0, .int 0, .int 0, .int 0, .int 0, .ref q0, .ref q1, .ref q2, .ref q3, .null, .null, .null, .null, .null])), (q0, .inl (cy 0, 5, .inl (fun _ => 0))), (q1, .inl (cy 0, 5, .inl (fun _ => 0))), (q2, .inl (cy 0, 5, .inl (fun _ => 0))), (q3, .inl (cy 0, 5, .inl (fun _ => 0)))] H := hP
  have hD : va_D A [(h0, .inr (4, [.int 0, .int 0, .int 0, .int 0, .int 0, .int 0, .int 0, .ref q0, .ref q1, .ref q2, .ref q3, .null, .null, .null, .null, .null])), (q0, .inl (cy 0, 5, .inl (fun _ => 0))), (q1, .inl (cy 0, 5, .inl (fun _ => 0))), (q2, .inl (cy 0, 5, .inl (fun _ => 0))), (q3, .inl (cy 0, 5, .inl (fun _ => 0)))] := hD
  refine lv_aload_n hx hb dX4_init_32 rfl (lv_at hl 0 rfl) ?_
  refine lv_iconst (v := (5 : Int32)) hx hb dX4_init_33 (by decide) ?_
  refine nwZ (N := 5) hx hb hts hK hP hD hS hA (by decide) (by decide) (by decide) (Nat.le_trans (by decide) hRc) (Nat.le_trans (by decide) hRs) dX4_init_34 (fun q4 H hP hD hS => ?_)
  have hP : va_P D clsX [(h0, .inr (4, [.int 0, .int 0, .int 0, .int 0, .int 0, .int 0, .int 0, .ref q0, .ref q1, .ref q2, .ref q3, .null, .null, .null, .null, .null])), (q0, .inl (cy 0, 5, .inl (fun _ => 0))), (q1, .inl (cy 0, 5, .inl (fun _ => 0))), (q2, .inl (cy 0, 5, .inl (fun _ => 0))), (q3, .inl (cy 0, 5, .inl (fun _ => 0))), (q4, .inl (cy 2, 5, .inl (fun _ => 0)))] H := hP
  have hD : va_D A [(h0, .inr (4, [.int 0, .int 0, .int 0, .int 0, .int 0, .int 0, .int 0, .ref q0, .ref q1, .ref q2, .ref q3, .null, .null, .null, .null, .null])), (q0, .inl (cy 0, 5, .inl (fun _ => 0))), (q1, .inl (cy 0, 5, .inl (fun _ => 0))), (q2, .inl (cy 0, 5, .inl (fun _ => 0))), (q3, .inl (cy 0, 5, .inl (fun _ => 0))), (q4, .inl (cy 2, 5, .inl (fun _ => 0)))] := hD
  refine va_putF (D := D) (ci := 4) (v := .ref q4) (ty := .array .boolean) (C := RX4) (T := TX4) (N := 16) hx hb hts (fun w h => tb (iX4 w h)) tyX4 tyX4_ok nmX4 hown hK hP hD hS 0 rfl rfl 11 (by decide) (hts _ (tb mw124)) (fun _ h9 => h9) rfl hin rfl (by decide +kernel) rfl rfl (Nat.le_of_ble_eq_true rfl) dX4_init_36 (fun H locs hP hD hS => ?_)
  have hP : va_P D clsX [(h0, .inr (4, [.int 0, .int 0, .int 0, .int 0, .int 0, .int 0, .int 0, .ref q0, .ref q1, .ref q2, .ref q3, .ref q4, .null, .null, .null, .null])), (q0, .inl (cy 0, 5, .inl (fun _ => 0))), (q1, .inl (cy 0, 5, .inl (fun _ => 0))), (q2, .inl (cy 0, 5, .inl (fun _ => 0))), (q3, .inl (cy 0, 5, .inl (fun _ => 0))), (q4, .inl (cy 2, 5, .inl (fun _ => 0)))] H := hP
  have hD : va_D A [(h0, .inr (4, [.int 0, .int 0, .int 0, .int 0, .int 0, .int 0, .int 0, .ref q0, .ref q1, .ref q2, .ref q3, .ref q4, .null, .null, .null, .null])), (q0, .inl (cy 0, 5, .inl (fun _ => 0))), (q1, .inl (cy 0, 5, .inl (fun _ => 0))), (q2, .inl (cy 0, 5, .inl (fun _ => 0))), (q3, .inl (cy 0, 5, .inl (fun _ => 0))), (q4, .inl (cy 2, 5, .inl (fun _ => 0)))] := hD
  refine lv_aload_n hx hb dX4_init_39 rfl (lv_at hl 0 rfl) ?_
  refine lv_iconst (v := (4 : Int32)) hx hb dX4_init_40 (by decide) ?_
  refine nwI (N := 4) hx hb hts hK hP hD hS hA (by decide) (by decide) (by decide) (Nat.le_trans (by decide) hRc) (Nat.le_trans (by decide) hRs) dX4_init_41 (fun q5 H hP hD hS => ?_)
  have hP : va_P D clsX [(h0, .inr (4, [.int 0, .int 0, .int 0, .int 0, .int 0, .int 0, .int 0, .ref q0, .ref q1, .ref q2, .ref q3, .ref q4, .null, .null, .null, .null])), (q0, .inl (cy 0, 5, .inl (fun _ => 0))), (q1, .inl (cy 0, 5, .inl (fun _ => 0))), (q2, .inl (cy 0, 5, .inl (fun _ => 0))), (q3, .inl (cy 0, 5, .inl (fun _ => 0))), (q4, .inl (cy 2, 5, .inl (fun _ => 0))), (q5, .inl (cy 0, 4, .inl (fun _ => 0)))] H := hP
  have hD : va_D A [(h0, .inr (4, [.int 0, .int 0, .int 0, .int 0, .int 0, .int 0, .int 0, .ref q0, .ref q1, .ref q2, .ref q3, .ref q4, .null, .null, .null, .null])), (q0, .inl (cy 0, 5, .inl (fun _ => 0))), (q1, .inl (cy 0, 5, .inl (fun _ => 0))), (q2, .inl (cy 0, 5, .inl (fun _ => 0))), (q3, .inl (cy 0, 5, .inl (fun _ => 0))), (q4, .inl (cy 2, 5, .inl (fun _ => 0))), (q5, .inl (cy 0, 4, .inl (fun _ => 0)))] := hD
  refine va_putF (D := D) (ci := 4) (v := .ref q5) (ty := .array .int) (C := RX4) (T := TX4) (N := 16) hx hb hts (fun w h => tb (iX4 w h)) tyX4 tyX4_ok nmX4 hown hK hP hD hS 0 rfl rfl 12 (by decide) (hts _ (tb mw128)) (fun _ h9 => h9) rfl hin rfl (by decide +kernel) rfl rfl (Nat.le_of_ble_eq_true rfl) dX4_init_43 (fun H locs hP hD hS => ?_)
  have hP : va_P D clsX [(h0, .inr (4, [.int 0, .int 0, .int 0, .int 0, .int 0, .int 0, .int 0, .ref q0, .ref q1, .ref q2, .ref q3, .ref q4, .ref q5, .null, .null, .null])), (q0, .inl (cy 0, 5, .inl (fun _ => 0))), (q1, .inl (cy 0, 5, .inl (fun _ => 0))), (q2, .inl (cy 0, 5, .inl (fun _ => 0))), (q3, .inl (cy 0, 5, .inl (fun _ => 0))), (q4, .inl (cy 2, 5, .inl (fun _ => 0))), (q5, .inl (cy 0, 4, .inl (fun _ => 0)))] H := hP
  have hD : va_D A [(h0, .inr (4, [.int 0, .int 0, .int 0, .int 0, .int 0, .int 0, .int 0, .ref q0, .ref q1, .ref q2, .ref q3, .ref q4, .ref q5, .null, .null, .null])), (q0, .inl (cy 0, 5, .inl (fun _ => 0))), (q1, .inl (cy 0, 5, .inl (fun _ => 0))), (q2, .inl (cy 0, 5, .inl (fun _ => 0))), (q3, .inl (cy 0, 5, .inl (fun _ => 0))), (q4, .inl (cy 2, 5, .inl (fun _ => 0))), (q5, .inl (cy 0, 4, .inl (fun _ => 0)))] := hD
  refine lv_aload_n hx hb dX4_init_46 rfl (lv_at hl 0 rfl) ?_
  refine lv_iconst (v := (4 : Int32)) hx hb dX4_init_47 (by decide) ?_
  refine nwI (N := 4) hx hb hts hK hP hD hS hA (by decide) (by decide) (by decide) (Nat.le_trans (by decide) hRc) (Nat.le_trans (by decide) hRs) dX4_init_48 (fun q6 H hP hD hS => ?_)
  have hP : va_P D clsX [(h0, .inr (4, [.int 0, .int 0, .int 0, .int 0, .int 0, .int 0, .int 0, .ref q0, .ref q1, .ref q2, .ref q3, .ref q4, .ref q5, .null, .null, .null])), (q0, .inl (cy 0, 5, .inl (fun _ => 0))), (q1, .inl (cy 0, 5, .inl (fun _ => 0))), (q2, .inl (cy 0, 5, .inl (fun _ => 0))), (q3, .inl (cy 0, 5, .inl (fun _ => 0))), (q4, .inl (cy 2, 5, .inl (fun _ => 0))), (q5, .inl (cy 0, 4, .inl (fun _ => 0))), (q6, .inl (cy 0, 4, .inl (fun _ => 0)))] H := hP
  have hD : va_D A [(h0, .inr (4, [.int 0, .int 0, .int 0, .int 0, .int 0, .int 0, .int 0, .ref q0, .ref q1, .ref q2, .ref q3, .ref q4, .ref q5, .null, .null, .null])), (q0, .inl (cy 0, 5, .inl (fun _ => 0))), (q1, .inl (cy 0, 5, .inl (fun _ => 0))), (q2, .inl (cy 0, 5, .inl (fun _ => 0))), (q3, .inl (cy 0, 5, .inl (fun _ => 0))), (q4, .inl (cy 2, 5, .inl (fun _ => 0))), (q5, .inl (cy 0, 4, .inl (fun _ => 0))), (q6, .inl (cy 0, 4, .inl (fun _ => 0)))] := hD
  refine va_putF (D := D) (ci := 4) (v := .ref q6) (ty := .array .int) (C := RX4) (T := TX4) (N := 16) hx hb hts (fun w h => tb (iX4 w h)) tyX4 tyX4_ok nmX4 hown hK hP hD hS 0 rfl rfl 13 (by decide) (hts _ (tb mw132)) (fun _ h9 => h9) rfl hin rfl (by decide +kernel) rfl rfl (Nat.le_of_ble_eq_true rfl) dX4_init_50 (fun H locs hP hD hS => ?_)
  have hP : va_P D clsX [(h0, .inr (4, [.int 0, .int 0, .int 0, .int 0, .int 0, .int 0, .int 0, .ref q0, .ref q1, .ref q2, .ref q3, .ref q4, .ref q5, .ref q6, .null, .null])), (q0, .inl (cy 0, 5, .inl (fun _ => 0))), (q1, .inl (cy 0, 5, .inl (fun _ => 0))), (q2, .inl (cy 0, 5, .inl (fun _ => 0))), (q3, .inl (cy 0, 5, .inl (fun _ => 0))), (q4, .inl (cy 2, 5, .inl (fun _ => 0))), (q5, .inl (cy 0, 4, .inl (fun _ => 0))), (q6, .inl (cy 0, 4, .inl (fun _ => 0)))] H := hP
  have hD : va_D A [(h0, .inr (4, [.int 0, .int 0, .int 0, .int 0, .int 0, .int 0, .int 0, .ref q0, .ref q1, .ref q2, .ref q3, .ref q4, .ref q5, .ref q6, .null, .null])), (q0, .inl (cy 0, 5, .inl (fun _ => 0))), (q1, .inl (cy 0, 5, .inl (fun _ => 0))), (q2, .inl (cy 0, 5, .inl (fun _ => 0))), (q3, .inl (cy 0, 5, .inl (fun _ => 0))), (q4, .inl (cy 2, 5, .inl (fun _ => 0))), (q5, .inl (cy 0, 4, .inl (fun _ => 0))), (q6, .inl (cy 0, 4, .inl (fun _ => 0)))] := hD
  refine lv_aload_n hx hb dX4_init_53 rfl (lv_at hl 0 rfl) ?_
  refine lv_iconst (v := (4 : Int32)) hx hb dX4_init_54 (by decide) ?_
  refine nwI (N := 4) hx hb hts hK hP hD hS hA (by decide) (by decide) (by decide) (Nat.le_trans (by decide) hRc) (Nat.le_trans (by decide) hRs) dX4_init_55 (fun q7 H hP hD hS => ?_)
  have hP : va_P D clsX [(h0, .inr (4, [.int 0, .int 0, .int 0, .int 0, .int 0, .int 0, .int 0, .ref q0, .ref q1, .ref q2, .ref q3, .ref q4, .ref q5, .ref q6, .null, .null])), (q0, .inl (cy 0, 5, .inl (fun _ => 0))), (q1, .inl (cy 0, 5, .inl (fun _ => 0))), (q2, .inl (cy 0, 5, .inl (fun _ => 0))), (q3, .inl (cy 0, 5, .inl (fun _ => 0))), (q4, .inl (cy 2, 5, .inl (fun _ => 0))), (q5, .inl (cy 0, 4, .inl (fun _ => 0))), (q6, .inl (cy 0, 4, .inl (fun _ => 0))), (q7, .inl (cy 0, 4, .inl (fun _ => 0)))] H := hP
  have hD : va_D A [(h0, .inr (4, [.int 0, .int 0, .int 0, .int 0, .int 0, .int 0, .int 0, .ref q0, .ref q1, .ref q2, .ref q3, .ref q4, .ref q5, .ref q6, .null, .null])), (q0, .inl (cy 0, 5, .inl (fun _ => 0))), (q1, .inl (cy 0, 5, .inl (fun _ => 0))), (q2, .inl (cy 0, 5, .inl (fun _ => 0))), (q3, .inl (cy 0, 5, .inl (fun _ => 0))), (q4, .inl (cy 2, 5, .inl (fun _ => 0))), (q5, .inl (cy 0, 4, .inl (fun _ => 0))), (q6, .inl (cy 0, 4, .inl (fun _ => 0))), (q7, .inl (cy 0, 4, .inl (fun _ => 0)))] := hD
  refine va_putF (D := D) (ci := 4) (v := .ref q7) (ty := .array .int) (C := RX4) (T := TX4) (N := 16) hx hb hts (fun w h => tb (iX4 w h)) tyX4 tyX4_ok nmX4 hown hK hP hD hS 0 rfl rfl 14 (by decide) (hts _ (tb mw135)) (fun _ h9 => h9) rfl hin rfl (by decide +kernel) rfl rfl (Nat.le_of_ble_eq_true rfl) dX4_init_57 (fun H locs hP hD hS => ?_)
  have hP : va_P D clsX [(h0, .inr (4, [.int 0, .int 0, .int 0, .int 0, .int 0, .int 0, .int 0, .ref q0, .ref q1, .ref q2, .ref q3, .ref q4, .ref q5, .ref q6, .ref q7, .null])), (q0, .inl (cy 0, 5, .inl (fun _ => 0))), (q1, .inl (cy 0, 5, .inl (fun _ => 0))), (q2, .inl (cy 0, 5, .inl (fun _ => 0))), (q3, .inl (cy 0, 5, .inl (fun _ => 0))), (q4, .inl (cy 2, 5, .inl (fun _ => 0))), (q5, .inl (cy 0, 4, .inl (fun _ => 0))), (q6, .inl (cy 0, 4, .inl (fun _ => 0))), (q7, .inl (cy 0, 4, .inl (fun _ => 0)))] H := hP
  have hD : va_D A [(h0, .inr (4, [.int 0, .int 0, .int 0, .int 0, .int 0, .int 0, .int 0, .ref q0, .ref q1, .ref q2, .ref q3, .ref q4, .ref q5, .ref q6, .ref q7, .null])), (q0, .inl (cy 0, 5, .inl (fun _ => 0))), (q1, .inl (cy 0, 5, .inl (fun _ => 0))), (q2, .inl (cy 0, 5, .inl (fun _ => 0))), (q3, .inl (cy 0, 5, .inl (fun _ => 0))), (q4, .inl (cy 2, 5, .inl (fun _ => 0))), (q5, .inl (cy 0, 4, .inl (fun _ => 0))), (q6, .inl (cy 0, 4, .inl (fun _ => 0))), (q7, .inl (cy 0, 4, .inl (fun _ => 0)))] := hD
  refine lv_aload_n hx hb dX4_init_60 rfl (lv_at hl 0 rfl) ?_
  refine lv_bipush (v := (100 : Int32)) hx hb dX4_init_61 (by decide) ?_
  refine nwZ (N := 100) hx hb hts hK hP hD hS hA (by decide) (by decide) (by decide) (Nat.le_trans (by decide) hRc) (Nat.le_trans (by decide) hRs) dX4_init_63 (fun q8 H hP hD hS => ?_)
  have hP : va_P D clsX [(h0, .inr (4, [.int 0, .int 0, .int 0, .int 0, .int 0, .int 0, .int 0, .ref q0, .ref q1, .ref q2, .ref q3, .ref q4, .ref q5, .ref q6, .ref q7, .null])), (q0, .inl (cy 0, 5, .inl (fun _ => 0))), (q1, .inl (cy 0, 5, .inl (fun _ => 0))), (q2, .inl (cy 0, 5, .inl (fun _ => 0))), (q3, .inl (cy 0, 5, .inl (fun _ => 0))), (q4, .inl (cy 2, 5, .inl (fun _ => 0))), (q5, .inl (cy 0, 4, .inl (fun _ => 0))), (q6, .inl (cy 0, 4, .inl (fun _ => 0))), (q7, .inl (cy 0, 4, .inl (fun _ => 0))), (q8, .inl (cy 2, 100, .inl (fun _ => 0)))] H := hP
  have hD : va_D A [(h0, .inr (4, [.int 0, .int 0, .int 0, .int 0, .int 0, .int 0, .int 0, .ref q0, .ref q1, .ref q2, .ref q3, .ref q4, .ref q5, .ref q6, .ref q7, .null])), (q0, .inl (cy 0, 5, .inl (fun _ => 0))), (q1, .inl (cy 0, 5, .inl (fun _ => 0))), (q2, .inl (cy 0, 5, .inl (fun _ => 0))), (q3, .inl (cy 0, 5, .inl (fun _ => 0))), (q4, .inl (cy 2, 5, .inl (fun _ => 0))), (q5, .inl (cy 0, 4, .inl (fun _ => 0))), (q6, .inl (cy 0, 4, .inl (fun _ => 0))), (q7, .inl (cy 0, 4, .inl (fun _ => 0))), (q8, .inl (cy 2, 100, .inl (fun _ => 0)))] := hD
  refine va_putF (D := D) (ci := 4) (v := .ref q8) (ty := .array .boolean) (C := RX4) (T := TX4) (N := 16) hx hb hts (fun w h => tb (iX4 w h)) tyX4 tyX4_ok nmX4 hown hK hP hD hS 0 rfl rfl 15 (by decide) (hts _ (tb mw138)) (fun _ h9 => h9) rfl hin rfl (by decide +kernel) rfl rfl (Nat.le_of_ble_eq_true rfl) dX4_init_65 (fun H locs hP hD hS => ?_)
  have hP : va_P D clsX [(h0, .inr (4, [.int 0, .int 0, .int 0, .int 0, .int 0, .int 0, .int 0, .ref q0, .ref q1, .ref q2, .ref q3, .ref q4, .ref q5, .ref q6, .ref q7, .ref q8])), (q0, .inl (cy 0, 5, .inl (fun _ => 0))), (q1, .inl (cy 0, 5, .inl (fun _ => 0))), (q2, .inl (cy 0, 5, .inl (fun _ => 0))), (q3, .inl (cy 0, 5, .inl (fun _ => 0))), (q4, .inl (cy 2, 5, .inl (fun _ => 0))), (q5, .inl (cy 0, 4, .inl (fun _ => 0))), (q6, .inl (cy 0, 4, .inl (fun _ => 0))), (q7, .inl (cy 0, 4, .inl (fun _ => 0))), (q8, .inl (cy 2, 100, .inl (fun _ => 0)))] H := hP
  have hD : va_D A [(h0, .inr (4, [.int 0, .int 0, .int 0, .int 0, .int 0, .int 0, .int 0, .ref q0, .ref q1, .ref q2, .ref q3, .ref q4, .ref q5, .ref q6, .ref q7, .ref q8])), (q0, .inl (cy 0, 5, .inl (fun _ => 0))), (q1, .inl (cy 0, 5, .inl (fun _ => 0))), (q2, .inl (cy 0, 5, .inl (fun _ => 0))), (q3, .inl (cy 0, 5, .inl (fun _ => 0))), (q4, .inl (cy 2, 5, .inl (fun _ => 0))), (q5, .inl (cy 0, 4, .inl (fun _ => 0))), (q6, .inl (cy 0, 4, .inl (fun _ => 0))), (q7, .inl (cy 0, 4, .inl (fun _ => 0))), (q8, .inl (cy 2, 100, .inl (fun _ => 0)))] := hD
  refine W.widen (k := 9) (n := 137) (by decide) (by decide) ?_
  exact hret (rl [0, 0, 0, 0, 0, 0, 0, q0, q1, q2, q3, q4, q5, q6, q7, q8]) _ _ _ _ dX4_init_68 trivial (hP.sub [0, 1, 2, 3, 4, 5, 6, 7, 8, 9] rfl) (hD.sub [0, 1, 2, 3, 4, 5, 6, 7, 8, 9] (by decide) rfl) hS
theorem dX8_init_0 : decode cX8_init 0 = .ok (.aload_n 0, 1) := by decide +kernel
theorem dX8_init_1 : decode cX8_init 1 = .ok (.invokespecial 3, 3) := by decide +kernel
theorem dX8_init_4 : decode cX8_init 4 = .ok (.aload_n 0, 1) := by decide +kernel
theorem dX8_init_5 : decode cX8_init 5 = .ok (.iconst 0, 1) := by decide +kernel
theorem dX8_init_6 : decode cX8_init 6 = .ok (.newarray .byte, 2) := by decide +kernel
theorem dX8_init_8 : decode cX8_init 8 = .ok (.putfield 9, 3) := by decide +kernel
theorem dX8_init_11 : decode cX8_init 11 = .ok (.return_, 1) := by decide +kernel
set_option maxHeartbeats 4000000 in
set_option maxRecDepth 100000 in
theorem ctX8_init (l : Launch) (D : va_G) (cy : Nat → ClassId) (ev : Nat → Nat) (h0 : Nat) (sz : Nat) : Met l yX8_init (Cond.code yX8_init cX8_init 1 none :: TB) ({ frames := 1, cells := 1, slots := 0, locals := 60 }) (va_Pc [.ref h0] (PreX D cy ev [(h0, .inr (8, [.null, .int 0, .int 0, .int 0, .int 0, .int 0, .int 0, .int 0, .int 0, .int 0]))] sz)) (va_Qv (fun (_ : Nat → Nat) => True) (fun u => BkX D cy [(h0, .inr (8, [.null, .int 0, .int 0, .int 0, .int 0, .int 0, .int 0, .int 0, .int 0, .int 0]))] sz [(h0, .inr (8, oX8 u (fun _ => 0))), ((u 0), .inl (cy 1, 0, .inl (fun _ => 0)))]) (va_A [(h0, .inr (8, [.null, .int 0, .int 0, .int 0, .int 0, .int 0, .int 0, .int 0, .int 0, .int 0]))] sz)) 1 0 (va_A [(h0, .inr (8, [.null, .int 0, .int 0, .int 0, .int 0, .int 0, .int 0, .int 0, .int 0, .int 0]))] sz) := by
  refine ofWc (by decide) (Nat.le_of_ble_eq_true rfl) ?_
  intro p e s m args below meth c ls A R QQ hx hb hml hown hts hR hlk hin hE hK hP hD hS hA hl hret
  have hown : s.vm.findClass RX8 = some m.cls := hown
  have hRf : 1 ≤ R.frames := by rw [hR]; exact Nat.le_refl _
  have hRl : 60 ≤ R.locals := by rw [hR]; exact Nat.le_refl _
  have hRc : 1 ≤ R.cells := by rw [hR]; exact Nat.le_refl _
  have hRs : 0 ≤ R.slots := by rw [hR]; exact Nat.le_refl _
  clear hR
  have hl : lv_has ls 1 [(0, .ref h0)] := hl
  refine lv_aload_n hx hb dX8_init_0 rfl (lv_at hl 0 rfl) ?_
  refine W.objInit hx hb hown (hts _ (tb mw38)) (hts _ (tb mw31)) (hts _ (tb mw32)) rfl (by rw [hml]; exact hl.1) rfl dX8_init_1 (Nat.le_trans (by decide) hRf) (Nat.le_trans (Nat.le_of_ble_eq_true rfl) hRl) ?_
  refine W.eq (g2 := F0 m 4 ls []) rfl ?_
  refine lv_aload_n hx hb dX8_init_4 rfl (lv_at hl 0 rfl) ?_
  refine lv_iconst (v := (0 : Int32)) hx hb dX8_init_5 (by decide) ?_
  refine nwB (N := 0) hx hb hts hK hP hD hS hA (by decide) (by decide) (by decide) (Nat.le_trans (by decide) hRc) (Nat.le_trans (by decide) hRs) dX8_init_6 (fun q0 H hP hD hS => ?_)
  have hP : va_P D clsX [(h0, .inr (8, [.null, .int 0, .int 0, .int 0, .int 0, .int 0, .int 0, .int 0, .int 0, .int 0])), (q0, .inl (cy 1, 0, .inl (fun _ => 0)))] H := hP
  have hD : va_D A [(h0, .inr (8, [.null, .int 0, .int 0, .int 0, .int 0, .int 0, .int 0, .int 0, .int 0, .int 0])), (q0, .inl (cy 1, 0, .inl (fun _ => 0)))] := hD
  refine va_put (D := D) (ci := 8) (v := .ref q0) (ty := .array .byte) (C := RX8) (T := TX8) (N := 10) hx hb hts (fun w h => tb (iX8 w h)) tyX8 tyX8_ok nmX8 hown hK hP hD hS 0 rfl rfl 0 (by decide) (hts _ (tb mw39)) (fun _ h9 => h9) rfl (by decide +kernel) rfl rfl (Nat.le_of_ble_eq_true rfl) dX8_init_8 (fun H locs hP hD hS => ?_)
  have hP : va_P D clsX [(h0, .inr (8, [.ref q0, .int 0, .int 0, .int 0, .int 0, .int 0, .int 0, .int 0, .int 0, .int 0])), (q0, .inl (cy 1, 0, .inl (fun _ => 0)))] H := hP
  have hD : va_D A [(h0, .inr (8, [.ref q0, .int 0, .int 0, .int 0, .int 0, .int 0, .int 0, .int 0, .int 0, .int 0])), (q0, .inl (cy 1, 0, .inl (fun _ => 0)))] := hD
  refine W.widen (k := 1) (n := 0) (by decide) (by decide) ?_
  exact hret (rl [q0, 0, 0, 0, 0, 0, 0, 0, 0, 0]) _ _ _ _ dX8_init_11 trivial (hP.sub [0, 1] rfl) (hD.sub [0, 1] (by decide) rfl) hS
theorem dX1_init_0 : decode cX1_init 0 = .ok (.aload_n 0, 1) := by decide +kernel
theorem dX1_init_1 : decode cX1_init 1 = .ok (.invokespecial 3, 3) := by decide +kernel
theorem dX1_init_4 : decode cX1_init 4 = .ok (.aload_n 0, 1) := by decide +kernel
theorem dX1_init_5 : decode cX1_init 5 = .ok (.bipush 100, 2) := by decide +kernel
theorem dX1_init_7 : decode cX1_init 7 = .ok (.newarray .byte, 2) := by decide +kernel
theorem dX1_init_9 : decode cX1_init 9 = .ok (.putfield 9, 3) := by decide +kernel
theorem dX1_init_12 : decode cX1_init 12 = .ok (.aload_n 0, 1) := by decide +kernel
theorem dX1_init_13 : decode cX1_init 13 = .ok (.sipush 3200, 3) := by decide +kernel
theorem dX1_init_16 : decode cX1_init 16 = .ok (.newarray .byte, 2) := by decide +kernel
theorem dX1_init_18 : decode cX1_init 18 = .ok (.putfield 15, 3) := by decide +kernel
theorem dX1_init_21 : decode cX1_init 21 = .ok (.aload_n 0, 1) := by decide +kernel
theorem dX1_init_22 : decode cX1_init 22 = .ok (.iconst 5, 1) := by decide +kernel
theorem dX1_init_23 : decode cX1_init 23 = .ok (.newarray .int, 2) := by decide +kernel
theorem dX1_init_25 : decode cX1_init 25 = .ok (.putfield 18, 3) := by decide +kernel
theorem dX1_init_28 : decode cX1_init 28 = .ok (.aload_n 0, 1) := by decide +kernel
theorem dX1_init_29 : decode cX1_init 29 = .ok (.iconst 4, 1) := by decide +kernel
theorem dX1_init_30 : decode cX1_init 30 = .ok (.newarray .int, 2) := by decide +kernel
theorem dX1_init_32 : decode cX1_init 32 = .ok (.putfield 22, 3) := by decide +kernel
theorem dX1_init_35 : decode cX1_init 35 = .ok (.aload_n 0, 1) := by decide +kernel
theorem dX1_init_36 : decode cX1_init 36 = .ok (.iconst 5, 1) := by decide +kernel
theorem dX1_init_37 : decode cX1_init 37 = .ok (.newarray .int, 2) := by decide +kernel
theorem dX1_init_39 : decode cX1_init 39 = .ok (.putfield 25, 3) := by decide +kernel
theorem dX1_init_42 : decode cX1_init 42 = .ok (.return_, 1) := by decide +kernel
set_option maxHeartbeats 4000000 in
set_option maxRecDepth 100000 in
theorem ctX1_init (l : Launch) (D : va_G) (cy : Nat → ClassId) (ev : Nat → Nat) (h0 : Nat) (sz : Nat) : Met l yX1_init (Cond.code yX1_init cX1_init 1 none :: TB) ({ frames := 1, cells := 5, slots := 3314, locals := 60 }) (va_Pc [.ref h0] (PreX D cy ev [(h0, .inr (1, [.null, .null, .null, .null, .null]))] sz)) (va_Qv (fun (_ : Nat → Nat) => True) (fun u => BkX D cy [(h0, .inr (1, [.null, .null, .null, .null, .null]))] sz [(h0, .inr (1, oX1 u)), ((u 0), .inl (cy 1, 100, .inl (fun _ => 0))), ((u 1), .inl (cy 1, 3200, .inl (fun _ => 0))), ((u 2), .inl (cy 0, 5, .inl (fun _ => 0))), ((u 3), .inl (cy 0, 4, .inl (fun _ => 0))), ((u 4), .inl (cy 0, 5, .inl (fun _ => 0)))]) (va_A [(h0, .inr (1, [.null, .null, .null, .null, .null]))] sz)) 5 3314 (va_A [(h0, .inr (1, [.null, .null, .null, .null, .null]))] sz) := by
  refine ofWc (by decide) (Nat.le_of_ble_eq_true rfl) ?_
  intro p e s m args below meth c ls A R QQ hx hb hml hown hts hR hlk hin hE hK hP hD hS hA hl hret
  have hown : s.vm.findClass RX1 = some m.cls := hown
  have hRf : 1 ≤ R.frames := by rw [hR]; exact Nat.le_refl _
  have hRl : 60 ≤ R.locals := by rw [hR]; exact Nat.le_refl _
  have hRc : 5 ≤ R.cells := by rw [hR]; exact Nat.le_refl _
  have hRs : 3314 ≤ R.slots := by rw [hR]; exact Nat.le_refl _
  clear hR
  have hl : lv_has ls 1 [(0, .ref h0)] := hl
  refine lv_aload_n hx hb dX1_init_0 rfl (lv_at hl 0 rfl) ?_
  refine W.objInit hx hb hown (hts _ (tb mw181)) (hts _ (tb mw31)) (hts _ (tb mw32)) rfl (by rw [hml]; exact hl.1) rfl dX1_init_1 (Nat.le_trans (by decide) hRf) (Nat.le_trans (Nat.le_of_ble_eq_true rfl) hRl) ?_
  refine W.eq (g2 := F0 m 4 ls []) rfl ?_
  refine lv_aload_n hx hb dX1_init_4 rfl (lv_at hl 0 rfl) ?_
  refine lv_bipush (v := (100 : Int32)) hx hb dX1_init_5 (by decide) ?_
  refine nwB (N := 100) hx hb hts hK hP hD hS hA (by decide) (by decide) (by decide) (Nat.le_trans (by decide) hRc) (Nat.le_trans (by decide) hRs) dX1_init_7 (fun q0 H hP hD hS => ?_)
  have hP : va_P D clsX [(h0, .inr (1, [.null, .null, .null, .null, .null])), (q0, .inl (cy 1, 100, .inl (fun _ => 0)))] H := hP
  have hD : va_D A [(h0, .inr (1, [.null, .null, .null, .null, .null])), (q0, .inl (cy 1, 100, .inl (fun _ => 0)))] := hD
  refine va_putF (D := D) (ci := 1) (v := .ref q0) (ty := .array .byte) (C := RX1) (T := TX1) (N := 5) hx hb hts (fun w h => tb (iX1 w h)) tyX1 tyX1_ok nmX1 hown hK hP hD hS 0 rfl rfl 0 (by decide) (hts _ (tb mw182)) (fun _ h9 => h9) rfl hin rfl (by decide +kernel) rfl rfl (Nat.le_of_ble_eq_true rfl) dX1_init_9 (fun H locs hP hD hS => ?_)
  have hP : va_P D clsX [(h0, .inr (1, [.ref q0, .null, .null, .null, .null])), (q0, .inl (cy 1, 100, .inl (fun _ => 0)))] H := hP
  have hD : va_D A [(h0, .inr (1, [.ref q0, .null, .null, .null, .null])), (q0, .inl (cy 1, 100, .inl (fun _ => 0)))] := hD
  refine lv_aload_n hx hb dX1_init_12 rfl (lv_at hl 0 rfl) ?_
  refine lv_sipush (v := (3200 : Int32)) hx hb dX1_init_13 (by decide) ?_
  refine nwB (N := 3200) hx hb hts hK hP hD hS hA (by decide) (by decide) (by decide) (Nat.le_trans (by decide) hRc) (Nat.le_trans (by decide) hRs) dX1_init_16 (fun q1 H hP hD hS => ?_)
  have hP : va_P D clsX [(h0, .inr (1, [.ref q0, .null, .null, .null, .null])), (q0, .inl (cy 1, 100, .inl (fun _ => 0))), (q1, .inl (cy 1, 3200, .inl (fun _ => 0)))] H := hP
  have hD : va_D A [(h0, .inr (1, [.ref q0, .null, .null, .null, .null])), (q0, .inl (cy 1, 100, .inl (fun _ => 0))), (q1, .inl (cy 1, 3200, .inl (fun _ => 0)))] := hD
  refine va_putF (D := D) (ci := 1) (v := .ref q1) (ty := .array .byte) (C := RX1) (T := TX1) (N := 5) hx hb hts (fun w h => tb (iX1 w h)) tyX1 tyX1_ok nmX1 hown hK hP hD hS 0 rfl rfl 1 (by decide) (hts _ (tb mw184)) (fun _ h9 => h9) rfl hin rfl (by decide +kernel) rfl rfl (Nat.le_of_ble_eq_true rfl) dX1_init_18 (fun H locs hP hD hS => ?_)
  have hP : va_P D clsX [(h0, .inr (1, [.ref q0, .ref q1, .null, .null, .null])), (q0, .inl (cy 1, 100, .inl (fun _ => 0))), (q1, .inl (cy 1, 3200, .inl (fun _ => 0)))] H := hP
  have hD : va_D A [(h0, .inr (1, [.ref q0, .ref q1, .null, .null, .null])), (q0, .inl (cy 1, 100, .inl (fun _ => 0))), (q1, .inl (cy 1, 3200, .inl (fun _ => 0)))] := hD
  refine lv_aload_n hx hb dX1_init_21 rfl (lv_at hl 0 rfl) ?_
  refine lv_iconst (v := (5 : Int32)) hx hb dX1_init_22 (by decide) ?_
  refine nwI (N := 5) hx hb hts hK hP hD hS hA (by decide) (by decide) (by decide) (Nat.le_trans (by decide) hRc) (Nat.le_trans (by decide) hRs) dX1_init_23 (fun q2 H hP hD hS => ?_)
  have hP : va_P D clsX [(h0, .inr (1, [.ref q0, .ref q1, .null, .null, .null])), (q0, .inl (cy 1, 100, .inl (fun _ => 0))), (q1, .inl (cy 1, 3200, .inl (fun _ => 0))), (q2, .inl (cy 0, 5, .inl (fun _ => 0)))] H := hP
  have hD : va_D A [(h0, .inr (1, [.ref q0, .ref q1, .null, .null, .null])), (q0, .inl (cy 1, 100, .inl (fun _ => 0))), (q1, .inl (cy 1, 3200, .inl (fun _ => 0))), (q2, .inl (cy 0, 5, .inl (fun _ => 0)))] := hD
  refine va_putF (D := D) (ci := 1) (v := .ref q2) (ty := .array .int) (C := RX1) (T := TX1) (N := 5) hx hb hts (fun w h => tb (iX1 w h)) tyX1 tyX1_ok nmX1 hown hK hP hD hS 0 rfl rfl 2 (by decide) (hts _ (tb mw185)) (fun _ h9 => h9) rfl hin rfl (by decide +kernel) rfl rfl (Nat.le_of_ble_eq_true rfl) dX1_init_25 (fun H locs hP hD hS => ?_)
  have hP : va_P D clsX [(h0, .inr (1, [.ref q0, .ref q1, .ref q2, .null, .null])), (q0, .inl (cy 1, 100, .inl (fun _ => 0))), (q1, .inl (cy 1, 3200, .inl (fun _ => 0))), (q2, .inl (cy 0, 5, .inl (fun _ => 0)))] H := hP
  have hD : va_D A [(h0, .inr (1, [.ref q0, .ref q1, .ref q2, .null, .null])), (q0, .inl (cy 1, 100, .inl (fun _ => 0))), (q1, .inl (cy 1, 3200, .inl (fun _ => 0))), (q2, .inl (cy 0, 5, .inl (fun _ => 0)))] := hD
  refine lv_aload_n hx hb dX1_init_28 rfl (lv_at hl 0 rfl) ?_
  refine lv_iconst (v := (4 : Int32)) hx hb dX1_init_29 (by decide) ?_
  refine nwI (N := 4) hx hb hts hK hP hD hS hA (by decide) (by decide) (by decide) (Nat.le_trans (by decide) hRc) (Nat.le_trans (by decide) hRs) dX1_init_30 (fun q3 H hP hD hS => ?_)
  have hP : va_P D clsX [(h0, .inr (1, [.ref q0, .ref q1, .ref q2, .null, .null])), (q0, .inl (cy 1, 100, .inl (fun _ => 0))), (q1, .inl (cy 1, 3200, .inl (fun _ => 0))), (q2, .inl (cy 0, 5, .inl (fun _ => 0))), (q3, .inl (cy 0, 4, .inl (fun _ => 0)))] H := hP
  have hD : va_D A [(h0, .inr (1, [.ref q0, .ref q1, .ref q2, .null, .null])), (q0, .inl (cy 1, 100, .inl (fun _ => 0))), (q1, .inl (cy 1, 3200, .inl (fun _ => 0))), (q2, .inl (cy 0, 5, .inl (fun _ => 0))), (q3, .inl (cy 0, 4, .inl (fun _ => 0)))] := hD
  refine va_putF (D := D) (ci := 1) (v := .ref q3) (ty := .array .int) (C := RX1) (T := TX1) (N := 5) hx hb hts (fun w h => tb (iX1 w h)) tyX1 tyX1_ok nmX1 hown hK hP hD hS 0 rfl rfl 3 (by decide) (hts _ (tb mw186)) (fun _ h9 => h9) rfl hin rfl (by decide +kernel) rfl rfl (Nat.le_of_ble_eq_true rfl) dX1_init_32 (fun H locs hP hD hS => ?_)
  have hP : va_P D clsX [(h0, .inr (1, [.ref q0, .ref q1, .ref q2, .ref q3, .null])), (q0, .inl (cy 1, 100, .inl (fun _ => 0))), (q1, .inl (cy 1, 3200, .inl (fun _ => 0))), (q2, .inl (cy 0, 5, .inl (fun _ => 0))), (q3, .inl (cy 0, 4, .inl (fun _ => 0)))] H := hP
  have hD : va_D A [(h0, .inr (1, [.ref q0, .ref q1, .ref q2, .ref q3, .null])), (q0, .inl (cy 1, 100, .inl (fun _ => 0))), (q1, .inl (cy 1, 3200, .inl (fun _ => 0))), (q2, .inl (cy 0, 5, .inl (fun _ => 0))), (q3, .inl (cy 0, 4, .inl (fun _ => 0)))] := hD
  refine lv_aload_n hx hb dX1_init_35 rfl (lv_at hl 0 rfl) ?_
  refine lv_iconst (v := (5 : Int32)) hx hb dX1_init_36 (by decide) ?_
  refine nwI (N := 5) hx hb hts hK hP hD hS hA (by decide) (by decide) (by decide) (Nat.le_trans (by decide) hRc) (Nat.le_trans (by decide) hRs) dX1_init_37 (fun q4 H hP hD hS => ?_)
  have hP : va_P D clsX [(h0, .inr (1, [.ref q0, .ref q1, .ref q2, .ref q3, .null])), (q0, .inl (cy 1, 100, .inl (fun _ => 0))), (q1, .inl (cy 1, 3200, .inl (fun _ => 0))), (q2, .inl (cy 0, 5, .inl (fun _ => 0))), (q3, .inl (cy 0, 4, .inl (fun _ => 0))), (q4, .inl (cy 0, 5, .inl (fun _ => 0)))] H := hP
  have hD : va_D A [(h0, .inr (1, [.ref q0, .ref q1, .ref q2, .ref q3, .null])), (q0, .inl (cy 1, 100, .inl (fun _ => 0))), (q1, .inl (cy 1, 3200, .inl (fun _ => 0))), (q2, .inl (cy 0, 5, .inl (fun _ => 0))), (q3, .inl (cy 0, 4, .inl (fun _ => 0))), (q4, .inl (cy 0, 5, .inl (fun _ => 0)))] := hD
  refine va_putF (D := D) (ci := 1) (v := .ref q4) (ty := .array .int) (C := RX1) (T := TX1) (N := 5) hx hb hts (fun w h => tb (iX1 w h)) tyX1 tyX1_ok nmX1 hown hK hP hD hS 0 rfl rfl 4 (by decide) (hts _ (tb mw187)) (fun _ h9 => h9) rfl hin rfl (by decide +kernel) rfl rfl (Nat.le_of_ble_eq_true rfl) dX1_init_39 (fun H locs hP hD hS => ?_)
  have hP : va_P D clsX [(h0, .inr (1, [.ref q0, .ref q1, .ref q2, .ref q3, .ref q4])), (q0, .inl (cy 1, 100, .inl (fun _ => 0))), (q1, .inl (cy 1, 3200, .inl (fun _ => 0))), (q2, .inl (cy 0, 5, .inl (fun _ => 0))), (q3, .inl (cy 0, 4, .inl (fun _ => 0))), (q4, .inl (cy 0, 5, .inl (fun _ => 0)))] H := hP
  have hD : va_D A [(h0, .inr (1, [.ref q0, .ref q1, .ref q2, .ref q3, .ref q4])), (q0, .inl (cy 1, 100, .inl (fun _ => 0))), (q1, .inl (cy 1, 3200, .inl (fun _ => 0))), (q2, .inl (cy 0, 5, .inl (fun _ => 0))), (q3, .inl (cy 0, 4, .inl (fun _ => 0))), (q4, .inl (cy 0, 5, .inl (fun _ => 0)))] := hD
  refine W.widen (k := 5) (n := 3314) (by decide) (by decide) ?_
  exact hret (rl [q0, q1, q2, q3, q4]) _ _ _ _ dX1_init_42 trivial (hP.sub [0, 1, 2, 3, 4, 5] rfl) (hD.sub [0, 1, 2, 3, 4, 5] (by decide) rfl) hS
theorem dX2_init_0 : decode cX2_init 0 = .ok (.aload_n 0, 1) := by decide +kernel
theorem dX2_init_1 : decode cX2_init 1 = .ok (.invokespecial 3, 3) := by decide +kernel
theorem dX2_init_4 : decode cX2_init 4 = .ok (.aload_n 0, 1) := by decide +kernel
theorem dX2_init_5 : decode cX2_init 5 = .ok (.sipush 400, 3) := by decide +kernel
theorem dX2_init_8 : decode cX2_init 8 = .ok (.newarray .int, 2) := by decide +kernel
theorem dX2_init_10 : decode cX2_init 10 = .ok (.putfield 11, 3) := by decide +kernel
theorem dX2_init_13 : decode cX2_init 13 = .ok (.aload_n 0, 1) := by decide +kernel
theorem dX2_init_14 : decode cX2_init 14 = .ok (.sipush 500, 3) := by decide +kernel
theorem dX2_init_17 : decode cX2_init 17 = .ok (.newarray .int, 2) := by decide +kernel
theorem dX2_init_19 : decode cX2_init 19 = .ok (.putfield 15, 3) := by decide +kernel
theorem dX2_init_22 : decode cX2_init 22 = .ok (.aload_n 0, 1) := by decide +kernel
theorem dX2_init_23 : decode cX2_init 23 = .ok (.iconst 5, 1) := by decide +kernel
theorem dX2_init_24 : decode cX2_init 24 = .ok (.newarray .int, 2) := by decide +kernel
theorem dX2_init_26 : decode cX2_init 26 = .ok (.putfield 18, 3) := by decide +kernel
theorem dX2_init_29 : decode cX2_init 29 = .ok (.return_, 1) := by decide +kernel
set_option maxHeartbeats 4000000 in
set_option maxRecDepth 100000 in
theorem ctX2_init (l : Launch) (D : va_G) (cy : Nat → ClassId) (ev : Nat → Nat) (h0 : Nat) (sz : Nat) : Met l yX2_init (Cond.code yX2_init cX2_init 1 none :: TB) ({ frames := 1, cells := 3, slots := 905, locals := 60 }) (va_Pc [.ref h0] (PreX D cy ev [(h0, .inr (2, [.null, .null, .null]))] sz)) (va_Qv (fun (_ : Nat → Nat) => True) (fun u => BkX D cy [(h0, .inr (2, [.null, .null, .null]))] sz [(h0, .inr (2, oX2 u)), ((u 0), .inl (cy 0, 400, .inl (fun _ => 0))), ((u 1), .inl (cy 0, 500, .inl (fun _ => 0))), ((u 2), .inl (cy 0, 5, .inl (fun _ => 0)))]) (va_A [(h0, .inr (2, [.null, .null, .null]))] sz)) 3 905 (va_A [(h0, .inr (2, [.null, .null, .null]))] sz) := by
  refine ofWc (by decide) (Nat.le_of_ble_eq_true rfl) ?_
  intro p e s m args below meth c ls A R QQ hx hb hml hown hts hR hlk hin hE hK hP hD hS hA hl hret
  have hown : s.vm.findClass RX2 = some m.cls := hown
  have hRf : 1 ≤ R.frames := by rw [hR]; exact Nat.le_refl _
  have hRl : 60 ≤ R.locals := by rw [hR]; exact Nat.le_refl _
  have hRc : 3 ≤ R.cells := by rw [hR]; exact Nat.le_refl _
  have hRs : 905 ≤ R.slots := by rw [hR]; exact Nat.le_refl _
  clear hR
  have hl : lv_has ls 1 [(0, .ref h0)] := hl
  refine lv_aload_n hx hb dX2_init_0 rfl (lv_at hl 0 rfl) ?_
  refine W.objInit hx hb hown (hts _ (tb mw204)) (hts _ (tb mw31)) (hts _ (tb mw32)) rfl (by rw [hml]; exact hl.1) rfl dX2_init_1 (Nat.le_trans (by decide) hRf) (Nat.le_trans (Nat.le_of_ble_eq_true rfl) hRl) ?_
  refine W.eq (g2 := F0 m 4 ls []) rfl ?_
  refine lv_aload_n hx hb dX2_init_4 rfl (lv_at hl 0 rfl) ?_
  refine lv_sipush (v := (400 : Int32)) hx hb dX2_init_5 (by decide) ?_
  refine nwI (N := 400) hx hb hts hK hP hD hS hA (by decide) (by decide) (by decide) (Nat.le_trans (by decide) hRc) (Nat.le_trans (by decide) hRs) dX2_init_8 (fun q0 H hP hD hS => ?_)
  have hP : va_P D clsX [(h0, .inr (2, [.null, .null, .null])), (q0, .inl (cy 0, 400, .inl (fun _ => 0)))] H := hP
  have hD : va_D A [(h0, .inr (2, [.null, .null, .null])), (q0, .inl (cy 0, 400, .inl (fun _ => 0)))] := hD
  refine va_putF (D := D) (ci := 2) (v := .ref q0) (ty := .array .int) (C := RX2) (T := TX2) (N := 3) hx hb hts (fun w h => tb (iX2 w h)) tyX2 tyX2_ok nmX2 hown hK hP hD hS 0 rfl rfl 0 (by decide) (hts _ (tb mw205)) (fun _ h9 => h9) rfl hin rfl (by decide +kernel) rfl rfl (Nat.le_of_ble_eq_true rfl) dX2_init_10 (fun H locs hP hD hS => ?_)
  have hP : va_P D clsX [(h0, .inr (2, [.ref q0, .null, .null])), (q0, .inl (cy 0, 400, .inl (fun _ => 0)))] H := hP
  have hD : va_D A [(h0, .inr (2, [.ref q0, .null, .null])), (q0, .inl (cy 0, 400, .inl (fun _ => 0)))] := hD
  refine lv_aload_n hx hb dX2_init_13 rfl (lv_at hl 0 rfl) ?_
  refine lv_sipush (v := (500 : Int32)) hx hb dX2_init_14 (by decide) ?_
  refine nwI (N := 500) hx hb hts hK hP hD hS hA (by decide) (by decide) (by decide) (Nat.le_trans (by decide) hRc) (Nat.le_trans (by decide) hRs) dX2_init_17 (fun q1 H hP hD hS => ?_)
  have hP : va_P D clsX [(h0, .inr (2, [.ref q0, .null, .null])), (q0, .inl (cy 0, 400, .inl (fun _ => 0))), (q1, .inl (cy 0, 500, .inl (fun _ => 0)))] H := hP
  have hD : va_D A [(h0, .inr (2, [.ref q0, .null, .null])), (q0, .inl (cy 0, 400, .inl (fun _ => 0))), (q1, .inl (cy 0, 500, .inl (fun _ => 0)))] := hD
  refine va_putF (D := D) (ci := 2) (v := .ref q1) (ty := .array .int) (C := RX2) (T := TX2) (N := 3) hx hb hts (fun w h => tb (iX2 w h)) tyX2 tyX2_ok nmX2 hown hK hP hD hS 0 rfl rfl 1 (by decide) (hts _ (tb mw206)) (fun _ h9 => h9) rfl hin rfl (by decide +kernel) rfl rfl (Nat.le_of_ble_eq_true rfl) dX2_init_19 (fun H locs hP hD hS => ?_)
  have hP : va_P D clsX [(h0, .inr (2, [.ref q0, .ref q1, .null])), (q0, .inl (cy 0, 400, .inl (fun _ => 0))), (q1, .inl (cy 0, 500, .inl (fun _ => 0)))] H := hP
  have hD : va_D A [(h0, .inr (2, [.ref q0, .ref q1, .null])), (q0, .inl (cy 0, 400, .inl (fun _ => 0))), (q1, .inl (cy 0, 500, .inl (fun _ => 0)))] := hD
  refine lv_aload_n hx hb dX2_init_22 rfl (lv_at hl 0 rfl) ?_
  refine lv_iconst (v := (5 : Int32)) hx hb dX2_init_23 (by decide) ?_
  refine nwI (N := 5) hx hb hts hK hP hD hS hA (by decide) (by decide) (by decide) (Nat.le_trans (by decide) hRc) (Nat.le_trans (by decide) hRs) dX2_init_24 (fun q2 H hP hD hS => ?_)
  have hP : va_P D clsX [(h0, .inr (2, [.ref q0, .ref q1, .null])), (q0, .inl (cy 0, 400, .inl (fun _ => 0))), (q1, .inl (cy 0, 500, .inl (fun _ => 0))), (q2, .inl (cy 0, 5, .inl (fun _ => 0)))] H := hP
  have hD : va_D A [(h0, .inr (2, [.ref q0, .ref q1, .null])), (q0, .inl (cy 0, 400, .inl (fun _ => 0))), (q1, .inl (cy 0, 500, .inl (fun _ => 0))), (q2, .inl (cy 0, 5, .inl (fun _ => 0)))] := hD
  refine va_putF (D := D) (ci := 2) (v := .ref q2) (ty := .array .int) (C := RX2) (T := TX2) (N := 3) hx hb hts (fun w h => tb (iX2 w h)) tyX2 tyX2_ok nmX2 hown hK hP hD hS 0 rfl rfl 2 (by decide) (hts _ (tb mw207)) (fun _ h9 => h9) rfl hin rfl (by decide +kernel) rfl rfl (Nat.le_of_ble_eq_true rfl) dX2_init_26 (fun H locs hP hD hS => ?_)
  have hP : va_P D clsX [(h0, .inr (2, [.ref q0, .ref q1, .ref q2])), (q0, .inl (cy 0, 400, .inl (fun _ => 0))), (q1, .inl (cy 0, 500, .inl (fun _ => 0))), (q2, .inl (cy 0, 5, .inl (fun _ => 0)))] H := hP
  have hD : va_D A [(h0, .inr (2, [.ref q0, .ref q1, .ref q2])), (q0, .inl (cy 0, 400, .inl (fun _ => 0))), (q1, .inl (cy 0, 500, .inl (fun _ => 0))), (q2, .inl (cy 0, 5, .inl (fun _ => 0)))] := hD
  refine W.widen (k := 3) (n := 905) (by decide) (by decide) ?_
  exact hret (rl [q0, q1, q2]) _ _ _ _ dX2_init_29 trivial (hP.sub [0, 1, 2, 3] rfl) (hD.sub [0, 1, 2, 3] (by decide) rfl) hS
theorem dX3_init_0 : decode cX3_init 0 = .ok (.aload_n 0, 1) := by decide +kernel
theorem dX3_init_1 : decode cX3_init 1 = .ok (.invokespecial 5, 3) := by decide +kernel
theorem dX3_init_4 : decode cX3_init 4 = .ok (.aload_n 0, 1) := by decide +kernel
theorem dX3_init_5 : decode cX3_init 5 = .ok (.bipush 29, 2) := by decide +kernel
theorem dX3_init_7 : decode cX3_init 7 = .ok (.newarray .int, 2) := by decide +kernel
theorem dX3_init_9 : decode cX3_init 9 = .ok (.putfield 11, 3) := by decide +kernel
theorem dX3_init_12 : decode cX3_init 12 = .ok (.aload_n 0, 1) := by decide +kernel
theorem dX3_init_13 : decode cX3_init 13 = .ok (.iconst 4, 1) := by decide +kernel
theorem dX3_init_14 : decode cX3_init 14 = .ok (.newarray .int, 2) := by decide +kernel
theorem dX3_init_16 : decode cX3_init 16 = .ok (.putfield 15, 3) := by decide +kernel
theorem dX3_init_19 : decode cX3_init 19 = .ok (.aload_n 0, 1) := by decide +kernel
theorem dX3_init_20 : decode cX3_init 20 = .ok (.aload_n 1, 1) := by decide +kernel
theorem dX3_init_21 : decode cX3_init 21 = .ok (.putfield 18, 3) := by decide +kernel
theorem dX3_init_24 : decode cX3_init 24 = .ok (.aload_n 0, 1) := by decide +kernel
theorem dX3_init_25 : decode cX3_init 25 = .ok (.aload_n 2, 1) := by decide +kernel
theorem dX3_init_26 : decode cX3_init 26 = .ok (.putfield 22, 3) := by decide +kernel
theorem dX3_init_29 : decode cX3_init 29 = .ok (.aload_n 0, 1) := by decide +kernel
theorem dX3_init_30 : decode cX3_init 30 = .ok (.aload_n 3, 1) := by decide +kernel
theorem dX3_init_31 : decode cX3_init 31 = .ok (.putfield 26, 3) := by decide +kernel
theorem dX3_init_34 : decode cX3_init 34 = .ok (.return_, 1) := by decide +kernel
set_option maxHeartbeats 4000000 in
set_option maxRecDepth 100000 in
theorem ctX3_init (l : Launch) (D : va_G) (cy : Nat → ClassId) (ev : Nat → Nat) (h0 : Nat) (a1 : Nat) (a2 : Nat) (a3 : Nat) (sz : Nat) : Met l yX3_init (Cond.code yX3_init cX3_init 4 none :: TB) ({ frames := 1, cells := 2, slots := 33, locals := 60 }) (va_Pc [.ref h0, .ref a1, .ref a2, .ref a3] (PreX D cy ev [(h0, .inr (3, [.null, .null, .null, .null, .null]))] sz)) (va_Qv (fun (_ : Nat → Nat) => True) (fun u => BkX D cy [(h0, .inr (3, [.null, .null, .null, .null, .null]))] sz [(h0, .inr (3, oX3 (rtP a1 a2 a3 u))), ((u 3), .inl (cy 0, 29, .inl (fun _ => 0))), ((u 4), .inl (cy 0, 4, .inl (fun _ => 0)))]) (va_A [(h0, .inr (3, [.null, .null, .null, .null, .null]))] sz)) 2 33 (va_A [(h0, .inr (3, [.null, .null, .null, .null, .null]))] sz) := by
  refine ofWc (by decide) (Nat.le_of_ble_eq_true rfl) ?_
  intro p e s m args below meth c ls A R QQ hx hb hml hown hts hR hlk hin hE hK hP hD hS hA hl hret
  have hown : s.vm.findClass RX3 = some m.cls := hown
  have hRf : 1 ≤ R.frames := by rw [hR]; exact Nat.le_refl _
  have hRl : 60 ≤ R.locals := by rw [hR]; exact Nat.le_refl _
  have hRc : 2 ≤ R.cells := by rw [hR]; exact Nat.le_refl _
  have hRs : 33 ≤ R.slots := by rw [hR]; exact Nat.le_refl _
  clear hR
  have hl : lv_has ls 4 [(0, .ref h0), (1, .ref a1), (2, .ref a2), (3, .ref a3)] := hl
  refine lv_aload_n hx hb dX3_init_0 rfl (lv_at hl 0 rfl) ?_
  refine W.objInit hx hb hown (hts _ (tb mw272)) (hts _ (tb mw31)) (hts _ (tb mw32)) rfl (by rw [hml]; exact hl.1) rfl dX3_init_1 (Nat.le_trans (by decide) hRf) (Nat.le_trans (Nat.le_of_ble_eq_true rfl) hRl) ?_
  refine W.eq (g2 := F0 m 4 ls []) rfl ?_
  refine lv_aload_n hx hb dX3_init_4 rfl (lv_at hl 0 rfl) ?_
  refine lv_bipush (v := (29 : Int32)) hx hb dX3_init_5 (by decide) ?_
  refine nwI (N := 29) hx hb hts hK hP hD hS hA (by decide) (by decide) (by decide) (Nat.le_trans (by decide) hRc) (Nat.le_trans (by decide) hRs) dX3_init_7 (fun q0 H hP hD hS => ?_)
  have hP : va_P D clsX [(h0, .inr (3, [.null, .null, .null, .null, .null])), (q0, .inl (cy 0, 29, .inl (fun _ => 0)))] H := hP
  have hD : va_D A [(h0, .inr (3, [.null, .null, .null, .null, .null])), (q0, .inl (cy 0, 29, .inl (fun _ => 0)))] := hD
  refine va_putF (D := D) (ci := 3) (v := .ref q0) (ty := .array .int) (C := RX3) (T := TX3) (N := 5) hx hb hts (fun w h => tb (iX3 w h)) tyX3 tyX3_ok nmX3 hown hK hP hD hS 0 rfl rfl 3 (by decide) (hts _ (tb mw276)) (fun _ h9 => h9) rfl hin rfl (by decide +kernel) rfl rfl (Nat.le_of_ble_eq_true rfl) dX3_init_9 (fun H locs hP hD hS => ?_)
  have hP : va_P D clsX [(h0, .inr (3, [.null, .null, .null, .ref q0, .null])), (q0, .inl (cy 0, 29, .inl (fun _ => 0)))] H := hP
  have hD : va_D A [(h0, .inr (3, [.null, .null, .null, .ref q0, .null])), (q0, .inl (cy 0, 29, .inl (fun _ => 0)))] := hD
  refine lv_aload_n hx hb dX3_init_12 rfl (lv_at hl 0 rfl) ?_
  refine lv_iconst (v := (4 : Int32)) hx hb dX3_init_13 (by decide) ?_
  refine nwI (N := 4) hx hb hts hK hP hD hS hA (by decide) (by decide) (by decide) (Nat.le_trans (by decide) hRc) (Nat.le_trans (by decide) hRs) dX3_init_14 (fun q1 H hP hD hS => ?_)
  have hP : va_P D clsX [(h0, .inr (3, [.null, .null, .null, .ref q0, .null])), (q0, .inl (cy 0, 29, .inl (fun _ => 0))), (q1, .inl (cy 0, 4, .inl (fun _ => 0)))] H := hP
  have hD : va_D A [(h0, .inr (3, [.null, .null, .null, .ref q0, .null])), (q0, .inl (cy 0, 29, .inl (fun _ => 0))), (q1, .inl (cy 0, 4, .inl (fun _ => 0)))] := hD
  refine va_putF (D := D) (ci := 3) (v := .ref q1) (ty := .array .int) (C := RX3) (T := TX3) (N := 5) hx hb hts (fun w h => tb (iX3 w h)) tyX3 tyX3_ok nmX3 hown hK hP hD hS 0 rfl rfl 4 (by decide) (hts _ (tb mw278)) (fun _ h9 => h9) rfl hin rfl (by decide +kernel) rfl rfl (Nat.le_of_ble_eq_true rfl) dX3_init_16 (fun H locs hP hD hS => ?_)
  have hP : va_P D clsX [(h0, .inr (3, [.null, .null, .null, .ref q0, .ref q1])), (q0, .inl (cy 0, 29, .inl (fun _ => 0))), (q1, .inl (cy 0, 4, .inl (fun _ => 0)))] H := hP
  have hD : va_D A [(h0, .inr (3, [.null, .null, .null, .ref q0, .ref q1])), (q0, .inl (cy 0, 29, .inl (fun _ => 0))), (q1, .inl (cy 0, 4, .inl (fun _ => 0)))] := hD
  refine lv_aload_n hx hb dX3_init_19 rfl (lv_at hl 0 rfl) ?_
  refine lv_aload_n hx hb dX3_init_20 rfl (lv_at hl 1 rfl) ?_
  refine va_putF (D := D) (ci := 3) (v := .ref a1) (ty := .object "SaltBells$Ground") (C := RX3) (T := TX3) (N := 5) hx hb hts (fun w h => tb (iX3 w h)) tyX3 tyX3_ok nmX3 hown hK hP hD hS 0 rfl rfl 0 (by decide) (hts _ (tb mw273)) (fun _ h9 => h9) rfl hin rfl (by decide +kernel) rfl rfl (Nat.le_of_ble_eq_true rfl) dX3_init_21 (fun H locs hP hD hS => ?_)
  have hP : va_P D clsX [(h0, .inr (3, [.ref a1, .null, .null, .ref q0, .ref q1])), (q0, .inl (cy 0, 29, .inl (fun _ => 0))), (q1, .inl (cy 0, 4, .inl (fun _ => 0)))] H := hP
  have hD : va_D A [(h0, .inr (3, [.ref a1, .null, .null, .ref q0, .ref q1])), (q0, .inl (cy 0, 29, .inl (fun _ => 0))), (q1, .inl (cy 0, 4, .inl (fun _ => 0)))] := hD
  refine lv_aload_n hx hb dX3_init_24 rfl (lv_at hl 0 rfl) ?_
  refine lv_aload_n hx hb dX3_init_25 rfl (lv_at hl 2 rfl) ?_
  refine va_putF (D := D) (ci := 3) (v := .ref a2) (ty := .object "SaltBells$Ears") (C := RX3) (T := TX3) (N := 5) hx hb hts (fun w h => tb (iX3 w h)) tyX3 tyX3_ok nmX3 hown hK hP hD hS 0 rfl rfl 1 (by decide) (hts _ (tb mw274)) (fun _ h9 => h9) rfl hin rfl (by decide +kernel) rfl rfl (Nat.le_of_ble_eq_true rfl) dX3_init_26 (fun H locs hP hD hS => ?_)
  have hP : va_P D clsX [(h0, .inr (3, [.ref a1, .ref a2, .null, .ref q0, .ref q1])), (q0, .inl (cy 0, 29, .inl (fun _ => 0))), (q1, .inl (cy 0, 4, .inl (fun _ => 0)))] H := hP
  have hD : va_D A [(h0, .inr (3, [.ref a1, .ref a2, .null, .ref q0, .ref q1])), (q0, .inl (cy 0, 29, .inl (fun _ => 0))), (q1, .inl (cy 0, 4, .inl (fun _ => 0)))] := hD
  refine lv_aload_n hx hb dX3_init_29 rfl (lv_at hl 0 rfl) ?_
  refine lv_aload_n hx hb dX3_init_30 rfl (lv_at hl 3 rfl) ?_
  refine va_putF (D := D) (ci := 3) (v := .ref a3) (ty := .object "SaltBells$Feet") (C := RX3) (T := TX3) (N := 5) hx hb hts (fun w h => tb (iX3 w h)) tyX3 tyX3_ok nmX3 hown hK hP hD hS 0 rfl rfl 2 (by decide) (hts _ (tb mw275)) (fun _ h9 => h9) rfl hin rfl (by decide +kernel) rfl rfl (Nat.le_of_ble_eq_true rfl) dX3_init_31 (fun H locs hP hD hS => ?_)
  have hP : va_P D clsX [(h0, .inr (3, [.ref a1, .ref a2, .ref a3, .ref q0, .ref q1])), (q0, .inl (cy 0, 29, .inl (fun _ => 0))), (q1, .inl (cy 0, 4, .inl (fun _ => 0)))] H := hP
  have hD : va_D A [(h0, .inr (3, [.ref a1, .ref a2, .ref a3, .ref q0, .ref q1])), (q0, .inl (cy 0, 29, .inl (fun _ => 0))), (q1, .inl (cy 0, 4, .inl (fun _ => 0)))] := hD
  refine W.widen (k := 2) (n := 33) (by decide) (by decide) ?_
  exact hret (rl [a1, a2, a3, q0, q1]) _ _ _ _ dX3_init_34 trivial (hP.sub [0, 1, 2] rfl) (hD.sub [0, 1, 2] (by decide) rfl) hS
theorem dX7_init_0 : decode cX7_init 0 = .ok (.aload_n 0, 1) := by decide +kernel
theorem dX7_init_1 : decode cX7_init 1 = .ok (.invokespecial 3, 3) := by decide +kernel
theorem dX7_init_4 : decode cX7_init 4 = .ok (.aload_n 0, 1) := by decide +kernel
theorem dX7_init_5 : decode cX7_init 5 = .ok (.bipush 100, 2) := by decide +kernel
theorem dX7_init_7 : decode cX7_init 7 = .ok (.newarray .int, 2) := by decide +kernel
theorem dX7_init_9 : decode cX7_init 9 = .ok (.putfield 9, 3) := by decide +kernel
theorem dX7_init_12 : decode cX7_init 12 = .ok (.aload_n 0, 1) := by decide +kernel
theorem dX7_init_13 : decode cX7_init 13 = .ok (.bipush 100, 2) := by decide +kernel
theorem dX7_init_15 : decode cX7_init 15 = .ok (.newarray .int, 2) := by decide +kernel
theorem dX7_init_17 : decode cX7_init 17 = .ok (.putfield 15, 3) := by decide +kernel
theorem dX7_init_20 : decode cX7_init 20 = .ok (.aload_n 0, 1) := by decide +kernel
theorem dX7_init_21 : decode cX7_init 21 = .ok (.aload_n 1, 1) := by decide +kernel
theorem dX7_init_22 : decode cX7_init 22 = .ok (.putfield 18, 3) := by decide +kernel
theorem dX7_init_25 : decode cX7_init 25 = .ok (.aload_n 0, 1) := by decide +kernel
theorem dX7_init_26 : decode cX7_init 26 = .ok (.aload_n 2, 1) := by decide +kernel
theorem dX7_init_27 : decode cX7_init 27 = .ok (.putfield 22, 3) := by decide +kernel
theorem dX7_init_30 : decode cX7_init 30 = .ok (.aload_n 0, 1) := by decide +kernel
theorem dX7_init_31 : decode cX7_init 31 = .ok (.aload_n 3, 1) := by decide +kernel
theorem dX7_init_32 : decode cX7_init 32 = .ok (.putfield 26, 3) := by decide +kernel
theorem dX7_init_35 : decode cX7_init 35 = .ok (.return_, 1) := by decide +kernel
set_option maxHeartbeats 4000000 in
set_option maxRecDepth 100000 in
theorem ctX7_init (l : Launch) (D : va_G) (cy : Nat → ClassId) (ev : Nat → Nat) (h0 : Nat) (a1 : Nat) (a2 : Nat) (a3 : Nat) (sz : Nat) : Met l yX7_init (Cond.code yX7_init cX7_init 4 none :: TB) ({ frames := 1, cells := 2, slots := 200, locals := 60 }) (va_Pc [.ref h0, .ref a1, .ref a2, .ref a3] (PreX D cy ev [(h0, .inr (7, [.null, .null, .null, .null, .null, .int 0, .int 0]))] sz)) (va_Qv (fun (_ : Nat → Nat) => True) (fun u => BkX D cy [(h0, .inr (7, [.null, .null, .null, .null, .null, .int 0, .int 0]))] sz [(h0, .inr (7, oX7 (rtP a1 a2 a3 u) (fun _ => 0))), ((u 3), .inl (cy 0, 100, .inl (fun _ => 0))), ((u 4), .inl (cy 0, 100, .inl (fun _ => 0)))]) (va_A [(h0, .inr (7, [.null, .null, .null, .null, .null, .int 0, .int 0]))] sz)) 2 200 (va_A [(h0, .inr (7, [.null, .null, .null, .null, .null, .int 0, .int 0]))] sz) := by
  refine ofWc (by decide) (Nat.le_of_ble_eq_true rfl) ?_
  intro p e s m args below meth c ls A R QQ hx hb hml hown hts hR hlk hin hE hK hP hD hS hA hl hret
  have hown : s.vm.findClass RX7 = some m.cls := hown
  have hRf : 1 ≤ R.frames := by rw [hR]; exact Nat.le_refl _
  have hRl : 60 ≤ R.locals := by rw [hR]; exact Nat.le_refl _
  have hRc : 2 ≤ R.cells := by rw [hR]; exact Nat.le_refl _
  have hRs : 200 ≤ R.slots := by rw [hR]; exact Nat.le_refl _
  clear hR
  have hl : lv_has ls 4 [(0, .ref h0), (1, .ref a1), (2, .ref a2), (3, .ref a3)] := hl
  refine lv_aload_n hx hb dX7_init_0 rfl (lv_at hl 0 rfl) ?_
  refine W.objInit hx hb hown (hts _ (tb mw323)) (hts _ (tb mw31)) (hts _ (tb mw32)) rfl (by rw [hml]; exact hl.1) rfl dX7_init_1 (Nat.le_trans (by decide) hRf) (Nat.le_trans (Nat.le_of_ble_eq_true rfl) hRl) ?_
  refine W.eq (g2 := F0 m 4 ls []) rfl ?_
  refine lv_aload_n hx hb dX7_init_4 rfl (lv_at hl 0 rfl) ?_
  refine lv_bipush (v := (100 : Int32)) hx hb dX7_init_5 (by decide) ?_
  refine nwI (N := 100) hx hb hts hK hP hD hS hA (by decide) (by decide) (by decide) (Nat.le_trans (by decide) hRc) (Nat.le_trans (by decide) hRs) dX7_init_7 (fun q0 H hP hD hS => ?_)
  have hP : va_P D clsX [(h0, .inr (7, [.null, .null, .null, .null, .null, .int 0, .int 0])), (q0, .inl (cy 0, 100, .inl (fun _ => 0)))] H := hP
  have hD : va_D A [(h0, .inr (7, [.null, .null, .null, .null, .null, .int 0, .int 0])), (q0, .inl (cy 0, 100, .inl (fun _ => 0)))] := hD
  refine va_putF (D := D) (ci := 7) (v := .ref q0) (ty := .array .int) (C := RX7) (T := TX7) (N := 7) hx hb hts (fun w h => tb (iX7 w h)) tyX7 tyX7_ok nmX7 hown hK hP hD hS 0 rfl rfl 3 (by decide) (hts _ (tb mw327)) (fun _ h9 => h9) rfl hin rfl (by decide +kernel) rfl rfl (Nat.le_of_ble_eq_true rfl) dX7_init_9 (fun H locs hP hD hS => ?_)
  have hP : va_P D clsX [(h0, .inr (7, [.null, .null, .null, .ref q0, .null, .int 0, .int 0])), (q0, .inl (cy 0, 100, .inl (fun _ => 0)))] H := hP
  have hD : va_D A [(h0, .inr (7, [.null, .null, .null, .ref q0, .null, .int 0, .int 0])), (q0, .inl (cy 0, 100, .inl (fun _ => 0)))] := hD
  refine lv_aload_n hx hb dX7_init_12 rfl (lv_at hl 0 rfl) ?_
  refine lv_bipush (v := (100 : Int32)) hx hb dX7_init_13 (by decide) ?_
  refine nwI (N := 100) hx hb hts hK hP hD hS hA (by decide) (by decide) (by decide) (Nat.le_trans (by decide) hRc) (Nat.le_trans (by decide) hRs) dX7_init_15 (fun q1 H hP hD hS => ?_)
  have hP : va_P D clsX [(h0, .inr (7, [.null, .null, .null, .ref q0, .null, .int 0, .int 0])), (q0, .inl (cy 0, 100, .inl (fun _ => 0))), (q1, .inl (cy 0, 100, .inl (fun _ => 0)))] H := hP
  have hD : va_D A [(h0, .inr (7, [.null, .null, .null, .ref q0, .null, .int 0, .int 0])), (q0, .inl (cy 0, 100, .inl (fun _ => 0))), (q1, .inl (cy 0, 100, .inl (fun _ => 0)))] := hD
  refine va_putF (D := D) (ci := 7) (v := .ref q1) (ty := .array .int) (C := RX7) (T := TX7) (N := 7) hx hb hts (fun w h => tb (iX7 w h)) tyX7 tyX7_ok nmX7 hown hK hP hD hS 0 rfl rfl 4 (by decide) (hts _ (tb mw328)) (fun _ h9 => h9) rfl hin rfl (by decide +kernel) rfl rfl (Nat.le_of_ble_eq_true rfl) dX7_init_17 (fun H locs hP hD hS => ?_)
  have hP : va_P D clsX [(h0, .inr (7, [.null, .null, .null, .ref q0, .ref q1, .int 0, .int 0])), (q0, .inl (cy 0, 100, .inl (fun _ => 0))), (q1, .inl (cy 0, 100, .inl (fun _ => 0)))] H := hP
  have hD : va_D A [(h0, .inr (7, [.null, .null, .null, .ref q0, .ref q1, .int 0, .int 0])), (q0, .inl (cy 0, 100, .inl (fun _ => 0))), (q1, .inl (cy 0, 100, .inl (fun _ => 0)))] := hD
  refine lv_aload_n hx hb dX7_init_20 rfl (lv_at hl 0 rfl) ?_
  refine lv_aload_n hx hb dX7_init_21 rfl (lv_at hl 1 rfl) ?_
  refine va_putF (D := D) (ci := 7) (v := .ref a1) (ty := .object "SaltBells$Ground") (C := RX7) (T := TX7) (N := 7) hx hb hts (fun w h => tb (iX7 w h)) tyX7 tyX7_ok nmX7 hown hK hP hD hS 0 rfl rfl 0 (by decide) (hts _ (tb mw324)) (fun _ h9 => h9) rfl hin rfl (by decide +kernel) rfl rfl (Nat.le_of_ble_eq_true rfl) dX7_init_22 (fun H locs hP hD hS => ?_)
  have hP : va_P D clsX [(h0, .inr (7, [.ref a1, .null, .null, .ref q0, .ref q1, .int 0, .int 0])), (q0, .inl (cy 0, 100, .inl (fun _ => 0))), (q1, .inl (cy 0, 100, .inl (fun _ => 0)))] H := hP
  have hD : va_D A [(h0, .inr (7, [.ref a1, .null, .null, .ref q0, .ref q1, .int 0, .int 0])), (q0, .inl (cy 0, 100, .inl (fun _ => 0))), (q1, .inl (cy 0, 100, .inl (fun _ => 0)))] := hD
  refine lv_aload_n hx hb dX7_init_25 rfl (lv_at hl 0 rfl) ?_
  refine lv_aload_n hx hb dX7_init_26 rfl (lv_at hl 2 rfl) ?_
  refine va_putF (D := D) (ci := 7) (v := .ref a2) (ty := .object "SaltBells$Ears") (C := RX7) (T := TX7) (N := 7) hx hb hts (fun w h => tb (iX7 w h)) tyX7 tyX7_ok nmX7 hown hK hP hD hS 0 rfl rfl 1 (by decide) (hts _ (tb mw325)) (fun _ h9 => h9) rfl hin rfl (by decide +kernel) rfl rfl (Nat.le_of_ble_eq_true rfl) dX7_init_27 (fun H locs hP hD hS => ?_)
  have hP : va_P D clsX [(h0, .inr (7, [.ref a1, .ref a2, .null, .ref q0, .ref q1, .int 0, .int 0])), (q0, .inl (cy 0, 100, .inl (fun _ => 0))), (q1, .inl (cy 0, 100, .inl (fun _ => 0)))] H := hP
  have hD : va_D A [(h0, .inr (7, [.ref a1, .ref a2, .null, .ref q0, .ref q1, .int 0, .int 0])), (q0, .inl (cy 0, 100, .inl (fun _ => 0))), (q1, .inl (cy 0, 100, .inl (fun _ => 0)))] := hD
  refine lv_aload_n hx hb dX7_init_30 rfl (lv_at hl 0 rfl) ?_
  refine lv_aload_n hx hb dX7_init_31 rfl (lv_at hl 3 rfl) ?_
  refine va_putF (D := D) (ci := 7) (v := .ref a3) (ty := .object "SaltBells$Feet") (C := RX7) (T := TX7) (N := 7) hx hb hts (fun w h => tb (iX7 w h)) tyX7 tyX7_ok nmX7 hown hK hP hD hS 0 rfl rfl 2 (by decide) (hts _ (tb mw326)) (fun _ h9 => h9) rfl hin rfl (by decide +kernel) rfl rfl (Nat.le_of_ble_eq_true rfl) dX7_init_32 (fun H locs hP hD hS => ?_)
  have hP : va_P D clsX [(h0, .inr (7, [.ref a1, .ref a2, .ref a3, .ref q0, .ref q1, .int 0, .int 0])), (q0, .inl (cy 0, 100, .inl (fun _ => 0))), (q1, .inl (cy 0, 100, .inl (fun _ => 0)))] H := hP
  have hD : va_D A [(h0, .inr (7, [.ref a1, .ref a2, .ref a3, .ref q0, .ref q1, .int 0, .int 0])), (q0, .inl (cy 0, 100, .inl (fun _ => 0))), (q1, .inl (cy 0, 100, .inl (fun _ => 0)))] := hD
  refine W.widen (k := 2) (n := 200) (by decide) (by decide) ?_
  exact hret (rl [a1, a2, a3, q0, q1, 0, 0]) _ _ _ _ dX7_init_35 trivial (hP.sub [0, 1, 2] rfl) (hD.sub [0, 1, 2] (by decide) rfl) hS
theorem dX9_init_0 : decode cX9_init 0 = .ok (.aload_n 0, 1) := by decide +kernel
theorem dX9_init_1 : decode cX9_init 1 = .ok (.invokespecial 3, 3) := by decide +kernel
theorem dX9_init_4 : decode cX9_init 4 = .ok (.aload_n 0, 1) := by decide +kernel
theorem dX9_init_5 : decode cX9_init 5 = .ok (.aload_n 1, 1) := by decide +kernel
theorem dX9_init_6 : decode cX9_init 6 = .ok (.putfield 9, 3) := by decide +kernel
theorem dX9_init_9 : decode cX9_init 9 = .ok (.aload_n 0, 1) := by decide +kernel
theorem dX9_init_10 : decode cX9_init 10 = .ok (.aload_n 2, 1) := by decide +kernel
theorem dX9_init_11 : decode cX9_init 11 = .ok (.putfield 15, 3) := by decide +kernel
theorem dX9_init_14 : decode cX9_init 14 = .ok (.return_, 1) := by decide +kernel
set_option maxHeartbeats 4000000 in
set_option maxRecDepth 100000 in
theorem ctX9_init (l : Launch) (D : va_G) (cy : Nat → ClassId) (ev : Nat → Nat) (h0 : Nat) (a1 : Nat) (a2 : Nat) (sz : Nat) : Met l yX9_init (Cond.code yX9_init cX9_init 3 none :: TB) ({ frames := 1, cells := 0, slots := 0, locals := 60 }) (va_Pc [.ref h0, .ref a1, .ref a2] (PreX D cy ev [(h0, .inr (9, [.null, .null, .int 0, .int 0]))] sz)) (va_Qv (fun (_ : Unit) => True) (fun u => BkX D cy [(h0, .inr (9, [.null, .null, .int 0, .int 0]))] sz [(h0, .inr (9, oX9 (rtP a1 a2 0 (fun _ => 0)) (fun _ => 0)))]) (va_A [(h0, .inr (9, [.null, .null, .int 0, .int 0]))] sz)) 0 0 (va_A [(h0, .inr (9, [.null, .null, .int 0, .int 0]))] sz) := by
  refine ofWc (by decide) (Nat.le_of_ble_eq_true rfl) ?_
  intro p e s m args below meth c ls A R QQ hx hb hml hown hts hR hlk hin hE hK hP hD hS hA hl hret
  have hown : s.vm.findClass RX9 = some m.cls := hown
  have hRf : 1 ≤ R.frames := by rw [hR]; exact Nat.le_refl _
  have hRl : 60 ≤ R.locals := by rw [hR]; exact Nat.le_refl _
  have hRc : 0 ≤ R.cells := by rw [hR]; exact Nat.le_refl _
  have hRs : 0 ≤ R.slots := by rw [hR]; exact Nat.le_refl _
  clear hR
  have hl : lv_has ls 3 [(0, .ref h0), (1, .ref a1), (2, .ref a2)] := hl
  refine lv_aload_n hx hb dX9_init_0 rfl (lv_at hl 0 rfl) ?_
  refine W.objInit hx hb hown (hts _ (tb mw220)) (hts _ (tb mw31)) (hts _ (tb mw32)) rfl (by rw [hml]; exact hl.1) rfl dX9_init_1 (Nat.le_trans (by decide) hRf) (Nat.le_trans (Nat.le_of_ble_eq_true rfl) hRl) ?_
  refine W.eq (g2 := F0 m 4 ls []) rfl ?_
  refine lv_aload_n hx hb dX9_init_4 rfl (lv_at hl 0 rfl) ?_
  refine lv_aload_n hx hb dX9_init_5 rfl (lv_at hl 1 rfl) ?_
  refine va_putF (D := D) (ci := 9) (v := .ref a1) (ty := .object "SaltBells$Reader") (C := RX9) (T := TX9) (N := 4) hx hb hts (fun w h => tb (iX9 w h)) tyX9 tyX9_ok nmX9 hown hK hP hD hS 0 rfl rfl 0 (by decide) (hts _ (tb mw221)) (fun _ h9 => h9) rfl hin rfl (by decide +kernel) rfl rfl (Nat.le_of_ble_eq_true rfl) dX9_init_6 (fun H locs hP hD hS => ?_)
  have hP : va_P D clsX [(h0, .inr (9, [.ref a1, .null, .int 0, .int 0]))] H := hP
  have hD : va_D A [(h0, .inr (9, [.ref a1, .null, .int 0, .int 0]))] := hD
  refine lv_aload_n hx hb dX9_init_9 rfl (lv_at hl 0 rfl) ?_
  refine lv_aload_n hx hb dX9_init_10 rfl (lv_at hl 2 rfl) ?_
  refine va_putF (D := D) (ci := 9) (v := .ref a2) (ty := .object "SaltBells$Ground") (C := RX9) (T := TX9) (N := 4) hx hb hts (fun w h => tb (iX9 w h)) tyX9 tyX9_ok nmX9 hown hK hP hD hS 0 rfl rfl 1 (by decide) (hts _ (tb mw222)) (fun _ h9 => h9) rfl hin rfl (by decide +kernel) rfl rfl (Nat.le_of_ble_eq_true rfl) dX9_init_11 (fun H locs hP hD hS => ?_)
  have hP : va_P D clsX [(h0, .inr (9, [.ref a1, .ref a2, .int 0, .int 0]))] H := hP
  have hD : va_D A [(h0, .inr (9, [.ref a1, .ref a2, .int 0, .int 0]))] := hD
  refine W.widen (k := 0) (n := 0) (by decide) (by decide) ?_
  exact hret () _ _ _ _ dX9_init_14 trivial (hP.sub [0] rfl) (hD.sub [0] (by decide) rfl) hS
theorem dX5_init_0 : decode cX5_init 0 = .ok (.aload_n 0, 1) := by decide +kernel
theorem dX5_init_1 : decode cX5_init 1 = .ok (.invokespecial 3, 3) := by decide +kernel
theorem dX5_init_4 : decode cX5_init 4 = .ok (.aload_n 0, 1) := by decide +kernel
theorem dX5_init_5 : decode cX5_init 5 = .ok (.iconst 3, 1) := by decide +kernel
theorem dX5_init_6 : decode cX5_init 6 = .ok (.newarray .int, 2) := by decide +kernel
theorem dX5_init_8 : decode cX5_init 8 = .ok (.putfield 11, 3) := by decide +kernel
theorem dX5_init_11 : decode cX5_init 11 = .ok (.aload_n 0, 1) := by decide +kernel
theorem dX5_init_12 : decode cX5_init 12 = .ok (.iconst 3, 1) := by decide +kernel
theorem dX5_init_13 : decode cX5_init 13 = .ok (.newarray .int, 2) := by decide +kernel
theorem dX5_init_15 : decode cX5_init 15 = .ok (.putfield 15, 3) := by decide +kernel
theorem dX5_init_18 : decode cX5_init 18 = .ok (.aload_n 0, 1) := by decide +kernel
theorem dX5_init_19 : decode cX5_init 19 = .ok (.sipush 200, 3) := by decide +kernel
theorem dX5_init_22 : decode cX5_init 22 = .ok (.newarray .int, 2) := by decide +kernel
theorem dX5_init_24 : decode cX5_init 24 = .ok (.putfield 18, 3) := by decide +kernel
theorem dX5_init_27 : decode cX5_init 27 = .ok (.aload_n 0, 1) := by decide +kernel
theorem dX5_init_28 : decode cX5_init 28 = .ok (.aload_n 1, 1) := by decide +kernel
theorem dX5_init_29 : decode cX5_init 29 = .ok (.putfield 21, 3) := by decide +kernel
theorem dX5_init_32 : decode cX5_init 32 = .ok (.return_, 1) := by decide +kernel
set_option maxHeartbeats 4000000 in
set_option maxRecDepth 100000 in
theorem ctX5_init (l : Launch) (D : va_G) (cy : Nat → ClassId) (ev : Nat → Nat) (h0 : Nat) (a1 : Nat) (sz : Nat) : Met l yX5_init (Cond.code yX5_init cX5_init 2 none :: TB) ({ frames := 1, cells := 3, slots := 206, locals := 60 }) (va_Pc [.ref h0, .ref a1] (PreX D cy ev [(h0, .inr (5, [.null, .null, .null, .int 0, .null, .int 0]))] sz)) (va_Qv (fun (_ : Nat → Nat) => True) (fun u => BkX D cy [(h0, .inr (5, [.null, .null, .null, .int 0, .null, .int 0]))] sz [(h0, .inr (5, oX5 (rtQ a1 u) (fun _ => 0))), ((u 1), .inl (cy 0, 3, .inl (fun _ => 0))), ((u 2), .inl (cy 0, 3, .inl (fun _ => 0))), ((u 4), .inl (cy 0, 200, .inl (fun _ => 0)))]) (va_A [(h0, .inr (5, [.null, .null, .null, .int 0, .null, .int 0]))] sz)) 3 206 (va_A [(h0, .inr (5, [.null, .null, .null, .int 0, .null, .int 0]))] sz) := by
  refine ofWc (by decide) (Nat.le_of_ble_eq_true rfl) ?_
  intro p e s m args below meth c ls A R QQ hx hb hml hown hts hR hlk hin hE hK hP hD hS hA hl hret
  have hown : s.vm.findClass RX5 = some m.cls := hown
  have hRf : 1 ≤ R.frames := by rw [hR]; exact Nat.le_refl _
  have hRl : 60 ≤ R.locals := by rw [hR]; exact Nat.le_refl _
  have hRc : 3 ≤ R.cells := by rw [hR]; exact Nat.le_refl _
  have hRs : 206 ≤ R.slots := by rw [hR]; exact Nat.le_refl _
  clear hR
  have hl : lv_has ls 2 [(0, .ref h0), (1, .ref a1)] := hl
  refine lv_aload_n hx hb dX5_init_0 rfl (lv_at hl 0 rfl) ?_
  refine W.objInit hx hb hown (hts _ (tb mw239)) (hts _ (tb mw31)) (hts _ (tb mw32)) rfl (by rw [hml]; exact hl.1) rfl dX5_init_1 (Nat.le_trans (by decide) hRf) (Nat.le_trans (Nat.le_of_ble_eq_true rfl) hRl) ?_
  refine W.eq (g2 := F0 m 4 ls []) rfl ?_
  refine lv_aload_n hx hb dX5_init_4 rfl (lv_at hl 0 rfl) ?_
  refine lv_iconst (v := (3 : Int32)) hx hb dX5_init_5 (by decide) ?_
  refine nwI (N := 3) hx hb hts hK hP hD hS hA (by decide) (by decide) (by decide) (Nat.le_trans (by decide) hRc) (Nat.le_trans (by decide) hRs) dX5_init_6 (fun q0 H hP hD hS => ?_)
  have hP : va_P D clsX [(h0, .inr (5, [.null, .null, .null, .int 0, .null, .int 0])), (q0, .inl (cy 0, 3, .inl (fun _ => 0)))] H := hP
  have hD : va_D A [(h0, .inr (5, [.null, .null, .null, .int 0, .null, .int 0])), (q0, .inl (cy 0, 3, .inl (fun _ => 0)))] := hD
  refine va_putF (D := D) (ci := 5) (v := .ref q0) (ty := .array .int) (C := RX5) (T := TX5) (N := 6) hx hb hts (fun w h => tb (iX5 w h)) tyX5 tyX5_ok nmX5 hown hK hP hD hS 0 rfl rfl 1 (by decide) (hts _ (tb mw241)) (fun _ h9 => h9) rfl hin rfl (by decide +kernel) rfl rfl (Nat.le_of_ble_eq_true rfl) dX5_init_8 (fun H locs hP hD hS => ?_)
  have hP : va_P D clsX [(h0, .inr (5, [.null, .ref q0, .null, .int 0, .null, .int 0])), (q0, .inl (cy 0, 3, .inl (fun _ => 0)))] H := hP
  have hD : va_D A [(h0, .inr (5, [.null, .ref q0, .null, .int 0, .null, .int 0])), (q0, .inl (cy 0, 3, .inl (fun _ => 0)))] := hD
  refine lv_aload_n hx hb dX5_init_11 rfl (lv_at hl 0 rfl) ?_
  refine lv_iconst (v := (3 : Int32)) hx hb dX5_init_12 (by decide) ?_
  refine nwI (N := 3) hx hb hts hK hP hD hS hA (by decide) (by decide) (by decide) (Nat.le_trans (by decide) hRc) (Nat.le_trans (by decide) hRs) dX5_init_13 (fun q1 H hP hD hS => ?_)
  have hP : va_P D clsX [(h0, .inr (5, [.null, .ref q0, .null, .int 0, .null, .int 0])), (q0, .inl (cy 0, 3, .inl (fun _ => 0))), (q1, .inl (cy 0, 3, .inl (fun _ => 0)))] H := hP
  have hD : va_D A [(h0, .inr (5, [.null, .ref q0, .null, .int 0, .null, .int 0])), (q0, .inl (cy 0, 3, .inl (fun _ => 0))), (q1, .inl (cy 0, 3, .inl (fun _ => 0)))] := hD
  refine va_putF (D := D) (ci := 5) (v := .ref q1) (ty := .array .int) (C := RX5) (T := TX5) (N := 6) hx hb hts (fun w h => tb (iX5 w h)) tyX5 tyX5_ok nmX5 hown hK hP hD hS 0 rfl rfl 2 (by decide) (hts _ (tb mw242)) (fun _ h9 => h9) rfl hin rfl (by decide +kernel) rfl rfl (Nat.le_of_ble_eq_true rfl) dX5_init_15 (fun H locs hP hD hS => ?_)
  have hP : va_P D clsX [(h0, .inr (5, [.null, .ref q0, .ref q1, .int 0, .null, .int 0])), (q0, .inl (cy 0, 3, .inl (fun _ => 0))), (q1, .inl (cy 0, 3, .inl (fun _ => 0)))] H := hP
  have hD : va_D A [(h0, .inr (5, [.null, .ref q0, .ref q1, .int 0, .null, .int 0])), (q0, .inl (cy 0, 3, .inl (fun _ => 0))), (q1, .inl (cy 0, 3, .inl (fun _ => 0)))] := hD
  refine lv_aload_n hx hb dX5_init_18 rfl (lv_at hl 0 rfl) ?_
  refine lv_sipush (v := (200 : Int32)) hx hb dX5_init_19 (by decide) ?_
  refine nwI (N := 200) hx hb hts hK hP hD hS hA (by decide) (by decide) (by decide) (Nat.le_trans (by decide) hRc) (Nat.le_trans (by decide) hRs) dX5_init_22 (fun q2 H hP hD hS => ?_)
  have hP : va_P D clsX [(h0, .inr (5, [.null, .ref q0, .ref q1, .int 0, .null, .int 0])), (q0, .inl (cy 0, 3, .inl (fun _ => 0))), (q1, .inl (cy 0, 3, .inl (fun _ => 0))), (q2, .inl (cy 0, 200, .inl (fun _ => 0)))] H := hP
  have hD : va_D A [(h0, .inr (5, [.null, .ref q0, .ref q1, .int 0, .null, .int 0])), (q0, .inl (cy 0, 3, .inl (fun _ => 0))), (q1, .inl (cy 0, 3, .inl (fun _ => 0))), (q2, .inl (cy 0, 200, .inl (fun _ => 0)))] := hD
  refine va_putF (D := D) (ci := 5) (v := .ref q2) (ty := .array .int) (C := RX5) (T := TX5) (N := 6) hx hb hts (fun w h => tb (iX5 w h)) tyX5 tyX5_ok nmX5 hown hK hP hD hS 0 rfl rfl 4 (by decide) (hts _ (tb mw244)) (fun _ h9 => h9) rfl hin rfl (by decide +kernel) rfl rfl (Nat.le_of_ble_eq_true rfl) dX5_init_24 (fun H locs hP hD hS => ?_)
  have hP : va_P D clsX [(h0, .inr (5, [.null, .ref q0, .ref q1, .int 0, .ref q2, .int 0])), (q0, .inl (cy 0, 3, .inl (fun _ => 0))), (q1, .inl (cy 0, 3, .inl (fun _ => 0))), (q2, .inl (cy 0, 200, .inl (fun _ => 0)))] H := hP
  have hD : va_D A [(h0, .inr (5, [.null, .ref q0, .ref q1, .int 0, .ref q2, .int 0])), (q0, .inl (cy 0, 3, .inl (fun _ => 0))), (q1, .inl (cy 0, 3, .inl (fun _ => 0))), (q2, .inl (cy 0, 200, .inl (fun _ => 0)))] := hD
  refine lv_aload_n hx hb dX5_init_27 rfl (lv_at hl 0 rfl) ?_
  refine lv_aload_n hx hb dX5_init_28 rfl (lv_at hl 1 rfl) ?_
  refine va_putF (D := D) (ci := 5) (v := .ref a1) (ty := .object "SaltBells$Reader") (C := RX5) (T := TX5) (N := 6) hx hb hts (fun w h => tb (iX5 w h)) tyX5 tyX5_ok nmX5 hown hK hP hD hS 0 rfl rfl 0 (by decide) (hts _ (tb mw240)) (fun _ h9 => h9) rfl hin rfl (by decide +kernel) rfl rfl (Nat.le_of_ble_eq_true rfl) dX5_init_29 (fun H locs hP hD hS => ?_)
  have hP : va_P D clsX [(h0, .inr (5, [.ref a1, .ref q0, .ref q1, .int 0, .ref q2, .int 0])), (q0, .inl (cy 0, 3, .inl (fun _ => 0))), (q1, .inl (cy 0, 3, .inl (fun _ => 0))), (q2, .inl (cy 0, 200, .inl (fun _ => 0)))] H := hP
  have hD : va_D A [(h0, .inr (5, [.ref a1, .ref q0, .ref q1, .int 0, .ref q2, .int 0])), (q0, .inl (cy 0, 3, .inl (fun _ => 0))), (q1, .inl (cy 0, 3, .inl (fun _ => 0))), (q2, .inl (cy 0, 200, .inl (fun _ => 0)))] := hD
  refine W.widen (k := 3) (n := 206) (by decide) (by decide) ?_
  exact hret (rl [a1, q0, q1, 0, q2, 0]) _ _ _ _ dX5_init_32 trivial (hP.sub [0, 1, 2, 3] rfl) (hD.sub [0, 1, 2, 3] (by decide) rfl) hS
theorem dX0_init_0 : decode cX0_init 0 = .ok (.aload_n 0, 1) := by decide +kernel
theorem dX0_init_1 : decode cX0_init 1 = .ok (.invokespecial 7, 3) := by decide +kernel
theorem dX0_init_4 : decode cX0_init 4 = .ok (.aload_n 0, 1) := by decide +kernel
theorem dX0_init_5 : decode cX0_init 5 = .ok (.sipush 3400, 3) := by decide +kernel
theorem dX0_init_8 : decode cX0_init 8 = .ok (.newarray .int, 2) := by decide +kernel
theorem dX0_init_10 : decode cX0_init 10 = .ok (.putfield 13, 3) := by decide +kernel
theorem dX0_init_13 : decode cX0_init 13 = .ok (.aload_n 0, 1) := by decide +kernel
theorem dX0_init_14 : decode cX0_init 14 = .ok (.new 1, 3) := by decide +kernel
theorem dX0_init_17 : decode cX0_init 17 = .ok (.dup, 1) := by decide +kernel
theorem dX0_init_18 : decode cX0_init 18 = .ok (.aload_n 1, 1) := by decide +kernel
theorem dX0_init_19 : decode cX0_init 19 = .ok (.aload_n 2, 1) := by decide +kernel
theorem dX0_init_20 : decode cX0_init 20 = .ok (.aload_n 3, 1) := by decide +kernel
theorem dX0_init_21 : decode cX0_init 21 = .ok (.invokespecial 17, 3) := by decide +kernel
theorem dX0_init_24 : decode cX0_init 24 = .ok (.putfield 20, 3) := by decide +kernel
theorem dX0_init_27 : decode cX0_init 27 = .ok (.return_, 1) := by decide +kernel
set_option maxHeartbeats 4000000 in
set_option maxRecDepth 100000 in
theorem ctX0_init (l : Launch) (D : va_G) (cy : Nat → ClassId) (ev : Nat → Nat) (h0 : Nat) (a1 : Nat) (a2 : Nat) (a3 : Nat) (sz : Nat) : Met l yX0_init (Cond.code yX0_init cX0_init 4 none :: TB) ({ frames := 2, cells := 4, slots := 3438, locals := 83 }) (va_Pc [.ref h0, .ref a1, .ref a2, .ref a3] (PreX D cy ev [(h0, .inr (0, [.null, .null, .int 0, .int 0, .int 0, .int 0, .int 0]))] sz)) (va_Qv (fun (_ : (Nat → Nat) × (Nat → Nat)) => True) (fun u => BkX D cy [(h0, .inr (0, [.null, .null, .int 0, .int 0, .int 0, .int 0, .int 0]))] sz [(h0, .inr (0, oX0 u.1 (fun _ => 0))), ((u.1 1), .inl (cy 0, 3400, .inl (fun _ => 0))), ((u.1 0), .inr (3, oX3 (rtP a1 a2 a3 u.2))), ((u.2 3), .inl (cy 0, 29, .inl (fun _ => 0))), ((u.2 4), .inl (cy 0, 4, .inl (fun _ => 0)))]) (va_A [(h0, .inr (0, [.null, .null, .int 0, .int 0, .int 0, .int 0, .int 0]))] sz)) 4 3438 (va_A [(h0, .inr (0, [.null, .null, .int 0, .int 0, .int 0, .int 0, .int 0]))] sz) := by
  refine ofWc (by decide) (Nat.le_of_ble_eq_true rfl) ?_
  intro p e s m args below meth c ls A R QQ hx hb hml hown hts hR hlk hin hE hK hP hD hS hA hl hret
  have hown : s.vm.findClass RX0 = some m.cls := hown
  have hRf : 2 ≤ R.frames := by rw [hR]; exact Nat.le_refl _
  have hRl : 83 ≤ R.locals := by rw [hR]; exact Nat.le_refl _
  have hRc : 4 ≤ R.cells := by rw [hR]; exact Nat.le_refl _
  have hRs : 3438 ≤ R.slots := by rw [hR]; exact Nat.le_refl _
  clear hR
  have hl : lv_has ls 4 [(0, .ref h0), (1, .ref a1), (2, .ref a2), (3, .ref a3)] := hl
  refine lv_aload_n hx hb dX0_init_0 rfl (lv_at hl 0 rfl) ?_
  refine W.objInit hx hb hown (hts _ (tb mw266)) (hts _ (tb mw31)) (hts _ (tb mw32)) rfl (by rw [hml]; exact hl.1) rfl dX0_init_1 (Nat.le_trans (by decide) hRf) (Nat.le_trans (Nat.le_of_ble_eq_true rfl) hRl) ?_
  refine W.eq (g2 := F0 m 4 ls []) rfl ?_
  refine lv_aload_n hx hb dX0_init_4 rfl (lv_at hl 0 rfl) ?_
  refine lv_sipush (v := (3400 : Int32)) hx hb dX0_init_5 (by decide) ?_
  refine nwI (N := 3400) hx hb hts hK hP hD hS hA (by decide) (by decide) (by decide) (Nat.le_trans (by decide) hRc) (Nat.le_trans (by decide) hRs) dX0_init_8 (fun q0 H hP hD hS => ?_)
  have hP : va_P D clsX [(h0, .inr (0, [.null, .null, .int 0, .int 0, .int 0, .int 0, .int 0])), (q0, .inl (cy 0, 3400, .inl (fun _ => 0)))] H := hP
  have hD : va_D A [(h0, .inr (0, [.null, .null, .int 0, .int 0, .int 0, .int 0, .int 0])), (q0, .inl (cy 0, 3400, .inl (fun _ => 0)))] := hD
  refine va_putF (D := D) (ci := 0) (v := .ref q0) (ty := .array .int) (C := RX0) (T := TX0) (N := 7) hx hb hts (fun w h => tb (iX0 w h)) tyX0 tyX0_ok nmX0 hown hK hP hD hS 0 rfl rfl 1 (by decide) (hts _ (tb mw293)) (fun _ h9 => h9) rfl hin rfl (by decide +kernel) rfl rfl (Nat.le_of_ble_eq_true rfl) dX0_init_10 (fun H locs hP hD hS => ?_)
  have hP : va_P D clsX [(h0, .inr (0, [.null, .ref q0, .int 0, .int 0, .int 0, .int 0, .int 0])), (q0, .inl (cy 0, 3400, .inl (fun _ => 0)))] H := hP
  have hD : va_D A [(h0, .inr (0, [.null, .ref q0, .int 0, .int 0, .int 0, .int 0, .int 0])), (q0, .inl (cy 0, 3400, .inl (fun _ => 0)))] := hD
  refine lv_aload_n hx hb dX0_init_13 rfl (lv_at hl 0 rfl) ?_
  refine va_new (ci := 3) (fs := [.null, .null, .null, .null, .null]) (C := RX3) (T := TX3) (N := 5) hx hb hts (fun w h => tb (iX3 w h)) tyX3 tyX3_ok hown (hts _ (tb mw267)) (hts _ (tb mw268)) (hts _ (tb mw9)) hK hP hD hS hA rfl (by decide +kernel) (Nat.le_trans (by decide) hRc) (Nat.le_trans (by decide) hRs) dX0_init_14 (fun q1 H hP hD hS => ?_)
  have hP : va_P D clsX [(h0, .inr (0, [.null, .ref q0, .int 0, .int 0, .int 0, .int 0, .int 0])), (q0, .inl (cy 0, 3400, .inl (fun _ => 0))), (q1, .inr (3, [.null, .null, .null, .null, .null]))] H := hP
  have hD : va_D A [(h0, .inr (0, [.null, .ref q0, .int 0, .int 0, .int 0, .int 0, .int 0])), (q0, .inl (cy 0, 3400, .inl (fun _ => 0))), (q1, .inr (3, [.null, .null, .null, .null, .null]))] := hD
  refine lv_dup hx hb dX0_init_17 rfl ?_
  refine lv_aload_n hx hb dX0_init_18 rfl (lv_at hl 1 rfl) ?_
  refine lv_aload_n hx hb dX0_init_19 rfl (lv_at hl 2 rfl) ?_
  refine lv_aload_n hx hb dX0_init_20 rfl (lv_at hl 3 rfl) ?_
  refine clIv (As := [.ref a1, .ref a2, .ref a3]) (rest := [.ref q1, .ref h0]) (Wr := [(h0, .inr (0, [.null, .ref q0, .int 0, .int 0, .int 0, .int 0, .int 0])), (q0, .inl (cy 0, 3400, .inl (fun _ => 0)))]) ⟨hx, hb, hml, hown, hts⟩ ⟨callB_of 3 hts (goodC mw271) rfl rfl rfl (hts _ (tb mw9)) (hts _ (tb mw269)) kdX3_init ⟨Nat.le_trans (by decide) hRf, Nat.le_trans (by decide) hRl⟩, rfl, hts _ (tb mw270)⟩ (ctX3_init l D cy ev q1 a1 a2 a3 _) hE hK hP hD hS hA [2] [0, 1] rfl rfl (by decide) (by decide) (by decide) rfl hl.1 rfl (Nat.le_of_ble_eq_true rfl) ⟨(Nat.le_trans (by decide) hRc), (Nat.le_trans (by decide) hRs)⟩ dX0_init_21 (fun u21 H locs h hP hD hS => ?_)
  have hP : va_P D clsX [(h0, .inr (0, [.null, .ref q0, .int 0, .int 0, .int 0, .int 0, .int 0])), (q0, .inl (cy 0, 3400, .inl (fun _ => 0))), (q1, .inr (3, oX3 (rtP a1 a2 a3 u21))), ((u21 3), .inl (cy 0, 29, .inl (fun _ => 0))), ((u21 4), .inl (cy 0, 4, .inl (fun _ => 0)))] H := hP
  have hD : va_D A [(h0, .inr (0, [.null, .ref q0, .int 0, .int 0, .int 0, .int 0, .int 0])), (q0, .inl (cy 0, 3400, .inl (fun _ => 0))), (q1, .inr (3, oX3 (rtP a1 a2 a3 u21))), ((u21 3), .inl (cy 0, 29, .inl (fun _ => 0))), ((u21 4), .inl (cy 0, 4, .inl (fun _ => 0)))] := hD
  refine va_putF (D := D) (ci := 0) (v := .ref q1) (ty := .object "SaltBells$Folk") (C := RX0) (T := TX0) (N := 7) hx hb hts (fun w h => tb (iX0 w h)) tyX0 tyX0_ok nmX0 hown hK hP hD hS 0 rfl rfl 0 (by decide) (hts _ (tb mw291)) (fun _ h9 => h9) rfl hin rfl (by decide +kernel) rfl rfl (Nat.le_of_ble_eq_true rfl) dX0_init_24 (fun H locs hP hD hS => ?_)
  have hP : va_P D clsX [(h0, .inr (0, [.ref q1, .ref q0, .int 0, .int 0, .int 0, .int 0, .int 0])), (q0, .inl (cy 0, 3400, .inl (fun _ => 0))), (q1, .inr (3, oX3 (rtP a1 a2 a3 u21))), ((u21 3), .inl (cy 0, 29, .inl (fun _ => 0))), ((u21 4), .inl (cy 0, 4, .inl (fun _ => 0)))] H := hP
  have hD : va_D A [(h0, .inr (0, [.ref q1, .ref q0, .int 0, .int 0, .int 0, .int 0, .int 0])), (q0, .inl (cy 0, 3400, .inl (fun _ => 0))), (q1, .inr (3, oX3 (rtP a1 a2 a3 u21))), ((u21 3), .inl (cy 0, 29, .inl (fun _ => 0))), ((u21 4), .inl (cy 0, 4, .inl (fun _ => 0)))] := hD
  refine W.widen (k := 4) (n := 3438) (by decide) (by decide) ?_
  exact hret ((rl [q1, q0, 0, 0, 0, 0, 0]), u21) _ _ _ _ dX0_init_27 trivial (hP.sub [0, 1, 2, 3, 4] rfl) (hD.sub [0, 1, 2, 3, 4] (by decide) rfl) hS
theorem dX6_init_0 : decode cX6_init 0 = .ok (.aload_n 0, 1) := by decide +kernel
theorem dX6_init_1 : decode cX6_init 1 = .ok (.invokespecial 3, 3) := by decide +kernel
theorem dX6_init_4 : decode cX6_init 4 = .ok (.aload_n 0, 1) := by decide +kernel
theorem dX6_init_5 : decode cX6_init 5 = .ok (.iconst 5, 1) := by decide +kernel
theorem dX6_init_6 : decode cX6_init 6 = .ok (.anewarray 9, 3) := by decide +kernel
theorem dX6_init_9 : decode cX6_init 9 = .ok (.putfield 11, 3) := by decide +kernel
theorem dX6_init_12 : decode cX6_init 12 = .ok (.aload_n 0, 1) := by decide +kernel
theorem dX6_init_13 : decode cX6_init 13 = .ok (.iconst 4, 1) := by decide +kernel
theorem dX6_init_14 : decode cX6_init 14 = .ok (.newarray .int, 2) := by decide +kernel
theorem dX6_init_16 : decode cX6_init 16 = .ok (.putfield 17, 3) := by decide +kernel
theorem dX6_init_19 : decode cX6_init 19 = .ok (.aload_n 0, 1) := by decide +kernel
theorem dX6_init_20 : decode cX6_init 20 = .ok (.iconst 4, 1) := by decide +kernel
theorem dX6_init_21 : decode cX6_init 21 = .ok (.newarray .int, 2) := by decide +kernel
theorem dX6_init_23 : decode cX6_init 23 = .ok (.putfield 21, 3) := by decide +kernel
theorem dX6_init_26 : decode cX6_init 26 = .ok (.aload_n 0, 1) := by decide +kernel
theorem dX6_init_27 : decode cX6_init 27 = .ok (.aload_n 1, 1) := by decide +kernel
theorem dX6_init_28 : decode cX6_init 28 = .ok (.putfield 24, 3) := by decide +kernel
theorem dX6_init_31 : decode cX6_init 31 = .ok (.iconst 0, 1) := by decide +kernel
theorem dX6_init_32 : decode cX6_init 32 = .ok (.istore 4, 2) := by decide +kernel
theorem dX6_init_34 : decode cX6_init 34 = .ok (.iload 4, 2) := by decide +kernel
theorem dX6_init_36 : decode cX6_init 36 = .ok (.iconst 4, 1) := by decide +kernel
theorem dX6_init_37 : decode cX6_init 37 = .ok (.if_icmp .gt 26, 3) := by decide +kernel
theorem dX6_init_40 : decode cX6_init 40 = .ok (.aload_n 0, 1) := by decide +kernel
theorem dX6_init_41 : decode cX6_init 41 = .ok (.getfield 11, 3) := by decide +kernel
theorem dX6_init_44 : decode cX6_init 44 = .ok (.iload 4, 2) := by decide +kernel
theorem dX6_init_46 : decode cX6_init 46 = .ok (.new 9, 3) := by decide +kernel
theorem dX6_init_49 : decode cX6_init 49 = .ok (.dup, 1) := by decide +kernel
theorem dX6_init_50 : decode cX6_init 50 = .ok (.aload_n 1, 1) := by decide +kernel
theorem dX6_init_51 : decode cX6_init 51 = .ok (.aload_n 2, 1) := by decide +kernel
theorem dX6_init_52 : decode cX6_init 52 = .ok (.aload_n 3, 1) := by decide +kernel
theorem dX6_init_53 : decode cX6_init 53 = .ok (.invokespecial 28, 3) := by decide +kernel
theorem dX6_init_56 : decode cX6_init 56 = .ok (.aastore, 1) := by decide +kernel
theorem dX6_init_57 : decode cX6_init 57 = .ok (.iinc 4 1, 3) := by decide +kernel
theorem dX6_init_60 : decode cX6_init 60 = .ok (.goto (-26), 3) := by decide +kernel
theorem dX6_init_63 : decode cX6_init 63 = .ok (.return_, 1) := by decide +kernel
set_option maxHeartbeats 4000000 in
set_option maxRecDepth 100000 in
theorem ctX6_init (l : Launch) (D : va_G) (cy : Nat → ClassId) (ev : Nat → Nat) (h0 : Nat) (a1 : Nat) (a2 : Nat) (a3 : Nat) (sz : Nat) : Met l yX6_init (Cond.code yX6_init cX6_init 5 none :: TB) ({ frames := 2, cells := 18, slots := 203, locals := 83 }) (va_Pc [.ref h0, .ref a1, .ref a2, .ref a3] (PreX D cy ev [(h0, .inr (6, [.null, .null, .null, .null, .int 0, .int 0]))] sz)) (va_Qv (fun (_ : (Nat → Nat) × (Nat → Nat) × (Nat → Nat) × (Nat → Nat) × (Nat → Nat) × (Nat → Nat) × (Nat → Nat)) => True) (fun u => BkX D cy [(h0, .inr (6, [.null, .null, .null, .null, .int 0, .int 0]))] sz [(h0, .inr (6, oX6 (rtQ a1 u.1) (fun _ => 0))), ((u.1 1), .inl (cy 4, 5, .inr (.inr (.inr (.inr (fun i => some (u.2.1 i))))))), ((u.1 2), .inl (cy 0, 4, .inl (fun _ => 0))), ((u.1 3), .inl (cy 0, 4, .inl (fun _ => 0))), ((u.2.1 0), .inr (3, oX3 (rtP a1 a2 a3 u.2.2.1))), (((u.2.2.1) 3), .inl (cy 0, 29, .inl (fun _ => 0))), (((u.2.2.1) 4), .inl (cy 0, 4, .inl (fun _ => 0))), ((u.2.1 1), .inr (3, oX3 (rtP a1 a2 a3 u.2.2.2.1))), (((u.2.2.2.1) 3), .inl (cy 0, 29, .inl (fun _ => 0))), (((u.2.2.2.1) 4), .inl (cy 0, 4, .inl (fun _ => 0))), ((u.2.1 2), .inr (3, oX3 (rtP a1 a2 a3 u.2.2.2.2.1))), (((u.2.2.2.2.1) 3), .inl (cy 0, 29, .inl (fun _ => 0))), (((u.2.2.2.2.1) 4), .inl (cy 0, 4, .inl (fun _ => 0))), ((u.2.1 3), .inr (3, oX3 (rtP a1 a2 a3 u.2.2.2.2.2.1))), (((u.2.2.2.2.2.1) 3), .inl (cy 0, 29, .inl (fun _ => 0))), (((u.2.2.2.2.2.1) 4), .inl (cy 0, 4, .inl (fun _ => 0))), ((u.2.1 4), .inr (3, oX3 (rtP a1 a2 a3 u.2.2.2.2.2.2))), (((u.2.2.2.2.2.2) 3), .inl (cy 0, 29, .inl (fun _ => 0))), (((u.2.2.2.2.2.2) 4), .inl (cy 0, 4, .inl (fun _ => 0)))]) (va_A [(h0, .inr (6, [.null, .null, .null, .null, .int 0, .int 0]))] sz)) 18 203 (va_A [(h0, .inr (6, [.null, .null, .null, .null, .int 0, .int 0]))] sz) := by
  refine ofWc (by decide) (Nat.le_of_ble_eq_true rfl) ?_
  intro p e s m args below meth c ls A R QQ hx hb hml hown hts hR hlk hin hE hK hP hD hS hA hl hret
  have hown : s.vm.findClass RX6 = some m.cls := hown
  have hRf : 2 ≤ R.frames := by rw [hR]; exact Nat.le_refl _
  have hRl : 83 ≤ R.locals := by rw [hR]; exact Nat.le_refl _
  have hRc : 18 ≤ R.cells := by rw [hR]; exact Nat.le_refl _
  have hRs : 203 ≤ R.slots := by rw [hR]; exact Nat.le_refl _
  clear hR
  have hl : lv_has ls 5 [(0, .ref h0), (1, .ref a1), (2, .ref a2), (3, .ref a3)] := hl
  refine lv_aload_n hx hb dX6_init_0 rfl (lv_at hl 0 rfl) ?_
  refine W.objInit hx hb hown (hts _ (tb mw353)) (hts _ (tb mw31)) (hts _ (tb mw32)) rfl (by rw [hml]; exact hl.1) rfl dX6_init_1 (Nat.le_trans (by decide) hRf) (Nat.le_trans (Nat.le_of_ble_eq_true rfl) hRl) ?_
  refine W.eq (g2 := F0 m 4 ls []) rfl ?_
  refine lv_aload_n hx hb dX6_init_4 rfl (lv_at hl 0 rfl) ?_
  refine lv_iconst (v := (5 : Int32)) hx hb dX6_init_5 (by decide) ?_
  refine nwF (N := 5) hx hb hts hown mw354 hE hK hP hD hS hA (by decide) (by decide) (by decide) (Nat.le_trans (by decide) hRc) (Nat.le_trans (by decide) hRs) dX6_init_6 (fun q0 H hP hD hS => ?_)
  have hP : va_P D clsX [(h0, .inr (6, [.null, .null, .null, .null, .int 0, .int 0])), (q0, .inl (cy 4, 5, .inr (.inr (.inr (.inr (fun _ => none))))))] H := hP
  have hD : va_D A [(h0, .inr (6, [.null, .null, .null, .null, .int 0, .int 0])), (q0, .inl (cy 4, 5, .inr (.inr (.inr (.inr (fun _ => none))))))] := hD
  refine va_putF (D := D) (ci := 6) (v := .ref q0) (ty := .array (.object "SaltBells$Folk")) (C := RX6) (T := TX6) (N := 6) hx hb hts (fun w h => tb (iX6 w h)) tyX6 tyX6_ok nmX6 hown hK hP hD hS 0 rfl rfl 1 (by decide) (hts _ (tb mw358)) (fun _ h9 => h9) rfl hin rfl (by decide +kernel) rfl rfl (Nat.le_of_ble_eq_true rfl) dX6_init_9 (fun H locs hP hD hS => ?_)
  have hP : va_P D clsX [(h0, .inr (6, [.null, .ref q0, .null, .null, .int 0, .int 0])), (q0, .inl (cy 4, 5, .inr (.inr (.inr (.inr (fun _ => none))))))] H := hP
  have hD : va_D A [(h0, .inr (6, [.null, .ref q0, .null, .null, .int 0, .int 0])), (q0, .inl (cy 4, 5, .inr (.inr (.inr (.inr (fun _ => none))))))] := hD
  refine lv_aload_n hx hb dX6_init_12 rfl (lv_at hl 0 rfl) ?_
  refine lv_iconst (v := (4 : Int32)) hx hb dX6_init_13 (by decide) ?_
  refine nwI (N := 4) hx hb hts hK hP hD hS hA (by decide) (by decide) (by decide) (Nat.le_trans (by decide) hRc) (Nat.le_trans (by decide) hRs) dX6_init_14 (fun q1 H hP hD hS => ?_)
  have hP : va_P D clsX [(h0, .inr (6, [.null, .ref q0, .null, .null, .int 0, .int 0])), (q0, .inl (cy 4, 5, .inr (.inr (.inr (.inr (fun _ => none)))))), (q1, .inl (cy 0, 4, .inl (fun _ => 0)))] H := hP
  have hD : va_D A [(h0, .inr (6, [.null, .ref q0, .null, .null, .int 0, .int 0])), (q0, .inl (cy 4, 5, .inr (.inr (.inr (.inr (fun _ => none)))))), (q1, .inl (cy 0, 4, .inl (fun _ => 0)))] := hD
  refine va_putF (D := D) (ci := 6) (v := .ref q1) (ty := .array .int) (C := RX6) (T := TX6) (N := 6) hx hb hts (fun w h => tb (iX6 w h)) tyX6 tyX6_ok nmX6 hown hK hP hD hS 0 rfl rfl 2 (by decide) (hts _ (tb mw359)) (fun _ h9 => h9) rfl hin rfl (by decide +kernel) rfl rfl (Nat.le_of_ble_eq_true rfl) dX6_init_16 (fun H locs hP hD hS => ?_)
  have hP : va_P D clsX [(h0, .inr (6, [.null, .ref q0, .ref q1, .null, .int 0, .int 0])), (q0, .inl (cy 4, 5, .inr (.inr (.inr (.inr (fun _ => none)))))), (q1, .inl (cy 0, 4, .inl (fun _ => 0)))] H := hP
  have hD : va_D A [(h0, .inr (6, [.null, .ref q0, .ref q1, .null, .int 0, .int 0])), (q0, .inl (cy 4, 5, .inr (.inr (.inr (.inr (fun _ => none)))))), (q1, .inl (cy 0, 4, .inl (fun _ => 0)))] := hD
  refine lv_aload_n hx hb dX6_init_19 rfl (lv_at hl 0 rfl) ?_
  refine lv_iconst (v := (4 : Int32)) hx hb dX6_init_20 (by decide) ?_
  refine nwI (N := 4) hx hb hts hK hP hD hS hA (by decide) (by decide) (by decide) (Nat.le_trans (by decide) hRc) (Nat.le_trans (by decide) hRs) dX6_init_21 (fun q2 H hP hD hS => ?_)
  have hP : va_P D clsX [(h0, .inr (6, [.null, .ref q0, .ref q1, .null, .int 0, .int 0])), (q0, .inl (cy 4, 5, .inr (.inr (.inr (.inr (fun _ => none)))))), (q1, .inl (cy 0, 4, .inl (fun _ => 0))), (q2, .inl (cy 0, 4, .inl (fun _ => 0)))] H := hP
  have hD : va_D A [(h0, .inr (6, [.null, .ref q0, .ref q1, .null, .int 0, .int 0])), (q0, .inl (cy 4, 5, .inr (.inr (.inr (.inr (fun _ => none)))))), (q1, .inl (cy 0, 4, .inl (fun _ => 0))), (q2, .inl (cy 0, 4, .inl (fun _ => 0)))] := hD
  refine va_putF (D := D) (ci := 6) (v := .ref q2) (ty := .array .int) (C := RX6) (T := TX6) (N := 6) hx hb hts (fun w h => tb (iX6 w h)) tyX6 tyX6_ok nmX6 hown hK hP hD hS 0 rfl rfl 3 (by decide) (hts _ (tb mw360)) (fun _ h9 => h9) rfl hin rfl (by decide +kernel) rfl rfl (Nat.le_of_ble_eq_true rfl) dX6_init_23 (fun H locs hP hD hS => ?_)
  have hP : va_P D clsX [(h0, .inr (6, [.null, .ref q0, .ref q1, .ref q2, .int 0, .int 0])), (q0, .inl (cy 4, 5, .inr (.inr (.inr (.inr (fun _ => none)))))), (q1, .inl (cy 0, 4, .inl (fun _ => 0))), (q2, .inl (cy 0, 4, .inl (fun _ => 0)))] H := hP
  have hD : va_D A [(h0, .inr (6, [.null, .ref q0, .ref q1, .ref q2, .int 0, .int 0])), (q0, .inl (cy 4, 5, .inr (.inr (.inr (.inr (fun _ => none)))))), (q1, .inl (cy 0, 4, .inl (fun _ => 0))), (q2, .inl (cy 0, 4, .inl (fun _ => 0)))] := hD
  refine lv_aload_n hx hb dX6_init_26 rfl (lv_at hl 0 rfl) ?_
  refine lv_aload_n hx hb dX6_init_27 rfl (lv_at hl 1 rfl) ?_
  refine va_putF (D := D) (ci := 6) (v := .ref a1) (ty := .object "SaltBells$Ground") (C := RX6) (T := TX6) (N := 6) hx hb hts (fun w h => tb (iX6 w h)) tyX6 tyX6_ok nmX6 hown hK hP hD hS 0 rfl rfl 0 (by decide) (hts _ (tb mw357)) (fun _ h9 => h9) rfl hin rfl (by decide +kernel) rfl rfl (Nat.le_of_ble_eq_true rfl) dX6_init_28 (fun H locs hP hD hS => ?_)
  have hP : va_P D clsX [(h0, .inr (6, [.ref a1, .ref q0, .ref q1, .ref q2, .int 0, .int 0])), (q0, .inl (cy 4, 5, .inr (.inr (.inr (.inr (fun _ => none)))))), (q1, .inl (cy 0, 4, .inl (fun _ => 0))), (q2, .inl (cy 0, 4, .inl (fun _ => 0)))] H := hP
  have hD : va_D A [(h0, .inr (6, [.ref a1, .ref q0, .ref q1, .ref q2, .int 0, .int 0])), (q0, .inl (cy 4, 5, .inr (.inr (.inr (.inr (fun _ => none)))))), (q1, .inl (cy 0, 4, .inl (fun _ => 0))), (q2, .inl (cy 0, 4, .inl (fun _ => 0)))] := hD
  refine lv_iconst (v := (0 : Int32)) hx hb dX6_init_31 (by decide) ?_
  refine lv_istore (lv' := [(4, .int (0 : Int32)), (0, .ref h0), (1, .ref a1), (2, .ref a2), (3, .ref a3)]) hx hb dX6_init_32 hl (by decide) rfl (fun ls hl => ?_)
  refine lv_iload hx hb dX6_init_34 (lv_at hl 0 rfl) ?_
  refine lv_iconst (v := (4 : Int32)) hx hb dX6_init_36 (by decide) ?_
  refine lv_icmp_gt (tgt := 63) hx hb dX6_init_37 (by decide) (fun c9 => absurd c9 (by decide)) (fun _ => ?_)
  refine lv_aload_n hx hb dX6_init_40 rfl (lv_at hl 1 rfl) ?_
  refine va_get (D := D) (ci := 6) (v := .ref q0) (C := RX6) (T := TX6) (N := 6) hx hb hts (fun w h => tb (iX6 w h)) hown hK hP 0 rfl rfl 1 (by decide) (hts _ (tb mw358)) (fun _ h9 => h9) rfl dX6_init_41 ?_
  refine lv_iload hx hb dX6_init_44 (lv_at hl 0 rfl) ?_
  refine va_new (ci := 3) (fs := [.null, .null, .null, .null, .null]) (C := RX3) (T := TX3) (N := 5) hx hb hts (fun w h => tb (iX3 w h)) tyX3 tyX3_ok hown (hts _ (tb mw354)) (hts _ (tb mw268)) (hts _ (tb mw9)) hK hP hD hS hA rfl (by decide +kernel) (Nat.le_trans (by decide) hRc) (Nat.le_trans (by decide) hRs) dX6_init_46 (fun q3 H hP hD hS => ?_)
  have hP : va_P D clsX [(h0, .inr (6, [.ref a1, .ref q0, .ref q1, .ref q2, .int 0, .int 0])), (q0, .inl (cy 4, 5, .inr (.inr (.inr (.inr (fun _ => none)))))), (q1, .inl (cy 0, 4, .inl (fun _ => 0))), (q2, .inl (cy 0, 4, .inl (fun _ => 0))), (q3, .inr (3, [.null, .null, .null, .null, .null]))] H := hP
  have hD : va_D A [(h0, .inr (6, [.ref a1, .ref q0, .ref q1, .ref q2, .int 0, .int 0])), (q0, .inl (cy 4, 5, .inr (.inr (.inr (.inr (fun _ => none)))))), (q1, .inl (cy 0, 4, .inl (fun _ => 0))), (q2, .inl (cy 0, 4, .inl (fun _ => 0))), (q3, .inr (3, [.null, .null, .null, .null, .null]))] := hD
  refine lv_dup hx hb dX6_init_49 rfl ?_
  refine lv_aload_n hx hb dX6_init_50 rfl (lv_at hl 2 rfl) ?_
  refine lv_aload_n hx hb dX6_init_51 rfl (lv_at hl 3 rfl) ?_
  refine lv_aload_n hx hb dX6_init_52 rfl (lv_at hl 4 rfl) ?_
  refine clIv (As := [.ref a1, .ref a2, .ref a3]) (rest := [.ref q3, .int (0 : Int32), .ref q0]) (Wr := [(h0, .inr (6, [.ref a1, .ref q0, .ref q1, .ref q2, .int 0, .int 0])), (q0, .inl (cy 4, 5, .inr (.inr (.inr (.inr (fun _ => none)))))), (q1, .inl (cy 0, 4, .inl (fun _ => 0))), (q2, .inl (cy 0, 4, .inl (fun _ => 0)))]) ⟨hx, hb, hml, hown, hts⟩ ⟨callB_of 3 hts (goodC mw271) rfl rfl rfl (hts _ (tb mw9)) (hts _ (tb mw356)) kdX3_init ⟨Nat.le_trans (by decide) hRf, Nat.le_trans (by decide) hRl⟩, rfl, hts _ (tb mw270)⟩ (ctX3_init l D cy ev q3 a1 a2 a3 _) hE hK hP hD hS hA [4] [0, 1, 2, 3] rfl rfl (by decide) (by decide) (by decide) rfl hl.1 rfl (Nat.le_of_ble_eq_true rfl) ⟨(Nat.le_trans (by decide) hRc), (Nat.le_trans (by decide) hRs)⟩ dX6_init_53 (fun u53_4 H locs h hP hD hS => ?_)
  have hP : va_P D clsX [(h0, .inr (6, [.ref a1, .ref q0, .ref q1, .ref q2, .int 0, .int 0])), (q0, .inl (cy 4, 5, .inr (.inr (.inr (.inr (fun _ => none)))))), (q1, .inl (cy 0, 4, .inl (fun _ => 0))), (q2, .inl (cy 0, 4, .inl (fun _ => 0))), (q3, .inr (3, oX3 (rtP a1 a2 a3 u53_4))), ((u53_4 3), .inl (cy 0, 29, .inl (fun _ => 0))), ((u53_4 4), .inl (cy 0, 4, .inl (fun _ => 0)))] H := hP
  have hD : va_D A [(h0, .inr (6, [.ref a1, .ref q0, .ref q1, .ref q2, .int 0, .int 0])), (q0, .inl (cy 4, 5, .inr (.inr (.inr (.inr (fun _ => none)))))), (q1, .inl (cy 0, 4, .inl (fun _ => 0))), (q2, .inl (cy 0, 4, .inl (fun _ => 0))), (q3, .inr (3, oX3 (rtP a1 a2 a3 u53_4))), ((u53_4 3), .inl (cy 0, 29, .inl (fun _ => 0))), ((u53_4 4), .inl (cy 0, 4, .inl (fun _ => 0)))] := hD
  refine va_astq (r := (RX3, TX3, 5)) hx hb hK hP hD hS 1 4 4 3 rfl rfl rfl rfl (inL (by decide)) dX6_init_56 (fun H locs hP hD hS => ?_)
  have hP : va_P D clsX [(h0, .inr (6, [.ref a1, .ref q0, .ref q1, .ref q2, .int 0, .int 0])), (q0, .inl (cy 4, 5, .inr (.inr (.inr (.inr (va_up (fun _ => none) (0 : Int32).toNatClampNeg (some q3))))))), (q1, .inl (cy 0, 4, .inl (fun _ => 0))), (q2, .inl (cy 0, 4, .inl (fun _ => 0))), (q3, .inr (3, oX3 (rtP a1 a2 a3 u53_4))), ((u53_4 3), .inl (cy 0, 29, .inl (fun _ => 0))), ((u53_4 4), .inl (cy 0, 4, .inl (fun _ => 0)))] H := hP
  have hD : va_D A [(h0, .inr (6, [.ref a1, .ref q0, .ref q1, .ref q2, .int 0, .int 0])), (q0, .inl (cy 4, 5, .inr (.inr (.inr (.inr (va_up (fun _ => none) (0 : Int32).toNatClampNeg (some q3))))))), (q1, .inl (cy 0, 4, .inl (fun _ => 0))), (q2, .inl (cy 0, 4, .inl (fun _ => 0))), (q3, .inr (3, oX3 (rtP a1 a2 a3 u53_4))), ((u53_4 3), .inl (cy 0, 29, .inl (fun _ => 0))), ((u53_4 4), .inl (cy 0, 4, .inl (fun _ => 0)))] := hD
  refine lv_iinc (v := (1 : Int32)) (lv' := [(4, .int (1 : Int32)), (0, .ref h0), (1, .ref a1), (2, .ref a2), (3, .ref a3)]) hx hb dX6_init_57 hl (k := 0) rfl (by decide) (by decide) rfl (fun ls hl => ?_)
  refine lv_goto (tgt := 34) hx hb dX6_init_60 (by decide) ?_
  refine lv_iload hx hb dX6_init_34 (lv_at hl 0 rfl) ?_
  refine lv_iconst (v := (4 : Int32)) hx hb dX6_init_36 (by decide) ?_
  refine lv_icmp_gt (tgt := 63) hx hb dX6_init_37 (by decide) (fun c9 => absurd c9 (by decide)) (fun _ => ?_)
  refine lv_aload_n hx hb dX6_init_40 rfl (lv_at hl 1 rfl) ?_
  refine va_get (D := D) (ci := 6) (v := .ref q0) (C := RX6) (T := TX6) (N := 6) hx hb hts (fun w h => tb (iX6 w h)) hown hK hP 0 rfl rfl 1 (by decide) (hts _ (tb mw358)) (fun _ h9 => h9) rfl dX6_init_41 ?_
  refine lv_iload hx hb dX6_init_44 (lv_at hl 0 rfl) ?_
  refine va_new (ci := 3) (fs := [.null, .null, .null, .null, .null]) (C := RX3) (T := TX3) (N := 5) hx hb hts (fun w h => tb (iX3 w h)) tyX3 tyX3_ok hown (hts _ (tb mw354)) (hts _ (tb mw268)) (hts _ (tb mw9)) hK hP hD hS hA rfl (by decide +kernel) (Nat.le_trans (by decide) hRc) (Nat.le_trans (by decide) hRs) dX6_init_46 (fun q4 H hP hD hS => ?_)
  have hP : va_P D clsX [(h0, .inr (6, [.ref a1, .ref q0, .ref q1, .ref q2, .int 0, .int 0])), (q0, .inl (cy 4, 5, .inr (.inr (.inr (.inr (va_up (fun _ => none) (0 : Int32).toNatClampNeg (some q3))))))), (q1, .inl (cy 0, 4, .inl (fun _ => 0))), (q2, .inl (cy 0, 4, .inl (fun _ => 0))), (q3, .inr (3, oX3 (rtP a1 a2 a3 u53_4))), ((u53_4 3), .inl (cy 0, 29, .inl (fun _ => 0))), ((u53_4 4), .inl (cy 0, 4, .inl (fun _ => 0))), (q4, .inr (3, [.null, .null, .null, .null, .null]))] H := hP
  have hD : va_D A [(h0, .inr (6, [.ref a1, .ref q0, .ref q1, .ref q2, .int 0, .int 0])), (q0, .inl (cy 4, 5, .inr (.inr (.inr (.inr (va_up (fun _ => none) (0 : Int32).toNatClampNeg (some q3))))))), (q1, .inl (cy 0, 4, .inl (fun _ => 0))), (q2, .inl (cy 0, 4, .inl (fun _ => 0))), (q3, .inr (3, oX3 (rtP a1 a2 a3 u53_4))), ((u53_4 3), .inl (cy 0, 29, .inl (fun _ => 0))), ((u53_4 4), .inl (cy 0, 4, .inl (fun _ => 0))), (q4, .inr (3, [.null, .null, .null, .null, .null]))] := hD
  refine lv_dup hx hb dX6_init_49 rfl ?_
  refine lv_aload_n hx hb dX6_init_50 rfl (lv_at hl 2 rfl) ?_
  refine lv_aload_n hx hb dX6_init_51 rfl (lv_at hl 3 rfl) ?_
  refine lv_aload_n hx hb dX6_init_52 rfl (lv_at hl 4 rfl) ?_
  refine clIv (As := [.ref a1, .ref a2, .ref a3]) (rest := [.ref q4, .int (1 : Int32), .ref q0]) (Wr := [(h0, .inr (6, [.ref a1, .ref q0, .ref q1, .ref q2, .int 0, .int 0])), (q0, .inl (cy 4, 5, .inr (.inr (.inr (.inr (va_up (fun _ => none) (0 : Int32).toNatClampNeg (some q3))))))), (q1, .inl (cy 0, 4, .inl (fun _ => 0))), (q2, .inl (cy 0, 4, .inl (fun _ => 0))), (q3, .inr (3, oX3 (rtP a1 a2 a3 u53_4))), ((u53_4 3), .inl (cy 0, 29, .inl (fun _ => 0))), ((u53_4 4), .inl (cy 0, 4, .inl (fun _ => 0)))]) ⟨hx, hb, hml, hown, hts⟩ ⟨callB_of 3 hts (goodC mw271) rfl rfl rfl (hts _ (tb mw9)) (hts _ (tb mw356)) kdX3_init ⟨Nat.le_trans (by decide) hRf, Nat.le_trans (by decide) hRl⟩, rfl, hts _ (tb mw270)⟩ (ctX3_init l D cy ev q4 a1 a2 a3 _) hE hK hP hD hS hA [7] [0, 1, 2, 3, 4, 5, 6] rfl rfl (by decide) (by decide) (by decide) rfl hl.1 rfl (Nat.le_of_ble_eq_true rfl) ⟨(Nat.le_trans (by decide) hRc), (Nat.le_trans (by decide) hRs)⟩ dX6_init_53 (fun u53_5 H locs h hP hD hS => ?_)
  have hP : va_P D clsX [(h0, .inr (6, [.ref a1, .ref q0, .ref q1, .ref q2, .int 0, .int 0])), (q0, .inl (cy 4, 5, .inr (.inr (.inr (.inr (va_up (fun _ => none) (0 : Int32).toNatClampNeg (some q3))))))), (q1, .inl (cy 0, 4, .inl (fun _ => 0))), (q2, .inl (cy 0, 4, .inl (fun _ => 0))), (q3, .inr (3, oX3 (rtP a1 a2 a3 u53_4))), ((u53_4 3), .inl (cy 0, 29, .inl (fun _ => 0))), ((u53_4 4), .inl (cy 0, 4, .inl (fun _ => 0))), (q4, .inr (3, oX3 (rtP a1 a2 a3 u53_5))), ((u53_5 3), .inl (cy 0, 29, .inl (fun _ => 0))), ((u53_5 4), .inl (cy 0, 4, .inl (fun _ => 0)))] H := hP
  have hD : va_D A [(h0, .inr (6, [.ref a1, .ref q0, .ref q1, .ref q2, .int 0, .int 0])), (q0, .inl (cy 4, 5, .inr (.inr (.inr (.inr (va_up (fun _ => none) (0 : Int32).toNatClampNeg (some q3))))))), (q1, .inl (cy 0, 4, .inl (fun _ => 0))), (q2, .inl (cy 0, 4, .inl (fun _ => 0))), (q3, .inr (3, oX3 (rtP a1 a2 a3 u53_4))), ((u53_4 3), .inl (cy 0, 29, .inl (fun _ => 0))), ((u53_4 4), .inl (cy 0, 4, .inl (fun _ => 0))), (q4, .inr (3, oX3 (rtP a1 a2 a3 u53_5))), ((u53_5 3), .inl (cy 0, 29, .inl (fun _ => 0))), ((u53_5 4), .inl (cy 0, 4, .inl (fun _ => 0)))] := hD
  refine va_astq (r := (RX3, TX3, 5)) hx hb hK hP hD hS 1 4 7 3 rfl rfl rfl rfl (inL (by decide)) dX6_init_56 (fun H locs hP hD hS => ?_)
  have hP : va_P D clsX [(h0, .inr (6, [.ref a1, .ref q0, .ref q1, .ref q2, .int 0, .int 0])), (q0, .inl (cy 4, 5, .inr (.inr (.inr (.inr (va_up (va_up (fun _ => none) (0 : Int32).toNatClampNeg (some q3)) (1 : Int32).toNatClampNeg (some q4))))))), (q1, .inl (cy 0, 4, .inl (fun _ => 0))), (q2, .inl (cy 0, 4, .inl (fun _ => 0))), (q3, .inr (3, oX3 (rtP a1 a2 a3 u53_4))), ((u53_4 3), .inl (cy 0, 29, .inl (fun _ => 0))), ((u53_4 4), .inl (cy 0, 4, .inl (fun _ => 0))), (q4, .inr (3, oX3 (rtP a1 a2 a3 u53_5))), ((u53_5 3), .inl (cy 0, 29, .inl (fun _ => 0))), ((u53_5 4), .inl (cy 0, 4, .inl (fun _ => 0)))] H := hP
  have hD : va_D A [(h0, .inr (6, [.ref a1, .ref q0, .ref q1, .ref q2, .int 0, .int 0])), (q0, .inl (cy 4, 5, .inr (.inr (.inr (.inr (va_up (va_up (fun _ => none) (0 : Int32).toNatClampNeg (some q3)) (1 : Int32).toNatClampNeg (some q4))))))), (q1, .inl (cy 0, 4, .inl (fun _ => 0))), (q2, .inl (cy 0, 4, .inl (fun _ => 0))), (q3, .inr (3, oX3 (rtP a1 a2 a3 u53_4))), ((u53_4 3), .inl (cy 0, 29, .inl (fun _ => 0))), ((u53_4 4), .inl (cy 0, 4, .inl (fun _ => 0))), (q4, .inr (3, oX3 (rtP a1 a2 a3 u53_5))), ((u53_5 3), .inl (cy 0, 29, .inl (fun _ => 0))), ((u53_5 4), .inl (cy 0, 4, .inl (fun _ => 0)))] := hD
  refine lv_iinc (v := (2 : Int32)) (lv' := [(4, .int (2 : Int32)), (0, .ref h0), (1, .ref a1), (2, .ref a2), (3, .ref a3)]) hx hb dX6_init_57 hl (k := 0) rfl (by decide) (by decide) rfl (fun ls hl => ?_)
  refine lv_goto (tgt := 34) hx hb dX6_init_60 (by decide) ?_
  refine lv_iload hx hb dX6_init_34 (lv_at hl 0 rfl) ?_
  refine lv_iconst (v := (4 : Int32)) hx hb dX6_init_36 (by decide) ?_
  refine lv_icmp_gt (tgt := 63) hx hb dX6_init_37 (by decide) (fun c9 => absurd c9 (by decide)) (fun _ => ?_)
  refine lv_aload_n hx hb dX6_init_40 rfl (lv_at hl 1 rfl) ?_
  refine va_get (D := D) (ci := 6) (v := .ref q0) (C := RX6) (T := TX6) (N := 6) hx hb hts (fun w h => tb (iX6 w h)) hown hK hP 0 rfl rfl 1 (by decide) (hts _ (tb mw358)) (fun _ h9 => h9) rfl dX6_init_41 ?_
  refine lv_iload hx hb dX6_init_44 (lv_at hl 0 rfl) ?_
  refine va_new (ci := 3) (fs := [.null, .null, .null, .null, .null]) (C := RX3) (T := TX3) (N := 5) hx hb hts (fun w h => tb (iX3 w h)) tyX3 tyX3_ok hown (hts _ (tb mw354)) (hts _ (tb mw268)) (hts _ (tb mw9)) hK hP hD hS hA rfl (by decide +kernel) (Nat.le_trans (by decide) hRc) (Nat.le_trans (by decide) hRs) dX6_init_46 (fun q5 H hP hD hS => ?_)
  have hP : va_P D clsX [(h0, .inr (6, [.ref a1, .ref q0, .ref q1, .ref q2, .int 0, .int 0])), (q0, .inl (cy 4, 5, .inr (.inr (.inr (.inr (va_up (va_up (fun _ => none) (0 : Int32).toNatClampNeg (some q3)) (1 : Int32).toNatClampNeg (some q4))))))), (q1, .inl (cy 0, 4, .inl (fun _ => 0))), (q2, .inl (cy 0, 4, .inl (fun _ => 0))), (q3, .inr (3, oX3 (rtP a1 a2 a3 u53_4))), ((u53_4 3), .inl (cy 0, 29, .inl (fun _ => 0))), ((u53_4 4), .inl (cy 0, 4, .inl (fun _ => 0))), (q4, .inr (3, oX3 (rtP a1 a2 a3 u53_5))), ((u53_5 3), .inl (cy 0, 29, .inl (fun _ => 0))), ((u53_5 4), .inl (cy 0, 4, .inl (fun _ => 0))), (q5, .inr (3, [.null, .null, .null, .null, .null]))] H := hP
  have hD : va_D A [(h0, .inr (6, [.ref a1, .ref q0, .ref q1, .ref q2, .int 0, .int 0])), (q0, .inl (cy 4, 5, .inr (.inr (.inr (.inr (va_up (va_up (fun _ => none) (0 : Int32).toNatClampNeg (some q3)) (1 : Int32).toNatClampNeg (some q4))))))), (q1, .inl (cy 0, 4, .inl (fun _ => 0))), (q2, .inl (cy 0, 4, .inl (fun _ => 0))), (q3, .inr (3, oX3 (rtP a1 a2 a3 u53_4))), ((u53_4 3), .inl (cy 0, 29, .inl (fun _ => 0))), ((u53_4 4), .inl (cy 0, 4, .inl (fun _ => 0))), (q4, .inr (3, oX3 (rtP a1 a2 a3 u53_5))), ((u53_5 3), .inl (cy 0, 29, .inl (fun _ => 0))), ((u53_5 4), .inl (cy 0, 4, .inl (fun _ => 0))), (q5, .inr (3, [.null, .null, .null, .null, .null]))] := hD
  refine lv_dup hx hb dX6_init_49 rfl ?_
  refine lv_aload_n hx hb dX6_init_50 rfl (lv_at hl 2 rfl) ?_
  refine lv_aload_n hx hb dX6_init_51 rfl (lv_at hl 3 rfl) ?_
  refine lv_aload_n hx hb dX6_init_52 rfl (lv_at hl 4 rfl) ?_
  refine clIv (As := [.ref a1, .ref a2, .ref a3]) (rest := [.ref q5, .int (2 : Int32), .ref q0]) (Wr := [(h0, .inr (6, [.ref a1, .ref q0, .ref q1, .ref q2, .int 0, .int 0])), (q0, .inl (cy 4, 5, .inr (.inr (.inr (.inr (va_up (va_up (fun _ => none) (0 : Int32).toNatClampNeg (some q3)) (1 : Int32).toNatClampNeg (some q4))))))), (q1, .inl (cy 0, 4, .inl (fun _ => 0))), (q2, .inl (cy 0, 4, .inl (fun _ => 0))), (q3, .inr (3, oX3 (rtP a1 a2 a3 u53_4))), ((u53_4 3), .inl (cy 0, 29, .inl (fun _ => 0))), ((u53_4 4), .inl (cy 0, 4, .inl (fun _ => 0))), (q4, .inr (3, oX3 (rtP a1 a2 a3 u53_5))), ((u53_5 3), .inl (cy 0, 29, .inl (fun _ => 0))), ((u53_5 4), .inl (cy 0, 4, .inl (fun _ => 0)))]) ⟨hx, hb, hml, hown, hts⟩ ⟨callB_of 3 hts (goodC mw271) rfl rfl rfl (hts _ (tb mw9)) (hts _ (tb mw356)) kdX3_init ⟨Nat.le_trans (by decide) hRf, Nat.le_trans (by decide) hRl⟩, rfl, hts _ (tb mw270)⟩ (ctX3_init l D cy ev q5 a1 a2 a3 _) hE hK hP hD hS hA [10] [0, 1, 2, 3, 4, 5, 6, 7, 8, 9] rfl rfl (by decide) (by decide) (by decide) rfl hl.1 rfl (Nat.le_of_ble_eq_true rfl) ⟨(Nat.le_trans (by decide) hRc), (Nat.le_trans (by decide) hRs)⟩ dX6_init_53 (fun u53_6 H locs h hP hD hS => ?_)
  have hP : va_P D clsX [(h0, .inr (6, [.ref a1, .ref q0, .ref q1, .ref q2, .int 0, .int 0])), (q0, .inl (cy 4, 5, .inr (.inr (.inr (.inr (va_up (va_up (fun _ => none) (0 : Int32).toNatClampNeg (some q3)) (1 : Int32).toNatClampNeg (some q4))))))), (q1, .inl (cy 0, 4, .inl (fun _ => 0))), (q2, .inl (cy 0, 4, .inl (fun _ => 0))), (q3, .inr (3, oX3 (rtP a1 a2 a3 u53_4))), ((u53_4 3), .inl (cy 0, 29, .inl (fun _ => 0))), ((u53_4 4), .inl (cy 0, 4, .inl (fun _ => 0))), (q4, .inr (3, oX3 (rtP a1 a2 a3 u53_5))), ((u53_5 3), .inl (cy 0, 29, .inl (fun _ => 0))), ((u53_5 4), .inl (cy 0, 4, .inl (fun _ => 0))), (q5, .inr (3, oX3 (rtP a1 a2 a3 u53_6))), ((u53_6 3), .inl (cy 0, 29, .inl (fun _ => 0))), ((u53_6 4), .inl (cy 0, 4, .inl (fun _ => 0)))] H := hP
  have hD : va_D A [(h0, .inr (6, [.ref a1, .ref q0, .ref q1, .ref q2, .int 0, .int 0])), (q0, .inl (cy 4, 5, .inr (.inr (.inr (.inr (va_up (va_up (fun _ => none) (0 : Int32).toNatClampNeg (some q3)) (1 : Int32).toNatClampNeg (some q4))))))), (q1, .inl (cy 0, 4, .inl (fun _ => 0))), (q2, .inl (cy 0, 4, .inl (fun _ => 0))), (q3, .inr (3, oX3 (rtP a1 a2 a3 u53_4))), ((u53_4 3), .inl (cy 0, 29, .inl (fun _ => 0))), ((u53_4 4), .inl (cy 0, 4, .inl (fun _ => 0))), (q4, .inr (3, oX3 (rtP a1 a2 a3 u53_5))), ((u53_5 3), .inl (cy 0, 29, .inl (fun _ => 0))), ((u53_5 4), .inl (cy 0, 4, .inl (fun _ => 0))), (q5, .inr (3, oX3 (rtP a1 a2 a3 u53_6))), ((u53_6 3), .inl (cy 0, 29, .inl (fun _ => 0))), ((u53_6 4), .inl (cy 0, 4, .inl (fun _ => 0)))] := hD
  refine va_astq (r := (RX3, TX3, 5)) hx hb hK hP hD hS 1 4 10 3 rfl rfl rfl rfl (inL (by decide)) dX6_init_56 (fun H locs hP hD hS => ?_)
  have hP : va_P D clsX [(h0, .inr (6, [.ref a1, .ref q0, .ref q1, .ref q2, .int 0, .int 0])), (q0, .inl (cy 4, 5, .inr (.inr (.inr (.inr (va_up (va_up (va_up (fun _ => none) (0 : Int32).toNatClampNeg (some q3)) (1 : Int32).toNatClampNeg (some q4)) (2 : Int32).toNatClampNeg (some q5))))))), (q1, .inl (cy 0, 4, .inl (fun _ => 0))), (q2, .inl (cy 0, 4, .inl (fun _ => 0))), (q3, .inr (3, oX3 (rtP a1 a2 a3 u53_4))), ((u53_4 3), .inl (cy 0, 29, .inl (fun _ => 0))), ((u53_4 4), .inl (cy 0, 4, .inl (fun _ => 0))), (q4, .inr (3, oX3 (rtP a1 a2 a3 u53_5))), ((u53_5 3), .inl (cy 0, 29, .inl (fun _ => 0))), ((u53_5 4), .inl (cy 0, 4, .inl (fun _ => 0))), (q5, .inr (3, oX3 (rtP a1 a2 a3 u53_6))), ((u53_6 3), .inl (cy 0, 29, .inl (fun _ => 0))), ((u53_6 4), .inl (cy 0, 4, .inl (fun _ => 0)))] H := hP
  have hD : va_D A [(h0, .inr (6, [.ref a1, .ref q0, .ref q1, .ref q2, .int 0, .int 0])), (q0, .inl (cy 4, 5, .inr (.inr (.inr (.inr (va_up (va_up (va_up (fun _ => none) (0 : Int32).toNatClampNeg (some q3)) (1 : Int32).toNatClampNeg (some q4)) (2 : Int32).toNatClampNeg (some q5))))))), (q1, .inl (cy 0, 4, .inl (fun _ => 0))), (q2, .inl (cy 0, 4, .inl (fun _ => 0))), (q3, .inr (3, oX3 (rtP a1 a2 a3 u53_4))), ((u53_4 3), .inl (cy 0, 29, .inl (fun _ => 0))), ((u53_4 4), .inl (cy 0, 4, .inl (fun _ => 0))), (q4, .inr (3, oX3 (rtP a1 a2 a3 u53_5))), ((u53_5 3), .inl (cy 0, 29, .inl (fun _ => 0))), ((u53_5 4), .inl (cy 0, 4, .inl (fun _ => 0))), (q5, .inr (3, oX3 (rtP a1 a2 a3 u53_6))), ((u53_6 3), .inl (cy 0, 29, .inl (fun _ => 0))), ((u53_6 4), .inl (cy 0, 4, .inl (fun _ => 0)))] := hD
  refine lv_iinc (v := (3 : Int32)) (lv' := [(4, .int (3 : Int32)), (0, .ref h0), (1, .ref a1), (2, .ref a2), (3, .ref a3)]) hx hb dX6_init_57 hl (k := 0) rfl (by decide) (by decide) rfl (fun ls hl => ?_)
  refine lv_goto (tgt := 34) hx hb dX6_init_60 (by decide) ?_
  refine lv_iload hx hb dX6_init_34 (lv_at hl 0 rfl) ?_
  refine lv_iconst (v := (4 : Int32)) hx hb dX6_init_36 (by decide) ?_
  refine lv_icmp_gt (tgt := 63) hx hb dX6_init_37 (by decide) (fun c9 => absurd c9 (by decide)) (fun _ => ?_)
  refine lv_aload_n hx hb dX6_init_40 rfl (lv_at hl 1 rfl) ?_
  refine va_get (D := D) (ci := 6) (v := .ref q0) (C := RX6) (T := TX6) (N := 6) hx hb hts (fun w h => tb (iX6 w h)) hown hK hP 0 rfl rfl 1 (by decide) (hts _ (tb mw358)) (fun _ h9 => h9) rfl dX6_init_41 ?_
  refine lv_iload hx hb dX6_init_44 (lv_at hl 0 rfl) ?_
  refine va_new (ci := 3) (fs := [.null, .null, .null, .null, .null]) (C := RX3) (T := TX3) (N := 5) hx hb hts (fun w h => tb (iX3 w h)) tyX3 tyX3_ok hown (hts _ (tb mw354)) (hts _ (tb mw268)) (hts _ (tb mw9)) hK hP hD hS hA rfl (by decide +kernel) (Nat.le_trans (by decide) hRc) (Nat.le_trans (by decide) hRs) dX6_init_46 (fun q6 H hP hD hS => ?_)
  have hP : va_P D clsX [(h0, .inr (6, [.ref a1, .ref q0, .ref q1, .ref q2, .int 0, .int 0])), (q0, .inl (cy 4, 5, .inr (.inr (.inr (.inr (va_up (va_up (va_up (fun _ => none) (0 : Int32).toNatClampNeg (some q3)) (1 : Int32).toNatClampNeg (some q4)) (2 : Int32).toNatClampNeg (some q5))))))), (q1, .inl (cy 0, 4, .inl (fun _ => 0))), (q2, .inl (cy 0, 4, .inl (fun _ => 0))), (q3, .inr (3, oX3 (rtP a1 a2 a3 u53_4))), ((u53_4 3), .inl (cy 0, 29, .inl (fun _ => 0))), ((u53_4 4), .inl (cy 0, 4, .inl (fun _ => 0))), (q4, .inr (3, oX3 (rtP a1 a2 a3 u53_5))), ((u53_5 3), .inl (cy 0, 29, .inl (fun _ => 0))), ((u53_5 4), .inl (cy 0, 4, .inl (fun _ => 0))), (q5, .inr (3, oX3 (rtP a1 a2 a3 u53_6))), ((u53_6 3), .inl (cy 0, 29, .inl (fun _ => 0))), ((u53_6 4), .inl (cy 0, 4, .inl (fun _ => 0))), (q6, .inr (3, [.null, .null, .null, .null, .null]))] H := hP
  have hD : va_D A [(h0, .inr (6, [.ref a1, .ref q0, .ref q1, .ref q2, .int 0, .int 0])), (q0, .inl (cy 4, 5, .inr (.inr (.inr (.inr (va_up (va_up (va_up (fun _ => none) (0 : Int32).toNatClampNeg (some q3)) (1 : Int32).toNatClampNeg (some q4)) (2 : Int32).toNatClampNeg (some q5))))))), (q1, .inl (cy 0, 4, .inl (fun _ => 0))), (q2, .inl (cy 0, 4, .inl (fun _ => 0))), (q3, .inr (3, oX3 (rtP a1 a2 a3 u53_4))), ((u53_4 3), .inl (cy 0, 29, .inl (fun _ => 0))), ((u53_4 4), .inl (cy 0, 4, .inl (fun _ => 0))), (q4, .inr (3, oX3 (rtP a1 a2 a3 u53_5))), ((u53_5 3), .inl (cy 0, 29, .inl (fun _ => 0))), ((u53_5 4), .inl (cy 0, 4, .inl (fun _ => 0))), (q5, .inr (3, oX3 (rtP a1 a2 a3 u53_6))), ((u53_6 3), .inl (cy 0, 29, .inl (fun _ => 0))), ((u53_6 4), .inl (cy 0, 4, .inl (fun _ => 0))), (q6, .inr (3, [.null, .null, .null, .null, .null]))] := hD
  refine lv_dup hx hb dX6_init_49 rfl ?_
  refine lv_aload_n hx hb dX6_init_50 rfl (lv_at hl 2 rfl) ?_
  refine lv_aload_n hx hb dX6_init_51 rfl (lv_at hl 3 rfl) ?_
  refine lv_aload_n hx hb dX6_init_52 rfl (lv_at hl 4 rfl) ?_
  refine clIv (As := [.ref a1, .ref a2, .ref a3]) (rest := [.ref q6, .int (3 : Int32), .ref q0]) (Wr := [(h0, .inr (6, [.ref a1, .ref q0, .ref q1, .ref q2, .int 0, .int 0])), (q0, .inl (cy 4, 5, .inr (.inr (.inr (.inr (va_up (va_up (va_up (fun _ => none) (0 : Int32).toNatClampNeg (some q3)) (1 : Int32).toNatClampNeg (some q4)) (2 : Int32).toNatClampNeg (some q5))))))), (q1, .inl (cy 0, 4, .inl (fun _ => 0))), (q2, .inl (cy 0, 4, .inl (fun _ => 0))), (q3, .inr (3, oX3 (rtP a1 a2 a3 u53_4))), ((u53_4 3), .inl (cy 0, 29, .inl (fun _ => 0))), ((u53_4 4), .inl (cy 0, 4, .inl (fun _ => 0))), (q4, .inr (3, oX3 (rtP a1 a2 a3 u53_5))), ((u53_5 3), .inl (cy 0, 29, .inl (fun _ => 0))), ((u53_5 4), .inl (cy 0, 4, .inl (fun _ => 0))), (q5, .inr (3, oX3 (rtP a1 a2 a3 u53_6))), ((u53_6 3), .inl (cy 0, 29, .inl (fun _ => 0))), ((u53_6 4), .inl (cy 0, 4, .inl (fun _ => 0)))]) ⟨hx, hb, hml, hown, hts⟩ ⟨callB_of 3 hts (goodC mw271) rfl rfl rfl (hts _ (tb mw9)) (hts _ (tb mw356)) kdX3_init ⟨Nat.le_trans (by decide) hRf, Nat.le_trans (by decide) hRl⟩, rfl, hts _ (tb mw270)⟩ (ctX3_init l D cy ev q6 a1 a2 a3 _) hE hK hP hD hS hA [13] [0, 1, 2, 3, 4, 5, 6, 7, 8, 9, 10, 11, 12] rfl rfl (by decide) (by decide) (by decide) rfl hl.1 rfl (Nat.le_of_ble_eq_true rfl) ⟨(Nat.le_trans (by decide) hRc), (Nat.le_trans (by decide) hRs)⟩ dX6_init_53 (fun u53_7 H locs h hP hD hS => ?_)
  have hP : va_P D clsX [(h0, .inr (6, [.ref a1, .ref q0, .ref q1, .ref q2, .int 0, .int 0])), (q0, .inl (cy 4, 5, .inr (.inr (.inr (.inr (va_up (va_up (va_up (fun _ => none) (0 : Int32).toNatClampNeg (some q3)) (1 : Int32).toNatClampNeg (some q4)) (2 : Int32).toNatClampNeg (some q5))))))), (q1, .inl (cy 0, 4, .inl (fun _ => 0))), (q2, .inl (cy 0, 4, .inl (fun _ => 0))), (q3, .inr (3, oX3 (rtP a1 a2 a3 u53_4))), ((u53_4 3), .inl (cy 0, 29, .inl (fun _ => 0))), ((u53_4 4), .inl (cy 0, 4, .inl (fun _ => 0))), (q4, .inr (3, oX3 (rtP a1 a2 a3 u53_5))), ((u53_5 3), .inl (cy 0, 29, .inl (fun _ => 0))), ((u53_5 4), .inl (cy 0, 4, .inl (fun _ => 0))), (q5, .inr (3, oX3 (rtP a1 a2 a3 u53_6))), ((u53_6 3), .inl (cy 0, 29, .inl (fun _ => 0))), ((u53_6 4), .inl (cy 0, 4, .inl (fun _ => 0))), (q6, .inr (3, oX3 (rtP a1 a2 a3 u53_7))), ((u53_7 3), .inl (cy 0, 29, .inl (fun _ => 0))), ((u53_7 4), .inl (cy 0, 4, .inl (fun _ => 0)))] H := hP
  have hD : va_D A [(h0, .inr (6, [.ref a1, .ref q0, .ref q1, .ref q2, .int 0, .int 0])), (q0, .inl (cy 4, 5, .inr (.inr (.inr (.inr (va_up (va_up (va_up (fun _ => none) (0 : Int32).toNatClampNeg (some q3)) (1 : Int32).toNatClampNeg (some q4)) (2 : Int32).toNatClampNeg (some q5))))))), (q1, .inl (cy 0, 4, .inl (fun _ => 0))), (q2, .inl (cy 0, 4, .inl (fun _ => 0))), (q3, .inr (3, oX3 (rtP a1 a2 a3 u53_4))), ((u53_4 3), .inl (cy 0, 29, .inl (fun _ => 0))), ((u53_4 4), .inl (cy 0, 4, .inl (fun _ => 0))), (q4, .inr (3, oX3 (rtP a1 a2 a3 u53_5))), ((u53_5 3), .inl (cy 0, 29, .inl (fun _ => 0))), ((u53_5 4), .inl (cy 0, 4, .inl (fun _ => 0))), (q5, .inr (3, oX3 (rtP a1 a2 a3 u53_6))), ((u53_6 3), .inl (cy 0, 29, .inl (fun _ => 0))), ((u53_6 4), .inl (cy 0, 4, .inl (fun _ => 0))), (q6, .inr (3, oX3 (rtP a1 a2 a3 u53_7))), ((u53_7 3), .inl (cy 0, 29, .inl (fun _ => 0))), ((u53_7 4), .inl (cy 0, 4, .inl (fun _ => 0)))] := hD
  refine va_astq (r := (RX3, TX3, 5)) hx hb hK hP hD hS 1 4 13 3 rfl rfl rfl rfl (inL (by decide)) dX6_init_56 (fun H locs hP hD hS => ?_)
  have hP : va_P D clsX [(h0, .inr (6, [.ref a1, .ref q0, .ref q1, .ref q2, .int 0, .int 0])), (q0, .inl (cy 4, 5, .inr (.inr (.inr (.inr (va_up (va_up (va_up (va_up (fun _ => none) (0 : Int32).toNatClampNeg (some q3)) (1 : Int32).toNatClampNeg (some q4)) (2 : Int32).toNatClampNeg (some q5)) (3 : Int32).toNatClampNeg (some q6))))))), (q1, .inl (cy 0, 4, .inl (fun _ => 0))), (q2, .inl (cy 0, 4, .inl (fun _ => 0))), (q3, .inr (3, oX3 (rtP a1 a2 a3 u53_4))), ((u53_4 3), .inl (cy 0, 29, .inl (fun _ => 0))), ((u53_4 4), .inl (cy 0, 4, .inl (fun _ => 0))), (q4, .inr (3, oX3 (rtP a1 a2 a3 u53_5))), ((u53_5 3), .inl (cy 0, 29, .inl (fun _ => 0))), ((u53_5 4), .inl (cy 0, 4, .inl (fun _ => 0))), (q5, .inr (3, oX3 (rtP a1 a2 a3 u53_6))), ((u53_6 3), .inl (cy 0, 29, .inl (fun _ => 0))), ((u53_6 4), .inl (cy 0, 4, .inl (fun _ => 0))), (q6, .inr (3, oX3 (rtP a1 a2 a3 u53_7))), ((u53_7 3), .inl (cy 0, 29, .inl (fun _ => 0))), ((u53_7 4), .inl (cy 0, 4, .inl (fun _ => 0)))] H := hP
  have hD : va_D A [(h0, .inr (6, [.ref a1, .ref q0, .ref q1, .ref q2, .int 0, .int 0])), (q0, .inl (cy 4, 5, .inr (.inr (.inr (.inr (va_up (va_up (va_up (va_up (fun _ => none) (0 : Int32).toNatClampNeg (some q3)) (1 : Int32).toNatClampNeg (some q4)) (2 : Int32).toNatClampNeg (some q5)) (3 : Int32).toNatClampNeg (some q6))))))), (q1, .inl (cy 0, 4, .inl (fun _ => 0))), (q2, .inl (cy 0, 4, .inl (fun _ => 0))), (q3, .inr (3, oX3 (rtP a1 a2 a3 u53_4))), ((u53_4 3), .inl (cy 0, 29, .inl (fun _ => 0))), ((u53_4 4), .inl (cy 0, 4, .inl (fun _ => 0))), (q4, .inr (3, oX3 (rtP a1 a2 a3 u53_5))), ((u53_5 3), .inl (cy 0, 29, .inl (fun _ => 0))), ((u53_5 4), .inl (cy 0, 4, .inl (fun _ => 0))), (q5, .inr (3, oX3 (rtP a1 a2 a3 u53_6))), ((u53_6 3), .inl (cy 0, 29, .inl (fun _ => 0))), ((u53_6 4), .inl (cy 0, 4, .inl (fun _ => 0))), (q6, .inr (3, oX3 (rtP a1 a2 a3 u53_7))), ((u53_7 3), .inl (cy 0, 29, .inl (fun _ => 0))), ((u53_7 4), .inl (cy 0, 4, .inl (fun _ => 0)))] := hD
  refine lv_iinc (v := (4 : Int32)) (lv' := [(4, .int (4 : Int32)), (0, .ref h0), (1, .ref a1), (2, .ref a2), (3, .ref a3)]) hx hb dX6_init_57 hl (k := 0) rfl (by decide) (by decide) rfl (fun ls hl => ?_)
  refine lv_goto (tgt := 34) hx hb dX6_init_60 (by decide) ?_
  refine lv_iload hx hb dX6_init_34 (lv_at hl 0 rfl) ?_
  refine lv_iconst (v := (4 : Int32)) hx hb dX6_init_36 (by decide) ?_
  refine lv_icmp_gt (tgt := 63) hx hb dX6_init_37 (by decide) (fun c9 => absurd c9 (by decide)) (fun _ => ?_)
  refine lv_aload_n hx hb dX6_init_40 rfl (lv_at hl 1 rfl) ?_
  refine va_get (D := D) (ci := 6) (v := .ref q0) (C := RX6) (T := TX6) (N := 6) hx hb hts (fun w h => tb (iX6 w h)) hown hK hP 0 rfl rfl 1 (by decide) (hts _ (tb mw358)) (fun _ h9 => h9) rfl dX6_init_41 ?_
  refine lv_iload hx hb dX6_init_44 (lv_at hl 0 rfl) ?_
  refine va_new (ci := 3) (fs := [.null, .null, .null, .null, .null]) (C := RX3) (T := TX3) (N := 5) hx hb hts (fun w h => tb (iX3 w h)) tyX3 tyX3_ok hown (hts _ (tb mw354)) (hts _ (tb mw268)) (hts _ (tb mw9)) hK hP hD hS hA rfl (by decide +kernel) (Nat.le_trans (by decide) hRc) (Nat.le_trans (by decide) hRs) dX6_init_46 (fun q7 H hP hD hS => ?_)
  have hP : va_P D clsX [(h0, .inr (6, [.ref a1, .ref q0, .ref q1, .ref q2, .int 0, .int 0])), (q0, .inl (cy 4, 5, .inr (.inr (.inr (.inr (va_up (va_up (va_up (va_up (fun _ => none) (0 : Int32).toNatClampNeg (some q3)) (1 : Int32).toNatClampNeg (some q4)) (2 : Int32).toNatClampNeg (some q5)) (3 : Int32).toNatClampNeg (some q6))))))), (q1, .inl (cy 0, 4, .inl (fun _ => 0))), (q2, .inl (cy 0, 4, .inl (fun _ => 0))), (q3, .inr (3, oX3 (rtP a1 a2 a3 u53_4))), ((u53_4 3), .inl (cy 0, 29, .inl (fun _ => 0))), ((u53_4 4), .inl (cy 0, 4, .inl (fun _ => 0))), (q4, .inr (3, oX3 (rtP a1 a2 a3 u53_5))), ((u53_5 3), .inl (cy 0, 29, .inl (fun _ => 0))), ((u53_5 4), .inl (cy 0, 4, .inl (fun _ => 0))), (q5, .inr (3, oX3 (rtP a1 a2 a3 u53_6))), ((u53_6 3), .inl (cy 0, 29, .inl (fun _ => 0))), ((u53_6 4), .inl (cy 0, 4, .inl (fun _ => 0))), (q6, .inr (3, oX3 (rtP a1 a2 a3 u53_7))), ((u53_7 3), .inl (cy 0, 29, .inl (fun _ => 0))), ((u53_7 4), .inl (cy 0, 4, .inl (fun _ => 0))), (q7, .inr (3, [.null, .null, .null, .null, .null]))] H := hP
  have hD : va_D A [(h0, .inr (6, [.ref a1, .ref q0, .ref q1, .ref q2, .int 0, .int 0])), (q0, .inl (cy 4, 5, .inr (.inr (.inr (.inr (va_up (va_up (va_up (va_up (fun _ => none) (0 : Int32).toNatClampNeg (some q3)) (1 : Int32).toNatClampNeg (some q4)) (2 : Int32).toNatClampNeg (some q5)) (3 : Int32).toNatClampNeg (some q6))))))), (q1, .inl (cy 0, 4, .inl (fun _ => 0))), (q2, .inl (cy 0, 4, .inl (fun _ => 0))), (q3, .inr (3, oX3 (rtP a1 a2 a3 u53_4))), ((u53_4 3), .inl (cy 0, 29, .inl (fun _ => 0))), ((u53_4 4), .inl (cy 0, 4, .inl (fun _ => 0))), (q4, .inr (3, oX3 (rtP a1 a2 a3 u53_5))), ((u53_5 3), .inl (cy 0, 29, .inl (fun _ => 0))), ((u53_5 4), .inl (cy 0, 4, .inl (fun _ => 0))), (q5, .inr (3, oX3 (rtP a1 a2 a3 u53_6))), ((u53_6 3), .inl (cy 0, 29, .inl (fun _ => 0))), ((u53_6 4), .inl (cy 0, 4, .inl (fun _ => 0))), (q6, .inr (3, oX3 (rtP a1 a2 a3 u53_7))), ((u53_7 3), .inl (cy 0, 29, .inl (fun _ => 0))), ((u53_7 4), .inl (cy 0, 4, .inl (fun _ => 0))), (q7, .inr (3, [.null, .null, .null, .null, .null]))] := hD
  refine lv_dup hx hb dX6_init_49 rfl ?_
  refine lv_aload_n hx hb dX6_init_50 rfl (lv_at hl 2 rfl) ?_
  refine lv_aload_n hx hb dX6_init_51 rfl (lv_at hl 3 rfl) ?_
  refine lv_aload_n hx hb dX6_init_52 rfl (lv_at hl 4 rfl) ?_
  refine clIv (As := [.ref a1, .ref a2, .ref a3]) (rest := [.ref q7, .int (4 : Int32), .ref q0]) (Wr := [(h0, .inr (6, [.ref a1, .ref q0, .ref q1, .ref q2, .int 0, .int 0])), (q0, .inl (cy 4, 5, .inr (.inr (.inr (.inr (va_up (va_up (va_up (va_up (fun _ => none) (0 : Int32).toNatClampNeg (some q3)) (1 : Int32).toNatClampNeg (some q4)) (2 : Int32).toNatClampNeg (some q5)) (3 : Int32).toNatClampNeg (some q6))))))), (q1, .inl (cy 0, 4, .inl (fun _ => 0))), (q2, .inl (cy 0, 4, .inl (fun _ => 0))), (q3, .inr (3, oX3 (rtP a1 a2 a3 u53_4))), ((u53_4 3), .inl (cy 0, 29, .inl (fun _ => 0))), ((u53_4 4), .inl (cy 0, 4, .inl (fun _ => 0))), (q4, .inr (3, oX3 (rtP a1 a2 a3 u53_5))), ((u53_5 3), .inl (cy 0, 29, .inl (fun _ => 0))), ((u53_5 4), .inl (cy 0, 4, .inl (fun _ => 0))), (q5, .inr (3, oX3 (rtP a1 a2 a3 u53_6))), ((u53_6 3), .inl (cy 0, 29, .inl (fun _ => 0))), ((u53_6 4), .inl (cy 0, 4, .inl (fun _ => 0))), (q6, .inr (3, oX3 (rtP a1 a2 a3 u53_7))), ((u53_7 3), .inl (cy 0, 29, .inl (fun _ => 0))), ((u53_7 4), .inl (cy 0, 4, .inl (fun _ => 0)))]) ⟨hx, hb, hml, hown, hts⟩ ⟨callB_of 3 hts (goodC mw271) rfl rfl rfl (hts _ (tb mw9)) (hts _ (tb mw356)) kdX3_init ⟨Nat.le_trans (by decide) hRf, Nat.le_trans (by decide) hRl⟩, rfl, hts _ (tb mw270)⟩ (ctX3_init l D cy ev q7 a1 a2 a3 _) hE hK hP hD hS hA [16] [0, 1, 2, 3, 4, 5, 6, 7, 8, 9, 10, 11, 12, 13, 14, 15] rfl rfl (by decide) (by decide) (by decide) rfl hl.1 rfl (Nat.le_of_ble_eq_true rfl) ⟨(Nat.le_trans (by decide) hRc), (Nat.le_trans (by decide) hRs)⟩ dX6_init_53 (fun u53_8 H locs h hP hD hS => ?_)
  have hP : va_P D clsX [(h0, .inr (6, [.ref a1, .ref q0, .ref q1, .ref q2, .int 0, .int 0])), (q0, .inl (cy 4, 5, .inr (.inr (.inr (.inr (va_up (va_up (va_up (va_up (fun _ => none) (0 : Int32).toNatClampNeg (some q3)) (1 : Int32).toNatClampNeg (some q4)) (2 : Int32).toNatClampNeg (some q5)) (3 : Int32).toNatClampNeg (some q6))))))), (q1, .inl (cy 0, 4, .inl (fun _ => 0))), (q2, .inl (cy 0, 4, .inl (fun _ => 0))), (q3, .inr (3, oX3 (rtP a1 a2 a3 u53_4))), ((u53_4 3), .inl (cy 0, 29, .inl (fun _ => 0))), ((u53_4 4), .inl (cy 0, 4, .inl (fun _ => 0))), (q4, .inr (3, oX3 (rtP a1 a2 a3 u53_5))), ((u53_5 3), .inl (cy 0, 29, .inl (fun _ => 0))), ((u53_5 4), .inl (cy 0, 4, .inl (fun _ => 0))), (q5, .inr (3, oX3 (rtP a1 a2 a3 u53_6))), ((u53_6 3), .inl (cy 0, 29, .inl (fun _ => 0))), ((u53_6 4), .inl (cy 0, 4, .inl (fun _ => 0))), (q6, .inr (3, oX3 (rtP a1 a2 a3 u53_7))), ((u53_7 3), .inl (cy 0, 29, .inl (fun _ => 0))), ((u53_7 4), .inl (cy 0, 4, .inl (fun _ => 0))), (q7, .inr (3, oX3 (rtP a1 a2 a3 u53_8))), ((u53_8 3), .inl (cy 0, 29, .inl (fun _ => 0))), ((u53_8 4), .inl (cy 0, 4, .inl (fun _ => 0)))] H := hP
  have hD : va_D A [(h0, .inr (6, [.ref a1, .ref q0, .ref q1, .ref q2, .int 0, .int 0])), (q0, .inl (cy 4, 5, .inr (.inr (.inr (.inr (va_up (va_up (va_up (va_up (fun _ => none) (0 : Int32).toNatClampNeg (some q3)) (1 : Int32).toNatClampNeg (some q4)) (2 : Int32).toNatClampNeg (some q5)) (3 : Int32).toNatClampNeg (some q6))))))), (q1, .inl (cy 0, 4, .inl (fun _ => 0))), (q2, .inl (cy 0, 4, .inl (fun _ => 0))), (q3, .inr (3, oX3 (rtP a1 a2 a3 u53_4))), ((u53_4 3), .inl (cy 0, 29, .inl (fun _ => 0))), ((u53_4 4), .inl (cy 0, 4, .inl (fun _ => 0))), (q4, .inr (3, oX3 (rtP a1 a2 a3 u53_5))), ((u53_5 3), .inl (cy 0, 29, .inl (fun _ => 0))), ((u53_5 4), .inl (cy 0, 4, .inl (fun _ => 0))), (q5, .inr (3, oX3 (rtP a1 a2 a3 u53_6))), ((u53_6 3), .inl (cy 0, 29, .inl (fun _ => 0))), ((u53_6 4), .inl (cy 0, 4, .inl (fun _ => 0))), (q6, .inr (3, oX3 (rtP a1 a2 a3 u53_7))), ((u53_7 3), .inl (cy 0, 29, .inl (fun _ => 0))), ((u53_7 4), .inl (cy 0, 4, .inl (fun _ => 0))), (q7, .inr (3, oX3 (rtP a1 a2 a3 u53_8))), ((u53_8 3), .inl (cy 0, 29, .inl (fun _ => 0))), ((u53_8 4), .inl (cy 0, 4, .inl (fun _ => 0)))] := hD
  refine va_astq (r := (RX3, TX3, 5)) hx hb hK hP hD hS 1 4 16 3 rfl rfl rfl rfl (inL (by decide)) dX6_init_56 (fun H locs hP hD hS => ?_)
  have hP : va_P D clsX [(h0, .inr (6, [.ref a1, .ref q0, .ref q1, .ref q2, .int 0, .int 0])), (q0, .inl (cy 4, 5, .inr (.inr (.inr (.inr (va_up (va_up (va_up (va_up (va_up (fun _ => none) (0 : Int32).toNatClampNeg (some q3)) (1 : Int32).toNatClampNeg (some q4)) (2 : Int32).toNatClampNeg (some q5)) (3 : Int32).toNatClampNeg (some q6)) (4 : Int32).toNatClampNeg (some q7))))))), (q1, .inl (cy 0, 4, .inl (fun _ => 0))), (q2, .inl (cy 0, 4, .inl (fun _ => 0))), (q3, .inr (3, oX3 (rtP a1 a2 a3 u53_4))), ((u53_4 3), .inl (cy 0, 29, .inl (fun _ => 0))), ((u53_4 4), .inl (cy 0, 4, .inl (fun _ => 0))), (q4, .inr (3, oX3 (rtP a1 a2 a3 u53_5))), ((u53_5 3), .inl (cy 0, 29, .inl (fun _ => 0))), ((u53_5 4), .inl (cy 0, 4, .inl (fun _ => 0))), (q5, .inr (3, oX3 (rtP a1 a2 a3 u53_6))), ((u53_6 3), .inl (cy 0, 29, .inl (fun _ => 0))), ((u53_6 4), .inl (cy 0, 4, .inl (fun _ => 0))), (q6, .inr (3, oX3 (rtP a1 a2 a3 u53_7))), ((u53_7 3), .inl (cy 0, 29, .inl (fun _ => 0))), ((u53_7 4), .inl (cy 0, 4, .inl (fun _ => 0))), (q7, .inr (3, oX3 (rtP a1 a2 a3 u53_8))), ((u53_8 3), .inl (cy 0, 29, .inl (fun _ => 0))), ((u53_8 4), .inl (cy 0, 4, .inl (fun _ => 0)))] H := hP
  have hD : va_D A [(h0, .inr (6, [.ref a1, .ref q0, .ref q1, .ref q2, .int 0, .int 0])), (q0, .inl (cy 4, 5, .inr (.inr (.inr (.inr (va_up (va_up (va_up (va_up (va_up (fun _ => none) (0 : Int32).toNatClampNeg (some q3)) (1 : Int32).toNatClampNeg (some q4)) (2 : Int32).toNatClampNeg (some q5)) (3 : Int32).toNatClampNeg (some q6)) (4 : Int32).toNatClampNeg (some q7))))))), (q1, .inl (cy 0, 4, .inl (fun _ => 0))), (q2, .inl (cy 0, 4, .inl (fun _ => 0))), (q3, .inr (3, oX3 (rtP a1 a2 a3 u53_4))), ((u53_4 3), .inl (cy 0, 29, .inl (fun _ => 0))), ((u53_4 4), .inl (cy 0, 4, .inl (fun _ => 0))), (q4, .inr (3, oX3 (rtP a1 a2 a3 u53_5))), ((u53_5 3), .inl (cy 0, 29, .inl (fun _ => 0))), ((u53_5 4), .inl (cy 0, 4, .inl (fun _ => 0))), (q5, .inr (3, oX3 (rtP a1 a2 a3 u53_6))), ((u53_6 3), .inl (cy 0, 29, .inl (fun _ => 0))), ((u53_6 4), .inl (cy 0, 4, .inl (fun _ => 0))), (q6, .inr (3, oX3 (rtP a1 a2 a3 u53_7))), ((u53_7 3), .inl (cy 0, 29, .inl (fun _ => 0))), ((u53_7 4), .inl (cy 0, 4, .inl (fun _ => 0))), (q7, .inr (3, oX3 (rtP a1 a2 a3 u53_8))), ((u53_8 3), .inl (cy 0, 29, .inl (fun _ => 0))), ((u53_8 4), .inl (cy 0, 4, .inl (fun _ => 0)))] := hD
  refine lv_iinc (v := (5 : Int32)) (lv' := [(4, .int (5 : Int32)), (0, .ref h0), (1, .ref a1), (2, .ref a2), (3, .ref a3)]) hx hb dX6_init_57 hl (k := 0) rfl (by decide) (by decide) rfl (fun ls hl => ?_)
  refine lv_goto (tgt := 34) hx hb dX6_init_60 (by decide) ?_
  refine lv_iload hx hb dX6_init_34 (lv_at hl 0 rfl) ?_
  refine lv_iconst (v := (4 : Int32)) hx hb dX6_init_36 (by decide) ?_
  refine lv_icmp_gt (tgt := 63) hx hb dX6_init_37 (by decide) (fun _ => ?_) (fun c9 => absurd c9 (by decide))
  refine W.widen (k := 18) (n := 203) (by decide) (by decide) ?_
  have hP := qset (g := fun i => some ((rl [q3, q4, q5, q6, q7]) i)) hP 1 rfl (fun i hi => by rcases (show i = 0 ∨ i = 1 ∨ i = 2 ∨ i = 3 ∨ i = 4 by omega) with rfl | rfl | rfl | rfl | rfl <;> rfl)
  have hD := va_D.set (e := .inl (cy 4, 5, .inr (.inr (.inr (.inr (fun i => some ((rl [q3, q4, q5, q6, q7]) i))))))) hD (p := 1) rfl
  have hP : va_P D clsX [(h0, .inr (6, [.ref a1, .ref q0, .ref q1, .ref q2, .int 0, .int 0])), (q0, .inl (cy 4, 5, .inr (.inr (.inr (.inr (fun i => some ((rl [q3, q4, q5, q6, q7]) i))))))), (q1, .inl (cy 0, 4, .inl (fun _ => 0))), (q2, .inl (cy 0, 4, .inl (fun _ => 0))), (q3, .inr (3, oX3 (rtP a1 a2 a3 u53_4))), ((u53_4 3), .inl (cy 0, 29, .inl (fun _ => 0))), ((u53_4 4), .inl (cy 0, 4, .inl (fun _ => 0))), (q4, .inr (3, oX3 (rtP a1 a2 a3 u53_5))), ((u53_5 3), .inl (cy 0, 29, .inl (fun _ => 0))), ((u53_5 4), .inl (cy 0, 4, .inl (fun _ => 0))), (q5, .inr (3, oX3 (rtP a1 a2 a3 u53_6))), ((u53_6 3), .inl (cy 0, 29, .inl (fun _ => 0))), ((u53_6 4), .inl (cy 0, 4, .inl (fun _ => 0))), (q6, .inr (3, oX3 (rtP a1 a2 a3 u53_7))), ((u53_7 3), .inl (cy 0, 29, .inl (fun _ => 0))), ((u53_7 4), .inl (cy 0, 4, .inl (fun _ => 0))), (q7, .inr (3, oX3 (rtP a1 a2 a3 u53_8))), ((u53_8 3), .inl (cy 0, 29, .inl (fun _ => 0))), ((u53_8 4), .inl (cy 0, 4, .inl (fun _ => 0)))] H := hP
  have hD : va_D A [(h0, .inr (6, [.ref a1, .ref q0, .ref q1, .ref q2, .int 0, .int 0])), (q0, .inl (cy 4, 5, .inr (.inr (.inr (.inr (fun i => some ((rl [q3, q4, q5, q6, q7]) i))))))), (q1, .inl (cy 0, 4, .inl (fun _ => 0))), (q2, .inl (cy 0, 4, .inl (fun _ => 0))), (q3, .inr (3, oX3 (rtP a1 a2 a3 u53_4))), ((u53_4 3), .inl (cy 0, 29, .inl (fun _ => 0))), ((u53_4 4), .inl (cy 0, 4, .inl (fun _ => 0))), (q4, .inr (3, oX3 (rtP a1 a2 a3 u53_5))), ((u53_5 3), .inl (cy 0, 29, .inl (fun _ => 0))), ((u53_5 4), .inl (cy 0, 4, .inl (fun _ => 0))), (q5, .inr (3, oX3 (rtP a1 a2 a3 u53_6))), ((u53_6 3), .inl (cy 0, 29, .inl (fun _ => 0))), ((u53_6 4), .inl (cy 0, 4, .inl (fun _ => 0))), (q6, .inr (3, oX3 (rtP a1 a2 a3 u53_7))), ((u53_7 3), .inl (cy 0, 29, .inl (fun _ => 0))), ((u53_7 4), .inl (cy 0, 4, .inl (fun _ => 0))), (q7, .inr (3, oX3 (rtP a1 a2 a3 u53_8))), ((u53_8 3), .inl (cy 0, 29, .inl (fun _ => 0))), ((u53_8 4), .inl (cy 0, 4, .inl (fun _ => 0)))] := hD
  exact hret ((rl [a1, q0, q1, q2, 0, 0]), (rl [q3, q4, q5, q6, q7]), u53_4, u53_5, u53_6, u53_7, u53_8) _ _ _ _ dX6_init_63 trivial (hP.sub [0, 1, 2, 3, 4, 5, 6, 7, 8, 9, 10, 11, 12, 13, 14, 15, 16, 17, 18] rfl) (hD.sub [0, 1, 2, 3, 4, 5, 6, 7, 8, 9, 10, 11, 12, 13, 14, 15, 16, 17, 18] (by decide) rfl) hS
