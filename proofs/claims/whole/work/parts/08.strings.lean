/-! String constants: length() and charAt(i) -/
def rtP (x y z : Nat) (r : Nat → Nat) : Nat → Nat := fun k => match k with
  | 0 => x
  | 1 => y
  | 2 => z
  | k => r k
def rtQ (x : Nat) (r : Nat → Nat) : Nat → Nat := fun k => match k with
  | 0 => x
  | k => r k
theorem dJ0_length_8abf5_0 : decode cJ0_length_8abf5 0 = .ok (.aload_n 0, 1) := by decide +kernel
theorem dJ0_length_8abf5_1 : decode cJ0_length_8abf5 1 = .ok (.getfield 9, 3) := by decide +kernel
theorem dJ0_length_8abf5_4 : decode cJ0_length_8abf5 4 = .ok (.arraylength, 1) := by decide +kernel
theorem dJ0_length_8abf5_5 : decode cJ0_length_8abf5 5 = .ok (.aload_n 0, 1) := by decide +kernel
theorem dJ0_length_8abf5_6 : decode cJ0_length_8abf5 6 = .ok (.invokevirtual 335, 3) := by decide +kernel
theorem dJ0_length_8abf5_9 : decode cJ0_length_8abf5 9 = .ok (.ishr, 1) := by decide +kernel
theorem dJ0_length_8abf5_10 : decode cJ0_length_8abf5 10 = .ok (.ireturn, 1) := by decide +kernel
theorem dJ0_charAt_5068e_0 : decode cJ0_charAt_5068e 0 = .ok (.aload_n 0, 1) := by decide +kernel
theorem dJ0_charAt_5068e_1 : decode cJ0_charAt_5068e 1 = .ok (.invokevirtual 492, 3) := by decide +kernel
theorem dJ0_charAt_5068e_4 : decode cJ0_charAt_5068e 4 = .ok (.ifCond .eq 12, 3) := by decide +kernel
theorem dJ0_charAt_5068e_7 : decode cJ0_charAt_5068e 7 = .ok (.aload_n 0, 1) := by decide +kernel
theorem dJ0_charAt_5068e_8 : decode cJ0_charAt_5068e 8 = .ok (.getfield 9, 3) := by decide +kernel
theorem dJ0_charAt_5068e_11 : decode cJ0_charAt_5068e 11 = .ok (.iload_n 1, 1) := by decide +kernel
theorem dJ0_charAt_5068e_12 : decode cJ0_charAt_5068e 12 = .ok (.invokestatic 495, 3) := by decide +kernel
theorem dJ0_charAt_5068e_15 : decode cJ0_charAt_5068e 15 = .ok (.ireturn, 1) := by decide +kernel
theorem dJ0_coder_7d493_0 : decode cJ0_coder_7d493 0 = .ok (.getstatic 38, 3) := by decide +kernel
theorem dJ0_coder_7d493_3 : decode cJ0_coder_7d493 3 = .ok (.ifCond .eq 10, 3) := by decide +kernel
theorem dJ0_coder_7d493_6 : decode cJ0_coder_7d493 6 = .ok (.aload_n 0, 1) := by decide +kernel
theorem dJ0_coder_7d493_7 : decode cJ0_coder_7d493 7 = .ok (.getfield 15, 3) := by decide +kernel
theorem dJ0_coder_7d493_10 : decode cJ0_coder_7d493 10 = .ok (.goto 4, 3) := by decide +kernel
theorem dJ0_coder_7d493_14 : decode cJ0_coder_7d493 14 = .ok (.ireturn, 1) := by decide +kernel
theorem dJ0_isLatin1_aae02_0 : decode cJ0_isLatin1_aae02 0 = .ok (.getstatic 38, 3) := by decide +kernel
theorem dJ0_isLatin1_aae02_3 : decode cJ0_isLatin1_aae02 3 = .ok (.ifCond .eq 14, 3) := by decide +kernel
theorem dJ0_isLatin1_aae02_6 : decode cJ0_isLatin1_aae02 6 = .ok (.aload_n 0, 1) := by decide +kernel
theorem dJ0_isLatin1_aae02_7 : decode cJ0_isLatin1_aae02 7 = .ok (.getfield 15, 3) := by decide +kernel
theorem dJ0_isLatin1_aae02_10 : decode cJ0_isLatin1_aae02 10 = .ok (.ifCond .ne 7, 3) := by decide +kernel
theorem dJ0_isLatin1_aae02_13 : decode cJ0_isLatin1_aae02 13 = .ok (.iconst 1, 1) := by decide +kernel
theorem dJ0_isLatin1_aae02_14 : decode cJ0_isLatin1_aae02 14 = .ok (.goto 4, 3) := by decide +kernel
theorem dJ0_isLatin1_aae02_18 : decode cJ0_isLatin1_aae02 18 = .ok (.ireturn, 1) := by decide +kernel
theorem dJ0_checkIndex_df160_0 : decode cJ0_checkIndex_df160 0 = .ok (.iload_n 0, 1) := by decide +kernel
theorem dJ0_checkIndex_df160_1 : decode cJ0_checkIndex_df160 1 = .ok (.iload_n 1, 1) := by decide +kernel
theorem dJ0_checkIndex_df160_2 : decode cJ0_checkIndex_df160 2 = .ok (.getstatic 1053, 3) := by decide +kernel
theorem dJ0_checkIndex_df160_5 : decode cJ0_checkIndex_df160 5 = .ok (.invokestatic 1059, 3) := by decide +kernel
theorem dJ0_checkIndex_df160_8 : decode cJ0_checkIndex_df160 8 = .ok (.pop, 1) := by decide +kernel
theorem dJ0_checkIndex_df160_9 : decode cJ0_checkIndex_df160 9 = .ok (.return_, 1) := by decide +kernel
theorem dJ1_charAt_3b067_0 : decode cJ1_charAt_3b067 0 = .ok (.iload_n 1, 1) := by decide +kernel
theorem dJ1_charAt_3b067_1 : decode cJ1_charAt_3b067 1 = .ok (.aload_n 0, 1) := by decide +kernel
theorem dJ1_charAt_3b067_2 : decode cJ1_charAt_3b067 2 = .ok (.arraylength, 1) := by decide +kernel
theorem dJ1_charAt_3b067_3 : decode cJ1_charAt_3b067 3 = .ok (.invokestatic 9, 3) := by decide +kernel
theorem dJ1_charAt_3b067_6 : decode cJ1_charAt_3b067 6 = .ok (.aload_n 0, 1) := by decide +kernel
theorem dJ1_charAt_3b067_7 : decode cJ1_charAt_3b067 7 = .ok (.iload_n 1, 1) := by decide +kernel
theorem dJ1_charAt_3b067_8 : decode cJ1_charAt_3b067 8 = .ok (.baload, 1) := by decide +kernel
theorem dJ1_charAt_3b067_9 : decode cJ1_charAt_3b067 9 = .ok (.sipush 255, 3) := by decide +kernel
theorem dJ1_charAt_3b067_12 : decode cJ1_charAt_3b067 12 = .ok (.iand, 1) := by decide +kernel
theorem dJ1_charAt_3b067_13 : decode cJ1_charAt_3b067 13 = .ok (.i2c, 1) := by decide +kernel
theorem dJ1_charAt_3b067_14 : decode cJ1_charAt_3b067 14 = .ok (.ireturn, 1) := by decide +kernel
theorem dJ3_checkIndex_8e157_0 : decode cJ3_checkIndex_8e157 0 = .ok (.iload_n 0, 1) := by decide +kernel
theorem dJ3_checkIndex_8e157_1 : decode cJ3_checkIndex_8e157 1 = .ok (.ifCond .lt 8, 3) := by decide +kernel
theorem dJ3_checkIndex_8e157_4 : decode cJ3_checkIndex_8e157 4 = .ok (.iload_n 0, 1) := by decide +kernel
theorem dJ3_checkIndex_8e157_5 : decode cJ3_checkIndex_8e157 5 = .ok (.iload_n 1, 1) := by decide +kernel
theorem dJ3_checkIndex_8e157_6 : decode cJ3_checkIndex_8e157 6 = .ok (.if_icmp .lt 10, 3) := by decide +kernel
theorem dJ3_checkIndex_8e157_16 : decode cJ3_checkIndex_8e157 16 = .ok (.iload_n 0, 1) := by decide +kernel
theorem dJ3_checkIndex_8e157_17 : decode cJ3_checkIndex_8e157 17 = .ok (.ireturn, 1) := by decide +kernel
/-- every constant: short, its bytes are plain signs -/
theorem sk_all : ∀ i, i < 50 → ((skB i).length < 128 ∧ ∀ b ∈ skB i, (((b &&& 255).toUInt32 % 65536).toInt32 = b ∧ narrow .char (.int b) = .int b)) := by decide +kernel
theorem sk_at {k j : Nat} (hk : k < 50) (hj : j < (skB k).length) : ((((skB k).getD j 0 &&& 255).toUInt32 % 65536).toInt32 = (skB k).getD j 0 ∧ narrow .char (.int ((skB k).getD j 0)) = .int ((skB k).getD j 0)) := by
  refine (sk_all k hk).2 _ ?_
  rw [List.getD_eq_getElem?_getD, List.getElem?_eq_getElem hj]
  exact List.getElem_mem hj
section Str
variable {l : Launch} {D : va_G} {cy : Nat → ClassId} {ev : Nat → Nat} {sz k : Nat}
set_option maxHeartbeats 4000000 in
theorem ctJ_coder (hk : k < 50) : Met l yJ0_coder_7d493 (Cond.code yJ0_coder_7d493 cJ0_coder_7d493 1 (some .byte) :: TB) ({ frames := 0, cells := 0, slots := 0, locals := 0 }) (va_Pc [.ref (ev (2 * k))] (PreX D cy ev [] sz)) (va_Qi (fun (r : Int32) (_ : Unit) => r = 0) (fun _ => BkX D cy [] sz []) (va_A [] sz)) 0 0 (va_A [] sz) := by
  refine ofWi (by decide) (Nat.le_of_ble_eq_true rfl) ?_
  intro p e s m args below meth c ls A R QQ hx hb hml hown hts hR hlk hE hK hP hD hS hA hl hret
  have hown : s.vm.findClass RJ0 = some m.cls := hown
  have hl : lv_has ls 1 [(0, .ref (ev (2 * k)))] := hl
  refine va_gets hx hb hE.2.1 hS hown (hts _ (tb mw759)) (fun _ h9 => h9) dJ0_coder_7d493_0 ?_
  refine lv_if_eq (tgt := 13) hx hb dJ0_coder_7d493_3 (by decide) (fun c3 => absurd c3 (by decide)) (fun c3 => ?_)
  refine lv_aload_n hx hb dJ0_coder_7d493_6 rfl (lv_at hl 0 rfl) ?_
  refine vk_getf hx hb (hE.1 k hk).2.2.1 hS hown (hts _ (tb mw1672)) (fun _ h9 => h9) dJ0_coder_7d493_7 ?_
  refine lv_goto (tgt := 14) hx hb dJ0_coder_7d493_10 (by decide) ?_
  exact hret 0 () _ _ _ _ (by decide) dJ0_coder_7d493_14 rfl hP hD hS
set_option maxHeartbeats 4000000 in
theorem ctJ_isLatin1 (hk : k < 50) : Met l yJ0_isLatin1_aae02 (Cond.code yJ0_isLatin1_aae02 cJ0_isLatin1_aae02 1 (some .boolean) :: TB) ({ frames := 0, cells := 0, slots := 0, locals := 0 }) (va_Pc [.ref (ev (2 * k))] (PreX D cy ev [] sz)) (va_Qi (fun (r : Int32) (_ : Unit) => r = 1) (fun _ => BkX D cy [] sz []) (va_A [] sz)) 0 0 (va_A [] sz) := by
  refine ofWi (by decide) (Nat.le_of_ble_eq_true rfl) ?_
  intro p e s m args below meth c ls A R QQ hx hb hml hown hts hR hlk hE hK hP hD hS hA hl hret
  have hown : s.vm.findClass RJ0 = some m.cls := hown
  have hl : lv_has ls 1 [(0, .ref (ev (2 * k)))] := hl
  refine va_gets hx hb hE.2.1 hS hown (hts _ (tb mw759)) (fun _ h9 => h9) dJ0_isLatin1_aae02_0 ?_
  refine lv_if_eq (tgt := 17) hx hb dJ0_isLatin1_aae02_3 (by decide) (fun c3 => absurd c3 (by decide)) (fun c3 => ?_)
  refine lv_aload_n hx hb dJ0_isLatin1_aae02_6 rfl (lv_at hl 0 rfl) ?_
  refine vk_getf hx hb (hE.1 k hk).2.2.1 hS hown (hts _ (tb mw1672)) (fun _ h9 => h9) dJ0_isLatin1_aae02_7 ?_
  refine lv_if_ne (tgt := 17) hx hb dJ0_isLatin1_aae02_10 (by decide) (fun c3 => absurd rfl c3) (fun c3 => ?_)
  refine lv_iconst (v := (1 : Int32)) hx hb dJ0_isLatin1_aae02_13 (by decide) ?_
  refine lv_goto (tgt := 18) hx hb dJ0_isLatin1_aae02_14 (by decide) ?_
  exact hret 1 () _ _ _ _ (by decide) dJ0_isLatin1_aae02_18 rfl hP hD hS
set_option maxHeartbeats 4000000 in
theorem ctJ_length (hk : k < 50) : Met l yJ0_length_8abf5 (Cond.code yJ0_length_8abf5 cJ0_length_8abf5 1 (some .int) :: TB) ({ frames := 1, cells := 0, slots := 0, locals := 20 }) (va_Pc [.ref (ev (2 * k))] (PreX D cy ev [] sz)) (va_Qi (fun (r : Int32) (_ : Unit) => r = nI (skB k).length) (fun _ => BkX D cy [] sz []) (va_A [] sz)) 0 0 (va_A [] sz) := by
  refine ofWi (by decide) (Nat.le_of_ble_eq_true rfl) ?_
  intro p e s m args below meth c ls A R QQ hx hb hml hown hts hR hlk hE hK hP hD hS hA hl hret
  have hown : s.vm.findClass RJ0 = some m.cls := hown
  have hl : lv_has ls 1 [(0, .ref (ev (2 * k)))] := hl
  have hRf : 1 ≤ R.frames := by rw [hR]; exact Nat.le_refl _
  have hRl : 20 ≤ R.locals := by rw [hR]; exact Nat.le_refl _
  refine lv_aload_n hx hb dJ0_length_8abf5_0 rfl (lv_at hl 0 rfl) ?_
  refine vk_getf hx hb (hE.1 k hk).2.2.2.1 hS hown (hts _ (tb mw1671)) (fun _ h9 => h9) dJ0_length_8abf5_1 ?_
  refine va_tlen (v := nI (skB k).length) hx hb (hE.1 k hk).2.2.2.2 hS rfl dJ0_length_8abf5_4 ?_
  refine lv_aload_n hx hb dJ0_length_8abf5_5 rfl (lv_at hl 0 rfl) ?_
  obtain ⟨cell, r1, r2, r3, -⟩ := va_O.kept (hE.1 k hk).2.1 hS.2.1
  refine clVr (As := []) (rest := [.int (nI (skB k).length)]) (Wr := []) ⟨hx, hb, hml, hown, hts⟩ ⟨callB_of 0 hts (goodC mw758) rfl rfl rfl (hts _ (tb mw20)) (hts _ (tb mw755)) (by decide +kernel) ⟨Nat.le_trans (by decide) hRf, Nat.le_trans (by decide) hRl⟩, hts _ (tb mw756), hts _ (tb mw757)⟩ (ctJ_coder hk) hE hK hP hD hS hA [] [] rfl rfl (by decide) (by decide) (by decide) ⟨cell, r1, r2, r3⟩ rfl hl.1 rfl (Nat.le_of_ble_eq_true rfl) ⟨Nat.zero_le _, Nat.zero_le _⟩ dJ0_length_8abf5_6 (fun r6 u H locs h hP hD hS => ?_)
  subst h
  refine lv_ishr hx hb dJ0_length_8abf5_9 ?_
  exact hret _ () _ _ _ _ rfl dJ0_length_8abf5_10 (sb_shr0 _) hP hD hS
set_option maxHeartbeats 4000000 in
theorem ctJ_check3 {i n : Int32} {v : Value} (hv : v.category = 1) (h1 : ¬ i < 0) (h2 : i < n) : Met l yJ3_checkIndex_8e157 (Cond.code yJ3_checkIndex_8e157 cJ3_checkIndex_8e157 3 (some .int) :: TB) ({ frames := 0, cells := 0, slots := 0, locals := 0 }) (va_Pc [.int i, .int n, v] (PreX D cy ev [] sz)) (va_Qi (fun (r : Int32) (_ : Unit) => r = i) (fun _ => BkX D cy [] sz []) (va_A [] sz)) 0 0 (va_A [] sz) := by
  have hlen : (lg_sl [.int i, .int n, v]).length ≤ 3 := by
    cases v <;> first | exact Nat.le_of_ble_eq_true rfl | (simp [Value.category] at hv)
  refine ofWi (by decide) hlen ?_
  intro p e s m args below meth c ls A R QQ hx hb hml hown hts hR hlk hE hK hP hD hS hA hl hret
  have hl : lv_has ls 3 [(0, .int i), (1, .int n)] := ⟨hl.1, hl.2.1, fun q hq => hl.2.2 q (by
    simp only [List.mem_cons, List.not_mem_nil, or_false] at hq
    rcases hq with rfl | rfl <;> simp [lv_args, Value.category])⟩
  refine lv_iload_n hx hb dJ3_checkIndex_8e157_0 rfl (lv_at hl 0 rfl) ?_
  refine lv_if_lt (tgt := 9) hx hb dJ3_checkIndex_8e157_1 (by decide) (fun c3 => absurd c3 h1) (fun c3 => ?_)
  refine lv_iload_n hx hb dJ3_checkIndex_8e157_4 rfl (lv_at hl 0 rfl) ?_
  refine lv_iload_n hx hb dJ3_checkIndex_8e157_5 rfl (lv_at hl 1 rfl) ?_
  refine lv_icmp_lt (tgt := 16) hx hb dJ3_checkIndex_8e157_6 (by decide) (fun c3 => ?_) (fun c3 => absurd h2 c3)
  refine lv_iload_n hx hb dJ3_checkIndex_8e157_16 rfl (lv_at hl 0 rfl) ?_
  exact hret i () _ _ _ _ rfl dJ3_checkIndex_8e157_17 rfl hP hD hS
set_option maxHeartbeats 4000000 in
theorem ctJ_check0 {i n : Int32} (h1 : ¬ i < 0) (h2 : i < n) : Met l yJ0_checkIndex_df160 (Cond.code yJ0_checkIndex_df160 cJ0_checkIndex_df160 2 none :: TB) ({ frames := 1, cells := 0, slots := 0, locals := 22 }) (va_Pc [.int i, .int n] (PreX D cy ev [] sz)) (va_Qv (fun (_ : Unit) => True) (fun _ => BkX D cy [] sz []) (va_A [] sz)) 0 0 (va_A [] sz) := by
  refine ofWv (by decide) (Nat.le_of_ble_eq_true rfl) ?_
  intro p e s m args below meth c ls A R QQ hx hb hml hown hts hR hlk hE hK hP hD hS hA hl hret
  have hown : s.vm.findClass RJ0 = some m.cls := hown
  have hl : lv_has ls 2 [(0, .int i), (1, .int n)] := hl
  have hRf : 1 ≤ R.frames := by rw [hR]; exact Nat.le_refl _
  have hRl : 22 ≤ R.locals := by rw [hR]; exact Nat.le_refl _
  refine lv_iload_n hx hb dJ0_checkIndex_df160_0 rfl (lv_at hl 0 rfl) ?_
  refine lv_iload_n hx hb dJ0_checkIndex_df160_1 rfl (lv_at hl 1 rfl) ?_
  have key : ∀ v : Value, v.category = 1 → va_Z "jdk/internal/util/Preconditions" "SIOOBE_FORMATTER" "Ljava/util/function/BiFunction;" v A s s.heap → W p l e R s m args below meth c s.heap [] 0 0 QQ (F0 m 2 ls [.int n, .int i]) := by
    intro v hv hz
    refine va_gets hx hb hz hS hown (hts _ (tb mw775)) (fun _ h9 => h9) dJ0_checkIndex_df160_2 ?_
    refine clSi (As := [.int i, .int n, v]) (rest := []) (Wr := []) ⟨hx, hb, hml, hown, hts⟩ ⟨callB_of 3 hts (goodC mw779) rfl rfl rfl (hts _ (tb mw22)) (hts _ (tb mw777)) (by decide +kernel) ⟨Nat.le_trans (by decide) hRf, Nat.le_trans (by decide) hRl⟩, hts _ (tb mw778)⟩ (ctJ_check3 hv h1 h2) hE hK hP hD hS hA [] [] rfl rfl (by decide) (by decide) (by decide) rfl hl.1 rfl (Nat.le_of_ble_eq_true rfl) ⟨Nat.zero_le _, Nat.zero_le _⟩ dJ0_checkIndex_df160_5 (fun r6 u H locs h hP hD hS => ?_)
    refine lv_pop hx hb dJ0_checkIndex_df160_8 rfl ?_
    exact hret () _ _ _ _ dJ0_checkIndex_df160_9 trivial hP hD hS
  rcases hE.2.2.2.2.1 with hz | ⟨t, hz⟩
  · exact key .null rfl hz
  · exact key (.ref t) rfl hz
set_option maxHeartbeats 4000000 in
theorem ctJ_char1 {i : Int32} (hk : k < 50) (hi : vp_in i (skB k).length) : Met l yJ1_charAt_3b067 (Cond.code yJ1_charAt_3b067 cJ1_charAt_3b067 2 (some .char) :: TB) ({ frames := 2, cells := 0, slots := 0, locals := 43 }) (va_Pc [.ref (ev (2 * k + 1)), .int i] (PreX D cy ev [] sz)) (va_Qi (fun (r : Int32) (_ : Unit) => r = (skB k).getD i.toNatClampNeg 0 ∧ narrow .char (.int r) = .int r) (fun _ => BkX D cy [] sz []) (va_A [] sz)) 0 0 (va_A [] sz) := by
  obtain ⟨j, hj, rfl⟩ := vp_in_of hi (Nat.lt_trans (sk_all k hk).1 (by decide))
  have hj2 : j < 2 ^ 31 := Nat.lt_trans hj (Nat.lt_trans (sk_all k hk).1 (by decide))
  have hL := (sk_all k hk).1
  refine ofWi (by decide) (Nat.le_of_ble_eq_true rfl) ?_
  intro p e s m args below meth c ls A R QQ hx hb hml hown hts hR hlk hE hK hP hD hS hA hl hret
  have hown : s.vm.findClass RJ1 = some m.cls := hown
  have hl : lv_has ls 2 [(0, .ref (ev (2 * k + 1))), (1, .int (nI j))] := hl
  have hRf : 2 ≤ R.frames := by rw [hR]; exact Nat.le_refl _
  have hRl : 43 ≤ R.locals := by rw [hR]; exact Nat.le_refl _
  refine lv_iload_n hx hb dJ1_charAt_3b067_0 rfl (lv_at hl 1 rfl) ?_
  refine lv_aload_n hx hb dJ1_charAt_3b067_1 rfl (lv_at hl 0 rfl) ?_
  refine va_tlen (v := nI (skB k).length) hx hb (hE.1 k hk).2.2.2.2 hS rfl dJ1_charAt_3b067_2 ?_
  refine clSv (As := [.int (nI j), .int (nI (skB k).length)]) (rest := []) (Wr := []) ⟨hx, hb, hml, hown, hts⟩ ⟨callB_of 2 hts (goodC mw774) rfl rfl rfl (hts _ (tb mw20)) (hts _ (tb mw772)) (by decide +kernel) ⟨Nat.le_trans (by decide) hRf, Nat.le_trans (by decide) hRl⟩, hts _ (tb mw773)⟩ (ctJ_check0 (nI_pos hj2) (nI_lt hj (by omega))) hE hK hP hD hS hA [] [] rfl rfl (by decide) (by decide) (by decide) rfl hl.1 rfl (Nat.le_of_ble_eq_true rfl) ⟨Nat.zero_le _, Nat.zero_le _⟩ dJ1_charAt_3b067_3 (fun u H locs h hP hD hS => ?_)
  refine lv_aload_n hx hb dJ1_charAt_3b067_6 rfl (lv_at hl 0 rfl) ?_
  refine lv_iload_n hx hb dJ1_charAt_3b067_7 rfl (lv_at hl 1 rfl) ?_
  refine va_tb (v := .int ((skB k).getD j 0)) hx hb (hE.1 k hk).2.2.2.2 hS hi (by rw [nI_clamp hj2]) dJ1_charAt_3b067_8 ?_
  refine lv_sipush (v := (255 : Int32)) hx hb dJ1_charAt_3b067_9 (by decide) ?_
  refine lv_iand hx hb dJ1_charAt_3b067_12 ?_
  refine lv_i2c (v := (skB k).getD j 0) hx hb dJ1_charAt_3b067_13 (sk_at hk hj).1 ?_
  exact hret _ () _ _ _ _ (sk_at hk hj).2 dJ1_charAt_3b067_14 ⟨by rw [nI_clamp hj2], (sk_at hk hj).2⟩ hP hD hS
set_option maxHeartbeats 4000000 in
theorem ctJ_charAt {i : Int32} (hk : k < 50) (hi : vp_in i (skB k).length) : Met l yJ0_charAt_5068e (Cond.code yJ0_charAt_5068e cJ0_charAt_5068e 2 (some .char) :: TB) ({ frames := 3, cells := 0, slots := 0, locals := 64 }) (va_Pc [.ref (ev (2 * k)), .int i] (PreX D cy ev [] sz)) (va_Qi (fun (r : Int32) (_ : Unit) => r = (skB k).getD i.toNatClampNeg 0) (fun _ => BkX D cy [] sz []) (va_A [] sz)) 0 0 (va_A [] sz) := by
  refine ofWi (by decide) (Nat.le_of_ble_eq_true rfl) ?_
  intro p e s m args below meth c ls A R QQ hx hb hml hown hts hR hlk hE hK hP hD hS hA hl hret
  have hown : s.vm.findClass RJ0 = some m.cls := hown
  have hl : lv_has ls 2 [(0, .ref (ev (2 * k))), (1, .int i)] := hl
  have hRf : 3 ≤ R.frames := by rw [hR]; exact Nat.le_refl _
  have hRl : 64 ≤ R.locals := by rw [hR]; exact Nat.le_refl _
  refine lv_aload_n hx hb dJ0_charAt_5068e_0 rfl (lv_at hl 0 rfl) ?_
  obtain ⟨cell, r1, r2, r3, -⟩ := va_O.kept (hE.1 k hk).2.1 hS.2.1
  refine clVr (As := []) (rest := []) (Wr := []) ⟨hx, hb, hml, hown, hts⟩ ⟨callB_of 0 hts (goodC mw768) rfl rfl rfl (hts _ (tb mw20)) (hts _ (tb mw765)) (by decide +kernel) ⟨Nat.le_trans (by decide) hRf, Nat.le_trans (by decide) hRl⟩, hts _ (tb mw766), hts _ (tb mw767)⟩ (ctJ_isLatin1 hk) hE hK hP hD hS hA [] [] rfl rfl (by decide) (by decide) (by decide) ⟨cell, r1, r2, r3⟩ rfl hl.1 rfl (Nat.le_of_ble_eq_true rfl) ⟨Nat.zero_le _, Nat.zero_le _⟩ dJ0_charAt_5068e_1 (fun r6 u H locs h hP hD hS => ?_)
  subst h
  refine lv_if_eq (tgt := 16) hx hb dJ0_charAt_5068e_4 (by decide) (fun c3 => absurd c3 (by decide)) (fun c3 => ?_)
  refine lv_aload_n hx hb dJ0_charAt_5068e_7 rfl (lv_at hl 0 rfl) ?_
  refine vk_getf hx hb (hE.1 k hk).2.2.2.1 hS hown (hts _ (tb mw1671)) (fun _ h9 => h9) dJ0_charAt_5068e_8 ?_
  refine lv_iload_n hx hb dJ0_charAt_5068e_11 rfl (lv_at hl 1 rfl) ?_
  refine clSi (As := [.ref (ev (2 * k + 1)), .int i]) (rest := []) (Wr := []) ⟨hx, hb, hml, hown, hts⟩ ⟨callB_of 2 hts (goodC mw771) rfl rfl rfl (hts _ (tb mw21)) (hts _ (tb mw769)) (by decide +kernel) ⟨Nat.le_trans (by decide) hRf, Nat.le_trans (by decide) hRl⟩, hts _ (tb mw770)⟩ (ctJ_char1 hk hi) hE hK hP hD hS hA [] [] rfl rfl (by decide) (by decide) (by decide) rfl hl.1 rfl (Nat.le_of_ble_eq_true rfl) ⟨Nat.zero_le _, Nat.zero_le _⟩ dJ0_charAt_5068e_12 (fun r6 u H locs h hP hD hS => ?_)
  exact hret r6 () _ _ _ _ h.2 dJ0_charAt_5068e_15 h.1 hP hD hS
end Str
section StrRows
variable {p : Program} {l : Launch} {e : Env} {R : Room} {s : State} {m : MethodId} {args : Array Value} {below : List Frame} {meth : Method} {c : Code} {H : Heap} {locs : List Loc} {cells slots : Nat} {Q : State → Prop} {cc : ByteArray} {pc : Nat} {ls : Array Slot} {rest : List Value} {ws : va_W} {a : Nat} {A : Nat → Prop} {D : va_G} {cy : Nat → ClassId} {ev : Nat → Nat} {c0 : Cond} {own : String} {idx k : Nat} {H0 : Heap}
theorem nilW {H : Heap} : va_P D clsX [] H := fun k q h => by simp at h
theorem nilD {A : Nat → Prop} : va_D A [] := ⟨fun i j p q h => by simp at h, fun k q h => by simp at h⟩
/-- length() of a constant: the world stays -/
theorem strlen (hx : p.tables.exec = Jvm.exec) (hb : c.code = cc) (hml : c.maxLocals = ls.size) (hts : ∀ w ∈ c0 :: TB, w.before args s = true) (hown : s.vm.findClass own = some m.cls) (hlink : Cond.methodLink own idx yJ0_length_8abf5 ∈ TB) (hE : EnvX ev A s s.heap) (hK : va_K D clsX (tyA cy) s) (hP : va_P D clsX ws H) (hD : va_D A ws) (hS : va_S A s.heap H locs) (hA : ∀ q, s.heap.size ≤ q → A q) (hk : k < 50) (hn : va_nd (List.range ws.length) = true) (hRf : 2 ≤ R.frames) (hRl : 40 ≤ R.locals) (hroom : (rest.map fun v => v.category).sum ≤ 8) (hf : cells ≤ R.cells ∧ slots ≤ R.slots) (hd : decode cc pc = .ok (.invokevirtual idx, 3)) (kk : ∀ (H1 : Heap) (locs1 : List Loc), va_P D clsX ws H1 → va_D A ws → va_S A s.heap H1 locs1 → W p l e R s m args below meth c H1 locs1 cells slots Q (F0 m (pc + 3) ls (.int (nI (skB k).length) :: rest))) : W p l e R s m args below meth c H locs cells slots Q (F0 m pc ls (.ref (ev (2 * k)) :: rest)) := by
  obtain ⟨cell, r1, r2, r3, -⟩ := va_O.kept (hE.1 k hk).2.1 hS.2.1
  have hall : (List.range ws.length).map (fun i => ws[i]?) = ws.map some := by
    apply List.ext_getElem?
    intro i
    simp only [List.getElem?_map, List.getElem?_range]
    by_cases q : i < ws.length
    · simp [q]
    · simp [q]
  refine clVr (As := []) (rest := rest) (Wr := ws) ⟨hx, hb, hml, hown, hts⟩ ⟨callB_of 0 hts (goodC mw754) rfl rfl rfl (hts _ (tb mw20)) (hts _ (tb hlink)) (by decide +kernel) ⟨Nat.le_trans (by decide) hRf, Nat.le_trans (by decide) hRl⟩, hts _ (tb mw752), hts _ (tb mw753)⟩ (ctJ_length hk) hE hK hP hD hS hA [] (List.range ws.length) rfl hall (by decide) hn (fun _ _ h => nomatch h) ⟨cell, r1, r2, r3⟩ rfl rfl rfl hroom hf hd (fun r6 u H1 locs1 h hP hD hS => ?_)
  subst h
  rw [List.append_nil] at hP hD
  exact kk H1 locs1 hP hD hS
theorem strchr {i : Int32} (hx : p.tables.exec = Jvm.exec) (hb : c.code = cc) (hml : c.maxLocals = ls.size) (hts : ∀ w ∈ c0 :: TB, w.before args s = true) (hown : s.vm.findClass own = some m.cls) (hlink : Cond.methodLink own idx yJ0_charAt_5068e ∈ TB) (hE : EnvX ev A s s.heap) (hK : va_K D clsX (tyA cy) s) (hP : va_P D clsX ws H) (hD : va_D A ws) (hS : va_S A s.heap H locs) (hA : ∀ q, s.heap.size ≤ q → A q) (hk : k < 50) (hin : vp_in i (skB k).length) (hn : va_nd (List.range ws.length) = true) (hRf : 4 ≤ R.frames) (hRl : 85 ≤ R.locals) (hroom : (rest.map fun v => v.category).sum ≤ 8) (hf : cells ≤ R.cells ∧ slots ≤ R.slots) (hd : decode cc pc = .ok (.invokevirtual idx, 3)) (kk : ∀ (H1 : Heap) (locs1 : List Loc), va_P D clsX ws H1 → va_D A ws → va_S A s.heap H1 locs1 → W p l e R s m args below meth c H1 locs1 cells slots Q (F0 m (pc + 3) ls (.int ((skB k).getD i.toNatClampNeg 0) :: rest))) : W p l e R s m args below meth c H locs cells slots Q (F0 m pc ls (.int i :: .ref (ev (2 * k)) :: rest)) := by
  obtain ⟨cell, r1, r2, r3, -⟩ := va_O.kept (hE.1 k hk).2.1 hS.2.1
  have hall : (List.range ws.length).map (fun i => ws[i]?) = ws.map some := by
    apply List.ext_getElem?
    intro i
    simp only [List.getElem?_map, List.getElem?_range]
    by_cases q : i < ws.length
    · simp [q]
    · simp [q]
  refine clVr (As := [.int i]) (rest := rest) (Wr := ws) ⟨hx, hb, hml, hown, hts⟩ ⟨callB_of 1 hts (goodC mw764) rfl rfl rfl (hts _ (tb mw20)) (hts _ (tb hlink)) (by decide +kernel) ⟨Nat.le_trans (by decide) hRf, Nat.le_trans (by decide) hRl⟩, hts _ (tb mw762), hts _ (tb mw763)⟩ (ctJ_charAt hk hin) hE hK hP hD hS hA [] (List.range ws.length) rfl hall (by decide) hn (fun _ _ h => nomatch h) ⟨cell, r1, r2, r3⟩ rfl rfl rfl hroom hf hd (fun r6 u H1 locs1 h hP hD hS => ?_)
  subst h
  rw [List.append_nil] at hP hD
  exact kk H1 locs1 hP hD hS
theorem va_ldcSW {tx : String} {q : Nat} (hexec : p.tables.exec = Jvm.exec) (hb : c.code = cc) (hown : s.vm.findClass own = some m.cls) (hZ : vk_R own idx tx q s) (hdg : decode cc pc = .ok (.ldc_w idx, 3)) (k : W p l e R s m args below meth c H locs cells slots Q (F0 m (pc + 3) ls (.ref q :: rest))) : W p l e R s m args below meth c H locs cells slots Q (F0 m pc ls rest) := by
  intro T hT X
  obtain ⟨t, a1, b1⟩ := k T hT X
  exact ⟨t, X.ldcStringW hexec hown (text := tx) (a := q) hZ.1 hZ.2 (g := F0 m pc ls rest) rfl (by rw [hb]; exact hdg) t a1, b1⟩
theorem pfX8_text {r : Nat → Nat} {u : AR} {v : Nat} (hx : p.tables.exec = Jvm.exec) (hb : c.code = cc) (hts : ∀ w ∈ c0 :: TB, w.before args s = true) (hown : s.vm.findClass RX8 = some m.cls) (hK : va_K D clsX (tyA cy) s) (hP : va_P D clsX ws H) (hD : va_D A ws) (hS : va_S A H0 H locs) (q0 : Nat) (he : ws[q0]? = some (a, .inr (8, oX8 r u))) (hd : decode cc pc = .ok (.putfield 9, 3)) (kk : ∀ (H1 : Heap) (locs1 : List Loc), va_P D clsX (ws.set q0 (a, .inr (8, oX8 (rtQ v r) u))) H1 → va_D A (ws.set q0 (a, .inr (8, oX8 (rtQ v r) u))) → va_S A H0 H1 locs1 → W p l e R s m args below meth c H1 locs1 cells slots Q (F0 m (pc + 3) ls rest)) : W p l e R s m args below meth c H locs cells slots Q (F0 m pc ls (.ref v :: .ref a :: rest)) := va_put (v := .ref v) hx hb hts (fun w h => tb (iX8 w h)) tyX8 tyX8_ok nmX8 hown hK hP hD hS q0 he rfl 0 (by decide) (hts _ (tb mw39)) (fun _ h9 => h9) rfl (by decide +kernel : _ = some (.array .byte)) rfl rfl (Nat.le_of_ble_eq_true rfl) hd kk
end StrRows
