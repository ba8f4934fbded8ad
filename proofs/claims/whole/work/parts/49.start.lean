/-! what the Statement gives at the start -/
def rf (l : List (Nat → Nat)) (k : Nat) : Nat → Nat := l.getD k (fun _ => 0)
def sl (l : List AR) : ST := fun k => l.getD k (fun _ => 0)
abbrev skM (i : Nat) : Term := Term.string (skO i) (skK i)
abbrev skV (i : Nat) : Term := Term.field (skM i) "java/lang/String" "value" "[B"
def skW (i : Nat) : List Cond := Cond.exactly (skM i) "java/lang/String" :: Cond.eq (.field (skM i) "java/lang/String" "coder" "B") (.int 0) :: Cond.arrayOf (skV i) .byte :: Cond.eq (.length (skV i)) (.int (Int32.ofNat (skB i).length)) :: (List.range (skB i).length).map (fun j => Cond.eq (.elem (skV i) (.int (Int32.ofNat j))) (.int ((skB i).getD j 0)))
def skP : List Nat := [37, 71, 79, 88, 99, 108, 116, 125, 133, 142, 150, 159, 169, 178, 190, 201, 210, 219, 227, 236, 253, 270, 299, 317, 347, 363, 383, 415, 431, 464, 482, 508, 528, 538, 551, 563, 573, 583, 593, 602, 612, 621, 630, 639, 649, 659, 671, 681, 692, 701]
def skI : List Nat := [702, 746, 813, 834, 835, 836, 845, 846, 847, 848, 849, 854, 863, 864, 865, 866, 867, 899, 913, 942, 960, 965, 977, 979, 992, 1008, 1016, 1028, 1057, 1072, 1118, 1151, 1161, 1162, 1163, 1164, 1165, 1166, 1167, 1168, 1169, 1388, 1389, 1390, 1411, 1416, 1421, 1422, 1575, 1576]
set_option maxRecDepth 100000 in
theorem skW_in : ∀ i, i < 50 → skW i = ((flatC (Jvm.Cond.and given_1 narrow_1)).drop (skP.getD i 0)).take (4 + (skB i).length) := by decide +kernel
theorem skI_in : ∀ i, i < 50 → tables_1[skI.getD i 0]? = some (Cond.stringRef (skO i) (skK i) (skT i)) := by decide +kernel
theorem skB_len : ∀ i, i < 50 → (skB i).length < 100 := by decide +kernel
theorem skStart {args : Array Value} {s : State} {A : Nat → Prop} (hts : ∀ w ∈ lw_tbl, w.before args s = true) (hgv : (Jvm.Cond.and given_1 narrow_1).before args s = true) (hA : ∀ a : Nat, a < s.heap.size → ¬ A a) : ∃ ev : Nat → Nat, EnvS ev A s s.heap := by
  have hfl := flat_of_before _ hgv
  have hw : ∀ i, i < 50 → ∀ w ∈ skW i, w.before args s = true := by
    intro i hi w hw
    rw [skW_in i hi] at hw
    exact hfl w (List.mem_of_mem_drop (List.mem_of_mem_take hw))
  have h0 : ∀ i : Nat, ∃ q : Nat × Nat, i < 50 → vk_R (skO i) (skK i) (skT i) q.1 s ∧ va_O "java/lang/String" q.1 A s s.heap ∧ va_OF "java/lang/String" "coder" "B" (.int 0) q.1 A s s.heap ∧ va_OF "java/lang/String" "value" "[B" (.ref q.2) q.1 A s s.heap ∧ va_T .byte q.2 (skB i).length (fun j => .int ((skB i).getD j 0)) A s s.heap := by
    intro i
    by_cases hi : i < 50
    · have hlen := skB_len i hi
      obtain ⟨a, c, cA, kA, q1, q2, q3, q4, q5, q6, -⟩ := Cond.exactly_spec (args := args) (first := s) (o := none) (s := s) (idx := []) (t := skM i) (cls := "java/lang/String") (hw i hi _ List.mem_cons_self)
      have w1 := hw i hi (Cond.eq (.field (skM i) "java/lang/String" "coder" "B") (.int 0)) (List.mem_cons_of_mem _ List.mem_cons_self)
      have w2 := hw i hi (Cond.arrayOf (skV i) .byte) (List.mem_cons_of_mem _ (List.mem_cons_of_mem _ List.mem_cons_self))
      have w3 := hw i hi (Cond.eq (.length (skV i)) (.int (Int32.ofNat (skB i).length))) (List.mem_cons_of_mem _ (List.mem_cons_of_mem _ (List.mem_cons_of_mem _ List.mem_cons_self)))
      have w4 : ∀ j : Nat, j < (skB i).length → (Cond.eq (.elem (skV i) (.int (Int32.ofNat j))) (.int ((skB i).getD j 0))).before args s = true := fun j hj =>
        hw i hi _ (List.mem_cons_of_mem _ (List.mem_cons_of_mem _ (List.mem_cons_of_mem _ (List.mem_cons_of_mem _ (List.mem_map.mpr ⟨j, List.mem_range.mpr hj, rfl⟩)))))
      obtain ⟨t, ht, hT⟩ := va_Tof (f := fun j => .int ((skB i).getD j 0)) (A := A) (by omega) w2 (va_eqt w3) (fun j hj => va_eqt (w4 j hj)) hA
      exact ⟨(a, t), fun _ => ⟨vk_R.of (hts _ (List.mem_append_right _ (List.mem_of_getElem? (skI_in i hi)))) q1, ⟨cA, q3, q5, by rw [q6]; exact q2, hA a (Array.getElem?_eq_some_iff.mp q3).1⟩, vk_OFof q1 (va_eqt w1) hA, vk_OFof q1 ht hA, hT⟩⟩
    · exact ⟨(0, 0), fun h => absurd h hi⟩
  obtain ⟨ad, had⟩ := Classical.axiomOfChoice h0
  refine ⟨fun n => if n % 2 = 0 then (ad (n / 2)).1 else (ad (n / 2)).2, fun i hi => ?_⟩
  have e1 : (if 2 * i % 2 = 0 then (ad (2 * i / 2)).1 else (ad (2 * i / 2)).2) = (ad i).1 := by
    rw [if_pos (by omega), show 2 * i / 2 = i by omega]
  have e2 : (if (2 * i + 1) % 2 = 0 then (ad ((2 * i + 1) / 2)).1 else (ad ((2 * i + 1) / 2)).2) = (ad i).2 := by
    rw [if_neg (by omega), show (2 * i + 1) / 2 = i by omega]
  show vk_R (skO i) (skK i) (skT i) (if 2 * i % 2 = 0 then (ad (2 * i / 2)).1 else (ad (2 * i / 2)).2) s ∧ va_O "java/lang/String" (if 2 * i % 2 = 0 then (ad (2 * i / 2)).1 else (ad (2 * i / 2)).2) A s s.heap ∧ va_OF "java/lang/String" "coder" "B" (.int 0) (if 2 * i % 2 = 0 then (ad (2 * i / 2)).1 else (ad (2 * i / 2)).2) A s s.heap ∧ va_OF "java/lang/String" "value" "[B" (.ref (if (2 * i + 1) % 2 = 0 then (ad ((2 * i + 1) / 2)).1 else (ad ((2 * i + 1) / 2)).2)) (if 2 * i % 2 = 0 then (ad (2 * i / 2)).1 else (ad (2 * i / 2)).2) A s s.heap ∧ va_T .byte (if (2 * i + 1) % 2 = 0 then (ad ((2 * i + 1) / 2)).1 else (ad ((2 * i + 1) / 2)).2) (skB i).length (fun j => .int ((skB i).getD j 0)) A s s.heap
  rw [e1, e2]
  exact had i hi
theorem envStart {args : Array Value} {s : State} {A : Nat → Prop} (hts : ∀ w ∈ lw_tbl, w.before args s = true) (hgv : (Jvm.Cond.and given_1 narrow_1).before args s = true) (hA : ∀ a : Nat, a < s.heap.size → ¬ A a) : ∃ ev : Nat → Nat, EnvX ev A s s.heap := by
  obtain ⟨ev, hS⟩ := skStart hts hgv hA
  have hfl := flat_of_before _ hgv
  have hw : ∀ (i : Nat) (w : Cond), tables_1[i]? = some w → w.before args s = true := fun i w h => hts w (List.mem_append_right _ (List.mem_of_getElem? h))
  have hg : ∀ (i : Nat) (w : Cond), (flatC (Jvm.Cond.and given_1 narrow_1))[i]? = some w → w.before args s = true := fun i w h => hfl w (List.mem_of_getElem? h)
  refine ⟨ev, hS, ?_, ?_, ?_, ?_, ?_, ?_⟩
  · exact va_Zof (hw 760 _ (by decide +kernel)) (hw 20 _ (by decide +kernel)) (va_eqt (hg 6 _ (by decide +kernel))) hA
  · exact vx_Zqof (hw 689 _ (by decide +kernel)) (hw 16 _ (by decide +kernel)) (hg 4 _ (by decide +kernel)) hA
  · exact vx_Zqof (hw 691 _ (by decide +kernel)) (hw 16 _ (by decide +kernel)) (hg 5 _ (by decide +kernel)) hA
  · exact va_Zqof (hw 776 _ (by decide +kernel)) (hw 22 _ (by decide +kernel)) (hg 7 _ (by decide +kernel)) hA
  · exact va_AO.of (hw 355 _ (by decide +kernel))
  · exact va_AO.of (hw 1160 _ (by decide +kernel))
theorem excStart {args : Array Value} {s : State} (hts : ∀ w ∈ lw_tbl, w.before args s = true) (hgv : (Jvm.Cond.and given_1 narrow_1).before args s = true) : EnvT s ∧ va_Nc exI exN s ∧ ∀ w ∈ nestW, va_Nw w s := by
  refine ⟨fun w hw => va_Nw.of (exB_on w hw) (hts w (exB_in w hw)), va_Nc.of (flat_of_before _ hgv _ (List.mem_of_getElem? (i := 36) (by decide +kernel))), fun w hw => ?_⟩
  have h1 : ∀ w ∈ nestW, w ∈ lw_tbl ∧ w.onTables = true := by decide +kernel
  exact va_Nw.of (h1 w hw).2 (hts w (h1 w hw).1)
theorem arrStart {args : Array Value} {s : State} (hts : ∀ w ∈ lw_tbl, w.before args s = true) : ∃ cy : Nat → ClassId, ∀ (k : Nat) (q : ClassId × FieldType), (tyA cy)[k]? = some q → ArrOfT s q.1 q.2 ∧ va_RA s q.1 q.2 := by
  have hw : ∀ (i : Nat) (w : Cond), tables_1[i]? = some w → w.before args s = true := fun i w h => hts w (List.mem_append_right _ (List.mem_of_getElem? h))
  obtain ⟨c0, k0, p0, a0, b0, d0⟩ := Cond.arrayClass_spec (hw 174 (.arrayClass .int) (by decide +kernel))
  obtain ⟨c1, k1, p1, a1, b1, d1⟩ := Cond.arrayClass_spec (hw 74 (.arrayClass .byte) (by decide +kernel))
  obtain ⟨c2, k2, p2, a2, b2, d2⟩ := Cond.arrayClass_spec (hw 175 (.arrayClass .boolean) (by decide +kernel))
  obtain ⟨c3, k3, p3, a3, b3, d3⟩ := Cond.arrayClass_spec (hw 1653 (.arrayClass .long) (by decide +kernel))
  obtain ⟨p4, c4, k4, e4, f4, a4, b4, d4⟩ := Cond.arrayOver_spec (hw 355 (.arrayOver (.object "SaltBells$Folk")) (by decide +kernel))
  obtain ⟨p5, c5, k5, e5, f5, a5, b5, d5⟩ := Cond.arrayOver_spec (hw 1160 (.arrayOver (.object "java/lang/String")) (by decide +kernel))
  refine ⟨rl [c0, c1, c2, c3, c4, c5], fun k q hk => ?_⟩
  match k, hk with
  | 0, hk => cases hk; exact ⟨fun n z => ⟨fun k h => (by cases h), k0, b0, p0, d0⟩, a0⟩
  | 1, hk => cases hk; exact ⟨fun n z => ⟨fun k h => (by cases h), k1, b1, p1, d1⟩, a1⟩
  | 2, hk => cases hk; exact ⟨fun n z => ⟨fun k h => (by cases h), k2, b2, p2, d2⟩, a2⟩
  | 3, hk => cases hk; exact ⟨fun n z => ⟨fun k h => (by cases h), k3, b3, p3, d3⟩, a3⟩
  | 4, hk => cases hk; exact ⟨fun n z => ⟨fun k h => (by cases h), k4, a4, p4, b4⟩, ⟨k4, p4, a4, b4, e4, d4⟩⟩
  | 5, hk => cases hk; exact ⟨fun n z => ⟨fun k h => (by cases h), k5, a5, p5, b5⟩, ⟨k5, p5, a5, b5, e5, d5⟩⟩
  | k + 6, hk => simp [tyA] at hk
theorem clsStart {args : Array Value} {s : State} (hts : ∀ w ∈ lw_tbl, w.before args s = true) : ∃ D : va_G, ∀ (k : Nat) (q : vw_C), clsX[k]? = some q → u_Kn s q.1 q.2.1 q.2.2 (D.1 k) (D.2 k) := by
  have hTB : ∀ w ∈ TB, w.before args s = true := fun w h => hts w (List.mem_filter.mp h).1
  obtain ⟨c0, i0, h0⟩ := u_known (C := RX0) (T := TX0) (N := 7) (n := 7) hTB iX0 (hTB _ mw262)
  obtain ⟨c1, i1, h1⟩ := u_known (C := RX1) (T := TX1) (N := 5) (n := 5) hTB iX1 (hTB _ mw177)
  obtain ⟨c2, i2, h2⟩ := u_known (C := RX2) (T := TX2) (N := 3) (n := 3) hTB iX2 (hTB _ mw200)
  obtain ⟨c3, i3, h3⟩ := u_known (C := RX3) (T := TX3) (N := 5) (n := 5) hTB iX3 (hTB _ mw268)
  obtain ⟨c4, i4, h4⟩ := u_known (C := RX4) (T := TX4) (N := 16) (n := 16) hTB iX4 (hTB _ mw76)
  obtain ⟨c5, i5, h5⟩ := u_known (C := RX5) (T := TX5) (N := 6) (n := 6) hTB iX5 (hTB _ mw235)
  obtain ⟨c6, i6, h6⟩ := u_known (C := RX6) (T := TX6) (N := 6) (n := 6) hTB iX6 (hTB _ mw349)
  obtain ⟨c7, i7, h7⟩ := u_known (C := RX7) (T := TX7) (N := 7) (n := 7) hTB iX7 (hTB _ mw319)
  obtain ⟨c8, i8, h8⟩ := u_known (C := RX8) (T := TX8) (N := 10) (n := 10) hTB iX8 (hTB _ mw34)
  obtain ⟨c9, i9, h9⟩ := u_known (C := RX9) (T := TX9) (N := 4) (n := 4) hTB iX9 (hTB _ mw216)
  obtain ⟨c10, i10, h10⟩ := u_known (C := RX10) (T := TX10) (N := 18) (n := 18) hTB iX10 (hTB _ mw26)
  obtain ⟨c11, i11, h11⟩ := u_known (C := RX11) (T := TX11) (N := 56) (n := 56) hTB iX11 (hTB _ mw1154)
  refine ⟨(rl [c0, c1, c2, c3, c4, c5, c6, c7, c8, c9, c10, c11], fun k => rf [i0, i1, i2, i3, i4, i5, i6, i7, i8, i9, i10, i11] k), fun k q hq => ?_⟩
  match k, hq with
  | 0, hq => cases hq; exact h0
  | 1, hq => cases hq; exact h1
  | 2, hq => cases hq; exact h2
  | 3, hq => cases hq; exact h3
  | 4, hq => cases hq; exact h4
  | 5, hq => cases hq; exact h5
  | 6, hq => cases hq; exact h6
  | 7, hq => cases hq; exact h7
  | 8, hq => cases hq; exact h8
  | 9, hq => cases hq; exact h9
  | 10, hq => cases hq; exact h10
  | 11, hq => cases hq; exact h11
  | k + 12, hq => simp [clsX] at hq
theorem nestW_warm {s U : State} (hW : s.WarmedH U.vm) (h : ∀ w ∈ nestW, va_Nw w s) : ∀ w ∈ nestW, va_Nw w U := by
  intro w hw
  have h0 := h w hw
  simp only [nestW, List.mem_cons, List.not_mem_nil, or_false] at hw
  rcases hw with rfl | rfl | rfl | rfl
  · exact va_Nw.warmM hW h0
  · exact va_Nw.warmM hW h0
  · exact va_Nw.warmM hW h0
  · exact va_Nw.warmM hW h0
theorem blindN {D : va_G} {cy : Nat → ClassId} {ev : Nat → Nat} {W0 : va_W} {sz : Nat} {av : List Value} : FrameBlind (va_Pc av (PreN D cy ev W0 sz)) := fun a U g mk q =>
  ⟨q.1, (blindX (D := D) (cy := cy) (ev := ev) (W0 := W0) (sz := sz) (av := av) a U g mk ⟨q.1, q.2.1⟩).2, nestW_warm (s := U) (U := U.calling g mk a) (State.WarmedH.refl U) q.2.2⟩
section CallsN
variable {p : Program} {l : Launch} {e : Env} {R : Room} {s : State} {m : MethodId} {args : Array Value} {below : List Frame} {meth : Method} {c : Code} {H : Heap} {locs : List Loc} {cells slots : Nat} {Q : State → Prop}
variable {D : va_G} {cy : Nat → ClassId} {ev : Nat → Nat} {A : Nat → Prop} {y : MethodName} {bytes cc : ByteArray} {maxL nL n index pc mc1 ms1 : Nat} {rm : Room} {c0 c1 : Cond} {own host C : String} {b ci : Nat} {As rest st0 : List Value} {ls : Array Slot} {S : Type} {ws Wc Wr : va_W} {W1 : S → va_W} {fs : List Value} {cq : vw_C}
theorem clIn {post : S → Prop} (F : CallFix p m c cc nL s args (c0 :: TB) own) (cw : CallB R s args own index y bytes maxL none (c1 :: TB) rm mc1 ms1 n ∧ y.name = "<init>" ∧ (Cond.instanceMethod y).before args s = true)
    (hM : Met l y (c1 :: TB) rm (va_Pc (.ref b :: As) (PreN D cy ev Wc H.size)) (va_Qv post (fun u => BkX D cy Wc H.size (W1 u)) (va_A Wc H.size)) mc1 ms1 (va_A Wc H.size))
    (hE : EnvX ev A s s.heap) (hN : ∀ w ∈ nestW, va_Nw w s) (hK : va_K D clsX (tyA cy) s) (hP : va_P D clsX ws H) (hD : va_D A ws) (hS : va_S A s.heap H locs) (hA : ∀ q, s.heap.size ≤ q → A q)
    (isC isR : List Nat) (hC : isC.map (fun i => ws[i]?) = Wc.map some) (hR : isR.map (fun i => ws[i]?) = Wr.map some) (hnC : va_nd isC = true) (hnR : va_nd isR = true) (hdis : ∀ i ∈ isR, i ∉ isC)
    (hn : As.length = n) (hsize : ls.size = nL) (hst : st0 = As.reverse ++ .ref b :: rest) (hroom : (rest.map fun v => v.category).sum ≤ 8)
    (hf : cells + mc1 ≤ R.cells ∧ slots + ms1 ≤ R.slots) (hdg : decode cc pc = .ok (.invokespecial index, 3))
    (kk : ∀ (u : S) (H1 : Heap) (locs1 : List Loc), post u → va_P D clsX (Wr ++ W1 u) H1 → va_D A (Wr ++ W1 u) → va_S A s.heap H1 locs1 → W p l e R s m args below meth c H1 locs1 (cells + mc1) (slots + ms1) Q (F0 m (pc + 3) ls rest)) :
    W p l e R s m args below meth c H locs cells slots Q (F0 m pc ls st0) := by
  have hDc : va_D A Wc := hD.sub isC hnC hC
  have hPc : va_P D clsX Wc H := by
    refine hP.sub isC ?_
    have h1 : isC.filterMap (fun i => ws[i]?) = (isC.map (fun i => ws[i]?)).filterMap id := by rw [List.filterMap_map]; rfl
    rw [h1, hC, List.filterMap_map]
    exact List.filterMap_some
  have hFc := va_free (wc := Wc) hD hS hA isC hC
  subst hst
  refine va_callv (va_runI (As := As) (rest := rest) (b := b) F hM cw ⟨blindN, fun U hU hW => ⟨rfl, ⟨by rw [hU], by rw [hU]; exact hPc, va_K.moved hW.alike hK, hDc.weaken (fun _ _ _ _ => trivial), hE.call hS hFc hU hW⟩, nestW_warm hW hN⟩⟩ rfl hn hsize rfl (lv_room hroom) hdg hf) hS (fun q _ h => hFc q h) hFc (fun u t H1 locs1 ht hvm hw hB hz1 hk1 hS1 => ?_)
  obtain ⟨hP1, hK1, hD1⟩ := hB
  rw [ht] at hP1
  obtain ⟨hP2, hD2⟩ := va_join (wr := Wr) (w1 := W1 u) hP hD isC isR hC hR hnR hdis hk1 hFc hP1 hD1
  exact kk u H1 locs1 hw hP2 hD2 hS1
end CallsN
theorem nwL {p : Program} {l : Launch} {e : Env} {R : Room} {s : State} {m : MethodId} {args : Array Value} {below : List Frame} {meth : Method} {c : Code} {H H0 : Heap} {locs : List Loc} {cells slots : Nat} {Q : State → Prop} {cc : ByteArray} {pc : Nat} {ls : Array Slot} {rest : List Value} {ws : va_W} {A : Nat → Prop} {D : va_G} {cy : Nat → ClassId} {c0 : Cond} (hx : p.tables.exec = Jvm.exec) (hb : c.code = cc) (hts : ∀ w ∈ c0 :: TB, w.before args s = true) (hK : va_K D clsX (tyA cy) s) (hP : va_P D clsX ws H) (hD : va_D A ws) (hS : va_S A H0 H locs) (hA : ∀ q, H0.size ≤ q → A q) (hc : cells + 1 ≤ R.cells) (hs : slots + 1 ≤ R.slots) (hd : decode cc pc = .ok (.newarray .long, 2)) (kk : ∀ (q : Nat) (H1 : Heap), va_P D clsX (ws ++ [(q, .inl (cy 3, 1, .inr (.inl (outF 0))))]) H1 → va_D A (ws ++ [(q, .inl (cy 3, 1, .inr (.inl (outF 0))))]) → va_S A H0 H1 locs → W p l e R s m args below meth c H1 locs (cells + 1) (slots + 1) Q (F0 m (pc + 2) ls (.ref q :: rest))) : W p l e R s m args below meth c H locs cells slots Q (F0 m pc ls (.int 1 :: rest)) := by
  have e0 : outF 0 = fun _ => 0 := by
    funext j
    by_cases h : j = 0
    · subst h; rfl
    · simp [outF, h]
  rw [e0] at kk
  refine va_newa (atype := .long) (a0 := (1, .inr (.inl (fun _ => 0)))) hx hb (hts _ (tb mw1653)) (ty := .long) rfl hK hP hD hS hA (fun cA => rfl) (by decide) (by decide) (by decide) hc hs hd (fun q cA H1 hK1 hP1 hD1 hS1 => ?_)
  have e1 : cA = cy 3 := Option.some.inj ((hK1.2 6 (cA, .long) rfl).2.symm.trans (hK.2 3 (cy 3, .long) rfl).2)
  subst e1
  exact kk q H1 hP1 hD1 hS1
def mst0 : ST := sl [(upd (upd (upd (fun _ => 0) 23 (-1 : Int32)) 36 (-1 : Int32)) 45 (-1 : Int32)), (upd (upd (upd (upd (upd (upd (upd (upd (upd (upd (upd (upd (upd (upd (fun _ => 0) 0 (6 : Int32)) 1 (6 : Int32)) 2 (0 : Int32)) 3 (0 : Int32)) 4 (0 : Int32)) 5 (0 : Int32)) 6 (0 : Int32)) 7 (6 : Int32)) 8 (6 : Int32)) 9 (0 : Int32)) 10 (0 : Int32)) 11 (0 : Int32)) 12 (0 : Int32)) 13 (0 : Int32)), (fun _ => 0), (fun _ => 0), (fun _ => 0), (fun _ => 0), (fun _ => 0), (fun _ => 0), (fun _ => 0), (fun _ => 0), (fun _ => 0), (fun _ => 0), (fun _ => 0), (fun _ => 0), (fun _ => 0), (fun _ => 0), (fun _ => 0), (fun _ => 0), (fun _ => 0), (fun _ => 0), (fun _ => 0), (fun _ => 0), (fun _ => 0), (fun _ => 0), (fun _ => 0), (fun _ => 0), (fun _ => 0), (fun _ => 0), (fun _ => 0)]
def wpStart (xs : Nat → Int32) (L : Nat) : Prop := wpX10_tail (upd (fun _ => 0) 16 (-1 : Int32)) (fun _ => 0) (fun _ => 0) (fun _ => 0) (fun _ => 0) (fun _ => 0) (fun _ => 0) (fun _ => 0) (fun _ => 0) (fun _ => 0) (fun _ => 0) (fun _ => 0) (fun _ => 0) (fun _ => 0) (fun _ => 0) (fun _ => 0) (fun _ => 0) (fun _ => 0) (fun _ => 0) (fun _ => 0) (fun w0 w1 w2 w3 w4 w5 w6 w7 w8 w9 w10 w11 w12 w13 => wpLaw xs L 513 (sl [w0, (fun _ => 0), w1, (fun _ => 0), (fun _ => 0), (fun _ => 0), w2, (fun _ => 0), w3, (fun _ => 0), (fun _ => 0), (fun _ => 0), (fun _ => 0), (fun _ => 0), (fun _ => 0), (fun _ => 0), (fun _ => 0), (fun _ => 0), (fun _ => 0), (fun _ => 0), w4, (fun _ => 0), (fun _ => 0), (fun _ => 0), (fun _ => 0), (fun _ => 0), (fun _ => 0), (fun _ => 0), (fun _ => 0), (fun _ => 0), w5, w6, w7, w8, w9, w10, w11, w12, (fun _ => 0), (fun _ => 0), (fun _ => 0), (fun _ => 0), w13, (fun _ => 0), (fun _ => 0), (fun _ => 0), (fun _ => 0), (fun _ => 0), (fun _ => 0), (fun _ => 0), (fun _ => 0), (fun _ => 0), (fun _ => 0), (fun _ => 0), (fun _ => 0), (fun _ => 0), (fun _ => 0), (fun _ => 0), (fun _ => 0), (fun _ => 0), (fun _ => 0), (fun _ => 0), (fun _ => 0)]) mst0 (0 : Int32))
set_option maxHeartbeats 8000000 in
set_option maxRecDepth 100000 in
theorem lw_start {p : Program} {e : Env} {s : State} {m : MethodId} {below : List Frame} {meth : Method} {c : Code} {l : Launch} {b L : Nat} {xs : Nat → Int32} {QQ : State → Prop} (hst : l.stackTraces = false) (hx : p.tables.exec = Jvm.exec) (hb : c.code = cL_law) (hml : c.maxLocals = 7) (hown : s.vm.findClass RL = some m.cls) (hts0 : ∀ w ∈ lw_tbl, w.before #[Value.ref b] s = true) (hX : va_X b L xs s s.heap) (hbl : b < s.heap.size) (hgv : (Jvm.Cond.and given_1 narrow_1).before #[Value.ref b] s = true)
    (hpure : wpStart xs L) (hend : ∀ (H : Heap) (ls : Array Slot), W p l e room_1 s m #[Value.ref b] below meth c H [] 601024 7293034 QQ (F0 m 1464 ls [])) : W p l e room_1 s m #[Value.ref b] below meth c s.heap [] 0 0 QQ (entryFrame m ([Value.ref b] : List Value).toArray 7) := by
  have hA : ∀ q : Nat, s.heap.size ≤ q → (fun q : Nat => s.heap.size ≤ q) q := fun _ h => h
  have hA2 : ∀ a : Nat, a < s.heap.size → ¬ (fun q : Nat => s.heap.size ≤ q) a := fun _ h => Nat.not_le.mpr h
  generalize hAe : (fun q : Nat => s.heap.size ≤ q) = A at hA hA2
  have hbA : ¬ A b := hA2 b hbl
  obtain ⟨ev, hE⟩ := envStart hts0 hgv hA2
  obtain ⟨hT, hN, hNest⟩ := excStart hts0 hgv
  obtain ⟨cy, hcy⟩ := arrStart hts0
  obtain ⟨D, hDc⟩ := clsStart hts0
  have hK : va_K D clsX (tyA cy) s := ⟨hDc, hcy⟩
  have hts : ∀ w ∈ Cond.initialized RL :: TB, w.before #[Value.ref b] s = true := fun w hw => (List.mem_cons.mp hw).elim (fun e => by rw [e]; exact hts0 _ (List.mem_filter.mp mw0).1) (fun h => hts0 w (List.mem_filter.mp h).1)
  have hS : va_S A s.heap s.heap [] := va_S.rf
  have hP : va_P D clsX [] s.heap := fun k q h => by simp at h
  have hD : va_D A [] := ⟨fun i j p q h => by simp at h, fun k q h => by simp at h⟩
  have hRf : 2048 ≤ room_1.frames := Nat.le_refl _
  have hRl : 84000 ≤ room_1.locals := Nat.le_refl _
  have hRc : 601024 ≤ room_1.cells := Nat.le_refl _
  have hRs : 7293034 ≤ room_1.slots := Nat.le_refl _
  have F : LawFix p l room_1 s m #[Value.ref b] c D cy ev A b L xs := ⟨hx, hb, hml, hown, hts, hE, hT, hN, hK, hA, hst, hX, hbl, hbA, hRf, hRl⟩
  have hl := lv_entry ([.ref b]) (n := 7) (Nat.le_of_ble_eq_true rfl)
  rw [lg_entry_eq]
  generalize (lg_sl ([.ref b]) ++ List.replicate (7 - (lg_sl ([.ref b])).length) Slot.unset).toArray = ls at hl ⊢
  have hl : lv_has ls 7 [(0, .ref b)] := hl
  refine va_new (ci := 10) (fs := [.null, .null, .null, .null, .null, .null, .null, .null, .null, .null, .null, .null, .null, .null, .int 0, .int 0, .int 0, .int 0]) (C := RX10) (T := TX10) (N := 18) hx hb hts (fun w h => tb (iX10 w h)) tyX10 tyX10_ok hown (hts _ (tb mw25)) (hts _ (tb mw26)) (hts _ (tb mw1)) hK hP hD hS hA rfl (by decide +kernel) (Nat.le_trans (by decide) hRc) (Nat.le_trans (by decide) hRs) dL_law_0 (fun aS H hP hD hS => ?_)
  have hP : va_P D clsX [(aS, .inr (10, [.null, .null, .null, .null, .null, .null, .null, .null, .null, .null, .null, .null, .null, .null, .int 0, .int 0, .int 0, .int 0]))] H := hP
  have hD : va_D A [(aS, .inr (10, [.null, .null, .null, .null, .null, .null, .null, .null, .null, .null, .null, .null, .null, .null, .int 0, .int 0, .int 0, .int 0]))] := hD
  refine lv_dup hx hb dL_law_3 rfl ?_
  have hM0 := hpure
  unfold wpStart at hM0
  refine clIn (As := []) (rest := [.ref aS]) (Wr := []) ⟨hx, hb, hml, hown, hts⟩ ⟨callB_of 0 hts (goodC mw29) rfl rfl rfl (hts _ (tb mw1)) (hts _ (tb mw27)) kdX10_init ⟨Nat.le_trans (by decide) hRf, Nat.le_trans (by decide) hRl⟩, rfl, hts _ (tb mw28)⟩ (ctX10_init l D cy ev aS _ _ hM0) hE hNest hK hP hD hS hA [0] [] rfl rfl (by decide) (by decide) (by decide) rfl hl.1 rfl (Nat.le_of_ble_eq_true rfl) ⟨Nat.le_trans (by decide) hRc, Nat.le_trans (by decide) hRs⟩ dL_law_4 (fun u H locs hw hP hD hS => ?_)
  refine W.widen (k := 100) (n := 15000) (by decide) (by decide) ?_
  refine lv_astore_n (lv' := [(1, .ref aS), (0, .ref b)]) hx hb dL_law_7 rfl hl (by decide) rfl (fun ls hl => ?_)
  refine va_new (ci := 11) (fs := [.null, .null, .int 0, .null, .null, .null, .null, .null, .null, .null, .null, .null, .null, .null, .int 0, .int 0, .int 0, .int 0, .int 0, .int 0, .int 0, .int 0, .int 0, .int 0, .int 0, .int 0, .null, .null, .null, .null, .int 0, .int 0, .int 0, .int 0, .null, .null, .int 0, .null, .null, .null, .null, .null, .int 0, .int 0, .int 0, .int 0, .int 0, .null, .int 0, .int 0, .int 0, .null, .null, .null, .null, .null]) (C := RX11) (T := TX11) (N := 56) hx hb hts (fun w h => tb (iX11 w h)) tyX11 tyX11_ok hown (hts _ (tb mw1153)) (hts _ (tb mw1154)) (hts _ (tb mw15)) hK hP hD hS hA rfl (by decide +kernel) (Nat.le_trans (by decide) hRc) (Nat.le_trans (by decide) hRs) dL_law_8 (fun aM H hP hD hS => ?_)
  refine lv_dup hx hb dL_law_11 rfl ?_
  refine clIv (As := []) (rest := [.ref aM]) (Wr := [(aS, .inr (10, oX10 (u.1.1) (u.2.1))), (((u.1.1) 1), .inr (8, oX8 (u.1.2.1) (fun _ => 0))), (((u.1.1) 2), .inr (4, oX4 (u.1.2.2.1) (u.2.2.1))), (((u.1.1) 3), .inr (4, oX4 (u.1.2.2.2.1) (fun _ => 0))), (((u.1.1) 4), .inr (1, oX1 (u.1.2.2.2.2.1))), (((u.1.1) 5), .inr (2, oX2 (u.1.2.2.2.2.2.1))), (((u.1.1) 6), .inr (9, oX9 (rtP ((u.1.1) 1) ((u.1.1) 3) 0 (u.1.2.2.2.2.2.2.1)) (fun _ => 0))), (((u.1.1) 7), .inr (5, oX5 (rtQ ((u.1.1) 1) (u.1.2.2.2.2.2.2.2.1)) (fun _ => 0))), (((u.1.1) 8), .inr (0, oX0 (u.1.2.2.2.2.2.2.2.2.1) (u.2.2.2.1))), (((u.1.2.2.2.2.2.2.2.2.1) 0), .inr (3, oX3 (rtP ((u.1.1) 2) ((u.1.1) 4) ((u.1.1) 5) (u.1.2.2.2.2.2.2.2.2.2.1)))), (((u.1.1) 9), .inr (0, oX0 (u.1.2.2.2.2.2.2.2.2.2.2.1) (fun _ => 0))), (((u.1.2.2.2.2.2.2.2.2.2.2.1) 0), .inr (3, oX3 (rtP ((u.1.1) 2) ((u.1.1) 4) ((u.1.1) 5) (u.1.2.2.2.2.2.2.2.2.2.2.2.1)))), (((u.1.1) 10), .inr (7, oX7 (rtP ((u.1.1) 2) ((u.1.1) 4) ((u.1.1) 5) (u.1.2.2.2.2.2.2.2.2.2.2.2.2.1)) (u.2.2.2.2.1))), (((u.1.1) 11), .inr (6, oX6 (rtQ ((u.1.1) 2) (u.1.2.2.2.2.2.2.2.2.2.2.2.2.2.1)) (fun _ => 0))), (((u.1.2.2.2.2.2.2.2.2.2.2.2.2.2.2.2.2.2.2.2.2) 0), .inr (3, oX3 (rtP ((u.1.1) 2) ((u.1.1) 4) ((u.1.1) 5) (u.1.2.2.2.2.2.2.2.2.2.2.2.2.2.2.1)))), (((u.1.2.2.2.2.2.2.2.2.2.2.2.2.2.2.2.2.2.2.2.2) 1), .inr (3, oX3 (rtP ((u.1.1) 2) ((u.1.1) 4) ((u.1.1) 5) (u.1.2.2.2.2.2.2.2.2.2.2.2.2.2.2.2.1)))), (((u.1.2.2.2.2.2.2.2.2.2.2.2.2.2.2.2.2.2.2.2.2) 2), .inr (3, oX3 (rtP ((u.1.1) 2) ((u.1.1) 4) ((u.1.1) 5) (u.1.2.2.2.2.2.2.2.2.2.2.2.2.2.2.2.2.1)))), (((u.1.2.2.2.2.2.2.2.2.2.2.2.2.2.2.2.2.2.2.2.2) 3), .inr (3, oX3 (rtP ((u.1.1) 2) ((u.1.1) 4) ((u.1.1) 5) (u.1.2.2.2.2.2.2.2.2.2.2.2.2.2.2.2.2.2.1)))), (((u.1.2.2.2.2.2.2.2.2.2.2.2.2.2.2.2.2.2.2.2.2) 4), .inr (3, oX3 (rtP ((u.1.1) 2) ((u.1.1) 4) ((u.1.1) 5) (u.1.2.2.2.2.2.2.2.2.2.2.2.2.2.2.2.2.2.2.1)))), (((u.1.1) 12), .inr (3, oX3 (rtP ((u.1.1) 2) ((u.1.1) 4) ((u.1.1) 5) (u.1.2.2.2.2.2.2.2.2.2.2.2.2.2.2.2.2.2.2.2.1)))), (((u.1.1) 0), .inl (cy 1, 500, .inl (fun _ => 0))), (((u.1.1) 13), .inl (cy 0, 4, .inl (fun _ => 0))), (((u.1.2.2.1) 7), .inl (cy 0, 5, .inl (fun _ => 0))), (((u.1.2.2.1) 8), .inl (cy 0, 5, .inl (fun _ => 0))), (((u.1.2.2.1) 9), .inl (cy 0, 5, .inl (fun _ => 0))), (((u.1.2.2.1) 10), .inl (cy 0, 5, .inl (fun _ => 0))), (((u.1.2.2.1) 11), .inl (cy 2, 5, .inl (fun _ => 0))), (((u.1.2.2.1) 12), .inl (cy 0, 4, .inl (fun _ => 0))), (((u.1.2.2.1) 13), .inl (cy 0, 4, .inl (fun _ => 0))), (((u.1.2.2.1) 14), .inl (cy 0, 4, .inl (fun _ => 0))), (((u.1.2.2.1) 15), .inl (cy 2, 100, .inl (u.2.2.2.2.2.1))), (((u.1.2.2.2.1) 7), .inl (cy 0, 5, .inl (fun _ => 0))), (((u.1.2.2.2.1) 8), .inl (cy 0, 5, .inl (fun _ => 0))), (((u.1.2.2.2.1) 9), .inl (cy 0, 5, .inl (fun _ => 0))), (((u.1.2.2.2.1) 10), .inl (cy 0, 5, .inl (fun _ => 0))), (((u.1.2.2.2.1) 11), .inl (cy 2, 5, .inl (fun _ => 0))), (((u.1.2.2.2.1) 12), .inl (cy 0, 4, .inl (fun _ => 0))), (((u.1.2.2.2.1) 13), .inl (cy 0, 4, .inl (fun _ => 0))), (((u.1.2.2.2.1) 14), .inl (cy 0, 4, .inl (fun _ => 0))), (((u.1.2.2.2.1) 15), .inl (cy 2, 100, .inl (fun _ => 0))), (((u.1.2.2.2.2.1) 0), .inl (cy 1, 100, .inl (u.2.2.2.2.2.2.1))), (((u.1.2.2.2.2.1) 1), .inl (cy 1, 3200, .inl (u.2.2.2.2.2.2.2.1))), (((u.1.2.2.2.2.1) 2), .inl (cy 0, 5, .inl (u.2.2.2.2.2.2.2.2.1))), (((u.1.2.2.2.2.1) 3), .inl (cy 0, 4, .inl (u.2.2.2.2.2.2.2.2.2.1))), (((u.1.2.2.2.2.1) 4), .inl (cy 0, 5, .inl (u.2.2.2.2.2.2.2.2.2.2.1))), (((u.1.2.2.2.2.2.1) 0), .inl (cy 0, 400, .inl (u.2.2.2.2.2.2.2.2.2.2.2.1))), (((u.1.2.2.2.2.2.1) 1), .inl (cy 0, 500, .inl (u.2.2.2.2.2.2.2.2.2.2.2.2.1))), (((u.1.2.2.2.2.2.1) 2), .inl (cy 0, 5, .inl (u.2.2.2.2.2.2.2.2.2.2.2.2.2.1))), (((rtQ ((u.1.1) 1) (u.1.2.2.2.2.2.2.2.1)) 1), .inl (cy 0, 3, .inl (fun _ => 0))), (((rtQ ((u.1.1) 1) (u.1.2.2.2.2.2.2.2.1)) 2), .inl (cy 0, 3, .inl (fun _ => 0))), (((rtQ ((u.1.1) 1) (u.1.2.2.2.2.2.2.2.1)) 4), .inl (cy 0, 200, .inl (fun _ => 0))), (((u.1.2.2.2.2.2.2.2.2.1) 1), .inl (cy 0, 3400, .inl (fun _ => 0))), (((rtP ((u.1.1) 2) ((u.1.1) 4) ((u.1.1) 5) (u.1.2.2.2.2.2.2.2.2.2.1)) 3), .inl (cy 0, 29, .inl (u.2.2.2.2.2.2.2.2.2.2.2.2.2.2))), (((rtP ((u.1.1) 2) ((u.1.1) 4) ((u.1.1) 5) (u.1.2.2.2.2.2.2.2.2.2.1)) 4), .inl (cy 0, 4, .inl (fun _ => 0))), (((u.1.2.2.2.2.2.2.2.2.2.2.1) 1), .inl (cy 0, 3400, .inl (fun _ => 0))), (((rtP ((u.1.1) 2) ((u.1.1) 4) ((u.1.1) 5) (u.1.2.2.2.2.2.2.2.2.2.2.2.1)) 3), .inl (cy 0, 29, .inl (fun _ => 0))), (((rtP ((u.1.1) 2) ((u.1.1) 4) ((u.1.1) 5) (u.1.2.2.2.2.2.2.2.2.2.2.2.1)) 4), .inl (cy 0, 4, .inl (fun _ => 0))), (((rtP ((u.1.1) 2) ((u.1.1) 4) ((u.1.1) 5) (u.1.2.2.2.2.2.2.2.2.2.2.2.2.1)) 3), .inl (cy 0, 100, .inl (fun _ => 0))), (((rtP ((u.1.1) 2) ((u.1.1) 4) ((u.1.1) 5) (u.1.2.2.2.2.2.2.2.2.2.2.2.2.1)) 4), .inl (cy 0, 100, .inl (fun _ => 0))), (((rtQ ((u.1.1) 2) (u.1.2.2.2.2.2.2.2.2.2.2.2.2.2.1)) 2), .inl (cy 0, 4, .inl (fun _ => 0))), (((rtQ ((u.1.1) 2) (u.1.2.2.2.2.2.2.2.2.2.2.2.2.2.1)) 3), .inl (cy 0, 4, .inl (fun _ => 0))), (((rtP ((u.1.1) 2) ((u.1.1) 4) ((u.1.1) 5) (u.1.2.2.2.2.2.2.2.2.2.2.2.2.2.2.1)) 3), .inl (cy 0, 29, .inl (fun _ => 0))), (((rtP ((u.1.1) 2) ((u.1.1) 4) ((u.1.1) 5) (u.1.2.2.2.2.2.2.2.2.2.2.2.2.2.2.1)) 4), .inl (cy 0, 4, .inl (fun _ => 0))), (((rtP ((u.1.1) 2) ((u.1.1) 4) ((u.1.1) 5) (u.1.2.2.2.2.2.2.2.2.2.2.2.2.2.2.2.1)) 3), .inl (cy 0, 29, .inl (fun _ => 0))), (((rtP ((u.1.1) 2) ((u.1.1) 4) ((u.1.1) 5) (u.1.2.2.2.2.2.2.2.2.2.2.2.2.2.2.2.1)) 4), .inl (cy 0, 4, .inl (fun _ => 0))), (((rtP ((u.1.1) 2) ((u.1.1) 4) ((u.1.1) 5) (u.1.2.2.2.2.2.2.2.2.2.2.2.2.2.2.2.2.1)) 3), .inl (cy 0, 29, .inl (fun _ => 0))), (((rtP ((u.1.1) 2) ((u.1.1) 4) ((u.1.1) 5) (u.1.2.2.2.2.2.2.2.2.2.2.2.2.2.2.2.2.1)) 4), .inl (cy 0, 4, .inl (fun _ => 0))), (((rtP ((u.1.1) 2) ((u.1.1) 4) ((u.1.1) 5) (u.1.2.2.2.2.2.2.2.2.2.2.2.2.2.2.2.2.2.1)) 3), .inl (cy 0, 29, .inl (fun _ => 0))), (((rtP ((u.1.1) 2) ((u.1.1) 4) ((u.1.1) 5) (u.1.2.2.2.2.2.2.2.2.2.2.2.2.2.2.2.2.2.1)) 4), .inl (cy 0, 4, .inl (fun _ => 0))), (((rtP ((u.1.1) 2) ((u.1.1) 4) ((u.1.1) 5) (u.1.2.2.2.2.2.2.2.2.2.2.2.2.2.2.2.2.2.2.1)) 3), .inl (cy 0, 29, .inl (fun _ => 0))), (((rtP ((u.1.1) 2) ((u.1.1) 4) ((u.1.1) 5) (u.1.2.2.2.2.2.2.2.2.2.2.2.2.2.2.2.2.2.2.1)) 4), .inl (cy 0, 4, .inl (fun _ => 0))), (((rtP ((u.1.1) 2) ((u.1.1) 4) ((u.1.1) 5) (u.1.2.2.2.2.2.2.2.2.2.2.2.2.2.2.2.2.2.2.2.1)) 3), .inl (cy 0, 29, .inl (fun _ => 0))), (((rtP ((u.1.1) 2) ((u.1.1) 4) ((u.1.1) 5) (u.1.2.2.2.2.2.2.2.2.2.2.2.2.2.2.2.2.2.2.2.1)) 4), .inl (cy 0, 4, .inl (fun _ => 0))), (((rtQ ((u.1.1) 2) (u.1.2.2.2.2.2.2.2.2.2.2.2.2.2.1)) 1), .inl (cy 4, 5, .inr (.inr (.inr (.inr (fun i => some ((u.1.2.2.2.2.2.2.2.2.2.2.2.2.2.2.2.2.2.2.2.2) i)))))))]) ⟨hx, hb, hml, hown, hts⟩ ⟨callB_of 0 hts (goodC mw1157) rfl rfl rfl (hts _ (tb mw15)) (hts _ (tb mw1155)) kdX11_init ⟨Nat.le_trans (by decide) hRf, Nat.le_trans (by decide) hRl⟩, rfl, hts _ (tb mw1156)⟩ (ctX11_init l D cy ev aM _) hE hK hP hD hS hA [74] [0, 1, 2, 3, 4, 5, 6, 7, 8, 9, 10, 11, 12, 13, 14, 15, 16, 17, 18, 19, 20, 21, 22, 23, 24, 25, 26, 27, 28, 29, 30, 31, 32, 33, 34, 35, 36, 37, 38, 39, 40, 41, 42, 43, 44, 45, 46, 47, 48, 49, 50, 51, 52, 53, 54, 55, 56, 57, 58, 59, 60, 61, 62, 63, 64, 65, 66, 67, 68, 69, 70, 71, 72, 73] rfl rfl (by decide) (by decide) (by decide) rfl hl.1 rfl (Nat.le_of_ble_eq_true rfl) ⟨Nat.le_trans (by decide) hRc, Nat.le_trans (by decide) hRs⟩ dL_law_12 (fun u11 H locs _ hP hD hS => ?_)
  refine W.widen (k := 1000) (n := 100000) (by decide) (by decide) ?_
  refine lv_astore_n (lv' := [(2, .ref aM), (1, .ref aS), (0, .ref b)]) hx hb dL_law_15 rfl hl (by decide) rfl (fun ls hl => ?_)
  refine lv_iconst (v := (1 : Int32)) hx hb dL_law_16 (by decide) ?_
  refine nwL hx hb hts hK hP hD hS hA (Nat.le_trans (by decide) hRc) (Nat.le_trans (by decide) hRs) dL_law_17 (fun aO H hP hD hS => ?_)
  refine lv_astore_n (lv' := [(3, .ref aO), (2, .ref aM), (1, .ref aS), (0, .ref b)]) hx hb dL_law_19 rfl hl (by decide) rfl (fun ls hl => ?_)
  refine lv_iconst (v := (0 : Int32)) hx hb dL_law_20 (by decide) ?_
  refine lv_istore (lv' := [(4, .int (0 : Int32)), (3, .ref aO), (2, .ref aM), (1, .ref aS), (0, .ref b)]) hx hb dL_law_21 hl (by decide) rfl (fun ls hl => ?_)
  refine W.widen (k := 2000) (n := 200000) (by decide) (by decide) ?_
  refine lw_loop F aS aM aO (rf [u.1.1, u.1.2.1, u.1.2.2.1, u.1.2.2.2.1, u.1.2.2.2.2.1, u.1.2.2.2.2.2.1, u.1.2.2.2.2.2.2.1, u.1.2.2.2.2.2.2.2.1, u.1.2.2.2.2.2.2.2.2.1, u.1.2.2.2.2.2.2.2.2.2.1, u.1.2.2.2.2.2.2.2.2.2.2.1, u.1.2.2.2.2.2.2.2.2.2.2.2.1, u.1.2.2.2.2.2.2.2.2.2.2.2.2.1, u.1.2.2.2.2.2.2.2.2.2.2.2.2.2.1, u.1.2.2.2.2.2.2.2.2.2.2.2.2.2.2.1, u.1.2.2.2.2.2.2.2.2.2.2.2.2.2.2.2.1, u.1.2.2.2.2.2.2.2.2.2.2.2.2.2.2.2.2.1, u.1.2.2.2.2.2.2.2.2.2.2.2.2.2.2.2.2.2.1, u.1.2.2.2.2.2.2.2.2.2.2.2.2.2.2.2.2.2.2.1, u.1.2.2.2.2.2.2.2.2.2.2.2.2.2.2.2.2.2.2.2.1, u.1.2.2.2.2.2.2.2.2.2.2.2.2.2.2.2.2.2.2.2.2, u11]) 601024 7293034 hRc hRs ?_ 513 (sl [(u.2.1), (fun _ => 0), (u.2.2.1), (fun _ => 0), (fun _ => 0), (fun _ => 0), (u.2.2.2.1), (fun _ => 0), (u.2.2.2.2.1), (fun _ => 0), (fun _ => 0), (fun _ => 0), (fun _ => 0), (fun _ => 0), (fun _ => 0), (fun _ => 0), (fun _ => 0), (fun _ => 0), (fun _ => 0), (fun _ => 0), (u.2.2.2.2.2.1), (fun _ => 0), (fun _ => 0), (fun _ => 0), (fun _ => 0), (fun _ => 0), (fun _ => 0), (fun _ => 0), (fun _ => 0), (fun _ => 0), (u.2.2.2.2.2.2.1), (u.2.2.2.2.2.2.2.1), (u.2.2.2.2.2.2.2.2.1), (u.2.2.2.2.2.2.2.2.2.1), (u.2.2.2.2.2.2.2.2.2.2.1), (u.2.2.2.2.2.2.2.2.2.2.2.1), (u.2.2.2.2.2.2.2.2.2.2.2.2.1), (u.2.2.2.2.2.2.2.2.2.2.2.2.2.1), (fun _ => 0), (fun _ => 0), (fun _ => 0), (fun _ => 0), (u.2.2.2.2.2.2.2.2.2.2.2.2.2.2), (fun _ => 0), (fun _ => 0), (fun _ => 0), (fun _ => 0), (fun _ => 0), (fun _ => 0), (fun _ => 0), (fun _ => 0), (fun _ => 0), (fun _ => 0), (fun _ => 0), (fun _ => 0), (fun _ => 0), (fun _ => 0), (fun _ => 0), (fun _ => 0), (fun _ => 0), (fun _ => 0), (fun _ => 0), (fun _ => 0)]) mst0 (u.1.2.1) 0 0 2000 200000 H locs ls (by decide) (by decide) hw (hP.sub (List.range 106) rfl) (hD.sub (List.range 106) (by decide) rfl) hS (lv_sub hl [4, 3, 2, 1, 0] rfl)
  intro cs ms rR ov l4 H locs ls hP hD hS
  refine va_forget (fun q hq => ?_) (hend H ls)
  have h9 := hS.2.2 q hq
  rw [← hAe] at h9
  exact h9
