/-! the law's helpers: an array of one long, calls that are caught -/
def outF (v : Int32) : Nat → Int64 := fun j => if j = 0 then v.toInt64 else 0
theorem outF_upd (v x : Int32) : vp_updL (outF v) 0 x.toInt64 = outF x := by
  funext j
  by_cases h : j = 0
  · subst h; simp [vp_updL, outF]
  · simp [vp_updL, outF, h]
theorem outF_zero (v : Int32) : outF v 0 = v.toInt64 := by simp [outF]
abbrev PreU (D : va_G) (cy : Nat → ClassId) (ev : Nat → Nat) (W0 : va_W) (sz : Nat) : State → Prop := fun U => PreT D cy ev W0 sz U ∧ va_Nc exI exN U
theorem blindU {D : va_G} {cy : Nat → ClassId} {ev : Nat → Nat} {W0 : va_W} {sz : Nat} {av : List Value} : FrameBlind (va_Pc av (PreU D cy ev W0 sz)) := fun a U g mk q =>
  ⟨q.1, (blindT (D := D) (cy := cy) (ev := ev) (W0 := W0) (sz := sz) (av := av) a U g mk ⟨q.1, q.2.1⟩).2, va_Nc.moved (u := U) (U := U.calling g mk a) (Vm.Alike.refl U.vm) q.2.2⟩
section BodiesH
variable {l : Launch} {D : va_G} {cy : Nat → ClassId} {ev : Nat → Nat} {y : MethodName} {rm : Room} {cc : ByteArray} {maxL mc ms : Nat} {av : List Value} {W0 : va_W} {sz : Nat} {S : Type} {W1 : S → va_W} {hh : List (Nat × Nat × Nat × Nat)}
theorem sb_ofWH {ws ws' : List Cond} {Pc : Array Value → State → Prop} {Qc : Array Value → State → Outcome → State → Prop} {free : Addr → Prop} {ret : Option FieldType}
    (hy : plainName y.cls = true) (hw : ws = Cond.codeWith y cc maxL ret hh :: ws')
    (body : ∀ p e s m args below meth c s₁, BodyLoose p l y (headSpec ws rm) cc maxL ret e s m args below meth c s₁ → c.maxLocals = maxL → c.exceptionTable.toList = tableOf hh → Pc args s →
      W p l e (headSpec ws rm).room s m args below meth c s.heap [] 0 0 (MQ below Qc args s mc ms free) (entryFrame m args maxL)) : Met l y ws rm Pc Qc mc ms free := by
  refine MetFree.of_bodyS (code := cc) (maxLocals := maxL) (ret := ret) hy ?_ ?_
  · intro args s m h hn
    obtain ⟨m9, meth, c, hn9, h1, h2, h3, h4, -, h5, h6, -⟩ := Cond.codeWith_spec (atoms_spec (ws := ws) h _ (by rw [hw]; exact List.mem_cons_self))
    cases hn.symm.trans hn9
    exact ⟨meth, c, h1, h2, h3, h4, h5, h6⟩
  · intro p e s m args below meth c s₁ B hml hP _
    have hh0 : s₁.heap = s.heap := by rw [B.state]; rfl
    have ht : c.exceptionTable.toList = tableOf hh := vx_table (x := y) B (atoms_spec (ws := ws) B.pre _ (by rw [hw]; exact List.mem_cons_self))
    obtain ⟨t, a1, o, b1, b2, b3⟩ := body p e s m args below meth c s₁ B hml ht hP s₁ hh0 (Stand.of_body B)
    exact ⟨t, o, a1, b1, b2, ⟨b3.1, b3.2⟩⟩
theorem ofHi {post : Int32 → S → Prop} (hy : plainName y.cls = true) (hlen : (lg_sl av).length ≤ maxL)
    (body : ∀ (p : Program) (e : Env) (s : State) (m : MethodId) (args : Array Value) (below : List Frame) (meth : Method) (c : Code) (ls : Array Slot) (A : Nat → Prop) (R : Room) (QQ : State → Prop),
      p.tables.exec = Jvm.exec → c.code = cc → c.maxLocals = maxL → s.vm.findClass y.cls = some m.cls → (∀ w ∈ Cond.codeWith y cc maxL (some .int) hh :: TB, w.before args s = true) → c.exceptionTable.toList = tableOf hh →
      R = rm → EnvX ev A s s.heap → EnvT s → va_Nc exI exN s → va_K D clsX (tyA cy) s → va_P D clsX W0 s.heap → va_D A W0 → va_S A s.heap s.heap [] → (∀ q, s.heap.size ≤ q → A q) → lv_has ls maxL (lv_args 0 av) →
      (∀ (r : Int32) (u : S) (H : Heap) (locs : List Loc) (ls : Array Slot) (pc : Nat), decode cc pc = .ok (.ireturn, 1) → post r u → va_P D clsX (W1 u) H → va_D A (W1 u) → va_S A s.heap H locs → W p l e R s m args below meth c H locs mc ms QQ (F0 m pc ls [.int r])) →
      W p l e R s m args below meth c s.heap [] 0 0 QQ (F0 m 0 ls [])) :
    Met l y (Cond.codeWith y cc maxL (some .int) hh :: TB) rm (va_Pc av (PreU D cy ev W0 sz)) (va_Qi post (fun u => BkX D cy W0 sz (W1 u)) (va_A W0 sz)) mc ms (va_A W0 sz) := by
  refine sb_ofWH (cc := cc) (maxL := maxL) (ret := some .int) hy rfl ?_
  intro p e s m args below meth c s₁ B hml htab hv
  obtain ⟨rfl, ⟨⟨hsz, hP, hK, hD0, hE⟩, hT⟩, hN⟩ := hv
  have hx := B.exec
  have hb := B.bytes
  have hr := B.returns
  have hts := atoms_spec (ws := Cond.codeWith y cc maxL (some .int) hh :: TB) B.pre
  have hown : s.vm.findClass y.cls = some m.cls := findClass_of_methodNamed B.named
  have hlocks := B.notSynchronized
  subst hsz
  have hD := hD0.self (sz := s.heap.size)
  have hl := lv_entry av (n := maxL) hlen
  rw [lg_entry_eq]
  refine body p e s m _ below meth c _ (va_A W0 s.heap.size) _ _ hx hb hml hown hts htab rfl hE hT hN hK hP hD va_S.rf (fun q h => Or.inr h) hl ?_
  intro r u H locs ls pc hd hp hP1 hD1 hS
  exact W.zret (v := r) hx hb hr rfl (fun t ht hW => ⟨⟨r, u, rfl, hp, by rw [ht]; exact hP1, va_K.moved hW.alike hK, hD1⟩, hS.F ht⟩) hS.2.2 hd
end BodiesH
section CallsH
variable {p : Program} {l : Launch} {e : Env} {R : Room} {s : State} {m : MethodId} {args : Array Value} {below : List Frame} {meth : Method} {c : Code} {H : Heap} {locs : List Loc} {cells slots : Nat} {Q : State → Prop}
variable {D : va_G} {cy : Nat → ClassId} {ev : Nat → Nat} {A : Nat → Prop} {y : MethodName} {bytes cc : ByteArray} {maxL nL n index pc mc1 ms1 : Nat} {ret : Option FieldType} {rm : Room} {c0 c1 : Cond} {own : String} {As rest st0 : List Value} {ls : Array Slot} {S : Type} {ws Wc Wr : va_W} {W1 : S → va_W} {hh : List (Nat × Nat × Nat × Nat)}
theorem clHi {post : Int32 → S → Prop} (F : CallFix p m c cc nL s args (c0 :: TB) own) (cw : vx_CSW R s args own index y bytes maxL ret hh (c1 :: TB) rm mc1 ms1 n)
    (hM : Met l y (c1 :: TB) rm (va_Pc As (PreU D cy ev Wc H.size)) (va_Qi post (fun u => BkX D cy Wc H.size (W1 u)) (va_A Wc H.size)) mc1 ms1 (va_A Wc H.size))
    (hE : EnvX ev A s s.heap) (hT : EnvT s) (hN : va_Nc exI exN s) (hK : va_K D clsX (tyA cy) s) (hP : va_P D clsX ws H) (hD : va_D A ws) (hS : va_S A s.heap H locs) (hA : ∀ q, s.heap.size ≤ q → A q)
    (isC isR : List Nat) (hC : isC.map (fun i => ws[i]?) = Wc.map some) (hR : isR.map (fun i => ws[i]?) = Wr.map some) (hnC : va_nd isC = true) (hnR : va_nd isR = true) (hdis : ∀ i ∈ isR, i ∉ isC)
    (hn : As.length = n) (hsize : ls.size = nL) (hst : st0 = As.reverse ++ rest) (hroom : (rest.map fun v => v.category).sum ≤ 8)
    (hf : cells + mc1 ≤ R.cells ∧ slots + ms1 ≤ R.slots) (hdg : decode cc pc = .ok (.invokestatic index, 3))
    (kk : ∀ (r : Int32) (u : S) (H1 : Heap) (locs1 : List Loc), post r u → va_P D clsX (Wr ++ W1 u) H1 → va_D A (Wr ++ W1 u) → va_S A s.heap H1 locs1 → W p l e R s m args below meth c H1 locs1 (cells + mc1) (slots + ms1) Q (F0 m (pc + 3) ls (.int r :: rest))) :
    W p l e R s m args below meth c H locs cells slots Q (F0 m pc ls st0) := by
  have hDc : va_D A Wc := hD.sub isC hnC hC
  have hPc : va_P D clsX Wc H := by
    refine hP.sub isC ?_
    have h1 : isC.filterMap (fun i => ws[i]?) = (isC.map (fun i => ws[i]?)).filterMap id := by rw [List.filterMap_map]; rfl
    rw [h1, hC, List.filterMap_map]
    exact List.filterMap_some
  have hFc := va_free (wc := Wc) hD hS hA isC hC
  subst hst
  refine va_calli (vx_runSW (As := As) (rest := rest) F hM cw ⟨blindU, fun U hU hW => ⟨rfl, ⟨⟨by rw [hU], by rw [hU]; exact hPc, va_K.moved hW.alike hK, hDc.weaken (fun _ _ _ _ => trivial), hE.call hS hFc hU hW⟩, hT.warm hW⟩, va_Nc.moved hW.alike hN⟩⟩ rfl hn hsize rfl (lv_room hroom) hdg hf) hS (fun q _ h => hFc q h) hFc (fun r u t H1 locs1 ht hvm hw hB hz1 hk1 hS1 => ?_)
  obtain ⟨hP1, hK1, hD1⟩ := hB
  rw [ht] at hP1
  obtain ⟨hP2, hD2⟩ := va_join (wr := Wr) (w1 := W1 u) hP hD isC isR hC hR hnR hdis hk1 hFc hP1 hD1
  exact kk r u H1 locs1 hw hP2 hD2 hS1
end CallsH
theorem mwL_flat : Cond.codeWith yL_flat cL_flat 4 (some .int) [(0, 9, 12, 13)] ∈ TB := memTB 652 (by decide +kernel) (by decide +kernel)
theorem dL_flat_0 : decode cL_flat 0 = .ok (.aload_n 2, 1) := by decide +kernel
theorem dL_flat_1 : decode cL_flat 1 = .ok (.iconst 0, 1) := by decide +kernel
theorem dL_flat_2 : decode cL_flat 2 = .ok (.aload_n 0, 1) := by decide +kernel
theorem dL_flat_3 : decode cL_flat 3 = .ok (.iload_n 1, 1) := by decide +kernel
theorem dL_flat_4 : decode cL_flat 4 = .ok (.invokevirtual 7, 3) := by decide +kernel
theorem dL_flat_7 : decode cL_flat 7 = .ok (.i2l, 1) := by decide +kernel
theorem dL_flat_8 : decode cL_flat 8 = .ok (.lastore, 1) := by decide +kernel
theorem dL_flat_9 : decode cL_flat 9 = .ok (.goto 6, 3) := by decide +kernel
theorem dL_flat_12 : decode cL_flat 12 = .ok (.astore_n 3, 1) := by decide +kernel
theorem dL_flat_13 : decode cL_flat 13 = .ok (.iconst 1, 1) := by decide +kernel
theorem dL_flat_14 : decode cL_flat 14 = .ok (.ireturn, 1) := by decide +kernel
theorem dL_flat_15 : decode cL_flat 15 = .ok (.iconst 0, 1) := by decide +kernel
theorem dL_flat_16 : decode cL_flat 16 = .ok (.ireturn, 1) := by decide +kernel
def wpL_flat (sS : AR) (sR : AR) (sL : AR) (sT : AR) (sC : AR) (sG : AR) (sQ : AR) (S_tape : AR) (T_towerCell : AR) (T_range : AR) (T_voice : AR) (T_strokes : AR) (T_isFalse : AR) (T_kind : AR) (T_home : AR) (T_water : AR) (T_mirage : AR) (G_towerCell : AR) (G_range : AR) (G_voice : AR) (G_strokes : AR) (G_isFalse : AR) (G_kind : AR) (G_home : AR) (G_water : AR) (G_mirage : AR) (E_heardAt : AR) (E_nearest : AR) (E_distances : AR) (E_ofVoice : AR) (E_alike : AR) (W_next : AR) (W_way : AR) (W_goal : AR) (F_all : AR) (ov : Int32) (x1 : Int32) (post : Int32 → AR → AR → AR → AR → AR → AR → AR → AR → AR → AR → AR → AR → AR → AR → AR → AR → AR → AR → AR → AR → AR → AR → AR → AR → AR → AR → AR → AR → AR → AR → AR → AR → AR → AR → Int32 → Prop) : Prop := wpX10_flat sS sR sL sT sC sG sQ S_tape T_towerCell T_range T_voice T_strokes T_isFalse T_kind T_home T_water T_mirage G_towerCell G_range G_voice G_strokes G_isFalse G_kind G_home G_water G_mirage E_heardAt E_nearest E_distances E_ofVoice E_alike W_next W_way W_goal F_all x1 (fun r w0 w1 w2 w3 w4 w5 w6 w7 w8 w9 w10 w11 w12 w13 w14 w15 w16 w17 w18 w19 w20 w21 w22 w23 w24 w25 w26 w27 w28 w29 w30 w31 w32 w33 => post (0 : Int32) w0 w1 w2 w3 w4 w5 w6 w7 w8 w9 w10 w11 w12 w13 w14 w15 w16 w17 w18 w19 w20 w21 w22 w23 w24 w25 w26 w27 w28 w29 w30 w31 w32 w33 r) (fun E => E = exI ∧ post (1 : Int32) sS sR sL sT sC sG sQ T_towerCell T_range T_voice T_strokes T_isFalse T_kind T_home T_water T_mirage G_towerCell G_range G_voice G_strokes G_isFalse G_kind G_home G_water G_mirage E_heardAt E_nearest E_distances E_ofVoice E_alike W_next W_way W_goal F_all ov)
set_option maxHeartbeats 4000000 in
set_option maxRecDepth 100000 in
theorem ctL_flat (l : Launch) (D : va_G) (cy : Nat → ClassId) (ev : Nat → Nat) (hst : l.stackTraces = false) (h0 : Nat) (rS : Nat → Nat) (rR : Nat → Nat) (rL : Nat → Nat) (rT : Nat → Nat) (rC : Nat → Nat) (rG : Nat → Nat) (rE : Nat → Nat) (rW : Nat → Nat) (rF : Nat → Nat) (rQ : Nat → Nat) (sS : AR) (sR : AR) (sL : AR) (sT : AR) (sC : AR) (sG : AR) (sQ : AR) (S_tape : AR) (T_towerCell : AR) (T_range : AR) (T_voice : AR) (T_strokes : AR) (T_isFalse : AR) (T_kind : AR) (T_home : AR) (T_water : AR) (T_mirage : AR) (G_towerCell : AR) (G_range : AR) (G_voice : AR) (G_strokes : AR) (G_isFalse : AR) (G_kind : AR) (G_home : AR) (G_water : AR) (G_mirage : AR) (E_heardAt : AR) (E_nearest : AR) (E_distances : AR) (E_ofVoice : AR) (E_alike : AR) (W_next : AR) (W_way : AR) (W_goal : AR) (F_all : AR) (aO : Nat) (ov : Int32) (x1 : Int32) (sz : Nat) (post : Int32 → AR → AR → AR → AR → AR → AR → AR → AR → AR → AR → AR → AR → AR → AR → AR → AR → AR → AR → AR → AR → AR → AR → AR → AR → AR → AR → AR → AR → AR → AR → AR → AR → AR → AR → Int32 → Prop) (h : wpL_flat sS sR sL sT sC sG sQ S_tape T_towerCell T_range T_voice T_strokes T_isFalse T_kind T_home T_water T_mirage G_towerCell G_range G_voice G_strokes G_isFalse G_kind G_home G_water G_mirage E_heardAt E_nearest E_distances E_ofVoice E_alike W_next W_way W_goal F_all ov x1 post) : Met l yL_flat (Cond.codeWith yL_flat cL_flat 4 (some .int) [(0, 9, 12, 13)] :: TB) ({ frames := 10, cells := 1, slots := 6, locals := 332 }) (va_Pc [.ref h0, .int x1, .ref aO] (PreU D cy ev [(h0, .inr (10, oX10 rS sS)), ((rS 1), .inr (8, oX8 rR sR)), ((rS 6), .inr (9, oX9 (rtP (rS 1) (rS 3) 0 rL) sL)), ((rS 3), .inr (4, oX4 rT sT)), ((rS 8), .inr (0, oX0 rC sC)), ((rS 2), .inr (4, oX4 rG sG)), ((rS 4), .inr (1, oX1 rE)), ((rS 5), .inr (2, oX2 rW)), ((rC 0), .inr (3, oX3 (rtP (rS 2) (rS 4) (rS 5) rF))), ((rS 10), .inr (7, oX7 (rtP (rS 2) (rS 4) (rS 5) rQ) sQ)), ((rS 0), .inl (cy 1, 500, .inl S_tape)), ((rT 7), .inl (cy 0, 5, .inl T_towerCell)), ((rT 8), .inl (cy 0, 5, .inl T_range)), ((rT 9), .inl (cy 0, 5, .inl T_voice)), ((rT 10), .inl (cy 0, 5, .inl T_strokes)), ((rT 11), .inl (cy 2, 5, .inl T_isFalse)), ((rT 12), .inl (cy 0, 4, .inl T_kind)), ((rT 13), .inl (cy 0, 4, .inl T_home)), ((rT 14), .inl (cy 0, 4, .inl T_water)), ((rT 15), .inl (cy 2, 100, .inl T_mirage)), ((rG 7), .inl (cy 0, 5, .inl G_towerCell)), ((rG 8), .inl (cy 0, 5, .inl G_range)), ((rG 9), .inl (cy 0, 5, .inl G_voice)), ((rG 10), .inl (cy 0, 5, .inl G_strokes)), ((rG 11), .inl (cy 2, 5, .inl G_isFalse)), ((rG 12), .inl (cy 0, 4, .inl G_kind)), ((rG 13), .inl (cy 0, 4, .inl G_home)), ((rG 14), .inl (cy 0, 4, .inl G_water)), ((rG 15), .inl (cy 2, 100, .inl G_mirage)), ((rE 0), .inl (cy 1, 100, .inl E_heardAt)), ((rE 1), .inl (cy 1, 3200, .inl E_nearest)), ((rE 2), .inl (cy 0, 5, .inl E_distances)), ((rE 3), .inl (cy 0, 4, .inl E_ofVoice)), ((rE 4), .inl (cy 0, 5, .inl E_alike)), ((rW 0), .inl (cy 0, 400, .inl W_next)), ((rW 1), .inl (cy 0, 500, .inl W_way)), ((rW 2), .inl (cy 0, 5, .inl W_goal)), (((rtP (rS 2) (rS 4) (rS 5) rF) 3), .inl (cy 0, 29, .inl F_all)), (aO, .inl (cy 3, 1, .inr (.inl (outF ov))))] sz)) (va_Qi (fun (r : Int32) (u : (Nat → Nat) × AR × AR × AR × AR × AR × AR × AR × AR × AR × AR × AR × AR × AR × AR × AR × AR × AR × AR × AR × AR × AR × AR × AR × AR × AR × AR × AR × AR × AR × AR × AR × AR × AR × AR × Int32) => post r (u.2.1) (u.2.2.1) (u.2.2.2.1) (u.2.2.2.2.1) (u.2.2.2.2.2.1) (u.2.2.2.2.2.2.1) (u.2.2.2.2.2.2.2.1) (u.2.2.2.2.2.2.2.2.1) (u.2.2.2.2.2.2.2.2.2.1) (u.2.2.2.2.2.2.2.2.2.2.1) (u.2.2.2.2.2.2.2.2.2.2.2.1) (u.2.2.2.2.2.2.2.2.2.2.2.2.1) (u.2.2.2.2.2.2.2.2.2.2.2.2.2.1) (u.2.2.2.2.2.2.2.2.2.2.2.2.2.2.1) (u.2.2.2.2.2.2.2.2.2.2.2.2.2.2.2.1) (u.2.2.2.2.2.2.2.2.2.2.2.2.2.2.2.2.1) (u.2.2.2.2.2.2.2.2.2.2.2.2.2.2.2.2.2.1) (u.2.2.2.2.2.2.2.2.2.2.2.2.2.2.2.2.2.2.1) (u.2.2.2.2.2.2.2.2.2.2.2.2.2.2.2.2.2.2.2.1) (u.2.2.2.2.2.2.2.2.2.2.2.2.2.2.2.2.2.2.2.2.1) (u.2.2.2.2.2.2.2.2.2.2.2.2.2.2.2.2.2.2.2.2.2.1) (u.2.2.2.2.2.2.2.2.2.2.2.2.2.2.2.2.2.2.2.2.2.2.1) (u.2.2.2.2.2.2.2.2.2.2.2.2.2.2.2.2.2.2.2.2.2.2.2.1) (u.2.2.2.2.2.2.2.2.2.2.2.2.2.2.2.2.2.2.2.2.2.2.2.2.1) (u.2.2.2.2.2.2.2.2.2.2.2.2.2.2.2.2.2.2.2.2.2.2.2.2.2.1) (u.2.2.2.2.2.2.2.2.2.2.2.2.2.2.2.2.2.2.2.2.2.2.2.2.2.2.1) (u.2.2.2.2.2.2.2.2.2.2.2.2.2.2.2.2.2.2.2.2.2.2.2.2.2.2.2.1) (u.2.2.2.2.2.2.2.2.2.2.2.2.2.2.2.2.2.2.2.2.2.2.2.2.2.2.2.2.1) (u.2.2.2.2.2.2.2.2.2.2.2.2.2.2.2.2.2.2.2.2.2.2.2.2.2.2.2.2.2.1) (u.2.2.2.2.2.2.2.2.2.2.2.2.2.2.2.2.2.2.2.2.2.2.2.2.2.2.2.2.2.2.1) (u.2.2.2.2.2.2.2.2.2.2.2.2.2.2.2.2.2.2.2.2.2.2.2.2.2.2.2.2.2.2.2.1) (u.2.2.2.2.2.2.2.2.2.2.2.2.2.2.2.2.2.2.2.2.2.2.2.2.2.2.2.2.2.2.2.2.1) (u.2.2.2.2.2.2.2.2.2.2.2.2.2.2.2.2.2.2.2.2.2.2.2.2.2.2.2.2.2.2.2.2.2.1) (u.2.2.2.2.2.2.2.2.2.2.2.2.2.2.2.2.2.2.2.2.2.2.2.2.2.2.2.2.2.2.2.2.2.2.1) (u.2.2.2.2.2.2.2.2.2.2.2.2.2.2.2.2.2.2.2.2.2.2.2.2.2.2.2.2.2.2.2.2.2.2.2)) (fun u => BkX D cy [(h0, .inr (10, oX10 rS sS)), ((rS 1), .inr (8, oX8 rR sR)), ((rS 6), .inr (9, oX9 (rtP (rS 1) (rS 3) 0 rL) sL)), ((rS 3), .inr (4, oX4 rT sT)), ((rS 8), .inr (0, oX0 rC sC)), ((rS 2), .inr (4, oX4 rG sG)), ((rS 4), .inr (1, oX1 rE)), ((rS 5), .inr (2, oX2 rW)), ((rC 0), .inr (3, oX3 (rtP (rS 2) (rS 4) (rS 5) rF))), ((rS 10), .inr (7, oX7 (rtP (rS 2) (rS 4) (rS 5) rQ) sQ)), ((rS 0), .inl (cy 1, 500, .inl S_tape)), ((rT 7), .inl (cy 0, 5, .inl T_towerCell)), ((rT 8), .inl (cy 0, 5, .inl T_range)), ((rT 9), .inl (cy 0, 5, .inl T_voice)), ((rT 10), .inl (cy 0, 5, .inl T_strokes)), ((rT 11), .inl (cy 2, 5, .inl T_isFalse)), ((rT 12), .inl (cy 0, 4, .inl T_kind)), ((rT 13), .inl (cy 0, 4, .inl T_home)), ((rT 14), .inl (cy 0, 4, .inl T_water)), ((rT 15), .inl (cy 2, 100, .inl T_mirage)), ((rG 7), .inl (cy 0, 5, .inl G_towerCell)), ((rG 8), .inl (cy 0, 5, .inl G_range)), ((rG 9), .inl (cy 0, 5, .inl G_voice)), ((rG 10), .inl (cy 0, 5, .inl G_strokes)), ((rG 11), .inl (cy 2, 5, .inl G_isFalse)), ((rG 12), .inl (cy 0, 4, .inl G_kind)), ((rG 13), .inl (cy 0, 4, .inl G_home)), ((rG 14), .inl (cy 0, 4, .inl G_water)), ((rG 15), .inl (cy 2, 100, .inl G_mirage)), ((rE 0), .inl (cy 1, 100, .inl E_heardAt)), ((rE 1), .inl (cy 1, 3200, .inl E_nearest)), ((rE 2), .inl (cy 0, 5, .inl E_distances)), ((rE 3), .inl (cy 0, 4, .inl E_ofVoice)), ((rE 4), .inl (cy 0, 5, .inl E_alike)), ((rW 0), .inl (cy 0, 400, .inl W_next)), ((rW 1), .inl (cy 0, 500, .inl W_way)), ((rW 2), .inl (cy 0, 5, .inl W_goal)), (((rtP (rS 2) (rS 4) (rS 5) rF) 3), .inl (cy 0, 29, .inl F_all)), (aO, .inl (cy 3, 1, .inr (.inl (outF ov))))] sz [(h0, .inr (10, oX10 rS (u.2.1))), ((rS 1), .inr (8, oX8 u.1 (u.2.2.1))), ((rS 6), .inr (9, oX9 (rtP (rS 1) (rS 3) 0 rL) (u.2.2.2.1))), ((rS 3), .inr (4, oX4 rT (u.2.2.2.2.1))), ((rS 8), .inr (0, oX0 rC (u.2.2.2.2.2.1))), ((rS 2), .inr (4, oX4 rG (u.2.2.2.2.2.2.1))), ((rS 4), .inr (1, oX1 rE)), ((rS 5), .inr (2, oX2 rW)), ((rC 0), .inr (3, oX3 (rtP (rS 2) (rS 4) (rS 5) rF))), ((rS 10), .inr (7, oX7 (rtP (rS 2) (rS 4) (rS 5) rQ) (u.2.2.2.2.2.2.2.1))), ((rS 0), .inl (cy 1, 500, .inl S_tape)), ((rT 7), .inl (cy 0, 5, .inl (u.2.2.2.2.2.2.2.2.1))), ((rT 8), .inl (cy 0, 5, .inl (u.2.2.2.2.2.2.2.2.2.1))), ((rT 9), .inl (cy 0, 5, .inl (u.2.2.2.2.2.2.2.2.2.2.1))), ((rT 10), .inl (cy 0, 5, .inl (u.2.2.2.2.2.2.2.2.2.2.2.1))), ((rT 11), .inl (cy 2, 5, .inl (u.2.2.2.2.2.2.2.2.2.2.2.2.1))), ((rT 12), .inl (cy 0, 4, .inl (u.2.2.2.2.2.2.2.2.2.2.2.2.2.1))), ((rT 13), .inl (cy 0, 4, .inl (u.2.2.2.2.2.2.2.2.2.2.2.2.2.2.1))), ((rT 14), .inl (cy 0, 4, .inl (u.2.2.2.2.2.2.2.2.2.2.2.2.2.2.2.1))), ((rT 15), .inl (cy 2, 100, .inl (u.2.2.2.2.2.2.2.2.2.2.2.2.2.2.2.2.1))), ((rG 7), .inl (cy 0, 5, .inl (u.2.2.2.2.2.2.2.2.2.2.2.2.2.2.2.2.2.1))), ((rG 8), .inl (cy 0, 5, .inl (u.2.2.2.2.2.2.2.2.2.2.2.2.2.2.2.2.2.2.1))), ((rG 9), .inl (cy 0, 5, .inl (u.2.2.2.2.2.2.2.2.2.2.2.2.2.2.2.2.2.2.2.1))), ((rG 10), .inl (cy 0, 5, .inl (u.2.2.2.2.2.2.2.2.2.2.2.2.2.2.2.2.2.2.2.2.1))), ((rG 11), .inl (cy 2, 5, .inl (u.2.2.2.2.2.2.2.2.2.2.2.2.2.2.2.2.2.2.2.2.2.1))), ((rG 12), .inl (cy 0, 4, .inl (u.2.2.2.2.2.2.2.2.2.2.2.2.2.2.2.2.2.2.2.2.2.2.1))), ((rG 13), .inl (cy 0, 4, .inl (u.2.2.2.2.2.2.2.2.2.2.2.2.2.2.2.2.2.2.2.2.2.2.2.1))), ((rG 14), .inl (cy 0, 4, .inl (u.2.2.2.2.2.2.2.2.2.2.2.2.2.2.2.2.2.2.2.2.2.2.2.2.1))), ((rG 15), .inl (cy 2, 100, .inl (u.2.2.2.2.2.2.2.2.2.2.2.2.2.2.2.2.2.2.2.2.2.2.2.2.2.1))), ((rE 0), .inl (cy 1, 100, .inl (u.2.2.2.2.2.2.2.2.2.2.2.2.2.2.2.2.2.2.2.2.2.2.2.2.2.2.1))), ((rE 1), .inl (cy 1, 3200, .inl (u.2.2.2.2.2.2.2.2.2.2.2.2.2.2.2.2.2.2.2.2.2.2.2.2.2.2.2.1))), ((rE 2), .inl (cy 0, 5, .inl (u.2.2.2.2.2.2.2.2.2.2.2.2.2.2.2.2.2.2.2.2.2.2.2.2.2.2.2.2.1))), ((rE 3), .inl (cy 0, 4, .inl (u.2.2.2.2.2.2.2.2.2.2.2.2.2.2.2.2.2.2.2.2.2.2.2.2.2.2.2.2.2.1))), ((rE 4), .inl (cy 0, 5, .inl (u.2.2.2.2.2.2.2.2.2.2.2.2.2.2.2.2.2.2.2.2.2.2.2.2.2.2.2.2.2.2.1))), ((rW 0), .inl (cy 0, 400, .inl (u.2.2.2.2.2.2.2.2.2.2.2.2.2.2.2.2.2.2.2.2.2.2.2.2.2.2.2.2.2.2.2.1))), ((rW 1), .inl (cy 0, 500, .inl (u.2.2.2.2.2.2.2.2.2.2.2.2.2.2.2.2.2.2.2.2.2.2.2.2.2.2.2.2.2.2.2.2.1))), ((rW 2), .inl (cy 0, 5, .inl (u.2.2.2.2.2.2.2.2.2.2.2.2.2.2.2.2.2.2.2.2.2.2.2.2.2.2.2.2.2.2.2.2.2.1))), (((rtP (rS 2) (rS 4) (rS 5) rF) 3), .inl (cy 0, 29, .inl (u.2.2.2.2.2.2.2.2.2.2.2.2.2.2.2.2.2.2.2.2.2.2.2.2.2.2.2.2.2.2.2.2.2.2.1))), (aO, .inl (cy 3, 1, .inr (.inl (outF (u.2.2.2.2.2.2.2.2.2.2.2.2.2.2.2.2.2.2.2.2.2.2.2.2.2.2.2.2.2.2.2.2.2.2.2)))))]) (va_A [(h0, .inr (10, oX10 rS sS)), ((rS 1), .inr (8, oX8 rR sR)), ((rS 6), .inr (9, oX9 (rtP (rS 1) (rS 3) 0 rL) sL)), ((rS 3), .inr (4, oX4 rT sT)), ((rS 8), .inr (0, oX0 rC sC)), ((rS 2), .inr (4, oX4 rG sG)), ((rS 4), .inr (1, oX1 rE)), ((rS 5), .inr (2, oX2 rW)), ((rC 0), .inr (3, oX3 (rtP (rS 2) (rS 4) (rS 5) rF))), ((rS 10), .inr (7, oX7 (rtP (rS 2) (rS 4) (rS 5) rQ) sQ)), ((rS 0), .inl (cy 1, 500, .inl S_tape)), ((rT 7), .inl (cy 0, 5, .inl T_towerCell)), ((rT 8), .inl (cy 0, 5, .inl T_range)), ((rT 9), .inl (cy 0, 5, .inl T_voice)), ((rT 10), .inl (cy 0, 5, .inl T_strokes)), ((rT 11), .inl (cy 2, 5, .inl T_isFalse)), ((rT 12), .inl (cy 0, 4, .inl T_kind)), ((rT 13), .inl (cy 0, 4, .inl T_home)), ((rT 14), .inl (cy 0, 4, .inl T_water)), ((rT 15), .inl (cy 2, 100, .inl T_mirage)), ((rG 7), .inl (cy 0, 5, .inl G_towerCell)), ((rG 8), .inl (cy 0, 5, .inl G_range)), ((rG 9), .inl (cy 0, 5, .inl G_voice)), ((rG 10), .inl (cy 0, 5, .inl G_strokes)), ((rG 11), .inl (cy 2, 5, .inl G_isFalse)), ((rG 12), .inl (cy 0, 4, .inl G_kind)), ((rG 13), .inl (cy 0, 4, .inl G_home)), ((rG 14), .inl (cy 0, 4, .inl G_water)), ((rG 15), .inl (cy 2, 100, .inl G_mirage)), ((rE 0), .inl (cy 1, 100, .inl E_heardAt)), ((rE 1), .inl (cy 1, 3200, .inl E_nearest)), ((rE 2), .inl (cy 0, 5, .inl E_distances)), ((rE 3), .inl (cy 0, 4, .inl E_ofVoice)), ((rE 4), .inl (cy 0, 5, .inl E_alike)), ((rW 0), .inl (cy 0, 400, .inl W_next)), ((rW 1), .inl (cy 0, 500, .inl W_way)), ((rW 2), .inl (cy 0, 5, .inl W_goal)), (((rtP (rS 2) (rS 4) (rS 5) rF) 3), .inl (cy 0, 29, .inl F_all)), (aO, .inl (cy 3, 1, .inr (.inl (outF ov))))] sz)) 1 6 (va_A [(h0, .inr (10, oX10 rS sS)), ((rS 1), .inr (8, oX8 rR sR)), ((rS 6), .inr (9, oX9 (rtP (rS 1) (rS 3) 0 rL) sL)), ((rS 3), .inr (4, oX4 rT sT)), ((rS 8), .inr (0, oX0 rC sC)), ((rS 2), .inr (4, oX4 rG sG)), ((rS 4), .inr (1, oX1 rE)), ((rS 5), .inr (2, oX2 rW)), ((rC 0), .inr (3, oX3 (rtP (rS 2) (rS 4) (rS 5) rF))), ((rS 10), .inr (7, oX7 (rtP (rS 2) (rS 4) (rS 5) rQ) sQ)), ((rS 0), .inl (cy 1, 500, .inl S_tape)), ((rT 7), .inl (cy 0, 5, .inl T_towerCell)), ((rT 8), .inl (cy 0, 5, .inl T_range)), ((rT 9), .inl (cy 0, 5, .inl T_voice)), ((rT 10), .inl (cy 0, 5, .inl T_strokes)), ((rT 11), .inl (cy 2, 5, .inl T_isFalse)), ((rT 12), .inl (cy 0, 4, .inl T_kind)), ((rT 13), .inl (cy 0, 4, .inl T_home)), ((rT 14), .inl (cy 0, 4, .inl T_water)), ((rT 15), .inl (cy 2, 100, .inl T_mirage)), ((rG 7), .inl (cy 0, 5, .inl G_towerCell)), ((rG 8), .inl (cy 0, 5, .inl G_range)), ((rG 9), .inl (cy 0, 5, .inl G_voice)), ((rG 10), .inl (cy 0, 5, .inl G_strokes)), ((rG 11), .inl (cy 2, 5, .inl G_isFalse)), ((rG 12), .inl (cy 0, 4, .inl G_kind)), ((rG 13), .inl (cy 0, 4, .inl G_home)), ((rG 14), .inl (cy 0, 4, .inl G_water)), ((rG 15), .inl (cy 2, 100, .inl G_mirage)), ((rE 0), .inl (cy 1, 100, .inl E_heardAt)), ((rE 1), .inl (cy 1, 3200, .inl E_nearest)), ((rE 2), .inl (cy 0, 5, .inl E_distances)), ((rE 3), .inl (cy 0, 4, .inl E_ofVoice)), ((rE 4), .inl (cy 0, 5, .inl E_alike)), ((rW 0), .inl (cy 0, 400, .inl W_next)), ((rW 1), .inl (cy 0, 500, .inl W_way)), ((rW 2), .inl (cy 0, 5, .inl W_goal)), (((rtP (rS 2) (rS 4) (rS 5) rF) 3), .inl (cy 0, 29, .inl F_all)), (aO, .inl (cy 3, 1, .inr (.inl (outF ov))))] sz) := by
  refine ofHi (by decide) (Nat.le_of_ble_eq_true rfl) ?_
  intro p e s m args below meth c ls A R QQ hx hb hml hown hts htab hR hE hT hN hK hP hD hS hA hl hret
  have hown : s.vm.findClass RL = some m.cls := hown
  have hRf : 10 ≤ R.frames := by rw [hR]; exact Nat.le_refl _
  have hRl : 332 ≤ R.locals := by rw [hR]; exact Nat.le_refl _
  have hRc : 1 ≤ R.cells := by rw [hR]; exact Nat.le_refl _
  have hRs : 6 ≤ R.slots := by rw [hR]; exact Nat.le_refl _
  clear hR
  have hl : lv_has ls 4 [(0, .ref h0), (1, .int x1), (2, .ref aO)] := hl
  unfold wpL_flat at h
  refine lv_aload_n hx hb dL_flat_0 rfl (lv_at hl 2 rfl) ?_
  refine lv_iconst (v := (0 : Int32)) hx hb dL_flat_1 (by decide) ?_
  refine lv_aload_n hx hb dL_flat_2 rfl (lv_at hl 0 rfl) ?_
  refine lv_iload_n hx hb dL_flat_3 rfl (lv_at hl 1 rfl) ?_
  refine clXi (As := [.int x1]) (rest := [.int (0 : Int32), .ref aO]) (Wr := [(aO, .inl (cy 3, 1, .inr (.inl (outF ov))))]) (cq := (RX10, TX10, 18)) ⟨hx, hb, hml, hown, hts⟩ ⟨callB_of 1 hts (goodC mw657) rfl rfl rfl (hts _ (tb mw1)) (hts _ (tb mw654)) kdX10_flat ⟨Nat.le_trans (by decide) hRf, Nat.le_trans (by decide) hRl⟩, hts _ (tb mw655), hts _ (tb mw656)⟩ (ctX10_flat l D cy ev hst h0 rS rR rL rT rC rG rE rW rF rQ sS sR sL sT sC sG sQ S_tape T_towerCell T_range T_voice T_strokes T_isFalse T_kind T_home T_water T_mirage G_towerCell G_range G_voice G_strokes G_isFalse G_kind G_home G_water G_mirage E_heardAt E_nearest E_distances E_ofVoice E_alike W_next W_way W_goal F_all x1 _ _ _ h) hE hT hK hP hD hS hA [0, 1, 2, 3, 4, 5, 6, 7, 8, 9, 10, 11, 12, 13, 14, 15, 16, 17, 18, 19, 20, 21, 22, 23, 24, 25, 26, 27, 28, 29, 30, 31, 32, 33, 34, 35, 36, 37] [38] rfl rfl (by decide) (by decide) (by decide) 0 rfl rfl rfl hl.1 rfl (Nat.le_of_ble_eq_true rfl) ⟨Nat.le_trans (by decide) hRc, Nat.le_trans (by decide) hRs⟩ dL_flat_4 (fun E ce q H locs h hP hD hS g1 g2 g3 => ?_) (fun r u H locs h hP hD hS => ?_)
  · obtain ⟨rfl, h⟩ := h
    have hz : tableOf [(0, 9, 12, 13)] = [] ++ (⟨0, 9, 12, 13⟩ : ExceptionTableEntry) :: [] := rfl
    refine sb_catch (own := RL) (name := exI) (E := exI) (ce := ce) hown [] ⟨0, 9, 12, 13⟩ [] (htab.trans hz) (fun z hz9 => nomatch hz9) (by decide) (by decide) (hts _ (tb mw653)) (va_Nw.use rfl (hT (.castable exI exI) (by decide))) g1 g2 g3 ?_
    refine lv_astore_n (lv' := (3, .ref q) :: [(0, .ref h0), (1, .int x1), (2, .ref aO)]) hx hb dL_flat_12 rfl hl (by decide) rfl (fun ls hl => ?_)
    refine lv_iconst (v := (1 : Int32)) hx hb dL_flat_13 (by decide) ?_
    exact hret (1 : Int32) (rR, sS, sR, sL, sT, sC, sG, sQ, T_towerCell, T_range, T_voice, T_strokes, T_isFalse, T_kind, T_home, T_water, T_mirage, G_towerCell, G_range, G_voice, G_strokes, G_isFalse, G_kind, G_home, G_water, G_mirage, E_heardAt, E_nearest, E_distances, E_ofVoice, E_alike, W_next, W_way, W_goal, F_all, ov) _ _ _ _ dL_flat_14 h (hP.sub [1, 2, 3, 4, 5, 6, 7, 8, 9, 10, 11, 12, 13, 14, 15, 16, 17, 18, 19, 20, 21, 22, 23, 24, 25, 26, 27, 28, 29, 30, 31, 32, 33, 34, 35, 36, 37, 38, 0] rfl) (hD.sub [1, 2, 3, 4, 5, 6, 7, 8, 9, 10, 11, 12, 13, 14, 15, 16, 17, 18, 19, 20, 21, 22, 23, 24, 25, 26, 27, 28, 29, 30, 31, 32, 33, 34, 35, 36, 37, 38, 0] (by decide) rfl) hS
  · refine lv_i2l (v := r.toInt64) hx hb dL_flat_7 rfl ?_
    refine va_last hx hb hK hP hD hS 0 3 rfl rfl (inL (by decide)) dL_flat_8 (fun H locs hP hD hS => ?_)
    refine lv_goto (tgt := 15) hx hb dL_flat_9 (by decide) ?_
    refine lv_iconst (v := (0 : Int32)) hx hb dL_flat_15 (by decide) ?_
    have hu : vp_updL (outF ov) (0 : Int32).toNatClampNeg r.toInt64 = outF r := outF_upd ov r
    rw [hu] at hP hD
    exact hret (0 : Int32) ((rtQ (rS 0) rR), (u.1), (u.2.1), (u.2.2.1), (u.2.2.2.1), (u.2.2.2.2.1), (u.2.2.2.2.2.1), (u.2.2.2.2.2.2.1), (u.2.2.2.2.2.2.2.1), (u.2.2.2.2.2.2.2.2.1), (u.2.2.2.2.2.2.2.2.2.1), (u.2.2.2.2.2.2.2.2.2.2.1), (u.2.2.2.2.2.2.2.2.2.2.2.1), (u.2.2.2.2.2.2.2.2.2.2.2.2.1), (u.2.2.2.2.2.2.2.2.2.2.2.2.2.1), (u.2.2.2.2.2.2.2.2.2.2.2.2.2.2.1), (u.2.2.2.2.2.2.2.2.2.2.2.2.2.2.2.1), (u.2.2.2.2.2.2.2.2.2.2.2.2.2.2.2.2.1), (u.2.2.2.2.2.2.2.2.2.2.2.2.2.2.2.2.2.1), (u.2.2.2.2.2.2.2.2.2.2.2.2.2.2.2.2.2.2.1), (u.2.2.2.2.2.2.2.2.2.2.2.2.2.2.2.2.2.2.2.1), (u.2.2.2.2.2.2.2.2.2.2.2.2.2.2.2.2.2.2.2.2.1), (u.2.2.2.2.2.2.2.2.2.2.2.2.2.2.2.2.2.2.2.2.2.1), (u.2.2.2.2.2.2.2.2.2.2.2.2.2.2.2.2.2.2.2.2.2.2.1), (u.2.2.2.2.2.2.2.2.2.2.2.2.2.2.2.2.2.2.2.2.2.2.2.1), (u.2.2.2.2.2.2.2.2.2.2.2.2.2.2.2.2.2.2.2.2.2.2.2.2.1), (u.2.2.2.2.2.2.2.2.2.2.2.2.2.2.2.2.2.2.2.2.2.2.2.2.2.1), (u.2.2.2.2.2.2.2.2.2.2.2.2.2.2.2.2.2.2.2.2.2.2.2.2.2.2.1), (u.2.2.2.2.2.2.2.2.2.2.2.2.2.2.2.2.2.2.2.2.2.2.2.2.2.2.2.1), (u.2.2.2.2.2.2.2.2.2.2.2.2.2.2.2.2.2.2.2.2.2.2.2.2.2.2.2.2.1), (u.2.2.2.2.2.2.2.2.2.2.2.2.2.2.2.2.2.2.2.2.2.2.2.2.2.2.2.2.2.1), (u.2.2.2.2.2.2.2.2.2.2.2.2.2.2.2.2.2.2.2.2.2.2.2.2.2.2.2.2.2.2.1), (u.2.2.2.2.2.2.2.2.2.2.2.2.2.2.2.2.2.2.2.2.2.2.2.2.2.2.2.2.2.2.2.1), (u.2.2.2.2.2.2.2.2.2.2.2.2.2.2.2.2.2.2.2.2.2.2.2.2.2.2.2.2.2.2.2.2.1), (u.2.2.2.2.2.2.2.2.2.2.2.2.2.2.2.2.2.2.2.2.2.2.2.2.2.2.2.2.2.2.2.2.2), r) _ _ _ _ dL_flat_16 h (hP.sub [1, 2, 3, 4, 5, 6, 7, 8, 9, 10, 11, 12, 13, 14, 15, 16, 17, 18, 19, 20, 21, 22, 23, 24, 25, 26, 27, 28, 29, 30, 31, 32, 33, 34, 35, 36, 37, 38, 0] rfl) (hD.sub [1, 2, 3, 4, 5, 6, 7, 8, 9, 10, 11, 12, 13, 14, 15, 16, 17, 18, 19, 20, 21, 22, 23, 24, 25, 26, 27, 28, 29, 30, 31, 32, 33, 34, 35, 36, 37, 38, 0] (by decide) rfl) hS
theorem mwL_orders : Cond.codeWith yL_orders cL_orders 4 (some .int) [(0, 9, 12, 13)] ∈ TB := memTB 886 (by decide +kernel) (by decide +kernel)
theorem dL_orders_0 : decode cL_orders 0 = .ok (.aload_n 2, 1) := by decide +kernel
theorem dL_orders_1 : decode cL_orders 1 = .ok (.iconst 0, 1) := by decide +kernel
theorem dL_orders_2 : decode cL_orders 2 = .ok (.aload_n 0, 1) := by decide +kernel
theorem dL_orders_3 : decode cL_orders 3 = .ok (.iload_n 1, 1) := by decide +kernel
theorem dL_orders_4 : decode cL_orders 4 = .ok (.invokevirtual 15, 3) := by decide +kernel
theorem dL_orders_7 : decode cL_orders 7 = .ok (.i2l, 1) := by decide +kernel
theorem dL_orders_8 : decode cL_orders 8 = .ok (.lastore, 1) := by decide +kernel
theorem dL_orders_9 : decode cL_orders 9 = .ok (.goto 6, 3) := by decide +kernel
theorem dL_orders_12 : decode cL_orders 12 = .ok (.astore_n 3, 1) := by decide +kernel
theorem dL_orders_13 : decode cL_orders 13 = .ok (.iconst 1, 1) := by decide +kernel
theorem dL_orders_14 : decode cL_orders 14 = .ok (.ireturn, 1) := by decide +kernel
theorem dL_orders_15 : decode cL_orders 15 = .ok (.iconst 0, 1) := by decide +kernel
theorem dL_orders_16 : decode cL_orders 16 = .ok (.ireturn, 1) := by decide +kernel
def wpL_orders (sS : AR) (sR : AR) (sG : AR) (sB : AR) (sC : AR) (sQ : AR) (S_tape : AR) (G_isFalse : AR) (G_kind : AR) (B_begins : AR) (B_times : AR) (B_sets : AR) (C_past : AR) (F_all : AR) (F_reasons : AR) (E_heardAt : AR) (E_nearest : AR) (E_ofVoice : AR) (E_alike : AR) (W_next : AR) (W_way : AR) (W_goal : AR) (Q_cell : AR) (Q_heading : AR) (ov : Int32) (x1 : Int32) (post : Int32 → AR → AR → AR → AR → AR → AR → AR → AR → AR → AR → AR → AR → AR → Int32 → Prop) : Prop := wpX10_orders sS sR sG sB sC sQ S_tape G_isFalse G_kind B_begins B_times B_sets C_past F_all F_reasons E_heardAt E_nearest E_ofVoice E_alike W_next W_way W_goal Q_cell Q_heading x1 (fun r w0 w1 w2 w3 w4 w5 w6 w7 w8 w9 w10 w11 w12 => post (0 : Int32) w0 w1 w2 w3 w4 w5 w6 w7 w8 w9 w10 w11 w12 r) (fun E => E = exI ∧ post (1 : Int32) sS sR sB sC sQ B_begins B_times B_sets C_past F_all F_reasons Q_cell Q_heading ov)
set_option maxHeartbeats 4000000 in
set_option maxRecDepth 100000 in
theorem ctL_orders (l : Launch) (D : va_G) (cy : Nat → ClassId) (ev : Nat → Nat) (hst : l.stackTraces = false) (h0 : Nat) (rS : Nat → Nat) (rR : Nat → Nat) (rG : Nat → Nat) (rB : Nat → Nat) (rC : Nat → Nat) (rF : Nat → Nat) (rE : Nat → Nat) (rW : Nat → Nat) (rQ : Nat → Nat) (sS : AR) (sR : AR) (sG : AR) (sB : AR) (sC : AR) (sQ : AR) (S_tape : AR) (G_isFalse : AR) (G_kind : AR) (B_begins : AR) (B_times : AR) (B_sets : AR) (C_past : AR) (F_all : AR) (F_reasons : AR) (E_heardAt : AR) (E_nearest : AR) (E_ofVoice : AR) (E_alike : AR) (W_next : AR) (W_way : AR) (W_goal : AR) (Q_cell : AR) (Q_heading : AR) (aO : Nat) (ov : Int32) (x1 : Int32) (sz : Nat) (post : Int32 → AR → AR → AR → AR → AR → AR → AR → AR → AR → AR → AR → AR → AR → Int32 → Prop) (h : wpL_orders sS sR sG sB sC sQ S_tape G_isFalse G_kind B_begins B_times B_sets C_past F_all F_reasons E_heardAt E_nearest E_ofVoice E_alike W_next W_way W_goal Q_cell Q_heading ov x1 post) : Met l yL_orders (Cond.codeWith yL_orders cL_orders 4 (some .int) [(0, 9, 12, 13)] :: TB) ({ frames := 8, cells := 1, slots := 6, locals := 288 }) (va_Pc [.ref h0, .int x1, .ref aO] (PreU D cy ev [(h0, .inr (10, oX10 rS sS)), ((rS 1), .inr (8, oX8 rR sR)), ((rS 2), .inr (4, oX4 rG sG)), ((rS 7), .inr (5, oX5 (rtQ (rS 1) rB) sB)), ((rS 8), .inr (0, oX0 rC sC)), ((rC 0), .inr (3, oX3 (rtP (rS 2) (rS 4) (rS 5) rF))), ((rS 4), .inr (1, oX1 rE)), ((rS 5), .inr (2, oX2 rW)), ((rS 10), .inr (7, oX7 (rtP (rS 2) (rS 4) (rS 5) rQ) sQ)), ((rS 0), .inl (cy 1, 500, .inl S_tape)), ((rG 11), .inl (cy 2, 5, .inl G_isFalse)), ((rG 12), .inl (cy 0, 4, .inl G_kind)), (((rtQ (rS 1) rB) 1), .inl (cy 0, 3, .inl B_begins)), (((rtQ (rS 1) rB) 2), .inl (cy 0, 3, .inl B_times)), (((rtQ (rS 1) rB) 4), .inl (cy 0, 200, .inl B_sets)), ((rC 1), .inl (cy 0, 3400, .inl C_past)), (((rtP (rS 2) (rS 4) (rS 5) rF) 3), .inl (cy 0, 29, .inl F_all)), (((rtP (rS 2) (rS 4) (rS 5) rF) 4), .inl (cy 0, 4, .inl F_reasons)), ((rE 0), .inl (cy 1, 100, .inl E_heardAt)), ((rE 1), .inl (cy 1, 3200, .inl E_nearest)), ((rE 3), .inl (cy 0, 4, .inl E_ofVoice)), ((rE 4), .inl (cy 0, 5, .inl E_alike)), ((rW 0), .inl (cy 0, 400, .inl W_next)), ((rW 1), .inl (cy 0, 500, .inl W_way)), ((rW 2), .inl (cy 0, 5, .inl W_goal)), (((rtP (rS 2) (rS 4) (rS 5) rQ) 3), .inl (cy 0, 100, .inl Q_cell)), (((rtP (rS 2) (rS 4) (rS 5) rQ) 4), .inl (cy 0, 100, .inl Q_heading)), (aO, .inl (cy 3, 1, .inr (.inl (outF ov))))] sz)) (va_Qi (fun (r : Int32) (u : (Nat → Nat) × AR × AR × AR × AR × AR × AR × AR × AR × AR × AR × AR × AR × AR × Int32) => post r (u.2.1) (u.2.2.1) (u.2.2.2.1) (u.2.2.2.2.1) (u.2.2.2.2.2.1) (u.2.2.2.2.2.2.1) (u.2.2.2.2.2.2.2.1) (u.2.2.2.2.2.2.2.2.1) (u.2.2.2.2.2.2.2.2.2.1) (u.2.2.2.2.2.2.2.2.2.2.1) (u.2.2.2.2.2.2.2.2.2.2.2.1) (u.2.2.2.2.2.2.2.2.2.2.2.2.1) (u.2.2.2.2.2.2.2.2.2.2.2.2.2.1) (u.2.2.2.2.2.2.2.2.2.2.2.2.2.2)) (fun u => BkX D cy [(h0, .inr (10, oX10 rS sS)), ((rS 1), .inr (8, oX8 rR sR)), ((rS 2), .inr (4, oX4 rG sG)), ((rS 7), .inr (5, oX5 (rtQ (rS 1) rB) sB)), ((rS 8), .inr (0, oX0 rC sC)), ((rC 0), .inr (3, oX3 (rtP (rS 2) (rS 4) (rS 5) rF))), ((rS 4), .inr (1, oX1 rE)), ((rS 5), .inr (2, oX2 rW)), ((rS 10), .inr (7, oX7 (rtP (rS 2) (rS 4) (rS 5) rQ) sQ)), ((rS 0), .inl (cy 1, 500, .inl S_tape)), ((rG 11), .inl (cy 2, 5, .inl G_isFalse)), ((rG 12), .inl (cy 0, 4, .inl G_kind)), (((rtQ (rS 1) rB) 1), .inl (cy 0, 3, .inl B_begins)), (((rtQ (rS 1) rB) 2), .inl (cy 0, 3, .inl B_times)), (((rtQ (rS 1) rB) 4), .inl (cy 0, 200, .inl B_sets)), ((rC 1), .inl (cy 0, 3400, .inl C_past)), (((rtP (rS 2) (rS 4) (rS 5) rF) 3), .inl (cy 0, 29, .inl F_all)), (((rtP (rS 2) (rS 4) (rS 5) rF) 4), .inl (cy 0, 4, .inl F_reasons)), ((rE 0), .inl (cy 1, 100, .inl E_heardAt)), ((rE 1), .inl (cy 1, 3200, .inl E_nearest)), ((rE 3), .inl (cy 0, 4, .inl E_ofVoice)), ((rE 4), .inl (cy 0, 5, .inl E_alike)), ((rW 0), .inl (cy 0, 400, .inl W_next)), ((rW 1), .inl (cy 0, 500, .inl W_way)), ((rW 2), .inl (cy 0, 5, .inl W_goal)), (((rtP (rS 2) (rS 4) (rS 5) rQ) 3), .inl (cy 0, 100, .inl Q_cell)), (((rtP (rS 2) (rS 4) (rS 5) rQ) 4), .inl (cy 0, 100, .inl Q_heading)), (aO, .inl (cy 3, 1, .inr (.inl (outF ov))))] sz [(h0, .inr (10, oX10 rS (u.2.1))), ((rS 1), .inr (8, oX8 u.1 (u.2.2.1))), ((rS 2), .inr (4, oX4 rG sG)), ((rS 7), .inr (5, oX5 (rtQ (rS 1) rB) (u.2.2.2.1))), ((rS 8), .inr (0, oX0 rC (u.2.2.2.2.1))), ((rC 0), .inr (3, oX3 (rtP (rS 2) (rS 4) (rS 5) rF))), ((rS 4), .inr (1, oX1 rE)), ((rS 5), .inr (2, oX2 rW)), ((rS 10), .inr (7, oX7 (rtP (rS 2) (rS 4) (rS 5) rQ) (u.2.2.2.2.2.1))), ((rS 0), .inl (cy 1, 500, .inl S_tape)), ((rG 11), .inl (cy 2, 5, .inl G_isFalse)), ((rG 12), .inl (cy 0, 4, .inl G_kind)), (((rtQ (rS 1) rB) 1), .inl (cy 0, 3, .inl (u.2.2.2.2.2.2.1))), (((rtQ (rS 1) rB) 2), .inl (cy 0, 3, .inl (u.2.2.2.2.2.2.2.1))), (((rtQ (rS 1) rB) 4), .inl (cy 0, 200, .inl (u.2.2.2.2.2.2.2.2.1))), ((rC 1), .inl (cy 0, 3400, .inl (u.2.2.2.2.2.2.2.2.2.1))), (((rtP (rS 2) (rS 4) (rS 5) rF) 3), .inl (cy 0, 29, .inl (u.2.2.2.2.2.2.2.2.2.2.1))), (((rtP (rS 2) (rS 4) (rS 5) rF) 4), .inl (cy 0, 4, .inl (u.2.2.2.2.2.2.2.2.2.2.2.1))), ((rE 0), .inl (cy 1, 100, .inl E_heardAt)), ((rE 1), .inl (cy 1, 3200, .inl E_nearest)), ((rE 3), .inl (cy 0, 4, .inl E_ofVoice)), ((rE 4), .inl (cy 0, 5, .inl E_alike)), ((rW 0), .inl (cy 0, 400, .inl W_next)), ((rW 1), .inl (cy 0, 500, .inl W_way)), ((rW 2), .inl (cy 0, 5, .inl W_goal)), (((rtP (rS 2) (rS 4) (rS 5) rQ) 3), .inl (cy 0, 100, .inl (u.2.2.2.2.2.2.2.2.2.2.2.2.1))), (((rtP (rS 2) (rS 4) (rS 5) rQ) 4), .inl (cy 0, 100, .inl (u.2.2.2.2.2.2.2.2.2.2.2.2.2.1))), (aO, .inl (cy 3, 1, .inr (.inl (outF (u.2.2.2.2.2.2.2.2.2.2.2.2.2.2)))))]) (va_A [(h0, .inr (10, oX10 rS sS)), ((rS 1), .inr (8, oX8 rR sR)), ((rS 2), .inr (4, oX4 rG sG)), ((rS 7), .inr (5, oX5 (rtQ (rS 1) rB) sB)), ((rS 8), .inr (0, oX0 rC sC)), ((rC 0), .inr (3, oX3 (rtP (rS 2) (rS 4) (rS 5) rF))), ((rS 4), .inr (1, oX1 rE)), ((rS 5), .inr (2, oX2 rW)), ((rS 10), .inr (7, oX7 (rtP (rS 2) (rS 4) (rS 5) rQ) sQ)), ((rS 0), .inl (cy 1, 500, .inl S_tape)), ((rG 11), .inl (cy 2, 5, .inl G_isFalse)), ((rG 12), .inl (cy 0, 4, .inl G_kind)), (((rtQ (rS 1) rB) 1), .inl (cy 0, 3, .inl B_begins)), (((rtQ (rS 1) rB) 2), .inl (cy 0, 3, .inl B_times)), (((rtQ (rS 1) rB) 4), .inl (cy 0, 200, .inl B_sets)), ((rC 1), .inl (cy 0, 3400, .inl C_past)), (((rtP (rS 2) (rS 4) (rS 5) rF) 3), .inl (cy 0, 29, .inl F_all)), (((rtP (rS 2) (rS 4) (rS 5) rF) 4), .inl (cy 0, 4, .inl F_reasons)), ((rE 0), .inl (cy 1, 100, .inl E_heardAt)), ((rE 1), .inl (cy 1, 3200, .inl E_nearest)), ((rE 3), .inl (cy 0, 4, .inl E_ofVoice)), ((rE 4), .inl (cy 0, 5, .inl E_alike)), ((rW 0), .inl (cy 0, 400, .inl W_next)), ((rW 1), .inl (cy 0, 500, .inl W_way)), ((rW 2), .inl (cy 0, 5, .inl W_goal)), (((rtP (rS 2) (rS 4) (rS 5) rQ) 3), .inl (cy 0, 100, .inl Q_cell)), (((rtP (rS 2) (rS 4) (rS 5) rQ) 4), .inl (cy 0, 100, .inl Q_heading)), (aO, .inl (cy 3, 1, .inr (.inl (outF ov))))] sz)) 1 6 (va_A [(h0, .inr (10, oX10 rS sS)), ((rS 1), .inr (8, oX8 rR sR)), ((rS 2), .inr (4, oX4 rG sG)), ((rS 7), .inr (5, oX5 (rtQ (rS 1) rB) sB)), ((rS 8), .inr (0, oX0 rC sC)), ((rC 0), .inr (3, oX3 (rtP (rS 2) (rS 4) (rS 5) rF))), ((rS 4), .inr (1, oX1 rE)), ((rS 5), .inr (2, oX2 rW)), ((rS 10), .inr (7, oX7 (rtP (rS 2) (rS 4) (rS 5) rQ) sQ)), ((rS 0), .inl (cy 1, 500, .inl S_tape)), ((rG 11), .inl (cy 2, 5, .inl G_isFalse)), ((rG 12), .inl (cy 0, 4, .inl G_kind)), (((rtQ (rS 1) rB) 1), .inl (cy 0, 3, .inl B_begins)), (((rtQ (rS 1) rB) 2), .inl (cy 0, 3, .inl B_times)), (((rtQ (rS 1) rB) 4), .inl (cy 0, 200, .inl B_sets)), ((rC 1), .inl (cy 0, 3400, .inl C_past)), (((rtP (rS 2) (rS 4) (rS 5) rF) 3), .inl (cy 0, 29, .inl F_all)), (((rtP (rS 2) (rS 4) (rS 5) rF) 4), .inl (cy 0, 4, .inl F_reasons)), ((rE 0), .inl (cy 1, 100, .inl E_heardAt)), ((rE 1), .inl (cy 1, 3200, .inl E_nearest)), ((rE 3), .inl (cy 0, 4, .inl E_ofVoice)), ((rE 4), .inl (cy 0, 5, .inl E_alike)), ((rW 0), .inl (cy 0, 400, .inl W_next)), ((rW 1), .inl (cy 0, 500, .inl W_way)), ((rW 2), .inl (cy 0, 5, .inl W_goal)), (((rtP (rS 2) (rS 4) (rS 5) rQ) 3), .inl (cy 0, 100, .inl Q_cell)), (((rtP (rS 2) (rS 4) (rS 5) rQ) 4), .inl (cy 0, 100, .inl Q_heading)), (aO, .inl (cy 3, 1, .inr (.inl (outF ov))))] sz) := by
  refine ofHi (by decide) (Nat.le_of_ble_eq_true rfl) ?_
  intro p e s m args below meth c ls A R QQ hx hb hml hown hts htab hR hE hT hN hK hP hD hS hA hl hret
  have hown : s.vm.findClass RL = some m.cls := hown
  have hRf : 8 ≤ R.frames := by rw [hR]; exact Nat.le_refl _
  have hRl : 288 ≤ R.locals := by rw [hR]; exact Nat.le_refl _
  have hRc : 1 ≤ R.cells := by rw [hR]; exact Nat.le_refl _
  have hRs : 6 ≤ R.slots := by rw [hR]; exact Nat.le_refl _
  clear hR
  have hl : lv_has ls 4 [(0, .ref h0), (1, .int x1), (2, .ref aO)] := hl
  unfold wpL_orders at h
  refine lv_aload_n hx hb dL_orders_0 rfl (lv_at hl 2 rfl) ?_
  refine lv_iconst (v := (0 : Int32)) hx hb dL_orders_1 (by decide) ?_
  refine lv_aload_n hx hb dL_orders_2 rfl (lv_at hl 0 rfl) ?_
  refine lv_iload_n hx hb dL_orders_3 rfl (lv_at hl 1 rfl) ?_
  refine clXi (As := [.int x1]) (rest := [.int (0 : Int32), .ref aO]) (Wr := [(aO, .inl (cy 3, 1, .inr (.inl (outF ov))))]) (cq := (RX10, TX10, 18)) ⟨hx, hb, hml, hown, hts⟩ ⟨callB_of 1 hts (goodC mw890) rfl rfl rfl (hts _ (tb mw1)) (hts _ (tb mw887)) kdX10_orders ⟨Nat.le_trans (by decide) hRf, Nat.le_trans (by decide) hRl⟩, hts _ (tb mw888), hts _ (tb mw889)⟩ (ctX10_orders l D cy ev hst h0 rS rR rG rB rC rF rE rW rQ sS sR sG sB sC sQ S_tape G_isFalse G_kind B_begins B_times B_sets C_past F_all F_reasons E_heardAt E_nearest E_ofVoice E_alike W_next W_way W_goal Q_cell Q_heading x1 _ _ _ h) hE hT hK hP hD hS hA [0, 1, 2, 3, 4, 5, 6, 7, 8, 9, 10, 11, 12, 13, 14, 15, 16, 17, 18, 19, 20, 21, 22, 23, 24, 25, 26] [27] rfl rfl (by decide) (by decide) (by decide) 0 rfl rfl rfl hl.1 rfl (Nat.le_of_ble_eq_true rfl) ⟨Nat.le_trans (by decide) hRc, Nat.le_trans (by decide) hRs⟩ dL_orders_4 (fun E ce q H locs h hP hD hS g1 g2 g3 => ?_) (fun r u H locs h hP hD hS => ?_)
  · obtain ⟨rfl, h⟩ := h
    have hz : tableOf [(0, 9, 12, 13)] = [] ++ (⟨0, 9, 12, 13⟩ : ExceptionTableEntry) :: [] := rfl
    refine sb_catch (own := RL) (name := exI) (E := exI) (ce := ce) hown [] ⟨0, 9, 12, 13⟩ [] (htab.trans hz) (fun z hz9 => nomatch hz9) (by decide) (by decide) (hts _ (tb mw653)) (va_Nw.use rfl (hT (.castable exI exI) (by decide))) g1 g2 g3 ?_
    refine lv_astore_n (lv' := (3, .ref q) :: [(0, .ref h0), (1, .int x1), (2, .ref aO)]) hx hb dL_orders_12 rfl hl (by decide) rfl (fun ls hl => ?_)
    refine lv_iconst (v := (1 : Int32)) hx hb dL_orders_13 (by decide) ?_
    exact hret (1 : Int32) (rR, sS, sR, sB, sC, sQ, B_begins, B_times, B_sets, C_past, F_all, F_reasons, Q_cell, Q_heading, ov) _ _ _ _ dL_orders_14 h (hP.sub [1, 2, 3, 4, 5, 6, 7, 8, 9, 10, 11, 12, 13, 14, 15, 16, 17, 18, 19, 20, 21, 22, 23, 24, 25, 26, 27, 0] rfl) (hD.sub [1, 2, 3, 4, 5, 6, 7, 8, 9, 10, 11, 12, 13, 14, 15, 16, 17, 18, 19, 20, 21, 22, 23, 24, 25, 26, 27, 0] (by decide) rfl) hS
  · refine lv_i2l (v := r.toInt64) hx hb dL_orders_7 rfl ?_
    refine va_last hx hb hK hP hD hS 0 3 rfl rfl (inL (by decide)) dL_orders_8 (fun H locs hP hD hS => ?_)
    refine lv_goto (tgt := 15) hx hb dL_orders_9 (by decide) ?_
    refine lv_iconst (v := (0 : Int32)) hx hb dL_orders_15 (by decide) ?_
    have hu : vp_updL (outF ov) (0 : Int32).toNatClampNeg r.toInt64 = outF r := outF_upd ov r
    rw [hu] at hP hD
    exact hret (0 : Int32) ((rtQ (rS 0) rR), (u.1), (u.2.1), (u.2.2.1), (u.2.2.2.1), (u.2.2.2.2.1), (u.2.2.2.2.2.1), (u.2.2.2.2.2.2.1), (u.2.2.2.2.2.2.2.1), (u.2.2.2.2.2.2.2.2.1), (u.2.2.2.2.2.2.2.2.2.1), (u.2.2.2.2.2.2.2.2.2.2.1), (u.2.2.2.2.2.2.2.2.2.2.2.1), (u.2.2.2.2.2.2.2.2.2.2.2.2), r) _ _ _ _ dL_orders_16 h (hP.sub [1, 2, 3, 4, 5, 6, 7, 8, 9, 10, 11, 12, 13, 14, 15, 16, 17, 18, 19, 20, 21, 22, 23, 24, 25, 26, 27, 0] rfl) (hD.sub [1, 2, 3, 4, 5, 6, 7, 8, 9, 10, 11, 12, 13, 14, 15, 16, 17, 18, 19, 20, 21, 22, 23, 24, 25, 26, 27, 0] (by decide) rfl) hS
theorem mwL_count : Cond.codeWith yL_count cL_count 4 (some .int) [(0, 9, 12, 21)] ∈ TB := memTB 926 (by decide +kernel) (by decide +kernel)
theorem dL_count_0 : decode cL_count 0 = .ok (.aload_n 2, 1) := by decide +kernel
theorem dL_count_1 : decode cL_count 1 = .ok (.iconst 0, 1) := by decide +kernel
theorem dL_count_2 : decode cL_count 2 = .ok (.aload_n 0, 1) := by decide +kernel
theorem dL_count_3 : decode cL_count 3 = .ok (.iload_n 1, 1) := by decide +kernel
theorem dL_count_4 : decode cL_count 4 = .ok (.invokevirtual 18, 3) := by decide +kernel
theorem dL_count_7 : decode cL_count 7 = .ok (.i2l, 1) := by decide +kernel
theorem dL_count_8 : decode cL_count 8 = .ok (.lastore, 1) := by decide +kernel
theorem dL_count_9 : decode cL_count 9 = .ok (.goto 6, 3) := by decide +kernel
theorem dL_count_12 : decode cL_count 12 = .ok (.astore_n 3, 1) := by decide +kernel
theorem dL_count_13 : decode cL_count 13 = .ok (.iconst 1, 1) := by decide +kernel
theorem dL_count_14 : decode cL_count 14 = .ok (.ireturn, 1) := by decide +kernel
theorem dL_count_15 : decode cL_count 15 = .ok (.iconst 0, 1) := by decide +kernel
theorem dL_count_16 : decode cL_count 16 = .ok (.ireturn, 1) := by decide +kernel
def wpL_count (sS : AR) (sC : AR) (sG : AR) (F_all : AR) (ov : Int32) (x1 : Int32) (post : Int32 → Int32 → Prop) : Prop := wpX10_count sS sC sG F_all x1 (fun r => post (0 : Int32) r) (fun E => E = exN ∧ post (1 : Int32) ov)
set_option maxHeartbeats 4000000 in
set_option maxRecDepth 100000 in
theorem ctL_count (l : Launch) (D : va_G) (cy : Nat → ClassId) (ev : Nat → Nat) (hst : l.stackTraces = false) (h0 : Nat) (rS : Nat → Nat) (rC : Nat → Nat) (rF : Nat → Nat) (rG : Nat → Nat) (sS : AR) (sC : AR) (sG : AR) (F_all : AR) (aO : Nat) (ov : Int32) (x1 : Int32) (sz : Nat) (post : Int32 → Int32 → Prop) (h : wpL_count sS sC sG F_all ov x1 post) : Met l yL_count (Cond.codeWith yL_count cL_count 4 (some .int) [(0, 9, 12, 21)] :: TB) ({ frames := 7, cells := 1, slots := 6, locals := 121 }) (va_Pc [.ref h0, .int x1, .ref aO] (PreU D cy ev [(h0, .inr (10, oX10 rS sS)), ((rS 8), .inr (0, oX0 rC sC)), ((rC 0), .inr (3, oX3 (rtP (rS 2) (rS 4) (rS 5) rF))), ((rS 2), .inr (4, oX4 rG sG)), (((rtP (rS 2) (rS 4) (rS 5) rF) 3), .inl (cy 0, 29, .inl F_all)), (aO, .inl (cy 3, 1, .inr (.inl (outF ov))))] sz)) (va_Qi (fun (r : Int32) (u : Int32) => post r u) (fun u => BkX D cy [(h0, .inr (10, oX10 rS sS)), ((rS 8), .inr (0, oX0 rC sC)), ((rC 0), .inr (3, oX3 (rtP (rS 2) (rS 4) (rS 5) rF))), ((rS 2), .inr (4, oX4 rG sG)), (((rtP (rS 2) (rS 4) (rS 5) rF) 3), .inl (cy 0, 29, .inl F_all)), (aO, .inl (cy 3, 1, .inr (.inl (outF ov))))] sz [(h0, .inr (10, oX10 rS sS)), ((rS 8), .inr (0, oX0 rC sC)), ((rC 0), .inr (3, oX3 (rtP (rS 2) (rS 4) (rS 5) rF))), ((rS 2), .inr (4, oX4 rG sG)), (((rtP (rS 2) (rS 4) (rS 5) rF) 3), .inl (cy 0, 29, .inl F_all)), (aO, .inl (cy 3, 1, .inr (.inl (outF u))))]) (va_A [(h0, .inr (10, oX10 rS sS)), ((rS 8), .inr (0, oX0 rC sC)), ((rC 0), .inr (3, oX3 (rtP (rS 2) (rS 4) (rS 5) rF))), ((rS 2), .inr (4, oX4 rG sG)), (((rtP (rS 2) (rS 4) (rS 5) rF) 3), .inl (cy 0, 29, .inl F_all)), (aO, .inl (cy 3, 1, .inr (.inl (outF ov))))] sz)) 1 6 (va_A [(h0, .inr (10, oX10 rS sS)), ((rS 8), .inr (0, oX0 rC sC)), ((rC 0), .inr (3, oX3 (rtP (rS 2) (rS 4) (rS 5) rF))), ((rS 2), .inr (4, oX4 rG sG)), (((rtP (rS 2) (rS 4) (rS 5) rF) 3), .inl (cy 0, 29, .inl F_all)), (aO, .inl (cy 3, 1, .inr (.inl (outF ov))))] sz) := by
  refine ofHi (by decide) (Nat.le_of_ble_eq_true rfl) ?_
  intro p e s m args below meth c ls A R QQ hx hb hml hown hts htab hR hE hT hN hK hP hD hS hA hl hret
  have hown : s.vm.findClass RL = some m.cls := hown
  have hRf : 7 ≤ R.frames := by rw [hR]; exact Nat.le_refl _
  have hRl : 121 ≤ R.locals := by rw [hR]; exact Nat.le_refl _
  have hRc : 1 ≤ R.cells := by rw [hR]; exact Nat.le_refl _
  have hRs : 6 ≤ R.slots := by rw [hR]; exact Nat.le_refl _
  clear hR
  have hl : lv_has ls 4 [(0, .ref h0), (1, .int x1), (2, .ref aO)] := hl
  unfold wpL_count at h
  refine lv_aload_n hx hb dL_count_0 rfl (lv_at hl 2 rfl) ?_
  refine lv_iconst (v := (0 : Int32)) hx hb dL_count_1 (by decide) ?_
  refine lv_aload_n hx hb dL_count_2 rfl (lv_at hl 0 rfl) ?_
  refine lv_iload_n hx hb dL_count_3 rfl (lv_at hl 1 rfl) ?_
  refine clXi (As := [.int x1]) (rest := [.int (0 : Int32), .ref aO]) (Wr := [(aO, .inl (cy 3, 1, .inr (.inl (outF ov))))]) (cq := (RX10, TX10, 18)) ⟨hx, hb, hml, hown, hts⟩ ⟨callB_of 1 hts (goodC mw931) rfl rfl rfl (hts _ (tb mw1)) (hts _ (tb mw928)) kdX10_count ⟨Nat.le_trans (by decide) hRf, Nat.le_trans (by decide) hRl⟩, hts _ (tb mw929), hts _ (tb mw930)⟩ (ctX10_count l D cy ev hst h0 rS rC rF rG sS sC sG F_all x1 _ _ _ h) hE hT hK hP hD hS hA [0, 1, 2, 3, 4] [5] rfl rfl (by decide) (by decide) (by decide) 0 rfl rfl rfl hl.1 rfl (Nat.le_of_ble_eq_true rfl) ⟨Nat.le_trans (by decide) hRc, Nat.le_trans (by decide) hRs⟩ dL_count_4 (fun E ce q H locs h hP hD hS g1 g2 g3 => ?_) (fun r u H locs h hP hD hS => ?_)
  · obtain ⟨rfl, h⟩ := h
    have hz : tableOf [(0, 9, 12, 21)] = [] ++ (⟨0, 9, 12, 21⟩ : ExceptionTableEntry) :: [] := rfl
    refine sb_catch (own := RL) (name := exN) (E := exN) (ce := ce) hown [] ⟨0, 9, 12, 21⟩ [] (htab.trans hz) (fun z hz9 => nomatch hz9) (by decide) (by decide) (hts _ (tb mw927)) (va_Nw.use rfl (hT (.castable exN exN) (by decide))) g1 g2 g3 ?_
    refine lv_astore_n (lv' := (3, .ref q) :: [(0, .ref h0), (1, .int x1), (2, .ref aO)]) hx hb dL_count_12 rfl hl (by decide) rfl (fun ls hl => ?_)
    refine lv_iconst (v := (1 : Int32)) hx hb dL_count_13 (by decide) ?_
    exact hret (1 : Int32) (ov) _ _ _ _ dL_count_14 h (hP.sub [1, 2, 3, 4, 5, 0] rfl) (hD.sub [1, 2, 3, 4, 5, 0] (by decide) rfl) hS
  · refine lv_i2l (v := r.toInt64) hx hb dL_count_7 rfl ?_
    refine va_last hx hb hK hP hD hS 0 3 rfl rfl (inL (by decide)) dL_count_8 (fun H locs hP hD hS => ?_)
    refine lv_goto (tgt := 15) hx hb dL_count_9 (by decide) ?_
    refine lv_iconst (v := (0 : Int32)) hx hb dL_count_15 (by decide) ?_
    have hu : vp_updL (outF ov) (0 : Int32).toNatClampNeg r.toInt64 = outF r := outF_upd ov r
    rw [hu] at hP hD
    exact hret (0 : Int32) (r) _ _ _ _ dL_count_16 h (hP.sub [1, 2, 3, 4, 5, 0] rfl) (hD.sub [1, 2, 3, 4, 5, 0] (by decide) rfl) hS
theorem mwL_tower : Cond.codeWith yL_tower cL_tower 5 (some .int) [(0, 10, 13, 21)] ∈ TB := memTB 951 (by decide +kernel) (by decide +kernel)
theorem dL_tower_0 : decode cL_tower 0 = .ok (.aload_n 3, 1) := by decide +kernel
theorem dL_tower_1 : decode cL_tower 1 = .ok (.iconst 0, 1) := by decide +kernel
theorem dL_tower_2 : decode cL_tower 2 = .ok (.aload_n 0, 1) := by decide +kernel
theorem dL_tower_3 : decode cL_tower 3 = .ok (.iload_n 1, 1) := by decide +kernel
theorem dL_tower_4 : decode cL_tower 4 = .ok (.iload_n 2, 1) := by decide +kernel
theorem dL_tower_5 : decode cL_tower 5 = .ok (.invokevirtual 23, 3) := by decide +kernel
theorem dL_tower_8 : decode cL_tower 8 = .ok (.i2l, 1) := by decide +kernel
theorem dL_tower_9 : decode cL_tower 9 = .ok (.lastore, 1) := by decide +kernel
theorem dL_tower_10 : decode cL_tower 10 = .ok (.goto 7, 3) := by decide +kernel
theorem dL_tower_13 : decode cL_tower 13 = .ok (.astore 4, 2) := by decide +kernel
theorem dL_tower_15 : decode cL_tower 15 = .ok (.iconst 1, 1) := by decide +kernel
theorem dL_tower_16 : decode cL_tower 16 = .ok (.ireturn, 1) := by decide +kernel
theorem dL_tower_17 : decode cL_tower 17 = .ok (.iconst 0, 1) := by decide +kernel
theorem dL_tower_18 : decode cL_tower 18 = .ok (.ireturn, 1) := by decide +kernel
def wpL_tower (sG : AR) (G_towerCell : AR) (G_range : AR) (G_voice : AR) (G_isFalse : AR) (F_all : AR) (ov : Int32) (x1 : Int32) (x2 : Int32) (post : Int32 → Int32 → Prop) : Prop := wpX10_tower sG G_towerCell G_range G_voice G_isFalse F_all x1 x2 (fun r => post (0 : Int32) r) (fun E => E = exN ∧ post (1 : Int32) ov)
set_option maxHeartbeats 4000000 in
set_option maxRecDepth 100000 in
theorem ctL_tower (l : Launch) (D : va_G) (cy : Nat → ClassId) (ev : Nat → Nat) (hst : l.stackTraces = false) (h0 : Nat) (rS : Nat → Nat) (rG : Nat → Nat) (rC : Nat → Nat) (rF : Nat → Nat) (sS : AR) (sC : AR) (sG : AR) (G_towerCell : AR) (G_range : AR) (G_voice : AR) (G_isFalse : AR) (F_all : AR) (aO : Nat) (ov : Int32) (x1 : Int32) (x2 : Int32) (sz : Nat) (post : Int32 → Int32 → Prop) (h : wpL_tower sG G_towerCell G_range G_voice G_isFalse F_all ov x1 x2 post) : Met l yL_tower (Cond.codeWith yL_tower cL_tower 5 (some .int) [(0, 10, 13, 21)] :: TB) ({ frames := 8, cells := 2, slots := 12, locals := 143 }) (va_Pc [.ref h0, .int x1, .int x2, .ref aO] (PreU D cy ev [(h0, .inr (10, oX10 rS sS)), ((rS 2), .inr (4, oX4 rG sG)), ((rS 8), .inr (0, oX0 rC sC)), ((rC 0), .inr (3, oX3 (rtP (rS 2) (rS 4) (rS 5) rF))), ((rG 7), .inl (cy 0, 5, .inl G_towerCell)), ((rG 8), .inl (cy 0, 5, .inl G_range)), ((rG 9), .inl (cy 0, 5, .inl G_voice)), ((rG 11), .inl (cy 2, 5, .inl G_isFalse)), (((rtP (rS 2) (rS 4) (rS 5) rF) 3), .inl (cy 0, 29, .inl F_all)), (aO, .inl (cy 3, 1, .inr (.inl (outF ov))))] sz)) (va_Qi (fun (r : Int32) (u : Int32) => post r u) (fun u => BkX D cy [(h0, .inr (10, oX10 rS sS)), ((rS 2), .inr (4, oX4 rG sG)), ((rS 8), .inr (0, oX0 rC sC)), ((rC 0), .inr (3, oX3 (rtP (rS 2) (rS 4) (rS 5) rF))), ((rG 7), .inl (cy 0, 5, .inl G_towerCell)), ((rG 8), .inl (cy 0, 5, .inl G_range)), ((rG 9), .inl (cy 0, 5, .inl G_voice)), ((rG 11), .inl (cy 2, 5, .inl G_isFalse)), (((rtP (rS 2) (rS 4) (rS 5) rF) 3), .inl (cy 0, 29, .inl F_all)), (aO, .inl (cy 3, 1, .inr (.inl (outF ov))))] sz [(h0, .inr (10, oX10 rS sS)), ((rS 2), .inr (4, oX4 rG sG)), ((rS 8), .inr (0, oX0 rC sC)), ((rC 0), .inr (3, oX3 (rtP (rS 2) (rS 4) (rS 5) rF))), ((rG 7), .inl (cy 0, 5, .inl G_towerCell)), ((rG 8), .inl (cy 0, 5, .inl G_range)), ((rG 9), .inl (cy 0, 5, .inl G_voice)), ((rG 11), .inl (cy 2, 5, .inl G_isFalse)), (((rtP (rS 2) (rS 4) (rS 5) rF) 3), .inl (cy 0, 29, .inl F_all)), (aO, .inl (cy 3, 1, .inr (.inl (outF u))))]) (va_A [(h0, .inr (10, oX10 rS sS)), ((rS 2), .inr (4, oX4 rG sG)), ((rS 8), .inr (0, oX0 rC sC)), ((rC 0), .inr (3, oX3 (rtP (rS 2) (rS 4) (rS 5) rF))), ((rG 7), .inl (cy 0, 5, .inl G_towerCell)), ((rG 8), .inl (cy 0, 5, .inl G_range)), ((rG 9), .inl (cy 0, 5, .inl G_voice)), ((rG 11), .inl (cy 2, 5, .inl G_isFalse)), (((rtP (rS 2) (rS 4) (rS 5) rF) 3), .inl (cy 0, 29, .inl F_all)), (aO, .inl (cy 3, 1, .inr (.inl (outF ov))))] sz)) 2 12 (va_A [(h0, .inr (10, oX10 rS sS)), ((rS 2), .inr (4, oX4 rG sG)), ((rS 8), .inr (0, oX0 rC sC)), ((rC 0), .inr (3, oX3 (rtP (rS 2) (rS 4) (rS 5) rF))), ((rG 7), .inl (cy 0, 5, .inl G_towerCell)), ((rG 8), .inl (cy 0, 5, .inl G_range)), ((rG 9), .inl (cy 0, 5, .inl G_voice)), ((rG 11), .inl (cy 2, 5, .inl G_isFalse)), (((rtP (rS 2) (rS 4) (rS 5) rF) 3), .inl (cy 0, 29, .inl F_all)), (aO, .inl (cy 3, 1, .inr (.inl (outF ov))))] sz) := by
  refine ofHi (by decide) (Nat.le_of_ble_eq_true rfl) ?_
  intro p e s m args below meth c ls A R QQ hx hb hml hown hts htab hR hE hT hN hK hP hD hS hA hl hret
  have hown : s.vm.findClass RL = some m.cls := hown
  have hRf : 8 ≤ R.frames := by rw [hR]; exact Nat.le_refl _
  have hRl : 143 ≤ R.locals := by rw [hR]; exact Nat.le_refl _
  have hRc : 2 ≤ R.cells := by rw [hR]; exact Nat.le_refl _
  have hRs : 12 ≤ R.slots := by rw [hR]; exact Nat.le_refl _
  clear hR
  have hl : lv_has ls 5 [(0, .ref h0), (1, .int x1), (2, .int x2), (3, .ref aO)] := hl
  unfold wpL_tower at h
  refine lv_aload_n hx hb dL_tower_0 rfl (lv_at hl 3 rfl) ?_
  refine lv_iconst (v := (0 : Int32)) hx hb dL_tower_1 (by decide) ?_
  refine lv_aload_n hx hb dL_tower_2 rfl (lv_at hl 0 rfl) ?_
  refine lv_iload_n hx hb dL_tower_3 rfl (lv_at hl 1 rfl) ?_
  refine lv_iload_n hx hb dL_tower_4 rfl (lv_at hl 2 rfl) ?_
  refine clXi (As := [.int x1, .int x2]) (rest := [.int (0 : Int32), .ref aO]) (Wr := [(aO, .inl (cy 3, 1, .inr (.inl (outF ov))))]) (cq := (RX10, TX10, 18)) ⟨hx, hb, hml, hown, hts⟩ ⟨callB_of 2 hts (goodC mw955) rfl rfl rfl (hts _ (tb mw1)) (hts _ (tb mw952)) kdX10_tower ⟨Nat.le_trans (by decide) hRf, Nat.le_trans (by decide) hRl⟩, hts _ (tb mw953), hts _ (tb mw954)⟩ (ctX10_tower l D cy ev hst h0 rS rG rC rF sS sC sG G_towerCell G_range G_voice G_isFalse F_all x1 x2 _ _ _ h) hE hT hK hP hD hS hA [0, 1, 2, 3, 4, 5, 6, 7, 8] [9] rfl rfl (by decide) (by decide) (by decide) 0 rfl rfl rfl hl.1 rfl (Nat.le_of_ble_eq_true rfl) ⟨Nat.le_trans (by decide) hRc, Nat.le_trans (by decide) hRs⟩ dL_tower_5 (fun E ce q H locs h hP hD hS g1 g2 g3 => ?_) (fun r u H locs h hP hD hS => ?_)
  · obtain ⟨rfl, h⟩ := h
    have hz : tableOf [(0, 10, 13, 21)] = [] ++ (⟨0, 10, 13, 21⟩ : ExceptionTableEntry) :: [] := rfl
    refine sb_catch (own := RL) (name := exN) (E := exN) (ce := ce) hown [] ⟨0, 10, 13, 21⟩ [] (htab.trans hz) (fun z hz9 => nomatch hz9) (by decide) (by decide) (hts _ (tb mw927)) (va_Nw.use rfl (hT (.castable exN exN) (by decide))) g1 g2 g3 ?_
    refine lv_astore (lv' := (4, .ref q) :: [(0, .ref h0), (1, .int x1), (2, .int x2), (3, .ref aO)]) hx hb dL_tower_13 hl (by decide) rfl (fun ls hl => ?_)
    refine lv_iconst (v := (1 : Int32)) hx hb dL_tower_15 (by decide) ?_
    exact hret (1 : Int32) (ov) _ _ _ _ dL_tower_16 h (hP.sub [1, 2, 3, 4, 5, 6, 7, 8, 9, 0] rfl) (hD.sub [1, 2, 3, 4, 5, 6, 7, 8, 9, 0] (by decide) rfl) hS
  · refine lv_i2l (v := r.toInt64) hx hb dL_tower_8 rfl ?_
    refine va_last hx hb hK hP hD hS 0 3 rfl rfl (inL (by decide)) dL_tower_9 (fun H locs hP hD hS => ?_)
    refine lv_goto (tgt := 17) hx hb dL_tower_10 (by decide) ?_
    refine lv_iconst (v := (0 : Int32)) hx hb dL_tower_17 (by decide) ?_
    have hu : vp_updL (outF ov) (0 : Int32).toNatClampNeg r.toInt64 = outF r := outF_upd ov r
    rw [hu] at hP hD
    exact hret (0 : Int32) (r) _ _ _ _ dL_tower_18 h (hP.sub [1, 2, 3, 4, 5, 6, 7, 8, 9, 0] rfl) (hD.sub [1, 2, 3, 4, 5, 6, 7, 8, 9, 0] (by decide) rfl) hS
theorem mwL_walker : Cond.codeWith yL_walker cL_walker 5 (some .int) [(0, 10, 13, 21)] ∈ TB := memTB 968 (by decide +kernel) (by decide +kernel)
theorem dL_walker_0 : decode cL_walker 0 = .ok (.aload_n 3, 1) := by decide +kernel
theorem dL_walker_1 : decode cL_walker 1 = .ok (.iconst 0, 1) := by decide +kernel
theorem dL_walker_2 : decode cL_walker 2 = .ok (.aload_n 0, 1) := by decide +kernel
theorem dL_walker_3 : decode cL_walker 3 = .ok (.iload_n 1, 1) := by decide +kernel
theorem dL_walker_4 : decode cL_walker 4 = .ok (.iload_n 2, 1) := by decide +kernel
theorem dL_walker_5 : decode cL_walker 5 = .ok (.invokevirtual 27, 3) := by decide +kernel
theorem dL_walker_8 : decode cL_walker 8 = .ok (.i2l, 1) := by decide +kernel
theorem dL_walker_9 : decode cL_walker 9 = .ok (.lastore, 1) := by decide +kernel
theorem dL_walker_10 : decode cL_walker 10 = .ok (.goto 7, 3) := by decide +kernel
theorem dL_walker_13 : decode cL_walker 13 = .ok (.astore 4, 2) := by decide +kernel
theorem dL_walker_15 : decode cL_walker 15 = .ok (.iconst 1, 1) := by decide +kernel
theorem dL_walker_16 : decode cL_walker 16 = .ok (.ireturn, 1) := by decide +kernel
theorem dL_walker_17 : decode cL_walker 17 = .ok (.iconst 0, 1) := by decide +kernel
theorem dL_walker_18 : decode cL_walker 18 = .ok (.ireturn, 1) := by decide +kernel
def wpL_walker (sG : AR) (G_kind : AR) (F_all : AR) (ov : Int32) (x1 : Int32) (x2 : Int32) (post : Int32 → Int32 → Prop) : Prop := wpX10_walker sG G_kind F_all x1 x2 (fun r => post (0 : Int32) r) (fun E => E = exN ∧ post (1 : Int32) ov)
set_option maxHeartbeats 4000000 in
set_option maxRecDepth 100000 in
theorem ctL_walker (l : Launch) (D : va_G) (cy : Nat → ClassId) (ev : Nat → Nat) (hst : l.stackTraces = false) (h0 : Nat) (rS : Nat → Nat) (rG : Nat → Nat) (rC : Nat → Nat) (rF : Nat → Nat) (sS : AR) (sC : AR) (sG : AR) (G_kind : AR) (F_all : AR) (aO : Nat) (ov : Int32) (x1 : Int32) (x2 : Int32) (sz : Nat) (post : Int32 → Int32 → Prop) (h : wpL_walker sG G_kind F_all ov x1 x2 post) : Met l yL_walker (Cond.codeWith yL_walker cL_walker 5 (some .int) [(0, 10, 13, 21)] :: TB) ({ frames := 8, cells := 2, slots := 12, locals := 143 }) (va_Pc [.ref h0, .int x1, .int x2, .ref aO] (PreU D cy ev [(h0, .inr (10, oX10 rS sS)), ((rS 2), .inr (4, oX4 rG sG)), ((rS 8), .inr (0, oX0 rC sC)), ((rC 0), .inr (3, oX3 (rtP (rS 2) (rS 4) (rS 5) rF))), ((rG 12), .inl (cy 0, 4, .inl G_kind)), (((rtP (rS 2) (rS 4) (rS 5) rF) 3), .inl (cy 0, 29, .inl F_all)), (aO, .inl (cy 3, 1, .inr (.inl (outF ov))))] sz)) (va_Qi (fun (r : Int32) (u : Int32) => post r u) (fun u => BkX D cy [(h0, .inr (10, oX10 rS sS)), ((rS 2), .inr (4, oX4 rG sG)), ((rS 8), .inr (0, oX0 rC sC)), ((rC 0), .inr (3, oX3 (rtP (rS 2) (rS 4) (rS 5) rF))), ((rG 12), .inl (cy 0, 4, .inl G_kind)), (((rtP (rS 2) (rS 4) (rS 5) rF) 3), .inl (cy 0, 29, .inl F_all)), (aO, .inl (cy 3, 1, .inr (.inl (outF ov))))] sz [(h0, .inr (10, oX10 rS sS)), ((rS 2), .inr (4, oX4 rG sG)), ((rS 8), .inr (0, oX0 rC sC)), ((rC 0), .inr (3, oX3 (rtP (rS 2) (rS 4) (rS 5) rF))), ((rG 12), .inl (cy 0, 4, .inl G_kind)), (((rtP (rS 2) (rS 4) (rS 5) rF) 3), .inl (cy 0, 29, .inl F_all)), (aO, .inl (cy 3, 1, .inr (.inl (outF u))))]) (va_A [(h0, .inr (10, oX10 rS sS)), ((rS 2), .inr (4, oX4 rG sG)), ((rS 8), .inr (0, oX0 rC sC)), ((rC 0), .inr (3, oX3 (rtP (rS 2) (rS 4) (rS 5) rF))), ((rG 12), .inl (cy 0, 4, .inl G_kind)), (((rtP (rS 2) (rS 4) (rS 5) rF) 3), .inl (cy 0, 29, .inl F_all)), (aO, .inl (cy 3, 1, .inr (.inl (outF ov))))] sz)) 2 12 (va_A [(h0, .inr (10, oX10 rS sS)), ((rS 2), .inr (4, oX4 rG sG)), ((rS 8), .inr (0, oX0 rC sC)), ((rC 0), .inr (3, oX3 (rtP (rS 2) (rS 4) (rS 5) rF))), ((rG 12), .inl (cy 0, 4, .inl G_kind)), (((rtP (rS 2) (rS 4) (rS 5) rF) 3), .inl (cy 0, 29, .inl F_all)), (aO, .inl (cy 3, 1, .inr (.inl (outF ov))))] sz) := by
  refine ofHi (by decide) (Nat.le_of_ble_eq_true rfl) ?_
  intro p e s m args below meth c ls A R QQ hx hb hml hown hts htab hR hE hT hN hK hP hD hS hA hl hret
  have hown : s.vm.findClass RL = some m.cls := hown
  have hRf : 8 ≤ R.frames := by rw [hR]; exact Nat.le_refl _
  have hRl : 143 ≤ R.locals := by rw [hR]; exact Nat.le_refl _
  have hRc : 2 ≤ R.cells := by rw [hR]; exact Nat.le_refl _
  have hRs : 12 ≤ R.slots := by rw [hR]; exact Nat.le_refl _
  clear hR
  have hl : lv_has ls 5 [(0, .ref h0), (1, .int x1), (2, .int x2), (3, .ref aO)] := hl
  unfold wpL_walker at h
  refine lv_aload_n hx hb dL_walker_0 rfl (lv_at hl 3 rfl) ?_
  refine lv_iconst (v := (0 : Int32)) hx hb dL_walker_1 (by decide) ?_
  refine lv_aload_n hx hb dL_walker_2 rfl (lv_at hl 0 rfl) ?_
  refine lv_iload_n hx hb dL_walker_3 rfl (lv_at hl 1 rfl) ?_
  refine lv_iload_n hx hb dL_walker_4 rfl (lv_at hl 2 rfl) ?_
  refine clXi (As := [.int x1, .int x2]) (rest := [.int (0 : Int32), .ref aO]) (Wr := [(aO, .inl (cy 3, 1, .inr (.inl (outF ov))))]) (cq := (RX10, TX10, 18)) ⟨hx, hb, hml, hown, hts⟩ ⟨callB_of 2 hts (goodC mw972) rfl rfl rfl (hts _ (tb mw1)) (hts _ (tb mw969)) kdX10_walker ⟨Nat.le_trans (by decide) hRf, Nat.le_trans (by decide) hRl⟩, hts _ (tb mw970), hts _ (tb mw971)⟩ (ctX10_walker l D cy ev hst h0 rS rG rC rF sS sC sG G_kind F_all x1 x2 _ _ _ h) hE hT hK hP hD hS hA [0, 1, 2, 3, 4, 5] [6] rfl rfl (by decide) (by decide) (by decide) 0 rfl rfl rfl hl.1 rfl (Nat.le_of_ble_eq_true rfl) ⟨Nat.le_trans (by decide) hRc, Nat.le_trans (by decide) hRs⟩ dL_walker_5 (fun E ce q H locs h hP hD hS g1 g2 g3 => ?_) (fun r u H locs h hP hD hS => ?_)
  · obtain ⟨rfl, h⟩ := h
    have hz : tableOf [(0, 10, 13, 21)] = [] ++ (⟨0, 10, 13, 21⟩ : ExceptionTableEntry) :: [] := rfl
    refine sb_catch (own := RL) (name := exN) (E := exN) (ce := ce) hown [] ⟨0, 10, 13, 21⟩ [] (htab.trans hz) (fun z hz9 => nomatch hz9) (by decide) (by decide) (hts _ (tb mw927)) (va_Nw.use rfl (hT (.castable exN exN) (by decide))) g1 g2 g3 ?_
    refine lv_astore (lv' := (4, .ref q) :: [(0, .ref h0), (1, .int x1), (2, .int x2), (3, .ref aO)]) hx hb dL_walker_13 hl (by decide) rfl (fun ls hl => ?_)
    refine lv_iconst (v := (1 : Int32)) hx hb dL_walker_15 (by decide) ?_
    exact hret (1 : Int32) (ov) _ _ _ _ dL_walker_16 h (hP.sub [1, 2, 3, 4, 5, 6, 0] rfl) (hD.sub [1, 2, 3, 4, 5, 6, 0] (by decide) rfl) hS
  · refine lv_i2l (v := r.toInt64) hx hb dL_walker_8 rfl ?_
    refine va_last hx hb hK hP hD hS 0 3 rfl rfl (inL (by decide)) dL_walker_9 (fun H locs hP hD hS => ?_)
    refine lv_goto (tgt := 17) hx hb dL_walker_10 (by decide) ?_
    refine lv_iconst (v := (0 : Int32)) hx hb dL_walker_17 (by decide) ?_
    have hu : vp_updL (outF ov) (0 : Int32).toNatClampNeg r.toInt64 = outF r := outF_upd ov r
    rw [hu] at hP hD
    exact hret (0 : Int32) (r) _ _ _ _ dL_walker_18 h (hP.sub [1, 2, 3, 4, 5, 6, 0] rfl) (hD.sub [1, 2, 3, 4, 5, 6, 0] (by decide) rfl) hS
theorem mwL_far : Cond.codeWith yL_far cL_far 5 (some .int) [(0, 10, 13, 21)] ∈ TB := memTB 982 (by decide +kernel) (by decide +kernel)
theorem dL_far_0 : decode cL_far 0 = .ok (.aload_n 3, 1) := by decide +kernel
theorem dL_far_1 : decode cL_far 1 = .ok (.iconst 0, 1) := by decide +kernel
theorem dL_far_2 : decode cL_far 2 = .ok (.aload_n 0, 1) := by decide +kernel
theorem dL_far_3 : decode cL_far 3 = .ok (.iload_n 1, 1) := by decide +kernel
theorem dL_far_4 : decode cL_far 4 = .ok (.iload_n 2, 1) := by decide +kernel
theorem dL_far_5 : decode cL_far 5 = .ok (.invokevirtual 30, 3) := by decide +kernel
theorem dL_far_8 : decode cL_far 8 = .ok (.i2l, 1) := by decide +kernel
theorem dL_far_9 : decode cL_far 9 = .ok (.lastore, 1) := by decide +kernel
theorem dL_far_10 : decode cL_far 10 = .ok (.goto 7, 3) := by decide +kernel
theorem dL_far_13 : decode cL_far 13 = .ok (.astore 4, 2) := by decide +kernel
theorem dL_far_15 : decode cL_far 15 = .ok (.iconst 1, 1) := by decide +kernel
theorem dL_far_16 : decode cL_far 16 = .ok (.ireturn, 1) := by decide +kernel
theorem dL_far_17 : decode cL_far 17 = .ok (.iconst 0, 1) := by decide +kernel
theorem dL_far_18 : decode cL_far 18 = .ok (.ireturn, 1) := by decide +kernel
def wpL_far (sG : AR) (G_towerCell : AR) (ov : Int32) (x1 : Int32) (x2 : Int32) (post : Int32 → Int32 → Prop) : Prop := wpX10_far sG G_towerCell x1 x2 (fun r => post (0 : Int32) r) (fun E => E = exN ∧ post (1 : Int32) ov)
set_option maxHeartbeats 4000000 in
set_option maxRecDepth 100000 in
theorem ctL_far (l : Launch) (D : va_G) (cy : Nat → ClassId) (ev : Nat → Nat) (hst : l.stackTraces = false) (h0 : Nat) (rS : Nat → Nat) (rG : Nat → Nat) (sS : AR) (sG : AR) (G_towerCell : AR) (aO : Nat) (ov : Int32) (x1 : Int32) (x2 : Int32) (sz : Nat) (post : Int32 → Int32 → Prop) (h : wpL_far sG G_towerCell ov x1 x2 post) : Met l yL_far (Cond.codeWith yL_far cL_far 5 (some .int) [(0, 10, 13, 21)] :: TB) ({ frames := 8, cells := 2, slots := 12, locals := 143 }) (va_Pc [.ref h0, .int x1, .int x2, .ref aO] (PreU D cy ev [(h0, .inr (10, oX10 rS sS)), ((rS 2), .inr (4, oX4 rG sG)), ((rG 7), .inl (cy 0, 5, .inl G_towerCell)), (aO, .inl (cy 3, 1, .inr (.inl (outF ov))))] sz)) (va_Qi (fun (r : Int32) (u : Int32) => post r u) (fun u => BkX D cy [(h0, .inr (10, oX10 rS sS)), ((rS 2), .inr (4, oX4 rG sG)), ((rG 7), .inl (cy 0, 5, .inl G_towerCell)), (aO, .inl (cy 3, 1, .inr (.inl (outF ov))))] sz [(h0, .inr (10, oX10 rS sS)), ((rS 2), .inr (4, oX4 rG sG)), ((rG 7), .inl (cy 0, 5, .inl G_towerCell)), (aO, .inl (cy 3, 1, .inr (.inl (outF u))))]) (va_A [(h0, .inr (10, oX10 rS sS)), ((rS 2), .inr (4, oX4 rG sG)), ((rG 7), .inl (cy 0, 5, .inl G_towerCell)), (aO, .inl (cy 3, 1, .inr (.inl (outF ov))))] sz)) 2 12 (va_A [(h0, .inr (10, oX10 rS sS)), ((rS 2), .inr (4, oX4 rG sG)), ((rG 7), .inl (cy 0, 5, .inl G_towerCell)), (aO, .inl (cy 3, 1, .inr (.inl (outF ov))))] sz) := by
  refine ofHi (by decide) (Nat.le_of_ble_eq_true rfl) ?_
  intro p e s m args below meth c ls A R QQ hx hb hml hown hts htab hR hE hT hN hK hP hD hS hA hl hret
  have hown : s.vm.findClass RL = some m.cls := hown
  have hRf : 8 ≤ R.frames := by rw [hR]; exact Nat.le_refl _
  have hRl : 143 ≤ R.locals := by rw [hR]; exact Nat.le_refl _
  have hRc : 2 ≤ R.cells := by rw [hR]; exact Nat.le_refl _
  have hRs : 12 ≤ R.slots := by rw [hR]; exact Nat.le_refl _
  clear hR
  have hl : lv_has ls 5 [(0, .ref h0), (1, .int x1), (2, .int x2), (3, .ref aO)] := hl
  unfold wpL_far at h
  refine lv_aload_n hx hb dL_far_0 rfl (lv_at hl 3 rfl) ?_
  refine lv_iconst (v := (0 : Int32)) hx hb dL_far_1 (by decide) ?_
  refine lv_aload_n hx hb dL_far_2 rfl (lv_at hl 0 rfl) ?_
  refine lv_iload_n hx hb dL_far_3 rfl (lv_at hl 1 rfl) ?_
  refine lv_iload_n hx hb dL_far_4 rfl (lv_at hl 2 rfl) ?_
  refine clXi (As := [.int x1, .int x2]) (rest := [.int (0 : Int32), .ref aO]) (Wr := [(aO, .inl (cy 3, 1, .inr (.inl (outF ov))))]) (cq := (RX10, TX10, 18)) ⟨hx, hb, hml, hown, hts⟩ ⟨callB_of 2 hts (goodC mw986) rfl rfl rfl (hts _ (tb mw1)) (hts _ (tb mw983)) kdX10_far ⟨Nat.le_trans (by decide) hRf, Nat.le_trans (by decide) hRl⟩, hts _ (tb mw984), hts _ (tb mw985)⟩ (ctX10_far l D cy ev hst h0 rS rG sS sG G_towerCell x1 x2 _ _ _ h) hE hT hK hP hD hS hA [0, 1, 2] [3] rfl rfl (by decide) (by decide) (by decide) 0 rfl rfl rfl hl.1 rfl (Nat.le_of_ble_eq_true rfl) ⟨Nat.le_trans (by decide) hRc, Nat.le_trans (by decide) hRs⟩ dL_far_5 (fun E ce q H locs h hP hD hS g1 g2 g3 => ?_) (fun r u H locs h hP hD hS => ?_)
  · obtain ⟨rfl, h⟩ := h
    have hz : tableOf [(0, 10, 13, 21)] = [] ++ (⟨0, 10, 13, 21⟩ : ExceptionTableEntry) :: [] := rfl
    refine sb_catch (own := RL) (name := exN) (E := exN) (ce := ce) hown [] ⟨0, 10, 13, 21⟩ [] (htab.trans hz) (fun z hz9 => nomatch hz9) (by decide) (by decide) (hts _ (tb mw927)) (va_Nw.use rfl (hT (.castable exN exN) (by decide))) g1 g2 g3 ?_
    refine lv_astore (lv' := (4, .ref q) :: [(0, .ref h0), (1, .int x1), (2, .int x2), (3, .ref aO)]) hx hb dL_far_13 hl (by decide) rfl (fun ls hl => ?_)
    refine lv_iconst (v := (1 : Int32)) hx hb dL_far_15 (by decide) ?_
    exact hret (1 : Int32) (ov) _ _ _ _ dL_far_16 h (hP.sub [1, 2, 3, 0] rfl) (hD.sub [1, 2, 3, 0] (by decide) rfl) hS
  · refine lv_i2l (v := r.toInt64) hx hb dL_far_8 rfl ?_
    refine va_last hx hb hK hP hD hS 0 3 rfl rfl (inL (by decide)) dL_far_9 (fun H locs hP hD hS => ?_)
    refine lv_goto (tgt := 17) hx hb dL_far_10 (by decide) ?_
    refine lv_iconst (v := (0 : Int32)) hx hb dL_far_17 (by decide) ?_
    have hu : vp_updL (outF ov) (0 : Int32).toNatClampNeg r.toInt64 = outF r := outF_upd ov r
    rw [hu] at hP hD
    exact hret (0 : Int32) (r) _ _ _ _ dL_far_18 h (hP.sub [1, 2, 3, 0] rfl) (hD.sub [1, 2, 3, 0] (by decide) rfl) hS
theorem mwL_heard : Cond.codeWith yL_heard cL_heard 4 (some .int) [(0, 9, 12, 21)] ∈ TB := memTB 996 (by decide +kernel) (by decide +kernel)
theorem dL_heard_0 : decode cL_heard 0 = .ok (.aload_n 2, 1) := by decide +kernel
theorem dL_heard_1 : decode cL_heard 1 = .ok (.iconst 0, 1) := by decide +kernel
theorem dL_heard_2 : decode cL_heard 2 = .ok (.aload_n 0, 1) := by decide +kernel
theorem dL_heard_3 : decode cL_heard 3 = .ok (.iload_n 1, 1) := by decide +kernel
theorem dL_heard_4 : decode cL_heard 4 = .ok (.invokevirtual 33, 3) := by decide +kernel
theorem dL_heard_7 : decode cL_heard 7 = .ok (.i2l, 1) := by decide +kernel
theorem dL_heard_8 : decode cL_heard 8 = .ok (.lastore, 1) := by decide +kernel
theorem dL_heard_9 : decode cL_heard 9 = .ok (.goto 6, 3) := by decide +kernel
theorem dL_heard_12 : decode cL_heard 12 = .ok (.astore_n 3, 1) := by decide +kernel
theorem dL_heard_13 : decode cL_heard 13 = .ok (.iconst 1, 1) := by decide +kernel
theorem dL_heard_14 : decode cL_heard 14 = .ok (.ireturn, 1) := by decide +kernel
theorem dL_heard_15 : decode cL_heard 15 = .ok (.iconst 0, 1) := by decide +kernel
theorem dL_heard_16 : decode cL_heard 16 = .ok (.ireturn, 1) := by decide +kernel
def wpL_heard (sG : AR) (E_heardAt : AR) (ov : Int32) (x1 : Int32) (post : Int32 → Int32 → Prop) : Prop := wpX10_heard sG E_heardAt x1 (fun r => post (0 : Int32) r) (fun E => E = exN ∧ post (1 : Int32) ov)
set_option maxHeartbeats 4000000 in
set_option maxRecDepth 100000 in
theorem ctL_heard (l : Launch) (D : va_G) (cy : Nat → ClassId) (ev : Nat → Nat) (hst : l.stackTraces = false) (h0 : Nat) (rS : Nat → Nat) (rG : Nat → Nat) (rE : Nat → Nat) (sS : AR) (sG : AR) (E_heardAt : AR) (aO : Nat) (ov : Int32) (x1 : Int32) (sz : Nat) (post : Int32 → Int32 → Prop) (h : wpL_heard sG E_heardAt ov x1 post) : Met l yL_heard (Cond.codeWith yL_heard cL_heard 4 (some .int) [(0, 9, 12, 21)] :: TB) ({ frames := 8, cells := 1, slots := 6, locals := 142 }) (va_Pc [.ref h0, .int x1, .ref aO] (PreU D cy ev [(h0, .inr (10, oX10 rS sS)), ((rS 2), .inr (4, oX4 rG sG)), ((rS 4), .inr (1, oX1 rE)), ((rE 0), .inl (cy 1, 100, .inl E_heardAt)), (aO, .inl (cy 3, 1, .inr (.inl (outF ov))))] sz)) (va_Qi (fun (r : Int32) (u : Int32) => post r u) (fun u => BkX D cy [(h0, .inr (10, oX10 rS sS)), ((rS 2), .inr (4, oX4 rG sG)), ((rS 4), .inr (1, oX1 rE)), ((rE 0), .inl (cy 1, 100, .inl E_heardAt)), (aO, .inl (cy 3, 1, .inr (.inl (outF ov))))] sz [(h0, .inr (10, oX10 rS sS)), ((rS 2), .inr (4, oX4 rG sG)), ((rS 4), .inr (1, oX1 rE)), ((rE 0), .inl (cy 1, 100, .inl E_heardAt)), (aO, .inl (cy 3, 1, .inr (.inl (outF u))))]) (va_A [(h0, .inr (10, oX10 rS sS)), ((rS 2), .inr (4, oX4 rG sG)), ((rS 4), .inr (1, oX1 rE)), ((rE 0), .inl (cy 1, 100, .inl E_heardAt)), (aO, .inl (cy 3, 1, .inr (.inl (outF ov))))] sz)) 1 6 (va_A [(h0, .inr (10, oX10 rS sS)), ((rS 2), .inr (4, oX4 rG sG)), ((rS 4), .inr (1, oX1 rE)), ((rE 0), .inl (cy 1, 100, .inl E_heardAt)), (aO, .inl (cy 3, 1, .inr (.inl (outF ov))))] sz) := by
  refine ofHi (by decide) (Nat.le_of_ble_eq_true rfl) ?_
  intro p e s m args below meth c ls A R QQ hx hb hml hown hts htab hR hE hT hN hK hP hD hS hA hl hret
  have hown : s.vm.findClass RL = some m.cls := hown
  have hRf : 8 ≤ R.frames := by rw [hR]; exact Nat.le_refl _
  have hRl : 142 ≤ R.locals := by rw [hR]; exact Nat.le_refl _
  have hRc : 1 ≤ R.cells := by rw [hR]; exact Nat.le_refl _
  have hRs : 6 ≤ R.slots := by rw [hR]; exact Nat.le_refl _
  clear hR
  have hl : lv_has ls 4 [(0, .ref h0), (1, .int x1), (2, .ref aO)] := hl
  unfold wpL_heard at h
  refine lv_aload_n hx hb dL_heard_0 rfl (lv_at hl 2 rfl) ?_
  refine lv_iconst (v := (0 : Int32)) hx hb dL_heard_1 (by decide) ?_
  refine lv_aload_n hx hb dL_heard_2 rfl (lv_at hl 0 rfl) ?_
  refine lv_iload_n hx hb dL_heard_3 rfl (lv_at hl 1 rfl) ?_
  refine clXi (As := [.int x1]) (rest := [.int (0 : Int32), .ref aO]) (Wr := [(aO, .inl (cy 3, 1, .inr (.inl (outF ov))))]) (cq := (RX10, TX10, 18)) ⟨hx, hb, hml, hown, hts⟩ ⟨callB_of 1 hts (goodC mw1000) rfl rfl rfl (hts _ (tb mw1)) (hts _ (tb mw997)) kdX10_heard ⟨Nat.le_trans (by decide) hRf, Nat.le_trans (by decide) hRl⟩, hts _ (tb mw998), hts _ (tb mw999)⟩ (ctX10_heard l D cy ev hst h0 rS rG rE sS sG E_heardAt x1 _ _ _ h) hE hT hK hP hD hS hA [0, 1, 2, 3] [4] rfl rfl (by decide) (by decide) (by decide) 0 rfl rfl rfl hl.1 rfl (Nat.le_of_ble_eq_true rfl) ⟨Nat.le_trans (by decide) hRc, Nat.le_trans (by decide) hRs⟩ dL_heard_4 (fun E ce q H locs h hP hD hS g1 g2 g3 => ?_) (fun r u H locs h hP hD hS => ?_)
  · obtain ⟨rfl, h⟩ := h
    have hz : tableOf [(0, 9, 12, 21)] = [] ++ (⟨0, 9, 12, 21⟩ : ExceptionTableEntry) :: [] := rfl
    refine sb_catch (own := RL) (name := exN) (E := exN) (ce := ce) hown [] ⟨0, 9, 12, 21⟩ [] (htab.trans hz) (fun z hz9 => nomatch hz9) (by decide) (by decide) (hts _ (tb mw927)) (va_Nw.use rfl (hT (.castable exN exN) (by decide))) g1 g2 g3 ?_
    refine lv_astore_n (lv' := (3, .ref q) :: [(0, .ref h0), (1, .int x1), (2, .ref aO)]) hx hb dL_heard_12 rfl hl (by decide) rfl (fun ls hl => ?_)
    refine lv_iconst (v := (1 : Int32)) hx hb dL_heard_13 (by decide) ?_
    exact hret (1 : Int32) (ov) _ _ _ _ dL_heard_14 h (hP.sub [1, 2, 3, 4, 0] rfl) (hD.sub [1, 2, 3, 4, 0] (by decide) rfl) hS
  · refine lv_i2l (v := r.toInt64) hx hb dL_heard_7 rfl ?_
    refine va_last hx hb hK hP hD hS 0 3 rfl rfl (inL (by decide)) dL_heard_8 (fun H locs hP hD hS => ?_)
    refine lv_goto (tgt := 15) hx hb dL_heard_9 (by decide) ?_
    refine lv_iconst (v := (0 : Int32)) hx hb dL_heard_15 (by decide) ?_
    have hu : vp_updL (outF ov) (0 : Int32).toNatClampNeg r.toInt64 = outF r := outF_upd ov r
    rw [hu] at hP hD
    exact hret (0 : Int32) (r) _ _ _ _ dL_heard_16 h (hP.sub [1, 2, 3, 4, 0] rfl) (hD.sub [1, 2, 3, 4, 0] (by decide) rfl) hS
theorem mwL_ring : Cond.codeWith yL_ring cL_ring 5 (some .int) [(0, 10, 13, 13)] ∈ TB := memTB 1003 (by decide +kernel) (by decide +kernel)
theorem dL_ring_0 : decode cL_ring 0 = .ok (.aload_n 3, 1) := by decide +kernel
theorem dL_ring_1 : decode cL_ring 1 = .ok (.iconst 0, 1) := by decide +kernel
theorem dL_ring_2 : decode cL_ring 2 = .ok (.aload_n 0, 1) := by decide +kernel
theorem dL_ring_3 : decode cL_ring 3 = .ok (.iload_n 1, 1) := by decide +kernel
theorem dL_ring_4 : decode cL_ring 4 = .ok (.iload_n 2, 1) := by decide +kernel
theorem dL_ring_5 : decode cL_ring 5 = .ok (.invokevirtual 36, 3) := by decide +kernel
theorem dL_ring_8 : decode cL_ring 8 = .ok (.i2l, 1) := by decide +kernel
theorem dL_ring_9 : decode cL_ring 9 = .ok (.lastore, 1) := by decide +kernel
theorem dL_ring_10 : decode cL_ring 10 = .ok (.goto 7, 3) := by decide +kernel
theorem dL_ring_13 : decode cL_ring 13 = .ok (.astore 4, 2) := by decide +kernel
theorem dL_ring_15 : decode cL_ring 15 = .ok (.iconst 1, 1) := by decide +kernel
theorem dL_ring_16 : decode cL_ring 16 = .ok (.ireturn, 1) := by decide +kernel
theorem dL_ring_17 : decode cL_ring 17 = .ok (.iconst 0, 1) := by decide +kernel
theorem dL_ring_18 : decode cL_ring 18 = .ok (.ireturn, 1) := by decide +kernel
def wpL_ring (sC : AR) (sG : AR) (sQ : AR) (C_past : AR) (F_all : AR) (F_reasons : AR) (G_isFalse : AR) (G_kind : AR) (E_heardAt : AR) (E_nearest : AR) (E_ofVoice : AR) (E_alike : AR) (W_next : AR) (W_way : AR) (W_goal : AR) (Q_cell : AR) (Q_heading : AR) (ov : Int32) (x1 : Int32) (x2 : Int32) (post : Int32 → AR → AR → AR → AR → AR → AR → AR → Int32 → Prop) : Prop := wpX10_ring sC sG sQ C_past F_all F_reasons G_isFalse G_kind E_heardAt E_nearest E_ofVoice E_alike W_next W_way W_goal Q_cell Q_heading x1 x2 (fun r w0 w1 w2 w3 w4 w5 w6 => post (0 : Int32) w0 w1 w2 w3 w4 w5 w6 r) (fun E => E = exI ∧ post (1 : Int32) sC sQ C_past F_all F_reasons Q_cell Q_heading ov)
set_option maxHeartbeats 4000000 in
set_option maxRecDepth 100000 in
theorem ctL_ring (l : Launch) (D : va_G) (cy : Nat → ClassId) (ev : Nat → Nat) (hst : l.stackTraces = false) (h0 : Nat) (rS : Nat → Nat) (rC : Nat → Nat) (rF : Nat → Nat) (rG : Nat → Nat) (rE : Nat → Nat) (rW : Nat → Nat) (rQ : Nat → Nat) (sS : AR) (sC : AR) (sG : AR) (sQ : AR) (C_past : AR) (F_all : AR) (F_reasons : AR) (G_isFalse : AR) (G_kind : AR) (E_heardAt : AR) (E_nearest : AR) (E_ofVoice : AR) (E_alike : AR) (W_next : AR) (W_way : AR) (W_goal : AR) (Q_cell : AR) (Q_heading : AR) (aO : Nat) (ov : Int32) (x1 : Int32) (x2 : Int32) (sz : Nat) (post : Int32 → AR → AR → AR → AR → AR → AR → AR → Int32 → Prop) (h : wpL_ring sC sG sQ C_past F_all F_reasons G_isFalse G_kind E_heardAt E_nearest E_ofVoice E_alike W_next W_way W_goal Q_cell Q_heading ov x1 x2 post) : Met l yL_ring (Cond.codeWith yL_ring cL_ring 5 (some .int) [(0, 10, 13, 13)] :: TB) ({ frames := 8, cells := 1, slots := 6, locals := 189 }) (va_Pc [.ref h0, .int x1, .int x2, .ref aO] (PreU D cy ev [(h0, .inr (10, oX10 rS sS)), ((rS 8), .inr (0, oX0 rC sC)), ((rC 0), .inr (3, oX3 (rtP (rS 2) (rS 4) (rS 5) rF))), ((rS 2), .inr (4, oX4 rG sG)), ((rS 4), .inr (1, oX1 rE)), ((rS 5), .inr (2, oX2 rW)), ((rS 10), .inr (7, oX7 (rtP (rS 2) (rS 4) (rS 5) rQ) sQ)), ((rC 1), .inl (cy 0, 3400, .inl C_past)), (((rtP (rS 2) (rS 4) (rS 5) rF) 3), .inl (cy 0, 29, .inl F_all)), (((rtP (rS 2) (rS 4) (rS 5) rF) 4), .inl (cy 0, 4, .inl F_reasons)), ((rG 11), .inl (cy 2, 5, .inl G_isFalse)), ((rG 12), .inl (cy 0, 4, .inl G_kind)), ((rE 0), .inl (cy 1, 100, .inl E_heardAt)), ((rE 1), .inl (cy 1, 3200, .inl E_nearest)), ((rE 3), .inl (cy 0, 4, .inl E_ofVoice)), ((rE 4), .inl (cy 0, 5, .inl E_alike)), ((rW 0), .inl (cy 0, 400, .inl W_next)), ((rW 1), .inl (cy 0, 500, .inl W_way)), ((rW 2), .inl (cy 0, 5, .inl W_goal)), (((rtP (rS 2) (rS 4) (rS 5) rQ) 3), .inl (cy 0, 100, .inl Q_cell)), (((rtP (rS 2) (rS 4) (rS 5) rQ) 4), .inl (cy 0, 100, .inl Q_heading)), (aO, .inl (cy 3, 1, .inr (.inl (outF ov))))] sz)) (va_Qi (fun (r : Int32) (u : AR × AR × AR × AR × AR × AR × AR × Int32) => post r (u.1) (u.2.1) (u.2.2.1) (u.2.2.2.1) (u.2.2.2.2.1) (u.2.2.2.2.2.1) (u.2.2.2.2.2.2.1) (u.2.2.2.2.2.2.2)) (fun u => BkX D cy [(h0, .inr (10, oX10 rS sS)), ((rS 8), .inr (0, oX0 rC sC)), ((rC 0), .inr (3, oX3 (rtP (rS 2) (rS 4) (rS 5) rF))), ((rS 2), .inr (4, oX4 rG sG)), ((rS 4), .inr (1, oX1 rE)), ((rS 5), .inr (2, oX2 rW)), ((rS 10), .inr (7, oX7 (rtP (rS 2) (rS 4) (rS 5) rQ) sQ)), ((rC 1), .inl (cy 0, 3400, .inl C_past)), (((rtP (rS 2) (rS 4) (rS 5) rF) 3), .inl (cy 0, 29, .inl F_all)), (((rtP (rS 2) (rS 4) (rS 5) rF) 4), .inl (cy 0, 4, .inl F_reasons)), ((rG 11), .inl (cy 2, 5, .inl G_isFalse)), ((rG 12), .inl (cy 0, 4, .inl G_kind)), ((rE 0), .inl (cy 1, 100, .inl E_heardAt)), ((rE 1), .inl (cy 1, 3200, .inl E_nearest)), ((rE 3), .inl (cy 0, 4, .inl E_ofVoice)), ((rE 4), .inl (cy 0, 5, .inl E_alike)), ((rW 0), .inl (cy 0, 400, .inl W_next)), ((rW 1), .inl (cy 0, 500, .inl W_way)), ((rW 2), .inl (cy 0, 5, .inl W_goal)), (((rtP (rS 2) (rS 4) (rS 5) rQ) 3), .inl (cy 0, 100, .inl Q_cell)), (((rtP (rS 2) (rS 4) (rS 5) rQ) 4), .inl (cy 0, 100, .inl Q_heading)), (aO, .inl (cy 3, 1, .inr (.inl (outF ov))))] sz [(h0, .inr (10, oX10 rS sS)), ((rS 8), .inr (0, oX0 rC (u.1))), ((rC 0), .inr (3, oX3 (rtP (rS 2) (rS 4) (rS 5) rF))), ((rS 2), .inr (4, oX4 rG sG)), ((rS 4), .inr (1, oX1 rE)), ((rS 5), .inr (2, oX2 rW)), ((rS 10), .inr (7, oX7 (rtP (rS 2) (rS 4) (rS 5) rQ) (u.2.1))), ((rC 1), .inl (cy 0, 3400, .inl (u.2.2.1))), (((rtP (rS 2) (rS 4) (rS 5) rF) 3), .inl (cy 0, 29, .inl (u.2.2.2.1))), (((rtP (rS 2) (rS 4) (rS 5) rF) 4), .inl (cy 0, 4, .inl (u.2.2.2.2.1))), ((rG 11), .inl (cy 2, 5, .inl G_isFalse)), ((rG 12), .inl (cy 0, 4, .inl G_kind)), ((rE 0), .inl (cy 1, 100, .inl E_heardAt)), ((rE 1), .inl (cy 1, 3200, .inl E_nearest)), ((rE 3), .inl (cy 0, 4, .inl E_ofVoice)), ((rE 4), .inl (cy 0, 5, .inl E_alike)), ((rW 0), .inl (cy 0, 400, .inl W_next)), ((rW 1), .inl (cy 0, 500, .inl W_way)), ((rW 2), .inl (cy 0, 5, .inl W_goal)), (((rtP (rS 2) (rS 4) (rS 5) rQ) 3), .inl (cy 0, 100, .inl (u.2.2.2.2.2.1))), (((rtP (rS 2) (rS 4) (rS 5) rQ) 4), .inl (cy 0, 100, .inl (u.2.2.2.2.2.2.1))), (aO, .inl (cy 3, 1, .inr (.inl (outF (u.2.2.2.2.2.2.2)))))]) (va_A [(h0, .inr (10, oX10 rS sS)), ((rS 8), .inr (0, oX0 rC sC)), ((rC 0), .inr (3, oX3 (rtP (rS 2) (rS 4) (rS 5) rF))), ((rS 2), .inr (4, oX4 rG sG)), ((rS 4), .inr (1, oX1 rE)), ((rS 5), .inr (2, oX2 rW)), ((rS 10), .inr (7, oX7 (rtP (rS 2) (rS 4) (rS 5) rQ) sQ)), ((rC 1), .inl (cy 0, 3400, .inl C_past)), (((rtP (rS 2) (rS 4) (rS 5) rF) 3), .inl (cy 0, 29, .inl F_all)), (((rtP (rS 2) (rS 4) (rS 5) rF) 4), .inl (cy 0, 4, .inl F_reasons)), ((rG 11), .inl (cy 2, 5, .inl G_isFalse)), ((rG 12), .inl (cy 0, 4, .inl G_kind)), ((rE 0), .inl (cy 1, 100, .inl E_heardAt)), ((rE 1), .inl (cy 1, 3200, .inl E_nearest)), ((rE 3), .inl (cy 0, 4, .inl E_ofVoice)), ((rE 4), .inl (cy 0, 5, .inl E_alike)), ((rW 0), .inl (cy 0, 400, .inl W_next)), ((rW 1), .inl (cy 0, 500, .inl W_way)), ((rW 2), .inl (cy 0, 5, .inl W_goal)), (((rtP (rS 2) (rS 4) (rS 5) rQ) 3), .inl (cy 0, 100, .inl Q_cell)), (((rtP (rS 2) (rS 4) (rS 5) rQ) 4), .inl (cy 0, 100, .inl Q_heading)), (aO, .inl (cy 3, 1, .inr (.inl (outF ov))))] sz)) 1 6 (va_A [(h0, .inr (10, oX10 rS sS)), ((rS 8), .inr (0, oX0 rC sC)), ((rC 0), .inr (3, oX3 (rtP (rS 2) (rS 4) (rS 5) rF))), ((rS 2), .inr (4, oX4 rG sG)), ((rS 4), .inr (1, oX1 rE)), ((rS 5), .inr (2, oX2 rW)), ((rS 10), .inr (7, oX7 (rtP (rS 2) (rS 4) (rS 5) rQ) sQ)), ((rC 1), .inl (cy 0, 3400, .inl C_past)), (((rtP (rS 2) (rS 4) (rS 5) rF) 3), .inl (cy 0, 29, .inl F_all)), (((rtP (rS 2) (rS 4) (rS 5) rF) 4), .inl (cy 0, 4, .inl F_reasons)), ((rG 11), .inl (cy 2, 5, .inl G_isFalse)), ((rG 12), .inl (cy 0, 4, .inl G_kind)), ((rE 0), .inl (cy 1, 100, .inl E_heardAt)), ((rE 1), .inl (cy 1, 3200, .inl E_nearest)), ((rE 3), .inl (cy 0, 4, .inl E_ofVoice)), ((rE 4), .inl (cy 0, 5, .inl E_alike)), ((rW 0), .inl (cy 0, 400, .inl W_next)), ((rW 1), .inl (cy 0, 500, .inl W_way)), ((rW 2), .inl (cy 0, 5, .inl W_goal)), (((rtP (rS 2) (rS 4) (rS 5) rQ) 3), .inl (cy 0, 100, .inl Q_cell)), (((rtP (rS 2) (rS 4) (rS 5) rQ) 4), .inl (cy 0, 100, .inl Q_heading)), (aO, .inl (cy 3, 1, .inr (.inl (outF ov))))] sz) := by
  refine ofHi (by decide) (Nat.le_of_ble_eq_true rfl) ?_
  intro p e s m args below meth c ls A R QQ hx hb hml hown hts htab hR hE hT hN hK hP hD hS hA hl hret
  have hown : s.vm.findClass RL = some m.cls := hown
  have hRf : 8 ≤ R.frames := by rw [hR]; exact Nat.le_refl _
  have hRl : 189 ≤ R.locals := by rw [hR]; exact Nat.le_refl _
  have hRc : 1 ≤ R.cells := by rw [hR]; exact Nat.le_refl _
  have hRs : 6 ≤ R.slots := by rw [hR]; exact Nat.le_refl _
  clear hR
  have hl : lv_has ls 5 [(0, .ref h0), (1, .int x1), (2, .int x2), (3, .ref aO)] := hl
  unfold wpL_ring at h
  refine lv_aload_n hx hb dL_ring_0 rfl (lv_at hl 3 rfl) ?_
  refine lv_iconst (v := (0 : Int32)) hx hb dL_ring_1 (by decide) ?_
  refine lv_aload_n hx hb dL_ring_2 rfl (lv_at hl 0 rfl) ?_
  refine lv_iload_n hx hb dL_ring_3 rfl (lv_at hl 1 rfl) ?_
  refine lv_iload_n hx hb dL_ring_4 rfl (lv_at hl 2 rfl) ?_
  refine clXi (As := [.int x1, .int x2]) (rest := [.int (0 : Int32), .ref aO]) (Wr := [(aO, .inl (cy 3, 1, .inr (.inl (outF ov))))]) (cq := (RX10, TX10, 18)) ⟨hx, hb, hml, hown, hts⟩ ⟨callB_of 2 hts (goodC mw1007) rfl rfl rfl (hts _ (tb mw1)) (hts _ (tb mw1004)) kdX10_ring ⟨Nat.le_trans (by decide) hRf, Nat.le_trans (by decide) hRl⟩, hts _ (tb mw1005), hts _ (tb mw1006)⟩ (ctX10_ring l D cy ev hst h0 rS rC rF rG rE rW rQ sS sC sG sQ C_past F_all F_reasons G_isFalse G_kind E_heardAt E_nearest E_ofVoice E_alike W_next W_way W_goal Q_cell Q_heading x1 x2 _ _ _ h) hE hT hK hP hD hS hA [0, 1, 2, 3, 4, 5, 6, 7, 8, 9, 10, 11, 12, 13, 14, 15, 16, 17, 18, 19, 20] [21] rfl rfl (by decide) (by decide) (by decide) 0 rfl rfl rfl hl.1 rfl (Nat.le_of_ble_eq_true rfl) ⟨Nat.le_trans (by decide) hRc, Nat.le_trans (by decide) hRs⟩ dL_ring_5 (fun E ce q H locs h hP hD hS g1 g2 g3 => ?_) (fun r u H locs h hP hD hS => ?_)
  · obtain ⟨rfl, h⟩ := h
    have hz : tableOf [(0, 10, 13, 13)] = [] ++ (⟨0, 10, 13, 13⟩ : ExceptionTableEntry) :: [] := rfl
    refine sb_catch (own := RL) (name := exI) (E := exI) (ce := ce) hown [] ⟨0, 10, 13, 13⟩ [] (htab.trans hz) (fun z hz9 => nomatch hz9) (by decide) (by decide) (hts _ (tb mw653)) (va_Nw.use rfl (hT (.castable exI exI) (by decide))) g1 g2 g3 ?_
    refine lv_astore (lv' := (4, .ref q) :: [(0, .ref h0), (1, .int x1), (2, .int x2), (3, .ref aO)]) hx hb dL_ring_13 hl (by decide) rfl (fun ls hl => ?_)
    refine lv_iconst (v := (1 : Int32)) hx hb dL_ring_15 (by decide) ?_
    exact hret (1 : Int32) (sC, sQ, C_past, F_all, F_reasons, Q_cell, Q_heading, ov) _ _ _ _ dL_ring_16 h (hP.sub [1, 2, 3, 4, 5, 6, 7, 8, 9, 10, 11, 12, 13, 14, 15, 16, 17, 18, 19, 20, 21, 0] rfl) (hD.sub [1, 2, 3, 4, 5, 6, 7, 8, 9, 10, 11, 12, 13, 14, 15, 16, 17, 18, 19, 20, 21, 0] (by decide) rfl) hS
  · refine lv_i2l (v := r.toInt64) hx hb dL_ring_8 rfl ?_
    refine va_last hx hb hK hP hD hS 0 3 rfl rfl (inL (by decide)) dL_ring_9 (fun H locs hP hD hS => ?_)
    refine lv_goto (tgt := 17) hx hb dL_ring_10 (by decide) ?_
    refine lv_iconst (v := (0 : Int32)) hx hb dL_ring_17 (by decide) ?_
    have hu : vp_updL (outF ov) (0 : Int32).toNatClampNeg r.toInt64 = outF r := outF_upd ov r
    rw [hu] at hP hD
    exact hret (0 : Int32) ((u.1), (u.2.1), (u.2.2.1), (u.2.2.2.1), (u.2.2.2.2.1), (u.2.2.2.2.2.1), (u.2.2.2.2.2.2), r) _ _ _ _ dL_ring_18 h (hP.sub [1, 2, 3, 4, 5, 6, 7, 8, 9, 10, 11, 12, 13, 14, 15, 16, 17, 18, 19, 20, 21, 0] rfl) (hD.sub [1, 2, 3, 4, 5, 6, 7, 8, 9, 10, 11, 12, 13, 14, 15, 16, 17, 18, 19, 20, 21, 0] (by decide) rfl) hS
theorem mwL_why : Cond.codeWith yL_why cL_why 5 (some .int) [(0, 10, 13, 21)] ∈ TB := memTB 1011 (by decide +kernel) (by decide +kernel)
theorem dL_why_0 : decode cL_why 0 = .ok (.aload_n 3, 1) := by decide +kernel
theorem dL_why_1 : decode cL_why 1 = .ok (.iconst 0, 1) := by decide +kernel
theorem dL_why_2 : decode cL_why 2 = .ok (.aload_n 0, 1) := by decide +kernel
theorem dL_why_3 : decode cL_why 3 = .ok (.iload_n 1, 1) := by decide +kernel
theorem dL_why_4 : decode cL_why 4 = .ok (.iload_n 2, 1) := by decide +kernel
theorem dL_why_5 : decode cL_why 5 = .ok (.invokevirtual 39, 3) := by decide +kernel
theorem dL_why_8 : decode cL_why 8 = .ok (.i2l, 1) := by decide +kernel
theorem dL_why_9 : decode cL_why 9 = .ok (.lastore, 1) := by decide +kernel
theorem dL_why_10 : decode cL_why 10 = .ok (.goto 7, 3) := by decide +kernel
theorem dL_why_13 : decode cL_why 13 = .ok (.astore 4, 2) := by decide +kernel
theorem dL_why_15 : decode cL_why 15 = .ok (.iconst 1, 1) := by decide +kernel
theorem dL_why_16 : decode cL_why 16 = .ok (.ireturn, 1) := by decide +kernel
theorem dL_why_17 : decode cL_why 17 = .ok (.iconst 0, 1) := by decide +kernel
theorem dL_why_18 : decode cL_why 18 = .ok (.ireturn, 1) := by decide +kernel
def wpL_why (sG : AR) (sC : AR) (C_past : AR) (ov : Int32) (x1 : Int32) (x2 : Int32) (post : Int32 → Int32 → Prop) : Prop := wpX10_why sG sC C_past x1 x2 (fun r => post (0 : Int32) r) (fun E => E = exN ∧ post (1 : Int32) ov)
set_option maxHeartbeats 4000000 in
set_option maxRecDepth 100000 in
theorem ctL_why (l : Launch) (D : va_G) (cy : Nat → ClassId) (ev : Nat → Nat) (hst : l.stackTraces = false) (h0 : Nat) (rS : Nat → Nat) (rG : Nat → Nat) (rC : Nat → Nat) (sS : AR) (sG : AR) (sC : AR) (C_past : AR) (aO : Nat) (ov : Int32) (x1 : Int32) (x2 : Int32) (sz : Nat) (post : Int32 → Int32 → Prop) (h : wpL_why sG sC C_past ov x1 x2 post) : Met l yL_why (Cond.codeWith yL_why cL_why 5 (some .int) [(0, 10, 13, 21)] :: TB) ({ frames := 8, cells := 2, slots := 12, locals := 143 }) (va_Pc [.ref h0, .int x1, .int x2, .ref aO] (PreU D cy ev [(h0, .inr (10, oX10 rS sS)), ((rS 2), .inr (4, oX4 rG sG)), ((rS 8), .inr (0, oX0 rC sC)), ((rC 1), .inl (cy 0, 3400, .inl C_past)), (aO, .inl (cy 3, 1, .inr (.inl (outF ov))))] sz)) (va_Qi (fun (r : Int32) (u : Int32) => post r u) (fun u => BkX D cy [(h0, .inr (10, oX10 rS sS)), ((rS 2), .inr (4, oX4 rG sG)), ((rS 8), .inr (0, oX0 rC sC)), ((rC 1), .inl (cy 0, 3400, .inl C_past)), (aO, .inl (cy 3, 1, .inr (.inl (outF ov))))] sz [(h0, .inr (10, oX10 rS sS)), ((rS 2), .inr (4, oX4 rG sG)), ((rS 8), .inr (0, oX0 rC sC)), ((rC 1), .inl (cy 0, 3400, .inl C_past)), (aO, .inl (cy 3, 1, .inr (.inl (outF u))))]) (va_A [(h0, .inr (10, oX10 rS sS)), ((rS 2), .inr (4, oX4 rG sG)), ((rS 8), .inr (0, oX0 rC sC)), ((rC 1), .inl (cy 0, 3400, .inl C_past)), (aO, .inl (cy 3, 1, .inr (.inl (outF ov))))] sz)) 2 12 (va_A [(h0, .inr (10, oX10 rS sS)), ((rS 2), .inr (4, oX4 rG sG)), ((rS 8), .inr (0, oX0 rC sC)), ((rC 1), .inl (cy 0, 3400, .inl C_past)), (aO, .inl (cy 3, 1, .inr (.inl (outF ov))))] sz) := by
  refine ofHi (by decide) (Nat.le_of_ble_eq_true rfl) ?_
  intro p e s m args below meth c ls A R QQ hx hb hml hown hts htab hR hE hT hN hK hP hD hS hA hl hret
  have hown : s.vm.findClass RL = some m.cls := hown
  have hRf : 8 ≤ R.frames := by rw [hR]; exact Nat.le_refl _
  have hRl : 143 ≤ R.locals := by rw [hR]; exact Nat.le_refl _
  have hRc : 2 ≤ R.cells := by rw [hR]; exact Nat.le_refl _
  have hRs : 12 ≤ R.slots := by rw [hR]; exact Nat.le_refl _
  clear hR
  have hl : lv_has ls 5 [(0, .ref h0), (1, .int x1), (2, .int x2), (3, .ref aO)] := hl
  unfold wpL_why at h
  refine lv_aload_n hx hb dL_why_0 rfl (lv_at hl 3 rfl) ?_
  refine lv_iconst (v := (0 : Int32)) hx hb dL_why_1 (by decide) ?_
  refine lv_aload_n hx hb dL_why_2 rfl (lv_at hl 0 rfl) ?_
  refine lv_iload_n hx hb dL_why_3 rfl (lv_at hl 1 rfl) ?_
  refine lv_iload_n hx hb dL_why_4 rfl (lv_at hl 2 rfl) ?_
  refine clXi (As := [.int x1, .int x2]) (rest := [.int (0 : Int32), .ref aO]) (Wr := [(aO, .inl (cy 3, 1, .inr (.inl (outF ov))))]) (cq := (RX10, TX10, 18)) ⟨hx, hb, hml, hown, hts⟩ ⟨callB_of 2 hts (goodC mw1015) rfl rfl rfl (hts _ (tb mw1)) (hts _ (tb mw1012)) kdX10_why ⟨Nat.le_trans (by decide) hRf, Nat.le_trans (by decide) hRl⟩, hts _ (tb mw1013), hts _ (tb mw1014)⟩ (ctX10_why l D cy ev hst h0 rS rG rC sS sG sC C_past x1 x2 _ _ _ h) hE hT hK hP hD hS hA [0, 1, 2, 3] [4] rfl rfl (by decide) (by decide) (by decide) 0 rfl rfl rfl hl.1 rfl (Nat.le_of_ble_eq_true rfl) ⟨Nat.le_trans (by decide) hRc, Nat.le_trans (by decide) hRs⟩ dL_why_5 (fun E ce q H locs h hP hD hS g1 g2 g3 => ?_) (fun r u H locs h hP hD hS => ?_)
  · obtain ⟨rfl, h⟩ := h
    have hz : tableOf [(0, 10, 13, 21)] = [] ++ (⟨0, 10, 13, 21⟩ : ExceptionTableEntry) :: [] := rfl
    refine sb_catch (own := RL) (name := exN) (E := exN) (ce := ce) hown [] ⟨0, 10, 13, 21⟩ [] (htab.trans hz) (fun z hz9 => nomatch hz9) (by decide) (by decide) (hts _ (tb mw927)) (va_Nw.use rfl (hT (.castable exN exN) (by decide))) g1 g2 g3 ?_
    refine lv_astore (lv' := (4, .ref q) :: [(0, .ref h0), (1, .int x1), (2, .int x2), (3, .ref aO)]) hx hb dL_why_13 hl (by decide) rfl (fun ls hl => ?_)
    refine lv_iconst (v := (1 : Int32)) hx hb dL_why_15 (by decide) ?_
    exact hret (1 : Int32) (ov) _ _ _ _ dL_why_16 h (hP.sub [1, 2, 3, 4, 0] rfl) (hD.sub [1, 2, 3, 4, 0] (by decide) rfl) hS
  · refine lv_i2l (v := r.toInt64) hx hb dL_why_8 rfl ?_
    refine va_last hx hb hK hP hD hS 0 3 rfl rfl (inL (by decide)) dL_why_9 (fun H locs hP hD hS => ?_)
    refine lv_goto (tgt := 17) hx hb dL_why_10 (by decide) ?_
    refine lv_iconst (v := (0 : Int32)) hx hb dL_why_17 (by decide) ?_
    have hu : vp_updL (outF ov) (0 : Int32).toNatClampNeg r.toInt64 = outF r := outF_upd ov r
    rw [hu] at hP hD
    exact hret (0 : Int32) (r) _ _ _ _ dL_why_18 h (hP.sub [1, 2, 3, 4, 0] rfl) (hD.sub [1, 2, 3, 4, 0] (by decide) rfl) hS
theorem mwL_seen : Cond.codeWith yL_seen cL_seen 6 (some .int) [(0, 12, 15, 21)] ∈ TB := memTB 1023 (by decide +kernel) (by decide +kernel)
theorem dL_seen_0 : decode cL_seen 0 = .ok (.aload 4, 2) := by decide +kernel
theorem dL_seen_2 : decode cL_seen 2 = .ok (.iconst 0, 1) := by decide +kernel
theorem dL_seen_3 : decode cL_seen 3 = .ok (.aload_n 0, 1) := by decide +kernel
theorem dL_seen_4 : decode cL_seen 4 = .ok (.iload_n 1, 1) := by decide +kernel
theorem dL_seen_5 : decode cL_seen 5 = .ok (.iload_n 2, 1) := by decide +kernel
theorem dL_seen_6 : decode cL_seen 6 = .ok (.iload_n 3, 1) := by decide +kernel
theorem dL_seen_7 : decode cL_seen 7 = .ok (.invokevirtual 42, 3) := by decide +kernel
theorem dL_seen_10 : decode cL_seen 10 = .ok (.i2l, 1) := by decide +kernel
theorem dL_seen_11 : decode cL_seen 11 = .ok (.lastore, 1) := by decide +kernel
theorem dL_seen_12 : decode cL_seen 12 = .ok (.goto 7, 3) := by decide +kernel
theorem dL_seen_15 : decode cL_seen 15 = .ok (.astore 5, 2) := by decide +kernel
theorem dL_seen_17 : decode cL_seen 17 = .ok (.iconst 1, 1) := by decide +kernel
theorem dL_seen_18 : decode cL_seen 18 = .ok (.ireturn, 1) := by decide +kernel
theorem dL_seen_19 : decode cL_seen 19 = .ok (.iconst 0, 1) := by decide +kernel
theorem dL_seen_20 : decode cL_seen 20 = .ok (.ireturn, 1) := by decide +kernel
def wpL_seen (sG : AR) (sQ : AR) (Q_cell : AR) (Q_heading : AR) (ov : Int32) (x1 : Int32) (x2 : Int32) (x3 : Int32) (post : Int32 → AR → AR → AR → Int32 → Prop) : Prop := wpX10_seen sG sQ Q_cell Q_heading x1 x2 x3 (fun r w0 w1 w2 => post (0 : Int32) w0 w1 w2 r) (fun E => E = exN ∧ post (1 : Int32) sQ Q_cell Q_heading ov)
set_option maxHeartbeats 4000000 in
set_option maxRecDepth 100000 in
theorem ctL_seen (l : Launch) (D : va_G) (cy : Nat → ClassId) (ev : Nat → Nat) (hst : l.stackTraces = false) (h0 : Nat) (rS : Nat → Nat) (rG : Nat → Nat) (rQ : Nat → Nat) (sS : AR) (sG : AR) (sQ : AR) (Q_cell : AR) (Q_heading : AR) (aO : Nat) (ov : Int32) (x1 : Int32) (x2 : Int32) (x3 : Int32) (sz : Nat) (post : Int32 → AR → AR → AR → Int32 → Prop) (h : wpL_seen sG sQ Q_cell Q_heading ov x1 x2 x3 post) : Met l yL_seen (Cond.codeWith yL_seen cL_seen 6 (some .int) [(0, 12, 15, 21)] :: TB) ({ frames := 7, cells := 1, slots := 6, locals := 123 }) (va_Pc [.ref h0, .int x1, .int x2, .int x3, .ref aO] (PreU D cy ev [(h0, .inr (10, oX10 rS sS)), ((rS 2), .inr (4, oX4 rG sG)), ((rS 10), .inr (7, oX7 (rtP (rS 2) (rS 4) (rS 5) rQ) sQ)), (((rtP (rS 2) (rS 4) (rS 5) rQ) 3), .inl (cy 0, 100, .inl Q_cell)), (((rtP (rS 2) (rS 4) (rS 5) rQ) 4), .inl (cy 0, 100, .inl Q_heading)), (aO, .inl (cy 3, 1, .inr (.inl (outF ov))))] sz)) (va_Qi (fun (r : Int32) (u : AR × AR × AR × Int32) => post r (u.1) (u.2.1) (u.2.2.1) (u.2.2.2)) (fun u => BkX D cy [(h0, .inr (10, oX10 rS sS)), ((rS 2), .inr (4, oX4 rG sG)), ((rS 10), .inr (7, oX7 (rtP (rS 2) (rS 4) (rS 5) rQ) sQ)), (((rtP (rS 2) (rS 4) (rS 5) rQ) 3), .inl (cy 0, 100, .inl Q_cell)), (((rtP (rS 2) (rS 4) (rS 5) rQ) 4), .inl (cy 0, 100, .inl Q_heading)), (aO, .inl (cy 3, 1, .inr (.inl (outF ov))))] sz [(h0, .inr (10, oX10 rS sS)), ((rS 2), .inr (4, oX4 rG sG)), ((rS 10), .inr (7, oX7 (rtP (rS 2) (rS 4) (rS 5) rQ) (u.1))), (((rtP (rS 2) (rS 4) (rS 5) rQ) 3), .inl (cy 0, 100, .inl (u.2.1))), (((rtP (rS 2) (rS 4) (rS 5) rQ) 4), .inl (cy 0, 100, .inl (u.2.2.1))), (aO, .inl (cy 3, 1, .inr (.inl (outF (u.2.2.2)))))]) (va_A [(h0, .inr (10, oX10 rS sS)), ((rS 2), .inr (4, oX4 rG sG)), ((rS 10), .inr (7, oX7 (rtP (rS 2) (rS 4) (rS 5) rQ) sQ)), (((rtP (rS 2) (rS 4) (rS 5) rQ) 3), .inl (cy 0, 100, .inl Q_cell)), (((rtP (rS 2) (rS 4) (rS 5) rQ) 4), .inl (cy 0, 100, .inl Q_heading)), (aO, .inl (cy 3, 1, .inr (.inl (outF ov))))] sz)) 1 6 (va_A [(h0, .inr (10, oX10 rS sS)), ((rS 2), .inr (4, oX4 rG sG)), ((rS 10), .inr (7, oX7 (rtP (rS 2) (rS 4) (rS 5) rQ) sQ)), (((rtP (rS 2) (rS 4) (rS 5) rQ) 3), .inl (cy 0, 100, .inl Q_cell)), (((rtP (rS 2) (rS 4) (rS 5) rQ) 4), .inl (cy 0, 100, .inl Q_heading)), (aO, .inl (cy 3, 1, .inr (.inl (outF ov))))] sz) := by
  refine ofHi (by decide) (Nat.le_of_ble_eq_true rfl) ?_
  intro p e s m args below meth c ls A R QQ hx hb hml hown hts htab hR hE hT hN hK hP hD hS hA hl hret
  have hown : s.vm.findClass RL = some m.cls := hown
  have hRf : 7 ≤ R.frames := by rw [hR]; exact Nat.le_refl _
  have hRl : 123 ≤ R.locals := by rw [hR]; exact Nat.le_refl _
  have hRc : 1 ≤ R.cells := by rw [hR]; exact Nat.le_refl _
  have hRs : 6 ≤ R.slots := by rw [hR]; exact Nat.le_refl _
  clear hR
  have hl : lv_has ls 6 [(0, .ref h0), (1, .int x1), (2, .int x2), (3, .int x3), (4, .ref aO)] := hl
  unfold wpL_seen at h
  refine lv_aload hx hb dL_seen_0 (lv_at hl 4 rfl) ?_
  refine lv_iconst (v := (0 : Int32)) hx hb dL_seen_2 (by decide) ?_
  refine lv_aload_n hx hb dL_seen_3 rfl (lv_at hl 0 rfl) ?_
  refine lv_iload_n hx hb dL_seen_4 rfl (lv_at hl 1 rfl) ?_
  refine lv_iload_n hx hb dL_seen_5 rfl (lv_at hl 2 rfl) ?_
  refine lv_iload_n hx hb dL_seen_6 rfl (lv_at hl 3 rfl) ?_
  refine clXi (As := [.int x1, .int x2, .int x3]) (rest := [.int (0 : Int32), .ref aO]) (Wr := [(aO, .inl (cy 3, 1, .inr (.inl (outF ov))))]) (cq := (RX10, TX10, 18)) ⟨hx, hb, hml, hown, hts⟩ ⟨callB_of 3 hts (goodC mw1027) rfl rfl rfl (hts _ (tb mw1)) (hts _ (tb mw1024)) kdX10_seen ⟨Nat.le_trans (by decide) hRf, Nat.le_trans (by decide) hRl⟩, hts _ (tb mw1025), hts _ (tb mw1026)⟩ (ctX10_seen l D cy ev hst h0 rS rG rQ sS sG sQ Q_cell Q_heading x1 x2 x3 _ _ _ h) hE hT hK hP hD hS hA [0, 1, 2, 3, 4] [5] rfl rfl (by decide) (by decide) (by decide) 0 rfl rfl rfl hl.1 rfl (Nat.le_of_ble_eq_true rfl) ⟨Nat.le_trans (by decide) hRc, Nat.le_trans (by decide) hRs⟩ dL_seen_7 (fun E ce q H locs h hP hD hS g1 g2 g3 => ?_) (fun r u H locs h hP hD hS => ?_)
  · obtain ⟨rfl, h⟩ := h
    have hz : tableOf [(0, 12, 15, 21)] = [] ++ (⟨0, 12, 15, 21⟩ : ExceptionTableEntry) :: [] := rfl
    refine sb_catch (own := RL) (name := exN) (E := exN) (ce := ce) hown [] ⟨0, 12, 15, 21⟩ [] (htab.trans hz) (fun z hz9 => nomatch hz9) (by decide) (by decide) (hts _ (tb mw927)) (va_Nw.use rfl (hT (.castable exN exN) (by decide))) g1 g2 g3 ?_
    refine lv_astore (lv' := (5, .ref q) :: [(0, .ref h0), (1, .int x1), (2, .int x2), (3, .int x3), (4, .ref aO)]) hx hb dL_seen_15 hl (by decide) rfl (fun ls hl => ?_)
    refine lv_iconst (v := (1 : Int32)) hx hb dL_seen_17 (by decide) ?_
    exact hret (1 : Int32) (sQ, Q_cell, Q_heading, ov) _ _ _ _ dL_seen_18 h (hP.sub [1, 2, 3, 4, 5, 0] rfl) (hD.sub [1, 2, 3, 4, 5, 0] (by decide) rfl) hS
  · refine lv_i2l (v := r.toInt64) hx hb dL_seen_10 rfl ?_
    refine va_last hx hb hK hP hD hS 0 3 rfl rfl (inL (by decide)) dL_seen_11 (fun H locs hP hD hS => ?_)
    refine lv_goto (tgt := 19) hx hb dL_seen_12 (by decide) ?_
    refine lv_iconst (v := (0 : Int32)) hx hb dL_seen_19 (by decide) ?_
    have hu : vp_updL (outF ov) (0 : Int32).toNatClampNeg r.toInt64 = outF r := outF_upd ov r
    rw [hu] at hP hD
    exact hret (0 : Int32) ((u.1), (u.2.1), (u.2.2), r) _ _ _ _ dL_seen_20 h (hP.sub [1, 2, 3, 4, 5, 0] rfl) (hD.sub [1, 2, 3, 4, 5, 0] (by decide) rfl) hS
theorem mwL_cases : Cond.codeWith yL_cases cL_cases 4 (some .int) [(0, 9, 12, 21)] ∈ TB := memTB 1037 (by decide +kernel) (by decide +kernel)
theorem dL_cases_0 : decode cL_cases 0 = .ok (.aload_n 2, 1) := by decide +kernel
theorem dL_cases_1 : decode cL_cases 1 = .ok (.iconst 0, 1) := by decide +kernel
theorem dL_cases_2 : decode cL_cases 2 = .ok (.aload_n 0, 1) := by decide +kernel
theorem dL_cases_3 : decode cL_cases 3 = .ok (.iload_n 1, 1) := by decide +kernel
theorem dL_cases_4 : decode cL_cases 4 = .ok (.invokevirtual 46, 3) := by decide +kernel
theorem dL_cases_7 : decode cL_cases 7 = .ok (.i2l, 1) := by decide +kernel
theorem dL_cases_8 : decode cL_cases 8 = .ok (.lastore, 1) := by decide +kernel
theorem dL_cases_9 : decode cL_cases 9 = .ok (.goto 6, 3) := by decide +kernel
theorem dL_cases_12 : decode cL_cases 12 = .ok (.astore_n 3, 1) := by decide +kernel
theorem dL_cases_13 : decode cL_cases 13 = .ok (.iconst 1, 1) := by decide +kernel
theorem dL_cases_14 : decode cL_cases 14 = .ok (.ireturn, 1) := by decide +kernel
theorem dL_cases_15 : decode cL_cases 15 = .ok (.iconst 0, 1) := by decide +kernel
theorem dL_cases_16 : decode cL_cases 16 = .ok (.ireturn, 1) := by decide +kernel
def wpL_cases (sG : AR) (sQ : AR) (Q_cell : AR) (ov : Int32) (x1 : Int32) (post : Int32 → Int32 → Prop) : Prop := wpX10_cases sG sQ Q_cell x1 (fun r => post (0 : Int32) r) (fun E => E = exN ∧ post (1 : Int32) ov)
set_option maxHeartbeats 4000000 in
set_option maxRecDepth 100000 in
theorem ctL_cases (l : Launch) (D : va_G) (cy : Nat → ClassId) (ev : Nat → Nat) (hst : l.stackTraces = false) (h0 : Nat) (rS : Nat → Nat) (rG : Nat → Nat) (rQ : Nat → Nat) (sS : AR) (sG : AR) (sQ : AR) (Q_cell : AR) (aO : Nat) (ov : Int32) (x1 : Int32) (sz : Nat) (post : Int32 → Int32 → Prop) (h : wpL_cases sG sQ Q_cell ov x1 post) : Met l yL_cases (Cond.codeWith yL_cases cL_cases 4 (some .int) [(0, 9, 12, 21)] :: TB) ({ frames := 8, cells := 1, slots := 6, locals := 142 }) (va_Pc [.ref h0, .int x1, .ref aO] (PreU D cy ev [(h0, .inr (10, oX10 rS sS)), ((rS 2), .inr (4, oX4 rG sG)), ((rS 10), .inr (7, oX7 (rtP (rS 2) (rS 4) (rS 5) rQ) sQ)), (((rtP (rS 2) (rS 4) (rS 5) rQ) 3), .inl (cy 0, 100, .inl Q_cell)), (aO, .inl (cy 3, 1, .inr (.inl (outF ov))))] sz)) (va_Qi (fun (r : Int32) (u : Int32) => post r u) (fun u => BkX D cy [(h0, .inr (10, oX10 rS sS)), ((rS 2), .inr (4, oX4 rG sG)), ((rS 10), .inr (7, oX7 (rtP (rS 2) (rS 4) (rS 5) rQ) sQ)), (((rtP (rS 2) (rS 4) (rS 5) rQ) 3), .inl (cy 0, 100, .inl Q_cell)), (aO, .inl (cy 3, 1, .inr (.inl (outF ov))))] sz [(h0, .inr (10, oX10 rS sS)), ((rS 2), .inr (4, oX4 rG sG)), ((rS 10), .inr (7, oX7 (rtP (rS 2) (rS 4) (rS 5) rQ) sQ)), (((rtP (rS 2) (rS 4) (rS 5) rQ) 3), .inl (cy 0, 100, .inl Q_cell)), (aO, .inl (cy 3, 1, .inr (.inl (outF u))))]) (va_A [(h0, .inr (10, oX10 rS sS)), ((rS 2), .inr (4, oX4 rG sG)), ((rS 10), .inr (7, oX7 (rtP (rS 2) (rS 4) (rS 5) rQ) sQ)), (((rtP (rS 2) (rS 4) (rS 5) rQ) 3), .inl (cy 0, 100, .inl Q_cell)), (aO, .inl (cy 3, 1, .inr (.inl (outF ov))))] sz)) 1 6 (va_A [(h0, .inr (10, oX10 rS sS)), ((rS 2), .inr (4, oX4 rG sG)), ((rS 10), .inr (7, oX7 (rtP (rS 2) (rS 4) (rS 5) rQ) sQ)), (((rtP (rS 2) (rS 4) (rS 5) rQ) 3), .inl (cy 0, 100, .inl Q_cell)), (aO, .inl (cy 3, 1, .inr (.inl (outF ov))))] sz) := by
  refine ofHi (by decide) (Nat.le_of_ble_eq_true rfl) ?_
  intro p e s m args below meth c ls A R QQ hx hb hml hown hts htab hR hE hT hN hK hP hD hS hA hl hret
  have hown : s.vm.findClass RL = some m.cls := hown
  have hRf : 8 ≤ R.frames := by rw [hR]; exact Nat.le_refl _
  have hRl : 142 ≤ R.locals := by rw [hR]; exact Nat.le_refl _
  have hRc : 1 ≤ R.cells := by rw [hR]; exact Nat.le_refl _
  have hRs : 6 ≤ R.slots := by rw [hR]; exact Nat.le_refl _
  clear hR
  have hl : lv_has ls 4 [(0, .ref h0), (1, .int x1), (2, .ref aO)] := hl
  unfold wpL_cases at h
  refine lv_aload_n hx hb dL_cases_0 rfl (lv_at hl 2 rfl) ?_
  refine lv_iconst (v := (0 : Int32)) hx hb dL_cases_1 (by decide) ?_
  refine lv_aload_n hx hb dL_cases_2 rfl (lv_at hl 0 rfl) ?_
  refine lv_iload_n hx hb dL_cases_3 rfl (lv_at hl 1 rfl) ?_
  refine clXi (As := [.int x1]) (rest := [.int (0 : Int32), .ref aO]) (Wr := [(aO, .inl (cy 3, 1, .inr (.inl (outF ov))))]) (cq := (RX10, TX10, 18)) ⟨hx, hb, hml, hown, hts⟩ ⟨callB_of 1 hts (goodC mw1041) rfl rfl rfl (hts _ (tb mw1)) (hts _ (tb mw1038)) kdX10_cases ⟨Nat.le_trans (by decide) hRf, Nat.le_trans (by decide) hRl⟩, hts _ (tb mw1039), hts _ (tb mw1040)⟩ (ctX10_cases l D cy ev hst h0 rS rG rQ sS sG sQ Q_cell x1 _ _ _ h) hE hT hK hP hD hS hA [0, 1, 2, 3] [4] rfl rfl (by decide) (by decide) (by decide) 0 rfl rfl rfl hl.1 rfl (Nat.le_of_ble_eq_true rfl) ⟨Nat.le_trans (by decide) hRc, Nat.le_trans (by decide) hRs⟩ dL_cases_4 (fun E ce q H locs h hP hD hS g1 g2 g3 => ?_) (fun r u H locs h hP hD hS => ?_)
  · obtain ⟨rfl, h⟩ := h
    have hz : tableOf [(0, 9, 12, 21)] = [] ++ (⟨0, 9, 12, 21⟩ : ExceptionTableEntry) :: [] := rfl
    refine sb_catch (own := RL) (name := exN) (E := exN) (ce := ce) hown [] ⟨0, 9, 12, 21⟩ [] (htab.trans hz) (fun z hz9 => nomatch hz9) (by decide) (by decide) (hts _ (tb mw927)) (va_Nw.use rfl (hT (.castable exN exN) (by decide))) g1 g2 g3 ?_
    refine lv_astore_n (lv' := (3, .ref q) :: [(0, .ref h0), (1, .int x1), (2, .ref aO)]) hx hb dL_cases_12 rfl hl (by decide) rfl (fun ls hl => ?_)
    refine lv_iconst (v := (1 : Int32)) hx hb dL_cases_13 (by decide) ?_
    exact hret (1 : Int32) (ov) _ _ _ _ dL_cases_14 h (hP.sub [1, 2, 3, 4, 0] rfl) (hD.sub [1, 2, 3, 4, 0] (by decide) rfl) hS
  · refine lv_i2l (v := r.toInt64) hx hb dL_cases_7 rfl ?_
    refine va_last hx hb hK hP hD hS 0 3 rfl rfl (inL (by decide)) dL_cases_8 (fun H locs hP hD hS => ?_)
    refine lv_goto (tgt := 15) hx hb dL_cases_9 (by decide) ?_
    refine lv_iconst (v := (0 : Int32)) hx hb dL_cases_15 (by decide) ?_
    have hu : vp_updL (outF ov) (0 : Int32).toNatClampNeg r.toInt64 = outF r := outF_upd ov r
    rw [hu] at hP hD
    exact hret (0 : Int32) (r) _ _ _ _ dL_cases_16 h (hP.sub [1, 2, 3, 4, 0] rfl) (hD.sub [1, 2, 3, 4, 0] (by decide) rfl) hS
theorem mwL_odds : Cond.codeWith yL_odds cL_odds 5 (some .int) [(0, 10, 13, 21)] ∈ TB := memTB 1048 (by decide +kernel) (by decide +kernel)
theorem dL_odds_0 : decode cL_odds 0 = .ok (.aload_n 3, 1) := by decide +kernel
theorem dL_odds_1 : decode cL_odds 1 = .ok (.iconst 0, 1) := by decide +kernel
theorem dL_odds_2 : decode cL_odds 2 = .ok (.aload_n 0, 1) := by decide +kernel
theorem dL_odds_3 : decode cL_odds 3 = .ok (.iload_n 1, 1) := by decide +kernel
theorem dL_odds_4 : decode cL_odds 4 = .ok (.iload_n 2, 1) := by decide +kernel
theorem dL_odds_5 : decode cL_odds 5 = .ok (.invokevirtual 49, 3) := by decide +kernel
theorem dL_odds_8 : decode cL_odds 8 = .ok (.i2l, 1) := by decide +kernel
theorem dL_odds_9 : decode cL_odds 9 = .ok (.lastore, 1) := by decide +kernel
theorem dL_odds_10 : decode cL_odds 10 = .ok (.goto 7, 3) := by decide +kernel
theorem dL_odds_13 : decode cL_odds 13 = .ok (.astore 4, 2) := by decide +kernel
theorem dL_odds_15 : decode cL_odds 15 = .ok (.iconst 1, 1) := by decide +kernel
theorem dL_odds_16 : decode cL_odds 16 = .ok (.ireturn, 1) := by decide +kernel
theorem dL_odds_17 : decode cL_odds 17 = .ok (.iconst 0, 1) := by decide +kernel
theorem dL_odds_18 : decode cL_odds 18 = .ok (.ireturn, 1) := by decide +kernel
def wpL_odds (sG : AR) (sQ : AR) (Q_cell : AR) (ov : Int32) (x1 : Int32) (x2 : Int32) (post : Int32 → Int32 → Prop) : Prop := wpX10_odds sG sQ Q_cell x1 x2 (fun r => post (0 : Int32) r) (fun E => E = exN ∧ post (1 : Int32) ov)
set_option maxHeartbeats 4000000 in
set_option maxRecDepth 100000 in
theorem ctL_odds (l : Launch) (D : va_G) (cy : Nat → ClassId) (ev : Nat → Nat) (hst : l.stackTraces = false) (h0 : Nat) (rS : Nat → Nat) (rG : Nat → Nat) (rQ : Nat → Nat) (sS : AR) (sG : AR) (sQ : AR) (Q_cell : AR) (aO : Nat) (ov : Int32) (x1 : Int32) (x2 : Int32) (sz : Nat) (post : Int32 → Int32 → Prop) (h : wpL_odds sG sQ Q_cell ov x1 x2 post) : Met l yL_odds (Cond.codeWith yL_odds cL_odds 5 (some .int) [(0, 10, 13, 21)] :: TB) ({ frames := 8, cells := 2, slots := 12, locals := 145 }) (va_Pc [.ref h0, .int x1, .int x2, .ref aO] (PreU D cy ev [(h0, .inr (10, oX10 rS sS)), ((rS 2), .inr (4, oX4 rG sG)), ((rS 10), .inr (7, oX7 (rtP (rS 2) (rS 4) (rS 5) rQ) sQ)), (((rtP (rS 2) (rS 4) (rS 5) rQ) 3), .inl (cy 0, 100, .inl Q_cell)), (aO, .inl (cy 3, 1, .inr (.inl (outF ov))))] sz)) (va_Qi (fun (r : Int32) (u : Int32) => post r u) (fun u => BkX D cy [(h0, .inr (10, oX10 rS sS)), ((rS 2), .inr (4, oX4 rG sG)), ((rS 10), .inr (7, oX7 (rtP (rS 2) (rS 4) (rS 5) rQ) sQ)), (((rtP (rS 2) (rS 4) (rS 5) rQ) 3), .inl (cy 0, 100, .inl Q_cell)), (aO, .inl (cy 3, 1, .inr (.inl (outF ov))))] sz [(h0, .inr (10, oX10 rS sS)), ((rS 2), .inr (4, oX4 rG sG)), ((rS 10), .inr (7, oX7 (rtP (rS 2) (rS 4) (rS 5) rQ) sQ)), (((rtP (rS 2) (rS 4) (rS 5) rQ) 3), .inl (cy 0, 100, .inl Q_cell)), (aO, .inl (cy 3, 1, .inr (.inl (outF u))))]) (va_A [(h0, .inr (10, oX10 rS sS)), ((rS 2), .inr (4, oX4 rG sG)), ((rS 10), .inr (7, oX7 (rtP (rS 2) (rS 4) (rS 5) rQ) sQ)), (((rtP (rS 2) (rS 4) (rS 5) rQ) 3), .inl (cy 0, 100, .inl Q_cell)), (aO, .inl (cy 3, 1, .inr (.inl (outF ov))))] sz)) 2 12 (va_A [(h0, .inr (10, oX10 rS sS)), ((rS 2), .inr (4, oX4 rG sG)), ((rS 10), .inr (7, oX7 (rtP (rS 2) (rS 4) (rS 5) rQ) sQ)), (((rtP (rS 2) (rS 4) (rS 5) rQ) 3), .inl (cy 0, 100, .inl Q_cell)), (aO, .inl (cy 3, 1, .inr (.inl (outF ov))))] sz) := by
  refine ofHi (by decide) (Nat.le_of_ble_eq_true rfl) ?_
  intro p e s m args below meth c ls A R QQ hx hb hml hown hts htab hR hE hT hN hK hP hD hS hA hl hret
  have hown : s.vm.findClass RL = some m.cls := hown
  have hRf : 8 ≤ R.frames := by rw [hR]; exact Nat.le_refl _
  have hRl : 145 ≤ R.locals := by rw [hR]; exact Nat.le_refl _
  have hRc : 2 ≤ R.cells := by rw [hR]; exact Nat.le_refl _
  have hRs : 12 ≤ R.slots := by rw [hR]; exact Nat.le_refl _
  clear hR
  have hl : lv_has ls 5 [(0, .ref h0), (1, .int x1), (2, .int x2), (3, .ref aO)] := hl
  unfold wpL_odds at h
  refine lv_aload_n hx hb dL_odds_0 rfl (lv_at hl 3 rfl) ?_
  refine lv_iconst (v := (0 : Int32)) hx hb dL_odds_1 (by decide) ?_
  refine lv_aload_n hx hb dL_odds_2 rfl (lv_at hl 0 rfl) ?_
  refine lv_iload_n hx hb dL_odds_3 rfl (lv_at hl 1 rfl) ?_
  refine lv_iload_n hx hb dL_odds_4 rfl (lv_at hl 2 rfl) ?_
  refine clXi (As := [.int x1, .int x2]) (rest := [.int (0 : Int32), .ref aO]) (Wr := [(aO, .inl (cy 3, 1, .inr (.inl (outF ov))))]) (cq := (RX10, TX10, 18)) ⟨hx, hb, hml, hown, hts⟩ ⟨callB_of 2 hts (goodC mw1052) rfl rfl rfl (hts _ (tb mw1)) (hts _ (tb mw1049)) kdX10_odds ⟨Nat.le_trans (by decide) hRf, Nat.le_trans (by decide) hRl⟩, hts _ (tb mw1050), hts _ (tb mw1051)⟩ (ctX10_odds l D cy ev hst h0 rS rG rQ sS sG sQ Q_cell x1 x2 _ _ _ h) hE hT hK hP hD hS hA [0, 1, 2, 3] [4] rfl rfl (by decide) (by decide) (by decide) 0 rfl rfl rfl hl.1 rfl (Nat.le_of_ble_eq_true rfl) ⟨Nat.le_trans (by decide) hRc, Nat.le_trans (by decide) hRs⟩ dL_odds_5 (fun E ce q H locs h hP hD hS g1 g2 g3 => ?_) (fun r u H locs h hP hD hS => ?_)
  · obtain ⟨rfl, h⟩ := h
    have hz : tableOf [(0, 10, 13, 21)] = [] ++ (⟨0, 10, 13, 21⟩ : ExceptionTableEntry) :: [] := rfl
    refine sb_catch (own := RL) (name := exN) (E := exN) (ce := ce) hown [] ⟨0, 10, 13, 21⟩ [] (htab.trans hz) (fun z hz9 => nomatch hz9) (by decide) (by decide) (hts _ (tb mw927)) (va_Nw.use rfl (hT (.castable exN exN) (by decide))) g1 g2 g3 ?_
    refine lv_astore (lv' := (4, .ref q) :: [(0, .ref h0), (1, .int x1), (2, .int x2), (3, .ref aO)]) hx hb dL_odds_13 hl (by decide) rfl (fun ls hl => ?_)
    refine lv_iconst (v := (1 : Int32)) hx hb dL_odds_15 (by decide) ?_
    exact hret (1 : Int32) (ov) _ _ _ _ dL_odds_16 h (hP.sub [1, 2, 3, 4, 0] rfl) (hD.sub [1, 2, 3, 4, 0] (by decide) rfl) hS
  · refine lv_i2l (v := r.toInt64) hx hb dL_odds_8 rfl ?_
    refine va_last hx hb hK hP hD hS 0 3 rfl rfl (inL (by decide)) dL_odds_9 (fun H locs hP hD hS => ?_)
    refine lv_goto (tgt := 17) hx hb dL_odds_10 (by decide) ?_
    refine lv_iconst (v := (0 : Int32)) hx hb dL_odds_17 (by decide) ?_
    have hu : vp_updL (outF ov) (0 : Int32).toNatClampNeg r.toInt64 = outF r := outF_upd ov r
    rw [hu] at hP hD
    exact hret (0 : Int32) (r) _ _ _ _ dL_odds_18 h (hP.sub [1, 2, 3, 4, 0] rfl) (hD.sub [1, 2, 3, 4, 0] (by decide) rfl) hS
theorem mwL_best : Cond.codeWith yL_best cL_best 4 (some .int) [(0, 9, 12, 13)] ∈ TB := memTB 1063 (by decide +kernel) (by decide +kernel)
theorem dL_best_0 : decode cL_best 0 = .ok (.aload_n 2, 1) := by decide +kernel
theorem dL_best_1 : decode cL_best 1 = .ok (.iconst 0, 1) := by decide +kernel
theorem dL_best_2 : decode cL_best 2 = .ok (.aload_n 0, 1) := by decide +kernel
theorem dL_best_3 : decode cL_best 3 = .ok (.iload_n 1, 1) := by decide +kernel
theorem dL_best_4 : decode cL_best 4 = .ok (.invokevirtual 52, 3) := by decide +kernel
theorem dL_best_7 : decode cL_best 7 = .ok (.i2l, 1) := by decide +kernel
theorem dL_best_8 : decode cL_best 8 = .ok (.lastore, 1) := by decide +kernel
theorem dL_best_9 : decode cL_best 9 = .ok (.goto 6, 3) := by decide +kernel
theorem dL_best_12 : decode cL_best 12 = .ok (.astore_n 3, 1) := by decide +kernel
theorem dL_best_13 : decode cL_best 13 = .ok (.iconst 1, 1) := by decide +kernel
theorem dL_best_14 : decode cL_best 14 = .ok (.ireturn, 1) := by decide +kernel
theorem dL_best_15 : decode cL_best 15 = .ok (.iconst 0, 1) := by decide +kernel
theorem dL_best_16 : decode cL_best 16 = .ok (.ireturn, 1) := by decide +kernel
def wpL_best (sS : AR) (sN : AR) (sG : AR) (S_bestRow : AR) (N_row : AR) (N_found : AR) (G_isFalse : AR) (G_kind : AR) (F_all : AR) (P0_all : AR) (P1_all : AR) (P1_reasons : AR) (E_heardAt : AR) (E_nearest : AR) (E_ofVoice : AR) (E_alike : AR) (W_next : AR) (W_way : AR) (W_goal : AR) (P2_all : AR) (P2_reasons : AR) (P3_all : AR) (P3_reasons : AR) (P4_all : AR) (P4_reasons : AR) (ov : Int32) (x1 : Int32) (post : Int32 → AR → AR → AR → AR → AR → AR → AR → AR → AR → AR → AR → AR → AR → AR → Int32 → Prop) : Prop := wpX10_best sS sN sG S_bestRow N_row N_found G_isFalse G_kind F_all P0_all P1_all P1_reasons E_heardAt E_nearest E_ofVoice E_alike W_next W_way W_goal P2_all P2_reasons P3_all P3_reasons P4_all P4_reasons x1 (fun r w0 w1 w2 w3 w4 w5 w6 w7 w8 w9 w10 w11 w12 w13 => post (0 : Int32) w0 w1 w2 w3 w4 w5 w6 w7 w8 w9 w10 w11 w12 w13 r) (fun E => E = exI ∧ post (1 : Int32) sS sN S_bestRow N_row N_found P0_all P1_all P1_reasons P2_all P2_reasons P3_all P3_reasons P4_all P4_reasons ov)
set_option maxHeartbeats 4000000 in
set_option maxRecDepth 100000 in
theorem ctL_best (l : Launch) (D : va_G) (cy : Nat → ClassId) (ev : Nat → Nat) (hst : l.stackTraces = false) (h0 : Nat) (pa : Nat → Nat) (rS : Nat → Nat) (rC : Nat → Nat) (rN : Nat → Nat) (rG : Nat → Nat) (rF : Nat → Nat) (rP0 : Nat → Nat) (rP1 : Nat → Nat) (rE : Nat → Nat) (rW : Nat → Nat) (rP2 : Nat → Nat) (rP3 : Nat → Nat) (rP4 : Nat → Nat) (sC : AR) (sS : AR) (sN : AR) (sG : AR) (S_bestRow : AR) (N_row : AR) (N_found : AR) (G_isFalse : AR) (G_kind : AR) (F_all : AR) (P0_all : AR) (P1_all : AR) (P1_reasons : AR) (E_heardAt : AR) (E_nearest : AR) (E_ofVoice : AR) (E_alike : AR) (W_next : AR) (W_way : AR) (W_goal : AR) (P2_all : AR) (P2_reasons : AR) (P3_all : AR) (P3_reasons : AR) (P4_all : AR) (P4_reasons : AR) (aO : Nat) (ov : Int32) (x1 : Int32) (sz : Nat) (post : Int32 → AR → AR → AR → AR → AR → AR → AR → AR → AR → AR → AR → AR → AR → AR → Int32 → Prop) (h : wpL_best sS sN sG S_bestRow N_row N_found G_isFalse G_kind F_all P0_all P1_all P1_reasons E_heardAt E_nearest E_ofVoice E_alike W_next W_way W_goal P2_all P2_reasons P3_all P3_reasons P4_all P4_reasons ov x1 post) : Met l yL_best (Cond.codeWith yL_best cL_best 4 (some .int) [(0, 9, 12, 13)] :: TB) ({ frames := 21, cells := 1, slots := 6, locals := 1222 }) (va_Pc [.ref h0, .int x1, .ref aO] (PreU D cy ev [(h0, .inr (10, oX10 rS sS)), ((rS 8), .inr (0, oX0 rC sC)), ((rS 11), .inr (6, oX6 (rtQ (rS 2) rN) sN)), ((rS 2), .inr (4, oX4 rG sG)), ((rC 0), .inr (3, oX3 (rtP (rS 2) (rS 4) (rS 5) rF))), ((pa 0), .inr (3, oX3 (rtP (rS 2) (rS 4) (rS 5) rP0))), ((pa 1), .inr (3, oX3 (rtP (rS 2) (rS 4) (rS 5) rP1))), ((rS 4), .inr (1, oX1 rE)), ((rS 5), .inr (2, oX2 rW)), ((pa 2), .inr (3, oX3 (rtP (rS 2) (rS 4) (rS 5) rP2))), ((pa 3), .inr (3, oX3 (rtP (rS 2) (rS 4) (rS 5) rP3))), ((pa 4), .inr (3, oX3 (rtP (rS 2) (rS 4) (rS 5) rP4))), ((rS 13), .inl (cy 0, 4, .inl S_bestRow)), (((rtQ (rS 2) rN) 2), .inl (cy 0, 4, .inl N_row)), (((rtQ (rS 2) rN) 3), .inl (cy 0, 4, .inl N_found)), ((rG 11), .inl (cy 2, 5, .inl G_isFalse)), ((rG 12), .inl (cy 0, 4, .inl G_kind)), (((rtP (rS 2) (rS 4) (rS 5) rF) 3), .inl (cy 0, 29, .inl F_all)), (((rtP (rS 2) (rS 4) (rS 5) rP0) 3), .inl (cy 0, 29, .inl P0_all)), (((rtP (rS 2) (rS 4) (rS 5) rP1) 3), .inl (cy 0, 29, .inl P1_all)), (((rtP (rS 2) (rS 4) (rS 5) rP1) 4), .inl (cy 0, 4, .inl P1_reasons)), ((rE 0), .inl (cy 1, 100, .inl E_heardAt)), ((rE 1), .inl (cy 1, 3200, .inl E_nearest)), ((rE 3), .inl (cy 0, 4, .inl E_ofVoice)), ((rE 4), .inl (cy 0, 5, .inl E_alike)), ((rW 0), .inl (cy 0, 400, .inl W_next)), ((rW 1), .inl (cy 0, 500, .inl W_way)), ((rW 2), .inl (cy 0, 5, .inl W_goal)), (((rtP (rS 2) (rS 4) (rS 5) rP2) 3), .inl (cy 0, 29, .inl P2_all)), (((rtP (rS 2) (rS 4) (rS 5) rP2) 4), .inl (cy 0, 4, .inl P2_reasons)), (((rtP (rS 2) (rS 4) (rS 5) rP3) 3), .inl (cy 0, 29, .inl P3_all)), (((rtP (rS 2) (rS 4) (rS 5) rP3) 4), .inl (cy 0, 4, .inl P3_reasons)), (((rtP (rS 2) (rS 4) (rS 5) rP4) 3), .inl (cy 0, 29, .inl P4_all)), (((rtP (rS 2) (rS 4) (rS 5) rP4) 4), .inl (cy 0, 4, .inl P4_reasons)), (((rtQ (rS 2) rN) 1), .inl (cy 4, 5, .inr (.inr (.inr (.inr (fun i => some (pa i))))))), (aO, .inl (cy 3, 1, .inr (.inl (outF ov))))] sz)) (va_Qi (fun (r : Int32) (u : AR × AR × AR × AR × AR × AR × AR × AR × AR × AR × AR × AR × AR × AR × Int32) => post r (u.1) (u.2.1) (u.2.2.1) (u.2.2.2.1) (u.2.2.2.2.1) (u.2.2.2.2.2.1) (u.2.2.2.2.2.2.1) (u.2.2.2.2.2.2.2.1) (u.2.2.2.2.2.2.2.2.1) (u.2.2.2.2.2.2.2.2.2.1) (u.2.2.2.2.2.2.2.2.2.2.1) (u.2.2.2.2.2.2.2.2.2.2.2.1) (u.2.2.2.2.2.2.2.2.2.2.2.2.1) (u.2.2.2.2.2.2.2.2.2.2.2.2.2.1) (u.2.2.2.2.2.2.2.2.2.2.2.2.2.2)) (fun u => BkX D cy [(h0, .inr (10, oX10 rS sS)), ((rS 8), .inr (0, oX0 rC sC)), ((rS 11), .inr (6, oX6 (rtQ (rS 2) rN) sN)), ((rS 2), .inr (4, oX4 rG sG)), ((rC 0), .inr (3, oX3 (rtP (rS 2) (rS 4) (rS 5) rF))), ((pa 0), .inr (3, oX3 (rtP (rS 2) (rS 4) (rS 5) rP0))), ((pa 1), .inr (3, oX3 (rtP (rS 2) (rS 4) (rS 5) rP1))), ((rS 4), .inr (1, oX1 rE)), ((rS 5), .inr (2, oX2 rW)), ((pa 2), .inr (3, oX3 (rtP (rS 2) (rS 4) (rS 5) rP2))), ((pa 3), .inr (3, oX3 (rtP (rS 2) (rS 4) (rS 5) rP3))), ((pa 4), .inr (3, oX3 (rtP (rS 2) (rS 4) (rS 5) rP4))), ((rS 13), .inl (cy 0, 4, .inl S_bestRow)), (((rtQ (rS 2) rN) 2), .inl (cy 0, 4, .inl N_row)), (((rtQ (rS 2) rN) 3), .inl (cy 0, 4, .inl N_found)), ((rG 11), .inl (cy 2, 5, .inl G_isFalse)), ((rG 12), .inl (cy 0, 4, .inl G_kind)), (((rtP (rS 2) (rS 4) (rS 5) rF) 3), .inl (cy 0, 29, .inl F_all)), (((rtP (rS 2) (rS 4) (rS 5) rP0) 3), .inl (cy 0, 29, .inl P0_all)), (((rtP (rS 2) (rS 4) (rS 5) rP1) 3), .inl (cy 0, 29, .inl P1_all)), (((rtP (rS 2) (rS 4) (rS 5) rP1) 4), .inl (cy 0, 4, .inl P1_reasons)), ((rE 0), .inl (cy 1, 100, .inl E_heardAt)), ((rE 1), .inl (cy 1, 3200, .inl E_nearest)), ((rE 3), .inl (cy 0, 4, .inl E_ofVoice)), ((rE 4), .inl (cy 0, 5, .inl E_alike)), ((rW 0), .inl (cy 0, 400, .inl W_next)), ((rW 1), .inl (cy 0, 500, .inl W_way)), ((rW 2), .inl (cy 0, 5, .inl W_goal)), (((rtP (rS 2) (rS 4) (rS 5) rP2) 3), .inl (cy 0, 29, .inl P2_all)), (((rtP (rS 2) (rS 4) (rS 5) rP2) 4), .inl (cy 0, 4, .inl P2_reasons)), (((rtP (rS 2) (rS 4) (rS 5) rP3) 3), .inl (cy 0, 29, .inl P3_all)), (((rtP (rS 2) (rS 4) (rS 5) rP3) 4), .inl (cy 0, 4, .inl P3_reasons)), (((rtP (rS 2) (rS 4) (rS 5) rP4) 3), .inl (cy 0, 29, .inl P4_all)), (((rtP (rS 2) (rS 4) (rS 5) rP4) 4), .inl (cy 0, 4, .inl P4_reasons)), (((rtQ (rS 2) rN) 1), .inl (cy 4, 5, .inr (.inr (.inr (.inr (fun i => some (pa i))))))), (aO, .inl (cy 3, 1, .inr (.inl (outF ov))))] sz [(h0, .inr (10, oX10 rS (u.1))), ((rS 8), .inr (0, oX0 rC sC)), ((rS 11), .inr (6, oX6 (rtQ (rS 2) rN) (u.2.1))), ((rS 2), .inr (4, oX4 rG sG)), ((rC 0), .inr (3, oX3 (rtP (rS 2) (rS 4) (rS 5) rF))), ((pa 0), .inr (3, oX3 (rtP (rS 2) (rS 4) (rS 5) rP0))), ((pa 1), .inr (3, oX3 (rtP (rS 2) (rS 4) (rS 5) rP1))), ((rS 4), .inr (1, oX1 rE)), ((rS 5), .inr (2, oX2 rW)), ((pa 2), .inr (3, oX3 (rtP (rS 2) (rS 4) (rS 5) rP2))), ((pa 3), .inr (3, oX3 (rtP (rS 2) (rS 4) (rS 5) rP3))), ((pa 4), .inr (3, oX3 (rtP (rS 2) (rS 4) (rS 5) rP4))), ((rS 13), .inl (cy 0, 4, .inl (u.2.2.1))), (((rtQ (rS 2) rN) 2), .inl (cy 0, 4, .inl (u.2.2.2.1))), (((rtQ (rS 2) rN) 3), .inl (cy 0, 4, .inl (u.2.2.2.2.1))), ((rG 11), .inl (cy 2, 5, .inl G_isFalse)), ((rG 12), .inl (cy 0, 4, .inl G_kind)), (((rtP (rS 2) (rS 4) (rS 5) rF) 3), .inl (cy 0, 29, .inl F_all)), (((rtP (rS 2) (rS 4) (rS 5) rP0) 3), .inl (cy 0, 29, .inl (u.2.2.2.2.2.1))), (((rtP (rS 2) (rS 4) (rS 5) rP1) 3), .inl (cy 0, 29, .inl (u.2.2.2.2.2.2.1))), (((rtP (rS 2) (rS 4) (rS 5) rP1) 4), .inl (cy 0, 4, .inl (u.2.2.2.2.2.2.2.1))), ((rE 0), .inl (cy 1, 100, .inl E_heardAt)), ((rE 1), .inl (cy 1, 3200, .inl E_nearest)), ((rE 3), .inl (cy 0, 4, .inl E_ofVoice)), ((rE 4), .inl (cy 0, 5, .inl E_alike)), ((rW 0), .inl (cy 0, 400, .inl W_next)), ((rW 1), .inl (cy 0, 500, .inl W_way)), ((rW 2), .inl (cy 0, 5, .inl W_goal)), (((rtP (rS 2) (rS 4) (rS 5) rP2) 3), .inl (cy 0, 29, .inl (u.2.2.2.2.2.2.2.2.1))), (((rtP (rS 2) (rS 4) (rS 5) rP2) 4), .inl (cy 0, 4, .inl (u.2.2.2.2.2.2.2.2.2.1))), (((rtP (rS 2) (rS 4) (rS 5) rP3) 3), .inl (cy 0, 29, .inl (u.2.2.2.2.2.2.2.2.2.2.1))), (((rtP (rS 2) (rS 4) (rS 5) rP3) 4), .inl (cy 0, 4, .inl (u.2.2.2.2.2.2.2.2.2.2.2.1))), (((rtP (rS 2) (rS 4) (rS 5) rP4) 3), .inl (cy 0, 29, .inl (u.2.2.2.2.2.2.2.2.2.2.2.2.1))), (((rtP (rS 2) (rS 4) (rS 5) rP4) 4), .inl (cy 0, 4, .inl (u.2.2.2.2.2.2.2.2.2.2.2.2.2.1))), (((rtQ (rS 2) rN) 1), .inl (cy 4, 5, .inr (.inr (.inr (.inr (fun i => some (pa i))))))), (aO, .inl (cy 3, 1, .inr (.inl (outF (u.2.2.2.2.2.2.2.2.2.2.2.2.2.2)))))]) (va_A [(h0, .inr (10, oX10 rS sS)), ((rS 8), .inr (0, oX0 rC sC)), ((rS 11), .inr (6, oX6 (rtQ (rS 2) rN) sN)), ((rS 2), .inr (4, oX4 rG sG)), ((rC 0), .inr (3, oX3 (rtP (rS 2) (rS 4) (rS 5) rF))), ((pa 0), .inr (3, oX3 (rtP (rS 2) (rS 4) (rS 5) rP0))), ((pa 1), .inr (3, oX3 (rtP (rS 2) (rS 4) (rS 5) rP1))), ((rS 4), .inr (1, oX1 rE)), ((rS 5), .inr (2, oX2 rW)), ((pa 2), .inr (3, oX3 (rtP (rS 2) (rS 4) (rS 5) rP2))), ((pa 3), .inr (3, oX3 (rtP (rS 2) (rS 4) (rS 5) rP3))), ((pa 4), .inr (3, oX3 (rtP (rS 2) (rS 4) (rS 5) rP4))), ((rS 13), .inl (cy 0, 4, .inl S_bestRow)), (((rtQ (rS 2) rN) 2), .inl (cy 0, 4, .inl N_row)), (((rtQ (rS 2) rN) 3), .inl (cy 0, 4, .inl N_found)), ((rG 11), .inl (cy 2, 5, .inl G_isFalse)), ((rG 12), .inl (cy 0, 4, .inl G_kind)), (((rtP (rS 2) (rS 4) (rS 5) rF) 3), .inl (cy 0, 29, .inl F_all)), (((rtP (rS 2) (rS 4) (rS 5) rP0) 3), .inl (cy 0, 29, .inl P0_all)), (((rtP (rS 2) (rS 4) (rS 5) rP1) 3), .inl (cy 0, 29, .inl P1_all)), (((rtP (rS 2) (rS 4) (rS 5) rP1) 4), .inl (cy 0, 4, .inl P1_reasons)), ((rE 0), .inl (cy 1, 100, .inl E_heardAt)), ((rE 1), .inl (cy 1, 3200, .inl E_nearest)), ((rE 3), .inl (cy 0, 4, .inl E_ofVoice)), ((rE 4), .inl (cy 0, 5, .inl E_alike)), ((rW 0), .inl (cy 0, 400, .inl W_next)), ((rW 1), .inl (cy 0, 500, .inl W_way)), ((rW 2), .inl (cy 0, 5, .inl W_goal)), (((rtP (rS 2) (rS 4) (rS 5) rP2) 3), .inl (cy 0, 29, .inl P2_all)), (((rtP (rS 2) (rS 4) (rS 5) rP2) 4), .inl (cy 0, 4, .inl P2_reasons)), (((rtP (rS 2) (rS 4) (rS 5) rP3) 3), .inl (cy 0, 29, .inl P3_all)), (((rtP (rS 2) (rS 4) (rS 5) rP3) 4), .inl (cy 0, 4, .inl P3_reasons)), (((rtP (rS 2) (rS 4) (rS 5) rP4) 3), .inl (cy 0, 29, .inl P4_all)), (((rtP (rS 2) (rS 4) (rS 5) rP4) 4), .inl (cy 0, 4, .inl P4_reasons)), (((rtQ (rS 2) rN) 1), .inl (cy 4, 5, .inr (.inr (.inr (.inr (fun i => some (pa i))))))), (aO, .inl (cy 3, 1, .inr (.inl (outF ov))))] sz)) 1 6 (va_A [(h0, .inr (10, oX10 rS sS)), ((rS 8), .inr (0, oX0 rC sC)), ((rS 11), .inr (6, oX6 (rtQ (rS 2) rN) sN)), ((rS 2), .inr (4, oX4 rG sG)), ((rC 0), .inr (3, oX3 (rtP (rS 2) (rS 4) (rS 5) rF))), ((pa 0), .inr (3, oX3 (rtP (rS 2) (rS 4) (rS 5) rP0))), ((pa 1), .inr (3, oX3 (rtP (rS 2) (rS 4) (rS 5) rP1))), ((rS 4), .inr (1, oX1 rE)), ((rS 5), .inr (2, oX2 rW)), ((pa 2), .inr (3, oX3 (rtP (rS 2) (rS 4) (rS 5) rP2))), ((pa 3), .inr (3, oX3 (rtP (rS 2) (rS 4) (rS 5) rP3))), ((pa 4), .inr (3, oX3 (rtP (rS 2) (rS 4) (rS 5) rP4))), ((rS 13), .inl (cy 0, 4, .inl S_bestRow)), (((rtQ (rS 2) rN) 2), .inl (cy 0, 4, .inl N_row)), (((rtQ (rS 2) rN) 3), .inl (cy 0, 4, .inl N_found)), ((rG 11), .inl (cy 2, 5, .inl G_isFalse)), ((rG 12), .inl (cy 0, 4, .inl G_kind)), (((rtP (rS 2) (rS 4) (rS 5) rF) 3), .inl (cy 0, 29, .inl F_all)), (((rtP (rS 2) (rS 4) (rS 5) rP0) 3), .inl (cy 0, 29, .inl P0_all)), (((rtP (rS 2) (rS 4) (rS 5) rP1) 3), .inl (cy 0, 29, .inl P1_all)), (((rtP (rS 2) (rS 4) (rS 5) rP1) 4), .inl (cy 0, 4, .inl P1_reasons)), ((rE 0), .inl (cy 1, 100, .inl E_heardAt)), ((rE 1), .inl (cy 1, 3200, .inl E_nearest)), ((rE 3), .inl (cy 0, 4, .inl E_ofVoice)), ((rE 4), .inl (cy 0, 5, .inl E_alike)), ((rW 0), .inl (cy 0, 400, .inl W_next)), ((rW 1), .inl (cy 0, 500, .inl W_way)), ((rW 2), .inl (cy 0, 5, .inl W_goal)), (((rtP (rS 2) (rS 4) (rS 5) rP2) 3), .inl (cy 0, 29, .inl P2_all)), (((rtP (rS 2) (rS 4) (rS 5) rP2) 4), .inl (cy 0, 4, .inl P2_reasons)), (((rtP (rS 2) (rS 4) (rS 5) rP3) 3), .inl (cy 0, 29, .inl P3_all)), (((rtP (rS 2) (rS 4) (rS 5) rP3) 4), .inl (cy 0, 4, .inl P3_reasons)), (((rtP (rS 2) (rS 4) (rS 5) rP4) 3), .inl (cy 0, 29, .inl P4_all)), (((rtP (rS 2) (rS 4) (rS 5) rP4) 4), .inl (cy 0, 4, .inl P4_reasons)), (((rtQ (rS 2) rN) 1), .inl (cy 4, 5, .inr (.inr (.inr (.inr (fun i => some (pa i))))))), (aO, .inl (cy 3, 1, .inr (.inl (outF ov))))] sz) := by
  refine ofHi (by decide) (Nat.le_of_ble_eq_true rfl) ?_
  intro p e s m args below meth c ls A R QQ hx hb hml hown hts htab hR hE hT hN hK hP hD hS hA hl hret
  have hown : s.vm.findClass RL = some m.cls := hown
  have hRf : 21 ≤ R.frames := by rw [hR]; exact Nat.le_refl _
  have hRl : 1222 ≤ R.locals := by rw [hR]; exact Nat.le_refl _
  have hRc : 1 ≤ R.cells := by rw [hR]; exact Nat.le_refl _
  have hRs : 6 ≤ R.slots := by rw [hR]; exact Nat.le_refl _
  clear hR
  have hl : lv_has ls 4 [(0, .ref h0), (1, .int x1), (2, .ref aO)] := hl
  unfold wpL_best at h
  refine lv_aload_n hx hb dL_best_0 rfl (lv_at hl 2 rfl) ?_
  refine lv_iconst (v := (0 : Int32)) hx hb dL_best_1 (by decide) ?_
  refine lv_aload_n hx hb dL_best_2 rfl (lv_at hl 0 rfl) ?_
  refine lv_iload_n hx hb dL_best_3 rfl (lv_at hl 1 rfl) ?_
  refine clXi (As := [.int x1]) (rest := [.int (0 : Int32), .ref aO]) (Wr := [(aO, .inl (cy 3, 1, .inr (.inl (outF ov))))]) (cq := (RX10, TX10, 18)) ⟨hx, hb, hml, hown, hts⟩ ⟨callB_of 1 hts (goodC mw1067) rfl rfl rfl (hts _ (tb mw1)) (hts _ (tb mw1064)) kdX10_best ⟨Nat.le_trans (by decide) hRf, Nat.le_trans (by decide) hRl⟩, hts _ (tb mw1065), hts _ (tb mw1066)⟩ (ctX10_best l D cy ev hst h0 pa rS rC rN rG rF rP0 rP1 rE rW rP2 rP3 rP4 sC sS sN sG S_bestRow N_row N_found G_isFalse G_kind F_all P0_all P1_all P1_reasons E_heardAt E_nearest E_ofVoice E_alike W_next W_way W_goal P2_all P2_reasons P3_all P3_reasons P4_all P4_reasons x1 _ _ _ h) hE hT hK hP hD hS hA [0, 1, 2, 3, 4, 5, 6, 7, 8, 9, 10, 11, 12, 13, 14, 15, 16, 17, 18, 19, 20, 21, 22, 23, 24, 25, 26, 27, 28, 29, 30, 31, 32, 33, 34] [35] rfl rfl (by decide) (by decide) (by decide) 0 rfl rfl rfl hl.1 rfl (Nat.le_of_ble_eq_true rfl) ⟨Nat.le_trans (by decide) hRc, Nat.le_trans (by decide) hRs⟩ dL_best_4 (fun E ce q H locs h hP hD hS g1 g2 g3 => ?_) (fun r u H locs h hP hD hS => ?_)
  · obtain ⟨rfl, h⟩ := h
    have hz : tableOf [(0, 9, 12, 13)] = [] ++ (⟨0, 9, 12, 13⟩ : ExceptionTableEntry) :: [] := rfl
    refine sb_catch (own := RL) (name := exI) (E := exI) (ce := ce) hown [] ⟨0, 9, 12, 13⟩ [] (htab.trans hz) (fun z hz9 => nomatch hz9) (by decide) (by decide) (hts _ (tb mw653)) (va_Nw.use rfl (hT (.castable exI exI) (by decide))) g1 g2 g3 ?_
    refine lv_astore_n (lv' := (3, .ref q) :: [(0, .ref h0), (1, .int x1), (2, .ref aO)]) hx hb dL_best_12 rfl hl (by decide) rfl (fun ls hl => ?_)
    refine lv_iconst (v := (1 : Int32)) hx hb dL_best_13 (by decide) ?_
    exact hret (1 : Int32) (sS, sN, S_bestRow, N_row, N_found, P0_all, P1_all, P1_reasons, P2_all, P2_reasons, P3_all, P3_reasons, P4_all, P4_reasons, ov) _ _ _ _ dL_best_14 h (hP.sub [1, 2, 3, 4, 5, 6, 7, 8, 9, 10, 11, 12, 13, 14, 15, 16, 17, 18, 19, 20, 21, 22, 23, 24, 25, 26, 27, 28, 29, 30, 31, 32, 33, 34, 35, 0] rfl) (hD.sub [1, 2, 3, 4, 5, 6, 7, 8, 9, 10, 11, 12, 13, 14, 15, 16, 17, 18, 19, 20, 21, 22, 23, 24, 25, 26, 27, 28, 29, 30, 31, 32, 33, 34, 35, 0] (by decide) rfl) hS
  · refine lv_i2l (v := r.toInt64) hx hb dL_best_7 rfl ?_
    refine va_last hx hb hK hP hD hS 0 3 rfl rfl (inL (by decide)) dL_best_8 (fun H locs hP hD hS => ?_)
    refine lv_goto (tgt := 15) hx hb dL_best_9 (by decide) ?_
    refine lv_iconst (v := (0 : Int32)) hx hb dL_best_15 (by decide) ?_
    have hu : vp_updL (outF ov) (0 : Int32).toNatClampNeg r.toInt64 = outF r := outF_upd ov r
    rw [hu] at hP hD
    exact hret (0 : Int32) ((u.1), (u.2.1), (u.2.2.1), (u.2.2.2.1), (u.2.2.2.2.1), (u.2.2.2.2.2.1), (u.2.2.2.2.2.2.1), (u.2.2.2.2.2.2.2.1), (u.2.2.2.2.2.2.2.2.1), (u.2.2.2.2.2.2.2.2.2.1), (u.2.2.2.2.2.2.2.2.2.2.1), (u.2.2.2.2.2.2.2.2.2.2.2.1), (u.2.2.2.2.2.2.2.2.2.2.2.2.1), (u.2.2.2.2.2.2.2.2.2.2.2.2.2), r) _ _ _ _ dL_best_16 h (hP.sub [1, 2, 3, 4, 5, 6, 7, 8, 9, 10, 11, 12, 13, 14, 15, 16, 17, 18, 19, 20, 21, 22, 23, 24, 25, 26, 27, 28, 29, 30, 31, 32, 33, 34, 35, 0] rfl) (hD.sub [1, 2, 3, 4, 5, 6, 7, 8, 9, 10, 11, 12, 13, 14, 15, 16, 17, 18, 19, 20, 21, 22, 23, 24, 25, 26, 27, 28, 29, 30, 31, 32, 33, 34, 35, 0] (by decide) rfl) hS
theorem mwL_plan : Cond.codeWith yL_plan cL_plan 4 (some .int) [(0, 9, 12, 21)] ∈ TB := memTB 1113 (by decide +kernel) (by decide +kernel)
theorem dL_plan_0 : decode cL_plan 0 = .ok (.aload_n 2, 1) := by decide +kernel
theorem dL_plan_1 : decode cL_plan 1 = .ok (.iconst 0, 1) := by decide +kernel
theorem dL_plan_2 : decode cL_plan 2 = .ok (.aload_n 0, 1) := by decide +kernel
theorem dL_plan_3 : decode cL_plan 3 = .ok (.iload_n 1, 1) := by decide +kernel
theorem dL_plan_4 : decode cL_plan 4 = .ok (.invokevirtual 55, 3) := by decide +kernel
theorem dL_plan_7 : decode cL_plan 7 = .ok (.i2l, 1) := by decide +kernel
theorem dL_plan_8 : decode cL_plan 8 = .ok (.lastore, 1) := by decide +kernel
theorem dL_plan_9 : decode cL_plan 9 = .ok (.goto 6, 3) := by decide +kernel
theorem dL_plan_12 : decode cL_plan 12 = .ok (.astore_n 3, 1) := by decide +kernel
theorem dL_plan_13 : decode cL_plan 13 = .ok (.iconst 1, 1) := by decide +kernel
theorem dL_plan_14 : decode cL_plan 14 = .ok (.ireturn, 1) := by decide +kernel
theorem dL_plan_15 : decode cL_plan 15 = .ok (.iconst 0, 1) := by decide +kernel
theorem dL_plan_16 : decode cL_plan 16 = .ok (.ireturn, 1) := by decide +kernel
def wpL_plan (sS : AR) (S_bestRow : AR) (ov : Int32) (x1 : Int32) (post : Int32 → Int32 → Prop) : Prop := wpX10_plan sS S_bestRow x1 (fun r => post (0 : Int32) r) (fun E => E = exN ∧ post (1 : Int32) ov)
set_option maxHeartbeats 4000000 in
set_option maxRecDepth 100000 in
theorem ctL_plan (l : Launch) (D : va_G) (cy : Nat → ClassId) (ev : Nat → Nat) (hst : l.stackTraces = false) (h0 : Nat) (rS : Nat → Nat) (sS : AR) (S_bestRow : AR) (aO : Nat) (ov : Int32) (x1 : Int32) (sz : Nat) (post : Int32 → Int32 → Prop) (h : wpL_plan sS S_bestRow ov x1 post) : Met l yL_plan (Cond.codeWith yL_plan cL_plan 4 (some .int) [(0, 9, 12, 21)] :: TB) ({ frames := 7, cells := 1, slots := 6, locals := 121 }) (va_Pc [.ref h0, .int x1, .ref aO] (PreU D cy ev [(h0, .inr (10, oX10 rS sS)), ((rS 13), .inl (cy 0, 4, .inl S_bestRow)), (aO, .inl (cy 3, 1, .inr (.inl (outF ov))))] sz)) (va_Qi (fun (r : Int32) (u : Int32) => post r u) (fun u => BkX D cy [(h0, .inr (10, oX10 rS sS)), ((rS 13), .inl (cy 0, 4, .inl S_bestRow)), (aO, .inl (cy 3, 1, .inr (.inl (outF ov))))] sz [(h0, .inr (10, oX10 rS sS)), ((rS 13), .inl (cy 0, 4, .inl S_bestRow)), (aO, .inl (cy 3, 1, .inr (.inl (outF u))))]) (va_A [(h0, .inr (10, oX10 rS sS)), ((rS 13), .inl (cy 0, 4, .inl S_bestRow)), (aO, .inl (cy 3, 1, .inr (.inl (outF ov))))] sz)) 1 6 (va_A [(h0, .inr (10, oX10 rS sS)), ((rS 13), .inl (cy 0, 4, .inl S_bestRow)), (aO, .inl (cy 3, 1, .inr (.inl (outF ov))))] sz) := by
  refine ofHi (by decide) (Nat.le_of_ble_eq_true rfl) ?_
  intro p e s m args below meth c ls A R QQ hx hb hml hown hts htab hR hE hT hN hK hP hD hS hA hl hret
  have hown : s.vm.findClass RL = some m.cls := hown
  have hRf : 7 ≤ R.frames := by rw [hR]; exact Nat.le_refl _
  have hRl : 121 ≤ R.locals := by rw [hR]; exact Nat.le_refl _
  have hRc : 1 ≤ R.cells := by rw [hR]; exact Nat.le_refl _
  have hRs : 6 ≤ R.slots := by rw [hR]; exact Nat.le_refl _
  clear hR
  have hl : lv_has ls 4 [(0, .ref h0), (1, .int x1), (2, .ref aO)] := hl
  unfold wpL_plan at h
  refine lv_aload_n hx hb dL_plan_0 rfl (lv_at hl 2 rfl) ?_
  refine lv_iconst (v := (0 : Int32)) hx hb dL_plan_1 (by decide) ?_
  refine lv_aload_n hx hb dL_plan_2 rfl (lv_at hl 0 rfl) ?_
  refine lv_iload_n hx hb dL_plan_3 rfl (lv_at hl 1 rfl) ?_
  refine clXi (As := [.int x1]) (rest := [.int (0 : Int32), .ref aO]) (Wr := [(aO, .inl (cy 3, 1, .inr (.inl (outF ov))))]) (cq := (RX10, TX10, 18)) ⟨hx, hb, hml, hown, hts⟩ ⟨callB_of 1 hts (goodC mw1117) rfl rfl rfl (hts _ (tb mw1)) (hts _ (tb mw1114)) kdX10_plan ⟨Nat.le_trans (by decide) hRf, Nat.le_trans (by decide) hRl⟩, hts _ (tb mw1115), hts _ (tb mw1116)⟩ (ctX10_plan l D cy ev hst h0 rS sS S_bestRow x1 _ _ _ h) hE hT hK hP hD hS hA [0, 1] [2] rfl rfl (by decide) (by decide) (by decide) 0 rfl rfl rfl hl.1 rfl (Nat.le_of_ble_eq_true rfl) ⟨Nat.le_trans (by decide) hRc, Nat.le_trans (by decide) hRs⟩ dL_plan_4 (fun E ce q H locs h hP hD hS g1 g2 g3 => ?_) (fun r u H locs h hP hD hS => ?_)
  · obtain ⟨rfl, h⟩ := h
    have hz : tableOf [(0, 9, 12, 21)] = [] ++ (⟨0, 9, 12, 21⟩ : ExceptionTableEntry) :: [] := rfl
    refine sb_catch (own := RL) (name := exN) (E := exN) (ce := ce) hown [] ⟨0, 9, 12, 21⟩ [] (htab.trans hz) (fun z hz9 => nomatch hz9) (by decide) (by decide) (hts _ (tb mw927)) (va_Nw.use rfl (hT (.castable exN exN) (by decide))) g1 g2 g3 ?_
    refine lv_astore_n (lv' := (3, .ref q) :: [(0, .ref h0), (1, .int x1), (2, .ref aO)]) hx hb dL_plan_12 rfl hl (by decide) rfl (fun ls hl => ?_)
    refine lv_iconst (v := (1 : Int32)) hx hb dL_plan_13 (by decide) ?_
    exact hret (1 : Int32) (ov) _ _ _ _ dL_plan_14 h (hP.sub [1, 2, 0] rfl) (hD.sub [1, 2, 0] (by decide) rfl) hS
  · refine lv_i2l (v := r.toInt64) hx hb dL_plan_7 rfl ?_
    refine va_last hx hb hK hP hD hS 0 3 rfl rfl (inL (by decide)) dL_plan_8 (fun H locs hP hD hS => ?_)
    refine lv_goto (tgt := 15) hx hb dL_plan_9 (by decide) ?_
    refine lv_iconst (v := (0 : Int32)) hx hb dL_plan_15 (by decide) ?_
    have hu : vp_updL (outF ov) (0 : Int32).toNatClampNeg r.toInt64 = outF r := outF_upd ov r
    rw [hu] at hP hD
    exact hret (0 : Int32) (r) _ _ _ _ dL_plan_16 h (hP.sub [1, 2, 0] rfl) (hD.sub [1, 2, 0] (by decide) rfl) hS
theorem mwL_worth : Cond.codeWith yL_worth cL_worth 5 (some .int) [(0, 10, 13, 21), (0, 10, 17, 13)] ∈ TB := memTB 1121 (by decide +kernel) (by decide +kernel)
theorem dL_worth_0 : decode cL_worth 0 = .ok (.aload_n 3, 1) := by decide +kernel
theorem dL_worth_1 : decode cL_worth 1 = .ok (.iconst 0, 1) := by decide +kernel
theorem dL_worth_2 : decode cL_worth 2 = .ok (.aload_n 0, 1) := by decide +kernel
theorem dL_worth_3 : decode cL_worth 3 = .ok (.iload_n 1, 1) := by decide +kernel
theorem dL_worth_4 : decode cL_worth 4 = .ok (.iload_n 2, 1) := by decide +kernel
theorem dL_worth_5 : decode cL_worth 5 = .ok (.invokevirtual 58, 3) := by decide +kernel
theorem dL_worth_8 : decode cL_worth 8 = .ok (.i2l, 1) := by decide +kernel
theorem dL_worth_9 : decode cL_worth 9 = .ok (.lastore, 1) := by decide +kernel
theorem dL_worth_10 : decode cL_worth 10 = .ok (.goto 11, 3) := by decide +kernel
theorem dL_worth_13 : decode cL_worth 13 = .ok (.astore 4, 2) := by decide +kernel
theorem dL_worth_15 : decode cL_worth 15 = .ok (.iconst 1, 1) := by decide +kernel
theorem dL_worth_16 : decode cL_worth 16 = .ok (.ireturn, 1) := by decide +kernel
theorem dL_worth_17 : decode cL_worth 17 = .ok (.astore 4, 2) := by decide +kernel
theorem dL_worth_19 : decode cL_worth 19 = .ok (.iconst 2, 1) := by decide +kernel
theorem dL_worth_20 : decode cL_worth 20 = .ok (.ireturn, 1) := by decide +kernel
theorem dL_worth_21 : decode cL_worth 21 = .ok (.iconst 0, 1) := by decide +kernel
theorem dL_worth_22 : decode cL_worth 22 = .ok (.ireturn, 1) := by decide +kernel
def wpL_worth (sG : AR) (sN : AR) (G_isFalse : AR) (G_kind : AR) (N_row : AR) (N_found : AR) (F_all : AR) (P0_all : AR) (P1_all : AR) (P1_reasons : AR) (E_heardAt : AR) (E_nearest : AR) (E_ofVoice : AR) (E_alike : AR) (W_next : AR) (W_way : AR) (W_goal : AR) (P2_all : AR) (P2_reasons : AR) (P3_all : AR) (P3_reasons : AR) (P4_all : AR) (P4_reasons : AR) (ov : Int32) (x1 : Int32) (x2 : Int32) (post : Int32 → AR → AR → AR → AR → AR → AR → AR → AR → AR → AR → AR → AR → Int32 → Prop) : Prop := wpX10_worth sG sN G_isFalse G_kind N_row N_found F_all P0_all P1_all P1_reasons E_heardAt E_nearest E_ofVoice E_alike W_next W_way W_goal P2_all P2_reasons P3_all P3_reasons P4_all P4_reasons x1 x2 (fun r w0 w1 w2 w3 w4 w5 w6 w7 w8 w9 w10 w11 => post (0 : Int32) w0 w1 w2 w3 w4 w5 w6 w7 w8 w9 w10 w11 r) (fun E => (E = exN ∧ post (1 : Int32) sN N_row N_found P0_all P1_all P1_reasons P2_all P2_reasons P3_all P3_reasons P4_all P4_reasons ov) ∨ (E = exI ∧ post (2 : Int32) sN N_row N_found P0_all P1_all P1_reasons P2_all P2_reasons P3_all P3_reasons P4_all P4_reasons ov))
set_option maxHeartbeats 4000000 in
set_option maxRecDepth 100000 in
theorem ctL_worth (l : Launch) (D : va_G) (cy : Nat → ClassId) (ev : Nat → Nat) (hst : l.stackTraces = false) (h0 : Nat) (pa : Nat → Nat) (rS : Nat → Nat) (rG : Nat → Nat) (rC : Nat → Nat) (rN : Nat → Nat) (rF : Nat → Nat) (rP0 : Nat → Nat) (rP1 : Nat → Nat) (rE : Nat → Nat) (rW : Nat → Nat) (rP2 : Nat → Nat) (rP3 : Nat → Nat) (rP4 : Nat → Nat) (sS : AR) (sC : AR) (sG : AR) (sN : AR) (G_isFalse : AR) (G_kind : AR) (N_row : AR) (N_found : AR) (F_all : AR) (P0_all : AR) (P1_all : AR) (P1_reasons : AR) (E_heardAt : AR) (E_nearest : AR) (E_ofVoice : AR) (E_alike : AR) (W_next : AR) (W_way : AR) (W_goal : AR) (P2_all : AR) (P2_reasons : AR) (P3_all : AR) (P3_reasons : AR) (P4_all : AR) (P4_reasons : AR) (aO : Nat) (ov : Int32) (x1 : Int32) (x2 : Int32) (sz : Nat) (post : Int32 → AR → AR → AR → AR → AR → AR → AR → AR → AR → AR → AR → AR → Int32 → Prop) (h : wpL_worth sG sN G_isFalse G_kind N_row N_found F_all P0_all P1_all P1_reasons E_heardAt E_nearest E_ofVoice E_alike W_next W_way W_goal P2_all P2_reasons P3_all P3_reasons P4_all P4_reasons ov x1 x2 post) : Met l yL_worth (Cond.codeWith yL_worth cL_worth 5 (some .int) [(0, 10, 13, 21), (0, 10, 17, 13)] :: TB) ({ frames := 21, cells := 2, slots := 12, locals := 1223 }) (va_Pc [.ref h0, .int x1, .int x2, .ref aO] (PreU D cy ev [(h0, .inr (10, oX10 rS sS)), ((rS 2), .inr (4, oX4 rG sG)), ((rS 8), .inr (0, oX0 rC sC)), ((rS 11), .inr (6, oX6 (rtQ (rS 2) rN) sN)), ((rC 0), .inr (3, oX3 (rtP (rS 2) (rS 4) (rS 5) rF))), ((pa 0), .inr (3, oX3 (rtP (rS 2) (rS 4) (rS 5) rP0))), ((pa 1), .inr (3, oX3 (rtP (rS 2) (rS 4) (rS 5) rP1))), ((rS 4), .inr (1, oX1 rE)), ((rS 5), .inr (2, oX2 rW)), ((pa 2), .inr (3, oX3 (rtP (rS 2) (rS 4) (rS 5) rP2))), ((pa 3), .inr (3, oX3 (rtP (rS 2) (rS 4) (rS 5) rP3))), ((pa 4), .inr (3, oX3 (rtP (rS 2) (rS 4) (rS 5) rP4))), ((rG 11), .inl (cy 2, 5, .inl G_isFalse)), ((rG 12), .inl (cy 0, 4, .inl G_kind)), (((rtQ (rS 2) rN) 2), .inl (cy 0, 4, .inl N_row)), (((rtQ (rS 2) rN) 3), .inl (cy 0, 4, .inl N_found)), (((rtP (rS 2) (rS 4) (rS 5) rF) 3), .inl (cy 0, 29, .inl F_all)), (((rtP (rS 2) (rS 4) (rS 5) rP0) 3), .inl (cy 0, 29, .inl P0_all)), (((rtP (rS 2) (rS 4) (rS 5) rP1) 3), .inl (cy 0, 29, .inl P1_all)), (((rtP (rS 2) (rS 4) (rS 5) rP1) 4), .inl (cy 0, 4, .inl P1_reasons)), ((rE 0), .inl (cy 1, 100, .inl E_heardAt)), ((rE 1), .inl (cy 1, 3200, .inl E_nearest)), ((rE 3), .inl (cy 0, 4, .inl E_ofVoice)), ((rE 4), .inl (cy 0, 5, .inl E_alike)), ((rW 0), .inl (cy 0, 400, .inl W_next)), ((rW 1), .inl (cy 0, 500, .inl W_way)), ((rW 2), .inl (cy 0, 5, .inl W_goal)), (((rtP (rS 2) (rS 4) (rS 5) rP2) 3), .inl (cy 0, 29, .inl P2_all)), (((rtP (rS 2) (rS 4) (rS 5) rP2) 4), .inl (cy 0, 4, .inl P2_reasons)), (((rtP (rS 2) (rS 4) (rS 5) rP3) 3), .inl (cy 0, 29, .inl P3_all)), (((rtP (rS 2) (rS 4) (rS 5) rP3) 4), .inl (cy 0, 4, .inl P3_reasons)), (((rtP (rS 2) (rS 4) (rS 5) rP4) 3), .inl (cy 0, 29, .inl P4_all)), (((rtP (rS 2) (rS 4) (rS 5) rP4) 4), .inl (cy 0, 4, .inl P4_reasons)), (((rtQ (rS 2) rN) 1), .inl (cy 4, 5, .inr (.inr (.inr (.inr (fun i => some (pa i))))))), (aO, .inl (cy 3, 1, .inr (.inl (outF ov))))] sz)) (va_Qi (fun (r : Int32) (u : AR × AR × AR × AR × AR × AR × AR × AR × AR × AR × AR × AR × Int32) => post r (u.1) (u.2.1) (u.2.2.1) (u.2.2.2.1) (u.2.2.2.2.1) (u.2.2.2.2.2.1) (u.2.2.2.2.2.2.1) (u.2.2.2.2.2.2.2.1) (u.2.2.2.2.2.2.2.2.1) (u.2.2.2.2.2.2.2.2.2.1) (u.2.2.2.2.2.2.2.2.2.2.1) (u.2.2.2.2.2.2.2.2.2.2.2.1) (u.2.2.2.2.2.2.2.2.2.2.2.2)) (fun u => BkX D cy [(h0, .inr (10, oX10 rS sS)), ((rS 2), .inr (4, oX4 rG sG)), ((rS 8), .inr (0, oX0 rC sC)), ((rS 11), .inr (6, oX6 (rtQ (rS 2) rN) sN)), ((rC 0), .inr (3, oX3 (rtP (rS 2) (rS 4) (rS 5) rF))), ((pa 0), .inr (3, oX3 (rtP (rS 2) (rS 4) (rS 5) rP0))), ((pa 1), .inr (3, oX3 (rtP (rS 2) (rS 4) (rS 5) rP1))), ((rS 4), .inr (1, oX1 rE)), ((rS 5), .inr (2, oX2 rW)), ((pa 2), .inr (3, oX3 (rtP (rS 2) (rS 4) (rS 5) rP2))), ((pa 3), .inr (3, oX3 (rtP (rS 2) (rS 4) (rS 5) rP3))), ((pa 4), .inr (3, oX3 (rtP (rS 2) (rS 4) (rS 5) rP4))), ((rG 11), .inl (cy 2, 5, .inl G_isFalse)), ((rG 12), .inl (cy 0, 4, .inl G_kind)), (((rtQ (rS 2) rN) 2), .inl (cy 0, 4, .inl N_row)), (((rtQ (rS 2) rN) 3), .inl (cy 0, 4, .inl N_found)), (((rtP (rS 2) (rS 4) (rS 5) rF) 3), .inl (cy 0, 29, .inl F_all)), (((rtP (rS 2) (rS 4) (rS 5) rP0) 3), .inl (cy 0, 29, .inl P0_all)), (((rtP (rS 2) (rS 4) (rS 5) rP1) 3), .inl (cy 0, 29, .inl P1_all)), (((rtP (rS 2) (rS 4) (rS 5) rP1) 4), .inl (cy 0, 4, .inl P1_reasons)), ((rE 0), .inl (cy 1, 100, .inl E_heardAt)), ((rE 1), .inl (cy 1, 3200, .inl E_nearest)), ((rE 3), .inl (cy 0, 4, .inl E_ofVoice)), ((rE 4), .inl (cy 0, 5, .inl E_alike)), ((rW 0), .inl (cy 0, 400, .inl W_next)), ((rW 1), .inl (cy 0, 500, .inl W_way)), ((rW 2), .inl (cy 0, 5, .inl W_goal)), (((rtP (rS 2) (rS 4) (rS 5) rP2) 3), .inl (cy 0, 29, .inl P2_all)), (((rtP (rS 2) (rS 4) (rS 5) rP2) 4), .inl (cy 0, 4, .inl P2_reasons)), (((rtP (rS 2) (rS 4) (rS 5) rP3) 3), .inl (cy 0, 29, .inl P3_all)), (((rtP (rS 2) (rS 4) (rS 5) rP3) 4), .inl (cy 0, 4, .inl P3_reasons)), (((rtP (rS 2) (rS 4) (rS 5) rP4) 3), .inl (cy 0, 29, .inl P4_all)), (((rtP (rS 2) (rS 4) (rS 5) rP4) 4), .inl (cy 0, 4, .inl P4_reasons)), (((rtQ (rS 2) rN) 1), .inl (cy 4, 5, .inr (.inr (.inr (.inr (fun i => some (pa i))))))), (aO, .inl (cy 3, 1, .inr (.inl (outF ov))))] sz [(h0, .inr (10, oX10 rS sS)), ((rS 2), .inr (4, oX4 rG sG)), ((rS 8), .inr (0, oX0 rC sC)), ((rS 11), .inr (6, oX6 (rtQ (rS 2) rN) (u.1))), ((rC 0), .inr (3, oX3 (rtP (rS 2) (rS 4) (rS 5) rF))), ((pa 0), .inr (3, oX3 (rtP (rS 2) (rS 4) (rS 5) rP0))), ((pa 1), .inr (3, oX3 (rtP (rS 2) (rS 4) (rS 5) rP1))), ((rS 4), .inr (1, oX1 rE)), ((rS 5), .inr (2, oX2 rW)), ((pa 2), .inr (3, oX3 (rtP (rS 2) (rS 4) (rS 5) rP2))), ((pa 3), .inr (3, oX3 (rtP (rS 2) (rS 4) (rS 5) rP3))), ((pa 4), .inr (3, oX3 (rtP (rS 2) (rS 4) (rS 5) rP4))), ((rG 11), .inl (cy 2, 5, .inl G_isFalse)), ((rG 12), .inl (cy 0, 4, .inl G_kind)), (((rtQ (rS 2) rN) 2), .inl (cy 0, 4, .inl (u.2.1))), (((rtQ (rS 2) rN) 3), .inl (cy 0, 4, .inl (u.2.2.1))), (((rtP (rS 2) (rS 4) (rS 5) rF) 3), .inl (cy 0, 29, .inl F_all)), (((rtP (rS 2) (rS 4) (rS 5) rP0) 3), .inl (cy 0, 29, .inl (u.2.2.2.1))), (((rtP (rS 2) (rS 4) (rS 5) rP1) 3), .inl (cy 0, 29, .inl (u.2.2.2.2.1))), (((rtP (rS 2) (rS 4) (rS 5) rP1) 4), .inl (cy 0, 4, .inl (u.2.2.2.2.2.1))), ((rE 0), .inl (cy 1, 100, .inl E_heardAt)), ((rE 1), .inl (cy 1, 3200, .inl E_nearest)), ((rE 3), .inl (cy 0, 4, .inl E_ofVoice)), ((rE 4), .inl (cy 0, 5, .inl E_alike)), ((rW 0), .inl (cy 0, 400, .inl W_next)), ((rW 1), .inl (cy 0, 500, .inl W_way)), ((rW 2), .inl (cy 0, 5, .inl W_goal)), (((rtP (rS 2) (rS 4) (rS 5) rP2) 3), .inl (cy 0, 29, .inl (u.2.2.2.2.2.2.1))), (((rtP (rS 2) (rS 4) (rS 5) rP2) 4), .inl (cy 0, 4, .inl (u.2.2.2.2.2.2.2.1))), (((rtP (rS 2) (rS 4) (rS 5) rP3) 3), .inl (cy 0, 29, .inl (u.2.2.2.2.2.2.2.2.1))), (((rtP (rS 2) (rS 4) (rS 5) rP3) 4), .inl (cy 0, 4, .inl (u.2.2.2.2.2.2.2.2.2.1))), (((rtP (rS 2) (rS 4) (rS 5) rP4) 3), .inl (cy 0, 29, .inl (u.2.2.2.2.2.2.2.2.2.2.1))), (((rtP (rS 2) (rS 4) (rS 5) rP4) 4), .inl (cy 0, 4, .inl (u.2.2.2.2.2.2.2.2.2.2.2.1))), (((rtQ (rS 2) rN) 1), .inl (cy 4, 5, .inr (.inr (.inr (.inr (fun i => some (pa i))))))), (aO, .inl (cy 3, 1, .inr (.inl (outF (u.2.2.2.2.2.2.2.2.2.2.2.2)))))]) (va_A [(h0, .inr (10, oX10 rS sS)), ((rS 2), .inr (4, oX4 rG sG)), ((rS 8), .inr (0, oX0 rC sC)), ((rS 11), .inr (6, oX6 (rtQ (rS 2) rN) sN)), ((rC 0), .inr (3, oX3 (rtP (rS 2) (rS 4) (rS 5) rF))), ((pa 0), .inr (3, oX3 (rtP (rS 2) (rS 4) (rS 5) rP0))), ((pa 1), .inr (3, oX3 (rtP (rS 2) (rS 4) (rS 5) rP1))), ((rS 4), .inr (1, oX1 rE)), ((rS 5), .inr (2, oX2 rW)), ((pa 2), .inr (3, oX3 (rtP (rS 2) (rS 4) (rS 5) rP2))), ((pa 3), .inr (3, oX3 (rtP (rS 2) (rS 4) (rS 5) rP3))), ((pa 4), .inr (3, oX3 (rtP (rS 2) (rS 4) (rS 5) rP4))), ((rG 11), .inl (cy 2, 5, .inl G_isFalse)), ((rG 12), .inl (cy 0, 4, .inl G_kind)), (((rtQ (rS 2) rN) 2), .inl (cy 0, 4, .inl N_row)), (((rtQ (rS 2) rN) 3), .inl (cy 0, 4, .inl N_found)), (((rtP (rS 2) (rS 4) (rS 5) rF) 3), .inl (cy 0, 29, .inl F_all)), (((rtP (rS 2) (rS 4) (rS 5) rP0) 3), .inl (cy 0, 29, .inl P0_all)), (((rtP (rS 2) (rS 4) (rS 5) rP1) 3), .inl (cy 0, 29, .inl P1_all)), (((rtP (rS 2) (rS 4) (rS 5) rP1) 4), .inl (cy 0, 4, .inl P1_reasons)), ((rE 0), .inl (cy 1, 100, .inl E_heardAt)), ((rE 1), .inl (cy 1, 3200, .inl E_nearest)), ((rE 3), .inl (cy 0, 4, .inl E_ofVoice)), ((rE 4), .inl (cy 0, 5, .inl E_alike)), ((rW 0), .inl (cy 0, 400, .inl W_next)), ((rW 1), .inl (cy 0, 500, .inl W_way)), ((rW 2), .inl (cy 0, 5, .inl W_goal)), (((rtP (rS 2) (rS 4) (rS 5) rP2) 3), .inl (cy 0, 29, .inl P2_all)), (((rtP (rS 2) (rS 4) (rS 5) rP2) 4), .inl (cy 0, 4, .inl P2_reasons)), (((rtP (rS 2) (rS 4) (rS 5) rP3) 3), .inl (cy 0, 29, .inl P3_all)), (((rtP (rS 2) (rS 4) (rS 5) rP3) 4), .inl (cy 0, 4, .inl P3_reasons)), (((rtP (rS 2) (rS 4) (rS 5) rP4) 3), .inl (cy 0, 29, .inl P4_all)), (((rtP (rS 2) (rS 4) (rS 5) rP4) 4), .inl (cy 0, 4, .inl P4_reasons)), (((rtQ (rS 2) rN) 1), .inl (cy 4, 5, .inr (.inr (.inr (.inr (fun i => some (pa i))))))), (aO, .inl (cy 3, 1, .inr (.inl (outF ov))))] sz)) 2 12 (va_A [(h0, .inr (10, oX10 rS sS)), ((rS 2), .inr (4, oX4 rG sG)), ((rS 8), .inr (0, oX0 rC sC)), ((rS 11), .inr (6, oX6 (rtQ (rS 2) rN) sN)), ((rC 0), .inr (3, oX3 (rtP (rS 2) (rS 4) (rS 5) rF))), ((pa 0), .inr (3, oX3 (rtP (rS 2) (rS 4) (rS 5) rP0))), ((pa 1), .inr (3, oX3 (rtP (rS 2) (rS 4) (rS 5) rP1))), ((rS 4), .inr (1, oX1 rE)), ((rS 5), .inr (2, oX2 rW)), ((pa 2), .inr (3, oX3 (rtP (rS 2) (rS 4) (rS 5) rP2))), ((pa 3), .inr (3, oX3 (rtP (rS 2) (rS 4) (rS 5) rP3))), ((pa 4), .inr (3, oX3 (rtP (rS 2) (rS 4) (rS 5) rP4))), ((rG 11), .inl (cy 2, 5, .inl G_isFalse)), ((rG 12), .inl (cy 0, 4, .inl G_kind)), (((rtQ (rS 2) rN) 2), .inl (cy 0, 4, .inl N_row)), (((rtQ (rS 2) rN) 3), .inl (cy 0, 4, .inl N_found)), (((rtP (rS 2) (rS 4) (rS 5) rF) 3), .inl (cy 0, 29, .inl F_all)), (((rtP (rS 2) (rS 4) (rS 5) rP0) 3), .inl (cy 0, 29, .inl P0_all)), (((rtP (rS 2) (rS 4) (rS 5) rP1) 3), .inl (cy 0, 29, .inl P1_all)), (((rtP (rS 2) (rS 4) (rS 5) rP1) 4), .inl (cy 0, 4, .inl P1_reasons)), ((rE 0), .inl (cy 1, 100, .inl E_heardAt)), ((rE 1), .inl (cy 1, 3200, .inl E_nearest)), ((rE 3), .inl (cy 0, 4, .inl E_ofVoice)), ((rE 4), .inl (cy 0, 5, .inl E_alike)), ((rW 0), .inl (cy 0, 400, .inl W_next)), ((rW 1), .inl (cy 0, 500, .inl W_way)), ((rW 2), .inl (cy 0, 5, .inl W_goal)), (((rtP (rS 2) (rS 4) (rS 5) rP2) 3), .inl (cy 0, 29, .inl P2_all)), (((rtP (rS 2) (rS 4) (rS 5) rP2) 4), .inl (cy 0, 4, .inl P2_reasons)), (((rtP (rS 2) (rS 4) (rS 5) rP3) 3), .inl (cy 0, 29, .inl P3_all)), (((rtP (rS 2) (rS 4) (rS 5) rP3) 4), .inl (cy 0, 4, .inl P3_reasons)), (((rtP (rS 2) (rS 4) (rS 5) rP4) 3), .inl (cy 0, 29, .inl P4_all)), (((rtP (rS 2) (rS 4) (rS 5) rP4) 4), .inl (cy 0, 4, .inl P4_reasons)), (((rtQ (rS 2) rN) 1), .inl (cy 4, 5, .inr (.inr (.inr (.inr (fun i => some (pa i))))))), (aO, .inl (cy 3, 1, .inr (.inl (outF ov))))] sz) := by
  refine ofHi (by decide) (Nat.le_of_ble_eq_true rfl) ?_
  intro p e s m args below meth c ls A R QQ hx hb hml hown hts htab hR hE hT hN hK hP hD hS hA hl hret
  have hown : s.vm.findClass RL = some m.cls := hown
  have hRf : 21 ≤ R.frames := by rw [hR]; exact Nat.le_refl _
  have hRl : 1223 ≤ R.locals := by rw [hR]; exact Nat.le_refl _
  have hRc : 2 ≤ R.cells := by rw [hR]; exact Nat.le_refl _
  have hRs : 12 ≤ R.slots := by rw [hR]; exact Nat.le_refl _
  clear hR
  have hl : lv_has ls 5 [(0, .ref h0), (1, .int x1), (2, .int x2), (3, .ref aO)] := hl
  unfold wpL_worth at h
  refine lv_aload_n hx hb dL_worth_0 rfl (lv_at hl 3 rfl) ?_
  refine lv_iconst (v := (0 : Int32)) hx hb dL_worth_1 (by decide) ?_
  refine lv_aload_n hx hb dL_worth_2 rfl (lv_at hl 0 rfl) ?_
  refine lv_iload_n hx hb dL_worth_3 rfl (lv_at hl 1 rfl) ?_
  refine lv_iload_n hx hb dL_worth_4 rfl (lv_at hl 2 rfl) ?_
  refine clXi (As := [.int x1, .int x2]) (rest := [.int (0 : Int32), .ref aO]) (Wr := [(aO, .inl (cy 3, 1, .inr (.inl (outF ov))))]) (cq := (RX10, TX10, 18)) ⟨hx, hb, hml, hown, hts⟩ ⟨callB_of 2 hts (goodC mw1125) rfl rfl rfl (hts _ (tb mw1)) (hts _ (tb mw1122)) kdX10_worth ⟨Nat.le_trans (by decide) hRf, Nat.le_trans (by decide) hRl⟩, hts _ (tb mw1123), hts _ (tb mw1124)⟩ (ctX10_worth l D cy ev hst h0 pa rS rG rC rN rF rP0 rP1 rE rW rP2 rP3 rP4 sS sC sG sN G_isFalse G_kind N_row N_found F_all P0_all P1_all P1_reasons E_heardAt E_nearest E_ofVoice E_alike W_next W_way W_goal P2_all P2_reasons P3_all P3_reasons P4_all P4_reasons x1 x2 _ _ _ h) hE hT hK hP hD hS hA [0, 1, 2, 3, 4, 5, 6, 7, 8, 9, 10, 11, 12, 13, 14, 15, 16, 17, 18, 19, 20, 21, 22, 23, 24, 25, 26, 27, 28, 29, 30, 31, 32, 33] [34] rfl rfl (by decide) (by decide) (by decide) 0 rfl rfl rfl hl.1 rfl (Nat.le_of_ble_eq_true rfl) ⟨Nat.le_trans (by decide) hRc, Nat.le_trans (by decide) hRs⟩ dL_worth_5 (fun E ce q H locs h hP hD hS g1 g2 g3 => ?_) (fun r u H locs h hP hD hS => ?_)
  · rcases h with ⟨rfl, h⟩ | ⟨rfl, h⟩
    ·
      have hz : tableOf [(0, 10, 13, 21), (0, 10, 17, 13)] = [] ++ (⟨0, 10, 13, 21⟩ : ExceptionTableEntry) :: [⟨0, 10, 17, 13⟩] := rfl
      refine sb_catch (own := RL) (name := exN) (E := exN) (ce := ce) hown [] ⟨0, 10, 13, 21⟩ [⟨0, 10, 17, 13⟩] (htab.trans hz) (fun z hz9 => nomatch hz9) (by decide) (by decide) (hts _ (tb mw927)) (va_Nw.use rfl (hT (.castable exN exN) (by decide))) g1 g2 g3 ?_
      refine lv_astore (lv' := (4, .ref q) :: [(0, .ref h0), (1, .int x1), (2, .int x2), (3, .ref aO)]) hx hb dL_worth_13 hl (by decide) rfl (fun ls hl => ?_)
      refine lv_iconst (v := (1 : Int32)) hx hb dL_worth_15 (by decide) ?_
      exact hret (1 : Int32) (sN, N_row, N_found, P0_all, P1_all, P1_reasons, P2_all, P2_reasons, P3_all, P3_reasons, P4_all, P4_reasons, ov) _ _ _ _ dL_worth_16 h (hP.sub [1, 2, 3, 4, 5, 6, 7, 8, 9, 10, 11, 12, 13, 14, 15, 16, 17, 18, 19, 20, 21, 22, 23, 24, 25, 26, 27, 28, 29, 30, 31, 32, 33, 34, 0] rfl) (hD.sub [1, 2, 3, 4, 5, 6, 7, 8, 9, 10, 11, 12, 13, 14, 15, 16, 17, 18, 19, 20, 21, 22, 23, 24, 25, 26, 27, 28, 29, 30, 31, 32, 33, 34, 0] (by decide) rfl) hS
    ·
      have hz : tableOf [(0, 10, 13, 21), (0, 10, 17, 13)] = [⟨0, 10, 13, 21⟩] ++ (⟨0, 10, 17, 13⟩ : ExceptionTableEntry) :: [] := rfl
      refine sb_catch (own := RL) (name := exI) (E := exI) (ce := ce) hown [⟨0, 10, 13, 21⟩] ⟨0, 10, 17, 13⟩ [] (htab.trans hz) (fun z hz9 => by cases List.mem_singleton.mp hz9; exact ⟨by decide, by decide, exN, hts _ (tb mw927), hN⟩) (by decide) (by decide) (hts _ (tb mw653)) (va_Nw.use rfl (hT (.castable exI exI) (by decide))) g1 g2 g3 ?_
      refine lv_astore (lv' := (4, .ref q) :: [(0, .ref h0), (1, .int x1), (2, .int x2), (3, .ref aO)]) hx hb dL_worth_17 hl (by decide) rfl (fun ls hl => ?_)
      refine lv_iconst (v := (2 : Int32)) hx hb dL_worth_19 (by decide) ?_
      exact hret (2 : Int32) (sN, N_row, N_found, P0_all, P1_all, P1_reasons, P2_all, P2_reasons, P3_all, P3_reasons, P4_all, P4_reasons, ov) _ _ _ _ dL_worth_20 h (hP.sub [1, 2, 3, 4, 5, 6, 7, 8, 9, 10, 11, 12, 13, 14, 15, 16, 17, 18, 19, 20, 21, 22, 23, 24, 25, 26, 27, 28, 29, 30, 31, 32, 33, 34, 0] rfl) (hD.sub [1, 2, 3, 4, 5, 6, 7, 8, 9, 10, 11, 12, 13, 14, 15, 16, 17, 18, 19, 20, 21, 22, 23, 24, 25, 26, 27, 28, 29, 30, 31, 32, 33, 34, 0] (by decide) rfl) hS
  · refine lv_i2l (v := r.toInt64) hx hb dL_worth_8 rfl ?_
    refine va_last hx hb hK hP hD hS 0 3 rfl rfl (inL (by decide)) dL_worth_9 (fun H locs hP hD hS => ?_)
    refine lv_goto (tgt := 21) hx hb dL_worth_10 (by decide) ?_
    refine lv_iconst (v := (0 : Int32)) hx hb dL_worth_21 (by decide) ?_
    have hu : vp_updL (outF ov) (0 : Int32).toNatClampNeg r.toInt64 = outF r := outF_upd ov r
    rw [hu] at hP hD
    exact hret (0 : Int32) ((u.1), (u.2.1), (u.2.2.1), (u.2.2.2.1), (u.2.2.2.2.1), (u.2.2.2.2.2.1), (u.2.2.2.2.2.2.1), (u.2.2.2.2.2.2.2.1), (u.2.2.2.2.2.2.2.2.1), (u.2.2.2.2.2.2.2.2.2.1), (u.2.2.2.2.2.2.2.2.2.2.1), (u.2.2.2.2.2.2.2.2.2.2.2), r) _ _ _ _ dL_worth_22 h (hP.sub [1, 2, 3, 4, 5, 6, 7, 8, 9, 10, 11, 12, 13, 14, 15, 16, 17, 18, 19, 20, 21, 22, 23, 24, 25, 26, 27, 28, 29, 30, 31, 32, 33, 34, 0] rfl) (hD.sub [1, 2, 3, 4, 5, 6, 7, 8, 9, 10, 11, 12, 13, 14, 15, 16, 17, 18, 19, 20, 21, 22, 23, 24, 25, 26, 27, 28, 29, 30, 31, 32, 33, 34, 0] (by decide) rfl) hS
theorem mwL_forever : Cond.codeWith yL_forever cL_forever 6 (some .int) [(0, 12, 15, 21)] ∈ TB := memTB 1128 (by decide +kernel) (by decide +kernel)
theorem dL_forever_0 : decode cL_forever 0 = .ok (.aload 4, 2) := by decide +kernel
theorem dL_forever_2 : decode cL_forever 2 = .ok (.iconst 0, 1) := by decide +kernel
theorem dL_forever_3 : decode cL_forever 3 = .ok (.aload_n 0, 1) := by decide +kernel
theorem dL_forever_4 : decode cL_forever 4 = .ok (.iload_n 1, 1) := by decide +kernel
theorem dL_forever_5 : decode cL_forever 5 = .ok (.iload_n 2, 1) := by decide +kernel
theorem dL_forever_6 : decode cL_forever 6 = .ok (.iload_n 3, 1) := by decide +kernel
theorem dL_forever_7 : decode cL_forever 7 = .ok (.invokevirtual 61, 3) := by decide +kernel
theorem dL_forever_10 : decode cL_forever 10 = .ok (.i2l, 1) := by decide +kernel
theorem dL_forever_11 : decode cL_forever 11 = .ok (.lastore, 1) := by decide +kernel
theorem dL_forever_12 : decode cL_forever 12 = .ok (.goto 7, 3) := by decide +kernel
theorem dL_forever_15 : decode cL_forever 15 = .ok (.astore 5, 2) := by decide +kernel
theorem dL_forever_17 : decode cL_forever 17 = .ok (.iconst 1, 1) := by decide +kernel
theorem dL_forever_18 : decode cL_forever 18 = .ok (.ireturn, 1) := by decide +kernel
theorem dL_forever_19 : decode cL_forever 19 = .ok (.iconst 0, 1) := by decide +kernel
theorem dL_forever_20 : decode cL_forever 20 = .ok (.ireturn, 1) := by decide +kernel
def wpL_forever (sG : AR) (G_isFalse : AR) (G_kind : AR) (F_all : AR) (Y_all : AR) (E_heardAt : AR) (E_nearest : AR) (E_ofVoice : AR) (E_alike : AR) (W_next : AR) (W_way : AR) (W_goal : AR) (ov : Int32) (x1 : Int32) (x2 : Int32) (x3 : Int32) (post : Int32 → AR → Int32 → Prop) : Prop := wpX10_forever sG G_isFalse G_kind F_all Y_all E_heardAt E_nearest E_ofVoice E_alike W_next W_way W_goal x1 x2 x3 (fun r w0 => post (0 : Int32) w0 r) (fun E => E = exN ∧ post (1 : Int32) Y_all ov)
set_option maxHeartbeats 4000000 in
set_option maxRecDepth 100000 in
theorem ctL_forever (l : Launch) (D : va_G) (cy : Nat → ClassId) (ev : Nat → Nat) (hst : l.stackTraces = false) (h0 : Nat) (rS : Nat → Nat) (rG : Nat → Nat) (rC : Nat → Nat) (rF : Nat → Nat) (rY : Nat → Nat) (rE : Nat → Nat) (rW : Nat → Nat) (sS : AR) (sC : AR) (sG : AR) (G_isFalse : AR) (G_kind : AR) (F_all : AR) (Y_all : AR) (E_heardAt : AR) (E_nearest : AR) (E_ofVoice : AR) (E_alike : AR) (W_next : AR) (W_way : AR) (W_goal : AR) (aO : Nat) (ov : Int32) (x1 : Int32) (x2 : Int32) (x3 : Int32) (sz : Nat) (post : Int32 → AR → Int32 → Prop) (h : wpL_forever sG G_isFalse G_kind F_all Y_all E_heardAt E_nearest E_ofVoice E_alike W_next W_way W_goal ov x1 x2 x3 post) : Met l yL_forever (Cond.codeWith yL_forever cL_forever 6 (some .int) [(0, 12, 15, 21)] :: TB) ({ frames := 8, cells := 2, slots := 12, locals := 144 }) (va_Pc [.ref h0, .int x1, .int x2, .int x3, .ref aO] (PreU D cy ev [(h0, .inr (10, oX10 rS sS)), ((rS 2), .inr (4, oX4 rG sG)), ((rS 8), .inr (0, oX0 rC sC)), ((rC 0), .inr (3, oX3 (rtP (rS 2) (rS 4) (rS 5) rF))), ((rS 12), .inr (3, oX3 (rtP (rS 2) (rS 4) (rS 5) rY))), ((rS 4), .inr (1, oX1 rE)), ((rS 5), .inr (2, oX2 rW)), ((rG 11), .inl (cy 2, 5, .inl G_isFalse)), ((rG 12), .inl (cy 0, 4, .inl G_kind)), (((rtP (rS 2) (rS 4) (rS 5) rF) 3), .inl (cy 0, 29, .inl F_all)), (((rtP (rS 2) (rS 4) (rS 5) rY) 3), .inl (cy 0, 29, .inl Y_all)), ((rE 0), .inl (cy 1, 100, .inl E_heardAt)), ((rE 1), .inl (cy 1, 3200, .inl E_nearest)), ((rE 3), .inl (cy 0, 4, .inl E_ofVoice)), ((rE 4), .inl (cy 0, 5, .inl E_alike)), ((rW 0), .inl (cy 0, 400, .inl W_next)), ((rW 1), .inl (cy 0, 500, .inl W_way)), ((rW 2), .inl (cy 0, 5, .inl W_goal)), (aO, .inl (cy 3, 1, .inr (.inl (outF ov))))] sz)) (va_Qi (fun (r : Int32) (u : AR × Int32) => post r (u.1) (u.2)) (fun u => BkX D cy [(h0, .inr (10, oX10 rS sS)), ((rS 2), .inr (4, oX4 rG sG)), ((rS 8), .inr (0, oX0 rC sC)), ((rC 0), .inr (3, oX3 (rtP (rS 2) (rS 4) (rS 5) rF))), ((rS 12), .inr (3, oX3 (rtP (rS 2) (rS 4) (rS 5) rY))), ((rS 4), .inr (1, oX1 rE)), ((rS 5), .inr (2, oX2 rW)), ((rG 11), .inl (cy 2, 5, .inl G_isFalse)), ((rG 12), .inl (cy 0, 4, .inl G_kind)), (((rtP (rS 2) (rS 4) (rS 5) rF) 3), .inl (cy 0, 29, .inl F_all)), (((rtP (rS 2) (rS 4) (rS 5) rY) 3), .inl (cy 0, 29, .inl Y_all)), ((rE 0), .inl (cy 1, 100, .inl E_heardAt)), ((rE 1), .inl (cy 1, 3200, .inl E_nearest)), ((rE 3), .inl (cy 0, 4, .inl E_ofVoice)), ((rE 4), .inl (cy 0, 5, .inl E_alike)), ((rW 0), .inl (cy 0, 400, .inl W_next)), ((rW 1), .inl (cy 0, 500, .inl W_way)), ((rW 2), .inl (cy 0, 5, .inl W_goal)), (aO, .inl (cy 3, 1, .inr (.inl (outF ov))))] sz [(h0, .inr (10, oX10 rS sS)), ((rS 2), .inr (4, oX4 rG sG)), ((rS 8), .inr (0, oX0 rC sC)), ((rC 0), .inr (3, oX3 (rtP (rS 2) (rS 4) (rS 5) rF))), ((rS 12), .inr (3, oX3 (rtP (rS 2) (rS 4) (rS 5) rY))), ((rS 4), .inr (1, oX1 rE)), ((rS 5), .inr (2, oX2 rW)), ((rG 11), .inl (cy 2, 5, .inl G_isFalse)), ((rG 12), .inl (cy 0, 4, .inl G_kind)), (((rtP (rS 2) (rS 4) (rS 5) rF) 3), .inl (cy 0, 29, .inl F_all)), (((rtP (rS 2) (rS 4) (rS 5) rY) 3), .inl (cy 0, 29, .inl (u.1))), ((rE 0), .inl (cy 1, 100, .inl E_heardAt)), ((rE 1), .inl (cy 1, 3200, .inl E_nearest)), ((rE 3), .inl (cy 0, 4, .inl E_ofVoice)), ((rE 4), .inl (cy 0, 5, .inl E_alike)), ((rW 0), .inl (cy 0, 400, .inl W_next)), ((rW 1), .inl (cy 0, 500, .inl W_way)), ((rW 2), .inl (cy 0, 5, .inl W_goal)), (aO, .inl (cy 3, 1, .inr (.inl (outF (u.2)))))]) (va_A [(h0, .inr (10, oX10 rS sS)), ((rS 2), .inr (4, oX4 rG sG)), ((rS 8), .inr (0, oX0 rC sC)), ((rC 0), .inr (3, oX3 (rtP (rS 2) (rS 4) (rS 5) rF))), ((rS 12), .inr (3, oX3 (rtP (rS 2) (rS 4) (rS 5) rY))), ((rS 4), .inr (1, oX1 rE)), ((rS 5), .inr (2, oX2 rW)), ((rG 11), .inl (cy 2, 5, .inl G_isFalse)), ((rG 12), .inl (cy 0, 4, .inl G_kind)), (((rtP (rS 2) (rS 4) (rS 5) rF) 3), .inl (cy 0, 29, .inl F_all)), (((rtP (rS 2) (rS 4) (rS 5) rY) 3), .inl (cy 0, 29, .inl Y_all)), ((rE 0), .inl (cy 1, 100, .inl E_heardAt)), ((rE 1), .inl (cy 1, 3200, .inl E_nearest)), ((rE 3), .inl (cy 0, 4, .inl E_ofVoice)), ((rE 4), .inl (cy 0, 5, .inl E_alike)), ((rW 0), .inl (cy 0, 400, .inl W_next)), ((rW 1), .inl (cy 0, 500, .inl W_way)), ((rW 2), .inl (cy 0, 5, .inl W_goal)), (aO, .inl (cy 3, 1, .inr (.inl (outF ov))))] sz)) 2 12 (va_A [(h0, .inr (10, oX10 rS sS)), ((rS 2), .inr (4, oX4 rG sG)), ((rS 8), .inr (0, oX0 rC sC)), ((rC 0), .inr (3, oX3 (rtP (rS 2) (rS 4) (rS 5) rF))), ((rS 12), .inr (3, oX3 (rtP (rS 2) (rS 4) (rS 5) rY))), ((rS 4), .inr (1, oX1 rE)), ((rS 5), .inr (2, oX2 rW)), ((rG 11), .inl (cy 2, 5, .inl G_isFalse)), ((rG 12), .inl (cy 0, 4, .inl G_kind)), (((rtP (rS 2) (rS 4) (rS 5) rF) 3), .inl (cy 0, 29, .inl F_all)), (((rtP (rS 2) (rS 4) (rS 5) rY) 3), .inl (cy 0, 29, .inl Y_all)), ((rE 0), .inl (cy 1, 100, .inl E_heardAt)), ((rE 1), .inl (cy 1, 3200, .inl E_nearest)), ((rE 3), .inl (cy 0, 4, .inl E_ofVoice)), ((rE 4), .inl (cy 0, 5, .inl E_alike)), ((rW 0), .inl (cy 0, 400, .inl W_next)), ((rW 1), .inl (cy 0, 500, .inl W_way)), ((rW 2), .inl (cy 0, 5, .inl W_goal)), (aO, .inl (cy 3, 1, .inr (.inl (outF ov))))] sz) := by
  refine ofHi (by decide) (Nat.le_of_ble_eq_true rfl) ?_
  intro p e s m args below meth c ls A R QQ hx hb hml hown hts htab hR hE hT hN hK hP hD hS hA hl hret
  have hown : s.vm.findClass RL = some m.cls := hown
  have hRf : 8 ≤ R.frames := by rw [hR]; exact Nat.le_refl _
  have hRl : 144 ≤ R.locals := by rw [hR]; exact Nat.le_refl _
  have hRc : 2 ≤ R.cells := by rw [hR]; exact Nat.le_refl _
  have hRs : 12 ≤ R.slots := by rw [hR]; exact Nat.le_refl _
  clear hR
  have hl : lv_has ls 6 [(0, .ref h0), (1, .int x1), (2, .int x2), (3, .int x3), (4, .ref aO)] := hl
  unfold wpL_forever at h
  refine lv_aload hx hb dL_forever_0 (lv_at hl 4 rfl) ?_
  refine lv_iconst (v := (0 : Int32)) hx hb dL_forever_2 (by decide) ?_
  refine lv_aload_n hx hb dL_forever_3 rfl (lv_at hl 0 rfl) ?_
  refine lv_iload_n hx hb dL_forever_4 rfl (lv_at hl 1 rfl) ?_
  refine lv_iload_n hx hb dL_forever_5 rfl (lv_at hl 2 rfl) ?_
  refine lv_iload_n hx hb dL_forever_6 rfl (lv_at hl 3 rfl) ?_
  refine clXi (As := [.int x1, .int x2, .int x3]) (rest := [.int (0 : Int32), .ref aO]) (Wr := [(aO, .inl (cy 3, 1, .inr (.inl (outF ov))))]) (cq := (RX10, TX10, 18)) ⟨hx, hb, hml, hown, hts⟩ ⟨callB_of 3 hts (goodC mw1132) rfl rfl rfl (hts _ (tb mw1)) (hts _ (tb mw1129)) kdX10_forever ⟨Nat.le_trans (by decide) hRf, Nat.le_trans (by decide) hRl⟩, hts _ (tb mw1130), hts _ (tb mw1131)⟩ (ctX10_forever l D cy ev hst h0 rS rG rC rF rY rE rW sS sC sG G_isFalse G_kind F_all Y_all E_heardAt E_nearest E_ofVoice E_alike W_next W_way W_goal x1 x2 x3 _ _ _ h) hE hT hK hP hD hS hA [0, 1, 2, 3, 4, 5, 6, 7, 8, 9, 10, 11, 12, 13, 14, 15, 16, 17] [18] rfl rfl (by decide) (by decide) (by decide) 0 rfl rfl rfl hl.1 rfl (Nat.le_of_ble_eq_true rfl) ⟨Nat.le_trans (by decide) hRc, Nat.le_trans (by decide) hRs⟩ dL_forever_7 (fun E ce q H locs h hP hD hS g1 g2 g3 => ?_) (fun r u H locs h hP hD hS => ?_)
  · obtain ⟨rfl, h⟩ := h
    have hz : tableOf [(0, 12, 15, 21)] = [] ++ (⟨0, 12, 15, 21⟩ : ExceptionTableEntry) :: [] := rfl
    refine sb_catch (own := RL) (name := exN) (E := exN) (ce := ce) hown [] ⟨0, 12, 15, 21⟩ [] (htab.trans hz) (fun z hz9 => nomatch hz9) (by decide) (by decide) (hts _ (tb mw927)) (va_Nw.use rfl (hT (.castable exN exN) (by decide))) g1 g2 g3 ?_
    refine lv_astore (lv' := (5, .ref q) :: [(0, .ref h0), (1, .int x1), (2, .int x2), (3, .int x3), (4, .ref aO)]) hx hb dL_forever_15 hl (by decide) rfl (fun ls hl => ?_)
    refine lv_iconst (v := (1 : Int32)) hx hb dL_forever_17 (by decide) ?_
    exact hret (1 : Int32) (Y_all, ov) _ _ _ _ dL_forever_18 h (hP.sub [1, 2, 3, 4, 5, 6, 7, 8, 9, 10, 11, 12, 13, 14, 15, 16, 17, 18, 0] rfl) (hD.sub [1, 2, 3, 4, 5, 6, 7, 8, 9, 10, 11, 12, 13, 14, 15, 16, 17, 18, 0] (by decide) rfl) hS
  · refine lv_i2l (v := r.toInt64) hx hb dL_forever_10 rfl ?_
    refine va_last hx hb hK hP hD hS 0 3 rfl rfl (inL (by decide)) dL_forever_11 (fun H locs hP hD hS => ?_)
    refine lv_goto (tgt := 19) hx hb dL_forever_12 (by decide) ?_
    refine lv_iconst (v := (0 : Int32)) hx hb dL_forever_19 (by decide) ?_
    have hu : vp_updL (outF ov) (0 : Int32).toNatClampNeg r.toInt64 = outF r := outF_upd ov r
    rw [hu] at hP hD
    exact hret (0 : Int32) ((u), r) _ _ _ _ dL_forever_20 h (hP.sub [1, 2, 3, 4, 5, 6, 7, 8, 9, 10, 11, 12, 13, 14, 15, 16, 17, 18, 0] rfl) (hD.sub [1, 2, 3, 4, 5, 6, 7, 8, 9, 10, 11, 12, 13, 14, 15, 16, 17, 18, 0] (by decide) rfl) hS
theorem mwL_night : Cond.codeWith yL_night cL_night 5 (some .int) [(0, 10, 13, 13)] ∈ TB := memTB 1146 (by decide +kernel) (by decide +kernel)
theorem dL_night_0 : decode cL_night 0 = .ok (.aload_n 3, 1) := by decide +kernel
theorem dL_night_1 : decode cL_night 1 = .ok (.iconst 0, 1) := by decide +kernel
theorem dL_night_2 : decode cL_night 2 = .ok (.aload_n 0, 1) := by decide +kernel
theorem dL_night_3 : decode cL_night 3 = .ok (.iload_n 1, 1) := by decide +kernel
theorem dL_night_4 : decode cL_night 4 = .ok (.iload_n 2, 1) := by decide +kernel
theorem dL_night_5 : decode cL_night 5 = .ok (.invokevirtual 65, 3) := by decide +kernel
theorem dL_night_8 : decode cL_night 8 = .ok (.i2l, 1) := by decide +kernel
theorem dL_night_9 : decode cL_night 9 = .ok (.lastore, 1) := by decide +kernel
theorem dL_night_10 : decode cL_night 10 = .ok (.goto 7, 3) := by decide +kernel
theorem dL_night_13 : decode cL_night 13 = .ok (.astore 4, 2) := by decide +kernel
theorem dL_night_15 : decode cL_night 15 = .ok (.iconst 1, 1) := by decide +kernel
theorem dL_night_16 : decode cL_night 16 = .ok (.ireturn, 1) := by decide +kernel
theorem dL_night_17 : decode cL_night 17 = .ok (.iconst 0, 1) := by decide +kernel
theorem dL_night_18 : decode cL_night 18 = .ok (.ireturn, 1) := by decide +kernel
def wpL_night (sG : AR) (sC : AR) (sQ : AR) (G_isFalse : AR) (G_kind : AR) (C_past : AR) (F_all : AR) (F_reasons : AR) (E_heardAt : AR) (E_nearest : AR) (E_ofVoice : AR) (E_alike : AR) (W_next : AR) (W_way : AR) (W_goal : AR) (Q_cell : AR) (Q_heading : AR) (ov : Int32) (x1 : Int32) (x2 : Int32) (post : Int32 → AR → AR → AR → AR → AR → AR → AR → Int32 → Prop) : Prop := wpX10_night sG sC sQ G_isFalse G_kind C_past F_all F_reasons E_heardAt E_nearest E_ofVoice E_alike W_next W_way W_goal Q_cell Q_heading x1 x2 (fun r w0 w1 w2 w3 w4 w5 w6 => post (0 : Int32) w0 w1 w2 w3 w4 w5 w6 r) (fun E => E = exI ∧ post (1 : Int32) sC sQ C_past F_all F_reasons Q_cell Q_heading ov)
set_option maxHeartbeats 4000000 in
set_option maxRecDepth 100000 in
theorem ctL_night (l : Launch) (D : va_G) (cy : Nat → ClassId) (ev : Nat → Nat) (hst : l.stackTraces = false) (h0 : Nat) (rS : Nat → Nat) (rG : Nat → Nat) (rC : Nat → Nat) (rF : Nat → Nat) (rE : Nat → Nat) (rW : Nat → Nat) (rQ : Nat → Nat) (sS : AR) (sG : AR) (sC : AR) (sQ : AR) (G_isFalse : AR) (G_kind : AR) (C_past : AR) (F_all : AR) (F_reasons : AR) (E_heardAt : AR) (E_nearest : AR) (E_ofVoice : AR) (E_alike : AR) (W_next : AR) (W_way : AR) (W_goal : AR) (Q_cell : AR) (Q_heading : AR) (aO : Nat) (ov : Int32) (x1 : Int32) (x2 : Int32) (sz : Nat) (post : Int32 → AR → AR → AR → AR → AR → AR → AR → Int32 → Prop) (h : wpL_night sG sC sQ G_isFalse G_kind C_past F_all F_reasons E_heardAt E_nearest E_ofVoice E_alike W_next W_way W_goal Q_cell Q_heading ov x1 x2 post) : Met l yL_night (Cond.codeWith yL_night cL_night 5 (some .int) [(0, 10, 13, 13)] :: TB) ({ frames := 8, cells := 1, slots := 6, locals := 193 }) (va_Pc [.ref h0, .int x1, .int x2, .ref aO] (PreU D cy ev [(h0, .inr (10, oX10 rS sS)), ((rS 2), .inr (4, oX4 rG sG)), ((rS 8), .inr (0, oX0 rC sC)), ((rC 0), .inr (3, oX3 (rtP (rS 2) (rS 4) (rS 5) rF))), ((rS 4), .inr (1, oX1 rE)), ((rS 5), .inr (2, oX2 rW)), ((rS 10), .inr (7, oX7 (rtP (rS 2) (rS 4) (rS 5) rQ) sQ)), ((rG 11), .inl (cy 2, 5, .inl G_isFalse)), ((rG 12), .inl (cy 0, 4, .inl G_kind)), ((rC 1), .inl (cy 0, 3400, .inl C_past)), (((rtP (rS 2) (rS 4) (rS 5) rF) 3), .inl (cy 0, 29, .inl F_all)), (((rtP (rS 2) (rS 4) (rS 5) rF) 4), .inl (cy 0, 4, .inl F_reasons)), ((rE 0), .inl (cy 1, 100, .inl E_heardAt)), ((rE 1), .inl (cy 1, 3200, .inl E_nearest)), ((rE 3), .inl (cy 0, 4, .inl E_ofVoice)), ((rE 4), .inl (cy 0, 5, .inl E_alike)), ((rW 0), .inl (cy 0, 400, .inl W_next)), ((rW 1), .inl (cy 0, 500, .inl W_way)), ((rW 2), .inl (cy 0, 5, .inl W_goal)), (((rtP (rS 2) (rS 4) (rS 5) rQ) 3), .inl (cy 0, 100, .inl Q_cell)), (((rtP (rS 2) (rS 4) (rS 5) rQ) 4), .inl (cy 0, 100, .inl Q_heading)), (aO, .inl (cy 3, 1, .inr (.inl (outF ov))))] sz)) (va_Qi (fun (r : Int32) (u : AR × AR × AR × AR × AR × AR × AR × Int32) => post r (u.1) (u.2.1) (u.2.2.1) (u.2.2.2.1) (u.2.2.2.2.1) (u.2.2.2.2.2.1) (u.2.2.2.2.2.2.1) (u.2.2.2.2.2.2.2)) (fun u => BkX D cy [(h0, .inr (10, oX10 rS sS)), ((rS 2), .inr (4, oX4 rG sG)), ((rS 8), .inr (0, oX0 rC sC)), ((rC 0), .inr (3, oX3 (rtP (rS 2) (rS 4) (rS 5) rF))), ((rS 4), .inr (1, oX1 rE)), ((rS 5), .inr (2, oX2 rW)), ((rS 10), .inr (7, oX7 (rtP (rS 2) (rS 4) (rS 5) rQ) sQ)), ((rG 11), .inl (cy 2, 5, .inl G_isFalse)), ((rG 12), .inl (cy 0, 4, .inl G_kind)), ((rC 1), .inl (cy 0, 3400, .inl C_past)), (((rtP (rS 2) (rS 4) (rS 5) rF) 3), .inl (cy 0, 29, .inl F_all)), (((rtP (rS 2) (rS 4) (rS 5) rF) 4), .inl (cy 0, 4, .inl F_reasons)), ((rE 0), .inl (cy 1, 100, .inl E_heardAt)), ((rE 1), .inl (cy 1, 3200, .inl E_nearest)), ((rE 3), .inl (cy 0, 4, .inl E_ofVoice)), ((rE 4), .inl (cy 0, 5, .inl E_alike)), ((rW 0), .inl (cy 0, 400, .inl W_next)), ((rW 1), .inl (cy 0, 500, .inl W_way)), ((rW 2), .inl (cy 0, 5, .inl W_goal)), (((rtP (rS 2) (rS 4) (rS 5) rQ) 3), .inl (cy 0, 100, .inl Q_cell)), (((rtP (rS 2) (rS 4) (rS 5) rQ) 4), .inl (cy 0, 100, .inl Q_heading)), (aO, .inl (cy 3, 1, .inr (.inl (outF ov))))] sz [(h0, .inr (10, oX10 rS sS)), ((rS 2), .inr (4, oX4 rG sG)), ((rS 8), .inr (0, oX0 rC (u.1))), ((rC 0), .inr (3, oX3 (rtP (rS 2) (rS 4) (rS 5) rF))), ((rS 4), .inr (1, oX1 rE)), ((rS 5), .inr (2, oX2 rW)), ((rS 10), .inr (7, oX7 (rtP (rS 2) (rS 4) (rS 5) rQ) (u.2.1))), ((rG 11), .inl (cy 2, 5, .inl G_isFalse)), ((rG 12), .inl (cy 0, 4, .inl G_kind)), ((rC 1), .inl (cy 0, 3400, .inl (u.2.2.1))), (((rtP (rS 2) (rS 4) (rS 5) rF) 3), .inl (cy 0, 29, .inl (u.2.2.2.1))), (((rtP (rS 2) (rS 4) (rS 5) rF) 4), .inl (cy 0, 4, .inl (u.2.2.2.2.1))), ((rE 0), .inl (cy 1, 100, .inl E_heardAt)), ((rE 1), .inl (cy 1, 3200, .inl E_nearest)), ((rE 3), .inl (cy 0, 4, .inl E_ofVoice)), ((rE 4), .inl (cy 0, 5, .inl E_alike)), ((rW 0), .inl (cy 0, 400, .inl W_next)), ((rW 1), .inl (cy 0, 500, .inl W_way)), ((rW 2), .inl (cy 0, 5, .inl W_goal)), (((rtP (rS 2) (rS 4) (rS 5) rQ) 3), .inl (cy 0, 100, .inl (u.2.2.2.2.2.1))), (((rtP (rS 2) (rS 4) (rS 5) rQ) 4), .inl (cy 0, 100, .inl (u.2.2.2.2.2.2.1))), (aO, .inl (cy 3, 1, .inr (.inl (outF (u.2.2.2.2.2.2.2)))))]) (va_A [(h0, .inr (10, oX10 rS sS)), ((rS 2), .inr (4, oX4 rG sG)), ((rS 8), .inr (0, oX0 rC sC)), ((rC 0), .inr (3, oX3 (rtP (rS 2) (rS 4) (rS 5) rF))), ((rS 4), .inr (1, oX1 rE)), ((rS 5), .inr (2, oX2 rW)), ((rS 10), .inr (7, oX7 (rtP (rS 2) (rS 4) (rS 5) rQ) sQ)), ((rG 11), .inl (cy 2, 5, .inl G_isFalse)), ((rG 12), .inl (cy 0, 4, .inl G_kind)), ((rC 1), .inl (cy 0, 3400, .inl C_past)), (((rtP (rS 2) (rS 4) (rS 5) rF) 3), .inl (cy 0, 29, .inl F_all)), (((rtP (rS 2) (rS 4) (rS 5) rF) 4), .inl (cy 0, 4, .inl F_reasons)), ((rE 0), .inl (cy 1, 100, .inl E_heardAt)), ((rE 1), .inl (cy 1, 3200, .inl E_nearest)), ((rE 3), .inl (cy 0, 4, .inl E_ofVoice)), ((rE 4), .inl (cy 0, 5, .inl E_alike)), ((rW 0), .inl (cy 0, 400, .inl W_next)), ((rW 1), .inl (cy 0, 500, .inl W_way)), ((rW 2), .inl (cy 0, 5, .inl W_goal)), (((rtP (rS 2) (rS 4) (rS 5) rQ) 3), .inl (cy 0, 100, .inl Q_cell)), (((rtP (rS 2) (rS 4) (rS 5) rQ) 4), .inl (cy 0, 100, .inl Q_heading)), (aO, .inl (cy 3, 1, .inr (.inl (outF ov))))] sz)) 1 6 (va_A [(h0, .inr (10, oX10 rS sS)), ((rS 2), .inr (4, oX4 rG sG)), ((rS 8), .inr (0, oX0 rC sC)), ((rC 0), .inr (3, oX3 (rtP (rS 2) (rS 4) (rS 5) rF))), ((rS 4), .inr (1, oX1 rE)), ((rS 5), .inr (2, oX2 rW)), ((rS 10), .inr (7, oX7 (rtP (rS 2) (rS 4) (rS 5) rQ) sQ)), ((rG 11), .inl (cy 2, 5, .inl G_isFalse)), ((rG 12), .inl (cy 0, 4, .inl G_kind)), ((rC 1), .inl (cy 0, 3400, .inl C_past)), (((rtP (rS 2) (rS 4) (rS 5) rF) 3), .inl (cy 0, 29, .inl F_all)), (((rtP (rS 2) (rS 4) (rS 5) rF) 4), .inl (cy 0, 4, .inl F_reasons)), ((rE 0), .inl (cy 1, 100, .inl E_heardAt)), ((rE 1), .inl (cy 1, 3200, .inl E_nearest)), ((rE 3), .inl (cy 0, 4, .inl E_ofVoice)), ((rE 4), .inl (cy 0, 5, .inl E_alike)), ((rW 0), .inl (cy 0, 400, .inl W_next)), ((rW 1), .inl (cy 0, 500, .inl W_way)), ((rW 2), .inl (cy 0, 5, .inl W_goal)), (((rtP (rS 2) (rS 4) (rS 5) rQ) 3), .inl (cy 0, 100, .inl Q_cell)), (((rtP (rS 2) (rS 4) (rS 5) rQ) 4), .inl (cy 0, 100, .inl Q_heading)), (aO, .inl (cy 3, 1, .inr (.inl (outF ov))))] sz) := by
  refine ofHi (by decide) (Nat.le_of_ble_eq_true rfl) ?_
  intro p e s m args below meth c ls A R QQ hx hb hml hown hts htab hR hE hT hN hK hP hD hS hA hl hret
  have hown : s.vm.findClass RL = some m.cls := hown
  have hRf : 8 ≤ R.frames := by rw [hR]; exact Nat.le_refl _
  have hRl : 193 ≤ R.locals := by rw [hR]; exact Nat.le_refl _
  have hRc : 1 ≤ R.cells := by rw [hR]; exact Nat.le_refl _
  have hRs : 6 ≤ R.slots := by rw [hR]; exact Nat.le_refl _
  clear hR
  have hl : lv_has ls 5 [(0, .ref h0), (1, .int x1), (2, .int x2), (3, .ref aO)] := hl
  unfold wpL_night at h
  refine lv_aload_n hx hb dL_night_0 rfl (lv_at hl 3 rfl) ?_
  refine lv_iconst (v := (0 : Int32)) hx hb dL_night_1 (by decide) ?_
  refine lv_aload_n hx hb dL_night_2 rfl (lv_at hl 0 rfl) ?_
  refine lv_iload_n hx hb dL_night_3 rfl (lv_at hl 1 rfl) ?_
  refine lv_iload_n hx hb dL_night_4 rfl (lv_at hl 2 rfl) ?_
  refine clXi (As := [.int x1, .int x2]) (rest := [.int (0 : Int32), .ref aO]) (Wr := [(aO, .inl (cy 3, 1, .inr (.inl (outF ov))))]) (cq := (RX10, TX10, 18)) ⟨hx, hb, hml, hown, hts⟩ ⟨callB_of 2 hts (goodC mw1150) rfl rfl rfl (hts _ (tb mw1)) (hts _ (tb mw1147)) kdX10_night ⟨Nat.le_trans (by decide) hRf, Nat.le_trans (by decide) hRl⟩, hts _ (tb mw1148), hts _ (tb mw1149)⟩ (ctX10_night l D cy ev hst h0 rS rG rC rF rE rW rQ sS sG sC sQ G_isFalse G_kind C_past F_all F_reasons E_heardAt E_nearest E_ofVoice E_alike W_next W_way W_goal Q_cell Q_heading x1 x2 _ _ _ h) hE hT hK hP hD hS hA [0, 1, 2, 3, 4, 5, 6, 7, 8, 9, 10, 11, 12, 13, 14, 15, 16, 17, 18, 19, 20] [21] rfl rfl (by decide) (by decide) (by decide) 0 rfl rfl rfl hl.1 rfl (Nat.le_of_ble_eq_true rfl) ⟨Nat.le_trans (by decide) hRc, Nat.le_trans (by decide) hRs⟩ dL_night_5 (fun E ce q H locs h hP hD hS g1 g2 g3 => ?_) (fun r u H locs h hP hD hS => ?_)
  · obtain ⟨rfl, h⟩ := h
    have hz : tableOf [(0, 10, 13, 13)] = [] ++ (⟨0, 10, 13, 13⟩ : ExceptionTableEntry) :: [] := rfl
    refine sb_catch (own := RL) (name := exI) (E := exI) (ce := ce) hown [] ⟨0, 10, 13, 13⟩ [] (htab.trans hz) (fun z hz9 => nomatch hz9) (by decide) (by decide) (hts _ (tb mw653)) (va_Nw.use rfl (hT (.castable exI exI) (by decide))) g1 g2 g3 ?_
    refine lv_astore (lv' := (4, .ref q) :: [(0, .ref h0), (1, .int x1), (2, .int x2), (3, .ref aO)]) hx hb dL_night_13 hl (by decide) rfl (fun ls hl => ?_)
    refine lv_iconst (v := (1 : Int32)) hx hb dL_night_15 (by decide) ?_
    exact hret (1 : Int32) (sC, sQ, C_past, F_all, F_reasons, Q_cell, Q_heading, ov) _ _ _ _ dL_night_16 h (hP.sub [1, 2, 3, 4, 5, 6, 7, 8, 9, 10, 11, 12, 13, 14, 15, 16, 17, 18, 19, 20, 21, 0] rfl) (hD.sub [1, 2, 3, 4, 5, 6, 7, 8, 9, 10, 11, 12, 13, 14, 15, 16, 17, 18, 19, 20, 21, 0] (by decide) rfl) hS
  · refine lv_i2l (v := r.toInt64) hx hb dL_night_8 rfl ?_
    refine va_last hx hb hK hP hD hS 0 3 rfl rfl (inL (by decide)) dL_night_9 (fun H locs hP hD hS => ?_)
    refine lv_goto (tgt := 17) hx hb dL_night_10 (by decide) ?_
    refine lv_iconst (v := (0 : Int32)) hx hb dL_night_17 (by decide) ?_
    have hu : vp_updL (outF ov) (0 : Int32).toNatClampNeg r.toInt64 = outF r := outF_upd ov r
    rw [hu] at hP hD
    exact hret (0 : Int32) ((u.1), (u.2.1), (u.2.2.1), (u.2.2.2.1), (u.2.2.2.2.1), (u.2.2.2.2.2.1), (u.2.2.2.2.2.2), r) _ _ _ _ dL_night_18 h (hP.sub [1, 2, 3, 4, 5, 6, 7, 8, 9, 10, 11, 12, 13, 14, 15, 16, 17, 18, 19, 20, 21, 0] rfl) (hD.sub [1, 2, 3, 4, 5, 6, 7, 8, 9, 10, 11, 12, 13, 14, 15, 16, 17, 18, 19, 20, 21, 0] (by decide) rfl) hS
