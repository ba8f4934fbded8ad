/-! the one list of words, and rows about it -/
def TB : List Cond := lw_tbl.filter goodWord
theorem memTB {w : Cond} (i : Nat) (h : tables_1[i]? = some w) (hg : goodWord w = true) : w ∈ TB := List.mem_filter.mpr ⟨List.mem_append_right _ (List.mem_of_getElem? h), hg⟩
theorem memTBs {w : Cond} (i : Nat) (h : (k2_sels lw_privs)[i]? = some w) (hg : goodWord w = true) : w ∈ TB := List.mem_filter.mpr ⟨List.mem_append_left _ (List.mem_of_getElem? h), hg⟩
theorem goodTB {c0 : Cond} : GoodIn (c0 :: TB) TB := fun w hw => ⟨List.mem_cons_of_mem _ hw, good_of_word (List.mem_filter.mp hw).2⟩
theorem good1 {c0 w : Cond} (h : w ∈ TB) : w ∈ c0 :: TB ∧ ((w.onTables && w.keeps) = true ∨ ∃ ty, w = .arrayClass ty) := ⟨List.mem_cons_of_mem _ h, good_of_word (List.mem_filter.mp h).2⟩
theorem goodC {c0 c1 : Cond} (h : c1 ∈ TB) : GoodIn (c0 :: TB) (c1 :: TB) := fun w hw => (List.mem_cons.mp hw).elim (fun e => by rw [e]; exact good1 h) (fun h => good1 h)
theorem goodV {c0 c1 : Cond} {own C : String} {idx : Nat} {y : MethodName} (h1 : Cond.methodLink own idx y ∈ TB) (h2 : Cond.instanceMethod y ∈ TB) (h3 : Cond.selects C y y ∈ TB) (h4 : Cond.initialized C ∈ TB) (h : c1 ∈ TB) : GoodIn (c0 :: TB) (wsV own idx C y (c1 :: TB)) := by
  intro w hw
  rcases List.mem_append.mp hw with hw | hw
  · simp only [List.mem_cons, List.not_mem_nil, or_false] at hw
    rcases hw with rfl | rfl | rfl | rfl
    · exact good1 h1
    · exact good1 h2
    · exact good1 h3
    · exact good1 h4
  · exact goodC h w hw
theorem goodS {c0 c1 : Cond} {own : String} {idx : Nat} {y : MethodName} (h1 : Cond.methodLink own idx y ∈ TB) (h2 : Cond.static y ∈ TB) (h4 : Cond.initialized own ∈ TB) (h : c1 ∈ TB) : GoodIn (c0 :: TB) (wsS own idx y (c1 :: TB)) := by
  intro w hw
  rcases List.mem_append.mp hw with hw | hw
  · simp only [List.mem_cons, List.not_mem_nil, or_false] at hw
    rcases hw with rfl | rfl | rfl
    · exact good1 h1
    · exact good1 h2
    · exact good1 h4
  · exact goodC h w hw
theorem wsIn {C : String} {T : u_T} {N : Nat} (ps : List Nat) (hp : u_ws C T N = ps.filterMap (fun i => tables_1[i]?)) (hg : (u_ws C T N).all goodWord = true) : ∀ w ∈ u_ws C T N, w ∈ TB := by
  intro w hw
  refine List.mem_filter.mpr ⟨?_, List.all_eq_true.mp hg w hw⟩
  rw [hp] at hw
  obtain ⟨i, -, hi⟩ := List.mem_filterMap.mp hw
  exact List.mem_append_right _ (List.mem_of_getElem? hi)
/-! numbers as the machine makes them -/
abbrev AR : Type := Nat → Int32
abbrev jrem (x y : Int32) : Int32 := x - x / y * y
abbrev jabs (x : Int32) : Int32 := if 0 ≤ x then x else 0 - x
abbrev jmin (x y : Int32) : Int32 := if y < x then y else x
abbrev jshl (x y : Int32) : Int32 := x <<< (y &&& 31)
abbrev jshr (x y : Int32) : Int32 := x >>> (y &&& 31)
abbrev jush (x y : Int32) : Int32 := (x.toUInt32 >>> (y.toUInt32 &&& Int32.toUInt32 31)).toInt32
abbrev jbyte (x : Int32) : Int32 := x.toInt8.toInt32
abbrev clsX : List vw_C := [(RX0, TX0, 7), (RX1, TX1, 5), (RX2, TX2, 3), (RX3, TX3, 5), (RX4, TX4, 16), (RX5, TX5, 6), (RX6, TX6, 6), (RX7, TX7, 7), (RX8, TX8, 10), (RX9, TX9, 4), (RX10, TX10, 18), (RX11, TX11, 56)]
abbrev tyA (cy : Nat → ClassId) : List (ClassId × FieldType) := [(cy 0, .int), (cy 1, .byte), (cy 2, .boolean), (cy 3, .long), (cy 4, .object "SaltBells$Folk"), (cy 5, .object "java/lang/String")]
/-! contracts in one form -/
abbrev PreX (D : va_G) (cy : Nat → ClassId) (W0 : va_W) (sz : Nat) : State → Prop := fun U => U.heap.size = sz ∧ va_P D clsX W0 U.heap ∧ va_K D clsX (tyA cy) U ∧ va_D (fun _ => True) W0
abbrev BkX (D : va_G) (cy : Nat → ClassId) (W0 : va_W) (sz : Nat) (W1 : va_W) (t : State) : Prop := va_P D clsX W1 t.heap ∧ va_K D clsX (tyA cy) t ∧ va_D (va_A W0 sz) W1
theorem blindX {D : va_G} {cy : Nat → ClassId} {W0 : va_W} {sz : Nat} {av : List Value} : FrameBlind (va_Pc av (PreX D cy W0 sz)) := fun a U g mk q => by
  obtain ⟨q0, q1, qP, qK, qD⟩ := q
  exact ⟨q0, q1, qP, va_K.moved (u := U) (U := U.calling g mk a) (Vm.Alike.refl U.vm) qK, qD⟩
section Bodies
variable {l : Launch} {D : va_G} {cy : Nat → ClassId} {y : MethodName} {rm : Room} {cc : ByteArray} {maxL : Nat} {av : List Value} {W0 : va_W} {sz : Nat} {S : Type} {W1 : S → va_W}
theorem ofWi {ret : FieldType} {post : Int32 → S → Prop} (hy : plainName y.cls = true) (hlen : (lg_sl av).length ≤ maxL)
    (body : ∀ (p : Program) (e : Env) (s : State) (m : MethodId) (args : Array Value) (below : List Frame) (meth : Method) (c : Code) (ls : Array Slot) (A : Nat → Prop) (R : Room) (QQ : State → Prop),
      p.tables.exec = Jvm.exec → c.code = cc → c.maxLocals = maxL → s.vm.findClass y.cls = some m.cls → (∀ w ∈ Cond.code y cc maxL (some ret) :: TB, w.before args s = true) →
      R = rm → va_K D clsX (tyA cy) s → va_P D clsX W0 s.heap → va_D A W0 → va_S A s.heap s.heap [] → (∀ q, s.heap.size ≤ q → A q) → lv_has ls maxL (lv_args 0 av) →
      (∀ (r : Int32) (u : S) (H : Heap) (locs : List Loc) (ls : Array Slot) (pc : Nat), narrow ret (.int r) = .int r → decode cc pc = .ok (.ireturn, 1) → post r u → va_P D clsX (W1 u) H → va_D A (W1 u) → va_S A s.heap H locs → W p l e R s m args below meth c H locs 0 0 QQ (F0 m pc ls [.int r])) →
      W p l e R s m args below meth c s.heap [] 0 0 QQ (F0 m 0 ls [])) :
    Met l y (Cond.code y cc maxL (some ret) :: TB) rm (va_Pc av (PreX D cy W0 sz)) (va_Qi post (fun u => BkX D cy W0 sz (W1 u)) (va_A W0 sz)) 0 0 (va_A W0 sz) := by
  refine Met.ofW (cc := cc) (maxL := maxL) (ret := some ret) hy rfl ?_
  intro p e s m args below meth c s₁ B hml hv
  obtain ⟨rfl, hsz, hP, hK, hD0⟩ := hv
  have hx := B.exec
  have hb := B.bytes
  have hr := B.returns
  have hts := atoms_spec (ws := Cond.code y cc maxL (some ret) :: TB) B.pre
  have hown : s.vm.findClass y.cls = some m.cls := findClass_of_methodNamed B.named
  have hlocks := B.notSynchronized
  subst hsz
  have hD := hD0.self (sz := s.heap.size)
  have hl := lv_entry av (n := maxL) hlen
  rw [lg_entry_eq]
  refine body p e s m _ below meth c _ (va_A W0 s.heap.size) _ _ hx hb hml hown hts rfl hK hP hD va_S.rf (fun q h => Or.inr h) hl ?_
  intro r u H locs ls pc hn hd hp hP1 hD1 hS
  exact W.zret (v := r) hx hb hr hn (fun t ht hW => ⟨⟨r, u, rfl, hp, by rw [ht]; exact hP1, va_K.moved hW.alike hK, hD1⟩, hS.F ht⟩) hS.2.2 hd
theorem ofWv {post : S → Prop} (hy : plainName y.cls = true) (hlen : (lg_sl av).length ≤ maxL)
    (body : ∀ (p : Program) (e : Env) (s : State) (m : MethodId) (args : Array Value) (below : List Frame) (meth : Method) (c : Code) (ls : Array Slot) (A : Nat → Prop) (R : Room) (QQ : State → Prop),
      p.tables.exec = Jvm.exec → c.code = cc → c.maxLocals = maxL → s.vm.findClass y.cls = some m.cls → (∀ w ∈ Cond.code y cc maxL none :: TB, w.before args s = true) →
      R = rm → va_K D clsX (tyA cy) s → va_P D clsX W0 s.heap → va_D A W0 → va_S A s.heap s.heap [] → (∀ q, s.heap.size ≤ q → A q) → lv_has ls maxL (lv_args 0 av) →
      (∀ (u : S) (H : Heap) (locs : List Loc) (ls : Array Slot) (pc : Nat), decode cc pc = .ok (.return_, 1) → post u → va_P D clsX (W1 u) H → va_D A (W1 u) → va_S A s.heap H locs → W p l e R s m args below meth c H locs 0 0 QQ (F0 m pc ls [])) →
      W p l e R s m args below meth c s.heap [] 0 0 QQ (F0 m 0 ls [])) :
    Met l y (Cond.code y cc maxL none :: TB) rm (va_Pc av (PreX D cy W0 sz)) (va_Qv post (fun u => BkX D cy W0 sz (W1 u)) (va_A W0 sz)) 0 0 (va_A W0 sz) := by
  refine Met.ofW (cc := cc) (maxL := maxL) (ret := none) hy rfl ?_
  intro p e s m args below meth c s₁ B hml hv
  obtain ⟨rfl, hsz, hP, hK, hD0⟩ := hv
  have hx := B.exec
  have hb := B.bytes
  have hr := B.returns
  have hts := atoms_spec (ws := Cond.code y cc maxL none :: TB) B.pre
  have hown : s.vm.findClass y.cls = some m.cls := findClass_of_methodNamed B.named
  have hlocks := B.notSynchronized
  subst hsz
  have hD := hD0.self (sz := s.heap.size)
  have hl := lv_entry av (n := maxL) hlen
  rw [lg_entry_eq]
  refine body p e s m _ below meth c _ (va_A W0 s.heap.size) _ _ hx hb hml hown hts rfl hK hP hD va_S.rf (fun q h => Or.inr h) hl ?_
  intro u H locs ls pc hd hp hP1 hD1 hS
  exact W.vret hx hb hr (fun t ht hW => ⟨⟨u, rfl, hp, by rw [ht]; exact hP1, va_K.moved hW.alike hK, hD1⟩, hS.F ht⟩) hS.2.2 hd
end Bodies
section CallsX
variable {p : Program} {l : Launch} {e : Env} {R : Room} {s : State} {m : MethodId} {args : Array Value} {below : List Frame} {meth : Method} {c : Code} {H H0 : Heap} {locs : List Loc} {cells slots : Nat} {Q : State → Prop}
variable {D : va_G} {cy : Nat → ClassId} {A : Nat → Prop} {y : MethodName} {bytes cc : ByteArray} {maxL nL n index pc : Nat} {ret : Option FieldType} {rm : Room} {c0 c1 : Cond} {own C : String} {b ci : Nat} {As rest st0 : List Value} {ls : Array Slot} {S : Type} {ws Wc Wr : va_W} {W1 : S → va_W} {fs : List Value} {cq : vw_C}
/-- an instance method that makes nothing, with a number for an answer: its cells cut out, and put back -/
theorem clVi {post : Int32 → S → Prop} (F : CallFix p m c cc nL s args (c0 :: TB) own) (cw : CallW R s args own cq.1 index y bytes maxL ret (c1 :: TB) rm 0 0 n)
    (hM : Met l y (c1 :: TB) rm (va_Pc (.ref b :: As) (PreX D cy Wc H.size)) (va_Qi post (fun u => BkX D cy Wc H.size (W1 u)) (va_A Wc H.size)) 0 0 (va_A Wc H.size))
    (hK : va_K D clsX (tyA cy) s) (hP : va_P D clsX ws H) (hD : va_D A ws) (hS : va_S A H0 H locs) (hA : ∀ q, H0.size ≤ q → A q)
    (isC isR : List Nat) (hC : isC.map (fun i => ws[i]?) = Wc.map some) (hR : isR.map (fun i => ws[i]?) = Wr.map some) (hnC : va_nd isC = true) (hnR : va_nd isR = true) (hdis : ∀ i ∈ isR, i ∉ isC)
    (q0 : Nat) (hq : Wc[q0]? = some (b, .inr (ci, fs))) (hcq : clsX[ci]? = some cq) (hn : As.length = n) (hsize : ls.size = nL) (hst : st0 = As.reverse ++ .ref b :: rest) (hroom : (rest.map fun v => v.category).sum ≤ 8)
    (hf : cells ≤ R.cells ∧ slots ≤ R.slots) (hdg : decode cc pc = .ok (.invokevirtual index, 3))
    (kk : ∀ (r : Int32) (u : S) (H1 : Heap) (locs1 : List Loc), post r u → va_P D clsX (Wr ++ W1 u) H1 → va_D A (Wr ++ W1 u) → va_S A H0 H1 locs1 → W p l e R s m args below meth c H1 locs1 cells slots Q (F0 m (pc + 3) ls (.int r :: rest))) :
    W p l e R s m args below meth c H locs cells slots Q (F0 m pc ls st0) := by
  have hDc : va_D A Wc := hD.sub isC hnC hC
  have hPc : va_P D clsX Wc H := by
    refine hP.sub isC ?_
    have h1 : isC.filterMap (fun i => ws[i]?) = (isC.map (fun i => ws[i]?)).filterMap id := by rw [List.filterMap_map]; rfl
    rw [h1, hC, List.filterMap_map]
    exact List.filterMap_some
  have hFc := va_free (wc := Wc) hD hS hA isC hC
  subst hst
  refine va_calli (va_runV (As := As) (rest := rest) (b := b) F hM cw ⟨blindX, va_recv hK hPc hcq hq, fun U hU hW => ⟨rfl, by rw [hU], by rw [hU]; exact hPc, va_K.moved hW.alike hK, hDc.weaken (fun _ _ _ _ => trivial)⟩⟩ rfl hn hsize rfl (lv_room hroom) hdg hf) hS (fun q _ h => hFc q h) hFc (fun r u t H1 locs1 ht hvm hw hB hz1 hk1 hS1 => ?_)
  obtain ⟨hP1, hK1, hD1⟩ := hB
  rw [ht] at hP1
  obtain ⟨hP2, hD2⟩ := va_join (wr := Wr) (w1 := W1 u) hP hD isC isR hC hR hnR hdis hk1 hFc hP1 hD1
  exact kk r u H1 locs1 hw hP2 hD2 hS1
/-- the same, void -/
theorem clVv {post : S → Prop} (F : CallFix p m c cc nL s args (c0 :: TB) own) (cw : CallW R s args own cq.1 index y bytes maxL ret (c1 :: TB) rm 0 0 n)
    (hM : Met l y (c1 :: TB) rm (va_Pc (.ref b :: As) (PreX D cy Wc H.size)) (va_Qv post (fun u => BkX D cy Wc H.size (W1 u)) (va_A Wc H.size)) 0 0 (va_A Wc H.size))
    (hK : va_K D clsX (tyA cy) s) (hP : va_P D clsX ws H) (hD : va_D A ws) (hS : va_S A H0 H locs) (hA : ∀ q, H0.size ≤ q → A q)
    (isC isR : List Nat) (hC : isC.map (fun i => ws[i]?) = Wc.map some) (hR : isR.map (fun i => ws[i]?) = Wr.map some) (hnC : va_nd isC = true) (hnR : va_nd isR = true) (hdis : ∀ i ∈ isR, i ∉ isC)
    (q0 : Nat) (hq : Wc[q0]? = some (b, .inr (ci, fs))) (hcq : clsX[ci]? = some cq) (hn : As.length = n) (hsize : ls.size = nL) (hst : st0 = As.reverse ++ .ref b :: rest) (hroom : (rest.map fun v => v.category).sum ≤ 8)
    (hf : cells ≤ R.cells ∧ slots ≤ R.slots) (hdg : decode cc pc = .ok (.invokevirtual index, 3))
    (kk : ∀ (u : S) (H1 : Heap) (locs1 : List Loc), post u → va_P D clsX (Wr ++ W1 u) H1 → va_D A (Wr ++ W1 u) → va_S A H0 H1 locs1 → W p l e R s m args below meth c H1 locs1 cells slots Q (F0 m (pc + 3) ls rest)) :
    W p l e R s m args below meth c H locs cells slots Q (F0 m pc ls st0) := by
  have hDc : va_D A Wc := hD.sub isC hnC hC
  have hPc : va_P D clsX Wc H := by
    refine hP.sub isC ?_
    have h1 : isC.filterMap (fun i => ws[i]?) = (isC.map (fun i => ws[i]?)).filterMap id := by rw [List.filterMap_map]; rfl
    rw [h1, hC, List.filterMap_map]
    exact List.filterMap_some
  have hFc := va_free (wc := Wc) hD hS hA isC hC
  subst hst
  refine va_callv (va_runV (As := As) (rest := rest) (b := b) F hM cw ⟨blindX, va_recv hK hPc hcq hq, fun U hU hW => ⟨rfl, by rw [hU], by rw [hU]; exact hPc, va_K.moved hW.alike hK, hDc.weaken (fun _ _ _ _ => trivial)⟩⟩ rfl hn hsize rfl (lv_room hroom) hdg hf) hS (fun q _ h => hFc q h) hFc (fun u t H1 locs1 ht hvm hw hB hz1 hk1 hS1 => ?_)
  obtain ⟨hP1, hK1, hD1⟩ := hB
  rw [ht] at hP1
  obtain ⟨hP2, hD2⟩ := va_join (wr := Wr) (w1 := W1 u) hP hD isC isR hC hR hnR hdis hk1 hFc hP1 hD1
  exact kk u H1 locs1 hw hP2 hD2 hS1
/-- a static method that makes nothing -/
theorem clSi {post : Int32 → S → Prop} (F : CallFix p m c cc nL s args (c0 :: TB) own) (cw : CallB R s args own index y bytes maxL ret (c1 :: TB) rm 0 0 n ∧ (Cond.static y).before args s = true)
    (hM : Met l y (c1 :: TB) rm (va_Pc As (PreX D cy Wc H.size)) (va_Qi post (fun u => BkX D cy Wc H.size (W1 u)) (va_A Wc H.size)) 0 0 (va_A Wc H.size))
    (hK : va_K D clsX (tyA cy) s) (hP : va_P D clsX ws H) (hD : va_D A ws) (hS : va_S A H0 H locs) (hA : ∀ q, H0.size ≤ q → A q)
    (isC isR : List Nat) (hC : isC.map (fun i => ws[i]?) = Wc.map some) (hR : isR.map (fun i => ws[i]?) = Wr.map some) (hnC : va_nd isC = true) (hnR : va_nd isR = true) (hdis : ∀ i ∈ isR, i ∉ isC)
    (hn : As.length = n) (hsize : ls.size = nL) (hst : st0 = As.reverse ++ rest) (hroom : (rest.map fun v => v.category).sum ≤ 8)
    (hf : cells ≤ R.cells ∧ slots ≤ R.slots) (hdg : decode cc pc = .ok (.invokestatic index, 3))
    (kk : ∀ (r : Int32) (u : S) (H1 : Heap) (locs1 : List Loc), post r u → va_P D clsX (Wr ++ W1 u) H1 → va_D A (Wr ++ W1 u) → va_S A H0 H1 locs1 → W p l e R s m args below meth c H1 locs1 cells slots Q (F0 m (pc + 3) ls (.int r :: rest))) :
    W p l e R s m args below meth c H locs cells slots Q (F0 m pc ls st0) := by
  have hDc : va_D A Wc := hD.sub isC hnC hC
  have hPc : va_P D clsX Wc H := by
    refine hP.sub isC ?_
    have h1 : isC.filterMap (fun i => ws[i]?) = (isC.map (fun i => ws[i]?)).filterMap id := by rw [List.filterMap_map]; rfl
    rw [h1, hC, List.filterMap_map]
    exact List.filterMap_some
  have hFc := va_free (wc := Wc) hD hS hA isC hC
  subst hst
  refine va_calli (va_runS (As := As) (rest := rest) F hM cw ⟨blindX, fun U hU hW => ⟨rfl, by rw [hU], by rw [hU]; exact hPc, va_K.moved hW.alike hK, hDc.weaken (fun _ _ _ _ => trivial)⟩⟩ rfl hn hsize rfl (lv_room hroom) hdg hf) hS (fun q _ h => hFc q h) hFc (fun r u t H1 locs1 ht hvm hw hB hz1 hk1 hS1 => ?_)
  obtain ⟨hP1, hK1, hD1⟩ := hB
  rw [ht] at hP1
  obtain ⟨hP2, hD2⟩ := va_join (wr := Wr) (w1 := W1 u) hP hD isC isR hC hR hnR hdis hk1 hFc hP1 hD1
  exact kk r u H1 locs1 hw hP2 hD2 hS1
theorem clSv {post : S → Prop} (F : CallFix p m c cc nL s args (c0 :: TB) own) (cw : CallB R s args own index y bytes maxL ret (c1 :: TB) rm 0 0 n ∧ (Cond.static y).before args s = true)
    (hM : Met l y (c1 :: TB) rm (va_Pc As (PreX D cy Wc H.size)) (va_Qv post (fun u => BkX D cy Wc H.size (W1 u)) (va_A Wc H.size)) 0 0 (va_A Wc H.size))
    (hK : va_K D clsX (tyA cy) s) (hP : va_P D clsX ws H) (hD : va_D A ws) (hS : va_S A H0 H locs) (hA : ∀ q, H0.size ≤ q → A q)
    (isC isR : List Nat) (hC : isC.map (fun i => ws[i]?) = Wc.map some) (hR : isR.map (fun i => ws[i]?) = Wr.map some) (hnC : va_nd isC = true) (hnR : va_nd isR = true) (hdis : ∀ i ∈ isR, i ∉ isC)
    (hn : As.length = n) (hsize : ls.size = nL) (hst : st0 = As.reverse ++ rest) (hroom : (rest.map fun v => v.category).sum ≤ 8)
    (hf : cells ≤ R.cells ∧ slots ≤ R.slots) (hdg : decode cc pc = .ok (.invokestatic index, 3))
    (kk : ∀ (u : S) (H1 : Heap) (locs1 : List Loc), post u → va_P D clsX (Wr ++ W1 u) H1 → va_D A (Wr ++ W1 u) → va_S A H0 H1 locs1 → W p l e R s m args below meth c H1 locs1 cells slots Q (F0 m (pc + 3) ls rest)) :
    W p l e R s m args below meth c H locs cells slots Q (F0 m pc ls st0) := by
  have hDc : va_D A Wc := hD.sub isC hnC hC
  have hPc : va_P D clsX Wc H := by
    refine hP.sub isC ?_
    have h1 : isC.filterMap (fun i => ws[i]?) = (isC.map (fun i => ws[i]?)).filterMap id := by rw [List.filterMap_map]; rfl
    rw [h1, hC, List.filterMap_map]
    exact List.filterMap_some
  have hFc := va_free (wc := Wc) hD hS hA isC hC
  subst hst
  refine va_callv (va_runS (As := As) (rest := rest) F hM cw ⟨blindX, fun U hU hW => ⟨rfl, by rw [hU], by rw [hU]; exact hPc, va_K.moved hW.alike hK, hDc.weaken (fun _ _ _ _ => trivial)⟩⟩ rfl hn hsize rfl (lv_room hroom) hdg hf) hS (fun q _ h => hFc q h) hFc (fun u t H1 locs1 ht hvm hw hB hz1 hk1 hS1 => ?_)
  obtain ⟨hP1, hK1, hD1⟩ := hB
  rw [ht] at hP1
  obtain ⟨hP2, hD2⟩ := va_join (wr := Wr) (w1 := W1 u) hP hD isC isR hC hR hnR hdis hk1 hFc hP1 hD1
  exact kk u H1 locs1 hw hP2 hD2 hS1
end CallsX
