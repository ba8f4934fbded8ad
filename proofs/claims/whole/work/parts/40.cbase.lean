/-! constructors: what is made, in one form -/
def rl (l : List Nat) (k : Nat) : Nat := l.getD k 0
section BodiesC
variable {l : Launch} {D : va_G} {cy : Nat → ClassId} {ev : Nat → Nat} {y : MethodName} {rm : Room} {cc : ByteArray} {maxL mc ms : Nat} {av : List Value} {W0 : va_W} {sz : Nat} {S : Type} {W1 : S → va_W}
theorem ofWc {post : S → Prop} (hy : plainName y.cls = true) (hlen : (lg_sl av).length ≤ maxL)
    (body : ∀ (p : Program) (e : Env) (s : State) (m : MethodId) (args : Array Value) (below : List Frame) (meth : Method) (c : Code) (ls : Array Slot) (A : Nat → Prop) (R : Room) (QQ : State → Prop),
      p.tables.exec = Jvm.exec → c.code = cc → c.maxLocals = maxL → s.vm.findClass y.cls = some m.cls → (∀ w ∈ Cond.code y cc maxL none :: TB, w.before args s = true) →
      R = rm → meth.locks = false → meth.name = y.name → EnvX ev A s s.heap → va_K D clsX (tyA cy) s → va_P D clsX W0 s.heap → va_D A W0 → va_S A s.heap s.heap [] → (∀ q, s.heap.size ≤ q → A q) → lv_has ls maxL (lv_args 0 av) →
      (∀ (u : S) (H : Heap) (locs : List Loc) (ls : Array Slot) (pc : Nat), decode cc pc = .ok (.return_, 1) → post u → va_P D clsX (W1 u) H → va_D A (W1 u) → va_S A s.heap H locs → W p l e R s m args below meth c H locs mc ms QQ (F0 m pc ls [])) →
      W p l e R s m args below meth c s.heap [] 0 0 QQ (F0 m 0 ls [])) :
    Met l y (Cond.code y cc maxL none :: TB) rm (va_Pc av (PreX D cy ev W0 sz)) (va_Qv post (fun u => BkX D cy W0 sz (W1 u)) (va_A W0 sz)) mc ms (va_A W0 sz) := by
  refine Met.ofW (cc := cc) (maxL := maxL) (ret := none) hy rfl ?_
  intro p e s m args below meth c s₁ B hml hv
  obtain ⟨rfl, hsz, hP, hK, hD0, hE⟩ := hv
  have hx := B.exec
  have hb := B.bytes
  have hr := B.returns
  have hts := atoms_spec (ws := Cond.code y cc maxL none :: TB) B.pre
  have hown : s.vm.findClass y.cls = some m.cls := findClass_of_methodNamed B.named
  have hlocks := B.notSynchronized
  have hin : meth.name = y.name := (name_of_methodNamed B.named B.method).1
  subst hsz
  have hD := hD0.self (sz := s.heap.size)
  have hl := lv_entry av (n := maxL) hlen
  rw [lg_entry_eq]
  refine body p e s m _ below meth c _ (va_A W0 s.heap.size) _ _ hx hb hml hown hts rfl hlocks hin hE hK hP hD va_S.rf (fun q h => Or.inr h) hl ?_
  intro u H locs ls pc hd hp hP1 hD1 hS
  exact W.vret hx hb hr (fun t ht hW => ⟨⟨u, rfl, hp, by rw [ht]; exact hP1, va_K.moved hW.alike hK, hD1⟩, hS.F ht⟩) hS.2.2 hd
end BodiesC
section CallsC
variable {p : Program} {l : Launch} {e : Env} {R : Room} {s : State} {m : MethodId} {args : Array Value} {below : List Frame} {meth : Method} {c : Code} {H : Heap} {locs : List Loc} {cells slots : Nat} {Q : State → Prop}
variable {D : va_G} {cy : Nat → ClassId} {ev : Nat → Nat} {A : Nat → Prop} {y : MethodName} {bytes cc : ByteArray} {maxL nL n index pc mc1 ms1 : Nat} {rm : Room} {c0 c1 : Cond} {own host C : String} {b ci : Nat} {As rest st0 : List Value} {ls : Array Slot} {S : Type} {ws Wc Wr : va_W} {W1 : S → va_W} {fs : List Value} {cq : vw_C}
theorem clIv {post : S → Prop} (F : CallFix p m c cc nL s args (c0 :: TB) own) (cw : CallB R s args own index y bytes maxL none (c1 :: TB) rm mc1 ms1 n ∧ y.name = "<init>" ∧ (Cond.instanceMethod y).before args s = true)
    (hM : Met l y (c1 :: TB) rm (va_Pc (.ref b :: As) (PreX D cy ev Wc H.size)) (va_Qv post (fun u => BkX D cy Wc H.size (W1 u)) (va_A Wc H.size)) mc1 ms1 (va_A Wc H.size))
    (hE : EnvX ev A s s.heap) (hK : va_K D clsX (tyA cy) s) (hP : va_P D clsX ws H) (hD : va_D A ws) (hS : va_S A s.heap H locs) (hA : ∀ q, s.heap.size ≤ q → A q)
    (isC isR : List Nat) (hC : isC.map (fun i => ws[i]?) = Wc.map some) (hR : isR.map (fun i => ws[i]?) = Wr.map some) (hnC : va_nd isC = true) (hnR : va_nd isR = true) (hdis : ∀ i ∈ isR, i ∉ isC)
    (hn : As.length = n) (hsize : ls.size = nL) (hst : st0 = As.reverse ++ .ref b :: rest) (hroom : (rest.map fun v => v.category).sum ≤ 8)
    (hf : cells + mc1 ≤ R.cells ∧ slots + ms1 ≤ R.slots) (hdg : decode cc pc = .ok (.invokespecial index, 3))
    (kk : ∀ (u : S) (H1 : Heap) (locs1 : List Loc), post u → va_P D clsX (Wr ++ W1 u) H1 → va_D A (Wr ++ W1 u) → va_S A s.heap H1 locs1 → W p l e R s m args below meth c H1 locs1 (cells + mc1) (slots + ms1) Q (F0 m (pc + 3) ls rest)) :
    W p l e R s m args below meth c H locs cells slots Q (F0 m pc ls st0) := by
  have hDc : va_D A Wc := hD.sub isC hnC hC
  have hPc : va_P D clsX Wc H := by
    refine hP.sub isC ?_
    have h1 : isC.filterMap (fun i => ws[i]?) = (isC.map (fun i => ws[i]?)).filterMap id := by rw [List.filterMap_map]; rfl
    rw [h1, hC, List.filterMap_map]
    exact List.filterMap_some
  have hFc := va_free (wc := Wc) hD hS hA isC hC
  subst hst
  refine va_callv (va_runI (As := As) (rest := rest) (b := b) F hM cw ⟨blindX, fun U hU hW => ⟨rfl, by rw [hU], by rw [hU]; exact hPc, va_K.moved hW.alike hK, hDc.weaken (fun _ _ _ _ => trivial), hE.call hS hFc hU hW⟩⟩ rfl hn hsize rfl (lv_room hroom) hdg hf) hS (fun q _ h => hFc q h) hFc (fun u t H1 locs1 ht hvm hw hB hz1 hk1 hS1 => ?_)
  obtain ⟨hP1, hK1, hD1⟩ := hB
  rw [ht] at hP1
  obtain ⟨hP2, hD2⟩ := va_join (wr := Wr) (w1 := W1 u) hP hD isC isR hC hR hnR hdis hk1 hFc hP1 hD1
  exact kk u H1 locs1 hw hP2 hD2 hS1
theorem clIN {post : S → Prop} (F : CallFix p m c cc nL s args (c0 :: TB) own) (cw : va_CN R s args own index y host bytes maxL none (c1 :: TB) rm mc1 ms1 n ∧ y.name = "<init>" ∧ (Cond.instanceMethod y).before args s = true)
    (hM : Met l y (c1 :: TB) rm (va_Pc (.ref b :: As) (PreX D cy ev Wc H.size)) (va_Qv post (fun u => BkX D cy Wc H.size (W1 u)) (va_A Wc H.size)) mc1 ms1 (va_A Wc H.size))
    (hE : EnvX ev A s s.heap) (hK : va_K D clsX (tyA cy) s) (hP : va_P D clsX ws H) (hD : va_D A ws) (hS : va_S A s.heap H locs) (hA : ∀ q, s.heap.size ≤ q → A q)
    (isC isR : List Nat) (hC : isC.map (fun i => ws[i]?) = Wc.map some) (hR : isR.map (fun i => ws[i]?) = Wr.map some) (hnC : va_nd isC = true) (hnR : va_nd isR = true) (hdis : ∀ i ∈ isR, i ∉ isC)
    (hn : As.length = n) (hsize : ls.size = nL) (hst : st0 = As.reverse ++ .ref b :: rest) (hroom : (rest.map fun v => v.category).sum ≤ 8)
    (hf : cells + mc1 ≤ R.cells ∧ slots + ms1 ≤ R.slots) (hdg : decode cc pc = .ok (.invokespecial index, 3))
    (kk : ∀ (u : S) (H1 : Heap) (locs1 : List Loc), post u → va_P D clsX (Wr ++ W1 u) H1 → va_D A (Wr ++ W1 u) → va_S A s.heap H1 locs1 → W p l e R s m args below meth c H1 locs1 (cells + mc1) (slots + ms1) Q (F0 m (pc + 3) ls rest)) :
    W p l e R s m args below meth c H locs cells slots Q (F0 m pc ls st0) := by
  have hDc : va_D A Wc := hD.sub isC hnC hC
  have hPc : va_P D clsX Wc H := by
    refine hP.sub isC ?_
    have h1 : isC.filterMap (fun i => ws[i]?) = (isC.map (fun i => ws[i]?)).filterMap id := by rw [List.filterMap_map]; rfl
    rw [h1, hC, List.filterMap_map]
    exact List.filterMap_some
  have hFc := va_free (wc := Wc) hD hS hA isC hC
  subst hst
  refine va_callv (va_runIN (As := As) (rest := rest) (b := b) F hM cw ⟨blindX, fun U hU hW => ⟨rfl, by rw [hU], by rw [hU]; exact hPc, va_K.moved hW.alike hK, hDc.weaken (fun _ _ _ _ => trivial), hE.call hS hFc hU hW⟩⟩ rfl hn hsize rfl (lv_room hroom) hdg hf) hS (fun q _ h => hFc q h) hFc (fun u t H1 locs1 ht hvm hw hB hz1 hk1 hS1 => ?_)
  obtain ⟨hP1, hK1, hD1⟩ := hB
  rw [ht] at hP1
  obtain ⟨hP2, hD2⟩ := va_join (wr := Wr) (w1 := W1 u) hP hD isC isR hC hR hnR hdis hk1 hFc hP1 hD1
  exact kk u H1 locs1 hw hP2 hD2 hS1
end CallsC
section NewC
variable {p : Program} {l : Launch} {e : Env} {R : Room} {s : State} {m : MethodId} {args : Array Value} {below : List Frame} {meth : Method} {c : Code} {H H0 : Heap} {locs : List Loc} {cells slots : Nat} {Q : State → Prop} {cc : ByteArray} {pc : Nat} {ls : Array Slot} {rest : List Value} {ws : va_W} {a : Nat} {A : Nat → Prop} {D : va_G} {cy : Nat → ClassId} {ev : Nat → Nat} {c0 : Cond}
theorem nwI {n : Int32} {N : Nat} (hx : p.tables.exec = Jvm.exec) (hb : c.code = cc) (hts : ∀ w ∈ c0 :: TB, w.before args s = true) (hK : va_K D clsX (tyA cy) s) (hP : va_P D clsX ws H) (hD : va_D A ws) (hS : va_S A H0 H locs) (hA : ∀ q, H0.size ≤ q → A q) (hn : ¬ n < 0) (hN : n.toNatClampNeg = N) (hN2 : N ≤ 100000) (hc : cells + 1 ≤ R.cells) (hs : slots + N ≤ R.slots) (hd : decode cc pc = .ok (.newarray .int, 2)) (kk : ∀ (q : Nat) (H1 : Heap), va_P D clsX (ws ++ [(q, .inl (cy 0, N, .inl (fun _ => 0)))]) H1 → va_D A (ws ++ [(q, .inl (cy 0, N, .inl (fun _ => 0)))]) → va_S A H0 H1 locs → W p l e R s m args below meth c H1 locs (cells + 1) (slots + N) Q (F0 m (pc + 2) ls (.ref q :: rest))) : W p l e R s m args below meth c H locs cells slots Q (F0 m pc ls (.int n :: rest)) := by
  refine va_newa (atype := .int) (a0 := (N, .inl (fun _ => 0))) hx hb (hts _ (tb mw174)) (ty := .int) rfl hK hP hD hS hA (fun cA => rfl) hn hN ?_ hc hs hd (fun q cA H1 hK1 hP1 hD1 hS1 => ?_)
  · show N * 4 ≤ 536870912
    omega
  · have e1 : cA = cy 0 := Option.some.inj ((hK1.2 6 (cA, .int) rfl).2.symm.trans (hK.2 0 (cy 0, .int) rfl).2)
    subst e1
    exact kk q H1 hP1 hD1 hS1
theorem nwB {n : Int32} {N : Nat} (hx : p.tables.exec = Jvm.exec) (hb : c.code = cc) (hts : ∀ w ∈ c0 :: TB, w.before args s = true) (hK : va_K D clsX (tyA cy) s) (hP : va_P D clsX ws H) (hD : va_D A ws) (hS : va_S A H0 H locs) (hA : ∀ q, H0.size ≤ q → A q) (hn : ¬ n < 0) (hN : n.toNatClampNeg = N) (hN2 : N ≤ 100000) (hc : cells + 1 ≤ R.cells) (hs : slots + N ≤ R.slots) (hd : decode cc pc = .ok (.newarray .byte, 2)) (kk : ∀ (q : Nat) (H1 : Heap), va_P D clsX (ws ++ [(q, .inl (cy 1, N, .inl (fun _ => 0)))]) H1 → va_D A (ws ++ [(q, .inl (cy 1, N, .inl (fun _ => 0)))]) → va_S A H0 H1 locs → W p l e R s m args below meth c H1 locs (cells + 1) (slots + N) Q (F0 m (pc + 2) ls (.ref q :: rest))) : W p l e R s m args below meth c H locs cells slots Q (F0 m pc ls (.int n :: rest)) := by
  refine va_newa (atype := .byte) (a0 := (N, .inl (fun _ => 0))) hx hb (hts _ (tb mw74)) (ty := .byte) rfl hK hP hD hS hA (fun cA => rfl) hn hN ?_ hc hs hd (fun q cA H1 hK1 hP1 hD1 hS1 => ?_)
  · show N * 1 ≤ 536870912
    omega
  · have e1 : cA = cy 1 := Option.some.inj ((hK1.2 6 (cA, .byte) rfl).2.symm.trans (hK.2 1 (cy 1, .byte) rfl).2)
    subst e1
    exact kk q H1 hP1 hD1 hS1
theorem nwZ {n : Int32} {N : Nat} (hx : p.tables.exec = Jvm.exec) (hb : c.code = cc) (hts : ∀ w ∈ c0 :: TB, w.before args s = true) (hK : va_K D clsX (tyA cy) s) (hP : va_P D clsX ws H) (hD : va_D A ws) (hS : va_S A H0 H locs) (hA : ∀ q, H0.size ≤ q → A q) (hn : ¬ n < 0) (hN : n.toNatClampNeg = N) (hN2 : N ≤ 100000) (hc : cells + 1 ≤ R.cells) (hs : slots + N ≤ R.slots) (hd : decode cc pc = .ok (.newarray .boolean, 2)) (kk : ∀ (q : Nat) (H1 : Heap), va_P D clsX (ws ++ [(q, .inl (cy 2, N, .inl (fun _ => 0)))]) H1 → va_D A (ws ++ [(q, .inl (cy 2, N, .inl (fun _ => 0)))]) → va_S A H0 H1 locs → W p l e R s m args below meth c H1 locs (cells + 1) (slots + N) Q (F0 m (pc + 2) ls (.ref q :: rest))) : W p l e R s m args below meth c H locs cells slots Q (F0 m pc ls (.int n :: rest)) := by
  refine va_newa (atype := .boolean) (a0 := (N, .inl (fun _ => 0))) hx hb (hts _ (tb mw175)) (ty := .boolean) rfl hK hP hD hS hA (fun cA => rfl) hn hN ?_ hc hs hd (fun q cA H1 hK1 hP1 hD1 hS1 => ?_)
  · show N * 1 ≤ 536870912
    omega
  · have e1 : cA = cy 2 := Option.some.inj ((hK1.2 6 (cA, .boolean) rfl).2.symm.trans (hK.2 2 (cy 2, .boolean) rfl).2)
    subst e1
    exact kk q H1 hP1 hD1 hS1
theorem nwF {own : String} {idx : Nat} {n : Int32} {N : Nat} (hx : p.tables.exec = Jvm.exec) (hb : c.code = cc) (hts : ∀ w ∈ c0 :: TB, w.before args s = true) (hown : s.vm.findClass own = some m.cls) (hlk : Cond.classLink own idx "SaltBells$Folk" ∈ TB) (hE : EnvX ev A s s.heap) (hK : va_K D clsX (tyA cy) s) (hP : va_P D clsX ws H) (hD : va_D A ws) (hS : va_S A H0 H locs) (hA : ∀ q, H0.size ≤ q → A q) (hn : ¬ n < 0) (hN : n.toNatClampNeg = N) (hN2 : N ≤ 100000) (hc : cells + 1 ≤ R.cells) (hs : slots + N ≤ R.slots) (hd : decode cc pc = .ok (.anewarray idx, 3)) (kk : ∀ (q : Nat) (H1 : Heap), va_P D clsX (ws ++ [(q, .inl (cy 4, N, .inr (.inr (.inr (.inr (fun _ => none))))))]) H1 → va_D A (ws ++ [(q, .inl (cy 4, N, .inr (.inr (.inr (.inr (fun _ => none))))))]) → va_S A H0 H1 locs → W p l e R s m args below meth c H1 locs (cells + 1) (slots + N) Q (F0 m (pc + 3) ls (.ref q :: rest))) : W p l e R s m args below meth c H locs cells slots Q (F0 m pc ls (.int n :: rest)) := by
  refine va_newq hx hb hown (hts _ (tb hlk)) hE.2.2.2.2.2.1 hK hP hD hS hA hn hN (by omega) hc hs hd (fun q cA H1 hK1 hP1 hD1 hS1 => ?_)
  obtain ⟨_, _, _, _, _, h1⟩ := (hK1.2 6 (cA, .object "SaltBells$Folk") rfl).2
  obtain ⟨_, _, _, _, _, h2⟩ := (hK.2 4 (cy 4, .object "SaltBells$Folk") rfl).2
  have e1 : cA = cy 4 := Option.some.inj (h1.symm.trans h2)
  subst e1
  exact kk q H1 hP1 hD1 hS1
theorem nwS {own : String} {idx : Nat} {n : Int32} {N : Nat} (hx : p.tables.exec = Jvm.exec) (hb : c.code = cc) (hts : ∀ w ∈ c0 :: TB, w.before args s = true) (hown : s.vm.findClass own = some m.cls) (hlk : Cond.classLink own idx "java/lang/String" ∈ TB) (hE : EnvX ev A s s.heap) (hK : va_K D clsX (tyA cy) s) (hP : va_P D clsX ws H) (hD : va_D A ws) (hS : va_S A H0 H locs) (hA : ∀ q, H0.size ≤ q → A q) (hn : ¬ n < 0) (hN : n.toNatClampNeg = N) (hN2 : N ≤ 100000) (hc : cells + 1 ≤ R.cells) (hs : slots + N ≤ R.slots) (hd : decode cc pc = .ok (.anewarray idx, 3)) (kk : ∀ (q : Nat) (H1 : Heap), va_P D clsX (ws ++ [(q, .inl (cy 5, N, .inr (.inr (.inr (.inr (fun _ => none))))))]) H1 → va_D A (ws ++ [(q, .inl (cy 5, N, .inr (.inr (.inr (.inr (fun _ => none))))))]) → va_S A H0 H1 locs → W p l e R s m args below meth c H1 locs (cells + 1) (slots + N) Q (F0 m (pc + 3) ls (.ref q :: rest))) : W p l e R s m args below meth c H locs cells slots Q (F0 m pc ls (.int n :: rest)) := by
  refine va_newq hx hb hown (hts _ (tb hlk)) hE.2.2.2.2.2.2 hK hP hD hS hA hn hN (by omega) hc hs hd (fun q cA H1 hK1 hP1 hD1 hS1 => ?_)
  obtain ⟨_, _, _, _, _, h1⟩ := (hK1.2 6 (cA, .object "java/lang/String") rfl).2
  obtain ⟨_, _, _, _, _, h2⟩ := (hK.2 5 (cy 5, .object "java/lang/String") rfl).2
  have e1 : cA = cy 5 := Option.some.inj (h1.symm.trans h2)
  subst e1
  exact kk q H1 hP1 hD1 hS1
theorem qset {n : Nat} {cA : ClassId} {f g : Nat → Option Nat} (hP : va_P D clsX ws H) (q0 : Nat) (he : ws[q0]? = some (a, .inl (cA, n, .inr (.inr (.inr (.inr f)))))) (h : ∀ i, i < n → f i = g i) : va_P D clsX (ws.set q0 (a, .inl (cA, n, .inr (.inr (.inr (.inr g)))))) H := by
  have hl : q0 < ws.length := (List.getElem?_eq_some_iff.mp he).1
  intro k q hk
  by_cases e : k = q0
  · subst e
    rw [List.getElem?_set_self hl] at hk
    cases hk
    have h0 : H[a]? = some (vp_cell cA (n, .inr (.inr (.inr (.inr f))))) := hP k _ he
    show H[a]? = some (vp_cell cA (n, .inr (.inr (.inr (.inr g)))))
    rw [h0, vp_cell_q, vp_cell_q]
    have e2 : (Array.ofFn (n := n) fun j => va_rf (f j.val)) = Array.ofFn (n := n) fun j => va_rf (g j.val) := by
      congr 1
      funext j
      rw [h j.val j.isLt]
    simp only [arrV, e2]
  · rw [List.getElem?_set_ne (fun z => e z.symm)] at hk
    exact hP k q hk
theorem astS {n i0 : Nat} {f : Nat → Option Nat} {i : Int32} (hx : p.tables.exec = Jvm.exec) (hb : c.code = cc) (hE : EnvX ev A s s.heap) (hK : va_K D clsX (tyA cy) s) (hP : va_P D clsX ws H) (hD : va_D A ws) (hS : va_S A s.heap H locs) (q0 : Nat) (he : ws[q0]? = some (a, .inl (cy 5, n, .inr (.inr (.inr (.inr f)))))) (hi0 : i0 < 50) (hin : vp_in i n) (hd : decode cc pc = .ok (.aastore, 1)) (kk : ∀ (H1 : Heap) (locs1 : List Loc), va_P D clsX (ws.set q0 (a, .inl (cy 5, n, .inr (.inr (.inr (.inr (va_up f i.toNatClampNeg (some (ev (2 * i0)))))))))) H1 → va_D A (ws.set q0 (a, .inl (cy 5, n, .inr (.inr (.inr (.inr (va_up f i.toNatClampNeg (some (ev (2 * i0)))))))))) → va_S A s.heap H1 locs1 → W p l e R s m args below meth c H1 locs1 cells slots Q (F0 m (pc + 1) ls rest)) : W p l e R s m args below meth c H locs cells slots Q (F0 m pc ls (.ref (ev (2 * i0)) :: .int i :: .ref a :: rest)) := by
  obtain ⟨cell, r1, r2, r3, -⟩ := va_O.kept (hE.1 i0 hi0).2.1 hS.2.1
  obtain ⟨kC, hkC, -⟩ := Vm.findClass_spec r3
  refine va_astqM hx hb hK hP hD hS q0 5 he rfl ⟨cell, r1, r2, ⟨kC, hkC⟩, fun comp hcomp => ?_⟩ hin hd kk
  rw [Option.some.inj (hcomp.symm.trans r3)]
  exact va_asg _ _
end NewC
