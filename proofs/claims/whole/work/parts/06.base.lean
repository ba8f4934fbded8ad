/-! numbers as the machine makes them -/
abbrev AR : Type := Nat → Int32
abbrev jrem (x y : Int32) : Int32 := x - x / y * y
abbrev jabs (x : Int32) : Int32 := if 0 ≤ x then x else 0 - x
abbrev jmin (x y : Int32) : Int32 := if y < x then y else x
abbrev jshl (x y : Int32) : Int32 := x <<< (y &&& 31)
abbrev jshr (x y : Int32) : Int32 := x >>> (y &&& 31)
abbrev jush (x y : Int32) : Int32 := (x.toUInt32 >>> (y.toUInt32 &&& Int32.toUInt32 31)).toInt32
abbrev jbyte (x : Int32) : Int32 := x.toInt8.toInt32
abbrev clsX : List vw_C := [(RX0, TX0, 7), (RX1, TX1, 5), (RX2, TX2, 3), (RX3, TX3, 5), (RX4, TX4, 16), (RX5, TX5, 6), (RX6, TX6, 6), (RX7, TX7, 7), (RX8, TX8, 10), (RX9, TX9, 4), (RX10, TX10, 18), (RX11, TX11, 56)]
abbrev tyA (cy : Nat → ClassId) : List (ClassId × FieldType) := [(cy 0, .int), (cy 1, .byte), (cy 2, .boolean), (cy 3, .long), (cy 4, .object "SaltBells$Folk"), (cy 5, .object "java/lang/String")]
/-! the constant Strings (class, entry, text, bytes), and what a method may take as given of the heap that nobody writes -/
def skTab : List (String × Nat × String × List Int32) := [("SaltBells", 157, "the tape has not so many bytes", [116, 104, 101, 32, 116, 97, 112, 101, 32, 104, 97, 115, 32, 110, 111, 116, 32, 115, 111, 32, 109, 97, 110, 121, 32, 98, 121, 116, 101, 115]), ("SaltBells$Teller", 45, "flat", [102, 108, 97, 116]), ("SaltBells$Teller", 59, "tower", [116, 111, 119, 101, 114]), ("SaltBells$Teller", 145, "strokes", [115, 116, 114, 111, 107, 101, 115]), ("SaltBells$Teller", 143, "false", [102, 97, 108, 115, 101]), ("SaltBells$Teller", 64, "wind", [119, 105, 110, 100]), ("SaltBells$Teller", 165, "north", [110, 111, 114, 116, 104]), ("SaltBells$Teller", 167, "east", [101, 97, 115, 116]), ("SaltBells$Teller", 169, "south", [115, 111, 117, 116, 104]), ("SaltBells$Teller", 171, "west", [119, 101, 115, 116]), ("SaltBells$Teller", 69, "night", [110, 105, 103, 104, 116]), ("SaltBells$Teller", 74, "mirage", [109, 105, 114, 97, 103, 101]), ("SaltBells$Teller", 86, "plain", [112, 108, 97, 105, 110]), ("SaltBells$Teller", 90, "stubborn", [115, 116, 117, 98, 98, 111, 114, 110]), ("SaltBells$Teller", 92, "fearful", [102, 101, 97, 114, 102, 117, 108]), ("SaltBells$Teller", 94, "child", [99, 104, 105, 108, 100]), ("SaltBells$Teller", 96, "camel", [99, 97, 109, 101, 108]), ("SaltBells$OrderBook", 44, "ring", [114, 105, 110, 103]), ("SaltBells$OrderBook", 53, "again", [97, 103, 97, 105, 110]), ("SaltBells", 217, "no such count", [110, 111, 32, 115, 117, 99, 104, 32, 99, 111, 117, 110, 116]), ("SaltBells", 241, "no such tower", [110, 111, 32, 115, 117, 99, 104, 32, 116, 111, 119, 101, 114]), ("SaltBells", 239, "a tower has no such thing", [97, 32, 116, 111, 119, 101, 114, 32, 104, 97, 115, 32, 110, 111, 32, 115, 117, 99, 104, 32, 116, 104, 105, 110, 103]), ("SaltBells", 243, "no such walker", [110, 111, 32, 115, 117, 99, 104, 32, 119, 97, 108, 107, 101, 114]), ("SaltBells", 265, "a walker has no such thing", [97, 32, 119, 97, 108, 107, 101, 114, 32, 104, 97, 115, 32, 110, 111, 32, 115, 117, 99, 104, 32, 116, 104, 105, 110, 103]), ("SaltBells", 249, "no such cell", [110, 111, 32, 115, 117, 99, 104, 32, 99, 101, 108, 108]), ("SaltBells", 285, "0 to 200 strokes", [48, 32, 116, 111, 32, 50, 48, 48, 32, 115, 116, 114, 111, 107, 101, 115]), ("SaltBells", 293, "no such stroke can be undone", [110, 111, 32, 115, 117, 99, 104, 32, 115, 116, 114, 111, 107, 101, 32, 99, 97, 110, 32, 98, 101, 32, 117, 110, 100, 111, 110, 101]), ("SaltBells", 302, "no such line", [110, 111, 32, 115, 117, 99, 104, 32, 108, 105, 110, 101]), ("SaltBells", 251, "there are parts 0 and 1 alone", [116, 104, 101, 114, 101, 32, 97, 114, 101, 32, 112, 97, 114, 116, 115, 32, 48, 32, 97, 110, 100, 32, 49, 32, 97, 108, 111, 110, 101]), ("SaltBells", 253, "1 to 4 strokes", [49, 32, 116, 111, 32, 52, 32, 115, 116, 114, 111, 107, 101, 115]), ("SaltBells", 337, "no such stroke is kept", [110, 111, 32, 115, 117, 99, 104, 32, 115, 116, 114, 111, 107, 101, 32, 105, 115, 32, 107, 101, 112, 116]), ("SaltBells", 349, "0 to 100 strokes", [48, 32, 116, 111, 32, 49, 48, 48, 32, 115, 116, 114, 111, 107, 101, 115]), ("SaltBellsModel", 9, "plain", [112, 108, 97, 105, 110]), ("SaltBellsModel", 11, "stubborn", [115, 116, 117, 98, 98, 111, 114, 110]), ("SaltBellsModel", 13, "fearful", [102, 101, 97, 114, 102, 117, 108]), ("SaltBellsModel", 15, "child", [99, 104, 105, 108, 100]), ("SaltBellsModel", 17, "camel", [99, 97, 109, 101, 108]), ("SaltBellsModel", 25, "north", [110, 111, 114, 116, 104]), ("SaltBellsModel", 27, "east", [101, 97, 115, 116]), ("SaltBellsModel", 29, "south", [115, 111, 117, 116, 104]), ("SaltBellsModel", 31, "west", [119, 101, 115, 116]), ("SaltBellsModel", 228, "flat", [102, 108, 97, 116]), ("SaltBellsModel", 230, "wind", [119, 105, 110, 100]), ("SaltBellsModel", 232, "night", [110, 105, 103, 104, 116]), ("SaltBellsModel", 237, "tower", [116, 111, 119, 101, 114]), ("SaltBellsModel", 214, "strokes", [115, 116, 114, 111, 107, 101, 115]), ("SaltBellsModel", 219, "false", [102, 97, 108, 115, 101]), ("SaltBellsModel", 242, "mirage", [109, 105, 114, 97, 103, 101]), ("SaltBellsModel", 351, "ring", [114, 105, 110, 103]), ("SaltBellsModel", 353, "again", [97, 103, 97, 105, 110])]
def skD : String × Nat × String × List Int32 := ("", 0, "", [])
def skO (i : Nat) : String := (skTab.getD i skD).1
def skK (i : Nat) : Nat := (skTab.getD i skD).2.1
def skT (i : Nat) : String := (skTab.getD i skD).2.2.1
def skB (i : Nat) : List Int32 := (skTab.getD i skD).2.2.2
def EnvS (ev : Nat → Nat) (A : Nat → Prop) (U : State) (H : Heap) : Prop := ∀ i, i < 50 → vk_R (skO i) (skK i) (skT i) (ev (2 * i)) U ∧ va_O "java/lang/String" (ev (2 * i)) A U H ∧ va_OF "java/lang/String" "coder" "B" (.int 0) (ev (2 * i)) A U H ∧ va_OF "java/lang/String" "value" "[B" (.ref (ev (2 * i + 1))) (ev (2 * i)) A U H ∧ va_T .byte (ev (2 * i + 1)) (skB i).length (fun j => .int ((skB i).getD j 0)) A U H
def EnvX (ev : Nat → Nat) (A : Nat → Prop) (U : State) (H : Heap) : Prop := EnvS ev A U H ∧ va_Z "java/lang/String" "COMPACT_STRINGS" "Z" (.int 1) A U H ∧ vx_Zq Bundle.tN "UNASSIGNED_STACK" Bundle.steD A U H ∧ vx_Zq Bundle.tN "SUPPRESSED_SENTINEL" Bundle.listD A U H ∧ va_Zq "jdk/internal/util/Preconditions" "SIOOBE_FORMATTER" "Ljava/util/function/BiFunction;" A U H ∧ va_AO "SaltBells$Folk" U ∧ va_AO "java/lang/String" U
theorem EnvX.warm {ev : Nat → Nat} {A : Nat → Prop} {u U : State} {H : Heap} (hW : u.WarmedH U.vm) (h : EnvX ev A u H) : EnvX ev A U H :=
  ⟨fun i hi => ⟨vk_R.warm hW (h.1 i hi).1, va_O.moved hW.alike (h.1 i hi).2.1, va_OF.moved hW.alike (h.1 i hi).2.2.1, va_OF.moved hW.alike (h.1 i hi).2.2.2.1, va_T.moved hW.alike (h.1 i hi).2.2.2.2⟩, va_Z.moved hW.alike h.2.1, vx_Zq.moved hW.alike h.2.2.1, vx_Zq.moved hW.alike h.2.2.2.1, va_Zq.moved hW.alike h.2.2.2.2.1, va_AO.moved hW.alike h.2.2.2.2.2.1, va_AO.moved hW.alike h.2.2.2.2.2.2⟩
theorem EnvX.kept {ev : Nat → Nat} {A : Nat → Prop} {U : State} {H H1 : Heap} (h : EnvX ev A U H) (hq : ∀ a : Nat, a < H.size → ¬ A a → H1[a]? = H[a]?) : EnvX ev A U H1 :=
  ⟨fun i hi => ⟨(h.1 i hi).1, (h.1 i hi).2.1.kept hq, (h.1 i hi).2.2.1.kept hq, (h.1 i hi).2.2.2.1.kept hq, (h.1 i hi).2.2.2.2.kept hq⟩, h.2.1.kept hq, h.2.2.1.kept hq, h.2.2.2.1.kept hq, h.2.2.2.2.1.kept hq, h.2.2.2.2.2⟩
theorem EnvX.narrow {ev : Nat → Nat} {A B : Nat → Prop} {U : State} {H : Heap} (h : EnvX ev A U H) (hAB : ∀ q, B q → A q) : EnvX ev B U H :=
  ⟨fun i hi => ⟨(h.1 i hi).1, (h.1 i hi).2.1.narrow hAB, (h.1 i hi).2.2.1.narrow hAB, (h.1 i hi).2.2.2.1.narrow hAB, (h.1 i hi).2.2.2.2.narrow hAB⟩, h.2.1.narrow hAB, h.2.2.1.narrow hAB, h.2.2.2.1.narrow hAB, h.2.2.2.2.1.narrow hAB, h.2.2.2.2.2⟩
theorem EnvX.call {ev : Nat → Nat} {A B : Nat → Prop} {s U : State} {H : Heap} {locs : List Loc} (h : EnvX ev A s s.heap) (hS : va_S A s.heap H locs) (hAB : ∀ q, B q → A q) (hU : U.heap = H) (hW : s.WarmedH U.vm) : EnvX ev B U U.heap := by
  rw [hU]
  exact ((h.kept hS.2.1).narrow hAB).warm hW
/-! contracts in one form -/
abbrev PreX (D : va_G) (cy : Nat → ClassId) (ev : Nat → Nat) (W0 : va_W) (sz : Nat) : State → Prop := fun U => U.heap.size = sz ∧ va_P D clsX W0 U.heap ∧ va_K D clsX (tyA cy) U ∧ va_D (fun _ => True) W0 ∧ EnvX ev (va_A W0 sz) U U.heap
abbrev BkX (D : va_G) (cy : Nat → ClassId) (W0 : va_W) (sz : Nat) (W1 : va_W) (t : State) : Prop := va_P D clsX W1 t.heap ∧ va_K D clsX (tyA cy) t ∧ va_D (va_A W0 sz) W1
theorem blindX {D : va_G} {cy : Nat → ClassId} {ev : Nat → Nat} {W0 : va_W} {sz : Nat} {av : List Value} : FrameBlind (va_Pc av (PreX D cy ev W0 sz)) := fun a U g mk q => by
  obtain ⟨q0, q1, qP, qK, qD, qE⟩ := q
  exact ⟨q0, q1, qP, va_K.moved (u := U) (U := U.calling g mk a) (Vm.Alike.refl U.vm) qK, qD, EnvX.warm (u := U) (U := U.calling g mk a) (State.WarmedH.refl U) qE⟩
section Bodies
variable {l : Launch} {D : va_G} {cy : Nat → ClassId} {ev : Nat → Nat} {y : MethodName} {rm : Room} {cc : ByteArray} {maxL : Nat} {av : List Value} {W0 : va_W} {sz : Nat} {S : Type} {W1 : S → va_W}
theorem ofWi {ret : FieldType} {post : Int32 → S → Prop} (hy : plainName y.cls = true) (hlen : (lg_sl av).length ≤ maxL)
    (body : ∀ (p : Program) (e : Env) (s : State) (m : MethodId) (args : Array Value) (below : List Frame) (meth : Method) (c : Code) (ls : Array Slot) (A : Nat → Prop) (R : Room) (QQ : State → Prop),
      p.tables.exec = Jvm.exec → c.code = cc → c.maxLocals = maxL → s.vm.findClass y.cls = some m.cls → (∀ w ∈ Cond.code y cc maxL (some ret) :: TB, w.before args s = true) →
      R = rm → meth.locks = false → EnvX ev A s s.heap → va_K D clsX (tyA cy) s → va_P D clsX W0 s.heap → va_D A W0 → va_S A s.heap s.heap [] → (∀ q, s.heap.size ≤ q → A q) → lv_has ls maxL (lv_args 0 av) →
      (∀ (r : Int32) (u : S) (H : Heap) (locs : List Loc) (ls : Array Slot) (pc : Nat), narrow ret (.int r) = .int r → decode cc pc = .ok (.ireturn, 1) → post r u → va_P D clsX (W1 u) H → va_D A (W1 u) → va_S A s.heap H locs → W p l e R s m args below meth c H locs 0 0 QQ (F0 m pc ls [.int r])) →
      W p l e R s m args below meth c s.heap [] 0 0 QQ (F0 m 0 ls [])) :
    Met l y (Cond.code y cc maxL (some ret) :: TB) rm (va_Pc av (PreX D cy ev W0 sz)) (va_Qi post (fun u => BkX D cy W0 sz (W1 u)) (va_A W0 sz)) 0 0 (va_A W0 sz) := by
  refine Met.ofW (cc := cc) (maxL := maxL) (ret := some ret) hy rfl ?_
  intro p e s m args below meth c s₁ B hml hv
  obtain ⟨rfl, hsz, hP, hK, hD0, hE⟩ := hv
  have hx := B.exec
  have hb := B.bytes
  have hr := B.returns
  have hts := atoms_spec (ws := Cond.code y cc maxL (some ret) :: TB) B.pre
  have hown : s.vm.findClass y.cls = some m.cls := findClass_of_methodNamed B.named
  have hlocks := B.notSynchronized
  subst hsz
  have hD := hD0.self (sz := s.heap.size)
  have hl := lv_entry av (n := maxL) hlen
  rw [lg_entry_eq]
  refine body p e s m _ below meth c _ (va_A W0 s.heap.size) _ _ hx hb hml hown hts rfl hlocks hE hK hP hD va_S.rf (fun q h => Or.inr h) hl ?_
  intro r u H locs ls pc hn hd hp hP1 hD1 hS
  exact W.zret (v := r) hx hb hr hn (fun t ht hW => ⟨⟨r, u, rfl, hp, by rw [ht]; exact hP1, va_K.moved hW.alike hK, hD1⟩, hS.F ht⟩) hS.2.2 hd
theorem ofWv {post : S → Prop} (hy : plainName y.cls = true) (hlen : (lg_sl av).length ≤ maxL)
    (body : ∀ (p : Program) (e : Env) (s : State) (m : MethodId) (args : Array Value) (below : List Frame) (meth : Method) (c : Code) (ls : Array Slot) (A : Nat → Prop) (R : Room) (QQ : State → Prop),
      p.tables.exec = Jvm.exec → c.code = cc → c.maxLocals = maxL → s.vm.findClass y.cls = some m.cls → (∀ w ∈ Cond.code y cc maxL none :: TB, w.before args s = true) →
      R = rm → meth.locks = false → EnvX ev A s s.heap → va_K D clsX (tyA cy) s → va_P D clsX W0 s.heap → va_D A W0 → va_S A s.heap s.heap [] → (∀ q, s.heap.size ≤ q → A q) → lv_has ls maxL (lv_args 0 av) →
      (∀ (u : S) (H : Heap) (locs : List Loc) (ls : Array Slot) (pc : Nat), decode cc pc = .ok (.return_, 1) → post u → va_P D clsX (W1 u) H → va_D A (W1 u) → va_S A s.heap H locs → W p l e R s m args below meth c H locs 0 0 QQ (F0 m pc ls [])) →
      W p l e R s m args below meth c s.heap [] 0 0 QQ (F0 m 0 ls [])) :
    Met l y (Cond.code y cc maxL none :: TB) rm (va_Pc av (PreX D cy ev W0 sz)) (va_Qv post (fun u => BkX D cy W0 sz (W1 u)) (va_A W0 sz)) 0 0 (va_A W0 sz) := by
  refine Met.ofW (cc := cc) (maxL := maxL) (ret := none) hy rfl ?_
  intro p e s m args below meth c s₁ B hml hv
  obtain ⟨rfl, hsz, hP, hK, hD0, hE⟩ := hv
  have hx := B.exec
  have hb := B.bytes
  have hr := B.returns
  have hts := atoms_spec (ws := Cond.code y cc maxL none :: TB) B.pre
  have hown : s.vm.findClass y.cls = some m.cls := findClass_of_methodNamed B.named
  have hlocks := B.notSynchronized
  subst hsz
  have hD := hD0.self (sz := s.heap.size)
  have hl := lv_entry av (n := maxL) hlen
  rw [lg_entry_eq]
  refine body p e s m _ below meth c _ (va_A W0 s.heap.size) _ _ hx hb hml hown hts rfl hlocks hE hK hP hD va_S.rf (fun q h => Or.inr h) hl ?_
  intro u H locs ls pc hd hp hP1 hD1 hS
  exact W.vret hx hb hr (fun t ht hW => ⟨⟨u, rfl, hp, by rw [ht]; exact hP1, va_K.moved hW.alike hK, hD1⟩, hS.F ht⟩) hS.2.2 hd
end Bodies
section CallsX
variable {p : Program} {l : Launch} {e : Env} {R : Room} {s : State} {m : MethodId} {args : Array Value} {below : List Frame} {meth : Method} {c : Code} {H : Heap} {locs : List Loc} {cells slots : Nat} {Q : State → Prop}
variable {D : va_G} {cy : Nat → ClassId} {ev : Nat → Nat} {A : Nat → Prop} {y : MethodName} {bytes cc : ByteArray} {maxL nL n index pc : Nat} {ret : Option FieldType} {rm : Room} {c0 c1 : Cond} {own C : String} {b ci : Nat} {As rest st0 : List Value} {ls : Array Slot} {S : Type} {ws Wc Wr : va_W} {W1 : S → va_W} {fs : List Value} {cq : vw_C}
/-- an instance method that makes nothing, with a number for an answer: its cells cut out, and put back -/
theorem clVi {post : Int32 → S → Prop} (F : CallFix p m c cc nL s args (c0 :: TB) own) (cw : CallW R s args own cq.1 index y bytes maxL ret (c1 :: TB) rm 0 0 n)
    (hM : Met l y (c1 :: TB) rm (va_Pc (.ref b :: As) (PreX D cy ev Wc H.size)) (va_Qi post (fun u => BkX D cy Wc H.size (W1 u)) (va_A Wc H.size)) 0 0 (va_A Wc H.size))
    (hE : EnvX ev A s s.heap) (hK : va_K D clsX (tyA cy) s) (hP : va_P D clsX ws H) (hD : va_D A ws) (hS : va_S A s.heap H locs) (hA : ∀ q, s.heap.size ≤ q → A q)
    (isC isR : List Nat) (hC : isC.map (fun i => ws[i]?) = Wc.map some) (hR : isR.map (fun i => ws[i]?) = Wr.map some) (hnC : va_nd isC = true) (hnR : va_nd isR = true) (hdis : ∀ i ∈ isR, i ∉ isC)
    (q0 : Nat) (hq : Wc[q0]? = some (b, .inr (ci, fs))) (hcq : clsX[ci]? = some cq) (hn : As.length = n) (hsize : ls.size = nL) (hst : st0 = As.reverse ++ .ref b :: rest) (hroom : (rest.map fun v => v.category).sum ≤ 8)
    (hf : cells ≤ R.cells ∧ slots ≤ R.slots) (hdg : decode cc pc = .ok (.invokevirtual index, 3))
    (kk : ∀ (r : Int32) (u : S) (H1 : Heap) (locs1 : List Loc), post r u → va_P D clsX (Wr ++ W1 u) H1 → va_D A (Wr ++ W1 u) → va_S A s.heap H1 locs1 → W p l e R s m args below meth c H1 locs1 cells slots Q (F0 m (pc + 3) ls (.int r :: rest))) :
    W p l e R s m args below meth c H locs cells slots Q (F0 m pc ls st0) := by
  have hDc : va_D A Wc := hD.sub isC hnC hC
  have hPc : va_P D clsX Wc H := by
    refine hP.sub isC ?_
    have h1 : isC.filterMap (fun i => ws[i]?) = (isC.map (fun i => ws[i]?)).filterMap id := by rw [List.filterMap_map]; rfl
    rw [h1, hC, List.filterMap_map]
    exact List.filterMap_some
  have hFc := va_free (wc := Wc) hD hS hA isC hC
  subst hst
  refine va_calli (va_runV (As := As) (rest := rest) (b := b) F hM cw ⟨blindX, va_recv hK hPc hcq hq, fun U hU hW => ⟨rfl, by rw [hU], by rw [hU]; exact hPc, va_K.moved hW.alike hK, hDc.weaken (fun _ _ _ _ => trivial), hE.call hS hFc hU hW⟩⟩ rfl hn hsize rfl (lv_room hroom) hdg hf) hS (fun q _ h => hFc q h) hFc (fun r u t H1 locs1 ht hvm hw hB hz1 hk1 hS1 => ?_)
  obtain ⟨hP1, hK1, hD1⟩ := hB
  rw [ht] at hP1
  obtain ⟨hP2, hD2⟩ := va_join (wr := Wr) (w1 := W1 u) hP hD isC isR hC hR hnR hdis hk1 hFc hP1 hD1
  exact kk r u H1 locs1 hw hP2 hD2 hS1
/-- the same, the receiver by hand -/
theorem clVr {post : Int32 → S → Prop} (F : CallFix p m c cc nL s args (c0 :: TB) own) (cw : CallW R s args own C index y bytes maxL ret (c1 :: TB) rm 0 0 n)
    (hM : Met l y (c1 :: TB) rm (va_Pc (.ref b :: As) (PreX D cy ev Wc H.size)) (va_Qi post (fun u => BkX D cy Wc H.size (W1 u)) (va_A Wc H.size)) 0 0 (va_A Wc H.size))
    (hE : EnvX ev A s s.heap) (hK : va_K D clsX (tyA cy) s) (hP : va_P D clsX ws H) (hD : va_D A ws) (hS : va_S A s.heap H locs) (hA : ∀ q, s.heap.size ≤ q → A q)
    (isC isR : List Nat) (hC : isC.map (fun i => ws[i]?) = Wc.map some) (hR : isR.map (fun i => ws[i]?) = Wr.map some) (hnC : va_nd isC = true) (hnR : va_nd isR = true) (hdis : ∀ i ∈ isR, i ∉ isC)
    (hrecv : ∃ cell : Cell, H[b]? = some cell ∧ cell.vm.isStatics = false ∧ s.vm.findClass C = some cell.cls) (hn : As.length = n) (hsize : ls.size = nL) (hst : st0 = As.reverse ++ .ref b :: rest) (hroom : (rest.map fun v => v.category).sum ≤ 8)
    (hf : cells ≤ R.cells ∧ slots ≤ R.slots) (hdg : decode cc pc = .ok (.invokevirtual index, 3))
    (kk : ∀ (r : Int32) (u : S) (H1 : Heap) (locs1 : List Loc), post r u → va_P D clsX (Wr ++ W1 u) H1 → va_D A (Wr ++ W1 u) → va_S A s.heap H1 locs1 → W p l e R s m args below meth c H1 locs1 cells slots Q (F0 m (pc + 3) ls (.int r :: rest))) :
    W p l e R s m args below meth c H locs cells slots Q (F0 m pc ls st0) := by
  have hDc : va_D A Wc := hD.sub isC hnC hC
  have hPc : va_P D clsX Wc H := by
    refine hP.sub isC ?_
    have h1 : isC.filterMap (fun i => ws[i]?) = (isC.map (fun i => ws[i]?)).filterMap id := by rw [List.filterMap_map]; rfl
    rw [h1, hC, List.filterMap_map]
    exact List.filterMap_some
  have hFc := va_free (wc := Wc) hD hS hA isC hC
  subst hst
  refine va_calli (va_runV (As := As) (rest := rest) (b := b) F hM cw ⟨blindX, hrecv, fun U hU hW => ⟨rfl, by rw [hU], by rw [hU]; exact hPc, va_K.moved hW.alike hK, hDc.weaken (fun _ _ _ _ => trivial), hE.call hS hFc hU hW⟩⟩ rfl hn hsize rfl (lv_room hroom) hdg hf) hS (fun q _ h => hFc q h) hFc (fun r u t H1 locs1 ht hvm hw hB hz1 hk1 hS1 => ?_)
  obtain ⟨hP1, hK1, hD1⟩ := hB
  rw [ht] at hP1
  obtain ⟨hP2, hD2⟩ := va_join (wr := Wr) (w1 := W1 u) hP hD isC isR hC hR hnR hdis hk1 hFc hP1 hD1
  exact kk r u H1 locs1 hw hP2 hD2 hS1
/-- the same, void -/
theorem clVv {post : S → Prop} (F : CallFix p m c cc nL s args (c0 :: TB) own) (cw : CallW R s args own cq.1 index y bytes maxL ret (c1 :: TB) rm 0 0 n)
    (hM : Met l y (c1 :: TB) rm (va_Pc (.ref b :: As) (PreX D cy ev Wc H.size)) (va_Qv post (fun u => BkX D cy Wc H.size (W1 u)) (va_A Wc H.size)) 0 0 (va_A Wc H.size))
    (hE : EnvX ev A s s.heap) (hK : va_K D clsX (tyA cy) s) (hP : va_P D clsX ws H) (hD : va_D A ws) (hS : va_S A s.heap H locs) (hA : ∀ q, s.heap.size ≤ q → A q)
    (isC isR : List Nat) (hC : isC.map (fun i => ws[i]?) = Wc.map some) (hR : isR.map (fun i => ws[i]?) = Wr.map some) (hnC : va_nd isC = true) (hnR : va_nd isR = true) (hdis : ∀ i ∈ isR, i ∉ isC)
    (q0 : Nat) (hq : Wc[q0]? = some (b, .inr (ci, fs))) (hcq : clsX[ci]? = some cq) (hn : As.length = n) (hsize : ls.size = nL) (hst : st0 = As.reverse ++ .ref b :: rest) (hroom : (rest.map fun v => v.category).sum ≤ 8)
    (hf : cells ≤ R.cells ∧ slots ≤ R.slots) (hdg : decode cc pc = .ok (.invokevirtual index, 3))
    (kk : ∀ (u : S) (H1 : Heap) (locs1 : List Loc), post u → va_P D clsX (Wr ++ W1 u) H1 → va_D A (Wr ++ W1 u) → va_S A s.heap H1 locs1 → W p l e R s m args below meth c H1 locs1 cells slots Q (F0 m (pc + 3) ls rest)) :
    W p l e R s m args below meth c H locs cells slots Q (F0 m pc ls st0) := by
  have hDc : va_D A Wc := hD.sub isC hnC hC
  have hPc : va_P D clsX Wc H := by
    refine hP.sub isC ?_
    have h1 : isC.filterMap (fun i => ws[i]?) = (isC.map (fun i => ws[i]?)).filterMap id := by rw [List.filterMap_map]; rfl
    rw [h1, hC, List.filterMap_map]
    exact List.filterMap_some
  have hFc := va_free (wc := Wc) hD hS hA isC hC
  subst hst
  refine va_callv (va_runV (As := As) (rest := rest) (b := b) F hM cw ⟨blindX, va_recv hK hPc hcq hq, fun U hU hW => ⟨rfl, by rw [hU], by rw [hU]; exact hPc, va_K.moved hW.alike hK, hDc.weaken (fun _ _ _ _ => trivial), hE.call hS hFc hU hW⟩⟩ rfl hn hsize rfl (lv_room hroom) hdg hf) hS (fun q _ h => hFc q h) hFc (fun u t H1 locs1 ht hvm hw hB hz1 hk1 hS1 => ?_)
  obtain ⟨hP1, hK1, hD1⟩ := hB
  rw [ht] at hP1
  obtain ⟨hP2, hD2⟩ := va_join (wr := Wr) (w1 := W1 u) hP hD isC isR hC hR hnR hdis hk1 hFc hP1 hD1
  exact kk u H1 locs1 hw hP2 hD2 hS1
/-- a static method that makes nothing -/
theorem clSi {post : Int32 → S → Prop} (F : CallFix p m c cc nL s args (c0 :: TB) own) (cw : CallB R s args own index y bytes maxL ret (c1 :: TB) rm 0 0 n ∧ (Cond.static y).before args s = true)
    (hM : Met l y (c1 :: TB) rm (va_Pc As (PreX D cy ev Wc H.size)) (va_Qi post (fun u => BkX D cy Wc H.size (W1 u)) (va_A Wc H.size)) 0 0 (va_A Wc H.size))
    (hE : EnvX ev A s s.heap) (hK : va_K D clsX (tyA cy) s) (hP : va_P D clsX ws H) (hD : va_D A ws) (hS : va_S A s.heap H locs) (hA : ∀ q, s.heap.size ≤ q → A q)
    (isC isR : List Nat) (hC : isC.map (fun i => ws[i]?) = Wc.map some) (hR : isR.map (fun i => ws[i]?) = Wr.map some) (hnC : va_nd isC = true) (hnR : va_nd isR = true) (hdis : ∀ i ∈ isR, i ∉ isC)
    (hn : As.length = n) (hsize : ls.size = nL) (hst : st0 = As.reverse ++ rest) (hroom : (rest.map fun v => v.category).sum ≤ 8)
    (hf : cells ≤ R.cells ∧ slots ≤ R.slots) (hdg : decode cc pc = .ok (.invokestatic index, 3))
    (kk : ∀ (r : Int32) (u : S) (H1 : Heap) (locs1 : List Loc), post r u → va_P D clsX (Wr ++ W1 u) H1 → va_D A (Wr ++ W1 u) → va_S A s.heap H1 locs1 → W p l e R s m args below meth c H1 locs1 cells slots Q (F0 m (pc + 3) ls (.int r :: rest))) :
    W p l e R s m args below meth c H locs cells slots Q (F0 m pc ls st0) := by
  have hDc : va_D A Wc := hD.sub isC hnC hC
  have hPc : va_P D clsX Wc H := by
    refine hP.sub isC ?_
    have h1 : isC.filterMap (fun i => ws[i]?) = (isC.map (fun i => ws[i]?)).filterMap id := by rw [List.filterMap_map]; rfl
    rw [h1, hC, List.filterMap_map]
    exact List.filterMap_some
  have hFc := va_free (wc := Wc) hD hS hA isC hC
  subst hst
  refine va_calli (va_runS (As := As) (rest := rest) F hM cw ⟨blindX, fun U hU hW => ⟨rfl, by rw [hU], by rw [hU]; exact hPc, va_K.moved hW.alike hK, hDc.weaken (fun _ _ _ _ => trivial), hE.call hS hFc hU hW⟩⟩ rfl hn hsize rfl (lv_room hroom) hdg hf) hS (fun q _ h => hFc q h) hFc (fun r u t H1 locs1 ht hvm hw hB hz1 hk1 hS1 => ?_)
  obtain ⟨hP1, hK1, hD1⟩ := hB
  rw [ht] at hP1
  obtain ⟨hP2, hD2⟩ := va_join (wr := Wr) (w1 := W1 u) hP hD isC isR hC hR hnR hdis hk1 hFc hP1 hD1
  exact kk r u H1 locs1 hw hP2 hD2 hS1
theorem clSv {post : S → Prop} (F : CallFix p m c cc nL s args (c0 :: TB) own) (cw : CallB R s args own index y bytes maxL ret (c1 :: TB) rm 0 0 n ∧ (Cond.static y).before args s = true)
    (hM : Met l y (c1 :: TB) rm (va_Pc As (PreX D cy ev Wc H.size)) (va_Qv post (fun u => BkX D cy Wc H.size (W1 u)) (va_A Wc H.size)) 0 0 (va_A Wc H.size))
    (hE : EnvX ev A s s.heap) (hK : va_K D clsX (tyA cy) s) (hP : va_P D clsX ws H) (hD : va_D A ws) (hS : va_S A s.heap H locs) (hA : ∀ q, s.heap.size ≤ q → A q)
    (isC isR : List Nat) (hC : isC.map (fun i => ws[i]?) = Wc.map some) (hR : isR.map (fun i => ws[i]?) = Wr.map some) (hnC : va_nd isC = true) (hnR : va_nd isR = true) (hdis : ∀ i ∈ isR, i ∉ isC)
    (hn : As.length = n) (hsize : ls.size = nL) (hst : st0 = As.reverse ++ rest) (hroom : (rest.map fun v => v.category).sum ≤ 8)
    (hf : cells ≤ R.cells ∧ slots ≤ R.slots) (hdg : decode cc pc = .ok (.invokestatic index, 3))
    (kk : ∀ (u : S) (H1 : Heap) (locs1 : List Loc), post u → va_P D clsX (Wr ++ W1 u) H1 → va_D A (Wr ++ W1 u) → va_S A s.heap H1 locs1 → W p l e R s m args below meth c H1 locs1 cells slots Q (F0 m (pc + 3) ls rest)) :
    W p l e R s m args below meth c H locs cells slots Q (F0 m pc ls st0) := by
  have hDc : va_D A Wc := hD.sub isC hnC hC
  have hPc : va_P D clsX Wc H := by
    refine hP.sub isC ?_
    have h1 : isC.filterMap (fun i => ws[i]?) = (isC.map (fun i => ws[i]?)).filterMap id := by rw [List.filterMap_map]; rfl
    rw [h1, hC, List.filterMap_map]
    exact List.filterMap_some
  have hFc := va_free (wc := Wc) hD hS hA isC hC
  subst hst
  refine va_callv (va_runS (As := As) (rest := rest) F hM cw ⟨blindX, fun U hU hW => ⟨rfl, by rw [hU], by rw [hU]; exact hPc, va_K.moved hW.alike hK, hDc.weaken (fun _ _ _ _ => trivial), hE.call hS hFc hU hW⟩⟩ rfl hn hsize rfl (lv_room hroom) hdg hf) hS (fun q _ h => hFc q h) hFc (fun u t H1 locs1 ht hvm hw hB hz1 hk1 hS1 => ?_)
  obtain ⟨hP1, hK1, hD1⟩ := hB
  rw [ht] at hP1
  obtain ⟨hP2, hD2⟩ := va_join (wr := Wr) (w1 := W1 u) hP hD isC isR hC hR hnR hdis hk1 hFc hP1 hD1
  exact kk u H1 locs1 hw hP2 hD2 hS1
end CallsX
