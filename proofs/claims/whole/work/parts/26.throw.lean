/-! 'throw new E("text")' in the outer class, E one of two; and contracts of methods that return or throw, in one form -/
def exN : String := "java/util/NoSuchElementException"
def exI : String := "java/lang/IllegalArgumentException"
def sbN : List Cond := sbAtoms RX10 219 exN "java/lang/RuntimeException" ["java/lang/Exception"] 13 prog_29_method_4_code
def sbI : List Cond := sbAtoms RX10 159 exI "java/lang/RuntimeException" ["java/lang/Exception"] 7 prog_18_method_2_code
theorem sbN_in : ∀ w ∈ (sbN.filter vx_no).filter goodWord, w ∈ lw_tbl := by decide +kernel
theorem sbI_in : ∀ w ∈ (sbI.filter vx_no).filter goodWord, w ∈ lw_tbl := by decide +kernel
/-- the words of a throw that the tables decide but that no list of good words may hold -/
def exB : List Cond := [.declares (Bundle.initS "java/lang/RuntimeException"), .declares (Bundle.initS "java/lang/Exception"), .declares (Bundle.initS "java/lang/Throwable"), .castable exN exN, .castable exI exI]
theorem sbN_bad : ∀ w ∈ (sbN.filter vx_no).filter (fun w => !goodWord w), w ∈ exB := by decide +kernel
theorem sbI_bad : ∀ w ∈ (sbI.filter vx_no).filter (fun w => !goodWord w), w ∈ exB := by decide +kernel
theorem exB_in : ∀ w ∈ exB, w ∈ lw_tbl := by decide +kernel
theorem exB_on : ∀ w ∈ exB, w.onTables = true := by decide +kernel
def EnvT (U : State) : Prop := ∀ w ∈ exB, va_Nw w U
theorem EnvT.warm {s U : State} (hW : s.WarmedH U.vm) (h : EnvT s) : EnvT U := by
  intro w hw
  have h0 := h w hw
  simp only [exB, List.mem_cons, List.not_mem_nil, or_false] at hw
  rcases hw with rfl | rfl | rfl | rfl | rfl
  · exact va_Nw.warmD hW h0
  · exact va_Nw.warmD hW h0
  · exact va_Nw.warmD hW h0
  · exact va_Nw.warmC hW h0
  · exact va_Nw.warmC hW h0
theorem sb_words {args : Array Value} {s : State} {c0 : Cond} {L : List Cond} (hin : ∀ w ∈ (L.filter vx_no).filter goodWord, w ∈ lw_tbl) (hbad : ∀ w ∈ (L.filter vx_no).filter (fun w => !goodWord w), w ∈ exB) (hts : ∀ w ∈ c0 :: TB, w.before args s = true) (hT : EnvT s) : ∀ w ∈ L.filter vx_no, w.before args s = true :=
  vx_hat (fun w hw => hts w (tb (List.mem_filter.mpr ⟨hin w hw, (List.mem_filter.mp hw).2⟩))) hbad (fun w hw => va_Nw.use (exB_on w hw) (hT w hw))
theorem sb_ot {L : List Cond} (hbad : ∀ w ∈ (L.filter vx_no).filter (fun w => !goodWord w), w ∈ exB) : ∀ w ∈ L.filter vx_no, vx_ot w = true := by
  intro w hw
  by_cases g : goodWord w = true
  · simp [vx_ot, g]
  · have h1 : w ∈ (L.filter vx_no).filter (fun w => !goodWord w) := List.mem_filter.mpr ⟨hw, by simp [g]⟩
    simp [vx_ot, exB_on w (hbad w h1)]
section ThrowX
variable {p : Program} {l : Launch} {e : Env} {R : Room} {s : State} {m : MethodId} {args : Array Value} {below : List Frame} {meth : Method} {c : Code} {H : Heap} {locs : List Loc} {cells slots : Nat} {Q : State → Prop}
variable {mc ms : Nat} {free : Addr → Prop} {ls : Array Slot} {rest : List Value} {Qc : Array Value → State → Outcome → State → Prop} {XC : String → State → State → Prop}

set_option maxHeartbeats 4000000 in
theorem sb_throw {cc : ByteArray} {pc : Nat} (hexec : p.tables.exec = Jvm.exec) (hb : c.code = cc) (hl : l.stackTraces = false) {own cls Y1 text : String} {names : List String} {ix : Nat} {bytes : ByteArray} (b0 : decode bytes 0 = .ok (.aload_n 0, 1)) (b1 : decode bytes 1 = .ok (.aload_n 1, 1)) (b2 : decode bytes 2 = .ok (.invokespecial ix, 3)) (b5 : decode bytes 5 = .ok (.return_, 1)) (hY1 : Bundle.fit Y1 = true) {ik is ic mc ms sa : Nat} {A : Nat → Prop}
    (hown : s.vm.findClass own = some m.cls) (hcls : Bundle.fit cls = true) (hnames : ∀ n ∈ names, Bundle.fit n = true)
    (hk : (Cond.classLink own ik cls).before args s = true) (hini : (Cond.initialized cls).before args s = true) (hstr : vk_R own is text sa s) (hat : ∀ w ∈ (sbAtoms own ic cls Y1 names ix bytes).filter vx_no, w.before args s = true)
    (hgood : ∀ w ∈ Cond.classLink own ik cls :: Cond.initialized cls :: (sbAtoms own ic cls Y1 names ix bytes).filter vx_no, vx_ot w = true)
    (hU : vx_Zq Bundle.tN "UNASSIGNED_STACK" Bundle.steD A s s.heap) (hN : vx_Zq Bundle.tN "SUPPRESSED_SENTINEL" Bundle.listD A s s.heap) (hS : va_S A s.heap H locs) (hsize : ls.size = c.maxLocals)
    (d0 : decode cc pc = .ok (.new ik, 3)) (d3 : decode cc (pc + 3) = .ok (.dup, 1)) (d4 : decode cc (pc + 4) = .ok (.ldc is, 2)) (d6 : decode cc (pc + 6) = .ok (.invokespecial ic, 3)) (d9 : decode cc (pc + 9) = .ok (.athrow, 1))
    (hout : ∀ x ∈ c.exceptionTable.toList, covers x (pc + 9) = false)
    (hRframes : names.length + 4 < R.frames) (hRlocals : (rest.map fun v => v.category).sum + (13 * (names.length + 2) + 43) ≤ R.locals) (hRcells : cells + 1 ≤ R.cells) (hRslots : slots + 6 ≤ R.slots) (hlocks : meth.locks = false)
    (hx : ∀ t : State, s.vm.Alike t.vm → H.size ≤ t.heap.size → (∀ q : Nat, q < H.size → t.heap[q]? = H[q]?) → XC cls s t)
    (hf : ∀ z ∈ locs, free z.base) (hc : cells + 1 ≤ mc) (hs : slots + 6 ≤ ms) :
    W p l e R s m args below meth c H locs cells slots (vx_MQ below Qc XC args s mc ms free) (F0 m pc ls rest) := by
  intro T hT X
  have htr : e.platform.stackTraces = false := (show e.platform.stackTraces = l.stackTraces by rw [X.admits.platform]).trans hl
  have Y := vx_rebase X (R' := { frames := R.frames, locals := R.locals, cells := 1, slots := 6 }) (Nat.le_refl _) (Nat.le_refl _) hRcells hRslots
  obtain ⟨s', hA⟩ : ∃ z, z = (T.setVm s.vm).setFrames (.invoking m args :: below) := ⟨_, rfl⟩
  rw [← hA] at Y
  have hvm : s'.vm = s.vm := by rw [hA]; rfl
  have hhp : s'.heap = H := by rw [hA]; exact hT
  have hW0 : s.WarmedH s'.vm := by rw [hvm]; exact State.WarmedH.refl s
  have hat' : ∀ w ∈ (sbAtoms own ic cls Y1 names ix bytes).filter vx_no, w.before args s' = true := fun w hw => vx_ot_at hW0 hvm.symm (hgood w (List.mem_cons_of_mem _ (List.mem_cons_of_mem _ hw))) (hat w hw)
  have hk' : (Cond.classLink own ik cls).before args s' = true := vx_ot_at hW0 hvm.symm (hgood _ List.mem_cons_self) hk
  have hini' : (Cond.initialized cls).before args s' = true := vx_ot_at hW0 hvm.symm (hgood _ (List.mem_cons_of_mem _ List.mem_cons_self)) hini
  have hU' : vx_Zq Bundle.tN "UNASSIGNED_STACK" Bundle.steD A s' s'.heap := by rw [hhp]; exact vx_Zq.moved hW0.alike (hU.kept hS.2.1)
  have hN' : vx_Zq Bundle.tN "SUPPRESSED_SENTINEL" Bundle.listD A s' s'.heap := by rw [hhp]; exact vx_Zq.moved hW0.alike (hN.kept hS.2.1)
  have h : ∀ w ∈ sbAtoms own ic cls Y1 names ix bytes, w.before args s' = true := vx_own hat' (vx_isRefq hU'.1) (vx_isRefq hN'.1) hU'.2.word hN'.2.word
  have hown' : s'.vm.findClass own = some m.cls := by rw [hvm]; exact hown
  have hins : (Cond.instantiable cls 6).before args s' = true := h _ (by simp [sbAtoms])
  obtain ⟨vm₁, cX, kX, hfX, hkX, -, -, X₁, st1⟩ := Y.newCold hexec (own := own) (C := cls) (index := ik) (n := 6) hown' hk' hins hini'
    (g := F0 m pc ls rest) rfl (by rw [hb]; exact d0) (Nat.le_refl _) (Nat.le_refl _)
  generalize hT1 : (T.setVm vm₁).pushCell { cls := cX, slots := kX.instanceTypes.map defaultValue, vm := .none } = T1 at X₁ st1
  have hcat : (Value.ref T.heap.size).category = 1 := rfl
  have hcellA : T1.heap[T.heap.size]? = some (freshCell cX kX) := by rw [← hT1]; exact State.heap_pushCell_size _ _
  have d3' : decode c.code (pc + 3) = .ok (.dup, 1) := by rw [hb]; exact d3
  have d4' : decode c.code (pc + 4) = .ok (.ldc is, 2) := by rw [hb]; exact d4
  have hstr' : vk_R own is text sa s' := vk_R.warm hW0 hstr
  obtain ⟨U, hsteps, hrun, hend, hW, hsame, ce, hce, hO⟩ := sb_ctorThrowS X₁ hexec htr (own := own) (cls := cls) (names := names) (ic := ic) b0 b1 b2 b5 hY1 hown' hcls hnames h (fun x hx => nomatch hx) hfX hkX hcellA (by rw [hhp, hT]; exact Nat.le_refl _) (msg := .ref sa) rfl
    (g := { method := m, pc := pc + 6, locals := ls, stack := .ref sa :: .ref T.heap.size :: .ref T.heap.size :: rest, locked := none }) rfl hsize rfl rfl (rest := rest) rfl
    (by rw [hb]; exact d6) (by rw [hb]; exact d9) hout hRframes (by simp only [List.map_cons, List.sum_cons, hcat]; omega) hlocks
  obtain ⟨f1, f2⟩ := vx_frame hsame
  rw [hhp] at f1 f2
  have hWs : s.WarmedH U.vm := State.WarmedH.trans hW0 hW
  have hcl : s.vm.findClass cls = some ce.cls := by
    have h9 := hO.2
    rw [hvm] at h9
    exact h9
  have hall : s.sameButNew ({ U with vm := s.vm } : State) locs mc ms := by
    subst hA
    obtain ⟨e1, e2⟩ := hsame
    rw [State.setFrames_setFrames] at e1
    have h2 : (T.setVm s.vm).sameButNew ({ U with vm := s.vm } : State) [] (0 + 1) (0 + 6) := ⟨e1, e2⟩
    have h3 := X.same.trans h2
    rw [List.append_nil] at h3
    exact h3.mono hc hs
  refine ⟨U, ?_, .threw T.heap.size, hrun, hend, Or.inr ⟨T.heap.size, rfl, cls, ce, locs, hx U hWs.alike f1 (fun q hq => f2 q hq (fun z hz => nomatch hz)), hce, hO.1, hcl, hWs, hall, hf⟩⟩
  refine st1 _ ?_
  show Steps p.tables e below (T1.setTop { method := m, pc := pc + 3, locals := ls, stack := .ref T.heap.size :: rest, locked := none }) _
  jvm_step X₁.here [X₁.here.top, hexec, d3', Value.category]
  exact X₁.ldcString hexec (own := own) (text := text) (index := is) (a := sa) hown' hstr'.1 hstr'.2
    (g := { method := m, pc := pc + 4, locals := ls, stack := .ref T.heap.size :: .ref T.heap.size :: rest, locked := none }) rfl d4' _ hsteps
set_option maxHeartbeats 4000000 in
theorem sb_throwW {cc : ByteArray} {pc : Nat} (hexec : p.tables.exec = Jvm.exec) (hb : c.code = cc) (hl : l.stackTraces = false) {own cls Y1 text : String} {names : List String} {ix : Nat} {bytes : ByteArray} (b0 : decode bytes 0 = .ok (.aload_n 0, 1)) (b1 : decode bytes 1 = .ok (.aload_n 1, 1)) (b2 : decode bytes 2 = .ok (.invokespecial ix, 3)) (b5 : decode bytes 5 = .ok (.return_, 1)) (hY1 : Bundle.fit Y1 = true) {ik is ic mc ms sa : Nat} {A : Nat → Prop}
    (hown : s.vm.findClass own = some m.cls) (hcls : Bundle.fit cls = true) (hnames : ∀ n ∈ names, Bundle.fit n = true)
    (hk : (Cond.classLink own ik cls).before args s = true) (hini : (Cond.initialized cls).before args s = true) (hstr : vk_R own is text sa s) (hat : ∀ w ∈ (sbAtoms own ic cls Y1 names ix bytes).filter vx_no, w.before args s = true)
    (hgood : ∀ w ∈ Cond.classLink own ik cls :: Cond.initialized cls :: (sbAtoms own ic cls Y1 names ix bytes).filter vx_no, vx_ot w = true)
    (hU : vx_Zq Bundle.tN "UNASSIGNED_STACK" Bundle.steD A s s.heap) (hN : vx_Zq Bundle.tN "SUPPRESSED_SENTINEL" Bundle.listD A s s.heap) (hS : va_S A s.heap H locs) (hsize : ls.size = c.maxLocals)
    (d0 : decode cc pc = .ok (.new ik, 3)) (d3 : decode cc (pc + 3) = .ok (.dup, 1)) (d4 : decode cc (pc + 4) = .ok (.ldc_w is, 3)) (d7 : decode cc (pc + 7) = .ok (.invokespecial ic, 3)) (d10 : decode cc (pc + 10) = .ok (.athrow, 1))
    (hout : ∀ x ∈ c.exceptionTable.toList, covers x (pc + 10) = false)
    (hRframes : names.length + 4 < R.frames) (hRlocals : (rest.map fun v => v.category).sum + (13 * (names.length + 2) + 43) ≤ R.locals) (hRcells : cells + 1 ≤ R.cells) (hRslots : slots + 6 ≤ R.slots) (hlocks : meth.locks = false)
    (hx : ∀ t : State, s.vm.Alike t.vm → H.size ≤ t.heap.size → (∀ q : Nat, q < H.size → t.heap[q]? = H[q]?) → XC cls s t)
    (hf : ∀ z ∈ locs, free z.base) (hc : cells + 1 ≤ mc) (hs : slots + 6 ≤ ms) :
    W p l e R s m args below meth c H locs cells slots (vx_MQ below Qc XC args s mc ms free) (F0 m pc ls rest) := by
  intro T hT X
  have htr : e.platform.stackTraces = false := (show e.platform.stackTraces = l.stackTraces by rw [X.admits.platform]).trans hl
  have Y := vx_rebase X (R' := { frames := R.frames, locals := R.locals, cells := 1, slots := 6 }) (Nat.le_refl _) (Nat.le_refl _) hRcells hRslots
  obtain ⟨s', hA⟩ : ∃ z, z = (T.setVm s.vm).setFrames (.invoking m args :: below) := ⟨_, rfl⟩
  rw [← hA] at Y
  have hvm : s'.vm = s.vm := by rw [hA]; rfl
  have hhp : s'.heap = H := by rw [hA]; exact hT
  have hW0 : s.WarmedH s'.vm := by rw [hvm]; exact State.WarmedH.refl s
  have hat' : ∀ w ∈ (sbAtoms own ic cls Y1 names ix bytes).filter vx_no, w.before args s' = true := fun w hw => vx_ot_at hW0 hvm.symm (hgood w (List.mem_cons_of_mem _ (List.mem_cons_of_mem _ hw))) (hat w hw)
  have hk' : (Cond.classLink own ik cls).before args s' = true := vx_ot_at hW0 hvm.symm (hgood _ List.mem_cons_self) hk
  have hini' : (Cond.initialized cls).before args s' = true := vx_ot_at hW0 hvm.symm (hgood _ (List.mem_cons_of_mem _ List.mem_cons_self)) hini
  have hU' : vx_Zq Bundle.tN "UNASSIGNED_STACK" Bundle.steD A s' s'.heap := by rw [hhp]; exact vx_Zq.moved hW0.alike (hU.kept hS.2.1)
  have hN' : vx_Zq Bundle.tN "SUPPRESSED_SENTINEL" Bundle.listD A s' s'.heap := by rw [hhp]; exact vx_Zq.moved hW0.alike (hN.kept hS.2.1)
  have h : ∀ w ∈ sbAtoms own ic cls Y1 names ix bytes, w.before args s' = true := vx_own hat' (vx_isRefq hU'.1) (vx_isRefq hN'.1) hU'.2.word hN'.2.word
  have hown' : s'.vm.findClass own = some m.cls := by rw [hvm]; exact hown
  have hins : (Cond.instantiable cls 6).before args s' = true := h _ (by simp [sbAtoms])
  obtain ⟨vm₁, cX, kX, hfX, hkX, -, -, X₁, st1⟩ := Y.newCold hexec (own := own) (C := cls) (index := ik) (n := 6) hown' hk' hins hini'
    (g := F0 m pc ls rest) rfl (by rw [hb]; exact d0) (Nat.le_refl _) (Nat.le_refl _)
  generalize hT1 : (T.setVm vm₁).pushCell { cls := cX, slots := kX.instanceTypes.map defaultValue, vm := .none } = T1 at X₁ st1
  have hcat : (Value.ref T.heap.size).category = 1 := rfl
  have hcellA : T1.heap[T.heap.size]? = some (freshCell cX kX) := by rw [← hT1]; exact State.heap_pushCell_size _ _
  have d3' : decode c.code (pc + 3) = .ok (.dup, 1) := by rw [hb]; exact d3
  have d4' : decode c.code (pc + 4) = .ok (.ldc_w is, 3) := by rw [hb]; exact d4
  have hstr' : vk_R own is text sa s' := vk_R.warm hW0 hstr
  obtain ⟨U, hsteps, hrun, hend, hW, hsame, ce, hce, hO⟩ := sb_ctorThrowS X₁ hexec htr (own := own) (cls := cls) (names := names) (ic := ic) b0 b1 b2 b5 hY1 hown' hcls hnames h (fun x hx => nomatch hx) hfX hkX hcellA (by rw [hhp, hT]; exact Nat.le_refl _) (msg := .ref sa) rfl
    (g := { method := m, pc := pc + 7, locals := ls, stack := .ref sa :: .ref T.heap.size :: .ref T.heap.size :: rest, locked := none }) rfl hsize rfl rfl (rest := rest) rfl
    (by rw [hb]; exact d7) (by rw [hb]; exact d10) hout hRframes (by simp only [List.map_cons, List.sum_cons, hcat]; omega) hlocks
  obtain ⟨f1, f2⟩ := vx_frame hsame
  rw [hhp] at f1 f2
  have hWs : s.WarmedH U.vm := State.WarmedH.trans hW0 hW
  have hcl : s.vm.findClass cls = some ce.cls := by
    have h9 := hO.2
    rw [hvm] at h9
    exact h9
  have hall : s.sameButNew ({ U with vm := s.vm } : State) locs mc ms := by
    subst hA
    obtain ⟨e1, e2⟩ := hsame
    rw [State.setFrames_setFrames] at e1
    have h2 : (T.setVm s.vm).sameButNew ({ U with vm := s.vm } : State) [] (0 + 1) (0 + 6) := ⟨e1, e2⟩
    have h3 := X.same.trans h2
    rw [List.append_nil] at h3
    exact h3.mono hc hs
  refine ⟨U, ?_, .threw T.heap.size, hrun, hend, Or.inr ⟨T.heap.size, rfl, cls, ce, locs, hx U hWs.alike f1 (fun q hq => f2 q hq (fun z hz => nomatch hz)), hce, hO.1, hcl, hWs, hall, hf⟩⟩
  refine st1 _ ?_
  show Steps p.tables e below (T1.setTop { method := m, pc := pc + 3, locals := ls, stack := .ref T.heap.size :: rest, locked := none }) _
  jvm_step X₁.here [X₁.here.top, hexec, d3', Value.category]
  exact X₁.ldcStringW hexec (own := own) (text := text) (index := is) (a := sa) hown' hstr'.1 hstr'.2
    (g := { method := m, pc := pc + 4, locals := ls, stack := .ref T.heap.size :: .ref T.heap.size :: rest, locked := none }) rfl d4' _ hsteps
end ThrowX
abbrev XcX (D : va_G) (cy : Nat → ClassId) (W0 : va_W) (sz : Nat) (postX : String → Prop) : String → State → State → Prop := vx_X postX (fun E u t => E = u ∧ BkX D cy W0 sz W0 t) (va_A W0 sz)
abbrev PreT (D : va_G) (cy : Nat → ClassId) (ev : Nat → Nat) (W0 : va_W) (sz : Nat) : State → Prop := fun U => PreX D cy ev W0 sz U ∧ EnvT U
theorem blindT {D : va_G} {cy : Nat → ClassId} {ev : Nat → Nat} {W0 : va_W} {sz : Nat} {av : List Value} : FrameBlind (va_Pc av (PreT D cy ev W0 sz)) := fun a U g mk q =>
  ⟨q.1, (blindX (D := D) (cy := cy) (ev := ev) (W0 := W0) (sz := sz) (av := av) a U g mk ⟨q.1, q.2.1⟩).2, EnvT.warm (s := U) (U := U.calling g mk a) (State.WarmedH.refl U) q.2.2⟩

/-- what a body may use when it throws 'new E("text")' itself -/
abbrev NewX (p : Program) (l : Launch) (e : Env) (R : Room) (s : State) (m : MethodId) (args : Array Value) (below : List Frame) (meth : Method) (c : Code) (QQ : State → Prop) (D : va_G) (W0 : va_W) (A : Nat → Prop) (cc : ByteArray) (maxL mc ms : Nat) (postX : String → Prop) (E : String) (ik ic : Nat) : Prop :=
  ∀ (is sa : Nat) (text : String) (H : Heap) (locs : List Loc) (cells slots : Nat) (ls : Array Slot) (pc : Nat) (rest : List Value), vk_R RX10 is text sa s → postX E → va_P D clsX W0 H → va_D A W0 → va_S A s.heap H locs → ls.size = maxL → cells + 1 ≤ mc → slots + 6 ≤ ms → (rest.map fun v => v.category).sum ≤ 8 →
    decode cc pc = .ok (.new ik, 3) → decode cc (pc + 3) = .ok (.dup, 1) → decode cc (pc + 4) = .ok (.ldc is, 2) → decode cc (pc + 6) = .ok (.invokespecial ic, 3) → decode cc (pc + 9) = .ok (.athrow, 1) → W p l e R s m args below meth c H locs cells slots QQ (F0 m pc ls rest)

/-- what a body may use when it throws 'new E("text")' itself -/
abbrev NewXW (p : Program) (l : Launch) (e : Env) (R : Room) (s : State) (m : MethodId) (args : Array Value) (below : List Frame) (meth : Method) (c : Code) (QQ : State → Prop) (D : va_G) (W0 : va_W) (A : Nat → Prop) (cc : ByteArray) (maxL mc ms : Nat) (postX : String → Prop) (E : String) (ik ic : Nat) : Prop :=
  ∀ (is sa : Nat) (text : String) (H : Heap) (locs : List Loc) (cells slots : Nat) (ls : Array Slot) (pc : Nat) (rest : List Value), vk_R RX10 is text sa s → postX E → va_P D clsX W0 H → va_D A W0 → va_S A s.heap H locs → ls.size = maxL → cells + 1 ≤ mc → slots + 6 ≤ ms → (rest.map fun v => v.category).sum ≤ 8 →
    decode cc pc = .ok (.new ik, 3) → decode cc (pc + 3) = .ok (.dup, 1) → decode cc (pc + 4) = .ok (.ldc_w is, 3) → decode cc (pc + 7) = .ok (.invokespecial ic, 3) → decode cc (pc + 10) = .ok (.athrow, 1) → W p l e R s m args below meth c H locs cells slots QQ (F0 m pc ls rest)

section BodiesX
variable {l : Launch} {D : va_G} {cy : Nat → ClassId} {ev : Nat → Nat} {y : MethodName} {rm : Room} {cc : ByteArray} {maxL mc ms : Nat} {av : List Value} {W0 : va_W} {sz : Nat} {S : Type} {W1 : S → va_W} {postX : String → Prop}

set_option maxHeartbeats 4000000 in
theorem ofXi {ret : FieldType} {post : Int32 → S → Prop} (hst : l.stackTraces = false) (hy : plainName y.cls = true) (hcls : y.cls = RX10) (hlen : (lg_sl av).length ≤ maxL) (hRm : 5 < rm.frames ∧ 8 + (13 * 3 + 43) ≤ rm.locals ∧ mc ≤ rm.cells ∧ ms ≤ rm.slots)
    (body : ∀ (p : Program) (e : Env) (s : State) (m : MethodId) (args : Array Value) (below : List Frame) (meth : Method) (c : Code) (ls : Array Slot) (A : Nat → Prop) (R : Room) (QQ : State → Prop),
      p.tables.exec = Jvm.exec → c.code = cc → c.maxLocals = maxL → s.vm.findClass y.cls = some m.cls → (∀ w ∈ Cond.code y cc maxL (some ret) :: TB, w.before args s = true) →
      R = rm → meth.locks = false → EnvX ev A s s.heap → EnvT s → va_K D clsX (tyA cy) s → va_P D clsX W0 s.heap → va_D A W0 → va_S A s.heap s.heap [] → (∀ q, s.heap.size ≤ q → A q) → lv_has ls maxL (lv_args 0 av) →
      (∀ (E : String) (ce : Cell) (q : Nat) (H : Heap) (locs : List Loc) (ls : Array Slot) (pc : Nat) (rest : List Value), postX E → va_P D clsX W0 H → va_D A W0 → va_S A s.heap H locs → H[q]? = some ce → ce.vm = .none → s.vm.findClass E = some ce.cls → vx_W p l e R s m args below meth c H locs mc ms QQ (F0 m pc ls rest) q) →
      NewX p l e R s m args below meth c QQ D W0 A cc maxL mc ms postX exN 215 219 → NewXW p l e R s m args below meth c QQ D W0 A cc maxL mc ms postX exN 215 219 → NewX p l e R s m args below meth c QQ D W0 A cc maxL mc ms postX exI 155 159 → NewXW p l e R s m args below meth c QQ D W0 A cc maxL mc ms postX exI 155 159 →
      (∀ (r : Int32) (u : S) (H : Heap) (locs : List Loc) (ls : Array Slot) (pc : Nat), narrow ret (.int r) = .int r → decode cc pc = .ok (.ireturn, 1) → post r u → va_P D clsX (W1 u) H → va_D A (W1 u) → va_S A s.heap H locs → W p l e R s m args below meth c H locs mc ms QQ (F0 m pc ls [.int r])) →
      W p l e R s m args below meth c s.heap [] 0 0 QQ (F0 m 0 ls [])) :
    vx_Met l y (Cond.code y cc maxL (some ret) :: TB) rm (va_Pc av (PreT D cy ev W0 sz)) (va_Qi post (fun u => BkX D cy W0 sz (W1 u)) (va_A W0 sz)) (XcX D cy W0 sz postX) mc ms (va_A W0 sz) := by
  refine vx_ofW (cc := cc) (maxL := maxL) (ret := (some ret)) hy rfl ?_
  intro p e s m args below meth c s₁ B hml htab hv
  obtain ⟨rfl, ⟨hsz, hP, hK, hD0, hE⟩, hT⟩ := hv
  have hx := B.exec
  have hb := B.bytes
  have hr := B.returns
  have hts := atoms_spec (ws := Cond.code y cc maxL (some ret) :: TB) B.pre
  have hown : s.vm.findClass y.cls = some m.cls := findClass_of_methodNamed B.named
  have hlocks := B.notSynchronized
  subst hsz
  have hD := hD0.self (sz := s.heap.size)
  have hl := lv_entry av (n := maxL) hlen
  have hown0 : s.vm.findClass RX10 = some m.cls := by rw [← hcls]; exact hown
  have hroom : (headSpec (Cond.code y cc maxL (some ret) :: TB) rm).room = rm := rfl
  rw [lg_entry_eq, hroom]
  have hwN : ∀ w ∈ sbN.filter vx_no, w.before av.toArray s = true := sb_words sbN_in sbN_bad hts hT
  have hwI : ∀ w ∈ sbI.filter vx_no, w.before av.toArray s = true := sb_words sbI_in sbI_bad hts hT
  have hgN : ∀ w ∈ Cond.classLink RX10 215 exN :: Cond.initialized exN :: sbN.filter vx_no, vx_ot w = true := fun w hw => by
    rcases List.mem_cons.mp hw with rfl | hw
    · rfl
    · rcases List.mem_cons.mp hw with rfl | hw
      · rfl
      · exact sb_ot sbN_bad w hw
  have hgI : ∀ w ∈ Cond.classLink RX10 155 exI :: Cond.initialized exI :: sbI.filter vx_no, vx_ot w = true := fun w hw => by
    rcases List.mem_cons.mp hw with rfl | hw
    · rfl
    · rcases List.mem_cons.mp hw with rfl | hw
      · rfl
      · exact sb_ot sbI_bad w hw
  have fitN : ∀ n ∈ ["java/lang/Exception"], Bundle.fit n = true := by decide +kernel
  refine body p e s m _ below meth c _ (va_A W0 s.heap.size) _ _ hx hb hml hown hts rfl hlocks hE hT hK hP hD va_S.rf (fun q h => Or.inr h) hl ?_ ?_ ?_ ?_ ?_ ?_
  · intro E ce q H locs ls pc rest hp hP1 hD1 hS h1 h2 h3
    exact vx_out (fun x hx => (htab x hx).elim) hlocks h1 h2 h3 (fun t ht hvm => ⟨E, hp, ⟨rfl, by rw [ht]; exact hP1, va_K.moved hvm hK, hD1⟩, hS.F ht⟩) hS.2.2 (Nat.le_refl _) (Nat.le_refl _)
  · intro is sa text H locs cells slots ls pc rest hstr hp hP1 hD1 hS hsize hc hs hroom d0 d3 d4 d6 d9
    refine sb_throw (b0 := by decide +kernel) (b1 := by decide +kernel) (b2 := by decide +kernel) (b5 := by decide +kernel) (cls := exN) (Y1 := "java/lang/RuntimeException") (names := ["java/lang/Exception"]) (ix := 13) (bytes := prog_29_method_4_code) (hexec := hx) (hb := hb) (hl := hst) (hY1 := by decide +kernel) (hown := hown0) (hcls := by decide +kernel) (hnames := fitN) (hk := hts _ (tb mw933)) (hini := hts _ (tb mw24)) (hstr := hstr) (hat := hwN) (hgood := hgN) (hU := hE.2.2.1) (hN := hE.2.2.2.1) (hS := hS) (hsize := hsize.trans hml.symm) (d0 := d0) (d3 := d3) (d4 := d4) (d6 := d6) (d9 := d9) (hout := fun x hx => (htab x hx).elim) (hRframes := hRm.1) (hRlocals := Nat.le_trans (Nat.add_le_add_right hroom _) hRm.2.1) (hRcells := Nat.le_trans hc hRm.2.2.1) (hRslots := Nat.le_trans hs hRm.2.2.2) (hlocks := hlocks) (hx := ?_) (hf := hS.2.2) (hc := hc) (hs := hs)
    intro t hvm hz hk
    have hP2 : va_P D clsX W0 t.heap := hP1.kept (fun k q hq => hk _ (va_at.lt (hP1 k q hq)))
    refine ⟨exN, hp, ⟨rfl, hP2, va_K.moved hvm hK, hD1⟩, ?_, ?_⟩
    · exact Nat.le_trans hS.1 hz
    · intro q h1 h2
      rw [hk q (Nat.lt_of_lt_of_le h1 hS.1)]
      exact hS.2.1 q h1 h2
  · intro is sa text H locs cells slots ls pc rest hstr hp hP1 hD1 hS hsize hc hs hroom d0 d3 d4 d6 d9
    refine sb_throwW (b0 := by decide +kernel) (b1 := by decide +kernel) (b2 := by decide +kernel) (b5 := by decide +kernel) (cls := exN) (Y1 := "java/lang/RuntimeException") (names := ["java/lang/Exception"]) (ix := 13) (bytes := prog_29_method_4_code) (hexec := hx) (hb := hb) (hl := hst) (hY1 := by decide +kernel) (hown := hown0) (hcls := by decide +kernel) (hnames := fitN) (hk := hts _ (tb mw933)) (hini := hts _ (tb mw24)) (hstr := hstr) (hat := hwN) (hgood := hgN) (hU := hE.2.2.1) (hN := hE.2.2.2.1) (hS := hS) (hsize := hsize.trans hml.symm) (d0 := d0) (d3 := d3) (d4 := d4) (d7 := d6) (d10 := d9) (hout := fun x hx => (htab x hx).elim) (hRframes := hRm.1) (hRlocals := Nat.le_trans (Nat.add_le_add_right hroom _) hRm.2.1) (hRcells := Nat.le_trans hc hRm.2.2.1) (hRslots := Nat.le_trans hs hRm.2.2.2) (hlocks := hlocks) (hx := ?_) (hf := hS.2.2) (hc := hc) (hs := hs)
    intro t hvm hz hk
    have hP2 : va_P D clsX W0 t.heap := hP1.kept (fun k q hq => hk _ (va_at.lt (hP1 k q hq)))
    refine ⟨exN, hp, ⟨rfl, hP2, va_K.moved hvm hK, hD1⟩, ?_, ?_⟩
    · exact Nat.le_trans hS.1 hz
    · intro q h1 h2
      rw [hk q (Nat.lt_of_lt_of_le h1 hS.1)]
      exact hS.2.1 q h1 h2
  · intro is sa text H locs cells slots ls pc rest hstr hp hP1 hD1 hS hsize hc hs hroom d0 d3 d4 d6 d9
    refine sb_throw (b0 := by decide +kernel) (b1 := by decide +kernel) (b2 := by decide +kernel) (b5 := by decide +kernel) (cls := exI) (Y1 := "java/lang/RuntimeException") (names := ["java/lang/Exception"]) (ix := 7) (bytes := prog_18_method_2_code) (hexec := hx) (hb := hb) (hl := hst) (hY1 := by decide +kernel) (hown := hown0) (hcls := by decide +kernel) (hnames := fitN) (hk := hts _ (tb mw662)) (hini := hts _ (tb mw19)) (hstr := hstr) (hat := hwI) (hgood := hgI) (hU := hE.2.2.1) (hN := hE.2.2.2.1) (hS := hS) (hsize := hsize.trans hml.symm) (d0 := d0) (d3 := d3) (d4 := d4) (d6 := d6) (d9 := d9) (hout := fun x hx => (htab x hx).elim) (hRframes := hRm.1) (hRlocals := Nat.le_trans (Nat.add_le_add_right hroom _) hRm.2.1) (hRcells := Nat.le_trans hc hRm.2.2.1) (hRslots := Nat.le_trans hs hRm.2.2.2) (hlocks := hlocks) (hx := ?_) (hf := hS.2.2) (hc := hc) (hs := hs)
    intro t hvm hz hk
    have hP2 : va_P D clsX W0 t.heap := hP1.kept (fun k q hq => hk _ (va_at.lt (hP1 k q hq)))
    refine ⟨exI, hp, ⟨rfl, hP2, va_K.moved hvm hK, hD1⟩, ?_, ?_⟩
    · exact Nat.le_trans hS.1 hz
    · intro q h1 h2
      rw [hk q (Nat.lt_of_lt_of_le h1 hS.1)]
      exact hS.2.1 q h1 h2
  · intro is sa text H locs cells slots ls pc rest hstr hp hP1 hD1 hS hsize hc hs hroom d0 d3 d4 d6 d9
    refine sb_throwW (b0 := by decide +kernel) (b1 := by decide +kernel) (b2 := by decide +kernel) (b5 := by decide +kernel) (cls := exI) (Y1 := "java/lang/RuntimeException") (names := ["java/lang/Exception"]) (ix := 7) (bytes := prog_18_method_2_code) (hexec := hx) (hb := hb) (hl := hst) (hY1 := by decide +kernel) (hown := hown0) (hcls := by decide +kernel) (hnames := fitN) (hk := hts _ (tb mw662)) (hini := hts _ (tb mw19)) (hstr := hstr) (hat := hwI) (hgood := hgI) (hU := hE.2.2.1) (hN := hE.2.2.2.1) (hS := hS) (hsize := hsize.trans hml.symm) (d0 := d0) (d3 := d3) (d4 := d4) (d7 := d6) (d10 := d9) (hout := fun x hx => (htab x hx).elim) (hRframes := hRm.1) (hRlocals := Nat.le_trans (Nat.add_le_add_right hroom _) hRm.2.1) (hRcells := Nat.le_trans hc hRm.2.2.1) (hRslots := Nat.le_trans hs hRm.2.2.2) (hlocks := hlocks) (hx := ?_) (hf := hS.2.2) (hc := hc) (hs := hs)
    intro t hvm hz hk
    have hP2 : va_P D clsX W0 t.heap := hP1.kept (fun k q hq => hk _ (va_at.lt (hP1 k q hq)))
    refine ⟨exI, hp, ⟨rfl, hP2, va_K.moved hvm hK, hD1⟩, ?_, ?_⟩
    · exact Nat.le_trans hS.1 hz
    · intro q h1 h2
      rw [hk q (Nat.lt_of_lt_of_le h1 hS.1)]
      exact hS.2.1 q h1 h2
  · intro r u H locs ls pc hn hd hp hP1 hD1 hS
    exact vx_ret (W.zret (v := r) hx hb hr hn (fun t ht hW => ⟨⟨r, u, rfl, hp, by rw [ht]; exact hP1, va_K.moved hW.alike hK, hD1⟩, hS.F ht⟩) hS.2.2 hd)

set_option maxHeartbeats 4000000 in
theorem ofXv {post : S → Prop} (hst : l.stackTraces = false) (hy : plainName y.cls = true) (hcls : y.cls = RX10) (hlen : (lg_sl av).length ≤ maxL) (hRm : 5 < rm.frames ∧ 8 + (13 * 3 + 43) ≤ rm.locals ∧ mc ≤ rm.cells ∧ ms ≤ rm.slots)
    (body : ∀ (p : Program) (e : Env) (s : State) (m : MethodId) (args : Array Value) (below : List Frame) (meth : Method) (c : Code) (ls : Array Slot) (A : Nat → Prop) (R : Room) (QQ : State → Prop),
      p.tables.exec = Jvm.exec → c.code = cc → c.maxLocals = maxL → s.vm.findClass y.cls = some m.cls → (∀ w ∈ Cond.code y cc maxL none :: TB, w.before args s = true) →
      R = rm → meth.locks = false → EnvX ev A s s.heap → EnvT s → va_K D clsX (tyA cy) s → va_P D clsX W0 s.heap → va_D A W0 → va_S A s.heap s.heap [] → (∀ q, s.heap.size ≤ q → A q) → lv_has ls maxL (lv_args 0 av) →
      (∀ (E : String) (ce : Cell) (q : Nat) (H : Heap) (locs : List Loc) (ls : Array Slot) (pc : Nat) (rest : List Value), postX E → va_P D clsX W0 H → va_D A W0 → va_S A s.heap H locs → H[q]? = some ce → ce.vm = .none → s.vm.findClass E = some ce.cls → vx_W p l e R s m args below meth c H locs mc ms QQ (F0 m pc ls rest) q) →
      NewX p l e R s m args below meth c QQ D W0 A cc maxL mc ms postX exN 215 219 → NewXW p l e R s m args below meth c QQ D W0 A cc maxL mc ms postX exN 215 219 → NewX p l e R s m args below meth c QQ D W0 A cc maxL mc ms postX exI 155 159 → NewXW p l e R s m args below meth c QQ D W0 A cc maxL mc ms postX exI 155 159 →
      (∀ (u : S) (H : Heap) (locs : List Loc) (ls : Array Slot) (pc : Nat), decode cc pc = .ok (.return_, 1) → post u → va_P D clsX (W1 u) H → va_D A (W1 u) → va_S A s.heap H locs → W p l e R s m args below meth c H locs mc ms QQ (F0 m pc ls [])) →
      W p l e R s m args below meth c s.heap [] 0 0 QQ (F0 m 0 ls [])) :
    vx_Met l y (Cond.code y cc maxL none :: TB) rm (va_Pc av (PreT D cy ev W0 sz)) (va_Qv post (fun u => BkX D cy W0 sz (W1 u)) (va_A W0 sz)) (XcX D cy W0 sz postX) mc ms (va_A W0 sz) := by
  refine vx_ofW (cc := cc) (maxL := maxL) (ret := none) hy rfl ?_
  intro p e s m args below meth c s₁ B hml htab hv
  obtain ⟨rfl, ⟨hsz, hP, hK, hD0, hE⟩, hT⟩ := hv
  have hx := B.exec
  have hb := B.bytes
  have hr := B.returns
  have hts := atoms_spec (ws := Cond.code y cc maxL none :: TB) B.pre
  have hown : s.vm.findClass y.cls = some m.cls := findClass_of_methodNamed B.named
  have hlocks := B.notSynchronized
  subst hsz
  have hD := hD0.self (sz := s.heap.size)
  have hl := lv_entry av (n := maxL) hlen
  have hown0 : s.vm.findClass RX10 = some m.cls := by rw [← hcls]; exact hown
  have hroom : (headSpec (Cond.code y cc maxL none :: TB) rm).room = rm := rfl
  rw [lg_entry_eq, hroom]
  have hwN : ∀ w ∈ sbN.filter vx_no, w.before av.toArray s = true := sb_words sbN_in sbN_bad hts hT
  have hwI : ∀ w ∈ sbI.filter vx_no, w.before av.toArray s = true := sb_words sbI_in sbI_bad hts hT
  have hgN : ∀ w ∈ Cond.classLink RX10 215 exN :: Cond.initialized exN :: sbN.filter vx_no, vx_ot w = true := fun w hw => by
    rcases List.mem_cons.mp hw with rfl | hw
    · rfl
    · rcases List.mem_cons.mp hw with rfl | hw
      · rfl
      · exact sb_ot sbN_bad w hw
  have hgI : ∀ w ∈ Cond.classLink RX10 155 exI :: Cond.initialized exI :: sbI.filter vx_no, vx_ot w = true := fun w hw => by
    rcases List.mem_cons.mp hw with rfl | hw
    · rfl
    · rcases List.mem_cons.mp hw with rfl | hw
      · rfl
      · exact sb_ot sbI_bad w hw
  have fitN : ∀ n ∈ ["java/lang/Exception"], Bundle.fit n = true := by decide +kernel
  refine body p e s m _ below meth c _ (va_A W0 s.heap.size) _ _ hx hb hml hown hts rfl hlocks hE hT hK hP hD va_S.rf (fun q h => Or.inr h) hl ?_ ?_ ?_ ?_ ?_ ?_
  · intro E ce q H locs ls pc rest hp hP1 hD1 hS h1 h2 h3
    exact vx_out (fun x hx => (htab x hx).elim) hlocks h1 h2 h3 (fun t ht hvm => ⟨E, hp, ⟨rfl, by rw [ht]; exact hP1, va_K.moved hvm hK, hD1⟩, hS.F ht⟩) hS.2.2 (Nat.le_refl _) (Nat.le_refl _)
  · intro is sa text H locs cells slots ls pc rest hstr hp hP1 hD1 hS hsize hc hs hroom d0 d3 d4 d6 d9
    refine sb_throw (b0 := by decide +kernel) (b1 := by decide +kernel) (b2 := by decide +kernel) (b5 := by decide +kernel) (cls := exN) (Y1 := "java/lang/RuntimeException") (names := ["java/lang/Exception"]) (ix := 13) (bytes := prog_29_method_4_code) (hexec := hx) (hb := hb) (hl := hst) (hY1 := by decide +kernel) (hown := hown0) (hcls := by decide +kernel) (hnames := fitN) (hk := hts _ (tb mw933)) (hini := hts _ (tb mw24)) (hstr := hstr) (hat := hwN) (hgood := hgN) (hU := hE.2.2.1) (hN := hE.2.2.2.1) (hS := hS) (hsize := hsize.trans hml.symm) (d0 := d0) (d3 := d3) (d4 := d4) (d6 := d6) (d9 := d9) (hout := fun x hx => (htab x hx).elim) (hRframes := hRm.1) (hRlocals := Nat.le_trans (Nat.add_le_add_right hroom _) hRm.2.1) (hRcells := Nat.le_trans hc hRm.2.2.1) (hRslots := Nat.le_trans hs hRm.2.2.2) (hlocks := hlocks) (hx := ?_) (hf := hS.2.2) (hc := hc) (hs := hs)
    intro t hvm hz hk
    have hP2 : va_P D clsX W0 t.heap := hP1.kept (fun k q hq => hk _ (va_at.lt (hP1 k q hq)))
    refine ⟨exN, hp, ⟨rfl, hP2, va_K.moved hvm hK, hD1⟩, ?_, ?_⟩
    · exact Nat.le_trans hS.1 hz
    · intro q h1 h2
      rw [hk q (Nat.lt_of_lt_of_le h1 hS.1)]
      exact hS.2.1 q h1 h2
  · intro is sa text H locs cells slots ls pc rest hstr hp hP1 hD1 hS hsize hc hs hroom d0 d3 d4 d6 d9
    refine sb_throwW (b0 := by decide +kernel) (b1 := by decide +kernel) (b2 := by decide +kernel) (b5 := by decide +kernel) (cls := exN) (Y1 := "java/lang/RuntimeException") (names := ["java/lang/Exception"]) (ix := 13) (bytes := prog_29_method_4_code) (hexec := hx) (hb := hb) (hl := hst) (hY1 := by decide +kernel) (hown := hown0) (hcls := by decide +kernel) (hnames := fitN) (hk := hts _ (tb mw933)) (hini := hts _ (tb mw24)) (hstr := hstr) (hat := hwN) (hgood := hgN) (hU := hE.2.2.1) (hN := hE.2.2.2.1) (hS := hS) (hsize := hsize.trans hml.symm) (d0 := d0) (d3 := d3) (d4 := d4) (d7 := d6) (d10 := d9) (hout := fun x hx => (htab x hx).elim) (hRframes := hRm.1) (hRlocals := Nat.le_trans (Nat.add_le_add_right hroom _) hRm.2.1) (hRcells := Nat.le_trans hc hRm.2.2.1) (hRslots := Nat.le_trans hs hRm.2.2.2) (hlocks := hlocks) (hx := ?_) (hf := hS.2.2) (hc := hc) (hs := hs)
    intro t hvm hz hk
    have hP2 : va_P D clsX W0 t.heap := hP1.kept (fun k q hq => hk _ (va_at.lt (hP1 k q hq)))
    refine ⟨exN, hp, ⟨rfl, hP2, va_K.moved hvm hK, hD1⟩, ?_, ?_⟩
    · exact Nat.le_trans hS.1 hz
    · intro q h1 h2
      rw [hk q (Nat.lt_of_lt_of_le h1 hS.1)]
      exact hS.2.1 q h1 h2
  · intro is sa text H locs cells slots ls pc rest hstr hp hP1 hD1 hS hsize hc hs hroom d0 d3 d4 d6 d9
    refine sb_throw (b0 := by decide +kernel) (b1 := by decide +kernel) (b2 := by decide +kernel) (b5 := by decide +kernel) (cls := exI) (Y1 := "java/lang/RuntimeException") (names := ["java/lang/Exception"]) (ix := 7) (bytes := prog_18_method_2_code) (hexec := hx) (hb := hb) (hl := hst) (hY1 := by decide +kernel) (hown := hown0) (hcls := by decide +kernel) (hnames := fitN) (hk := hts _ (tb mw662)) (hini := hts _ (tb mw19)) (hstr := hstr) (hat := hwI) (hgood := hgI) (hU := hE.2.2.1) (hN := hE.2.2.2.1) (hS := hS) (hsize := hsize.trans hml.symm) (d0 := d0) (d3 := d3) (d4 := d4) (d6 := d6) (d9 := d9) (hout := fun x hx => (htab x hx).elim) (hRframes := hRm.1) (hRlocals := Nat.le_trans (Nat.add_le_add_right hroom _) hRm.2.1) (hRcells := Nat.le_trans hc hRm.2.2.1) (hRslots := Nat.le_trans hs hRm.2.2.2) (hlocks := hlocks) (hx := ?_) (hf := hS.2.2) (hc := hc) (hs := hs)
    intro t hvm hz hk
    have hP2 : va_P D clsX W0 t.heap := hP1.kept (fun k q hq => hk _ (va_at.lt (hP1 k q hq)))
    refine ⟨exI, hp, ⟨rfl, hP2, va_K.moved hvm hK, hD1⟩, ?_, ?_⟩
    · exact Nat.le_trans hS.1 hz
    · intro q h1 h2
      rw [hk q (Nat.lt_of_lt_of_le h1 hS.1)]
      exact hS.2.1 q h1 h2
  · intro is sa text H locs cells slots ls pc rest hstr hp hP1 hD1 hS hsize hc hs hroom d0 d3 d4 d6 d9
    refine sb_throwW (b0 := by decide +kernel) (b1 := by decide +kernel) (b2 := by decide +kernel) (b5 := by decide +kernel) (cls := exI) (Y1 := "java/lang/RuntimeException") (names := ["java/lang/Exception"]) (ix := 7) (bytes := prog_18_method_2_code) (hexec := hx) (hb := hb) (hl := hst) (hY1 := by decide +kernel) (hown := hown0) (hcls := by decide +kernel) (hnames := fitN) (hk := hts _ (tb mw662)) (hini := hts _ (tb mw19)) (hstr := hstr) (hat := hwI) (hgood := hgI) (hU := hE.2.2.1) (hN := hE.2.2.2.1) (hS := hS) (hsize := hsize.trans hml.symm) (d0 := d0) (d3 := d3) (d4 := d4) (d7 := d6) (d10 := d9) (hout := fun x hx => (htab x hx).elim) (hRframes := hRm.1) (hRlocals := Nat.le_trans (Nat.add_le_add_right hroom _) hRm.2.1) (hRcells := Nat.le_trans hc hRm.2.2.1) (hRslots := Nat.le_trans hs hRm.2.2.2) (hlocks := hlocks) (hx := ?_) (hf := hS.2.2) (hc := hc) (hs := hs)
    intro t hvm hz hk
    have hP2 : va_P D clsX W0 t.heap := hP1.kept (fun k q hq => hk _ (va_at.lt (hP1 k q hq)))
    refine ⟨exI, hp, ⟨rfl, hP2, va_K.moved hvm hK, hD1⟩, ?_, ?_⟩
    · exact Nat.le_trans hS.1 hz
    · intro q h1 h2
      rw [hk q (Nat.lt_of_lt_of_le h1 hS.1)]
      exact hS.2.1 q h1 h2
  · intro u H locs ls pc hd hp hP1 hD1 hS
    exact vx_ret (W.vret hx hb hr (fun t ht hW => ⟨⟨u, rfl, hp, by rw [ht]; exact hP1, va_K.moved hW.alike hK, hD1⟩, hS.F ht⟩) hS.2.2 hd)
end BodiesX

section CallsT
variable {p : Program} {l : Launch} {e : Env} {R : Room} {s : State} {m : MethodId} {args : Array Value} {below : List Frame} {meth : Method} {c : Code} {H : Heap} {locs : List Loc} {cells slots : Nat} {Q : State → Prop}
variable {D : va_G} {cy : Nat → ClassId} {ev : Nat → Nat} {A : Nat → Prop} {y : MethodName} {bytes cc : ByteArray} {maxL nL n index pc mc1 ms1 : Nat} {ret : Option FieldType} {rm : Room} {c0 c1 : Cond} {own C : String} {b ci : Nat} {As rest st0 : List Value} {ls : Array Slot} {S : Type} {ws Wc Wr : va_W} {W1 : S → va_W} {fs : List Value} {cq : vw_C}
theorem clXi {post : Int32 → S → Prop} {postX : String → Prop} (F : CallFix p m c cc nL s args (c0 :: TB) own) (cw : CallW R s args own cq.1 index y bytes maxL ret (c1 :: TB) rm mc1 ms1 n)
    (hM : vx_Met l y (c1 :: TB) rm (va_Pc (.ref b :: As) (PreT D cy ev Wc H.size)) (va_Qi post (fun u => BkX D cy Wc H.size (W1 u)) (va_A Wc H.size)) (XcX D cy Wc H.size postX) mc1 ms1 (va_A Wc H.size))
    (hE : EnvX ev A s s.heap) (hT : EnvT s) (hK : va_K D clsX (tyA cy) s) (hP : va_P D clsX ws H) (hD : va_D A ws) (hS : va_S A s.heap H locs) (hA : ∀ q, s.heap.size ≤ q → A q)
    (isC isR : List Nat) (hC : isC.map (fun i => ws[i]?) = Wc.map some) (hR : isR.map (fun i => ws[i]?) = Wr.map some) (hnC : va_nd isC = true) (hnR : va_nd isR = true) (hdis : ∀ i ∈ isR, i ∉ isC)
    (q0 : Nat) (hq : Wc[q0]? = some (b, .inr (ci, fs))) (hcq : clsX[ci]? = some cq) (hn : As.length = n) (hsize : ls.size = nL) (hst : st0 = As.reverse ++ .ref b :: rest) (hroom : (rest.map fun v => v.category).sum ≤ 8)
    (hf : cells + mc1 ≤ R.cells ∧ slots + ms1 ≤ R.slots) (hdg : decode cc pc = .ok (.invokevirtual index, 3))
    (kx : ∀ (E : String) (ce : Cell) (q : Nat) (H1 : Heap) (locs1 : List Loc), postX E → va_P D clsX (Wr ++ Wc) H1 → va_D A (Wr ++ Wc) → va_S A s.heap H1 locs1 → H1[q]? = some ce → ce.vm = .none → s.vm.findClass E = some ce.cls → vx_W p l e R s m args below meth c H1 locs1 (cells + mc1) (slots + ms1) Q (F0 m pc ls rest) q)
    (kk : ∀ (r : Int32) (u : S) (H1 : Heap) (locs1 : List Loc), post r u → va_P D clsX (Wr ++ W1 u) H1 → va_D A (Wr ++ W1 u) → va_S A s.heap H1 locs1 → W p l e R s m args below meth c H1 locs1 (cells + mc1) (slots + ms1) Q (F0 m (pc + 3) ls (.int r :: rest))) :
    W p l e R s m args below meth c H locs cells slots Q (F0 m pc ls st0) := by
  have hDc : va_D A Wc := hD.sub isC hnC hC
  have hPc : va_P D clsX Wc H := by
    refine hP.sub isC ?_
    have h1 : isC.filterMap (fun i => ws[i]?) = (isC.map (fun i => ws[i]?)).filterMap id := by rw [List.filterMap_map]; rfl
    rw [h1, hC, List.filterMap_map]
    exact List.filterMap_some
  have hFc := va_free (wc := Wc) hD hS hA isC hC
  subst hst
  refine vx_calli (vx_runV (As := As) (rest := rest) (b := b) F hM cw ⟨blindT, va_recv hK hPc hcq hq, fun U hU hW => ⟨rfl, ⟨by rw [hU], by rw [hU]; exact hPc, va_K.moved hW.alike hK, hDc.weaken (fun _ _ _ _ => trivial), hE.call hS hFc hU hW⟩, hT.warm hW⟩⟩ rfl hn hsize rfl (lv_room hroom) hdg hf) hS (fun q _ h => hFc q h) hFc (fun q _ h => hFc q h) ?_ (fun r u t H1 locs1 ht hvm hw hB hz1 hk1 hS1 => ?_)
  · intro E ce q9 u t H1 locs1 ht hvm hw hB hz1 hk1 hS1 h1 h2 h3
    obtain ⟨rfl, hP1, hK1, hD1⟩ := hB
    rw [ht] at hP1
    obtain ⟨hP2, hD2⟩ := va_join (wr := Wr) (w1 := Wc) hP hD isC isR hC hR hnR hdis hk1 hFc hP1 hD1
    exact kx E ce q9 H1 locs1 hw hP2 hD2 hS1 h1 h2 h3
  obtain ⟨hP1, hK1, hD1⟩ := hB
  rw [ht] at hP1
  obtain ⟨hP2, hD2⟩ := va_join (wr := Wr) (w1 := W1 u) hP hD isC isR hC hR hnR hdis hk1 hFc hP1 hD1
  exact kk r u H1 locs1 hw hP2 hD2 hS1
theorem clXv {post : S → Prop} {postX : String → Prop} (F : CallFix p m c cc nL s args (c0 :: TB) own) (cw : CallW R s args own cq.1 index y bytes maxL ret (c1 :: TB) rm mc1 ms1 n)
    (hM : vx_Met l y (c1 :: TB) rm (va_Pc (.ref b :: As) (PreT D cy ev Wc H.size)) (va_Qv post (fun u => BkX D cy Wc H.size (W1 u)) (va_A Wc H.size)) (XcX D cy Wc H.size postX) mc1 ms1 (va_A Wc H.size))
    (hE : EnvX ev A s s.heap) (hT : EnvT s) (hK : va_K D clsX (tyA cy) s) (hP : va_P D clsX ws H) (hD : va_D A ws) (hS : va_S A s.heap H locs) (hA : ∀ q, s.heap.size ≤ q → A q)
    (isC isR : List Nat) (hC : isC.map (fun i => ws[i]?) = Wc.map some) (hR : isR.map (fun i => ws[i]?) = Wr.map some) (hnC : va_nd isC = true) (hnR : va_nd isR = true) (hdis : ∀ i ∈ isR, i ∉ isC)
    (q0 : Nat) (hq : Wc[q0]? = some (b, .inr (ci, fs))) (hcq : clsX[ci]? = some cq) (hn : As.length = n) (hsize : ls.size = nL) (hst : st0 = As.reverse ++ .ref b :: rest) (hroom : (rest.map fun v => v.category).sum ≤ 8)
    (hf : cells + mc1 ≤ R.cells ∧ slots + ms1 ≤ R.slots) (hdg : decode cc pc = .ok (.invokevirtual index, 3))
    (kx : ∀ (E : String) (ce : Cell) (q : Nat) (H1 : Heap) (locs1 : List Loc), postX E → va_P D clsX (Wr ++ Wc) H1 → va_D A (Wr ++ Wc) → va_S A s.heap H1 locs1 → H1[q]? = some ce → ce.vm = .none → s.vm.findClass E = some ce.cls → vx_W p l e R s m args below meth c H1 locs1 (cells + mc1) (slots + ms1) Q (F0 m pc ls rest) q)
    (kk : ∀ (u : S) (H1 : Heap) (locs1 : List Loc), post u → va_P D clsX (Wr ++ W1 u) H1 → va_D A (Wr ++ W1 u) → va_S A s.heap H1 locs1 → W p l e R s m args below meth c H1 locs1 (cells + mc1) (slots + ms1) Q (F0 m (pc + 3) ls rest)) :
    W p l e R s m args below meth c H locs cells slots Q (F0 m pc ls st0) := by
  have hDc : va_D A Wc := hD.sub isC hnC hC
  have hPc : va_P D clsX Wc H := by
    refine hP.sub isC ?_
    have h1 : isC.filterMap (fun i => ws[i]?) = (isC.map (fun i => ws[i]?)).filterMap id := by rw [List.filterMap_map]; rfl
    rw [h1, hC, List.filterMap_map]
    exact List.filterMap_some
  have hFc := va_free (wc := Wc) hD hS hA isC hC
  subst hst
  refine vx_callv (vx_runV (As := As) (rest := rest) (b := b) F hM cw ⟨blindT, va_recv hK hPc hcq hq, fun U hU hW => ⟨rfl, ⟨by rw [hU], by rw [hU]; exact hPc, va_K.moved hW.alike hK, hDc.weaken (fun _ _ _ _ => trivial), hE.call hS hFc hU hW⟩, hT.warm hW⟩⟩ rfl hn hsize rfl (lv_room hroom) hdg hf) hS (fun q _ h => hFc q h) hFc (fun q _ h => hFc q h) ?_ (fun u t H1 locs1 ht hvm hw hB hz1 hk1 hS1 => ?_)
  · intro E ce q9 u t H1 locs1 ht hvm hw hB hz1 hk1 hS1 h1 h2 h3
    obtain ⟨rfl, hP1, hK1, hD1⟩ := hB
    rw [ht] at hP1
    obtain ⟨hP2, hD2⟩ := va_join (wr := Wr) (w1 := Wc) hP hD isC isR hC hR hnR hdis hk1 hFc hP1 hD1
    exact kx E ce q9 H1 locs1 hw hP2 hD2 hS1 h1 h2 h3
  obtain ⟨hP1, hK1, hD1⟩ := hB
  rw [ht] at hP1
  obtain ⟨hP2, hD2⟩ := va_join (wr := Wr) (w1 := W1 u) hP hD isC isR hC hR hnR hdis hk1 hFc hP1 hD1
  exact kk u H1 locs1 hw hP2 hD2 hS1
end CallsT
