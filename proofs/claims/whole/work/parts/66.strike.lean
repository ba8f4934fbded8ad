/-! the game: states, sets, done, undone, cases' cells, cases' headings -/
abbrev GS : Type := (Nat → Nat → Nat) × (Nat → Nat) × Nat × Nat × (Nat → Nat) × (Nat → Nat)
abbrev cur (g : GS) : Nat → Nat := g.1 g.2.2.1
def gN (P : FL) (m : Nat) (g : GS) : GS := (stN P m (nR g.2.2.1) (stR g.2.2.1 g.1), seN m (nR g.2.2.1) (seR g.2.2.1 g.2.1), nR g.2.2.1 + 1, 0, cGo P m g.2.2.2.2.1 g.2.2.2.2.2, hGo P m g.2.2.2.2.1 g.2.2.2.2.2)
theorem cur_gN (P : FL) (m : Nat) (g : GS) : cur (gN P m g) = sk P m (cur g) := by
  show stN P m (nR g.2.2.1) (stR g.2.2.1 g.1) (nR g.2.2.1 + 1) = _
  unfold stN
  rw [if_neg (by omega), stR_n]
def GOK (P : FL) (B : Nat) (g : GS) : Prop := CoOK P B g.1 g.2.1 g.2.2.1 g.2.2.2.1 ∧ QOK P g.2.2.2.2.1 g.2.2.2.2.2
theorem GOK.now {P : FL} {B : Nat} {g : GS} (h : GOK P B g) : FOK P B (cur g) := h.1.2.1 _ (by omega)
theorem CoOK.mono {P : FL} {B B' : Nat} {st : Nat → Nat → Nat} {se : Nat → Nat} {n u : Nat} (h : CoOK P B st se n u) (hB : B ≤ B') : CoOK P B' st se n u := ⟨h.1, fun i hi => (h.2.1 i hi).mono hB, h.2.2⟩
theorem GOK.mono {P : FL} {B B' : Nat} {g : GS} (h : GOK P B g) (hB : B ≤ B') : GOK P B' g := ⟨h.1.mono hB, h.2⟩
theorem GOK.new {P : FL} (hF : FlatOK P) {B m : Nat} {g : GS} (h : GOK P B g) (hc : CanR P m (cur g)) : GOK P (B + 1) (gN P m g) := by
  have hn : g.2.2.1 ≤ 100 := by have := h.1.1; omega
  refine ⟨CoOK.new hF h.1.room (nR_lt hn) ?_, h.2.go hF m⟩
  rw [stR_n]
  exact hc
def RC (P : FL) (op : Bool) (g : GS) (sC past F sQ qc qh : AR) : Prop := CRep P sC past F g.1 g.2.1 g.2.2.1 g.2.2.2.1 ∧ QRepC P sQ qc qh op g.2.2.2.2.1 g.2.2.2.2.2
def RM (P : FL) (op : Bool) (g : GS) (sM now rows sets whys mc mh : AR) : Prop := MRep P sM now rows sets whys g.1 g.2.1 g.2.2.1 g.2.2.2.1 ∧ QRepM P sM mc mh op g.2.2.2.2.1 g.2.2.2.2.2
/-- all of the class that a stroke reads and leaves as it is -/
def CG (P : FL) (sG fl kd hA E ov ak nx wy gl : AR) : Prop := FlatOK P ∧ (∀ k, k < 7 → sG k = nI (P 0 k)) ∧ (∀ t, t < P 0 2 → fl t = nI (P 4 t)) ∧ (∀ w, w < P 0 3 → kd w = nI (P 5 w)) ∧ EarsOK P hA E ov ak ∧ FeetOK P nx wy gl
theorem CRep.now {P : FL} {sC past F : AR} {st : Nat → Nat → Nat} {se : Nat → Nat} {n u : Nat} (h : CRep P sC past F st se n u) : FRep P F (st n) := by
  obtain ⟨f, hf, h2, h3, h4, hFr, hen⟩ := h
  exact hFr
theorem c_strike {P : FL} {sC sG sQ past F R fl kd hA E ov ak nx wy gl qc qh : AR} (hC : CG P sG fl kd hA E ov ak nx wy gl) {op : Bool} {B : Nat} {g : GS} (hr : RC P op g sC past F sQ qc qh) (hok : GOK P B g) (hB : B < 2 ^ 30) {x : Int32} {post : Int32 → AR → AR → AR → AR → AR → AR → AR → Prop}
    (h1 : ∀ m, x = nI m → CanR P m (cur g) → ∀ sC' sQ' past' F' R' qc' qh', RC P op (gN P m g) sC' past' F' sQ' qc' qh' → (∀ j, 4 < j → sC' j = sC j) → post (nI (dIn P m (cur g))) sC' sQ' past' F' R' qc' qh')
    (h0 : (¬ ∃ m, x = nI m ∧ CanR P m (cur g)) → post (-1 : Int32) (upd sC 6 (sC 6 + 1)) sQ past F R qc qh) : wpX10_strike sC sG sQ past F R fl kd hA E ov ak nx wy gl qc qh x post := by
  obtain ⟨hF, hs, hfl, hkd, hE, hW'⟩ := hC
  unfold wpX10_strike
  refine c_canRing hF hs hr.1.now hok.now (fun m e hc => ⟨fun _ => ?_, fun z => absurd z (by decide)⟩) (fun e => ⟨fun z => absurd rfl z, fun _ => nm_e (h0 e)⟩)
  subst e
  refine c_strikeNew hF hs hE hW' hfl hkd hc hr.1 hok.1 hB (fun sC' past' F' R' q1 q2 => ?_)
  rw [dIn_eq hF]
  exact c_goOn hF hE hW' hc.1 hr.2 hok.2 (fun sQ' qc' qh' q3 => h1 m rfl hc _ _ _ _ _ _ _ ⟨q1, q3⟩ q2)
theorem MRep.drop {P : FL} {sM sM' now rows sets whys : AR} {st : Nat → Nat → Nat} {se : Nat → Nat} {n u : Nat} (h : MRep P sM now rows sets whys st se n u) (h30 : sM' 30 = sM 30) (h31 : sM' 31 = 0) : MRep P sM' now rows sets whys st se n 0 := ⟨by rw [h30]; exact h.1, h31, h.2.2.1, fun i hi => h.2.2.2 i (by omega)⟩
theorem m_strike {P : FL} {s tc rg vc fl kd mi now rows sets whys wh mc mh sM : AR} (hF : FlatOK P) (hG : GRep P s tc rg vc fl kd mi) {m B : Nat} {op : Bool} {g : GS} {sM0 : AR} (hc : CanR P m (cur g)) (hr : RM P op g sM0 now rows sets whys mc mh) (hok : GOK P B g) (hB : B < 2 ^ 30) (h30 : sM 30 = sM0 30) (h31 : sM 31 = 0) (h36 : sM 36 = sM0 36) {post : Int32 → AR → AR → AR → AR → AR → AR → AR → AR → Prop}
    (hk : ∀ sM' now' wh' rows' sets' whys' mc' mh', RM P op (gN P m g) sM' now' rows' sets' whys' mc' mh' → (∀ j, j ≠ 24 → j ≠ 25 → j ≠ 30 → sM' j = sM j) → post (nI (dIn P m (cur g))) sM' now' wh' rows' sets' whys' mc' mh') : wpX11_doStroke sM s tc rg vc kd now fl mi wh rows sets whys mc mh (nI m) post := by
  refine m_doNew hF hG hc (hr.1.drop h30 h31) hok.1.drop hB ⟨by rw [h36]; exact hr.2.1, hr.2.2⟩ hok.2 (fun sM' now' wh' rows' sets' whys' mc' mh' p1 p2 p3 => ?_)
  exact hk _ _ _ _ _ _ _ _ ⟨p1, p3⟩ p2
theorem m_stroke {P : FL} {s tc rg vc fl kd mi now stt rows sets whys wh mc mh sM : AR} (hF : FlatOK P) (hG : GRep P s tc rg vc fl kd mi) {B : Nat} {op : Bool} {g : GS} (hr : RM P op g sM now rows sets whys mc mh) (hok : GOK P B g) (hB : B < 2 ^ 30) {x : Int32} {post : Int32 → AR → AR → AR → AR → AR → AR → AR → AR → AR → Prop}
    (h1 : ∀ m, x = nI m → CanR P m (cur g) → ∀ sM' now' wh' rows' sets' whys' mc' mh', RM P op (gN P m g) sM' now' rows' sets' whys' mc' mh' → sM' 2 = 0 → (∀ j, j ≠ 2 → j ≠ 24 → j ≠ 25 → j ≠ 30 → j ≠ 31 → sM' j = sM j) → post (nI (dIn P m (cur g))) sM' now' stt wh' rows' sets' whys' mc' mh')
    (h0 : (¬ ∃ m, x = nI m ∧ CanR P m (cur g)) → post (-1 : Int32) (upd sM 2 0) now (upd stt 1 (stt 1 + 1)) wh rows sets whys mc mh) : wpX11_stroke sM s tc rg vc kd now stt fl mi wh rows sets whys mc mh x post := by
  unfold wpX11_stroke
  refine m_canRing hF hG.1 hr.1.2.2.1 hok.now (fun m e hc => ⟨fun _ => ?_, fun z => absurd z (by decide)⟩) (fun e => ⟨fun z => absurd rfl z, fun _ => nm_e (h0 e)⟩)
  subst e
  refine m_strike hF hG hc hr hok hB (by rw [pk_un (by omega), pk_un (by omega)]) (by rw [pk_us]) (by rw [pk_un (by omega), pk_un (by omega)]) (fun sM' now' wh' rows' sets' whys' mc' mh' p1 p2 => ?_)
  refine h1 m rfl hc _ _ _ _ _ _ _ _ p1 ?_ (fun j j2 ja jb jc jd => ?_)
  · rw [p2 2 (by omega) (by omega) (by omega), pk_un (by omega), pk_us]
  · rw [p2 j ja jb jc, pk_un jd, pk_un j2]
/-! rows of strokes -/
def gIt (P : FL) (ms : Nat → Nat) (g : GS) : Nat → GS
  | 0 => g
  | i + 1 => gN P (ms i) (gIt P ms g i)
/-- a row of sets: the first R are rung, and then it ends, or the next is refused -/
def Rw (P : FL) (xs : Nat → Int32) (ms : Nat → Nat) (g : GS) (R N : Nat) : Prop := R ≤ N ∧ (∀ i, i < R → xs i = nI (ms i) ∧ CanR P (ms i) (cur (gIt P ms g i))) ∧ (R < N → ¬ ∃ m, xs R = nI m ∧ CanR P m (cur (gIt P ms g R)))
theorem Rw.ex (P : FL) (xs : Nat → Int32) (ms : Nat → Nat) (hms : ∀ i, ms i = (xs i).toNatClampNeg) (hF : FlatOK P) (g : GS) : ∀ N, ∃ R, Rw P xs ms g R N := by
  intro N
  have h32 := p2_le hF.1.2.2.2.2.1
  induction N with
  | zero => exact ⟨0, Nat.le_refl _, fun i hi => by omega, fun h => by omega⟩
  | succ N ih =>
    obtain ⟨R, h1, h2, h3⟩ := ih
    by_cases e : R < N
    · exact ⟨R, by omega, h2, fun _ => h3 e⟩
    · have e1 : R = N := by omega
      subst e1
      by_cases e2 : ∃ m, xs R = nI m ∧ CanR P m (cur (gIt P ms g R))
      · obtain ⟨m, q1, q2⟩ := e2
        have e3 : ms R = m := by rw [hms, q1, nI_clamp (by have := q2.1; omega)]
        refine ⟨R + 1, Nat.le_refl _, fun i hi => ?_, fun h => by omega⟩
        by_cases e4 : i = R
        · subst e4; rw [e3]; exact ⟨q1, q2⟩
        · exact h2 i (by omega)
      · exact ⟨R, by omega, h2, fun _ => e2⟩
theorem gIt_ok {P : FL} (hF : FlatOK P) {xs : Nat → Int32} {ms : Nat → Nat} {g : GS} {B : Nat} (hok : GOK P B g) : ∀ i, (∀ j, j < i → CanR P (ms j) (cur (gIt P ms g j))) → GOK P (B + i) (gIt P ms g i) := by
  intro i
  induction i with
  | zero => intro _; exact hok
  | succ i ih => intro h; exact (ih (fun j hj => h j (by omega))).new hF (h i (by omega))
theorem nI_nem {d : Nat} (h : d < 2 ^ 31) : ¬ nI d = (-1 : Int32) := fun z => by
  rw [show (nI d = (-1 : Int32)) = False from n_eqneg (b := 1) (by omega) h (by omega)] at z
  exact z
theorem c_ring {P : FL} {sC sG sQ past F R0 fl kd hA E ov ak nx wy gl qc qh : AR} (hC : CG P sG fl kd hA E ov ak nx wy gl) {op : Bool} {B : Nat} {g : GS} (hr : RC P op g sC past F sQ qc qh) (hok : GOK P B g) {x : Int32} {N R : Nat} {ms : Nat → Nat} (hN : N ≤ 200) (hB : B + N < 2 ^ 30) (hw : Rw P (fun _ => x) ms g R N) {post : Int32 → AR → AR → AR → AR → AR → AR → AR → Prop} {postX : String → Prop}
    (hk : ∀ sC' sQ' past' F' R' qc' qh', RC P op (gIt P ms g R) sC' past' F' sQ' qc' qh' → sC' 5 = sC 5 → sC' 6 = (if R < N then sC 6 + 1 else sC 6) → post (nI R) sC' sQ' past' F' R' qc' qh') : wpX10_ring sC sG sQ past F R0 fl kd hA E ov ak nx wy gl qc qh x (nI N) post postX := by
  have hF := hC.1
  obtain ⟨w1, w2, w3⟩ := hw
  unfold wpX10_ring
  refine ⟨fun z => absurd ((nI_ltI (b := 0) (by omega) (by omega)).mp z) (by omega), fun _ => ⟨fun _ => ?_, fun z => absurd ((nI_leI (b := 200) (by omega) (by omega)).mpr hN) z⟩⟩
  refine loop_m (fun n (q : Nat × AR × AR × AR × AR × AR × AR × AR) => wpX10_ring_L24 sG fl kd hA E ov ak nx wy gl x (nI N) _ post postX n q.2.1 q.2.2.1 q.2.2.2.1 q.2.2.2.2.1 q.2.2.2.2.2.1 q.2.2.2.2.2.2.1 q.2.2.2.2.2.2.2 (nI q.1)) (fun q => q.1 ≤ R ∧ RC P op (gIt P ms g q.1) q.2.1 q.2.2.2.1 q.2.2.2.2.1 q.2.2.1 q.2.2.2.2.2.2.1 q.2.2.2.2.2.2.2 ∧ q.2.1 5 = sC 5 ∧ q.2.1 6 = sC 6) (fun q => R - q.1) ?_ (0, sC, sQ, past, F, R0, qc, qh) ⟨by omega, hr, rfl, rfl⟩
  rintro n ⟨i, sC1, sQ1, past1, F1, R1, qc1, qh1⟩ ⟨g1, g2, g3, g4⟩ hnext
  have g1 : i ≤ R := g1
  have g2 : RC P op (gIt P ms g i) sC1 past1 F1 sQ1 qc1 qh1 := g2
  have g3 : sC1 5 = sC 5 := g3
  have g4 : sC1 6 = sC 6 := g4
  have hoki := gIt_ok hF (xs := fun _ => x) hok i (fun j hj => (w2 j (by omega)).2)
  show wpX10_ring_L24 sG fl kd hA E ov ak nx wy gl x (nI N) _ post postX (n + 1) sC1 sQ1 past1 F1 R1 qc1 qh1 (nI i)
  unfold wpX10_ring_L24
  by_cases e : i < N
  · refine ⟨fun z => absurd z (nI_ge e (by omega)), fun _ => ?_⟩
    refine c_strike hC g2 hoki (by omega) (fun m q1 q2 sC' sQ' past' F' R' qc' qh' p1 p2 => ?_) (fun q => ?_)
    · have hd := dIn_le hF m (cur (gIt P ms g i))
      have hR : i < R := by
        rcases Nat.lt_or_ge i R with h | h
        · exact h
        · have : i = R := by omega
          subst this
          exact absurd ⟨m, q1, q2⟩ (w3 e)
      have em : m = ms i := nI_inj32 (by have := q2.1; have := p2_le hF.1.2.2.2.2.1; omega) (by have := (w2 i hR).2.1; have := p2_le hF.1.2.2.2.2.1; omega) (q1.symm.trans (w2 i hR).1)
      subst em
      refine ⟨fun _ => nm_r (nI_1 i) (hnext (i + 1, sC', sQ', past', F', R', qc', qh') ⟨hR, p1, ?_, ?_⟩ ?_), fun z => absurd z (nI_nem (by omega))⟩
      · show sC' 5 = _; rw [p2 5 (by omega)]; exact g3
      · show sC' 6 = _; rw [p2 6 (by omega)]; exact g4
      · show R - (i + 1) < R - i; omega
    · have hR : i = R := by
        rcases Nat.lt_or_ge i R with h | h
        · exact absurd ⟨ms i, (w2 i h).1, (w2 i h).2⟩ q
        · omega
      subst hR
      refine ⟨fun z => absurd rfl z, fun _ => hk _ _ _ _ _ _ _ ⟨?_, g2.2⟩ ?_ ?_⟩
      · obtain ⟨f, hf, h2, h3, h4, hFr, hen⟩ := g2.1
        exact ⟨f, hf, by rw [pk_un (by omega)]; exact h2, by rw [pk_un (by omega)]; exact h3, by rw [pk_un (by omega)]; exact h4, hFr, hen⟩
      · rw [pk_un (by omega)]; exact g3
      · rw [pk_us, if_pos e, g4]
  · have e1 : i = N := by omega
    have e2 : R = N := by omega
    subst e1
    refine ⟨fun _ => ?_, fun z => absurd (nI_le (Nat.le_refl _) (by omega)) z⟩
    have := hk sC1 sQ1 past1 F1 R1 qc1 qh1 (by rw [e2]; exact g2) g3 (by rw [if_neg (by omega)]; exact g4)
    rw [e2] at this
    exact this
theorem m_ring {P : FL} {s tc rg vc fl kd mi now stt rows sets whys wh mc mh sM : AR} (hF : FlatOK P) (hG : GRep P s tc rg vc fl kd mi) {op : Bool} {B : Nat} {g : GS} (hr : RM P op g sM now rows sets whys mc mh) (hok : GOK P B g) {x : Int32} {N R : Nat} {ms : Nat → Nat} (hN : N ≤ 200) (hB : B + N < 2 ^ 30) (hw : Rw P (fun _ => x) ms g R N) {post : Int32 → AR → AR → AR → AR → AR → AR → AR → AR → AR → Prop}
    (hk : ∀ sM' now' stt' wh' rows' sets' whys' mc' mh', RM P op (gIt P ms g R) sM' now' rows' sets' whys' mc' mh' → sM' 2 = 0 → (∀ j, j ≠ 2 → j ≠ 24 → j ≠ 25 → j ≠ 30 → j ≠ 31 → sM' j = sM j) → stt' 0 = stt 0 → stt' 1 = (if R < N then stt 1 + 1 else stt 1) → post (nI R) sM' now' stt' wh' rows' sets' whys' mc' mh') : wpX11_ring sM s tc rg vc kd now stt fl mi wh rows sets whys mc mh x (nI N) post := by
  obtain ⟨w1, w2, w3⟩ := hw
  unfold wpX11_ring
  have hin : ∀ {post : Int32 → Prop}, post 1 → wpX11_isIn (nI N) (0 : Int32) (200 : Int32) post := by
    intro post h
    have := m_in1 (v := N) (b := 201) (by omega) (by omega) (post := post) h
    rw [show nI 201 - (1 : Int32) = (200 : Int32) from pk_sub (a := 201) (b := 1) (by omega)] at this
    exact this
  refine hin ⟨fun _ => ?_, fun z => absurd z (by decide)⟩
  have hr0 : RM P op g (upd sM 2 0) now rows sets whys mc mh := ⟨⟨by rw [pk_un (by omega)]; exact hr.1.1, by rw [pk_un (by omega)]; exact hr.1.2.1, hr.1.2.2⟩, ⟨by rw [pk_un (by omega)]; exact hr.2.1, hr.2.2⟩⟩
  refine loop_m (fun n (q : Nat × AR × AR × AR × AR × AR × AR × AR × AR × AR) => wpX11_ring_L24 s tc rg vc kd fl mi x (nI N) _ post n q.2.1 q.2.2.1 q.2.2.2.1 q.2.2.2.2.1 q.2.2.2.2.2.1 q.2.2.2.2.2.2.1 q.2.2.2.2.2.2.2.1 q.2.2.2.2.2.2.2.2.1 q.2.2.2.2.2.2.2.2.2 (nI q.1)) (fun q => q.1 ≤ R ∧ RM P op (gIt P ms g q.1) q.2.1 q.2.2.1 q.2.2.2.2.2.1 q.2.2.2.2.2.2.1 q.2.2.2.2.2.2.2.1 q.2.2.2.2.2.2.2.2.1 q.2.2.2.2.2.2.2.2.2 ∧ q.2.2.2.1 0 = stt 0 ∧ q.2.2.2.1 1 = stt 1 ∧ q.2.1 2 = 0 ∧ ∀ j, j ≠ 2 → j ≠ 24 → j ≠ 25 → j ≠ 30 → j ≠ 31 → q.2.1 j = sM j) (fun q => R - q.1) ?_ (0, upd sM 2 0, now, stt, wh, rows, sets, whys, mc, mh) ⟨by omega, hr0, rfl, rfl, show upd sM 2 0 2 = 0 from pk_us, fun j j2 _ _ _ _ => show upd sM 2 0 j = sM j from pk_un j2⟩
  rintro n ⟨i, sM1, now1, stt1, wh1, rows1, sets1, whys1, mc1, mh1⟩ ⟨g1, g2, g3, g4, g5, g6⟩ hnext
  have g1 : i ≤ R := g1
  have g2 : RM P op (gIt P ms g i) sM1 now1 rows1 sets1 whys1 mc1 mh1 := g2
  have g3 : stt1 0 = stt 0 := g3
  have g4 : stt1 1 = stt 1 := g4
  have g5 : sM1 2 = 0 := g5
  have g6 : ∀ j, j ≠ 2 → j ≠ 24 → j ≠ 25 → j ≠ 30 → j ≠ 31 → sM1 j = sM j := g6
  have hoki := gIt_ok hF (xs := fun _ => x) hok i (fun j hj => (w2 j (by omega)).2)
  show wpX11_ring_L24 s tc rg vc kd fl mi x (nI N) _ post (n + 1) sM1 now1 stt1 wh1 rows1 sets1 whys1 mc1 mh1 (nI i)
  unfold wpX11_ring_L24
  by_cases e : i < N
  · refine ⟨fun z => absurd z (nI_ge e (by omega)), fun _ => ?_⟩
    refine m_stroke hF hG g2 hoki (by omega) (fun m q1 q2 sM' now' wh' rows' sets' whys' mc' mh' p1 p2 p3 => ?_) (fun q => ?_)
    · have hd := dIn_le hF m (cur (gIt P ms g i))
      have hR : i < R := by
        rcases Nat.lt_or_ge i R with h | h
        · exact h
        · have : i = R := by omega
          subst this
          exact absurd ⟨m, q1, q2⟩ (w3 e)
      have em : m = ms i := nI_inj32 (by have := q2.1; have := p2_le hF.1.2.2.2.2.1; omega) (by have := (w2 i hR).2.1; have := p2_le hF.1.2.2.2.2.1; omega) (q1.symm.trans (w2 i hR).1)
      subst em
      refine ⟨fun z => absurd z (nI_nem (by omega)), fun _ => nm_r (nI_1 i) (hnext (i + 1, sM', now', stt1, wh', rows', sets', whys', mc', mh') ⟨hR, p1, g3, g4, p2, ?_⟩ ?_)⟩
      · intro j j2 ja jb jc jd
        show sM' j = _
        rw [p3 j j2 ja jb jc jd]; exact g6 j j2 ja jb jc jd
      · show R - (i + 1) < R - i; omega
    · have hR : i = R := by
        rcases Nat.lt_or_ge i R with h | h
        · exact absurd ⟨ms i, (w2 i h).1, (w2 i h).2⟩ q
        · omega
      subst hR
      refine ⟨fun _ => hk _ _ _ _ _ _ _ _ _ ⟨⟨?_, ?_, g2.1.2.2⟩, ⟨?_, g2.2.2⟩⟩ (pk_us) (fun j j2 ja jb jc jd => by rw [pk_un j2]; exact g6 j j2 ja jb jc jd) ?_ ?_, fun z => absurd rfl z⟩
      · rw [pk_un (by omega)]; exact g2.1.1
      · rw [pk_un (by omega)]; exact g2.1.2.1
      · rw [pk_un (by omega)]; exact g2.2.1
      · rw [pk_un (by omega)]; exact g3
      · rw [pk_us, if_pos e, g4]
  · have e1 : i = N := by omega
    have e2 : R = N := by omega
    subst e1
    refine ⟨fun _ => ?_, fun z => absurd (nI_le (Nat.le_refl _) (by omega)) z⟩
    have := hk sM1 now1 stt1 wh1 rows1 sets1 whys1 mc1 mh1 (by rw [e2]; exact g2) g5 g6 g3 (by rw [if_neg (by omega)]; exact g4)
    rw [e2] at this
    exact this
