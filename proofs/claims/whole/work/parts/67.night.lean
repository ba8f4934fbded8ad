/-! nights -/
theorem n_sh16 (v : Int32) : jush v (16 : Int32) &&& (1 : Int32) = jshr v (16 : Int32) &&& (1 : Int32) := by
  apply Int32.toBitVec_inj.1
  have e1 : (v.toUInt32 >>> ((16 : Int32).toUInt32 &&& Int32.toUInt32 31)).toInt32.toBitVec = v.toBitVec >>> (16 : Nat) := UInt32.toBitVec_shiftRight _ _
  have e2 : (v >>> ((16 : Int32) &&& 31)).toBitVec = v.toBitVec.sshiftRight 16 := rfl
  show (v.toUInt32 >>> ((16 : Int32).toUInt32 &&& Int32.toUInt32 31)).toInt32.toBitVec &&& 1#32 = (v >>> ((16 : Int32) &&& 31)).toBitVec &&& 1#32
  rw [e1, e2]
  apply BitVec.eq_of_getLsbD_eq
  intro i hi
  rw [BitVec.getLsbD_and, BitVec.getLsbD_and, BitVec.getLsbD_ushiftRight, BitVec.getLsbD_sshiftRight, BitVec.getLsbD_one]
  by_cases e : i = 0
  · subst e; simp
  · simp [e]
def lcg (v : Int32) : Int32 := v * (1103515245 : Int32) + (12345 : Int32)
def sd (v : Int32) : Nat → Int32
  | 0 => v
  | t + 1 => lcg (sd v t)
def nsl (v : Int32) (a : Nat → Nat) : Nat → Bool := fun t => decide (jshr (sd v (t + 1)) (16 : Int32) &&& (1 : Int32) = (1 : Int32)) && decide (0 < a (24 + t))
def nset (P : FL) (v : Int32) (a : Nat → Nat) : Nat := bm (nsl v a) (P 0 2)
theorem nset_can (P : FL) (v : Int32) (a : Nat → Nat) : CanR P (nset P v a) a := by
  refine ⟨bm_lt _ _, fun t ht => ?_⟩
  have h1 := bt1_lt (nset P v a) t
  by_cases e : bt1 (nset P v a) t = 1
  · have h2 := (bm_bit (nsl v a) (P 0 2) t ht).mp e
    unfold nsl at h2
    rw [Bool.and_eq_true, decide_eq_true_eq, decide_eq_true_eq] at h2
    omega
  · omega
theorem c_nset {P : FL} {sG sC sQ fl kd past F R hA E ov ak nx wy gl qc qh : AR} (hF : FlatOK P) (hs : ∀ k, k < 7 → sG k = nI (P 0 k)) {a : Nat → Nat} {B : Nat} (ha : FRep P F a) (hok : FOK P B a) {v l2 l4 l5 : Int32} {kx : Int32 → Int32 → Int32 → Prop} {post : Int32 → AR → AR → AR → AR → AR → AR → AR → Prop} {postX : String → Prop} (hk : ∀ y, kx (sd v (P 0 2)) (nI (nset P v a)) y) : ∃ n, wpX10_night_L41 sG sC sQ fl kd past F R hA E ov ak nx wy gl qc qh l2 l4 l5 kx post postX n v (0 : Int32) (0 : Int32) := by
  have f5 := hF.1.2.2.2.2.1
  refine loop_0 (fun n i (q : Int32 × Int32) => wpX10_night_L41 sG sC sQ fl kd past F R hA E ov ak nx wy gl qc qh l2 l4 l5 kx post postX n q.1 q.2 (nI i)) (fun i q => q.1 = sd v i ∧ q.2 = nI (bm (nsl v a) i)) (P 0 2) (v, nI 0) ⟨rfl, rfl⟩ ?_ ?_
  · rintro n ⟨q1, q2⟩ ⟨h1, h2⟩
    show wpX10_night_L41 sG sC sQ fl kd past F R hA E ov ak nx wy gl qc qh l2 l4 l5 kx post postX (n + 1) q1 q2 (nI (P 0 2))
    have h1 : q1 = sd v (P 0 2) := h1
    have h2 : q2 = nI (bm (nsl v a) (P 0 2)) := h2
    subst h1 h2
    unfold wpX10_night_L41
    rw [hs 2 (by omega)]
    exact ⟨fun _ => hk _, fun z => absurd (nI_le (Nat.le_refl _) (by omega)) z⟩
  · rintro n i ⟨q1, q2⟩ hi ⟨h1, h2⟩ hnext
    show wpX10_night_L41 sG sC sQ fl kd past F R hA E ov ak nx wy gl qc qh l2 l4 l5 kx post postX (n + 1) q1 q2 (nI i)
    have h1 : q1 = sd v i := h1
    have h2 : q2 = nI (bm (nsl v a) i) := h2
    subst h1 h2
    have ho := hok.2 i hi
    unfold wpX10_night_L41 wpX3_strokesLeft
    rw [hs 2 (by omega)]
    refine ⟨fun z => absurd z (nI_ge hi (by omega)), fun _ => nm_r (e' := sd v (i + 1)) rfl ?_⟩
    rw [n_sh16, show (24 : Int32) + nI i = nI (24 + i) from nI_add 24 i, nI_clamp (by omega), ha.2 i hi]
    refine ⟨fun e => nm_r (nI_1 i) (hnext (sd v (i + 1), nI (bm (nsl v a) i)) ⟨rfl, ?_⟩), fun e => ⟨vp_in_nI (by omega) (by omega), fun e1 => nm_r (nI_1 i) (hnext (sd v (i + 1), nI (bm (nsl v a) i)) ⟨rfl, ?_⟩), fun e1 => nm_e (nm_r (nI_1 i) (hnext (sd v (i + 1), _) ⟨rfl, ?_⟩))⟩⟩
    · show nI _ = nI _
      rw [bm, if_neg (by unfold nsl; rw [decide_eq_false e]; simp), Nat.add_zero]
    · show nI _ = nI _
      have : ¬ 0 < a (24 + i) := by have := (nI_leI (b := 0) (by omega) (by omega)).mp e1; omega
      rw [bm, if_neg (by unfold nsl; rw [decide_eq_false this]; simp), Nat.add_zero]
    · show _ ||| _ = nI _
      have : 0 < a (24 + i) := by
        rcases Nat.eq_zero_or_pos (a (24 + i)) with h | h
        · exact absurd (by rw [h]; decide) e1
        · exact h
      rw [show jshl (1 : Int32) (nI i) = nI (2 ^ i) from n_shl (by omega), n_or, bm_or, bm, if_pos (by unfold nsl; rw [decide_eq_true e, decide_eq_true this]; rfl)]
theorem m_nset {P : FL} {sM s tc rg vc kd now fl mi wh rows sets whys mc mh : AR} (hF : FlatOK P) (hs : ∀ k, k < 7 → s k = nI (P 0 k)) {a : Nat → Nat} {B : Nat} (ha : FRep P now a) (hok : FOK P B a) {v l2 l4 l5 : Int32} {kx : Int32 → Int32 → Int32 → Prop} {post : Int32 → AR → AR → AR → AR → AR → AR → AR → AR → Prop} (hk : ∀ y, kx (sd v (P 0 2)) (nI (nset P v a)) y) : ∃ n, wpX11_night_L41 sM s tc rg vc kd now fl mi wh rows sets whys mc mh l2 l4 l5 kx post n v (0 : Int32) (0 : Int32) := by
  have f5 := hF.1.2.2.2.2.1
  refine loop_0 (fun n i (q : Int32 × Int32) => wpX11_night_L41 sM s tc rg vc kd now fl mi wh rows sets whys mc mh l2 l4 l5 kx post n q.1 q.2 (nI i)) (fun i q => q.1 = sd v i ∧ q.2 = nI (bm (nsl v a) i)) (P 0 2) (v, nI 0) ⟨rfl, rfl⟩ ?_ ?_
  · rintro n ⟨q1, q2⟩ ⟨h1, h2⟩
    show wpX11_night_L41 sM s tc rg vc kd now fl mi wh rows sets whys mc mh l2 l4 l5 kx post (n + 1) q1 q2 (nI (P 0 2))
    have h1 : q1 = sd v (P 0 2) := h1
    have h2 : q2 = nI (bm (nsl v a) (P 0 2)) := h2
    subst h1 h2
    unfold wpX11_night_L41
    rw [hs 2 (by omega)]
    exact ⟨fun _ => hk _, fun z => absurd (nI_le (Nat.le_refl _) (by omega)) z⟩
  · rintro n i ⟨q1, q2⟩ hi ⟨h1, h2⟩ hnext
    show wpX11_night_L41 sM s tc rg vc kd now fl mi wh rows sets whys mc mh l2 l4 l5 kx post (n + 1) q1 q2 (nI i)
    have h1 : q1 = sd v i := h1
    have h2 : q2 = nI (bm (nsl v a) i) := h2
    subst h1 h2
    have ho := hok.2 i hi
    unfold wpX11_night_L41 wpX11_night_J95
    rw [hs 2 (by omega)]
    have e0 : nsl v a i = false → nI (bm (nsl v a) i) ||| (0 : Int32) = nI (bm (nsl v a) (i + 1)) := by
      intro e
      rw [show (0 : Int32) = nI 0 from rfl, n_or, Nat.or_zero, bm, e]
      rfl
    refine ⟨fun z => absurd z (nI_ge hi (by omega)), fun _ => nm_r (e' := sd v (i + 1)) rfl ?_⟩
    rw [show (24 : Int32) + nI i = nI (24 + i) from nI_add 24 i, nI_clamp (by omega), ha.2 i hi]
    refine ⟨fun e => nm_r (e0 ?_) (nm_r (nI_1 i) (hnext (sd v (i + 1), nI (bm (nsl v a) (i + 1))) ⟨rfl, rfl⟩)), fun e => ⟨vp_in_nI (by omega) (by omega), fun e1 => nm_r (e0 ?_) (nm_r (nI_1 i) (hnext (sd v (i + 1), nI (bm (nsl v a) (i + 1))) ⟨rfl, rfl⟩)), fun e1 => nm_e (nm_r (nI_1 i) (hnext (sd v (i + 1), _) ⟨rfl, ?_⟩))⟩⟩
    · unfold nsl; rw [decide_eq_false e]; simp
    · have : ¬ 0 < a (24 + i) := by have := (nI_leI (b := 0) (by omega) (by omega)).mp e1; omega
      unfold nsl; rw [decide_eq_false this]; simp
    · show _ ||| _ = nI _
      have : 0 < a (24 + i) := by
        rcases Nat.eq_zero_or_pos (a (24 + i)) with h | h
        · exact absurd (by rw [h]; decide) e1
        · exact h
      rw [show jshl (1 : Int32) (nI i) = nI (2 ^ i) from n_shl (by omega), n_or, bm_or, bm, if_pos (by unfold nsl; rw [decide_eq_true e, decide_eq_true this]; rfl)]
def nst (P : FL) (v : Int32) (g : GS) : Nat → Int32 × GS × Nat
  | 0 => (v, g, 0)
  | i + 1 => (sd (nst P v g i).1 (P 0 2), gN P (nset P (nst P v g i).1 (cur (nst P v g i).2.1)) (nst P v g i).2.1, (nst P v g i).2.2 + dIn P (nset P (nst P v g i).1 (cur (nst P v g i).2.1)) (cur (nst P v g i).2.1))
theorem nst_ok {P : FL} (hF : FlatOK P) {v : Int32} {g : GS} {B : Nat} (hok : GOK P B g) : ∀ i, GOK P (B + i) (nst P v g i).2.1 := by
  intro i
  induction i with
  | zero => exact hok
  | succ i ih => exact ih.new hF (nset_can _ _ _)
theorem c_night {P : FL} {sC sG sQ past F R0 fl kd hA E ov ak nx wy gl qc qh : AR} (hC : CG P sG fl kd hA E ov ak nx wy gl) {op : Bool} {B : Nat} {g : GS} (hr : RC P op g sC past F sQ qc qh) (hok : GOK P B g) {v : Int32} {N : Nat} (hN : N ≤ 100) (hB : B + N < 2 ^ 30) {post : Int32 → AR → AR → AR → AR → AR → AR → AR → Prop} {postX : String → Prop}
    (hk : ∀ sC' sQ' past' F' R' qc' qh', RC P op (nst P v g N).2.1 sC' past' F' sQ' qc' qh' → (∀ j, 4 < j → sC' j = sC j) → post (nI (nst P v g N).2.2) sC' sQ' past' F' R' qc' qh') : wpX10_night sG sC sQ fl kd past F R0 hA E ov ak nx wy gl qc qh v (nI N) post postX := by
  have hF := hC.1
  unfold wpX10_night
  refine ⟨fun z => absurd ((nI_ltI (b := 0) (by omega) (by omega)).mp z) (by omega), fun _ => ⟨fun _ => ?_, fun z => absurd ((nI_leI (b := 100) (by omega) (by omega)).mpr hN) z⟩⟩
  refine loop_0 (fun n i (q : AR × AR × AR × AR × AR × AR × AR × Int32 × Int32) => wpX10_night_L29 sG fl kd hA E ov ak nx wy gl (nI N) _ post postX n q.1 q.2.1 q.2.2.1 q.2.2.2.1 q.2.2.2.2.1 q.2.2.2.2.2.1 q.2.2.2.2.2.2.1 q.2.2.2.2.2.2.2.1 q.2.2.2.2.2.2.2.2 (nI i)) (fun i q => RC P op (nst P v g i).2.1 q.1 q.2.2.1 q.2.2.2.1 q.2.1 q.2.2.2.2.2.1 q.2.2.2.2.2.2.1 ∧ q.2.2.2.2.2.2.2.1 = (nst P v g i).1 ∧ q.2.2.2.2.2.2.2.2 = nI (nst P v g i).2.2 ∧ ∀ j, 4 < j → q.1 j = sC j) N (sC, sQ, past, F, R0, qc, qh, v, nI 0) ⟨hr, rfl, rfl, fun _ _ => rfl⟩ ?_ ?_
  · rintro n ⟨sC1, sQ1, past1, F1, R1, qc1, qh1, v1, c1⟩ ⟨g1, g2, g3, g4⟩
    show wpX10_night_L29 sG fl kd hA E ov ak nx wy gl (nI N) _ post postX (n + 1) sC1 sQ1 past1 F1 R1 qc1 qh1 v1 c1 (nI N)
    have g3 : c1 = nI (nst P v g N).2.2 := g3
    subst g3
    unfold wpX10_night_L29
    exact ⟨fun _ => hk _ _ _ _ _ _ _ g1 g4, fun z => absurd (nI_le (Nat.le_refl _) (by omega)) z⟩
  · rintro n i ⟨sC1, sQ1, past1, F1, R1, qc1, qh1, v1, c1⟩ hi ⟨g1, g2, g3, g4⟩ hnext
    show wpX10_night_L29 sG fl kd hA E ov ak nx wy gl (nI N) _ post postX (n + 1) sC1 sQ1 past1 F1 R1 qc1 qh1 v1 c1 (nI i)
    have g1 : RC P op (nst P v g i).2.1 sC1 past1 F1 sQ1 qc1 qh1 := g1
    have g2 : v1 = (nst P v g i).1 := g2
    have g3 : c1 = nI (nst P v g i).2.2 := g3
    have g4 : ∀ j, 4 < j → sC1 j = sC j := g4
    subst g2 g3
    have hoki := nst_ok hF (v := v) hok i
    unfold wpX10_night_L29
    refine ⟨fun z => absurd z (nI_ge hi (by omega)), fun _ => ?_⟩
    refine c_nset hF hC.2.1 g1.1.now hoki.now (fun y => ?_)
    refine c_strike hC g1 hoki (by omega) (fun m q1 q2 sC' sQ' past' F' R' qc' qh' p1 p2 => ?_) (fun q => absurd ⟨_, rfl, nset_can _ _ _⟩ q)
    have em : nset P (nst P v g i).1 (cur (nst P v g i).2.1) = m := nI_inj32 (by have := (nset_can P (nst P v g i).1 (cur (nst P v g i).2.1)).1; have := p2_le hF.1.2.2.2.2.1; omega) (by have := q2.1; have := p2_le hF.1.2.2.2.2.1; omega) q1
    subst em
    exact nm_r (nI_add _ _) (nm_r (nI_1 i) (hnext (sC', sQ', past', F', R', qc', qh', _, _) ⟨p1, rfl, rfl, fun j hj => (p2 j hj).trans (g4 j hj)⟩))
theorem m_night {P : FL} {s tc rg vc fl kd mi now rows sets whys wh mc mh sM : AR} (hF : FlatOK P) (hG : GRep P s tc rg vc fl kd mi) {op : Bool} {B : Nat} {g : GS} (hr : RM P op g sM now rows sets whys mc mh) (hok : GOK P B g) {v : Int32} {N : Nat} (hN : N ≤ 100) (hB : B + N < 2 ^ 30) {post : Int32 → AR → AR → AR → AR → AR → AR → AR → AR → Prop}
    (hk : ∀ sM' now' wh' rows' sets' whys' mc' mh', RM P op (nst P v g N).2.1 sM' now' rows' sets' whys' mc' mh' → sM' 2 = 0 → (∀ j, j ≠ 2 → j ≠ 24 → j ≠ 25 → j ≠ 30 → j ≠ 31 → sM' j = sM j) → post (nI (nst P v g N).2.2) sM' now' wh' rows' sets' whys' mc' mh') : wpX11_night sM s tc rg vc kd now fl mi wh rows sets whys mc mh v (nI N) post := by
  unfold wpX11_night
  have hin : ∀ {post : Int32 → Prop}, post 1 → wpX11_isIn (nI N) (0 : Int32) (100 : Int32) post := by
    intro post h
    have := m_in1 (v := N) (b := 101) (by omega) (by omega) (post := post) h
    rw [show nI 101 - (1 : Int32) = (100 : Int32) from pk_sub (a := 101) (b := 1) (by omega)] at this
    exact this
  refine hin ⟨fun _ => ?_, fun z => absurd z (by decide)⟩
  have hr0 : RM P op g (upd sM 2 0) now rows sets whys mc mh := ⟨⟨by rw [pk_un (by omega)]; exact hr.1.1, by rw [pk_un (by omega)]; exact hr.1.2.1, hr.1.2.2⟩, ⟨by rw [pk_un (by omega)]; exact hr.2.1, hr.2.2⟩⟩
  refine loop_0 (fun n i (q : AR × AR × AR × AR × AR × AR × AR × AR × Int32 × Int32) => wpX11_night_L29 s tc rg vc kd fl mi (nI N) _ post n q.1 q.2.1 q.2.2.1 q.2.2.2.1 q.2.2.2.2.1 q.2.2.2.2.2.1 q.2.2.2.2.2.2.1 q.2.2.2.2.2.2.2.1 q.2.2.2.2.2.2.2.2.1 q.2.2.2.2.2.2.2.2.2 (nI i)) (fun i q => RM P op (nst P v g i).2.1 q.1 q.2.1 q.2.2.2.1 q.2.2.2.2.1 q.2.2.2.2.2.1 q.2.2.2.2.2.2.1 q.2.2.2.2.2.2.2.1 ∧ q.2.2.2.2.2.2.2.2.1 = (nst P v g i).1 ∧ q.2.2.2.2.2.2.2.2.2 = nI (nst P v g i).2.2 ∧ q.1 2 = 0 ∧ ∀ j, j ≠ 2 → j ≠ 24 → j ≠ 25 → j ≠ 30 → j ≠ 31 → q.1 j = sM j) N (upd sM 2 0, now, wh, rows, sets, whys, mc, mh, v, nI 0) ⟨hr0, rfl, rfl, show upd sM 2 0 2 = 0 from pk_us, fun j j2 _ _ _ _ => show upd sM 2 0 j = sM j from pk_un j2⟩ ?_ ?_
  · rintro n ⟨sM1, now1, wh1, rows1, sets1, whys1, mc1, mh1, v1, c1⟩ ⟨g1, g2, g3, g4, g5⟩
    show wpX11_night_L29 s tc rg vc kd fl mi (nI N) _ post (n + 1) sM1 now1 wh1 rows1 sets1 whys1 mc1 mh1 v1 c1 (nI N)
    have g3 : c1 = nI (nst P v g N).2.2 := g3
    subst g3
    unfold wpX11_night_L29
    exact ⟨fun _ => hk _ _ _ _ _ _ _ _ g1 g4 g5, fun z => absurd (nI_le (Nat.le_refl _) (by omega)) z⟩
  · rintro n i ⟨sM1, now1, wh1, rows1, sets1, whys1, mc1, mh1, v1, c1⟩ hi ⟨g1, g2, g3, g4, g5⟩ hnext
    show wpX11_night_L29 s tc rg vc kd fl mi (nI N) _ post (n + 1) sM1 now1 wh1 rows1 sets1 whys1 mc1 mh1 v1 c1 (nI i)
    have g1 : RM P op (nst P v g i).2.1 sM1 now1 rows1 sets1 whys1 mc1 mh1 := g1
    have g2 : v1 = (nst P v g i).1 := g2
    have g3 : c1 = nI (nst P v g i).2.2 := g3
    have g4 : sM1 2 = 0 := g4
    have g5 : ∀ j, j ≠ 2 → j ≠ 24 → j ≠ 25 → j ≠ 30 → j ≠ 31 → sM1 j = sM j := g5
    subst g2 g3
    have hoki := nst_ok hF (v := v) hok i
    unfold wpX11_night_L29
    refine ⟨fun z => absurd z (nI_ge hi (by omega)), fun _ => ?_⟩
    refine m_nset hF hG.1 g1.1.2.2.1 hoki.now (fun y => ?_)
    refine m_strike hF hG (nset_can _ _ _) g1 hoki (by omega) (by rw [pk_un (by omega)]) (by rw [pk_us]) (by rw [pk_un (by omega)]) (fun sM' now' wh' rows' sets' whys' mc' mh' p1 p2 => ?_)
    refine nm_r (nI_add _ _) (nm_r (nI_1 i) (hnext (sM', now', wh', rows', sets', whys', mc', mh', _, _) ⟨p1, rfl, rfl, ?_, fun j j2 ja jb jc jd => ?_⟩))
    · show sM' 2 = 0
      rw [p2 2 (by omega) (by omega) (by omega), pk_un (by omega)]; exact g4
    · show sM' j = _
      rw [p2 j ja jb jc, pk_un jd]; exact g5 j j2 ja jb jc jd
/-! copies of rows -/
theorem m_be {dst src : AR} {n : Nat} (hn : n < 2 ^ 31) {post : AR → Prop} (hk : ∀ d', (∀ j, j < n → d' j = src j) → post d') : wpX11_be dst src n n post := by
  unfold wpX11_be
  refine loop_0 (fun nn i (q : AR) => wpX11_be_L2 src n n _ post nn q (nI i)) (fun i q => ∀ j, j < i → q j = src j) n dst (fun j hj => by omega) ?_ ?_
  · intro nn q hI
    show wpX11_be_L2 src n n _ post (nn + 1) q (nI n)
    unfold wpX11_be_L2
    exact ⟨fun _ => hk _ hI, fun z => absurd (nI_le (Nat.le_refl n) hn) z⟩
  · intro nn i q hi hI hnext
    show wpX11_be_L2 src n n _ post (nn + 1) q (nI i)
    unfold wpX11_be_L2
    rw [nI_clamp (by omega)]
    refine ⟨fun z => absurd z (nI_ge hi hn), fun _ => ⟨vp_in_nI hi hn, vp_in_nI hi hn, nm_e (nm_r (nI_1 i) (hnext _ (fun j hj => ?_)))⟩⟩
    by_cases e : j = i
    · subst e; rw [pk_us]
    · rw [pk_un e]; exact hI j (by omega)
theorem CRep.copy {P : FL} (hF : FlatOK P) {sC sC' past past' F F' : AR} {st : Nat → Nat → Nat} {se : Nat → Nat} {n u : Nat} (h : CRep P sC past F st se n u) (h2 : sC' 2 = sC 2) (h3 : sC' 3 = sC 3) (h4 : sC' 4 = sC 4) (hp : ∀ j, j < 3400 → past' j = past j) (hf : ∀ j, j < 29 → F' j = F j) : CRep P sC' past' F' st se n u := by
  obtain ⟨f, k1, k2, k3, k4, k5, k6⟩ := h
  refine ⟨f, k1, by rw [h2]; exact k2, by rw [h3]; exact k3, by rw [h4]; exact k4, k5.same hF hf, fun i hi => (k6 i hi).same hF (fun j hj => hp _ ?_)⟩
  have := enC_lt f i
  omega
theorem MRep.copy {P : FL} (hF : FlatOK P) {sM sM' now now' rows rows' sets sets' whys whys' : AR} {st : Nat → Nat → Nat} {se : Nat → Nat} {n u : Nat} (hn : n + u ≤ 100) (h : MRep P sM now rows sets whys st se n u) (h30 : sM' 30 = sM 30) (h31 : sM' 31 = sM 31) (hr : ∀ j, j < 2900 → rows' j = rows j) (hs : ∀ j, j < 100 → sets' j = sets j) (hw : ∀ j, j < 400 → whys' j = whys j) (hf : ∀ j, j < 29 → now' j = now j) : MRep P sM' now' rows' sets' whys' st se n u := by
  obtain ⟨k1, k2, k3, k4⟩ := h
  exact ⟨by rw [h30]; exact k1, by rw [h31]; exact k2, k3.same hF hf, fun i hi => (k4 i hi).same hF (fun j hj => hr _ (by omega)) (hs i (by omega)) (fun j hj => hw _ (by omega))⟩
theorem c_take {P : FL} (hF : FlatOK P) {sC sD past dpast F K : AR} {st : Nat → Nat → Nat} {se : Nat → Nat} {n u : Nat} (h : CRep P sD dpast K st se n u) {post : AR → AR → AR → Prop} (hk : ∀ sC' past' F', CRep P sC' past' F' st se n u → sC' 5 = sD 5 → sC' 6 = sD 6 → post sC' past' F') : wpX0_take sC sD past dpast K F post := by
  unfold wpX0_take wpX3_take
  refine nm_e (nm_e (nm_e (nm_e (nm_e (nm_e (nm_e ?_))))))
  refine hk _ _ _ (h.copy hF ?_ ?_ ?_ (fun j hj => ?_) (fun j hj => ?_)) ?_ ?_
  · rw [pk_un (by omega), pk_un (by omega), pk_un (by omega), pk_un (by omega), pk_us]
  · rw [pk_un (by omega), pk_un (by omega), pk_un (by omega), pk_us]
  · rw [pk_un (by omega), pk_un (by omega), pk_us]
  · rw [pk_cpy_in (by omega) (by omega)]; congr 1; omega
  · rw [pk_cpy_in (by omega) (by omega)]; congr 1; omega
  · rw [pk_un (by omega), pk_us]
  · rw [pk_us]
