/-- the reference's own numbers that a stroke leaves -/
def K1 (s s' : AR) : Prop := s' 14 = s 14 ∧ s' 23 = s 23 ∧ s' 45 = s 45 ∧ s' 48 = s 48 ∧ s' 49 = s 49 ∧ s' 50 = s 50
theorem K1.of {s s' : AR} (h : ∀ j, j ≠ 2 → j ≠ 24 → j ≠ 25 → j ≠ 30 → j ≠ 31 → s' j = s j) : K1 s s' := ⟨h 14 (by omega) (by omega) (by omega) (by omega) (by omega), h 23 (by omega) (by omega) (by omega) (by omega) (by omega), h 45 (by omega) (by omega) (by omega) (by omega) (by omega), h 48 (by omega) (by omega) (by omega) (by omega) (by omega), h 49 (by omega) (by omega) (by omega) (by omega) (by omega), h 50 (by omega) (by omega) (by omega) (by omega) (by omega)⟩
theorem K0.k1 {s s' : AR} (h : K0 s s') : K1 s s' := ⟨h.1, h.2.1, h.2.2.2.2.2.1, h.2.2.2.2.2.2.1, h.2.2.2.2.2.2.2.1, h.2.2.2.2.2.2.2.2⟩
theorem IT.k1 {T : Nat} {cs ms : ST} (h : IT T cs ms) {w : AR} (k : K1 (ms 0) w) : IT T cs (sct ms 0 w) := ⟨h.1, h.2.1, k.1.trans h.2.2.1, h.2.2.2.1, h.2.2.2.2.trans k.2.1.symm⟩
theorem IP.k1 {pl : Nat} {cs ms : ST} (h : IP pl cs ms) {w : AR} (k : K1 (ms 0) w) : IP pl cs (sct ms 0 w) := ⟨h.1, h.2.1, k.2.2.1.trans h.2.2.1, h.2.2.2⟩
theorem II.k1 {P : FL} {im : Bool} {g : GS} {B : Nat} {cs ms : ST} (h : II P im g B cs ms) {w : AR} (k : K1 (ms 0) w) : II P im g B cs (sct ms 0 w) := ⟨h.1, k.2.2.2.1.trans h.2.1, fun e => by
  obtain ⟨h1, h2, h3⟩ := h.2.2 e
  refine ⟨h1, ⟨?_, ?_, h2.2.2⟩, h3⟩
  · show w 49 = _
    rw [k.2.2.2.2.1]; exact h2.1
  · show w 50 = _
    rw [k.2.2.2.2.2]; exact h2.2.1⟩
/-- stroke -/
theorem law9 {xs : Nat → Int32} {L B : Nat} {cs ms : ST} {ov l4 : Int32} (hI : INV B cs ms) (hv : HV l4 L) {kb : ST → ST → Prop} (hB : B + 1000 < 2 ^ 29) (hk : ∀ cs' ms', INV (B + 200) cs' ms' → kb cs' ms') : wpC9 xs L cs ms ov l4 kb := by
  have hI2 := hI
  obtain ⟨P, op, g, im, g2, T, pl, hG, hR, hT, hP, hJ⟩ := hI
  have hCG := hG.cg
  have hG2 := hG
  obtain ⟨hF, hGc, hE, hW, hGm⟩ := hG
  have hR2 := hR
  obtain ⟨hRc, hRm, hok, hs5, hs6⟩ := hR
  have fc := hF.cells
  have f5 := hF.1.2.2.2.2.1
  have f6 := hF.1.2.2.2.2.2.1
  unfold wpC9 wpX10_stroke
  refine ⟨hv.h1, ?_⟩
  generalize xs (l4 + (1 : Int32)).toNatClampNeg = x
  refine c_strike hCG hRc hok (by omega) (fun m e hc sC' sQ' past' F' R' qc' qh' p1 p2 => ⟨hv.h1, ?_⟩) (fun e => ⟨hv.h1, ?_⟩)
  · subst e
    refine m_stroke hF hGm hRm hok (by omega) (fun m' e' hc' sM' now' wh' rows' sets' whys' mc' mh' q1 q2 q3 => ?_) (fun z => absurd ⟨m, rfl, hc⟩ z)
    have em : m = m' := nI_inj32 (by have := hc.1; have := p2_le f5; omega) (by have := hc'.1; have := p2_le f5; omega) e'
    subst em
    have k := K1.of q3
    refine ⟨rfl, hk _ _ ⟨P, op, gN P m g, im, g2, T, pl, hG2, ⟨p1, q1, (hok.new hF hc).mono (by omega), ?_, ?_⟩, hT.k1 k, hP.k1 k, (hJ.k1 k).mono (by omega)⟩⟩
    · exact (p2 5 (by omega)).trans hs5
    · exact (p2 6 (by omega)).trans hs6
  · refine m_stroke hF hGm hRm hok (by omega) (fun m' e' hc' => absurd ⟨m', e', hc'⟩ e) (fun _ => ?_)
    have k : K0 (ms 0) (upd (ms 0) 2 0) := K0.c
    refine ⟨rfl, hk _ _ ⟨P, op, g, im, g2, T, pl, hG2, ⟨⟨?_, hRc.2⟩, hRm.k0 k, hok.mono (by omega), ?_, ?_⟩, hT.k0 k, hP.k0 k, (hJ.k0 k).mono (by omega)⟩⟩
    · show CRep P (upd (cs 6) 6 (cs 6 6 + 1)) (cs 41) (cs 42) g.1 g.2.1 g.2.2.1 g.2.2.2.1
      exact hRc.1.copy hF (pk_un (by omega)) (pk_un (by omega)) (pk_un (by omega)) (fun _ _ => rfl) (fun _ _ => rfl)
    · show upd (cs 6) 6 (cs 6 6 + 1) 5 = upd (ms 8) 1 (ms 8 1 + 1) 0
      rw [pk_un (by omega), pk_un (by omega)]; exact hs5
    · show upd (cs 6) 6 (cs 6 6 + 1) 6 = upd (ms 8) 1 (ms 8 1 + 1) 1
      rw [pk_us, pk_us, hs6]
/-- ring -/
theorem law10 {xs : Nat → Int32} {L B : Nat} {cs ms : ST} {ov l4 : Int32} (hI : INV B cs ms) (hv : HV l4 L) {kb : ST → ST → Prop} (hB : B + 1000 < 2 ^ 29) (hk : ∀ cs' ms', INV (B + 200) cs' ms' → kb cs' ms') : wpC10 xs L cs ms ov l4 kb := by
  have hI2 := hI
  obtain ⟨P, op, g, im, g2, T, pl, hG, hR, hT, hP, hJ⟩ := hI
  have hCG := hG.cg
  have hG2 := hG
  obtain ⟨hF, hGc, hE, hW, hGm⟩ := hG
  have hR2 := hR
  obtain ⟨hRc, hRm, hok, hs5, hs6⟩ := hR
  have fc := hF.cells
  have f5 := hF.1.2.2.2.2.1
  have f6 := hF.1.2.2.2.2.2.1
  unfold wpC10 wpL_ring
  refine ⟨hv.h1, hv.h2, ?_⟩
  generalize xs (l4 + (1 : Int32)).toNatClampNeg = x
  generalize xs (l4 + (2 : Int32)).toNatClampNeg = y
  by_cases hy : ∃ c, c < 201 ∧ y = nI c
  · obtain ⟨N, hN, rfl⟩ := hy
    obtain ⟨R, hR⟩ := Rw.ex P (fun _ => x) (fun _ => x.toNatClampNeg) (fun _ => rfl) hF g N
    refine c_ring hCG hRc hok (by omega) (by omega) hR (fun sC' sQ' past' F' R' qc' qh' p1 p2 p3 => ⟨hv.h1, hv.h2, ?_⟩)
    refine m_ring hF hGm hRm hok (by omega) (by omega) hR (fun sM' now' stt' wh' rows' sets' whys' mc' mh' q1 q2 q3 q4 q5 => ?_)
    have k := K1.of q3
    have hok' := gIt_ok hF (xs := fun _ => x) hok R (fun j hj => (hR.2.1 j hj).2)
    have hinv : INV (B + 200) (sct (sct (sct (sct (sct (sct (sct cs 6 sC') 8 sQ') 41 past') 42 F') 43 R') 47 qc') 48 qh') (sct (sct (sct (sct (sct (sct (sct (sct (sct ms 0 sM') 6 now') 8 stt') 12 wh') 13 rows') 14 sets') 15 whys') 16 mc') 17 mh') := by
      refine ⟨P, op, gIt P (fun _ => x.toNatClampNeg) g R, im, g2, T, pl, hG2, ⟨p1, q1, hok'.mono (by have := hR.1; omega), ?_, ?_⟩, hT.k1 k, hP.k1 k, (hJ.k1 k).mono (by omega)⟩
      · exact p2.trans (hs5.trans q4.symm)
      · show sC' 6 = stt' 1
        rw [p3, q5, hs6]
    exact ⟨q2, fun z => absurd rfl z, fun _ => ⟨rfl, hk _ _ hinv⟩⟩
  · have hx := n_range (x := y) (b := 201) (by omega) (A := False) (B := True) (fun c h1 h2 => hy ⟨c, h1, h2⟩) (fun _ => trivial)
    have fin : vp_in (l4 + (1 : Int32)) L ∧ vp_in (l4 + (2 : Int32)) L ∧ wpX11_ring (ms 0) (ms 1) (ms 2) (ms 3) (ms 4) (ms 5) (ms 6) (ms 8) (ms 9) (ms 10) (ms 12) (ms 13) (ms 14) (ms 15) (ms 16) (ms 17) x y (fun r2 w2_0 w2_1 w2_2 w2_3 w2_4 w2_5 w2_6 w2_7 w2_8 => wpX11_thrown w2_0 (fun r3 => r3 = (1 : Int32) ∧ ((¬ (1 : Int32) = 0 → kb (sct (sct (sct (sct (sct (sct (sct cs 6 (cs 6)) 8 (cs 8)) 41 (cs 41)) 42 (cs 42)) 43 (cs 43)) 47 (cs 47)) 48 (cs 48)) (sct (sct (sct (sct (sct (sct (sct (sct (sct ms 0 w2_0) 6 w2_1) 8 w2_2) 12 w2_3) 13 w2_4) 14 w2_5) 15 w2_6) 16 w2_7) 17 w2_8)) ∧ ((1 : Int32) = 0 → ov = r2 ∧ kb (sct (sct (sct (sct (sct (sct (sct cs 6 (cs 6)) 8 (cs 8)) 41 (cs 41)) 42 (cs 42)) 43 (cs 43)) 47 (cs 47)) 48 (cs 48)) (sct (sct (sct (sct (sct (sct (sct (sct (sct ms 0 w2_0) 6 w2_1) 8 w2_2) 12 w2_3) 13 w2_4) 14 w2_5) 15 w2_6) 16 w2_7) 17 w2_8))))) := by
      refine ⟨hv.h1, hv.h2, ?_⟩
      unfold wpX11_ring wpX11_fail
      have k : K0 (ms 0) (upd (upd (ms 0) 2 0) 2 1) := K0.c.trans K0.c
      refine m_rangeL (b := 200) rfl (by decide) (fun c h1 h2 => absurd ⟨c, by omega, h2⟩ hy) (fun _ => ⟨fun z => absurd rfl z, fun _ => ⟨pk_us, fun _ => hk _ _ ?_, fun z => absurd z (by decide)⟩⟩)
      exact ⟨P, op, g, im, g2, T, pl, hG2, ⟨hRc, hRm.k0 k, hok.mono (by omega), hs5, hs6⟩, hT.k0 k, hP.k0 k, (hJ.k0 k).mono (by omega)⟩
    unfold wpX10_ring wpX10_ring_J11
    refine ⟨fun _ => ⟨rfl, fin⟩, fun z => ⟨fun q => ?_, fun _ => ⟨rfl, fin⟩⟩⟩
    exfalso
    obtain ⟨m, hm, rfl, hm2⟩ := n_any y
    rcases hm2 with hm2 | hm2
    · exact hy ⟨m, by have := (nI_leI (b := 200) hm2 (by omega)).mp q; omega, rfl⟩
    · exact z hm2
/-- night -/
theorem law22 {xs : Nat → Int32} {L B : Nat} {cs ms : ST} {ov l4 : Int32} (hI : INV B cs ms) (hv : HV l4 L) {kb : ST → ST → Prop} (hB : B + 1000 < 2 ^ 29) (hk : ∀ cs' ms', INV (B + 200) cs' ms' → kb cs' ms') : wpC22 xs L cs ms ov l4 kb := by
  have hI2 := hI
  obtain ⟨P, op, g, im, g2, T, pl, hG, hR, hT, hP, hJ⟩ := hI
  have hCG := hG.cg
  have hG2 := hG
  obtain ⟨hF, hGc, hE, hW, hGm⟩ := hG
  have hR2 := hR
  obtain ⟨hRc, hRm, hok, hs5, hs6⟩ := hR
  have fc := hF.cells
  have f5 := hF.1.2.2.2.2.1
  have f6 := hF.1.2.2.2.2.2.1
  unfold wpC22 wpL_night
  refine ⟨hv.h1, hv.h2, ?_⟩
  generalize xs (l4 + (1 : Int32)).toNatClampNeg = x
  generalize xs (l4 + (2 : Int32)).toNatClampNeg = y
  by_cases hy : ∃ c, c < 101 ∧ y = nI c
  · obtain ⟨N, hN, rfl⟩ := hy
    refine c_night hCG hRc hok (by omega) (by omega) (fun sC' sQ' past' F' R' qc' qh' p1 p2 => ⟨hv.h1, hv.h2, ?_⟩)
    refine m_night hF hGm hRm hok (by omega) (by omega) (fun sM' now' wh' rows' sets' whys' mc' mh' q1 q2 q3 => ?_)
    have k := K1.of q3
    have hok' := nst_ok hF (v := x) hok N
    have hinv : INV (B + 200) (sct (sct (sct (sct (sct (sct (sct cs 6 sC') 8 sQ') 41 past') 42 F') 43 R') 47 qc') 48 qh') (sct (sct (sct (sct (sct (sct (sct (sct ms 0 sM') 6 now') 12 wh') 13 rows') 14 sets') 15 whys') 16 mc') 17 mh') := by
      refine ⟨P, op, (nst P x g N).2.1, im, g2, T, pl, hG2, ⟨p1, q1, hok'.mono (by omega), ?_, ?_⟩, hT.k1 k, hP.k1 k, (hJ.k1 k).mono (by omega)⟩
      · exact (p2 5 (by omega)).trans hs5
      · exact (p2 6 (by omega)).trans hs6
    exact ⟨q2, fun z => absurd rfl z, fun _ => ⟨rfl, hk _ _ hinv⟩⟩
  · have fin : vp_in (l4 + (1 : Int32)) L ∧ vp_in (l4 + (2 : Int32)) L ∧ wpX11_night (ms 0) (ms 1) (ms 2) (ms 3) (ms 4) (ms 5) (ms 6) (ms 9) (ms 10) (ms 12) (ms 13) (ms 14) (ms 15) (ms 16) (ms 17) x y (fun r2 w2_0 w2_1 w2_2 w2_3 w2_4 w2_5 w2_6 w2_7 => wpX11_thrown w2_0 (fun r3 => r3 = (1 : Int32) ∧ ((¬ (1 : Int32) = 0 → kb (sct (sct (sct (sct (sct (sct (sct cs 6 (cs 6)) 8 (cs 8)) 41 (cs 41)) 42 (cs 42)) 43 (cs 43)) 47 (cs 47)) 48 (cs 48)) (sct (sct (sct (sct (sct (sct (sct (sct ms 0 w2_0) 6 w2_1) 12 w2_2) 13 w2_3) 14 w2_4) 15 w2_5) 16 w2_6) 17 w2_7)) ∧ ((1 : Int32) = 0 → ov = r2 ∧ kb (sct (sct (sct (sct (sct (sct (sct cs 6 (cs 6)) 8 (cs 8)) 41 (cs 41)) 42 (cs 42)) 43 (cs 43)) 47 (cs 47)) 48 (cs 48)) (sct (sct (sct (sct (sct (sct (sct (sct ms 0 w2_0) 6 w2_1) 12 w2_2) 13 w2_3) 14 w2_4) 15 w2_5) 16 w2_6) 17 w2_7))))) := by
      refine ⟨hv.h1, hv.h2, ?_⟩
      unfold wpX11_night wpX11_fail
      have k : K0 (ms 0) (upd (upd (ms 0) 2 0) 2 1) := K0.c.trans K0.c
      refine m_rangeL (b := 100) rfl (by decide) (fun c h1 h2 => absurd ⟨c, by omega, h2⟩ hy) (fun _ => ⟨fun z => absurd rfl z, fun _ => ⟨pk_us, fun _ => hk _ _ ?_, fun z => absurd z (by decide)⟩⟩)
      exact ⟨P, op, g, im, g2, T, pl, hG2, ⟨hRc, hRm.k0 k, hok.mono (by omega), hs5, hs6⟩, hT.k0 k, hP.k0 k, (hJ.k0 k).mono (by omega)⟩
    unfold wpX10_night wpX10_night_J10
    refine ⟨fun _ => ⟨rfl, fin⟩, fun z => ⟨fun q => ?_, fun _ => ⟨rfl, fin⟩⟩⟩
    exfalso
    obtain ⟨m, hm, rfl, hm2⟩ := n_any y
    rcases hm2 with hm2 | hm2
    · exact hy ⟨m, by have := (nI_leI (b := 100) hm2 (by omega)).mp q; omega, rfl⟩
    · exact z hm2
/-- undo -/
theorem law11 {xs : Nat → Int32} {L B : Nat} {cs ms : ST} {ov l4 : Int32} (hI : INV B cs ms) (hv : HV l4 L) {kb : ST → ST → Prop} (hB : B + 1000 < 2 ^ 29) (hk : ∀ cs' ms', INV (B + 200) cs' ms' → kb cs' ms') : wpC11 xs L cs ms ov l4 kb := by
  have hI2 := hI
  obtain ⟨P, op, g, im, g2, T, pl, hG, hR, hT, hP, hJ⟩ := hI
  have hCG := hG.cg
  have hG2 := hG
  obtain ⟨hF, hGc, hE, hW, hGm⟩ := hG
  have hR2 := hR
  obtain ⟨hRc, hRm, hok, hs5, hs6⟩ := hR
  have fc := hF.cells
  have f5 := hF.1.2.2.2.2.1
  have f6 := hF.1.2.2.2.2.2.1
  have hle := hok.1.1
  obtain ⟨f, hf, h2, h3, h4, hFr, hen⟩ := hRc.1
  unfold wpC11 wpX10_undo
  rw [h3]
  refine ⟨fun e => ?_, fun e => ?_⟩
  · have e1 : 0 < g.2.2.1 := by
      rcases Nat.eq_zero_or_pos g.2.2.1 with q | q
      · exact absurd (by rw [q]; rfl) e
      · exact q
    refine c_takeBack hF hRc.1 hok.1 e1 (fun sC' F' p1 p2 => m_undo hF hRm.1 hok.1 (fun _ sM' now' q1 q2 q3 => ⟨rfl, hk _ _ ?_⟩) (fun z => by omega))
    have k : K1 (ms 0) sM' := K1.of (fun j j2 _ _ j30 j31 => q3 j j2 j30 j31)
    refine ⟨P, op, (g.1, g.2.1, g.2.2.1 - 1, g.2.2.2.1 + 1, g.2.2.2.2.1, g.2.2.2.2.2), im, g2, T, pl, hG2, ⟨⟨p1, hRc.2⟩, ⟨q1, ?_, hRm.2.2⟩, ⟨⟨?_, ?_, ?_⟩, hok.2⟩, ?_, ?_⟩, hT.k1 k, hP.k1 k, (hJ.k1 k).mono (by omega)⟩
    · exact (q3 36 (by omega) (by omega) (by omega)).trans hRm.2.1
    · show g.2.2.1 - 1 + (g.2.2.2.1 + 1) ≤ 100
      omega
    · exact fun i hi => (hok.1.2.1 i (by have hi : i ≤ g.2.2.1 - 1 + (g.2.2.2.1 + 1) := hi; omega)).mono (by omega)
    · exact fun i hi => hok.1.2.2 i (by have hi : i < g.2.2.1 - 1 + (g.2.2.2.1 + 1) := hi; omega)
    · exact (p2 5 (by omega)).trans hs5
    · exact (p2 6 (by omega)).trans hs6
  · have e1 : g.2.2.1 = 0 := (nI_eq (b := 0) (by omega) (by omega)).mp e
    refine m_undo hF hRm.1 hok.1 (fun z => by omega) (fun _ => ⟨rfl, hk _ _ ?_⟩)
    have k : K0 (ms 0) (upd (ms 0) 2 0) := K0.c
    exact ⟨P, op, g, im, g2, T, pl, hG2, ⟨hRc, hRm.k0 k, hok.mono (by omega), hs5, hs6⟩, hT.k0 k, hP.k0 k, (hJ.k0 k).mono (by omega)⟩
/-- redo -/
theorem law12 {xs : Nat → Int32} {L B : Nat} {cs ms : ST} {ov l4 : Int32} (hI : INV B cs ms) (hv : HV l4 L) {kb : ST → ST → Prop} (hB : B + 1000 < 2 ^ 29) (hk : ∀ cs' ms', INV (B + 200) cs' ms' → kb cs' ms') : wpC12 xs L cs ms ov l4 kb := by
  have hI2 := hI
  obtain ⟨P, op, g, im, g2, T, pl, hG, hR, hT, hP, hJ⟩ := hI
  have hCG := hG.cg
  have hG2 := hG
  obtain ⟨hF, hGc, hE, hW, hGm⟩ := hG
  have hR2 := hR
  obtain ⟨hRc, hRm, hok, hs5, hs6⟩ := hR
  have fc := hF.cells
  have f5 := hF.1.2.2.2.2.1
  have f6 := hF.1.2.2.2.2.2.1
  have hle := hok.1.1
  obtain ⟨f, hf, h2, h3, h4, hFr, hen⟩ := hRc.1
  unfold wpC12 wpX10_redo
  rw [h4]
  refine ⟨fun e => ?_, fun e => ?_⟩
  · have e1 : 0 < g.2.2.2.1 := by
      rcases Nat.eq_zero_or_pos g.2.2.2.1 with q | q
      · exact absurd (by rw [q]; rfl) e
      · exact q
    have hco := hok.1.2.2 g.2.2.1 (by omega)
    refine c_strikeAgain hF hGc.1 hE hW hCG.2.2.1 hCG.2.2.2.1 hRc.1 hok.1 (by omega) e1 (fun sC' past' F' R' p1 p2 => c_goOn hF hE hW hco.1.1 hRc.2 hok.2 (fun sQ' qc' qh' p3 => ?_))
    refine m_redo hF hGm hRm.1 hok.1 (by omega) hRm.2 hok.2 (fun _ sM' now' wh' rows' sets' whys' mc' mh' q1 q2 q3 q4 => ⟨rfl, hk _ _ ?_⟩) (fun z => by omega)
    have k : K1 (ms 0) sM' := K1.of q3
    refine ⟨P, op, (g.1, g.2.1, g.2.2.1 + 1, g.2.2.2.1 - 1, cGo P (g.2.1 g.2.2.1) g.2.2.2.2.1 g.2.2.2.2.2, hGo P (g.2.1 g.2.2.1) g.2.2.2.2.1 g.2.2.2.2.2), im, g2, T, pl, hG2, ⟨⟨p1, p3⟩, ⟨q1, q4⟩, ⟨⟨?_, ?_, ?_⟩, hok.2.go hF _⟩, ?_, ?_⟩, hT.k1 k, hP.k1 k, (hJ.k1 k).mono (by omega)⟩
    · show g.2.2.1 + 1 + (g.2.2.2.1 - 1) ≤ 100
      omega
    · exact fun i hi => (hok.1.2.1 i (by have hi : i ≤ g.2.2.1 + 1 + (g.2.2.2.1 - 1) := hi; omega)).mono (by omega)
    · exact fun i hi => hok.1.2.2 i (by have hi : i < g.2.2.1 + 1 + (g.2.2.2.1 - 1) := hi; omega)
    · exact (p2 5 (by omega)).trans hs5
    · exact (p2 6 (by omega)).trans hs6
  · have e1 : g.2.2.2.1 = 0 := (nI_eq (b := 0) (by omega) (by omega)).mp e
    refine m_redo hF hGm hRm.1 hok.1 (by omega) hRm.2 hok.2 (fun z => by omega) (fun _ => ⟨rfl, hk _ _ ?_⟩)
    have k : K0 (ms 0) (upd (ms 0) 2 0) := K0.c
    exact ⟨P, op, g, im, g2, T, pl, hG2, ⟨hRc, hRm.k0 k, hok.mono (by omega), hs5, hs6⟩, hT.k0 k, hP.k0 k, (hJ.k0 k).mono (by omega)⟩
/-- search -/
theorem law14 {xs : Nat → Int32} {L B : Nat} {cs ms : ST} {ov l4 : Int32} (hI : INV B cs ms) (hv : HV l4 L) {kb : ST → ST → Prop} (hB : B + 1000 < 2 ^ 29) (hk : ∀ cs' ms', INV (B + 200) cs' ms' → kb cs' ms') : wpC14 xs L cs ms ov l4 kb := by
  have hI2 := hI
  obtain ⟨P, op, g, im, g2, T, pl, hG, hR, hT, hP, hJ⟩ := hI
  have hCG := hG.cg
  have hG2 := hG
  obtain ⟨hF, hGc, hE, hW, hGm⟩ := hG
  have hR2 := hR
  obtain ⟨hRc, hRm, hok, hs5, hs6⟩ := hR
  have fc := hF.cells
  have f5 := hF.1.2.2.2.2.1
  have f6 := hF.1.2.2.2.2.2.1
  unfold wpC14 wpX10_search
  refine c_qbegin hF hGc.1 (fun sQ' qc' qh' p1 p2 => m_search hF hGm.1 (fun sM' mc' mh' q1 q2 q3 => ⟨p2, hk _ _ ?_⟩))
  have k : K1 (ms 0) sM' := ⟨q3 14 (by omega) (by omega), q3 23 (by omega) (by omega), q3 45 (by omega) (by omega), q3 48 (by omega) (by omega), q3 49 (by omega) (by omega), q3 50 (by omega) (by omega)⟩
  exact ⟨P, true, (g.1, g.2.1, g.2.2.1, g.2.2.2.1, cc0, fun _ => 0), im, g2, T, pl, hG2, ⟨⟨hRc.1, p1⟩, ⟨⟨(q3 30 (by omega) (by omega)).trans hRm.1.1, (q3 31 (by omega) (by omega)).trans hRm.1.2.1, hRm.1.2.2⟩, q1⟩, ⟨hok.1.mono (by omega), QOK0 P⟩, hs5, hs6⟩, hT.k1 k, hP.k1 k, (hJ.k1 k).mono (by omega)⟩
/-- image -/
theorem law23 {xs : Nat → Int32} {L B : Nat} {cs ms : ST} {ov l4 : Int32} (hI : INV B cs ms) (hv : HV l4 L) {kb : ST → ST → Prop} (hB : B + 1000 < 2 ^ 29) (hk : ∀ cs' ms', INV (B + 200) cs' ms' → kb cs' ms') : wpC23 xs L cs ms ov l4 kb := by
  have hI2 := hI
  obtain ⟨P, op, g, im, g2, T, pl, hG, hR, hT, hP, hJ⟩ := hI
  have hCG := hG.cg
  have hG2 := hG
  obtain ⟨hF, hGc, hE, hW, hGm⟩ := hG
  have hR2 := hR
  obtain ⟨hRc, hRm, hok, hs5, hs6⟩ := hR
  have fc := hF.cells
  have f5 := hF.1.2.2.2.2.1
  have f6 := hF.1.2.2.2.2.2.1
  have hle := hok.1.1
  unfold wpC23 wpX10_image
  refine c_take hF hRc.1 (fun sD' dpast' K' p1 p2 p3 => ?_)
  unfold wpX11_image
  refine nm_e (nm_e (m_be (by decide) (fun a1 b1 => m_be (by decide) (fun a2 b2 => m_be (by decide) (fun a3 b3 => m_be (by decide) (fun a4 b4 => m_be (by decide) (fun a5 b5 => hk _ _ ?_)))))))
  have e14 : ∀ j, j ≠ 2 → j ≠ 48 → j ≠ 49 → j ≠ 50 → upd (upd (upd (upd (ms 0) 2 (0 : Int32)) 48 (1 : Int32)) 49 (ms 0 30)) 50 (ms 0 31) j = ms 0 j := fun j j1 j2 j3 j4 => by rw [pk_un j4, pk_un j3, pk_un j2, pk_un j1]
  refine ⟨P, op, g, true, g, T, pl, hG2, ⟨hRc, ⟨⟨(e14 30 (by omega) (by omega) (by omega) (by omega)).trans hRm.1.1, (e14 31 (by omega) (by omega) (by omega) (by omega)).trans hRm.1.2.1, hRm.1.2.2⟩, ⟨(e14 36 (by omega) (by omega) (by omega) (by omega)).trans hRm.2.1, hRm.2.2⟩⟩, hok.mono (by omega), hs5, hs6⟩, ⟨hT.1, ?_, (e14 14 (by omega) (by omega) (by omega) (by omega)).trans hT.2.2.1, hT.2.2.2.1, ?_⟩, ⟨hP.1, ?_, (e14 45 (by omega) (by omega) (by omega) (by omega)).trans hP.2.2.1, hP.2.2.2⟩, ⟨?_, ?_, fun _ => ⟨p1, ?_, hok.1.mono (by omega), ?_, ?_⟩⟩⟩
  · show upd (cs 0) 17 1 15 = _
    rw [pk_un (by omega)]; exact hT.2.1
  · show upd (cs 0) 17 1 16 = _
    rw [pk_un (by omega)]
    exact hT.2.2.2.2.trans (e14 23 (by omega) (by omega) (by omega) (by omega)).symm
  · show upd (cs 0) 17 1 14 = _
    rw [pk_un (by omega)]; exact hP.2.1
  · show upd (cs 0) 17 1 17 = _
    rw [pk_us]; rfl
  · show upd (upd (upd (upd (ms 0) 2 (0 : Int32)) 48 (1 : Int32)) 49 (ms 0 30)) 50 (ms 0 31) 48 = _
    rw [pk_un (by omega), pk_un (by omega), pk_us]; rfl
  · refine hRm.1.copy hF hle ?_ ?_ b2 b3 b4 b1
    · show upd (upd (upd (upd (ms 0) 2 (0 : Int32)) 48 (1 : Int32)) 49 (ms 0 30)) 50 (ms 0 31) 49 = _
      rw [pk_un (by omega), pk_us]
    · show upd (upd (upd (upd (ms 0) 2 (0 : Int32)) 48 (1 : Int32)) 49 (ms 0 30)) 50 (ms 0 31) 50 = _
      rw [pk_us]
  · show sD' 5 = a5 0
    rw [p2, b5 0 (by omega)]; exact hs5
  · show sD' 6 = a5 1
    rw [p3, b5 1 (by omega)]; exact hs6
/-- restore -/
theorem law24 {xs : Nat → Int32} {L B : Nat} {cs ms : ST} {ov l4 : Int32} (hI : INV B cs ms) (hv : HV l4 L) {kb : ST → ST → Prop} (hB : B + 1000 < 2 ^ 29) (hk : ∀ cs' ms', INV (B + 200) cs' ms' → kb cs' ms') : wpC24 xs L cs ms ov l4 kb := by
  have hI2 := hI
  obtain ⟨P, op, g, im, g2, T, pl, hG, hR, hT, hP, hJ⟩ := hI
  have hCG := hG.cg
  have hG2 := hG
  obtain ⟨hF, hGc, hE, hW, hGm⟩ := hG
  have hR2 := hR
  obtain ⟨hRc, hRm, hok, hs5, hs6⟩ := hR
  have fc := hF.cells
  have f5 := hF.1.2.2.2.2.1
  have f6 := hF.1.2.2.2.2.2.1
  unfold wpC24 wpX10_restore
  rw [hJ.1]
  cases im with
  | false =>
    refine ⟨fun z => absurd rfl z, fun _ => ?_⟩
    unfold wpX11_restore
    rw [hJ.2.1]
    refine ⟨fun z => absurd rfl z, fun _ => ⟨rfl, hk _ _ ?_⟩⟩
    have k : K0 (ms 0) (upd (ms 0) 2 0) := K0.c
    exact ⟨P, op, g, false, g2, T, pl, hG2, ⟨hRc, hRm.k0 k, hok.mono (by omega), hs5, hs6⟩, hT.k0 k, hP.k0 k, (hJ.k0 k).mono (by omega)⟩
  | true =>
    refine ⟨fun _ => ?_, fun z => absurd z (by decide)⟩
    obtain ⟨k1, k2, k3, k4, k5⟩ := hJ.2.2 rfl
    refine c_take hF k1 (fun sC' past' F' p1 p2 p3 => ?_)
    unfold wpX11_restore
    rw [hJ.2.1]
    refine ⟨fun _ => ?_, fun z => absurd z (by decide)⟩
    refine nm_e (nm_e (m_be (by decide) (fun a1 b1 => m_be (by decide) (fun a2 b2 => m_be (by decide) (fun a3 b3 => m_be (by decide) (fun a4 b4 => m_be (by decide) (fun a5 b5 => ⟨rfl, hk _ _ ?_⟩)))))))
    have e14 : ∀ j, j ≠ 2 → j ≠ 30 → j ≠ 31 → upd (upd (upd (ms 0) 2 (0 : Int32)) 30 (ms 0 49)) 31 (ms 0 50) j = ms 0 j := fun j j1 j2 j3 => by rw [pk_un j3, pk_un j2, pk_un j1]
    have k : K1 (ms 0) (upd (upd (upd (ms 0) 2 (0 : Int32)) 30 (ms 0 49)) 31 (ms 0 50)) := ⟨e14 14 (by omega) (by omega) (by omega), e14 23 (by omega) (by omega) (by omega), e14 45 (by omega) (by omega) (by omega), e14 48 (by omega) (by omega) (by omega), e14 49 (by omega) (by omega) (by omega), e14 50 (by omega) (by omega) (by omega)⟩
    refine ⟨P, op, (g2.1, g2.2.1, g2.2.2.1, g2.2.2.2.1, g.2.2.2.2.1, g.2.2.2.2.2), true, g2, T, pl, hG2, ⟨⟨p1, hRc.2⟩, ⟨?_, ⟨(e14 36 (by omega) (by omega) (by omega)).trans hRm.2.1, hRm.2.2⟩⟩, ⟨k3.mono (by omega), hok.2⟩, ?_, ?_⟩, hT.k1 k, hP.k1 k, (hJ.k1 k).mono (by omega)⟩
    · refine k2.copy hF k3.1 ?_ ?_ b2 b3 b4 b1
      · show upd (upd (upd (ms 0) 2 (0 : Int32)) 30 (ms 0 49)) 31 (ms 0 50) 30 = _
        rw [pk_un (by omega), pk_us]; rfl
      · show upd (upd (upd (ms 0) 2 (0 : Int32)) 30 (ms 0 49)) 31 (ms 0 50) 31 = _
        rw [pk_us]; rfl
    · show sC' 5 = a5 0
      rw [p2, b5 0 (by omega)]; exact k4
    · show sC' 6 = a5 1
      rw [p3, b5 1 (by omega)]; exact k5
