/-- tower -/
theorem law5 {xs : Nat → Int32} {L B : Nat} {cs ms : ST} {ov l4 : Int32} (hI : INV B cs ms) (hv : HV l4 L) {kb : ST → ST → Prop} (hk : ∀ cs' ms', INV B cs' ms' → kb cs' ms') : wpC5 xs L cs ms ov l4 kb := by
  have hI2 := hI
  obtain ⟨P, op, g, im, g2, T, pl, hG, hR, hT, hP, hJ⟩ := hI
  have hCG := hG.cg
  have hG2 := hG
  obtain ⟨hF, hGc, hE, hW, hGm⟩ := hG
  have hR2 := hR
  obtain ⟨hRc, hRm, hok, hs5, hs6⟩ := hR
  have fc := hF.cells
  have f5 := hF.1.2.2.2.2.1
  have f6 := hF.1.2.2.2.2.2.1
  have hFr := hRc.1.now
  have hNr := hRm.1.2.2.1
  unfold wpC5 wpL_tower wpX10_tower
  refine ⟨hv.h1, hv.h2, ?_⟩
  generalize xs (l4 + (1 : Int32)).toNatClampNeg = x
  generalize xs (l4 + (2 : Int32)).toNatClampNeg = y
  refine c_needTower hF hGc.1 (fun t ht e => ?_) (fun e => ⟨rfl, hv.h1, hv.h2, ?_⟩)
  · subst e
    have hm : ∀ {post : Int32 → Prop}, post 1 → wpX11_isTower (ms 1) (nI t) post := fun h => m_isTower hF hGm.1 (fun _ _ _ => h) (fun z => absurd ⟨t, ht, rfl⟩ z)
    have g4 := (hF.2.1 t ht).2.2.2.2
    have hl := hok.now.2 t ht
    rw [show (nI t).toNatClampNeg = t from nI_clamp (by omega)]
    by_cases hx : ∃ c, c < 5 ∧ y = nI c
    · obtain ⟨c, hc, rfl⟩ := hx
      rcases (show c = 0 ∨ c = 1 ∨ c = 2 ∨ c = 3 ∨ c = 4 by omega) with rfl | rfl | rfl | rfl | rfl
      · refine ⟨fun _ => ⟨vp_in_nI (by omega) (by omega), hv.h1, hv.h2, ?_⟩, fun z => absurd rfl z⟩
        unfold wpX11_tower
        refine hm ⟨fun _ => ⟨fun _ => ?_, fun z => absurd rfl z⟩, fun z => absurd z (by decide)⟩
        rw [nI_clamp (by omega), hGc.2.1 t ht, hGm.2.1 t ht]
        exact ⟨vp_in_nI (by omega) (by omega), ro_ok hI2 hk _⟩
      · refine ⟨fun z => absurd z (by decide), fun _ => ⟨fun _ => ⟨vp_in_nI (by omega) (by omega), hv.h1, hv.h2, ?_⟩, fun z => absurd rfl z⟩⟩
        unfold wpX11_tower
        refine hm ⟨fun _ => ⟨fun z => absurd z (by decide), fun _ => ⟨fun _ => ?_, fun z => absurd rfl z⟩⟩, fun z => absurd z (by decide)⟩
        rw [nI_clamp (by omega), hGc.2.2.1 t ht, hGm.2.2.1 t ht]
        exact ⟨vp_in_nI (by omega) (by omega), ro_ok hI2 hk _⟩
      · refine ⟨fun z => absurd z (by decide), fun _ => ⟨fun z => absurd z (by decide), fun _ => ⟨fun _ => ⟨vp_in_nI (by omega) (by omega), hv.h1, hv.h2, ?_⟩, fun z => absurd rfl z⟩⟩⟩
        unfold wpX11_tower
        refine hm ⟨fun _ => ⟨fun z => absurd z (by decide), fun _ => ⟨fun z => absurd z (by decide), fun _ => ⟨fun _ => ?_, fun z => absurd rfl z⟩⟩⟩, fun z => absurd z (by decide)⟩
        rw [nI_clamp (by omega), hGc.2.2.2.1 t ht, hGm.2.2.2.1 t ht]
        exact ⟨vp_in_nI (by omega) (by omega), ro_ok hI2 hk _⟩
      · refine ⟨fun z => absurd z (by decide), fun _ => ⟨fun z => absurd z (by decide), fun _ => ⟨fun z => absurd z (by decide), fun _ => ⟨fun _ => ?_, fun z => absurd rfl z⟩⟩⟩⟩
        unfold wpX3_strokesLeft
        rw [show (24 : Int32) + nI t = nI (24 + t) from nI_add 24 t, nI_clamp (by omega), hFr.2 t ht]
        refine ⟨vp_in_nI (by omega) (by omega), hv.h1, hv.h2, ?_⟩
        unfold wpX11_tower
        refine hm ⟨fun _ => ⟨fun z => absurd z (by decide), fun _ => ⟨fun z => absurd z (by decide), fun _ => ⟨fun z => absurd z (by decide), fun _ => ⟨fun _ => ?_, fun z => absurd rfl z⟩⟩⟩⟩, fun z => absurd z (by decide)⟩
        rw [show (24 : Int32) + nI t = nI (24 + t) from nI_add 24 t, nI_clamp (by omega), hNr.2 t ht]
        exact ⟨vp_in_nI (by omega) (by omega), ro_ok hI2 hk _⟩
      · refine ⟨fun z => absurd z (by decide), fun _ => ⟨fun z => absurd z (by decide), fun _ => ⟨fun z => absurd z (by decide), fun _ => ⟨fun z => absurd z (by decide), fun _ => ⟨fun _ => ⟨vp_in_nI (by omega) (by omega), ?_⟩, fun z => absurd rfl z⟩⟩⟩⟩⟩
        have mo : ∀ v : Int32, (v = 0 → P 4 t = 0) → (v = 1 → ¬ P 4 t = 0) → (v = 0 ∨ v = 1) → vp_in (l4 + (1 : Int32)) L ∧ vp_in (l4 + (2 : Int32)) L ∧ wpX11_tower (ms 0) (ms 1) (ms 2) (ms 3) (ms 4) (ms 6) (ms 9) (nI t) (nI 4) (fun r2 w2_0 => wpX11_thrown w2_0 (fun r3 => r3 = (0 : Int32) ∧ ((¬ (0 : Int32) = 0 → kb cs (sct ms 0 w2_0)) ∧ ((0 : Int32) = 0 → v = r2 ∧ kb cs (sct ms 0 w2_0))))) := by
          intro v q0 q1 q2
          refine ⟨hv.h1, hv.h2, ?_⟩
          unfold wpX11_tower
          refine hm ⟨fun _ => ⟨fun z => absurd z (by decide), fun _ => ⟨fun z => absurd z (by decide), fun _ => ⟨fun z => absurd z (by decide), fun _ => ⟨fun z => absurd z (by decide), fun _ => ⟨fun _ => ⟨vp_in_nI (by omega) (by omega), ?_⟩, fun z => absurd rfl z⟩⟩⟩⟩⟩, fun z => absurd z (by decide)⟩
          rw [nI_clamp (by omega), hGm.2.2.2.2.1 t ht]
          rcases q2 with rfl | rfl
          · exact ⟨fun _ => ro_ok hI2 hk _, fun z => absurd (by rw [q0 rfl]; rfl) z⟩
          · exact ⟨fun z => absurd ((nI_eq (b := 0) (by omega) (by omega)).mp z) (q1 rfl), fun _ => ro_ok hI2 hk _⟩
        rw [hGc.2.2.2.2.1 t ht]
        exact ⟨fun z => mo 0 (fun _ => (nI_eq (b := 0) (by omega) (by omega)).mp z) (fun q => absurd q (by decide)) (Or.inl rfl), fun z => mo 1 (fun q => absurd q (by decide)) (fun _ q => z (by rw [q]; rfl)) (Or.inr rfl)⟩
    · refine ⟨fun z => absurd ⟨0, by decide, z⟩ hx, fun _ => ⟨fun z => absurd ⟨1, by decide, z⟩ hx, fun _ => ⟨fun z => absurd ⟨2, by decide, z⟩ hx, fun _ => ⟨fun z => absurd ⟨3, by decide, z⟩ hx, fun _ => ⟨fun z => absurd ⟨4, by decide, z⟩ hx, fun _ => ⟨rfl, hv.h1, hv.h2, ?_⟩⟩⟩⟩⟩⟩
      unfold wpX11_tower wpX11_fail
      refine hm ⟨fun _ => ?_, fun z => absurd z (by decide)⟩
      exact ⟨fun z => absurd ⟨0, by decide, z⟩ hx, fun _ => ⟨fun z => absurd ⟨1, by decide, z⟩ hx, fun _ => ⟨fun z => absurd ⟨2, by decide, z⟩ hx, fun _ => ⟨fun z => absurd ⟨3, by decide, z⟩ hx, fun _ => ⟨fun z => absurd ⟨4, by decide, z⟩ hx, fun _ => ro_th hI2 hk _ _⟩⟩⟩⟩⟩
  · unfold wpX11_tower wpX11_fail
    exact m_isTower hF hGm.1 (fun c h1 h2 => absurd ⟨c, h1, h2⟩ e) (fun _ => ⟨fun z => absurd rfl z, fun _ => ro_th hI2 hk _ _⟩)
/-- walker -/
theorem law6 {xs : Nat → Int32} {L B : Nat} {cs ms : ST} {ov l4 : Int32} (hI : INV B cs ms) (hv : HV l4 L) {kb : ST → ST → Prop} (hk : ∀ cs' ms', INV B cs' ms' → kb cs' ms') : wpC6 xs L cs ms ov l4 kb := by
  have hI2 := hI
  obtain ⟨P, op, g, im, g2, T, pl, hG, hR, hT, hP, hJ⟩ := hI
  have hCG := hG.cg
  have hG2 := hG
  obtain ⟨hF, hGc, hE, hW, hGm⟩ := hG
  have hR2 := hR
  obtain ⟨hRc, hRm, hok, hs5, hs6⟩ := hR
  have fc := hF.cells
  have f5 := hF.1.2.2.2.2.1
  have f6 := hF.1.2.2.2.2.2.1
  have hFr := hRc.1.now
  have hNr := hRm.1.2.2.1
  unfold wpC6 wpL_walker wpX10_walker
  refine ⟨hv.h1, hv.h2, ?_⟩
  generalize xs (l4 + (1 : Int32)).toNatClampNeg = x
  generalize xs (l4 + (2 : Int32)).toNatClampNeg = y
  refine c_needWalker hF hGc.1 (fun w hw e => ?_) (fun e => ⟨rfl, hv.h1, hv.h2, ?_⟩)
  · subst e
    have hm : ∀ {post : Int32 → Prop}, post 1 → wpX11_isWalker (ms 1) (nI w) post := fun h => m_isWalker hF hGm.1 (fun _ _ _ => h) (fun z => absurd ⟨w, hw, rfl⟩ z)
    have hq := hFr.1 w hw
    have hp := hNr.1 w hw
    by_cases hx : ∃ c, c < 7 ∧ y = nI c
    · obtain ⟨c, hc, rfl⟩ := hx
      have hin : ∀ {post : Int32 → Prop}, post 1 → wpX11_isIn (nI c) (0 : Int32) (6 : Int32) post := fun h => m_rangeL (b := 6) rfl (by decide) (fun _ _ _ => h) (fun z => absurd ⟨c, hc, rfl⟩ z)
      rcases (show c = 0 ∨ c = 1 ∨ c = 2 ∨ c = 3 ∨ c = 4 ∨ c = 5 ∨ c = 6 by omega) with rfl | rfl | rfl | rfl | rfl | rfl | rfl
      · refine ⟨fun _ => ?_, fun z => absurd rfl z⟩
        rw [nI_clamp (by omega), hGc.2.2.2.2.2.1 w hw]
        refine ⟨vp_in_nI (by omega) (by omega), hv.h1, hv.h2, ?_⟩
        unfold wpX11_walker
        refine hm ⟨fun z => absurd z (by decide), fun _ => hin ⟨fun _ => ⟨fun z => absurd rfl z, fun _ => ?_⟩, fun z => absurd z (by decide)⟩⟩
        rw [nI_clamp (by omega), hGm.2.2.2.2.2.1 w hw]
        exact ⟨vp_in_nI (by omega) (by omega), ro_ok hI2 hk _⟩
      · refine ⟨fun z => absurd z (by decide), fun _ => ⟨fun _ => ?_, fun z => absurd rfl z⟩⟩
        unfold wpX3_of
        rw [show nI w * (6 : Int32) + (0 : Int32) = nI (w * 6 + 0) by rw [show nI w * (6 : Int32) = nI (w * 6) from pk_mul w 6]; exact nI_add _ 0, nI_clamp (by omega), hq.1]
        refine ⟨vp_in_nI (by omega) (by omega), hv.h1, hv.h2, ?_⟩
        unfold wpX11_walker
        refine hm ⟨fun z => absurd z (by decide), fun _ => hin ⟨fun _ => ⟨fun _ => ?_, fun z => absurd z (by decide)⟩, fun z => absurd z (by decide)⟩⟩
        rw [ix6, nI_add, show nI (w * 6 + 1) - (1 : Int32) = nI (w * 6 + 0) from pk_sub (a := w * 6 + 1) (b := 1) (by omega), nI_clamp (by omega), hp.1]
        exact ⟨vp_in_nI (by omega) (by omega), ro_ok hI2 hk _⟩
      · refine ⟨fun z => absurd z (by decide), fun _ => ⟨fun z => absurd z (by decide), fun _ => ⟨fun _ => ?_, fun z => absurd rfl z⟩⟩⟩
        unfold wpX3_of
        rw [show nI w * (6 : Int32) + (1 : Int32) = nI (w * 6 + 1) by rw [show nI w * (6 : Int32) = nI (w * 6) from pk_mul w 6]; exact nI_add _ 1, nI_clamp (by omega), hq.2.1]
        refine ⟨vp_in_nI (by omega) (by omega), hv.h1, hv.h2, ?_⟩
        unfold wpX11_walker
        refine hm ⟨fun z => absurd z (by decide), fun _ => hin ⟨fun _ => ⟨fun _ => ?_, fun z => absurd z (by decide)⟩, fun z => absurd z (by decide)⟩⟩
        rw [ix6, nI_add, show nI (w * 6 + 2) - (1 : Int32) = nI (w * 6 + 1) from pk_sub (a := w * 6 + 2) (b := 1) (by omega), nI_clamp (by omega), hp.2.1]
        exact ⟨vp_in_nI (by omega) (by omega), ro_ok hI2 hk _⟩
      · refine ⟨fun z => absurd z (by decide), fun _ => ⟨fun z => absurd z (by decide), fun _ => ⟨fun z => absurd z (by decide), fun _ => ⟨fun _ => ?_, fun z => absurd rfl z⟩⟩⟩⟩
        unfold wpX3_of
        rw [show nI w * (6 : Int32) + (2 : Int32) = nI (w * 6 + 2) by rw [show nI w * (6 : Int32) = nI (w * 6) from pk_mul w 6]; exact nI_add _ 2, nI_clamp (by omega), hq.2.2.1]
        refine ⟨vp_in_nI (by omega) (by omega), hv.h1, hv.h2, ?_⟩
        unfold wpX11_walker
        refine hm ⟨fun z => absurd z (by decide), fun _ => hin ⟨fun _ => ⟨fun _ => ?_, fun z => absurd z (by decide)⟩, fun z => absurd z (by decide)⟩⟩
        rw [ix6, nI_add, show nI (w * 6 + 3) - (1 : Int32) = nI (w * 6 + 2) from pk_sub (a := w * 6 + 3) (b := 1) (by omega), nI_clamp (by omega), hp.2.2.1]
        exact ⟨vp_in_nI (by omega) (by omega), ro_ok hI2 hk _⟩
      · refine ⟨fun z => absurd z (by decide), fun _ => ⟨fun z => absurd z (by decide), fun _ => ⟨fun z => absurd z (by decide), fun _ => ⟨fun z => absurd z (by decide), fun _ => ⟨fun _ => ?_, fun z => absurd rfl z⟩⟩⟩⟩⟩
        unfold wpX3_of
        rw [show nI w * (6 : Int32) + (3 : Int32) = nI (w * 6 + 3) by rw [show nI w * (6 : Int32) = nI (w * 6) from pk_mul w 6]; exact nI_add _ 3, nI_clamp (by omega), hq.2.2.2.1]
        refine ⟨vp_in_nI (by omega) (by omega), hv.h1, hv.h2, ?_⟩
        unfold wpX11_walker
        refine hm ⟨fun z => absurd z (by decide), fun _ => hin ⟨fun _ => ⟨fun _ => ?_, fun z => absurd z (by decide)⟩, fun z => absurd z (by decide)⟩⟩
        rw [ix6, nI_add, show nI (w * 6 + 4) - (1 : Int32) = nI (w * 6 + 3) from pk_sub (a := w * 6 + 4) (b := 1) (by omega), nI_clamp (by omega), hp.2.2.2.1]
        exact ⟨vp_in_nI (by omega) (by omega), ro_ok hI2 hk _⟩
      · refine ⟨fun z => absurd z (by decide), fun _ => ⟨fun z => absurd z (by decide), fun _ => ⟨fun z => absurd z (by decide), fun _ => ⟨fun z => absurd z (by decide), fun _ => ⟨fun z => absurd z (by decide), fun _ => ⟨fun _ => ?_, fun z => absurd rfl z⟩⟩⟩⟩⟩⟩
        unfold wpX3_of
        rw [show nI w * (6 : Int32) + (4 : Int32) = nI (w * 6 + 4) by rw [show nI w * (6 : Int32) = nI (w * 6) from pk_mul w 6]; exact nI_add _ 4, nI_clamp (by omega), hq.2.2.2.2.1]
        refine ⟨vp_in_nI (by omega) (by omega), hv.h1, hv.h2, ?_⟩
        unfold wpX11_walker
        refine hm ⟨fun z => absurd z (by decide), fun _ => hin ⟨fun _ => ⟨fun _ => ?_, fun z => absurd z (by decide)⟩, fun z => absurd z (by decide)⟩⟩
        rw [ix6, nI_add, show nI (w * 6 + 5) - (1 : Int32) = nI (w * 6 + 4) from pk_sub (a := w * 6 + 5) (b := 1) (by omega), nI_clamp (by omega), hp.2.2.2.2.1]
        exact ⟨vp_in_nI (by omega) (by omega), ro_ok hI2 hk _⟩
      · refine ⟨fun z => absurd z (by decide), fun _ => ⟨fun z => absurd z (by decide), fun _ => ⟨fun z => absurd z (by decide), fun _ => ⟨fun z => absurd z (by decide), fun _ => ⟨fun z => absurd z (by decide), fun _ => ⟨fun z => absurd z (by decide), fun _ => ⟨fun _ => ?_, fun z => absurd rfl z⟩⟩⟩⟩⟩⟩⟩
        unfold wpX3_of
        rw [show nI w * (6 : Int32) + (5 : Int32) = nI (w * 6 + 5) by rw [show nI w * (6 : Int32) = nI (w * 6) from pk_mul w 6]; exact nI_add _ 5, nI_clamp (by omega), hq.2.2.2.2.2]
        refine ⟨vp_in_nI (by omega) (by omega), hv.h1, hv.h2, ?_⟩
        unfold wpX11_walker
        refine hm ⟨fun z => absurd z (by decide), fun _ => hin ⟨fun _ => ⟨fun _ => ?_, fun z => absurd z (by decide)⟩, fun z => absurd z (by decide)⟩⟩
        rw [ix6, nI_add, show nI (w * 6 + 6) - (1 : Int32) = nI (w * 6 + 5) from pk_sub (a := w * 6 + 6) (b := 1) (by omega), nI_clamp (by omega), hp.2.2.2.2.2]
        exact ⟨vp_in_nI (by omega) (by omega), ro_ok hI2 hk _⟩
    · refine ⟨fun z => absurd ⟨0, by decide, z⟩ hx, fun _ => ⟨fun z => absurd ⟨1, by decide, z⟩ hx, fun _ => ⟨fun z => absurd ⟨2, by decide, z⟩ hx, fun _ => ⟨fun z => absurd ⟨3, by decide, z⟩ hx, fun _ => ⟨fun z => absurd ⟨4, by decide, z⟩ hx, fun _ => ⟨fun z => absurd ⟨5, by decide, z⟩ hx, fun _ => ⟨fun z => absurd ⟨6, by decide, z⟩ hx, fun _ => ⟨rfl, hv.h1, hv.h2, ?_⟩⟩⟩⟩⟩⟩⟩⟩
      unfold wpX11_walker wpX11_walker_J23 wpX11_fail
      exact hm ⟨fun z => absurd z (by decide), fun _ => m_rangeL (b := 6) rfl (by decide) (fun c q1 q2 => absurd ⟨c, by omega, q2⟩ hx) (fun _ => ⟨fun z => absurd rfl z, fun _ => ro_th hI2 hk _ _⟩)⟩
  · unfold wpX11_walker wpX11_walker_J23 wpX11_fail
    exact m_isWalker hF hGm.1 (fun c h1 h2 => absurd ⟨c, h1, h2⟩ e) (fun _ => ⟨fun _ => ro_th hI2 hk _ _, fun z => absurd rfl z⟩)
/-- far -/
theorem law7 {xs : Nat → Int32} {L B : Nat} {cs ms : ST} {ov l4 : Int32} (hI : INV B cs ms) (hv : HV l4 L) {kb : ST → ST → Prop} (hk : ∀ cs' ms', INV B cs' ms' → kb cs' ms') : wpC7 xs L cs ms ov l4 kb := by
  have hI2 := hI
  obtain ⟨P, op, g, im, g2, T, pl, hG, hR, hT, hP, hJ⟩ := hI
  have hCG := hG.cg
  have hG2 := hG
  obtain ⟨hF, hGc, hE, hW, hGm⟩ := hG
  have hR2 := hR
  obtain ⟨hRc, hRm, hok, hs5, hs6⟩ := hR
  have fc := hF.cells
  have f5 := hF.1.2.2.2.2.1
  have f6 := hF.1.2.2.2.2.2.1
  unfold wpC7 wpL_far wpX10_far
  refine ⟨hv.h1, hv.h2, ?_⟩
  generalize xs (l4 + (1 : Int32)).toNatClampNeg = x
  generalize xs (l4 + (2 : Int32)).toNatClampNeg = y
  refine c_needTower hF hGc.1 (fun t ht e => ?_) (fun e => ⟨rfl, hv.h1, hv.h2, ?_⟩)
  · subst e
    refine c_needCell hF hGc.1 (fun c hc e => ?_) (fun e => ⟨rfl, hv.h1, hv.h2, ?_⟩)
    · subst e
      refine c_dist hGc.1 hF ht hc (hGc.2.1 t ht) ⟨hv.h1, hv.h2, ?_⟩
      unfold wpX11_far
      refine m_isTower hF hGm.1 (fun _ _ _ => ⟨fun z => absurd z (by decide), fun _ => m_isCell hF hGm.1 (fun _ _ _ => ⟨fun z => absurd z (by decide), fun _ => m_far hGm.1 hF ht hc (hGm.2.1 t ht) (ro_ok hI2 hk _)⟩) (fun z => absurd ⟨c, hc, rfl⟩ z)⟩) (fun z => absurd ⟨t, ht, rfl⟩ z)
    · unfold wpX11_far wpX11_far_J30 wpX11_fail
      exact m_isTower hF hGm.1 (fun _ _ _ => ⟨fun z => absurd z (by decide), fun _ => m_isCell hF hGm.1 (fun c h1 h2 => absurd ⟨c, h1, h2⟩ e) (fun _ => ⟨fun _ => ro_th hI2 hk _ _, fun z => absurd rfl z⟩)⟩) (fun z => absurd ⟨t, ht, rfl⟩ z)
  · unfold wpX11_far wpX11_far_J30 wpX11_fail
    exact m_isTower hF hGm.1 (fun c h1 h2 => absurd ⟨c, h1, h2⟩ e) (fun _ => ⟨fun _ => ro_th hI2 hk _ _, fun z => absurd rfl z⟩)
theorem bts_full {T t : Nat} (ht : t < T) : bts (2 ^ T - 1) t = true := by
  unfold bts
  refine decide_eq_true ?_
  unfold bt1
  obtain ⟨k, rfl⟩ : ∃ k, T = t + 1 + k := ⟨T - (t + 1), by omega⟩
  have h1 : 2 ^ (t + 1 + k) = 2 ^ t * (2 * 2 ^ k) := by rw [Nat.pow_add, Nat.pow_add, Nat.pow_one, Nat.mul_assoc]
  have h2 := Nat.two_pow_pos k
  have h3 := Nat.two_pow_pos t
  have h4 : 2 ^ (t + 1 + k) - 1 = 2 ^ t * (2 * 2 ^ k - 1) + (2 ^ t - 1) := by
    rw [h1, Nat.mul_sub, Nat.mul_one]
    have : 2 ^ t * 1 ≤ 2 ^ t * (2 * 2 ^ k) := Nat.mul_le_mul_left _ (by omega)
    omega
  rw [h4, Nat.mul_add_div h3, Nat.div_eq_of_lt (by omega)]
  omega
/-- heard -/
theorem law8 {xs : Nat → Int32} {L B : Nat} {cs ms : ST} {ov l4 : Int32} (hI : INV B cs ms) (hv : HV l4 L) {kb : ST → ST → Prop} (hk : ∀ cs' ms', INV B cs' ms' → kb cs' ms') : wpC8 xs L cs ms ov l4 kb := by
  have hI2 := hI
  obtain ⟨P, op, g, im, g2, T, pl, hG, hR, hT, hP, hJ⟩ := hI
  have hCG := hG.cg
  have hG2 := hG
  obtain ⟨hF, hGc, hE, hW, hGm⟩ := hG
  have hR2 := hR
  obtain ⟨hRc, hRm, hok, hs5, hs6⟩ := hR
  have fc := hF.cells
  have f5 := hF.1.2.2.2.2.1
  have f6 := hF.1.2.2.2.2.2.1
  have h32 := p2_le f5
  unfold wpC8 wpL_heard wpX10_heard
  refine ⟨hv.h1, ?_⟩
  generalize xs (l4 + (1 : Int32)).toNatClampNeg = x
  refine c_needCell hF hGc.1 (fun c hc e => ?_) (fun e => ⟨rfl, hv.h1, ?_⟩)
  · subst e
    rw [nI_clamp (by omega), hE.1 c hc]
    refine ⟨vp_in_nI (by omega) (by omega), hv.h1, ?_⟩
    unfold wpX11_heard
    have hp := Nat.two_pow_pos (P 0 2)
    refine m_isCell hF hGm.1 (fun _ _ _ => ⟨fun z => absurd z (by decide), fun _ => ?_⟩) (fun z => absurd ⟨c, hc, rfl⟩ z)
    rw [hGm.1 2 (by omega), show jshl (1 : Int32) (nI (P 0 2)) = nI (2 ^ P 0 2) from n_shl (by omega), show nI (2 ^ P 0 2) - (1 : Int32) = nI (2 ^ P 0 2 - 1) from pk_sub (b := 1) (by omega)]
    refine m_heardOf hF hGm.1 hGm.2.1 hGm.2.2.1 (by omega) hc ?_
    have e : bm (fun t => bts (2 ^ P 0 2 - 1) t && hd P t c) (P 0 2) = hmk P c := by
      unfold hmk
      have hh : ∀ n, n ≤ P 0 2 → bm (fun t => bts (2 ^ P 0 2 - 1) t && hd P t c) n = bm (fun t => hd P t c) n := by
        intro n
        induction n with
        | zero => intro _; rfl
        | succ n ih =>
          intro hn
          rw [bm, bm, ih (by omega), bts_full (show n < P 0 2 by omega), Bool.true_and]
      exact hh _ (Nat.le_refl _)
    rw [e]
    exact ro_ok hI2 hk _
  · unfold wpX11_heard wpX11_fail
    exact m_isCell hF hGm.1 (fun c h1 h2 => absurd ⟨c, h1, h2⟩ e) (fun _ => ⟨fun _ => ro_th hI2 hk _ _, fun z => absurd rfl z⟩)
/-- plan -/
theorem law19 {xs : Nat → Int32} {L B : Nat} {cs ms : ST} {ov l4 : Int32} (hI : INV B cs ms) (hv : HV l4 L) {kb : ST → ST → Prop} (hk : ∀ cs' ms', INV B cs' ms' → kb cs' ms') : wpC19 xs L cs ms ov l4 kb := by
  have hI2 := hI
  obtain ⟨P, op, g, im, g2, T, pl, hG, hR, hT, hP, hJ⟩ := hI
  have hCG := hG.cg
  have hG2 := hG
  obtain ⟨hF, hGc, hE, hW, hGm⟩ := hG
  have hR2 := hR
  obtain ⟨hRc, hRm, hok, hs5, hs6⟩ := hR
  have fc := hF.cells
  have f5 := hF.1.2.2.2.2.1
  have f6 := hF.1.2.2.2.2.2.1
  obtain ⟨p1, p2, p3, p4⟩ := hP
  unfold wpC19 wpL_plan wpX10_plan wpX10_plan_J12
  refine ⟨hv.h1, ?_⟩
  generalize xs (l4 + (1 : Int32)).toNatClampNeg = x
  rw [p2]
  have hm1 : (∃ c, c < pl ∧ x = nI c) → ∀ {post : Int32 → Prop}, post 1 → wpX11_isIn x (0 : Int32) (ms 0 45 - (1 : Int32)) post := by
    rintro ⟨c, h1, h2⟩ post h
    rw [p3, if_neg (by omega)]
    exact m_range (by omega) (fun _ _ _ => h) (fun z => absurd ⟨c, h1, h2⟩ z)
  have hm0 : (¬ ∃ c, c < pl ∧ x = nI c) → ∀ {post : Int32 → Prop}, post 0 → wpX11_isIn x (0 : Int32) (ms 0 45 - (1 : Int32)) post := by
    intro hn post h
    by_cases e : pl = 0
    · rw [p3, if_pos e]
      unfold wpX11_isIn
      refine ⟨fun _ => h, fun z => ⟨fun _ => h, fun q => ?_⟩⟩
      obtain ⟨m, hm, rfl, hm2⟩ := n_any x
      rcases hm2 with hm2 | hm2
      · refine absurd ?_ q
        rw [show (-1 : Int32) - (1 : Int32) = -nI 2 from rfl, n_neglt (by omega) hm2 (by omega)]
        trivial
      · exact absurd hm2 z
    · rw [p3, if_neg e]
      exact m_range (by omega) (fun c h1 h2 => absurd ⟨c, h1, h2⟩ hn) (fun _ => h)
  refine n_range (b := pl) (by omega) (fun c hc e => ?_) (fun e => ⟨rfl, hv.h1, ?_⟩)
  · subst e
    rw [nI_clamp (by omega)]
    refine ⟨vp_in_nI (by omega) (by omega), hv.h1, ?_⟩
    unfold wpX11_plan
    refine hm1 ⟨c, hc, rfl⟩ ⟨fun z => absurd z (by decide), fun _ => ?_⟩
    rw [nI_clamp (by omega), ← p4 c hc]
    exact ⟨vp_in_nI (by omega) (by omega), ro_ok hI2 hk _⟩
  · unfold wpX11_plan wpX11_fail
    exact hm0 e ⟨fun _ => ro_th hI2 hk _ _, fun z => absurd rfl z⟩
/-- why -/
theorem law13 {xs : Nat → Int32} {L B : Nat} {cs ms : ST} {ov l4 : Int32} (hI : INV B cs ms) (hv : HV l4 L) {kb : ST → ST → Prop} (hk : ∀ cs' ms', INV B cs' ms' → kb cs' ms') : wpC13 xs L cs ms ov l4 kb := by
  have hI2 := hI
  obtain ⟨P, op, g, im, g2, T, pl, hG, hR, hT, hP, hJ⟩ := hI
  have hCG := hG.cg
  have hG2 := hG
  obtain ⟨hF, hGc, hE, hW, hGm⟩ := hG
  have hR2 := hR
  obtain ⟨hRc, hRm, hok, hs5, hs6⟩ := hR
  have fc := hF.cells
  have f5 := hF.1.2.2.2.2.1
  have f6 := hF.1.2.2.2.2.2.1
  have hn := hok.1.1
  obtain ⟨f, hf, h2, h3, h4, hFr, hen⟩ := hRc.1
  unfold wpC13 wpL_why wpX10_why wpX10_why_J20
  refine ⟨hv.h1, hv.h2, ?_⟩
  generalize xs (l4 + (1 : Int32)).toNatClampNeg = x
  generalize xs (l4 + (2 : Int32)).toNatClampNeg = y
  refine c_needWalker hF hGc.1 (fun w hw e => ?_) (fun e => ⟨rfl, hv.h1, hv.h2, ?_⟩)
  · subst e
    have hm : ∀ {post : Int32 → Prop}, post 1 → wpX11_isWalker (ms 1) (nI w) post := fun h => m_isWalker hF hGm.1 (fun _ _ _ => h) (fun z => absurd ⟨w, hw, rfl⟩ z)
    rw [h3]
    refine n_range (b := g.2.2.1) (by omega) (fun i hi e => ?_) (fun e => ⟨rfl, hv.h1, hv.h2, ?_⟩)
    · subst e
      refine c_reason hF hRc.1 hok.1 hw hi ⟨hv.h1, hv.h2, ?_⟩
      unfold wpX11_why
      rw [hRm.1.1]
      refine hm ⟨fun z => absurd z (by decide), fun _ => m_range (by omega) (fun _ _ _ => ⟨fun z => absurd z (by decide), fun _ => ?_⟩) (fun z => absurd ⟨i, hi, rfl⟩ z)⟩
      rw [show (4 : Int32) * nI i = nI (4 * i) from pk_mul 4 i, nI_add, nI_clamp (by omega), (hRm.1.2.2.2 i (by omega)).2.2 w hw]
      exact ⟨vp_in_nI (by omega) (by omega), ro_ok hI2 hk _⟩
    · unfold wpX11_why wpX11_why_J40 wpX11_fail
      rw [hRm.1.1]
      exact hm ⟨fun z => absurd z (by decide), fun _ => m_range (by omega) (fun c h1 h2 => absurd ⟨c, h1, h2⟩ e) (fun _ => ⟨fun _ => ro_th hI2 hk _ _, fun z => absurd rfl z⟩)⟩
  · unfold wpX11_why wpX11_why_J40 wpX11_fail
    exact m_isWalker hF hGm.1 (fun c h1 h2 => absurd ⟨c, h1, h2⟩ e) (fun _ => ⟨fun _ => ro_th hI2 hk _ _, fun z => absurd rfl z⟩)
