/-! feed -/
theorem by_tab : ∀ v, v < 256 → vp_nar .byte (jbyte (nI v)) = bI v := by decide +kernel
theorem by_any (y : Int32) : ∃ v, v < 256 ∧ y &&& (255 : Int32) = nI v ∧ vp_nar .byte (jbyte y) = bI v := by
  obtain ⟨m, hm, rfl, -⟩ := n_any y
  refine ⟨m % 256, Nat.mod_lt _ (by omega), ?_, ?_⟩
  · rw [show (255 : Int32) = nI 255 from rfl, n_and, show m &&& 255 = m % 256 from Nat.and_two_pow_sub_one_eq_mod m 8]
  · have e : (nI m).toInt8 = (nI (m % 256)).toInt8 := by
      apply Int8.toBitVec_inj.mp
      apply BitVec.eq_of_toNat_eq
      show ((BitVec.ofNat 32 m).signExtend 8).toNat = ((BitVec.ofNat 32 (m % 256)).signExtend 8).toNat
      rw [BitVec.signExtend_eq_setWidth_of_le _ (by omega), BitVec.signExtend_eq_setWidth_of_le _ (by omega), BitVec.toNat_setWidth, BitVec.toNat_setWidth, BitVec.toNat_ofNat, BitVec.toNat_ofNat]
      omega
    have e2 : jbyte (nI m) = jbyte (nI (m % 256)) := by show (nI m).toInt8.toInt32 = (nI (m % 256)).toInt8.toInt32; rw [e]
    rw [e2]
    exact by_tab (m % 256) (Nat.mod_lt _ (by omega))
def shI (i : Nat) : Int32 := if i < 4 then nI (24 - 8 * i) else -8
theorem shI_n : ∀ i, i < 4 → shI i + (-8 : Int32) = shI (i + 1) ∧ ¬ shI i < 0 ∧ shI i = nI (24 - 8 * i) := by decide +kernel
def CA (T : Nat) (X : Nat → Int32) (n : Nat) (t0 t : AR) : Prop := (∀ j, j < n → t (T + j) = vp_nar .byte (jbyte (jshr (X j) (nI (24 - 8 * (j % 4)))))) ∧ ∀ i, i < T → t i = t0 i
theorem c_append {T a : Nat} {X : Nat → Int32} {sS t t0 : AR} {x : Int32} (hx : ∀ j, j < 4 → X (4 * a + j) = x) (h15 : sS 15 = nI (T + 4 * a)) (hT : T + 4 * a + 4 ≤ 500) (hA : CA T X (4 * a) t0 t) {post : AR → AR → Prop} (hk : ∀ sS' t', sS' 15 = nI (T + 4 * (a + 1)) → (∀ j, j ≠ 15 → sS' j = sS j) → CA T X (4 * (a + 1)) t0 t' → post sS' t') : wpX10_append sS t x post := by
  unfold wpX10_append
  refine loop_0 (fun n i (q : AR × AR) => wpX10_append_L3 x _ post n q.1 q.2 (shI i)) (fun i q => q.1 15 = nI (T + 4 * a + i) ∧ (∀ j, j ≠ 15 → q.1 j = sS j) ∧ CA T X (4 * a + i) t0 q.2) 4 (sS, t) ⟨h15, fun _ _ => rfl, hA⟩ ?_ ?_
  · rintro n ⟨sS1, t1⟩ ⟨i1, i2, i3⟩
    show wpX10_append_L3 x _ post (n + 1) sS1 t1 (shI 4)
    unfold wpX10_append_L3
    refine ⟨fun _ => hk _ _ ?_ i2 i3, fun z => absurd (by decide) z⟩
    rw [show T + 4 * (a + 1) = T + 4 * a + 4 by omega]; exact i1
  · rintro n i ⟨sS1, t1⟩ hi ⟨i1, i2, i3⟩ hnext
    have i1 : sS1 15 = nI (T + 4 * a + i) := i1
    have i2 : ∀ j, j ≠ 15 → sS1 j = sS j := i2
    have i3 : CA T X (4 * a + i) t0 t1 := i3
    obtain ⟨s1, s2, s3⟩ := shI_n i hi
    show wpX10_append_L3 x _ post (n + 1) sS1 t1 (shI i)
    unfold wpX10_append_L3
    rw [i1, nI_clamp (by omega), show ((500 : Int32) ≤ nI (T + 4 * a + i)) = (500 ≤ T + 4 * a + i) from propext (nI_leI (a := 500) (by omega) (by omega))]
    refine ⟨fun z => absurd z s2, fun _ => ⟨fun z => by omega, fun _ => ⟨vp_in_nI (by omega) (by omega), nm_e (nm_r (nI_1 _) (nm_r s1 (hnext (_, _) ⟨?_, fun j hj => ?_, fun j hj => ?_, fun j hj => ?_⟩)))⟩⟩⟩
    · show upd sS1 15 _ 15 = _
      rw [pk_us]; rfl
    · show upd sS1 15 _ j = _
      rw [pk_un hj]; exact i2 j hj
    · show upd t1 (T + 4 * a + i) _ (T + j) = _
      by_cases e : j = 4 * a + i
      · subst e
        rw [show T + (4 * a + i) = T + 4 * a + i by omega, pk_us, hx i hi, s3, show (4 * a + i) % 4 = i by omega]
      · rw [pk_un (by omega)]; exact i3.1 j (by omega)
    · show upd t1 (T + 4 * a + i) _ j = _
      rw [pk_un (by omega)]; exact i3.2 j hj
theorem sh_m : ∀ i, i < 20 → (24 : Int32) - (8 : Int32) * jrem (nI i) (4 : Int32) = nI (24 - 8 * (i % 4)) := by decide +kernel
theorem m_feed {T : Nat} {X : Nat → Int32} {s t : AR} {x1 x2 x3 x4 x5 : Int32} (hX : ∀ i, i < 20 → X i = if i < 4 then x1 else if i < 8 then x2 else if i < 12 then x3 else if i < 16 then x4 else x5) (h14 : s 14 = nI T) (hT : T + 20 ≤ 500) {post : Int32 → AR → AR → Prop} (hk : ∀ s' t', s' 14 = nI (T + 20) → (∀ j, j ≠ 14 → j ≠ 2 → s' j = s j) → (∀ j, j < 20 → t' (T + j) = jshr (X j) (nI (24 - 8 * (j % 4))) &&& (255 : Int32)) → (∀ i, i < T → t' i = t i) → post (nI (T + 20)) s' t') : wpX11_feed s t x1 x2 x3 x4 x5 post := by
  unfold wpX11_feed
  rw [h14, show nI T + (20 : Int32) = nI (T + 20) from nI_add T 20]
  refine ⟨fun _ => ?_, fun z => absurd ((nI_leI (b := 500) (by omega) (by omega)).mpr hT) z⟩
  refine loop_0 (fun n i (q : AR × AR) => wpX11_feed_L23 x1 x2 x3 x4 x5 _ post n q.1 q.2 (nI i)) (fun i q => q.1 14 = nI (T + i) ∧ (∀ j, j ≠ 14 → j ≠ 2 → q.1 j = s j) ∧ (∀ j, j < i → q.2 (T + j) = jshr (X j) (nI (24 - 8 * (j % 4))) &&& (255 : Int32)) ∧ ∀ i, i < T → q.2 i = t i) 20 (upd s 2 (0 : Int32), t) ⟨by show upd s 2 (0 : Int32) 14 = _; rw [pk_un (by omega)]; exact h14, fun j _ hj => pk_un hj, fun j hj => absurd hj (Nat.not_lt_zero _), fun _ _ => rfl⟩ ?_ ?_
  · rintro n ⟨s1, t1⟩ ⟨i1, i2, i3, i4⟩
    have i1 : s1 14 = nI (T + 20) := i1
    show wpX11_feed_L23 x1 x2 x3 x4 x5 _ post (n + 1) s1 t1 (nI 20)
    unfold wpX11_feed_L23
    refine ⟨fun _ => ?_, fun z => absurd (nI_le (Nat.le_refl 20) (by decide)) z⟩
    show post (s1 14) s1 t1
    rw [i1]
    exact hk _ _ i1 i2 i3 i4
  · rintro n i ⟨s1, t1⟩ hi ⟨i1, i2, i3, i4⟩ hnext
    have i1 : s1 14 = nI (T + i) := i1
    have i2 : ∀ j, j ≠ 14 → j ≠ 2 → s1 j = s j := i2
    have i3 : ∀ j, j < i → t1 (T + j) = jshr (X j) (nI (24 - 8 * (j % 4))) &&& (255 : Int32) := i3
    have i4 : ∀ i, i < T → t1 i = t i := i4
    show wpX11_feed_L23 x1 x2 x3 x4 x5 _ post (n + 1) s1 t1 (nI i)
    unfold wpX11_feed_L23
    have core : ∀ y, y = X i → ∀ kb, kb = (fun b0 b1 b2 => wpX11_feed_L23 x1 x2 x3 x4 x5 (fun sM_120 M_tape_120 l6_120 => post (sM_120 14) sM_120 M_tape_120) post n b0 b1 b2) → ∀ kx, wpX11_feed_J76 s1 t1 x1 x2 x3 x4 x5 (nI i) y kb kx post := by
      intro y hy kb hkb kx
      subst hy hkb
      unfold wpX11_feed_J76
      rw [i1, nI_clamp (by omega), sh_m i hi]
      refine ⟨vp_in_nI (by omega) (by omega), nm_e (nm_r (nI_1 _) (nm_r (nI_1 i) (hnext (_, _) ⟨?_, fun j hj hj2 => ?_, fun j hj => ?_, fun j hj => ?_⟩)))⟩
      · show upd s1 14 _ 14 = _
        rw [pk_us]; rfl
      · show upd s1 14 _ j = _
        rw [pk_un hj]; exact i2 j hj hj2
      · show upd t1 (T + i) _ (T + j) = _
        by_cases e : j = i
        · subst e; rw [pk_us]
        · rw [pk_un (by omega)]; exact i3 j (by omega)
      · show upd t1 (T + i) _ j = _
        rw [pk_un (by omega)]; exact i4 j hj
    have hXi := hX i hi
    rw [show ((4 : Int32) ≤ nI i) = (4 ≤ i) from propext (nI_leI (a := 4) (by omega) (by omega)), show ((8 : Int32) ≤ nI i) = (8 ≤ i) from propext (nI_leI (a := 8) (by omega) (by omega)), show ((12 : Int32) ≤ nI i) = (12 ≤ i) from propext (nI_leI (a := 12) (by omega) (by omega)), show ((16 : Int32) ≤ nI i) = (16 ≤ i) from propext (nI_leI (a := 16) (by omega) (by omega))]
    refine ⟨fun z => absurd z (nI_ge (b := 20) hi (by decide)), fun _ => ⟨fun e1 => ⟨fun e2 => ⟨fun e3 => ⟨fun e4 => core _ ?_ _ rfl _, fun e4 => core _ ?_ _ rfl _⟩, fun e3 => core _ ?_ _ rfl _⟩, fun e2 => core _ ?_ _ rfl _⟩, fun e1 => core _ ?_ _ rfl _⟩⟩
    · rw [hXi, if_neg (by omega), if_neg (by omega), if_neg (by omega), if_neg (by omega)]
    · rw [hXi, if_neg (by omega), if_neg (by omega), if_neg (by omega), if_pos (by omega)]
    · rw [hXi, if_neg (by omega), if_neg (by omega), if_pos (by omega)]
    · rw [hXi, if_neg (by omega), if_pos (by omega)]
    · rw [hXi, if_pos (by omega)]
theorem law0 {xs : Nat → Int32} {L B : Nat} {cs ms : ST} {ov l4 : Int32} (hI : INV B cs ms) (hv : HV l4 L) {kb : ST → ST → Prop} (hk : ∀ cs' ms', INV B cs' ms' → kb cs' ms') : wpC0 xs L cs ms ov l4 kb := by
  obtain ⟨P, op, g, im, g2, T, pl, hG, hR, hT, hP, hJ⟩ := hI
  obtain ⟨hT5, hTc, hTm, hTp, hTf⟩ := hT
  unfold wpC0
  refine ⟨hv.h1, hv.h2, hv.h3, hv.h4, hv.h5, ?_⟩
  generalize xs (l4 + (1 : Int32)).toNatClampNeg = x1
  generalize xs (l4 + (2 : Int32)).toNatClampNeg = x2
  generalize xs (l4 + (3 : Int32)).toNatClampNeg = x3
  generalize xs (l4 + (4 : Int32)).toNatClampNeg = x4
  generalize xs (l4 + (5 : Int32)).toNatClampNeg = x5
  unfold wpX10_feed
  rw [hTc, show nI T + (20 : Int32) = nI (T + 20) from nI_add T 20, show (nI (T + 20) ≤ (500 : Int32)) = (T + 20 ≤ 500) from propext (nI_leI (b := 500) (by omega) (by omega))]
  refine ⟨fun e => ?_, fun e => ⟨hv.h1, hv.h2, hv.h3, hv.h4, hv.h5, ?_⟩⟩
  · obtain ⟨X, hX⟩ : ∃ X : Nat → Int32, ∀ i, X i = if i < 4 then x1 else if i < 8 then x2 else if i < 12 then x3 else if i < 16 then x4 else x5 := ⟨_, fun _ => rfl⟩
    have hA0 : CA T X (4 * 0) (cs 10) (cs 10) := ⟨fun j hj => absurd hj (Nat.not_lt_zero _), fun _ _ => rfl⟩
    refine c_append (a := 0) (fun j hj => by rw [hX, if_pos (by omega)]) hTc (by omega) hA0 (fun s1 t1 a1 a2 a3 => ?_)
    refine c_append (a := 1) (fun j hj => by rw [hX, if_neg (by omega), if_pos (by omega)]) a1 (by omega) a3 (fun s2 t2 b1 b2 b3 => ?_)
    refine c_append (a := 2) (fun j hj => by rw [hX, if_neg (by omega), if_neg (by omega), if_pos (by omega)]) b1 (by omega) b3 (fun s3 t3 c1 c2 c3 => ?_)
    refine c_append (a := 3) (fun j hj => by rw [hX, if_neg (by omega), if_neg (by omega), if_neg (by omega), if_pos (by omega)]) c1 (by omega) c3 (fun s4 t4 d1 d2 d3 => ?_)
    refine c_append (a := 4) (fun j hj => by rw [hX, if_neg (by omega), if_neg (by omega), if_neg (by omega), if_neg (by omega)]) d1 (by omega) d3 (fun s5 t5 e1 e2 e3 => ⟨hv.h1, hv.h2, hv.h3, hv.h4, hv.h5, ?_⟩)
    refine m_feed (X := X) (fun i _ => hX i) hTm e (fun s6 t6 f1 f2 f3 f4 => ⟨e1, hk _ _ ?_⟩)
    have fs : ∀ j, j ≠ 15 → s5 j = cs 0 j := fun j hj => (e2 j hj).trans ((d2 j hj).trans ((c2 j hj).trans ((b2 j hj).trans (a2 j hj))))
    refine ⟨P, op, g, im, g2, T + 20, pl, hG, ⟨hR.1, ?_, hR.2.2⟩, ?_, ?_, ?_⟩
    · exact RM.fr hR.2.1 (f2 30 (by omega) (by omega)) (f2 31 (by omega) (by omega)) (f2 36 (by omega) (by omega))
    · refine ⟨e, e1, f1, fun i hi => ?_, ?_⟩
      · show ∃ v, v < 256 ∧ t6 i = nI v ∧ t5 i = bI v
        rcases Nat.lt_or_ge i T with h | h
        · rw [f4 i h, e3.2 i h]; exact hTp i h
        · obtain ⟨j, rfl⟩ : ∃ j, i = T + j := ⟨i - T, by omega⟩
          rw [f3 j (by omega), e3.1 j (by omega)]
          exact by_any _
      · exact (fs 16 (by omega)).trans (hTf.trans (f2 23 (by omega) (by omega)).symm)
    · exact ⟨hP.1, (fs 14 (by omega)).trans hP.2.1, (f2 45 (by omega) (by omega)).trans hP.2.2.1, hP.2.2.2⟩
    · refine ⟨(fs 17 (by omega)).trans hJ.1, (f2 48 (by omega) (by omega)).trans hJ.2.1, fun e => ?_⟩
      obtain ⟨j1, j2, j3⟩ := hJ.2.2 e
      exact ⟨j1, ⟨(f2 49 (by omega) (by omega)).trans j2.1, (f2 50 (by omega) (by omega)).trans j2.2.1, j2.2.2⟩, j3⟩
  · unfold wpX11_feed
    rw [hTm, show nI T + (20 : Int32) = nI (T + 20) from nI_add T 20, show (nI (T + 20) ≤ (500 : Int32)) = (T + 20 ≤ 500) from propext (nI_leI (b := 500) (by omega) (by omega))]
    refine ⟨fun z => absurd z e, fun _ => ⟨rfl, hk _ _ ?_⟩⟩
    have kk : K0 (ms 0) (upd (ms 0) 2 (0 : Int32)) := K0.c
    have hR2 := hR.k0 kk
    have hT2 := IT.k0 (T := T) ⟨hT5, hTc, hTm, hTp, hTf⟩ kk
    have hP2 := hP.k0 kk
    have hJ2 := hJ.k0 kk
    exact ⟨P, op, g, im, g2, T, pl, hG, hR2, hT2, hP2, hJ2⟩
