/-! flat -/
abbrev txN (t : AR) : Nat → Nat := fun i => (t i).toNatClampNeg
theorem tx_c {T N : Nat} {tc tm : AR} (h : Tp T tc tm) (hT : T ≤ 500) (hN : N ≤ T) : TxC (txN tm) N tc ∧ TxM (txN tm) N tm := by
  refine ⟨⟨by omega, fun i hi => ?_⟩, ⟨by omega, fun i hi => ?_⟩⟩
  · obtain ⟨v, hv, e1, e2⟩ := h i (by omega)
    have e : txN tm i = v := by show (tm i).toNatClampNeg = v; rw [e1, nI_clamp (by omega)]
    rw [e]; exact ⟨hv, e2⟩
  · obtain ⟨v, hv, e1, e2⟩ := h i (by omega)
    have e : txN tm i = v := by show (tm i).toNatClampNeg = v; rw [e1, nI_clamp (by omega)]
    rw [e]; exact ⟨hv, e1⟩
theorem c_open {tx : Nat → Nat} {N T : Nat} {sS sR t : AR} (ht : TxC tx N t) (h15 : sS 15 = nI T) (hT : T ≤ 500) (hN : N ≤ T) {post : AR → AR → Prop} {postX : String → Prop} (hk : ∀ s', RdC tx N 0 s' → s' 8 = 0 → s' 9 = -1 → post (upd sS 15 (0 : Int32)) s') : wpX10_openTape sS sR t (nI N) post postX := by
  have h5 := ht.1
  unfold wpX10_openTape wpX8_open
  rw [h15]
  refine ⟨fun z => absurd ((nI_ltI (b := 0) (by omega) (by omega)).mp z) (by omega), fun _ => ⟨fun _ => ?_, fun z => absurd (nI_le hN (by omega)) z⟩⟩
  refine nm_r (e' := nI N) ((n_jmin (b := 500) (by omega) (by omega)).trans (by rw [Nat.min_eq_left h5])) ?_
  refine c_advance ht (Nat.zero_le _) (by rw [pk_un (by omega), pk_un (by omega), pk_un (by omega), pk_un (by omega), pk_us]) (by rw [pk_un (by omega), pk_un (by omega), pk_un (by omega), pk_us]; rfl) (fun s' a1 a2 a3 => hk s' a1 ?_ ?_)
  · rw [a3 8 (by omega), pk_un (by omega), pk_us]
  · rw [a3 9 (by omega), pk_us]
theorem n_rangeLe {x : Int32} {b : Nat} (hb : b + 1 < 2 ^ 31) {A B : Prop} (h1 : ∀ c, c ≤ b → x = nI c → A) (h0 : (¬ ∃ c, c < b + 1 ∧ x = nI c) → B) : (x < 0 → B) ∧ (¬ x < 0 → (x ≤ nI b → A) ∧ (¬ x ≤ nI b → B)) := by
  obtain ⟨m, hm, rfl, hm2⟩ := n_any x
  by_cases e : m < b + 1
  · exact ⟨fun z => absurd ((nI_ltI (b := 0) (by omega) (by omega)).mp z) (by omega), fun _ => ⟨fun _ => h1 m (by omega) rfl, fun z => absurd (nI_le (show m ≤ b by omega) (by omega)) z⟩⟩
  · have hn : ¬ ∃ c, c < b + 1 ∧ nI m = nI c := by
      rintro ⟨c, c1, c2⟩
      have := nI_inj32 hm (by omega) c2
      omega
    refine ⟨fun _ => h0 hn, fun z => ⟨fun q => ?_, fun _ => h0 hn⟩⟩
    rcases hm2 with hm2 | hm2
    · exact absurd ((nI_leI (by omega) (by omega)).mp q) (by omega)
    · exact absurd hm2 z
theorem law1 {xs : Nat → Int32} {L B : Nat} {cs ms : ST} {ov l4 : Int32} (hI : INV B cs ms) (hv : HV l4 L) {kb : ST → ST → Prop} (hk : ∀ cs' ms', INV B cs' ms' → kb cs' ms') : wpC1 xs L cs ms ov l4 kb := by
  obtain ⟨P, op, g, im, g2, T, pl, hG, hR, hT, hP, hJ⟩ := hI
  have hT5 := hT.1
  unfold wpC1 wpL_flat wpX10_flat
  refine ⟨hv.h1, ?_⟩
  generalize xs (l4 + (1 : Int32)).toNatClampNeg = x
  by_cases hx : ∃ n, n < T + 1 ∧ x = nI n
  · obtain ⟨n, hn, rfl⟩ := hx
    obtain ⟨tC, tM⟩ := tx_c hT.2.2.2.1 hT5 (show n ≤ T by omega)
    refine c_open tC hT.2.1 hT5 (by omega) (fun s1 r1 r8 r9 => ?_)
    refine c_tell tC r1 r9 (fun D er sL' sG' s' tc' rg' vc' st' fl' kd' hm' wt' mi' a9 aOK aD => ?_) (fun k b er sL' sG' s' tc' rg' vc' st' fl' kd' hm' wt' mi' a8 a9 => ?_)
    · rw [a9]
      refine nm_e ⟨fun _ => ?_, fun z => absurd z (by decide)⟩
      refine c_gtake aOK.1 aD (fun sG2 tc2 rg2 vc2 st2 fl2 kd2 hm2 wt2 mi2 aD2 => ?_)
      refine c_beginOn aOK aD2 (fun hA' E' ds' ov' ak' nx' wy' gl' F' hE hW hF' => ?_)
      refine ⟨hv.h1, ?_⟩
      refine m_flat tM hT.2.2.1 hT5 (by omega) (fun D2 er2 _ s2 td2 pl2 rg3 vc3 kd3 now2 rd2 fl3 mi3 b2 b14 b23 b30 b31 b36 b45 b48 bG bF => ?_) (fun k b er2 => ?_)
      · have eD : D = D2 := Sum.inr.inj (er.symm.trans er2)
        subst eD
        refine ⟨b2, fun z => absurd rfl z, fun _ => ⟨rfl, hk _ _ ?_⟩⟩
        obtain ⟨d1, d2, d3, d4⟩ := aD2
        refine ⟨D, false, (fun _ => st0 D, fun _ => 0, 0, 0, fun _ => 0, fun _ => 0), false, (fun _ => st0 D, fun _ => 0, 0, 0, fun _ => 0, fun _ => 0), 0, 0, ⟨aOK.1, ⟨d1, fun t ht => (d2 t ht).1, fun t ht => (d2 t ht).2.1, fun t ht => (d2 t ht).2.2.1, fun t ht => (d2 t ht).2.2.2.1, fun w hw => (d3 w hw).1, d4⟩, hE, hW, bG⟩, ?_, ?_, ?_, ?_⟩
        · refine ⟨⟨⟨0, by omega, rfl, rfl, rfl, hF', fun i hi => absurd (show i < 0 from hi) (by omega)⟩, ⟨rfl, fun z => absurd z (by decide)⟩⟩, ⟨⟨b30, b31, bF, fun i hi => absurd (show i < 0 from hi) (by omega)⟩, ⟨b36, fun z => absurd z (by decide)⟩⟩, ⟨⟨by show 0 + 0 ≤ 100; omega, fun i _ => st0_ok aOK B, fun i hi => absurd (show i < 0 from hi) (by omega)⟩, fun k hk => ⟨Nat.zero_le _, by show 0 < 4; omega⟩⟩, ?_, ?_⟩
          · exact hR.2.2.2.1
          · exact hR.2.2.2.2
        · exact ⟨by omega, rfl, b14, fun i hi => absurd hi (Nat.not_lt_zero _), b23.symm⟩
        · exact ⟨by omega, rfl, b45, fun i hi => absurd hi (Nat.not_lt_zero _)⟩
        · exact ⟨rfl, b48, fun z => absurd z (by decide)⟩
      · exact absurd (er.symm.trans er2) (by simp)
    · rw [a8, a9]
      refine nm_e ⟨fun z => absurd rfl z, fun _ => nm_e ⟨hv.h1, ?_⟩⟩
      refine m_flat tM hT.2.2.1 hT5 (by omega) (fun D2 er2 => ?_) (fun k2 b2 er2 s2 td2 pl2 rg3 vc3 kd3 rd2 fl3 mi3 c2 c14 c23 cH cL => ?_)
      · exact absurd (er.symm.trans er2) (by simp)
      · have e := Sum.inl.inj (er.symm.trans er2)
        injection e with e1 e2
        subst e1 e2
        refine ⟨c2, fun z => absurd rfl z, fun _ => ⟨rfl, hk _ _ ?_⟩⟩
        refine ⟨P, op, g, im, g2, 0, pl, ⟨hG.1, hG.2.1, hG.2.2.1, hG.2.2.2.1, hG.2.2.2.2.lf hG.1 cL⟩, ?_, ?_, ?_, ?_⟩
        · obtain ⟨⟨⟨f, hf, q2, q3, q4, q5, q6⟩, hq⟩, ⟨⟨m1, m2, m3, m4⟩, hm⟩, hok, e5, e6⟩ := hR
          refine ⟨⟨⟨f, hf, q2, q3, q4, q5, q6⟩, hq⟩, ⟨⟨(cH 30 (by omega)).trans m1, (cH 31 (by omega)).trans m2, m3, m4⟩, ⟨(cH 36 (by omega)).trans hm.1, hm.2⟩⟩, hok, ?_, ?_⟩
          · show cs 6 5 + 1 = ms 8 0 + 1
            rw [e5]
          · exact e6
        · exact ⟨by omega, rfl, c14, fun i hi => absurd hi (Nat.not_lt_zero _), c23.symm⟩
        · exact ⟨hP.1, hP.2.1, (cH 45 (by omega)).trans hP.2.2.1, hP.2.2.2⟩
        · refine ⟨hJ.1, (cH 48 (by omega)).trans hJ.2.1, fun e => ?_⟩
          obtain ⟨j1, j2, j3⟩ := hJ.2.2 e
          exact ⟨j1, ⟨(cH 49 (by omega)).trans j2.1, (cH 50 (by omega)).trans j2.2.1, j2.2.2⟩, j3⟩
  · unfold wpX10_openTape wpX10_openTape_J12
    rw [hT.2.1]
    refine n_rangeLe (by omega) (fun c hc e => absurd ⟨c, by omega, e⟩ hx) (fun _ => ⟨rfl, hv.h1, ?_⟩)
    unfold wpX11_flat wpX11_beginText
    rw [pk_un (by omega), hT.2.2.1]
    refine n_rangeLe (by omega) (fun c hc e => absurd ⟨c, by omega, e⟩ hx) (fun _ => ⟨fun z => absurd rfl z, fun _ => ?_⟩)
    unfold wpX11_fail
    refine ⟨pk_us, fun _ => hk _ _ ?_, fun z => absurd z (by decide)⟩
    have kk : K0 (ms 0) (upd (upd (ms 0) 2 (0 : Int32)) 2 (1 : Int32)) := K0.c.trans K0.c
    have hR2 := hR.k0 kk
    have hT2 := hT.k0 kk
    have hP2 := hP.k0 kk
    have hJ2 := hJ.k0 kk
    exact ⟨P, op, g, im, g2, T, pl, hG, hR2, hT2, hP2, hJ2⟩
