theorem c_endOf {P : FL} {F fl kd hA E ov ak nx wy gl : AR} (hF : FlatOK P) (hE : EarsOK P hA E ov ak) (hW' : FeetOK P nx wy gl) (hfl : ∀ t, t < P 0 2 → fl t = nI (P 4 t)) {w m n0 n : Nat} {x : Nat → Nat} (hw : w < 4) (hkd : kd w = nI (P 5 w)) (hk5 : P 5 w < 5) (hm : m < 2 ^ P 0 2) (hx : WRep F (w * 6) x) (hok : WOK P n0 x) (hn0 : n0 < 2 ^ 29) (hout : x 3 = 0) (hn : n ≤ 4800) (hf : FirstQ P m (P 5 w) x n) {x3 : Int32} {post : Int32 → AR → Prop}
    (h1 : Xs P m (P 5 w) x n 3 ≠ 0 → ∀ F', post (if x3 = 0 then nI (Xs P m (P 5 w) x n 3) else nI n) F') (h2 : Xs P m (P 5 w) x n 3 = 0 → ∀ j, j < n → lk (P 5 w) (Xs P m (P 5 w) x j) = lk (P 5 w) (Xs P m (P 5 w) x n) → ∀ F', post (if x3 = 0 then nI 3 else nI (n - j)) F') : wpX3_endOf F fl kd hA E ov ak nx wy gl (nI w) (nI m) x3 post := by
  have hX := Xs_ok hF (m := m) (kd := P 5 w) hok
  have i0 : ∀ i, i ≤ 0 → Xs P m (P 5 w) x i 3 = 0 := fun i hi => by
    rw [show i = 0 by omega]
    exact hout
  have t0 : ∀ t, 0 < t → t ≤ 0 → lk (P 5 w) (Xs P m (P 5 w) x t) ≠ lk (P 5 w) (Xs P m (P 5 w) x 0) := fun t h1 h2 => by omega
  unfold wpX3_endOf
  refine c_likeness hw hkd hk5 hx hok (by omega) ?_
  refine loop_m (fun nn (q : Nat × Nat × Nat × AR) => wpX3_endOf_L16 fl kd hA E ov ak nx wy gl (nI w) (nI m) x3 _ post nn q.2.2.2 (nI (lk (P 5 w) (Xs P m (P 5 w) x q.2.1))) (nI (q.1 - q.2.1)) (nI (2 ^ q.2.2.1)) (nI (q.1 + 1))) (fun q => WRep q.2.2.2 (w * 6) (Xs P m (P 5 w) x q.1) ∧ q.2.1 + 1 = 2 ^ q.2.2.1 ∧ q.2.1 ≤ q.1 ∧ q.1 < q.2.1 + 2 ^ q.2.2.1 ∧ q.2.2.1 ≤ 13 ∧ (∀ i, i ≤ q.1 → Xs P m (P 5 w) x i 3 = 0) ∧ ∀ t, q.2.1 < t → t ≤ q.1 → lk (P 5 w) (Xs P m (P 5 w) x t) ≠ lk (P 5 w) (Xs P m (P 5 w) x q.2.1)) (fun q => 20000 - q.1) ?_ (0, 0, 0, F) ⟨hx, rfl, Nat.le_refl _, by show 0 < 0 + 2 ^ 0; decide, by show 0 ≤ 13; decide, i0, t0⟩
  rintro nn ⟨s, M, k, F1⟩ ⟨g1, g2, g3, g4, g5, g6, g7⟩ hnext
  have g1 : WRep F1 (w * 6) (Xs P m (P 5 w) x s) := g1
  have g2 : M + 1 = 2 ^ k := g2
  have g3 : M ≤ s := g3
  have g4 : s < M + 2 ^ k := g4
  have g5 : k ≤ 13 := g5
  have g6 : ∀ i, i ≤ s → Xs P m (P 5 w) x i 3 = 0 := g6
  have g7 : ∀ t, M < t → t ≤ s → lk (P 5 w) (Xs P m (P 5 w) x t) ≠ lk (P 5 w) (Xs P m (P 5 w) x M) := g7
  have hpk : 2 ^ k ≤ 2 ^ 13 := Nat.pow_le_pow_right (by omega) g5
  have hp13 : (2 : Nat) ^ 13 = 8192 := by decide
  show wpX3_endOf_L16 fl kd hA E ov ak nx wy gl (nI w) (nI m) x3 _ post (nn + 1) F1 (nI (lk (P 5 w) (Xs P m (P 5 w) x M))) (nI (s - M)) (nI (2 ^ k)) (nI (s + 1))
  unfold wpX3_endOf_L16
  refine ⟨fun z => absurd ((nI_ltI (a := 1000000) (by omega) (by omega)).mp z) (by omega), fun _ => ?_⟩
  refine c_go hF hE hW' hfl hw hkd hk5 hm g1 (hX s) (by omega) (g6 s (Nat.le_refl _)) (fun F2 q1 q2 => ?_)
  have q1 : WRep F2 (w * 6) (Xs P m (P 5 w) x (s + 1)) := q1
  have ho3 := (hX (s + 1)).2.2.2.1
  refine nm_r (e' := nI (s + 1 - M)) (by rw [show nI (s - M) + (1 : Int32) = nI (s - M + 1) from nI_1 _]; congr 1; omega) ?_
  unfold wpX3_of
  rw [show nI w * (6 : Int32) + (3 : Int32) = nI (w * 6 + 3) by rw [show nI w * (6 : Int32) = nI (w * 6) from pk_mul w 6]; exact nI_add _ 3, nI_clamp (by omega), q1.2.2.2.1]
  refine ⟨vp_in_nI (by omega) (by omega), fun e => ?_, fun e => ?_⟩
  · have e3 : Xs P m (P 5 w) x (s + 1) 3 = 0 := (nI_eq (b := 0) (by omega) (by omega)).mp e
    have g6' : ∀ i, i ≤ s + 1 → Xs P m (P 5 w) x i 3 = 0 := fun i hi => by
      by_cases q : i = s + 1
      · subst q; exact e3
      · exact g6 i (by omega)
    have hl1 := lk_lt hF (kd := P 5 w) (hX (s + 1))
    have hl2 := lk_lt hF (kd := P 5 w) (hX M)
    refine c_likeness hw hkd hk5 q1 (hX (s + 1)) (by omega) ?_
    rw [nI_eq (by omega) (by omega)]
    refine ⟨fun e1 => ?_, fun e1 => ?_⟩
    · have g7' : ∀ t, M < t → t ≤ s + 1 → lk (P 5 w) (Xs P m (P 5 w) x t) ≠ lk (P 5 w) (Xs P m (P 5 w) x M) := fun t h1 h2 => by
        by_cases q : t = s + 1
        · subst q; exact e1
        · exact g7 t h1 (by omega)
      rw [nI_eq (by omega) (by omega)]
      refine ⟨fun e2 => nm_r (nI_1 (s + 1)) ?_, fun e2 => ?_⟩
      · refine hnext (s + 1, M, k, F2) ⟨q1, g2, by show M ≤ s + 1; omega, by show s + 1 < M + 2 ^ k; omega, g5, g6', g7'⟩ ?_
        show 20000 - (s + 1) < 20000 - s
        omega
      · refine c_likeness hw hkd hk5 q1 (hX (s + 1)) (by omega) (nm_r (e' := nI (2 ^ (k + 1))) ?_ (nm_r (nI_1 (s + 1)) ?_))
        · rw [show nI (2 ^ k) * (2 : Int32) = nI (2 ^ k * 2) from pk_mul _ 2, Nat.pow_succ]
        · have hk13 : k + 1 ≤ 13 := by
            rcases Nat.lt_or_ge k 13 with q | q
            · exact q
            · have ek : k = 13 := by omega
              subst ek
              have en : Xs P m (P 5 w) x n 3 = 0 := g6' n (by omega)
              obtain ⟨j, hj, hje⟩ := hf.1.resolve_left (fun z => z en)
              exact absurd (ring_next hF hok hf hj hje en (a := M) (by omega)).symm (g7' (M + (n - j)) (by omega) (by omega))
          have hx2 := hnext (s + 1, s + 1, k + 1, F2) ⟨q1, by show s + 1 + 1 = 2 ^ (k + 1); rw [Nat.pow_succ]; omega, Nat.le_refl _, by show s + 1 < s + 1 + 2 ^ (k + 1); have := Nat.two_pow_pos (k + 1); omega, hk13, g6', fun t h1 h2 => by have h1 : s + 1 < t := h1; have h2 : t ≤ s + 1 := h2; omega⟩ (by show 20000 - (s + 1) < 20000 - s; omega)
          rw [show s + 1 - (s + 1) = 0 by omega] at hx2
          exact hx2
    · -- as the mark: in a ring
      have hns : n ≤ s + 1 := by
        rcases Nat.lt_or_ge (s + 1) n with q | q
        · exact absurd e1.symm ((hf.2 (s + 1) q).2 M (by omega))
        · exact q
      have en : Xs P m (P 5 w) x n 3 = 0 := g6' n hns
      obtain ⟨j, hj, hje⟩ := hf.1.resolve_left (fun z => z en)
      obtain ⟨a1, a2⟩ := ring_gap hF hok hf hj hje en (a := M) (b := s + 1) (by omega) e1.symm
      have a3 : n - j = s + 1 - M := by
        rcases Nat.lt_or_ge (n - j) (s + 1 - M) with q | q
        · exact absurd (ring_next hF hok hf hj hje en a1).symm (g7 (M + (n - j)) (by omega) (by omega))
        · omega
      have hp := h2 en j hj hje F2
      rw [a3] at hp
      refine ⟨fun z => ?_, fun z => ?_⟩
      · rw [if_neg z] at hp; exact hp
      · rw [if_pos z] at hp; exact hp
  · have e3 : Xs P m (P 5 w) x (s + 1) 3 ≠ 0 := fun z => e (by rw [z]; rfl)
    have en : n = s + 1 := by
      rcases Nat.lt_trichotomy (s + 1) n with q | q | q
      · exact absurd (hf.2 (s + 1) q).1 e3
      · exact q.symm
      · have en : Xs P m (P 5 w) x n 3 = 0 := g6 n (by omega)
        obtain ⟨j, hj, hje⟩ := hf.1.resolve_left (fun z => z en)
        exact absurd (ring_out hF hok hf hj hje en (s + 1)) e3
    have hp := h1 (by rw [en]; exact e3) F2
    rw [en] at hp
    refine ⟨fun z => ?_, fun z => ?_⟩
    · rw [if_neg z] at hp; exact hp
    · rw [if_pos z] at hp; exact hp
theorem m_foreverL {P : FL} {s tc rg vc fl kd mi now work when sM : AR} (hF : FlatOK P) (hG : GRep P s tc rg vc fl kd mi) {w m n0 n : Nat} {x : Nat → Nat} (hw : w < P 0 3) (hm : m < 2 ^ P 0 2) (hx : WRep work (w * 6) x) (hok : WOK P n0 x) (hn0 : n0 < 2 ^ 29) (hout : x 3 = 0) (hn : n ≤ 4800) (hf : FirstQ P m (P 5 w) x n) (hwh : ∀ v, v < 4800 → when v = -1) {x3 : Int32} {post : Int32 → AR → AR → AR → Prop}
    (h1 : Xs P m (P 5 w) x n 3 ≠ 0 → ∀ sM' wk wn, (∀ j, j ≠ 24 → j ≠ 25 → sM' j = sM j) → post (if x3 = 0 then nI (Xs P m (P 5 w) x n 3) else nI n) sM' wk wn) (h2 : Xs P m (P 5 w) x n 3 = 0 → ∀ j, j < n → lk (P 5 w) (Xs P m (P 5 w) x j) = lk (P 5 w) (Xs P m (P 5 w) x n) → ∀ sM' wk wn, (∀ j, j ≠ 24 → j ≠ 25 → sM' j = sM j) → post (if x3 = 0 then nI 3 else nI (n - j)) sM' wk wn) : ∃ nf103 : Nat, wpX11_forever_L103 s tc rg vc kd now fl mi (nI w) (nI m) x3 (fun sM_169 M_work_169 M_when_169 l4_169 => wpX11_forever_J169 sM_169 s tc rg vc kd now fl mi M_work_169 M_when_169 (nI w) x3 l4_169 post) post nf103 sM work when (0 : Int32) := by
  have hX := Xs_ok hF (m := m) (kd := P 5 w) hok
  have f6 := hF.1.2.2.2.2.2.1
  have k5 := hF.2.2.1 w hw
  have hkd := hG.2.2.2.2.2.1 w hw
  refine loop_m (fun nn (q : Nat × AR × AR × AR) => wpX11_forever_L103 s tc rg vc kd now fl mi (nI w) (nI m) x3 _ post nn q.2.1 q.2.2.1 q.2.2.2 (nI q.1)) (fun q => q.1 ≤ n ∧ WRep q.2.2.1 (w * 6) (Xs P m (P 5 w) x q.1) ∧ (∀ t, t < q.1 → q.2.2.2 (lk (P 5 w) (Xs P m (P 5 w) x t)) = nI t) ∧ (∀ v, v < 4800 → (∀ t, t < q.1 → lk (P 5 w) (Xs P m (P 5 w) x t) ≠ v) → q.2.2.2 v = -1) ∧ ∀ j, j ≠ 24 → j ≠ 25 → q.2.1 j = sM j) (fun q => n - q.1) ?_ (0, sM, work, when) ⟨Nat.zero_le _, hx, fun t ht => absurd ht (Nat.not_lt_zero _), fun v hv _ => hwh v hv, fun _ _ _ => rfl⟩
  rintro nn ⟨i, sM1, wk1, wn1⟩ ⟨g1, g2, g3, g4, g5⟩ hnext
  have g1 : i ≤ n := g1
  have g2 : WRep wk1 (w * 6) (Xs P m (P 5 w) x i) := g2
  have g3 : ∀ t, t < i → wn1 (lk (P 5 w) (Xs P m (P 5 w) x t)) = nI t := g3
  have g4 : ∀ v, v < 4800 → (∀ t, t < i → lk (P 5 w) (Xs P m (P 5 w) x t) ≠ v) → wn1 v = -1 := g4
  have g5 : ∀ j, j ≠ 24 → j ≠ 25 → sM1 j = sM j := g5
  have hl := lk_lt hF (kd := P 5 w) (hX i)
  have ho3 := (hX i).2.2.2.1
  have v3 : vp_in (nI (w * 6 + 3)) 29 := vp_in_nI (by omega) (by omega)
  show wpX11_forever_L103 s tc rg vc kd now fl mi (nI w) (nI m) x3 _ post (nn + 1) sM1 wk1 wn1 (nI i)
  unfold wpX11_forever_L103
  rw [ix6, show nI (w * 6) + (3 : Int32) = nI (w * 6 + 3) from nI_add _ 3, nI_clamp (by omega), g2.2.2.2.1]
  refine ⟨v3, fun e => ?_, fun e => ?_⟩
  · have e3 : Xs P m (P 5 w) x i 3 ≠ 0 := fun z => e (by rw [z]; rfl)
    have en : i = n := by
      rcases Nat.lt_or_ge i n with q | q
      · exact absurd (hf.2 i q).1 e3
      · omega
    subst en
    have hp := h1 e3 sM1 wk1 wn1 g5
    unfold wpX11_forever_J169
    rw [ix6, show nI (w * 6) + (3 : Int32) = nI (w * 6 + 3) from nI_add _ 3, nI_clamp (by omega), g2.2.2.2.1]
    refine ⟨v3, nm_e ⟨fun z => ⟨fun _ => ?_, fun q => absurd q e⟩, fun z => ⟨fun _ => ?_, fun q => absurd q e⟩⟩⟩
    · rw [if_neg z] at hp; exact hp
    · rw [if_pos z] at hp; exact hp
  · have e3 : Xs P m (P 5 w) x i 3 = 0 := (nI_eq (b := 0) (by omega) (by omega)).mp e
    refine m_stateOf (by omega) hkd k5 g2 (hX i) (by omega) ?_
    rw [nI_clamp (by omega)]
    refine ⟨vp_in_nI hl (by omega), fun e1 => ?_, fun e1 => ?_⟩
    · have : ∃ t, t < i ∧ lk (P 5 w) (Xs P m (P 5 w) x t) = lk (P 5 w) (Xs P m (P 5 w) x i) := Classical.byContradiction (fun q => e1 (g4 _ hl (fun t ht z => q ⟨t, ht, z⟩)))
      obtain ⟨j, hj, hje⟩ := this
      have en : i = n := by
        rcases Nat.lt_or_ge i n with q | q
        · exact absurd hje ((hf.2 i q).2 j hj)
        · omega
      subst en
      have hp := h2 e3 j hj hje sM1 wk1 wn1 g5
      unfold wpX11_forever_J169
      rw [ix6, show nI (w * 6) + (3 : Int32) = nI (w * 6 + 3) from nI_add _ 3, nI_clamp (by omega), g2.2.2.2.1]
      refine ⟨v3, nm_e ⟨fun z => ⟨fun q => absurd e q, fun _ => m_stateOf (by omega) hkd k5 g2 (hX i) (by omega) ⟨vp_in_nI hl (by omega), ?_⟩⟩, fun z => ⟨fun q => absurd e q, fun _ => ?_⟩⟩⟩
      · rw [nI_clamp (by omega), ← hje, g3 j hj, pk_sub (by omega)]
        rw [if_neg z] at hp; exact hp
      · rw [if_pos z] at hp; exact hp
    · have hni : ∀ t, t < i → lk (P 5 w) (Xs P m (P 5 w) x t) ≠ lk (P 5 w) (Xs P m (P 5 w) x i) := fun t ht z => by
        rw [← z, g3 t ht] at e1
        exact nI_nem (by omega) e1
      have hin : i < n := by
        rcases Nat.lt_or_ge i n with q | q
        · exact q
        · have en : i = n := by omega
          subst en
          obtain ⟨j, hj, hje⟩ := hf.1.resolve_left (fun z => z e3)
          exact absurd hje (hni j hj)
      refine m_stateOf (by omega) hkd k5 g2 (hX i) (by omega) ⟨vp_in_nI hl (by omega), ?_⟩
      rw [nI_clamp (by omega)]
      refine nm_e (m_hearN hF hG hw hm g2 (hX i) (by omega) e3 (fun s' row' p1 p2 p3 => nm_r (nI_1 i) (hnext (i + 1, s', row', _) ⟨hin, p1, fun t ht => ?_, fun v hv hno => ?_, fun j ja jb => ?_⟩ ?_)))
      · have ht : t < i + 1 := ht
        show upd wn1 _ _ _ = _
        by_cases q : t = i
        · subst q; rw [pk_us]
        · rw [pk_un (hni t (by omega))]; exact g3 t (by omega)
      · have hno : ∀ t, t < i + 1 → lk (P 5 w) (Xs P m (P 5 w) x t) ≠ v := hno
        show upd wn1 _ _ _ = _
        rw [pk_un (fun z => hno i (by omega) z.symm)]
        exact g4 v hv (fun t ht => hno t (by omega))
      · exact (p3 j ja jb).trans (g5 j ja jb)
      · show n - (i + 1) < n - i
        omega
theorem m_foreverF {P : FL} {sM s tc rg vc kd now fl mi work when : AR} {l1 l2 l3 : Int32} {kx : AR → Int32 → Prop} {post : Int32 → AR → AR → AR → Prop} (hk : ∀ wn y, (∀ v, v < 4800 → wn v = -1) → kx wn y) : ∃ n, wpX11_forever_L76 sM s tc rg vc kd now fl mi work l1 l2 l3 kx post n when (0 : Int32) := by
  refine loop_0 (fun nn i (q : AR) => wpX11_forever_L76 sM s tc rg vc kd now fl mi work l1 l2 l3 kx post nn q (nI i)) (fun i q => ∀ v, v < i → q v = -1) 4800 when (fun v hv => absurd hv (Nat.not_lt_zero _)) ?_ ?_
  · intro nn q hI
    show wpX11_forever_L76 sM s tc rg vc kd now fl mi work l1 l2 l3 kx post (nn + 1) q (nI 4800)
    unfold wpX11_forever_L76
    exact ⟨fun _ => hk _ _ hI, fun z => absurd (nI_le (Nat.le_refl 4800) (by decide)) z⟩
  · intro nn i q hi hI hnext
    show wpX11_forever_L76 sM s tc rg vc kd now fl mi work l1 l2 l3 kx post (nn + 1) q (nI i)
    unfold wpX11_forever_L76
    rw [nI_clamp (by omega)]
    refine ⟨fun z => absurd z (nI_ge (b := 4800) hi (by decide)), fun _ => ⟨vp_in_nI hi (by omega), nm_e (nm_r (nI_1 i) (hnext _ (fun v hv => ?_)))⟩⟩
    by_cases e : v = i
    · subst e; rw [pk_us]
    · rw [pk_un e]; exact hI v (by omega)
