theorem K1.rf {s : AR} : K1 s s := ⟨rfl, rfl, rfl, rfl, rfl, rfl⟩
theorem m_orders {tx : Nat → Nat} {N T : Nat} {P : FL} {op : Bool} {g : GS} {B : Nat} {s td pl rg vc kd now sta fl mi t wh rows sets whys mc mh : AR} (ht : TxM tx N t) (h14 : s 14 = nI T) (hT : T ≤ 500) (hN : N ≤ T) (hF : FlatOK P) (hG : GRep P td pl rg vc fl kd mi) (hok : GOK P B g) (hB : B + 200 < 2 ^ 30) (hr : RM P op g s now rows sets whys mc mh) {post : Int32 → AR → AR → AR → AR → AR → AR → AR → AR → AR → Prop}
    (h1 : ∀ l R, aOrders tx N (P 0 2) = .inr l → Rw P (fun i => nI (gt l i)) (gt l) g R (min 200 l.length) → ∀ s' now' sta' wh' rows' sets' whys' mc' mh', RM P op (gIt P (gt l) g R) s' now' rows' sets' whys' mc' mh' → s' 2 = 0 → s' 14 = 0 → s' 23 = -1 → (∀ j, j = 45 ∨ j = 48 ∨ j = 49 ∨ j = 50 → s' j = s j) → sta' 0 = sta 0 → sta' 1 = (if R < min 200 l.length then sta 1 + 1 else sta 1) → post (nI R) s' now' sta' wh' rows' sets' whys' mc' mh')
    (h0 : ∀ k b, aOrders tx N (P 0 2) = .inl (k, b) → ∀ s', s' 2 = 0 → s' 14 = 0 → s' 23 = nI b → (∀ j, 24 ≤ j → j ≠ 33 → s' j = s j) → post ((-1 : Int32) - nI k) s' now (upd sta 0 (sta 0 + 1)) wh rows sets whys mc mh) : wpX11_orders s td pl rg vc kd now sta fl mi t wh rows sets whys mc mh (nI N) post := by
  have hN5 := ht.1
  have hT5 := hF.1.2.2.2.2.1
  have g2 : td 2 = nI (P 0 2) := hG.1 2 (by omega)
  unfold wpX11_orders
  refine m_begin ht (by rw [pk_un (by omega)]; exact h14) hT hN (fun s7 r1 r2 r3 => ⟨fun _ => ?_, fun z => absurd z (by decide)⟩)
  have s72 : s7 2 = 0 := (r3.1 2 (by omega)).trans pk_us
  have s7h : ∀ j, 24 ≤ j → s7 j = s j := fun j hj => (r3.2.1 j hj).trans (pk_un (by omega))
  have q8 : ∀ j, j ≠ 33 → upd s7 33 (0 : Int32) j = s7 j := fun j hj => pk_un hj
  have R0 : RdM tx N 0 (upd s7 33 (0 : Int32)) := ⟨(q8 16 (by omega)).trans r1.1, (q8 15 (by omega)).trans r1.2.1, (q8 20 (by omega)).trans r1.2.2.1, (q8 19 (by omega)).trans r1.2.2.2.1, (q8 17 (by omega)).trans r1.2.2.2.2.1, fun a b => (q8 18 (by omega)).trans (r1.2.2.2.2.2 a b)⟩
  have endB : ∀ k b, aOrders tx N (P 0 2) = .inl (k, b) → ∀ s', BdM (upd s7 33 (0 : Int32)) k b s' → wpX11_orders_J49 s' td pl rg vc kd now sta fl mi t wh rows sets whys mc mh post := by
    intro k b er s' a1
    unfold wpX11_orders_J49
    have f : ∀ j, j < 15 ∨ 23 ≤ j → j ≠ 33 → s' j = s7 j := fun j hj hj2 => (a1.2.2.2 j (by omega) (by omega) (by omega) (by omega) (by omega) (by omega) (by omega)).trans (q8 j hj2)
    refine m_isW1 a1.bad ⟨fun z => absurd z (by decide), fun _ => ?_⟩
    rw [pk_un (by omega), a1.2.1]
    refine h0 k b er _ ?_ ?_ ?_ (fun j hj hj2 => ?_)
    · rw [pk_un (by omega), f 2 (by omega) (by omega)]; exact s72
    · rw [pk_un (by omega), f 14 (by omega) (by omega)]; exact r3.2.2.1
    · rw [pk_us]; exact a1.2.2.1
    · rw [pk_un (by omega), f j (by omega) hj2]; exact s7h j hj
  unfold wpX11_readSteps
  refine ⟨N + 1, ?_⟩
  refine m_steps1 ht hT5 g2 501 0 0 5 (upd s7 33 (0 : Int32)) _ _ (Nat.zero_le _) (by omega) (by omega) (by omega) R0 ((q8 21 (by omega)).trans r2) pk_us (fun q l er s' a1 a2 a3 => ?_) (fun k b er s' a1 => ?_) (N + 1) (by omega)
  · obtain ⟨o1, o2, o3, o4, o5⟩ := aSteps_ok hN5 hT5 501 0 0 (Nat.zero_le _) (by omega) q l er
    have hK := tK_le tx N q
    have r17 : s' 17 = nI (tK tx N q) := a1.2.2.2.2.1
    have eA : aOrders tx N (P 0 2) = if tK tx N q = 0 then .inr l else .inl (1, tB tx N q) := by unfold aOrders; rw [er]; rfl
    refine ⟨fun z => absurd a2 z, fun _ => ?_⟩
    rw [r17, show (nI (tK tx N q) = (0 : Int32)) = (tK tx N q = 0) from propext (nI_eq (b := 0) (by omega) (by omega))]
    refine ⟨fun ez => ?_, fun ez => ?_⟩
    · rw [if_pos ez] at eA
      unfold wpX11_orders_J49
      refine m_isW0 a2 ⟨fun _ => ?_, fun z => absurd rfl z⟩
      refine m_stepOn ht (Nat.zero_le _) (by rw [pk_un (by omega), pk_un (by omega)]; exact a1.1) (by rw [pk_us]; rfl) (fun s2 b1 b2 => ?_)
      have f2 : ∀ j, j < 15 ∨ 21 ≤ j → j ≠ 32 → j ≠ 33 → s2 j = s7 j := fun j hj h32 h33 => by
        rw [b2 j (by omega) (by omega) (by omega) (by omega) (by omega), pk_un (by omega), pk_un h32, a3 j (by omega) (by omega) (by omega) (by omega) (by omega)]; exact q8 j h33
      have n32 : s2 32 = nI 0 := by rw [b2 32 (by omega) (by omega) (by omega) (by omega) (by omega), pk_un (by omega), pk_us]; rfl
      have n33 : s2 33 = 0 := by rw [b2 33 (by omega) (by omega) (by omega) (by omega) (by omega), pk_un (by omega), pk_un (by omega), a3 33 (by omega) (by omega) (by omega) (by omega) (by omega)]; exact pk_us
      have n21 : s2 21 = 0 := (f2 21 (by omega) (by omega) (by omega)).trans r2
      have hRM : RM P op g s2 now rows sets whys mc mh := hr.fr ((f2 30 (by omega) (by omega) (by omega)).trans (s7h 30 (by omega))) ((f2 31 (by omega) (by omega) (by omega)).trans (s7h 31 (by omega))) ((f2 36 (by omega) (by omega) (by omega)).trans (s7h 36 (by omega)))
      have no0 : NO P op g l s2 sta 0 s2 now sta rows sets whys mc mh := ⟨⟨by omega, Nat.zero_le _⟩, fun j hj => absurd hj (Nat.not_lt_zero _), hRM, (f2 2 (by omega) (by omega) (by omega)).trans s72, n32, n33, n21, K1.rf, rfl, rfl⟩
      have fin : ∀ s' : AR, K1 s2 s' → s' 14 = 0 ∧ s' 23 = -1 ∧ ∀ j, j = 45 ∨ j = 48 ∨ j = 49 ∨ j = 50 → s' j = s j := by
        intro s' k
        obtain ⟨k1, k2, k3, k4, k5, k6⟩ := k
        refine ⟨k1.trans ((f2 14 (by omega) (by omega) (by omega)).trans r3.2.2.1), k2.trans ((f2 23 (by omega) (by omega) (by omega)).trans r3.2.2.2), fun j hj => ?_⟩
        rcases hj with rfl | rfl | rfl | rfl
        · exact k3.trans ((f2 45 (by omega) (by omega) (by omega)).trans (s7h 45 (by omega)))
        · exact k4.trans ((f2 48 (by omega) (by omega) (by omega)).trans (s7h 48 (by omega)))
        · exact k5.trans ((f2 49 (by omega) (by omega) (by omega)).trans (s7h 49 (by omega)))
        · exact k6.trans ((f2 50 (by omega) (by omega) (by omega)).trans (s7h 50 (by omega)))
      unfold wpX11_readSteps
      refine ⟨N + 1, ?_⟩
      refine m_steps2 ht hF hG hok hB o5 501 0 0 5 q l 0 s2 now sta wh rows sets whys mc mh _ _ (Nat.zero_le _) (by omega) (by omega) (by omega) er b1 no0 (by omega) (fun j hj => by rw [Nat.zero_add]) (fun s' now' sta' wh' rows' sets' whys' mc' mh' d1 d2 => ?_) (fun s' now' sta' wh' rows' sets' whys' mc' mh' d1 => ?_) (N + 1) (by omega)
      · rw [Nat.zero_add] at d2
        obtain ⟨c1, c2, c3, c4, c5, c6, c7, c8, c9, c10⟩ := d2
        obtain ⟨e1, e2, e3⟩ := fin s' c8
        rw [c5]
        have em : min 200 l.length = l.length := Nat.min_eq_right (by omega)
        refine h1 l l.length eA ⟨by omega, fun j hj => ⟨rfl, c2 j hj⟩, fun z => by omega⟩ _ _ _ _ _ _ _ _ _ c3 c4 e1 e2 e3 c9 ?_
        rw [if_neg (by omega)]; exact c10
      · obtain ⟨R, c1, c2, c3, c4, c5, c6, c7, c8, c9⟩ := d1
        obtain ⟨e1, e2, e3⟩ := fin s' c6
        rw [c4]
        exact h1 l R eA c1 _ _ _ _ _ _ _ _ _ c2 c3 e1 e2 e3 c7 c8
    · rw [if_neg ez] at eA
      exact m_wrong a1 a2 (k := 1) rfl (endB _ _ eA _ ((BdM.mF (by omega)).pre a3))
  · exact ⟨fun _ => endB k b (by unfold aOrders; rw [er]; rfl) s' a1, fun z => absurd z a1.bad⟩
/-- orders -/
theorem law2 {xs : Nat → Int32} {L B : Nat} {cs ms : ST} {ov l4 : Int32} (hI : INV B cs ms) (hv : HV l4 L) {kb : ST → ST → Prop} (hB : B + 1000 < 2 ^ 29) (hk : ∀ cs' ms', INV (B + 200) cs' ms' → kb cs' ms') : wpC2 xs L cs ms ov l4 kb := by
  obtain ⟨P, op, g, im, g2, T, pl, hG, hR, hT, hP, hJ⟩ := hI
  have hT5 := hT.1
  have hCG := hG.cg
  have hG2 := hG
  obtain ⟨hF, hGc, hE, hW, hGm⟩ := hG
  have hR2 := hR
  obtain ⟨hRc, hRm, hok, hs5, hs6⟩ := hR
  have f5 := hF.1.2.2.2.2.1
  have sg2 : cs 2 2 = nI (P 0 2) := hGc.1 2 (by omega)
  unfold wpC2 wpL_orders wpX10_orders
  refine ⟨hv.h1, ?_⟩
  generalize xs (l4 + (1 : Int32)).toNatClampNeg = x
  by_cases hx : ∃ n, n < T + 1 ∧ x = nI n
  · obtain ⟨n, hn, rfl⟩ := hx
    obtain ⟨tC, tM⟩ := tx_c hT.2.2.2.1 hT5 (show n ≤ T by omega)
    refine c_open tC hT.2.1 hT5 (by omega) (fun s1 r1 r8 r9 => ?_)
    rw [sg2]
    refine c_bread tC f5 r1 r9 (fun l er hl sB' s' bg' tm' st' a9 a5 ast => ?_) (fun k b er sB' s' bg' tm' st' a8 a9 => ?_)
    · rw [a9]
      refine nm_e ⟨fun _ => ?_, fun z => absurd z (by decide)⟩
      obtain ⟨R, hRw⟩ := Rw.ex P (fun i => nI (gt l i)) (gt l) (fun i => (nI_clamp (by have := hl i; omega)).symm) hF g (min 200 l.length)
      have hm : min 200 l.length ≤ 200 := Nat.min_le_left _ _
      have hm2 : min 200 l.length ≤ l.length := Nat.min_le_right _ _
      refine c_strikes hCG hRc hok hm (by omega) hRw a5 (fun i hi => ast i (by omega) (by omega)) (fun _ _ _ _ _ _ _ _ h => h) (fun sC' sQ' past' F' R' qc' qh' p1 p2 p3 => ⟨hv.h1, ?_⟩)
      refine m_orders tM hT.2.2.1 hT5 (by omega) hF hGm hok (by omega) hRm (fun l2 R2 er2 hRw2 s2 now2 sta2 wh2 rows2 sets2 whys2 mc2 mh2 b1 b2 b14 b23 bK b8 b9 => ?_) (fun k b er2 => absurd (er.symm.trans er2) (by simp))
      have el : l = l2 := Sum.inr.inj (er.symm.trans er2)
      subst el
      have eR : R = R2 := by
        rcases Nat.lt_trichotomy R R2 with h | h | h
        · exact absurd ⟨_, (hRw2.2.1 R h).1, (hRw2.2.1 R h).2⟩ (hRw.2.2 (by have := hRw2.1; omega))
        · exact h
        · exact absurd ⟨_, (hRw.2.1 R2 h).1, (hRw.2.1 R2 h).2⟩ (hRw2.2.2 (by have := hRw.1; omega))
      subst eR
      have hok' := gIt_ok hF (xs := fun i => nI (gt l i)) hok R (fun j hj => (hRw.2.1 j hj).2)
      refine ⟨b2, fun z => absurd rfl z, fun _ => ⟨rfl, hk _ _ ?_⟩⟩
      refine ⟨P, op, gIt P (gt l) g R, im, g2, 0, pl, ⟨hF, hGc, hE, hW, hGm⟩, ⟨p1, b1, hok'.mono (by have := hRw.1; omega), ?_, ?_⟩, ?_, ?_, ?_⟩
      · exact p2.trans (hs5.trans b8.symm)
      · show sC' 6 = sta2 1
        rw [p3, b9, hs6]
      · exact ⟨by omega, rfl, b14, fun i hi => absurd hi (Nat.not_lt_zero _), b23.symm⟩
      · exact ⟨hP.1, hP.2.1, (bK 45 (by omega)).trans hP.2.2.1, hP.2.2.2⟩
      · refine ⟨hJ.1, (bK 48 (by omega)).trans hJ.2.1, fun e => ?_⟩
        obtain ⟨j1, j2, j3, j4⟩ := hJ.2.2 e
        exact ⟨j1, ⟨(bK 49 (by omega)).trans j2.1, (bK 50 (by omega)).trans j2.2.1, j2.2.2⟩, j3.mono (by omega), j4⟩
    · rw [a8, a9]
      refine nm_e ⟨fun z => absurd rfl z, fun _ => nm_e ⟨hv.h1, ?_⟩⟩
      refine m_orders tM hT.2.2.1 hT5 (by omega) hF hGm hok (by omega) hRm (fun l2 R2 er2 => absurd (er.symm.trans er2) (by simp)) (fun k2 b2 er2 s2 c2 c14 c23 cH => ?_)
      have e := Sum.inl.inj (er.symm.trans er2)
      injection e with e1 e2
      subst e1 e2
      refine ⟨c2, fun z => absurd rfl z, fun _ => ⟨rfl, hk _ _ ?_⟩⟩
      refine ⟨P, op, g, im, g2, 0, pl, ⟨hF, hGc, hE, hW, hGm⟩, ?_, ?_, ?_, ?_⟩
      · obtain ⟨⟨f, hf, q2, q3, q4, q5, q6⟩, hq⟩ := hRc
        obtain ⟨⟨m1, m2, m3, m4⟩, hm⟩ := hRm
        refine ⟨⟨⟨f, hf, q2, q3, q4, q5, q6⟩, hq⟩, ⟨⟨(cH 30 (by omega) (by omega)).trans m1, (cH 31 (by omega) (by omega)).trans m2, m3, m4⟩, ⟨(cH 36 (by omega) (by omega)).trans hm.1, hm.2⟩⟩, hok.mono (by omega), ?_, ?_⟩
        · show cs 6 5 + 1 = ms 8 0 + 1
          rw [hs5]
        · exact hs6
      · exact ⟨by omega, rfl, c14, fun i hi => absurd hi (Nat.not_lt_zero _), c23.symm⟩
      · exact ⟨hP.1, hP.2.1, (cH 45 (by omega) (by omega)).trans hP.2.2.1, hP.2.2.2⟩
      · refine ⟨hJ.1, (cH 48 (by omega) (by omega)).trans hJ.2.1, fun e => ?_⟩
        obtain ⟨j1, j2, j3, j4⟩ := hJ.2.2 e
        exact ⟨j1, ⟨(cH 49 (by omega) (by omega)).trans j2.1, (cH 50 (by omega) (by omega)).trans j2.2.1, j2.2.2⟩, j3.mono (by omega), j4⟩
  · unfold wpX10_openTape wpX10_openTape_J12
    rw [hT.2.1]
    refine n_rangeLe (by omega) (fun c hc e => absurd ⟨c, by omega, e⟩ hx) (fun _ => ⟨rfl, hv.h1, ?_⟩)
    unfold wpX11_orders wpX11_beginText
    rw [pk_un (by omega), hT.2.2.1]
    refine n_rangeLe (by omega) (fun c hc e => absurd ⟨c, by omega, e⟩ hx) (fun _ => ⟨fun z => absurd rfl z, fun _ => ?_⟩)
    unfold wpX11_fail
    refine ⟨pk_us, fun _ => hk _ _ ?_, fun z => absurd z (by decide)⟩
    have kk : K0 (ms 0) (upd (upd (ms 0) 2 (0 : Int32)) 2 (1 : Int32)) := K0.c.trans K0.c
    have hR3 := (hR2.mono (show B ≤ B + 200 by omega)).k0 kk
    have hT2 := hT.k0 kk
    have hP2 := hP.k0 kk
    have hJ2 := (hJ.mono (show B ≤ B + 200 by omega)).k0 kk
    exact ⟨P, op, g, im, g2, T, pl, hG2, hR3, hT2, hP2, hJ2⟩
