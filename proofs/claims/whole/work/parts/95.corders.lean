def aOrders (tx : Nat → Nat) (N T : Nat) : PR (List Nat) := bnd (aSteps tx N T 501 0 0) (fun r => if tK tx N r.1 = 0 then .inr r.2 else .inl (1, tB tx N r.1))
theorem c_bread {tx : Nat → Nat} {N T : Nat} {t s sB bg tm st : AR} (ht : TxC tx N t) (hT : T ≤ 5) (hR : RdC tx N 0 s) (h9 : s 9 = -1) {post : Int32 → AR → AR → AR → AR → AR → Prop}
    (h1 : ∀ l, aOrders tx N T = .inr l → (∀ i, gt l i < 32) → ∀ sB' s' bg' tm' st', s' 9 = -1 → sB' 5 = nI (min 200 l.length) → (∀ i, i < 200 → i < l.length → st' i = nI (gt l i)) → post 1 sB' s' bg' tm' st')
    (h0 : ∀ k b, aOrders tx N T = .inl (k, b) → ∀ sB' s' bg' tm' st', s' 8 = nI k → s' 9 = nI b → post 0 sB' s' bg' tm' st') : wpX5_read sB s bg tm st t (nI T) post := by
  have hN := ht.1
  unfold wpX5_read
  refine ⟨N + 1, ?_⟩
  have hB : BK [] 0 (fun _ => 0) (fun _ => 0) (upd (upd sB 5 (0 : Int32)) 3 (0 : Int32)) bg tm st := ⟨by rw [pk_un (by omega), pk_us]; rfl, by rw [pk_us]; rfl, fun i hi => absurd hi (Nat.not_lt_zero _), fun i _ hi => absurd hi (Nat.not_lt_zero _)⟩
  refine c_steps ht hT (post := post) 501 0 0 [] (fun _ => 0) (fun _ => 0) _ s bg tm st 0 (Nat.zero_le _) (by omega) (by omega) hR h9 hB (Nat.le_refl _) (fun q l er sB' sR' bg' tm' st' i' a1 a2 a3 a4 n hn => ?_) (fun k b er sB' sR' bg' tm' st' a1 a2 => h0 k b (by unfold aOrders; rw [er]; rfl) _ _ _ _ _ a1 a2) (N + 1) (by omega)
  have a3 : BK l 0 (fun _ => 0) (fun _ => 0) sB' bg' tm' st' := a3
  obtain ⟨o1, o2, o3, o4, o5⟩ := aSteps_ok hN hT 501 0 0 (Nat.zero_le _) (by omega) q l er
  obtain ⟨n, rfl⟩ : ∃ k, n = k + 1 := ⟨n - 1, by omega⟩
  have hK := tK_le tx N q
  have r7 : sR' 7 = nI (tK tx N q) := a1.2.2.2.2.1
  have eA : aOrders tx N T = if tK tx N q = 0 then .inr l else .inl (1, tB tx N q) := by unfold aOrders; rw [er]; rfl
  show wpX5_read_L12 t (nI T) _ post (n + 1) sB' sR' bg' tm' st' (nI i')
  unfold wpX5_read_L12
  rw [r7, show (nI (tK tx N q) = (0 : Int32)) = (tK tx N q = 0) from propext (nI_eq (b := 0) (by omega) (by omega))]
  refine ⟨fun z => absurd ((nI_ltI (a := 500) (by omega) (by omega)).mp z) (by omega), fun _ => ⟨fun ez => ?_, fun ez => ?_⟩⟩
  · rw [if_pos ez] at eA
    unfold wpX5_read_J45
    rw [a3.2.1]
    exact ⟨fun _ => h1 l eA o5 _ _ _ _ _ a2 a3.1 a3.2.2.2, fun z => absurd rfl z⟩
  · rw [if_neg ez] at eA
    unfold wpX5_readPart wpX5_readPart_J60
    refine c_isWord ht o2 a1 (by omega) ?_
    rw [o3, if_neg (by decide)]
    refine ⟨fun _ => c_isWord ht o2 a1 (by omega) ?_, fun z => absurd rfl z⟩
    rw [o4, if_neg (by decide), a3.2.1]
    refine ⟨fun _ => ⟨fun _ => c_refuse a1 (k := 1) rfl ⟨nrw0, fun z => absurd rfl z, fun _ => h0 _ _ eA _ _ _ _ _ cF8 cF9⟩, fun z => absurd (nI_le (Nat.le_refl 0) (by decide)) z⟩, fun z => absurd rfl z⟩
/-- the strokes of the book, one after another -/
theorem c_strikes {P : FL} {sS sR sB tape bg tm st sC sG sQ past F R0 fl kd hA E ov ak nx wy gl qc qh : AR} (hC : CG P sG fl kd hA E ov ak nx wy gl) {op : Bool} {B : Nat} {g : GS} (hr : RC P op g sC past F sQ qc qh) (hok : GOK P B g) {xs : Nat → Int32} {N R : Nat} {ms : Nat → Nat} (hN : N ≤ 200) (hB : B + N < 2 ^ 30) (hw : Rw P xs ms g R N) (h5 : sB 5 = nI N) (hst : ∀ i, i < N → st i = xs i) {post : Int32 → AR → AR → AR → AR → AR → AR → AR → AR → AR → AR → AR → AR → AR → Prop} {postX : String → Prop}
    {kx : AR → AR → AR → AR → AR → AR → AR → Int32 → Prop} (hkx : ∀ sC' sQ' past' F' R' qc' qh' l3, post (sB 5) sS sR sB sC' sQ' bg tm st past' F' R' qc' qh' → kx sC' sQ' past' F' R' qc' qh' l3)
    (hk : ∀ sC' sQ' past' F' R' qc' qh', RC P op (gIt P ms g R) sC' past' F' sQ' qc' qh' → sC' 5 = sC 5 → sC' 6 = (if R < N then sC 6 + 1 else sC 6) → post (nI R) sS sR sB sC' sQ' bg tm st past' F' R' qc' qh') : ∃ nf60 : Nat, wpX10_orders_L60 sS sR sG sB tape fl kd bg tm st hA E ov ak nx wy gl kx post postX nf60 sC sQ past F R0 qc qh (0 : Int32) := by
  have hF := hC.1
  obtain ⟨w1, w2, w3⟩ := hw
  rw [h5] at hkx
  refine loop_m (fun n (q : Nat × AR × AR × AR × AR × AR × AR × AR) => wpX10_orders_L60 sS sR sG sB tape fl kd bg tm st hA E ov ak nx wy gl _ post postX n q.2.1 q.2.2.1 q.2.2.2.1 q.2.2.2.2.1 q.2.2.2.2.2.1 q.2.2.2.2.2.2.1 q.2.2.2.2.2.2.2 (nI q.1)) (fun q => q.1 ≤ R ∧ RC P op (gIt P ms g q.1) q.2.1 q.2.2.2.1 q.2.2.2.2.1 q.2.2.1 q.2.2.2.2.2.2.1 q.2.2.2.2.2.2.2 ∧ q.2.1 5 = sC 5 ∧ q.2.1 6 = sC 6) (fun q => R - q.1) ?_ (0, sC, sQ, past, F, R0, qc, qh) ⟨by omega, hr, rfl, rfl⟩
  rintro n ⟨i, sC1, sQ1, past1, F1, R1, qc1, qh1⟩ ⟨g1, g2, g3, g4⟩ hnext
  have g1 : i ≤ R := g1
  have g2 : RC P op (gIt P ms g i) sC1 past1 F1 sQ1 qc1 qh1 := g2
  have g3 : sC1 5 = sC 5 := g3
  have g4 : sC1 6 = sC 6 := g4
  have hoki := gIt_ok hF (xs := xs) hok i (fun j hj => (w2 j (by omega)).2)
  show wpX10_orders_L60 sS sR sG sB tape fl kd bg tm st hA E ov ak nx wy gl _ post postX (n + 1) sC1 sQ1 past1 F1 R1 qc1 qh1 (nI i)
  unfold wpX10_orders_L60
  rw [h5]
  by_cases e : i < N
  · rw [nI_clamp (by omega), hst i e]
    refine ⟨fun z => absurd z (nI_ge e (by omega)), fun _ => ⟨vp_in_nI (by omega) (by omega), ?_⟩⟩
    refine c_strike hC g2 hoki (by omega) (fun m q1 q2 sC' sQ' past' F' R' qc' qh' p1 p2 => ?_) (fun q => ?_)
    · have hd := dIn_le hF m (cur (gIt P ms g i))
      have hR : i < R := by
        rcases Nat.lt_or_ge i R with h | h
        · exact h
        · have : i = R := by omega
          subst this
          exact absurd ⟨m, q1, q2⟩ (w3 e)
      have em : m = ms i := nI_inj32 (by have := q2.1; have := p2_le hF.1.2.2.2.2.1; omega) (by have := (w2 i hR).2.1; have := p2_le hF.1.2.2.2.2.1; omega) (q1.symm.trans (w2 i hR).1)
      subst em
      refine ⟨fun _ => nm_r (nI_1 i) (hnext (i + 1, sC', sQ', past', F', R', qc', qh') ⟨hR, p1, ?_, ?_⟩ ?_), fun z => absurd z (nI_nem (by omega))⟩
      · show sC' 5 = _; rw [p2 5 (by omega)]; exact g3
      · show sC' 6 = _; rw [p2 6 (by omega)]; exact g4
      · show R - (i + 1) < R - i; omega
    · have hR : i = R := by
        rcases Nat.lt_or_ge i R with h | h
        · exact absurd ⟨ms i, (w2 i h).1, (w2 i h).2⟩ q
        · omega
      subst hR
      refine ⟨fun z => absurd rfl z, fun _ => hk _ _ _ _ _ _ _ ⟨?_, g2.2⟩ ?_ ?_⟩
      · obtain ⟨f, hf, h2, h3, h4, hFr, hen⟩ := g2.1
        exact ⟨f, hf, by rw [pk_un (by omega)]; exact h2, by rw [pk_un (by omega)]; exact h3, by rw [pk_un (by omega)]; exact h4, hFr, hen⟩
      · rw [pk_un (by omega)]; exact g3
      · rw [pk_us, if_pos e, g4]
  · have e1 : i = N := by omega
    have e2 : R = N := by omega
    subst e1
    refine ⟨fun _ => ?_, fun z => absurd (nI_le (Nat.le_refl _) (by omega)) z⟩
    have := hk sC1 sQ1 past1 F1 R1 qc1 qh1 (by rw [e2]; exact g2) g3 (by rw [if_neg (by omega)]; exact g4)
    rw [e2] at this
    exact hkx _ _ _ _ _ _ _ _ this
/-! the reference reads orders: without doing them -/
theorem rn_rt {p : Nat → Bool} {N i : Nat} (h : i ≤ N) : N ≤ rt p N i ∨ p (rt p N i) = false := by
  have : ∀ f i, i + f = N → N ≤ rn p f i ∨ p (rn p f i) = false := by
    intro f
    induction f with
    | zero => intro i hi; left; show N ≤ i; omega
    | succ f ih =>
      intro i hi
      rw [rn]
      by_cases e : p i = true
      · rw [if_pos e]; exact ih (i + 1) (by omega)
      · rw [if_neg e]; right; simpa using e
  exact this (N - i) i (by omega)
theorem tB_tB {tx : Nat → Nat} {N p : Nat} (h : p ≤ N) : tB tx N (tB tx N p) = tB tx N p := by
  show rt _ N (tB tx N p) = tB tx N p
  exact rt_st (rn_rt h)
theorem RdM.tb {tx : Nat → Nat} {N p : Nat} {s : AR} (hp : p ≤ N) (h : RdM tx N (tB tx N p) s) : RdM tx N p s := by
  have e1 := tB_tB (tx := tx) hp
  have e2 : tE tx N (tB tx N p) = tE tx N p := by unfold tE; rw [e1]
  have e3 : tK tx N (tB tx N p) = tK tx N p := by unfold tK; rw [e1]
  have e4 : tV tx N (tB tx N p) = tV tx N p := by unfold tV; rw [e1, e2]
  unfold RdM at h ⊢
  rw [e1, e2, e3, e4] at h
  exact h
/-- back to where a row of steps begins -/
theorem m_back {tx : Nat → Nat} {N p : Nat} {t s : AR} (ht : TxM tx N t) (hp : p ≤ N) (h16 : s 16 = nI N) (h21 : s 21 = 0) {post : AR → Prop} (hk : ∀ s', RdM tx N p s' → s' 21 = 0 → FrS s s' → post s') : wpX11_stepOn (upd s 15 (nI (tB tx N p))) t post := by
  refine m_stepOn ht (tB_le hp) (by rw [pk_un (by omega)]; exact h16) pk_us (fun s' a1 a2 => ?_)
  have fr : FrS s s' := fun j j1 j2 j3 j4 j5 => (a2 j j1 j2 j3 j4 j5).trans (pk_un j1)
  exact hk s' (RdM.tb hp a1) (fr.z h21) fr
theorem m_steps1 {tx : Nat → Nat} {N T : Nat} {t td pl rg vc kd now sta fl mi wh rows sets whys mc mh : AR} (ht : TxM tx N t) (hT : T ≤ 5) (g2 : td 2 = nI T) : ∀ f p w dp (s : AR) (kx post : AR → AR → AR → AR → AR → AR → AR → AR → AR → Prop), p ≤ N → N < p + f → w ≤ 3 → 3 ≤ dp + w → RdM tx N p s → s 21 = 0 → s 33 = 0 →
    (∀ q l, aSteps tx N T f p w = .inr (q, l) → ∀ s', RdM tx N q s' → s' 21 = 0 → FrS s s' → kx s' now sta wh rows sets whys mc mh) →
    (∀ k b, aSteps tx N T f p w = .inl (k, b) → ∀ s', BdM s k b s' → kx s' now sta wh rows sets whys mc mh) →
    ∀ n, N + 1 ≤ n + p → wpX11_readSteps_L0 (wpX11_readSteps dp) td pl rg vc kd fl mi t (nI w) (0 : Int32) kx post n s now sta wh rows sets whys mc mh := by
  have hN := ht.1
  have w48 : ∀ p, wdB tx N p 48 = wdB tx N p 17 := fun p => wd_sk (by decide)
  have w49 : ∀ p, wdB tx N p 49 = wdB tx N p 18 := fun p => wd_sk (by decide)
  intro f
  induction f with
  | zero => intro p w dp s kx post hp hf; omega
  | succ f ih =>
    intro p w dp s kx post hp hf hw hdp hR h21 h33 hg hb n hn
    rw [aSteps_n] at hg hb
    obtain ⟨n, rfl⟩ : ∃ k, n = k + 1 := ⟨n - 1, by omega⟩
    unfold wpX11_readSteps_L0
    refine ⟨fun z => absurd h21 z, fun _ => ⟨fun z => absurd h33 z, fun _ => m_is ht hp hR h21 (by omega) ?_⟩⟩
    rw [w48]
    -- a bad state ends the row
    have bad : ∀ k b, BdM s k b = BdM s k b → ∀ s', ¬ s' 21 = 0 → (kx s' now sta wh rows sets whys mc mh) → ∀ n, 1 ≤ n → wpX11_readSteps_L0 (wpX11_readSteps dp) td pl rg vc kd fl mi t (nI w) (0 : Int32) kx post n s' now sta wh rows sets whys mc mh := by
      intro k b _ s' hz h n hn
      obtain ⟨n, rfl⟩ : ∃ k, n = k + 1 := ⟨n - 1, by omega⟩
      unfold wpX11_readSteps_L0
      exact ⟨fun _ => h, fun z => absurd z hz⟩
    by_cases e17 : wdB tx N p 17 = true
    · rw [if_pos e17]
      simp only [if_pos e17] at hg hb
      have hk1 := wd_k e17
      have hl := tE_lt (tx := tx) (N := N) (p := p) (by omega)
      have hE := tE_le (tx := tx) hp
      refine ⟨fun _ => ?_, fun z => absurd z (by decide)⟩
      unfold wpX11_readSteps_J34
      refine m_passes ht hp hR h21 (by omega) (fun _ s1 r1 r2 r3 => ⟨fun z => absurd z (by decide), fun _ => ?_⟩) (fun z => absurd z (by rw [w48, e17]; decide))
      refine m_readSet ht hp hT r1 r2 g2 (fun q m es s2 q1 q2 q3 => ⟨fun _ => ?_, fun z => absurd rfl z⟩) (fun k b es s2 v q1 => ⟨fun _ => bad 0 0 rfl s2 q1.bad (hb k b (by rw [es]; rfl) s2 (q1.pre r3)) n (by omega), fun z => absurd rfl z⟩)
      have a1 := aSet_ok hT 501 (tE tx N p) 0 (by omega) (tE_le hp) (by omega) (q, m) es
      have a1' : tE tx N p < q := a1.1
      have a2' : q ≤ N := a1.2.1
      rw [es] at hg hb
      have fr := r3.trans q3
      refine ih q w dp s2 kx post a2' (by omega) hw hdp q1 q2 ((fr 33 (by omega) (by omega) (by omega) (by omega) (by omega)).trans h33) (fun q' l' er s' c1 c2 c3 => ?_) (fun k b er s' c1 => ?_) n (by omega)
      · exact hg q' (m :: l') (by show bnd (aSteps tx N T f q w) _ = _; rw [er]; rfl) s' c1 c2 (fr.trans c3)
      · exact hb k b (by show bnd (aSteps tx N T f q w) _ = _; rw [er]; rfl) s' (c1.pre fr)
    rw [if_neg e17]
    simp only [if_neg e17] at hg hb
    refine ⟨fun z => absurd rfl z, fun _ => m_is ht hp hR h21 (by omega) ?_⟩
    rw [w49]
    by_cases e18 : wdB tx N p 18 = true
    · rw [if_pos e18]
      simp only [if_pos e18] at hg hb
      have hk1 := wd_k e18
      have hl := tE_lt (tx := tx) (N := N) (p := p) (by omega)
      have hE := tE_le (tx := tx) hp
      refine ⟨fun z => absurd z (by decide), fun _ => ?_⟩
      unfold wpX11_readSteps_J34
      refine m_passes ht hp hR h21 (by omega) (fun z => absurd z (by rw [w48]; exact e17)) (fun _ => ⟨fun _ => ?_, fun z => absurd rfl z⟩)
      have b107 : ∀ s', ¬ s' 21 = 0 → kx s' now sta wh rows sets whys mc mh → wpX11_readSteps_J107 (wpX11_readSteps dp) s' td pl rg vc kd now sta fl mi t wh rows sets whys mc mh (nI w) (0 : Int32) (nI w) (1 : Int32) (fun b0 b1 b2 b3 b4 b5 b6 b7 b8 => wpX11_readSteps_L0 (wpX11_readSteps dp) td pl rg vc kd fl mi t (nI w) (0 : Int32) kx post n b0 b1 b2 b3 b4 b5 b6 b7 b8) kx post := by
        intro s' hz h
        unfold wpX11_readSteps_J107 wpX11_readAgain
        refine nm_e ⟨1, ?_⟩
        unfold wpX11_readAgain_L9
        refine ⟨fun z => absurd z (by decide), fun _ => ⟨fun _ => m_markBad hz (bad 0 0 rfl s' hz h n (by omega)), fun z => absurd z hz⟩⟩
      have b82 : ∀ s', ¬ s' 21 = 0 → kx s' now sta wh rows sets whys mc mh → wpX11_readSteps_J82 (wpX11_readSteps dp) s' td pl rg vc kd now sta fl mi t wh rows sets whys mc mh (nI w) (0 : Int32) (fun b0 b1 b2 b3 b4 b5 b6 b7 b8 => wpX11_readSteps_L0 (wpX11_readSteps dp) td pl rg vc kd fl mi t (nI w) (0 : Int32) kx post n b0 b1 b2 b3 b4 b5 b6 b7 b8) kx post := by
        intro s' hz h
        unfold wpX11_readSteps_J82
        exact m_readBad hz (m_markBad hz ⟨fun _ => b107 s' hz h, fun z => absurd rfl z⟩)
      rw [show (nI w = (3 : Int32)) = (w = 3) from propext (nI_eq (b := 3) (by omega) (by omega))]
      refine ⟨fun e3 => ?_, fun e3 => m_wrong hR h21 (k := 2) rfl ?_⟩
      · simp only [if_neg e3] at hg hb
        unfold wpX11_readSteps_J71
        refine ⟨fun z => absurd h21 z, fun _ => m_step2 ht hp hR h21 (fun s1 r1 r2 r3 => ?_)⟩
        unfold wpX11_readSteps_J82
        refine m_num ht (tE_le hp) r1 r2 (lo := 1) (hi := 21) (by omega) (by omega) rfl rfl (fun k ek s2 q1 q2 q3 => ?_) (fun k b ek s2 q1 => m_markBad q1.bad ⟨fun _ => b107 s2 q1.bad (hb k b (by rw [ek]; rfl) s2 (q1.pre r3)), fun z => absurd rfl z⟩)
        rw [ek] at hg hb
        have l1 := tE_p (tx := tx) (N := N) (p := tE tx N p)
        have l2 := tE_p (tx := tx) (N := N) (p := tE tx N (tE tx N p))
        refine m_mark ht (tE_le (tE_le hp)) q1 q2 (c := 123) (by omega) rfl (fun es s3 u1 u2 => ⟨fun _ => ?_, fun z => absurd rfl z⟩) (fun es => ⟨fun _ => b107 _ (mF21 (by omega) (by omega)) (hb 1 _ (by show (if sgB tx N (tE tx N (tE tx N p)) 123 = true then _ else _) = _; exact if_neg (by rw [es]; decide)) _ ((BdM.mF (by omega)).pre (r3.trans q3))), fun z => absurd rfl z⟩)
        have hg : ∀ q l, bnd (aSteps tx N T f (tE tx N (tE tx N (tE tx N p))) (w + 1)) (fun r => if sgB tx N r.1 125 = true then bnd (aSteps tx N T f (tE tx N r.1) w) (fun r2 => .inr (r2.1, rep r.2 k ++ r2.2)) else .inl (1, tB tx N r.1)) = .inr (q, l) → ∀ s', RdM tx N q s' → s' 21 = 0 → FrS s s' → kx s' now sta wh rows sets whys mc mh := fun q l h => hg q l (by show (if sgB tx N (tE tx N (tE tx N p)) 123 = true then _ else _) = _; rw [if_pos es]; exact h)
        have hb : ∀ k' b, bnd (aSteps tx N T f (tE tx N (tE tx N (tE tx N p))) (w + 1)) (fun r => if sgB tx N r.1 125 = true then bnd (aSteps tx N T f (tE tx N r.1) w) (fun r2 => .inr (r2.1, rep r.2 k ++ r2.2)) else .inl (1, tB tx N r.1)) = .inl (k', b) → ∀ s', BdM s k' b s' → kx s' now sta wh rows sets whys mc mh := fun k' b h => hb k' b (by show (if sgB tx N (tE tx N (tE tx N p)) 123 = true then _ else _) = _; rw [if_pos es]; exact h)
        have f3 : FrS s s3 := r3.trans (q3.trans u2)
        have z3 := FrS.z f3 h21
        have h3 : s3 33 = 0 := (f3 33 (by omega) (by omega) (by omega) (by omega) (by omega)).trans h33
        have hp3 := tE_le (tx := tx) (tE_le (tx := tx) (tE_le (tx := tx) hp))
        unfold wpX11_readSteps_J107 wpX11_readAgain
        refine nm_r (e' := nI (tB tx N (tE tx N (tE tx N (tE tx N p))))) u1.2.2.2.1 ?_
        refine ⟨2, ?_⟩
        unfold wpX11_readAgain_L9
        refine ⟨fun z => absurd z (by decide), fun _ => ⟨fun z => absurd z3 z, fun _ => ⟨fun z => absurd h3 z, fun _ => m_back ht hp3 u1.1 z3 (fun s4 v1 v2 v3 => ?_)⟩⟩⟩
        obtain ⟨dp, rfl⟩ : ∃ k, dp = k + 1 := ⟨dp - 1, by omega⟩
        rw [show nI w + (1 : Int32) = nI (w + 1) from nI_1 w]
        unfold wpX11_readSteps
        refine ⟨N + 1, ?_⟩
        have f4 : FrS s s4 := f3.trans v3
        refine ih _ (w + 1) dp s4 _ _ hp3 (by omega) (by omega) (by omega) v1 v2 ((f4 33 (by omega) (by omega) (by omega) (by omega) (by omega)).trans h33) (fun r l er s5 c1 c2 c3 => ?_) (fun k' b er s5 c1 => ?_) (N + 1) (by omega)
        · rw [er] at hg hb
          have hg : ∀ q l', (if sgB tx N r 125 = true then bnd (aSteps tx N T f (tE tx N r) w) (fun r2 => .inr (r2.1, rep l k ++ r2.2)) else .inl (1, tB tx N r)) = .inr (q, l') → ∀ s', RdM tx N q s' → s' 21 = 0 → FrS s s' → kx s' now sta wh rows sets whys mc mh := hg
          have hb : ∀ k' b, (if sgB tx N r 125 = true then bnd (aSteps tx N T f (tE tx N r) w) (fun r2 => .inr (r2.1, rep l k ++ r2.2)) else .inl (1, tB tx N r)) = .inl (k', b) → ∀ s', BdM s k' b s' → kx s' now sta wh rows sets whys mc mh := hb
          obtain ⟨o1, o2, o3, o4, -⟩ := aSteps_ok hN hT f _ (w + 1) hp3 (by omega) r l er
          refine nm_e ?_
          unfold wpX11_readAgain_L9
          refine ⟨fun _ => ?_, fun z => absurd (by decide) z⟩
          have f5 : FrS s s5 := f4.trans c3
          refine m_mark ht o2 c1 c2 (c := 125) (by omega) rfl (fun es' s6 y1 y2 => ?_) (fun es' => ?_)
          · rw [if_pos es'] at hg hb
            have hk3 := sg_k es'
            have hlr := tE_lt (tx := tx) (N := N) (p := r) (by omega)
            have f6 : FrS s s6 := f5.trans y2
            refine ih (tE tx N r) w (dp + 1) s6 kx post (tE_le o2) (by omega) hw hdp y1 (FrS.z f6 h21) ((f6 33 (by omega) (by omega) (by omega) (by omega) (by omega)).trans h33) (fun q' l' er' s' x1 x2 x3 => ?_) (fun k' b er' s' x1 => ?_) n (by omega)
            · exact hg q' (rep l k ++ l') (by rw [er']; rfl) s' x1 x2 (f6.trans x3)
            · exact hb k' b (by rw [er']; rfl) s' (x1.pre f6)
          · rw [if_neg (by rw [es']; decide)] at hb
            exact bad 0 0 rfl _ (mF21 (by omega) (by omega)) (hb 1 _ rfl _ ((BdM.mF (by omega)).pre f5)) n (by omega)
        · refine nm_e ?_
          unfold wpX11_readAgain_L9
          have hx := hb k' b (by rw [er]; rfl) s5 (c1.pre f4)
          exact ⟨fun _ => m_markBad c1.bad (bad 0 0 rfl s5 c1.bad hx n (by omega)), fun z => absurd (by decide) z⟩
      · unfold wpX11_readSteps_J71
        exact ⟨fun _ => b82 _ (mF21 (by omega) (by omega)) (hb 2 _ (if_pos e3) _ (BdM.mF (by omega))), fun z => absurd z (mF21 (by omega) (by omega))⟩
    · rw [if_neg e18]
      simp only [if_neg e18] at hg hb
      exact ⟨fun _ => hg p [] rfl s hR h21 FrS.rfl', fun z => absurd rfl z⟩
