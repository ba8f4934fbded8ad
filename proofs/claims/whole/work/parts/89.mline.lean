/-! a line of the reference -/
def LF (td pl rg vc kd fl mi td' pl' rg' vc' kd' fl' mi' : AR) : Prop := Lo 7 td td' ∧ Lo 5 pl pl' ∧ Lo 5 rg rg' ∧ Lo 5 vc vc' ∧ Lo 4 kd kd' ∧ Lo 5 fl fl' ∧ Lo 100 mi mi'
theorem LF.rf {td pl rg vc kd fl mi : AR} : LF td pl rg vc kd fl mi td pl rg vc kd fl mi := ⟨Lo.rf, Lo.rf, Lo.rf, Lo.rf, Lo.rf, Lo.rf, Lo.rf⟩
theorem LF.td {td pl rg vc kd fl mi td' : AR} (h : Lo 7 td td') : LF td pl rg vc kd fl mi td' pl rg vc kd fl mi := ⟨h, Lo.rf, Lo.rf, Lo.rf, Lo.rf, Lo.rf, Lo.rf⟩
def aLn (tx : Nat → Nat) (N p : Nat) (D : FL) (sn : Nat) : PR (Nat × FL) := bnd (aLine tx N p D sn) (fun q => if sgB tx N q.1 59 = true then .inr (tE tx N q.1, q.2) else .inl (1, tB tx N q.1))
theorem aText_n (tx : Nat → Nat) (N f p : Nat) (D : FL) (sn : Nat) : aText tx N (f + 1) p D sn = if tK tx N p = 0 then .inr D else bnd (aLn tx N p D sn) (fun q => aText tx N f q.1 q.2 (sn ||| lnB tx N p)) := by
  rw [aText]
  by_cases e : tK tx N p = 0
  · rw [if_pos e, if_pos e]
  · rw [if_neg e, if_neg e]
    unfold aLn
    cases aLine tx N p D sn with
    | inl f => rfl
    | inr q =>
      show (if sgB tx N q.1 59 = true then _ else _) = bnd (if sgB tx N q.1 59 = true then _ else _) _
      by_cases e2 : sgB tx N q.1 59 = true
      · rw [if_pos e2, if_pos e2]; rfl
      · rw [if_neg e2, if_neg e2]; rfl
theorem knd_w {tx : Nat → Nat} {N p : Nat} (h : kndB tx N p ≠ 0) : ∃ k, (k = 12 ∨ k = 13 ∨ k = 14 ∨ k = 15 ∨ k = 16) ∧ wdB tx N p k = true := by
  unfold kndB at h
  by_cases e1 : wdB tx N p 12 = true
  · exact ⟨12, by omega, e1⟩
  rw [if_neg e1] at h
  by_cases e2 : wdB tx N p 13 = true
  · exact ⟨13, by omega, e2⟩
  rw [if_neg e2] at h
  by_cases e3 : wdB tx N p 14 = true
  · exact ⟨14, by omega, e3⟩
  rw [if_neg e3] at h
  by_cases e4 : wdB tx N p 15 = true
  · exact ⟨15, by omega, e4⟩
  rw [if_neg e4] at h
  by_cases e5 : wdB tx N p 16 = true
  · exact ⟨16, by omega, e5⟩
  rw [if_neg e5] at h
  exact absurd rfl h
theorem knd_no {tx : Nat → Nat} {N p k : Nat} (h : wdB tx N p k = true) (hk : k = 1 ∨ k = 2 ∨ k = 5 ∨ k = 10 ∨ k = 11) : kndB tx N p = 0 := by
  rcases Nat.eq_zero_or_pos (kndB tx N p) with e | e
  · exact e
  · obtain ⟨j, hj, hw⟩ := knd_w (show kndB tx N p ≠ 0 by omega)
    have e2 := wd_inj h hw
    rcases hk with rfl | rfl | rfl | rfl | rfl <;> rcases hj with rfl | rfl | rfl | rfl | rfl <;> exact absurd e2 (by decide)
theorem sn_and : ∀ sn, sn < 16 → ((nI sn &&& 2 = (0 : Int32)) ↔ ¬ bt1 sn 1 = 1) ∧ ((nI sn &&& 4 = (0 : Int32)) ↔ ¬ bt1 sn 2 = 1) := by decide +kernel
theorem m_readLine {tx : Nat → Nat} {N p sn : Nat} {t s td pl rg vc kd rd fl mi : AR} (ht : TxM tx N t) (hp : p ≤ N) (hK : tK tx N p ≠ 0) (hR : RdM tx N p s) (h21 : s 21 = 0) {D : FL} (hOK : DOK D) (hz : sn = 0 → D 0 2 = 0 ∧ D 0 3 = 0) (hD : DM D td pl rg vc kd rd fl mi) (hsn : sn < 16) {post : Int32 → AR → AR → AR → AR → AR → AR → AR → AR → AR → Prop}
    (h1 : ∀ p' D', aLn tx N p D sn = .inr (p', D') → DOK D' → p < p' → p' ≤ N → ∀ s' td' pl' rg' vc' kd' rd' fl' mi', RdM tx N p' s' → s' 21 = 0 → FrS s s' → DM D' td' pl' rg' vc' kd' rd' fl' mi' → LF td pl rg vc kd fl mi td' pl' rg' vc' kd' fl' mi' → post (nI (sn ||| lnB tx N p)) s' td' pl' rg' vc' kd' rd' fl' mi')
    (h0 : ∀ k b, aLn tx N p D sn = .inl (k, b) → ∀ r s' td' pl' rg' vc' kd' rd' fl' mi', BdM s k b s' → LF td pl rg vc kd fl mi td' pl' rg' vc' kd' fl' mi' → post r s' td' pl' rg' vc' kd' rd' fl' mi') : wpX11_readLine s td pl rg vc kd rd fl mi t (nI sn) post := by
  have hF := hOK.1
  have f6 := hF.1.2.2.2.2.2.1
  have hD2 := hD
  obtain ⟨d1, d2, d3, d4⟩ := hD
  have g0 : td 7 = nI (D 0 0) := d1 0 (by omega)
  have g1 : td 8 = nI (D 0 1) := d1 1 (by omega)
  have g2 : td 9 = nI (D 0 2) := d1 2 (by omega)
  have g3 : td 10 = nI (D 0 3) := d1 3 (by omega)
  have w41 : wdB tx N p 41 = wdB tx N p 1 := wd_sk (by decide)
  have w42 : wdB tx N p 42 = wdB tx N p 5 := wd_sk (by decide)
  have w43 : wdB tx N p 43 = wdB tx N p 10 := wd_sk (by decide)
  have w44 : wdB tx N p 44 = wdB tx N p 2 := wd_sk (by decide)
  have w47 : wdB tx N p 47 = wdB tx N p 11 := wd_sk (by decide)
  obtain ⟨sa2, sa4⟩ := sn_and sn hsn
  have good : ∀ p' D', aLine tx N p D sn = .inr (p', D') → ∀ s' td' pl' rg' vc' kd' rd' fl' mi', RdM tx N p' s' → s' 21 = 0 → FrS s s' → DM D' td' pl' rg' vc' kd' rd' fl' mi' → LF td pl rg vc kd fl mi td' pl' rg' vc' kd' fl' mi' → ∀ ln, ln = lnB tx N p → ∀ l3, l3 = nI ln → wpX11_readLine_J215 s' td' pl' rg' vc' kd' rd' fl' mi' t (nI sn) l3 post := by
    intro p' D' er s' td' pl' rg' vc' kd' rd' fl' mi' a1 a2 a3 a4 a5 ln hln l3 hl3
    obtain ⟨c1, c2, c3⟩ := aLine_ok hp hK hOK hz er
    unfold wpX11_readLine_J215
    rw [hl3, n_or, hln]
    refine m_mark ht c3 a1 a2 (c := 59) (by omega) rfl (fun es s2 q1 q2 => ?_) (fun es => ?_)
    · have := tE_p (tx := tx) (N := N) (p := p')
      exact h1 (tE tx N p') D' (by unfold aLn; rw [er]; exact if_pos es) c1 (by omega) (tE_le c3) _ _ _ _ _ _ _ _ _ q1 (FrS.z q2 a2) (a3.trans q2) a4 a5
    · exact h0 1 (tB tx N p') (by unfold aLn; rw [er]; exact if_neg (by rw [es]; decide)) _ _ _ _ _ _ _ _ _ _ ((BdM.mF (by omega)).pre a3) a5
  have bad : ∀ k b, aLine tx N p D sn = .inl (k, b) → ∀ s' td' pl' rg' vc' kd' rd' fl' mi', BdM s k b s' → LF td pl rg vc kd fl mi td' pl' rg' vc' kd' fl' mi' → ∀ l3, wpX11_readLine_J215 s' td' pl' rg' vc' kd' rd' fl' mi' t (nI sn) l3 post := by
    intro k b er s' td' pl' rg' vc' kd' rd' fl' mi' a1 a2 l3
    unfold wpX11_readLine_J215
    exact m_markBad a1.bad (h0 k b (by unfold aLn; rw [er]; rfl) _ _ _ _ _ _ _ _ _ _ a1 a2)
  have b142 : ∀ k b, aLine tx N p D sn = .inl (k, b) → ∀ s', BdM s k b s' → ∀ l3, wpX11_readLine_J142 s' td pl rg vc kd rd fl mi t (nI sn) l3 post := by
    intro k b er s' a1 l3
    unfold wpX11_readLine_J142 wpX11_readLine_J153
    refine ⟨fun _ => ⟨fun _ => ⟨fun _ => ?_, fun _ => ?_⟩, fun _ => ?_⟩, fun z => absurd z a1.bad⟩
    · exact m_readBad a1.bad (nm_e (bad k b er _ _ _ _ _ _ _ _ _ a1 (LF.td (Lo.rf.up (by omega))) _))
    · unfold wpX11_readWind wpX11_readWind_J19 wpX11_readWind_J30
      refine m_whichBad (by omega) a1.bad ⟨fun z => absurd rfl z, fun _ => m_wrongBad a1.bad ⟨fun _ => nm_e (m_readBad a1.bad (nm_e ?_)), fun z => absurd z a1.bad⟩⟩
      exact bad k b er _ _ _ _ _ _ _ _ _ a1 (LF.td ((Lo.rf.up (by omega)).up (by omega))) _
    · exact m_readBad a1.bad (nm_e (m_readBad a1.bad (nm_e (bad k b er _ _ _ _ _ _ _ _ _ a1 (LF.td ((Lo.rf.up (by omega)).up (by omega))) _))))
  have b86 : ∀ k b, aLine tx N p D sn = .inl (k, b) → ∀ s', BdM s k b s' → ∀ l2, l2 = (-1 : Int32) → ∀ l3, wpX11_readLine_J86 s' td pl rg vc kd rd fl mi t (nI sn) l2 l3 post := by
    intro k b er s' a1 l2 hl2 l3
    unfold wpX11_readLine_J86
    refine ⟨fun _ => m_isBad a1.bad ⟨fun _ => m_passBad a1.bad ⟨fun _ => ⟨fun _ => b142 k b er s' a1 l3, fun _ => m_wrongBad a1.bad (b142 k b er s' a1 l3)⟩, fun z => absurd rfl z⟩, fun z => absurd rfl z⟩, fun z => absurd hl2 z⟩
  -- neither walker, tower nor mirage
  have o86 : ∀ l3 : Int32, l3 ≠ 8 → wdB tx N p 2 = false → wdB tx N p 11 = false → (∀ s1, RdM tx N (tE tx N p) s1 → s1 21 = 0 → FrS s s1 → wpX11_readLine_J153 s1 td pl rg vc kd rd fl mi t (nI sn) l3 post) → ∀ l2, l2 = (-1 : Int32) → wpX11_readLine_J86 s td pl rg vc kd rd fl mi t (nI sn) l2 l3 post := by
    intro l3 hl3 e2 e11 h l2 hl2
    unfold wpX11_readLine_J86
    refine ⟨fun _ => m_is ht hp hR h21 (by omega) ?_, fun z => absurd hl2 z⟩
    rw [w44, e2, if_neg (by decide)]
    refine ⟨fun _ => m_passes ht hp hR h21 (by omega) (fun z => absurd z (by rw [w47, e11]; decide)) (fun _ => ⟨fun _ => ⟨fun _ => ?_, fun z => absurd z hl3⟩, fun z => absurd rfl z⟩), fun z => absurd rfl z⟩
    unfold wpX11_readLine_J142
    exact ⟨fun z => absurd h21 z, fun _ => m_step2 ht hp hR h21 h⟩
  unfold wpX11_readLine
  refine m_kinds ht hp hR h21 ?_
  have w := fun k (hk : k < 50) {post : Int32 → Prop} => m_is ht hp hR h21 hk (post := post)
  have aL : aLine tx N p D sn = aLine tx N p D sn := rfl
  have lN : lnB tx N p = lnB tx N p := rfl
  conv at aL => rhs; unfold aLine
  conv at lN => rhs; unfold lnB
  refine w 41 (by omega) ?_
  rw [w41]
  by_cases e1 : wdB tx N p 1 = true
  · have ek := knd_no e1 (by omega)
    have n2 := wd_no (k' := 2) e1 (by decide)
    have n11 := wd_no (k' := 11) e1 (by decide)
    rw [if_pos e1] at aL lN
    rw [if_pos e1, ek]
    refine ⟨fun z => absurd z (by decide), fun _ => ?_⟩
    have j65 : ∀ s1, wpX11_readLine_J86 s1 td pl rg vc kd rd fl mi t (nI sn) (tI 0) (1 : Int32) post → wpX11_readLine_J65 s1 td pl rg vc kd rd fl mi t (nI sn) (tI 0) (1 : Int32) post := by
      intro s1 h
      unfold wpX11_readLine_J65
      exact ⟨fun z => absurd z (by decide), fun _ => ⟨fun _ => h, fun z => absurd z (by decide)⟩⟩
    unfold wpX11_readLine_J50
    refine ⟨fun z => absurd rfl z, fun _ => ⟨fun es => j65 _ ?_, fun es => ?_⟩⟩
    · have es : sn = 0 := (nI_eq (b := 0) (by omega) (by omega)).mp es
      unfold aSize at aL
      rw [if_neg (by omega)] at aL
      refine o86 1 (by decide) n2 n11 (fun s1 r1 r2 r3 => ?_) _ rfl
      unfold wpX11_readLine_J153
      refine ⟨fun z => absurd rfl z, fun _ => ?_⟩
      refine m_num ht (tE_le hp) r1 r2 (lo := 2) (hi := 11) (by omega) (by omega) rfl rfl (fun x ex s2 q1 q2 q3 => nm_e ?_) (fun k b ex s2 q1 => nm_e (m_readBad q1.bad (nm_e ?_)))
      · rw [ex] at aL
        have aL : aLine tx N p D sn = bnd (aNum tx N (tE tx N (tE tx N p)) 2 11) (fun h => .inr (tE tx N (tE tx N (tE tx N p)), dU (dU D 0 0 x) 0 1 h)) := aL
        refine m_num ht (tE_le (tE_le hp)) q1 q2 (lo := 2) (hi := 11) (by omega) (by omega) rfl rfl (fun y ey s3 u1 u2 u3 => nm_e ?_) (fun k b ey s3 u1 => nm_e ?_)
        · rw [ey] at aL
          exact good _ _ aL _ _ _ _ _ _ _ _ _ u1 u2 (r3.trans (q3.trans u3)) (hD2.size x y) (LF.td ((Lo.rf.up (by omega)).up (by omega))) 1 lN.symm _ rfl
        · rw [ey] at aL
          exact bad k b aL _ _ _ _ _ _ _ _ _ (u1.pre (r3.trans q3)) (LF.td ((Lo.rf.up (by omega)).up (by omega))) _
      · rw [ex] at aL
        exact bad k b aL _ _ _ _ _ _ _ _ _ (q1.pre r3) (LF.td ((Lo.rf.up (by omega)).up (by omega))) _
    · have es : sn ≠ 0 := fun z => es (by rw [z]; rfl)
      unfold aSize at aL
      rw [if_pos es] at aL
      exact m_wrong hR h21 (k := 3) rfl (j65 _ (b86 _ _ aL _ (BdM.mF (by omega)) _ rfl _))
  rw [if_neg e1] at aL lN ⊢
  refine ⟨fun _ => w 42 (by omega) ?_, fun z => absurd rfl z⟩
  rw [w42]
  by_cases e5 : wdB tx N p 5 = true
  · have ek := knd_no e5 (by omega)
    have n2 := wd_no (k' := 2) e5 (by decide)
    have n11 := wd_no (k' := 11) e5 (by decide)
    rw [n2, if_neg (by decide), if_pos e5] at aL
    rw [if_pos e5] at lN
    rw [if_pos e5, ek]
    refine ⟨fun z => absurd z (by decide), fun _ => ?_⟩
    unfold wpX11_readLine_J50 wpX11_readLine_J65 wpX11_readLine_J75
    refine ⟨fun _ => ⟨fun _ => ⟨fun es => ?_, fun es => ?_⟩, fun z => absurd rfl z⟩, fun z => absurd z (by decide)⟩
    · have es := sa2.mp es
      refine o86 2 (by decide) n2 n11 (fun s1 r1 r2 r3 => ?_) _ rfl
      unfold wpX11_readLine_J153
      refine ⟨fun _ => ⟨fun z => absurd rfl z, fun _ => ?_⟩, fun z => absurd z (by decide)⟩
      refine m_readWind ht hp r1 r2 (D := D) es (fun d n er s2 q1 q2 q3 => ?_) (fun k b er s2 td' q1 q2 => ?_)
      · exact good _ _ (aL.trans er) _ _ _ _ _ _ _ _ _ q1 q2 (r3.trans q3) (hD2.wind d n) (LF.td ((Lo.rf.up (by omega)).up (by omega))) 2 lN.symm _ rfl
      · exact bad k b (aL.trans er) _ _ _ _ _ _ _ _ _ (q1.pre r3) (LF.td q2) _
    · have es : bt1 sn 1 = 1 := Classical.byContradiction (fun q => es (sa2.mpr q))
      unfold aWind at aL
      rw [if_pos es] at aL
      exact m_wrong hR h21 (k := 4) rfl (b86 _ _ aL _ (BdM.mF (by omega)) _ rfl _)
  rw [if_neg e5] at lN ⊢
  refine ⟨fun _ => w 43 (by omega) ?_, fun z => absurd rfl z⟩
  rw [w43]
  by_cases e10 : wdB tx N p 10 = true
  · have ek := knd_no e10 (by omega)
    have n2 := wd_no (k' := 2) e10 (by decide)
    have n11 := wd_no (k' := 11) e10 (by decide)
    rw [n2, if_neg (by decide), if_neg e5, if_pos e10] at aL
    rw [if_pos e10] at lN
    rw [if_pos e10, ek]
    refine ⟨fun z => absurd z (by decide), fun _ => ?_⟩
    unfold wpX11_readLine_J50 wpX11_readLine_J65 wpX11_readLine_J75
    refine ⟨fun _ => ⟨fun z => absurd z (by decide), fun _ => ⟨fun z => absurd rfl z, fun _ => ⟨fun es => ?_, fun es => ?_⟩⟩⟩, fun z => absurd z (by decide)⟩
    · have es := sa4.mp es
      unfold aNight at aL
      rw [if_neg es] at aL
      refine o86 4 (by decide) n2 n11 (fun s1 r1 r2 r3 => ?_) _ rfl
      unfold wpX11_readLine_J153
      refine ⟨fun _ => ⟨fun _ => ?_, fun z => absurd z (by decide)⟩, fun z => absurd z (by decide)⟩
      refine m_num ht (tE_le hp) r1 r2 (lo := 0) (hi := 10) (by omega) (by omega) rfl rfl (fun n en s2 q1 q2 q3 => nm_e ?_) (fun k b en s2 q1 => nm_e ?_)
      · rw [en] at aL
        exact good _ _ aL _ _ _ _ _ _ _ _ _ q1 q2 (r3.trans q3) (hD2.night n) (LF.td (Lo.rf.up (by omega))) 4 lN.symm _ rfl
      · rw [en] at aL
        exact bad k b aL _ _ _ _ _ _ _ _ _ (q1.pre r3) (LF.td (Lo.rf.up (by omega))) _
    · have es : bt1 sn 2 = 1 := Classical.byContradiction (fun q => es (sa4.mpr q))
      unfold aNight at aL
      rw [if_pos es] at aL
      exact m_wrong hR h21 (k := 4) rfl (b86 _ _ aL _ (BdM.mF (by omega)) _ rfl _)
  rw [if_neg e10] at lN ⊢
  rw [if_neg e5, if_neg e10] at aL
  refine ⟨fun _ => ?_, fun z => absurd rfl z⟩
  have hkl := kndB_le tx N p
  have go : wpX11_readLine_J86 s td pl rg vc kd rd fl mi t (nI sn) (tI (kndB tx N p)) (8 : Int32) post → wpX11_readLine_J50 s td pl rg vc kd rd fl mi t (nI sn) (tI (kndB tx N p)) (8 : Int32) post := by
    intro h
    unfold wpX11_readLine_J50 wpX11_readLine_J65
    exact ⟨fun _ => ⟨fun z => absurd z (by decide), fun _ => ⟨fun _ => h, fun z => absurd z (by decide)⟩⟩, fun z => absurd z (by decide)⟩
  refine go ?_
  unfold wpX11_readLine_J86
  rw [show (-1 : Int32) = -nI 1 from rfl, tI_none (by omega)]
  refine ⟨fun ek => ?_, fun ek => ?_⟩
  · rw [if_pos ek] at aL
    refine w 44 (by omega) ?_
    rw [w44]
    by_cases e2 : wdB tx N p 2 = true
    · rw [if_pos e2] at aL ⊢
      refine ⟨fun z => absurd z (by decide), fun _ => ?_⟩
      refine m_readTower ht hp hR h21 hF g0 g1 g2 (fun t ht => (d2 t ht).1) (fun p' c r v q f er s' a1 a2 a3 => ?_) (fun k b er s' td' pl' rg' vc' rd' fl' a1 l1 l2 l3 l4 l5 => ?_)
      · exact good _ _ (aL.trans er) _ _ _ _ _ _ _ _ _ a1 a2 a3 (hD2.tower f6 c r v q f) ⟨Lo.rf.up (by omega), Lo.rf.up (by omega), Lo.rf.up (by omega), Lo.rf.up (by omega), Lo.rf, Lo.rf.up (by omega), Lo.rf⟩ 8 lN.symm _ rfl
      · exact bad k b (aL.trans er) _ _ _ _ _ _ _ _ _ a1 ⟨l1, l2, l3, l4, Lo.rf, l5, Lo.rf⟩ _
    · rw [if_neg e2] at aL ⊢
      refine ⟨fun _ => ?_, fun z => absurd rfl z⟩
      refine m_passes ht hp hR h21 (by omega) (fun e11 s1 r1 r2 r3 => ?_) (fun e11 => ?_)
      · rw [w47] at e11
        rw [if_pos e11] at aL
        refine ⟨fun z => absurd z (by decide), fun _ => ?_⟩
        refine m_readMirage ht hp r1 r2 hF g0 g1 d4 (fun c er s2 q1 q2 q3 => ?_) (fun k b er s2 q1 => ?_)
        · exact good _ _ (aL.trans er) _ _ _ _ _ _ _ _ _ q1 q2 (r3.trans q3) (hD2.mirage c) ⟨Lo.rf, Lo.rf, Lo.rf, Lo.rf, Lo.rf, Lo.rf, Lo.rf.up (by omega)⟩ 8 lN.symm _ rfl
        · exact bad k b (aL.trans er) _ _ _ _ _ _ _ _ _ (q1.pre r3) LF.rf _
      · rw [w47] at e11
        rw [e11, if_neg (by decide)] at aL
        exact ⟨fun _ => ⟨fun z => absurd rfl z, fun _ => m_wrong hR h21 (k := 1) rfl (b142 _ _ aL _ (BdM.mF (by omega)) _)⟩, fun z => absurd rfl z⟩
  · rw [if_neg ek] at aL
    obtain ⟨j, hj, hw⟩ := knd_w ek
    have n2 : wdB tx N p 2 = false := wd_no hw (by rcases hj with rfl | rfl | rfl | rfl | rfl <;> decide)
    have n11 : wdB tx N p 11 = false := wd_no hw (by rcases hj with rfl | rfl | rfl | rfl | rfl <;> decide)
    rw [n2, n11, if_neg (by decide), if_neg (by decide)] at aL
    rw [show tI (kndB tx N p) = nI (kndB tx N p - 1) by cases eq : kndB tx N p with | zero => exact absurd eq ek | succ c => rfl]
    refine m_readWalker ht hp hR h21 hF g0 g1 g3 (fun c w' er hl4 s' a1 a2 a3 => ?_) (fun k b er s' td' kd' rd' a1 l1 l2 => ?_)
    · exact good _ _ (aL.trans er) _ _ _ _ _ _ _ _ _ a1 a2 a3 (hD2.walker hl4 _ c w') ⟨Lo.rf.up (by omega), Lo.rf, Lo.rf, Lo.rf, Lo.rf.up (by omega), Lo.rf, Lo.rf⟩ 8 lN.symm _ rfl
    · exact bad k b (aL.trans er) _ _ _ _ _ _ _ _ _ a1 ⟨l1, Lo.rf, Lo.rf, Lo.rf, l2, Lo.rf, Lo.rf⟩ _
