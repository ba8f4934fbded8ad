theorem n_14 {z : Int32} (h0 : ¬ z < 1) (h1 : z ≤ 4) : ∃ n, 1 ≤ n ∧ n ≤ 4 ∧ z = nI n := by
  obtain ⟨m, hm, rfl, hm2⟩ := n_any z
  rcases hm2 with hm2 | hm2
  · have q1 := (nI_leI (b := 4) hm2 (by omega)).mp h1
    have q2 : ¬ m < 1 := fun q => h0 ((nI_ltI (b := 1) hm2 (by omega)).mpr q)
    exact ⟨m, by omega, q1, rfl⟩
  · refine absurd ?_ h0
    rw [Int32.lt_iff_toInt_lt] at hm2 ⊢
    have e0 : (0 : Int32).toInt = 0 := by decide
    have e1 : (1 : Int32).toInt = 1 := by decide
    rw [e0] at hm2
    rw [e1]
    omega
theorem c_needLen {x : Int32} {post : Prop} {postX : String → Prop} (h1 : ∀ n, 1 ≤ n → n ≤ 4 → x = nI n → post) (h0 : (¬ ∃ n, 1 ≤ n ∧ n ≤ 4 ∧ x = nI n) → postX exI) : wpX10_needLength x post postX := by
  unfold wpX10_needLength wpX10_needLength_J10
  by_cases hx : ∃ n, 1 ≤ n ∧ n ≤ 4 ∧ x = nI n
  · obtain ⟨n, a1, a2, rfl⟩ := hx
    exact ⟨fun z => absurd ((nI_ltI (b := 1) (by omega) (by omega)).mp z) (by omega), fun _ => ⟨fun _ => h1 n a1 a2 rfl, fun z => absurd ((nI_leI (b := 4) (by omega) (by omega)).mpr a2) z⟩⟩
  · exact ⟨fun _ => h0 hx, fun z => ⟨fun q => absurd (n_14 z q) hx, fun _ => h0 hx⟩⟩
theorem m_len {x : Int32} {post : Int32 → Prop} (h1 : ∀ n, 1 ≤ n → n ≤ 4 → x = nI n → post 1) (h0 : (¬ ∃ n, 1 ≤ n ∧ n ≤ 4 ∧ x = nI n) → post 0) : wpX11_isIn x (1 : Int32) (4 : Int32) post := by
  unfold wpX11_isIn
  by_cases hx : ∃ n, 1 ≤ n ∧ n ≤ 4 ∧ x = nI n
  · obtain ⟨n, a1, a2, rfl⟩ := hx
    exact ⟨fun z => absurd ((nI_ltI (b := 1) (by omega) (by omega)).mp z) (by omega), fun _ => ⟨fun z => absurd ((nI_ltI (a := 4) (by omega) (by omega)).mp z) (by omega), fun _ => h1 n a1 a2 rfl⟩⟩
  · exact ⟨fun _ => h0 hx, fun z => ⟨fun _ => h0 hx, fun q => absurd (n_14 z (Int32.not_lt.mp q)) hx⟩⟩
theorem nI_nem2 {d : Nat} (h : d < 2 ^ 31) : ¬ nI d = (-2 : Int32) := fun z => by
  rw [show (nI d = (-2 : Int32)) = False from n_eqneg (b := 2) (by omega) h (by omega)] at z
  exact z
theorem m_best {P : FL} {s tc rg vc fl kd mi now wh bR wk tS bS pn sM : AR} (hF : FlatOK P) (hG : GRep P s tc rg vc fl kd mi) {a : Nat → Nat} {B n : Nat} (ha : FRep P now a) (hok : FOK P B a) (hB : B + 4 < 2 ^ 30) (h1n : 1 ≤ n) (hn : n ≤ 4) {post : Int32 → AR → AR → AR → AR → AR → AR → AR → Prop}
    (hA : nd P 0 n a ≤ 20000 → ∀ sM' wh' bR' wk' tS' bS' pn', (∀ i, i < n → pn' i = nI ((bst P 0 n a).2.2 i)) → FrM (upd sM 2 0) sM' → post (tI (bst P 0 n a).1 - nI (hmN P a 1)) (upd sM' 45 (nI n)) wh' bR' wk' tS' bS' pn') (hS : 20000 < nd P 0 n a → ∀ sM' wh' bR' wk' tS' bS', FrM (upd sM 2 0) sM' → post (-2) sM' wh' bR' wk' tS' bS' pn) : wpX11_best sM s tc rg vc kd now fl mi wh bR wk tS bS pn (nI n) post := by
  unfold wpX11_best
  refine m_len (fun _ _ _ _ => ⟨fun _ => ?_, fun z => absurd z (by decide)⟩) (fun z => absurd ⟨n, h1n, hn, rfl⟩ z)
  refine m_bestOf hF hG (bu := 0) ha hok hB hn (by omega) (fun h sM' wh' bR' wk' tS' bS' p1 p2 => ?_) (fun h sM' wh' bR' wk' tS' bS' p1 => ⟨fun z => absurd rfl z, fun _ => hS h _ _ _ _ _ _ p1⟩)
  obtain ⟨k, hk4, hne, hk⟩ := bst_in hF 0 n a p1.2.1
  refine ⟨fun _ => ?_, fun z => absurd (hk.symm.trans z) (nI_nem2 (by omega))⟩
  have hb := (p1.2.2 hne).2.2
  refine loop_0 (fun nn i (q : AR) => wpX11_best_L43 (upd sM' 45 (nI n)) s tc rg vc kd now fl mi wh' bR' wk' tS' bS' (nI n) _ _ post nn q (nI i)) (fun i q => ∀ j, j < i → q j = nI ((bst P 0 n a).2.2 j)) n pn (fun j hj => absurd hj (Nat.not_lt_zero _)) ?_ ?_
  · intro nn q hI
    show wpX11_best_L43 (upd sM' 45 (nI n)) s tc rg vc kd now fl mi wh' bR' wk' tS' bS' (nI n) _ _ post (nn + 1) q (nI n)
    unfold wpX11_best_L43
    exact ⟨fun _ => hA h _ _ _ _ _ _ _ hI p2, fun z => absurd (nI_le (Nat.le_refl n) (by omega)) z⟩
  · intro nn i q hi hI hnext
    show wpX11_best_L43 (upd sM' 45 (nI n)) s tc rg vc kd now fl mi wh' bR' wk' tS' bS' (nI n) _ _ post (nn + 1) q (nI i)
    unfold wpX11_best_L43
    rw [nI_clamp (by omega)]
    refine ⟨fun z => absurd z (nI_ge hi (by omega)), fun _ => ⟨vp_in_nI (by omega) (by omega), vp_in_nI (by omega) (by omega), nm_e (nm_r (nI_1 i) (hnext _ (fun j hj => ?_)))⟩⟩
    by_cases e : j = i
    · subst e; rw [pk_us]; exact hb _ hi
    · rw [pk_un e]; exact hI j (by omega)
/-- best -/
theorem law18 {xs : Nat → Int32} {L B : Nat} {cs ms : ST} {ov l4 : Int32} (hI : INV B cs ms) (hv : HV l4 L) {kb : ST → ST → Prop} (hB : B + 1000 < 2 ^ 29) (hk : ∀ cs' ms', INV (B + 200) cs' ms' → kb cs' ms') : wpC18 xs L cs ms ov l4 kb := by
  have hI2 := hI
  obtain ⟨P, op, g, im, g2, T, pl, hG, hR, hT, hP, hJ⟩ := hI
  have hCG := hG.cg
  have hG2 := hG
  obtain ⟨hF, hGc, hE, hW, hGm⟩ := hG
  have hR2 := hR
  obtain ⟨hRc, hRm, hok, hs5, hs6⟩ := hR
  have fc := hF.cells
  have f5 := hF.1.2.2.2.2.1
  have f6 := hF.1.2.2.2.2.2.1
  have hFr := hRc.1.now
  have hNr := hRm.1.2.2.1
  unfold wpC18 wpL_best wpX10_best
  refine ⟨hv.h1, ?_⟩
  generalize xs (l4 + (1 : Int32)).toNatClampNeg = x
  refine c_needLen (fun n h1n hn e => ?_) (fun e => ⟨rfl, hv.h1, ?_⟩)
  · subst e
    -- the plan kept anew
    have inv : ∀ (c9 c49 c50 c51 c53 c54 c55 c56 c57 c58 c59 c60 br sM' w1 w2 w3 w4 w5 pn : AR), FrM (upd (ms 0) 2 0) sM' → (∀ i, i < n → br i = pn i) → INV (B + 200) (sct (sct (sct (sct (sct (sct (sct (sct (sct (sct (sct (sct (sct (sct cs 0 (upd (cs 0) 14 (nI n))) 9 c9) 11 br) 49 c49) 50 c50) 51 c51) 53 c53) 54 c54) 55 c55) 56 c56) 57 c57) 58 c58) 59 c59) 60 c60) (sct (sct (sct (sct (sct (sct (sct ms 0 (upd sM' 45 (nI n))) 12 w1) 18 w2) 19 w3) 20 w4) 21 w5) 22 pn) := by
      intro c9 c49 c50 c51 c53 c54 c55 c56 c57 c58 c59 c60 br sM' w1 w2 w3 w4 w5 pn hfr hbp
      have k := K0.c.trans hfr.k0
      have e45 : ∀ j, j ≠ 45 → upd sM' 45 (nI n) j = sM' j := fun j hj => pk_un hj
      refine ⟨P, op, g, im, g2, T, n, hG2, ⟨hRc, ⟨⟨?_, ?_, hRm.1.2.2⟩, ⟨?_, hRm.2.2⟩⟩, hok.mono (by omega), hs5, hs6⟩, ⟨hT.1, ?_, ?_, hT.2.2.2.1, ?_⟩, ⟨hn, ?_, ?_, hbp⟩, ⟨?_, ?_, fun ei => ?_⟩⟩
      · exact (e45 30 (by omega)).trans (k.2.2.1.trans hRm.1.1)
      · exact (e45 31 (by omega)).trans (k.2.2.2.1.trans hRm.1.2.1)
      · exact (e45 36 (by omega)).trans (k.2.2.2.2.1.trans hRm.2.1)
      · show upd (cs 0) 14 (nI n) 15 = _
        rw [pk_un (by omega)]; exact hT.2.1
      · exact (e45 14 (by omega)).trans (k.1.trans hT.2.2.1)
      · show upd (cs 0) 14 (nI n) 16 = upd sM' 45 (nI n) 23
        rw [pk_un (by omega), e45 23 (by omega), k.2.1]; exact hT.2.2.2.2
      · show upd (cs 0) 14 (nI n) 14 = _
        rw [pk_us]
      · show upd sM' 45 (nI n) 45 = _
        rw [pk_us, if_neg (by omega)]
      · show upd (cs 0) 14 (nI n) 17 = _
        rw [pk_un (by omega)]; exact hJ.1
      · exact (e45 48 (by omega)).trans (k.2.2.2.2.2.2.1.trans hJ.2.1)
      · obtain ⟨a1, a2, a3, a4⟩ := hJ.2.2 ei
        refine ⟨a1, ⟨?_, ?_, a2.2.2⟩, a3.mono (by omega), a4⟩
        · show upd sM' 45 (nI n) 49 = _
          rw [e45 49 (by omega), k.2.2.2.2.2.2.2.1]; exact a2.1
        · show upd sM' 45 (nI n) 50 = _
          rw [e45 50 (by omega), k.2.2.2.2.2.2.2.2]; exact a2.2.1
    refine c_isSpent hF hGc.1 hFr hok.now hn (fun hsp => ⟨fun z => absurd z (by decide), fun _ => ⟨hv.h1, ?_⟩⟩) (fun hsp => ⟨fun _ => ?_, fun z => absurd rfl z⟩)
    · refine m_best hF hGm hNr hok.now (by omega) h1n hn (fun h => by omega) (fun _ sM' wh' bR' wk' tS' bS' p1 => ?_)
      have k := K0.c.trans p1.k0
      have e2 : sM' 2 = 0 := by rw [p1 2 (by omega) (by omega) (by omega) (by omega) (by omega) (by omega), pk_us]
      refine ⟨e2, fun z => absurd rfl z, fun _ => ⟨rfl, hk _ _ ?_⟩⟩
      exact ⟨P, op, g, im, g2, T, pl, hG2, ⟨hRc, hRm.k0 k, hok.mono (by omega), hs5, hs6⟩, hT.k0 k, hP.k0 k, (hJ.k0 k).mono (by omega)⟩
    · have mo : ∀ (c9 c49 c50 c51 c53 c54 c55 c56 c57 c58 c59 c60 br : AR), (∀ i, i < n → br i = nI ((bst P 0 n (cur g)).2.2 i)) → vp_in (l4 + (1 : Int32)) L ∧ wpX11_best (ms 0) (ms 1) (ms 2) (ms 3) (ms 4) (ms 5) (ms 6) (ms 9) (ms 10) (ms 12) (ms 18) (ms 19) (ms 20) (ms 21) (ms 22) (nI n) (fun r2 w2_0 w2_1 w2_2 w2_3 w2_4 w2_5 w2_6 => wpX11_thrown w2_0 (fun r3 => r3 = (0 : Int32) ∧ ((¬ (0 : Int32) = 0 → kb (sct (sct (sct (sct (sct (sct (sct (sct (sct (sct (sct (sct (sct (sct cs 0 (upd (cs 0) 14 (nI n))) 9 c9) 11 br) 49 c49) 50 c50) 51 c51) 53 c53) 54 c54) 55 c55) 56 c56) 57 c57) 58 c58) 59 c59) 60 c60) (sct (sct (sct (sct (sct (sct (sct ms 0 w2_0) 12 w2_1) 18 w2_2) 19 w2_3) 20 w2_4) 21 w2_5) 22 w2_6)) ∧ ((0 : Int32) = 0 → tI (bst P 0 n (cur g)).1 - nI (hmN P (cur g) 1) = r2 ∧ kb (sct (sct (sct (sct (sct (sct (sct (sct (sct (sct (sct (sct (sct (sct cs 0 (upd (cs 0) 14 (nI n))) 9 c9) 11 br) 49 c49) 50 c50) 51 c51) 53 c53) 54 c54) 55 c55) 56 c56) 57 c57) 58 c58) 59 c59) 60 c60) (sct (sct (sct (sct (sct (sct (sct ms 0 w2_0) 12 w2_1) 18 w2_2) 19 w2_3) 20 w2_4) 21 w2_5) 22 w2_6))))) := by
        intro c9 c49 c50 c51 c53 c54 c55 c56 c57 c58 c59 c60 br hbr
        refine ⟨hv.h1, ?_⟩
        refine m_best hF hGm hNr hok.now (by omega) h1n hn (fun _ sM' wh' bR' wk' tS' bS' pn' p1 p2 => ?_) (fun h => by omega)
        refine ⟨?_, fun z => absurd rfl z, fun _ => ⟨rfl, hk _ _ (inv _ _ _ _ _ _ _ _ _ _ _ _ _ _ _ _ _ _ _ _ p2 (fun i hi => by rw [hbr i hi, p1 i hi]))⟩⟩
        rw [pk_un (by omega), p2 2 (by omega) (by omega) (by omega) (by omega) (by omega) (by omega), pk_us]
      clear inv
      rcases (show n = 1 ∨ n = 2 ∨ n = 3 ∨ n = 4 by omega) with rfl | rfl | rfl | rfl
      · refine ⟨Or.inl rfl, fun _ => c_mm1 hCG hFr hok.now (by omega) (bu := 0) (Or.inl ⟨rfl, rfl⟩) (fun sN2 row2 fd2 A0 B1 S1 q1 => nm_e ?_), fun z => absurd z (by decide), fun z => absurd z (by decide), fun z => absurd z (by decide)⟩
        obtain ⟨k, hk4, hne, hkk⟩ := bst_in hF 0 1 (cur g) q1.2.1
        refine mo _ _ _ _ _ _ _ _ _ _ _ _ _ (fun i hi => ?_)
        rw [pk_cpy_in (by omega) (by omega), show 0 + (i - 0) = i by omega]
        exact (q1.2.2 hne).2.2 i hi
      · refine ⟨Or.inr (Or.inl rfl), fun z => absurd z (by decide), fun _ => c_mm2 hCG hFr hok.now (by omega) (bu := 0) (Or.inl ⟨rfl, rfl⟩) (fun sN2 row2 fd2 A0 B1 S1 B2 S2 q1 => nm_e ?_), fun z => absurd z (by decide), fun z => absurd z (by decide)⟩
        obtain ⟨k, hk4, hne, hkk⟩ := bst_in hF 0 2 (cur g) q1.2.1
        refine mo _ _ _ _ _ _ _ _ _ _ _ _ _ (fun i hi => ?_)
        rw [pk_cpy_in (by omega) (by omega), show 0 + (i - 0) = i by omega]
        exact (q1.2.2 hne).2.2 i hi
      · refine ⟨Or.inr (Or.inr (Or.inl rfl)), fun z => absurd z (by decide), fun z => absurd z (by decide), fun _ => c_mm3 hCG hFr hok.now (by omega) (bu := 0) (Or.inl ⟨rfl, rfl⟩) (fun sN2 row2 fd2 A0 B1 S1 B2 S2 B3 S3 q1 => nm_e ?_), fun z => absurd z (by decide)⟩
        obtain ⟨k, hk4, hne, hkk⟩ := bst_in hF 0 3 (cur g) q1.2.1
        refine mo _ _ _ _ _ _ _ _ _ _ _ _ _ (fun i hi => ?_)
        rw [pk_cpy_in (by omega) (by omega), show 0 + (i - 0) = i by omega]
        exact (q1.2.2 hne).2.2 i hi
      · refine ⟨Or.inr (Or.inr (Or.inr rfl)), fun z => absurd z (by decide), fun z => absurd z (by decide), fun z => absurd z (by decide), fun _ => c_mm4 hCG hFr hok.now (by omega) (bu := 0) (Or.inl ⟨rfl, rfl⟩) (fun sN2 row2 fd2 A0 B1 S1 B2 S2 B3 S3 B4 S4 q1 => nm_e ?_)⟩
        obtain ⟨k, hk4, hne, hkk⟩ := bst_in hF 0 4 (cur g) q1.2.1
        refine mo _ _ _ _ _ _ _ _ _ _ _ _ _ (fun i hi => ?_)
        rw [pk_cpy_in (by omega) (by omega), show 0 + (i - 0) = i by omega]
        exact (q1.2.2 hne).2.2 i hi
  · unfold wpX11_best wpX11_fail
    have k : K0 (ms 0) (upd (upd (ms 0) 2 0) 2 1) := K0.c.trans K0.c
    refine m_len (fun n h1 h2 h3 => absurd ⟨n, h1, h2, h3⟩ e) (fun _ => ⟨fun z => absurd rfl z, fun _ => ⟨pk_us, fun _ => hk _ _ ?_, fun z => absurd z (by decide)⟩⟩)
    exact ⟨P, op, g, im, g2, T, pl, hG2, ⟨hRc, hRm.k0 k, hok.mono (by omega), hs5, hs6⟩, hT.k0 k, hP.k0 k, (hJ.k0 k).mono (by omega)⟩
theorem m_worth {P : FL} {s tc rg vc fl kd mi now wh bR wk tS bS sM : AR} (hF : FlatOK P) (hG : GRep P s tc rg vc fl kd mi) {a : Nat → Nat} {B n t : Nat} (ha : FRep P now a) (hok : FOK P B a) (hB : B + 4 < 2 ^ 30) (h1n : 1 ≤ n) (hn : n ≤ 4) (ht : t < P 0 2) {post : Int32 → AR → AR → AR → AR → AR → AR → Prop}
    (hA : nd P 0 n a ≤ 20000 → ∀ sM' wh' bR' wk' tS' bS', FrM (upd sM 2 0) sM' → post (tI (bst P 0 n a).1 - nI (hmN P a 1) - (tI (bst P (2 ^ t) n a).1 - nI (hmN P a 1))) sM' wh' bR' wk' tS' bS') (hS : 20000 < nd P 0 n a → ∀ sM' wh' bR' wk' tS' bS', FrM (upd sM 2 0) sM' → post (-2) sM' wh' bR' wk' tS' bS') : wpX11_worth sM s tc rg vc kd now fl mi wh bR wk tS bS (nI t) (nI n) post := by
  have f5 := hF.1.2.2.2.2.1
  have hpt : 2 ^ t < 2 ^ 31 := Nat.pow_lt_pow_right (by omega) (by omega)
  unfold wpX11_worth
  refine m_isTower hF hG.1 (fun _ _ _ => ⟨fun _ => m_len (fun _ _ _ _ => ⟨fun _ => ?_, fun z => absurd z (by decide)⟩) (fun z => absurd ⟨n, h1n, hn, rfl⟩ z), fun z => absurd z (by decide)⟩) (fun z => absurd ⟨t, ht, rfl⟩ z)
  rw [show jshl (1 : Int32) (nI t) = nI (2 ^ t) from n_shl (by omega)]
  refine m_bestOf hF hG (bu := 0) ha hok hB hn (by omega) (fun h sM1 wh1 bR1 wk1 tS1 bS1 p1 p2 => ?_) (fun h sM1 wh1 bR1 wk1 tS1 bS1 p2 => ?_)
  · have hmo := nd_mono (P := P) (2 ^ t) n a
    refine m_bestOf hF hG (bu := 2 ^ t) ha hok hB hn hpt (fun h' sM2 wh2 bR2 wk2 tS2 bS2 q1 q2 => ?_) (fun h' => by omega)
    obtain ⟨k, hk4, hne, hk⟩ := bst_in hF 0 n a p1.2.1
    obtain ⟨k', hk4', hne', hk'⟩ := bst_in hF (2 ^ t) n a q1.2.1
    exact ⟨fun z => absurd (hk.symm.trans z) (nI_nem2 (by omega)), fun _ => ⟨fun _ => hA h _ _ _ _ _ _ (p2.trans q2), fun z => absurd (hk'.symm.trans z) (nI_nem2 (by omega))⟩⟩
  · refine m_bestOf hF hG (bu := 2 ^ t) ha hok hB hn hpt (fun h' sM2 wh2 bR2 wk2 tS2 bS2 q1 q2 => ⟨fun _ => hS h _ _ _ _ _ _ (p2.trans q2), fun z => absurd rfl z⟩) (fun h' sM2 wh2 bR2 wk2 tS2 bS2 q2 => ⟨fun _ => hS h _ _ _ _ _ _ (p2.trans q2), fun z => absurd rfl z⟩)
/-- worth -/
theorem law20 {xs : Nat → Int32} {L B : Nat} {cs ms : ST} {ov l4 : Int32} (hI : INV B cs ms) (hv : HV l4 L) {kb : ST → ST → Prop} (hB : B + 1000 < 2 ^ 29) (hk : ∀ cs' ms', INV (B + 200) cs' ms' → kb cs' ms') : wpC20 xs L cs ms ov l4 kb := by
  have hI2 := hI
  obtain ⟨P, op, g, im, g2, T, pl, hG, hR, hT, hP, hJ⟩ := hI
  have hCG := hG.cg
  have hG2 := hG
  obtain ⟨hF, hGc, hE, hW, hGm⟩ := hG
  have hR2 := hR
  obtain ⟨hRc, hRm, hok, hs5, hs6⟩ := hR
  have fc := hF.cells
  have f5 := hF.1.2.2.2.2.1
  have f6 := hF.1.2.2.2.2.2.1
  have hFr := hRc.1.now
  have hNr := hRm.1.2.2.1
  unfold wpC20 wpL_worth wpX10_worth
  refine ⟨hv.h1, hv.h2, ?_⟩
  generalize xs (l4 + (1 : Int32)).toNatClampNeg = x
  generalize xs (l4 + (2 : Int32)).toNatClampNeg = y
  have inv : ∀ (c9 c49 c50 c51 c53 c54 c55 c56 c57 c58 c59 c60 w0 w1 w2 w3 w4 w5 : AR), K0 (ms 0) w0 → INV (B + 200) (sct (sct (sct (sct (sct (sct (sct (sct (sct (sct (sct (sct cs 9 c9) 49 c49) 50 c50) 51 c51) 53 c53) 54 c54) 55 c55) 56 c56) 57 c57) 58 c58) 59 c59) 60 c60) (sct (sct (sct (sct (sct (sct ms 0 w0) 12 w1) 18 w2) 19 w3) 20 w4) 21 w5) := fun c9 c49 c50 c51 c53 c54 c55 c56 c57 c58 c59 c60 w0 w1 w2 w3 w4 w5 k => ⟨P, op, g, im, g2, T, pl, hG2, ⟨hRc, hRm.k0 k, hok.mono (by omega), hs5, hs6⟩, hT.k0 k, hP.k0 k, (hJ.k0 k).mono (by omega)⟩
  have kth : ∀ v : Int32, K0 (ms 0) (upd (upd (ms 0) 2 0) 2 v) := fun v => K0.c.trans K0.c
  refine c_needTower hF hGc.1 (fun t ht et => ?_) (fun et => Or.inl ⟨rfl, hv.h1, hv.h2, ?_⟩)
  · subst et
    refine c_needLen (fun n h1n hn e => ?_) (fun e => Or.inr ⟨rfl, hv.h1, hv.h2, ?_⟩)
    · subst e
      refine c_isSpent hF hGc.1 hFr hok.now hn (fun hsp => ⟨fun z => absurd z (by decide), fun _ => ⟨hv.h1, hv.h2, ?_⟩⟩) (fun hsp => ⟨fun _ => ?_, fun z => absurd rfl z⟩)
      · refine m_worth hF hGm hNr hok.now (by omega) h1n hn ht (fun h => by omega) (fun _ sM' wh' bR' wk' tS' bS' p1 => ?_)
        have e2 : sM' 2 = 0 := by rw [p1 2 (by omega) (by omega) (by omega) (by omega) (by omega) (by omega), pk_us]
        exact ⟨e2, fun z => absurd rfl z, fun _ => ⟨rfl, hk _ _ (inv _ _ _ _ _ _ _ _ _ _ _ _ _ _ _ _ _ _ (K0.c.trans p1.k0))⟩⟩
      · have mo : ∀ (c9 c49 c50 c51 c53 c54 c55 c56 c57 c58 c59 c60 : AR), vp_in (l4 + (1 : Int32)) L ∧ vp_in (l4 + (2 : Int32)) L ∧ wpX11_worth (ms 0) (ms 1) (ms 2) (ms 3) (ms 4) (ms 5) (ms 6) (ms 9) (ms 10) (ms 12) (ms 18) (ms 19) (ms 20) (ms 21) (nI t) (nI n) (fun r2 w2_0 w2_1 w2_2 w2_3 w2_4 w2_5 => wpX11_thrown w2_0 (fun r3 => r3 = (0 : Int32) ∧ ((¬ (0 : Int32) = 0 → kb (sct (sct (sct (sct (sct (sct (sct (sct (sct (sct (sct (sct cs 9 c9) 49 c49) 50 c50) 51 c51) 53 c53) 54 c54) 55 c55) 56 c56) 57 c57) 58 c58) 59 c59) 60 c60) (sct (sct (sct (sct (sct (sct ms 0 w2_0) 12 w2_1) 18 w2_2) 19 w2_3) 20 w2_4) 21 w2_5)) ∧ ((0 : Int32) = 0 → (tI (bst P 0 n (cur g)).1 - nI (hmN P (cur g) 1) - (tI (bst P (2 ^ t) n (cur g)).1 - nI (hmN P (cur g) 1))) = r2 ∧ kb (sct (sct (sct (sct (sct (sct (sct (sct (sct (sct (sct (sct cs 9 c9) 49 c49) 50 c50) 51 c51) 53 c53) 54 c54) 55 c55) 56 c56) 57 c57) 58 c58) 59 c59) 60 c60) (sct (sct (sct (sct (sct (sct ms 0 w2_0) 12 w2_1) 18 w2_2) 19 w2_3) 20 w2_4) 21 w2_5))))) := by
          intro c9 c49 c50 c51 c53 c54 c55 c56 c57 c58 c59 c60
          refine ⟨hv.h1, hv.h2, ?_⟩
          refine m_worth hF hGm hNr hok.now (by omega) h1n hn ht (fun _ sM' wh' bR' wk' tS' bS' p1 => ?_) (fun h => by omega)
          have e2 : sM' 2 = 0 := by rw [p1 2 (by omega) (by omega) (by omega) (by omega) (by omega) (by omega), pk_us]
          exact ⟨e2, fun z => absurd rfl z, fun _ => ⟨rfl, hk _ _ (inv _ _ _ _ _ _ _ _ _ _ _ _ _ _ _ _ _ _ (K0.c.trans p1.k0))⟩⟩
        rcases (show n = 1 ∨ n = 2 ∨ n = 3 ∨ n = 4 by omega) with rfl | rfl | rfl | rfl
        · exact ⟨Or.inl rfl, fun _ => c_mm1 hCG hFr hok.now (by omega) (bu := 0) (Or.inl ⟨rfl, rfl⟩) (fun sN1 row1 fd1 A01 B11 S11 q1 => c_mm1 hCG hFr hok.now (by omega) (bu := 2 ^ t) (Or.inr ⟨t, ht, rfl, rfl⟩) (fun sN2 row2 fd2 A02 B12 S12 q2 => mo _ _ _ _ _ _ _ _ _ _ _ _)), fun z => absurd z (by decide), fun z => absurd z (by decide), fun z => absurd z (by decide)⟩
        · exact ⟨Or.inr (Or.inl rfl), fun z => absurd z (by decide), fun _ => c_mm2 hCG hFr hok.now (by omega) (bu := 0) (Or.inl ⟨rfl, rfl⟩) (fun sN1 row1 fd1 A01 B11 S11 B21 S21 q1 => c_mm2 hCG hFr hok.now (by omega) (bu := 2 ^ t) (Or.inr ⟨t, ht, rfl, rfl⟩) (fun sN2 row2 fd2 A02 B12 S12 B22 S22 q2 => mo _ _ _ _ _ _ _ _ _ _ _ _)), fun z => absurd z (by decide), fun z => absurd z (by decide)⟩
        · exact ⟨Or.inr (Or.inr (Or.inl rfl)), fun z => absurd z (by decide), fun z => absurd z (by decide), fun _ => c_mm3 hCG hFr hok.now (by omega) (bu := 0) (Or.inl ⟨rfl, rfl⟩) (fun sN1 row1 fd1 A01 B11 S11 B21 S21 B31 S31 q1 => c_mm3 hCG hFr hok.now (by omega) (bu := 2 ^ t) (Or.inr ⟨t, ht, rfl, rfl⟩) (fun sN2 row2 fd2 A02 B12 S12 B22 S22 B32 S32 q2 => mo _ _ _ _ _ _ _ _ _ _ _ _)), fun z => absurd z (by decide)⟩
        · exact ⟨Or.inr (Or.inr (Or.inr rfl)), fun z => absurd z (by decide), fun z => absurd z (by decide), fun z => absurd z (by decide), fun _ => c_mm4 hCG hFr hok.now (by omega) (bu := 0) (Or.inl ⟨rfl, rfl⟩) (fun sN1 row1 fd1 A01 B11 S11 B21 S21 B31 S31 B41 S41 q1 => c_mm4 hCG hFr hok.now (by omega) (bu := 2 ^ t) (Or.inr ⟨t, ht, rfl, rfl⟩) (fun sN2 row2 fd2 A02 B12 S12 B22 S22 B32 S32 B42 S42 q2 => mo _ _ _ _ _ _ _ _ _ _ _ _))⟩
    · unfold wpX11_worth wpX11_fail
      refine m_isTower hF hGm.1 (fun _ _ _ => ⟨fun _ => m_len (fun n h1 h2 h3 => absurd ⟨n, h1, h2, h3⟩ e) (fun _ => ⟨fun z => absurd rfl z, fun _ => ⟨pk_us, fun _ => hk _ _ (inv _ _ _ _ _ _ _ _ _ _ _ _ _ _ _ _ _ _ (kth 2)), fun z => absurd z (by decide)⟩⟩), fun z => absurd z (by decide)⟩) (fun z => absurd ⟨t, ht, rfl⟩ z)
  · unfold wpX11_worth wpX11_fail
    exact m_isTower hF hGm.1 (fun c h1 h2 => absurd ⟨c, h1, h2⟩ et) (fun _ => ⟨fun z => absurd rfl z, fun _ => ⟨pk_us, fun _ => hk _ _ (inv _ _ _ _ _ _ _ _ _ _ _ _ _ _ _ _ _ _ (kth 1)), fun z => absurd z (by decide)⟩⟩)
