theorem m_readCell {tx : Nat → Nat} {N p : Nat} {t s td : AR} (ht : TxM tx N t) (hp : p ≤ N) (hR : RdM tx N p s) (h21 : s 21 = 0) {W H : Nat} (hW : W ≤ 10) (hH : H ≤ 10) (g0 : td 7 = nI W) (g1 : td 8 = nI H) {post : Int32 → AR → Prop} (h0 : ∀ c, aCell tx N p W H = .inr c → ∀ s', RdM tx N (tE tx N (tE tx N p)) s' → s' 21 = 0 → FrS s s' → post (nI c) s') (h1 : ∀ k b, aCell tx N p W H = .inl (k, b) → ∀ s' v, BdM s k b s' → post v s') : wpX11_readCell s td t post := by
  unfold wpX11_readCell
  rw [g0, g1]
  refine m_num ht hp hR h21 (lo := 0) (hi := W) (by omega) (by omega) rfl rfl (fun x ex s1 r1 r2 r3 => ?_) (fun k b ex s1 r1 => ?_)
  · refine m_num ht (tE_le hp) r1 r2 (lo := 0) (hi := H) (by omega) (by omega) rfl rfl (fun y ey s2 q1 q2 q3 => ?_) (fun k b ey s2 q1 => ?_)
    · rw [pk_mul, nI_add]
      exact h0 _ (by unfold aCell; rw [ex]; show bnd (aNum tx N (tE tx N p) 0 H) _ = _; rw [ey]; rfl) s2 q1 q2 (r3.trans q3)
    · exact h1 k b (by unfold aCell; rw [ex]; show bnd (aNum tx N (tE tx N p) 0 H) _ = _; rw [ey]; rfl) _ _ (q1.pre r3)
  · exact m_readBad r1.bad (h1 k b (by unfold aCell; rw [ex]; rfl) _ _ r1)
/-- the cell of a tower or a mirage: the last number isn't passed -/
theorem m_cellNow {tx : Nat → Nat} {N p : Nat} {t s td : AR} (ht : TxM tx N t) (hp : p ≤ N) (hR : RdM tx N p s) (h21 : s 21 = 0) {W H : Nat} (hW : W ≤ 10) (hH : H ≤ 10) (g0 : td 7 = nI W) (g1 : td 8 = nI H) {post : Int32 → AR → Prop} (h0 : ∀ c, aCell tx N p W H = .inr c → ∀ s', RdM tx N (tE tx N p) s' → s' 21 = 0 → FrS s s' → post (nI c) s') (h1 : ∀ k b, aCell tx N p W H = .inl (k, b) → ∀ s' v, BdM s k b s' → post v s') : wpX11_readNumber s t (0 : Int32) ((td 7) - (1 : Int32)) (fun r49 sM_49 => wpX11_numberNow sM_49 (0 : Int32) ((td 8) - (1 : Int32)) (fun r71 sM_71 => ∀ l3_77 : Int32, l3_77 = (((td 7) * r71) + r49) → post l3_77 sM_71)) := by
  rw [g0, g1]
  refine m_num ht hp hR h21 (lo := 0) (hi := W) (by omega) (by omega) rfl rfl (fun x ex s1 r1 r2 r3 => ?_) (fun k b ex s1 r1 => ?_)
  · refine m_now2 (tE_le hp) ht.1 r1 r2 (lo := 0) (hi := H) (by omega) (by omega) rfl rfl (fun y ey => ?_) (fun k b ey s2 q1 => ?_)
    · rw [pk_mul, nI_add]
      exact nm_e (h0 _ (by unfold aCell; rw [ex]; show bnd (aNum tx N (tE tx N p) 0 H) _ = _; rw [ey]; rfl) s1 r1 r2 r3)
    · exact nm_e (h1 k b (by unfold aCell; rw [ex]; show bnd (aNum tx N (tE tx N p) 0 H) _ = _; rw [ey]; rfl) _ _ (q1.pre r3))
  · exact m_nowBad r1.bad (nm_e (h1 k b (by unfold aCell; rw [ex]; rfl) _ _ r1))
theorem m_readMirage {tx : Nat → Nat} {N p : Nat} {t s td mi : AR} (ht : TxM tx N t) (hp : p ≤ N) (hR : RdM tx N (tE tx N p) s) (h21 : s 21 = 0) {D : FL} (hF : FlatOK D) (g0 : td 7 = nI (D 0 0)) (g1 : td 8 = nI (D 0 1)) (hm : ∀ c, c < 100 → mi (100 + c) = nI (D 6 c)) {post : AR → AR → Prop} (h1 : ∀ c, aMirage tx N p D = .inr (tE tx N (tE tx N (tE tx N p)), dU D 6 c 1) → ∀ s', RdM tx N (tE tx N (tE tx N (tE tx N p))) s' → s' 21 = 0 → FrS s s' → post s' (upd mi (100 + c) (1 : Int32))) (h0 : ∀ k b, aMirage tx N p D = .inl (k, b) → ∀ s', BdM s k b s' → post s' mi) : wpX11_readMirage s td mi t post := by
  have fc := hF.cells
  unfold wpX11_readMirage
  refine m_cellNow ht (tE_le hp) hR h21 hF.1.2.1 hF.1.2.2.2.1 g0 g1 (fun c ec s1 r1 r2 r3 => ?_) (fun k b ec s1 v r1 => ?_)
  · have hc := aCell_ok ec
    have hm6 := hF.2.2.2 c
    rw [show (100 : Int32) + nI c = nI (100 + c) from nI_add 100 c, nI_clamp (by omega), hm c (by omega)]
    refine ⟨fun z => absurd r2 z, fun _ => ⟨vp_in_nI (by omega) (by omega), fun e => ?_, fun e => ?_⟩⟩
    · have e : D 6 c = 0 := (nI_eq (b := 0) (by omega) (by omega)).mp e
      unfold wpX11_readMirage_J64
      rw [show (100 : Int32) + nI c = nI (100 + c) from nI_add 100 c, nI_clamp (by omega)]
      refine ⟨fun _ => ⟨vp_in_nI (by omega) (by omega), nm_e (m_step2 ht (tE_le (tE_le hp)) r1 r2 (fun s2 q1 q2 q3 => h1 c ?_ s2 q1 q2 (r3.trans q3)))⟩, fun z => absurd r2 z⟩
      unfold aMirage
      rw [ec]
      show (if D 6 c = 0 then _ else _) = _
      rw [if_pos e]
    · have e : D 6 c ≠ 0 := fun z => e (by rw [z]; rfl)
      refine m_wrong r1 r2 (k := 4) rfl ?_
      unfold wpX11_readMirage_J64
      refine ⟨fun z => absurd z (mF21 (by omega) (by omega)), fun _ => h0 4 (tB tx N (tE tx N (tE tx N p))) ?_ _ ((BdM.mF (by omega)).pre r3)⟩
      unfold aMirage
      rw [ec]
      show (if D 6 c = 0 then _ else _) = _
      rw [if_neg e]
  · unfold wpX11_readMirage_J64
    exact ⟨fun _ => ⟨fun z => absurd z r1.bad, fun _ => h0 k b (by unfold aMirage; rw [ec]; rfl) _ r1⟩, fun z => absurd z r1.bad⟩
theorem m_readWalker {tx : Nat → Nat} {N p kk : Nat} {t s td kd rd : AR} (ht : TxM tx N t) (hp : p ≤ N) (hR : RdM tx N p s) (h21 : s 21 = 0) {D : FL} (hF : FlatOK D) (g0 : td 7 = nI (D 0 0)) (g1 : td 8 = nI (D 0 1)) (g3 : td 10 = nI (D 0 3)) {post : AR → AR → AR → AR → Prop} (h1 : ∀ c w, aWalker tx N p D kk = .inr (tE tx N (tE tx N (tE tx N (tE tx N p))), dWk D kk c w) → ¬ 4 ≤ D 0 3 → ∀ s', RdM tx N (tE tx N (tE tx N (tE tx N (tE tx N p)))) s' → s' 21 = 0 → FrS s s' → post s' (upd td 10 (nI (D 0 3 + 1))) (upd kd (4 + D 0 3) (nI kk)) (rdW rd (D 0 3) c w)) (h0 : ∀ k b, aWalker tx N p D kk = .inl (k, b) → ∀ s' td' kd' rd', BdM s k b s' → Lo 7 td td' → Lo 4 kd kd' → post s' td' kd' rd') : wpX11_readWalker s td kd rd t (nI kk) post := by
  have fc := hF.cells
  have f6 := hF.1.2.2.2.2.2.1
  unfold wpX11_readWalker wpX11_readWalker_J16
  rw [g3, show (nI (D 0 3) = (4 : Int32)) = (D 0 3 = 4) from propext (nI_eq (b := 4) (by omega) (by omega))]
  refine ⟨fun e => ⟨fun _ => ?_, fun z => absurd h21 z⟩, fun e => m_wrong hR h21 (k := 2) rfl ⟨fun z => absurd z (mF21 (by omega) (by omega)), fun _ => h0 2 _ (by unfold aWalker; rw [if_pos (by omega)]) _ _ _ _ (BdM.mF (by omega)) Lo.rf Lo.rf⟩⟩
  have e1 : ¬ 4 ≤ D 0 3 := by omega
  refine m_step2 ht hp hR h21 (fun s1 r1 r2 r3 => nm_e ?_)
  rw [show (4 : Int32) + nI (D 0 3) = nI (4 + D 0 3) from nI_add 4 _, show (6 : Int32) * nI (D 0 3) = nI (6 * D 0 3) from pk_mul 6 _]
  rw [show nI (6 * D 0 3) + (0 : Int32) = nI (6 * D 0 3) from nI_add _ 0, show nI (6 * D 0 3) + (1 : Int32) = nI (6 * D 0 3 + 1) from nI_add _ 1, show nI (6 * D 0 3) + (2 : Int32) = nI (6 * D 0 3 + 2) from nI_add _ 2, show nI (6 * D 0 3) + (3 : Int32) = nI (6 * D 0 3 + 3) from nI_add _ 3, show nI (6 * D 0 3) + (4 : Int32) = nI (6 * D 0 3 + 4) from nI_add _ 4, show nI (6 * D 0 3) + (5 : Int32) = nI (6 * D 0 3 + 5) from nI_add _ 5]
  rw [nI_clamp (n := 4 + D 0 3) (by omega), nI_clamp (n := 6 * D 0 3) (by omega), nI_clamp (n := 6 * D 0 3 + 1) (by omega), nI_clamp (n := 6 * D 0 3 + 2) (by omega), nI_clamp (n := 6 * D 0 3 + 3) (by omega), nI_clamp (n := 6 * D 0 3 + 4) (by omega), nI_clamp (n := 6 * D 0 3 + 5) (by omega), show nI (D 0 3) + (1 : Int32) = nI (D 0 3 + 1) from nI_1 _]
  have v0 : vp_in (nI (6 * D 0 3)) 29 := vp_in_nI (by omega) (by omega)
  have v1 : vp_in (nI (6 * D 0 3 + 1)) 29 := vp_in_nI (by omega) (by omega)
  have v2 : vp_in (nI (6 * D 0 3 + 2)) 29 := vp_in_nI (by omega) (by omega)
  have v3 : vp_in (nI (6 * D 0 3 + 3)) 29 := vp_in_nI (by omega) (by omega)
  have v4 : vp_in (nI (6 * D 0 3 + 4)) 29 := vp_in_nI (by omega) (by omega)
  have v5 : vp_in (nI (6 * D 0 3 + 5)) 29 := vp_in_nI (by omega) (by omega)
  have lt : Lo 7 td (upd td 10 (nI (D 0 3 + 1))) := Lo.rf.up (by omega)
  have lk : Lo 4 kd (upd kd (4 + D 0 3) (nI kk)) := Lo.rf.up (by omega)
  refine ⟨vp_in_nI (by omega) (by omega), nm_e ?_⟩
  refine m_readCell ht (tE_le hp) r1 r2 hF.1.2.1 hF.1.2.2.2.1 g0 g1 (fun c ec s2 q1 q2 q3 => ⟨v0, nm_e ?_⟩) (fun k b ec s2 v q1 => ⟨v0, nm_e ?_⟩)
  · refine m_num ht (tE_le (tE_le (tE_le hp))) q1 q2 (lo := 0) (hi := 100) (by omega) (by omega) rfl rfl (fun n en s3 u1 u2 u3 => ?_) (fun k b en s3 u1 => ?_)
    · refine ⟨v1, nm_e ⟨v2, nm_e ⟨v3, nm_e ⟨v4, nm_e ⟨v5, nm_e (nm_e (h1 c n ?_ e1 s3 u1 u2 (r3.trans (q3.trans u3))))⟩⟩⟩⟩⟩
      unfold aWalker
      rw [if_neg e1, ec]
      show bnd (aNum tx N (tE tx N (tE tx N (tE tx N p))) 0 100) _ = _
      rw [en]
      rfl
    · refine ⟨v1, nm_e ⟨v2, nm_e ⟨v3, nm_e ⟨v4, nm_e ⟨v5, nm_e (nm_e (h0 k b ?_ s3 _ _ _ (u1.pre (r3.trans q3)) lt lk))⟩⟩⟩⟩⟩
      unfold aWalker
      rw [if_neg e1, ec]
      show bnd (aNum tx N (tE tx N (tE tx N (tE tx N p))) 0 100) _ = _
      rw [en]
      rfl
  · refine m_readBad q1.bad ⟨v1, nm_e ⟨v2, nm_e ⟨v3, nm_e ⟨v4, nm_e ⟨v5, nm_e (nm_e (h0 k b ?_ s2 _ _ _ (q1.pre r3) lt lk))⟩⟩⟩⟩⟩
    unfold aWalker
    rw [if_neg e1, ec]
    rfl
theorem m_readTower {tx : Nat → Nat} {N p : Nat} {t s td pl rg vc rd fl : AR} (ht : TxM tx N t) (hp : p ≤ N) (hR : RdM tx N p s) (h21 : s 21 = 0) {D : FL} (hF : FlatOK D) (g0 : td 7 = nI (D 0 0)) (g1 : td 8 = nI (D 0 1)) (g2 : td 9 = nI (D 0 2)) (htc : ∀ t, t < D 0 2 → pl (5 + t) = nI (D 1 t)) {post : AR → AR → AR → AR → AR → AR → AR → Prop} (h1 : ∀ p' c r v q f, aTower tx N p D = .inr (p', dTw D c r v q f) → ∀ s', RdM tx N p' s' → s' 21 = 0 → FrS s s' → post s' (upd td 9 (nI (D 0 2 + 1))) (upd pl (5 + D 0 2) (nI c)) (upd rg (5 + D 0 2) (nI r)) (upd vc (5 + D 0 2) (nI v)) (upd rd (24 + D 0 2) (nI q)) (upd fl (5 + D 0 2) (nI f))) (h0 : ∀ k b, aTower tx N p D = .inl (k, b) → ∀ s' td' pl' rg' vc' rd' fl', BdM s k b s' → Lo 7 td td' → Lo 5 pl pl' → Lo 5 rg rg' → Lo 5 vc vc' → Lo 5 fl fl' → post s' td' pl' rg' vc' rd' fl') : wpX11_readTower s td pl rg vc rd fl t post := by
  have fc := hF.cells
  have f5 := hF.1.2.2.2.2.1
  have w3 : ∀ q, wdB tx N q 45 = wdB tx N q 3 := fun q => wd_sk (by decide)
  have w4 : ∀ q, wdB tx N q 46 = wdB tx N q 4 := fun q => wd_sk (by decide)
  unfold wpX11_readTower wpX11_readTower_J16
  rw [g2, show (nI (D 0 2) = (5 : Int32)) = (D 0 2 = 5) from propext (nI_eq (b := 5) (by omega) (by omega))]
  refine ⟨fun e => ⟨fun _ => ?_, fun z => absurd h21 z⟩, fun e => m_wrong hR h21 (k := 2) rfl ⟨fun z => absurd z (mF21 (by omega) (by omega)), fun _ => h0 2 _ (by unfold aTower; rw [if_pos (by omega)]) _ _ _ _ _ _ _ (BdM.mF (by omega)) Lo.rf Lo.rf Lo.rf Lo.rf Lo.rf⟩⟩
  have e1 : ¬ 5 ≤ D 0 2 := by omega
  refine m_step2 ht hp hR h21 (fun s1 r1 r2 r3 => ?_)
  rw [show (5 : Int32) + nI (D 0 2) = nI (5 + D 0 2) from nI_add 5 _]
  refine nm_e ?_
  have v5 : vp_in (nI (5 + D 0 2)) 10 := vp_in_nI (by omega) (by omega)
  -- the bad ends
  have b195 : ∀ k b, aTower tx N p D = .inl (k, b) → ∀ s1, BdM s k b s1 → ∀ pl' rg' vc', Lo 5 pl pl' → Lo 5 rg rg' → Lo 5 vc vc' → ∀ t2, wpX11_readTower_J195 s1 td pl' rg' vc' rd fl t (nI (5 + D 0 2)) ((24 : Int32) + td 9) t2 post := by
    intro k b er s1 hb pl' rg' vc' l1 l2 l3 t2
    unfold wpX11_readTower_J195
    rw [g2, show (24 : Int32) + nI (D 0 2) = nI (24 + D 0 2) from nI_add 24 _, nI_clamp (n := 5 + D 0 2) (by omega)]
    exact ⟨vp_in_nI (by omega) (by omega), nm_e (m_passBad hb.bad ⟨v5, nm_e (nm_e (h0 k b er s1 _ _ _ _ _ _ hb (Lo.rf.up (by omega)) l1 l2 l3 (Lo.rf.up (by omega))))⟩)⟩
  have b116 : ∀ k b, aTower tx N p D = .inl (k, b) → ∀ s1, BdM s k b s1 → ∀ l3, wpX11_readTower_J116 s1 td pl rg vc rd fl t (nI (5 + D 0 2)) l3 post := by
    intro k b er s1 hb l3
    unfold wpX11_readTower_J116
    exact ⟨fun z => absurd z hb.bad, fun _ => h0 k b er _ _ _ _ _ _ _ hb Lo.rf Lo.rf Lo.rf Lo.rf Lo.rf⟩
  refine m_cellNow ht (tE_le hp) r1 r2 hF.1.2.1 hF.1.2.2.2.1 g0 g1 (fun c ec s2 q1 q2 q3 => ?_) (fun k b ec s2 v q1 => ?_)
  · have hc := aCell_ok ec
    have eh1 : hasT D c = true → aTower tx N p D = .inl (4, tB tx N (tE tx N (tE tx N p))) := by
      intro eh
      unfold aTower
      rw [if_neg e1, ec]
      show (if hasT D c = true then _ else _) = _
      rw [if_pos eh]
    refine loop_0 (fun n i (q : AR) => wpX11_readTower_L81 td pl rg vc rd fl t (nI (5 + D 0 2)) (nI c) _ post n q (nI (5 + i))) (fun i q => (q = s2 ∧ ∀ j, j < i → D 1 j ≠ c) ∨ (hasT D c = true ∧ BdM s 4 (tB tx N (tE tx N (tE tx N p))) q)) (D 0 2) s2 (Or.inl ⟨rfl, fun j hj => absurd hj (Nat.not_lt_zero _)⟩) ?_ ?_
    · intro n q hq
      show wpX11_readTower_L81 td pl rg vc rd fl t (nI (5 + D 0 2)) (nI c) _ post (n + 1) q (nI (5 + D 0 2))
      unfold wpX11_readTower_L81
      refine ⟨fun _ => ?_, fun z => absurd (nI_le (Nat.le_refl _) (by omega)) z⟩
      rcases hq with ⟨rfl, hno⟩ | ⟨eh, hb⟩
      · have eh : ¬ hasT D c = true := by
          unfold hasT
          simp only [decide_eq_true_eq]
          rintro ⟨j, j1, j2⟩
          exact hno j j1 j2
        have l3 := tE_le (tx := tx) (tE_le (tx := tx) (tE_le (tx := tx) hp))
        unfold wpX11_readTower_J116
        rw [nI_clamp (n := 5 + D 0 2) (by omega)]
        refine ⟨fun _ => m_step2 ht (tE_le (tE_le hp)) q1 q2 (fun s3 a1 a2 a3 => ⟨v5, nm_e ?_⟩), fun z => absurd q2 z⟩
        have lp : Lo 5 pl (upd pl (5 + D 0 2) (nI c)) := Lo.rf.up (by omega)
        have lr : ∀ v, Lo 5 rg (upd rg (5 + D 0 2) v) := fun v => Lo.rf.up (by omega)
        have lv : ∀ v, Lo 5 vc (upd vc (5 + D 0 2) v) := fun v => Lo.rf.up (by omega)
        have f3 := r3.trans (q3.trans a3)
        refine m_num ht l3 a1 a2 (lo := 1) (hi := 21) (by omega) (by omega) rfl rfl (fun r er s4 u1 u2 u3 => ⟨v5, nm_e ?_⟩) (fun k b er s4 u1 => ⟨v5, nm_e ?_⟩)
        · refine m_num ht (tE_le l3) u1 u2 (lo := 0) (hi := 4) (by omega) (by omega) rfl rfl (fun v ev s5 x1 x2 x3 => ⟨v5, nm_e ?_⟩) (fun k b ev s5 x1 => ⟨v5, nm_e ?_⟩)
          · have f5 := f3.trans (u3.trans x3)
            have res : ∀ q (b : Nat) (pp : Nat), aStk tx N (tE tx N (tE tx N (tE tx N (tE tx N (tE tx N p))))) = .inr q → b = (if wdB tx N q.1 4 = true then 1 else 0) → pp = (if wdB tx N q.1 4 = true then tE tx N q.1 else q.1) → aTower tx N p D = .inr (pp, dTw D c r v q.2 b) := by
              intro q b pp eq hb' hpp
              unfold aTower
              rw [if_neg e1, ec]
              show (if hasT D c = true then _ else _) = _
              rw [if_neg eh, er]
              show bnd (aNum tx N (tE tx N (tE tx N (tE tx N (tE tx N p)))) 0 4) _ = _
              rw [ev]
              show bnd (aStk tx N (tE tx N (tE tx N (tE tx N (tE tx N (tE tx N p)))))) _ = _
              rw [eq, hb', hpp]
              rfl
            have fin : ∀ q, aStk tx N (tE tx N (tE tx N (tE tx N (tE tx N (tE tx N p))))) = .inr q → ∀ s6, RdM tx N q.1 s6 → s6 21 = 0 → FrS s s6 → wpX11_readTower_J195 s6 td (upd pl (5 + D 0 2) (nI c)) (upd rg (5 + D 0 2) (nI r)) (upd vc (5 + D 0 2) (nI v)) rd fl t (nI (5 + D 0 2)) ((24 : Int32) + td 9) (nI q.2) post := by
              intro q eq s6 y1 y2 y3
              have aq := aStk_ok (tE_le (tE_le l3)) eq
              unfold wpX11_readTower_J195
              rw [g2, show (24 : Int32) + nI (D 0 2) = nI (24 + D 0 2) from nI_add 24 _, nI_clamp (n := 5 + D 0 2) (by omega), nI_clamp (n := 24 + D 0 2) (by omega), show nI (D 0 2) + (1 : Int32) = nI (D 0 2 + 1) from nI_1 _]
              refine ⟨vp_in_nI (by omega) (by omega), nm_e (m_passes ht aq.2.1 y1 y2 (by omega) (fun ew s7 z1 z2 z3 => ⟨v5, nm_e (nm_e (h1 _ c r v q.2 1 (res q 1 _ eq ?_ rfl) s7 ?_ z2 (y3.trans z3)))⟩) (fun ew => ⟨v5, nm_e (nm_e (h1 _ c r v q.2 0 (res q 0 _ eq ?_ rfl) s6 ?_ y2 y3))⟩))⟩
              · rw [w4] at ew; rw [if_pos ew]
              · rw [w4] at ew; rw [if_pos ew]; exact z1
              · rw [w4] at ew; rw [ew]; rfl
              · rw [w4] at ew; rw [ew]; exact y1
            refine m_passes ht (tE_le (tE_le l3)) x1 x2 (by omega) (fun ew s6 y1 y2 y3 => ⟨fun z => absurd z (by decide), fun _ => ?_⟩) (fun ew => ⟨fun _ => ?_, fun z => absurd rfl z⟩)
            · rw [w3] at ew
              refine m_num ht (tE_le (tE_le (tE_le l3))) y1 y2 (lo := 1) (hi := 100) (by omega) (by omega) rfl rfl (fun n en s7 z1 z2 z3 => ?_) (fun k b en s7 z1 => ?_)
              · exact fin (_, n) (by unfold aStk; rw [if_pos ew, en]; rfl) s7 z1 z2 (f5.trans (y3.trans z3))
              · refine b195 k b ?_ s7 (z1.pre (f5.trans y3)) _ _ _ lp (lr _) (lv _) _
                unfold aTower
                rw [if_neg e1, ec]
                show (if hasT D c = true then _ else _) = _
                rw [if_neg eh, er]
                show bnd (aNum tx N (tE tx N (tE tx N (tE tx N (tE tx N p)))) 0 4) _ = _
                rw [ev]
                show bnd (aStk tx N (tE tx N (tE tx N (tE tx N (tE tx N (tE tx N p)))))) _ = _
                unfold aStk
                rw [if_pos ew, en]
                rfl
            · rw [w3] at ew
              exact fin (_, 99) (by unfold aStk; rw [ew]; rfl) s5 x1 x2 f5
          · refine m_passBad x1.bad ⟨fun _ => b195 k b ?_ s5 (x1.pre (f3.trans u3)) _ _ _ lp (lr _) (lv _) _, fun z => absurd rfl z⟩
            unfold aTower
            rw [if_neg e1, ec]
            show (if hasT D c = true then _ else _) = _
            rw [if_neg eh, er]
            show bnd (aNum tx N (tE tx N (tE tx N (tE tx N (tE tx N p)))) 0 4) _ = _
            rw [ev]
            rfl
        · refine m_readBad u1.bad ⟨v5, nm_e (m_passBad u1.bad ⟨fun _ => b195 k b ?_ s4 (u1.pre f3) _ _ _ lp (lr _) (lv _) _, fun z => absurd rfl z⟩)⟩
          unfold aTower
          rw [if_neg e1, ec]
          show (if hasT D c = true then _ else _) = _
          rw [if_neg eh, er]
          rfl
      · exact b116 _ _ (eh1 eh) _ hb _
    · intro n i q hi hq hnext
      show wpX11_readTower_L81 td pl rg vc rd fl t (nI (5 + D 0 2)) (nI c) _ post (n + 1) q (nI (5 + i))
      unfold wpX11_readTower_L81
      refine ⟨fun z => absurd z (nI_ge (by omega) (by omega)), fun _ => ⟨fun hb => ?_, fun hz => ?_⟩⟩
      · rcases hq with ⟨rfl, hno⟩ | ⟨eh, hb⟩
        · exact absurd q2 hb
        · exact b116 _ _ (eh1 eh) _ hb _
      · rcases hq with ⟨rfl, hno⟩ | ⟨eh, hb⟩
        · have := (hF.2.1 i hi).1
          rw [nI_clamp (by omega), htc i hi, nI_eq (by omega) (by omega)]
          refine ⟨vp_in_nI (by omega) (by omega), fun z => nm_r (nI_1 _) (hnext _ (Or.inl ⟨rfl, lt_s hno z⟩)), fun z => m_wrong q1 q2 (k := 4) rfl (nm_r (nI_1 _) (hnext _ (Or.inr ⟨?_, (BdM.mF (by omega)).pre (r3.trans q3)⟩)))⟩
          unfold hasT
          simp only [decide_eq_true_eq]
          exact ⟨i, hi, z⟩
        · exact absurd hz hb.bad
  · have er : aTower tx N p D = .inl (k, b) := by unfold aTower; rw [if_neg e1, ec]; rfl
    refine ⟨1, ?_⟩
    unfold wpX11_readTower_L81
    exact ⟨fun _ => b116 k b er s2 (q1.pre r3) _, fun _ => ⟨fun _ => b116 k b er s2 (q1.pre r3) _, fun z => absurd z q1.bad⟩⟩
theorem m_readWind {tx : Nat → Nat} {N p sn : Nat} {t s td : AR} (ht : TxM tx N t) (hp : p ≤ N) (hR : RdM tx N (tE tx N p) s) (h21 : s 21 = 0) {D : FL} (hsn : ¬ bt1 sn 1 = 1) {post : AR → AR → Prop} (h1 : ∀ d n, aWind tx N p D sn = .inr (tE tx N (tE tx N (tE tx N p)), dU (dU D 0 4 d) 0 5 n) → ∀ s', RdM tx N (tE tx N (tE tx N (tE tx N p))) s' → s' 21 = 0 → FrS s s' → post s' (upd (upd td 11 (nI d)) 12 (nI n))) (h0 : ∀ k b, aWind tx N p D sn = .inl (k, b) → ∀ s' td', BdM s k b s' → Lo 7 td td' → post s' td') : wpX11_readWind s td t post := by
  have hdl := dirB_le tx N (tE tx N p)
  unfold wpX11_readWind wpX11_readWind_J19 wpX11_readWind_J30
  refine m_winds ht (tE_le hp) hR h21 ?_
  rw [show (-1 : Int32) = -nI 1 from rfl, tI_none (by omega)]
  refine ⟨fun e => ⟨fun z => absurd h21 z, fun _ => ?_⟩, fun e => ?_⟩
  · refine m_step2 ht (tE_le hp) hR h21 (fun s1 r1 r2 r3 => nm_e ?_)
    refine m_num ht (tE_le (tE_le hp)) r1 r2 (lo := 0) (hi := 4) (by omega) (by omega) rfl rfl (fun n en s2 q1 q2 q3 => nm_e ?_) (fun k b en s2 q1 => nm_e ?_)
    · rw [show tI (dirB tx N (tE tx N p)) = nI (dirB tx N (tE tx N p) - 1) by cases eq : dirB tx N (tE tx N p) with | zero => exact absurd eq e | succ c => rfl]
      refine h1 _ n ?_ s2 q1 q2 (r3.trans q3)
      unfold aWind
      rw [if_neg hsn, if_neg e, en]
      rfl
    · refine h0 k b ?_ s2 _ (q1.pre r3) ((Lo.rf.up (by omega)).up (by omega))
      unfold aWind
      rw [if_neg hsn, if_neg e, en]
      rfl
  · refine m_wrong hR h21 (k := 1) rfl ⟨fun _ => nm_e (m_readBad (mF21 (by omega) (by omega)) (nm_e (h0 1 (tB tx N (tE tx N p)) ?_ _ _ (BdM.mF (by omega)) ((Lo.rf.up (by omega)).up (by omega))))), fun z => absurd z (mF21 (by omega) (by omega))⟩
    unfold aWind
    rw [if_neg hsn, if_pos e]
