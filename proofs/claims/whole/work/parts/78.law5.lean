theorem n_01 {z : Int32} (h0 : ¬ z < 0) (h1 : z ≤ 1) : z = 0 ∨ z = 1 := by
  obtain ⟨m, hm, rfl, hm2⟩ := n_any z
  rcases hm2 with hm2 | hm2
  · have := (nI_leI (b := 1) hm2 (by omega)).mp h1
    rcases (show m = 0 ∨ m = 1 by omega) with rfl | rfl
    · exact Or.inl rfl
    · exact Or.inr rfl
  · exact absurd hm2 h0
theorem c_needPart {z : Int32} {post : Prop} {postX : String → Prop} (h1 : (z = 0 ∨ z = 1) → post) (h0 : ¬ (z = 0 ∨ z = 1) → postX exN) : wpX10_needPart z post postX := by
  unfold wpX10_needPart
  exact ⟨fun e => h1 (Or.inl e), fun e => ⟨fun e1 => h1 (Or.inr e1), fun e1 => h0 (fun q => q.elim e e1)⟩⟩
theorem K1.frm {s s' : AR} (h : ∀ j, j ≠ 2 → j ≠ 24 → j ≠ 25 → s' j = s j) : K0 s s' := ⟨h 14 (by omega) (by omega) (by omega), h 23 (by omega) (by omega) (by omega), h 30 (by omega) (by omega) (by omega), h 31 (by omega) (by omega) (by omega), h 36 (by omega) (by omega) (by omega), h 45 (by omega) (by omega) (by omega), h 48 (by omega) (by omega) (by omega), h 49 (by omega) (by omega) (by omega), h 50 (by omega) (by omega) (by omega)⟩
/-- forever -/
theorem law21 {xs : Nat → Int32} {L B : Nat} {cs ms : ST} {ov l4 : Int32} (hI : INV B cs ms) (hv : HV l4 L) {kb : ST → ST → Prop} (hB : B + 1000 < 2 ^ 29) (hk : ∀ cs' ms', INV (B + 200) cs' ms' → kb cs' ms') : wpC21 xs L cs ms ov l4 kb := by
  have hI2 := hI
  obtain ⟨P, op, g, im, g2, T, pl, hG, hR, hT, hP, hJ⟩ := hI
  have hCG := hG.cg
  have hG2 := hG
  obtain ⟨hF, hGc, hE, hW, hGm⟩ := hG
  have hR2 := hR
  obtain ⟨hRc, hRm, hok, hs5, hs6⟩ := hR
  have fc := hF.cells
  have f5 := hF.1.2.2.2.2.1
  have f6 := hF.1.2.2.2.2.2.1
  have hFr := hRc.1.now
  have hNr := hRm.1.2.2.1
  unfold wpC21 wpL_forever wpX10_forever
  refine ⟨hv.h1, hv.h2, hv.h3, ?_⟩
  generalize xs (l4 + (1 : Int32)).toNatClampNeg = x
  generalize xs (l4 + (2 : Int32)).toNatClampNeg = y
  generalize xs (l4 + (3 : Int32)).toNatClampNeg = z
  have inv : ∀ (Y w0 w1 w2 : AR), K0 (ms 0) w0 → INV (B + 200) (sct cs 61 Y) (sct (sct (sct ms 0 w0) 19 w1) 23 w2) := fun Y w0 w1 w2 k => ⟨P, op, g, im, g2, T, pl, hG2, ⟨hRc, hRm.k0 k, hok.mono (by omega), hs5, hs6⟩, hT.k0 k, hP.k0 k, (hJ.k0 k).mono (by omega)⟩
  have kth : K0 (ms 0) (upd (upd (ms 0) 2 0) 2 1) := K0.c.trans K0.c
  have k00 : K0 (ms 0) (upd (ms 0) 2 0) := K0.c
  refine c_needWalker hF hGc.1 (fun w hw e => ?_) (fun e => ⟨rfl, hv.h1, hv.h2, hv.h3, ?_⟩)
  · subst e
    have k5 := hF.2.2.1 w hw
    have hmw : ∀ {post : Int32 → Prop}, post 1 → wpX11_isWalker (ms 1) (nI w) post := fun h => m_isWalker hF hGm.1 (fun _ _ _ => h) (fun q => absurd ⟨w, hw, rfl⟩ q)
    have hq := hFr.1 w hw
    have hp := hNr.1 w hw
    have ho := hok.now.1 w hw
    have v3 : vp_in (nI (w * 6 + 3)) 29 := vp_in_nI (by omega) (by omega)
    refine c_needPart (fun hz => ?_) (fun hz => ⟨rfl, hv.h1, hv.h2, hv.h3, ?_⟩)
    · have hz0 : ¬ z < 0 := by rcases hz with rfl | rfl <;> decide
      have hz1 : z ≤ 1 := by rcases hz with rfl | rfl <;> decide
      have hm3 : (ms 6) (w * 6 + 3) = nI (wv (cur g) w 3) := hp.2.2.2.1
      have o3 : wv (cur g) w 3 ≤ 3 := ho.2.2.2.1
      -- the reference answers NONE
      have none : (¬ wv (cur g) w 3 = 0 ∨ ¬ ∃ m, m < 2 ^ P 0 2 ∧ y = nI m) → vp_in (l4 + (1 : Int32)) L ∧ vp_in (l4 + (2 : Int32)) L ∧ vp_in (l4 + (3 : Int32)) L ∧ wpX11_forever (ms 0) (ms 1) (ms 2) (ms 3) (ms 4) (ms 5) (ms 6) (ms 9) (ms 10) (ms 19) (ms 23) (nI w) y z (fun r2 w2_0 w2_1 w2_2 => wpX11_thrown w2_0 (fun r3 => r3 = (0 : Int32) ∧ ((¬ (0 : Int32) = 0 → kb (sct cs 61 (cs 61)) (sct (sct (sct ms 0 w2_0) 19 w2_1) 23 w2_2)) ∧ ((0 : Int32) = 0 → (-1 : Int32) = r2 ∧ kb (sct cs 61 (cs 61)) (sct (sct (sct ms 0 w2_0) 19 w2_1) 23 w2_2))))) := by
        intro hno
        refine ⟨hv.h1, hv.h2, hv.h3, ?_⟩
        unfold wpX11_forever
        refine hmw ⟨fun q => absurd q (by decide), fun _ => ⟨fun q => absurd q hz0, fun _ => ⟨fun _ => ?_, fun q => absurd hz1 q⟩⟩⟩
        rw [ix6, show nI (w * 6) + (3 : Int32) = nI (w * 6 + 3) from nI_add _ 3, nI_clamp (by omega), hm3]
        refine ⟨v3, fun _ => ⟨pk_us, fun q => absurd rfl q, fun _ => ⟨rfl, hk _ _ (inv _ _ _ _ k00)⟩⟩, fun e3 => ?_⟩
        have e4 : wv (cur g) w 3 = 0 := (nI_eq (b := 0) (by omega) (by omega)).mp e3
        refine m_inSets hF hGm.1 (fun m h1 h2 => absurd ⟨m, h1, h2⟩ (hno.resolve_left (fun q => q e4))) (fun _ => ⟨fun q => absurd rfl q, fun _ => ⟨pk_us, fun q => absurd rfl q, fun _ => ⟨rfl, hk _ _ (inv _ _ _ _ k00)⟩⟩⟩)
      refine c_hasTowers hF hGc.1 (fun m hm em => ⟨fun q => absurd q (by decide), fun _ => ?_⟩) (fun em => ⟨fun _ => none (Or.inr em), fun q => absurd rfl q⟩)
      subst em
      unfold wpX3_of
      rw [show nI w * (6 : Int32) + (3 : Int32) = nI (w * 6 + 3) by rw [show nI w * (6 : Int32) = nI (w * 6) from pk_mul w 6]; exact nI_add _ 3, nI_clamp (by omega), hq.2.2.2.1]
      refine ⟨v3, fun e3 => ?_, fun e3 => none (Or.inl (fun q => e3 (by rw [q]; rfl)))⟩
      have e4 : wv (cur g) w 3 = 0 := (nI_eq (b := 0) (by omega) (by omega)).mp e3
      obtain ⟨n, hn, hfq⟩ := first_ex hF (m := m) (kd := P 5 w) ho
      -- the reference's answer, by the same end
      have mo : ∀ (v : Int32) (Y : AR), (Xs P m (P 5 w) (wv (cur g) w) n 3 ≠ 0 → v = (if z = 0 then nI (Xs P m (P 5 w) (wv (cur g) w) n 3) else nI n)) → (Xs P m (P 5 w) (wv (cur g) w) n 3 = 0 → ∀ j, j < n → lk (P 5 w) (Xs P m (P 5 w) (wv (cur g) w) j) = lk (P 5 w) (Xs P m (P 5 w) (wv (cur g) w) n) → v = (if z = 0 then nI 3 else nI (n - j))) → vp_in (l4 + (1 : Int32)) L ∧ vp_in (l4 + (2 : Int32)) L ∧ vp_in (l4 + (3 : Int32)) L ∧ wpX11_forever (ms 0) (ms 1) (ms 2) (ms 3) (ms 4) (ms 5) (ms 6) (ms 9) (ms 10) (ms 19) (ms 23) (nI w) (nI m) z (fun r2 w2_0 w2_1 w2_2 => wpX11_thrown w2_0 (fun r3 => r3 = (0 : Int32) ∧ ((¬ (0 : Int32) = 0 → kb (sct cs 61 Y) (sct (sct (sct ms 0 w2_0) 19 w2_1) 23 w2_2)) ∧ ((0 : Int32) = 0 → v = r2 ∧ kb (sct cs 61 Y) (sct (sct (sct ms 0 w2_0) 19 w2_1) 23 w2_2))))) := by
        intro v Y hv1 hv2
        refine ⟨hv.h1, hv.h2, hv.h3, ?_⟩
        unfold wpX11_forever
        refine hmw ⟨fun q => absurd q (by decide), fun _ => ⟨fun q => absurd q hz0, fun _ => ⟨fun _ => ?_, fun q => absurd hz1 q⟩⟩⟩
        rw [ix6, show nI (w * 6) + (3 : Int32) = nI (w * 6 + 3) from nI_add _ 3, nI_clamp (by omega), hm3]
        refine ⟨v3, fun q => absurd e3 q, fun _ => m_inSets hF hGm.1 (fun _ _ _ => ⟨fun _ => m_be (by decide) (fun wk hwk => m_foreverF (P := P) (fun wn yy hwn => ?_)), fun q => absurd q (by decide)⟩) (fun q => absurd ⟨m, hm, rfl⟩ q)⟩
        have kk : ∀ sM' : AR, (∀ j, j ≠ 24 → j ≠ 25 → sM' j = upd (ms 0) 2 0 j) → K0 (ms 0) sM' ∧ sM' 2 = 0 := fun sM' h => ⟨K1.frm (fun j j2 ja jb => by rw [h j ja jb, pk_un j2]), by rw [h 2 (by omega) (by omega), pk_us]⟩
        refine m_foreverL hF hGm hw hm (hp.same (fun j h1 h2 => hwk j (by omega))) ho (by omega) e4 hn hfq hwn (fun h3 sM' wk' wn' hs' => ?_) (fun h3 j hj hje sM' wk' wn' hs' => ?_)
        · obtain ⟨a1, a2⟩ := kk sM' hs'
          exact ⟨a2, fun q => absurd rfl q, fun _ => ⟨hv1 h3, hk _ _ (inv _ _ _ _ a1)⟩⟩
        · obtain ⟨a1, a2⟩ := kk sM' hs'
          exact ⟨a2, fun q => absurd rfl q, fun _ => ⟨hv2 h3 j hj hje, hk _ _ (inv _ _ _ _ a1)⟩⟩
      unfold wpX3_take
      refine nm_e (c_endOf hF hE hW hCG.2.2.1 (by omega) (hCG.2.2.2.1 w hw) k5 hm (hq.same (fun j h1 h2 => ?_)) ho (by omega) e4 hn hfq (fun h3 F' => mo _ F' (fun _ => rfl) (fun q => absurd q h3)) (fun h3 j hj hje F' => mo _ F' (fun q => absurd h3 q) (fun _ j' hj' hje' => ?_)))
      · rw [pk_cpy_in (by omega) (by omega)]; congr 1; omega
      · have ej : j = j' := by
          have he := hje.trans hje'.symm
          rcases Nat.lt_trichotomy j j' with q | q | q
          · exact absurd he ((hfq.2 j' hj').2 j q)
          · exact q
          · exact absurd he.symm ((hfq.2 j hj).2 j' q)
        rw [ej]
    · unfold wpX11_forever wpX11_forever_J22 wpX11_fail
      have thr : wpX11_thrown (upd (upd (ms 0) 2 (0 : Int32)) 2 (1 : Int32)) (fun r3 => r3 = (1 : Int32) ∧ ((¬ (1 : Int32) = 0 → kb (sct cs 61 (cs 61)) (sct (sct (sct ms 0 (upd (upd (ms 0) 2 (0 : Int32)) 2 (1 : Int32))) 19 (ms 19)) 23 (ms 23))) ∧ ((1 : Int32) = 0 → ov = 0 ∧ kb (sct cs 61 (cs 61)) (sct (sct (sct ms 0 (upd (upd (ms 0) 2 (0 : Int32)) 2 (1 : Int32))) 19 (ms 19)) 23 (ms 23))))) := ⟨pk_us, fun _ => hk _ _ (inv _ _ _ _ kth), fun q => absurd q (by decide)⟩
      refine hmw ⟨fun q => absurd q (by decide), fun _ => ⟨fun _ => thr, fun q => ⟨fun q2 => absurd (n_01 q q2) hz, fun _ => thr⟩⟩⟩
  · unfold wpX11_forever wpX11_forever_J22 wpX11_fail
    exact m_isWalker hF hGm.1 (fun c h1 h2 => absurd ⟨c, h1, h2⟩ e) (fun _ => ⟨fun _ => ⟨pk_us, fun _ => hk _ _ (inv _ _ _ _ kth), fun q => absurd q (by decide)⟩, fun q => absurd rfl q⟩)
/-! the best is never less than what is in -/
theorem bF_ge {P : FL} (hF : FlatOK P) (bu : Nat) : ∀ r a row d b, b.1 ≤ (bF P bu r a row d b).1 ∧ hmN P a 1 + 1 ≤ (bF P bu r a row d b).1 := by
  intro r
  induction r with
  | zero =>
    intro a row d b
    rw [bF]
    by_cases e : btr b (hmN P a 1) (hmN P a 2) = true
    · rw [if_pos e]
      unfold btr at e
      rw [decide_eq_true_eq] at e
      exact ⟨by show b.1 ≤ hmN P a 1 + 1; omega, Nat.le_refl _⟩
    · rw [if_neg e]
      unfold btr at e
      rw [decide_eq_true_eq] at e
      exact ⟨Nat.le_refl _, by omega⟩
  | succ r ih =>
    intro a row d b
    rw [bF]
    have hp := Nat.two_pow_pos (P 0 2)
    have h0 : canB P bu 0 a = true := decide_eq_true ⟨Nat.zero_and bu, fun t _ => by unfold bt1; rw [Nat.zero_div]; exact Nat.zero_le _⟩
    have key : ∀ k, b.1 ≤ (fld (fun m b => if canB P bu m a = true then bF P bu r (sk P m a) (rwU row d m) (d + 1) b else b) k b).1 ∧ (0 < k → hmN P a 1 + 1 ≤ (fld (fun m b => if canB P bu m a = true then bF P bu r (sk P m a) (rwU row d m) (d + 1) b else b) k b).1) := by
      intro k
      induction k with
      | zero => exact ⟨Nat.le_refl _, fun z => absurd z (Nat.lt_irrefl 0)⟩
      | succ k ihk =>
        rw [fld]
        by_cases e : canB P bu k a = true
        · rw [if_pos e]
          have h1 := ih (sk P k a) (rwU row d k) (d + 1) (fld (fun m b => if canB P bu m a = true then bF P bu r (sk P m a) (rwU row d m) (d + 1) b else b) k b)
          have h2 := in_mono hF k a
          exact ⟨Nat.le_trans ihk.1 h1.1, fun _ => by omega⟩
        · rw [if_neg e]
          have hk : 0 < k := by
            rcases Nat.eq_zero_or_pos k with q | q
            · subst q; exact absurd h0 e
            · exact q
          exact ⟨ihk.1, fun _ => ihk.2 hk⟩
    exact ⟨(key _).1, (key _).2 hp⟩
theorem FrM.k0 {s s' : AR} (h : FrM s s') : K0 s s' := ⟨h 14 (by omega) (by omega) (by omega) (by omega) (by omega) (by omega), h 23 (by omega) (by omega) (by omega) (by omega) (by omega) (by omega), h 30 (by omega) (by omega) (by omega) (by omega) (by omega) (by omega), h 31 (by omega) (by omega) (by omega) (by omega) (by omega) (by omega), h 36 (by omega) (by omega) (by omega) (by omega) (by omega) (by omega), h 45 (by omega) (by omega) (by omega) (by omega) (by omega) (by omega), h 48 (by omega) (by omega) (by omega) (by omega) (by omega) (by omega), h 49 (by omega) (by omega) (by omega) (by omega) (by omega) (by omega), h 50 (by omega) (by omega) (by omega) (by omega) (by omega) (by omega)⟩
abbrev b0 : BS := (0, 0, fun _ => 0)
abbrev bst (P : FL) (bu n : Nat) (a : Nat → Nat) : BS := bF P bu n a (fun _ => 0) 0 b0
theorem bst_in {P : FL} (hF : FlatOK P) (bu n : Nat) (a : Nat → Nat) (h5 : (bst P bu n a).1 ≤ 5) : ∃ k, k ≤ 4 ∧ (bst P bu n a).1 ≠ 0 ∧ tI (bst P bu n a).1 - nI (hmN P a 1) = nI k := by
  have h : hmN P a 1 + 1 ≤ (bst P bu n a).1 := (bF_ge hF bu n a (fun _ => 0) 0 b0).2
  refine ⟨(bst P bu n a).1 - 1 - hmN P a 1, by omega, by omega, ?_⟩
  rw [show tI (bst P bu n a).1 = nI ((bst P bu n a).1 - 1) by
    cases e : (bst P bu n a).1 with
    | zero => rw [e] at h; omega
    | succ c => rfl, pk_sub (by omega)]
theorem m_bestOf {P : FL} {s tc rg vc fl kd mi now wh bR wk tS bS sM : AR} (hF : FlatOK P) (hG : GRep P s tc rg vc fl kd mi) {a : Nat → Nat} {B n bu : Nat} (ha : FRep P now a) (hok : FOK P B a) (hB : B + 4 < 2 ^ 30) (hn : n ≤ 4) (hbu : bu < 2 ^ 31) {post : Int32 → AR → AR → AR → AR → AR → AR → Prop}
    (hA : nd P bu n a ≤ 20000 → ∀ sM' wh' bR' wk' tS' bS', MB n sM' bS' (bst P bu n a) → FrM sM sM' → post (tI (bst P bu n a).1 - nI (hmN P a 1)) sM' wh' bR' wk' tS' bS') (hS : 20000 < nd P bu n a → ∀ sM' wh' bR' wk' tS' bS', FrM sM sM' → post (-2) sM' wh' bR' wk' tS' bS') : wpX11_bestOf sM s tc rg vc kd now fl mi wh bR wk tS bS (nI n) (nI bu) post := by
  have hs := hG.1
  unfold wpX11_bestOf
  refine loop_0 (fun nn i (q : AR) => wpX11_bestOf_L2 sM s tc rg vc kd now fl mi wh wk tS bS (nI n) (nI bu) _ post nn q (nI i)) (fun i q => ∀ j, j < i → q j = now j) 29 bR (fun j hj => absurd hj (Nat.not_lt_zero _)) ?_ ?_
  · intro nn q hI
    show wpX11_bestOf_L2 sM s tc rg vc kd now fl mi wh wk tS bS (nI n) (nI bu) _ post (nn + 1) q (nI 29)
    unfold wpX11_bestOf_L2
    refine ⟨fun _ => ?_, fun z => absurd (nI_le (Nat.le_refl 29) (by decide)) z⟩
    have fr0 : FrM sM (upd (upd (upd sM 42 (0 : Int32)) 43 (-1 : Int32)) 46 (0 : Int32)) := fun j j1 j2 j3 j4 j5 j6 => by rw [pk_un j6, pk_un j4, pk_un j3]
    refine m_bestOn hF hG hn hbu n 6 (by omega) 0 (by omega) _ wh q wk tS bS a (fun _ => 0) B b0 0 (ha.same hF (fun j hj => by rw [show 29 * 0 + j = j by omega]; exact hI j hj)) hok (by omega) ⟨?_, Nat.zero_le _, fun z => absurd rfl z⟩ ?_ (by omega) ?_ (fun i hi => absurd hi (Nat.not_lt_zero _)) _ (fun h1 sM' wh' bR' wk' tS' bS' p1 p2 p3 p4 _ _ => ?_) (fun h1 sM' wh' bR' wk' tS' bS' p1 p2 => ?_)
    · rw [pk_un (by omega), pk_us]; rfl
    · rw [pk_un (by omega), pk_un (by omega), pk_us]; rfl
    · rw [pk_us]
    · rw [p3]
      refine ⟨fun _ => m_howMany hF hs ha hok (h := 1) (by omega) ?_, fun z => absurd rfl z⟩
      rw [p1.1]
      exact hA (by omega) _ _ _ _ _ _ p1 (fr0.trans p4)
    · rw [p1]
      exact ⟨fun z => absurd z (by decide), fun _ => hS (by omega) _ _ _ _ _ _ (fr0.trans p2)⟩
  · intro nn i q hi hI hnext
    show wpX11_bestOf_L2 sM s tc rg vc kd now fl mi wh wk tS bS (nI n) (nI bu) _ post (nn + 1) q (nI i)
    unfold wpX11_bestOf_L2
    rw [nI_clamp (by omega)]
    refine ⟨fun z => absurd z (nI_ge (b := 29) hi (by decide)), fun _ => ⟨vp_in_nI (by omega) (by omega), vp_in_nI (by omega) (by omega), nm_e (nm_r (nI_1 i) (hnext _ (fun j hj => ?_)))⟩⟩
    by_cases e : j = i
    · subst e; rw [pk_us]
    · rw [pk_un e]; exact hI j (by omega)
