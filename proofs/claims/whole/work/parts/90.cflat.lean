/-! the class begins on a flat -/
def st0 (D : FL) : Nat → Nat := fun i => if i < 24 then (if i % 6 = 0 then D 8 (i / 6) else if i % 6 = 1 then D 9 (i / 6) else 0) else D 7 (i - 24)
theorem st0_w {D : FL} {w f : Nat} (hw : w < 4) (hf : f < 6) : st0 D (w * 6 + f) = if f = 0 then D 8 w else if f = 1 then D 9 w else 0 := by
  unfold st0
  rw [if_pos (by omega), show (w * 6 + f) % 6 = f by omega, show (w * 6 + f) / 6 = w by omega]
theorem st0_t {D : FL} {t : Nat} : st0 D (24 + t) = D 7 t := by
  unfold st0
  rw [if_neg (by omega), show 24 + t - 24 = t by omega]
theorem st0_ok {D : FL} (h : DOK D) (B : Nat) : FOK D B (st0 D) := by
  obtain ⟨hF, h7, h8⟩ := h
  have f6 := hF.1.2.2.2.2.2.1
  refine ⟨fun w hw => ?_, fun t ht => by rw [st0_t]; exact (h7 t ht).2⟩
  have e : ∀ f, f < 6 → wv (st0 D) w f = if f = 0 then D 8 w else if f = 1 then D 9 w else 0 := fun f hf => st0_w (by omega) hf
  obtain ⟨a, b⟩ := h8 w hw
  refine ⟨?_, ?_, ?_, ?_, ?_, ?_⟩
  · rw [e 0 (by omega)]; exact a
  · rw [e 1 (by omega)]; exact b
  · rw [e 2 (by omega)]; exact Nat.zero_lt_succ _
  · rw [e 3 (by omega)]; exact Nat.zero_le _
  · rw [e 4 (by omega)]; exact Nat.zero_le _
  · rw [e 5 (by omega)]; exact Nat.zero_le _
/-- a row by its numbers -/
theorem st0_rep {D : FL} {F : AR} (hF : FlatOK D) (h : ∀ w, w < D 0 3 → F (w * 6) = nI (D 8 w) ∧ F (w * 6 + 1) = nI (D 9 w) ∧ F (w * 6 + 2) = 0 ∧ F (w * 6 + 3) = 0 ∧ F (w * 6 + 4) = -1 ∧ F (w * 6 + 5) = 0) (h2 : ∀ t, t < D 0 2 → F (24 + t) = nI (D 7 t)) : FRep D F (st0 D) := by
  have f6 := hF.1.2.2.2.2.2.1
  refine ⟨fun w hw => ?_, fun t ht => by rw [st0_t]; exact h2 t ht⟩
  have e : ∀ f, f < 6 → wv (st0 D) w f = if f = 0 then D 8 w else if f = 1 then D 9 w else 0 := fun f hf => st0_w (by omega) hf
  obtain ⟨a0, a1, a2, a3, a4, a5⟩ := h w hw
  refine ⟨?_, ?_, ?_, ?_, ?_, ?_⟩
  · rw [e 0 (by omega)]; exact a0
  · rw [e 1 (by omega)]; exact a1
  · rw [e 2 (by omega)]; exact a2
  · rw [e 3 (by omega)]; exact a3
  · rw [e 4 (by omega)]; exact a4
  · rw [e 5 (by omega)]; exact a5
theorem c_gtake {D : FL} {sH sG tc rg vc st fl kd hm wt mi gtc grg gvc gst gfl gkd ghm gwt gmi : AR} (hF : FlatOK D) (hD : DC D sH tc rg vc st fl kd hm wt mi) {post : AR → AR → AR → AR → AR → AR → AR → AR → AR → AR → Prop} (hk : ∀ sG' tc' rg' vc' st' fl' kd' hm' wt' mi', DC D sG' tc' rg' vc' st' fl' kd' hm' wt' mi' → post sG' tc' rg' vc' st' fl' kd' hm' wt' mi') : wpX4_take sH sG tc rg vc st fl kd hm wt mi gtc grg gvc gst gfl gkd ghm gwt gmi post := by
  obtain ⟨d1, d2, d3, d4⟩ := hD
  have f5 := hF.1.2.2.2.2.1
  have f6 := hF.1.2.2.2.2.2.1
  unfold wpX4_take
  refine nm_e (nm_e (nm_e (nm_e (nm_e (nm_e (nm_e ?_))))))
  have hS : ∀ k, k < 7 → upd (upd (upd (upd (upd (upd (upd sG 0 (sH 0)) 1 (sH 1)) 2 (sH 2)) 3 (sH 3)) 4 (sH 4)) 5 (sH 5)) 6 (sH 6) k = nI (D 0 k) := by
    intro k hk7
    rw [← d1 k hk7]
    rcases (show k = 0 ∨ k = 1 ∨ k = 2 ∨ k = 3 ∨ k = 4 ∨ k = 5 ∨ k = 6 by omega) with rfl | rfl | rfl | rfl | rfl | rfl | rfl <;> rfl
  generalize upd (upd (upd (upd (upd (upd (upd sG 0 (sH 0)) 1 (sH 1)) 2 (sH 2)) 3 (sH 3)) 4 (sH 4)) 5 (sH 5)) 6 (sH 6) = sX at hS ⊢
  refine loop_0 (fun n i (q : AR × AR × AR × AR × AR) => wpX4_take_L58 sH sX tc rg vc st fl kd hm wt mi gkd ghm gwt gmi _ post n q.1 q.2.1 q.2.2.1 q.2.2.2.1 q.2.2.2.2 (nI i)) (fun i q => ∀ j, j < i → j < D 0 2 → q.1 j = nI (D 1 j) ∧ q.2.1 j = nI (D 2 j) ∧ q.2.2.1 j = nI (D 3 j) ∧ q.2.2.2.2 j = nI (D 4 j) ∧ q.2.2.2.1 j = nI (D 7 j)) 5 (gtc, grg, gvc, gst, gfl) (fun j hj => absurd hj (Nat.not_lt_zero _)) ?_ ?_
  · rintro n ⟨q1, q2, q3, q4, q5⟩ hI
    have hI : ∀ j, j < 5 → j < D 0 2 → q1 j = nI (D 1 j) ∧ q2 j = nI (D 2 j) ∧ q3 j = nI (D 3 j) ∧ q5 j = nI (D 4 j) ∧ q4 j = nI (D 7 j) := hI
    show wpX4_take_L58 sH sX tc rg vc st fl kd hm wt mi gkd ghm gwt gmi _ post (n + 1) q1 q2 q3 q4 q5 (nI 5)
    unfold wpX4_take_L58
    refine ⟨fun _ => ?_, fun z => absurd (nI_le (Nat.le_refl 5) (by decide)) z⟩
    refine loop_0 (fun n i (q : AR × AR × AR) => wpX4_take_L131 sH sX tc rg vc st fl kd hm wt mi q1 q2 q3 q4 q5 gmi _ post n q.1 q.2.1 q.2.2 (nI i)) (fun i q => ∀ j, j < i → j < D 0 3 → q.1 j = nI (D 5 j) ∧ q.2.1 j = nI (D 8 j) ∧ q.2.2 j = nI (D 9 j)) 4 (gkd, ghm, gwt) (fun j hj => absurd hj (Nat.not_lt_zero _)) ?_ ?_
    · rintro n ⟨r1, r2, r3⟩ hJ
      have hJ : ∀ j, j < 4 → j < D 0 3 → r1 j = nI (D 5 j) ∧ r2 j = nI (D 8 j) ∧ r3 j = nI (D 9 j) := hJ
      show wpX4_take_L131 sH sX tc rg vc st fl kd hm wt mi q1 q2 q3 q4 q5 gmi _ post (n + 1) r1 r2 r3 (nI 4)
      unfold wpX4_take_L131
      refine ⟨fun _ => ?_, fun z => absurd (nI_le (Nat.le_refl 4) (by decide)) z⟩
      refine loop_0 (fun n i (q : AR) => wpX4_take_L180 sH sX tc rg vc st fl kd hm wt mi q1 q2 q3 q4 q5 r1 r2 r3 _ post n q (nI i)) (fun i q => ∀ j, j < i → q j = nI (D 6 j)) 100 gmi (fun j hj => absurd hj (Nat.not_lt_zero _)) ?_ ?_
      · intro n q hM
        show wpX4_take_L180 sH sX tc rg vc st fl kd hm wt mi q1 q2 q3 q4 q5 r1 r2 r3 _ post (n + 1) q (nI 100)
        unfold wpX4_take_L180
        exact ⟨fun _ => hk _ _ _ _ _ _ _ _ _ _ ⟨hS, fun t ht => hI t (by omega) ht, fun w hw => hJ w (by omega) hw, hM⟩, fun z => absurd (nI_le (Nat.le_refl 100) (by decide)) z⟩
      · intro n i q hi hM hnext
        show wpX4_take_L180 sH sX tc rg vc st fl kd hm wt mi q1 q2 q3 q4 q5 r1 r2 r3 _ post (n + 1) q (nI i)
        unfold wpX4_take_L180
        have := hF.2.2.2 i
        rw [nI_clamp (by omega), d4 i hi, (n_bool _ (by omega)).1]
        refine ⟨fun z => absurd z (nI_ge (b := 100) hi (by decide)), fun _ => ⟨vp_in_nI hi (by omega), vp_in_nI hi (by omega), nm_e (nm_r (nI_1 i) (hnext _ (fun j hj => ?_)))⟩⟩
        by_cases e : j = i
        · subst e; rw [pk_us]
        · rw [pk_un e]; exact hM j (by omega)
    · rintro n i ⟨r1, r2, r3⟩ hi hJ hnext
      have hJ : ∀ j, j < i → j < D 0 3 → r1 j = nI (D 5 j) ∧ r2 j = nI (D 8 j) ∧ r3 j = nI (D 9 j) := hJ
      show wpX4_take_L131 sH sX tc rg vc st fl kd hm wt mi q1 q2 q3 q4 q5 gmi _ post (n + 1) r1 r2 r3 (nI i)
      unfold wpX4_take_L131
      have vi : vp_in (nI i) 4 := vp_in_nI hi (by omega)
      rw [nI_clamp (by omega)]
      refine ⟨fun z => absurd z (nI_ge (b := 4) hi (by decide)), fun _ => ⟨vi, vi, nm_e ⟨vi, vi, nm_e ⟨vi, vi, nm_e (nm_r (nI_1 i) (hnext (_, _, _) (fun j hj hj2 => ?_)))⟩⟩⟩⟩
      show upd r1 i (kd i) j = _ ∧ upd r2 i (hm i) j = _ ∧ upd r3 i (wt i) j = _
      by_cases e : j = i
      · subst e; rw [pk_us, pk_us, pk_us]; exact d3 j hj2
      · rw [pk_un e, pk_un e, pk_un e]; exact hJ j (by omega) hj2
  · rintro n i ⟨q1, q2, q3, q4, q5⟩ hi hI hnext
    have hI : ∀ j, j < i → j < D 0 2 → q1 j = nI (D 1 j) ∧ q2 j = nI (D 2 j) ∧ q3 j = nI (D 3 j) ∧ q5 j = nI (D 4 j) ∧ q4 j = nI (D 7 j) := hI
    show wpX4_take_L58 sH sX tc rg vc st fl kd hm wt mi gkd ghm gwt gmi _ post (n + 1) q1 q2 q3 q4 q5 (nI i)
    unfold wpX4_take_L58
    have vi : vp_in (nI i) 5 := vp_in_nI hi (by omega)
    rw [nI_clamp (by omega)]
    refine ⟨fun z => absurd z (nI_ge (b := 5) hi (by decide)), fun _ => ⟨vi, vi, nm_e ⟨vi, vi, nm_e ⟨vi, vi, nm_e ⟨vi, vi, nm_e ⟨vi, vi, nm_e (nm_r (nI_1 i) (hnext (_, _, _, _, _) (fun j hj hj2 => ?_)))⟩⟩⟩⟩⟩⟩
    show upd q1 i (tc i) j = _ ∧ upd q2 i (rg i) j = _ ∧ upd q3 i (vc i) j = _ ∧ upd q5 i (vp_nar .boolean (fl i)) j = _ ∧ upd q4 i (st i) j = _
    by_cases e : j = i
    · subst e
      have := (hF.2.1 j hj2).2.2.2.2
      obtain ⟨a1, a2, a3, a4, a5⟩ := d2 j hj2
      rw [pk_us, pk_us, pk_us, pk_us, pk_us, a1, a2, a3, a4, a5, (n_bool _ (by omega)).1]; exact ⟨rfl, rfl, rfl, rfl, rfl⟩
    · rw [pk_un e, pk_un e, pk_un e, pk_un e, pk_un e]; exact hI j (by omega) hj2
theorem c_fbegin {D : FL} {sG tc rg vc st fl kd hm wt mi F : AR} (hF : FlatOK D) (hD : DC D sG tc rg vc st fl kd hm wt mi) {post : AR → Prop} (hk : ∀ F', FRep D F' (st0 D) → post F') : wpX3_begin sG F st hm wt post := by
  obtain ⟨d1, d2, d3, d4⟩ := hD
  have f5 := hF.1.2.2.2.2.1
  have f6 := hF.1.2.2.2.2.2.1
  have g2 : sG 2 = nI (D 0 2) := d1 2 (by omega)
  have g3 : sG 3 = nI (D 0 3) := d1 3 (by omega)
  unfold wpX3_begin
  refine loop_0 (fun n i (q : AR) => wpX3_begin_L2 sG st hm wt _ post n q (nI i)) (fun i q => ∀ w, w < i → q (w * 6) = nI (D 8 w) ∧ q (w * 6 + 1) = nI (D 9 w) ∧ q (w * 6 + 2) = 0 ∧ q (w * 6 + 3) = 0 ∧ q (w * 6 + 4) = -1 ∧ q (w * 6 + 5) = 0) (D 0 3) F (fun j hj => absurd hj (Nat.not_lt_zero _)) ?_ ?_
  · intro n q hI
    show wpX3_begin_L2 sG st hm wt _ post (n + 1) q (nI (D 0 3))
    unfold wpX3_begin_L2
    rw [g3]
    refine ⟨fun _ => ?_, fun z => absurd (nI_le (Nat.le_refl _) (by omega)) z⟩
    refine loop_0 (fun n i (r : AR) => wpX3_begin_L96 sG st hm wt _ post n r (nI i)) (fun i r => (∀ t, t < i → r (24 + t) = nI (D 7 t)) ∧ ∀ j, j < 24 → r j = q j) (D 0 2) q ⟨fun j hj => absurd hj (Nat.not_lt_zero _), fun _ _ => rfl⟩ ?_ ?_
    · rintro n r ⟨h1, h2⟩
      show wpX3_begin_L96 sG st hm wt _ post (n + 1) r (nI (D 0 2))
      unfold wpX3_begin_L96
      rw [g2]
      refine ⟨fun _ => hk r (st0_rep hF (fun w hw => ?_) h1), fun z => absurd (nI_le (Nat.le_refl _) (by omega)) z⟩
      rw [h2 _ (by omega), h2 _ (by omega), h2 _ (by omega), h2 _ (by omega), h2 _ (by omega), h2 _ (by omega)]
      exact hI w hw
    · rintro n i r hi ⟨h1, h2⟩ hnext
      show wpX3_begin_L96 sG st hm wt _ post (n + 1) r (nI i)
      unfold wpX3_begin_L96
      rw [g2, show (24 : Int32) + nI i = nI (24 + i) from nI_add 24 i, nI_clamp (n := 24 + i) (by omega), nI_clamp (n := i) (by omega), (d2 i hi).2.2.2.2]
      refine ⟨fun z => absurd z (nI_ge hi (by omega)), fun _ => ⟨vp_in_nI (by omega) (by omega), vp_in_nI (by omega) (by omega), nm_e (nm_r (nI_1 i) (hnext _ ⟨fun t ht => ?_, fun j hj => ?_⟩))⟩⟩
      · by_cases e : t = i
        · subst e; rw [pk_us]
        · rw [pk_un (by omega)]; exact h1 t (by omega)
      · rw [pk_un (by omega)]; exact h2 j hj
  · intro n i q hi hI hnext
    show wpX3_begin_L2 sG st hm wt _ post (n + 1) q (nI i)
    unfold wpX3_begin_L2
    obtain ⟨-, e8, e9⟩ := d3 i hi
    rw [g3, show nI i * (6 : Int32) = nI (i * 6) from pk_mul i 6]
    refine ⟨fun z => absurd z (nI_ge hi (by omega)), fun _ => nm_e ?_⟩
    rw [show nI (i * 6) + (0 : Int32) = nI (i * 6) from nI_add _ 0, show nI (i * 6) + (1 : Int32) = nI (i * 6 + 1) from nI_add _ 1, show nI (i * 6) + (2 : Int32) = nI (i * 6 + 2) from nI_add _ 2, show nI (i * 6) + (3 : Int32) = nI (i * 6 + 3) from nI_add _ 3, show nI (i * 6) + (4 : Int32) = nI (i * 6 + 4) from nI_add _ 4, show nI (i * 6) + (5 : Int32) = nI (i * 6 + 5) from nI_add _ 5]
    rw [nI_clamp (n := i) (by omega), nI_clamp (n := i * 6) (by omega), nI_clamp (n := i * 6 + 1) (by omega), nI_clamp (n := i * 6 + 2) (by omega), nI_clamp (n := i * 6 + 3) (by omega), nI_clamp (n := i * 6 + 4) (by omega), nI_clamp (n := i * 6 + 5) (by omega), e8, e9]
    have vi : vp_in (nI i) 4 := vp_in_nI (by omega) (by omega)
    refine ⟨vi, vp_in_nI (by omega) (by omega), nm_e ⟨vi, vp_in_nI (by omega) (by omega), nm_e ⟨vp_in_nI (by omega) (by omega), nm_e ⟨vp_in_nI (by omega) (by omega), nm_e ⟨vp_in_nI (by omega) (by omega), nm_e ⟨vp_in_nI (by omega) (by omega), nm_e (nm_r (nI_1 i) (hnext _ (fun w hw => ?_)))⟩⟩⟩⟩⟩⟩
    by_cases e : w = i
    · subst e
      refine ⟨?_, ?_, ?_, ?_, ?_, ?_⟩
      · rw [pk_un (by omega), pk_un (by omega), pk_un (by omega), pk_un (by omega), pk_un (by omega), pk_us]
      · rw [pk_un (by omega), pk_un (by omega), pk_un (by omega), pk_un (by omega), pk_us]
      · rw [pk_un (by omega), pk_un (by omega), pk_un (by omega), pk_us]
      · rw [pk_un (by omega), pk_un (by omega), pk_us]
      · rw [pk_un (by omega), pk_us]
      · rw [pk_us]
    · have o : ∀ j, j < i * 6 → upd (upd (upd (upd (upd (upd q (i * 6) (nI (D 8 i))) (i * 6 + 1) (nI (D 9 i))) (i * 6 + 2) (0 : Int32)) (i * 6 + 3) (0 : Int32)) (i * 6 + 4) (-1 : Int32)) (i * 6 + 5) (0 : Int32) j = q j := fun j hj => by rw [pk_un (by omega), pk_un (by omega), pk_un (by omega), pk_un (by omega), pk_un (by omega), pk_un (by omega)]
      rw [o _ (by omega), o _ (by omega), o _ (by omega), o _ (by omega), o _ (by omega), o _ (by omega)]
      exact hI w (by omega)
theorem c_beginOn {D : FL} {sS sG sC sQ hA E ds ov ak tc rg vc st fl kd hm wt mi nx wy gl F : AR} (hOK : DOK D) (hD : DC D sG tc rg vc st fl kd hm wt mi) {post : AR → AR → AR → AR → AR → AR → AR → AR → AR → AR → AR → AR → Prop}
    (hk : ∀ hA' E' ds' ov' ak' nx' wy' gl' F', EarsOK D hA' E' ov' ak' → FeetOK D nx' wy' gl' → FRep D F' (st0 D) → post (upd (upd sS 14 (0 : Int32)) 17 (0 : Int32)) (upd (upd (upd sC 2 (0 : Int32)) 3 (0 : Int32)) 4 (0 : Int32)) (upd sQ 5 (0 : Int32)) hA' E' ds' ov' ak' nx' wy' gl' F') : wpX10_beginOnGround sS sG sC sQ hA E ds ov ak tc rg vc st hm wt mi nx wy gl F post := by
  obtain ⟨d1, d2, d3, d4⟩ := hD
  unfold wpX10_beginOnGround
  refine c_listen hOK.1 d1 (fun t ht => (d2 t ht).1) (fun t ht => (d2 t ht).2.1) (fun t ht => (d2 t ht).2.2.1) (fun hA' E' ds' ov' ak' hE => ?_)
  refine c_learn hOK.1 d1 (fun t ht => (d2 t ht).1) d4 (fun nx' wy' gl' hW => ?_)
  unfold wpX0_begin
  exact c_fbegin hOK.1 ⟨d1, d2, d3, d4⟩ (fun F' hF' => hk _ _ _ _ _ _ _ _ _ hE hW hF')
