theorem GRep.lf {P : FL} {td pl rg vc fl kd mi td' pl' rg' vc' fl' kd' mi' : AR} (hF : FlatOK P) (h : GRep P td pl rg vc fl kd mi) (l : LF td pl rg vc kd fl mi td' pl' rg' vc' kd' fl' mi') : GRep P td' pl' rg' vc' fl' kd' mi' := by
  have f5 := hF.1.2.2.2.2.1
  have f6 := hF.1.2.2.2.2.2.1
  obtain ⟨g1, g2, g3, g4, g5, g6, g7⟩ := h
  obtain ⟨l1, l2, l3, l4, l5, l6, l7⟩ := l
  exact ⟨fun k hk => (l1 k hk).trans (g1 k hk), fun t ht => (l2 t (by omega)).trans (g2 t ht), fun t ht => (l3 t (by omega)).trans (g3 t ht), fun t ht => (l4 t (by omega)).trans (g4 t ht), fun t ht => (l6 t (by omega)).trans (g5 t ht), fun w hw => (l5 w (by omega)).trans (g6 w hw), fun c hc => (l7 c hc).trans (g7 c hc)⟩
theorem LF.tr {td pl rg vc kd fl mi td' pl' rg' vc' kd' fl' mi' td2 pl2 rg2 vc2 kd2 fl2 mi2 : AR} (a : LF td pl rg vc kd fl mi td' pl' rg' vc' kd' fl' mi') (b : LF td' pl' rg' vc' kd' fl' mi' td2 pl2 rg2 vc2 kd2 fl2 mi2) : LF td pl rg vc kd fl mi td2 pl2 rg2 vc2 kd2 fl2 mi2 := ⟨a.1.tr b.1, a.2.1.tr b.2.1, a.2.2.1.tr b.2.2.1, a.2.2.2.1.tr b.2.2.2.1, a.2.2.2.2.1.tr b.2.2.2.2.1, a.2.2.2.2.2.1.tr b.2.2.2.2.2.1, a.2.2.2.2.2.2.tr b.2.2.2.2.2.2⟩
/-- what begins a text leaves -/
def FrB (s s' : AR) : Prop := (∀ j, j < 14 → s' j = s j) ∧ (∀ j, 24 ≤ j → s' j = s j) ∧ s' 14 = 0 ∧ s' 23 = -1
theorem m_begin {tx : Nat → Nat} {N T : Nat} {t s : AR} (ht : TxM tx N t) (h14 : s 14 = nI T) (hT : T ≤ 500) (hN : N ≤ T) {post : Int32 → AR → Prop} (hk : ∀ s', RdM tx N 0 s' → s' 21 = 0 → FrB s s' → post 1 s') : wpX11_beginText s t (nI N) post := by
  unfold wpX11_beginText
  rw [h14]
  refine ⟨fun z => absurd ((nI_ltI (b := 0) (by omega) (by omega)).mp z) (by omega), fun _ => ⟨fun _ => ?_, fun z => absurd (nI_le hN (by omega)) z⟩⟩
  refine m_stepOn ht (Nat.zero_le _) (by rw [pk_un (by omega), pk_un (by omega), pk_un (by omega), pk_us]) (by rw [pk_un (by omega), pk_un (by omega), pk_us]; rfl) (fun s' a1 a2 => hk s' a1 ?_ ⟨fun j hj => ?_, fun j hj => ?_, ?_, ?_⟩)
  · rw [a2 21 (by omega) (by omega) (by omega) (by omega) (by omega), pk_un (by omega), pk_us]
  · rw [a2 j (by omega) (by omega) (by omega) (by omega) (by omega), pk_un (by omega), pk_un (by omega), pk_un (by omega), pk_un (by omega), pk_un (by omega)]
  · rw [a2 j (by omega) (by omega) (by omega) (by omega) (by omega), pk_un (by omega), pk_un (by omega), pk_un (by omega), pk_un (by omega), pk_un (by omega)]
  · rw [a2 14 (by omega) (by omega) (by omega) (by omega) (by omega), pk_un (by omega), pk_un (by omega), pk_un (by omega), pk_un (by omega), pk_us]
  · rw [a2 23 (by omega) (by omega) (by omega) (by omega) (by omega), pk_us]
theorem m_isW0 {s sta : AR} (h21 : s 21 = 0) {post : Int32 → AR → AR → Prop} (h : post 0 s sta) : wpX11_isWrong s sta post := by
  unfold wpX11_isWrong
  exact ⟨fun z => absurd h21 z, fun _ => h⟩
theorem m_isW1 {s sta : AR} (h21 : ¬ s 21 = 0) {post : Int32 → AR → AR → Prop} (h : post 1 (upd s 23 (s 22)) (upd sta 0 (sta 0 + 1))) : wpX11_isWrong s sta post := by
  unfold wpX11_isWrong
  exact ⟨fun _ => nm_e (nm_e h), fun z => absurd z h21⟩
theorem m_j122 {D : FL} {s td pl rg vc kd now rd sta fl mi t : AR} (hF : FlatOK D) (h21 : s 21 = 0) (hD : DM D td pl rg vc kd rd fl mi) {post : Int32 → AR → AR → AR → AR → AR → AR → AR → AR → AR → AR → AR → Prop}
    (hk : ∀ td' pl' rg' vc' kd' now' fl' mi', GRep D td' pl' rg' vc' fl' kd' mi' → FRep D now' (st0 D) → post 0 (upd (upd (upd (upd (upd s 30 (0 : Int32)) 31 (0 : Int32)) 36 (-1 : Int32)) 45 (-1 : Int32)) 48 (0 : Int32)) td' pl' rg' vc' kd' now' rd sta fl' mi') : wpX11_flat_J122 s td pl rg vc kd now rd sta fl mi t post := by
  obtain ⟨d1, d2, d3, d4⟩ := hD
  have f5 := hF.1.2.2.2.2.1
  have f6 := hF.1.2.2.2.2.2.1
  unfold wpX11_flat_J122
  refine m_isW0 h21 ⟨fun _ => ?_, fun z => absurd rfl z⟩
  refine loop_0 (fun n i (q : AR) => wpX11_flat_L136 s pl rg vc kd now rd sta fl mi t _ post n q (nI i)) (fun i q => (∀ j, j < i → q j = nI (D 0 j)) ∧ ∀ j, 7 ≤ j → q j = td j) 7 td ⟨fun j hj => absurd hj (Nat.not_lt_zero _), fun _ _ => rfl⟩ ?_ ?_
  rotate_left
  · rintro n i q hi ⟨h1, h2⟩ hnext
    show wpX11_flat_L136 s pl rg vc kd now rd sta fl mi t _ post (n + 1) q (nI i)
    unfold wpX11_flat_L136
    rw [show (7 : Int32) + nI i = nI (7 + i) from nI_add 7 i, nI_clamp (n := 7 + i) (by omega), nI_clamp (n := i) (by omega), h2 (7 + i) (by omega), d1 i hi]
    refine ⟨fun z => absurd z (nI_ge (b := 7) hi (by decide)), fun _ => ⟨vp_in_nI (by omega) (by omega), vp_in_nI (by omega) (by omega), nm_e (nm_r (nI_1 i) (hnext _ ⟨fun j hj => ?_, fun j hj => ?_⟩))⟩⟩
    · by_cases e : j = i
      · subst e; rw [pk_us]
      · rw [pk_un e]; exact h1 j (by omega)
    · rw [pk_un (by omega)]; exact h2 j hj
  rintro n td1 ⟨t1, -⟩
  show wpX11_flat_L136 s pl rg vc kd now rd sta fl mi t _ post (n + 1) td1 (nI 7)
  unfold wpX11_flat_L136
  refine ⟨fun _ => ?_, fun z => absurd (nI_le (Nat.le_refl 7) (by decide)) z⟩
  refine loop_0 (fun n i (q : AR × AR × AR × AR) => wpX11_flat_L165 s td1 kd now rd sta mi t _ post n q.1 q.2.1 q.2.2.1 q.2.2.2 (nI i)) (fun i q => (∀ j, j < i → j < D 0 2 → q.1 j = nI (D 1 j) ∧ q.2.1 j = nI (D 2 j) ∧ q.2.2.1 j = nI (D 3 j) ∧ q.2.2.2 j = nI (D 4 j)) ∧ ∀ j, 5 ≤ j → q.1 j = pl j ∧ q.2.1 j = rg j ∧ q.2.2.1 j = vc j ∧ q.2.2.2 j = fl j) 5 (pl, rg, vc, fl) ⟨fun j hj => absurd hj (Nat.not_lt_zero _), fun _ _ => ⟨rfl, rfl, rfl, rfl⟩⟩ ?_ ?_
  rotate_left
  · rintro n i ⟨q1, q2, q3, q4⟩ hi ⟨h1, h2⟩ hnext
    have h1 : ∀ j, j < i → j < D 0 2 → q1 j = nI (D 1 j) ∧ q2 j = nI (D 2 j) ∧ q3 j = nI (D 3 j) ∧ q4 j = nI (D 4 j) := h1
    have h2 : ∀ j, 5 ≤ j → q1 j = pl j ∧ q2 j = rg j ∧ q3 j = vc j ∧ q4 j = fl j := h2
    show wpX11_flat_L165 s td1 kd now rd sta mi t _ post (n + 1) q1 q2 q3 q4 (nI i)
    unfold wpX11_flat_L165
    obtain ⟨c1, c2, c3, c4⟩ := h2 (5 + i) (by omega)
    have v1 : vp_in (nI (5 + i)) 10 := vp_in_nI (by omega) (by omega)
    have v2 : vp_in (nI i) 10 := vp_in_nI (by omega) (by omega)
    rw [show (5 : Int32) + nI i = nI (5 + i) from nI_add 5 i, nI_clamp (n := 5 + i) (by omega), nI_clamp (n := i) (by omega), c1, c2, c3, c4]
    refine ⟨fun z => absurd z (nI_ge (b := 5) hi (by decide)), fun _ => ⟨v1, v2, nm_e ⟨v1, v2, nm_e ⟨v1, v2, nm_e ⟨v1, v2, nm_e (nm_r (nI_1 i) (hnext (_, _, _, _) ⟨fun j hj hj2 => ?_, fun j hj => ?_⟩))⟩⟩⟩⟩⟩
    · show upd q1 i (pl (5 + i)) j = _ ∧ upd q2 i (rg (5 + i)) j = _ ∧ upd q3 i (vc (5 + i)) j = _ ∧ upd q4 i (vp_nar .boolean (fl (5 + i))) j = _
      by_cases e : j = i
      · subst e
        have := (hF.2.1 j hj2).2.2.2.2
        obtain ⟨a1, a2, a3, a4, -⟩ := d2 j hj2
        rw [pk_us, pk_us, pk_us, pk_us, a1, a2, a3, a4, (n_bool _ (by omega)).1]; exact ⟨rfl, rfl, rfl, rfl⟩
      · rw [pk_un e, pk_un e, pk_un e, pk_un e]; exact h1 j (by omega) hj2
    · show upd q1 i (pl (5 + i)) j = _ ∧ upd q2 i (rg (5 + i)) j = _ ∧ upd q3 i (vc (5 + i)) j = _ ∧ upd q4 i (vp_nar .boolean (fl (5 + i))) j = _
      rw [pk_un (by omega), pk_un (by omega), pk_un (by omega), pk_un (by omega)]; exact h2 j hj
  rintro n ⟨pl1, rg1, vc1, fl1⟩ ⟨p1, -⟩
  have p1 : ∀ j, j < 5 → j < D 0 2 → pl1 j = nI (D 1 j) ∧ rg1 j = nI (D 2 j) ∧ vc1 j = nI (D 3 j) ∧ fl1 j = nI (D 4 j) := p1
  show wpX11_flat_L165 s td1 kd now rd sta mi t _ post (n + 1) pl1 rg1 vc1 fl1 (nI 5)
  unfold wpX11_flat_L165
  refine ⟨fun _ => ?_, fun z => absurd (nI_le (Nat.le_refl 5) (by decide)) z⟩
  refine loop_0 (fun n i (q : AR) => wpX11_flat_L234 s td1 pl1 rg1 vc1 now rd sta fl1 mi t _ post n q (nI i)) (fun i q => (∀ j, j < i → j < D 0 3 → q j = nI (D 5 j)) ∧ ∀ j, 4 ≤ j → q j = kd j) 4 kd ⟨fun j hj => absurd hj (Nat.not_lt_zero _), fun _ _ => rfl⟩ ?_ ?_
  rotate_left
  · rintro n i q hi ⟨h1, h2⟩ hnext
    show wpX11_flat_L234 s td1 pl1 rg1 vc1 now rd sta fl1 mi t _ post (n + 1) q (nI i)
    unfold wpX11_flat_L234
    rw [show (4 : Int32) + nI i = nI (4 + i) from nI_add 4 i, nI_clamp (n := 4 + i) (by omega), nI_clamp (n := i) (by omega), h2 (4 + i) (by omega)]
    refine ⟨fun z => absurd z (nI_ge (b := 4) hi (by decide)), fun _ => ⟨vp_in_nI (by omega) (by omega), vp_in_nI (by omega) (by omega), nm_e (nm_r (nI_1 i) (hnext _ ⟨fun j hj hj2 => ?_, fun j hj => ?_⟩))⟩⟩
    · by_cases e : j = i
      · subst e; rw [pk_us]; exact (d3 j hj2).1
      · rw [pk_un e]; exact h1 j (by omega) hj2
    · rw [pk_un (by omega)]; exact h2 j hj
  rintro n kd1 ⟨k1, -⟩
  show wpX11_flat_L234 s td1 pl1 rg1 vc1 now rd sta fl1 mi t _ post (n + 1) kd1 (nI 4)
  unfold wpX11_flat_L234
  refine ⟨fun _ => ?_, fun z => absurd (nI_le (Nat.le_refl 4) (by decide)) z⟩
  refine loop_0 (fun n i (q : AR) => wpX11_flat_L261 s td1 pl1 rg1 vc1 kd1 now rd sta fl1 t _ post n q (nI i)) (fun i q => (∀ j, j < i → q j = nI (D 6 j)) ∧ ∀ j, 100 ≤ j → q j = mi j) 100 mi ⟨fun j hj => absurd hj (Nat.not_lt_zero _), fun _ _ => rfl⟩ ?_ ?_
  rotate_left
  · rintro n i q hi ⟨h1, h2⟩ hnext
    show wpX11_flat_L261 s td1 pl1 rg1 vc1 kd1 now rd sta fl1 t _ post (n + 1) q (nI i)
    unfold wpX11_flat_L261
    have := hF.2.2.2 i
    rw [show (100 : Int32) + nI i = nI (100 + i) from nI_add 100 i, nI_clamp (n := 100 + i) (by omega), nI_clamp (n := i) (by omega), h2 (100 + i) (by omega), d4 i hi, (n_bool _ (by omega)).1]
    refine ⟨fun z => absurd z (nI_ge (b := 100) hi (by decide)), fun _ => ⟨vp_in_nI (by omega) (by omega), vp_in_nI (by omega) (by omega), nm_e (nm_r (nI_1 i) (hnext _ ⟨fun j hj => ?_, fun j hj => ?_⟩))⟩⟩
    · by_cases e : j = i
      · subst e; rw [pk_us]
      · rw [pk_un e]; exact h1 j (by omega)
    · rw [pk_un (by omega)]; exact h2 j hj
  rintro n mi1 ⟨m1, -⟩
  show wpX11_flat_L261 s td1 pl1 rg1 vc1 kd1 now rd sta fl1 t _ post (n + 1) mi1 (nI 100)
  unfold wpX11_flat_L261
  refine ⟨fun _ => ?_, fun z => absurd (nI_le (Nat.le_refl 100) (by decide)) z⟩
  refine m_be (by decide) (fun now1 hn => ?_)
  refine hk _ _ _ _ _ _ _ _ ⟨t1, fun t ht => (p1 t (by omega) ht).1, fun t ht => (p1 t (by omega) ht).2.1, fun t ht => (p1 t (by omega) ht).2.2.1, fun t ht => (p1 t (by omega) ht).2.2.2, fun w hw => k1 w (by omega) hw, m1⟩ (st0_rep hF (fun w hw => ?_) (fun t ht => ?_))
  · rw [hn _ (by omega), hn _ (by omega), hn _ (by omega), hn _ (by omega), hn _ (by omega), hn _ (by omega), Nat.mul_comm w 6]
    exact (d3 w hw).2
  · rw [hn _ (by omega)]; exact (d2 t ht).2.2.2.2
theorem m_flat {tx : Nat → Nat} {N T : Nat} {s td pl rg vc kd now rd sta fl mi t : AR} (ht : TxM tx N t) (h14 : s 14 = nI T) (hT : T ≤ 500) (hN : N ≤ T) {post : Int32 → AR → AR → AR → AR → AR → AR → AR → AR → AR → AR → AR → Prop}
    (h1 : ∀ D', aText tx N 501 0 D0 0 = .inr D' → DOK D' → ∀ s' td' pl' rg' vc' kd' now' rd' fl' mi', s' 2 = 0 → s' 14 = 0 → s' 23 = -1 → s' 30 = 0 → s' 31 = 0 → s' 36 = -1 → s' 45 = -1 → s' 48 = 0 → GRep D' td' pl' rg' vc' fl' kd' mi' → FRep D' now' (st0 D') → post 0 s' td' pl' rg' vc' kd' now' rd' sta fl' mi')
    (h0 : ∀ k b, aText tx N 501 0 D0 0 = .inl (k, b) → ∀ s' td' pl' rg' vc' kd' rd' fl' mi', s' 2 = 0 → s' 14 = 0 → s' 23 = nI b → (∀ j, 24 ≤ j → s' j = s j) → LF td pl rg vc kd fl mi td' pl' rg' vc' kd' fl' mi' → post (nI k) s' td' pl' rg' vc' kd' now rd' (upd sta 0 (sta 0 + 1)) fl' mi') : wpX11_flat s td pl rg vc kd now rd sta fl mi t (nI N) post := by
  have hN5 := ht.1
  unfold wpX11_flat
  refine m_begin ht (by rw [pk_un (by omega)]; exact h14) hT hN (fun s7 r1 r2 r3 => ⟨fun _ => ?_, fun z => absurd z (by decide)⟩)
  refine loop_0 (fun n i (q : AR) => wpX11_flat_L22 s7 pl rg vc kd now rd sta fl mi t _ post n q (nI (7 + i))) (fun i q => (∀ j, j < i → q (7 + j) = nI (D0 0 j)) ∧ Lo 7 td q) 7 td ⟨fun j hj => absurd hj (Nat.not_lt_zero _), Lo.rf⟩ ?_ ?_
  rotate_left
  · rintro n i q hi ⟨g1, g2⟩ hnext
    show wpX11_flat_L22 s7 pl rg vc kd now rd sta fl mi t _ post (n + 1) q (nI (7 + i))
    unfold wpX11_flat_L22 wpX11_flat_J45
    rw [nI_clamp (by omega), show ((9 : Int32) ≤ nI (7 + i)) = (9 ≤ 7 + i) from propext (nI_leI (a := 9) (by omega) (by omega))]
    have st : ∀ v, v = nI (D0 0 i) → (∀ j, j < i + 1 → upd q (7 + i) v (7 + j) = nI (D0 0 j)) ∧ Lo 7 td (upd q (7 + i) v) := by
      intro v hv
      refine ⟨fun j hj => ?_, g2.up (by omega)⟩
      by_cases e : j = i
      · subst e; rw [pk_us, hv]
      · rw [pk_un (by omega)]; exact g1 j (by omega)
    refine ⟨fun z => absurd z (nI_ge (b := 14) (by omega) (by decide)), fun _ => ⟨fun e => ⟨vp_in_nI (by omega) (by omega), nm_e (nm_r (nI_1 _) (hnext _ (st _ ?_)))⟩, fun e => ⟨vp_in_nI (by omega) (by omega), nm_e (nm_r (nI_1 _) (hnext _ (st _ ?_)))⟩⟩⟩
    · unfold D0; rw [if_neg (by omega)]; rfl
    · unfold D0; rw [if_pos (by omega)]; rfl
  rintro n td1 ⟨t1, t2⟩
  show wpX11_flat_L22 s7 pl rg vc kd now rd sta fl mi t _ post (n + 1) td1 (nI 14)
  unfold wpX11_flat_L22
  refine ⟨fun _ => ?_, fun z => absurd (nI_le (Nat.le_refl 14) (by decide)) z⟩
  refine loop_0 (fun n i (q : AR) => wpX11_flat_L54 s7 td1 pl rg vc kd now rd sta fl t _ post n q (nI i)) (fun i q => (∀ j, j < i → q (100 + j) = nI 0) ∧ Lo 100 mi q) 100 mi ⟨fun j hj => absurd hj (Nat.not_lt_zero _), Lo.rf⟩ ?_ ?_
  rotate_left
  · rintro n i q hi ⟨g1, g2⟩ hnext
    show wpX11_flat_L54 s7 td1 pl rg vc kd now rd sta fl t _ post (n + 1) q (nI i)
    unfold wpX11_flat_L54
    rw [show (100 : Int32) + nI i = nI (100 + i) from nI_add 100 i, nI_clamp (by omega)]
    refine ⟨fun z => absurd z (nI_ge (b := 100) hi (by decide)), fun _ => ⟨vp_in_nI (by omega) (by omega), nm_e (nm_r (nI_1 i) (hnext _ ⟨fun j hj => ?_, g2.up (by omega)⟩))⟩⟩
    by_cases e : j = i
    · subst e; rw [pk_us]; rfl
    · rw [pk_un (by omega)]; exact g1 j (by omega)
  rintro n mi1 ⟨m1, m2⟩
  show wpX11_flat_L54 s7 td1 pl rg vc kd now rd sta fl t _ post (n + 1) mi1 (nI 100)
  unfold wpX11_flat_L54
  refine ⟨fun _ => ?_, fun z => absurd (nI_le (Nat.le_refl 100) (by decide)) z⟩
  refine loop_0 (fun n i (q : AR) => wpX11_flat_L78 s7 td1 pl rg vc kd now sta fl mi1 t _ post n q (nI i)) (fun i q => True) 29 rd trivial ?_ ?_
  rotate_left
  · rintro n i q hi - hnext
    show wpX11_flat_L78 s7 td1 pl rg vc kd now sta fl mi1 t _ post (n + 1) q (nI i)
    unfold wpX11_flat_L78
    exact ⟨fun z => absurd z (nI_ge (b := 29) hi (by decide)), fun _ => ⟨vp_in_nI (by omega) (by omega), nm_e (nm_r (nI_1 i) (hnext _ trivial))⟩⟩
  rintro n rd1 -
  show wpX11_flat_L78 s7 td1 pl rg vc kd now sta fl mi1 t _ post (n + 1) rd1 (nI 29)
  unfold wpX11_flat_L78
  refine ⟨fun _ => ?_, fun z => absurd (nI_le (Nat.le_refl 29) (by decide)) z⟩
  have hD0 : DM D0 td1 pl rg vc kd rd1 fl mi1 := by
    refine ⟨t1, fun t ht => ?_, fun w hw => ?_, fun c hc => ?_⟩
    · exact absurd (show t < 0 from ht) (by omega)
    · exact absurd (show w < 0 from hw) (by omega)
    · rw [m1 c hc]
      unfold D0
      rw [if_neg (by omega)]
  have hL0 : LF td pl rg vc kd fl mi td1 pl rg vc kd fl mi1 := ⟨t2, Lo.rf, Lo.rf, Lo.rf, Lo.rf, Lo.rf, m2⟩
  have s72 : s7 2 = 0 := (r3.1 2 (by omega)).trans pk_us
  have s7h : ∀ j, 24 ≤ j → s7 j = s j := fun j hj => (r3.2.1 j hj).trans (pk_un (by omega))
  have endB : ∀ k b, aText tx N 501 0 D0 0 = .inl (k, b) → ∀ s' td' pl' rg' vc' kd' rd' fl' mi', BdM s7 k b s' → LF td pl rg vc kd fl mi td' pl' rg' vc' kd' fl' mi' → wpX11_flat_J122 s' td' pl' rg' vc' kd' now rd' sta fl' mi' t post := by
    intro k b er s' td' pl' rg' vc' kd' rd' fl' mi' a1 a2
    unfold wpX11_flat_J122
    have f : ∀ j, j < 15 ∨ 23 ≤ j → s' j = s7 j := fun j hj => a1.2.2.2 j (by omega) (by omega) (by omega) (by omega) (by omega) (by omega) (by omega)
    refine m_isW1 a1.bad ⟨fun z => absurd z (by decide), fun _ => ?_⟩
    rw [pk_un (by omega), a1.2.1]
    refine h0 k b er _ _ _ _ _ _ _ _ _ ?_ ?_ ?_ (fun j hj => ?_) a2
    · rw [pk_un (by omega), f 2 (by omega)]; exact s72
    · rw [pk_un (by omega), f 14 (by omega)]; exact r3.2.2.1
    · rw [pk_us]; exact a1.2.2.1
    · rw [pk_un (by omega), f j (by omega)]; exact s7h j hj
  refine loop_m (fun n (q : (Nat × Nat × FL × Nat) × AR × AR × AR × AR × AR × AR × AR × AR × AR × Int32) => wpX11_flat_L99 now sta t _ post n q.2.1 q.2.2.1 q.2.2.2.1 q.2.2.2.2.1 q.2.2.2.2.2.1 q.2.2.2.2.2.2.1 q.2.2.2.2.2.2.2.1 q.2.2.2.2.2.2.2.2.1 q.2.2.2.2.2.2.2.2.2.1 q.2.2.2.2.2.2.2.2.2.2)
    (fun q => LF td pl rg vc kd fl mi q.2.2.1 q.2.2.2.1 q.2.2.2.2.1 q.2.2.2.2.2.1 q.2.2.2.2.2.2.1 q.2.2.2.2.2.2.2.2.1 q.2.2.2.2.2.2.2.2.2.1 ∧ ((q.1.1 ≤ N ∧ N < q.1.1 + q.1.2.1 ∧ aText tx N 501 0 D0 0 = aText tx N q.1.2.1 q.1.1 q.1.2.2.1 q.1.2.2.2 ∧ DOK q.1.2.2.1 ∧ DM q.1.2.2.1 q.2.2.1 q.2.2.2.1 q.2.2.2.2.1 q.2.2.2.2.2.1 q.2.2.2.2.2.2.1 q.2.2.2.2.2.2.2.1 q.2.2.2.2.2.2.2.2.1 q.2.2.2.2.2.2.2.2.2.1 ∧ q.1.2.2.2 < 16 ∧ (q.1.2.2.2 = 0 → q.1.2.2.1 0 2 = 0 ∧ q.1.2.2.1 0 3 = 0) ∧ q.2.2.2.2.2.2.2.2.2.2 = nI q.1.2.2.2 ∧ RdM tx N q.1.1 q.2.1 ∧ q.2.1 21 = 0 ∧ FrS s7 q.2.1) ∨ ∃ k b, aText tx N 501 0 D0 0 = .inl (k, b) ∧ BdM s7 k b q.2.1)) (fun q => q.1.2.1) ?_ ((0, 501, D0, 0), s7, td1, pl, rg, vc, kd, rd1, fl, mi1, 0) ⟨hL0, Or.inl ⟨Nat.zero_le _, by show N < 0 + 501; omega, rfl, D0_ok, hD0, by show 0 < 16; omega, fun _ => ⟨rfl, rfl⟩, rfl, r1, r2, FrS.rfl'⟩⟩
  rintro n ⟨⟨p, f, D, sn⟩, s1, td2, pl2, rg2, vc2, kd2, rd2, fl2, mi2, l2⟩ ⟨hl, hc⟩ hnext
  have hl : LF td pl rg vc kd fl mi td2 pl2 rg2 vc2 kd2 fl2 mi2 := hl
  show wpX11_flat_L99 now sta t _ post (n + 1) s1 td2 pl2 rg2 vc2 kd2 rd2 fl2 mi2 l2
  unfold wpX11_flat_L99
  rcases hc with ⟨k1, k2, k3, k4, k5, k6, k7, k8, k9, k10, k11⟩ | ⟨k, b, er, hb⟩
  · have k8 : l2 = nI sn := k8
    subst k8
    have k1' : p ≤ N := k1
    have k2' : N < p + f := k2
    obtain ⟨f, rfl⟩ : ∃ k, f = k + 1 := ⟨f - 1, by omega⟩
    have k1 : p ≤ N := k1
    have k2 : N < p + (f + 1) := k2
    have k3 : aText tx N 501 0 D0 0 = aText tx N (f + 1) p D sn := k3
    have k4 : DOK D := k4
    have k5 : DM D td2 pl2 rg2 vc2 kd2 rd2 fl2 mi2 := k5
    have k6 : sn < 16 := k6
    have k7 : sn = 0 → D 0 2 = 0 ∧ D 0 3 = 0 := k7
    have k9 : RdM tx N p s1 := k9
    have k10 : s1 21 = 0 := k10
    have k11 : FrS s7 s1 := k11
    rw [aText_n tx N f p D sn] at k3
    have hK := tK_le tx N p
    have r17 : s1 17 = nI (tK tx N p) := k9.2.2.2.2.1
    rw [r17, show (nI (tK tx N p) = (0 : Int32)) = (tK tx N p = 0) from propext (nI_eq (b := 0) (by omega) (by omega))]
    have f1 : ∀ j, j < 15 ∨ 21 ≤ j → s1 j = s7 j := fun j hj => k11 j (by omega) (by omega) (by omega) (by omega) (by omega)
    refine ⟨fun z => absurd k10 z, fun _ => ⟨fun e => ?_, fun e => ?_⟩⟩
    · rw [if_pos e] at k3
      refine m_j122 k4.1 k10 k5 (fun td' pl' rg' vc' kd' now' fl' mi' a1 a2 => ?_)
      refine h1 D k3 k4 _ _ _ _ _ _ _ _ _ _ ?_ ?_ ?_ ?_ ?_ ?_ ?_ ?_ a1 a2
      · rw [pk_un (by omega), pk_un (by omega), pk_un (by omega), pk_un (by omega), pk_un (by omega), f1 2 (by omega)]; exact s72
      · rw [pk_un (by omega), pk_un (by omega), pk_un (by omega), pk_un (by omega), pk_un (by omega), f1 14 (by omega)]; exact r3.2.2.1
      · rw [pk_un (by omega), pk_un (by omega), pk_un (by omega), pk_un (by omega), pk_un (by omega), f1 23 (by omega)]; exact r3.2.2.2
      · rw [pk_un (by omega), pk_un (by omega), pk_un (by omega), pk_un (by omega), pk_us]
      · rw [pk_un (by omega), pk_un (by omega), pk_un (by omega), pk_us]
      · rw [pk_un (by omega), pk_un (by omega), pk_us]
      · rw [pk_un (by omega), pk_us]
      · rw [pk_us]
    · rw [if_neg e] at k3
      refine m_readLine ht k1 e k9 k10 k4 k7 k5 k6 (fun p' D' er ok hlt hle s' td' pl' rg' vc' kd' rd' fl' mi' a1 a2 a3 a4 a5 => ?_) (fun k b er r s' td' pl' rg' vc' kd' rd' fl' mi' a1 a2 => ?_)
      · rw [er] at k3
        obtain ⟨n1, n2⟩ := sn_next (tx := tx) (N := N) (p := p) k6
        exact hnext ((p', f, D', sn ||| lnB tx N p), s', td', pl', rg', vc', kd', rd', fl', mi', nI (sn ||| lnB tx N p)) ⟨hl.tr a5, Or.inl ⟨hle, by show N < p' + f; omega, k3, ok, a4, n1, fun z => absurd z n2, rfl, a1, a2, k11.trans a3⟩⟩ (Nat.lt_succ_self f)
      · rw [er] at k3
        exact hnext ((0, 0, D, sn), s', td', pl', rg', vc', kd', rd', fl', mi', r) ⟨hl.tr a2, Or.inr ⟨k, b, k3, a1.pre k11⟩⟩ (Nat.succ_pos f)
  · have hb : BdM s7 k b s1 := hb
    exact ⟨fun _ => endB k b er _ _ _ _ _ _ _ _ _ hb hl, fun z => absurd z hb.bad⟩
