/-! one walker: x 0 cell, x 1 water, x 2 heading, x 3 how, x 4 followed (and 1), x 5 turns -/
def WRep (F : AR) (b : Nat) (x : Nat → Nat) : Prop := F (b + 0) = nI (x 0) ∧ F (b + 1) = nI (x 1) ∧ F (b + 2) = nI (x 2) ∧ F (b + 3) = nI (x 3) ∧ F (b + 4) = tI (x 4) ∧ F (b + 5) = nI (x 5)
def WOK (P : FL) (n : Nat) (x : Nat → Nat) : Prop := x 0 < P 0 0 * P 0 1 ∧ x 1 ≤ 99 ∧ x 2 < 4 ∧ x 3 ≤ 3 ∧ x 4 ≤ P 0 2 ∧ x 5 ≤ n
/-- whom one follows: 0 he stays, 1 nobody, else a tower and 2 -/
def chs (P : FL) (m kd c fo : Nat) : Nat := if kd = 2 ∧ twoB P (fun t => bts m t && hd P t c) (P 0 2) = true then 0 else if kd = 1 ∧ fo ≠ 0 ∧ nr P (m &&& vmk P (P 3 (fo - 1))) c ≠ 0 then nr P (m &&& vmk P (P 3 (fo - 1))) c + 1 else nr P m c + 1
def cI : Nat → Int32
  | 0 => -nI 2
  | k + 1 => tI k
theorem chs_le (P : FL) (m kd c fo : Nat) : chs P m kd c fo ≤ P 0 2 + 1 := by
  unfold chs
  have h1 := nr_le P m c
  have h2 := nr_le P (m &&& vmk P (P 3 (fo - 1))) c
  split
  · omega
  · split <;> omega
def tnW (x : Nat → Nat) : Nat → Nat := fun f => if f = 5 then x 5 + 1 else x f
def gS (P : FL) (k : Nat) (x : Nat → Nat) : Nat → Nat := fun f => if f = 0 then pcC P (x 0) (x 2) k else if f = 2 then pcH P (x 0) (x 2) k else if f = 3 then hwE P (pcC P (x 0) (x 2) k) k else if f = 4 then (if k = 0 then x 4 else k) else if f = 5 then x 5 + 1 else x f
def gW (P : FL) (m kd : Nat) (x : Nat → Nat) : Nat → Nat := if kd = 3 ∧ x 5 % 2 = 0 then tnW x else if chs P m kd (x 0) (x 4) = 0 then tnW x else gS P (chs P m kd (x 0) (x 4) - 1) x
def gR (P : FL) (m kd : Nat) (x : Nat → Nat) : Int32 := if kd = 3 ∧ x 5 % 2 = 0 then -nI 3 else if chs P m kd (x 0) (x 4) ≤ 1 then -nI 2 else nI (chs P m kd (x 0) (x 4) - 2)
def flW (x : Nat → Nat) : Nat → Nat := fun f => if f = 3 then 3 else if f = 5 then x 5 + 1 else x f
def drW (kd : Nat) (x : Nat → Nat) : Nat → Nat := fun f => if kd ≠ 4 ∧ f = 1 then x 1 - 1 else x f
def hW (P : FL) (m kd : Nat) (x : Nat → Nat) : Nat → Nat := if x 3 ≠ 0 then x else if kd ≠ 4 ∧ x 1 = 0 then flW x else gW P m kd (drW kd x)
def hR (P : FL) (m kd : Nat) (x : Nat → Nat) : Int32 := if x 3 ≠ 0 then -nI 3 else if kd ≠ 4 ∧ x 1 = 0 then -nI 3 else gR P m kd (drW kd x)
theorem hwE_le (P : FL) (c k : Nat) : hwE P c k ≤ 2 := by
  unfold hwE
  split
  · split <;> omega
  · omega
theorem gS_ok {P : FL} (hF : FlatOK P) {n k : Nat} {x : Nat → Nat} (hx : WOK P n x) (hk : k ≤ P 0 2) : WOK P (n + 1) (gS P k x) := by
  obtain ⟨h0, h1, h2, h3, h4, h5⟩ := hx
  refine ⟨pcC_lt hF h0 _ _, h1, pcH_lt _ _ _ h2, Nat.le_trans (hwE_le _ _ _) (by omega), ?_, ?_⟩
  · show (if k = 0 then x 4 else k) ≤ _
    split <;> omega
  · show x 5 + 1 ≤ _
    omega
theorem tnW_ok {P : FL} {n : Nat} {x : Nat → Nat} (hx : WOK P n x) : WOK P (n + 1) (tnW x) := by
  obtain ⟨h0, h1, h2, h3, h4, h5⟩ := hx
  exact ⟨h0, h1, h2, h3, h4, Nat.succ_le_succ h5⟩
theorem gW_ok {P : FL} (hF : FlatOK P) {n m kd : Nat} {x : Nat → Nat} (hx : WOK P n x) : WOK P (n + 1) (gW P m kd x) := by
  unfold gW
  split
  · exact tnW_ok hx
  · split
    · exact tnW_ok hx
    · have := chs_le P m kd (x 0) (x 4)
      exact gS_ok hF hx (by omega)
theorem hW_ok {P : FL} (hF : FlatOK P) {n m kd : Nat} {x : Nat → Nat} (hx : WOK P n x) : WOK P (n + 1) (hW P m kd x) := by
  unfold hW
  have hx2 := hx
  obtain ⟨h0, h1, h2, h3, h4, h5⟩ := hx
  split
  · exact ⟨h0, h1, h2, h3, h4, Nat.le_succ_of_le h5⟩
  · split
    · exact ⟨h0, h1, h2, Nat.le_refl 3, h4, Nat.succ_le_succ h5⟩
    · refine gW_ok hF ⟨?_, ?_, ?_, ?_, ?_, ?_⟩
      · show (if kd ≠ 4 ∧ 0 = 1 then _ else x 0) < _
        rw [if_neg (by omega)]; exact h0
      · show (if kd ≠ 4 ∧ 1 = 1 then x 1 - 1 else x 1) ≤ 99
        split <;> omega
      · show (if kd ≠ 4 ∧ 2 = 1 then _ else x 2) < _
        rw [if_neg (by omega)]; exact h2
      · show (if kd ≠ 4 ∧ 3 = 1 then _ else x 3) ≤ _
        rw [if_neg (by omega)]; exact h3
      · show (if kd ≠ 4 ∧ 4 = 1 then _ else x 4) ≤ _
        rw [if_neg (by omega)]; exact h4
      · show (if kd ≠ 4 ∧ 5 = 1 then _ else x 5) ≤ _
        rw [if_neg (by omega)]; exact h5
/-! the class's choice and going -/
theorem c_choose {P : FL} {F kd hA E ov ak : AR} (hF : FlatOK P) (hE : EarsOK P hA E ov ak) {w m n : Nat} {x : Nat → Nat} (hw : w < 4) (hkd : kd w = nI (P 5 w)) (hk5 : P 5 w < 5) (hm : m < 2 ^ P 0 2) (hx : WRep F (w * 6) x) (hok : WOK P n x) {post : Int32 → Prop} (h : post (cI (chs P m (P 5 w) (x 0) (x 4)))) : wpX3_choose F kd hA E ov ak (nI w) (nI m) post := by
  have fc := hF.cells
  have f5 := hF.1.2.2.2.2.1
  obtain ⟨o0, o1, o2, o3, o4, o5⟩ := hok
  obtain ⟨x0, x1, x2, x3, x4, x5⟩ := hx
  have h39 : ¬ (P 5 w = 2 ∧ twoB P (fun t => bts m t && hd P t (x 0)) (P 0 2) = true) → wpX3_choose_J39 F kd hA E ov ak (nI w) (nI m) (nI (x 0)) (nI (P 5 w)) post := by
    intro n2
    unfold chs at h
    rw [if_neg n2] at h
    have h79 : ¬ (P 5 w = 1 ∧ x 4 ≠ 0 ∧ nr P (m &&& vmk P (P 3 (x 4 - 1))) (x 0) ≠ 0) → wpX3_choose_J79 F kd hA E ov ak (nI m) (nI (x 0)) post := by
      intro n3
      rw [if_neg n3] at h
      unfold wpX3_choose_J79
      exact c_nearestOf hF hE hm o0 h
    unfold wpX3_choose_J39 wpX3_of
    simp (disch := omega) only [x4, n_lit, nI_add, pk_mul, pk_sub, n_cl, n_in, n_rem, pk_div, nI_leI, nI_ltI, nI_eq, n_eqneg, n_negeq, n_ltneg, n_neglt, n_leneg, n_negle, n_negneg, forall_eq, true_and, and_true, not_true_eq_false, not_false_eq_true, false_implies, true_implies, implies_true, and_self]
    refine ⟨fun e => h79 (fun q => e q.1), fun e => ?_⟩
    rw [tI_neg (by omega)]
    refine ⟨fun e1 => h79 (fun q => q.2.1 e1), fun e1 => ?_⟩
    obtain ⟨t, ht⟩ : ∃ t, x 4 = t + 1 := ⟨x 4 - 1, by omega⟩
    rw [ht] at h h79 o4 ⊢
    refine c_nearestLike hF hE (t := t) (by omega) hm o0 ?_
    have hle := nr_le P (m &&& vmk P (P 3 t)) (x 0)
    rw [tI_neg (by omega)]
    refine ⟨fun e2 => h79 (fun q => q.2.2 e2), fun e2 => ?_⟩
    rw [if_pos ⟨e, by omega, e2⟩] at h
    exact h
  unfold wpX3_choose wpX3_of
  simp (disch := omega) only [x0, hkd, n_lit, nI_add, pk_mul, pk_sub, n_cl, n_in, n_rem, pk_div, nI_leI, nI_ltI, nI_eq, n_eqneg, n_negeq, n_ltneg, n_neglt, n_leneg, n_negle, n_negneg, forall_eq, true_and, and_true, not_true_eq_false, not_false_eq_true, false_implies, true_implies, implies_true, and_self]
  refine ⟨fun e => h39 (fun q => e q.1), fun e => ?_⟩
  refine c_confuse hF hE hm o0 ?_
  by_cases e2 : twoB P (fun t => bts m t && hd P t (x 0)) (P 0 2) = true
  · rw [if_pos e2]
    refine ⟨fun z => absurd z (by decide), fun _ => ?_⟩
    unfold chs at h
    rw [if_pos ⟨e, e2⟩] at h
    exact h
  · rw [if_neg e2]
    refine ⟨fun _ => h39 (fun q => e2 q.2), fun z => absurd rfl z⟩
theorem tI_ne2 {k : Nat} (h : k < 2 ^ 31) : ¬ tI k = (-2 : Int32) := by
  rw [show (-2 : Int32) = -nI 2 from rfl]
  cases k with
  | zero => rw [show tI 0 = -nI 1 from rfl, n_negneg (by omega) (by omega)]; omega
  | succ k => rw [show tI (k + 1) = nI k from rfl, n_eqneg (by omega) (by omega) (by omega)]; exact fun z => z
/-- a row changed at one walker alone -/
def FrW (b : Nat) (F F' : AR) : Prop := ∀ j, (j < b ∨ b + 6 ≤ j) → F' j = F j
theorem FrW.upd {b : Nat} {F F' : AR} (h : FrW b F F') {i : Nat} {v : Int32} (h1 : b ≤ i) (h2 : i < b + 6) : FrW b F (upd F' i v) := fun j hj => by rw [pk_un (by omega)]; exact h j hj
theorem FrW.rfl {b : Nat} {F : AR} : FrW b F F := fun _ _ => by rfl
theorem c_go {P : FL} {F fl kd hA E ov ak nx wy gl : AR} (hF : FlatOK P) (hE : EarsOK P hA E ov ak) (hW : FeetOK P nx wy gl) (hfl : ∀ t, t < P 0 2 → fl t = nI (P 4 t)) {w m n : Nat} {x : Nat → Nat} (hw : w < 4) (hkd : kd w = nI (P 5 w)) (hk5 : P 5 w < 5) (hm : m < 2 ^ P 0 2) (hx : WRep F (w * 6) x) (hok : WOK P n x) (hn : n < 2 ^ 30) (hout : x 3 = 0) {post : Int32 → AR → Prop} (hk : ∀ F', WRep F' (w * 6) (gW P m (P 5 w) x) → FrW (w * 6) F F' → post (gR P m (P 5 w) x) F') : wpX3_go F fl kd hA E ov ak nx wy gl (nI w) (nI m) post := by
  have fc := hF.cells
  have f5 := hF.1.2.2.2.2.1
  have hok2 := hok
  obtain ⟨o0, o1, o2, o3, o4, o5⟩ := hok
  obtain ⟨x0, x1, x2, x3, x4, x5⟩ := hx
  have w49 : WRep (upd F (w * 6 + 5) (nI (x 5 + 1))) (w * 6) (tnW x) := ⟨by rw [pk_un (by omega)]; exact x0, by rw [pk_un (by omega)]; exact x1, by rw [pk_un (by omega)]; exact x2, by rw [pk_un (by omega)]; exact x3, by rw [pk_un (by omega)]; exact x4, by rw [pk_us]; rfl⟩
  have ix : ∀ j, nI (w * 6) + nI j = nI (w * 6 + j) := fun j => nI_add _ _
  have j36b : (P 5 w = 3 ∧ x 5 % 2 = 0) → wpX3_go_J36 F fl kd hA E ov ak nx wy gl (nI w) (nI m) (nI (w * 6)) (1 : Int32) post := by
    intro n3
    unfold gW gR at hk
    simp only [if_pos n3] at hk
    unfold wpX3_go_J36
    rw [show nI (w * 6) + (5 : Int32) = nI (w * 6 + 5) from ix 5, nI_clamp (by omega), x5, show nI (x 5) + (1 : Int32) = nI (x 5 + 1) from nI_1 _]
    refine ⟨vp_in_nI (by omega) (by omega), vp_in_nI (by omega) (by omega), nm_e ⟨fun z => absurd z (by decide), fun _ => ?_⟩⟩
    exact hk _ w49 (FrW.rfl.upd (by omega) (by omega))
  have j36a : ¬ (P 5 w = 3 ∧ x 5 % 2 = 0) → wpX3_go_J36 F fl kd hA E ov ak nx wy gl (nI w) (nI m) (nI (w * 6)) (0 : Int32) post := by
    intro n3
    unfold gW gR at hk
    simp only [if_neg n3] at hk
    unfold wpX3_go_J36
    rw [show nI (w * 6) + (5 : Int32) = nI (w * 6 + 5) from ix 5, nI_clamp (by omega), x5, show nI (x 5) + (1 : Int32) = nI (x 5 + 1) from nI_1 _]
    refine ⟨vp_in_nI (by omega) (by omega), vp_in_nI (by omega) (by omega), nm_e ⟨fun _ => ?_, fun z => absurd rfl z⟩⟩
    refine c_choose hF hE hw hkd hk5 hm w49 (tnW_ok hok2) ?_
    rw [show tnW x 0 = x 0 from rfl, show tnW x 4 = x 4 from rfl]
    have hle := chs_le P m (P 5 w) (x 0) (x 4)
    generalize chs P m (P 5 w) (x 0) (x 4) = q at hk hle ⊢
    have z0 : nI (w * 6) + (0 : Int32) = nI (w * 6 + 0) := ix 0
    have z2 : nI (w * 6) + (2 : Int32) = nI (w * 6 + 2) := ix 2
    have z3 : nI (w * 6) + (3 : Int32) = nI (w * 6 + 3) := ix 3
    have z4 : nI (w * 6) + (4 : Int32) = nI (w * 6 + 4) := ix 4
    cases q with
    | zero =>
      refine ⟨fun z => absurd rfl z, fun _ => ?_⟩
      exact hk _ w49 (FrW.rfl.upd (by omega) (by omega))
    | succ k =>
      rw [show cI (k + 1) = tI k from rfl, if_neg (by omega)] at *
      refine ⟨fun _ => ?_, fun z => absurd z (tI_ne2 (by omega))⟩
      rw [z0, z2, nI_clamp (by omega), nI_clamp (by omega), w49.1, w49.2.2.1]
      refine ⟨vp_in_nI (by omega) (by omega), vp_in_nI (by omega) (by omega), c_pace hF hW o0 o2 (by omega) ?_⟩
      have hcl := pcC_lt hF o0 (x 2) k
      have hhl := pcH_lt P (x 0) k o2
      refine c_cellOf (by omega) hhl ⟨vp_in_nI (by omega) (by omega), nm_e (c_headingOf (by omega) hhl ⟨vp_in_nI (by omega) (by omega), nm_e ?_⟩)⟩
      rw [show (0 : Int32) = nI 0 from rfl, tI_pos (by omega)]
      refine ⟨fun e => ?_, fun e => ?_⟩
      · obtain ⟨t, rfl⟩ : ∃ t, k = t + 1 := ⟨k - 1, by omega⟩
        rw [z4, nI_clamp (by omega)]
        refine ⟨vp_in_nI (by omega) (by omega), nm_e ⟨vp_in_nI (by omega) (by omega), ?_⟩⟩
        rw [pk_un (by omega), pk_un (by omega), pk_us]
        refine c_isAt hF hW hcl (by omega) ?_
        have hk2 := fun F' => hk F'
        by_cases ea : atT P (pcC P (x 0) (x 2) (t + 1)) (t + 1) = true
        · rw [if_pos ea]
          refine ⟨fun z => absurd z (by decide), fun _ => ?_⟩
          rw [show tI (t + 1) = nI t from rfl, nI_clamp (by omega), hfl t (by omega)]
          have g4 := (hF.2.1 t (by omega)).2.2.2.2
          have fin : ∀ v : Nat, v = hwE P (pcC P (x 0) (x 2) (t + 1)) (t + 1) → ∀ F2 : AR, F2 = upd (upd (upd (upd F (w * 6 + 5) (nI (x 5 + 1))) (w * 6 + 0) (nI (pcC P (x 0) (x 2) (t + 1)))) (w * 6 + 2) (nI (pcH P (x 0) (x 2) (t + 1)))) (w * 6 + 4) (nI t) → ∀ y : Int32, y = nI v → wpX3_go_J192 F2 fl kd hA E ov ak nx wy gl (nI t) (nI (w * 6) + (3 : Int32)) y post := by
            intro v hv F2 h2 y hy
            subst h2 hy
            unfold wpX3_go_J192
            rw [z3, nI_clamp (by omega)]
            refine ⟨vp_in_nI (by omega) (by omega), nm_e ?_⟩
            have hk3 := hk (upd (upd (upd (upd (upd F (w * 6 + 5) (nI (x 5 + 1))) (w * 6 + 0) (nI (pcC P (x 0) (x 2) (t + 1)))) (w * 6 + 2) (nI (pcH P (x 0) (x 2) (t + 1)))) (w * 6 + 4) (nI t)) (w * 6 + 3) (nI v)) ?_ (((((FrW.rfl.upd (by omega) (by omega)).upd (by omega) (by omega)).upd (by omega) (by omega)).upd (by omega) (by omega)).upd (by omega) (by omega))
            · rw [if_neg (by omega)] at hk3
              exact hk3
            · refine ⟨?_, ?_, ?_, ?_, ?_, ?_⟩
              · rw [pk_un (by omega), pk_un (by omega), pk_un (by omega), pk_us]; rfl
              · rw [pk_un (by omega), pk_un (by omega), pk_un (by omega), pk_un (by omega), pk_un (by omega), x1]; rfl
              · rw [pk_un (by omega), pk_un (by omega), pk_us]; rfl
              · rw [pk_us, hv]; rfl
              · rw [pk_un (by omega), pk_us]; rfl
              · rw [pk_un (by omega), pk_un (by omega), pk_un (by omega), pk_un (by omega), pk_us]; rfl
          refine ⟨vp_in_nI (by omega) (by omega), fun e4 => fin 1 ?_ _ rfl _ rfl, fun e4 => fin 2 ?_ _ rfl _ rfl⟩
          · unfold hwE
            rw [if_pos ea, show t + 1 - 1 = t from rfl, if_pos ((nI_eq (b := 0) (by omega) (by omega)).mp e4)]
          · unfold hwE
            rw [if_pos ea, if_neg (fun q => e4 (by rw [show P 4 t = 0 from q]))]
        · rw [if_neg ea]
          refine ⟨fun _ => ?_, fun z => absurd rfl z⟩
          have hk3 := hk (upd (upd (upd (upd F (w * 6 + 5) (nI (x 5 + 1))) (w * 6 + 0) (nI (pcC P (x 0) (x 2) (t + 1)))) (w * 6 + 2) (nI (pcH P (x 0) (x 2) (t + 1)))) (w * 6 + 4) (nI t)) ?_ ((((FrW.rfl.upd (by omega) (by omega)).upd (by omega) (by omega)).upd (by omega) (by omega)).upd (by omega) (by omega))
          · rw [if_neg (by omega)] at hk3
            exact hk3
          · refine ⟨?_, ?_, ?_, ?_, ?_, ?_⟩
            · rw [pk_un (by omega), pk_un (by omega), pk_us]; rfl
            · rw [pk_un (by omega), pk_un (by omega), pk_un (by omega), pk_un (by omega), x1]; rfl
            · rw [pk_un (by omega), pk_us]; rfl
            · rw [pk_un (by omega), pk_un (by omega), pk_un (by omega), pk_un (by omega), x3, hout]
              show nI 0 = nI (hwE P (pcC P (x 0) (x 2) (t + 1)) (t + 1))
              unfold hwE
              rw [if_neg ea]
            · rw [pk_us]; rfl
            · rw [pk_un (by omega), pk_un (by omega), pk_un (by omega), pk_us]; rfl
      · have e0 : k = 0 := Classical.byContradiction e
        subst e0
        have hk3 := hk (upd (upd (upd F (w * 6 + 5) (nI (x 5 + 1))) (w * 6 + 0) (nI (pcC P (x 0) (x 2) 0))) (w * 6 + 2) (nI (pcH P (x 0) (x 2) 0))) ?_ (((FrW.rfl.upd (by omega) (by omega)).upd (by omega) (by omega)).upd (by omega) (by omega))
        · rw [if_pos (by omega)] at hk3
          exact hk3
        · refine ⟨?_, ?_, ?_, ?_, ?_, ?_⟩
          · rw [pk_un (by omega), pk_us]; rfl
          · rw [pk_un (by omega), pk_un (by omega), pk_un (by omega), x1]; rfl
          · rw [pk_us]; rfl
          · rw [pk_un (by omega), pk_un (by omega), pk_un (by omega), x3, hout]; rfl
          · rw [pk_un (by omega), pk_un (by omega), pk_un (by omega), x4]; rfl
          · rw [pk_un (by omega), pk_un (by omega), pk_us]; rfl
  unfold wpX3_go
  refine nm_r (show nI w * (6 : Int32) = nI (w * 6) from pk_mul w 6) ⟨vp_in_nI hw (by omega), ?_⟩
  rw [nI_clamp (by omega), hkd, show nI (w * 6) + (5 : Int32) = nI (w * 6 + 5) from ix 5, nI_clamp (by omega), x5, show jrem (nI (x 5)) (2 : Int32) = nI (x 5 % 2) from n_rem (d := 2) (by omega) (by omega) (by omega)]
  refine ⟨fun e => j36a (fun q => e (by rw [q.1]; rfl)), fun e => ⟨vp_in_nI (by omega) (by omega), fun e1 => j36a (fun q => e1 (by rw [q.2]; rfl)), fun e1 => j36b ⟨(nI_eq (b := 3) (by omega) (by omega)).mp e, (nI_eq (b := 0) (by omega) (by omega)).mp e1⟩⟩⟩
