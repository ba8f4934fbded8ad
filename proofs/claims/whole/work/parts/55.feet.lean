/-! steps and ways -/
def stp (P : FL) (c d : Nat) : Nat := if d = 0 then (if 0 < c / P 0 0 then c - P 0 0 else c) else if d = 1 then (if c % P 0 0 < P 0 0 - 1 then c + 1 else c) else if d = 2 then (if c / P 0 0 < P 0 1 - 1 then c + P 0 0 else c) else (if 0 < c % P 0 0 then c - 1 else c)
def dir0 (P : FL) (c t : Nat) : Nat := if jabs (nI (P 1 t % P 0 0) - nI (c % P 0 0)) < jabs (nI (P 1 t / P 0 0) - nI (c / P 0 0)) then (if nI (P 1 t / P 0 0) - nI (c / P 0 0) ≤ nI 0 then 0 else 2) else (if nI (P 1 t % P 0 0) - nI (c % P 0 0) ≤ nI 0 then 3 else 1)
def dirT (P : FL) (c t : Nat) : Nat := if P 0 6 = 0 ∧ ¬ P 6 c = 0 then (dir0 P c t + 2) % 4 else dir0 P c t
theorem dir0_lt (P : FL) (c t : Nat) : dir0 P c t < 4 := by
  unfold dir0
  split <;> split <;> omega
theorem dirT_lt (P : FL) (c t : Nat) : dirT P c t < 4 := by
  have := dir0_lt P c t
  unfold dirT
  split <;> omega
theorem div_lt_h {P : FL} {c : Nat} (hc : c < P 0 0 * P 0 1) : c / P 0 0 < P 0 1 := by
  rw [Nat.mul_comm] at hc
  exact Nat.div_lt_of_lt_mul (by rw [Nat.mul_comm]; exact hc)
theorem stp_lt {P : FL} (hF : FlatOK P) {c : Nat} (hc : c < P 0 0 * P 0 1) (d : Nat) : stp P c d < P 0 0 * P 0 1 := by
  have hw : 0 < P 0 0 := by have := hF.1.1; omega
  have h1 := Nat.div_add_mod c (P 0 0)
  have h2 := div_lt_h hc
  have h3 := Nat.mod_lt c hw
  unfold stp
  split
  · split <;> omega
  · split
    · split
      · have h4 : P 0 0 * (c / P 0 0 + 1) ≤ P 0 0 * P 0 1 := Nat.mul_le_mul_left _ (by omega)
        rw [Nat.mul_add, Nat.mul_one] at h4
        omega
      · exact hc
    · split
      · split
        · next hh =>
          have h5 : c / P 0 0 + 2 ≤ P 0 1 := by
            clear h1 h2 h3
            generalize c / P 0 0 = y at hh ⊢
            omega
          have h4 : P 0 0 * (c / P 0 0 + 2) ≤ P 0 0 * P 0 1 := Nat.mul_le_mul_left _ h5
          rw [Nat.mul_add] at h4
          omega
        · exact hc
      · split <;> omega
def FeetOK (P : FL) (nx wy gl : AR) : Prop := (∀ c d, c < P 0 0 * P 0 1 → d < 4 → nx (c * 4 + d) = nI (stp P c d)) ∧ (∀ c t, c < P 0 0 * P 0 1 → t < P 0 2 → wy (c * 5 + t) = nI (dirT P c t)) ∧ ∀ t, t < P 0 2 → gl t = nI (P 1 t)
theorem c_J117 {sG nx : AR} {k v : Nat} {x y : Int32} {post : AR → Prop} (hx : x = nI k) (hy : y = nI v) (hk : k < 400) (h : post (upd nx k (nI v))) : wpX2_learnSteps_J117 sG nx x y post := by
  subst hx; subst hy
  unfold wpX2_learnSteps_J117
  rw [nI_clamp (by omega)]
  exact ⟨vp_in_nI hk (by omega), nm_e h⟩
theorem c_learnSteps {P : FL} {sG nx : AR} (hF : FlatOK P) (hs : ∀ k, k < 7 → sG k = nI (P 0 k)) {c : Nat} (hc : c < P 0 0 * P 0 1) {post : AR → Prop} (hk : ∀ nx' : AR, (∀ d, d < 4 → nx' (c * 4 + d) = nI (stp P c d)) → (∀ j, j / 4 ≠ c → nx' j = nx j) → post nx') : wpX2_learnSteps sG nx (nI c) post := by
  have fc := hF.cells
  have f1 := hF.1.1
  have f2 := hF.1.2.1
  have f3 := hF.1.2.2.1
  have f4 := hF.1.2.2.2.1
  have q1 := Nat.div_add_mod c (P 0 0)
  have q2 := div_lt_h hc
  have q3 := Nat.mod_lt c (show 0 < P 0 0 by omega)
  have z1 : ¬ P 0 0 ≤ 0 := by omega
  have z2 : ¬ P 0 0 = 0 := by omega
  have e4 : nI c * (4 : Int32) = nI (c * 4) := pk_mul c 4
  have wd : ∀ n, n < 4 → ∀ x : Int32, x = nI n → nI (c * 4) + x = nI (c * 4 + n) := fun n _ x hx => by rw [hx, nI_add]
  have j3 : ∀ (nx : AR) (post : AR → Prop), post (upd nx (c * 4 + 3) (nI (stp P c 3))) → ((nI (c % P 0 0) ≤ 0 → wpX2_learnSteps_J117 sG nx (nI (c * 4) + (3 : Int32)) (nI c) post) ∧ (¬ nI (c % P 0 0) ≤ 0 → wpX2_learnSteps_J117 sG nx (nI (c * 4) + (3 : Int32)) (nI c - (1 : Int32)) post)) := by
    intro nx post h
    refine pk_le (c % P 0 0) 0 (fun z => c_J117 (wd 3 (by omega) _ rfl) rfl (by omega) ?_) (fun z => c_J117 (v := c - 1) (wd 3 (by omega) _ rfl) (pk_sub (b := 1) ?_) (by omega) ?_)
    · unfold stp at h
      rw [if_neg (by omega), if_neg (by omega), if_neg (by omega), if_neg (by omega)] at h
      exact h
    · have := Nat.mod_le c (P 0 0)
      omega
    · unfold stp at h
      rw [if_neg (by omega), if_neg (by omega), if_neg (by omega), if_pos (by omega)] at h
      exact h
  have j2 : ∀ (nx : AR) (post : AR → Prop), post (upd (upd nx (c * 4 + 2) (nI (stp P c 2))) (c * 4 + 3) (nI (stp P c 3))) → ((nI (P 0 1) - (1 : Int32) ≤ nI (c / P 0 0) → wpX2_learnSteps_J97 sG nx (nI c) (nI (c % P 0 0)) (nI (c * 4)) (nI (c * 4) + (2 : Int32)) (nI c) post) ∧ (¬ nI (P 0 1) - (1 : Int32) ≤ nI (c / P 0 0) → wpX2_learnSteps_J97 sG nx (nI c) (nI (c % P 0 0)) (nI (c * 4)) (nI (c * 4) + (2 : Int32)) (nI c + nI (P 0 0)) post)) := by
    intro nx post h
    have h97 : ∀ v : Nat, v = stp P c 2 → ∀ y : Int32, y = nI v → wpX2_learnSteps_J97 sG nx (nI c) (nI (c % P 0 0)) (nI (c * 4)) (nI (c * 4) + (2 : Int32)) y post := by
      intro v hv y hy
      unfold wpX2_learnSteps_J97
      rw [show nI (c * 4) + (2 : Int32) = nI (c * 4 + 2) from wd 2 (by omega) _ rfl, hy, hv, nI_clamp (by omega)]
      exact ⟨vp_in_nI (by omega) (by omega), nm_e (j3 _ _ h)⟩
    refine pk_le (P 0 1 - 1) (c / P 0 0) (fun z => h97 c ?_ _ rfl) (fun z => h97 (c + P 0 0) ?_ _ (nI_add _ _)) (hx := pk_sub (b := 1) (by omega))
    · unfold stp
      rw [if_neg (by omega), if_neg (by omega), if_pos (by omega), if_neg (by omega)]
    · unfold stp
      rw [if_neg (by omega), if_neg (by omega), if_pos (by omega), if_pos (by omega)]
  have j1 : ∀ (nx : AR) (post : AR → Prop), post (upd (upd (upd nx (c * 4 + 1) (nI (stp P c 1))) (c * 4 + 2) (nI (stp P c 2))) (c * 4 + 3) (nI (stp P c 3))) → ((nI (P 0 0) - (1 : Int32) ≤ nI (c % P 0 0) → wpX2_learnSteps_J67 sG nx (nI c) (nI (c % P 0 0)) (nI (c / P 0 0)) (nI (c * 4)) (nI (c * 4) + (1 : Int32)) (nI c) post) ∧ (¬ nI (P 0 0) - (1 : Int32) ≤ nI (c % P 0 0) → wpX2_learnSteps_J67 sG nx (nI c) (nI (c % P 0 0)) (nI (c / P 0 0)) (nI (c * 4)) (nI (c * 4) + (1 : Int32)) (nI c + (1 : Int32)) post)) := by
    intro nx post h
    have h67 : ∀ v : Nat, v = stp P c 1 → ∀ y : Int32, y = nI v → wpX2_learnSteps_J67 sG nx (nI c) (nI (c % P 0 0)) (nI (c / P 0 0)) (nI (c * 4)) (nI (c * 4) + (1 : Int32)) y post := by
      intro v hv y hy
      unfold wpX2_learnSteps_J67
      rw [show nI (c * 4) + (1 : Int32) = nI (c * 4 + 1) from wd 1 (by omega) _ rfl, hy, hv, nI_clamp (by omega), hs 0 (by omega), hs 1 (by omega)]
      exact ⟨vp_in_nI (by omega) (by omega), nm_e (j2 _ _ h)⟩
    refine pk_le (P 0 0 - 1) (c % P 0 0) (fun z => h67 c ?_ _ rfl) (fun z => h67 (c + 1) ?_ _ (nI_1 c)) (hx := pk_sub (b := 1) (by omega))
    · unfold stp
      rw [if_neg (by omega), if_pos (by omega), if_neg (by omega)]
    · unfold stp
      rw [if_neg (by omega), if_pos (by omega), if_pos (by omega)]
  have hfin : post (upd (upd (upd (upd nx (c * 4 + 0) (nI (stp P c 0))) (c * 4 + 1) (nI (stp P c 1))) (c * 4 + 2) (nI (stp P c 2))) (c * 4 + 3) (nI (stp P c 3))) := by
    refine hk _ (fun d hd => ?_) (fun j hj => ?_)
    · rcases (show d = 0 ∨ d = 1 ∨ d = 2 ∨ d = 3 by omega) with rfl | rfl | rfl | rfl
      · rw [pk_un (by omega), pk_un (by omega), pk_un (by omega), pk_us]
      · rw [pk_un (by omega), pk_un (by omega), pk_us]
      · rw [pk_un (by omega), pk_us]
      · rw [pk_us]
    · rw [pk_un (by omega), pk_un (by omega), pk_un (by omega), pk_un (by omega)]
  have h41 : ∀ v : Nat, v = stp P c 0 → ∀ y : Int32, y = nI v → wpX2_learnSteps_J41 sG nx (nI c) (nI (c % P 0 0)) (nI (c / P 0 0)) (nI (c * 4)) (nI (c * 4) + (0 : Int32)) y post := by
    intro v hv y hy
    unfold wpX2_learnSteps_J41
    rw [show nI (c * 4) + (0 : Int32) = nI (c * 4 + 0) from wd 0 (by omega) _ rfl, hy, hv, nI_clamp (by omega), hs 0 (by omega)]
    exact ⟨vp_in_nI (by omega) (by omega), nm_e (j1 _ _ hfin)⟩
  unfold wpX2_learnSteps wpX4_xOf wpX4_yOf
  rw [hs 0 (by omega), n_rem (by omega) (by omega) (by omega), pk_div (by omega) (by omega) (by omega)]
  refine ⟨fun z => absurd z (nI_nle (by omega) (by omega)), fun _ => ⟨nI_ne0 (by omega) (by omega), ⟨fun z => absurd z (nI_nle (by omega) (by omega)), fun _ => ⟨nI_ne0 (by omega) (by omega), nm_r e4 ?_⟩⟩⟩⟩
  refine pk_le (c / P 0 0) 0 (fun z => h41 c ?_ _ rfl) (fun z => h41 (c - P 0 0) ?_ _ (pk_sub ?_))
  · unfold stp
    rw [if_pos rfl, if_neg (by omega)]
  · unfold stp
    rw [if_pos rfl, if_pos (by omega)]
  · have h4 : P 0 0 * 1 ≤ P 0 0 * (c / P 0 0) := Nat.mul_le_mul_left _ (by omega)
    omega
theorem c_towards {P : FL} {sG tc mi : AR} (hF : FlatOK P) (hs : ∀ k, k < 7 → sG k = nI (P 0 k)) (htc : ∀ t, t < P 0 2 → tc t = nI (P 1 t)) (hmi : ∀ c, c < 100 → mi c = nI (P 6 c)) {c t : Nat} (hc : c < P 0 0 * P 0 1) (ht : t < P 0 2) {post : Int32 → Prop} (h : post (nI (dirT P c t))) : wpX2_towards sG tc mi (nI c) (nI t) post := by
  have fc := hF.cells
  obtain ⟨⟨f1, f2, f3, f4, f5, f6, f7, f8, f9⟩, ft, -, fm⟩ := hF
  have g := (ft t ht).1
  have z1 : ¬ P 0 0 ≤ 0 := by omega
  have z2 : ¬ P 0 0 = 0 := by omega
  have hm := fm c
  have h73 : ∀ d : Nat, d = dir0 P c t → ∀ y : Int32, y = nI d → wpX2_towards_J73 sG tc mi (nI c) y post := by
    intro d hd y hy
    have hd4 : d < 4 := by rw [hd]; exact dir0_lt _ _ _
    subst hy
    unfold wpX2_towards_J73 wpX2_towards_J94
    unfold dirT at h
    rw [← hd] at h
    simp (disch := omega) only [hs 6 (by omega), hmi c (by omega), n_lit, nI_add, pk_mul, pk_sub, n_cl, n_in, n_rem, pk_div, nI_leI, nI_ltI, nI_eq, n_eqneg, n_negeq, n_ltneg, n_neglt, n_leneg, n_negle, n_negneg, forall_eq, true_and, and_true, not_true_eq_false, not_false_eq_true, false_implies, true_implies, implies_true, and_self]
    refine ⟨fun e => ?_, fun e => ⟨fun e1 => ?_, fun e1 => ?_⟩⟩
    · rw [if_neg (fun q => e q.1)] at h; exact h
    · rw [if_neg (fun q => q.2 e1)] at h; exact h
    · rw [if_pos ⟨e, e1⟩] at h; exact ⟨fun q => absurd q (by omega), fun _ => h⟩
  unfold wpX2_towards wpX4_xOf wpX4_yOf
  simp (disch := omega) only [hs 0 (by omega), htc t ht, z1, z2, n_lit, nI_add, pk_mul, pk_sub, n_cl, n_in, n_rem, pk_div, nI_leI, nI_ltI, nI_eq, n_eqneg, n_negeq, n_ltneg, n_neglt, n_leneg, n_negle, n_negneg, forall_eq, true_and, and_true, not_true_eq_false, not_false_eq_true, false_implies, true_implies, implies_true, and_self]
  unfold dir0 at h73
  refine ⟨fun e => ⟨fun e1 => ?_, fun e1 => ?_⟩, fun e => ⟨fun e1 => ?_, fun e1 => ?_⟩⟩
  · exact h73 0 (by rw [if_pos e, if_pos e1]) _ rfl
  · exact h73 2 (by rw [if_pos e, if_neg e1]) _ rfl
  · exact h73 3 (by rw [if_neg e, if_pos e1]) _ rfl
  · exact h73 1 (by rw [if_neg e, if_neg e1]) _ rfl
theorem c_learn {P : FL} {sG tc mi nx wy gl : AR} (hF : FlatOK P) (hs : ∀ k, k < 7 → sG k = nI (P 0 k)) (htc : ∀ t, t < P 0 2 → tc t = nI (P 1 t)) (hmi : ∀ c, c < 100 → mi c = nI (P 6 c)) {post : AR → AR → AR → Prop} (hk : ∀ nx' wy' gl', FeetOK P nx' wy' gl' → post nx' wy' gl') : wpX2_learn sG tc mi nx wy gl post := by
  have fc := hF.cells
  have f5 := hF.1.2.2.2.2.1
  unfold wpX2_learn
  refine c_cells hs ?_
  refine nm_r (e' := nI (P 0 0 * P 0 1)) ?_ ?_
  · rw [show jmin (nI (P 0 0 * P 0 1)) (100 : Int32) = nI (min (P 0 0 * P 0 1) 100) from n_jmin (b := 100) (by omega) (by omega), Nat.min_eq_left fc]
  · refine loop_0 (fun n i (q : AR × AR) => wpX2_learn_L12 sG tc mi gl (nI (P 0 0 * P 0 1)) _ post n q.1 q.2 (nI i)) (fun i q => (∀ c d, c < i → d < 4 → q.1 (c * 4 + d) = nI (stp P c d)) ∧ ∀ c t, c < i → t < P 0 2 → q.2 (c * 5 + t) = nI (dirT P c t)) (P 0 0 * P 0 1) (nx, wy) ⟨fun c d hc => by omega, fun c t hc => by omega⟩ ?_ ?_
    · intro n q hI
      show wpX2_learn_L12 sG tc mi gl (nI (P 0 0 * P 0 1)) _ post (n + 1) q.1 q.2 (nI (P 0 0 * P 0 1))
      unfold wpX2_learn_L12
      refine ⟨fun _ => nm_e (hk _ _ _ ⟨hI.1, hI.2, fun t ht => ?_⟩), fun z => absurd (nI_le (Nat.le_refl _) (by omega)) z⟩
      rw [pk_cpy_in (by omega) (by omega)]
      have := htc t ht
      simpa using this
    · intro n i q hi hI hnext
      show wpX2_learn_L12 sG tc mi gl (nI (P 0 0 * P 0 1)) _ post (n + 1) q.1 q.2 (nI i)
      unfold wpX2_learn_L12
      refine ⟨fun z => absurd z (nI_ge hi (by omega)), fun _ => ?_⟩
      refine c_learnSteps hF hs hi (fun nx' g1 g2 => ?_)
      refine loop_0 (fun n t (w : AR) => wpX2_learn_L26 sG tc mi nx' gl (nI (P 0 0 * P 0 1)) (nI i) _ post n w (nI t)) (fun t w => (∀ j, j < t → w (i * 5 + j) = nI (dirT P i j)) ∧ ∀ j, j / 5 ≠ i → w j = q.2 j) (P 0 2) q.2 ⟨fun j hj => by omega, fun _ _ => rfl⟩ ?_ ?_
      · intro n w hI2
        show wpX2_learn_L26 sG tc mi nx' gl (nI (P 0 0 * P 0 1)) (nI i) _ post (n + 1) w (nI (P 0 2))
        unfold wpX2_learn_L26
        rw [hs 2 (by omega)]
        refine ⟨fun _ => nm_r (nI_1 i) (hnext (nx', w) ⟨fun c d hc hd => ?_, fun c t hc ht => ?_⟩), fun z => absurd (nI_le (Nat.le_refl _) (by omega)) z⟩
        · show nx' (c * 4 + d) = _
          by_cases e : c = i
          · subst e; exact g1 d hd
          · rw [g2 _ (by omega)]; exact hI.1 c d (by omega) hd
        · show w (c * 5 + t) = _
          by_cases e : c = i
          · subst e; exact hI2.1 t ht
          · rw [hI2.2 _ (by omega)]; exact hI.2 c t (by omega) ht
      · intro n t w ht hI2 hnext2
        show wpX2_learn_L26 sG tc mi nx' gl (nI (P 0 0 * P 0 1)) (nI i) _ post (n + 1) w (nI t)
        unfold wpX2_learn_L26
        rw [hs 2 (by omega)]
        refine ⟨fun z => absurd z (nI_ge ht (by omega)), fun _ => ?_⟩
        refine c_towards hF hs htc hmi hi ht ?_
        rw [show nI i * (5 : Int32) + nI t = nI (i * 5 + t) by rw [show nI i * (5 : Int32) = nI (i * 5) from pk_mul i 5, nI_add], nI_clamp (by omega)]
        refine ⟨vp_in_nI (by omega) (by omega), nm_e (nm_r (nI_1 t) (hnext2 _ ⟨fun j hj => ?_, fun j hj => ?_⟩))⟩
        · by_cases e : j = t
          · subst e; rw [pk_us]
          · rw [pk_un (by omega)]; exact hI2.1 j (by omega)
        · rw [pk_un (fun z => hj (by omega))]; exact hI2.2 j hj
/-! a pace: the tower is its number and 1, or 0 -/
def pcC (P : FL) (c h k : Nat) : Nat := if k = 0 then stp P c h else if P 1 (k - 1) = c then c else stp P c (dirT P c (k - 1))
def pcH (P : FL) (c h k : Nat) : Nat := if k = 0 then (h + 1) % 4 else if P 1 (k - 1) = c then h else dirT P c (k - 1)
def atT (P : FL) (c k : Nat) : Bool := decide (k ≠ 0 ∧ P 1 (k - 1) = c)
theorem pcC_lt {P : FL} (hF : FlatOK P) {c : Nat} (hc : c < P 0 0 * P 0 1) (h k : Nat) : pcC P c h k < P 0 0 * P 0 1 := by
  unfold pcC
  split
  · exact stp_lt hF hc _
  · split
    · exact hc
    · exact stp_lt hF hc _
theorem pcH_lt (P : FL) (c k : Nat) {h : Nat} (hh : h < 4) : pcH P c h k < 4 := by
  unfold pcH
  split
  · omega
  · split
    · exact hh
    · exact dirT_lt _ _ _
theorem c_pace {P : FL} {nx wy gl : AR} (hF : FlatOK P) (hW : FeetOK P nx wy gl) {c h k : Nat} (hc : c < P 0 0 * P 0 1) (hh : h < 4) (hk : k ≤ P 0 2) {post : Int32 → Prop} (hp : post (nI (pcC P c h k * 4 + pcH P c h k))) : wpX2_pace nx wy gl (nI c) (nI h) (tI k) post := by
  have fc := hF.cells
  have f5 := hF.1.2.2.2.2.1
  unfold wpX2_pace
  rw [show (0 : Int32) = nI 0 from rfl, tI_pos (by omega)]
  have e1 : ∀ d : Nat, nI c * (4 : Int32) + nI d = nI (c * 4 + d) := fun d => by rw [show nI c * (4 : Int32) = nI (c * 4) from pk_mul c 4, nI_add]
  refine ⟨fun z => ?_, fun z => ?_⟩
  · have g := (hF.2.1 (k - 1) (by omega)).1
    have hd := dirT_lt P c (k - 1)
    rw [tI_in (by omega) (by omega) (by omega), tI_cl (by omega) (by omega), hW.2.2 (k - 1) (by omega)]
    refine ⟨trivial, fun e => ?_, fun e => ?_⟩
    · have e9 : ¬ P 1 (k - 1) = c := fun q => e (by rw [q])
      unfold pcC pcH at hp
      rw [if_neg z, if_neg e9, if_neg z, if_neg e9] at hp
      rw [show tI k = nI (k - 1) by cases k with | zero => exact absurd rfl z | succ k => rfl, show nI c * (5 : Int32) + nI (k - 1) = nI (c * 5 + (k - 1)) by rw [show nI c * (5 : Int32) = nI (c * 5) from pk_mul c 5, nI_add], nI_clamp (by omega), hW.2.1 c (k - 1) hc (by omega)]
      refine ⟨vp_in_nI (by omega) (by omega), nm_e ?_⟩
      rw [e1, nI_clamp (by omega), hW.1 c _ hc hd, show nI (stp P c (dirT P c (k - 1))) * (4 : Int32) = nI (stp P c (dirT P c (k - 1)) * 4) from pk_mul _ 4, nI_add]
      exact ⟨vp_in_nI (by omega) (by omega), hp⟩
    · have e9 : P 1 (k - 1) = c := (nI_eq (by omega) (by omega)).mp e
      unfold pcC pcH at hp
      rw [if_neg z, if_pos e9, if_neg z, if_pos e9] at hp
      rw [e1]
      exact hp
  · have z0 : k = 0 := Classical.byContradiction z
    unfold pcC pcH at hp
    rw [if_pos z0, if_pos z0] at hp
    rw [e1, nI_clamp (by omega), hW.1 c h hc hh, show nI h + (1 : Int32) = nI (h + 1) from nI_1 h, show jrem (nI (h + 1)) (4 : Int32) = nI ((h + 1) % 4) from n_rem (d := 4) (by omega) (by omega) (by omega), show nI (stp P c h) * (4 : Int32) = nI (stp P c h * 4) from pk_mul _ 4, nI_add]
    exact ⟨vp_in_nI (by omega) (by omega), hp⟩
theorem c_cellOf {a b : Nat} (ha : a < 1000) (hb : b < 4) {post : Int32 → Prop} (h : post (nI a)) : wpX2_cellOf (nI (a * 4 + b)) post := by
  unfold wpX2_cellOf
  rw [show nI (a * 4 + b) / (4 : Int32) = nI ((a * 4 + b) / 4) from pk_div (d := 4) (by omega) (by omega) (by omega), show (a * 4 + b) / 4 = a by omega]
  exact h
theorem c_headingOf {a b : Nat} (ha : a < 1000) (hb : b < 4) {post : Int32 → Prop} (h : post (nI b)) : wpX2_headingOf (nI (a * 4 + b)) post := by
  unfold wpX2_headingOf
  rw [show jrem (nI (a * 4 + b)) (4 : Int32) = nI ((a * 4 + b) % 4) from n_rem (d := 4) (by omega) (by omega) (by omega), show (a * 4 + b) % 4 = b by omega]
  exact h
theorem c_isAt {P : FL} {nx wy gl : AR} (hF : FlatOK P) (hW : FeetOK P nx wy gl) {c k : Nat} (hc : c < P 0 0 * P 0 1) (hk : k ≤ P 0 2) {post : Int32 → Prop} (hp : post (if atT P c k = true then 1 else 0)) : wpX2_isAt gl (nI c) (tI k) post := by
  have fc := hF.cells
  have f5 := hF.1.2.2.2.2.1
  unfold wpX2_isAt
  rw [show (tI k < 0) = (k = 0) from tI_neg (by omega)]
  unfold atT at hp
  refine ⟨fun z => ?_, fun z => ?_⟩
  · rw [decide_eq_false (fun q => q.1 z)] at hp
    exact hp
  · have g := (hF.2.1 (k - 1) (by omega)).1
    rw [tI_in (by omega) (by omega) (by omega), tI_cl (by omega) (by omega), hW.2.2 (k - 1) (by omega)]
    refine ⟨trivial, fun e => ?_, fun e => ?_⟩
    · have e9 : ¬ P 1 (k - 1) = c := fun q => e (by rw [q])
      rw [decide_eq_false (fun q => e9 q.2)] at hp
      exact hp
    · have e9 : P 1 (k - 1) = c := (nI_eq (by omega) (by omega)).mp e
      rw [decide_eq_true ⟨z, e9⟩] at hp
      exact hp
