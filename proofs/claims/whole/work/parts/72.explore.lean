theorem FRep.cpy {P : FL} (hF : FlatOK P) {F G : AR} {a : Nat → Nat} (h : FRep P F a) : FRep P (va_cpy F G 0 0 29) a := h.same hF (fun j hj => by rw [pk_cpy_in (by omega) (by omega)]; congr 1; omega)
theorem b5 {P : FL} (hF : FlatOK P) (a : Nat → Nat) : hmN P a 1 + 1 ≤ 5 := by have := hmN_le hF a 1; omega
theorem c_judge1 {P : FL} {sN sG row fd F : AR} (hF : FlatOK P) (hs : ∀ k, k < 7 → sG k = nI (P 0 k)) {B : Nat} {a rw' : Nat → Nat} (ha : FRep P F a) (hok : FOK P B a) {b : BS} (hb : NRep 1 sN fd b) (hrow : ∀ i, i < 1 → row i = nI (rw' i)) {post : AR → AR → Prop} (hk : ∀ sN' fd', NRep 1 sN' fd' (bF P 0 0 a rw' 1 b) → post sN' fd') : wpX6_explore_n1_n1 sN sG row fd F post := by
  unfold wpX6_explore_n1_n1 wpX6_judge_n1
  rw [bF] at hk
  refine c_howMany hF hs ha hok (h := 1) (by omega) (c_howMany hF hs ha hok (h := 2) (by omega) ?_)
  refine c_isBetter hb (Nat.le_trans (hmN_le hF a 1) (by omega)) (hmN_le hF a 2) ?_
  by_cases q : btr b (hmN P a 1) (hmN P a 2) = true
  · rw [if_pos q] at hk ⊢
    refine ⟨fun z => absurd z (by decide), fun _ => nm_e (hk _ _ ⟨?_, b5 hF a, fun _ => ⟨hmN_le hF a 2, ?_, fun i hi => ?_⟩⟩)⟩
    · rw [pk_un (by omega), pk_us]; rfl
    · rw [pk_us]
    · rw [pk_cpy_in (by omega) (by omega), show 0 + (i - 0) = i by omega]
      exact hrow i hi
  · rw [if_neg q] at hk ⊢
    exact ⟨fun _ => hk _ _ hb, fun z => absurd rfl z⟩
theorem c_ex01 {P : FL} {sN sG row fd fl kd F A1 R1 hA E ov ak nx wy gl : AR} (hC : CG P sG fl kd hA E ov ak nx wy gl) {B : Nat} {a rw' : Nat → Nat} (ha : FRep P F a) (hok : FOK P B a) (hB : B + 1 < 2 ^ 30) {b : BS} (hb : NRep 1 sN fd b) (hrow : ∀ i, i < 0 → row i = nI (rw' i)) {post : AR → AR → AR → AR → AR → Prop} (hk : ∀ sN' row' fd' A1' R1', NRep 1 sN' fd' (bF P 0 1 a rw' 0 b) → (∀ i, i < 0 → row' i = row i) → post sN' row' fd' A1' R1') : wpX6_explore_n0_n1 sN sG row fd fl kd F A1 R1 hA E ov ak nx wy gl post := by
  have hF := hC.1
  have hs := hC.2.1
  have f5 := hF.1.2.2.2.2.1
  have h32 := p2_le f5
  unfold wpX6_explore_n0_n1
  refine loop_0 (fun nn i (q : AR × AR × AR × AR × AR) => wpX6_explore_n0_n1_L36 sG fl kd F hA E ov ak nx wy gl _ post nn q.1 q.2.1 q.2.2.1 q.2.2.2.1 q.2.2.2.2 (nI i)) (fun i q => NRep 1 q.1 q.2.2.1 (fld (fun m b => if canB P 0 m a = true then bF P 0 0 (sk P m a) (rwU rw' 0 m) (0 + 1) b else b) i b) ∧ ∀ j, j < 0 → q.2.1 j = row j) (2 ^ P 0 2) (sN, row, fd, A1, R1) ⟨hb, fun _ _ => rfl⟩ ?_ ?_
  · rintro nn ⟨sN1, row1, fd1, A11, R11⟩ ⟨g1, g2⟩
    show wpX6_explore_n0_n1_L36 sG fl kd F hA E ov ak nx wy gl _ post (nn + 1) sN1 row1 fd1 A11 R11 (nI (2 ^ P 0 2))
    unfold wpX6_explore_n0_n1_L36
    rw [hs 2 (by omega), show jshl (1 : Int32) (nI (P 0 2)) = nI (2 ^ P 0 2) from n_shl (by omega)]
    exact ⟨fun _ => hk _ _ _ _ _ g1 g2, fun z => absurd (nI_le (Nat.le_refl _) (by omega)) z⟩
  · rintro nn i ⟨sN1, row1, fd1, A11, R11⟩ hi ⟨g1, g2⟩ hnext
    have g1 : NRep 1 sN1 fd1 (fld (fun m b => if canB P 0 m a = true then bF P 0 0 (sk P m a) (rwU rw' 0 m) (0 + 1) b else b) i b) := g1
    have g2 : ∀ j, j < 0 → row1 j = row j := g2
    show wpX6_explore_n0_n1_L36 sG fl kd F hA E ov ak nx wy gl _ post (nn + 1) sN1 row1 fd1 A11 R11 (nI i)
    unfold wpX6_explore_n0_n1_L36
    rw [hs 2 (by omega), show jshl (1 : Int32) (nI (P 0 2)) = nI (2 ^ P 0 2) from n_shl (by omega)]
    refine ⟨fun z => absurd z (nI_ge hi (by omega)), fun _ => c_canRing hF hs ha hok (fun m e hc => ⟨fun z => absurd z (by decide), fun _ => ?_⟩) (fun e => ⟨fun _ => nm_r (nI_1 i) (hnext (sN1, row1, fd1, A11, R11) ⟨?_, g2⟩), fun z => absurd rfl z⟩)⟩
    · have em : i = m := nI_inj32 (by omega) (by have := hc.1; omega) e
      subst em
      have hcb : canB P 0 i a = true := (canB_R hi).mpr hc
      have hst : fld (fun m b => if canB P 0 m a = true then bF P 0 0 (sk P m a) (rwU rw' 0 m) (0 + 1) b else b) (i + 1) b = bF P 0 0 (sk P i a) (rwU rw' 0 i) (0 + 1) (fld (fun m b => if canB P 0 m a = true then bF P 0 0 (sk P m a) (rwU rw' 0 m) (0 + 1) b else b) i b) := by
        rw [fld]
        exact if_pos hcb
      have hrow2 : ∀ j, j < 0 + 1 → upd row1 0 (nI i) j = nI (rwU rw' 0 i j) := fun j hj => by
        unfold rwU
        by_cases ej : j = 0
        · rw [if_pos ej, ej, pk_us]
        · rw [if_neg ej, pk_un ej, g2 j (by omega)]; exact hrow j (by omega)
      unfold wpX3_take
      refine nm_e (nm_e (c_hear hF hs hC.2.2.2.2.1 hC.2.2.2.2.2 hC.2.2.1 hC.2.2.2.1 hc (ha.cpy hF) hok (by omega) (fun F2 R2 q1 q2 => c_mayBeBetter hF hs q1 (sk_ok hF hok) g1 ?_)))
      by_cases qb : btr (fld (fun m b => if canB P 0 m a = true then bF P 0 0 (sk P m a) (rwU rw' 0 m) (0 + 1) b else b) i b) (hmN P (sk P i a) 1 + hmN P (sk P i a) 0) (hmN P (sk P i a) 2) = true
      · rw [if_pos qb]
        refine ⟨fun z => absurd z (by decide), fun _ => c_judge1 hF hs q1 (sk_ok hF hok) g1 (rw' := rwU rw' 0 i) hrow2 (fun sN2 fd2 p1 => nm_r (nI_1 i) (hnext (sN2, upd row1 0 (nI i), fd2, F2, R2) ⟨?_, fun j hj => ?_⟩))⟩
        · show NRep 1 sN2 fd2 (fld (fun m b => if canB P 0 m a = true then bF P 0 0 (sk P m a) (rwU rw' 0 m) (0 + 1) b else b) (i + 1) b)
          rw [hst]; exact p1
        · show upd row1 0 (nI i) j = _; rw [pk_un (by omega)]; exact g2 j hj
      · rw [if_neg qb]
        refine ⟨fun _ => nm_r (nI_1 i) (hnext (sN1, upd row1 0 (nI i), fd1, F2, R2) ⟨?_, fun j hj => ?_⟩), fun z => absurd rfl z⟩
        · show NRep 1 sN1 fd1 (fld (fun m b => if canB P 0 m a = true then bF P 0 0 (sk P m a) (rwU rw' 0 m) (0 + 1) b else b) (i + 1) b)
          rw [hst, bF_prune hF _ _ _ _ _ _ qb]; exact g1
        · show upd row1 0 (nI i) j = _
          rw [pk_un (by omega)]; exact g2 j hj
    · show NRep 1 sN1 fd1 (fld (fun m b => if canB P 0 m a = true then bF P 0 0 (sk P m a) (rwU rw' 0 m) (0 + 1) b else b) (i + 1) b)
      rw [fld]
      have hcb : ¬ canB P 0 i a = true := fun z => e ⟨i, rfl, (canB_R hi).mp z⟩
      rw [if_neg hcb]
      exact g1
/-- the best 1 -/
theorem c_mm1 {P : FL} {sN sG row fd G A0 fl kd A1 R1 hA E ov ak nx wy gl : AR} (hC : CG P sG fl kd hA E ov ak nx wy gl) {B : Nat} {a : Nat → Nat} (ha : FRep P G a) (hok : FOK P B a) (hB : B + 4 < 2 ^ 30) {x : Int32} {bu : Nat} (hx : (x = -1 ∧ bu = 0) ∨ ∃ t, t < P 0 2 ∧ x = nI t ∧ bu = 2 ^ t) {post : Int32 → AR → AR → AR → AR → AR → AR → Prop} (hk : ∀ sN' row' fd' A0' A1' R1', NRep 1 sN' fd' (bF P bu 1 a (fun _ => 0) 0 (0, 0, fun _ => 0)) → post (tI (bF P bu 1 a (fun _ => 0) 0 (0, 0, fun _ => 0)).1 - nI (hmN P a 1)) sN' row' fd' A0' A1' R1') : wpX6_mostMore_n1 sN sG row fd G A0 fl kd A1 R1 hA E ov ak nx wy gl x post := by
  have hF := hC.1
  have hs := hC.2.1
  have f5 := hF.1.2.2.2.2.1
  have core : ∀ (F0 : AR) (a0 : Nat → Nat), FRep P F0 a0 → FOK P B a0 → bF P 0 1 a0 (fun _ => 0) 0 (0, 0, fun _ => 0) = bF P bu 1 a (fun _ => 0) 0 (0, 0, fun _ => 0) → wpX6_mostMore_n1_J35 (upd (upd sN 4 (-1 : Int32)) 5 (0 : Int32)) sG row fd G F0 fl kd A1 R1 hA E ov ak nx wy gl post := by
    intro F0 a0 h1 h2 h3
    unfold wpX6_mostMore_n1_J35
    refine c_ex01 hC h1 h2 (by omega) (b := (0, 0, fun _ => 0)) (rw' := fun _ => 0) ⟨?_, Nat.zero_le _, fun z => absurd rfl z⟩ (fun i hi => absurd hi (Nat.not_lt_zero _)) (fun sN2 row2 fd2 B1 S1 p1 p2 => ?_)
    · rw [pk_un (by omega), pk_us]; rfl
    · rw [h3] at p1
      refine c_howMany hF hs ha hok (h := 1) (by omega) ?_
      rw [p1.1]
      exact hk _ _ _ _ _ _ p1
  unfold wpX6_mostMore_n1 wpX3_take
  refine nm_e ?_
  rcases hx with ⟨hx, hbu⟩ | ⟨t, ht, hx, hbu⟩
  · subst hx hbu
    exact ⟨fun _ => core _ a (ha.cpy hF) hok rfl, fun z => absurd rfl z⟩
  · subst hx hbu
    refine ⟨fun z => absurd z (nI_nem (by omega)), fun _ => ?_⟩
    unfold wpX3_silence
    rw [show (24 : Int32) + nI t = nI (24 + t) from nI_add 24 t, nI_clamp (by omega)]
    refine ⟨vp_in_nI (by omega) (by omega), nm_e (core _ (fun i => if i = 24 + t then 0 else a i) ?_ ?_ (bF_sil hF ht _ _ _ _ _ _ ⟨if_pos rfl, fun i hi => if_neg hi⟩))⟩
    · have h1 := ha.cpy hF (G := A0)
      have f6 := hF.1.2.2.2.2.2.1
      refine ⟨fun w hw => ((h1.1 w hw).same (fun j h3 h4 => by rw [pk_un (by omega)])).congr (fun f hf => ?_), fun u hu => ?_⟩
      · show a (w * 6 + f) = if w * 6 + f = 24 + t then 0 else a (w * 6 + f)
        rw [if_neg (by omega)]
      · by_cases e : u = t
        · subst e
          rw [pk_us]
          show (0 : Int32) = nI (if 24 + u = 24 + u then 0 else a (24 + u))
          rw [if_pos rfl]
          rfl
        · rw [pk_un (by omega)]
          show _ = nI (if 24 + u = 24 + t then 0 else a (24 + u))
          rw [if_neg (by omega)]
          exact h1.2 u hu
    · have f6 := hF.1.2.2.2.2.2.1
      refine ⟨fun w hw => (hok.1 w hw).congr (fun f hf => ?_), fun u hu => ?_⟩
      · show a (w * 6 + f) = if w * 6 + f = 24 + t then 0 else a (w * 6 + f)
        rw [if_neg (by omega)]
      · show (if 24 + u = 24 + t then 0 else a (24 + u)) ≤ 99
        have := hok.2 u hu
        split <;> omega
theorem c_judge2 {P : FL} {sN sG row fd F : AR} (hF : FlatOK P) (hs : ∀ k, k < 7 → sG k = nI (P 0 k)) {B : Nat} {a rw' : Nat → Nat} (ha : FRep P F a) (hok : FOK P B a) {b : BS} (hb : NRep 2 sN fd b) (hrow : ∀ i, i < 2 → row i = nI (rw' i)) {post : AR → AR → Prop} (hk : ∀ sN' fd', NRep 2 sN' fd' (bF P 0 0 a rw' 2 b) → post sN' fd') : wpX6_explore_n2_n2 sN sG row fd F post := by
  unfold wpX6_explore_n2_n2 wpX6_judge_n2
  rw [bF] at hk
  refine c_howMany hF hs ha hok (h := 1) (by omega) (c_howMany hF hs ha hok (h := 2) (by omega) ?_)
  refine c_isBetter hb (Nat.le_trans (hmN_le hF a 1) (by omega)) (hmN_le hF a 2) ?_
  by_cases q : btr b (hmN P a 1) (hmN P a 2) = true
  · rw [if_pos q] at hk ⊢
    refine ⟨fun z => absurd z (by decide), fun _ => nm_e (hk _ _ ⟨?_, b5 hF a, fun _ => ⟨hmN_le hF a 2, ?_, fun i hi => ?_⟩⟩)⟩
    · rw [pk_un (by omega), pk_us]; rfl
    · rw [pk_us]
    · rw [pk_cpy_in (by omega) (by omega), show 0 + (i - 0) = i by omega]
      exact hrow i hi
  · rw [if_neg q] at hk ⊢
    exact ⟨fun _ => hk _ _ hb, fun z => absurd rfl z⟩
theorem c_ex12 {P : FL} {sN sG row fd fl kd F A2 R2 hA E ov ak nx wy gl : AR} (hC : CG P sG fl kd hA E ov ak nx wy gl) {B : Nat} {a rw' : Nat → Nat} (ha : FRep P F a) (hok : FOK P B a) (hB : B + 1 < 2 ^ 30) {b : BS} (hb : NRep 2 sN fd b) (hrow : ∀ i, i < 1 → row i = nI (rw' i)) {post : AR → AR → AR → AR → AR → Prop} (hk : ∀ sN' row' fd' A2' R2', NRep 2 sN' fd' (bF P 0 1 a rw' 1 b) → (∀ i, i < 1 → row' i = row i) → post sN' row' fd' A2' R2') : wpX6_explore_n1_n2 sN sG row fd fl kd F A2 R2 hA E ov ak nx wy gl post := by
  have hF := hC.1
  have hs := hC.2.1
  have f5 := hF.1.2.2.2.2.1
  have h32 := p2_le f5
  unfold wpX6_explore_n1_n2
  refine loop_0 (fun nn i (q : AR × AR × AR × AR × AR) => wpX6_explore_n1_n2_L36 sG fl kd F hA E ov ak nx wy gl _ post nn q.1 q.2.1 q.2.2.1 q.2.2.2.1 q.2.2.2.2 (nI i)) (fun i q => NRep 2 q.1 q.2.2.1 (fld (fun m b => if canB P 0 m a = true then bF P 0 0 (sk P m a) (rwU rw' 1 m) (1 + 1) b else b) i b) ∧ ∀ j, j < 1 → q.2.1 j = row j) (2 ^ P 0 2) (sN, row, fd, A2, R2) ⟨hb, fun _ _ => rfl⟩ ?_ ?_
  · rintro nn ⟨sN1, row1, fd1, A21, R21⟩ ⟨g1, g2⟩
    show wpX6_explore_n1_n2_L36 sG fl kd F hA E ov ak nx wy gl _ post (nn + 1) sN1 row1 fd1 A21 R21 (nI (2 ^ P 0 2))
    unfold wpX6_explore_n1_n2_L36
    rw [hs 2 (by omega), show jshl (1 : Int32) (nI (P 0 2)) = nI (2 ^ P 0 2) from n_shl (by omega)]
    exact ⟨fun _ => hk _ _ _ _ _ g1 g2, fun z => absurd (nI_le (Nat.le_refl _) (by omega)) z⟩
  · rintro nn i ⟨sN1, row1, fd1, A21, R21⟩ hi ⟨g1, g2⟩ hnext
    have g1 : NRep 2 sN1 fd1 (fld (fun m b => if canB P 0 m a = true then bF P 0 0 (sk P m a) (rwU rw' 1 m) (1 + 1) b else b) i b) := g1
    have g2 : ∀ j, j < 1 → row1 j = row j := g2
    show wpX6_explore_n1_n2_L36 sG fl kd F hA E ov ak nx wy gl _ post (nn + 1) sN1 row1 fd1 A21 R21 (nI i)
    unfold wpX6_explore_n1_n2_L36
    rw [hs 2 (by omega), show jshl (1 : Int32) (nI (P 0 2)) = nI (2 ^ P 0 2) from n_shl (by omega)]
    refine ⟨fun z => absurd z (nI_ge hi (by omega)), fun _ => c_canRing hF hs ha hok (fun m e hc => ⟨fun z => absurd z (by decide), fun _ => ?_⟩) (fun e => ⟨fun _ => nm_r (nI_1 i) (hnext (sN1, row1, fd1, A21, R21) ⟨?_, g2⟩), fun z => absurd rfl z⟩)⟩
    · have em : i = m := nI_inj32 (by omega) (by have := hc.1; omega) e
      subst em
      have hcb : canB P 0 i a = true := (canB_R hi).mpr hc
      have hst : fld (fun m b => if canB P 0 m a = true then bF P 0 0 (sk P m a) (rwU rw' 1 m) (1 + 1) b else b) (i + 1) b = bF P 0 0 (sk P i a) (rwU rw' 1 i) (1 + 1) (fld (fun m b => if canB P 0 m a = true then bF P 0 0 (sk P m a) (rwU rw' 1 m) (1 + 1) b else b) i b) := by
        rw [fld]
        exact if_pos hcb
      have hrow2 : ∀ j, j < 1 + 1 → upd row1 1 (nI i) j = nI (rwU rw' 1 i j) := fun j hj => by
        unfold rwU
        by_cases ej : j = 1
        · rw [if_pos ej, ej, pk_us]
        · rw [if_neg ej, pk_un ej, g2 j (by omega)]; exact hrow j (by omega)
      unfold wpX3_take
      refine nm_e (nm_e (c_hear hF hs hC.2.2.2.2.1 hC.2.2.2.2.2 hC.2.2.1 hC.2.2.2.1 hc (ha.cpy hF) hok (by omega) (fun F2 R2 q1 q2 => c_mayBeBetter hF hs q1 (sk_ok hF hok) g1 ?_)))
      by_cases qb : btr (fld (fun m b => if canB P 0 m a = true then bF P 0 0 (sk P m a) (rwU rw' 1 m) (1 + 1) b else b) i b) (hmN P (sk P i a) 1 + hmN P (sk P i a) 0) (hmN P (sk P i a) 2) = true
      · rw [if_pos qb]
        refine ⟨fun z => absurd z (by decide), fun _ => c_judge2 hF hs q1 (sk_ok hF hok) g1 (rw' := rwU rw' 1 i) hrow2 (fun sN2 fd2 p1 => nm_r (nI_1 i) (hnext (sN2, upd row1 1 (nI i), fd2, F2, R2) ⟨?_, fun j hj => ?_⟩))⟩
        · show NRep 2 sN2 fd2 (fld (fun m b => if canB P 0 m a = true then bF P 0 0 (sk P m a) (rwU rw' 1 m) (1 + 1) b else b) (i + 1) b)
          rw [hst]; exact p1
        · show upd row1 1 (nI i) j = _; rw [pk_un (by omega)]; exact g2 j hj
      · rw [if_neg qb]
        refine ⟨fun _ => nm_r (nI_1 i) (hnext (sN1, upd row1 1 (nI i), fd1, F2, R2) ⟨?_, fun j hj => ?_⟩), fun z => absurd rfl z⟩
        · show NRep 2 sN1 fd1 (fld (fun m b => if canB P 0 m a = true then bF P 0 0 (sk P m a) (rwU rw' 1 m) (1 + 1) b else b) (i + 1) b)
          rw [hst, bF_prune hF _ _ _ _ _ _ qb]; exact g1
        · show upd row1 1 (nI i) j = _
          rw [pk_un (by omega)]; exact g2 j hj
    · show NRep 2 sN1 fd1 (fld (fun m b => if canB P 0 m a = true then bF P 0 0 (sk P m a) (rwU rw' 1 m) (1 + 1) b else b) (i + 1) b)
      rw [fld]
      have hcb : ¬ canB P 0 i a = true := fun z => e ⟨i, rfl, (canB_R hi).mp z⟩
      rw [if_neg hcb]
      exact g1
theorem c_ex02 {P : FL} {sN sG row fd fl kd F A1 R1 A2 R2 hA E ov ak nx wy gl : AR} (hC : CG P sG fl kd hA E ov ak nx wy gl) {B : Nat} {a rw' : Nat → Nat} (ha : FRep P F a) (hok : FOK P B a) (hB : B + 2 < 2 ^ 30) {b : BS} (hb : NRep 2 sN fd b) (hrow : ∀ i, i < 0 → row i = nI (rw' i)) {post : AR → AR → AR → AR → AR → AR → AR → Prop} (hk : ∀ sN' row' fd' A1' R1' A2' R2', NRep 2 sN' fd' (bF P 0 2 a rw' 0 b) → (∀ i, i < 0 → row' i = row i) → post sN' row' fd' A1' R1' A2' R2') : wpX6_explore_n0_n2 sN sG row fd fl kd F A1 R1 hA E ov ak nx wy gl A2 R2 post := by
  have hF := hC.1
  have hs := hC.2.1
  have f5 := hF.1.2.2.2.2.1
  have h32 := p2_le f5
  unfold wpX6_explore_n0_n2
  refine loop_0 (fun nn i (q : AR × AR × AR × AR × AR × AR × AR) => wpX6_explore_n0_n2_L36 sG fl kd F hA E ov ak nx wy gl _ post nn q.1 q.2.1 q.2.2.1 q.2.2.2.1 q.2.2.2.2.1 q.2.2.2.2.2.1 q.2.2.2.2.2.2 (nI i)) (fun i q => NRep 2 q.1 q.2.2.1 (fld (fun m b => if canB P 0 m a = true then bF P 0 1 (sk P m a) (rwU rw' 0 m) (0 + 1) b else b) i b) ∧ ∀ j, j < 0 → q.2.1 j = row j) (2 ^ P 0 2) (sN, row, fd, A1, R1, A2, R2) ⟨hb, fun _ _ => rfl⟩ ?_ ?_
  · rintro nn ⟨sN1, row1, fd1, A11, R11, A21, R21⟩ ⟨g1, g2⟩
    show wpX6_explore_n0_n2_L36 sG fl kd F hA E ov ak nx wy gl _ post (nn + 1) sN1 row1 fd1 A11 R11 A21 R21 (nI (2 ^ P 0 2))
    unfold wpX6_explore_n0_n2_L36
    rw [hs 2 (by omega), show jshl (1 : Int32) (nI (P 0 2)) = nI (2 ^ P 0 2) from n_shl (by omega)]
    exact ⟨fun _ => hk _ _ _ _ _ _ _ g1 g2, fun z => absurd (nI_le (Nat.le_refl _) (by omega)) z⟩
  · rintro nn i ⟨sN1, row1, fd1, A11, R11, A21, R21⟩ hi ⟨g1, g2⟩ hnext
    have g1 : NRep 2 sN1 fd1 (fld (fun m b => if canB P 0 m a = true then bF P 0 1 (sk P m a) (rwU rw' 0 m) (0 + 1) b else b) i b) := g1
    have g2 : ∀ j, j < 0 → row1 j = row j := g2
    show wpX6_explore_n0_n2_L36 sG fl kd F hA E ov ak nx wy gl _ post (nn + 1) sN1 row1 fd1 A11 R11 A21 R21 (nI i)
    unfold wpX6_explore_n0_n2_L36
    rw [hs 2 (by omega), show jshl (1 : Int32) (nI (P 0 2)) = nI (2 ^ P 0 2) from n_shl (by omega)]
    refine ⟨fun z => absurd z (nI_ge hi (by omega)), fun _ => c_canRing hF hs ha hok (fun m e hc => ⟨fun z => absurd z (by decide), fun _ => ?_⟩) (fun e => ⟨fun _ => nm_r (nI_1 i) (hnext (sN1, row1, fd1, A11, R11, A21, R21) ⟨?_, g2⟩), fun z => absurd rfl z⟩)⟩
    · have em : i = m := nI_inj32 (by omega) (by have := hc.1; omega) e
      subst em
      have hcb : canB P 0 i a = true := (canB_R hi).mpr hc
      have hst : fld (fun m b => if canB P 0 m a = true then bF P 0 1 (sk P m a) (rwU rw' 0 m) (0 + 1) b else b) (i + 1) b = bF P 0 1 (sk P i a) (rwU rw' 0 i) (0 + 1) (fld (fun m b => if canB P 0 m a = true then bF P 0 1 (sk P m a) (rwU rw' 0 m) (0 + 1) b else b) i b) := by
        rw [fld]
        exact if_pos hcb
      have hrow2 : ∀ j, j < 0 + 1 → upd row1 0 (nI i) j = nI (rwU rw' 0 i j) := fun j hj => by
        unfold rwU
        by_cases ej : j = 0
        · rw [if_pos ej, ej, pk_us]
        · rw [if_neg ej, pk_un ej, g2 j (by omega)]; exact hrow j (by omega)
      unfold wpX3_take
      refine nm_e (nm_e (c_hear hF hs hC.2.2.2.2.1 hC.2.2.2.2.2 hC.2.2.1 hC.2.2.2.1 hc (ha.cpy hF) hok (by omega) (fun F2 R2 q1 q2 => c_mayBeBetter hF hs q1 (sk_ok hF hok) g1 ?_)))
      by_cases qb : btr (fld (fun m b => if canB P 0 m a = true then bF P 0 1 (sk P m a) (rwU rw' 0 m) (0 + 1) b else b) i b) (hmN P (sk P i a) 1 + hmN P (sk P i a) 0) (hmN P (sk P i a) 2) = true
      · rw [if_pos qb]
        refine ⟨fun z => absurd z (by decide), fun _ => c_ex12 hC q1 (sk_ok hF hok) (by omega) g1 (rw' := rwU rw' 0 i) hrow2 (fun sN2 row2 fd2 B2 S2 p1 p2 => nm_r (nI_1 i) (hnext (sN2, row2, fd2, F2, R2, B2, S2) ⟨?_, fun j hj => ?_⟩))⟩
        · show NRep 2 sN2 fd2 (fld (fun m b => if canB P 0 m a = true then bF P 0 1 (sk P m a) (rwU rw' 0 m) (0 + 1) b else b) (i + 1) b)
          rw [hst]; exact p1
        · show row2 j = _; rw [p2 j (by omega), pk_un (by omega)]; exact g2 j hj
      · rw [if_neg qb]
        refine ⟨fun _ => nm_r (nI_1 i) (hnext (sN1, upd row1 0 (nI i), fd1, F2, R2, A21, R21) ⟨?_, fun j hj => ?_⟩), fun z => absurd rfl z⟩
        · show NRep 2 sN1 fd1 (fld (fun m b => if canB P 0 m a = true then bF P 0 1 (sk P m a) (rwU rw' 0 m) (0 + 1) b else b) (i + 1) b)
          rw [hst, bF_prune hF _ _ _ _ _ _ qb]; exact g1
        · show upd row1 0 (nI i) j = _
          rw [pk_un (by omega)]; exact g2 j hj
    · show NRep 2 sN1 fd1 (fld (fun m b => if canB P 0 m a = true then bF P 0 1 (sk P m a) (rwU rw' 0 m) (0 + 1) b else b) (i + 1) b)
      rw [fld]
      have hcb : ¬ canB P 0 i a = true := fun z => e ⟨i, rfl, (canB_R hi).mp z⟩
      rw [if_neg hcb]
      exact g1
/-- the best 2 -/
theorem c_mm2 {P : FL} {sN sG row fd G A0 fl kd A1 R1 A2 R2 hA E ov ak nx wy gl : AR} (hC : CG P sG fl kd hA E ov ak nx wy gl) {B : Nat} {a : Nat → Nat} (ha : FRep P G a) (hok : FOK P B a) (hB : B + 4 < 2 ^ 30) {x : Int32} {bu : Nat} (hx : (x = -1 ∧ bu = 0) ∨ ∃ t, t < P 0 2 ∧ x = nI t ∧ bu = 2 ^ t) {post : Int32 → AR → AR → AR → AR → AR → AR → AR → AR → Prop} (hk : ∀ sN' row' fd' A0' A1' R1' A2' R2', NRep 2 sN' fd' (bF P bu 2 a (fun _ => 0) 0 (0, 0, fun _ => 0)) → post (tI (bF P bu 2 a (fun _ => 0) 0 (0, 0, fun _ => 0)).1 - nI (hmN P a 1)) sN' row' fd' A0' A1' R1' A2' R2') : wpX6_mostMore_n2 sN sG row fd G A0 fl kd A1 R1 hA E ov ak nx wy gl A2 R2 x post := by
  have hF := hC.1
  have hs := hC.2.1
  have f5 := hF.1.2.2.2.2.1
  have core : ∀ (F0 : AR) (a0 : Nat → Nat), FRep P F0 a0 → FOK P B a0 → bF P 0 2 a0 (fun _ => 0) 0 (0, 0, fun _ => 0) = bF P bu 2 a (fun _ => 0) 0 (0, 0, fun _ => 0) → wpX6_mostMore_n2_J35 (upd (upd sN 4 (-1 : Int32)) 5 (0 : Int32)) sG row fd G F0 fl kd A1 R1 hA E ov ak nx wy gl A2 R2 post := by
    intro F0 a0 h1 h2 h3
    unfold wpX6_mostMore_n2_J35
    refine c_ex02 hC h1 h2 (by omega) (b := (0, 0, fun _ => 0)) (rw' := fun _ => 0) ⟨?_, Nat.zero_le _, fun z => absurd rfl z⟩ (fun i hi => absurd hi (Nat.not_lt_zero _)) (fun sN2 row2 fd2 B1 S1 B2 S2 p1 p2 => ?_)
    · rw [pk_un (by omega), pk_us]; rfl
    · rw [h3] at p1
      refine c_howMany hF hs ha hok (h := 1) (by omega) ?_
      rw [p1.1]
      exact hk _ _ _ _ _ _ _ _ p1
  unfold wpX6_mostMore_n2 wpX3_take
  refine nm_e ?_
  rcases hx with ⟨hx, hbu⟩ | ⟨t, ht, hx, hbu⟩
  · subst hx hbu
    exact ⟨fun _ => core _ a (ha.cpy hF) hok rfl, fun z => absurd rfl z⟩
  · subst hx hbu
    refine ⟨fun z => absurd z (nI_nem (by omega)), fun _ => ?_⟩
    unfold wpX3_silence
    rw [show (24 : Int32) + nI t = nI (24 + t) from nI_add 24 t, nI_clamp (by omega)]
    refine ⟨vp_in_nI (by omega) (by omega), nm_e (core _ (fun i => if i = 24 + t then 0 else a i) ?_ ?_ (bF_sil hF ht _ _ _ _ _ _ ⟨if_pos rfl, fun i hi => if_neg hi⟩))⟩
    · have h1 := ha.cpy hF (G := A0)
      have f6 := hF.1.2.2.2.2.2.1
      refine ⟨fun w hw => ((h1.1 w hw).same (fun j h3 h4 => by rw [pk_un (by omega)])).congr (fun f hf => ?_), fun u hu => ?_⟩
      · show a (w * 6 + f) = if w * 6 + f = 24 + t then 0 else a (w * 6 + f)
        rw [if_neg (by omega)]
      · by_cases e : u = t
        · subst e
          rw [pk_us]
          show (0 : Int32) = nI (if 24 + u = 24 + u then 0 else a (24 + u))
          rw [if_pos rfl]
          rfl
        · rw [pk_un (by omega)]
          show _ = nI (if 24 + u = 24 + t then 0 else a (24 + u))
          rw [if_neg (by omega)]
          exact h1.2 u hu
    · have f6 := hF.1.2.2.2.2.2.1
      refine ⟨fun w hw => (hok.1 w hw).congr (fun f hf => ?_), fun u hu => ?_⟩
      · show a (w * 6 + f) = if w * 6 + f = 24 + t then 0 else a (w * 6 + f)
        rw [if_neg (by omega)]
      · show (if 24 + u = 24 + t then 0 else a (24 + u)) ≤ 99
        have := hok.2 u hu
        split <;> omega
theorem c_judge3 {P : FL} {sN sG row fd F : AR} (hF : FlatOK P) (hs : ∀ k, k < 7 → sG k = nI (P 0 k)) {B : Nat} {a rw' : Nat → Nat} (ha : FRep P F a) (hok : FOK P B a) {b : BS} (hb : NRep 3 sN fd b) (hrow : ∀ i, i < 3 → row i = nI (rw' i)) {post : AR → AR → Prop} (hk : ∀ sN' fd', NRep 3 sN' fd' (bF P 0 0 a rw' 3 b) → post sN' fd') : wpX6_explore_n3_n3 sN sG row fd F post := by
  unfold wpX6_explore_n3_n3 wpX6_judge_n3
  rw [bF] at hk
  refine c_howMany hF hs ha hok (h := 1) (by omega) (c_howMany hF hs ha hok (h := 2) (by omega) ?_)
  refine c_isBetter hb (Nat.le_trans (hmN_le hF a 1) (by omega)) (hmN_le hF a 2) ?_
  by_cases q : btr b (hmN P a 1) (hmN P a 2) = true
  · rw [if_pos q] at hk ⊢
    refine ⟨fun z => absurd z (by decide), fun _ => nm_e (hk _ _ ⟨?_, b5 hF a, fun _ => ⟨hmN_le hF a 2, ?_, fun i hi => ?_⟩⟩)⟩
    · rw [pk_un (by omega), pk_us]; rfl
    · rw [pk_us]
    · rw [pk_cpy_in (by omega) (by omega), show 0 + (i - 0) = i by omega]
      exact hrow i hi
  · rw [if_neg q] at hk ⊢
    exact ⟨fun _ => hk _ _ hb, fun z => absurd rfl z⟩
theorem c_ex23 {P : FL} {sN sG row fd fl kd F A3 R3 hA E ov ak nx wy gl : AR} (hC : CG P sG fl kd hA E ov ak nx wy gl) {B : Nat} {a rw' : Nat → Nat} (ha : FRep P F a) (hok : FOK P B a) (hB : B + 1 < 2 ^ 30) {b : BS} (hb : NRep 3 sN fd b) (hrow : ∀ i, i < 2 → row i = nI (rw' i)) {post : AR → AR → AR → AR → AR → Prop} (hk : ∀ sN' row' fd' A3' R3', NRep 3 sN' fd' (bF P 0 1 a rw' 2 b) → (∀ i, i < 2 → row' i = row i) → post sN' row' fd' A3' R3') : wpX6_explore_n2_n3 sN sG row fd fl kd F A3 R3 hA E ov ak nx wy gl post := by
  have hF := hC.1
  have hs := hC.2.1
  have f5 := hF.1.2.2.2.2.1
  have h32 := p2_le f5
  unfold wpX6_explore_n2_n3
  refine loop_0 (fun nn i (q : AR × AR × AR × AR × AR) => wpX6_explore_n2_n3_L36 sG fl kd F hA E ov ak nx wy gl _ post nn q.1 q.2.1 q.2.2.1 q.2.2.2.1 q.2.2.2.2 (nI i)) (fun i q => NRep 3 q.1 q.2.2.1 (fld (fun m b => if canB P 0 m a = true then bF P 0 0 (sk P m a) (rwU rw' 2 m) (2 + 1) b else b) i b) ∧ ∀ j, j < 2 → q.2.1 j = row j) (2 ^ P 0 2) (sN, row, fd, A3, R3) ⟨hb, fun _ _ => rfl⟩ ?_ ?_
  · rintro nn ⟨sN1, row1, fd1, A31, R31⟩ ⟨g1, g2⟩
    show wpX6_explore_n2_n3_L36 sG fl kd F hA E ov ak nx wy gl _ post (nn + 1) sN1 row1 fd1 A31 R31 (nI (2 ^ P 0 2))
    unfold wpX6_explore_n2_n3_L36
    rw [hs 2 (by omega), show jshl (1 : Int32) (nI (P 0 2)) = nI (2 ^ P 0 2) from n_shl (by omega)]
    exact ⟨fun _ => hk _ _ _ _ _ g1 g2, fun z => absurd (nI_le (Nat.le_refl _) (by omega)) z⟩
  · rintro nn i ⟨sN1, row1, fd1, A31, R31⟩ hi ⟨g1, g2⟩ hnext
    have g1 : NRep 3 sN1 fd1 (fld (fun m b => if canB P 0 m a = true then bF P 0 0 (sk P m a) (rwU rw' 2 m) (2 + 1) b else b) i b) := g1
    have g2 : ∀ j, j < 2 → row1 j = row j := g2
    show wpX6_explore_n2_n3_L36 sG fl kd F hA E ov ak nx wy gl _ post (nn + 1) sN1 row1 fd1 A31 R31 (nI i)
    unfold wpX6_explore_n2_n3_L36
    rw [hs 2 (by omega), show jshl (1 : Int32) (nI (P 0 2)) = nI (2 ^ P 0 2) from n_shl (by omega)]
    refine ⟨fun z => absurd z (nI_ge hi (by omega)), fun _ => c_canRing hF hs ha hok (fun m e hc => ⟨fun z => absurd z (by decide), fun _ => ?_⟩) (fun e => ⟨fun _ => nm_r (nI_1 i) (hnext (sN1, row1, fd1, A31, R31) ⟨?_, g2⟩), fun z => absurd rfl z⟩)⟩
    · have em : i = m := nI_inj32 (by omega) (by have := hc.1; omega) e
      subst em
      have hcb : canB P 0 i a = true := (canB_R hi).mpr hc
      have hst : fld (fun m b => if canB P 0 m a = true then bF P 0 0 (sk P m a) (rwU rw' 2 m) (2 + 1) b else b) (i + 1) b = bF P 0 0 (sk P i a) (rwU rw' 2 i) (2 + 1) (fld (fun m b => if canB P 0 m a = true then bF P 0 0 (sk P m a) (rwU rw' 2 m) (2 + 1) b else b) i b) := by
        rw [fld]
        exact if_pos hcb
      have hrow2 : ∀ j, j < 2 + 1 → upd row1 2 (nI i) j = nI (rwU rw' 2 i j) := fun j hj => by
        unfold rwU
        by_cases ej : j = 2
        · rw [if_pos ej, ej, pk_us]
        · rw [if_neg ej, pk_un ej, g2 j (by omega)]; exact hrow j (by omega)
      unfold wpX3_take
      refine nm_e (nm_e (c_hear hF hs hC.2.2.2.2.1 hC.2.2.2.2.2 hC.2.2.1 hC.2.2.2.1 hc (ha.cpy hF) hok (by omega) (fun F2 R2 q1 q2 => c_mayBeBetter hF hs q1 (sk_ok hF hok) g1 ?_)))
      by_cases qb : btr (fld (fun m b => if canB P 0 m a = true then bF P 0 0 (sk P m a) (rwU rw' 2 m) (2 + 1) b else b) i b) (hmN P (sk P i a) 1 + hmN P (sk P i a) 0) (hmN P (sk P i a) 2) = true
      · rw [if_pos qb]
        refine ⟨fun z => absurd z (by decide), fun _ => c_judge3 hF hs q1 (sk_ok hF hok) g1 (rw' := rwU rw' 2 i) hrow2 (fun sN2 fd2 p1 => nm_r (nI_1 i) (hnext (sN2, upd row1 2 (nI i), fd2, F2, R2) ⟨?_, fun j hj => ?_⟩))⟩
        · show NRep 3 sN2 fd2 (fld (fun m b => if canB P 0 m a = true then bF P 0 0 (sk P m a) (rwU rw' 2 m) (2 + 1) b else b) (i + 1) b)
          rw [hst]; exact p1
        · show upd row1 2 (nI i) j = _; rw [pk_un (by omega)]; exact g2 j hj
      · rw [if_neg qb]
        refine ⟨fun _ => nm_r (nI_1 i) (hnext (sN1, upd row1 2 (nI i), fd1, F2, R2) ⟨?_, fun j hj => ?_⟩), fun z => absurd rfl z⟩
        · show NRep 3 sN1 fd1 (fld (fun m b => if canB P 0 m a = true then bF P 0 0 (sk P m a) (rwU rw' 2 m) (2 + 1) b else b) (i + 1) b)
          rw [hst, bF_prune hF _ _ _ _ _ _ qb]; exact g1
        · show upd row1 2 (nI i) j = _
          rw [pk_un (by omega)]; exact g2 j hj
    · show NRep 3 sN1 fd1 (fld (fun m b => if canB P 0 m a = true then bF P 0 0 (sk P m a) (rwU rw' 2 m) (2 + 1) b else b) (i + 1) b)
      rw [fld]
      have hcb : ¬ canB P 0 i a = true := fun z => e ⟨i, rfl, (canB_R hi).mp z⟩
      rw [if_neg hcb]
      exact g1
theorem c_ex13 {P : FL} {sN sG row fd fl kd F A2 R2 A3 R3 hA E ov ak nx wy gl : AR} (hC : CG P sG fl kd hA E ov ak nx wy gl) {B : Nat} {a rw' : Nat → Nat} (ha : FRep P F a) (hok : FOK P B a) (hB : B + 2 < 2 ^ 30) {b : BS} (hb : NRep 3 sN fd b) (hrow : ∀ i, i < 1 → row i = nI (rw' i)) {post : AR → AR → AR → AR → AR → AR → AR → Prop} (hk : ∀ sN' row' fd' A2' R2' A3' R3', NRep 3 sN' fd' (bF P 0 2 a rw' 1 b) → (∀ i, i < 1 → row' i = row i) → post sN' row' fd' A2' R2' A3' R3') : wpX6_explore_n1_n3 sN sG row fd fl kd F A2 R2 hA E ov ak nx wy gl A3 R3 post := by
  have hF := hC.1
  have hs := hC.2.1
  have f5 := hF.1.2.2.2.2.1
  have h32 := p2_le f5
  unfold wpX6_explore_n1_n3
  refine loop_0 (fun nn i (q : AR × AR × AR × AR × AR × AR × AR) => wpX6_explore_n1_n3_L36 sG fl kd F hA E ov ak nx wy gl _ post nn q.1 q.2.1 q.2.2.1 q.2.2.2.1 q.2.2.2.2.1 q.2.2.2.2.2.1 q.2.2.2.2.2.2 (nI i)) (fun i q => NRep 3 q.1 q.2.2.1 (fld (fun m b => if canB P 0 m a = true then bF P 0 1 (sk P m a) (rwU rw' 1 m) (1 + 1) b else b) i b) ∧ ∀ j, j < 1 → q.2.1 j = row j) (2 ^ P 0 2) (sN, row, fd, A2, R2, A3, R3) ⟨hb, fun _ _ => rfl⟩ ?_ ?_
  · rintro nn ⟨sN1, row1, fd1, A21, R21, A31, R31⟩ ⟨g1, g2⟩
    show wpX6_explore_n1_n3_L36 sG fl kd F hA E ov ak nx wy gl _ post (nn + 1) sN1 row1 fd1 A21 R21 A31 R31 (nI (2 ^ P 0 2))
    unfold wpX6_explore_n1_n3_L36
    rw [hs 2 (by omega), show jshl (1 : Int32) (nI (P 0 2)) = nI (2 ^ P 0 2) from n_shl (by omega)]
    exact ⟨fun _ => hk _ _ _ _ _ _ _ g1 g2, fun z => absurd (nI_le (Nat.le_refl _) (by omega)) z⟩
  · rintro nn i ⟨sN1, row1, fd1, A21, R21, A31, R31⟩ hi ⟨g1, g2⟩ hnext
    have g1 : NRep 3 sN1 fd1 (fld (fun m b => if canB P 0 m a = true then bF P 0 1 (sk P m a) (rwU rw' 1 m) (1 + 1) b else b) i b) := g1
    have g2 : ∀ j, j < 1 → row1 j = row j := g2
    show wpX6_explore_n1_n3_L36 sG fl kd F hA E ov ak nx wy gl _ post (nn + 1) sN1 row1 fd1 A21 R21 A31 R31 (nI i)
    unfold wpX6_explore_n1_n3_L36
    rw [hs 2 (by omega), show jshl (1 : Int32) (nI (P 0 2)) = nI (2 ^ P 0 2) from n_shl (by omega)]
    refine ⟨fun z => absurd z (nI_ge hi (by omega)), fun _ => c_canRing hF hs ha hok (fun m e hc => ⟨fun z => absurd z (by decide), fun _ => ?_⟩) (fun e => ⟨fun _ => nm_r (nI_1 i) (hnext (sN1, row1, fd1, A21, R21, A31, R31) ⟨?_, g2⟩), fun z => absurd rfl z⟩)⟩
    · have em : i = m := nI_inj32 (by omega) (by have := hc.1; omega) e
      subst em
      have hcb : canB P 0 i a = true := (canB_R hi).mpr hc
      have hst : fld (fun m b => if canB P 0 m a = true then bF P 0 1 (sk P m a) (rwU rw' 1 m) (1 + 1) b else b) (i + 1) b = bF P 0 1 (sk P i a) (rwU rw' 1 i) (1 + 1) (fld (fun m b => if canB P 0 m a = true then bF P 0 1 (sk P m a) (rwU rw' 1 m) (1 + 1) b else b) i b) := by
        rw [fld]
        exact if_pos hcb
      have hrow2 : ∀ j, j < 1 + 1 → upd row1 1 (nI i) j = nI (rwU rw' 1 i j) := fun j hj => by
        unfold rwU
        by_cases ej : j = 1
        · rw [if_pos ej, ej, pk_us]
        · rw [if_neg ej, pk_un ej, g2 j (by omega)]; exact hrow j (by omega)
      unfold wpX3_take
      refine nm_e (nm_e (c_hear hF hs hC.2.2.2.2.1 hC.2.2.2.2.2 hC.2.2.1 hC.2.2.2.1 hc (ha.cpy hF) hok (by omega) (fun F2 R2 q1 q2 => c_mayBeBetter hF hs q1 (sk_ok hF hok) g1 ?_)))
      by_cases qb : btr (fld (fun m b => if canB P 0 m a = true then bF P 0 1 (sk P m a) (rwU rw' 1 m) (1 + 1) b else b) i b) (hmN P (sk P i a) 1 + hmN P (sk P i a) 0) (hmN P (sk P i a) 2) = true
      · rw [if_pos qb]
        refine ⟨fun z => absurd z (by decide), fun _ => c_ex23 hC q1 (sk_ok hF hok) (by omega) g1 (rw' := rwU rw' 1 i) hrow2 (fun sN2 row2 fd2 B3 S3 p1 p2 => nm_r (nI_1 i) (hnext (sN2, row2, fd2, F2, R2, B3, S3) ⟨?_, fun j hj => ?_⟩))⟩
        · show NRep 3 sN2 fd2 (fld (fun m b => if canB P 0 m a = true then bF P 0 1 (sk P m a) (rwU rw' 1 m) (1 + 1) b else b) (i + 1) b)
          rw [hst]; exact p1
        · show row2 j = _; rw [p2 j (by omega), pk_un (by omega)]; exact g2 j hj
      · rw [if_neg qb]
        refine ⟨fun _ => nm_r (nI_1 i) (hnext (sN1, upd row1 1 (nI i), fd1, F2, R2, A31, R31) ⟨?_, fun j hj => ?_⟩), fun z => absurd rfl z⟩
        · show NRep 3 sN1 fd1 (fld (fun m b => if canB P 0 m a = true then bF P 0 1 (sk P m a) (rwU rw' 1 m) (1 + 1) b else b) (i + 1) b)
          rw [hst, bF_prune hF _ _ _ _ _ _ qb]; exact g1
        · show upd row1 1 (nI i) j = _
          rw [pk_un (by omega)]; exact g2 j hj
    · show NRep 3 sN1 fd1 (fld (fun m b => if canB P 0 m a = true then bF P 0 1 (sk P m a) (rwU rw' 1 m) (1 + 1) b else b) (i + 1) b)
      rw [fld]
      have hcb : ¬ canB P 0 i a = true := fun z => e ⟨i, rfl, (canB_R hi).mp z⟩
      rw [if_neg hcb]
      exact g1
theorem c_ex03 {P : FL} {sN sG row fd fl kd F A1 R1 A2 R2 A3 R3 hA E ov ak nx wy gl : AR} (hC : CG P sG fl kd hA E ov ak nx wy gl) {B : Nat} {a rw' : Nat → Nat} (ha : FRep P F a) (hok : FOK P B a) (hB : B + 3 < 2 ^ 30) {b : BS} (hb : NRep 3 sN fd b) (hrow : ∀ i, i < 0 → row i = nI (rw' i)) {post : AR → AR → AR → AR → AR → AR → AR → AR → AR → Prop} (hk : ∀ sN' row' fd' A1' R1' A2' R2' A3' R3', NRep 3 sN' fd' (bF P 0 3 a rw' 0 b) → (∀ i, i < 0 → row' i = row i) → post sN' row' fd' A1' R1' A2' R2' A3' R3') : wpX6_explore_n0_n3 sN sG row fd fl kd F A1 R1 hA E ov ak nx wy gl A2 R2 A3 R3 post := by
  have hF := hC.1
  have hs := hC.2.1
  have f5 := hF.1.2.2.2.2.1
  have h32 := p2_le f5
  unfold wpX6_explore_n0_n3
  refine loop_0 (fun nn i (q : AR × AR × AR × AR × AR × AR × AR × AR × AR) => wpX6_explore_n0_n3_L36 sG fl kd F hA E ov ak nx wy gl _ post nn q.1 q.2.1 q.2.2.1 q.2.2.2.1 q.2.2.2.2.1 q.2.2.2.2.2.1 q.2.2.2.2.2.2.1 q.2.2.2.2.2.2.2.1 q.2.2.2.2.2.2.2.2 (nI i)) (fun i q => NRep 3 q.1 q.2.2.1 (fld (fun m b => if canB P 0 m a = true then bF P 0 2 (sk P m a) (rwU rw' 0 m) (0 + 1) b else b) i b) ∧ ∀ j, j < 0 → q.2.1 j = row j) (2 ^ P 0 2) (sN, row, fd, A1, R1, A2, R2, A3, R3) ⟨hb, fun _ _ => rfl⟩ ?_ ?_
  · rintro nn ⟨sN1, row1, fd1, A11, R11, A21, R21, A31, R31⟩ ⟨g1, g2⟩
    show wpX6_explore_n0_n3_L36 sG fl kd F hA E ov ak nx wy gl _ post (nn + 1) sN1 row1 fd1 A11 R11 A21 R21 A31 R31 (nI (2 ^ P 0 2))
    unfold wpX6_explore_n0_n3_L36
    rw [hs 2 (by omega), show jshl (1 : Int32) (nI (P 0 2)) = nI (2 ^ P 0 2) from n_shl (by omega)]
    exact ⟨fun _ => hk _ _ _ _ _ _ _ _ _ g1 g2, fun z => absurd (nI_le (Nat.le_refl _) (by omega)) z⟩
  · rintro nn i ⟨sN1, row1, fd1, A11, R11, A21, R21, A31, R31⟩ hi ⟨g1, g2⟩ hnext
    have g1 : NRep 3 sN1 fd1 (fld (fun m b => if canB P 0 m a = true then bF P 0 2 (sk P m a) (rwU rw' 0 m) (0 + 1) b else b) i b) := g1
    have g2 : ∀ j, j < 0 → row1 j = row j := g2
    show wpX6_explore_n0_n3_L36 sG fl kd F hA E ov ak nx wy gl _ post (nn + 1) sN1 row1 fd1 A11 R11 A21 R21 A31 R31 (nI i)
    unfold wpX6_explore_n0_n3_L36
    rw [hs 2 (by omega), show jshl (1 : Int32) (nI (P 0 2)) = nI (2 ^ P 0 2) from n_shl (by omega)]
    refine ⟨fun z => absurd z (nI_ge hi (by omega)), fun _ => c_canRing hF hs ha hok (fun m e hc => ⟨fun z => absurd z (by decide), fun _ => ?_⟩) (fun e => ⟨fun _ => nm_r (nI_1 i) (hnext (sN1, row1, fd1, A11, R11, A21, R21, A31, R31) ⟨?_, g2⟩), fun z => absurd rfl z⟩)⟩
    · have em : i = m := nI_inj32 (by omega) (by have := hc.1; omega) e
      subst em
      have hcb : canB P 0 i a = true := (canB_R hi).mpr hc
      have hst : fld (fun m b => if canB P 0 m a = true then bF P 0 2 (sk P m a) (rwU rw' 0 m) (0 + 1) b else b) (i + 1) b = bF P 0 2 (sk P i a) (rwU rw' 0 i) (0 + 1) (fld (fun m b => if canB P 0 m a = true then bF P 0 2 (sk P m a) (rwU rw' 0 m) (0 + 1) b else b) i b) := by
        rw [fld]
        exact if_pos hcb
      have hrow2 : ∀ j, j < 0 + 1 → upd row1 0 (nI i) j = nI (rwU rw' 0 i j) := fun j hj => by
        unfold rwU
        by_cases ej : j = 0
        · rw [if_pos ej, ej, pk_us]
        · rw [if_neg ej, pk_un ej, g2 j (by omega)]; exact hrow j (by omega)
      unfold wpX3_take
      refine nm_e (nm_e (c_hear hF hs hC.2.2.2.2.1 hC.2.2.2.2.2 hC.2.2.1 hC.2.2.2.1 hc (ha.cpy hF) hok (by omega) (fun F2 R2 q1 q2 => c_mayBeBetter hF hs q1 (sk_ok hF hok) g1 ?_)))
      by_cases qb : btr (fld (fun m b => if canB P 0 m a = true then bF P 0 2 (sk P m a) (rwU rw' 0 m) (0 + 1) b else b) i b) (hmN P (sk P i a) 1 + hmN P (sk P i a) 0) (hmN P (sk P i a) 2) = true
      · rw [if_pos qb]
        refine ⟨fun z => absurd z (by decide), fun _ => c_ex13 hC q1 (sk_ok hF hok) (by omega) g1 (rw' := rwU rw' 0 i) hrow2 (fun sN2 row2 fd2 B2 S2 B3 S3 p1 p2 => nm_r (nI_1 i) (hnext (sN2, row2, fd2, F2, R2, B2, S2, B3, S3) ⟨?_, fun j hj => ?_⟩))⟩
        · show NRep 3 sN2 fd2 (fld (fun m b => if canB P 0 m a = true then bF P 0 2 (sk P m a) (rwU rw' 0 m) (0 + 1) b else b) (i + 1) b)
          rw [hst]; exact p1
        · show row2 j = _; rw [p2 j (by omega), pk_un (by omega)]; exact g2 j hj
      · rw [if_neg qb]
        refine ⟨fun _ => nm_r (nI_1 i) (hnext (sN1, upd row1 0 (nI i), fd1, F2, R2, A21, R21, A31, R31) ⟨?_, fun j hj => ?_⟩), fun z => absurd rfl z⟩
        · show NRep 3 sN1 fd1 (fld (fun m b => if canB P 0 m a = true then bF P 0 2 (sk P m a) (rwU rw' 0 m) (0 + 1) b else b) (i + 1) b)
          rw [hst, bF_prune hF _ _ _ _ _ _ qb]; exact g1
        · show upd row1 0 (nI i) j = _
          rw [pk_un (by omega)]; exact g2 j hj
    · show NRep 3 sN1 fd1 (fld (fun m b => if canB P 0 m a = true then bF P 0 2 (sk P m a) (rwU rw' 0 m) (0 + 1) b else b) (i + 1) b)
      rw [fld]
      have hcb : ¬ canB P 0 i a = true := fun z => e ⟨i, rfl, (canB_R hi).mp z⟩
      rw [if_neg hcb]
      exact g1
/-- the best 3 -/
theorem c_mm3 {P : FL} {sN sG row fd G A0 fl kd A1 R1 A2 R2 A3 R3 hA E ov ak nx wy gl : AR} (hC : CG P sG fl kd hA E ov ak nx wy gl) {B : Nat} {a : Nat → Nat} (ha : FRep P G a) (hok : FOK P B a) (hB : B + 4 < 2 ^ 30) {x : Int32} {bu : Nat} (hx : (x = -1 ∧ bu = 0) ∨ ∃ t, t < P 0 2 ∧ x = nI t ∧ bu = 2 ^ t) {post : Int32 → AR → AR → AR → AR → AR → AR → AR → AR → AR → AR → Prop} (hk : ∀ sN' row' fd' A0' A1' R1' A2' R2' A3' R3', NRep 3 sN' fd' (bF P bu 3 a (fun _ => 0) 0 (0, 0, fun _ => 0)) → post (tI (bF P bu 3 a (fun _ => 0) 0 (0, 0, fun _ => 0)).1 - nI (hmN P a 1)) sN' row' fd' A0' A1' R1' A2' R2' A3' R3') : wpX6_mostMore_n3 sN sG row fd G A0 fl kd A1 R1 hA E ov ak nx wy gl A2 R2 A3 R3 x post := by
  have hF := hC.1
  have hs := hC.2.1
  have f5 := hF.1.2.2.2.2.1
  have core : ∀ (F0 : AR) (a0 : Nat → Nat), FRep P F0 a0 → FOK P B a0 → bF P 0 3 a0 (fun _ => 0) 0 (0, 0, fun _ => 0) = bF P bu 3 a (fun _ => 0) 0 (0, 0, fun _ => 0) → wpX6_mostMore_n3_J35 (upd (upd sN 4 (-1 : Int32)) 5 (0 : Int32)) sG row fd G F0 fl kd A1 R1 hA E ov ak nx wy gl A2 R2 A3 R3 post := by
    intro F0 a0 h1 h2 h3
    unfold wpX6_mostMore_n3_J35
    refine c_ex03 hC h1 h2 (by omega) (b := (0, 0, fun _ => 0)) (rw' := fun _ => 0) ⟨?_, Nat.zero_le _, fun z => absurd rfl z⟩ (fun i hi => absurd hi (Nat.not_lt_zero _)) (fun sN2 row2 fd2 B1 S1 B2 S2 B3 S3 p1 p2 => ?_)
    · rw [pk_un (by omega), pk_us]; rfl
    · rw [h3] at p1
      refine c_howMany hF hs ha hok (h := 1) (by omega) ?_
      rw [p1.1]
      exact hk _ _ _ _ _ _ _ _ _ _ p1
  unfold wpX6_mostMore_n3 wpX3_take
  refine nm_e ?_
  rcases hx with ⟨hx, hbu⟩ | ⟨t, ht, hx, hbu⟩
  · subst hx hbu
    exact ⟨fun _ => core _ a (ha.cpy hF) hok rfl, fun z => absurd rfl z⟩
  · subst hx hbu
    refine ⟨fun z => absurd z (nI_nem (by omega)), fun _ => ?_⟩
    unfold wpX3_silence
    rw [show (24 : Int32) + nI t = nI (24 + t) from nI_add 24 t, nI_clamp (by omega)]
    refine ⟨vp_in_nI (by omega) (by omega), nm_e (core _ (fun i => if i = 24 + t then 0 else a i) ?_ ?_ (bF_sil hF ht _ _ _ _ _ _ ⟨if_pos rfl, fun i hi => if_neg hi⟩))⟩
    · have h1 := ha.cpy hF (G := A0)
      have f6 := hF.1.2.2.2.2.2.1
      refine ⟨fun w hw => ((h1.1 w hw).same (fun j h3 h4 => by rw [pk_un (by omega)])).congr (fun f hf => ?_), fun u hu => ?_⟩
      · show a (w * 6 + f) = if w * 6 + f = 24 + t then 0 else a (w * 6 + f)
        rw [if_neg (by omega)]
      · by_cases e : u = t
        · subst e
          rw [pk_us]
          show (0 : Int32) = nI (if 24 + u = 24 + u then 0 else a (24 + u))
          rw [if_pos rfl]
          rfl
        · rw [pk_un (by omega)]
          show _ = nI (if 24 + u = 24 + t then 0 else a (24 + u))
          rw [if_neg (by omega)]
          exact h1.2 u hu
    · have f6 := hF.1.2.2.2.2.2.1
      refine ⟨fun w hw => (hok.1 w hw).congr (fun f hf => ?_), fun u hu => ?_⟩
      · show a (w * 6 + f) = if w * 6 + f = 24 + t then 0 else a (w * 6 + f)
        rw [if_neg (by omega)]
      · show (if 24 + u = 24 + t then 0 else a (24 + u)) ≤ 99
        have := hok.2 u hu
        split <;> omega
theorem c_judge4 {P : FL} {sN sG row fd F : AR} (hF : FlatOK P) (hs : ∀ k, k < 7 → sG k = nI (P 0 k)) {B : Nat} {a rw' : Nat → Nat} (ha : FRep P F a) (hok : FOK P B a) {b : BS} (hb : NRep 4 sN fd b) (hrow : ∀ i, i < 4 → row i = nI (rw' i)) {post : AR → AR → Prop} (hk : ∀ sN' fd', NRep 4 sN' fd' (bF P 0 0 a rw' 4 b) → post sN' fd') : wpX6_explore_n4_n4 sN sG row fd F post := by
  unfold wpX6_explore_n4_n4 wpX6_judge_n4
  rw [bF] at hk
  refine c_howMany hF hs ha hok (h := 1) (by omega) (c_howMany hF hs ha hok (h := 2) (by omega) ?_)
  refine c_isBetter hb (Nat.le_trans (hmN_le hF a 1) (by omega)) (hmN_le hF a 2) ?_
  by_cases q : btr b (hmN P a 1) (hmN P a 2) = true
  · rw [if_pos q] at hk ⊢
    refine ⟨fun z => absurd z (by decide), fun _ => nm_e (hk _ _ ⟨?_, b5 hF a, fun _ => ⟨hmN_le hF a 2, ?_, fun i hi => ?_⟩⟩)⟩
    · rw [pk_un (by omega), pk_us]; rfl
    · rw [pk_us]
    · rw [pk_cpy_in (by omega) (by omega), show 0 + (i - 0) = i by omega]
      exact hrow i hi
  · rw [if_neg q] at hk ⊢
    exact ⟨fun _ => hk _ _ hb, fun z => absurd rfl z⟩
theorem c_ex34 {P : FL} {sN sG row fd fl kd F A4 R4 hA E ov ak nx wy gl : AR} (hC : CG P sG fl kd hA E ov ak nx wy gl) {B : Nat} {a rw' : Nat → Nat} (ha : FRep P F a) (hok : FOK P B a) (hB : B + 1 < 2 ^ 30) {b : BS} (hb : NRep 4 sN fd b) (hrow : ∀ i, i < 3 → row i = nI (rw' i)) {post : AR → AR → AR → AR → AR → Prop} (hk : ∀ sN' row' fd' A4' R4', NRep 4 sN' fd' (bF P 0 1 a rw' 3 b) → (∀ i, i < 3 → row' i = row i) → post sN' row' fd' A4' R4') : wpX6_explore_n3_n4 sN sG row fd fl kd F A4 R4 hA E ov ak nx wy gl post := by
  have hF := hC.1
  have hs := hC.2.1
  have f5 := hF.1.2.2.2.2.1
  have h32 := p2_le f5
  unfold wpX6_explore_n3_n4
  refine loop_0 (fun nn i (q : AR × AR × AR × AR × AR) => wpX6_explore_n3_n4_L36 sG fl kd F hA E ov ak nx wy gl _ post nn q.1 q.2.1 q.2.2.1 q.2.2.2.1 q.2.2.2.2 (nI i)) (fun i q => NRep 4 q.1 q.2.2.1 (fld (fun m b => if canB P 0 m a = true then bF P 0 0 (sk P m a) (rwU rw' 3 m) (3 + 1) b else b) i b) ∧ ∀ j, j < 3 → q.2.1 j = row j) (2 ^ P 0 2) (sN, row, fd, A4, R4) ⟨hb, fun _ _ => rfl⟩ ?_ ?_
  · rintro nn ⟨sN1, row1, fd1, A41, R41⟩ ⟨g1, g2⟩
    show wpX6_explore_n3_n4_L36 sG fl kd F hA E ov ak nx wy gl _ post (nn + 1) sN1 row1 fd1 A41 R41 (nI (2 ^ P 0 2))
    unfold wpX6_explore_n3_n4_L36
    rw [hs 2 (by omega), show jshl (1 : Int32) (nI (P 0 2)) = nI (2 ^ P 0 2) from n_shl (by omega)]
    exact ⟨fun _ => hk _ _ _ _ _ g1 g2, fun z => absurd (nI_le (Nat.le_refl _) (by omega)) z⟩
  · rintro nn i ⟨sN1, row1, fd1, A41, R41⟩ hi ⟨g1, g2⟩ hnext
    have g1 : NRep 4 sN1 fd1 (fld (fun m b => if canB P 0 m a = true then bF P 0 0 (sk P m a) (rwU rw' 3 m) (3 + 1) b else b) i b) := g1
    have g2 : ∀ j, j < 3 → row1 j = row j := g2
    show wpX6_explore_n3_n4_L36 sG fl kd F hA E ov ak nx wy gl _ post (nn + 1) sN1 row1 fd1 A41 R41 (nI i)
    unfold wpX6_explore_n3_n4_L36
    rw [hs 2 (by omega), show jshl (1 : Int32) (nI (P 0 2)) = nI (2 ^ P 0 2) from n_shl (by omega)]
    refine ⟨fun z => absurd z (nI_ge hi (by omega)), fun _ => c_canRing hF hs ha hok (fun m e hc => ⟨fun z => absurd z (by decide), fun _ => ?_⟩) (fun e => ⟨fun _ => nm_r (nI_1 i) (hnext (sN1, row1, fd1, A41, R41) ⟨?_, g2⟩), fun z => absurd rfl z⟩)⟩
    · have em : i = m := nI_inj32 (by omega) (by have := hc.1; omega) e
      subst em
      have hcb : canB P 0 i a = true := (canB_R hi).mpr hc
      have hst : fld (fun m b => if canB P 0 m a = true then bF P 0 0 (sk P m a) (rwU rw' 3 m) (3 + 1) b else b) (i + 1) b = bF P 0 0 (sk P i a) (rwU rw' 3 i) (3 + 1) (fld (fun m b => if canB P 0 m a = true then bF P 0 0 (sk P m a) (rwU rw' 3 m) (3 + 1) b else b) i b) := by
        rw [fld]
        exact if_pos hcb
      have hrow2 : ∀ j, j < 3 + 1 → upd row1 3 (nI i) j = nI (rwU rw' 3 i j) := fun j hj => by
        unfold rwU
        by_cases ej : j = 3
        · rw [if_pos ej, ej, pk_us]
        · rw [if_neg ej, pk_un ej, g2 j (by omega)]; exact hrow j (by omega)
      unfold wpX3_take
      refine nm_e (nm_e (c_hear hF hs hC.2.2.2.2.1 hC.2.2.2.2.2 hC.2.2.1 hC.2.2.2.1 hc (ha.cpy hF) hok (by omega) (fun F2 R2 q1 q2 => c_mayBeBetter hF hs q1 (sk_ok hF hok) g1 ?_)))
      by_cases qb : btr (fld (fun m b => if canB P 0 m a = true then bF P 0 0 (sk P m a) (rwU rw' 3 m) (3 + 1) b else b) i b) (hmN P (sk P i a) 1 + hmN P (sk P i a) 0) (hmN P (sk P i a) 2) = true
      · rw [if_pos qb]
        refine ⟨fun z => absurd z (by decide), fun _ => c_judge4 hF hs q1 (sk_ok hF hok) g1 (rw' := rwU rw' 3 i) hrow2 (fun sN2 fd2 p1 => nm_r (nI_1 i) (hnext (sN2, upd row1 3 (nI i), fd2, F2, R2) ⟨?_, fun j hj => ?_⟩))⟩
        · show NRep 4 sN2 fd2 (fld (fun m b => if canB P 0 m a = true then bF P 0 0 (sk P m a) (rwU rw' 3 m) (3 + 1) b else b) (i + 1) b)
          rw [hst]; exact p1
        · show upd row1 3 (nI i) j = _; rw [pk_un (by omega)]; exact g2 j hj
      · rw [if_neg qb]
        refine ⟨fun _ => nm_r (nI_1 i) (hnext (sN1, upd row1 3 (nI i), fd1, F2, R2) ⟨?_, fun j hj => ?_⟩), fun z => absurd rfl z⟩
        · show NRep 4 sN1 fd1 (fld (fun m b => if canB P 0 m a = true then bF P 0 0 (sk P m a) (rwU rw' 3 m) (3 + 1) b else b) (i + 1) b)
          rw [hst, bF_prune hF _ _ _ _ _ _ qb]; exact g1
        · show upd row1 3 (nI i) j = _
          rw [pk_un (by omega)]; exact g2 j hj
    · show NRep 4 sN1 fd1 (fld (fun m b => if canB P 0 m a = true then bF P 0 0 (sk P m a) (rwU rw' 3 m) (3 + 1) b else b) (i + 1) b)
      rw [fld]
      have hcb : ¬ canB P 0 i a = true := fun z => e ⟨i, rfl, (canB_R hi).mp z⟩
      rw [if_neg hcb]
      exact g1
theorem c_ex24 {P : FL} {sN sG row fd fl kd F A3 R3 A4 R4 hA E ov ak nx wy gl : AR} (hC : CG P sG fl kd hA E ov ak nx wy gl) {B : Nat} {a rw' : Nat → Nat} (ha : FRep P F a) (hok : FOK P B a) (hB : B + 2 < 2 ^ 30) {b : BS} (hb : NRep 4 sN fd b) (hrow : ∀ i, i < 2 → row i = nI (rw' i)) {post : AR → AR → AR → AR → AR → AR → AR → Prop} (hk : ∀ sN' row' fd' A3' R3' A4' R4', NRep 4 sN' fd' (bF P 0 2 a rw' 2 b) → (∀ i, i < 2 → row' i = row i) → post sN' row' fd' A3' R3' A4' R4') : wpX6_explore_n2_n4 sN sG row fd fl kd F A3 R3 hA E ov ak nx wy gl A4 R4 post := by
  have hF := hC.1
  have hs := hC.2.1
  have f5 := hF.1.2.2.2.2.1
  have h32 := p2_le f5
  unfold wpX6_explore_n2_n4
  refine loop_0 (fun nn i (q : AR × AR × AR × AR × AR × AR × AR) => wpX6_explore_n2_n4_L36 sG fl kd F hA E ov ak nx wy gl _ post nn q.1 q.2.1 q.2.2.1 q.2.2.2.1 q.2.2.2.2.1 q.2.2.2.2.2.1 q.2.2.2.2.2.2 (nI i)) (fun i q => NRep 4 q.1 q.2.2.1 (fld (fun m b => if canB P 0 m a = true then bF P 0 1 (sk P m a) (rwU rw' 2 m) (2 + 1) b else b) i b) ∧ ∀ j, j < 2 → q.2.1 j = row j) (2 ^ P 0 2) (sN, row, fd, A3, R3, A4, R4) ⟨hb, fun _ _ => rfl⟩ ?_ ?_
  · rintro nn ⟨sN1, row1, fd1, A31, R31, A41, R41⟩ ⟨g1, g2⟩
    show wpX6_explore_n2_n4_L36 sG fl kd F hA E ov ak nx wy gl _ post (nn + 1) sN1 row1 fd1 A31 R31 A41 R41 (nI (2 ^ P 0 2))
    unfold wpX6_explore_n2_n4_L36
    rw [hs 2 (by omega), show jshl (1 : Int32) (nI (P 0 2)) = nI (2 ^ P 0 2) from n_shl (by omega)]
    exact ⟨fun _ => hk _ _ _ _ _ _ _ g1 g2, fun z => absurd (nI_le (Nat.le_refl _) (by omega)) z⟩
  · rintro nn i ⟨sN1, row1, fd1, A31, R31, A41, R41⟩ hi ⟨g1, g2⟩ hnext
    have g1 : NRep 4 sN1 fd1 (fld (fun m b => if canB P 0 m a = true then bF P 0 1 (sk P m a) (rwU rw' 2 m) (2 + 1) b else b) i b) := g1
    have g2 : ∀ j, j < 2 → row1 j = row j := g2
    show wpX6_explore_n2_n4_L36 sG fl kd F hA E ov ak nx wy gl _ post (nn + 1) sN1 row1 fd1 A31 R31 A41 R41 (nI i)
    unfold wpX6_explore_n2_n4_L36
    rw [hs 2 (by omega), show jshl (1 : Int32) (nI (P 0 2)) = nI (2 ^ P 0 2) from n_shl (by omega)]
    refine ⟨fun z => absurd z (nI_ge hi (by omega)), fun _ => c_canRing hF hs ha hok (fun m e hc => ⟨fun z => absurd z (by decide), fun _ => ?_⟩) (fun e => ⟨fun _ => nm_r (nI_1 i) (hnext (sN1, row1, fd1, A31, R31, A41, R41) ⟨?_, g2⟩), fun z => absurd rfl z⟩)⟩
    · have em : i = m := nI_inj32 (by omega) (by have := hc.1; omega) e
      subst em
      have hcb : canB P 0 i a = true := (canB_R hi).mpr hc
      have hst : fld (fun m b => if canB P 0 m a = true then bF P 0 1 (sk P m a) (rwU rw' 2 m) (2 + 1) b else b) (i + 1) b = bF P 0 1 (sk P i a) (rwU rw' 2 i) (2 + 1) (fld (fun m b => if canB P 0 m a = true then bF P 0 1 (sk P m a) (rwU rw' 2 m) (2 + 1) b else b) i b) := by
        rw [fld]
        exact if_pos hcb
      have hrow2 : ∀ j, j < 2 + 1 → upd row1 2 (nI i) j = nI (rwU rw' 2 i j) := fun j hj => by
        unfold rwU
        by_cases ej : j = 2
        · rw [if_pos ej, ej, pk_us]
        · rw [if_neg ej, pk_un ej, g2 j (by omega)]; exact hrow j (by omega)
      unfold wpX3_take
      refine nm_e (nm_e (c_hear hF hs hC.2.2.2.2.1 hC.2.2.2.2.2 hC.2.2.1 hC.2.2.2.1 hc (ha.cpy hF) hok (by omega) (fun F2 R2 q1 q2 => c_mayBeBetter hF hs q1 (sk_ok hF hok) g1 ?_)))
      by_cases qb : btr (fld (fun m b => if canB P 0 m a = true then bF P 0 1 (sk P m a) (rwU rw' 2 m) (2 + 1) b else b) i b) (hmN P (sk P i a) 1 + hmN P (sk P i a) 0) (hmN P (sk P i a) 2) = true
      · rw [if_pos qb]
        refine ⟨fun z => absurd z (by decide), fun _ => c_ex34 hC q1 (sk_ok hF hok) (by omega) g1 (rw' := rwU rw' 2 i) hrow2 (fun sN2 row2 fd2 B4 S4 p1 p2 => nm_r (nI_1 i) (hnext (sN2, row2, fd2, F2, R2, B4, S4) ⟨?_, fun j hj => ?_⟩))⟩
        · show NRep 4 sN2 fd2 (fld (fun m b => if canB P 0 m a = true then bF P 0 1 (sk P m a) (rwU rw' 2 m) (2 + 1) b else b) (i + 1) b)
          rw [hst]; exact p1
        · show row2 j = _; rw [p2 j (by omega), pk_un (by omega)]; exact g2 j hj
      · rw [if_neg qb]
        refine ⟨fun _ => nm_r (nI_1 i) (hnext (sN1, upd row1 2 (nI i), fd1, F2, R2, A41, R41) ⟨?_, fun j hj => ?_⟩), fun z => absurd rfl z⟩
        · show NRep 4 sN1 fd1 (fld (fun m b => if canB P 0 m a = true then bF P 0 1 (sk P m a) (rwU rw' 2 m) (2 + 1) b else b) (i + 1) b)
          rw [hst, bF_prune hF _ _ _ _ _ _ qb]; exact g1
        · show upd row1 2 (nI i) j = _
          rw [pk_un (by omega)]; exact g2 j hj
    · show NRep 4 sN1 fd1 (fld (fun m b => if canB P 0 m a = true then bF P 0 1 (sk P m a) (rwU rw' 2 m) (2 + 1) b else b) (i + 1) b)
      rw [fld]
      have hcb : ¬ canB P 0 i a = true := fun z => e ⟨i, rfl, (canB_R hi).mp z⟩
      rw [if_neg hcb]
      exact g1
theorem c_ex14 {P : FL} {sN sG row fd fl kd F A2 R2 A3 R3 A4 R4 hA E ov ak nx wy gl : AR} (hC : CG P sG fl kd hA E ov ak nx wy gl) {B : Nat} {a rw' : Nat → Nat} (ha : FRep P F a) (hok : FOK P B a) (hB : B + 3 < 2 ^ 30) {b : BS} (hb : NRep 4 sN fd b) (hrow : ∀ i, i < 1 → row i = nI (rw' i)) {post : AR → AR → AR → AR → AR → AR → AR → AR → AR → Prop} (hk : ∀ sN' row' fd' A2' R2' A3' R3' A4' R4', NRep 4 sN' fd' (bF P 0 3 a rw' 1 b) → (∀ i, i < 1 → row' i = row i) → post sN' row' fd' A2' R2' A3' R3' A4' R4') : wpX6_explore_n1_n4 sN sG row fd fl kd F A2 R2 hA E ov ak nx wy gl A3 R3 A4 R4 post := by
  have hF := hC.1
  have hs := hC.2.1
  have f5 := hF.1.2.2.2.2.1
  have h32 := p2_le f5
  unfold wpX6_explore_n1_n4
  refine loop_0 (fun nn i (q : AR × AR × AR × AR × AR × AR × AR × AR × AR) => wpX6_explore_n1_n4_L36 sG fl kd F hA E ov ak nx wy gl _ post nn q.1 q.2.1 q.2.2.1 q.2.2.2.1 q.2.2.2.2.1 q.2.2.2.2.2.1 q.2.2.2.2.2.2.1 q.2.2.2.2.2.2.2.1 q.2.2.2.2.2.2.2.2 (nI i)) (fun i q => NRep 4 q.1 q.2.2.1 (fld (fun m b => if canB P 0 m a = true then bF P 0 2 (sk P m a) (rwU rw' 1 m) (1 + 1) b else b) i b) ∧ ∀ j, j < 1 → q.2.1 j = row j) (2 ^ P 0 2) (sN, row, fd, A2, R2, A3, R3, A4, R4) ⟨hb, fun _ _ => rfl⟩ ?_ ?_
  · rintro nn ⟨sN1, row1, fd1, A21, R21, A31, R31, A41, R41⟩ ⟨g1, g2⟩
    show wpX6_explore_n1_n4_L36 sG fl kd F hA E ov ak nx wy gl _ post (nn + 1) sN1 row1 fd1 A21 R21 A31 R31 A41 R41 (nI (2 ^ P 0 2))
    unfold wpX6_explore_n1_n4_L36
    rw [hs 2 (by omega), show jshl (1 : Int32) (nI (P 0 2)) = nI (2 ^ P 0 2) from n_shl (by omega)]
    exact ⟨fun _ => hk _ _ _ _ _ _ _ _ _ g1 g2, fun z => absurd (nI_le (Nat.le_refl _) (by omega)) z⟩
  · rintro nn i ⟨sN1, row1, fd1, A21, R21, A31, R31, A41, R41⟩ hi ⟨g1, g2⟩ hnext
    have g1 : NRep 4 sN1 fd1 (fld (fun m b => if canB P 0 m a = true then bF P 0 2 (sk P m a) (rwU rw' 1 m) (1 + 1) b else b) i b) := g1
    have g2 : ∀ j, j < 1 → row1 j = row j := g2
    show wpX6_explore_n1_n4_L36 sG fl kd F hA E ov ak nx wy gl _ post (nn + 1) sN1 row1 fd1 A21 R21 A31 R31 A41 R41 (nI i)
    unfold wpX6_explore_n1_n4_L36
    rw [hs 2 (by omega), show jshl (1 : Int32) (nI (P 0 2)) = nI (2 ^ P 0 2) from n_shl (by omega)]
    refine ⟨fun z => absurd z (nI_ge hi (by omega)), fun _ => c_canRing hF hs ha hok (fun m e hc => ⟨fun z => absurd z (by decide), fun _ => ?_⟩) (fun e => ⟨fun _ => nm_r (nI_1 i) (hnext (sN1, row1, fd1, A21, R21, A31, R31, A41, R41) ⟨?_, g2⟩), fun z => absurd rfl z⟩)⟩
    · have em : i = m := nI_inj32 (by omega) (by have := hc.1; omega) e
      subst em
      have hcb : canB P 0 i a = true := (canB_R hi).mpr hc
      have hst : fld (fun m b => if canB P 0 m a = true then bF P 0 2 (sk P m a) (rwU rw' 1 m) (1 + 1) b else b) (i + 1) b = bF P 0 2 (sk P i a) (rwU rw' 1 i) (1 + 1) (fld (fun m b => if canB P 0 m a = true then bF P 0 2 (sk P m a) (rwU rw' 1 m) (1 + 1) b else b) i b) := by
        rw [fld]
        exact if_pos hcb
      have hrow2 : ∀ j, j < 1 + 1 → upd row1 1 (nI i) j = nI (rwU rw' 1 i j) := fun j hj => by
        unfold rwU
        by_cases ej : j = 1
        · rw [if_pos ej, ej, pk_us]
        · rw [if_neg ej, pk_un ej, g2 j (by omega)]; exact hrow j (by omega)
      unfold wpX3_take
      refine nm_e (nm_e (c_hear hF hs hC.2.2.2.2.1 hC.2.2.2.2.2 hC.2.2.1 hC.2.2.2.1 hc (ha.cpy hF) hok (by omega) (fun F2 R2 q1 q2 => c_mayBeBetter hF hs q1 (sk_ok hF hok) g1 ?_)))
      by_cases qb : btr (fld (fun m b => if canB P 0 m a = true then bF P 0 2 (sk P m a) (rwU rw' 1 m) (1 + 1) b else b) i b) (hmN P (sk P i a) 1 + hmN P (sk P i a) 0) (hmN P (sk P i a) 2) = true
      · rw [if_pos qb]
        refine ⟨fun z => absurd z (by decide), fun _ => c_ex24 hC q1 (sk_ok hF hok) (by omega) g1 (rw' := rwU rw' 1 i) hrow2 (fun sN2 row2 fd2 B3 S3 B4 S4 p1 p2 => nm_r (nI_1 i) (hnext (sN2, row2, fd2, F2, R2, B3, S3, B4, S4) ⟨?_, fun j hj => ?_⟩))⟩
        · show NRep 4 sN2 fd2 (fld (fun m b => if canB P 0 m a = true then bF P 0 2 (sk P m a) (rwU rw' 1 m) (1 + 1) b else b) (i + 1) b)
          rw [hst]; exact p1
        · show row2 j = _; rw [p2 j (by omega), pk_un (by omega)]; exact g2 j hj
      · rw [if_neg qb]
        refine ⟨fun _ => nm_r (nI_1 i) (hnext (sN1, upd row1 1 (nI i), fd1, F2, R2, A31, R31, A41, R41) ⟨?_, fun j hj => ?_⟩), fun z => absurd rfl z⟩
        · show NRep 4 sN1 fd1 (fld (fun m b => if canB P 0 m a = true then bF P 0 2 (sk P m a) (rwU rw' 1 m) (1 + 1) b else b) (i + 1) b)
          rw [hst, bF_prune hF _ _ _ _ _ _ qb]; exact g1
        · show upd row1 1 (nI i) j = _
          rw [pk_un (by omega)]; exact g2 j hj
    · show NRep 4 sN1 fd1 (fld (fun m b => if canB P 0 m a = true then bF P 0 2 (sk P m a) (rwU rw' 1 m) (1 + 1) b else b) (i + 1) b)
      rw [fld]
      have hcb : ¬ canB P 0 i a = true := fun z => e ⟨i, rfl, (canB_R hi).mp z⟩
      rw [if_neg hcb]
      exact g1
theorem c_ex04 {P : FL} {sN sG row fd fl kd F A1 R1 A2 R2 A3 R3 A4 R4 hA E ov ak nx wy gl : AR} (hC : CG P sG fl kd hA E ov ak nx wy gl) {B : Nat} {a rw' : Nat → Nat} (ha : FRep P F a) (hok : FOK P B a) (hB : B + 4 < 2 ^ 30) {b : BS} (hb : NRep 4 sN fd b) (hrow : ∀ i, i < 0 → row i = nI (rw' i)) {post : AR → AR → AR → AR → AR → AR → AR → AR → AR → AR → AR → Prop} (hk : ∀ sN' row' fd' A1' R1' A2' R2' A3' R3' A4' R4', NRep 4 sN' fd' (bF P 0 4 a rw' 0 b) → (∀ i, i < 0 → row' i = row i) → post sN' row' fd' A1' R1' A2' R2' A3' R3' A4' R4') : wpX6_explore_n0_n4 sN sG row fd fl kd F A1 R1 hA E ov ak nx wy gl A2 R2 A3 R3 A4 R4 post := by
  have hF := hC.1
  have hs := hC.2.1
  have f5 := hF.1.2.2.2.2.1
  have h32 := p2_le f5
  unfold wpX6_explore_n0_n4
  refine loop_0 (fun nn i (q : AR × AR × AR × AR × AR × AR × AR × AR × AR × AR × AR) => wpX6_explore_n0_n4_L36 sG fl kd F hA E ov ak nx wy gl _ post nn q.1 q.2.1 q.2.2.1 q.2.2.2.1 q.2.2.2.2.1 q.2.2.2.2.2.1 q.2.2.2.2.2.2.1 q.2.2.2.2.2.2.2.1 q.2.2.2.2.2.2.2.2.1 q.2.2.2.2.2.2.2.2.2.1 q.2.2.2.2.2.2.2.2.2.2 (nI i)) (fun i q => NRep 4 q.1 q.2.2.1 (fld (fun m b => if canB P 0 m a = true then bF P 0 3 (sk P m a) (rwU rw' 0 m) (0 + 1) b else b) i b) ∧ ∀ j, j < 0 → q.2.1 j = row j) (2 ^ P 0 2) (sN, row, fd, A1, R1, A2, R2, A3, R3, A4, R4) ⟨hb, fun _ _ => rfl⟩ ?_ ?_
  · rintro nn ⟨sN1, row1, fd1, A11, R11, A21, R21, A31, R31, A41, R41⟩ ⟨g1, g2⟩
    show wpX6_explore_n0_n4_L36 sG fl kd F hA E ov ak nx wy gl _ post (nn + 1) sN1 row1 fd1 A11 R11 A21 R21 A31 R31 A41 R41 (nI (2 ^ P 0 2))
    unfold wpX6_explore_n0_n4_L36
    rw [hs 2 (by omega), show jshl (1 : Int32) (nI (P 0 2)) = nI (2 ^ P 0 2) from n_shl (by omega)]
    exact ⟨fun _ => hk _ _ _ _ _ _ _ _ _ _ _ g1 g2, fun z => absurd (nI_le (Nat.le_refl _) (by omega)) z⟩
  · rintro nn i ⟨sN1, row1, fd1, A11, R11, A21, R21, A31, R31, A41, R41⟩ hi ⟨g1, g2⟩ hnext
    have g1 : NRep 4 sN1 fd1 (fld (fun m b => if canB P 0 m a = true then bF P 0 3 (sk P m a) (rwU rw' 0 m) (0 + 1) b else b) i b) := g1
    have g2 : ∀ j, j < 0 → row1 j = row j := g2
    show wpX6_explore_n0_n4_L36 sG fl kd F hA E ov ak nx wy gl _ post (nn + 1) sN1 row1 fd1 A11 R11 A21 R21 A31 R31 A41 R41 (nI i)
    unfold wpX6_explore_n0_n4_L36
    rw [hs 2 (by omega), show jshl (1 : Int32) (nI (P 0 2)) = nI (2 ^ P 0 2) from n_shl (by omega)]
    refine ⟨fun z => absurd z (nI_ge hi (by omega)), fun _ => c_canRing hF hs ha hok (fun m e hc => ⟨fun z => absurd z (by decide), fun _ => ?_⟩) (fun e => ⟨fun _ => nm_r (nI_1 i) (hnext (sN1, row1, fd1, A11, R11, A21, R21, A31, R31, A41, R41) ⟨?_, g2⟩), fun z => absurd rfl z⟩)⟩
    · have em : i = m := nI_inj32 (by omega) (by have := hc.1; omega) e
      subst em
      have hcb : canB P 0 i a = true := (canB_R hi).mpr hc
      have hst : fld (fun m b => if canB P 0 m a = true then bF P 0 3 (sk P m a) (rwU rw' 0 m) (0 + 1) b else b) (i + 1) b = bF P 0 3 (sk P i a) (rwU rw' 0 i) (0 + 1) (fld (fun m b => if canB P 0 m a = true then bF P 0 3 (sk P m a) (rwU rw' 0 m) (0 + 1) b else b) i b) := by
        rw [fld]
        exact if_pos hcb
      have hrow2 : ∀ j, j < 0 + 1 → upd row1 0 (nI i) j = nI (rwU rw' 0 i j) := fun j hj => by
        unfold rwU
        by_cases ej : j = 0
        · rw [if_pos ej, ej, pk_us]
        · rw [if_neg ej, pk_un ej, g2 j (by omega)]; exact hrow j (by omega)
      unfold wpX3_take
      refine nm_e (nm_e (c_hear hF hs hC.2.2.2.2.1 hC.2.2.2.2.2 hC.2.2.1 hC.2.2.2.1 hc (ha.cpy hF) hok (by omega) (fun F2 R2 q1 q2 => c_mayBeBetter hF hs q1 (sk_ok hF hok) g1 ?_)))
      by_cases qb : btr (fld (fun m b => if canB P 0 m a = true then bF P 0 3 (sk P m a) (rwU rw' 0 m) (0 + 1) b else b) i b) (hmN P (sk P i a) 1 + hmN P (sk P i a) 0) (hmN P (sk P i a) 2) = true
      · rw [if_pos qb]
        refine ⟨fun z => absurd z (by decide), fun _ => c_ex14 hC q1 (sk_ok hF hok) (by omega) g1 (rw' := rwU rw' 0 i) hrow2 (fun sN2 row2 fd2 B2 S2 B3 S3 B4 S4 p1 p2 => nm_r (nI_1 i) (hnext (sN2, row2, fd2, F2, R2, B2, S2, B3, S3, B4, S4) ⟨?_, fun j hj => ?_⟩))⟩
        · show NRep 4 sN2 fd2 (fld (fun m b => if canB P 0 m a = true then bF P 0 3 (sk P m a) (rwU rw' 0 m) (0 + 1) b else b) (i + 1) b)
          rw [hst]; exact p1
        · show row2 j = _; rw [p2 j (by omega), pk_un (by omega)]; exact g2 j hj
      · rw [if_neg qb]
        refine ⟨fun _ => nm_r (nI_1 i) (hnext (sN1, upd row1 0 (nI i), fd1, F2, R2, A21, R21, A31, R31, A41, R41) ⟨?_, fun j hj => ?_⟩), fun z => absurd rfl z⟩
        · show NRep 4 sN1 fd1 (fld (fun m b => if canB P 0 m a = true then bF P 0 3 (sk P m a) (rwU rw' 0 m) (0 + 1) b else b) (i + 1) b)
          rw [hst, bF_prune hF _ _ _ _ _ _ qb]; exact g1
        · show upd row1 0 (nI i) j = _
          rw [pk_un (by omega)]; exact g2 j hj
    · show NRep 4 sN1 fd1 (fld (fun m b => if canB P 0 m a = true then bF P 0 3 (sk P m a) (rwU rw' 0 m) (0 + 1) b else b) (i + 1) b)
      rw [fld]
      have hcb : ¬ canB P 0 i a = true := fun z => e ⟨i, rfl, (canB_R hi).mp z⟩
      rw [if_neg hcb]
      exact g1
/-- the best 4 -/
theorem c_mm4 {P : FL} {sN sG row fd G A0 fl kd A1 R1 A2 R2 A3 R3 A4 R4 hA E ov ak nx wy gl : AR} (hC : CG P sG fl kd hA E ov ak nx wy gl) {B : Nat} {a : Nat → Nat} (ha : FRep P G a) (hok : FOK P B a) (hB : B + 4 < 2 ^ 30) {x : Int32} {bu : Nat} (hx : (x = -1 ∧ bu = 0) ∨ ∃ t, t < P 0 2 ∧ x = nI t ∧ bu = 2 ^ t) {post : Int32 → AR → AR → AR → AR → AR → AR → AR → AR → AR → AR → AR → AR → Prop} (hk : ∀ sN' row' fd' A0' A1' R1' A2' R2' A3' R3' A4' R4', NRep 4 sN' fd' (bF P bu 4 a (fun _ => 0) 0 (0, 0, fun _ => 0)) → post (tI (bF P bu 4 a (fun _ => 0) 0 (0, 0, fun _ => 0)).1 - nI (hmN P a 1)) sN' row' fd' A0' A1' R1' A2' R2' A3' R3' A4' R4') : wpX6_mostMore_n4 sN sG row fd G A0 fl kd A1 R1 hA E ov ak nx wy gl A2 R2 A3 R3 A4 R4 x post := by
  have hF := hC.1
  have hs := hC.2.1
  have f5 := hF.1.2.2.2.2.1
  have core : ∀ (F0 : AR) (a0 : Nat → Nat), FRep P F0 a0 → FOK P B a0 → bF P 0 4 a0 (fun _ => 0) 0 (0, 0, fun _ => 0) = bF P bu 4 a (fun _ => 0) 0 (0, 0, fun _ => 0) → wpX6_mostMore_n4_J35 (upd (upd sN 4 (-1 : Int32)) 5 (0 : Int32)) sG row fd G F0 fl kd A1 R1 hA E ov ak nx wy gl A2 R2 A3 R3 A4 R4 post := by
    intro F0 a0 h1 h2 h3
    unfold wpX6_mostMore_n4_J35
    refine c_ex04 hC h1 h2 (by omega) (b := (0, 0, fun _ => 0)) (rw' := fun _ => 0) ⟨?_, Nat.zero_le _, fun z => absurd rfl z⟩ (fun i hi => absurd hi (Nat.not_lt_zero _)) (fun sN2 row2 fd2 B1 S1 B2 S2 B3 S3 B4 S4 p1 p2 => ?_)
    · rw [pk_un (by omega), pk_us]; rfl
    · rw [h3] at p1
      refine c_howMany hF hs ha hok (h := 1) (by omega) ?_
      rw [p1.1]
      exact hk _ _ _ _ _ _ _ _ _ _ _ _ p1
  unfold wpX6_mostMore_n4 wpX3_take
  refine nm_e ?_
  rcases hx with ⟨hx, hbu⟩ | ⟨t, ht, hx, hbu⟩
  · subst hx hbu
    exact ⟨fun _ => core _ a (ha.cpy hF) hok rfl, fun z => absurd rfl z⟩
  · subst hx hbu
    refine ⟨fun z => absurd z (nI_nem (by omega)), fun _ => ?_⟩
    unfold wpX3_silence
    rw [show (24 : Int32) + nI t = nI (24 + t) from nI_add 24 t, nI_clamp (by omega)]
    refine ⟨vp_in_nI (by omega) (by omega), nm_e (core _ (fun i => if i = 24 + t then 0 else a i) ?_ ?_ (bF_sil hF ht _ _ _ _ _ _ ⟨if_pos rfl, fun i hi => if_neg hi⟩))⟩
    · have h1 := ha.cpy hF (G := A0)
      have f6 := hF.1.2.2.2.2.2.1
      refine ⟨fun w hw => ((h1.1 w hw).same (fun j h3 h4 => by rw [pk_un (by omega)])).congr (fun f hf => ?_), fun u hu => ?_⟩
      · show a (w * 6 + f) = if w * 6 + f = 24 + t then 0 else a (w * 6 + f)
        rw [if_neg (by omega)]
      · by_cases e : u = t
        · subst e
          rw [pk_us]
          show (0 : Int32) = nI (if 24 + u = 24 + u then 0 else a (24 + u))
          rw [if_pos rfl]
          rfl
        · rw [pk_un (by omega)]
          show _ = nI (if 24 + u = 24 + t then 0 else a (24 + u))
          rw [if_neg (by omega)]
          exact h1.2 u hu
    · have f6 := hF.1.2.2.2.2.2.1
      refine ⟨fun w hw => (hok.1 w hw).congr (fun f hf => ?_), fun u hu => ?_⟩
      · show a (w * 6 + f) = if w * 6 + f = 24 + t then 0 else a (w * 6 + f)
        rw [if_neg (by omega)]
      · show (if 24 + u = 24 + t then 0 else a (24 + u)) ≤ 99
        have := hok.2 u hu
        split <;> omega
