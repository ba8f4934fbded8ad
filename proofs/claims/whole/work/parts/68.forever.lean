/-! for ever -/
theorem pigeon : ∀ (N : Nat) (f : Nat → Nat), (∀ i, i ≤ N → f i < N) → ∃ i j, i < j ∧ j ≤ N ∧ f i = f j := by
  intro N
  induction N with
  | zero => intro f h; exact absurd (h 0 (Nat.le_refl _)) (by omega)
  | succ N ih =>
    intro f h
    by_cases e : ∃ i, i ≤ N ∧ f i = f (N + 1)
    · obtain ⟨i, h1, h2⟩ := e
      exact ⟨i, N + 1, by omega, Nat.le_refl _, h2⟩
    · have e2 : ∀ i, i ≤ N → f i ≠ f (N + 1) := fun i hi q => e ⟨i, hi, q⟩
      have hv := h (N + 1) (Nat.le_refl _)
      obtain ⟨i, j, h1, h2, h3⟩ := ih (fun i => if f i = N then f (N + 1) else f i) (fun i hi => by
        have h4 := h i (by omega)
        have h5 := e2 i hi
        show (if f i = N then f (N + 1) else f i) < N
        split <;> omega)
      have h3 : (if f i = N then f (N + 1) else f i) = (if f j = N then f (N + 1) else f j) := h3
      have h5 := e2 i (by omega)
      have h6 := e2 j (by omega)
      refine ⟨i, j, h1, by omega, ?_⟩
      split at h3 <;> split at h3 <;> omega
def lk (kd : Nat) (x : Nat → Nat) : Nat := ((x 0 * 4 + x 2) * 6 + x 4) * 2 + (if kd = 3 then x 5 % 2 else 0)
theorem lk_lt {P : FL} (hF : FlatOK P) {kd n : Nat} {x : Nat → Nat} (h : WOK P n x) : lk kd x < 4800 := by
  have fc := hF.cells
  have f5 := hF.1.2.2.2.2.1
  obtain ⟨h0, h1, h2, h3, h4, h5⟩ := h
  unfold lk
  split <;> omega
theorem lk_inj {P : FL} (hF : FlatOK P) {kd n n' : Nat} {x y : Nat → Nat} (hx : WOK P n x) (hy : WOK P n' y) (h : lk kd x = lk kd y) : x 0 = y 0 ∧ x 2 = y 2 ∧ x 4 = y 4 ∧ (kd = 3 → x 5 % 2 = y 5 % 2) := by
  have f5 := hF.1.2.2.2.2.1
  obtain ⟨h0, h1, h2, h3, h4, h5⟩ := hx
  obtain ⟨g0, g1, g2, g3, g4, g5⟩ := hy
  unfold lk at h
  by_cases e : kd = 3
  · rw [if_pos e, if_pos e] at h
    refine ⟨by omega, by omega, by omega, fun _ => by omega⟩
  · rw [if_neg e, if_neg e] at h
    refine ⟨by omega, by omega, by omega, fun z => absurd z e⟩
theorem lk_step {P : FL} (hF : FlatOK P) {m kd n n' : Nat} {x y : Nat → Nat} (hx : WOK P n x) (hy : WOK P n' y) (h : lk kd x = lk kd y) (hx3 : x 3 = 0) (hy3 : y 3 = 0) : lk kd (gW P m kd x) = lk kd (gW P m kd y) ∧ gW P m kd x 3 = gW P m kd y 3 := by
  obtain ⟨e0, e2, e4, e5⟩ := lk_inj hF hx hy h
  have tn : lk kd (tnW x) = lk kd (tnW y) := by
    show ((x 0 * 4 + x 2) * 6 + x 4) * 2 + (if kd = 3 then (x 5 + 1) % 2 else 0) = ((y 0 * 4 + y 2) * 6 + y 4) * 2 + (if kd = 3 then (y 5 + 1) % 2 else 0)
    rw [e0, e2, e4]
    by_cases e : kd = 3
    · have := e5 e
      rw [if_pos e, if_pos e]
      omega
    · rw [if_neg e, if_neg e]
  have tn3 : tnW x 3 = tnW y 3 := by show x 3 = y 3; rw [hx3, hy3]
  unfold gW
  by_cases e : kd = 3 ∧ x 5 % 2 = 0
  · have e' : kd = 3 ∧ y 5 % 2 = 0 := ⟨e.1, by rw [← e5 e.1]; exact e.2⟩
    rw [if_pos e, if_pos e']
    exact ⟨tn, tn3⟩
  · have e' : ¬ (kd = 3 ∧ y 5 % 2 = 0) := fun q => e ⟨q.1, by rw [e5 q.1]; exact q.2⟩
    rw [if_neg e, if_neg e', ← e0, ← e4]
    by_cases e1 : chs P m kd (x 0) (x 4) = 0
    · rw [if_pos e1, if_pos e1]
      exact ⟨tn, tn3⟩
    · rw [if_neg e1, if_neg e1]
      refine ⟨?_, ?_⟩
      · show ((pcC P (x 0) (x 2) _ * 4 + pcH P (x 0) (x 2) _) * 6 + (if _ = 0 then x 4 else _)) * 2 + (if kd = 3 then (x 5 + 1) % 2 else 0) = ((pcC P (y 0) (y 2) _ * 4 + pcH P (y 0) (y 2) _) * 6 + (if _ = 0 then y 4 else _)) * 2 + (if kd = 3 then (y 5 + 1) % 2 else 0)
        rw [e0, e2, e4]
        by_cases e : kd = 3
        · have := e5 e
          rw [if_pos e, if_pos e]
          omega
        · rw [if_neg e, if_neg e]
      · show hwE P (pcC P (x 0) (x 2) _) _ = hwE P (pcC P (y 0) (y 2) _) _
        rw [e0, e2]
def Xs (P : FL) (m kd : Nat) (x : Nat → Nat) : Nat → Nat → Nat
  | 0 => x
  | i + 1 => gW P m kd (Xs P m kd x i)
theorem Xs_ok {P : FL} (hF : FlatOK P) {m kd n : Nat} {x : Nat → Nat} (h : WOK P n x) : ∀ i, WOK P (n + i) (Xs P m kd x i) := by
  intro i
  induction i with
  | zero => exact h
  | succ i ih => exact gW_ok hF ih
/-- the first time that one is no more out, or is as he was once -/
def FirstQ (P : FL) (m kd : Nat) (x : Nat → Nat) (n : Nat) : Prop := (Xs P m kd x n 3 ≠ 0 ∨ ∃ j, j < n ∧ lk kd (Xs P m kd x j) = lk kd (Xs P m kd x n)) ∧ ∀ i, i < n → Xs P m kd x i 3 = 0 ∧ ∀ j, j < i → lk kd (Xs P m kd x j) ≠ lk kd (Xs P m kd x i)
theorem first_ex {P : FL} (hF : FlatOK P) {m kd n0 : Nat} {x : Nat → Nat} (h : WOK P n0 x) : ∃ n, n ≤ 4800 ∧ FirstQ P m kd x n := by
  have hx := Xs_ok hF (m := m) (kd := kd) h
  obtain ⟨a, b, h1, h2, h3⟩ := pigeon 4800 (fun i => lk kd (Xs P m kd x i)) (fun i _ => lk_lt hF (hx i))
  obtain ⟨n, hn, hl⟩ := pk_least (fun n => Xs P m kd x n 3 ≠ 0 ∨ ∃ j, j < n ∧ lk kd (Xs P m kd x j) = lk kd (Xs P m kd x n)) ⟨b, Or.inr ⟨a, h1, h3⟩⟩
  refine ⟨n, ?_, hn, fun i hi => ?_⟩
  · rcases Nat.lt_or_ge 4800 n with q | q
    · exact absurd (Or.inr ⟨a, h1, h3⟩) (hl b (by omega))
    · exact q
  · have := hl i hi
    refine ⟨Classical.byContradiction (fun q => this (Or.inl q)), fun j hj q => this (Or.inr ⟨j, hj, q⟩)⟩
/-- in a ring: as j strokes before, for ever -/
theorem ring_all {P : FL} (hF : FlatOK P) {m kd n0 n j : Nat} {x : Nat → Nat} (h : WOK P n0 x) (hf : FirstQ P m kd x n) (hj : j < n) (he : lk kd (Xs P m kd x j) = lk kd (Xs P m kd x n)) (h3 : Xs P m kd x n 3 = 0) : ∀ t, Xs P m kd x (n + t) 3 = 0 ∧ lk kd (Xs P m kd x (j + t)) = lk kd (Xs P m kd x (n + t)) := by
  have hx := Xs_ok hF (m := m) (kd := kd) h
  intro t
  induction t using Nat.strongRecOn with
  | ind t ih =>
    cases t with
    | zero => exact ⟨h3, he⟩
    | succ t =>
      obtain ⟨i1, i2⟩ := ih t (Nat.lt_succ_self t)
      have i3 : Xs P m kd x (j + t) 3 = 0 := by
        rcases Nat.lt_or_ge (j + t) n with q | q
        · exact (hf.2 _ q).1
        · obtain ⟨d, hd⟩ : ∃ d, j + t = n + d := ⟨j + t - n, by omega⟩
          rw [hd]
          exact (ih d (by omega)).1
      obtain ⟨s1, s2⟩ := lk_step hF (m := m) (hx (j + t)) (hx (n + t)) i2 i3 i1
      refine ⟨?_, s1⟩
      show gW P m kd (Xs P m kd x (n + t)) 3 = 0
      rw [← s2]
      show Xs P m kd x (j + t + 1) 3 = 0
      rcases Nat.lt_or_ge (j + t + 1) n with q | q
      · exact (hf.2 _ q).1
      · obtain ⟨d, hd⟩ : ∃ d, j + t + 1 = n + d := ⟨j + t + 1 - n, by omega⟩
        rw [hd]
        exact (ih d (by omega)).1
/-- an earlier one like the s-th: by full rounds -/
theorem ring_back {P : FL} (hF : FlatOK P) {m kd n0 n j : Nat} {x : Nat → Nat} (h : WOK P n0 x) (hf : FirstQ P m kd x n) (hj : j < n) (he : lk kd (Xs P m kd x j) = lk kd (Xs P m kd x n)) (h3 : Xs P m kd x n 3 = 0) : ∀ s, ∃ r, r < n ∧ lk kd (Xs P m kd x r) = lk kd (Xs P m kd x s) ∧ (s < n → r = s) ∧ (j ≤ s → j ≤ r ∧ r % (n - j) = s % (n - j)) ∧ (s < j → r = s) := by
  intro s
  induction s using Nat.strongRecOn with
  | ind s ih =>
    rcases Nat.lt_or_ge s n with q | q
    · exact ⟨s, q, rfl, fun _ => rfl, fun z => ⟨z, rfl⟩, fun _ => rfl⟩
    · obtain ⟨t, rfl⟩ : ∃ t, s = n + t := ⟨s - n, by omega⟩
      obtain ⟨r, r1, r2, r3, r4, r5⟩ := ih (j + t) (by omega)
      refine ⟨r, r1, r2.trans (ring_all hF h hf hj he h3 t).2, fun z => by omega, fun _ => ?_, fun z => by omega⟩
      obtain ⟨r6, r7⟩ := r4 (by omega)
      refine ⟨r6, r7.trans ?_⟩
      rw [show n + t = (j + t) + (n - j) by omega, Nat.add_mod_right]
theorem mod_win {a b d : Nat} (hd : 0 < d) (h : a < b) (hm : a % d = b % d) : d ≤ b - a := by
  have h1 := Nat.div_add_mod a d
  have h2 := Nat.div_add_mod b d
  rcases Nat.lt_or_ge (a / d) (b / d) with q | q
  · have : d * (a / d + 1) ≤ d * (b / d) := Nat.mul_le_mul_left _ q
    rw [Nat.mul_add, Nat.mul_one] at this
    omega
  · have : d * (b / d) ≤ d * (a / d) := Nat.mul_le_mul_left _ q
    omega
/-- two like ones lie a ring apart, behind its beginning -/
theorem ring_gap {P : FL} (hF : FlatOK P) {m kd n0 n j : Nat} {x : Nat → Nat} (h : WOK P n0 x) (hf : FirstQ P m kd x n) (hj : j < n) (he : lk kd (Xs P m kd x j) = lk kd (Xs P m kd x n)) (h3 : Xs P m kd x n 3 = 0) {a b : Nat} (hab : a < b) (hl : lk kd (Xs P m kd x a) = lk kd (Xs P m kd x b)) : j ≤ a ∧ n - j ≤ b - a := by
  obtain ⟨r, r1, r2, r3, r4, r5⟩ := ring_back hF h hf hj he h3 a
  obtain ⟨s, s1, s2, s3, s4, s5⟩ := ring_back hF h hf hj he h3 b
  have e : r = s := by
    have hl2 : lk kd (Xs P m kd x r) = lk kd (Xs P m kd x s) := r2.trans (hl.trans s2.symm)
    rcases Nat.lt_trichotomy r s with q | q | q
    · exact absurd hl2 ((hf.2 s s1).2 r q)
    · exact q
    · exact absurd hl2.symm ((hf.2 r r1).2 s q)
  subst e
  rcases Nat.lt_or_ge a j with q | q
  · have ra := r5 q
    rcases Nat.lt_or_ge b j with q2 | q2
    · have := s5 q2; omega
    · have := (s4 q2).1; omega
  · refine ⟨q, mod_win (by omega) hab ?_⟩
    rw [← (r4 q).2, ← (s4 (by omega)).2]
theorem ring_next {P : FL} (hF : FlatOK P) {m kd n0 n j : Nat} {x : Nat → Nat} (h : WOK P n0 x) (hf : FirstQ P m kd x n) (hj : j < n) (he : lk kd (Xs P m kd x j) = lk kd (Xs P m kd x n)) (h3 : Xs P m kd x n 3 = 0) {a : Nat} (ha : j ≤ a) : lk kd (Xs P m kd x a) = lk kd (Xs P m kd x (a + (n - j))) := by
  obtain ⟨t, rfl⟩ : ∃ t, a = j + t := ⟨a - j, by omega⟩
  rw [(ring_all hF h hf hj he h3 t).2, show j + t + (n - j) = n + t by omega]
theorem ring_out {P : FL} (hF : FlatOK P) {m kd n0 n j : Nat} {x : Nat → Nat} (h : WOK P n0 x) (hf : FirstQ P m kd x n) (hj : j < n) (he : lk kd (Xs P m kd x j) = lk kd (Xs P m kd x n)) (h3 : Xs P m kd x n 3 = 0) (a : Nat) : Xs P m kd x a 3 = 0 := by
  rcases Nat.lt_or_ge a n with q | q
  · exact (hf.2 a q).1
  · obtain ⟨t, rfl⟩ : ∃ t, a = n + t := ⟨a - n, by omega⟩
    exact (ring_all hF h hf hj he h3 t).1
/-! the numbers of the class and the reference -/
theorem n_tI1 (a k : Nat) : nI a + tI k + (1 : Int32) = nI (a + k) := by
  cases k with
  | zero =>
    rw [show tI 0 = -(1 : Int32) from rfl, Int32.add_assoc, Int32.add_left_neg, Int32.add_zero, Nat.add_zero]
  | succ k =>
    rw [show tI (k + 1) = nI k from rfl, nI_add, show nI (a + k) + (1 : Int32) = nI (a + k + 1) from nI_1 _, Nat.add_assoc]
theorem lk_num (a b c d : Nat) : ((nI a * (4 : Int32) + nI b) * (6 : Int32) + tI c + (1 : Int32)) * (2 : Int32) + nI d = nI (((a * 4 + b) * 6 + c) * 2 + d) := by
  rw [show nI a * (4 : Int32) = nI (a * 4) from pk_mul a 4, nI_add, show nI (a * 4 + b) * (6 : Int32) = nI ((a * 4 + b) * 6) from pk_mul _ 6, n_tI1, show nI ((a * 4 + b) * 6 + c) * (2 : Int32) = nI (((a * 4 + b) * 6 + c) * 2) from pk_mul _ 2, nI_add]
theorem c_likeness {P : FL} {F kd : AR} {w n : Nat} {x : Nat → Nat} (hw : w < 4) (hkd : kd w = nI (P 5 w)) (hk5 : P 5 w < 5) (hx : WRep F (w * 6) x) (hok : WOK P n x) (hn : n < 2 ^ 30) {post : Int32 → Prop} (h : post (nI (lk (P 5 w) x))) : wpX3_likeness F kd (nI w) post := by
  obtain ⟨o0, o1, o2, o3, o4, o5⟩ := hok
  obtain ⟨x0, x1, x2, x3, x4, x5⟩ := hx
  have ix : ∀ j, nI w * (6 : Int32) + nI j = nI (w * 6 + j) := fun j => by rw [show nI w * (6 : Int32) = nI (w * 6) from pk_mul w 6, nI_add]
  unfold wpX3_likeness wpX3_likeness_J41 wpX3_of
  rw [show nI w * (6 : Int32) + (0 : Int32) = nI (w * 6 + 0) from ix 0, show nI w * (6 : Int32) + (2 : Int32) = nI (w * 6 + 2) from ix 2, show nI w * (6 : Int32) + (4 : Int32) = nI (w * 6 + 4) from ix 4, show nI w * (6 : Int32) + (5 : Int32) = nI (w * 6 + 5) from ix 5, nI_clamp (by omega), nI_clamp (by omega), nI_clamp (by omega), nI_clamp (by omega), nI_clamp (by omega), x0, x2, x4, x5, hkd]
  unfold lk at h
  refine ⟨vp_in_nI (by omega) (by omega), vp_in_nI (by omega) (by omega), nm_e ⟨vp_in_nI (by omega) (by omega), fun e => ⟨vp_in_nI (by omega) (by omega), ?_⟩, fun e => ⟨vp_in_nI (by omega) (by omega), vp_in_nI (by omega) (by omega), ?_⟩⟩⟩
  · rw [if_neg (fun z => e (by rw [z]; rfl)), ← lk_num] at h
    exact h
  · rw [if_pos ((nI_eq (b := 3) (by omega) (by omega)).mp e), ← lk_num] at h
    rw [show jrem (nI (x 5)) (2 : Int32) = nI (x 5 % 2) from n_rem (d := 2) (by omega) (by omega) (by omega)]
    exact h
theorem m_stateOf {P : FL} {row kd : AR} {w n : Nat} {x : Nat → Nat} (hw : w < 4) (hkd : kd w = nI (P 5 w)) (hk5 : P 5 w < 5) (hx : WRep row (w * 6) x) (hok : WOK P n x) (hn : n < 2 ^ 30) {post : Int32 → Prop} (h : post (nI (lk (P 5 w) x))) : wpX11_stateOf kd row (nI w) post := by
  obtain ⟨o0, o1, o2, o3, o4, o5⟩ := hok
  obtain ⟨x0, x1, x2, x3, x4, x5⟩ := hx
  have ix : ∀ j, nI (w * 6) + nI j = nI (w * 6 + j) := fun j => nI_add _ _
  unfold wpX11_stateOf wpX11_stateOf_J26
  refine nm_r (ix6 w) ?_
  rw [show nI (w * 6) + (0 : Int32) = nI (w * 6 + 0) from ix 0, show nI (w * 6) + (2 : Int32) = nI (w * 6 + 2) from ix 2, show nI (w * 6) + (4 : Int32) = nI (w * 6 + 4) from ix 4, show nI (w * 6) + (5 : Int32) = nI (w * 6 + 5) from ix 5, nI_clamp (by omega), nI_clamp (by omega), nI_clamp (by omega), nI_clamp (by omega), nI_clamp (by omega), x0, x2, x4, x5, hkd]
  unfold lk at h
  refine ⟨vp_in_nI (by omega) (by omega), fun e => ⟨vp_in_nI (by omega) (by omega), vp_in_nI (by omega) (by omega), vp_in_nI (by omega) (by omega), ?_⟩, fun e => ⟨vp_in_nI (by omega) (by omega), vp_in_nI (by omega) (by omega), vp_in_nI (by omega) (by omega), vp_in_nI (by omega) (by omega), ?_⟩⟩
  · rw [if_neg (fun z => e (by rw [z]; rfl)), ← lk_num] at h
    exact h
  · rw [if_pos ((nI_eq (b := 3) (by omega) (by omega)).mp e), ← lk_num] at h
    rw [show jrem (nI (x 5)) (2 : Int32) = nI (x 5 % 2) from n_rem (d := 2) (by omega) (by omega) (by omega)]
    exact h
