/-! the flat: P 0 (width, height, towers, walkers, wind, strength, dark), P 1 places, P 2 ranges, P 3 voices, P 4 false ones, P 5 kinds, P 6 mirages -/
abbrev FL : Type := Nat → Nat → Nat
def FlatOK (P : FL) : Prop := (2 ≤ P 0 0 ∧ P 0 0 ≤ 10 ∧ 2 ≤ P 0 1 ∧ P 0 1 ≤ 10 ∧ P 0 2 ≤ 5 ∧ P 0 3 ≤ 4 ∧ P 0 4 < 4 ∧ P 0 5 ≤ 3 ∧ P 0 6 ≤ 9) ∧ (∀ t, t < P 0 2 → P 1 t < P 0 0 * P 0 1 ∧ 1 ≤ P 2 t ∧ P 2 t ≤ 20 ∧ P 3 t < 4 ∧ P 4 t ≤ 1) ∧ (∀ w, w < P 0 3 → P 5 w < 5) ∧ ∀ c, P 6 c ≤ 1
theorem FlatOK.cells {P : FL} (h : FlatOK P) : P 0 0 * P 0 1 ≤ 100 := Nat.le_trans (Nat.mul_le_mul h.1.2.1 h.1.2.2.2.1) (by decide)
/-- the flat as the class's ground holds it, and as the reference does -/
def GRep (P : FL) (s tc rg vc fl kd mi : AR) : Prop := (∀ k, k < 7 → s k = nI (P 0 k)) ∧ (∀ t, t < P 0 2 → tc t = nI (P 1 t)) ∧ (∀ t, t < P 0 2 → rg t = nI (P 2 t)) ∧ (∀ t, t < P 0 2 → vc t = nI (P 3 t)) ∧ (∀ t, t < P 0 2 → fl t = nI (P 4 t)) ∧ (∀ w, w < P 0 3 → kd w = nI (P 5 w)) ∧ ∀ c, c < 100 → mi c = nI (P 6 c)
def dI (P : FL) (t c : Nat) : Int32 := nI 4 * (jabs (nI (c % P 0 0) - nI (P 1 t % P 0 0)) + jabs (nI (c / P 0 0) - nI (P 1 t / P 0 0))) - nI (P 0 5) * (if P 0 4 = 0 then -(nI (c / P 0 0) - nI (P 1 t / P 0 0)) else if P 0 4 = 1 then nI (c % P 0 0) - nI (P 1 t % P 0 0) else if P 0 4 = 2 then nI (c / P 0 0) - nI (P 1 t / P 0 0) else -(nI (c % P 0 0) - nI (P 1 t % P 0 0)))
def hd (P : FL) (t c : Nat) : Bool := !decide (nI (4 * (P 2 t + P 0 6)) < dI P t c)
theorem c_dist {P : FL} {s tc : AR} (hs : ∀ k, k < 7 → s k = nI (P 0 k)) (hF : FlatOK P) {t c : Nat} (ht : t < P 0 2) (hc : c < P 0 0 * P 0 1) (htc : tc t = nI (P 1 t)) {post : Int32 → Prop} (h : post (dI P t c)) : wpX4_distance s tc (nI t) (nI c) post := by
  have fc := hF.cells
  obtain ⟨⟨f1, f2, f3, f4, f5, f6, f7, f8, f9⟩, ft, -⟩ := hF
  have g := (ft t ht).1
  have z1 : ¬ P 0 0 ≤ 0 := by omega
  have z2 : ¬ P 0 0 = 0 := by omega
  unfold wpX4_distance wpX4_xOf wpX4_yOf wpX4_distance_J89
  simp (disch := omega) only [hs 0 (by omega), hs 4 (by omega), hs 5 (by omega), htc, z1, z2, n_lit, nI_add, pk_mul, pk_sub, n_cl, n_in, n_rem, pk_div, nI_leI, nI_ltI, nI_eq, n_eqneg, n_negeq, n_ltneg, n_neglt, n_leneg, n_negle, n_negneg, forall_eq, true_and, and_true, not_true_eq_false, not_false_eq_true, false_implies, true_implies, implies_true, and_self]
  unfold dI at h
  refine ⟨fun e => ?_, fun e => ⟨fun e1 => ?_, fun e1 => ⟨fun e2 => ?_, fun e2 => ?_⟩⟩⟩
  · rw [if_pos e] at h; exact h
  · rw [if_neg e, if_pos e1] at h; exact h
  · rw [if_neg e, if_neg e1, if_pos e2] at h; exact h
  · rw [if_neg e, if_neg e1, if_neg e2] at h; exact h
theorem m_far {P : FL} {s tc : AR} (hs : ∀ k, k < 7 → s k = nI (P 0 k)) (hF : FlatOK P) {t c : Nat} (ht : t < P 0 2) (hc : c < P 0 0 * P 0 1) (htc : tc t = nI (P 1 t)) {post : Int32 → Prop} (h : post (dI P t c)) : wpX11_farOf s tc (nI t) (nI c) post := by
  have fc := hF.cells
  obtain ⟨⟨f1, f2, f3, f4, f5, f6, f7, f8, f9⟩, ft, -⟩ := hF
  have g := (ft t ht).1
  have z1 : ¬ P 0 0 ≤ 0 := by omega
  have z2 : ¬ P 0 0 = 0 := by omega
  unfold wpX11_farOf wpX11_farOf_J93
  simp (disch := omega) only [hs 0 (by omega), hs 4 (by omega), hs 5 (by omega), htc, z1, z2, n_lit, nI_add, pk_mul, pk_sub, n_cl, n_in, n_rem, pk_div, nI_leI, nI_ltI, nI_eq, n_eqneg, n_negeq, n_ltneg, n_neglt, n_leneg, n_negle, n_negneg, forall_eq, true_and, and_true, not_true_eq_false, not_false_eq_true, false_implies, true_implies, implies_true, and_self]
  unfold dI at h
  refine ⟨fun e => ⟨fun e1 => ⟨fun e2 => ?_, fun e2 => ?_⟩, fun e1 => ?_⟩, fun e => ?_⟩
  · rw [if_neg e, if_neg e1, if_neg e2] at h; exact h
  · rw [if_neg e, if_neg e1, if_pos e2] at h; exact h
  · rw [if_neg e, if_pos e1] at h; exact h
  · rw [if_pos e] at h; exact h
theorem c_carries {P : FL} {s tc rg : AR} (hs : ∀ k, k < 7 → s k = nI (P 0 k)) (hF : FlatOK P) {t c : Nat} (ht : t < P 0 2) (hc : c < P 0 0 * P 0 1) (htc : tc t = nI (P 1 t)) (hrg : rg t = nI (P 2 t)) {post : Int32 → Prop} (h : post (if hd P t c = true then 1 else 0)) : wpX4_carries s tc rg (nI t) (nI c) post := by
  have f5 := hF.1.2.2.2.2.1
  have f6 := (hF.2.1 t ht).2.2.1
  have f9 := hF.1.2.2.2.2.2.2.2.2
  unfold wpX4_carries
  refine c_dist hs hF ht hc htc ?_
  simp (disch := omega) only [hs 6 (by omega), hrg, n_cl, n_in, true_and]
  rw [show (4 : Int32) * (nI (P 2 t) + nI (P 0 6)) = nI (4 * (P 2 t + P 0 6)) by rw [nI_add]; exact pk_mul 4 _]
  unfold hd at h
  refine ⟨fun e => ?_, fun e => ?_⟩
  · rw [decide_eq_true e] at h; exact h
  · rw [decide_eq_false e] at h; exact h
theorem m_isHeard {P : FL} {s tc rg : AR} (hs : ∀ k, k < 7 → s k = nI (P 0 k)) (hF : FlatOK P) {t c : Nat} (ht : t < P 0 2) (hc : c < P 0 0 * P 0 1) (htc : tc t = nI (P 1 t)) (hrg : rg t = nI (P 2 t)) {post : Int32 → Prop} (h : post (if hd P t c = true then 1 else 0)) : wpX11_isHeard s tc rg (nI t) (nI c) post := by
  have f5 := hF.1.2.2.2.2.1
  have f6 := (hF.2.1 t ht).2.2.1
  have f9 := hF.1.2.2.2.2.2.2.2.2
  unfold wpX11_isHeard
  refine m_far hs hF ht hc htc ?_
  simp (disch := omega) only [hs 6 (by omega), hrg, n_cl, n_in, true_and]
  rw [show (4 : Int32) * (nI (P 2 t) + nI (P 0 6)) = nI (4 * (P 2 t + P 0 6)) by rw [nI_add]; exact pk_mul 4 _]
  unfold hd at h
  refine ⟨fun e => ?_, fun e => ?_⟩
  · rw [decide_eq_true e] at h; exact h
  · rw [decide_eq_false e] at h; exact h
/-! the nearest tower that is heard, among those that are chosen: its number and 1, or 0 -/
def nrS (P : FL) (sel : Nat → Bool) (c : Nat) : Nat → Nat
  | 0 => 0
  | n + 1 => if sel n = true ∧ hd P n c = true ∧ (nrS P sel c n = 0 ∨ dI P n c < dI P (nrS P sel c n - 1) c) then n + 1 else nrS P sel c n
theorem nrS_le (P : FL) (sel : Nat → Bool) (c : Nat) : ∀ n, nrS P sel c n ≤ n := by
  intro n
  induction n with
  | zero => exact Nat.le_refl _
  | succ n ih =>
    unfold nrS
    split
    · exact Nat.le_refl _
    · omega
theorem nrS_congr {P : FL} {sel sel' : Nat → Bool} {c : Nat} : ∀ n, (∀ i, i < n → sel i = sel' i) → nrS P sel c n = nrS P sel' c n := by
  intro n
  induction n with
  | zero => intro _; rfl
  | succ n ih =>
    intro h
    unfold nrS
    rw [ih (fun i hi => h i (by omega)), h n (by omega)]
theorem nrS_hi {P : FL} {sel : Nat → Bool} {c n : Nat} (h : ∀ i, n ≤ i → sel i = false) : ∀ k, nrS P sel c (n + k) = nrS P sel c n := by
  intro k
  induction k with
  | zero => rfl
  | succ k ih =>
    rw [← Nat.add_assoc]
    rw [nrS, if_neg (by rw [h (n + k) (by omega)]; simp)]
    exact ih
def bts (m i : Nat) : Bool := decide (bt1 m i = 1)
def nr (P : FL) (m c : Nat) : Nat := nrS P (bts m) c (P 0 2)
theorem bts_hi {m n : Nat} (h : m < 2 ^ n) : ∀ i, n ≤ i → bts m i = false := fun i hi => by
  unfold bts
  rw [bt1_hi h hi]
  rfl
theorem nr_zero (P : FL) (c : Nat) : nr P 0 c = 0 := by
  unfold nr
  have h := nrS_hi (P := P) (c := c) (n := 0) (sel := bts 0) (fun i hi => bts_hi (n := 0) (by decide) i hi) (P 0 2)
  rw [Nat.zero_add] at h
  exact h
theorem nr_low {P : FL} {m c n : Nat} (h : m < 2 ^ n) (hn : n ≤ P 0 2) : nr P m c = nrS P (bts m) c n := by
  unfold nr
  obtain ⟨k, hk⟩ : ∃ k, P 0 2 = n + k := ⟨P 0 2 - n, by omega⟩
  rw [hk]
  exact nrS_hi (bts_hi h) k
theorem nr_top {P : FL} {r c t : Nat} (ht : t < P 0 2) (hr : r < 2 ^ t) : nr P (r + 2 ^ t) c = if hd P t c = true ∧ (nr P r c = 0 ∨ dI P t c < dI P (nr P r c - 1) c) then t + 1 else nr P r c := by
  have h1 : r + 2 ^ t < 2 ^ (t + 1) := by rw [Nat.pow_succ]; omega
  rw [nr_low h1 (by omega), nr_low hr (by omega), nrS]
  rw [nrS_congr (sel := bts (r + 2 ^ t)) (sel' := bts r) t (fun i hi => by unfold bts; rw [bt1_add hr i hi])]
  have h2 : bts (r + 2 ^ t) t = true := by unfold bts; rw [bt1_top hr]; rfl
  rw [h2]
  simp only [true_and]
theorem nr_le (P : FL) (m c : Nat) : nr P m c ≤ P 0 2 := nrS_le _ _ _ _
/-! masks -/
def bm (sel : Nat → Bool) : Nat → Nat
  | 0 => 0
  | n + 1 => bm sel n + (if sel n = true then 2 ^ n else 0)
theorem bm_lt (sel : Nat → Bool) : ∀ n, bm sel n < 2 ^ n := by
  intro n
  induction n with
  | zero => show (0 : Nat) < 2 ^ 0; decide
  | succ n ih =>
    unfold bm
    rw [Nat.pow_succ]
    split <;> omega
theorem bm_bit (sel : Nat → Bool) : ∀ n i, i < n → (bt1 (bm sel n) i = 1 ↔ sel i = true) := by
  intro n
  induction n with
  | zero => intro i hi; omega
  | succ n ih =>
    intro i hi
    unfold bm
    by_cases e : sel n = true
    · rw [if_pos e]
      by_cases e2 : i = n
      · subst e2; rw [bt1_top (bm_lt sel i)]; simp [e]
      · rw [bt1_add (bm_lt sel n) i (by omega)]; exact ih i (by omega)
    · rw [if_neg e, Nat.add_zero]
      by_cases e2 : i = n
      · subst e2; rw [bt1_hi (bm_lt sel i) (Nat.le_refl _)]; simp [e]
      · exact ih i (by omega)
theorem bts_bm (sel : Nat → Bool) (n i : Nat) (h : i < n) : bts (bm sel n) i = sel i := by
  unfold bts
  by_cases e : sel i = true
  · rw [e]; exact decide_eq_true ((bm_bit sel n i h).mpr e)
  · have e1 : sel i = false := by simpa using e
    rw [e1]; exact decide_eq_false (fun z => e ((bm_bit sel n i h).mp z))
theorem bm_or (sel : Nat → Bool) (n : Nat) : bm sel n ||| 2 ^ n = bm sel n + 2 ^ n := n_orp (bm_lt sel n)
