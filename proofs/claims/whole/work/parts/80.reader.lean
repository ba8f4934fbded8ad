/-! texts: bytes tx i for i < N, and their tokens -/
def isB (v : Nat) : Bool := decide (v = 32 ∨ v = 10)
def isLt (v : Nat) : Bool := decide (97 ≤ v ∧ v ≤ 122)
def isDg (v : Nat) : Bool := decide (48 ≤ v ∧ v ≤ 57)
def isSg (v : Nat) : Bool := decide (v = 59 ∨ v = 123 ∨ v = 125)
def rn (p : Nat → Bool) : Nat → Nat → Nat
  | 0, i => i
  | f + 1, i => if p i = true then rn p f (i + 1) else i
/-- the first place from i on that isn't so, or N -/
def rt (p : Nat → Bool) (N i : Nat) : Nat := rn p (N - i) i
theorem rt_go {p : Nat → Bool} {N i : Nat} (h : i < N) (hp : p i = true) : rt p N i = rt p N (i + 1) := by
  unfold rt
  obtain ⟨k, hk⟩ : ∃ k, N - i = k + 1 := ⟨N - i - 1, by omega⟩
  rw [hk, rn, if_pos hp, show N - (i + 1) = k by omega]
theorem rt_st {p : Nat → Bool} {N i : Nat} (h : N ≤ i ∨ p i = false) : rt p N i = i := by
  unfold rt
  cases e : N - i with
  | zero => rfl
  | succ k =>
    rw [rn]
    rcases h with h | h
    · omega
    · rw [h]; rfl
theorem rn_ge (p : Nat → Bool) : ∀ f i, i ≤ rn p f i ∧ rn p f i ≤ i + f := by
  intro f
  induction f with
  | zero => intro i; exact ⟨Nat.le_refl _, Nat.le_refl _⟩
  | succ f ih =>
    intro i
    rw [rn]
    have := ih (i + 1)
    split <;> omega
theorem rt_ge (p : Nat → Bool) (N i : Nat) : i ≤ rt p N i := (rn_ge p _ i).1
theorem rt_le {p : Nat → Bool} {N i : Nat} (h : i ≤ N) : rt p N i ≤ N := by
  have := (rn_ge p (N - i) i).2
  unfold rt
  omega
def tB (tx : Nat → Nat) (N p : Nat) : Nat := rt (fun i => isB (tx i)) N p
def tK (tx : Nat → Nat) (N p : Nat) : Nat := if N ≤ tB tx N p then 0 else if isLt (tx (tB tx N p)) = true then 1 else if isDg (tx (tB tx N p)) = true then 2 else if isSg (tx (tB tx N p)) = true then 3 else 4
def tE (tx : Nat → Nat) (N p : Nat) : Nat := if N ≤ tB tx N p then tB tx N p else if isLt (tx (tB tx N p)) = true then rt (fun i => isLt (tx i)) N (tB tx N p) else if isDg (tx (tB tx N p)) = true then rt (fun i => isDg (tx i)) N (tB tx N p) else tB tx N p + 1
/-- the value of n digits from b on -/
def dv (tx : Nat → Nat) (b : Nat) : Nat → Nat
  | 0 => 0
  | n + 1 => 10 * dv tx b n + (tx (b + n) - 48)
def tV (tx : Nat → Nat) (N p : Nat) : Nat := dv tx (tB tx N p) (tE tx N p - tB tx N p)
theorem tB_ge (tx : Nat → Nat) (N p : Nat) : p ≤ tB tx N p := rt_ge _ _ _
theorem tB_le {tx : Nat → Nat} {N p : Nat} (h : p ≤ N) : tB tx N p ≤ N := rt_le h
theorem tE_ge (tx : Nat → Nat) (N p : Nat) : tB tx N p ≤ tE tx N p := by
  unfold tE
  split
  · exact Nat.le_refl _
  · split
    · exact rt_ge _ _ _
    · split
      · exact rt_ge _ _ _
      · omega
theorem tE_le {tx : Nat → Nat} {N p : Nat} (h : p ≤ N) : tE tx N p ≤ N := by
  have h1 := tB_le (tx := tx) h
  unfold tE
  split
  · exact h1
  · split
    · exact rt_le h1
    · split
      · exact rt_le h1
      · omega
/-- a token that isn't the end is longer than nothing -/
theorem tE_gt {tx : Nat → Nat} {N p : Nat} (h : tK tx N p ≠ 0) : tB tx N p < tE tx N p := by
  unfold tK at h
  unfold tE
  by_cases e : N ≤ tB tx N p
  · rw [if_pos e] at h; exact absurd rfl h
  · rw [if_neg e]
    by_cases e1 : isLt (tx (tB tx N p)) = true
    · rw [if_pos e1, rt_go (p := fun i => isLt (tx i)) (by omega) e1]
      exact rt_ge _ _ _
    · rw [if_neg e1]
      by_cases e2 : isDg (tx (tB tx N p)) = true
      · rw [if_pos e2, rt_go (p := fun i => isDg (tx i)) (by omega) e2]
        exact rt_ge _ _ _
      · rw [if_neg e2]; omega
theorem tK_le (tx : Nat → Nat) (N p : Nat) : tK tx N p ≤ 4 := by
  unfold tK
  split
  · omega
  · split
    · omega
    · split
      · omega
      · split <;> omega
theorem tK_0 {tx : Nat → Nat} {N p : Nat} : tK tx N p = 0 ↔ N ≤ tB tx N p := by
  unfold tK
  by_cases e : N ≤ tB tx N p
  · rw [if_pos e]; exact ⟨fun _ => e, fun _ => rfl⟩
  · rw [if_neg e]
    refine ⟨fun h => ?_, fun h => absurd h e⟩
    split at h
    · omega
    · split at h
      · omega
      · split at h <;> omega
/-! bytes as the class holds them -/
theorem bI_eq : ∀ v, v < 256 → ∀ w, w < 128 → (bI v = nI w ↔ v = w) := by
  intro v hv w hw
  unfold bI
  by_cases e : v < 128
  · rw [if_pos e]; exact nI_eq (by omega) (by omega)
  · rw [if_neg e, n_negeq (by omega) (by omega) (by omega)]
    exact ⟨fun z => z.elim, fun z => by omega⟩
theorem bI_lt : ∀ v, v < 256 → (bI v < (97 : Int32) → isLt v = false) ∧ ((122 : Int32) < bI v → isLt v = false) ∧ (¬ bI v < (97 : Int32) → ¬ (122 : Int32) < bI v → isLt v = true) := by decide +kernel
theorem bI_dg : ∀ v, v < 256 → (bI v < (48 : Int32) → isDg v = false) ∧ ((57 : Int32) < bI v → isDg v = false) ∧ (¬ bI v < (48 : Int32) → ¬ (57 : Int32) < bI v → isDg v = true) := by decide +kernel
def TxC (tx : Nat → Nat) (N : Nat) (t : AR) : Prop := N ≤ 500 ∧ ∀ i, i < N → tx i < 256 ∧ t i = bI (tx i)
def TxM (tx : Nat → Nat) (N : Nat) (t : AR) : Prop := N ≤ 500 ∧ ∀ i, i < N → tx i < 256 ∧ t i = nI (tx i)
def RdC (tx : Nat → Nat) (N p : Nat) (s : AR) : Prop := s 1 = nI N ∧ s 2 = nI (tE tx N p) ∧ s 5 = nI (tB tx N p) ∧ s 4 = nI (tE tx N p - tB tx N p) ∧ s 7 = nI (tK tx N p) ∧ (tK tx N p = 2 → tE tx N p - tB tx N p ≤ 3 → s 3 = nI (tV tx N p))
def RdM (tx : Nat → Nat) (N p : Nat) (s : AR) : Prop := s 16 = nI N ∧ s 15 = nI (tE tx N p) ∧ s 20 = nI (tE tx N p) ∧ s 19 = nI (tB tx N p) ∧ s 17 = nI (tK tx N p) ∧ (tK tx N p = 2 → tE tx N p - tB tx N p ≤ 3 → s 18 = nI (tV tx N p))
theorem dg_num {v d : Nat} (hd : isDg d = true) : nI v * (10 : Int32) + nI d - (48 : Int32) = nI (10 * v + (d - 48)) := by
  have h := of_decide_eq_true hd
  rw [show nI v * (10 : Int32) = nI (v * 10) from pk_mul v 10, nI_add, show nI (v * 10 + d) - (48 : Int32) = nI (v * 10 + d - 48) from pk_sub (b := 48) (by omega)]
  congr 1; omega
theorem bI_dgv {v : Nat} (hd : isDg v = true) : bI v = nI v := by
  have h := of_decide_eq_true hd
  unfold bI
  rw [if_pos (by omega)]
/-- the class goes on by a token -/
theorem c_advance {tx : Nat → Nat} {N p : Nat} {t s : AR} (ht : TxC tx N t) (hp : p ≤ N) (h1 : s 1 = nI N) (h2 : s 2 = nI p) {post : AR → Prop} (hk : ∀ s', RdC tx N p s' → s' 6 = s 5 → (∀ j, 7 < j → s' j = s j) → post s') : wpX8_advance s t post := by
  obtain ⟨hN, hb⟩ := ht
  unfold wpX8_advance
  refine nm_e ?_
  -- blanks
  refine loop_m (fun n (q : AR) => wpX8_advance_L8 t _ post n q) (fun q => ∃ i, i ≤ N ∧ q 2 = nI i ∧ rt (fun i => isB (tx i)) N i = tB tx N p ∧ q 1 = nI N ∧ q 6 = s 5 ∧ ∀ j, 7 < j → q j = s j) (fun q => N - (q 2).toNatClampNeg) ?_ _ ⟨p, hp, by rw [pk_un (by omega)]; exact h2, rfl, by rw [pk_un (by omega)]; exact h1, by rw [pk_us], fun j hj => by rw [pk_un (by omega)]⟩
  rintro n q ⟨i, hi, q2, q3, q1, q6, q8⟩ hnext
  have stop : (N ≤ i ∨ isB (tx i) = false) → wpX8_advance_J60 q t post := by
    intro hst
    have eb : tB tx N p = i := by rw [← q3]; exact rt_st hst
    unfold wpX8_advance_J60
    rw [q2, q1]
    refine nm_e ⟨fun hlt => ?_, fun hlt => ?_⟩
    · have hl : i < N := (nI_ltI (by omega) (by omega)).mp hlt
      obtain ⟨hv, hti⟩ := hb i hl
      have vi : vp_in (nI i) 500 := vp_in_nI (by omega) (by omega)
      have hnN : ¬ N ≤ tB tx N p := by omega
      obtain ⟨l1, l2, l3⟩ := bI_lt (tx i) hv
      obtain ⟨d1, d2, d3⟩ := bI_dg (tx i) hv
      -- neither letter nor digit
      have oth : isLt (tx i) = false → isDg (tx i) = false → wpX8_advance_J286 (upd (upd q 5 (nI i)) 3 (0 : Int32)) t post := by
        intro e1 e2
        have eE : tE tx N p = i + 1 := by unfold tE; rw [if_neg hnN, eb, e1, e2]; rfl
        have fin : ∀ k : Nat, k = tK tx N p → ∀ y : Int32, y = nI k → wpX8_advance_J334 (upd (upd q 5 (nI i)) 3 (0 : Int32)) t y post := by
          intro k hk' y hy
          subst hy
          have hk4 := tK_le tx N p
          unfold wpX8_advance_J334 wpX8_advance_J347
          refine nm_r (e' := nI (i + 1)) (by rw [pk_un (by omega), pk_un (by omega), q2]; exact nI_1 i) (nm_r (e' := nI 1) ?_ ?_)
          · rw [pk_us, pk_un (by omega), pk_un (by omega), pk_un (by omega), pk_us, pk_sub (by omega)]; congr 1; omega
          · refine hk _ ⟨?_, ?_, ?_, ?_, ?_, fun z => ?_⟩ ?_ (fun j hj => ?_)
            · rw [pk_un (by omega), pk_un (by omega), pk_un (by omega), pk_un (by omega), pk_un (by omega)]; exact q1
            · rw [pk_un (by omega), pk_us, eE]
            · rw [pk_un (by omega), pk_un (by omega), pk_un (by omega), pk_un (by omega), pk_us, eb]
            · rw [pk_us, eE, eb]; congr 1; omega
            · rw [pk_un (by omega), pk_un (by omega), pk_us, hk']
            · exfalso
              unfold tK at z
              rw [if_neg hnN, eb, e1, e2] at z
              simp only [Bool.false_eq_true, if_false] at z
              split at z <;> omega
            · rw [pk_un (by omega), pk_un (by omega), pk_un (by omega), pk_un (by omega), pk_un (by omega)]; exact q6
            · rw [pk_un (by omega), pk_un (by omega), pk_un (by omega), pk_un (by omega), pk_un (by omega)]; exact q8 j hj
        unfold wpX8_advance_J286
        rw [show (upd (upd q 5 (nI i)) 3 (0 : Int32)) 2 = nI i by rw [pk_un (by omega), pk_un (by omega)]; exact q2, nI_clamp (by omega), hti]
        rw [show (bI (tx i) = (59 : Int32)) = (tx i = 59) from propext (bI_eq (tx i) hv 59 (by omega)), show (bI (tx i) = (123 : Int32)) = (tx i = 123) from propext (bI_eq (tx i) hv 123 (by omega)), show (bI (tx i) = (125 : Int32)) = (tx i = 125) from propext (bI_eq (tx i) hv 125 (by omega))]
        have eK : tK tx N p = if isSg (tx i) = true then 3 else 4 := by
          unfold tK
          rw [if_neg hnN, eb, e1, e2]
          rfl
        unfold isSg at eK
        refine ⟨vi, fun z => fin 3 ?_ _ rfl, fun z => ⟨vi, fun z2 => fin 3 ?_ _ rfl, fun z2 => ⟨vi, fun z3 => fin 4 ?_ _ rfl, fun z3 => fin 3 ?_ _ rfl⟩⟩⟩
        · rw [eK, if_pos (by simp [z])]
        · rw [eK, if_pos (by simp [z2])]
        · rw [eK, if_neg (by simp [z, z2, z3])]
        · rw [eK, if_pos (by simp [z3])]
      -- no letter
      have nol : isLt (tx i) = false → wpX8_advance_J177 (upd (upd q 5 (nI i)) 3 (0 : Int32)) t post := by
        intro e1
        unfold wpX8_advance_J177
        rw [show (upd (upd q 5 (nI i)) 3 (0 : Int32)) 2 = nI i by rw [pk_un (by omega), pk_un (by omega)]; exact q2, nI_clamp (by omega), hti]
        refine ⟨vi, fun z => oth e1 (d1 z), fun z => ⟨vi, fun z2 => oth e1 (d2 z2), fun z2 => ?_⟩⟩
        have e2 := d3 z z2
        have eK : tK tx N p = 2 := by unfold tK; rw [if_neg hnN, eb, e1, e2]; rfl
        have eE : tE tx N p = rt (fun i => isDg (tx i)) N i := by unfold tE; rw [if_neg hnN, eb, e1, e2]; rfl
        refine loop_m (fun n (r : AR) => wpX8_advance_L210 t _ post n r) (fun r => ∃ j, i ≤ j ∧ j ≤ N ∧ r 2 = nI j ∧ rt (fun i => isDg (tx i)) N j = tE tx N p ∧ r 3 = nI (dv tx i (j - i)) ∧ r 1 = nI N ∧ r 5 = nI i ∧ r 6 = s 5 ∧ r 7 = nI 2 ∧ ∀ j, 7 < j → r j = s j) (fun r => N - (r 2).toNatClampNeg) ?_ _ ⟨i, Nat.le_refl _, hi, by rw [pk_un (by omega), pk_un (by omega), pk_un (by omega)]; exact q2, eE.symm, by rw [pk_un (by omega), pk_us, Nat.sub_self]; rfl, by rw [pk_un (by omega), pk_un (by omega), pk_un (by omega)]; exact q1, by rw [pk_un (by omega), pk_un (by omega), pk_us], by rw [pk_un (by omega), pk_un (by omega), pk_un (by omega)]; exact q6, by rw [pk_us]; rfl, fun j hj => by rw [pk_un (by omega), pk_un (by omega), pk_un (by omega)]; exact q8 j hj⟩
        rintro n2 r ⟨j, j1, j2, r2, r3, rv, r1, r5, r6, r7, r8⟩ hnext2
        have stop2 : (N ≤ j ∨ isDg (tx j) = false) → wpX8_advance_J347 r t post := by
          intro hst2
          have ej : tE tx N p = j := by rw [← r3]; exact rt_st hst2
          unfold wpX8_advance_J347
          refine nm_r (e' := nI (j - i)) (by rw [r2, r5]; exact pk_sub j1) (hk _ ⟨?_, ?_, ?_, ?_, ?_, fun _ _ => ?_⟩ ?_ (fun k hk' => ?_))
          · rw [pk_un (by omega)]; exact r1
          · rw [pk_un (by omega), ej]; exact r2
          · rw [pk_un (by omega), eb]; exact r5
          · rw [pk_us, ej, eb]
          · rw [pk_un (by omega), eK]; exact r7
          · rw [pk_un (by omega), rv]
            unfold tV
            rw [ej, eb]
          · rw [pk_un (by omega)]; exact r6
          · rw [pk_un (by omega)]; exact r8 k hk'
        show wpX8_advance_L210 t _ post (n2 + 1) r
        unfold wpX8_advance_L210
        rw [r1, r2]
        refine ⟨fun z => stop2 (Or.inl ((nI_leI (by omega) (by omega)).mp z)), fun z => ?_⟩
        have hlj : j < N := by
          rcases Nat.lt_or_ge j N with h | h
          · exact h
          · exact absurd (nI_le h (by omega)) z
        obtain ⟨hvj, htj⟩ := hb j hlj
        obtain ⟨c1, c2, c3⟩ := bI_dg (tx j) hvj
        have vj : vp_in (nI j) 500 := vp_in_nI (by omega) (by omega)
        rw [nI_clamp (by omega), htj]
        refine ⟨vj, fun z2 => stop2 (Or.inr (c1 z2)), fun z2 => ⟨vj, fun z3 => stop2 (Or.inr (c2 z3)), fun z3 => ⟨vj, ?_⟩⟩⟩
        have hdj := c3 z2 z3
        rw [rv, bI_dgv hdj, dg_num hdj]
        refine nm_e (nm_r (nI_1 j) (hnext2 _ ⟨j + 1, by omega, hlj, by rw [pk_us], ?_, ?_, ?_, ?_, ?_, ?_, fun k hk' => ?_⟩ ?_))
        · rw [← r3]; exact (rt_go hlj hdj).symm
        · rw [pk_un (by omega), pk_us, show j + 1 - i = (j - i) + 1 by omega, dv, show i + (j - i) = j by omega]
        · rw [pk_un (by omega), pk_un (by omega)]; exact r1
        · rw [pk_un (by omega), pk_un (by omega)]; exact r5
        · rw [pk_un (by omega), pk_un (by omega)]; exact r6
        · rw [pk_un (by omega), pk_un (by omega)]; exact r7
        · rw [pk_un (by omega), pk_un (by omega)]; exact r8 k hk'
        · show N - (upd (upd r 3 _) 2 (nI (j + 1)) 2).toNatClampNeg < N - (r 2).toNatClampNeg
          rw [pk_us, r2, nI_clamp (by omega), nI_clamp (by omega)]
          omega
      rw [nI_clamp (by omega), hti]
      refine ⟨vi, fun z => nol (l1 z), fun z => ⟨vi, fun z2 => nol (l2 z2), fun z2 => ?_⟩⟩
      have e1 := l3 z z2
      have eK : tK tx N p = 1 := by unfold tK; rw [if_neg hnN, eb, e1]; rfl
      have eE : tE tx N p = rt (fun i => isLt (tx i)) N i := by unfold tE; rw [if_neg hnN, eb, e1]; rfl
      refine loop_m (fun n (r : AR) => wpX8_advance_L125 t _ post n r) (fun r => ∃ j, i ≤ j ∧ j ≤ N ∧ r 2 = nI j ∧ rt (fun i => isLt (tx i)) N j = tE tx N p ∧ r 1 = nI N ∧ r 5 = nI i ∧ r 6 = s 5 ∧ r 7 = nI 1 ∧ ∀ j, 7 < j → r j = s j) (fun r => N - (r 2).toNatClampNeg) ?_ _ ⟨i, Nat.le_refl _, hi, by rw [pk_un (by omega), pk_un (by omega), pk_un (by omega)]; exact q2, eE.symm, by rw [pk_un (by omega), pk_un (by omega), pk_un (by omega)]; exact q1, by rw [pk_un (by omega), pk_un (by omega), pk_us], by rw [pk_un (by omega), pk_un (by omega), pk_un (by omega)]; exact q6, by rw [pk_us]; rfl, fun j hj => by rw [pk_un (by omega), pk_un (by omega), pk_un (by omega)]; exact q8 j hj⟩
      rintro n2 r ⟨j, j1, j2, r2, r3, r1, r5, r6, r7, r8⟩ hnext2
      have stop2 : (N ≤ j ∨ isLt (tx j) = false) → wpX8_advance_J347 r t post := by
        intro hst2
        have ej : tE tx N p = j := by rw [← r3]; exact rt_st hst2
        unfold wpX8_advance_J347
        refine nm_r (e' := nI (j - i)) (by rw [r2, r5]; exact pk_sub j1) (hk _ ⟨?_, ?_, ?_, ?_, ?_, fun z => ?_⟩ ?_ (fun k hk' => ?_))
        · rw [pk_un (by omega)]; exact r1
        · rw [pk_un (by omega), ej]; exact r2
        · rw [pk_un (by omega), eb]; exact r5
        · rw [pk_us, ej, eb]
        · rw [pk_un (by omega), eK]; exact r7
        · rw [eK] at z; omega
        · rw [pk_un (by omega)]; exact r6
        · rw [pk_un (by omega)]; exact r8 k hk'
      show wpX8_advance_L125 t _ post (n2 + 1) r
      unfold wpX8_advance_L125
      rw [r1, r2]
      refine ⟨fun z => stop2 (Or.inl ((nI_leI (by omega) (by omega)).mp z)), fun z => ?_⟩
      have hlj : j < N := by
        rcases Nat.lt_or_ge j N with h | h
        · exact h
        · exact absurd (nI_le h (by omega)) z
      obtain ⟨hvj, htj⟩ := hb j hlj
      obtain ⟨c1, c2, c3⟩ := bI_lt (tx j) hvj
      have vj : vp_in (nI j) 500 := vp_in_nI (by omega) (by omega)
      rw [nI_clamp (by omega), htj]
      refine ⟨vj, fun z2 => stop2 (Or.inr (c1 z2)), fun z2 => ⟨vj, fun z3 => stop2 (Or.inr (c2 z3)), fun z3 => ?_⟩⟩
      have hdj := c3 z2 z3
      refine nm_r (nI_1 j) (hnext2 _ ⟨j + 1, by omega, hlj, by rw [pk_us], ?_, ?_, ?_, ?_, ?_, fun k hk' => ?_⟩ ?_)
      · rw [← r3]; exact (rt_go hlj hdj).symm
      · rw [pk_un (by omega)]; exact r1
      · rw [pk_un (by omega)]; exact r5
      · rw [pk_un (by omega)]; exact r6
      · rw [pk_un (by omega)]; exact r7
      · rw [pk_un (by omega)]; exact r8 k hk'
      · show N - (upd r 2 (nI (j + 1)) 2).toNatClampNeg < N - (r 2).toNatClampNeg
        rw [pk_us, r2, nI_clamp (by omega), nI_clamp (by omega)]
        omega
    · have hl : N ≤ i := by
        rcases Nat.lt_or_ge i N with h | h
        · exact absurd ((nI_ltI (by omega) (by omega)).mpr h) hlt
        · exact h
      have eK : tK tx N p = 0 := by unfold tK; rw [if_pos (by omega)]
      have eE : tE tx N p = i := by unfold tE; rw [if_pos (by omega), eb]
      unfold wpX8_advance_J347
      refine nm_r (e' := nI 0) (by rw [pk_un (by omega), pk_un (by omega), pk_un (by omega), pk_un (by omega), pk_un (by omega), pk_us, q2, pk_sub (Nat.le_refl _), Nat.sub_self]) (hk _ ⟨?_, ?_, ?_, ?_, ?_, fun z => ?_⟩ ?_ (fun j hj => ?_))
      · rw [pk_un (by omega), pk_un (by omega), pk_un (by omega), pk_un (by omega)]; exact q1
      · rw [pk_un (by omega), pk_un (by omega), pk_un (by omega), pk_un (by omega), eE]; exact q2
      · rw [pk_un (by omega), pk_un (by omega), pk_un (by omega), pk_us, eb]
      · rw [pk_us, eE, eb, Nat.sub_self]
      · rw [pk_un (by omega), pk_us, eK]; rfl
      · rw [eK] at z; omega
      · rw [pk_un (by omega), pk_un (by omega), pk_un (by omega), pk_un (by omega)]; exact q6
      · rw [pk_un (by omega), pk_un (by omega), pk_un (by omega), pk_un (by omega)]; exact q8 j hj
  show wpX8_advance_L8 t _ post (n + 1) q
  unfold wpX8_advance_L8 wpX8_advance_J47
  rw [q1, q2]
  refine ⟨fun z => stop (Or.inl ((nI_leI (by omega) (by omega)).mp z)), fun z => ?_⟩
  have hl : i < N := by
    rcases Nat.lt_or_ge i N with h | h
    · exact h
    · exact absurd (nI_le h (by omega)) z
  obtain ⟨hv, hti⟩ := hb i hl
  have vi : vp_in (nI i) 500 := vp_in_nI (by omega) (by omega)
  have go : isB (tx i) = true → wpX8_advance_L8 t (fun sR_60 => wpX8_advance_J60 sR_60 t post) post n (upd q 2 (nI (i + 1))) := by
    intro hbl
    refine hnext _ ⟨i + 1, hl, by rw [pk_us], ?_, ?_, ?_, fun j hj => ?_⟩ ?_
    · rw [← q3]; exact (rt_go hl hbl).symm
    · rw [pk_un (by omega)]; exact q1
    · rw [pk_un (by omega)]; exact q6
    · rw [pk_un (by omega)]; exact q8 j hj
    · show N - (upd q 2 (nI (i + 1)) 2).toNatClampNeg < N - (q 2).toNatClampNeg
      rw [pk_us, q2, nI_clamp (by omega), nI_clamp (by omega)]
      omega
  rw [nI_clamp (by omega), hti, show (bI (tx i) = (32 : Int32)) = (tx i = 32) from propext (bI_eq (tx i) hv 32 (by omega)), show (bI (tx i) = (10 : Int32)) = (tx i = 10) from propext (bI_eq (tx i) hv 10 (by omega))]
  refine ⟨vi, fun e => nm_r (nI_1 i) (go (by unfold isB; simp [e])), fun e => ⟨vi, fun e1 => stop (Or.inr (by unfold isB; simp [e, e1])), fun e1 => nm_r (nI_1 i) (go (by unfold isB; simp [e1]))⟩⟩
