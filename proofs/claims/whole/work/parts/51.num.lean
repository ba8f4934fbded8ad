/-! numbers: every int as nI of a natural number, or as its negative -/
theorem n_lit (n : Nat) : (OfNat.ofNat n : Int32) = nI n := rfl
theorem n_cl {n : Nat} (h : n < 2 ^ 31) : (nI n).toNatClampNeg = n := nI_clamp h
theorem n_in {n N : Nat} (h : n < N) (hN : N < 2 ^ 31) : vp_in (nI n) N = True := eq_true (vp_in_nI h hN)
theorem n_rem {a d : Nat} (ha : a < 2 ^ 31) (h0 : 0 < d) (hd : d < 2 ^ 31) : jrem (nI a) (nI d) = nI (a % d) := pk_rem ha h0 hd
theorem n_negT {b : Nat} (h : b < 2 ^ 31) : (-nI b).toInt = -(b : Int) := by
  rw [Int32.toInt_neg, nI_toInt h]
  exact Int.bmod_eq_of_le (by omega) (by omega)
theorem n_eqneg {a b : Nat} (h0 : 0 < b) (ha : a < 2 ^ 31) (hb : b < 2 ^ 31) : (nI a = -nI b) = False := by
  refine eq_false (fun h => ?_)
  have h1 := congrArg Int32.toInt h
  rw [nI_toInt ha, n_negT hb] at h1
  omega
theorem n_negeq {a b : Nat} (h0 : 0 < b) (ha : a < 2 ^ 31) (hb : b < 2 ^ 31) : (-nI b = nI a) = False := by
  rw [eq_comm (a := -nI b)]
  exact n_eqneg h0 ha hb
theorem n_ltneg {a b : Nat} (ha : a < 2 ^ 31) (hb : b < 2 ^ 31) : (nI a < -nI b) = False := by
  refine eq_false (fun h => ?_)
  have h1 := Int32.lt_iff_toInt_lt.mp h
  rw [nI_toInt ha, n_negT hb] at h1
  omega
theorem n_neglt {a b : Nat} (h0 : 0 < b) (ha : a < 2 ^ 31) (hb : b < 2 ^ 31) : (-nI b < nI a) = True := by
  refine eq_true (Int32.lt_iff_toInt_lt.mpr ?_)
  rw [nI_toInt ha, n_negT hb]
  omega
theorem n_leneg {a b : Nat} (h0 : 0 < b) (ha : a < 2 ^ 31) (hb : b < 2 ^ 31) : (nI a ≤ -nI b) = False := by
  refine eq_false (fun h => ?_)
  have h1 := Int32.le_iff_toInt_le.mp h
  rw [nI_toInt ha, n_negT hb] at h1
  omega
theorem n_negle {a b : Nat} (ha : a < 2 ^ 31) (hb : b < 2 ^ 31) : (-nI b ≤ nI a) = True := by
  refine eq_true (Int32.le_iff_toInt_le.mpr ?_)
  rw [nI_toInt ha, n_negT hb]
  omega
theorem n_negneg {a b : Nat} (ha : a < 2 ^ 31) (hb : b < 2 ^ 31) : (-nI a = -nI b) = (a = b) := by
  refine propext ⟨fun h => ?_, fun h => by rw [h]⟩
  have h1 := congrArg Int32.toInt h
  rw [n_negT ha, n_negT hb] at h1
  omega
theorem n_or (a b : Nat) : nI a ||| nI b = nI (a ||| b) := by
  apply Int32.toBitVec_inj.1
  show BitVec.ofNat 32 a ||| BitVec.ofNat 32 b = BitVec.ofNat 32 (a ||| b)
  apply BitVec.eq_of_getLsbD_eq
  intro i hi
  simp [hi]
theorem n_and (a b : Nat) : nI a &&& nI b = nI (a &&& b) := by
  apply Int32.toBitVec_inj.1
  show BitVec.ofNat 32 a &&& BitVec.ofNat 32 b = BitVec.ofNat 32 (a &&& b)
  apply BitVec.eq_of_getLsbD_eq
  intro i hi
  simp [hi]
theorem n_sl : ∀ n, n < 32 → ((nI n &&& 31).toBitVec.smod 32).toNat = n := by decide +kernel
theorem n_su : ∀ n, n < 32 → (((nI n).toUInt32 &&& Int32.toUInt32 31).toBitVec % 32).toNat = n := by decide +kernel
theorem n_shl {t : Nat} (h : t < 31) : jshl (nI 1) (nI t) = nI (2 ^ t) := by
  have h1 : 2 ^ t < 2 ^ 31 := Nat.pow_lt_pow_right (by omega) h
  have h2 := pk_shlN (n := 1) (nI t &&& 31) t (n_sl t (by omega)) (by omega)
  rw [Nat.one_mul] at h2
  exact h2
theorem n_shr {a t : Nat} (ha : a < 2 ^ 31) (h : t < 32) : jshr (nI a) (nI t) = nI (a / 2 ^ t) := pk_shrN ha (nI t &&& 31) t (n_sl t h)
theorem n_ush {a t : Nat} (ha : a < 2 ^ 32) (h : t < 32) : jush (nI a) (nI t) = nI (a / 2 ^ t) := pk_ushrN ha (nI t) t (n_su t h)
theorem n_and1 (a : Nat) : nI a &&& nI 1 = nI (a % 2) := by rw [n_and, Nat.and_one_is_mod]
/-- the bit t of a set -/
def bt1 (a t : Nat) : Nat := a / 2 ^ t % 2
theorem bt1_lt (a t : Nat) : bt1 a t < 2 := Nat.mod_lt _ (by omega)
theorem n_bit {a t : Nat} (ha : a < 2 ^ 31) (h : t < 32) : jshr (nI a) (nI t) &&& nI 1 = nI (bt1 a t) := by
  rw [n_shr ha h, n_and1]
  rfl
theorem bt1_add {a n : Nat} (h : a < 2 ^ n) (i : Nat) (hi : i < n) : bt1 (a + 2 ^ n) i = bt1 a i := by
  unfold bt1
  obtain ⟨k, rfl⟩ : ∃ k, n = i + 1 + k := ⟨n - (i + 1), by omega⟩
  rw [Nat.pow_add, Nat.pow_add, Nat.pow_one, Nat.mul_assoc, Nat.add_mul_div_left _ _ (Nat.two_pow_pos i), Nat.add_mul_mod_self_left]
theorem bt1_top {a n : Nat} (h : a < 2 ^ n) : bt1 (a + 2 ^ n) n = 1 := by
  unfold bt1
  rw [Nat.add_div_right _ (Nat.two_pow_pos n), Nat.div_eq_of_lt h]
theorem bt1_hi {a n i : Nat} (h : a < 2 ^ n) (hi : n ≤ i) : bt1 a i = 0 := by
  unfold bt1
  rw [Nat.div_eq_of_lt (Nat.lt_of_lt_of_le h (Nat.pow_le_pow_right (by omega) hi))]
theorem n_orp {a n : Nat} (h : a < 2 ^ n) : a ||| 2 ^ n = a + 2 ^ n := by
  have h1 := Nat.two_pow_add_eq_or_of_lt h 1
  rw [Nat.mul_one, Nat.add_comm, Nat.or_comm] at h1
  exact h1.symm
/-- a tower by its number and 1; 0: none -/
def tI : Nat → Int32
  | 0 => -nI 1
  | k + 1 => nI k
theorem tI_cl {k : Nat} (h0 : 0 < k) (h : k < 2 ^ 31) : (tI k).toNatClampNeg = k - 1 := by
  cases k with
  | zero => omega
  | succ k => exact nI_clamp (by omega)
theorem tI_none {k : Nat} (h : k < 2 ^ 31) : (tI k = -nI 1) = (k = 0) := by
  cases k with
  | zero => simp [tI]
  | succ k => rw [show tI (k + 1) = nI k from rfl, n_eqneg (by omega) (by omega) (by omega)]; simp
theorem tI_neg {k : Nat} (h : k < 2 ^ 31) : (tI k < nI 0) = (k = 0) := by
  cases k with
  | zero => rw [show tI 0 = -nI 1 from rfl, n_neglt (by omega) (by omega) (by omega)]; simp
  | succ k => rw [show tI (k + 1) = nI k from rfl, nI_ltI (by omega) (by omega)]; simp
theorem tI_pos {k : Nat} (h : k < 2 ^ 31) : (nI 0 ≤ tI k) = ¬ (k = 0) := by
  cases k with
  | zero => rw [show tI 0 = -nI 1 from rfl, n_leneg (by omega) (by omega) (by omega)]; simp
  | succ k => rw [show tI (k + 1) = nI k from rfl, nI_leI (by omega) (by omega)]; simp
theorem tI_in {k N : Nat} (h0 : 0 < k) (h : k ≤ N) (hN : N < 2 ^ 31) : vp_in (tI k) N = True := by
  cases k with
  | zero => omega
  | succ k => exact n_in (by omega) hN
theorem tI_inj {a b : Nat} (ha : a < 2 ^ 31) (hb : b < 2 ^ 31) : (tI a = tI b) = (a = b) := by
  cases a with
  | zero =>
    cases b with
    | zero => simp
    | succ b => rw [show tI 0 = -nI 1 from rfl, show tI (b + 1) = nI b from rfl, n_negeq (by omega) (by omega) (by omega)]; simp
  | succ a =>
    cases b with
    | zero => rw [show tI 0 = -nI 1 from rfl, show tI (a + 1) = nI a from rfl, n_eqneg (by omega) (by omega) (by omega)]; simp
    | succ b => rw [show tI (a + 1) = nI a from rfl, show tI (b + 1) = nI b from rfl, nI_eq (by omega) (by omega)]; simp
theorem n_jmin {a b : Nat} (ha : a < 2 ^ 31) (hb : b < 2 ^ 31) : jmin (nI a) (nI b) = nI (min a b) := by
  unfold jmin
  by_cases h : b < a
  · rw [if_pos ((nI_ltI hb ha).mpr h), Nat.min_eq_right (by omega)]
  · rw [if_neg (fun z => h ((nI_ltI hb ha).mp z)), Nat.min_eq_left (by omega)]
theorem n_byte : ∀ n, n < 128 → jbyte (nI n) = nI n ∧ vp_nar .byte (nI n) = nI n := by decide +kernel
theorem n_bytem : jbyte (-nI 1) = -nI 1 ∧ vp_nar .byte (-nI 1) = -nI 1 := by decide +kernel
theorem tI_byte {k : Nat} (h : k < 128) : vp_nar .byte (jbyte (tI k)) = tI k ∧ vp_nar .byte (tI k) = tI k := by
  cases k with
  | zero => exact ⟨by rw [show tI 0 = -nI 1 from rfl, n_bytem.1, n_bytem.2], n_bytem.2⟩
  | succ k => exact ⟨by rw [show tI (k + 1) = nI k from rfl, (n_byte k (by omega)).1, (n_byte k (by omega)).2], (n_byte k (by omega)).2⟩
theorem n_bool : ∀ n, n < 2 → vp_nar .boolean (nI n) = nI n ∧ narrow .boolean (.int (nI n)) = .int (nI n) := by decide +kernel
