/-! the reference's seeing, and counts of cases -/
theorem m_casesN {P : FL} {sM mc : AR} (hF : FlatOK P) {cc : Nat → Nat} (h36 : sM 36 = nI (P 0 0 * P 0 1)) (hmc : ∀ k, k < P 0 0 * P 0 1 → mc k = tI (cc k)) (hcc : ∀ k, k < P 0 0 * P 0 1 → cc k ≤ P 0 0 * P 0 1) {post : Int32 → Prop} (h : post (nI (cnt (alv cc) (P 0 0 * P 0 1)))) : wpX11_casesOf sM mc (-1 : Int32) post := by
  have fc := hF.cells
  unfold wpX11_casesOf
  refine loop_0 (fun n i (q : Int32) => wpX11_casesOf_L4 sM mc (-1 : Int32) (fun l2_51 l3_51 => post l2_51) post n q (nI i)) (fun i q => q = nI (cnt (alv cc) i)) (P 0 0 * P 0 1) (nI 0) rfl ?_ ?_
  · intro n q hI
    show wpX11_casesOf_L4 sM mc (-1 : Int32) (fun l2_51 l3_51 => post l2_51) post (n + 1) q (nI (P 0 0 * P 0 1))
    unfold wpX11_casesOf_L4
    rw [h36, hI]
    exact ⟨fun _ => h, fun z => absurd (nI_le (Nat.le_refl _) (by omega)) z⟩
  · intro n i q hi hI hnext
    show wpX11_casesOf_L4 sM mc (-1 : Int32) (fun l2_51 l3_51 => post l2_51) post (n + 1) q (nI i)
    have hci := hcc i hi
    unfold wpX11_casesOf_L4
    rw [h36, hI, nI_clamp (by omega), hmc i hi, show (tI (cc i) = (-1 : Int32)) = (cc i = 0) from tI_none (by omega)]
    refine ⟨fun z => absurd z (nI_ge hi (by omega)), fun _ => ⟨vp_in_nI (by omega) (by omega), fun e => nm_e (nm_r (nI_1 i) (hnext _ ?_)), fun e => ⟨fun _ => nm_e (nm_r (nI_1 i) (hnext _ ?_)), fun z => absurd rfl z⟩⟩⟩
    · rw [cnt, if_neg (by unfold alv; simp [e])]; exact nI_add _ 0
    · rw [cnt, if_pos (by unfold alv; simp [e])]; exact nI_1 _
/-- how many cases are in a cell -/
def inC (cc : Nat → Nat) (c : Nat) : Nat → Bool := fun k => decide (cc k = c + 1)
theorem m_casesC {P : FL} {sM mc : AR} (hF : FlatOK P) {cc : Nat → Nat} {c : Nat} (hc : c < P 0 0 * P 0 1) (h36 : sM 36 = nI (P 0 0 * P 0 1)) (hmc : ∀ k, k < P 0 0 * P 0 1 → mc k = tI (cc k)) (hcc : ∀ k, k < P 0 0 * P 0 1 → cc k ≤ P 0 0 * P 0 1) {post : Int32 → Prop} (h : post (nI (cnt (inC cc c) (P 0 0 * P 0 1)))) : wpX11_casesOf sM mc (nI c) post := by
  have fc := hF.cells
  unfold wpX11_casesOf
  refine loop_0 (fun n i (q : Int32) => wpX11_casesOf_L4 sM mc (nI c) (fun l2_51 l3_51 => post l2_51) post n q (nI i)) (fun i q => q = nI (cnt (inC cc c) i)) (P 0 0 * P 0 1) (nI 0) rfl ?_ ?_
  · intro n q hI
    show wpX11_casesOf_L4 sM mc (nI c) (fun l2_51 l3_51 => post l2_51) post (n + 1) q (nI (P 0 0 * P 0 1))
    unfold wpX11_casesOf_L4
    rw [h36, hI]
    exact ⟨fun _ => h, fun z => absurd (nI_le (Nat.le_refl _) (by omega)) z⟩
  · intro n i q hi hI hnext
    show wpX11_casesOf_L4 sM mc (nI c) (fun l2_51 l3_51 => post l2_51) post (n + 1) q (nI i)
    have hci := hcc i hi
    unfold wpX11_casesOf_L4
    have vi : vp_in (nI i) 100 := vp_in_nI (by omega) (by omega)
    rw [h36, hI, nI_clamp (by omega), hmc i hi, show (tI (cc i) = (-1 : Int32)) = (cc i = 0) from tI_none (by omega), show (nI c = (-1 : Int32)) = False from n_eqneg (b := 1) (by omega) (by omega) (by omega), show (tI (cc i) = nI c) = (cc i = c + 1) from tI_inj (b := c + 1) (by omega) (by omega)]
    refine ⟨fun z => absurd z (nI_ge hi (by omega)), fun _ => ⟨vi, fun e => nm_e (nm_r (nI_1 i) (hnext _ ?_)), fun e => ⟨fun z => z.elim, fun _ => ⟨vi, fun e1 => nm_e (nm_r (nI_1 i) (hnext _ ?_)), fun e1 => nm_e (nm_r (nI_1 i) (hnext _ ?_))⟩⟩⟩⟩
    · rw [cnt, if_neg (by unfold inC; simp [e])]; exact nI_add _ 0
    · rw [cnt, if_neg (by unfold inC; simp [e1])]; exact nI_add _ 0
    · rw [cnt, if_pos (by unfold inC; simp [e1])]; exact nI_1 _
theorem c_howManyIn {P : FL} {sQ qc qh : AR} (hF : FlatOK P) {cc ch : Nat → Nat} (hq : QRepC P sQ qc qh true cc ch) (hok : QOK P cc ch) {c : Nat} (hc : c < P 0 0 * P 0 1) {post : Int32 → Prop} (h : post (nI (cnt (inC cc c) (P 0 0 * P 0 1)))) : wpX7_howManyIn sQ qc (nI c) post := by
  have fc := hF.cells
  obtain ⟨h5, h6⟩ := hq
  obtain ⟨h6, h7⟩ := h6 rfl
  have hNle := cnt_le (alv cc) (P 0 0 * P 0 1)
  -- by the list's own places
  have hg : ∃ g : Nat → Bool, ∀ i, i < cnt (alv cc) (P 0 0 * P 0 1) → g i = decide (qc i = nI c) := ⟨fun i => decide (qc i = nI c), fun i _ => rfl⟩
  obtain ⟨g, hg⟩ := hg
  have e : cnt (inC cc c) (P 0 0 * P 0 1) = cnt g (cnt (alv cc) (P 0 0 * P 0 1)) := by
    rw [← cnt_comp]
    refine cnt_congr _ (fun k hk => ?_)
    obtain ⟨o1, o2⟩ := hok k hk
    unfold inC
    by_cases e : cc k = 0
    · unfold alv
      rw [decide_eq_false (by omega), decide_eq_false (fun z => z e), Bool.false_and]
    · rw [hg _ (cnt_lt (alv cc) hk (decide_eq_true e)), (h7 k hk e).1]
      unfold alv
      rw [decide_eq_true e, Bool.true_and]
      rw [Bool.eq_iff_iff, decide_eq_true_eq, decide_eq_true_eq, nI_eq (by omega) (by omega)]
      omega
  rw [e] at h
  unfold wpX7_howManyIn
  refine loop_0 (fun n i (q : Int32) => wpX7_howManyIn_L4 sQ qc (nI c) (fun l2_31 l3_31 => post l2_31) post n q (nI i)) (fun i q => q = nI (cnt g i)) (cnt (alv cc) (P 0 0 * P 0 1)) (nI 0) rfl ?_ ?_
  · intro n q hI
    show wpX7_howManyIn_L4 sQ qc (nI c) (fun l2_31 l3_31 => post l2_31) post (n + 1) q (nI (cnt (alv cc) (P 0 0 * P 0 1)))
    unfold wpX7_howManyIn_L4
    rw [h6, hI]
    exact ⟨fun _ => h, fun z => absurd (nI_le (Nat.le_refl _) (by omega)) z⟩
  · intro n i q hi hI hnext
    show wpX7_howManyIn_L4 sQ qc (nI c) (fun l2_31 l3_31 => post l2_31) post (n + 1) q (nI i)
    unfold wpX7_howManyIn_L4
    rw [h6, hI, nI_clamp (by omega)]
    refine ⟨fun z => absurd z (nI_ge hi (by omega)), fun _ => ⟨vp_in_nI (by omega) (by omega), fun e => nm_r (nI_1 i) (hnext _ ?_), fun e => nm_e (nm_r (nI_1 i) (hnext _ ?_))⟩⟩
    · rw [cnt, hg i hi, decide_eq_false e]; rfl
    · rw [cnt, hg i hi, decide_eq_true e]; exact nI_1 _
theorem m_seenL {P : FL} {sM s mc mh : AR} (hF : FlatOK P) (hs : ∀ k, k < 7 → s k = nI (P 0 k)) {x1 x2 x3 : Int32} {cc ch : Nat → Nat} (hq : QRepM P sM mc mh true cc ch) (hok : QOK P cc ch) {kx : AR → Int32 → Prop} {post : Int32 → AR → AR → Prop} (hk : ∀ mc' y, QRepM P sM mc' mh true (cSeen P x1 x2 x3 cc) ch → kx mc' y) : ∃ n, wpX11_seen_L53 sM s x1 x2 x3 kx post n mc (0 : Int32) := by
  have fc := hF.cells
  have f1 := hF.1.1
  have f2 := hF.1.2.1
  obtain ⟨h36, h7⟩ := hq
  have h36 : sM 36 = nI (P 0 0 * P 0 1) := h36
  have h7 := h7 rfl
  refine loop_0 (fun n i (q : AR) => wpX11_seen_L53 sM s x1 x2 x3 kx post n q (nI i)) (fun i q => (∀ k, k < i → q k = tI (cSeen P x1 x2 x3 cc k)) ∧ ∀ k, i ≤ k → q k = mc k) (P 0 0 * P 0 1) mc ⟨fun k hk => by omega, fun _ _ => rfl⟩ ?_ ?_
  · intro n q hI
    show wpX11_seen_L53 sM s x1 x2 x3 kx post (n + 1) q (nI (P 0 0 * P 0 1))
    unfold wpX11_seen_L53
    rw [h36]
    exact ⟨fun _ => hk _ _ ⟨h36, fun _ k hk => ⟨hI.1 k hk, (h7 k hk).2⟩⟩, fun z => absurd (nI_le (Nat.le_refl _) (by omega)) z⟩
  · intro n i q hi hI hnext
    show wpX11_seen_L53 sM s x1 x2 x3 kx post (n + 1) q (nI i)
    obtain ⟨o1, o2⟩ := hok i hi
    have vi : vp_in (nI i) 100 := vp_in_nI (by omega) (by omega)
    unfold wpX11_seen_L53
    rw [h36, nI_clamp (by omega), hI.2 i (Nat.le_refl _), (h7 i hi).1, show (tI (cc i) = (-1 : Int32)) = (cc i = 0) from tI_none (by omega)]
    refine ⟨fun z => absurd z (nI_ge hi (by omega)), fun _ => ⟨vi, fun e => ?_, fun e => nm_r (nI_1 i) (hnext q ⟨fun k hk => ?_, fun k hk => hI.2 k (by omega)⟩)⟩⟩
    · obtain ⟨c, hc⟩ : ∃ c, cc i = c + 1 := ⟨cc i - 1, by omega⟩
      have ecg : cSeen P x1 x2 x3 cc i = if isL P x1 x2 x3 c = true then 0 else c + 1 := by
        unfold cSeen; rw [if_neg e, hc]; rfl
      have j120 : ∀ b : Int32, b = (if nI (lnO P x2 c) = x1 then (1 : Int32) else 0) → ∀ kb, kb = (fun b0 b1 => wpX11_seen_L53 sM s x1 x2 x3 kx post n b0 b1) → wpX11_seen_J120 sM s q x1 x2 x3 (nI i) b kb kx post := by
        intro b hb kb hkb
        subst hkb
        unfold wpX11_seen_J120
        rw [nI_clamp (by omega)]
        refine ⟨fun z => nm_r (nI_1 i) (hnext q ⟨fun k hk => ?_, fun k hk => hI.2 k (by omega)⟩), fun z => ⟨vi, nm_e (nm_r (nI_1 i) (hnext _ ⟨fun k hk => ?_, fun k hk => by rw [pk_un (by omega)]; exact hI.2 k (by omega)⟩))⟩⟩
        · by_cases ek : k = i
          · subst ek
            have e8 : ¬ isL P x1 x2 x3 c = true := by unfold isL; rw [← hb]; simpa using z
            rw [hI.2 _ (Nat.le_refl _), (h7 _ hi).1, ecg, if_neg e8, hc]
          · exact hI.1 k (by omega)
        · by_cases ek : k = i
          · subst ek
            have e8 : isL P x1 x2 x3 c = true := by unfold isL; rw [← hb]; simpa using z
            rw [pk_us, ecg, if_pos e8]; rfl
          · rw [pk_un ek]; exact hI.1 k (by omega)
      have j111 : ∀ t0 : Int32, t0 = nI (lnO P x2 c) → ∀ kb, kb = (fun b0 b1 => wpX11_seen_L53 sM s x1 x2 x3 kx post n b0 b1) → wpX11_seen_J111 sM s q x1 x2 x3 (nI i) t0 kb kx post := by
        intro t0 ht kb hkb
        subst ht
        unfold wpX11_seen_J111
        exact ⟨fun z => j120 _ (by rw [if_neg z]) kb hkb, fun z => j120 _ (by rw [if_pos z]) kb hkb⟩
      rw [hc, show tI (c + 1) = nI c from rfl, hs 0 (by omega), n_rem (by omega) (by omega) (by omega), pk_div (by omega) (by omega) (by omega)]
      have nz : ¬ nI (P 0 0) = (0 : Int32) := nI_ne0 (by omega) (by omega)
      refine ⟨fun z => ⟨vi, nz, j111 _ ?_ _ rfl⟩, fun z => ⟨vi, nz, j111 _ ?_ _ rfl⟩⟩
      · unfold lnO; rw [if_pos z]
      · unfold lnO; rw [if_neg z]
    · by_cases ek : k = i
      · subst ek
        rw [hI.2 _ (Nat.le_refl _), (h7 _ hi).1]
        unfold cSeen
        rw [if_pos e, e]
      · exact hI.1 k (by omega)
/-! the greatest common divisor -/
theorem c_gcd {a b : Nat} (ha : a ≤ 100) (hb : b ≤ 100) {post : Int32 → Prop} (h : post (nI (Nat.gcd a b))) : wpX10_commonDivisor (nI a) (nI b) post := by
  unfold wpX10_commonDivisor
  refine loop_0 (fun n i (q : Int32 × Int32) => wpX10_commonDivisor_L7 (fun l2_34 l3_34 l4_34 => post l2_34) post n q.1 q.2 (nI i)) (fun i q => ∃ x y, q = (nI x, nI y) ∧ x ≤ 100 ∧ y + i ≤ 100 ∧ Nat.gcd x y = Nat.gcd a b) 100 (nI a, nI b) ⟨a, b, rfl, ha, by omega, rfl⟩ ?_ ?_
  · rintro n q ⟨x, y, rfl, hx, hy, hg⟩
    show wpX10_commonDivisor_L7 (fun l2_34 l3_34 l4_34 => post l2_34) post (n + 1) (nI x) (nI y) (nI 100)
    unfold wpX10_commonDivisor_L7
    refine ⟨fun _ => ?_, fun z => absurd (nI_le (Nat.le_refl 100) (by omega)) z⟩
    rw [show y = 0 by omega, Nat.gcd_zero_right] at hg
    rw [hg]
    exact h
  · rintro n i q hi ⟨x, y, rfl, hx, hy, hg⟩ hnext
    show wpX10_commonDivisor_L7 (fun l2_34 l3_34 l4_34 => post l2_34) post (n + 1) (nI x) (nI y) (nI i)
    unfold wpX10_commonDivisor_L7
    refine ⟨fun z => absurd z (nI_ge (b := 100) hi (by decide)), fun _ => ⟨fun z => ?_, fun z => ?_⟩⟩
    · have : y = 0 := by have := (nI_leI (b := 0) (by omega) (by omega)).mp z; omega
      rw [this, Nat.gcd_zero_right] at hg
      rw [hg]
      exact h
    · have hy0 : 0 < y := by
        rcases Nat.eq_zero_or_pos y with e | e
        · exact absurd (by rw [e]; decide) z
        · exact e
      have hm := Nat.mod_lt x hy0
      refine ⟨nI_ne0 (by omega) (by omega), nm_r (n_rem (by omega) hy0 (by omega)) (nm_r (nI_1 i) (hnext (_, _) ⟨y, x % y, rfl, by omega, by omega, ?_⟩))⟩
      rw [Nat.gcd_comm, ← Nat.gcd_rec, Nat.gcd_comm]
      exact hg
theorem m_gcd {a b : Nat} (ha : a ≤ 100) (hb : b ≤ 100) {post : Int32 → Prop} (h : post (nI (Nat.gcd a b))) : wpX11_common (nI a) (nI b) post := by
  unfold wpX11_common
  refine loop_m (fun n (q : Int32 × Int32) => wpX11_common_L4 (fun l2_21 l3_21 => post l2_21) post n q.1 q.2) (fun q => ∃ x y, q = (nI x, nI y) ∧ x ≤ 100 ∧ y ≤ 100 ∧ Nat.gcd x y = Nat.gcd a b) (fun q => q.2.toNatClampNeg) ?_ (nI a, nI b) ⟨a, b, rfl, ha, hb, rfl⟩
  rintro n q ⟨x, y, rfl, hx, hy, hg⟩ hnext
  show wpX11_common_L4 (fun l2_21 l3_21 => post l2_21) post (n + 1) (nI x) (nI y)
  unfold wpX11_common_L4
  refine ⟨fun z => ?_, fun z => ⟨z, ?_⟩⟩
  · have : y = 0 := (nI_eq (b := 0) (by omega) (by omega)).mp z
    rw [this, Nat.gcd_zero_right] at hg
    rw [hg]
    exact h
  · have hy0 : 0 < y := by
      rcases Nat.eq_zero_or_pos y with e | e
      · exact absurd (by rw [e]; rfl) z
      · exact e
    have hm := Nat.mod_lt x hy0
    refine nm_r (n_rem (by omega) hy0 (by omega)) (hnext (_, _) ⟨y, x % y, rfl, by omega, by omega, ?_⟩ ?_)
    · rw [Nat.gcd_comm, ← Nat.gcd_rec, Nat.gcd_comm]
      exact hg
    · show (nI (x % y)).toNatClampNeg < (nI y).toNatClampNeg
      rw [nI_clamp (by omega), nI_clamp (by omega)]
      exact hm
