/-! any int is nI of something below 2^32 -/
theorem n_any (x : Int32) : ∃ m, m < 2 ^ 32 ∧ x = nI m ∧ (m < 2 ^ 31 ∨ x < 0) := by
  refine ⟨x.toBitVec.toNat, x.toBitVec.isLt, ?_, ?_⟩
  · apply Int32.toBitVec_inj.mp
    apply BitVec.eq_of_toNat_eq
    exact (pk_tn x.toBitVec.isLt).symm
  · by_cases h : x.toBitVec.toNat < 2 ^ 31
    · exact Or.inl h
    · refine Or.inr (Int32.lt_iff_toInt_lt.mpr ?_)
      rw [← Int32.toInt_toBitVec, BitVec.toInt_eq_toNat_cond, if_neg (by omega)]
      have := x.toBitVec.isLt
      show _ < (0 : Int)
      omega
theorem nI_inj32 {a b : Nat} (ha : a < 2 ^ 32) (hb : b < 2 ^ 32) (h : nI a = nI b) : a = b := by
  have h1 := congrArg (fun x : Int32 => x.toBitVec.toNat) h
  rwa [pk_tn ha, pk_tn hb] at h1
theorem c_hasTowers {P : FL} {sG : AR} (hF : FlatOK P) (hs : ∀ k, k < 7 → sG k = nI (P 0 k)) {x : Int32} {post : Int32 → Prop} (h1 : ∀ m, m < 2 ^ P 0 2 → x = nI m → post (1 : Int32)) (h0 : (¬ ∃ m, m < 2 ^ P 0 2 ∧ x = nI m) → post (0 : Int32)) : wpX4_hasTowers sG x post := by
  have f5 := hF.1.2.2.2.2.1
  have h32 := p2_le f5
  obtain ⟨m, hm, rfl, -⟩ := n_any x
  have hlt : m / 2 ^ P 0 2 < 2 ^ 32 := Nat.lt_of_le_of_lt (Nat.div_le_self _ _) hm
  unfold wpX4_hasTowers
  rw [hs 2 (by omega), n_ush hm (by omega)]
  refine ⟨fun e => h0 ?_, fun e => h1 m ?_ rfl⟩
  · rintro ⟨k, hk, hk2⟩
    have := nI_inj32 hm (by omega) hk2
    subst this
    exact e (by rw [Nat.div_eq_of_lt hk]; rfl)
  · have h2 := nI_inj32 (b := 0) hlt (by omega) e
    rcases Nat.lt_or_ge m (2 ^ P 0 2) with h3 | h3
    · exact h3
    · have := Nat.div_pos h3 (Nat.two_pow_pos _)
      omega
theorem m_inSets {P : FL} {s : AR} (hF : FlatOK P) (hs : ∀ k, k < 7 → s k = nI (P 0 k)) {x : Int32} {post : Int32 → Prop} (h1 : ∀ m, m < 2 ^ P 0 2 → x = nI m → post (1 : Int32)) (h0 : (¬ ∃ m, m < 2 ^ P 0 2 ∧ x = nI m) → post (0 : Int32)) : wpX11_isIn x (0 : Int32) (jshl (1 : Int32) (s 2) - (1 : Int32)) post := by
  have f5 := hF.1.2.2.2.2.1
  have h32 := p2_le f5
  have hp := Nat.two_pow_pos (P 0 2)
  rw [hs 2 (by omega), show jshl (1 : Int32) (nI (P 0 2)) = nI (2 ^ P 0 2) from n_shl (by omega)]
  obtain ⟨m, hm, rfl, hm2⟩ := n_any x
  by_cases e : m < 2 ^ P 0 2
  · exact m_in1 e (by omega) (h1 m e rfl)
  · have hz : ¬ ∃ k, k < 2 ^ P 0 2 ∧ nI m = nI k := by
      rintro ⟨k, hk, hk2⟩
      have := nI_inj32 hm (by omega) hk2
      omega
    rcases hm2 with hm2 | hm2
    · exact m_in0 (by omega) hm2 (h0 hz)
    · unfold wpX11_isIn
      exact ⟨fun _ => h0 hz, fun q => absurd hm2 q⟩
/-! how many are so -/
def cnt (p : Nat → Bool) : Nat → Nat
  | 0 => 0
  | n + 1 => cnt p n + (if p n = true then 1 else 0)
theorem cnt_le (p : Nat → Bool) : ∀ n, cnt p n ≤ n := by
  intro n
  induction n with
  | zero => exact Nat.le_refl _
  | succ n ih => unfold cnt; split <;> omega
def hmN (P : FL) (a : Nat → Nat) (h : Nat) : Nat := cnt (fun w => decide (a (w * 6 + 3) = h)) (P 0 3)
theorem c_howMany {P : FL} {sG F : AR} (hF : FlatOK P) (hs : ∀ k, k < 7 → sG k = nI (P 0 k)) {n h : Nat} {a : Nat → Nat} (ha : FRep P F a) (hok : FOK P n a) (hh : h < 2 ^ 31) {post : Int32 → Prop} (hp : post (nI (hmN P a h))) : wpX3_howMany sG F (nI h) post := by
  have f6 := hF.1.2.2.2.2.2.1
  unfold wpX3_howMany
  refine loop_0 (fun n i (q : Int32) => wpX3_howMany_L4 sG F (nI h) (fun l2_39 l3_39 => post l2_39) post n q (nI i)) (fun i q => q = nI (cnt (fun w => decide (a (w * 6 + 3) = h)) i)) (P 0 3) (nI 0) rfl ?_ ?_
  · intro n q hI
    show wpX3_howMany_L4 sG F (nI h) (fun l2_39 l3_39 => post l2_39) post (n + 1) q (nI (P 0 3))
    unfold wpX3_howMany_L4
    rw [hs 3 (by omega), hI]
    exact ⟨fun _ => hp, fun z => absurd (nI_le (Nat.le_refl _) (by omega)) z⟩
  · intro n i q hi hI hnext
    show wpX3_howMany_L4 sG F (nI h) (fun l2_39 l3_39 => post l2_39) post (n + 1) q (nI i)
    unfold wpX3_howMany_L4
    have o3 : a (i * 6 + 3) ≤ 3 := (hok.1 i hi).2.2.2.1
    have e3 : F (i * 6 + 3) = nI (a (i * 6 + 3)) := (ha.1 i hi).2.2.2.1
    rw [hs 3 (by omega), hI, show nI i * (6 : Int32) + (3 : Int32) = nI (i * 6 + 3) by rw [show nI i * (6 : Int32) = nI (i * 6) from pk_mul i 6]; exact nI_add _ 3, nI_clamp (by omega), e3, nI_eq (by omega) hh]
    refine ⟨fun z => absurd z (nI_ge hi (by omega)), fun _ => ⟨vp_in_nI (by omega) (by omega), fun e => nm_r (nI_1 i) (hnext _ ?_), fun e => nm_e (nm_r (nI_1 i) (hnext _ ?_))⟩⟩
    · rw [cnt, if_neg (by simpa using e), Nat.add_zero]
    · rw [cnt, if_pos (by simpa using e)]; exact nI_1 _
theorem m_howMany {P : FL} {s row : AR} (hF : FlatOK P) (hs : ∀ k, k < 7 → s k = nI (P 0 k)) {n h : Nat} {a : Nat → Nat} (ha : FRep P row a) (hok : FOK P n a) (hh : h < 2 ^ 31) {post : Int32 → Prop} (hp : post (nI (hmN P a h))) : wpX11_howMany s row (nI h) post := by
  have f6 := hF.1.2.2.2.2.2.1
  unfold wpX11_howMany
  refine loop_0 (fun n i (q : Int32) => wpX11_howMany_L5 s row (nI h) (fun l3_43 l4_43 => post l3_43) post n q (nI i)) (fun i q => q = nI (cnt (fun w => decide (a (w * 6 + 3) = h)) i)) (P 0 3) (nI 0) rfl ?_ ?_
  · intro n q hI
    show wpX11_howMany_L5 s row (nI h) (fun l3_43 l4_43 => post l3_43) post (n + 1) q (nI (P 0 3))
    unfold wpX11_howMany_L5
    rw [hs 3 (by omega), hI]
    exact ⟨fun _ => hp, fun z => absurd (nI_le (Nat.le_refl _) (by omega)) z⟩
  · intro n i q hi hI hnext
    show wpX11_howMany_L5 s row (nI h) (fun l3_43 l4_43 => post l3_43) post (n + 1) q (nI i)
    unfold wpX11_howMany_L5
    have o3 : a (i * 6 + 3) ≤ 3 := (hok.1 i hi).2.2.2.1
    have e3 : row (i * 6 + 3) = nI (a (i * 6 + 3)) := (ha.1 i hi).2.2.2.1
    rw [hs 3 (by omega), hI, ix6, show nI (i * 6) + (3 : Int32) = nI (i * 6 + 3) from nI_add _ 3, nI_clamp (by omega), e3, nI_eq (by omega) hh]
    refine ⟨fun z => absurd z (nI_ge hi (by omega)), fun _ => ⟨vp_in_nI (by omega) (by omega), fun e => nm_e (nm_r (nI_1 i) (hnext _ ?_)), fun e => nm_e (nm_r (nI_1 i) (hnext _ ?_))⟩⟩
    · rw [cnt, if_neg (by simpa using e)]; exact nI_add _ 0
    · rw [cnt, if_pos (by simpa using e)]; exact nI_1 _
/-! whether a set can be rung -/
theorem c_canRing {P : FL} {sG F : AR} (hF : FlatOK P) (hs : ∀ k, k < 7 → sG k = nI (P 0 k)) {n : Nat} {a : Nat → Nat} (ha : FRep P F a) (hok : FOK P n a) {x : Int32} {post : Int32 → Prop} (h1 : ∀ m, x = nI m → CanR P m a → post (1 : Int32)) (h0 : (¬ ∃ m, x = nI m ∧ CanR P m a) → post (0 : Int32)) : wpX3_canRing sG F x post := by
  have f5 := hF.1.2.2.2.2.1
  have h32 := p2_le f5
  unfold wpX3_canRing
  refine c_hasTowers hF hs (fun m hm e => ⟨fun _ => ?_, fun z => absurd z (by decide)⟩) (fun e => ⟨fun z => absurd rfl z, fun _ => h0 (fun ⟨m, q1, q2⟩ => e ⟨m, q2.1, q1⟩)⟩)
  subst e
  refine loop_0 (fun n i (_ : Unit) => wpX3_canRing_L15 sG F (nI m) (fun l2_56 => post (1 : Int32)) post n (nI i)) (fun i _ => ∀ t, t < i → bt1 m t ≤ a (24 + t)) (P 0 2) () (fun t ht => by omega) ?_ ?_
  · intro n _ hI
    show wpX3_canRing_L15 sG F (nI m) (fun l2_56 => post (1 : Int32)) post (n + 1) (nI (P 0 2))
    unfold wpX3_canRing_L15
    rw [hs 2 (by omega)]
    exact ⟨fun _ => h1 m rfl ⟨hm, hI⟩, fun z => absurd (nI_le (Nat.le_refl _) (by omega)) z⟩
  · intro n i _ hi hI hnext
    show wpX3_canRing_L15 sG F (nI m) (fun l2_56 => post (1 : Int32)) post (n + 1) (nI i)
    unfold wpX3_canRing_L15
    have hb := bt1_lt m i
    have ho := hok.2 i hi
    rw [hs 2 (by omega), show jshr (nI m) (nI i) &&& (1 : Int32) = nI (bt1 m i) from n_bit (by omega) (by omega), show (24 : Int32) + nI i = nI (24 + i) from nI_add 24 i, nI_clamp (by omega), ha.2 i hi, show ((1 : Int32) ≤ nI (a (24 + i))) = (1 ≤ a (24 + i)) from propext (nI_leI (a := 1) (by omega) (by omega))]
    refine ⟨fun z => absurd z (nI_ge hi (by omega)), fun _ => ⟨fun e => nm_r (nI_1 i) (hnext () (lt_s hI ?_)), fun e => ⟨vp_in_nI (by omega) (by omega), fun e1 => nm_r (nI_1 i) (hnext () (lt_s hI (by omega))), fun e1 => h0 ?_⟩⟩⟩
    · have : ¬ bt1 m i = 1 := fun q => e (by rw [q]; rfl)
      omega
    · have e2 : bt1 m i = 1 := (nI_eq (b := 1) (by omega) (by omega)).mp e
      rintro ⟨k, q1, q2⟩
      have := nI_inj32 (a := m) (b := k) (by omega) (by have := q2.1; omega) q1
      subst this
      have := q2.2 i hi
      omega
theorem m_canRing {P : FL} {s row : AR} (hF : FlatOK P) (hs : ∀ k, k < 7 → s k = nI (P 0 k)) {n : Nat} {a : Nat → Nat} (ha : FRep P row a) (hok : FOK P n a) {x : Int32} {post : Int32 → Prop} (h1 : ∀ m, x = nI m → CanR P m a → post (1 : Int32)) (h0 : (¬ ∃ m, x = nI m ∧ CanR P m a) → post (0 : Int32)) : wpX11_canRing s row x post := by
  have f5 := hF.1.2.2.2.2.1
  have h32 := p2_le f5
  unfold wpX11_canRing
  refine m_inSets hF hs (fun m hm e => ⟨fun _ => ?_, fun z => absurd z (by decide)⟩) (fun e => ⟨fun z => absurd rfl z, fun _ => h0 (fun ⟨m, q1, q2⟩ => e ⟨m, q2.1, q1⟩)⟩)
  subst e
  refine loop_0 (fun n i (_ : Unit) => wpX11_canRing_L22 s row (nI m) (fun l3_58 => post (1 : Int32)) post n (nI i)) (fun i _ => ∀ t, t < i → bt1 m t ≤ a (24 + t)) (P 0 2) () (fun t ht => by omega) ?_ ?_
  · intro n _ hI
    show wpX11_canRing_L22 s row (nI m) (fun l3_58 => post (1 : Int32)) post (n + 1) (nI (P 0 2))
    unfold wpX11_canRing_L22
    rw [hs 2 (by omega)]
    exact ⟨fun _ => h1 m rfl ⟨hm, hI⟩, fun z => absurd (nI_le (Nat.le_refl _) (by omega)) z⟩
  · intro n i _ hi hI hnext
    show wpX11_canRing_L22 s row (nI m) (fun l3_58 => post (1 : Int32)) post (n + 1) (nI i)
    unfold wpX11_canRing_L22
    have hb := bt1_lt m i
    have ho := hok.2 i hi
    rw [hs 2 (by omega), show jshr (nI m) (nI i) &&& (1 : Int32) = nI (bt1 m i) from n_bit (by omega) (by omega), show (24 : Int32) + nI i = nI (24 + i) from nI_add 24 i, nI_clamp (by omega), ha.2 i hi, show (nI (a (24 + i)) = (0 : Int32)) = (a (24 + i) = 0) from propext (nI_eq (b := 0) (by omega) (by omega))]
    refine ⟨fun z => absurd z (nI_ge hi (by omega)), fun _ => ⟨fun e => nm_r (nI_1 i) (hnext () (lt_s hI ?_)), fun e => ⟨vp_in_nI (by omega) (by omega), fun e1 => nm_r (nI_1 i) (hnext () (lt_s hI (by omega))), fun e1 => h0 ?_⟩⟩⟩
    · have : ¬ bt1 m i = 1 := fun q => e (by rw [q]; rfl)
      omega
    · have e2 : bt1 m i = 1 := (nI_eq (b := 1) (by omega) (by omega)).mp e
      rintro ⟨k, q1, q2⟩
      have := nI_inj32 (a := m) (b := k) (by omega) (by have := q2.1; omega) q1
      subst this
      have := q2.2 i hi
      omega
/-! the reference's hearing -/
theorem m_hearD {P : FL} {s tc rg vc fl kd mi row sM : AR} (hF : FlatOK P) (hG : GRep P s tc rg vc fl kd mi) {w m n : Nat} {x : Nat → Nat} (hw : w < P 0 3) (hm : m < 2 ^ P 0 2) (hx : WRep row (w * 6) x) (hok : WOK P n x) (hn : n < 2 ^ 30) (hout : x 3 = 0) {post : Int32 → AR → AR → Prop} (hk : ∀ s' row', WRep row' (w * 6) (hW P m (P 5 w) x) → FrW (w * 6) row row' → (∀ j, j ≠ 24 → j ≠ 25 → s' j = sM j) → post (hR P m (P 5 w) x) s' row') : wpX11_hear sM s tc rg vc kd fl mi row (nI w) (nI m) (1 : Int32) post := by
  have f6 := hF.1.2.2.2.2.2.1
  have k5 := hF.2.2.1 w hw
  obtain ⟨o0, o1, o2, o3, o4, o5⟩ := hok
  obtain ⟨x0, x1, x2, x3, x4, x5⟩ := hx
  unfold hW hR at hk
  simp only [if_neg (show ¬ x 3 ≠ 0 from fun z => z hout)] at hk
  have hdo : WOK P n (drW (P 5 w) x) := by
    refine ⟨?_, ?_, ?_, ?_, ?_, ?_⟩
    · unfold drW; rw [if_neg (by omega)]; exact o0
    · unfold drW; split <;> omega
    · unfold drW; rw [if_neg (by omega)]; exact o2
    · unfold drW; rw [if_neg (by omega)]; exact o3
    · unfold drW; rw [if_neg (by omega)]; exact o4
    · unfold drW; rw [if_neg (by omega)]; exact o5
  have hd3 : drW (P 5 w) x 3 = 0 := by unfold drW; rw [if_neg (by omega)]; exact hout
  unfold wpX11_hear
  refine nm_r (ix6 w) ?_
  rw [show nI (w * 6) + (5 : Int32) = nI (w * 6 + 5) from nI_add _ 5, show nI (w * 6) + (1 : Int32) = nI (w * 6 + 1) from nI_add _ 1, show nI (w * 6) + (3 : Int32) = nI (w * 6 + 3) from nI_add _ 3, nI_clamp (by omega), nI_clamp (by omega), nI_clamp (by omega), x5, show nI (x 5) + (1 : Int32) = nI (x 5 + 1) from nI_1 _]
  refine ⟨vp_in_nI (by omega) (by omega), vp_in_nI (by omega) (by omega), nm_e ⟨vp_in_nI (by omega) (by omega), ?_⟩⟩
  rw [nI_clamp (by omega), hG.2.2.2.2.2.1 w hw]
  refine ⟨fun e => ?_, fun e => ⟨fun z => absurd z (by decide), fun _ => ⟨vp_in_nI (by omega) (by omega), ?_⟩⟩⟩
  · have e4 : P 5 w = 4 := (nI_eq (b := 4) (by omega) (by omega)).mp e
    simp only [if_neg (show ¬ (P 5 w ≠ 4 ∧ x 1 = 0) from fun z => z.1 e4)] at hk
    refine m_goJ hF hG hw hm (y := drW (P 5 w) x) ?_ hdo hn hd3 (fun s' row' p1 p2 p3 => hk s' row' p1 (fun j hj => by rw [p2 j hj, pk_un (by omega)]) p3)
    have ed : ∀ f, drW (P 5 w) x f = x f := fun f => by unfold drW; rw [if_neg (fun z => z.1 e4)]
    refine ⟨?_, ?_, ?_, ?_, ?_, ?_⟩
    · rw [pk_un (by omega), x0]; exact congrArg nI (ed 0).symm
    · rw [pk_un (by omega), x1]; exact congrArg nI (ed 1).symm
    · rw [pk_un (by omega), x2]; exact congrArg nI (ed 2).symm
    · rw [pk_un (by omega), x3]; exact congrArg nI (ed 3).symm
    · rw [pk_un (by omega), x4]; exact congrArg tI (ed 4).symm
    · rw [pk_us]
      show _ = nI (drW (P 5 w) x 5 + 1)
      rw [ed 5]
  · have e4 : P 5 w ≠ 4 := fun q => e (by rw [q]; rfl)
    rw [pk_un (by omega), x1]
    refine ⟨fun e1 => ?_, fun e1 => ?_⟩
    · have z1 : ¬ x 1 = 0 := fun q => e1 (by rw [q]; rfl)
      simp only [if_neg (show ¬ (P 5 w ≠ 4 ∧ x 1 = 0) from fun z => z1 z.2)] at hk
      rw [show nI (x 1) - (1 : Int32) = nI (x 1 - 1) from pk_sub (b := 1) (by omega)]
      refine ⟨vp_in_nI (by omega) (by omega), vp_in_nI (by omega) (by omega), nm_e ?_⟩
      refine m_goJ hF hG hw hm (y := drW (P 5 w) x) ?_ hdo hn hd3 (fun s' row' p1 p2 p3 => hk s' row' p1 (fun j hj => by rw [p2 j hj, pk_un (by omega), pk_un (by omega)]) p3)
      have ed : ∀ f, f ≠ 1 → drW (P 5 w) x f = x f := fun f hf => by unfold drW; rw [if_neg (fun z => hf z.2)]
      refine ⟨?_, ?_, ?_, ?_, ?_, ?_⟩
      · rw [pk_un (by omega), pk_un (by omega), x0]; exact congrArg nI (ed 0 (by omega)).symm
      · rw [pk_us]
        show _ = nI (drW (P 5 w) x 1)
        unfold drW; rw [if_pos ⟨e4, rfl⟩]
      · rw [pk_un (by omega), pk_un (by omega), x2]; exact congrArg nI (ed 2 (by omega)).symm
      · rw [pk_un (by omega), pk_un (by omega), x3]; exact congrArg nI (ed 3 (by omega)).symm
      · rw [pk_un (by omega), pk_un (by omega), x4]; exact congrArg tI (ed 4 (by omega)).symm
      · rw [pk_un (by omega), pk_us]
        show _ = nI (drW (P 5 w) x 5 + 1)
        rw [ed 5 (by omega)]
    · have z1 : x 1 = 0 := (nI_eq (b := 0) (by omega) (by omega)).mp e1
      simp only [if_pos (show P 5 w ≠ 4 ∧ x 1 = 0 from ⟨e4, z1⟩)] at hk
      refine ⟨vp_in_nI (by omega) (by omega), nm_e (hk sM _ ⟨?_, ?_, ?_, ?_, ?_, ?_⟩ ((FrW.rfl.upd (by omega) (by omega)).upd (by omega) (by omega)) (fun _ _ _ => rfl))⟩
      · rw [pk_un (by omega), pk_un (by omega), x0]; rfl
      · rw [pk_un (by omega), pk_un (by omega), x1]; rfl
      · rw [pk_un (by omega), pk_un (by omega), x2]; rfl
      · rw [pk_us]; rfl
      · rw [pk_un (by omega), pk_un (by omega), x4]; rfl
      · rw [pk_un (by omega), pk_us]; rfl
theorem m_hearN {P : FL} {s tc rg vc fl kd mi row sM : AR} (hF : FlatOK P) (hG : GRep P s tc rg vc fl kd mi) {w m n : Nat} {x : Nat → Nat} (hw : w < P 0 3) (hm : m < 2 ^ P 0 2) (hx : WRep row (w * 6) x) (hok : WOK P n x) (hn : n < 2 ^ 30) (hout : x 3 = 0) {post : Int32 → AR → AR → Prop} (hk : ∀ s' row', WRep row' (w * 6) (gW P m (P 5 w) x) → FrW (w * 6) row row' → (∀ j, j ≠ 24 → j ≠ 25 → s' j = sM j) → post (gR P m (P 5 w) x) s' row') : wpX11_hear sM s tc rg vc kd fl mi row (nI w) (nI m) (0 : Int32) post := by
  have f6 := hF.1.2.2.2.2.2.1
  have k5 := hF.2.2.1 w hw
  have hok2 := hok
  obtain ⟨o0, o1, o2, o3, o4, o5⟩ := hok
  obtain ⟨x0, x1, x2, x3, x4, x5⟩ := hx
  have hj : wpX11_hear_J60 sM s tc rg vc kd fl mi (upd row (w * 6 + 5) (nI (x 5 + 1))) (nI w) (nI m) (nI (w * 6)) post := by
    refine m_goJ hF hG hw hm (y := x) ?_ hok2 hn hout (fun s' row' p1 p2 p3 => hk s' row' p1 (fun j hj => by rw [p2 j hj, pk_un (by omega)]) p3)
    refine ⟨?_, ?_, ?_, ?_, ?_, ?_⟩
    · rw [pk_un (by omega), x0]; rfl
    · rw [pk_un (by omega), x1]; rfl
    · rw [pk_un (by omega), x2]; rfl
    · rw [pk_un (by omega), x3]; rfl
    · rw [pk_un (by omega), x4]; rfl
    · rw [pk_us]; rfl
  unfold wpX11_hear
  refine nm_r (ix6 w) ?_
  rw [show nI (w * 6) + (5 : Int32) = nI (w * 6 + 5) from nI_add _ 5, nI_clamp (by omega), x5, show nI (x 5) + (1 : Int32) = nI (x 5 + 1) from nI_1 _]
  exact ⟨vp_in_nI (by omega) (by omega), vp_in_nI (by omega) (by omega), nm_e ⟨vp_in_nI (by omega) (by omega), fun e => hj, fun e => ⟨fun _ => hj, fun z => absurd rfl z⟩⟩⟩
theorem m_strokeOf {P : FL} {s tc rg vc fl kd mi row wh sM : AR} (hF : FlatOK P) (hG : GRep P s tc rg vc fl kd mi) {m n : Nat} {a : Nat → Nat} (hc : CanR P m a) (ha : FRep P row a) (hok : FOK P n a) (hn : n < 2 ^ 30) {post : Int32 → AR → AR → AR → Prop} (hk : ∀ s' wh' row', FRep P row' (sk P m a) → (∀ w, w < P 0 3 → wh' w = rs P m a w) → (∀ j, j ≠ 24 → j ≠ 25 → s' j = sM j) → post (nI (hmN P (sk P m a) 1) - nI (hmN P a 1)) s' wh' row') : wpX11_strokeOf sM s tc rg vc kd fl mi wh row (nI m) post := by
  have f5 := hF.1.2.2.2.2.1
  have f6 := hF.1.2.2.2.2.2.1
  have h32 := p2_le f5
  have hm := hc.1
  have hs := hG.1
  unfold wpX11_strokeOf
  refine m_howMany hF hs ha hok (h := 1) (by omega) ?_
  refine loop_0 (fun n i (q : AR) => wpX11_strokeOf_L10 sM s tc rg vc kd fl mi wh (nI m) (nI (hmN P a 1)) _ post n q (nI i)) (fun i q => (∀ t, t < i → q (24 + t) = nI (sk P m a (24 + t))) ∧ ∀ j, j < 24 ∨ 24 + i ≤ j → q j = row j) (P 0 2) row ⟨fun t ht => by omega, fun _ _ => rfl⟩ ?_ ?_
  · intro nn q hI
    show wpX11_strokeOf_L10 sM s tc rg vc kd fl mi wh (nI m) (nI (hmN P a 1)) _ post (nn + 1) q (nI (P 0 2))
    unfold wpX11_strokeOf_L10
    rw [hs 2 (by omega)]
    refine ⟨fun _ => ?_, fun z => absurd (nI_le (Nat.le_refl _) (by omega)) z⟩
    refine loop_0 (fun n i (t : AR × AR × AR) => wpX11_strokeOf_L46 s tc rg vc kd fl mi (nI m) (nI (hmN P a 1)) _ post n t.1 t.2.1 t.2.2 (nI i)) (fun i t => (∀ w, w < i → WRep t.2.2 (w * 6) (hW P m (P 5 w) (wv a w)) ∧ t.2.1 w = rs P m a w) ∧ (∀ j, i * 6 ≤ j → t.2.2 j = q j) ∧ ∀ j, j ≠ 24 → j ≠ 25 → t.1 j = sM j) (P 0 3) (sM, wh, q) ⟨fun t ht => by omega, fun _ _ => rfl, fun _ _ _ => rfl⟩ ?_ ?_
    · intro nn t hI2
      show wpX11_strokeOf_L46 s tc rg vc kd fl mi (nI m) (nI (hmN P a 1)) _ post (nn + 1) t.1 t.2.1 t.2.2 (nI (P 0 3))
      unfold wpX11_strokeOf_L46
      rw [hs 3 (by omega)]
      refine ⟨fun _ => ?_, fun z => absurd (nI_le (Nat.le_refl _) (by omega)) z⟩
      have hr : FRep P t.2.2 (sk P m a) := ⟨fun w hw => (hI2.1 w hw).1.congr (fun f hf => (sk_w (by omega) hf).symm), fun u hu => by rw [hI2.2.1 _ (by omega)]; exact hI.1 u hu⟩
      exact m_howMany hF hs hr (sk_ok hF hok) (h := 1) (by omega) (hk _ _ _ hr (fun w hw => (hI2.1 w hw).2) hI2.2.2)
    · intro nn i t hi hI2 hnext
      show wpX11_strokeOf_L46 s tc rg vc kd fl mi (nI m) (nI (hmN P a 1)) _ post (nn + 1) t.1 t.2.1 t.2.2 (nI i)
      have hwr : WRep t.2.2 (i * 6) (wv a i) := (ha.1 i hi).same (fun j h1 h2 => by rw [hI2.2.1 j h1, hI.2 j (by omega)])
      have hwo := hok.1 i hi
      have fin : ∀ (s2 F' : AR) (r : Int32), WRep F' (i * 6) (hW P m (P 5 i) (wv a i)) → FrW (i * 6) t.2.2 F' → (∀ j, j ≠ 24 → j ≠ 25 → s2 j = t.1 j) → r = rs P m a i → ∀ kb : AR → AR → AR → Int32 → Prop, kb = (fun b0 b1 b2 b3 => wpX11_strokeOf_L46 s tc rg vc kd fl mi (nI m) (nI (hmN P a 1)) (fun sM_96 M_why_96 row_96 l4_96 => wpX11_howMany s row_96 (1 : Int32) (fun r99 => post (r99 - nI (hmN P a 1)) sM_96 M_why_96 row_96)) post nn b0 b1 b2 b3) → ∀ kx, wpX11_strokeOf_J89 s2 s tc rg vc kd fl mi t.2.1 F' (nI m) (nI (hmN P a 1)) (nI i) (nI i) r kb kx post := by
        intro s2 F' r h1 h2 hs2 h3 kb hkb kx
        subst hkb
        unfold wpX11_strokeOf_J89
        rw [nI_clamp (by omega)]
        refine ⟨vp_in_nI (by omega) (by omega), nm_e (nm_r (nI_1 i) (hnext (s2, _, F') ⟨fun w hw => ?_, fun j hj => ?_, fun j ja jb => ?_⟩))⟩
        · by_cases e : w = i
          · subst e
            exact ⟨h1, by show upd t.2.1 w r w = _; rw [pk_us, h3]⟩
          · refine ⟨(hI2.1 w (by omega)).1.same (fun j q1 q2 => h2 j (by omega)), ?_⟩
            show upd t.2.1 i r w = _
            rw [pk_un e]
            exact (hI2.1 w (by omega)).2
        · show F' j = _
          rw [h2 j (by omega)]
          exact hI2.2.1 j (by omega)
        · show s2 j = _
          rw [hs2 j ja jb]
          exact hI2.2.2 j ja jb
      unfold wpX11_strokeOf_L46
      rw [hs 3 (by omega)]
      refine ⟨fun z => absurd z (nI_ge hi (by omega)), fun _ => ?_⟩
      have hr3 := hwr.2.2.2.1
      rw [ix6, show nI (i * 6) + (3 : Int32) = nI (i * 6 + 3) from nI_add _ 3, nI_clamp (by omega), hr3]
      have o3 := hwo.2.2.2.1
      refine ⟨vp_in_nI (by omega) (by omega), fun e => ?_, fun e => ?_⟩
      · have e1 : ¬ wv a i 3 = 0 := fun q => e (by rw [q]; rfl)
        refine fin t.1 t.2.2 _ ?_ FrW.rfl (fun _ _ _ => rfl) ?_ _ rfl _
        · unfold hW; rw [if_pos e1]; exact hwr
        · unfold rs hR; rw [if_pos e1]; rfl
      · have e1 : wv a i 3 = 0 := (nI_eq (b := 0) (by omega) (by omega)).mp e
        exact m_hearD hF hG hi hm hwr hwo hn e1 (fun s' row' p1 p2 p3 => fin s' row' _ p1 p2 p3 rfl _ rfl _)
  · intro nn i q hi hI hnext
    show wpX11_strokeOf_L10 sM s tc rg vc kd fl mi wh (nI m) (nI (hmN P a 1)) _ post (nn + 1) q (nI i)
    unfold wpX11_strokeOf_L10
    have hb := bt1_lt m i
    have hl := hc.2 i hi
    rw [hs 2 (by omega), show (24 : Int32) + nI i = nI (24 + i) from nI_add 24 i, nI_clamp (by omega), show jshr (nI m) (nI i) &&& (1 : Int32) = nI (bt1 m i) from n_bit (by omega) (by omega), hI.2 _ (by omega), ha.2 i hi, pk_sub hl]
    refine ⟨fun z => absurd z (nI_ge hi (by omega)), fun _ => ⟨vp_in_nI (by omega) (by omega), vp_in_nI (by omega) (by omega), nm_e (nm_r (nI_1 i) (hnext _ ⟨fun t ht => ?_, fun j hj => ?_⟩))⟩⟩
    · by_cases e : t = i
      · subst e; rw [pk_us, sk_t]
      · rw [pk_un (by omega)]; exact hI.1 t (by omega)
    · rw [pk_un (by omega)]; exact hI.2 j (by omega)
