theorem ix6 (w : Nat) : (6 : Int32) * nI w = nI (w * 6) := by
  rw [show (6 : Int32) * nI w = nI (6 * w) from pk_mul 6 w, Nat.mul_comm]
theorem nrS_ext {P : FL} {sel sel' : Nat → Bool} {c : Nat} : ∀ n, (∀ i, i < n → hd P i c = true → sel i = sel' i) → nrS P sel c n = nrS P sel' c n := by
  intro n
  induction n with
  | zero => intro _; rfl
  | succ n ih =>
    intro h
    unfold nrS
    rw [ih (fun i hi => h i (by omega))]
    by_cases e : hd P n c = true
    · rw [h n (by omega) e]
    · rw [if_neg (fun q => e q.2.1), if_neg (fun q => e q.2.1)]
theorem twoB_congr {P : FL} {sel sel' : Nat → Bool} : ∀ n, (∀ i, i < n → sel i = sel' i) → twoB P sel n = twoB P sel' n := by
  intro n h
  rw [Bool.eq_iff_iff, twoB_iff, twoB_iff]
  constructor
  · rintro ⟨i, j, h1, h2, h3, h4, h5⟩
    exact ⟨i, j, h1, h2, by rw [← h i (by omega)]; exact h3, by rw [← h j h2]; exact h4, h5⟩
  · rintro ⟨i, j, h1, h2, h3, h4, h5⟩
    exact ⟨i, j, h1, h2, by rw [h i (by omega)]; exact h3, by rw [h j h2]; exact h4, h5⟩
theorem bts_and (a b i : Nat) : bts (a &&& b) i = (bts a i && bts b i) := by
  have h := bt1_and a b i
  unfold bts
  rw [Bool.eq_iff_iff, decide_eq_true_eq, Bool.and_eq_true, decide_eq_true_eq, decide_eq_true_eq, h]
/-- the towers of a set that are heard -/
def hs' (P : FL) (m c : Nat) : Nat := bm (fun t => bts m t && hd P t c) (P 0 2)
theorem hs_bts (P : FL) (m c t : Nat) (ht : t < P 0 2) : bts (hs' P m c) t = (bts m t && hd P t c) := bts_bm _ _ _ ht
theorem hs_lt {P : FL} (hF : FlatOK P) (m c : Nat) : hs' P m c < 2 ^ 31 := Nat.lt_of_lt_of_le (bm_lt _ _) (Nat.pow_le_pow_right (by omega) (by have := hF.1.2.2.2.2.1; omega))
theorem hs_hd {P : FL} {m c : Nat} : ∀ t, t < P 0 2 → bts (hs' P m c) t = true → hd P t c = true := fun t ht h => by
  rw [hs_bts P m c t ht, Bool.and_eq_true] at h
  exact h.2
theorem m_near0 {P : FL} {s tc vc : AR} (hF : FlatOK P) (hs : ∀ k, k < 7 → s k = nI (P 0 k)) (htc : ∀ t, t < P 0 2 → tc t = nI (P 1 t)) (hvc : ∀ t, t < P 0 2 → vc t = nI (P 3 t)) {m c : Nat} (hc : c < P 0 0 * P 0 1) {post : Int32 → Prop} (h : post (tI (nr P m c))) : wpX11_nearest s tc vc (nI (hs' P m c)) (nI c) (-1 : Int32) post := by
  refine m_nearest hF hs htc hvc (hs_lt hF m c) hc hs_hd (vs := fun _ => true) (Or.inl ⟨rfl, fun _ => rfl⟩) ?_
  rw [nrS_ext (sel' := bts m) (P 0 2) (fun i hi e => by rw [hs_bts P m c i hi, e, Bool.and_true, Bool.and_true])]
  exact h
theorem m_nearV {P : FL} {s tc vc : AR} (hF : FlatOK P) (hs : ∀ k, k < 7 → s k = nI (P 0 k)) (htc : ∀ t, t < P 0 2 → tc t = nI (P 1 t)) (hvc : ∀ t, t < P 0 2 → vc t = nI (P 3 t)) {m c v : Nat} (hv : v < 4) (hc : c < P 0 0 * P 0 1) {post : Int32 → Prop} (h : post (tI (nr P (m &&& vmk P v) c))) : wpX11_nearest s tc vc (nI (hs' P m c)) (nI c) (nI v) post := by
  refine m_nearest hF hs htc hvc (hs_lt hF m c) hc hs_hd (vs := fun t => decide (P 3 t = v)) (Or.inr ⟨v, hv, rfl, fun _ => rfl⟩) ?_
  have e : nrS P (fun t => bts (hs' P m c) t && decide (P 3 t = v)) c (P 0 2) = nr P (m &&& vmk P v) c := by
    unfold nr
    refine nrS_ext (P 0 2) (fun i hi e => ?_)
    show (bts (hs' P m c) i && decide (P 3 i = v)) = _
    rw [hs_bts P m c i hi, e, Bool.and_true, bts_and]
    rw [show bts (vmk P v) i = decide (P 3 i = v) from bts_bm _ _ _ hi]
  rw [e]
  exact h
theorem m_goJ {P : FL} {s tc rg vc fl kd mi row sM : AR} (hF : FlatOK P) (hG : GRep P s tc rg vc fl kd mi) {w m n : Nat} {y : Nat → Nat} (hw : w < P 0 3) (hm : m < 2 ^ P 0 2) (hx : WRep row (w * 6) (tnW y)) (hok : WOK P n y) (hn : n < 2 ^ 30) (hout : y 3 = 0) {post : Int32 → AR → AR → Prop} (hk : ∀ s' row', WRep row' (w * 6) (gW P m (P 5 w) y) → FrW (w * 6) row row' → (∀ j, j ≠ 24 → j ≠ 25 → s' j = sM j) → post (gR P m (P 5 w) y) s' row') : wpX11_hear_J60 sM s tc rg vc kd fl mi row (nI w) (nI m) (nI (w * 6)) post := by
  have fc := hF.cells
  have f5 := hF.1.2.2.2.2.1
  have f6 := hF.1.2.2.2.2.2.1
  have k5 := hF.2.2.1 w hw
  have h32 := p2_le f5
  obtain ⟨hs, htc, hrg, hvc, hfl, hkd, hmi⟩ := hG
  have hok2 := hok
  obtain ⟨o0, o1, o2, o3, o4, o5⟩ := hok
  have hx2 := hx
  obtain ⟨x0, x1, x2, x3, x4, x5⟩ := hx
  have x0 : row (w * 6 + 0) = nI (y 0) := x0
  have x1 : row (w * 6 + 1) = nI (y 1) := x1
  have x2 : row (w * 6 + 2) = nI (y 2) := x2
  have x3 : row (w * 6 + 3) = nI (y 3) := x3
  have x4 : row (w * 6 + 4) = tI (y 4) := x4
  have x5 : row (w * 6 + 5) = nI (y 5 + 1) := x5
  have vw : vp_in (nI w) 8 := vp_in_nI (by omega) (by omega)
  have ix : ∀ j, nI (w * 6) + nI j = nI (w * 6 + j) := fun j => nI_add _ _
  have z0 : nI (w * 6) + (0 : Int32) = nI (w * 6 + 0) := ix 0
  have z2 : nI (w * 6) + (2 : Int32) = nI (w * 6 + 2) := ix 2
  have z3 : nI (w * 6) + (3 : Int32) = nI (w * 6 + 3) := ix 3
  have z4 : nI (w * 6) + (4 : Int32) = nI (w * 6 + 4) := ix 4
  have z5 : nI (w * 6) + (5 : Int32) = nI (w * 6 + 5) := ix 5
  have v0 : vp_in (nI (w * 6 + 0)) 29 := vp_in_nI (by omega) (by omega)
  have v2 : vp_in (nI (w * 6 + 2)) 29 := vp_in_nI (by omega) (by omega)
  have v3 : vp_in (nI (w * 6 + 3)) 29 := vp_in_nI (by omega) (by omega)
  have v4 : vp_in (nI (w * 6 + 4)) 29 := vp_in_nI (by omega) (by omega)
  have v5 : vp_in (nI (w * 6 + 5)) 29 := vp_in_nI (by omega) (by omega)
  have c0 : (nI (w * 6 + 0)).toNatClampNeg = w * 6 + 0 := nI_clamp (by omega)
  have c2 : (nI (w * 6 + 2)).toNatClampNeg = w * 6 + 2 := nI_clamp (by omega)
  have c3 : (nI (w * 6 + 3)).toNatClampNeg = w * 6 + 3 := nI_clamp (by omega)
  have c4 : (nI (w * 6 + 4)).toNatClampNeg = w * 6 + 4 := nI_clamp (by omega)
  have c5 : (nI (w * 6 + 5)).toNatClampNeg = w * 6 + 5 := nI_clamp (by omega)
  have j85 : ¬ (P 5 w = 3 ∧ y 5 % 2 = 0) → wpX11_hear_J85 sM s tc rg vc kd fl mi row (nI w) (nI m) (nI (w * 6)) post := by
    intro n3
    unfold gW gR at hk
    simp only [if_neg n3] at hk
    have j193 : ∀ k, k ≤ P 0 2 → chs P m (P 5 w) (y 0) (y 4) = k + 1 → wpX11_hear_J193 sM s tc rg vc kd fl mi row (nI (w * 6)) (tI k) post := by
      intro k hk5 hch
      rw [hch] at hk
      simp only [if_neg (show ¬ k + 1 = 0 by omega), show k + 1 - 1 = k by omega] at hk
      unfold wpX11_hear_J193
      rw [z0, z2, z3, z4, c0, c2, c3, c4, x0, x2]
      refine ⟨v0, nm_e ⟨v2, nm_e ?_⟩⟩
      refine m_follow hF hs htc hfl hmi o0 o2 hk5 (by rw [pk_un (by omega), pk_us]) (by rw [pk_us]) (fun s' q1 q2 q3 => ?_)
      rw [q1, q2]
      have fr : ∀ j, j ≠ 24 → j ≠ 25 → s' j = sM j := fun j ja jb => by rw [q3 j ja jb, pk_un jb, pk_un ja]
      refine ⟨v3, nm_e ⟨v0, nm_e ⟨v2, nm_e ?_⟩⟩⟩
      rw [show (-1 : Int32) = -nI 1 from rfl, tI_none (by omega)]
      unfold wpX11_hear_J261
      rw [show (-1 : Int32) = -nI 1 from rfl, tI_none (by omega)]
      refine ⟨fun e => ⟨fun z => absurd e z, fun _ => ?_⟩, fun e => ⟨v4, nm_e ⟨fun _ => ?_, fun z => absurd z e⟩⟩⟩
      · subst e
        have hk3 := hk s' (upd (upd (upd row (w * 6 + 3) (nI (hwE P (pcC P (y 0) (y 2) 0) 0))) (w * 6 + 0) (nI (pcC P (y 0) (y 2) 0))) (w * 6 + 2) (nI (pcH P (y 0) (y 2) 0))) ⟨?_, ?_, ?_, ?_, ?_, ?_⟩ (((FrW.rfl.upd (by omega) (by omega)).upd (by omega) (by omega)).upd (by omega) (by omega)) fr
        · rw [if_pos (by omega)] at hk3
          exact hk3
        · rw [pk_un (by omega), pk_us]; rfl
        · rw [pk_un (by omega), pk_un (by omega), pk_un (by omega), x1]; rfl
        · rw [pk_us]; rfl
        · rw [pk_un (by omega), pk_un (by omega), pk_us]; rfl
        · rw [pk_un (by omega), pk_un (by omega), pk_un (by omega), x4]; rfl
        · rw [pk_un (by omega), pk_un (by omega), pk_un (by omega), x5]; rfl
      · have hk3 := hk s' (upd (upd (upd (upd row (w * 6 + 3) (nI (hwE P (pcC P (y 0) (y 2) k) k))) (w * 6 + 0) (nI (pcC P (y 0) (y 2) k))) (w * 6 + 2) (nI (pcH P (y 0) (y 2) k))) (w * 6 + 4) (tI k)) ⟨?_, ?_, ?_, ?_, ?_, ?_⟩ ((((FrW.rfl.upd (by omega) (by omega)).upd (by omega) (by omega)).upd (by omega) (by omega)).upd (by omega) (by omega)) fr
        · obtain ⟨t, rfl⟩ : ∃ t, k = t + 1 := ⟨k - 1, by omega⟩
          rw [if_neg (by omega)] at hk3
          exact hk3
        · rw [pk_un (by omega), pk_un (by omega), pk_us]; rfl
        · rw [pk_un (by omega), pk_un (by omega), pk_un (by omega), pk_un (by omega), x1]; rfl
        · rw [pk_un (by omega), pk_us]; rfl
        · rw [pk_un (by omega), pk_un (by omega), pk_un (by omega), pk_us]; rfl
        · rw [pk_us]
          show tI k = tI (if k = 0 then y 4 else k)
          rw [if_neg e]
        · rw [pk_un (by omega), pk_un (by omega), pk_un (by omega), pk_un (by omega), x5]; rfl
    have j120 : ¬ (P 5 w = 2 ∧ twoB P (fun t => bts m t && hd P t (y 0)) (P 0 2) = true) → wpX11_hear_J120 sM s tc rg vc kd fl mi row (nI w) (nI (w * 6)) (nI (hs' P m (y 0))) post := by
      intro n2
      have jm : ¬ (P 5 w = 1 ∧ y 4 ≠ 0 ∧ nr P (m &&& vmk P (P 3 (y 4 - 1))) (y 0) ≠ 0) → wpX11_hear_J167 sM s tc rg vc kd fl mi row (nI (w * 6)) (nI (hs' P m (y 0))) (-1 : Int32) post := by
        intro n1
        unfold wpX11_hear_J167
        rw [z0, c0, x0]
        refine ⟨fun z => absurd rfl z, fun _ => ⟨v0, m_near0 hF hs htc hvc o0 (j193 _ (nr_le _ _ _) ?_)⟩⟩
        unfold chs
        rw [if_neg n2, if_neg n1]
      unfold wpX11_hear_J120
      rw [nI_clamp (by omega), hkd w hw, z4, z0, c4, c0, x4, x0]
      refine ⟨vw, fun e => jm (fun q => e (by rw [q.1]; rfl)), fun e => ⟨v4, ?_⟩⟩
      have e1 : P 5 w = 1 := (nI_eq (b := 1) (by omega) (by omega)).mp e
      rw [show (-1 : Int32) = -nI 1 from rfl, tI_none (by omega)]
      refine ⟨fun q => jm (fun r => r.2.1 q), fun q => ?_⟩
      obtain ⟨t, ht⟩ : ∃ t, y 4 = t + 1 := ⟨y 4 - 1, by omega⟩
      have g3 := (hF.2.1 t (by omega)).2.2.2.1
      rw [ht] at jm ⊢
      rw [show tI (t + 1) = nI t from rfl, nI_clamp (by omega), hvc t (by omega)]
      refine ⟨v0, v4, vp_in_nI (by omega) (by omega), m_nearV hF hs htc hvc g3 o0 ?_⟩
      have hle := nr_le P (m &&& vmk P (P 3 t)) (y 0)
      by_cases e0 : nr P (m &&& vmk P (P 3 t)) (y 0) = 0
      · rw [e0]
        exact jm (fun r => r.2.2 e0)
      · unfold wpX11_hear_J167
        rw [show (-1 : Int32) = -nI 1 from rfl, tI_none (by omega)]
        refine ⟨fun _ => j193 _ hle ?_, fun z => absurd z e0⟩
        unfold chs
        rw [if_neg n2, ht, if_pos ⟨e1, by omega, e0⟩]
        rfl
    unfold wpX11_hear_J85
    rw [z0, c0, x0, nI_clamp (by omega), hkd w hw]
    refine ⟨v0, m_heardOf hF hs htc hrg (by omega) o0 ⟨vw, fun e => j120 (fun q => e (by rw [q.1]; rfl)), fun e => ?_⟩⟩
    have e2 : P 5 w = 2 := (nI_eq (b := 2) (by omega) (by omega)).mp e
    refine m_hasTwo hF hs hvc (hs_lt hF m (y 0)) ?_
    rw [twoB_congr (sel' := fun t => bts m t && hd P t (y 0)) (P 0 2) (fun i hi => hs_bts P m (y 0) i hi)]
    by_cases e3 : twoB P (fun t => bts m t && hd P t (y 0)) (P 0 2) = true
    · rw [if_pos e3]
      refine ⟨fun z => absurd z (by decide), fun _ => ?_⟩
      have hch : chs P m (P 5 w) (y 0) (y 4) = 0 := by unfold chs; rw [if_pos ⟨e2, e3⟩]
      rw [hch] at hk
      exact hk sM row hx2 FrW.rfl (fun _ _ _ => rfl)
    · rw [if_neg e3]
      exact ⟨fun _ => j120 (fun q => e3 q.2), fun z => absurd rfl z⟩
  unfold wpX11_hear_J60
  rw [nI_clamp (by omega), hkd w hw, z5, c5, x5, show jrem (nI (y 5 + 1)) (2 : Int32) = nI ((y 5 + 1) % 2) from n_rem (d := 2) (by omega) (by omega) (by omega)]
  refine ⟨vw, fun e => j85 (fun q => e (by rw [q.1]; rfl)), fun e => ⟨v5, fun e1 => j85 (fun q => e1 ?_), fun e1 => ?_⟩⟩
  · rw [show (y 5 + 1) % 2 = 1 by omega]; rfl
  · have g1 : P 5 w = 3 := (nI_eq (b := 3) (by omega) (by omega)).mp e
    have g2 : (y 5 + 1) % 2 = 1 := (nI_eq (b := 1) (by omega) (by omega)).mp e1
    have g3 : P 5 w = 3 ∧ y 5 % 2 = 0 := ⟨g1, by omega⟩
    unfold gW gR at hk
    simp only [if_pos g3] at hk
    exact hk sM row hx2 FrW.rfl (fun _ _ _ => rfl)
