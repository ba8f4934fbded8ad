/-! the reference: what is heard, what is nearest, two of one voice -/
theorem bts_f {m i : Nat} (z : ¬ nI (bt1 m i) = (1 : Int32)) : bts m i = false := by
  unfold bts
  exact decide_eq_false (fun q => z (by rw [q]; rfl))
theorem bts_t {m i : Nat} (z : nI (bt1 m i) = (1 : Int32)) : bts m i = true := by
  unfold bts
  have := bt1_lt m i
  exact decide_eq_true ((nI_eq (b := 1) (by omega) (by omega)).mp z)
theorem m_heardOf {P : FL} {s tc rg : AR} (hF : FlatOK P) (hs : ∀ k, k < 7 → s k = nI (P 0 k)) (htc : ∀ t, t < P 0 2 → tc t = nI (P 1 t)) (hrg : ∀ t, t < P 0 2 → rg t = nI (P 2 t)) {m c : Nat} (hm : m < 2 ^ 31) (hc : c < P 0 0 * P 0 1) {post : Int32 → Prop} (h : post (nI (bm (fun t => bts m t && hd P t c) (P 0 2)))) : wpX11_heardOf s tc rg (nI m) (nI c) post := by
  have f5 := hF.1.2.2.2.2.1
  unfold wpX11_heardOf
  refine loop_0 (fun n i (q : Int32) => wpX11_heardOf_L5 s tc rg (nI m) (nI c) (fun l3_53 l4_53 => post l3_53) post n q (nI i)) (fun i q => q = nI (bm (fun t => bts m t && hd P t c) i)) (P 0 2) (nI 0) rfl ?_ ?_
  · intro n q hI
    show wpX11_heardOf_L5 s tc rg (nI m) (nI c) (fun l3_53 l4_53 => post l3_53) post (n + 1) q (nI (P 0 2))
    unfold wpX11_heardOf_L5
    rw [hs 2 (by omega), hI]
    exact ⟨fun _ => h, fun z => absurd (nI_le (Nat.le_refl _) (by omega)) z⟩
  · intro n i q hi hI hnext
    show wpX11_heardOf_L5 s tc rg (nI m) (nI c) (fun l3_53 l4_53 => post l3_53) post (n + 1) q (nI i)
    unfold wpX11_heardOf_L5 wpX11_heardOf_J45
    rw [hs 2 (by omega), hI, show jshr (nI m) (nI i) &&& (1 : Int32) = nI (bt1 m i) from n_bit hm (by omega)]
    refine ⟨fun z => absurd z (nI_ge hi (by omega)), fun _ => ?_⟩
    have e0 : (bts m i && hd P i c) = false → nI (bm (fun t => bts m t && hd P t c) i) ||| (0 : Int32) = nI (bm (fun t => bts m t && hd P t c) (i + 1)) := by
      intro e
      rw [show (0 : Int32) = nI 0 from rfl, n_or, Nat.or_zero, bm, e]
      rfl
    have e1 : (bts m i && hd P i c) = true → nI (bm (fun t => bts m t && hd P t c) i) ||| (jshl (1 : Int32) (nI i)) = nI (bm (fun t => bts m t && hd P t c) (i + 1)) := by
      intro e
      rw [show jshl (1 : Int32) (nI i) = nI (2 ^ i) from n_shl (by omega), n_or, bm_or, bm, if_pos e]
    refine ⟨fun z => nm_r (e0 (by rw [bts_f z]; rfl)) (nm_r (nI_1 i) (hnext _ rfl)), fun z => m_isHeard hs hF hi hc (htc i hi) (hrg i hi) ?_⟩
    by_cases eh : hd P i c = true
    · rw [if_pos eh]
      exact ⟨fun q => absurd q (by decide), fun _ => nm_r (e1 (by rw [bts_t z, eh]; rfl)) (nm_r (nI_1 i) (hnext _ rfl))⟩
    · have eh2 : hd P i c = false := by simpa using eh
      rw [if_neg eh]
      exact ⟨fun _ => nm_r (e0 (by rw [eh2, Bool.and_false])) (nm_r (nI_1 i) (hnext _ rfl)), fun q => absurd rfl q⟩
theorem m_near_J {P : FL} {s tc vc : AR} (hF : FlatOK P) (hs : ∀ k, k < 7 → s k = nI (P 0 k)) (htc : ∀ t, t < P 0 2 → tc t = nI (P 1 t)) {c i : Nat} (hc : c < P 0 0 * P 0 1) (hi : i < P 0 2) {sel : Nat → Bool} (h1 : sel i = true) (h2 : hd P i c = true) {l1 l3 : Int32} {kb kx : Int32 → Int32 → Prop} {post : Int32 → Prop} (hk : kb (tI (nrS P sel c (i + 1))) (nI (i + 1))) : wpX11_nearest_J43 s tc vc l1 (nI c) l3 (tI (nrS P sel c i)) (nI i) kb kx post := by
  have f5 := hF.1.2.2.2.2.1
  have hle := nrS_le P sel c i
  rw [nrS] at hk
  unfold wpX11_nearest_J43
  rw [show (-1 : Int32) = -nI 1 from rfl, tI_none (by omega)]
  refine ⟨fun z => nm_r (nI_1 i) ?_, fun z => ?_⟩
  · rw [if_pos ⟨h1, h2, Or.inl z⟩] at hk
    exact hk
  · refine m_far hs hF hi hc (htc i hi) ?_
    rw [show tI (nrS P sel c i) = nI (nrS P sel c i - 1) by cases e : nrS P sel c i with | zero => exact absurd e z | succ k => rfl]
    refine m_far hs hF (by omega) hc (htc _ (by omega)) ?_
    refine ⟨fun q => nm_r (nI_1 i) ?_, fun q => nm_r (nI_1 i) ?_⟩
    · rw [if_neg (fun w => w.2.2.elim z (fun w => absurd q (Int32.not_le.mpr w)))] at hk
      rw [show nI (nrS P sel c i - 1) = tI (nrS P sel c i) by cases e : nrS P sel c i with | zero => exact absurd e z | succ k => rfl]
      exact hk
    · rw [if_pos ⟨h1, h2, Or.inr (Int32.not_le.mp q)⟩] at hk
      exact hk
theorem m_nearest {P : FL} {s tc vc : AR} (hF : FlatOK P) (hs : ∀ k, k < 7 → s k = nI (P 0 k)) (htc : ∀ t, t < P 0 2 → tc t = nI (P 1 t)) (hvc : ∀ t, t < P 0 2 → vc t = nI (P 3 t)) {m c : Nat} (hm : m < 2 ^ 31) (hc : c < P 0 0 * P 0 1) (hh : ∀ t, t < P 0 2 → bts m t = true → hd P t c = true) {x3 : Int32} {vs : Nat → Bool} (hx : (x3 = -nI 1 ∧ ∀ t, vs t = true) ∨ (∃ v, v < 4 ∧ x3 = nI v ∧ ∀ t, vs t = decide (P 3 t = v))) {post : Int32 → Prop} (h : post (tI (nrS P (fun t => bts m t && vs t) c (P 0 2)))) : wpX11_nearest s tc vc (nI m) (nI c) x3 post := by
  have f5 := hF.1.2.2.2.2.1
  unfold wpX11_nearest
  refine loop_0 (fun n i (q : Int32) => wpX11_nearest_L6 s tc vc (nI m) (nI c) x3 (fun l4_76 l5_76 => post l4_76) post n q (nI i)) (fun i q => q = tI (nrS P (fun t => bts m t && vs t) c i)) (P 0 2) (-nI 1) rfl ?_ ?_
  · intro n q hI
    show wpX11_nearest_L6 s tc vc (nI m) (nI c) x3 (fun l4_76 l5_76 => post l4_76) post (n + 1) q (nI (P 0 2))
    unfold wpX11_nearest_L6
    rw [hs 2 (by omega), hI]
    exact ⟨fun _ => h, fun z => absurd (nI_le (Nat.le_refl _) (by omega)) z⟩
  · intro n i q hi hI hnext
    show wpX11_nearest_L6 s tc vc (nI m) (nI c) x3 (fun l4_76 l5_76 => post l4_76) post (n + 1) q (nI i)
    unfold wpX11_nearest_L6
    rw [hs 2 (by omega), hI, show jshr (nI m) (nI i) &&& (1 : Int32) = nI (bt1 m i) from n_bit hm (by omega)]
    refine ⟨fun z => absurd z (nI_ge hi (by omega)), fun _ => ?_⟩
    have e0 : (bts m i && vs i) = false → nrS P (fun t => bts m t && vs t) c (i + 1) = nrS P (fun t => bts m t && vs t) c i := by
      intro e
      rw [nrS, if_neg (fun w => absurd (w.1.symm.trans e) (by decide))]
    have keep : (bts m i && vs i) = false → ∀ l5_70 : Int32, l5_70 = (nI i + (1 : Int32)) → wpX11_nearest_L6 s tc vc (nI m) (nI c) x3 (fun l4_76 l5_76 => post l4_76) post n (tI (nrS P (fun t => bts m t && vs t) c i)) l5_70 := fun e => nm_r (nI_1 i) (hnext _ (by rw [e0 e]))
    refine ⟨fun z => keep (by rw [bts_f z]; rfl), fun z => ⟨fun y => ?_, fun y => ⟨vp_in_nI (by omega) (by omega), ?_⟩⟩⟩
    · rcases hx with ⟨-, hv⟩ | ⟨v, hv4, hv, -⟩
      · refine m_near_J (sel := fun t => bts m t && vs t) hF hs htc hc hi (by simp only [bts_t z, hv i, Bool.and_self]) (hh i hi (bts_t z)) (hnext _ rfl)
      · rw [hv, show (-1 : Int32) = -nI 1 from rfl, n_eqneg (by omega) (by omega) (by omega)] at y
        exact y.elim
    · rcases hx with ⟨hv, -⟩ | ⟨v, hv4, hv, hw⟩
      · exact absurd hv y
      · have g := (hF.2.1 i hi).2.2.2.1
        rw [nI_clamp (by omega), hvc i hi, hv, nI_eq (by omega) (by omega)]
        rw [hv] at hnext keep
        refine ⟨fun e => keep (by rw [hw i, decide_eq_false e, Bool.and_false]), fun e => ?_⟩
        exact m_near_J (sel := fun t => bts m t && vs t) hF hs htc hc hi (by simp only [bts_t z, hw i, decide_eq_true e, Bool.and_self]) (hh i hi (bts_t z)) (hnext _ rfl)
theorem or_bit4 : ∀ x, x < 16 → ∀ v, v < 4 → (x ||| 2 ^ v) < 16 ∧ ∀ u, u < 4 → (bt1 (x ||| 2 ^ v) u = 1 ↔ bt1 x u = 1 ∨ v = u) := by decide +kernel
theorem m_hasTwo {P : FL} {s vc : AR} (hF : FlatOK P) (hs : ∀ k, k < 7 → s k = nI (P 0 k)) (hvc : ∀ t, t < P 0 2 → vc t = nI (P 3 t)) {m : Nat} (hm : m < 2 ^ 31) {post : Int32 → Prop} (h : post (if twoB P (bts m) (P 0 2) = true then 1 else 0)) : wpX11_hasTwo s vc (nI m) post := by
  have f5 := hF.1.2.2.2.2.1
  unfold wpX11_hasTwo
  refine loop_0 (fun n i (q : Int32) => wpX11_hasTwo_L4 s vc (nI m) (fun l2_58 l3_58 => post (0 : Int32)) post n q (nI i)) (fun i q => twoB P (bts m) i = false ∧ ∃ x, q = nI x ∧ x < 16 ∧ ∀ v, v < 4 → (bt1 x v = 1 ↔ anyV P (bts m) v i = true)) (P 0 2) (nI 0) ⟨rfl, 0, rfl, by omega, fun v hv => ?_⟩ ?_ ?_
  · rw [bt1_hi (a := 0) (n := 0) (by decide) (by omega)]
    simp [anyV]
  · intro n q hI
    show wpX11_hasTwo_L4 s vc (nI m) (fun l2_58 l3_58 => post (0 : Int32)) post (n + 1) q (nI (P 0 2))
    unfold wpX11_hasTwo_L4
    rw [hs 2 (by omega)]
    refine ⟨fun _ => ?_, fun z => absurd (nI_le (Nat.le_refl _) (by omega)) z⟩
    rw [hI.1] at h
    exact h
  · intro n i q hi hI hnext
    show wpX11_hasTwo_L4 s vc (nI m) (fun l2_58 l3_58 => post (0 : Int32)) post (n + 1) q (nI i)
    obtain ⟨h0, x, rfl, hx, hb⟩ := hI
    have g := (hF.2.1 i hi).2.2.2.1
    unfold wpX11_hasTwo_L4
    rw [hs 2 (by omega), show jshr (nI m) (nI i) &&& (1 : Int32) = nI (bt1 m i) from n_bit hm (by omega), nI_clamp (by omega), hvc i hi, show jshr (nI x) (nI (P 3 i)) &&& (1 : Int32) = nI (bt1 x (P 3 i)) from n_bit (by omega) (by omega)]
    have hb2 := bt1_lt m i
    refine ⟨fun z => absurd z (nI_ge hi (by omega)), fun _ => ⟨fun z => ⟨vp_in_nI (by omega) (by omega), fun y => ⟨vp_in_nI (by omega) (by omega), ?_⟩, fun y => ?_⟩, fun z => ?_⟩⟩
    · have z1 : bt1 m i = 1 := by
        have : ¬ bt1 m i = 0 := fun e => z (by rw [e]; rfl)
        omega
      have z2 : bts m i = true := decide_eq_true z1
      have y1 : ¬ bt1 x (P 3 i) = 1 := fun e => y (by rw [e]; rfl)
      have y2 : anyV P (bts m) (P 3 i) i = false := by
        have := fun e => y1 ((hb _ g).mpr e)
        simpa using this
      have o := or_bit4 x hx (P 3 i) g
      refine nm_r (e' := nI (x ||| 2 ^ P 3 i)) ?_ (nm_r (nI_1 i) (hnext _ ⟨?_, _, rfl, o.1, fun v hv => ?_⟩))
      · rw [show jshl (1 : Int32) (nI (P 3 i)) = nI (2 ^ P 3 i) from n_shl (by omega), n_or]
      · rw [twoB, h0, y2, Bool.and_false]; rfl
      · rw [o.2 v hv, hb v hv, anyV, Bool.or_eq_true, z2, Bool.true_and, decide_eq_true_eq]
    · have z1 : bt1 m i = 1 := by
        have : ¬ bt1 m i = 0 := fun e => z (by rw [e]; rfl)
        omega
      have z2 : bts m i = true := decide_eq_true z1
      have b3 := bt1_lt x (P 3 i)
      have y1 : bt1 x (P 3 i) = 1 := (nI_eq (b := 1) (by omega) (by omega)).mp y
      have y2 : anyV P (bts m) (P 3 i) i = true := (hb _ g).mp y1
      rw [if_pos] at h
      · exact h
      · obtain ⟨j, h1, h2, h3⟩ := (anyV_iff _).mp y2
        exact (twoB_iff _).mpr ⟨j, i, h1, hi, h2, z2, h3⟩
    · have z1 : bt1 m i = 0 := (nI_eq (b := 0) (by omega) (by omega)).mp z
      have z2 : bts m i = false := by unfold bts; rw [z1]; rfl
      refine nm_r (nI_1 i) (hnext _ ⟨?_, x, rfl, hx, fun v hv => ?_⟩)
      · rw [twoB, h0, z2]; rfl
      · rw [hb v hv, anyV, z2, Bool.false_and, Bool.or_false]
/-! between two numbers -/
theorem m_in1 {v b : Nat} (hv : v < b) (hb : b < 2 ^ 31) {post : Int32 → Prop} (h : post (1 : Int32)) : wpX11_isIn (nI v) (0 : Int32) (nI b - (1 : Int32)) post := by
  unfold wpX11_isIn
  rw [show nI b - (1 : Int32) = nI (b - 1) from pk_sub (b := 1) (by omega), show (0 : Int32) = nI 0 from rfl, nI_ltI (by omega) (by omega), nI_ltI (by omega) (by omega)]
  exact ⟨fun z => by omega, fun _ => ⟨fun z => by omega, fun _ => h⟩⟩
theorem m_in0 {v b : Nat} (hv : b ≤ v) (hv2 : v < 2 ^ 31) {post : Int32 → Prop} (h : post (0 : Int32)) : wpX11_isIn (nI v) (0 : Int32) (nI b - (1 : Int32)) post := by
  unfold wpX11_isIn
  refine ⟨fun _ => h, fun _ => ⟨fun _ => h, fun z => absurd ?_ z⟩⟩
  cases b with
  | zero =>
    rw [show nI 0 - (1 : Int32) = -nI 1 from rfl, n_neglt (by omega) (by omega) (by omega)]
    trivial
  | succ b =>
    rw [show nI (b + 1) - (1 : Int32) = nI b from pk_sub (a := b + 1) (b := 1) (by omega), nI_ltI (by omega) (by omega)]
    omega
theorem m_inN {y : Int32} {post : Int32 → Prop} (h : post (0 : Int32)) : wpX11_isIn (-nI 1) (0 : Int32) y post := by
  unfold wpX11_isIn
  exact ⟨fun _ => h, fun z => absurd (by decide) z⟩
/-! a step and a pace of the reference -/
theorem n_addm {a : Nat} (h : 1 ≤ a) : nI a + (-1 : Int32) = nI (a - 1) := by
  rw [show (-1 : Int32) = -nI 1 from rfl, ← Int32.sub_eq_add_neg]
  exact pk_sub h
theorem n0m : nI 0 + (-1 : Int32) = -nI 1 := by
  rw [show (-1 : Int32) = -nI 1 from rfl, show nI 0 = (0 : Int32) from rfl, Int32.zero_add]
theorem m_step {P : FL} {s : AR} (hF : FlatOK P) (hs : ∀ k, k < 7 → s k = nI (P 0 k)) {sM : AR} {c d : Nat} (hc : c < P 0 0 * P 0 1) (hd4 : d < 4) (h24 : sM 24 = nI c) {post : AR → Prop} (hk : ∀ s', s' 24 = nI (stp P c d) → (∀ j, j ≠ 24 → s' j = sM j) → post s') : wpX11_step sM s (nI d) post := by
  have fc := hF.cells
  have f1 := hF.1.1
  have f2 := hF.1.2.1
  have f3 := hF.1.2.2.1
  have f4 := hF.1.2.2.2.1
  have q1 := Nat.div_add_mod c (P 0 0)
  have q2 := div_lt_h hc
  have q3 := Nat.mod_lt c (show 0 < P 0 0 by omega)
  have z2 : ¬ P 0 0 = 0 := by omega
  have same : stp P c d = c → post sM := fun e => hk sM (by rw [e]; exact h24) (fun _ _ => rfl)
  have moved : ∀ x y : Nat, P 0 0 * y + x = stp P c d → post (upd sM 24 (nI (P 0 0) * nI y + nI x)) := fun x y e => hk _ (by rw [pk_us, pk_mul, nI_add, e]) (fun j hj => by rw [pk_un hj])
  unfold wpX11_step wpX11_step_J30 wpX11_step_J61
  rw [h24, hs 0 (by omega), hs 1 (by omega), n_rem (by omega) (by omega) (by omega), pk_div (by omega) (by omega) (by omega)]
  generalize hx : c % P 0 0 = x at *
  generalize hy : c / P 0 0 = y at *
  have nz : ¬ nI (P 0 0) = (0 : Int32) := nI_ne0 (by omega) (by omega)
  have hcx : P 0 0 * y + x = c := q1
  unfold stp at same moved
  rw [hx, hy] at same moved
  rcases (show d = 0 ∨ d = 1 ∨ d = 2 ∨ d = 3 by omega) with rfl | rfl | rfl | rfl
  · simp only [if_true] at same moved
    refine ⟨nz, fun _ => ⟨fun _ => nm_r (e' := nI x) (by exact nI_add x 0) ⟨nz, fun _ => ⟨fun z => absurd rfl z, fun _ => ?_⟩, fun z => absurd z (by decide)⟩, fun z => absurd z (by decide)⟩, fun z => absurd z (by decide)⟩
    by_cases e : y = 0
    · rw [e]
      refine nm_r n0m (m_in1 q3 (by omega) ⟨fun z => absurd z (by decide), fun _ => m_inN ⟨fun _ => same (by rw [if_neg (by omega)]), fun z => absurd rfl z⟩⟩)
    · have h4 : P 0 0 * 1 ≤ P 0 0 * y := Nat.mul_le_mul_left _ (by omega)
      have h5 : P 0 0 * (y - 1) + P 0 0 = P 0 0 * y := by rw [← Nat.mul_succ]; congr 1; omega
      refine nm_r (e' := nI (y - 1)) (n_addm (a := y) (by omega)) (m_in1 q3 (by omega) ⟨fun z => absurd z (by decide), fun _ => m_in1 (by omega) (by omega) ⟨fun z => absurd z (by decide), fun _ => nm_e (moved x (y - 1) (by rw [if_pos (by omega)]; omega))⟩⟩)
  · simp only [if_neg (show ¬ (1 : Nat) = 0 by omega), if_true] at same moved
    refine ⟨nz, fun z => absurd rfl z, fun _ => nm_r (nI_1 x) ⟨nz, fun _ => ⟨fun _ => nm_r (e' := nI y) (by exact nI_add y 0) ?_, fun z => absurd z (by decide)⟩, fun z => absurd z (by decide)⟩⟩
    by_cases e : x < P 0 0 - 1
    · refine m_in1 (by omega) (by omega) ⟨fun z => absurd z (by decide), fun _ => m_in1 q2 (by omega) ⟨fun z => absurd z (by decide), fun _ => nm_e (moved (x + 1) y (by rw [if_pos e]; omega))⟩⟩
    · exact m_in0 (by omega) (by omega) ⟨fun _ => same (by rw [if_neg e]), fun z => absurd rfl z⟩
  · simp only [if_neg (show ¬ (2 : Nat) = 0 by omega), if_neg (show ¬ (2 : Nat) = 1 by omega), if_true] at same moved
    refine ⟨nz, fun _ => ⟨fun _ => nm_r (e' := nI x) (by exact nI_add x 0) ⟨nz, fun z => absurd rfl z, fun _ => nm_r (nI_1 y) ?_⟩, fun z => absurd z (by decide)⟩, fun z => absurd z (by decide)⟩
    by_cases e : y < P 0 1 - 1
    · have h5 : P 0 0 * (y + 1) = P 0 0 * y + P 0 0 := Nat.mul_succ _ _
      refine m_in1 q3 (by omega) ⟨fun z => absurd z (by decide), fun _ => m_in1 (by omega) (by omega) ⟨fun z => absurd z (by decide), fun _ => nm_e (moved x (y + 1) (by rw [if_pos e]; omega))⟩⟩
    · exact m_in1 q3 (by omega) ⟨fun z => absurd z (by decide), fun _ => m_in0 (by omega) (by omega) ⟨fun _ => same (by rw [if_neg e]), fun z => absurd rfl z⟩⟩
  · simp only [if_neg (show ¬ (3 : Nat) = 0 by omega), if_neg (show ¬ (3 : Nat) = 1 by omega), if_neg (show ¬ (3 : Nat) = 2 by omega)] at same moved
    refine ⟨nz, fun _ => ⟨fun z => absurd rfl z, fun _ => ?_⟩, fun z => absurd z (by decide)⟩
    by_cases e : x = 0
    · rw [e]
      refine nm_r n0m ⟨nz, fun _ => ⟨fun _ => nm_r (e' := nI y) (by exact nI_add y 0) (m_inN ⟨fun _ => same (by rw [if_neg (by omega)]), fun z => absurd rfl z⟩), fun z => absurd z (by decide)⟩, fun z => absurd z (by decide)⟩
    · refine nm_r (e' := nI (x - 1)) (n_addm (a := x) (by omega)) ⟨nz, fun _ => ⟨fun _ => nm_r (e' := nI y) (by exact nI_add y 0) (m_in1 (by omega) (by omega) ⟨fun z => absurd z (by decide), fun _ => m_in1 q2 (by omega) ⟨fun z => absurd z (by decide), fun _ => nm_e (moved (x - 1) y (by rw [if_pos (by omega)]; omega))⟩⟩), fun z => absurd z (by decide)⟩, fun z => absurd z (by decide)⟩
/-- how one is after a pace to a tower -/
def hwE (P : FL) (c k : Nat) : Nat := if atT P c k = true then (if P 4 (k - 1) = 0 then 1 else 2) else 0
theorem m_follow {P : FL} {s tc fl mi : AR} (hF : FlatOK P) (hs : ∀ k, k < 7 → s k = nI (P 0 k)) (htc : ∀ t, t < P 0 2 → tc t = nI (P 1 t)) (hfl : ∀ t, t < P 0 2 → fl t = nI (P 4 t)) (hmi : ∀ c, c < 100 → mi c = nI (P 6 c)) {sM : AR} {c h k : Nat} (hc : c < P 0 0 * P 0 1) (hh : h < 4) (hk5 : k ≤ P 0 2) (h24 : sM 24 = nI c) (h25 : sM 25 = nI h) {post : Int32 → AR → Prop} (hk : ∀ s', s' 24 = nI (pcC P c h k) → s' 25 = nI (pcH P c h k) → (∀ j, j ≠ 24 → j ≠ 25 → s' j = sM j) → post (nI (hwE P (pcC P c h k) k)) s') : wpX11_follow sM s tc fl mi (tI k) post := by
  have fc := hF.cells
  have f5 := hF.1.2.2.2.2.1
  have fm := hF.2.2.2 c
  unfold wpX11_follow
  rw [show (-1 : Int32) = -nI 1 from rfl, tI_none (by omega)]
  refine ⟨fun z => ?_, fun z => ?_⟩
  · obtain ⟨t, rfl⟩ : ∃ t, k = t + 1 := ⟨k - 1, by omega⟩
    have ht : t < P 0 2 := by omega
    obtain ⟨g1, -, -, -, g4⟩ := hF.2.1 t ht
    rw [show tI (t + 1) = nI t from rfl, nI_clamp (by omega), hfl t ht]
    have hcl := pcC_lt hF hc h (t + 1)
    have j180 : ∀ (l2 : Int32), l2 = nI (if P 4 t = 0 then 1 else 2) → ¬ P 1 t = c → ∀ t1 : Int32, t1 = nI (dirT P c t) → wpX11_follow_J180 sM s tc fl mi (nI t) l2 t1 post := by
      intro l2 hl2 hne t1 ht1
      subst ht1
      unfold wpX11_follow_J180
      refine m_step hF hs hc (dirT_lt _ _ _) (by rw [pk_un (by omega)]; exact h24) (fun s' q1 q2 => ⟨vp_in_nI (by omega) (by omega), ?_⟩)
      rw [q1, nI_clamp (by omega), htc t ht]
      have e1 : pcC P c h (t + 1) = stp P c (dirT P c t) := by unfold pcC; rw [if_neg (by omega), if_neg (by simpa using hne)]; rfl
      have e2 : pcH P c h (t + 1) = dirT P c t := by unfold pcH; rw [if_neg (by omega), if_neg (by simpa using hne)]; rfl
      have hs' := hk s' (by rw [e1]; exact q1) (by rw [e2, q2 25 (by omega), pk_us]) (fun j ja jb => by rw [q2 j ja, pk_un jb])
      rw [e1] at hs' hcl
      rw [nI_eq (by omega) (by omega)]
      unfold hwE atT at hs'
      refine ⟨fun e => ?_, fun e => ?_⟩
      · rw [if_neg (by simp only [decide_eq_true_eq]; exact fun w => e w.2.symm)] at hs'
        exact hs'
      · rw [if_pos (by simp only [decide_eq_true_eq]; exact ⟨by omega, e.symm⟩)] at hs'
        rw [hl2]
        exact hs'
    have j144 : ∀ (l2 : Int32), l2 = nI (if P 4 t = 0 then 1 else 2) → ¬ P 1 t = c → ∀ t1 : Int32, t1 = nI (dir0 P c t) → wpX11_follow_J144 sM s tc fl mi (nI t) l2 t1 post := by
      intro l2 hl2 hne t1 ht1
      have hd0 := dir0_lt P c t
      subst ht1
      unfold wpX11_follow_J144
      rw [h24, hs 6 (by omega), nI_clamp (by omega), hmi c (by omega)]
      refine ⟨fun e => j180 l2 hl2 hne _ ?_, fun e => ⟨vp_in_nI (by omega) (by omega), fun e1 => j180 l2 hl2 hne _ ?_, fun e1 => j180 l2 hl2 hne _ ?_⟩⟩
      · unfold dirT; rw [if_neg (fun w => e (by rw [w.1]; rfl))]
      · have e2 : P 6 c = 0 := (nI_eq (b := 0) (by omega) (by omega)).mp e1
        unfold dirT; rw [if_neg (fun w => w.2 e2)]
      · have f9 := hF.1.2.2.2.2.2.2.2.2
        have e3 : P 0 6 = 0 := (nI_eq (b := 0) (by omega) (by omega)).mp e
        have e2 : ¬ P 6 c = 0 := fun w => e1 (by rw [w]; rfl)
        unfold dirT; rw [if_pos ⟨e3, e2⟩]
        rw [show nI (dir0 P c t) + (2 : Int32) = nI (dir0 P c t + 2) from nI_add _ 2]
        exact n_rem (d := 4) (by omega) (by omega) (by omega)
    have j41 : ∀ (l2 : Int32), l2 = nI (if P 4 t = 0 then 1 else 2) → wpX11_follow_J41 sM s tc fl mi (nI t) l2 post := by
      intro l2 hl2
      have f1 := hF.1.1
      have f2 := hF.1.2.1
      unfold wpX11_follow_J41
      rw [h24, hs 0 (by omega), nI_clamp (by omega), htc t ht, nI_eq (by omega) (by omega), n_rem (by omega) (by omega) (by omega), n_rem (by omega) (by omega) (by omega), pk_div (by omega) (by omega) (by omega), pk_div (by omega) (by omega) (by omega)]
      have nz : ¬ nI (P 0 0) = (0 : Int32) := nI_ne0 (by omega) (by omega)
      have vi : vp_in (nI t) 10 := vp_in_nI (by omega) (by omega)
      refine ⟨vi, fun e => ⟨vi, nz, nz, nm_e ⟨vi, nz, nz, nm_e ?_⟩⟩, fun e => ?_⟩
      · have hne : ¬ P 1 t = c := fun w => e w.symm
        have j := j144 l2 hl2 hne
        unfold dir0 at j
        refine ⟨fun e => ⟨fun e1 => ?_, fun e1 => ?_⟩, fun e => ⟨fun e1 => ?_, fun e1 => ?_⟩⟩
        · exact j 0 (by rw [if_pos e, if_pos (show nI (P 1 t / P 0 0) - nI (c / P 0 0) ≤ nI 0 from e1)]; rfl)
        · exact j 2 (by rw [if_pos e, if_neg (show ¬ nI (P 1 t / P 0 0) - nI (c / P 0 0) ≤ nI 0 from e1)]; rfl)
        · exact j 3 (by rw [if_neg e, if_pos (show nI (P 1 t % P 0 0) - nI (c % P 0 0) ≤ nI 0 from e1)]; rfl)
        · exact j 1 (by rw [if_neg e, if_neg (show ¬ nI (P 1 t % P 0 0) - nI (c % P 0 0) ≤ nI 0 from e1)]; rfl)
      · have e1 : pcC P c h (t + 1) = c := by unfold pcC; rw [if_neg (by omega), if_pos (by simpa using e.symm)]
        have e2 : pcH P c h (t + 1) = h := by unfold pcH; rw [if_neg (by omega), if_pos (by simpa using e.symm)]
        have hs' := hk sM (by rw [e1]; exact h24) (by rw [e2]; exact h25) (fun _ _ _ => rfl)
        rw [e1] at hs'
        unfold hwE atT at hs'
        rw [if_pos (by simp only [decide_eq_true_eq]; exact ⟨by omega, by simpa using e.symm⟩)] at hs'
        rw [hl2]
        exact hs'
    refine ⟨vp_in_nI (by omega) (by omega), fun e => j41 _ ?_, fun e => j41 _ ?_⟩
    · rw [if_pos ((nI_eq (b := 0) (by omega) (by omega)).mp e)]; rfl
    · rw [if_neg (fun w => e (by rw [w]; rfl))]; rfl
  · subst z
    rw [h25]
    refine m_step hF hs hc hh h24 (fun s' q1 q2 => nm_r (e' := nI ((h + 1) % 4)) ?_ ?_)
    · rw [q2 25 (by omega), h25, show nI h + (1 : Int32) = nI (h + 1) from nI_1 h]
      exact n_rem (d := 4) (by omega) (by omega) (by omega)
    · refine hk _ ?_ ?_ (fun j ja jb => by rw [pk_un jb, q2 j ja])
      · rw [pk_un (by omega), q1]; rfl
      · rw [pk_us]; rfl
