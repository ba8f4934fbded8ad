theorem c_fill {arr : AR} {nA : Nat} {x : Int32} {post : AR → Prop} (hn : nA < 2 ^ 31) (h : ∀ a' : AR, (∀ j, j < nA → a' j = x) → (∀ j, nA ≤ j → a' j = arr j) → post a') : wpJ7_fill_53178 arr nA x post := by
  unfold wpJ7_fill_53178
  refine nm_e ?_
  refine loop_0 (fun n i (s : AR) => wpJ7_fill_53178_L5 nA x (Int32.ofNat nA) (fun arr_20 l2_20 => post arr_20) post n s (nI i)) (fun i s => (∀ j, j < i → s j = x) ∧ ∀ j, i ≤ j → s j = arr j) nA arr ⟨fun j hj => by omega, fun j _ => rfl⟩ ?_ ?_
  · intro n s hI
    show wpJ7_fill_53178_L5 nA x (nI nA) (fun arr_20 l2_20 => post arr_20) post (n + 1) s (nI nA)
    unfold wpJ7_fill_53178_L5
    exact ⟨fun _ => h s hI.1 hI.2, fun z => absurd (nI_le (Nat.le_refl _) hn) z⟩
  · intro n i s hi hI hnext
    show wpJ7_fill_53178_L5 nA x (nI nA) (fun arr_20 l2_20 => post arr_20) post (n + 1) s (nI i)
    unfold wpJ7_fill_53178_L5
    refine ⟨fun z => absurd z (nI_ge hi hn), fun _ => ⟨vp_in_nI hi hn, nm_e (nm_r (nI_1 i) (hnext _ ⟨fun j hj => ?_, fun j hj => ?_⟩))⟩⟩
    · rw [nI_clamp (by omega)]
      by_cases e : j = i
      · subst e; rw [pk_us]
      · rw [pk_un e]; exact hI.1 j (by omega)
    · rw [nI_clamp (by omega), pk_un (by omega)]
      exact hI.2 j (by omega)
theorem c_cells {P : FL} {s : AR} (hs : ∀ k, k < 7 → s k = nI (P 0 k)) {post : Int32 → Prop} (h : post (nI (P 0 0 * P 0 1))) : wpX4_cells s post := by
  unfold wpX4_cells
  rw [hs 0 (by omega), hs 1 (by omega), pk_mul]
  exact h
theorem c_listen {P : FL} {sG tc rg vc hA E ds ov ak : AR} (hF : FlatOK P) (hs : ∀ k, k < 7 → sG k = nI (P 0 k)) (htc : ∀ t, t < P 0 2 → tc t = nI (P 1 t)) (hrg : ∀ t, t < P 0 2 → rg t = nI (P 2 t)) (hvc : ∀ t, t < P 0 2 → vc t = nI (P 3 t)) {post : AR → AR → AR → AR → AR → Prop}
    (hk : ∀ hA' E' ds' ov' ak', EarsOK P hA' E' ov' ak' → post hA' E' ds' ov' ak') : wpX1_listen sG hA E ds ov ak tc rg vc post := by
  have f5 := hF.1.2.2.2.2.1
  have fc := hF.cells
  have fv : ∀ t, t < P 0 2 → P 3 t < 4 := fun t ht => (hF.2.1 t ht).2.2.2.1
  unfold wpX1_listen
  refine c_fill (by decide) (fun ov0 h0 _ => ?_)
  refine loop_0 (fun n i (s : AR) => wpX1_listen_L10 sG hA E ds ak tc rg vc _ post n s (nI i)) (fun i s => ∀ v, v < 4 → s v = nI (bm (fun t => decide (P 3 t = v)) i)) (P 0 2) ov0 (fun v hv => h0 v hv) ?_ ?_
  · intro n s hI
    show wpX1_listen_L10 sG hA E ds ak tc rg vc _ post (n + 1) s (nI (P 0 2))
    unfold wpX1_listen_L10
    rw [hs 2 (by omega)]
    refine ⟨fun _ => ?_, fun z => absurd (nI_le (Nat.le_refl _) (by omega)) z⟩
    refine loop_0 (fun n i (a : AR) => wpX1_listen_L43 sG hA E ds s tc rg vc _ post n a (nI i)) (fun i a => ∀ t, t < i → a t = nI (vmk P (P 3 t))) (P 0 2) ak (fun t ht => by omega) ?_ ?_
    · intro n a hI2
      show wpX1_listen_L43 sG hA E ds s tc rg vc _ post (n + 1) a (nI (P 0 2))
      unfold wpX1_listen_L43
      rw [hs 2 (by omega)]
      refine ⟨fun _ => ?_, fun z => absurd (nI_le (Nat.le_refl _) (by omega)) z⟩
      refine c_cells hs ?_
      refine nm_r (e' := nI (P 0 0 * P 0 1)) ?_ ?_
      · rw [show jmin (nI (P 0 0 * P 0 1)) (100 : Int32) = nI (min (P 0 0 * P 0 1) 100) from n_jmin (b := 100) (by omega) (by omega), Nat.min_eq_left fc]
      · refine loop_0 (fun n i (q : AR × AR × AR) => wpX1_listen_L86 sG s a tc rg vc (nI (P 0 0 * P 0 1)) _ post n q.1 q.2.1 q.2.2 (nI i)) (fun i q => (∀ c, c < i → q.1 c = nI (hmk P c)) ∧ ∀ c m, c < i → m < 2 ^ P 0 2 → q.2.1 (m * 100 + c) = tI (nr P m c)) (P 0 0 * P 0 1) (hA, E, ds) ⟨fun c hc => by omega, fun c m hc => by omega⟩ ?_ ?_
        · intro n q hI3
          show wpX1_listen_L86 sG s a tc rg vc (nI (P 0 0 * P 0 1)) _ post (n + 1) q.1 q.2.1 q.2.2 (nI (P 0 0 * P 0 1))
          unfold wpX1_listen_L86
          exact ⟨fun _ => hk _ _ _ _ _ ⟨hI3.1, hI3.2, hI, hI2⟩, fun z => absurd (nI_le (Nat.le_refl _) (by omega)) z⟩
        · intro n i q hi hI3 hnext
          show wpX1_listen_L86 sG s a tc rg vc (nI (P 0 0 * P 0 1)) _ post (n + 1) q.1 q.2.1 q.2.2 (nI i)
          unfold wpX1_listen_L86
          refine ⟨fun z => absurd z (nI_ge hi (by omega)), fun _ => ?_⟩
          refine c_listenAt hF hs htc hrg hi (fun hA' E' ds' g1 g2 g3 g4 => ?_)
          refine nm_r (nI_1 i) (hnext (hA', E', ds') ⟨fun c hc => ?_, fun c m hc hm => ?_⟩)
          · show hA' c = _
            by_cases e : c = i
            · subst e; exact g2
            · rw [g1 c e]; exact hI3.1 c (by omega)
          · show E' (m * 100 + c) = _
            by_cases e : c = i
            · subst e; exact g3 m hm
            · rw [g4 _ (by omega)]; exact hI3.2 c m (by omega) hm
    · intro n i a hi hI2 hnext
      show wpX1_listen_L43 sG hA E ds s tc rg vc _ post (n + 1) a (nI i)
      unfold wpX1_listen_L43
      rw [hs 2 (by omega)]
      have g := fv i hi
      refine ⟨fun z => absurd z (nI_ge hi (by omega)), fun _ => ?_⟩
      rw [nI_clamp (by omega), hvc i hi, nI_clamp (by omega)]
      refine ⟨vp_in_nI (by omega) (by omega), vp_in_nI g (by omega), vp_in_nI (by omega) (by omega), nm_e (nm_r (nI_1 i) (hnext _ (fun t ht => ?_)))⟩
      by_cases e : t = i
      · subst e; rw [pk_us]; exact hI _ g
      · rw [pk_un e]; exact hI2 t (by omega)
  · intro n i s hi hI hnext
    show wpX1_listen_L10 sG hA E ds ak tc rg vc _ post (n + 1) s (nI i)
    unfold wpX1_listen_L10
    rw [hs 2 (by omega)]
    have g := fv i hi
    refine ⟨fun z => absurd z (nI_ge hi (by omega)), fun _ => ?_⟩
    rw [nI_clamp (by omega), hvc i hi, nI_clamp (by omega), show jshl (1 : Int32) (nI i) = nI (2 ^ i) from n_shl (by omega)]
    refine ⟨vp_in_nI (by omega) (by omega), vp_in_nI g (by omega), vp_in_nI g (by omega), nm_e (nm_r (nI_1 i) (hnext _ (fun v hv => ?_)))⟩
    by_cases e : v = P 3 i
    · subst e; rw [pk_us, hI _ g, n_or, bm_or, bm, if_pos (by simp)]
    · rw [pk_un e, hI v hv, bm, if_neg (by simp only [decide_eq_true_eq]; omega), Nat.add_zero]
/-! the questions -/
theorem c_nearestOf {P : FL} {hA E ov ak : AR} (hF : FlatOK P) (hE : EarsOK P hA E ov ak) {m c : Nat} (hm : m < 2 ^ P 0 2) (hc : c < P 0 0 * P 0 1) {post : Int32 → Prop} (h : post (tI (nr P m c))) : wpX1_nearestOf E (nI m) (nI c) post := by
  have fc := hF.cells
  have h32 := p2_le hF.1.2.2.2.2.1
  unfold wpX1_nearestOf
  rw [show nI m * (100 : Int32) + nI c = nI (m * 100 + c) by rw [show nI m * (100 : Int32) = nI (m * 100) from pk_mul m 100, nI_add], nI_clamp (by omega), hE.2.1 c m hc hm]
  exact ⟨vp_in_nI (by omega) (by omega), h⟩
theorem and_lt {a b n : Nat} (h : a < 2 ^ n) : a &&& b < 2 ^ n := Nat.lt_of_le_of_lt Nat.and_le_left h
theorem c_nearestLike {P : FL} {hA E ov ak : AR} (hF : FlatOK P) (hE : EarsOK P hA E ov ak) {t m c : Nat} (ht : t < P 0 2) (hm : m < 2 ^ P 0 2) (hc : c < P 0 0 * P 0 1) {post : Int32 → Prop} (h : post (tI (nr P (m &&& vmk P (P 3 t)) c))) : wpX1_nearestLike E ak (nI t) (nI m) (nI c) post := by
  have fc := hF.cells
  have f5 := hF.1.2.2.2.2.1
  have h32 := p2_le hF.1.2.2.2.2.1
  have hm2 : m &&& vmk P (P 3 t) < 2 ^ P 0 2 := and_lt hm
  unfold wpX1_nearestLike
  rw [nI_clamp (by omega), hE.2.2.2 t ht, n_and, show nI (m &&& vmk P (P 3 t)) * (100 : Int32) + nI c = nI ((m &&& vmk P (P 3 t)) * 100 + c) by rw [show nI (m &&& vmk P (P 3 t)) * (100 : Int32) = nI ((m &&& vmk P (P 3 t)) * 100) from pk_mul _ 100, nI_add], nI_clamp (by omega), hE.2.1 c _ hc hm2]
  exact ⟨vp_in_nI (by omega) (by omega), vp_in_nI (by omega) (by omega), h⟩
/-! two towers of one voice among those that are chosen -/
def anyV (P : FL) (sel : Nat → Bool) (v : Nat) : Nat → Bool
  | 0 => false
  | n + 1 => anyV P sel v n || (sel n && decide (P 3 n = v))
def twoB (P : FL) (sel : Nat → Bool) : Nat → Bool
  | 0 => false
  | n + 1 => twoB P sel n || (sel n && anyV P sel (P 3 n) n)
theorem anyV_iff {P : FL} {sel : Nat → Bool} {v : Nat} : ∀ n, anyV P sel v n = true ↔ ∃ i, i < n ∧ sel i = true ∧ P 3 i = v := by
  intro n
  induction n with
  | zero => simp [anyV]
  | succ n ih =>
    unfold anyV
    rw [Bool.or_eq_true, ih, Bool.and_eq_true, decide_eq_true_eq]
    constructor
    · rintro (⟨i, h1, h2, h3⟩ | ⟨h1, h2⟩)
      · exact ⟨i, by omega, h2, h3⟩
      · exact ⟨n, by omega, h1, h2⟩
    · rintro ⟨i, h1, h2, h3⟩
      by_cases e : i = n
      · subst e; exact Or.inr ⟨h2, h3⟩
      · exact Or.inl ⟨i, by omega, h2, h3⟩
theorem twoB_iff {P : FL} {sel : Nat → Bool} : ∀ n, twoB P sel n = true ↔ ∃ i j, i < j ∧ j < n ∧ sel i = true ∧ sel j = true ∧ P 3 i = P 3 j := by
  intro n
  induction n with
  | zero => simp [twoB]
  | succ n ih =>
    unfold twoB
    rw [Bool.or_eq_true, ih, Bool.and_eq_true, anyV_iff]
    constructor
    · rintro (⟨i, j, h1, h2, h3⟩ | ⟨h1, i, h2, h3, h4⟩)
      · exact ⟨i, j, h1, by omega, h3⟩
      · exact ⟨i, n, h2, by omega, h3, h1, h4⟩
    · rintro ⟨i, j, h1, h2, h3, h4, h5⟩
      by_cases e : j = n
      · subst e; exact Or.inr ⟨h4, i, h1, h3, h5⟩
      · exact Or.inl ⟨i, j, h1, by omega, h3, h4, h5⟩
theorem one_bit : ∀ a, a < 32 → ((a &&& (a - 1)) = 0 ↔ ∀ i, i < 5 → ∀ j, j < 5 → i < j → ¬ (bt1 a i = 1 ∧ bt1 a j = 1)) := by decide +kernel
theorem bt1_and (a b i : Nat) : bt1 (a &&& b) i = 1 ↔ bt1 a i = 1 ∧ bt1 b i = 1 := by
  have e : ∀ x, (bt1 x i = 1 ↔ x.testBit i = true) := fun x => by
    unfold bt1
    rw [Nat.testBit_eq_decide_div_mod_eq]
    simp
  rw [e, e, e, Nat.testBit_and, Bool.and_eq_true]
theorem c_confuse {P : FL} {hA E ov ak : AR} (hF : FlatOK P) (hE : EarsOK P hA E ov ak) {m c : Nat} (hm : m < 2 ^ P 0 2) (hc : c < P 0 0 * P 0 1) {post : Int32 → Prop} (h : post (if twoB P (fun t => bts m t && hd P t c) (P 0 2) = true then 1 else 0)) : wpX1_confuse hA ov (nI m) (nI c) post := by
  have fc := hF.cells
  have f5 := hF.1.2.2.2.2.1
  have h32 := p2_le hF.1.2.2.2.2.1
  have fv : ∀ t, t < P 0 2 → P 3 t < 4 := fun t ht => (hF.2.1 t ht).2.2.2.1
  have hm2 : m &&& hmk P c < 2 ^ P 0 2 := and_lt hm
  unfold wpX1_confuse
  rw [nI_clamp (by omega), hE.1 c hc, n_and]
  refine ⟨vp_in_nI (by omega) (by omega), nm_e ?_⟩
  -- what the mask of a voice says
  have hone : ∀ v, v < 4 → ((m &&& hmk P c &&& vmk P v) &&& ((m &&& hmk P c &&& vmk P v) - 1) = 0 ↔ ¬ ∃ i j, i < j ∧ j < P 0 2 ∧ (bts m i && hd P i c) = true ∧ (bts m j && hd P j c) = true ∧ P 3 i = v ∧ P 3 j = v) := by
    intro v hv
    have hb : ∀ i, i < P 0 2 → (bt1 (m &&& hmk P c &&& vmk P v) i = 1 ↔ (bts m i && hd P i c) = true ∧ P 3 i = v) := by
      intro i hi
      have q1 : bt1 (hmk P c) i = 1 ↔ hd P i c = true := bm_bit (fun t => hd P t c) _ i hi
      have q2 : bt1 (vmk P v) i = 1 ↔ decide (P 3 i = v) = true := bm_bit (fun t => decide (P 3 t = v)) _ i hi
      rw [bt1_and, bt1_and, q1, q2, decide_eq_true_eq, Bool.and_eq_true]
      unfold bts
      rw [decide_eq_true_eq]
    have hlt : m &&& hmk P c &&& vmk P v < 2 ^ P 0 2 := and_lt hm2
    rw [one_bit _ (by omega)]
    constructor
    · rintro q ⟨i, j, h1, h2, h3, h4, h5, h6⟩
      exact q i (by omega) j (by omega) h1 ⟨(hb i (by omega)).mpr ⟨h3, h5⟩, (hb j h2).mpr ⟨h4, h6⟩⟩
    · rintro q i hi j hj hij ⟨h1, h2⟩
      by_cases hj2 : j < P 0 2
      · exact q ⟨i, j, hij, hj2, ((hb i (by omega)).mp h1).1, ((hb j hj2).mp h2).1, ((hb i (by omega)).mp h1).2, ((hb j hj2).mp h2).2⟩
      · rw [bt1_hi hlt (by omega)] at h2; omega
  refine loop_0 (fun n i (_ : Unit) => wpX1_confuse_L12 hA ov (nI (m &&& hmk P c)) _ post n (nI i)) (fun i _ => ∀ v, v < i → ¬ ∃ i j, i < j ∧ j < P 0 2 ∧ (bts m i && hd P i c) = true ∧ (bts m j && hd P j c) = true ∧ P 3 i = v ∧ P 3 j = v) 4 () (fun v hv => by omega) ?_ ?_
  · intro n _ hI
    show wpX1_confuse_L12 hA ov (nI (m &&& hmk P c)) _ post (n + 1) (nI 4)
    unfold wpX1_confuse_L12
    refine ⟨fun _ => ?_, fun z => absurd (nI_le (Nat.le_refl 4) (by omega)) z⟩
    rw [if_neg (fun z => ?_)] at h
    · exact h
    · obtain ⟨i, j, h1, h2, h3, h4, h5⟩ := (twoB_iff _).mp z
      exact hI (P 3 i) (fv i (by omega)) ⟨i, j, h1, h2, h3, h4, rfl, h5.symm⟩
  · intro n v _ hv hI hnext
    show wpX1_confuse_L12 hA ov (nI (m &&& hmk P c)) _ post (n + 1) (nI v)
    unfold wpX1_confuse_L12
    refine ⟨fun z => absurd z (nI_ge hv (by decide)), fun _ => ⟨vp_in_nI hv (by decide), ?_⟩⟩
    rw [nI_clamp (by omega), hE.2.2.1 v hv, n_and]
    refine nm_e ?_
    have hlt : m &&& hmk P c &&& vmk P v < 2 ^ P 0 2 := and_lt hm2
    by_cases e0 : m &&& hmk P c &&& vmk P v = 0
    · rw [e0]
      refine ⟨fun _ => nm_r (nI_1 v) (hnext () (lt_s hI ?_)), fun z => absurd (by decide) z⟩
      exact (hone v hv).mp (by rw [e0]; rfl)
    · rw [show nI (m &&& hmk P c &&& vmk P v) - (1 : Int32) = nI ((m &&& hmk P c &&& vmk P v) - 1) from pk_sub (b := 1) (by omega), n_and]
      have hle : (m &&& hmk P c &&& vmk P v) &&& ((m &&& hmk P c &&& vmk P v) - 1) < 2 ^ P 0 2 := and_lt hlt
      refine ⟨fun z => ?_, fun z => ?_⟩
      · have z1 : (m &&& hmk P c &&& vmk P v) &&& ((m &&& hmk P c &&& vmk P v) - 1) = 0 := (nI_eq (by omega) (by omega)).mp (show _ = nI 0 from z)
        exact nm_r (nI_1 v) (hnext () (lt_s hI ((hone v hv).mp z1)))
      · have z1 : ¬ (m &&& hmk P c &&& vmk P v) &&& ((m &&& hmk P c &&& vmk P v) - 1) = 0 := fun q => z (by rw [q]; rfl)
        rw [if_pos] at h
        · exact h
        · refine (twoB_iff _).mpr ?_
          have q : ∃ i j, i < j ∧ j < P 0 2 ∧ (bts m i && hd P i c) = true ∧ (bts m j && hd P j c) = true ∧ P 3 i = v ∧ P 3 j = v := Classical.byContradiction (fun q => z1 ((hone v hv).mpr q))
          obtain ⟨i, j, h1, h2, h3, h4, h5, h6⟩ := q
          exact ⟨i, j, h1, h2, h3, h4, by rw [h5, h6]⟩
