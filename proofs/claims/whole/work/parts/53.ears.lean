/-! the class's ears: what is heard where, the nearest tower of every set, which towers have a voice -/
def hmk (P : FL) (c : Nat) : Nat := bm (fun t => hd P t c) (P 0 2)
def vmk (P : FL) (v : Nat) : Nat := bm (fun t => decide (P 3 t = v)) (P 0 2)
def EarsOK (P : FL) (hA nr_ ofV alk : AR) : Prop := (∀ c, c < P 0 0 * P 0 1 → hA c = nI (hmk P c)) ∧ (∀ c m, c < P 0 0 * P 0 1 → m < 2 ^ P 0 2 → nr_ (m * 100 + c) = tI (nr P m c)) ∧ (∀ v, v < 4 → ofV v = nI (vmk P v)) ∧ ∀ t, t < P 0 2 → alk t = nI (vmk P (P 3 t))
theorem p2_le {t : Nat} (h : t ≤ 5) : 2 ^ t ≤ 32 := Nat.le_trans (Nat.pow_le_pow_right (by omega) h) (by decide)
theorem p2_le4 {t : Nat} (h : t ≤ 4) : 2 ^ t ≤ 16 := Nat.le_trans (Nat.pow_le_pow_right (by omega) h) (by decide)
/-- the sets whose highest tower is t -/
theorem c_L59 {P : FL} {sG hA ds tc rg E0 : AR} {l3 : Int32} {t c : Nat} (hF : FlatOK P) (ht : t < P 0 2) (hc : c < P 0 0 * P 0 1) (hds : ∀ i, i ≤ t → ds i = dI P i c) {kx : AR → Int32 → Prop} {post : AR → AR → AR → Prop} (E : AR)
    (h0 : ∀ m, m < 2 ^ t → E (m * 100 + c) = tI (nr P m c)) (h1 : ∀ j, j % 100 ≠ c → E j = E0 j)
    (hk : ∀ E' x, (∀ m, m < 2 ^ (t + 1) → E' (m * 100 + c) = tI (nr P m c)) → (∀ j, j % 100 ≠ c → E' j = E0 j) → kx E' x) :
    ∃ nf, wpX1_listenAt_L59 sG hA ds tc rg (nI c) l3 (nI t) (if hd P t c = true then 1 else 0) kx post nf E (0 : Int32) := by
  have f5 := hF.1.2.2.2.2.1
  have fc := hF.cells
  have q4 := p2_le4 (t := t) (by omega)
  refine loop_0 (fun n i (s : AR) => wpX1_listenAt_L59 sG hA ds tc rg (nI c) l3 (nI t) (if hd P t c = true then 1 else 0) kx post n s (nI i)) (fun i s => (∀ m, m < 2 ^ t + i → s (m * 100 + c) = tI (nr P m c)) ∧ ∀ j, j % 100 ≠ c → s j = E0 j) (2 ^ t) E ⟨h0, h1⟩ ?_ ?_
  · intro n s hI
    show wpX1_listenAt_L59 sG hA ds tc rg (nI c) l3 (nI t) (if hd P t c = true then 1 else 0) kx post (n + 1) s (nI (2 ^ t))
    unfold wpX1_listenAt_L59
    refine ⟨fun _ => hk s _ (fun m hm => hI.1 m (by rw [Nat.pow_succ] at hm; omega)) hI.2, fun z => absurd ?_ z⟩
    rw [show jshl (1 : Int32) (nI t) = nI (2 ^ t) from n_shl (by omega)]
    exact nI_le (Nat.le_refl _) (by omega)
  · intro n i s hi hI hnext
    show wpX1_listenAt_L59 sG hA ds tc rg (nI c) l3 (nI t) (if hd P t c = true then 1 else 0) kx post (n + 1) s (nI i)
    unfold wpX1_listenAt_L59
    rw [show jshl (1 : Int32) (nI t) = nI (2 ^ t) from n_shl (by omega)]
    refine ⟨fun z => absurd z (nI_ge hi (by omega)), fun _ => ?_⟩
    have e1 : nI i * (100 : Int32) + nI c = nI (i * 100 + c) := by rw [show nI i * (100 : Int32) = nI (i * 100) from pk_mul i 100, nI_add]
    have e2 : (nI i + nI (2 ^ t)) * (100 : Int32) + nI c = nI ((i + 2 ^ t) * 100 + c) := by rw [nI_add, show nI (i + 2 ^ t) * (100 : Int32) = nI ((i + 2 ^ t) * 100) from pk_mul (i + 2 ^ t) 100, nI_add]
    have hv : s (i * 100 + c) = tI (nr P i c) := hI.1 i (by omega)
    have hle := nr_le P i c
    rw [e1, nI_clamp (by omega), hv]
    refine ⟨vp_in_nI (by omega) (by omega), nm_e ?_⟩
    have fin : ∀ k : Nat, k ≤ 5 → k = nr P (i + 2 ^ t) c → ∀ x, x = tI k → wpX1_listenAt_J144 sG hA s ds tc rg (nI c) l3 (nI t) (if hd P t c = true then 1 else 0) (nI i) (nI ((i + 2 ^ t) * 100 + c)) x (fun b0 b1 => wpX1_listenAt_L59 sG hA ds tc rg (nI c) l3 (nI t) (if hd P t c = true then 1 else 0) kx post n b0 b1) kx post := by
      intro k hk5 hk x hx
      unfold wpX1_listenAt_J144
      subst hx
      rw [(tI_byte (k := k) (by omega)).1, nI_clamp (by omega)]
      refine ⟨vp_in_nI (by omega) (by omega), nm_e (nm_r (nI_1 i) (hnext _ ⟨fun m hm => ?_, fun j hj => ?_⟩))⟩
      · by_cases e : m = i + 2 ^ t
        · subst e; rw [pk_us, hk]
        · rw [pk_un (by omega)]; exact hI.1 m (by omega)
      · rw [pk_un (fun z => hj (by rw [z]; omega))]; exact hI.2 j hj
    have hnt := nr_top (c := c) ht (r := i) (by omega)
    have hJ : ∀ (b : Int32) (k : Nat), k ≤ 5 → k = nr P (i + 2 ^ t) c → ((b = 0 → tI k = tI (nr P i c)) ∧ (b ≠ 0 → k = t + 1)) → wpX1_listenAt_J114 sG hA s ds tc rg (nI c) l3 (nI t) (if hd P t c = true then 1 else 0) (nI i) (tI (nr P i c)) b (fun b0 b1 => wpX1_listenAt_L59 sG hA ds tc rg (nI c) l3 (nI t) (if hd P t c = true then 1 else 0) kx post n b0 b1) kx post := by
      intro b k hk5 hk hb
      unfold wpX1_listenAt_J114
      rw [show jshl (1 : Int32) (nI t) = nI (2 ^ t) from n_shl (by omega), e2]
      refine ⟨fun z => fin k hk5 hk _ (hb.1 z).symm, fun z => fin k hk5 hk _ ?_⟩
      rw [hb.2 z]
      rfl
    by_cases eh : hd P t c = true
    · rw [if_pos eh]
      simp only [if_pos eh] at hJ
      refine ⟨fun z => absurd z (by decide), fun _ => ?_⟩
      rw [eh] at hnt
      simp only [true_and] at hnt
      by_cases e0 : nr P i c = 0
      · refine ⟨fun _ => hJ 1 (t + 1) (by omega) (by rw [hnt, if_pos (Or.inl e0)]) ⟨fun z => absurd z (by decide), fun _ => rfl⟩, fun z => absurd ?_ z⟩
        rw [e0]; decide
      · refine ⟨fun z => absurd z (fun z => e0 (by have := tI_neg (k := nr P i c) (by omega); rw [show (0 : Int32) = nI 0 from rfl, this] at z; exact z)), fun _ => ⟨vp_in_nI (by omega) (by omega), ?_, ?_⟩⟩
        · rw [tI_in (by omega) (by omega) (by omega)]; trivial
        · rw [tI_cl (by omega) (by omega), nI_clamp (by omega), hds t (Nat.le_refl _)]
          by_cases elt : nr P i c - 1 ≤ t
          · rw [hds _ elt]
            refine ⟨fun z => hJ 0 (nr P i c) (by omega) ?_ ⟨fun _ => rfl, fun z => absurd rfl z⟩, fun z => hJ 1 (t + 1) (by omega) ?_ ⟨fun z => absurd z (by decide), fun _ => rfl⟩⟩
            · rw [hnt, if_neg (fun q => q.elim (fun q => e0 q) (fun q => absurd z (Int32.not_le.mpr q)))]
            · rw [hnt, if_pos (Or.inr (Int32.not_le.mp z))]
          · exact absurd (nr_low (P := P) (c := c) (m := i) (n := t) (by omega) (by omega) ▸ nrS_le P (bts i) c t) (by omega)
    · rw [if_neg eh]
      simp only [if_neg eh] at hJ
      refine ⟨fun _ => hJ 0 (nr P i c) (by omega) ?_ ⟨fun _ => rfl, fun z => absurd rfl z⟩, fun z => absurd rfl z⟩
      rw [hnt, if_neg (fun q => eh q.1)]
theorem c_listenAt {P : FL} {sG tc rg : AR} (hF : FlatOK P) (hs : ∀ k, k < 7 → sG k = nI (P 0 k)) (htc : ∀ t, t < P 0 2 → tc t = nI (P 1 t)) (hrg : ∀ t, t < P 0 2 → rg t = nI (P 2 t)) {c : Nat} (hc : c < P 0 0 * P 0 1) {hA E ds : AR} {post : AR → AR → AR → Prop}
    (hk : ∀ hA' E' ds', (∀ j, j ≠ c → hA' j = hA j) → hA' c = nI (hmk P c) → (∀ m, m < 2 ^ P 0 2 → E' (m * 100 + c) = tI (nr P m c)) → (∀ j, j % 100 ≠ c → E' j = E j) → post hA' E' ds') : wpX1_listenAt sG hA E ds tc rg (nI c) post := by
  have f5 := hF.1.2.2.2.2.1
  have fc := hF.cells
  unfold wpX1_listenAt
  rw [nI_clamp (by omega)]
  refine ⟨vp_in_nI (by omega) (by omega), nm_e ?_⟩
  refine loop_0 (fun n i (s : AR × AR × Int32) => wpX1_listenAt_L12 sG hA tc rg (nI c) (fun E_nearest_158 E_distances_158 l3_158 l4_158 => vp_in (nI c) 100 ∧ ∀ E_heardAt_165 : AR, E_heardAt_165 = upd hA c (vp_nar .byte (jbyte l3_158)) → post E_heardAt_165 E_nearest_158 E_distances_158) post n s.1 s.2.1 s.2.2 (nI i)) (fun i s => (∀ m, m < 2 ^ i → s.1 (m * 100 + c) = tI (nr P m c)) ∧ (∀ j, j % 100 ≠ c → s.1 j = E j) ∧ (∀ j, j < i → s.2.1 j = dI P j c) ∧ s.2.2 = nI (bm (fun t => hd P t c) i)) (P 0 2) (_, ds, _) ⟨?_, ?_, ?_, rfl⟩ ?_ ?_
  · intro m hm
    have hm0 : m = 0 := by simpa using hm
    subst hm0
    rw [nr_zero, Nat.zero_mul, Nat.zero_add]
    show upd E c (vp_nar .byte (-1 : Int32)) c = _
    rw [pk_us]
    exact n_bytem.2
  · intro j hj
    show upd E c _ j = _
    rw [pk_un (fun z => hj (by rw [z]; omega))]
  · intro j hj; omega
  · intro n s hI
    obtain ⟨i1, i2, i3, i4⟩ := hI
    show wpX1_listenAt_L12 sG hA tc rg (nI c) _ post (n + 1) s.1 s.2.1 s.2.2 (nI (P 0 2))
    unfold wpX1_listenAt_L12
    rw [hs 2 (by omega)]
    refine ⟨fun _ => ⟨vp_in_nI (by omega) (by omega), nm_e (hk _ _ _ (fun j hj => pk_un hj) ?_ i1 i2)⟩, fun z => absurd (nI_le (Nat.le_refl _) (by omega)) z⟩
    rw [pk_us, i4]
    have hb := bm_lt (fun t => hd P t c) (P 0 2)
    have h32 := p2_le f5
    rw [(n_byte (bm (fun t => hd P t c) (P 0 2)) (by omega)).1, (n_byte (bm (fun t => hd P t c) (P 0 2)) (by omega)).2]
    rfl
  · intro n i s hi hI hnext
    obtain ⟨i1, i2, i3, i4⟩ := hI
    show wpX1_listenAt_L12 sG hA tc rg (nI c) _ post (n + 1) s.1 s.2.1 s.2.2 (nI i)
    unfold wpX1_listenAt_L12
    rw [hs 2 (by omega)]
    refine ⟨fun z => absurd z (nI_ge hi (by omega)), fun _ => ?_⟩
    refine c_dist hs hF hi hc (htc i hi) ?_
    rw [nI_clamp (by omega)]
    refine ⟨vp_in_nI (by omega) (by omega), nm_e ?_⟩
    refine c_carries hs hF hi hc (htc i hi) (hrg i hi) ?_
    have hd9 : ∀ j, j ≤ i → upd s.2.1 i (dI P i c) j = dI P j c := by
      intro j hj
      by_cases e : j = i
      · subst e; rw [pk_us]
      · rw [pk_un e]; exact i3 j (by omega)
    refine ⟨fun z => ?_, fun z => ?_⟩
    · have eh : ¬ hd P i c = true := fun q => by rw [if_pos q] at z; exact absurd z (by decide)
      refine c_L59 (E0 := E) hF hi hc hd9 s.1 i1 i2 (fun E' x h1 h2 => ?_)
      refine nm_r (nI_1 i) (hnext (E', _, _) ⟨h1, h2, fun j hj => hd9 j (by omega), ?_⟩)
      show s.2.2 = _
      rw [i4, bm, if_neg (by exact eh), Nat.add_zero]
    · have eh : hd P i c = true := by
        by_cases q : hd P i c = true
        · exact q
        · rw [if_neg q] at z; exact absurd rfl z
      refine nm_e ?_
      refine c_L59 (E0 := E) hF hi hc hd9 s.1 i1 i2 (fun E' x h1 h2 => ?_)
      refine nm_r (nI_1 i) (hnext (E', _, _) ⟨h1, h2, fun j hj => hd9 j (by omega), ?_⟩)
      show s.2.2 ||| jshl (1 : Int32) (nI i) = _
      rw [i4, show jshl (1 : Int32) (nI i) = nI (2 ^ i) from n_shl (by omega), n_or, bm_or, bm, if_pos (by exact eh)]
