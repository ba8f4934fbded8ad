theorem aSteps_n (tx : Nat → Nat) (N T f p w : Nat) : aSteps tx N T (f + 1) p w = if wdB tx N p 17 = true then bnd (aSet tx N T 501 (tE tx N p) 0) (fun q => bnd (aSteps tx N T f q.1 w) (fun r => .inr (r.1, q.2 :: r.2)))
    else if wdB tx N p 18 = true then (if w = 3 then .inl (2, tB tx N p) else bnd (aNum tx N (tE tx N p) 1 21) (fun k => if sgB tx N (tE tx N (tE tx N p)) 123 = true then bnd (aSteps tx N T f (tE tx N (tE tx N (tE tx N p))) (w + 1)) (fun r => if sgB tx N r.1 125 = true then bnd (aSteps tx N T f (tE tx N r.1) w) (fun r2 => .inr (r2.1, rep r.2 k ++ r2.2)) else .inl (1, tB tx N r.1)) else .inl (1, tB tx N (tE tx N (tE tx N p)))))
    else .inr (p, []) := by rw [aSteps]
/-! the class's book -/
def BK (l : List Nat) (w : Nat) (bs ts : Nat → Nat) (sB bg tm st : AR) : Prop := sB 5 = nI (min 200 l.length) ∧ sB 3 = nI w ∧ (∀ i, i < w → bg i = nI (bs i) ∧ tm i = nI (ts i)) ∧ ∀ i, i < 200 → i < l.length → st i = nI (gt l i)
theorem BK.full {l y : List Nat} {w : Nat} {bs ts : Nat → Nat} {sB bg tm st : AR} (h : BK l w bs ts sB bg tm st) (hl : 200 ≤ l.length) : BK (l ++ y) w bs ts sB bg tm st := by
  obtain ⟨h1, h2, h3, h4⟩ := h
  refine ⟨?_, h2, h3, fun i hi _ => ?_⟩
  · rw [h1, List.length_append, Nat.min_eq_left hl, Nat.min_eq_left (by omega)]
  · rw [gt_l _ _ _ (by omega)]; exact h4 i hi (by omega)
theorem BK.cut {l y : List Nat} {w : Nat} {bs ts : Nat → Nat} {sB bg tm st : AR} (h : BK (l ++ y) w bs ts sB bg tm st) (hl : 200 ≤ l.length) : BK l w bs ts sB bg tm st := by
  obtain ⟨h1, h2, h3, h4⟩ := h
  rw [List.length_append] at h1 h4
  refine ⟨?_, h2, h3, fun i hi _ => ?_⟩
  · rw [h1, Nat.min_eq_left hl, Nat.min_eq_left (by omega)]
  · have := h4 i hi (by omega)
    rw [gt_l _ _ _ (by omega)] at this; exact this
theorem c_put {l : List Nat} {w : Nat} {bs ts : Nat → Nat} {sB bg tm st : AR} (h : BK l w bs ts sB bg tm st) {m : Nat} {post : AR → AR → Prop} (hk : ∀ sB' st', BK (l ++ [m]) w bs ts sB' bg tm st' → post sB' st') : wpX5_put sB st (nI m) post := by
  have hb := h
  obtain ⟨h1, h2, h3, h4⟩ := h
  unfold wpX5_put
  have hm : min 200 l.length ≤ 200 := Nat.min_le_left _ _
  rw [h1, show ((200 : Int32) ≤ nI (min 200 l.length)) = (200 ≤ min 200 l.length) from propext (nI_leI (a := 200) (by omega) (by omega))]
  refine ⟨fun e => hk _ _ (hb.full (by omega)), fun e => ?_⟩
  have e2 : min 200 l.length = l.length := Nat.min_eq_right (by omega)
  rw [e2, nI_clamp (by omega)]
  refine ⟨vp_in_nI (by omega) (by omega), nm_e (nm_r (nI_1 _) (hk _ _ ⟨?_, ?_, h3, fun i hi hi2 => ?_⟩))⟩
  · rw [pk_us, List.length_append]; congr 1; show l.length + 1 = min 200 (l.length + 1); omega
  · rw [pk_un (by omega)]; exact h2
  · rw [List.length_append] at hi2
    have hi2 : i < l.length + 1 := hi2
    by_cases e3 : i = l.length
    · subst e3; rw [pk_us]
      have := gt_r l [m] 0
      rw [Nat.add_zero] at this
      rw [this]; rfl
    · rw [pk_un e3, gt_l _ _ _ (by omega)]; exact h4 i hi (by omega)
theorem c_close {tx : Nat → Nat} {N r w k : Nat} {t s sB bg tm st : AR} (ht : TxC tx N t) (hr : r ≤ N) (hR : RdC tx N r s) {l0 l : List Nat} {bs ts : Nat → Nat} (hb : BK (l0 ++ l) (w + 1) bs ts sB bg tm st) (hw : w < 3) (hbs : bs w = min 200 l0.length) (hts : ts w = k) (hk1 : 1 ≤ k) (hk2 : k ≤ 20) {post : AR → AR → AR → Prop}
    (h : ∀ sB' s' st', RdC tx N (tE tx N r) s' → s' 9 = s 9 → BK (l0 ++ rep l k) w bs ts sB' bg tm st' → post sB' s' st') : wpX5_closeAgain sB s bg tm st t post := by
  obtain ⟨b1, b2, b3, b4⟩ := hb
  obtain ⟨bw1, bw2⟩ := b3 w (by omega)
  unfold wpX5_closeAgain
  refine c_advance ht (tE_le hr) hR.1 hR.2.1 (fun s1 r1 _ r3 => ?_)
  refine nm_r (e' := nI w) (by rw [b2]; exact pk_sub (a := w + 1) (b := 1) (by omega)) ?_
  rw [nI_clamp (by omega), bw1, b1, hbs]
  refine ⟨vp_in_nI (by omega) (by omega), nm_e (nm_e ?_)⟩
  have hm1 : min 200 l0.length ≤ 200 := Nat.min_le_left _ _
  have hm2 : min 200 (l0 ++ l).length ≤ 200 := Nat.min_le_left _ _
  have hlen : (l0 ++ l).length = l0.length + l.length := List.length_append
  have B0 : BK (l0 ++ rep l (1 + 0)) w bs ts (upd sB 3 (nI w)) bg tm st := ⟨by rw [pk_un (by omega)]; exact b1, by rw [pk_us], fun i hi => b3 i (by omega), b4⟩
  refine loop_0 (fun n i (q : AR × AR) => wpX5_closeAgain_L34 s1 bg tm t (nI (min 200 l0.length)) (nI (min 200 (l0 ++ l).length)) _ post n q.1 q.2 (nI (1 + i))) (fun i q => BK (l0 ++ rep l (1 + i)) w bs ts q.1 bg tm q.2) (k - 1) (upd sB 3 (nI w), st) B0 ?_ ?_
  · rintro n ⟨sB1, st1⟩ hI
    have hI : BK (l0 ++ rep l (1 + (k - 1))) w bs ts sB1 bg tm st1 := hI
    rw [show 1 + (k - 1) = k by omega] at hI
    show wpX5_closeAgain_L34 s1 bg tm t (nI (min 200 l0.length)) (nI (min 200 (l0 ++ l).length)) _ post (n + 1) sB1 st1 (nI (1 + (k - 1)))
    unfold wpX5_closeAgain_L34
    rw [hI.2.1, nI_clamp (by omega), bw2, hts, show 1 + (k - 1) = k by omega]
    exact ⟨vp_in_nI (by omega) (by omega), fun _ => h _ _ _ r1 (r3 9 (by omega)) hI, fun z => absurd (nI_le (Nat.le_refl k) (by omega)) z⟩
  · rintro n i ⟨sB1, st1⟩ hi hI hnext
    have hI : BK (l0 ++ rep l (1 + i)) w bs ts sB1 bg tm st1 := hI
    show wpX5_closeAgain_L34 s1 bg tm t (nI (min 200 l0.length)) (nI (min 200 (l0 ++ l).length)) _ post (n + 1) sB1 st1 (nI (1 + i))
    unfold wpX5_closeAgain_L34
    rw [hI.2.1, nI_clamp (by omega), bw2, hts]
    refine ⟨vp_in_nI (by omega) (by omega), fun z => absurd ((nI_leI (by omega) (by omega)).mp z) (by omega), fun _ => ?_⟩
    have hrl : (rep l (1 + i)).length = (1 + i) * l.length := rep_len l (1 + i)
    have hge : l.length ≤ (1 + i) * l.length := by
      have := Nat.mul_le_mul_right l.length (show 1 ≤ 1 + i by omega)
      rw [Nat.one_mul] at this
      exact this
    have fin : ∀ sB2 st2, BK (l0 ++ rep l (1 + (i + 1))) w bs ts sB2 bg tm st2 → ∀ l3_73 : Int32, l3_73 = nI (1 + i) + (1 : Int32) → wpX5_closeAgain_L34 s1 bg tm t (nI (min 200 l0.length)) (nI (min 200 (l0 ++ l).length)) (fun sB_79 B_sets_79 l3_79 => post sB_79 s1 B_sets_79) post n sB2 st2 l3_73 := by
      intro sB2 st2 hB2
      exact nm_r (nI_1 _) (hnext (sB2, st2) hB2)
    have erep : l0 ++ rep l (1 + (i + 1)) = (l0 ++ rep l (1 + i)) ++ l := by
      rw [show 1 + (i + 1) = (1 + i) + 1 by omega, List.append_assoc]; rfl
    by_cases ef : 200 ≤ l0.length + l.length
    · have hX : 200 ≤ (l0 ++ rep l (1 + i)).length := by rw [List.length_append]; omega
      refine loop_0 (fun n c (q : AR × AR) => wpX5_closeAgain_L50 s1 bg tm t (nI (min 200 l0.length)) (nI (min 200 (l0 ++ l).length)) (nI (1 + i)) _ post n q.1 q.2 (nI (min 200 l0.length + c))) (fun c q => BK (l0 ++ rep l (1 + i)) w bs ts q.1 bg tm q.2) (200 - min 200 l0.length) (sB1, st1) hI ?_ ?_
      · rintro n2 ⟨sB2, st2⟩ hJ
        have hJ : BK (l0 ++ rep l (1 + i)) w bs ts sB2 bg tm st2 := hJ
        show wpX5_closeAgain_L50 s1 bg tm t (nI (min 200 l0.length)) (nI (min 200 (l0 ++ l).length)) (nI (1 + i)) _ post (n2 + 1) sB2 st2 (nI (min 200 l0.length + (200 - min 200 l0.length)))
        unfold wpX5_closeAgain_L50
        refine ⟨fun _ => fin sB2 st2 ?_, fun z => absurd (nI_le (by omega) (by omega)) z⟩
        rw [erep]
        exact hJ.full hX
      · rintro n2 c ⟨sB2, st2⟩ hc hJ hnext2
        have hJ : BK (l0 ++ rep l (1 + i)) w bs ts sB2 bg tm st2 := hJ
        show wpX5_closeAgain_L50 s1 bg tm t (nI (min 200 l0.length)) (nI (min 200 (l0 ++ l).length)) (nI (1 + i)) _ post (n2 + 1) sB2 st2 (nI (min 200 l0.length + c))
        unfold wpX5_closeAgain_L50
        rw [nI_clamp (by omega), hJ.2.2.2 _ (by omega) (by omega)]
        refine ⟨fun z => absurd ((nI_leI (by omega) (by omega)).mp z) (by omega), fun _ => ⟨vp_in_nI (by omega) (by omega), c_put hJ (fun sB3 st3 hK => nm_r (nI_1 _) (hnext2 (sB3, st3) (hK.cut hX)))⟩⟩
    · have e1 : min 200 l0.length = l0.length := Nat.min_eq_right (by omega)
      have e2 : min 200 (l0 ++ l).length = l0.length + l.length := by rw [hlen]; exact Nat.min_eq_right (by omega)
      rw [e1, e2]
      rw [e1, e2] at fin
      refine loop_0 (fun n c (q : AR × AR) => wpX5_closeAgain_L50 s1 bg tm t (nI l0.length) (nI (l0.length + l.length)) (nI (1 + i)) _ post n q.1 q.2 (nI (l0.length + c))) (fun c q => ∃ l' l'', l = l' ++ l'' ∧ l'.length = c ∧ BK ((l0 ++ rep l (1 + i)) ++ l') w bs ts q.1 bg tm q.2) l.length (sB1, st1) ⟨[], l, rfl, rfl, by rw [List.append_nil]; exact hI⟩ ?_ ?_
      · rintro n2 ⟨sB2, st2⟩ ⟨l', l'', q1, q2, q3⟩
        have q3 : BK ((l0 ++ rep l (1 + i)) ++ l') w bs ts sB2 bg tm st2 := q3
        show wpX5_closeAgain_L50 s1 bg tm t (nI l0.length) (nI (l0.length + l.length)) (nI (1 + i)) _ post (n2 + 1) sB2 st2 (nI (l0.length + l.length))
        unfold wpX5_closeAgain_L50
        refine ⟨fun _ => fin sB2 st2 ?_, fun z => absurd (nI_le (Nat.le_refl _) (by omega)) z⟩
        have hz : l'' = [] := by
          have h5 : l.length = l'.length + l''.length := by rw [q1]; exact List.length_append
          cases l'' with
          | nil => rfl
          | cons a b =>
            exfalso
            have h5 : l.length = l'.length + (b.length + 1) := h5
            omega
        subst hz
        rw [List.append_nil] at q1
        rw [erep]
        rw [← q1] at q3
        exact q3
      · rintro n2 c ⟨sB2, st2⟩ hc ⟨l', l'', q1, q2, q3⟩ hnext2
        have q3 : BK ((l0 ++ rep l (1 + i)) ++ l') w bs ts sB2 bg tm st2 := q3
        show wpX5_closeAgain_L50 s1 bg tm t (nI l0.length) (nI (l0.length + l.length)) (nI (1 + i)) _ post (n2 + 1) sB2 st2 (nI (l0.length + c))
        unfold wpX5_closeAgain_L50
        have h5 : l.length = l'.length + l''.length := by rw [q1]; exact List.length_append
        cases l'' with
        | nil =>
          exfalso
          have h5 : l.length = l'.length + 0 := h5
          omega
        | cons a l3 =>
          have hX : ((l0 ++ rep l (1 + i)) ++ l').length = l0.length + (1 + i) * l.length + l'.length := by rw [List.length_append, List.length_append, hrl]
          have eg : gt ((l0 ++ rep l (1 + i)) ++ l') (l0.length + c) = a := by
            rw [List.append_assoc, gt_r, gt_l _ _ _ (by rw [hrl]; omega)]
            have := rep_gt l (1 + i) 0 c (by omega) hc
            rw [Nat.zero_mul, Nat.zero_add] at this
            rw [this, q1, ← q2]
            have := gt_r l' (a :: l3) 0
            rw [Nat.add_zero] at this
            rw [this]; rfl
          rw [nI_clamp (by omega), q3.2.2.2 _ (by omega) (by omega), eg]
          refine ⟨fun z => absurd ((nI_leI (by omega) (by omega)).mp z) (by omega), fun _ => ⟨vp_in_nI (by omega) (by omega), c_put q3 (fun sB3 st3 hK => nm_r (nI_1 _) (hnext2 (sB3, st3) ⟨l' ++ [a], l3, ?_, ?_, ?_⟩))⟩⟩
          · rw [q1, List.append_assoc]; rfl
          · rw [List.length_append, q2]; rfl
          · rw [← List.append_assoc]; exact hK
/-- the class reads steps -/
abbrev LpC (T : Nat) (t : AR) (post : Int32 → AR → AR → AR → AR → AR → Prop) (n : Nat) (sB sR bg tm st : AR) (i : Nat) : Prop := wpX5_read_L12 t (nI T) (fun sB_45 sR_45 B_begins_45 B_times_45 B_sets_45 l2_45 => wpX5_read_J45 sB_45 sR_45 B_begins_45 B_times_45 B_sets_45 t post) post n sB sR bg tm st (nI i)
theorem c_steps {tx : Nat → Nat} {N T : Nat} {t : AR} (ht : TxC tx N t) (hT : T ≤ 5) {post : Int32 → AR → AR → AR → AR → AR → Prop} : ∀ f p w (l0 : List Nat) (bs ts : Nat → Nat) (sB sR bg tm st : AR) (i : Nat), p ≤ N → N < p + f → w ≤ 3 → RdC tx N p sR → sR 9 = -1 → BK l0 w bs ts sB bg tm st → i ≤ p →
    (∀ q l, aSteps tx N T f p w = .inr (q, l) → ∀ sB' sR' bg' tm' st' i', RdC tx N q sR' → sR' 9 = -1 → BK (l0 ++ l) w bs ts sB' bg' tm' st' → i' ≤ q → ∀ n, N + 1 ≤ n + q → LpC T t post n sB' sR' bg' tm' st' i') →
    (∀ k b, aSteps tx N T f p w = .inl (k, b) → ∀ sB' sR' bg' tm' st', sR' 8 = nI k → sR' 9 = nI b → post 0 sB' sR' bg' tm' st') →
    ∀ n, N + 1 ≤ n + p → LpC T t post n sB sR bg tm st i := by
  have hN := ht.1
  intro f
  induction f with
  | zero => intro p w l0 bs ts sB sR bg tm st i hp hf; omega
  | succ f ih =>
    intro p w l0 bs ts sB sR bg tm st i hp hf hw hR h9 hB hi hg hb n hn
    rw [aSteps_n] at hg hb
    obtain ⟨n, rfl⟩ : ∃ k, n = k + 1 := ⟨n - 1, by omega⟩
    have hK := tK_le tx N p
    have r7 : sR 7 = nI (tK tx N p) := hR.2.2.2.2.1
    have e7 : (sR 7 = 0) = (tK tx N p = 0) := by rw [r7]; exact propext (nI_eq (b := 0) (by omega) (by omega))
    have go : tK tx N p ≠ 0 → wpX5_readPart sB sR bg tm st t (nI T) (fun r31 sB_31 sR_31 B_begins_31 B_times_31 B_sets_31 => ((¬ r31 = 0 → ∀ l2_39 : Int32, l2_39 = (nI i + (1 : Int32)) → wpX5_read_L12 t (nI T) (fun sB_45 sR_45 B_begins_45 B_times_45 B_sets_45 l2_45 => wpX5_read_J45 sB_45 sR_45 B_begins_45 B_times_45 B_sets_45 t post) post n sB_31 sR_31 B_begins_31 B_times_31 B_sets_31 l2_39) ∧ (r31 = 0 → post (0 : Int32) sB_31 sR_31 B_begins_31 B_times_31 B_sets_31))) → LpC T t post (n + 1) sB sR bg tm st i := by
      intro hk0 h
      show wpX5_read_L12 t (nI T) _ post (n + 1) sB sR bg tm st (nI i)
      unfold wpX5_read_L12
      rw [e7]
      exact ⟨fun z => absurd ((nI_ltI (a := 500) (by omega) (by omega)).mp z) (by omega), fun _ => ⟨fun z => absurd z hk0, fun _ => h⟩⟩
    have wd := fun k (hk : k < 50) {post : Int32 → Prop} => c_isWord ht hp hR hk (post := post)
    by_cases e17 : wdB tx N p 17 = true
    · simp only [if_pos e17] at hg hb
      have hk1 := wd_k e17
      have hl := tE_lt (tx := tx) (N := N) (p := p) (by omega)
      refine go (by omega) ?_
      unfold wpX5_readPart
      refine wd 17 (by omega) ?_
      rw [if_pos e17]
      refine ⟨fun z => absurd z (by decide), fun _ => ?_⟩
      refine c_readRing ht hp hT hR (fun q m es hq s' q1 q2 => ?_) (fun k b es s' q1 q2 => ⟨nrw0, fun z => absurd rfl z, fun _ => hb k b (by rw [es]; rfl) _ _ _ _ _ q1 q2⟩)
      have a1 := aSet_ok hT 501 (tE tx N p) 0 (by omega) (tE_le hp) (by omega) (q, m) es
      have a1' : tE tx N p < q := a1.1
      rw [es] at hg hb
      refine c_put hB (fun sB' st' hB' => ⟨nrw1, fun _ => nm_r (nI_1 i) (ih q w (l0 ++ [m]) bs ts sB' s' bg tm st' (i + 1) hq (by omega) hw q1 (q2.trans h9) hB' (by omega) (fun q' l' er => ?_) (fun k b er => ?_) n (by omega)), fun z => absurd z (by decide)⟩)
      · have := hg q' (m :: l') (by show bnd (aSteps tx N T f q w) _ = _; rw [er]; rfl)
        rw [List.append_assoc]
        exact this
      · exact hb k b (by show bnd (aSteps tx N T f q w) _ = _; rw [er]; rfl)
    simp only [if_neg e17] at hg hb
    by_cases e18 : wdB tx N p 18 = true
    · simp only [if_pos e18] at hg hb
      have hk1 := wd_k e18
      have hl := tE_lt (tx := tx) (N := N) (p := p) (by omega)
      refine go (by omega) ?_
      unfold wpX5_readPart
      refine wd 17 (by omega) ?_
      rw [if_neg e17]
      refine ⟨fun _ => wd 18 (by omega) ?_, fun z => absurd rfl z⟩
      rw [if_pos e18]
      refine ⟨fun z => absurd z (by decide), fun _ => ?_⟩
      unfold wpX5_openAgain
      have hB2 := hB
      obtain ⟨b1, b2, b3, b4⟩ := hB2
      rw [b2, show (nI w < (3 : Int32)) = (w < 3) from propext (nI_ltI (b := 3) (by omega) (by omega))]
      refine ⟨fun e3 => ?_, fun e3 => c_refuse hR (k := 2) rfl ⟨nrw0, nrw0, fun z => absurd rfl z, fun _ => hb 2 _ (if_pos (by omega)) _ _ _ _ _ cF8 cF9⟩⟩
      have e3' : ¬ w = 3 := by omega
      simp only [if_neg e3'] at hg hb
      refine c_advance ht (tE_le hp) hR.1 hR.2.1 (fun s1 r1 _ r3 => ?_)
      refine c_num ht (tE_le hp) r1 (lo := 1) (hi := 21) (by omega) (by omega) rfl rfl (fun k ek s2 q1 q2 q3 => ?_) (fun k b ek => ⟨fun _ => ⟨nrw0, fun z => absurd rfl z, fun _ => hb k b (by rw [ek]; rfl) _ _ _ _ _ cF8 cF9⟩, fun z => absurd rfl z⟩)
      have ak := aNum_ok ek
      rw [ek] at hg hb
      refine ⟨fun z => absurd z (nI_nem (by omega)), fun _ => ?_⟩
      have l1 := tE_p (tx := tx) (N := N) (p := tE tx N p)
      have l2 := tE_p (tx := tx) (N := N) (p := tE tx N (tE tx N p))
      refine c_passSign ht (tE_le (tE_le hp)) q1 (c := 123) (by omega) rfl (fun es s3 u1 u2 => ⟨fun _ => ?_, fun z => absurd z (by decide)⟩) (fun es => ⟨fun z => absurd rfl z, fun _ => ⟨nrw0, fun z => absurd rfl z, fun _ => hb 1 _ (by show (if sgB tx N (tE tx N (tE tx N p)) 123 = true then _ else _) = _; exact if_neg (by rw [es]; decide)) _ _ _ _ _ cF8 cF9⟩⟩)
      have hg : ∀ q l, bnd (aSteps tx N T f (tE tx N (tE tx N (tE tx N p))) (w + 1)) (fun r => if sgB tx N r.1 125 = true then bnd (aSteps tx N T f (tE tx N r.1) w) (fun r2 => .inr (r2.1, rep r.2 k ++ r2.2)) else .inl (1, tB tx N r.1)) = .inr (q, l) → ∀ sB' sR' bg' tm' st' i', RdC tx N q sR' → sR' 9 = -1 → BK (l0 ++ l) w bs ts sB' bg' tm' st' → i' ≤ q → ∀ n, N + 1 ≤ n + q → LpC T t post n sB' sR' bg' tm' st' i' := fun q l h => hg q l (by show (if sgB tx N (tE tx N (tE tx N p)) 123 = true then _ else _) = _; rw [if_pos es]; exact h)
      have hb : ∀ k' b, bnd (aSteps tx N T f (tE tx N (tE tx N (tE tx N p))) (w + 1)) (fun r => if sgB tx N r.1 125 = true then bnd (aSteps tx N T f (tE tx N r.1) w) (fun r2 => .inr (r2.1, rep r.2 k ++ r2.2)) else .inl (1, tB tx N r.1)) = .inl (k', b) → ∀ sB' sR' bg' tm' st', sR' 8 = nI k' → sR' 9 = nI b → post 0 sB' sR' bg' tm' st' := fun k' b h => hb k' b (by show (if sgB tx N (tE tx N (tE tx N p)) 123 = true then _ else _) = _; rw [if_pos es]; exact h)
      rw [nI_clamp (by omega), b1]
      refine ⟨vp_in_nI e3 (by omega), nm_e ⟨vp_in_nI e3 (by omega), nm_e (nm_r (nI_1 w) ⟨nrw1, fun _ => nm_r (nI_1 i) ?_, fun z => absurd z (by decide)⟩)⟩⟩
      have hB' : BK l0 (w + 1) (fun j => if j = w then min 200 l0.length else bs j) (fun j => if j = w then k else ts j) (upd sB 3 (nI (w + 1))) (upd bg w (nI (min 200 l0.length))) (upd tm w (nI k)) st := by
        refine ⟨by rw [pk_un (by omega)]; exact b1, by rw [pk_us], fun j hj => ?_, b4⟩
        show upd bg w (nI (min 200 l0.length)) j = nI (if j = w then min 200 l0.length else bs j) ∧ upd tm w (nI k) j = nI (if j = w then k else ts j)
        by_cases ej : j = w
        · subst ej
          rw [pk_us, pk_us, if_pos rfl, if_pos rfl]; exact ⟨rfl, rfl⟩
        · rw [pk_un ej, pk_un ej, if_neg ej, if_neg ej]; exact b3 j (by omega)
      have h39 : s3 9 = -1 := (u2 9 (by omega)).trans ((q3 9 (by omega)).trans ((r3 9 (by omega)).trans h9))
      refine ih _ (w + 1) l0 _ _ _ s3 _ _ st (i + 1) (tE_le (tE_le (tE_le hp))) (by omega) (by omega) u1 h39 hB' (by omega) (fun r l er sB' sR' bg' tm' st' i' a1 a2 a3 a4 n2 hn2 => ?_) (fun k' b er => hb k' b (by rw [er]; rfl)) n (by omega)
      rw [er] at hg hb
      have hg : ∀ q l', (if sgB tx N r 125 = true then bnd (aSteps tx N T f (tE tx N r) w) (fun r2 => .inr (r2.1, rep l k ++ r2.2)) else .inl (1, tB tx N r)) = .inr (q, l') → ∀ sB' sR' bg' tm' st' i', RdC tx N q sR' → sR' 9 = -1 → BK (l0 ++ l') w bs ts sB' bg' tm' st' → i' ≤ q → ∀ n, N + 1 ≤ n + q → LpC T t post n sB' sR' bg' tm' st' i' := hg
      have hb : ∀ k' b, (if sgB tx N r 125 = true then bnd (aSteps tx N T f (tE tx N r) w) (fun r2 => .inr (r2.1, rep l k ++ r2.2)) else .inl (1, tB tx N r)) = .inl (k', b) → ∀ sB' sR' bg' tm' st', sR' 8 = nI k' → sR' 9 = nI b → post 0 sB' sR' bg' tm' st' := hb
      have ok := aSteps_ok hN hT f _ (w + 1) (tE_le (tE_le (tE_le hp))) (by omega) r l er
      obtain ⟨o1, o2, o3, o4, -⟩ := ok
      obtain ⟨n2, rfl⟩ : ∃ k, n2 = k + 1 := ⟨n2 - 1, by omega⟩
      have hKr := tK_le tx N r
      have r7' : sR' 7 = nI (tK tx N r) := a1.2.2.2.2.1
      have e7' : (sR' 7 = 0) = (tK tx N r = 0) := by rw [r7']; exact propext (nI_eq (b := 0) (by omega) (by omega))
      show wpX5_read_L12 t (nI T) _ post (n2 + 1) sB' sR' bg' tm' st' (nI i')
      unfold wpX5_read_L12
      rw [e7']
      refine ⟨fun z => absurd ((nI_ltI (a := 500) (by omega) (by omega)).mp z) (by omega), fun _ => ⟨fun ez => ?_, fun ez => ?_⟩⟩
      · unfold wpX5_read_J45
        have es' : ¬ sgB tx N r 125 = true := fun z => by have := sg_k z; omega
        rw [if_neg es'] at hb
        rw [a3.2.1]
        exact ⟨fun z => absurd ((nI_eq (b := 0) (by omega) (by omega)).mp z) (by omega), fun _ => c_refuse a1 (k := 1) rfl ⟨fun _ => hb _ _ rfl _ _ _ _ _ cF8 cF9, fun z => absurd rfl z⟩⟩
      · unfold wpX5_readPart wpX5_readPart_J60
        refine c_isWord ht o2 a1 (by omega) ?_
        rw [o3, if_neg (by decide)]
        refine ⟨fun _ => c_isWord ht o2 a1 (by omega) ?_, fun z => absurd rfl z⟩
        rw [o4, if_neg (by decide)]
        rw [a3.2.1]
        refine ⟨fun _ => ⟨fun z => absurd ((nI_leI (b := 0) (by omega) (by omega)).mp z) (by omega), fun _ => c_isSign ht a1 (c := 125) (by omega) rfl ?_⟩, fun z => absurd rfl z⟩
        by_cases es' : sgB tx N r 125 = true
        · rw [if_pos es'] at hg hb ⊢
          refine ⟨fun z => absurd z (by decide), fun _ => ?_⟩
          have hk3 := sg_k es'
          have hlr := tE_lt (tx := tx) (N := N) (p := r) (by omega)
          refine c_close ht o2 a1 a3 e3 (if_pos rfl) (if_pos rfl) (by omega) (by omega) (fun sB2 s2' st2 c1 c2 c3 => ⟨fun _ => nm_r (nI_1 i') ?_, fun z => absurd z (by decide)⟩)
          have hB2 : BK (l0 ++ rep l k) w bs ts sB2 bg' tm' st2 := by
            refine ⟨c3.1, c3.2.1, fun j hj => ?_, c3.2.2.2⟩
            have : bg' j = nI (if j = w then min 200 l0.length else bs j) ∧ tm' j = nI (if j = w then k else ts j) := c3.2.2.1 j hj
            rw [if_neg (by omega), if_neg (by omega)] at this
            exact this
          refine ih (tE tx N r) w (l0 ++ rep l k) bs ts sB2 s2' bg' tm' st2 (i' + 1) (tE_le o2) (by omega) hw c1 (c2.trans a2) hB2 (by omega) (fun q l' er' => ?_) (fun k' b er' => hb k' b (by rw [er']; rfl)) n2 (by omega)
          have := hg q (rep l k ++ l') (by rw [er']; rfl)
          rw [List.append_assoc]
          exact this
        · rw [if_neg es'] at hb ⊢
          exact ⟨fun _ => c_refuse a1 (k := 1) rfl ⟨nrw0, fun z => absurd rfl z, fun _ => hb _ _ rfl _ _ _ _ _ cF8 cF9⟩, fun z => absurd rfl z⟩
    · simp only [if_neg e18] at hg hb
      exact hg p [] rfl sB sR bg tm st i hR h9 (by rw [List.append_nil]; exact hB) hi (n + 1) hn
