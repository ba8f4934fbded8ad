theorem WRep.congr {F : AR} {b : Nat} {x y : Nat → Nat} (h : WRep F b x) (e : ∀ f, f < 6 → x f = y f) : WRep F b y := by
  obtain ⟨h0, h1, h2, h3, h4, h5⟩ := h
  rw [e 0 (by omega)] at h0
  rw [e 1 (by omega)] at h1
  rw [e 2 (by omega)] at h2
  rw [e 3 (by omega)] at h3
  rw [e 4 (by omega)] at h4
  rw [e 5 (by omega)] at h5
  exact ⟨h0, h1, h2, h3, h4, h5⟩
theorem WRep.same {F F' : AR} {b : Nat} {x : Nat → Nat} (h : WRep F b x) (e : ∀ j, b ≤ j → j < b + 6 → F' j = F j) : WRep F' b x := by
  obtain ⟨h0, h1, h2, h3, h4, h5⟩ := h
  exact ⟨by rw [e _ (by omega) (by omega)]; exact h0, by rw [e _ (by omega) (by omega)]; exact h1, by rw [e _ (by omega) (by omega)]; exact h2, by rw [e _ (by omega) (by omega)]; exact h3, by rw [e _ (by omega) (by omega)]; exact h4, by rw [e _ (by omega) (by omega)]; exact h5⟩
theorem WOK.congr {P : FL} {n : Nat} {x y : Nat → Nat} (h : WOK P n x) (e : ∀ f, f < 6 → x f = y f) : WOK P n y := by
  obtain ⟨h0, h1, h2, h3, h4, h5⟩ := h
  rw [e 0 (by omega)] at h0
  rw [e 1 (by omega)] at h1
  rw [e 2 (by omega)] at h2
  rw [e 3 (by omega)] at h3
  rw [e 4 (by omega)] at h4
  rw [e 5 (by omega)] at h5
  exact ⟨h0, h1, h2, h3, h4, h5⟩
/-! all walkers, and the strokes left: a row of 29 -/
abbrev wv (a : Nat → Nat) (w : Nat) : Nat → Nat := fun f => a (w * 6 + f)
def FRep (P : FL) (F : AR) (a : Nat → Nat) : Prop := (∀ w, w < P 0 3 → WRep F (w * 6) (wv a w)) ∧ ∀ t, t < P 0 2 → F (24 + t) = nI (a (24 + t))
def FOK (P : FL) (n : Nat) (a : Nat → Nat) : Prop := (∀ w, w < P 0 3 → WOK P n (wv a w)) ∧ ∀ t, t < P 0 2 → a (24 + t) ≤ 99
def CanR (P : FL) (m : Nat) (a : Nat → Nat) : Prop := m < 2 ^ P 0 2 ∧ ∀ t, t < P 0 2 → bt1 m t ≤ a (24 + t)
def sk (P : FL) (m : Nat) (a : Nat → Nat) : Nat → Nat := fun i => if i < 24 then hW P m (P 5 (i / 6)) (wv a (i / 6)) (i % 6) else a i - bt1 m (i - 24)
def rs (P : FL) (m : Nat) (a : Nat → Nat) (w : Nat) : Int32 := hR P m (P 5 w) (wv a w)
theorem sk_w {P : FL} {m : Nat} {a : Nat → Nat} {w f : Nat} (hw : w < 4) (hf : f < 6) : sk P m a (w * 6 + f) = hW P m (P 5 w) (wv a w) f := by
  unfold sk
  rw [if_pos (by omega), show (w * 6 + f) / 6 = w by omega, show (w * 6 + f) % 6 = f by omega]
theorem sk_t {P : FL} {m : Nat} {a : Nat → Nat} {t : Nat} : sk P m a (24 + t) = a (24 + t) - bt1 m t := by
  unfold sk
  rw [if_neg (by omega), show 24 + t - 24 = t by omega]
theorem sk_ok {P : FL} (hF : FlatOK P) {n m : Nat} {a : Nat → Nat} (h : FOK P n a) : FOK P (n + 1) (sk P m a) := by
  have f6 := hF.1.2.2.2.2.2.1
  refine ⟨fun w hw => ?_, fun t ht => ?_⟩
  · exact (hW_ok hF (h.1 w hw)).congr (fun f hf => (sk_w (by omega) hf).symm)
  · rw [sk_t]
    have := h.2 t ht
    omega
theorem FOK.mono {P : FL} {n n' : Nat} {a : Nat → Nat} (h : FOK P n a) (hn : n ≤ n') : FOK P n' a := ⟨fun w hw => by obtain ⟨h0, h1, h2, h3, h4, h5⟩ := h.1 w hw; exact ⟨h0, h1, h2, h3, h4, Nat.le_trans h5 hn⟩, h.2⟩
theorem c_falls {P : FL} {F kd : AR} {w n : Nat} {x : Nat → Nat} (hw : w < 4) (hkd : kd w = nI (P 5 w)) (hk5 : P 5 w < 5) (hx : WRep F (w * 6) x) (hok : WOK P n x) (hn : n < 2 ^ 30) {post : Int32 → AR → Prop} (hk1 : (P 5 w ≠ 4 ∧ x 1 = 0) → ∀ F', WRep F' (w * 6) (flW x) → FrW (w * 6) F F' → post 1 F') (hk0 : ¬ (P 5 w ≠ 4 ∧ x 1 = 0) → ∀ F', WRep F' (w * 6) (drW (P 5 w) x) → FrW (w * 6) F F' → post 0 F') : wpX3_falls F kd (nI w) post := by
  obtain ⟨o0, o1, o2, o3, o4, o5⟩ := hok
  obtain ⟨x0, x1, x2, x3, x4, x5⟩ := hx
  unfold wpX3_falls
  refine nm_r (show nI w * (6 : Int32) = nI (w * 6) from pk_mul w 6) ⟨vp_in_nI hw (by omega), ?_⟩
  rw [nI_clamp (by omega), hkd, show nI (w * 6) + (5 : Int32) = nI (w * 6 + 5) from nI_add _ 5, show nI (w * 6) + (1 : Int32) = nI (w * 6 + 1) from nI_add _ 1, show nI (w * 6) + (3 : Int32) = nI (w * 6 + 3) from nI_add _ 3, nI_clamp (by omega), nI_clamp (by omega), nI_clamp (by omega), x1]
  refine ⟨fun e => ⟨vp_in_nI (by omega) (by omega), fun e1 => ?_, fun e1 => ?_⟩, fun e => ?_⟩
  · have z1 : x 1 = 0 := by have := (nI_leI (b := 0) (by omega) (by omega)).mp e1; omega
    have z4 : P 5 w ≠ 4 := fun q => e (by rw [q]; rfl)
    refine ⟨vp_in_nI (by omega) (by omega), nm_e ⟨vp_in_nI (by omega) (by omega), vp_in_nI (by omega) (by omega), nm_e ?_⟩⟩
    rw [pk_un (by omega), x5, show nI (x 5) + (1 : Int32) = nI (x 5 + 1) from nI_1 _]
    refine hk1 ⟨z4, z1⟩ _ ⟨?_, ?_, ?_, ?_, ?_, ?_⟩ ((FrW.rfl.upd (by omega) (by omega)).upd (by omega) (by omega))
    · rw [pk_un (by omega), pk_un (by omega), x0]; rfl
    · rw [pk_un (by omega), pk_un (by omega), x1]; rfl
    · rw [pk_un (by omega), pk_un (by omega), x2]; rfl
    · rw [pk_un (by omega), pk_us]; rfl
    · rw [pk_un (by omega), pk_un (by omega), x4]; rfl
    · rw [pk_us]; rfl
  · have z1 : ¬ x 1 = 0 := fun q => e1 (by rw [q]; decide)
    have z4 : P 5 w ≠ 4 := fun q => e (by rw [q]; rfl)
    refine ⟨vp_in_nI (by omega) (by omega), vp_in_nI (by omega) (by omega), nm_e ?_⟩
    rw [show nI (x 1) - (1 : Int32) = nI (x 1 - 1) from pk_sub (b := 1) (by omega)]
    refine hk0 (fun q => z1 q.2) _ ⟨?_, ?_, ?_, ?_, ?_, ?_⟩ (FrW.rfl.upd (by omega) (by omega))
    · rw [pk_un (by omega), x0]; unfold drW; rw [if_neg (by omega)]
    · rw [pk_us]; unfold drW; rw [if_pos ⟨z4, rfl⟩]
    · rw [pk_un (by omega), x2]; unfold drW; rw [if_neg (by omega)]
    · rw [pk_un (by omega), x3]; unfold drW; rw [if_neg (by omega)]
    · rw [pk_un (by omega), x4]; unfold drW; rw [if_neg (by omega)]
    · rw [pk_un (by omega), x5]; unfold drW; rw [if_neg (by omega)]
  · have z4 : P 5 w = 4 := (nI_eq (b := 4) (by omega) (by omega)).mp e
    refine hk0 (fun q => q.1 z4) F ?_ FrW.rfl
    refine WRep.congr ⟨x0, x1, x2, x3, x4, x5⟩ (fun f _ => ?_)
    unfold drW; rw [if_neg (fun q => q.1 z4)]
theorem c_hear {P : FL} {sG F R fl kd hA E ov ak nx wy gl : AR} (hF : FlatOK P) (hs : ∀ k, k < 7 → sG k = nI (P 0 k)) (hE : EarsOK P hA E ov ak) (hW' : FeetOK P nx wy gl) (hfl : ∀ t, t < P 0 2 → fl t = nI (P 4 t)) (hkd : ∀ w, w < P 0 3 → kd w = nI (P 5 w)) {m n : Nat} {a : Nat → Nat} (hc : CanR P m a) (ha : FRep P F a) (hok : FOK P n a) (hn : n < 2 ^ 30) {post : AR → AR → Prop} (hk : ∀ F' R', FRep P F' (sk P m a) → (∀ w, w < P 0 3 → R' w = rs P m a w) → post F' R') : wpX3_hear sG F R fl kd hA E ov ak nx wy gl (nI m) post := by
  have f5 := hF.1.2.2.2.2.1
  have f6 := hF.1.2.2.2.2.2.1
  have h32 := p2_le f5
  have hm := hc.1
  unfold wpX3_hear
  refine loop_0 (fun n i (q : AR) => wpX3_hear_L2 sG R fl kd hA E ov ak nx wy gl (nI m) _ post n q (nI i)) (fun i q => (∀ t, t < i → q (24 + t) = nI (sk P m a (24 + t))) ∧ ∀ j, j < 24 ∨ 24 + i ≤ j → q j = F j) (P 0 2) F ⟨fun t ht => by omega, fun _ _ => rfl⟩ ?_ ?_
  · intro nn q hI
    show wpX3_hear_L2 sG R fl kd hA E ov ak nx wy gl (nI m) _ post (nn + 1) q (nI (P 0 2))
    unfold wpX3_hear_L2
    rw [hs 2 (by omega)]
    refine ⟨fun _ => ?_, fun z => absurd (nI_le (Nat.le_refl _) (by omega)) z⟩
    refine loop_0 (fun n i (s : AR × AR) => wpX3_hear_L38 sG fl kd hA E ov ak nx wy gl (nI m) _ post n s.1 s.2 (nI i)) (fun i s => (∀ w, w < i → WRep s.1 (w * 6) (hW P m (P 5 w) (wv a w)) ∧ s.2 w = rs P m a w) ∧ ∀ j, i * 6 ≤ j → s.1 j = q j) (P 0 3) (q, R) ⟨fun t ht => by omega, fun _ _ => rfl⟩ ?_ ?_
    · intro nn s hI2
      show wpX3_hear_L38 sG fl kd hA E ov ak nx wy gl (nI m) _ post (nn + 1) s.1 s.2 (nI (P 0 3))
      unfold wpX3_hear_L38
      rw [hs 3 (by omega)]
      refine ⟨fun _ => ?_, fun z => absurd (nI_le (Nat.le_refl _) (by omega)) z⟩
      refine hk _ _ ⟨fun w hw => ?_, fun t ht => ?_⟩ (fun w hw => (hI2.1 w hw).2)
      · exact (hI2.1 w hw).1.congr (fun f hf => (sk_w (by omega) hf).symm)
      · rw [hI2.2 _ (by omega)]; exact hI.1 t ht
    · intro nn i s hi hI2 hnext
      show wpX3_hear_L38 sG fl kd hA E ov ak nx wy gl (nI m) _ post (nn + 1) s.1 s.2 (nI i)
      have k5 := hF.2.2.1 i hi
      have hwr : WRep s.1 (i * 6) (wv a i) := (ha.1 i hi).same (fun j h1 h2 => by rw [hI2.2 j h1, hI.2 j (by omega)])
      have hwo := hok.1 i hi
      have fin : ∀ (F' : AR) (r : Int32), WRep F' (i * 6) (hW P m (P 5 i) (wv a i)) → FrW (i * 6) s.1 F' → r = rs P m a i → wpX3_hear_J92 sG F' s.2 fl kd hA E ov ak nx wy gl (nI m) (nI i) (nI i) r (fun b0 b1 b2 => wpX3_hear_L38 sG fl kd hA E ov ak nx wy gl (nI m) (fun F_all_99 F_reasons_99 l2_99 => post F_all_99 F_reasons_99) post nn b0 b1 b2) (fun F_all_99 F_reasons_99 l2_99 => post F_all_99 F_reasons_99) post := by
        intro F' r h1 h2 h3
        unfold wpX3_hear_J92
        rw [nI_clamp (by omega)]
        refine ⟨vp_in_nI (by omega) (by omega), nm_e (nm_r (nI_1 i) (hnext (F', _) ⟨fun w hw => ?_, fun j hj => ?_⟩))⟩
        · by_cases e : w = i
          · subst e
            exact ⟨h1, by show upd s.2 w r w = _; rw [pk_us, h3]⟩
          · refine ⟨(hI2.1 w (by omega)).1.same (fun j q1 q2 => h2 j (by omega)), ?_⟩
            show upd s.2 i r w = _
            rw [pk_un e]
            exact (hI2.1 w (by omega)).2
        · show F' j = _
          rw [h2 j (by omega)]
          exact hI2.2 j (by omega)
      unfold wpX3_hear_L38 wpX3_of
      rw [hs 3 (by omega)]
      refine ⟨fun z => absurd z (nI_ge hi (by omega)), fun _ => ?_⟩
      have hr3 := hwr.2.2.2.1
      rw [show nI i * (6 : Int32) + (3 : Int32) = nI (i * 6 + 3) by rw [show nI i * (6 : Int32) = nI (i * 6) from pk_mul i 6]; exact nI_add _ 3, nI_clamp (by omega), hr3]
      have o3 := hwo.2.2.2.1
      refine ⟨vp_in_nI (by omega) (by omega), fun e => ?_, fun e => ?_⟩
      · have e1 : ¬ wv a i 3 = 0 := fun q => e (by rw [q]; rfl)
        unfold wpX3_hear_J71
        refine ⟨fun _ => fin s.1 _ ?_ FrW.rfl ?_, fun z => absurd rfl z⟩
        · unfold hW; rw [if_pos e1]; exact hwr
        · unfold rs hR; rw [if_pos e1]; rfl
      · have e1 : wv a i 3 = 0 := (nI_eq (b := 0) (by omega) (by omega)).mp e
        refine c_falls (by omega) (hkd i hi) k5 hwr hwo hn (fun g F' q1 q2 => ?_) (fun g F' q1 q2 => ?_)
        · unfold wpX3_hear_J71
          refine ⟨fun _ => ⟨fun _ => fin F' _ ?_ q2 ?_, fun z => absurd rfl z⟩, fun z => absurd z (by decide)⟩
          · unfold hW; rw [if_neg (fun z => z e1), if_pos g]; exact q1
          · unfold rs hR; rw [if_neg (fun z => z e1), if_pos g]; rfl
        · unfold wpX3_hear_J71
          refine ⟨fun z => absurd rfl z, fun _ => ⟨fun z => absurd z (by decide), fun _ => ?_⟩⟩
          have hd3 : drW (P 5 i) (wv a i) 3 = 0 := by unfold drW; rw [if_neg (by omega)]; exact e1
          have hdo : WOK P n (drW (P 5 i) (wv a i)) := by
            obtain ⟨h0, h1, h2, h3, h4, h5⟩ := hwo
            refine ⟨?_, ?_, ?_, ?_, ?_, ?_⟩
            · unfold drW; rw [if_neg (by omega)]; exact h0
            · unfold drW; split <;> omega
            · unfold drW; rw [if_neg (by omega)]; exact h2
            · unfold drW; rw [if_neg (by omega)]; exact h3
            · unfold drW; rw [if_neg (by omega)]; exact h4
            · unfold drW; rw [if_neg (by omega)]; exact h5
          refine c_go hF hE hW' hfl (by omega) (hkd i hi) k5 hm q1 hdo hn hd3 (fun F2 p1 p2 => fin F2 _ ?_ (fun j hj => by rw [p2 j hj, q2 j hj]) ?_)
          · unfold hW; rw [if_neg (fun z => z e1), if_neg g]; exact p1
          · unfold rs hR; rw [if_neg (fun z => z e1), if_neg g]
  · intro nn i q hi hI hnext
    show wpX3_hear_L2 sG R fl kd hA E ov ak nx wy gl (nI m) _ post (nn + 1) q (nI i)
    unfold wpX3_hear_L2
    have hb := bt1_lt m i
    have hl := hc.2 i hi
    rw [hs 2 (by omega), show (24 : Int32) + nI i = nI (24 + i) from nI_add 24 i, nI_clamp (by omega), show jshr (nI m) (nI i) &&& (1 : Int32) = nI (bt1 m i) from n_bit (by omega) (by omega), hI.2 _ (by omega), ha.2 i hi, pk_sub hl]
    refine ⟨fun z => absurd z (nI_ge hi (by omega)), fun _ => ⟨vp_in_nI (by omega) (by omega), vp_in_nI (by omega) (by omega), nm_e (nm_r (nI_1 i) (hnext _ ⟨fun t ht => ?_, fun j hj => ?_⟩))⟩⟩
    · by_cases e : t = i
      · subst e; rw [pk_us, sk_t]
      · rw [pk_un (by omega)]; exact hI.1 t (by omega)
    · rw [pk_un (by omega)]; exact hI.2 j (by omega)
