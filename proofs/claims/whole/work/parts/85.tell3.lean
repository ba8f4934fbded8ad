theorem DC.size {D : FL} {sG tc rg vc st fl kd hm wt mi : AR} (h : DC D sG tc rg vc st fl kd hm wt mi) (w g : Nat) : DC (dU (dU D 0 0 w) 0 1 g) (upd (upd sG 0 (nI w)) 1 (nI g)) tc rg vc st fl kd hm wt mi := by
  obtain ⟨h1, h2, h3, h4⟩ := h
  have eo : ∀ a b, (a ≠ 0 ∨ (b ≠ 0 ∧ b ≠ 1)) → dU (dU D 0 0 w) 0 1 g a b = D a b := fun a b hab => by rw [dU_o (by omega), dU_o (by omega)]
  refine ⟨fun k hk => ?_, fun t ht => ?_, fun x hx => ?_, fun c hc => ?_⟩
  · by_cases e1 : k = 1
    · subst e1; rw [pk_us, dU_s]
    · by_cases e0 : k = 0
      · subst e0; rw [pk_un (by omega), pk_us, dU_o (by omega), dU_s]
      · rw [pk_un e1, pk_un e0, eo 0 k (by omega)]; exact h1 k hk
  · rw [eo 0 2 (by omega)] at ht
    rw [eo 1 t (by omega), eo 2 t (by omega), eo 3 t (by omega), eo 4 t (by omega), eo 7 t (by omega)]; exact h2 t ht
  · rw [eo 0 3 (by omega)] at hx
    rw [eo 5 x (by omega), eo 8 x (by omega), eo 9 x (by omega)]; exact h3 x hx
  · rw [eo 6 c (by omega)]; exact h4 c hc
theorem DC.wind {D : FL} {sG tc rg vc st fl kd hm wt mi : AR} (h : DC D sG tc rg vc st fl kd hm wt mi) (w g : Nat) : DC (dU (dU D 0 4 w) 0 5 g) (upd (upd sG 4 (nI w)) 5 (nI g)) tc rg vc st fl kd hm wt mi := by
  obtain ⟨h1, h2, h3, h4⟩ := h
  have eo : ∀ a b, (a ≠ 0 ∨ (b ≠ 4 ∧ b ≠ 5)) → dU (dU D 0 4 w) 0 5 g a b = D a b := fun a b hab => by rw [dU_o (by omega), dU_o (by omega)]
  refine ⟨fun k hk => ?_, fun t ht => ?_, fun x hx => ?_, fun c hc => ?_⟩
  · by_cases e1 : k = 5
    · subst e1; rw [pk_us, dU_s]
    · by_cases e0 : k = 4
      · subst e0; rw [pk_un (by omega), pk_us, dU_o (by omega), dU_s]
      · rw [pk_un e1, pk_un e0, eo 0 k (by omega)]; exact h1 k hk
  · rw [eo 0 2 (by omega)] at ht
    rw [eo 1 t (by omega), eo 2 t (by omega), eo 3 t (by omega), eo 4 t (by omega), eo 7 t (by omega)]; exact h2 t ht
  · rw [eo 0 3 (by omega)] at hx
    rw [eo 5 x (by omega), eo 8 x (by omega), eo 9 x (by omega)]; exact h3 x hx
  · rw [eo 6 c (by omega)]; exact h4 c hc
theorem DC.night {D : FL} {sG tc rg vc st fl kd hm wt mi : AR} (h : DC D sG tc rg vc st fl kd hm wt mi) (n : Nat) : DC (dU D 0 6 n) (upd sG 6 (nI n)) tc rg vc st fl kd hm wt mi := by
  obtain ⟨h1, h2, h3, h4⟩ := h
  have eo : ∀ a b, (a ≠ 0 ∨ b ≠ 6) → dU D 0 6 n a b = D a b := fun a b hab => dU_o hab
  refine ⟨fun k hk => ?_, fun t ht => ?_, fun x hx => ?_, fun c hc => ?_⟩
  · by_cases e1 : k = 6
    · subst e1; rw [pk_us, dU_s]
    · rw [pk_un e1, eo 0 k (by omega)]; exact h1 k hk
  · rw [eo 0 2 (by omega)] at ht
    rw [eo 1 t (by omega), eo 2 t (by omega), eo 3 t (by omega), eo 4 t (by omega), eo 7 t (by omega)]; exact h2 t ht
  · rw [eo 0 3 (by omega)] at hx
    rw [eo 5 x (by omega), eo 8 x (by omega), eo 9 x (by omega)]; exact h3 x hx
  · rw [eo 6 c (by omega)]; exact h4 c hc
theorem DC.mirage {D : FL} {sG tc rg vc st fl kd hm wt mi : AR} (h : DC D sG tc rg vc st fl kd hm wt mi) (c : Nat) : DC (dU D 6 c 1) sG tc rg vc st fl kd hm wt (upd mi c (1 : Int32)) := by
  obtain ⟨h1, h2, h3, h4⟩ := h
  have eo : ∀ a b, a ≠ 6 → dU D 6 c 1 a b = D a b := fun a b hab => dU_o (Or.inl hab)
  refine ⟨fun k hk => ?_, fun t ht => ?_, fun x hx => ?_, fun c' hc => ?_⟩
  · rw [eo 0 k (by omega)]; exact h1 k hk
  · rw [eo 0 2 (by omega)] at ht
    rw [eo 1 t (by omega), eo 2 t (by omega), eo 3 t (by omega), eo 4 t (by omega), eo 7 t (by omega)]; exact h2 t ht
  · rw [eo 0 3 (by omega)] at hx
    rw [eo 5 x (by omega), eo 8 x (by omega), eo 9 x (by omega)]; exact h3 x hx
  · by_cases e : c' = c
    · subst e; rw [pk_us, dU_s]; rfl
    · rw [pk_un e, dU_o (by omega)]; exact h4 c' hc
theorem DC.tower {D : FL} {sG tc rg vc st fl kd hm wt mi : AR} (h : DC D sG tc rg vc st fl kd hm wt mi) (c r v s f : Nat) : DC (dTw D c r v s f) (upd sG 2 (nI (D 0 2 + 1))) (upd tc (D 0 2) (nI c)) (upd rg (D 0 2) (nI r)) (upd vc (D 0 2) (nI v)) (upd st (D 0 2) (nI s)) (upd fl (D 0 2) (nI f)) kd hm wt mi := by
  obtain ⟨h1, h2, h3, h4⟩ := h
  obtain ⟨n1, n2, n3, n4, n7⟩ := dTw_n (D := D) (c := c) (r := r) (v := v) (s := s) (f := f)
  refine ⟨fun k hk => ?_, fun t ht => ?_, fun x hx => ?_, fun c' hc => ?_⟩
  · by_cases e1 : k = 2
    · subst e1; rw [pk_us, dTw_2]
    · rw [pk_un e1, dTw_o (by omega)]; exact h1 k hk
  · rw [dTw_2] at ht
    by_cases e : t = D 0 2
    · subst e; rw [pk_us, pk_us, pk_us, pk_us, pk_us, n1, n2, n3, n4, n7]; exact ⟨rfl, rfl, rfl, rfl, rfl⟩
    · rw [pk_un e, pk_un e, pk_un e, pk_un e, pk_un e, dTw_o (by omega), dTw_o (by omega), dTw_o (by omega), dTw_o (by omega), dTw_o (by omega)]; exact h2 t (by omega)
  · rw [dTw_o (by omega)] at hx
    rw [dTw_o (by omega), dTw_o (by omega), dTw_o (by omega)]; exact h3 x hx
  · rw [dTw_o (by omega)]; exact h4 c' hc
theorem DC.walker {D : FL} {sG tc rg vc st fl kd hm wt mi : AR} (h : DC D sG tc rg vc st fl kd hm wt mi) (k c w : Nat) : DC (dWk D k c w) (upd sG 3 (nI (D 0 3 + 1))) tc rg vc st fl (upd kd (D 0 3) (nI k)) (upd hm (D 0 3) (nI c)) (upd wt (D 0 3) (nI w)) mi := by
  obtain ⟨h1, h2, h3, h4⟩ := h
  obtain ⟨n5, n8, n9⟩ := dWk_n (D := D) (k := k) (c := c) (w := w)
  refine ⟨fun j hj => ?_, fun t ht => ?_, fun x hx => ?_, fun c' hc => ?_⟩
  · by_cases e1 : j = 3
    · subst e1; rw [pk_us, dWk_3]
    · rw [pk_un e1, dWk_o (by omega)]; exact h1 j hj
  · rw [dWk_o (by omega)] at ht
    rw [dWk_o (by omega), dWk_o (by omega), dWk_o (by omega), dWk_o (by omega), dWk_o (by omega)]; exact h2 t ht
  · rw [dWk_3] at hx
    by_cases e : x = D 0 3
    · subst e; rw [pk_us, pk_us, pk_us, n5, n8, n9]; exact ⟨rfl, rfl, rfl⟩
    · rw [pk_un e, pk_un e, pk_un e, dWk_o (by omega), dWk_o (by omega), dWk_o (by omega)]; exact h3 x (by omega)
  · rw [dWk_o (by omega)]; exact h4 c' hc
theorem c_refuseBefore {s : AR} {b k : Nat} (h6 : s 6 = nI b) {x : Int32} (hx : x = nI k) {post : Int32 → AR → Prop} (h : post 0 (cF s k b)) : wpX8_refuseBefore s x post := by
  unfold wpX8_refuseBefore
  rw [h6, hx]
  exact nm_e h
/-- how a part of a line ends in the class -/
def EndC (tx : Nat → Nat) (N : Nat) (s : AR) (res : PR (Nat × FL)) (good : Nat → FL → AR → Prop) (bad : AR → Prop) : Prop := (∀ p' D', res = .inr (p', D') → ∀ s', RdC tx N p' s' → (∀ j, 7 < j → s' j = s j) → good p' D' s') ∧ ∀ k b, res = .inl (k, b) → ∀ s', s' 8 = nI k → s' 9 = nI b → bad s'
theorem c_tellSize {tx : Nat → Nat} {N p : Nat} {t s sG : AR} (ht : TxC tx N t) (hp : p ≤ N) (hR : RdC tx N p s) {D : FL} {post : Int32 → AR → AR → Prop} (h1 : ∀ w g, aSize tx N p D 0 = .inr (tE tx N (tE tx N (tE tx N p)), dU (dU D 0 0 w) 0 1 g) → ∀ s', RdC tx N (tE tx N (tE tx N (tE tx N p))) s' → (∀ j, 7 < j → s' j = s j) → post 1 s' (upd (upd sG 0 (nI w)) 1 (nI g))) (h0 : ∀ k b, aSize tx N p D 0 = .inl (k, b) → ∀ s', s' 8 = nI k → s' 9 = nI b → post 0 s' sG) : wpX9_tellSize s sG t post := by
  unfold wpX9_tellSize
  have hz : ¬ (0 : Nat) ≠ 0 := fun z => z rfl
  refine c_advance ht (tE_le hp) hR.1 hR.2.1 (fun s1 r1 _ r3 => ?_)
  refine c_num ht (tE_le hp) r1 (lo := 2) (hi := 11) (by omega) (by omega) rfl rfl (fun w ew s2 q1 q2 q3 => ?_) (fun k b ew => ?_)
  · obtain ⟨w1, w2, w3⟩ := aNum_ok ew
    refine ⟨fun _ => ?_, fun z => absurd z (nI_nem (by omega))⟩
    refine c_num ht (tE_le (tE_le hp)) q1 (lo := 2) (hi := 11) (by omega) (by omega) rfl rfl (fun g eg s3 u1 u2 u3 => ?_) (fun k b eg => ?_)
    · obtain ⟨g1, g2, g3⟩ := aNum_ok eg
      refine ⟨fun _ => h1 w g (by unfold aSize; rw [if_neg hz, ew]; show bnd (aNum tx N (tE tx N (tE tx N p)) 2 11) _ = _; rw [eg]; rfl) s3 u1 (fun j hj => (u3 j hj).trans ((q3 j hj).trans (r3 j hj))), fun z => absurd z (nI_nem (by omega))⟩
    · exact ⟨fun z => absurd rfl z, fun _ => h0 k b (by unfold aSize; rw [if_neg hz, ew]; show bnd (aNum tx N (tE tx N (tE tx N p)) 2 11) _ = _; rw [eg]; rfl) _ cF8 cF9⟩
  · exact ⟨fun z => absurd rfl z, fun _ => h0 k b (by unfold aSize; rw [if_neg hz, ew]; rfl) _ cF8 cF9⟩
theorem c_tellNight {tx : Nat → Nat} {N p sn : Nat} {t s sG sL : AR} (ht : TxC tx N t) (hp : p ≤ N) (hR : RdC tx N p s) (h3 : sL 3 = nI (bt1 sn 2)) {D : FL} {post : Int32 → AR → AR → AR → Prop} (h1 : ∀ n, aNight tx N p D sn = .inr (tE tx N (tE tx N p), dU D 0 6 n) → ∀ s', RdC tx N (tE tx N (tE tx N p)) s' → (∀ j, 7 < j → s' j = s j) → post 1 (upd sL 3 1) s' (upd sG 6 (nI n))) (h0 : ∀ k b, aNight tx N p D sn = .inl (k, b) → ∀ sL' s', s' 8 = nI k → s' 9 = nI b → post 0 sL' s' sG) : wpX9_tellNight sL s sG t post := by
  have hb := bt1_lt sn 2
  unfold wpX9_tellNight
  rw [h3, show (nI (bt1 sn 2) = (0 : Int32)) = (bt1 sn 2 = 0) from propext (nI_eq (b := 0) (by omega) (by omega))]
  refine ⟨fun e => ?_, fun e => ?_⟩
  · have e1 : ¬ bt1 sn 2 = 1 := by omega
    refine c_advance ht (tE_le hp) hR.1 hR.2.1 (fun s1 r1 _ r3 => ?_)
    refine c_num ht (tE_le hp) r1 (lo := 0) (hi := 10) (by omega) (by omega) rfl rfl (fun n en s2 q1 q2 q3 => ?_) (fun k b en => ?_)
    · have := aNum_ok en
      exact ⟨fun _ => h1 n (by unfold aNight; rw [if_neg e1, en]; rfl) s2 q1 (fun j hj => (q3 j hj).trans (r3 j hj)), fun z => absurd z (nI_nem (by omega))⟩
    · exact ⟨fun z => absurd rfl z, fun _ => h0 k b (by unfold aNight; rw [if_neg e1, en]; rfl) _ _ cF8 cF9⟩
  · exact c_refuse hR (k := 4) rfl ⟨nrw0, h0 4 _ (by unfold aNight; rw [if_pos (by omega)]) _ _ cF8 cF9⟩
theorem c_tellWind {tx : Nat → Nat} {N p sn : Nat} {t s sG sL : AR} (ht : TxC tx N t) (hp : p ≤ N) (hR : RdC tx N p s) (h2 : sL 2 = nI (bt1 sn 1)) {D : FL} {post : Int32 → AR → AR → AR → Prop} (h1 : ∀ d n, aWind tx N p D sn = .inr (tE tx N (tE tx N (tE tx N p)), dU (dU D 0 4 d) 0 5 n) → ∀ s', RdC tx N (tE tx N (tE tx N (tE tx N p))) s' → (∀ j, 7 < j → s' j = s j) → post 1 (upd sL 2 1) s' (upd (upd sG 4 (nI d)) 5 (nI n))) (h0 : ∀ k b, aWind tx N p D sn = .inl (k, b) → ∀ sL' s', s' 8 = nI k → s' 9 = nI b → post 0 sL' s' sG) : wpX9_tellWind sL s sG t post := by
  have hb := bt1_lt sn 1
  unfold wpX9_tellWind
  rw [h2, show (nI (bt1 sn 1) = (0 : Int32)) = (bt1 sn 1 = 0) from propext (nI_eq (b := 0) (by omega) (by omega))]
  refine ⟨fun e => ?_, fun e => ?_⟩
  · have e1 : ¬ bt1 sn 1 = 1 := by omega
    refine c_advance ht (tE_le hp) hR.1 hR.2.1 (fun s1 r1 _ r3 => c_dir ht (tE_le hp) r1 ?_)
    have hd := dirB_le tx N (tE tx N p)
    rw [show (-1 : Int32) = -nI 1 from rfl, tI_none (by omega)]
    refine ⟨fun ed => ?_, fun ed => ?_⟩
    · rw [show tI (dirB tx N (tE tx N p)) = nI (dirB tx N (tE tx N p) - 1) by cases eq : dirB tx N (tE tx N p) with | zero => exact absurd eq ed | succ c => rfl]
      refine c_advance ht (tE_le (tE_le hp)) r1.1 r1.2.1 (fun s2 q1 _ q3 => ?_)
      refine c_num ht (tE_le (tE_le hp)) q1 (lo := 0) (hi := 4) (by omega) (by omega) rfl rfl (fun n en s3 u1 u2 u3 => ?_) (fun k b en => ?_)
      · have := aNum_ok en
        exact ⟨fun _ => h1 _ n (by unfold aWind; rw [if_neg e1, if_neg ed, en]; rfl) s3 u1 (fun j hj => (u3 j hj).trans ((q3 j hj).trans (r3 j hj))), fun z => absurd z (nI_nem (by omega))⟩
      · exact ⟨fun z => absurd rfl z, fun _ => h0 k b (by unfold aWind; rw [if_neg e1, if_neg ed, en]; rfl) _ _ cF8 cF9⟩
    · exact c_refuse r1 (k := 1) rfl ⟨nrw0, h0 1 _ (by unfold aWind; rw [if_neg e1, if_pos ed]) _ _ cF8 cF9⟩
  · exact c_refuse hR (k := 4) rfl ⟨nrw0, h0 4 _ (by unfold aWind; rw [if_pos (by omega)]) _ _ cF8 cF9⟩
theorem c_tellMirage {tx : Nat → Nat} {N p : Nat} {t s sG mi : AR} (ht : TxC tx N t) (hp : p ≤ N) (hR : RdC tx N p s) {D : FL} (hF : FlatOK D) (g0 : sG 0 = nI (D 0 0)) (g1 : sG 1 = nI (D 0 1)) (hm : ∀ c, c < 100 → mi c = nI (D 6 c)) {post : Int32 → AR → AR → Prop} (h1 : ∀ c, aMirage tx N p D = .inr (tE tx N (tE tx N (tE tx N p)), dU D 6 c 1) → ∀ s', RdC tx N (tE tx N (tE tx N (tE tx N p))) s' → (∀ j, 7 < j → s' j = s j) → post 1 s' (upd mi c 1)) (h0 : ∀ k b, aMirage tx N p D = .inl (k, b) → ∀ s', s' 8 = nI k → s' 9 = nI b → post 0 s' mi) : wpX9_tellMirage s sG t mi post := by
  have fc := hF.cells
  unfold wpX9_tellMirage
  refine c_advance ht (tE_le hp) hR.1 hR.2.1 (fun s1 r1 _ r3 => ?_)
  refine c_tellCell ht (tE_le hp) r1 hF.1.2.1 hF.1.2.2.2.1 g0 g1 (fun c ec s2 q1 q2 q3 => ?_) (fun k b ec s2 q1 q2 => ?_)
  · have hc := aCell_ok ec
    have fm := hF.2.2.2 c
    refine ⟨fun _ => ?_, fun z => absurd z (nI_nem (by omega))⟩
    rw [nI_clamp (by omega), hm c (by omega), show (nI (D 6 c) = (0 : Int32)) = (D 6 c = 0) from propext (nI_eq (b := 0) (by omega) (by omega))]
    refine ⟨vp_in_nI (by omega) (by omega), fun e => ⟨vp_in_nI (by omega) (by omega), nm_e (h1 c (by unfold aMirage; rw [ec]; show (if D 6 c = 0 then _ else _) = _; rw [if_pos e]) s2 q1 (fun j hj => (q3 j hj).trans (r3 j hj)))⟩, fun e => ?_⟩
    exact c_refuseBefore q2 (k := 4) rfl ⟨nrw0, h0 4 _ (by unfold aMirage; rw [ec]; show (if D 6 c = 0 then _ else _) = _; rw [if_neg e]) _ cF8 cF9⟩
  · exact ⟨fun z => absurd rfl z, fun _ => h0 k b (by unfold aMirage; rw [ec]; rfl) _ q1 q2⟩
theorem c_tellWalker {tx : Nat → Nat} {N p kk : Nat} {t s sG kd hm wt : AR} (ht : TxC tx N t) (hp : p ≤ N) (hR : RdC tx N p s) {D : FL} (hF : FlatOK D) (g0 : sG 0 = nI (D 0 0)) (g1 : sG 1 = nI (D 0 1)) (g3 : sG 3 = nI (D 0 3)) {post : Int32 → AR → AR → AR → AR → AR → Prop} (h1 : ∀ c w, aWalker tx N p D kk = .inr (tE tx N (tE tx N (tE tx N (tE tx N p))), dWk D kk c w) → ∀ s', RdC tx N (tE tx N (tE tx N (tE tx N (tE tx N p)))) s' → (∀ j, 7 < j → s' j = s j) → post 1 (upd sG 3 (nI (D 0 3 + 1))) s' (upd kd (D 0 3) (nI kk)) (upd hm (D 0 3) (nI c)) (upd wt (D 0 3) (nI w))) (h0 : ∀ k b, aWalker tx N p D kk = .inl (k, b) → ∀ s', s' 8 = nI k → s' 9 = nI b → post 0 sG s' kd hm wt) : wpX9_tellWalker sG s kd hm wt t (nI kk) post := by
  have fc := hF.cells
  have f6 := hF.1.2.2.2.2.2.1
  unfold wpX9_tellWalker
  rw [g3]
  refine nm_e ?_
  rw [show (nI (D 0 3) < (4 : Int32)) = (D 0 3 < 4) from propext (nI_ltI (b := 4) (by omega) (by omega))]
  refine ⟨fun e => ?_, fun e => c_refuse hR (k := 2) rfl ⟨nrw0, h0 2 _ (by unfold aWalker; rw [if_pos (by omega)]) _ cF8 cF9⟩⟩
  have e1 : ¬ 4 ≤ D 0 3 := by omega
  refine c_advance ht (tE_le hp) hR.1 hR.2.1 (fun s1 r1 _ r3 => ?_)
  refine c_tellCell ht (tE_le hp) r1 hF.1.2.1 hF.1.2.2.2.1 g0 g1 (fun c ec s2 q1 q2 q3 => ?_) (fun k b ec s2 q1 q2 => ?_)
  · have hc := aCell_ok ec
    refine ⟨fun _ => ?_, fun z => absurd z (nI_nem (by omega))⟩
    refine c_num ht (tE_le (tE_le (tE_le hp))) q1 (lo := 0) (hi := 100) (by omega) (by omega) rfl rfl (fun n en s3 u1 u2 u3 => ?_) (fun k b en => ?_)
    · have := aNum_ok en
      refine ⟨fun _ => ?_, fun z => absurd z (nI_nem (by omega))⟩
      rw [nI_clamp (by omega)]
      refine ⟨vp_in_nI e (by omega), nm_e ⟨vp_in_nI e (by omega), nm_e ⟨vp_in_nI e (by omega), nm_e (nm_r (nI_1 _) (h1 c n ?_ s3 u1 (fun j hj => (u3 j hj).trans ((q3 j hj).trans (r3 j hj)))))⟩⟩⟩
      unfold aWalker
      rw [if_neg e1, ec]
      show bnd (aNum tx N (tE tx N (tE tx N (tE tx N p))) 0 100) _ = _
      rw [en]
      rfl
    · refine ⟨fun z => absurd rfl z, fun _ => h0 k b ?_ _ cF8 cF9⟩
      unfold aWalker
      rw [if_neg e1, ec]
      show bnd (aNum tx N (tE tx N (tE tx N (tE tx N p))) 0 100) _ = _
      rw [en]
      rfl
  · exact ⟨fun z => absurd rfl z, fun _ => h0 k b (by unfold aWalker; rw [if_neg e1, ec]; rfl) _ q1 q2⟩
theorem c_tellStrokes {tx : Nat → Nat} {N p : Nat} {t s : AR} (ht : TxC tx N t) (hp : p ≤ N) (hR : RdC tx N p s) {post : Int32 → AR → Prop} (h1 : ∀ q, aStk tx N p = .inr q → ∀ s', RdC tx N q.1 s' → (∀ j, 7 < j → s' j = s j) → post (nI q.2) s') (h0 : ∀ k b, aStk tx N p = .inl (k, b) → ∀ s', s' 8 = nI k → s' 9 = nI b → post (-1) s') : wpX9_tellStrokes s t post := by
  unfold wpX9_tellStrokes
  refine c_isWord ht hp hR (by omega) ?_
  by_cases e : wdB tx N p 3 = true
  · rw [if_pos e]
    refine ⟨fun _ => ?_, fun z => absurd z (by decide)⟩
    refine c_advance ht (tE_le hp) hR.1 hR.2.1 (fun s1 r1 _ r3 => ?_)
    refine c_num ht (tE_le hp) r1 (lo := 1) (hi := 100) (by omega) (by omega) rfl rfl (fun n en s3 u1 u2 u3 => ?_) (fun k b en => ?_)
    · exact h1 (_, n) (by unfold aStk; rw [if_pos e, en]; rfl) s3 u1 (fun j hj => (u3 j hj).trans (r3 j hj))
    · exact h0 k b (by unfold aStk; rw [if_pos e, en]; rfl) _ cF8 cF9
  · rw [if_neg e]
    exact ⟨fun z => absurd rfl z, fun _ => h1 (p, 99) (by unfold aStk; rw [if_neg e]) s hR (fun _ _ => rfl)⟩
theorem c_tellTower {tx : Nat → Nat} {N p : Nat} {t s sG tc rg vc st fl : AR} (ht : TxC tx N t) (hp : p ≤ N) (hR : RdC tx N p s) {D : FL} (hF : FlatOK D) (g0 : sG 0 = nI (D 0 0)) (g1 : sG 1 = nI (D 0 1)) (g2 : sG 2 = nI (D 0 2)) (htc : ∀ t, t < D 0 2 → tc t = nI (D 1 t)) {post : Int32 → AR → AR → AR → AR → AR → AR → AR → Prop} (h1 : ∀ p' c r v q f, aTower tx N p D = .inr (p', dTw D c r v q f) → ∀ s', RdC tx N p' s' → (∀ j, 7 < j → s' j = s j) → post 1 (upd sG 2 (nI (D 0 2 + 1))) s' (upd tc (D 0 2) (nI c)) (upd rg (D 0 2) (nI r)) (upd vc (D 0 2) (nI v)) (upd st (D 0 2) (nI q)) (upd fl (D 0 2) (nI f))) (h0 : ∀ k b, aTower tx N p D = .inl (k, b) → ∀ s', s' 8 = nI k → s' 9 = nI b → post 0 sG s' tc rg vc st fl) : wpX9_tellTower sG s tc rg vc st fl t post := by
  have fc := hF.cells
  have f5 := hF.1.2.2.2.2.1
  have hb : ∀ t, t < D 0 2 → D 1 t < 1000 := fun t ht => by have := (hF.2.1 t ht).1; omega
  unfold wpX9_tellTower
  rw [g2]
  refine nm_e ?_
  rw [show (nI (D 0 2) < (5 : Int32)) = (D 0 2 < 5) from propext (nI_ltI (b := 5) (by omega) (by omega))]
  refine ⟨fun e => ?_, fun e => c_refuse hR (k := 2) rfl ⟨nrw0, h0 2 _ (by unfold aTower; rw [if_pos (by omega)]) _ cF8 cF9⟩⟩
  have e1 : ¬ 5 ≤ D 0 2 := by omega
  refine c_advance ht (tE_le hp) hR.1 hR.2.1 (fun s1 r1 _ r3 => ?_)
  have v5 : vp_in (nI (D 0 2)) 5 := vp_in_nI e (by omega)
  refine c_tellCell ht (tE_le hp) r1 hF.1.2.1 hF.1.2.2.2.1 g0 g1 (fun c ec s2 q1 q2 q3 => ?_) (fun k b ec s2 q1 q2 => ?_)
  · have hc := aCell_ok ec
    refine ⟨fun _ => c_hasTowerAt f5 g2 htc hb (by omega) ?_, fun z => absurd z (nI_nem (by omega))⟩
    by_cases eh : hasT D c = true
    · rw [if_pos eh]
      refine ⟨fun z => absurd z (by decide), fun _ => c_refuseBefore q2 (k := 4) rfl ⟨nrw0, h0 4 _ ?_ _ cF8 cF9⟩⟩
      unfold aTower
      rw [if_neg e1, ec]
      show (if hasT D c = true then _ else _) = _
      rw [if_pos eh]
    · rw [if_neg eh]
      refine ⟨fun _ => ?_, fun z => absurd rfl z⟩
      have l3 := tE_le (tx := tx) (tE_le (tx := tx) (tE_le (tx := tx) hp))
      refine c_num ht l3 q1 (lo := 1) (hi := 21) (by omega) (by omega) rfl rfl (fun r er s3 u1 u2 u3 => ?_) (fun k b er => ?_)
      · have ar := aNum_ok er
        refine ⟨fun _ => ?_, fun z => absurd z (nI_nem (by omega))⟩
        refine c_num ht (tE_le l3) u1 (lo := 0) (hi := 4) (by omega) (by omega) rfl rfl (fun v ev s4 w1 w2 w3 => ?_) (fun k b ev => ?_)
        · have av := aNum_ok ev
          refine ⟨fun _ => ?_, fun z => absurd z (nI_nem (by omega))⟩
          refine c_tellStrokes ht (tE_le (tE_le l3)) w1 (fun q eq s5 y1 y2 => ?_) (fun k b eq s5 y1 y2 => ?_)
          · have aq := aStk_ok (tE_le (tE_le l3)) eq
            refine ⟨fun _ => ?_, fun z => absurd z (nI_nem (by omega))⟩
            rw [nI_clamp (by omega)]
            refine ⟨v5, nm_e ⟨v5, nm_e ⟨v5, nm_e ⟨v5, nm_e (c_isWord ht aq.2.1 y1 (by omega) ⟨v5, ?_⟩)⟩⟩⟩⟩
            have res : ∀ (b : Nat) (pp : Nat), b = (if wdB tx N q.1 4 = true then 1 else 0) → pp = (if wdB tx N q.1 4 = true then tE tx N q.1 else q.1) → aTower tx N p D = .inr (pp, dTw D c r v q.2 b) := by
              intro b pp hb' hpp
              unfold aTower
              rw [if_neg e1, ec]
              show (if hasT D c = true then _ else _) = _
              rw [if_neg eh, er]
              show bnd (aNum tx N (tE tx N (tE tx N (tE tx N (tE tx N p)))) 0 4) _ = _
              rw [ev]
              show bnd (aStk tx N (tE tx N (tE tx N (tE tx N (tE tx N (tE tx N p)))))) _ = _
              rw [eq, hb', hpp]
              rfl
            have fr : ∀ j, 7 < j → s5 j = s j := fun j hj => (y2 j hj).trans ((w3 j hj).trans ((u3 j hj).trans ((q3 j hj).trans (r3 j hj))))
            by_cases ew : wdB tx N q.1 4 = true
            · rw [if_pos ew] at res ⊢
              refine nm_r (e' := upd fl (D 0 2) (nI 1)) (by rw [show vp_nar .boolean (1 : Int32) = nI 1 from (n_bool 1 (by omega)).1]) ⟨v5, ?_⟩
              rw [pk_us]
              refine ⟨fun z => absurd z (by decide), fun _ => c_advance ht (tE_le aq.2.1) y1.1 y1.2.1 (fun s6 z1 _ z3 => ?_)⟩
              unfold wpX9_tellTower_J191
              refine nm_r (nI_1 _) (h1 _ c r v q.2 1 (res 1 _ rfl (by rw [if_pos ew])) s6 z1 (fun j hj => (z3 j hj).trans (fr j hj)))
            · rw [if_neg ew] at res ⊢
              refine nm_r (e' := upd fl (D 0 2) (nI 0)) (by rw [show vp_nar .boolean (0 : Int32) = nI 0 from (n_bool 0 (by omega)).1]) ⟨v5, ?_⟩
              rw [pk_us]
              refine ⟨fun _ => ?_, fun z => absurd rfl z⟩
              unfold wpX9_tellTower_J191
              refine nm_r (nI_1 _) (h1 _ c r v q.2 0 (res 0 _ rfl (by rw [if_neg ew])) s5 y1 fr)
          · refine ⟨fun z => absurd rfl z, fun _ => h0 k b ?_ _ y1 y2⟩
            unfold aTower
            rw [if_neg e1, ec]
            show (if hasT D c = true then _ else _) = _
            rw [if_neg eh, er]
            show bnd (aNum tx N (tE tx N (tE tx N (tE tx N (tE tx N p)))) 0 4) _ = _
            rw [ev]
            show bnd (aStk tx N (tE tx N (tE tx N (tE tx N (tE tx N (tE tx N p)))))) _ = _
            rw [eq]
            rfl
        · refine ⟨fun z => absurd rfl z, fun _ => h0 k b ?_ _ cF8 cF9⟩
          unfold aTower
          rw [if_neg e1, ec]
          show (if hasT D c = true then _ else _) = _
          rw [if_neg eh, er]
          show bnd (aNum tx N (tE tx N (tE tx N (tE tx N (tE tx N p)))) 0 4) _ = _
          rw [ev]
          rfl
      · refine ⟨fun z => absurd rfl z, fun _ => h0 k b ?_ _ cF8 cF9⟩
        unfold aTower
        rw [if_neg e1, ec]
        show (if hasT D c = true then _ else _) = _
        rw [if_neg eh, er]
        rfl
  · exact ⟨fun z => absurd rfl z, fun _ => h0 k b (by unfold aTower; rw [if_neg e1, ec]; rfl) _ q1 q2⟩
