/-! drafts stay good -/
theorem DOK.size {D : FL} (h : DOK D) (h2 : D 0 2 = 0) (h3 : D 0 3 = 0) {w g : Nat} (hw : 2 ≤ w ∧ w < 11) (hg : 2 ≤ g ∧ g < 11) : DOK (dU (dU D 0 0 w) 0 1 g) := by
  obtain ⟨⟨⟨f1, f2, f3, f4, f5, f6, f7, f8, f9⟩, ft, fw, fm⟩, gt, gw⟩ := h
  have e00 : dU (dU D 0 0 w) 0 1 g 0 0 = w := by rw [dU_o (Or.inr (by omega)), dU_s]
  have e01 : dU (dU D 0 0 w) 0 1 g 0 1 = g := dU_s
  have eo : ∀ a b, (a ≠ 0 ∨ (b ≠ 0 ∧ b ≠ 1)) → dU (dU D 0 0 w) 0 1 g a b = D a b := fun a b hab => by rw [dU_o (by omega), dU_o (by omega)]
  refine ⟨⟨⟨by rw [e00]; omega, by rw [e00]; omega, by rw [e01]; omega, by rw [e01]; omega, ?_, ?_, ?_, ?_, ?_⟩, fun t ht => ?_, fun x hx => ?_, fun c => ?_⟩, fun t ht => ?_, fun x hx => ?_⟩
  · rw [eo _ _ (by omega)]; exact f5
  · rw [eo _ _ (by omega)]; exact f6
  · rw [eo _ _ (by omega)]; exact f7
  · rw [eo _ _ (by omega)]; exact f8
  · rw [eo _ _ (by omega)]; exact f9
  · rw [eo 0 2 (by omega), h2] at ht; omega
  · rw [eo 0 3 (by omega), h3] at hx; omega
  · rw [eo 6 c (by omega)]; exact fm c
  · rw [eo 0 2 (by omega), h2] at ht; omega
  · rw [eo 0 3 (by omega), h3] at hx; omega
theorem DOK.wind {D : FL} (h : DOK D) {d s : Nat} (hd : d < 4) (hs : s < 4) : DOK (dU (dU D 0 4 d) 0 5 s) := by
  obtain ⟨⟨⟨f1, f2, f3, f4, f5, f6, f7, f8, f9⟩, ft, fw, fm⟩, gt, gw⟩ := h
  have e4 : dU (dU D 0 4 d) 0 5 s 0 4 = d := by rw [dU_o (Or.inr (by omega)), dU_s]
  have e5 : dU (dU D 0 4 d) 0 5 s 0 5 = s := dU_s
  have eo : ∀ a b, (a ≠ 0 ∨ (b ≠ 4 ∧ b ≠ 5)) → dU (dU D 0 4 d) 0 5 s a b = D a b := fun a b hab => by rw [dU_o (by omega), dU_o (by omega)]
  refine ⟨⟨⟨?_, ?_, ?_, ?_, ?_, ?_, by rw [e4]; omega, by rw [e5]; omega, ?_⟩, fun t ht => ?_, fun x hx => ?_, fun c => ?_⟩, fun t ht => ?_, fun x hx => ?_⟩
  · rw [eo _ _ (by omega)]; exact f1
  · rw [eo _ _ (by omega)]; exact f2
  · rw [eo _ _ (by omega)]; exact f3
  · rw [eo _ _ (by omega)]; exact f4
  · rw [eo _ _ (by omega)]; exact f5
  · rw [eo _ _ (by omega)]; exact f6
  · rw [eo _ _ (by omega)]; exact f9
  · rw [eo 0 2 (by omega)] at ht
    rw [eo 1 t (by omega), eo 0 0 (by omega), eo 0 1 (by omega), eo 2 t (by omega), eo 3 t (by omega), eo 4 t (by omega)]
    exact ft t ht
  · rw [eo 0 3 (by omega)] at hx
    rw [eo 5 x (by omega)]; exact fw x hx
  · rw [eo 6 c (by omega)]; exact fm c
  · rw [eo 0 2 (by omega)] at ht
    rw [eo 7 t (by omega)]; exact gt t ht
  · rw [eo 0 3 (by omega)] at hx
    rw [eo 8 x (by omega), eo 9 x (by omega), eo 0 0 (by omega), eo 0 1 (by omega)]; exact gw x hx
theorem DOK.night {D : FL} (h : DOK D) {n : Nat} (hn : n < 10) : DOK (dU D 0 6 n) := by
  obtain ⟨⟨⟨f1, f2, f3, f4, f5, f6, f7, f8, f9⟩, ft, fw, fm⟩, gt, gw⟩ := h
  have e6 : dU D 0 6 n 0 6 = n := dU_s
  have eo : ∀ a b, (a ≠ 0 ∨ b ≠ 6) → dU D 0 6 n a b = D a b := fun a b hab => dU_o hab
  refine ⟨⟨⟨?_, ?_, ?_, ?_, ?_, ?_, ?_, ?_, by rw [e6]; omega⟩, fun t ht => ?_, fun x hx => ?_, fun c => ?_⟩, fun t ht => ?_, fun x hx => ?_⟩
  · rw [eo _ _ (by omega)]; exact f1
  · rw [eo _ _ (by omega)]; exact f2
  · rw [eo _ _ (by omega)]; exact f3
  · rw [eo _ _ (by omega)]; exact f4
  · rw [eo _ _ (by omega)]; exact f5
  · rw [eo _ _ (by omega)]; exact f6
  · rw [eo _ _ (by omega)]; exact f7
  · rw [eo _ _ (by omega)]; exact f8
  · rw [eo 0 2 (by omega)] at ht
    rw [eo 1 t (by omega), eo 0 0 (by omega), eo 0 1 (by omega), eo 2 t (by omega), eo 3 t (by omega), eo 4 t (by omega)]
    exact ft t ht
  · rw [eo 0 3 (by omega)] at hx
    rw [eo 5 x (by omega)]; exact fw x hx
  · rw [eo 6 c (by omega)]; exact fm c
  · rw [eo 0 2 (by omega)] at ht
    rw [eo 7 t (by omega)]; exact gt t ht
  · rw [eo 0 3 (by omega)] at hx
    rw [eo 8 x (by omega), eo 9 x (by omega), eo 0 0 (by omega), eo 0 1 (by omega)]; exact gw x hx
theorem DOK.mirage {D : FL} (h : DOK D) {c : Nat} : DOK (dU D 6 c 1) := by
  obtain ⟨⟨⟨f1, f2, f3, f4, f5, f6, f7, f8, f9⟩, ft, fw, fm⟩, gt, gw⟩ := h
  have eo : ∀ a b, a ≠ 6 → dU D 6 c 1 a b = D a b := fun a b hab => dU_o (Or.inl hab)
  refine ⟨⟨⟨?_, ?_, ?_, ?_, ?_, ?_, ?_, ?_, ?_⟩, fun t ht => ?_, fun x hx => ?_, fun c' => ?_⟩, fun t ht => ?_, fun x hx => ?_⟩
  · rw [eo _ _ (by omega)]; exact f1
  · rw [eo _ _ (by omega)]; exact f2
  · rw [eo _ _ (by omega)]; exact f3
  · rw [eo _ _ (by omega)]; exact f4
  · rw [eo _ _ (by omega)]; exact f5
  · rw [eo _ _ (by omega)]; exact f6
  · rw [eo _ _ (by omega)]; exact f7
  · rw [eo _ _ (by omega)]; exact f8
  · rw [eo _ _ (by omega)]; exact f9
  · rw [eo 0 2 (by omega)] at ht
    rw [eo 1 t (by omega), eo 0 0 (by omega), eo 0 1 (by omega), eo 2 t (by omega), eo 3 t (by omega), eo 4 t (by omega)]
    exact ft t ht
  · rw [eo 0 3 (by omega)] at hx
    rw [eo 5 x (by omega)]; exact fw x hx
  · unfold dU
    split
    · omega
    · exact fm c'
  · rw [eo 0 2 (by omega)] at ht
    rw [eo 7 t (by omega)]; exact gt t ht
  · rw [eo 0 3 (by omega)] at hx
    rw [eo 8 x (by omega), eo 9 x (by omega), eo 0 0 (by omega), eo 0 1 (by omega)]; exact gw x hx
abbrev dTw (D : FL) (c r v s f : Nat) : FL := dU (dU (dU (dU (dU (dU D 1 (D 0 2) c) 2 (D 0 2) r) 3 (D 0 2) v) 7 (D 0 2) s) 4 (D 0 2) f) 0 2 (D 0 2 + 1)
theorem dTw_o {D : FL} {c r v s f a b : Nat} (h : (a = 0 ∧ b ≠ 2) ∨ a = 5 ∨ a = 6 ∨ a = 8 ∨ a = 9 ∨ (a ≠ 0 ∧ b ≠ D 0 2)) : dTw D c r v s f a b = D a b := by
  unfold dTw
  rw [dU_o (by omega), dU_o (by omega), dU_o (by omega), dU_o (by omega), dU_o (by omega), dU_o (by omega)]
theorem dTw_2 {D : FL} {c r v s f : Nat} : dTw D c r v s f 0 2 = D 0 2 + 1 := dU_s
theorem dTw_n {D : FL} {c r v s f : Nat} : dTw D c r v s f 1 (D 0 2) = c ∧ dTw D c r v s f 2 (D 0 2) = r ∧ dTw D c r v s f 3 (D 0 2) = v ∧ dTw D c r v s f 4 (D 0 2) = f ∧ dTw D c r v s f 7 (D 0 2) = s := by
  unfold dTw
  refine ⟨?_, ?_, ?_, ?_, ?_⟩
  · rw [dU_o (by omega), dU_o (by omega), dU_o (by omega), dU_o (by omega), dU_o (by omega), dU_s]
  · rw [dU_o (by omega), dU_o (by omega), dU_o (by omega), dU_o (by omega), dU_s]
  · rw [dU_o (by omega), dU_o (by omega), dU_o (by omega), dU_s]
  · rw [dU_o (by omega), dU_s]
  · rw [dU_o (by omega), dU_o (by omega), dU_s]
theorem DOK.tower {D : FL} (h : DOK D) {c r v s f : Nat} (hT : ¬ 5 ≤ D 0 2) (hc : c < D 0 0 * D 0 1) (hr : 1 ≤ r ∧ r < 21) (hv : v < 4) (hs : 1 ≤ s ∧ s < 100) (hf : f ≤ 1) : DOK (dTw D c r v s f) := by
  obtain ⟨⟨⟨f1, f2, f3, f4, f5, f6, f7, f8, f9⟩, ft, fw, fm⟩, gt, gw⟩ := h
  obtain ⟨n1, n2, n3, n4, n7⟩ := dTw_n (D := D) (c := c) (r := r) (v := v) (s := s) (f := f)
  refine ⟨⟨⟨?_, ?_, ?_, ?_, ?_, ?_, ?_, ?_, ?_⟩, fun t ht => ?_, fun x hx => ?_, fun c' => ?_⟩, fun t ht => ?_, fun x hx => ?_⟩
  · rw [dTw_o (by omega)]; exact f1
  · rw [dTw_o (by omega)]; exact f2
  · rw [dTw_o (by omega)]; exact f3
  · rw [dTw_o (by omega)]; exact f4
  · rw [dTw_2]; omega
  · rw [dTw_o (by omega)]; exact f6
  · rw [dTw_o (by omega)]; exact f7
  · rw [dTw_o (by omega)]; exact f8
  · rw [dTw_o (by omega)]; exact f9
  · rw [dTw_2] at ht
    rw [dTw_o (a := 0) (b := 0) (by omega), dTw_o (a := 0) (b := 1) (by omega)]
    by_cases e : t = D 0 2
    · subst e; rw [n1, n2, n3, n4]; exact ⟨hc, hr.1, by omega, hv, hf⟩
    · rw [dTw_o (by omega), dTw_o (by omega), dTw_o (by omega), dTw_o (by omega)]; exact ft t (by omega)
  · rw [dTw_o (by omega)] at hx
    rw [dTw_o (by omega)]; exact fw x hx
  · rw [dTw_o (by omega)]; exact fm c'
  · rw [dTw_2] at ht
    by_cases e : t = D 0 2
    · subst e; rw [n7]; omega
    · rw [dTw_o (by omega)]; exact gt t (by omega)
  · rw [dTw_o (by omega)] at hx
    rw [dTw_o (by omega), dTw_o (by omega), dTw_o (by omega), dTw_o (by omega)]; exact gw x hx
abbrev dWk (D : FL) (k c w : Nat) : FL := dU (dU (dU (dU D 5 (D 0 3) k) 8 (D 0 3) c) 9 (D 0 3) w) 0 3 (D 0 3 + 1)
theorem dWk_o {D : FL} {k c w a b : Nat} (h : (a = 0 ∧ b ≠ 3) ∨ a = 1 ∨ a = 2 ∨ a = 3 ∨ a = 4 ∨ a = 6 ∨ a = 7 ∨ (a ≠ 0 ∧ b ≠ D 0 3)) : dWk D k c w a b = D a b := by
  unfold dWk
  rw [dU_o (by omega), dU_o (by omega), dU_o (by omega), dU_o (by omega)]
theorem dWk_3 {D : FL} {k c w : Nat} : dWk D k c w 0 3 = D 0 3 + 1 := dU_s
theorem dWk_n {D : FL} {k c w : Nat} : dWk D k c w 5 (D 0 3) = k ∧ dWk D k c w 8 (D 0 3) = c ∧ dWk D k c w 9 (D 0 3) = w := by
  unfold dWk
  refine ⟨?_, ?_, ?_⟩
  · rw [dU_o (by omega), dU_o (by omega), dU_o (by omega), dU_s]
  · rw [dU_o (by omega), dU_o (by omega), dU_s]
  · rw [dU_o (by omega), dU_s]
theorem DOK.walker {D : FL} (h : DOK D) {k c w : Nat} (hW : ¬ 4 ≤ D 0 3) (hk : k < 5) (hc : c < D 0 0 * D 0 1) (hw : w < 100) : DOK (dWk D k c w) := by
  obtain ⟨⟨⟨f1, f2, f3, f4, f5, f6, f7, f8, f9⟩, ft, fw, fm⟩, gt, gw⟩ := h
  obtain ⟨n5, n8, n9⟩ := dWk_n (D := D) (k := k) (c := c) (w := w)
  refine ⟨⟨⟨?_, ?_, ?_, ?_, ?_, ?_, ?_, ?_, ?_⟩, fun t ht => ?_, fun x hx => ?_, fun c' => ?_⟩, fun t ht => ?_, fun x hx => ?_⟩
  · rw [dWk_o (by omega)]; exact f1
  · rw [dWk_o (by omega)]; exact f2
  · rw [dWk_o (by omega)]; exact f3
  · rw [dWk_o (by omega)]; exact f4
  · rw [dWk_o (by omega)]; exact f5
  · rw [dWk_3]; omega
  · rw [dWk_o (by omega)]; exact f7
  · rw [dWk_o (by omega)]; exact f8
  · rw [dWk_o (by omega)]; exact f9
  · rw [dWk_o (by omega)] at ht
    rw [dWk_o (by omega), dWk_o (by omega), dWk_o (by omega), dWk_o (by omega), dWk_o (by omega), dWk_o (by omega)]; exact ft t ht
  · rw [dWk_3] at hx
    by_cases e : x = D 0 3
    · subst e; rw [n5]; exact hk
    · rw [dWk_o (by omega)]; exact fw x (by omega)
  · rw [dWk_o (by omega)]; exact fm c'
  · rw [dWk_o (by omega)] at ht
    rw [dWk_o (by omega)]; exact gt t ht
  · rw [dWk_3] at hx
    rw [dWk_o (a := 0) (b := 0) (by omega), dWk_o (a := 0) (b := 1) (by omega)]
    by_cases e : x = D 0 3
    · subst e; rw [n8, n9]; exact ⟨hc, by omega⟩
    · rw [dWk_o (by omega), dWk_o (by omega)]; exact gw x (by omega)
theorem bnd_r {α β : Type} {x : PR α} {f : α → PR β} {b : β} (h : bnd x f = .inr b) : ∃ a, x = .inr a ∧ f a = .inr b := by
  cases x with
  | inl e => exact absurd h (by simp [bnd])
  | inr a => exact ⟨a, rfl, h⟩
theorem aStk_ok {tx : Nat → Nat} {N p : Nat} {q : Nat × Nat} (hp : p ≤ N) (h : aStk tx N p = .inr q) : p ≤ q.1 ∧ q.1 ≤ N ∧ 1 ≤ q.2 ∧ q.2 < 100 := by
  unfold aStk at h
  by_cases e : wdB tx N p 3 = true
  · rw [if_pos e] at h
    obtain ⟨s, h1, h2⟩ := bnd_r h
    injection h2 with h2
    subst h2
    have := aNum_ok h1
    have a1 := tB_ge tx N p
    have a2 := tE_ge tx N p
    have a3 := tB_ge tx N (tE tx N p)
    have a4 := tE_ge tx N (tE tx N p)
    exact ⟨by show p ≤ tE tx N (tE tx N p); omega, tE_le (tE_le hp), this.1, this.2.1⟩
  · rw [if_neg e] at h
    injection h with h
    subst h
    exact ⟨Nat.le_refl _, hp, by show 1 ≤ 99; omega, by show 99 < 100; omega⟩
theorem kndB_le (tx : Nat → Nat) (N p : Nat) : kndB tx N p ≤ 5 := by
  unfold kndB
  repeat (split; omega)
  omega
theorem dirB_le (tx : Nat → Nat) (N p : Nat) : dirB tx N p ≤ 4 := by
  unfold dirB
  repeat (split; omega)
  omega
theorem tE_p {tx : Nat → Nat} {N p : Nat} : p ≤ tE tx N p := Nat.le_trans (tB_ge tx N p) (tE_ge tx N p)
theorem aLine_ok {tx : Nat → Nat} {N p : Nat} {D D' : FL} {sn p' : Nat} (hp : p ≤ N) (hK : tK tx N p ≠ 0) (hOK : DOK D) (hz : sn = 0 → D 0 2 = 0 ∧ D 0 3 = 0) (h : aLine tx N p D sn = .inr (p', D')) : DOK D' ∧ p < p' ∧ p' ≤ N := by
  have hgt : p < tE tx N p := Nat.lt_of_le_of_lt (tB_ge tx N p) (tE_gt hK)
  have q1 : p < tE tx N (tE tx N p) := Nat.lt_of_lt_of_le hgt tE_p
  have q2 : p < tE tx N (tE tx N (tE tx N p)) := Nat.lt_of_lt_of_le q1 tE_p
  have q3 : p < tE tx N (tE tx N (tE tx N (tE tx N p))) := Nat.lt_of_lt_of_le q2 tE_p
  have q4 : p < tE tx N (tE tx N (tE tx N (tE tx N (tE tx N p)))) := Nat.lt_of_lt_of_le q3 tE_p
  have l1 := tE_le (tx := tx) hp
  have l2 := tE_le (tx := tx) l1
  have l3 := tE_le (tx := tx) l2
  have l4 := tE_le (tx := tx) l3
  have l5 := tE_le (tx := tx) l4
  unfold aLine at h
  by_cases e1 : wdB tx N p 1 = true
  · rw [if_pos e1] at h
    unfold aSize at h
    by_cases es : sn ≠ 0
    · rw [if_pos es] at h; exact absurd h (by simp)
    · rw [if_neg es] at h
      obtain ⟨w, h1, h⟩ := bnd_r h
      obtain ⟨g, h2, h⟩ := bnd_r h
      injection h with h
      injection h with ha hb
      subst ha hb
      obtain ⟨z1, z2⟩ := hz (by omega)
      have a1 := aNum_ok h1
      have a2 := aNum_ok h2
      exact ⟨hOK.size z1 z2 ⟨a1.1, a1.2.1⟩ ⟨a2.1, a2.2.1⟩, q2, l3⟩
  rw [if_neg e1] at h
  by_cases e2 : wdB tx N p 2 = true
  · rw [if_pos e2] at h
    unfold aTower at h
    by_cases et : 5 ≤ D 0 2
    · rw [if_pos et] at h; exact absurd h (by simp)
    · rw [if_neg et] at h
      obtain ⟨c, h1, h⟩ := bnd_r h
      by_cases eh : hasT D c = true
      · rw [if_pos eh] at h; exact absurd h (by simp)
      · rw [if_neg eh] at h
        obtain ⟨r, h2, h⟩ := bnd_r h
        obtain ⟨v, h3, h⟩ := bnd_r h
        obtain ⟨s, h4, h⟩ := bnd_r h
        injection h with h
        injection h with ha hb
        subst ha hb
        have a2 := aNum_ok h2
        have a3 := aNum_ok h3
        have a4 := aStk_ok l5 h4
        refine ⟨hOK.tower et (aCell_ok h1) ⟨a2.1, a2.2.1⟩ a3.2.1 ⟨a4.2.2.1, a4.2.2.2⟩ (by split <;> omega), ?_, ?_⟩
        · split
          · have := tE_p (tx := tx) (N := N) (p := s.1); omega
          · omega
        · split
          · exact tE_le a4.2.1
          · exact a4.2.1
  rw [if_neg e2] at h
  by_cases e3 : wdB tx N p 5 = true
  · rw [if_pos e3] at h
    unfold aWind at h
    by_cases et : bt1 sn 1 = 1
    · rw [if_pos et] at h; exact absurd h (by simp)
    · rw [if_neg et] at h
      by_cases ed : dirB tx N (tE tx N p) = 0
      · rw [if_pos ed] at h; exact absurd h (by simp)
      · rw [if_neg ed] at h
        obtain ⟨s, h1, h⟩ := bnd_r h
        injection h with h
        injection h with ha hb
        subst ha hb
        have := dirB_le tx N (tE tx N p)
        exact ⟨hOK.wind (by omega) (aNum_ok h1).2.1, q2, l3⟩
  rw [if_neg e3] at h
  by_cases e4 : wdB tx N p 10 = true
  · rw [if_pos e4] at h
    unfold aNight at h
    by_cases et : bt1 sn 2 = 1
    · rw [if_pos et] at h; exact absurd h (by simp)
    · rw [if_neg et] at h
      obtain ⟨s, h1, h⟩ := bnd_r h
      injection h with h
      injection h with ha hb
      subst ha hb
      exact ⟨hOK.night (aNum_ok h1).2.1, q1, l2⟩
  rw [if_neg e4] at h
  by_cases e5 : wdB tx N p 11 = true
  · rw [if_pos e5] at h
    unfold aMirage at h
    obtain ⟨c, h1, h⟩ := bnd_r h
    by_cases em : D 6 c = 0
    · rw [if_pos em] at h
      injection h with h
      injection h with ha hb
      subst ha hb
      exact ⟨hOK.mirage, q2, l3⟩
    · rw [if_neg em] at h; exact absurd h (by simp)
  rw [if_neg e5] at h
  by_cases e6 : kndB tx N p = 0
  · rw [if_pos e6] at h; exact absurd h (by simp)
  · rw [if_neg e6] at h
    unfold aWalker at h
    by_cases et : 4 ≤ D 0 3
    · rw [if_pos et] at h; exact absurd h (by simp)
    · rw [if_neg et] at h
      obtain ⟨c, h1, h⟩ := bnd_r h
      obtain ⟨w, h2, h⟩ := bnd_r h
      injection h with h
      injection h with ha hb
      subst ha hb
      have := kndB_le tx N p
      exact ⟨hOK.walker et (by omega) (aCell_ok h1) (aNum_ok h2).2.1, q3, l4⟩
