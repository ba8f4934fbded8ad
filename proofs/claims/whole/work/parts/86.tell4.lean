theorem sn_bits : ∀ sn, sn < 16 → (bt1 (sn ||| 1) 1 = bt1 sn 1 ∧ bt1 (sn ||| 1) 2 = bt1 sn 2) ∧ (bt1 (sn ||| 2) 1 = 1 ∧ bt1 (sn ||| 2) 2 = bt1 sn 2) ∧ (bt1 (sn ||| 4) 1 = bt1 sn 1 ∧ bt1 (sn ||| 4) 2 = 1) ∧ (bt1 (sn ||| 8) 1 = bt1 sn 1 ∧ bt1 (sn ||| 8) 2 = bt1 sn 2) ∧ (sn ||| 1 < 16 ∧ sn ||| 2 < 16 ∧ sn ||| 4 < 16 ∧ sn ||| 8 < 16) ∧ (sn ||| 1 ≠ 0 ∧ sn ||| 2 ≠ 0 ∧ sn ||| 4 ≠ 0 ∧ sn ||| 8 ≠ 0) := by decide +kernel
theorem lnB_c (tx : Nat → Nat) (N p : Nat) : lnB tx N p = 1 ∨ lnB tx N p = 2 ∨ lnB tx N p = 4 ∨ lnB tx N p = 8 := by
  unfold lnB
  split
  · omega
  · split
    · omega
    · split <;> omega
theorem sn_next {tx : Nat → Nat} {N p sn : Nat} (h : sn < 16) : sn ||| lnB tx N p < 16 ∧ sn ||| lnB tx N p ≠ 0 := by
  obtain ⟨-, -, -, -, ⟨a1, a2, a3, a4⟩, ⟨b1, b2, b3, b4⟩⟩ := sn_bits sn h
  rcases lnB_c tx N p with e | e | e | e <;> rw [e]
  · exact ⟨a1, b1⟩
  · exact ⟨a2, b2⟩
  · exact ⟨a3, b3⟩
  · exact ⟨a4, b4⟩
theorem wd_no {tx : Nat → Nat} {N p k k' : Nat} (h : wdB tx N p k = true) (hne : skB k ≠ skB k') : wdB tx N p k' = false := by
  cases e : wdB tx N p k' with
  | false => rfl
  | true => exact absurd (wd_inj h e) hne
theorem c_tellLine {tx : Nat → Nat} {N p sn : Nat} {t s sG sL tc rg vc st fl kd hm wt mi : AR} (ht : TxC tx N t) (hp : p ≤ N) (hR : RdC tx N p s) {D : FL} (hF : FlatOK D) (hD : DC D sG tc rg vc st fl kd hm wt mi) (hsn : sn < 16) (hL2 : sL 2 = nI (bt1 sn 1)) (hL3 : sL 3 = nI (bt1 sn 2)) {x1 : Int32} (hx : x1 = (if sn = 0 then 1 else 0)) {post : Int32 → AR → AR → AR → AR → AR → AR → AR → AR → AR → AR → AR → AR → Prop}
    (h1 : ∀ p' D', aLine tx N p D sn = .inr (p', D') → ∀ sL' s' sG' tc' rg' vc' st' fl' kd' hm' wt' mi', RdC tx N p' s' → (∀ j, 7 < j → s' j = s j) → DC D' sG' tc' rg' vc' st' fl' kd' hm' wt' mi' → sL' 2 = nI (bt1 (sn ||| lnB tx N p) 1) → sL' 3 = nI (bt1 (sn ||| lnB tx N p) 2) → post 1 sL' s' sG' tc' rg' vc' st' fl' kd' hm' wt' mi')
    (h0 : ∀ k b, aLine tx N p D sn = .inl (k, b) → ∀ sL' s' sG' tc' rg' vc' st' fl' kd' hm' wt' mi', s' 8 = nI k → s' 9 = nI b → post 0 sL' s' sG' tc' rg' vc' st' fl' kd' hm' wt' mi') : wpX9_tellLine sL s sG t tc rg vc st fl kd hm wt mi x1 post := by
  have hD2 := hD
  obtain ⟨d1, d2, d3, d4⟩ := hD
  obtain ⟨⟨b11, b12⟩, ⟨b21, b22⟩, ⟨b41, b42⟩, ⟨b81, b82⟩, -, -⟩ := sn_bits sn hsn
  have w := fun k (hk : k < 50) {post : Int32 → Prop} => c_isWord ht hp hR hk (post := post)
  unfold wpX9_tellLine
  unfold aLine lnB at *
  refine w 1 (by omega) ?_
  by_cases e1 : wdB tx N p 1 = true
  · rw [if_pos e1]
    simp only [if_pos e1] at h1 h0
    refine ⟨fun z => absurd z (by decide), fun _ => ?_⟩
    by_cases es : sn = 0
    · subst es
      rw [if_pos rfl] at hx
      subst hx
      refine ⟨fun z => absurd z (by decide), fun _ => c_tellSize ht hp hR (fun w' g' er s' a1 a2 => ⟨nrw1, ?_⟩) (fun k b er s' a1 a2 => ⟨nrw0, h0 k b er _ _ _ _ _ _ _ _ _ _ _ _ a1 a2⟩)⟩
      exact h1 _ _ er _ _ _ _ _ _ _ _ _ _ _ _ a1 a2 (hD2.size w' g') (hL2.trans (by rw [b11])) (hL3.trans (by rw [b12]))
    · rw [if_neg es] at hx
      subst hx
      refine ⟨fun _ => c_refuse hR (k := 3) rfl ⟨nrw0, h0 3 _ (by unfold aSize; rw [if_pos es]) _ _ _ _ _ _ _ _ _ _ _ _ cF8 cF9⟩, fun z => absurd rfl z⟩
  rw [if_neg e1]
  simp only [if_neg e1] at h1 h0
  refine ⟨fun _ => w 2 (by omega) ?_, fun z => absurd rfl z⟩
  by_cases e2 : wdB tx N p 2 = true
  · have n5 := wd_no (k' := 5) e2 (by decide)
    have n10 := wd_no (k' := 10) e2 (by decide)
    rw [if_pos e2]
    simp only [if_pos e2] at h1 h0
    rw [n5, n10] at h1
    refine ⟨fun z => absurd z (by decide), fun _ => c_tellTower ht hp hR hF (d1 0 (by omega)) (d1 1 (by omega)) (d1 2 (by omega)) (fun t ht => (d2 t ht).1) (fun p' c r v q f er s' a1 a2 => ⟨nrw1, ?_⟩) (fun k b er s' a1 a2 => ⟨nrw0, h0 k b er _ _ _ _ _ _ _ _ _ _ _ _ a1 a2⟩)⟩
    exact h1 _ _ er _ _ _ _ _ _ _ _ _ _ _ _ a1 a2 (hD2.tower c r v q f) (hL2.trans (by rw [← b81]; rfl)) (hL3.trans (by rw [← b82]; rfl))
  rw [if_neg e2]
  simp only [if_neg e2] at h1 h0
  refine ⟨fun _ => w 5 (by omega) ?_, fun z => absurd rfl z⟩
  by_cases e3 : wdB tx N p 5 = true
  · rw [if_pos e3]
    simp only [if_pos e3] at h1 h0
    refine ⟨fun z => absurd z (by decide), fun _ => c_tellWind ht hp hR hL2 (fun d n er s' a1 a2 => ⟨nrw1, ?_⟩) (fun k b er sL' s' a1 a2 => ⟨nrw0, h0 k b er _ _ _ _ _ _ _ _ _ _ _ _ a1 a2⟩)⟩
    refine h1 _ _ er _ _ _ _ _ _ _ _ _ _ _ _ a1 a2 (hD2.wind d n) ?_ ?_
    · rw [pk_us, b21]; rfl
    · rw [pk_un (by omega), b22]; exact hL3
  rw [if_neg e3]
  simp only [if_neg e3] at h1 h0
  refine ⟨fun _ => w 10 (by omega) ?_, fun z => absurd rfl z⟩
  by_cases e4 : wdB tx N p 10 = true
  · rw [if_pos e4]
    simp only [if_pos e4] at h1 h0
    refine ⟨fun z => absurd z (by decide), fun _ => c_tellNight ht hp hR hL3 (fun n er s' a1 a2 => ⟨nrw1, ?_⟩) (fun k b er sL' s' a1 a2 => ⟨nrw0, h0 k b er _ _ _ _ _ _ _ _ _ _ _ _ a1 a2⟩)⟩
    refine h1 _ _ er _ _ _ _ _ _ _ _ _ _ _ _ a1 a2 (hD2.night n) ?_ ?_
    · rw [pk_un (by omega), b41]; exact hL2
    · rw [pk_us, b42]; rfl
  rw [if_neg e4]
  simp only [if_neg e4] at h1 h0
  refine ⟨fun _ => w 11 (by omega) ?_, fun z => absurd rfl z⟩
  by_cases e5 : wdB tx N p 11 = true
  · rw [if_pos e5]
    simp only [if_pos e5] at h1 h0
    refine ⟨fun z => absurd z (by decide), fun _ => c_tellMirage ht hp hR hF (d1 0 (by omega)) (d1 1 (by omega)) d4 (fun c er s' a1 a2 => ⟨nrw1, ?_⟩) (fun k b er s' a1 a2 => ⟨nrw0, h0 k b er _ _ _ _ _ _ _ _ _ _ _ _ a1 a2⟩)⟩
    exact h1 _ _ er _ _ _ _ _ _ _ _ _ _ _ _ a1 a2 (hD2.mirage c) (hL2.trans (by rw [b81])) (hL3.trans (by rw [b82]))
  rw [if_neg e5]
  simp only [if_neg e5] at h1 h0
  refine ⟨fun _ => c_kind ht hp hR ?_, fun z => absurd rfl z⟩
  have hkl := kndB_le tx N p
  rw [show (-1 : Int32) = -nI 1 from rfl, tI_none (by omega)]
  refine ⟨fun e6 => ?_, fun e6 => ?_⟩
  · simp only [if_neg e6] at h1 h0
    rw [show tI (kndB tx N p) = nI (kndB tx N p - 1) by cases eq : kndB tx N p with | zero => exact absurd eq e6 | succ c => rfl]
    refine c_tellWalker ht hp hR hF (d1 0 (by omega)) (d1 1 (by omega)) (d1 3 (by omega)) (fun c w' er s' a1 a2 => ⟨nrw1, ?_⟩) (fun k b er s' a1 a2 => ⟨nrw0, h0 k b er _ _ _ _ _ _ _ _ _ _ _ _ a1 a2⟩)
    exact h1 _ _ er _ _ _ _ _ _ _ _ _ _ _ _ a1 a2 (hD2.walker _ c w') (hL2.trans (by rw [b81])) (hL3.trans (by rw [b82]))
  · simp only [if_pos e6] at h1 h0
    exact c_refuse hR (k := 1) rfl ⟨nrw0, h0 1 _ rfl _ _ _ _ _ _ _ _ _ _ _ _ cF8 cF9⟩
/-- the draft at the beginning -/
def D0 : FL := fun a b => if a = 0 ∧ (b = 0 ∨ b = 1) then 6 else 0
theorem D0_ok : DOK D0 := by
  refine ⟨⟨⟨by decide, by decide, by decide, by decide, by decide, by decide, by decide, by decide, by decide⟩, fun t ht => ?_, fun w hw => ?_, fun c => ?_⟩, fun t ht => ?_, fun w hw => ?_⟩
  · exact absurd (show t < 0 from ht) (by omega)
  · exact absurd (show w < 0 from hw) (by omega)
  · show D0 6 c ≤ 1
    unfold D0
    rw [if_neg (by omega)]
    omega
  · exact absurd (show t < 0 from ht) (by omega)
  · exact absurd (show w < 0 from hw) (by omega)
theorem c_clear {sG mi : AR} {post : AR → AR → Prop} (hk : ∀ sG' mi', (∀ k, k < 7 → sG' k = nI (D0 0 k)) → (∀ c, c < 100 → mi' c = nI 0) → post sG' mi') : wpX4_clear sG mi post := by
  unfold wpX4_clear
  refine loop_0 (fun n i (q : AR) => wpX4_clear_L39 (upd (upd (upd (upd (upd (upd (upd sG 0 (6 : Int32)) 1 (6 : Int32)) 2 (0 : Int32)) 3 (0 : Int32)) 4 (0 : Int32)) 5 (0 : Int32)) 6 (0 : Int32)) _ post n q (nI i)) (fun i q => ∀ c, c < i → q c = nI 0) 100 mi (fun c hc => absurd hc (Nat.not_lt_zero _)) ?_ ?_
  · intro n q hI
    show wpX4_clear_L39 (upd (upd (upd (upd (upd (upd (upd sG 0 (6 : Int32)) 1 (6 : Int32)) 2 (0 : Int32)) 3 (0 : Int32)) 4 (0 : Int32)) 5 (0 : Int32)) 6 (0 : Int32)) _ post (n + 1) q (nI 100)
    unfold wpX4_clear_L39
    refine ⟨fun _ => hk _ _ (fun k hk7 => ?_) hI, fun z => absurd (nI_le (Nat.le_refl 100) (by decide)) z⟩
    rcases (show k = 0 ∨ k = 1 ∨ k = 2 ∨ k = 3 ∨ k = 4 ∨ k = 5 ∨ k = 6 by omega) with rfl | rfl | rfl | rfl | rfl | rfl | rfl <;> rfl
  · intro n i q hi hI hnext
    show wpX4_clear_L39 (upd (upd (upd (upd (upd (upd (upd sG 0 (6 : Int32)) 1 (6 : Int32)) 2 (0 : Int32)) 3 (0 : Int32)) 4 (0 : Int32)) 5 (0 : Int32)) 6 (0 : Int32)) _ post (n + 1) q (nI i)
    unfold wpX4_clear_L39
    rw [nI_clamp (by omega)]
    refine ⟨fun z => absurd z (nI_ge (b := 100) hi (by decide)), fun _ => ⟨vp_in_nI hi (by omega), nm_e (nm_r (nI_1 i) (hnext _ (fun c hc => ?_)))⟩⟩
    by_cases e : c = i
    · subst e; rw [pk_us]; rfl
    · rw [pk_un e]; exact hI c (by omega)
theorem D0_dc {sG tc rg vc st fl kd hm wt mi : AR} (h : ∀ k, k < 7 → sG k = nI (D0 0 k)) (hm' : ∀ c, c < 100 → mi c = nI 0) : DC D0 sG tc rg vc st fl kd hm wt mi := by
  refine ⟨h, fun t ht => ?_, fun w hw => ?_, fun c hc => ?_⟩
  · exact absurd (show t < 0 from ht) (by omega)
  · exact absurd (show w < 0 from hw) (by omega)
  · rw [hm' c hc]
    unfold D0
    rw [if_neg (by omega)]
/-- the class tells a flat -/
theorem c_tell {tx : Nat → Nat} {N : Nat} {t s sG sL tc rg vc st fl kd hm wt mi : AR} (ht : TxC tx N t) (hR : RdC tx N 0 s) (h9 : s 9 = -1) {post : Int32 → AR → AR → AR → AR → AR → AR → AR → AR → AR → AR → AR → AR → Prop}
    (h1 : ∀ D', aText tx N 501 0 D0 0 = .inr D' → ∀ sL' sG' s' tc' rg' vc' st' fl' kd' hm' wt' mi', s' 9 = -1 → DOK D' → DC D' sG' tc' rg' vc' st' fl' kd' hm' wt' mi' → post 1 sL' sG' s' tc' rg' vc' st' fl' kd' hm' wt' mi')
    (h0 : ∀ k b, aText tx N 501 0 D0 0 = .inl (k, b) → ∀ sL' sG' s' tc' rg' vc' st' fl' kd' hm' wt' mi', s' 8 = nI k → s' 9 = nI b → post 0 sL' sG' s' tc' rg' vc' st' fl' kd' hm' wt' mi') : wpX9_tell sL sG s tc rg vc st fl kd hm wt mi t post := by
  have hN := ht.1
  have i2 : upd (upd sL 2 (0 : Int32)) 3 (0 : Int32) 2 = nI (bt1 0 1) := by rw [pk_un (by omega), pk_us]; decide
  have i3 : upd (upd sL 2 (0 : Int32)) 3 (0 : Int32) 3 = nI (bt1 0 2) := by rw [pk_us]; decide
  unfold wpX9_tell
  refine c_clear (fun sG0 mi0 g1 g2 => ?_)
  refine loop_m (fun n (q : (Nat × Nat × Nat × FL × Nat) × AR × AR × AR × AR × AR × AR × AR × AR × AR × AR × AR × AR) => wpX9_tell_L19 t _ post n q.2.1 q.2.2.1 q.2.2.2.1 q.2.2.2.2.1 q.2.2.2.2.2.1 q.2.2.2.2.2.2.1 q.2.2.2.2.2.2.2.1 q.2.2.2.2.2.2.2.2.1 q.2.2.2.2.2.2.2.2.2.1 q.2.2.2.2.2.2.2.2.2.2.1 q.2.2.2.2.2.2.2.2.2.2.2.1 q.2.2.2.2.2.2.2.2.2.2.2.2 (nI q.1.1))
    (fun q => q.1.1 ≤ q.1.2.1 ∧ q.1.2.1 ≤ N ∧ N < q.1.2.1 + q.1.2.2.1 ∧ aText tx N 501 0 D0 0 = aText tx N q.1.2.2.1 q.1.2.1 q.1.2.2.2.1 q.1.2.2.2.2 ∧ DOK q.1.2.2.2.1 ∧ DC q.1.2.2.2.1 q.2.2.1 q.2.2.2.2.1 q.2.2.2.2.2.1 q.2.2.2.2.2.2.1 q.2.2.2.2.2.2.2.1 q.2.2.2.2.2.2.2.2.1 q.2.2.2.2.2.2.2.2.2.1 q.2.2.2.2.2.2.2.2.2.2.1 q.2.2.2.2.2.2.2.2.2.2.2.1 q.2.2.2.2.2.2.2.2.2.2.2.2 ∧ q.1.2.2.2.2 < 16 ∧ (q.1.1 = 0 ↔ q.1.2.2.2.2 = 0) ∧ (q.1.2.2.2.2 = 0 → q.1.2.2.2.1 0 2 = 0 ∧ q.1.2.2.2.1 0 3 = 0) ∧ q.2.1 2 = nI (bt1 q.1.2.2.2.2 1) ∧ q.2.1 3 = nI (bt1 q.1.2.2.2.2 2) ∧ RdC tx N q.1.2.1 q.2.2.2.1 ∧ q.2.2.2.1 9 = -1) (fun q => q.1.2.2.1) ?_ ((0, 0, 501, D0, 0), upd (upd sL 2 (0 : Int32)) 3 (0 : Int32), sG0, s, tc, rg, vc, st, fl, kd, hm, wt, mi0) ⟨Nat.le_refl _, Nat.zero_le _, by show N < 0 + 501; omega, rfl, D0_ok, D0_dc g1 g2, by show 0 < 16; omega, Iff.rfl, fun _ => ⟨rfl, rfl⟩, i2, i3, hR, h9⟩
  rintro n ⟨⟨l, p, f, D, sn⟩, sL1, sG1, s1, tc1, rg1, vc1, st1, fl1, kd1, hm1, wt1, mi1⟩ ⟨k1, k2, k3, k4, k5, k6, k7, k8, k9, k10, k11, k12, k13⟩ hnext
  have k1 : l ≤ p := k1
  have k2 : p ≤ N := k2
  have k3 : N < p + f := k3
  have k4 : aText tx N 501 0 D0 0 = aText tx N f p D sn := k4
  have k5 : DOK D := k5
  have k6 : DC D sG1 tc1 rg1 vc1 st1 fl1 kd1 hm1 wt1 mi1 := k6
  have k7 : sn < 16 := k7
  have k8 : l = 0 ↔ sn = 0 := k8
  have k9 : sn = 0 → D 0 2 = 0 ∧ D 0 3 = 0 := k9
  have k10 : sL1 2 = nI (bt1 sn 1) := k10
  have k11 : sL1 3 = nI (bt1 sn 2) := k11
  have k12 : RdC tx N p s1 := k12
  have k13 : s1 9 = -1 := k13
  obtain ⟨f, rfl⟩ : ∃ k, f = k + 1 := ⟨f - 1, by omega⟩
  rw [k4, aText] at h1 h0
  have hK := tK_le tx N p
  show wpX9_tell_L19 t _ post (n + 1) sL1 sG1 s1 tc1 rg1 vc1 st1 fl1 kd1 hm1 wt1 mi1 (nI l)
  unfold wpX9_tell_L19
  have r7 : s1 7 = nI (tK tx N p) := k12.2.2.2.2.1
  rw [r7, show (nI (tK tx N p) = (0 : Int32)) = (tK tx N p = 0) from propext (nI_eq (b := 0) (by omega) (by omega))]
  refine ⟨fun z => absurd ((nI_ltI (a := 500) (by omega) (by omega)).mp z) (by omega), fun _ => ⟨fun e => ?_, fun e => ?_⟩⟩
  · rw [if_pos e] at h1
    exact h1 D rfl _ _ _ _ _ _ _ _ _ _ _ _ k13 k5 k6
  · rw [if_neg e] at h1 h0
    have core : ∀ y : Int32, y = (if sn = 0 then 1 else 0) → ∀ kb, kb = (fun b0 b1 b2 b3 b4 b5 b6 b7 b8 b9 b10 b11 b12 => wpX9_tell_L19 t (fun sL_72 sG_72 sR_72 G_towerCell_72 G_range_72 G_voice_72 G_strokes_72 G_isFalse_72 G_kind_72 G_home_72 G_water_72 G_mirage_72 l1_72 => post (1 : Int32) sL_72 sG_72 sR_72 G_towerCell_72 G_range_72 G_voice_72 G_strokes_72 G_isFalse_72 G_kind_72 G_home_72 G_water_72 G_mirage_72) post n b0 b1 b2 b3 b4 b5 b6 b7 b8 b9 b10 b11 b12) → ∀ kx, wpX9_tell_J46 sL1 sG1 s1 tc1 rg1 vc1 st1 fl1 kd1 hm1 wt1 mi1 t (nI l) y kb kx post := by
      intro y hy kb hkb kx
      subst hkb
      unfold wpX9_tell_J46
      refine c_tellLine ht k2 k12 k5.1 k6 k7 k10 k11 hy (fun p' D' er sL' s' sG' tc' rg' vc' st' fl' kd' hm' wt' mi' a1 a2 a3 a4 a5 => ?_) (fun k b er sL' s' sG' tc' rg' vc' st' fl' kd' hm' wt' mi' a1 a2 => ?_)
      · obtain ⟨c1, c2, c3⟩ := aLine_ok k2 e k5 k9 er
        have c2 : p < p' := c2
        obtain ⟨n1, n2⟩ := sn_next (tx := tx) (N := N) (p := p) k7
        rw [er] at h1 h0
        refine ⟨fun z => absurd z (by decide), fun _ => c_passSign ht c3 a1 (c := 59) (by omega) rfl (fun es s2 r1 r2 => ⟨fun _ => ?_, fun z => absurd z (by decide)⟩) (fun es => ⟨fun z => absurd rfl z, fun _ => ?_⟩)⟩
        · have e1 : bnd (.inr (p', D') : PR (Nat × FL)) (fun q => if sgB tx N q.1 59 = true then aText tx N f (tE tx N q.1) q.2 (sn ||| lnB tx N p) else .inl (1, tB tx N q.1)) = aText tx N f (tE tx N p') D' (sn ||| lnB tx N p) := if_pos es
          refine nm_r (nI_1 l) (hnext ((l + 1, tE tx N p', f, D', sn ||| lnB tx N p), sL', sG', s2, tc', rg', vc', st', fl', kd', hm', wt', mi') ⟨?_, tE_le c3, ?_, ?_, c1, a3, n1, ?_, fun z => absurd z n2, a4, a5, r1, ?_⟩ (Nat.lt_succ_self f))
          · show l + 1 ≤ tE tx N p'
            have := tE_p (tx := tx) (N := N) (p := p'); omega
          · show N < tE tx N p' + f
            have := tE_p (tx := tx) (N := N) (p := p'); omega
          · show aText tx N 501 0 D0 0 = aText tx N f (tE tx N p') D' (sn ||| lnB tx N p)
            rw [k4, aText, if_neg e, er]; exact e1
          · show l + 1 = 0 ↔ sn ||| lnB tx N p = 0
            exact ⟨fun z => by omega, fun z => absurd z n2⟩
          · exact (r2 9 (by omega)).trans ((a2 9 (by omega)).trans k13)
        · refine h0 1 (tB tx N p') ?_ _ _ _ _ _ _ _ _ _ _ _ _ cF8 cF9
          show (if sgB tx N p' 59 = true then _ else _) = _
          rw [if_neg (by rw [es]; decide)]
      · rw [er] at h0
        exact ⟨fun _ => h0 k b rfl _ _ _ _ _ _ _ _ _ _ _ _ a1 a2, fun z => absurd rfl z⟩
    rw [show (nI l = (0 : Int32)) = (l = 0) from propext (nI_eq (b := 0) (by omega) (by omega))]
    exact ⟨fun z => core _ (by rw [if_neg (fun q => z (k8.mpr q))]) _ rfl _, fun z => core _ (by rw [if_pos (k8.mp z)]) _ rfl _⟩
