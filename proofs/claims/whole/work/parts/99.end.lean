/-! the law's loop -/
theorem lawAll {xs : Nat → Int32} {L : Nat} (hL : L ≤ 3072) : ∀ nf k cs ms, 0 < nf → nf + k = 513 → INV (200 * k) cs ms → wpLaw xs L nf cs ms (nI (6 * k)) := by
  intro nf
  induction nf with
  | zero => intro k cs ms h; omega
  | succ nf ih =>
    intro k cs ms _ hk hI
    unfold wpLaw
    intro hlt
    have hle : 6 * k + 6 ≤ L := by
      rcases Nat.lt_or_ge L 6 with h | h
      · exfalso
        apply hlt
        rcases (show L = 0 ∨ L = 1 ∨ L = 2 ∨ L = 3 ∨ L = 4 ∨ L = 5 by omega) with rfl | rfl | rfl | rfl | rfl | rfl
        · rw [show Int32.ofNat 0 - (6 : Int32) = -nI 6 by decide, n_neglt (by omega) (by omega) (by omega)]; trivial
        · rw [show Int32.ofNat 1 - (6 : Int32) = -nI 5 by decide, n_neglt (by omega) (by omega) (by omega)]; trivial
        · rw [show Int32.ofNat 2 - (6 : Int32) = -nI 4 by decide, n_neglt (by omega) (by omega) (by omega)]; trivial
        · rw [show Int32.ofNat 3 - (6 : Int32) = -nI 3 by decide, n_neglt (by omega) (by omega) (by omega)]; trivial
        · rw [show Int32.ofNat 4 - (6 : Int32) = -nI 2 by decide, n_neglt (by omega) (by omega) (by omega)]; trivial
        · rw [show Int32.ofNat 5 - (6 : Int32) = -nI 1 by decide, n_neglt (by omega) (by omega) (by omega)]; trivial
      · rw [show Int32.ofNat L - (6 : Int32) = nI (L - 6) from pk_sub (a := L) (b := 6) h] at hlt
        rcases Nat.lt_or_ge (L - 6) (6 * k) with h2 | h2
        · exact absurd ((nI_ltI (by omega) (by omega)).mpr h2) hlt
        · omega
    have hv : HV (nI (6 * k)) L := by
      intro j hj
      rcases hj with rfl | rfl | rfl | rfl | rfl
      · rw [show nI (6 * k) + (1 : Int32) = nI (6 * k + 1) from nI_add _ 1]; exact vp_in_nI (by omega) (by omega)
      · rw [show nI (6 * k) + (2 : Int32) = nI (6 * k + 2) from nI_add _ 2]; exact vp_in_nI (by omega) (by omega)
      · rw [show nI (6 * k) + (3 : Int32) = nI (6 * k + 3) from nI_add _ 3]; exact vp_in_nI (by omega) (by omega)
      · rw [show nI (6 * k) + (4 : Int32) = nI (6 * k + 4) from nI_add _ 4]; exact vp_in_nI (by omega) (by omega)
      · rw [show nI (6 * k) + (5 : Int32) = nI (6 * k + 5) from nI_add _ 5]; exact vp_in_nI (by omega) (by omega)
    have hB : 200 * k + 1000 < 2 ^ 29 := by omega
    have go : ∀ cs' ms', INV (200 * k + 200) cs' ms' → wpLaw xs L nf cs' ms' (nI (6 * k) + (6 : Int32)) := by
      intro cs' ms' h
      rw [show nI (6 * k) + (6 : Int32) = nI (6 * (k + 1)) from nI_add _ 6]
      exact ih (k + 1) cs' ms' (by omega) (by omega) h
    have gr : ∀ cs' ms', INV (200 * k) cs' ms' → wpLaw xs L nf cs' ms' (nI (6 * k) + (6 : Int32)) := fun cs' ms' h => go cs' ms' (h.mono (by omega))
    rw [nI_clamp (by omega)]
    generalize xs (6 * k) &&& (31 : Int32) = x
    refine ⟨vp_in_nI (by omega) (by omega), ?_⟩
    exact ⟨fun _ _ => law0 hI hv gr, fun _ => ⟨fun _ _ => law1 hI hv gr, fun _ => ⟨fun _ _ => law2 hI hv hB go, fun _ => ⟨fun _ _ => law3 hI gr, fun _ => ⟨fun _ _ => law4 hI hv gr, fun _ => ⟨fun _ _ => law5 hI hv gr, fun _ => ⟨fun _ _ => law6 hI hv gr, fun _ => ⟨fun _ _ => law7 hI hv gr, fun _ => ⟨fun _ _ => law8 hI hv gr, fun _ => ⟨fun _ _ => law9 hI hv hB go, fun _ => ⟨fun _ _ => law10 hI hv hB go, fun _ => ⟨fun _ _ => law11 hI hv hB go, fun _ => ⟨fun _ _ => law12 hI hv hB go, fun _ => ⟨fun _ _ => law13 hI hv gr, fun _ => ⟨fun _ _ => law14 hI hv hB go, fun _ => ⟨fun _ _ => law15 hI hv hB go, fun _ => ⟨fun _ _ => law16 hI hv gr, fun _ => ⟨fun _ _ => law17 hI hv gr, fun _ => ⟨fun _ _ => law18 hI hv hB go, fun _ => ⟨fun _ _ => law19 hI hv gr, fun _ => ⟨fun _ _ => law20 hI hv hB go, fun _ => ⟨fun _ _ => law21 hI hv hB go, fun _ => ⟨fun _ _ => law22 hI hv hB go, fun _ => ⟨fun _ _ => law23 hI hv hB go, fun _ => ⟨fun _ _ => law24 hI hv hB go, fun _ => gr cs ms hI⟩⟩⟩⟩⟩⟩⟩⟩⟩⟩⟩⟩⟩⟩⟩⟩⟩⟩⟩⟩⟩⟩⟩⟩⟩
theorem pureAll (xs : Nat → Int32) (L : Nat) (hL : L ≤ 3072) : wpStart xs L := by
  unfold wpStart wpX10_tail
  refine c_clear (fun sG mi g1 g2 => ?_)
  refine c_beginOn D0_ok (D0_dc (tc := fun _ => 0) (rg := fun _ => 0) (vc := fun _ => 0) (st := fun _ => 0) (fl := fun _ => 0) (kd := fun _ => 0) (hm := fun _ => 0) (wt := fun _ => 0) g1 g2) (fun hA E ds ov ak nx wy gl F hE hW hF => ?_)
  refine lawAll hL 513 0 _ _ (by omega) (by omega) ?_
  have z2 : ∀ t, ¬ t < D0 0 2 := fun t ht => absurd (show t < 0 from ht) (by omega)
  have z3 : ∀ t, ¬ t < D0 0 3 := fun t ht => absurd (show t < 0 from ht) (by omega)
  have hm6 : ∀ c, D0 6 c = 0 := fun c => by unfold D0; rw [if_neg (by omega)]
  refine ⟨D0, false, (fun _ => st0 D0, fun _ => 0, 0, 0, fun _ => 0, fun _ => 0), false, (fun _ => st0 D0, fun _ => 0, 0, 0, fun _ => 0, fun _ => 0), 0, 0, ?_, ?_, ?_, ?_, ?_⟩
  · refine ⟨D0_ok.1, ⟨g1, fun t ht => absurd ht (z2 t), fun t ht => absurd ht (z2 t), fun t ht => absurd ht (z2 t), fun t ht => absurd ht (z2 t), fun t ht => absurd ht (z3 t), fun c hc => ?_⟩, hE, hW, ⟨fun k hk => ?_, fun t ht => absurd ht (z2 t), fun t ht => absurd ht (z2 t), fun t ht => absurd ht (z2 t), fun t ht => absurd ht (z2 t), fun t ht => absurd ht (z3 t), fun c hc => ?_⟩⟩
    · rw [hm6]; exact g2 c hc
    · rcases (show k = 0 ∨ k = 1 ∨ k = 2 ∨ k = 3 ∨ k = 4 ∨ k = 5 ∨ k = 6 by omega) with rfl | rfl | rfl | rfl | rfl | rfl | rfl <;> rfl
    · rw [hm6]; rfl
  · refine ⟨⟨⟨0, by omega, rfl, rfl, rfl, hF, fun i hi => absurd (show i < 0 from hi) (by omega)⟩, ⟨rfl, fun z => absurd z (by decide)⟩⟩, ⟨⟨rfl, rfl, ⟨fun w hw => absurd hw (z3 w), fun t ht => absurd ht (z2 t)⟩, fun i hi => absurd (show i < 0 from hi) (by omega)⟩, ⟨rfl, fun z => absurd z (by decide)⟩⟩, ⟨⟨by show 0 + 0 ≤ 100; omega, fun i _ => st0_ok D0_ok _, fun i hi => absurd (show i < 0 from hi) (by omega)⟩, fun k hk => ⟨Nat.zero_le _, by show 0 < 4; omega⟩⟩, rfl, rfl⟩
  · exact ⟨by omega, rfl, rfl, fun i hi => absurd hi (Nat.not_lt_zero _), rfl⟩
  · exact ⟨by omega, rfl, rfl, fun i hi => absurd hi (Nat.not_lt_zero _)⟩
  · exact ⟨rfl, rfl, fun z => absurd z (by decide)⟩
