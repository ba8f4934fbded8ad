/-! the reference's tokens -/
theorem m_byte {tx : Nat → Nat} {N i : Nat} {t s : AR} (ht : TxM tx N t) (h16 : s 16 = nI N) (hi : i ≤ 500) {post : Int32 → Prop} (h1 : i < N → post (nI (tx i))) (h0 : N ≤ i → post (-1)) : wpX11_byteAt s t (nI i) post := by
  obtain ⟨hN, hb⟩ := ht
  unfold wpX11_byteAt
  rw [h16, nI_clamp (by omega)]
  refine ⟨fun z => h0 ((nI_leI (by omega) (by omega)).mp z), fun z => ?_⟩
  have hl : i < N := by
    rcases Nat.lt_or_ge i N with h | h
    · exact h
    · exact absurd (nI_le h (by omega)) z
  rw [(hb i hl).2]
  exact ⟨vp_in_nI (by omega) (by omega), h1 hl⟩
theorem m_isLt {v : Nat} (hv : v < 256) {post : Int32 → Prop} (h1 : isLt v = true → post 1) (h0 : isLt v = false → post 0) : wpX11_isLetter (nI v) post := by
  unfold wpX11_isLetter
  rw [show (nI v < (97 : Int32)) = (v < 97) from propext (nI_ltI (b := 97) (by omega) (by omega)), show ((122 : Int32) < nI v) = (122 < v) from propext (nI_ltI (a := 122) (by omega) (by omega))]
  exact ⟨fun z => h0 (decide_eq_false (by omega)), fun z => ⟨fun z2 => h0 (decide_eq_false (by omega)), fun z2 => h1 (decide_eq_true (by omega))⟩⟩
theorem m_isDg {v : Nat} (hv : v < 256) {post : Int32 → Prop} (h1 : isDg v = true → post 1) (h0 : isDg v = false → post 0) : wpX11_isDigit (nI v) post := by
  unfold wpX11_isDigit
  rw [show (nI v < (48 : Int32)) = (v < 48) from propext (nI_ltI (b := 48) (by omega) (by omega)), show ((57 : Int32) < nI v) = (57 < v) from propext (nI_ltI (a := 57) (by omega) (by omega))]
  exact ⟨fun z => h0 (decide_eq_false (by omega)), fun z => ⟨fun z2 => h0 (decide_eq_false (by omega)), fun z2 => h1 (decide_eq_true (by omega))⟩⟩
theorem m_isLtN {post : Int32 → Prop} (h : post 0) : wpX11_isLetter (-1) post := by
  unfold wpX11_isLetter
  exact ⟨fun _ => h, fun z => absurd (by decide) z⟩
theorem m_isDgN {post : Int32 → Prop} (h : post 0) : wpX11_isDigit (-1) post := by
  unfold wpX11_isDigit
  exact ⟨fun _ => h, fun z => absurd (by decide) z⟩
theorem m_stepOn {tx : Nat → Nat} {N p : Nat} {t s : AR} (ht : TxM tx N t) (hp : p ≤ N) (h16 : s 16 = nI N) (h15 : s 15 = nI p) {post : AR → Prop} (hk : ∀ s', RdM tx N p s' → (∀ j, j ≠ 15 → j ≠ 17 → j ≠ 18 → j ≠ 19 → j ≠ 20 → s' j = s j) → post s') : wpX11_stepOn s t post := by
  have ht2 := ht
  obtain ⟨hN, hb⟩ := ht
  unfold wpX11_stepOn
  refine loop_m (fun n (q : AR) => wpX11_stepOn_L0 t _ post n q) (fun q => ∃ i, i ≤ N ∧ q 15 = nI i ∧ rt (fun i => isB (tx i)) N i = tB tx N p ∧ ∀ j, j ≠ 15 → q j = s j) (fun q => N - (q 15).toNatClampNeg) ?_ _ ⟨p, hp, h15, rfl, fun _ _ => rfl⟩
  rintro n q ⟨i, hi, q15, q3, q8⟩ hnext
  have q16 : q 16 = nI N := (q8 16 (by omega)).trans h16
  show wpX11_stepOn_L0 t _ post (n + 1) q
  unfold wpX11_stepOn_L0 wpX11_stepOn_J26
  have stop : (N ≤ i ∨ isB (tx i) = false) → ∀ f19_44 : Int32, f19_44 = (q 15) → wpX11_byteAt (upd q 19 f19_44) t (q 15) (fun r52 => ((¬ r52 = (-1 : Int32) → wpX11_isLetter r52 (fun r70 => ((r70 = 0 → wpX11_isDigit r52 (fun r112 => ((r112 = 0 → ∀ f15_194 : Int32, f15_194 = ((q 15) + (1 : Int32)) → ((r52 = (59 : Int32) → wpX11_stepOn_J221 (upd (upd q 19 f19_44) 15 f15_194) t (3 : Int32) post) ∧ (¬ r52 = (59 : Int32) → ((r52 = (123 : Int32) → wpX11_stepOn_J221 (upd (upd q 19 f19_44) 15 f15_194) t (3 : Int32) post) ∧ (¬ r52 = (123 : Int32) → ((¬ r52 = (125 : Int32) → wpX11_stepOn_J221 (upd (upd q 19 f19_44) 15 f15_194) t (4 : Int32) post) ∧ (r52 = (125 : Int32) → wpX11_stepOn_J221 (upd (upd q 19 f19_44) 15 f15_194) t (3 : Int32) post))))))) ∧ (¬ r112 = 0 → ∃ nf123 : Nat, wpX11_stepOn_L123 t (fun sM_179 => wpX11_stepOn_J224 (upd sM_179 17 (2 : Int32)) t post) post nf123 (upd (upd q 19 f19_44) 18 (0 : Int32)))))) ∧ (¬ r70 = 0 → ∃ nf76 : Nat, wpX11_stepOn_L76 t (fun sM_103 => wpX11_stepOn_J224 (upd sM_103 17 (1 : Int32)) t post) post nf76 (upd q 19 f19_44))))) ∧ (r52 = (-1 : Int32) → wpX11_stepOn_J224 (upd (upd q 19 f19_44) 17 (0 : Int32)) t post))) := by
    intro hst
    have eb : tB tx N p = i := by rw [← q3]; exact rt_st hst
    rw [q15]
    refine nm_e (m_byte ht2 (by rw [pk_un (by omega)]; exact q16) (by omega) (fun hl => ?_) (fun hl => ?_))
    · obtain ⟨hv, hti⟩ := hb i hl
      have hnN : ¬ N ≤ tB tx N p := by omega
      refine ⟨fun _ => m_isLt hv (fun e1 => ⟨fun z => absurd z (by decide), fun _ => ?_⟩) (fun e1 => ⟨fun _ => m_isDg hv (fun e2 => ⟨fun z => absurd z (by decide), fun _ => ?_⟩) (fun e2 => ⟨fun _ => nm_r (nI_1 i) ?_, fun z => absurd rfl z⟩), fun z => absurd rfl z⟩), fun z => absurd z (nI_nem (by omega))⟩
      · have eK : tK tx N p = 1 := by unfold tK; rw [if_neg hnN, eb, e1]; rfl
        have eE : tE tx N p = rt (fun i => isLt (tx i)) N i := by unfold tE; rw [if_neg hnN, eb, e1]; rfl
        refine loop_m (fun n (r : AR) => wpX11_stepOn_L76 t _ post n r) (fun r => ∃ j, i ≤ j ∧ j ≤ N ∧ r 15 = nI j ∧ rt (fun i => isLt (tx i)) N j = tE tx N p ∧ r 19 = nI i ∧ ∀ j, j ≠ 15 → j ≠ 19 → r j = s j) (fun r => N - (r 15).toNatClampNeg) ?_ _ ⟨i, Nat.le_refl _, hi, by rw [pk_un (by omega)]; exact q15, eE.symm, by rw [pk_us], fun j ja jb => by rw [pk_un jb]; exact q8 j ja⟩
        rintro n2 r ⟨j, j1, j2, r15, r3, r19, r8⟩ hnext2
        have stop2 : (N ≤ j ∨ isLt (tx j) = false) → wpX11_stepOn_J224 (upd r 17 (1 : Int32)) t post := by
          intro hst2
          have ej : tE tx N p = j := by rw [← r3]; exact rt_st hst2
          unfold wpX11_stepOn_J224
          refine nm_r (e' := nI j) (by rw [pk_un (by omega)]; exact r15) (hk _ ⟨?_, ?_, ?_, ?_, ?_, fun z => ?_⟩ (fun k ka kb kc kd ke => ?_))
          · rw [pk_un (by omega), pk_un (by omega), r8 16 (by omega) (by omega)]; exact h16
          · rw [pk_un (by omega), pk_un (by omega), ej]; exact r15
          · rw [pk_us, ej]
          · rw [pk_un (by omega), pk_un (by omega), eb]; exact r19
          · rw [pk_un (by omega), pk_us, eK]; rfl
          · rw [eK] at z; omega
          · rw [pk_un ke, pk_un kb]; exact r8 k ka kd
        show wpX11_stepOn_L76 t _ post (n2 + 1) r
        unfold wpX11_stepOn_L76
        rw [r15]
        refine m_byte ht2 ((r8 16 (by omega) (by omega)).trans h16) (by omega) (fun hlj => ?_) (fun hlj => m_isLtN ⟨fun _ => stop2 (Or.inl hlj), fun z => absurd rfl z⟩)
        refine m_isLt (hb j hlj).1 (fun e => ⟨fun z => absurd z (by decide), fun _ => nm_r (nI_1 j) (hnext2 _ ⟨j + 1, by omega, hlj, by rw [pk_us], ?_, ?_, fun k ka kb => ?_⟩ ?_)⟩) (fun e => ⟨fun _ => stop2 (Or.inr e), fun z => absurd rfl z⟩)
        · rw [← r3]; exact (rt_go hlj e).symm
        · rw [pk_un (by omega)]; exact r19
        · rw [pk_un ka]; exact r8 k ka kb
        · show N - (upd r 15 (nI (j + 1)) 15).toNatClampNeg < N - (r 15).toNatClampNeg
          rw [pk_us, r15, nI_clamp (by omega), nI_clamp (by omega)]
          omega
      · have eK : tK tx N p = 2 := by unfold tK; rw [if_neg hnN, eb, e1, e2]; rfl
        have eE : tE tx N p = rt (fun i => isDg (tx i)) N i := by unfold tE; rw [if_neg hnN, eb, e1, e2]; rfl
        refine loop_m (fun n (r : AR) => wpX11_stepOn_L123 t _ post n r) (fun r => ∃ j, i ≤ j ∧ j ≤ N ∧ r 15 = nI j ∧ rt (fun i => isDg (tx i)) N j = tE tx N p ∧ r 19 = nI i ∧ (∃ v, v ≤ 10000 ∧ r 18 = nI v ∧ (j - i ≤ 3 → v = dv tx i (j - i) ∧ v < 10 ^ (j - i))) ∧ ∀ j, j ≠ 15 → j ≠ 18 → j ≠ 19 → r j = s j) (fun r => N - (r 15).toNatClampNeg) ?_ _ ⟨i, Nat.le_refl _, hi, by rw [pk_un (by omega), pk_un (by omega)]; exact q15, eE.symm, by rw [pk_un (by omega), pk_us], ⟨0, by omega, by rw [pk_us]; rfl, fun _ => by rw [Nat.sub_self]; exact ⟨rfl, by decide⟩⟩, fun j ja jb jc => by rw [pk_un jb, pk_un jc]; exact q8 j ja⟩
        rintro n2 r ⟨j, j1, j2, r15, r3, r19, ⟨v, v1, v2, v3⟩, r8⟩ hnext2
        have stop2 : (N ≤ j ∨ isDg (tx j) = false) → wpX11_stepOn_J224 (upd r 17 (2 : Int32)) t post := by
          intro hst2
          have ej : tE tx N p = j := by rw [← r3]; exact rt_st hst2
          unfold wpX11_stepOn_J224
          refine nm_r (e' := nI j) (by rw [pk_un (by omega)]; exact r15) (hk _ ⟨?_, ?_, ?_, ?_, ?_, fun _ z => ?_⟩ (fun k ka kb kc kd ke => ?_))
          · rw [pk_un (by omega), pk_un (by omega), r8 16 (by omega) (by omega) (by omega)]; exact h16
          · rw [pk_un (by omega), pk_un (by omega), ej]; exact r15
          · rw [pk_us, ej]
          · rw [pk_un (by omega), pk_un (by omega), eb]; exact r19
          · rw [pk_un (by omega), pk_us, eK]; rfl
          · rw [pk_un (by omega), pk_un (by omega), v2]
            unfold tV
            rw [ej, eb] at z ⊢
            rw [(v3 z).1]
          · rw [pk_un ke, pk_un kb]; exact r8 k ka kc kd
        show wpX11_stepOn_L123 t _ post (n2 + 1) r
        unfold wpX11_stepOn_L123
        rw [r15]
        refine m_byte ht2 ((r8 16 (by omega) (by omega) (by omega)).trans h16) (by omega) (fun hlj => ?_) (fun hlj => m_isDgN ⟨fun _ => stop2 (Or.inl hlj), fun z => absurd rfl z⟩)
        refine m_isDg (hb j hlj).1 (fun e => ⟨fun z => absurd z (by decide), fun _ => ?_⟩) (fun e => ⟨fun _ => stop2 (Or.inr e), fun z => absurd rfl z⟩)
        refine m_byte ht2 ((r8 16 (by omega) (by omega) (by omega)).trans h16) (by omega) (fun _ => ?_) (fun z => by omega)
        have hd := of_decide_eq_true e
        refine nm_r (e' := nI (min 10000 (10 * v + (tx j - 48)))) ?_ (nm_r (nI_1 j) (hnext2 _ ⟨j + 1, by omega, hlj, by rw [pk_us], ?_, ?_, ⟨_, Nat.min_le_left _ _, by rw [pk_un (by omega), pk_us], fun z => ?_⟩, fun k ka kb kc => ?_⟩ ?_))
        · rw [v2, show (10 : Int32) * nI v = nI (10 * v) from pk_mul 10 v, nI_add, show nI (10 * v + tx j) - (48 : Int32) = nI (10 * v + tx j - 48) from pk_sub (b := 48) (by omega), show 10 * v + tx j - 48 = 10 * v + (tx j - 48) by omega]
          exact n_jmin (a := 10000) (by omega) (by omega)
        · rw [← r3]; exact (rt_go hlj e).symm
        · rw [pk_un (by omega), pk_un (by omega)]; exact r19
        · have hv3 := v3 (by omega)
          have hj : j + 1 - i = (j - i) + 1 := by omega
          rw [hj, dv, show i + (j - i) = j by omega, ← hv3.1, Nat.pow_succ]
          have h3 : 10 ^ (j - i) ≤ 10 ^ 2 := Nat.pow_le_pow_right (by omega) (by omega)
          have h4 : (10 : Nat) ^ 2 = 100 := by decide
          constructor
          · rw [Nat.min_eq_right (by omega)]
          · rw [Nat.min_eq_right (by omega)]; omega
        · rw [pk_un ka, pk_un kb]; exact r8 k ka kb kc
        · show N - (upd (upd r 18 _) 15 (nI (j + 1)) 15).toNatClampNeg < N - (r 15).toNatClampNeg
          rw [pk_us, r15, nI_clamp (by omega), nI_clamp (by omega)]
          omega
      · have eE : tE tx N p = i + 1 := by unfold tE; rw [if_neg hnN, eb, e1, e2]; rfl
        have eK : tK tx N p = if isSg (tx i) = true then 3 else 4 := by
          unfold tK
          rw [if_neg hnN, eb, e1, e2]
          rfl
        have fin : ∀ k : Nat, k = tK tx N p → ∀ y : Int32, y = nI k → wpX11_stepOn_J221 (upd (upd q 19 (nI i)) 15 (nI (i + 1))) t y post := by
          intro k hk' y hy
          subst hy
          unfold wpX11_stepOn_J221 wpX11_stepOn_J224
          refine nm_r (e' := nI (i + 1)) (by rw [pk_un (by omega), pk_us]) (hk _ ⟨?_, ?_, ?_, ?_, ?_, fun z => ?_⟩ (fun k ka kb kc kd ke => ?_))
          · rw [pk_un (by omega), pk_un (by omega), pk_un (by omega), pk_un (by omega)]; exact q16
          · rw [pk_un (by omega), pk_un (by omega), pk_us, eE]
          · rw [pk_us, eE]
          · rw [pk_un (by omega), pk_un (by omega), pk_un (by omega), pk_us, eb]
          · rw [pk_un (by omega), pk_us, hk']
          · exfalso
            rw [eK] at z
            split at z <;> omega
          · rw [pk_un ke, pk_un kb, pk_un ka, pk_un kd]; exact q8 k ka
        rw [show (nI (tx i) = (59 : Int32)) = (tx i = 59) from propext (nI_eq (b := 59) (by omega) (by omega)), show (nI (tx i) = (123 : Int32)) = (tx i = 123) from propext (nI_eq (b := 123) (by omega) (by omega)), show (nI (tx i) = (125 : Int32)) = (tx i = 125) from propext (nI_eq (b := 125) (by omega) (by omega))]
        unfold isSg at eK
        refine ⟨fun z => fin 3 ?_ _ rfl, fun z => ⟨fun z2 => fin 3 ?_ _ rfl, fun z2 => ⟨fun z3 => fin 4 ?_ _ rfl, fun z3 => fin 3 ?_ _ rfl⟩⟩⟩
        · rw [eK, if_pos (by simp [z])]
        · rw [eK, if_pos (by simp [z2])]
        · rw [eK, if_neg (by simp [z, z2, z3])]
        · rw [eK, if_pos (by simp [z3])]
    · have eK : tK tx N p = 0 := by unfold tK; rw [if_pos (by omega)]
      have eE : tE tx N p = i := by unfold tE; rw [if_pos (by omega), eb]
      refine ⟨fun z => absurd rfl z, fun _ => ?_⟩
      unfold wpX11_stepOn_J224
      refine nm_r (e' := nI i) (by rw [pk_un (by omega), pk_un (by omega)]; exact q15) (hk _ ⟨?_, ?_, ?_, ?_, ?_, fun z => ?_⟩ (fun k ka kb kc kd ke => ?_))
      · rw [pk_un (by omega), pk_un (by omega), pk_un (by omega)]; exact q16
      · rw [pk_un (by omega), pk_un (by omega), pk_un (by omega), eE]; exact q15
      · rw [pk_us, eE]
      · rw [pk_un (by omega), pk_un (by omega), pk_us, eb]
      · rw [pk_un (by omega), pk_us, eK]; rfl
      · rw [eK] at z; omega
      · rw [pk_un ke, pk_un kb, pk_un kd]; exact q8 k ka
  have go : i < N → isB (tx i) = true → ∀ kx, kx = (fun sM_39 => ∀ f19_44 : Int32, f19_44 = (sM_39 15) → wpX11_byteAt (upd sM_39 19 f19_44) t (sM_39 15) (fun r52 => ((¬ r52 = (-1 : Int32) → wpX11_isLetter r52 (fun r70 => ((r70 = 0 → wpX11_isDigit r52 (fun r112 => ((r112 = 0 → ∀ f15_194 : Int32, f15_194 = ((sM_39 15) + (1 : Int32)) → ((r52 = (59 : Int32) → wpX11_stepOn_J221 (upd (upd sM_39 19 f19_44) 15 f15_194) t (3 : Int32) post) ∧ (¬ r52 = (59 : Int32) → ((r52 = (123 : Int32) → wpX11_stepOn_J221 (upd (upd sM_39 19 f19_44) 15 f15_194) t (3 : Int32) post) ∧ (¬ r52 = (123 : Int32) → ((¬ r52 = (125 : Int32) → wpX11_stepOn_J221 (upd (upd sM_39 19 f19_44) 15 f15_194) t (4 : Int32) post) ∧ (r52 = (125 : Int32) → wpX11_stepOn_J221 (upd (upd sM_39 19 f19_44) 15 f15_194) t (3 : Int32) post))))))) ∧ (¬ r112 = 0 → ∃ nf123 : Nat, wpX11_stepOn_L123 t (fun sM_179 => wpX11_stepOn_J224 (upd sM_179 17 (2 : Int32)) t post) post nf123 (upd (upd sM_39 19 f19_44) 18 (0 : Int32)))))) ∧ (¬ r70 = 0 → ∃ nf76 : Nat, wpX11_stepOn_L76 t (fun sM_103 => wpX11_stepOn_J224 (upd sM_103 17 (1 : Int32)) t post) post nf76 (upd sM_39 19 f19_44))))) ∧ (r52 = (-1 : Int32) → wpX11_stepOn_J224 (upd (upd sM_39 19 f19_44) 17 (0 : Int32)) t post)))) → wpX11_stepOn_L0 t kx post n (upd q 15 (nI (i + 1))) := by
    intro hl hbl kx hkx
    subst hkx
    refine hnext _ ⟨i + 1, hl, by rw [pk_us], ?_, fun j hj => by rw [pk_un hj]; exact q8 j hj⟩ ?_
    · rw [← q3]; exact (rt_go hl hbl).symm
    · show N - (upd q 15 (nI (i + 1)) 15).toNatClampNeg < N - (q 15).toNatClampNeg
      rw [pk_us, q15, nI_clamp (by omega), nI_clamp (by omega)]
      omega
  have q15' := q15
  rw [q15]
  refine m_byte ht2 q16 (by omega) (fun hl => ?_) (fun hl => ⟨fun z => absurd z (by decide), fun _ => m_byte ht2 q16 (by omega) (fun z => by omega) (fun _ => ⟨fun _ => ?_, fun z => absurd z (by decide)⟩)⟩)
  · have hv := (hb i hl).1
    rw [show (nI (tx i) = (32 : Int32)) = (tx i = 32) from propext (nI_eq (b := 32) (by omega) (by omega))]
    refine ⟨fun e => nm_r (nI_1 i) (go hl (by unfold isB; simp [e]) _ rfl), fun e => m_byte ht2 q16 (by omega) (fun _ => ?_) (fun z => by omega)⟩
    rw [show (nI (tx i) = (10 : Int32)) = (tx i = 10) from propext (nI_eq (b := 10) (by omega) (by omega))]
    refine ⟨fun e1 => ?_, fun e1 => nm_r (nI_1 i) (go hl (by unfold isB; simp [e1]) _ rfl)⟩
    have h := stop (Or.inr (by unfold isB; simp [e, e1]))
    rw [q15] at h
    exact h
  · have h := stop (Or.inl hl)
    rw [q15] at h
    exact h
