/-! the reference's best -/
def MB (n : Nat) (sM bS : AR) (b : BS) : Prop := sM 43 = tI b.1 ∧ b.1 ≤ 5 ∧ (b.1 ≠ 0 → b.2.1 ≤ 4 ∧ sM 44 = nI b.2.1 ∧ ∀ i, i < n → bS i = nI (b.2.2 i))
def FrM (sM sM' : AR) : Prop := ∀ j, j ≠ 24 → j ≠ 25 → j ≠ 42 → j ≠ 43 → j ≠ 44 → j ≠ 46 → sM' j = sM j
theorem FrM.rfl' {s : AR} : FrM s s := fun _ _ _ _ _ _ _ => rfl
theorem FrM.trans {a b c : AR} (h : FrM a b) (h2 : FrM b c) : FrM a c := fun j q1 q2 q3 q4 q5 q6 => (h2 j q1 q2 q3 q4 q5 q6).trans (h j q1 q2 q3 q4 q5 q6)
theorem canB_bu {P : FL} {bu m : Nat} {a : Nat → Nat} (hm : m < 2 ^ P 0 2) : canB P bu m a = true ↔ m &&& bu = 0 ∧ CanR P m a := by
  unfold canB
  rw [decide_eq_true_eq]
  exact ⟨fun h => ⟨h.1, hm, h.2⟩, fun h => ⟨h.1, h.2.2⟩⟩
theorem m_L166 {rc : AR → AR → AR → AR → AR → AR → AR → AR → AR → AR → AR → AR → AR → Int32 → Int32 → Int32 → (AR → AR → AR → AR → AR → AR → Prop) → Prop} {sM s tc rg vc kd fl mi wh bR wk tS bS : AR} {d : Nat} (hd : d ≤ 4) {l2 l3 l4 : Int32} {kx : AR → Int32 → Prop} {post : AR → AR → AR → AR → AR → AR → Prop} (hk : ∀ wk' y, (∀ j, j < 29 → wk' j = bR (29 * d + j)) → kx wk' y) : ∃ n, wpX11_bestOn_L166 rc sM s tc rg vc kd fl mi wh bR tS bS (nI d) l2 l3 l4 kx post n wk (0 : Int32) := by
  refine loop_0 (fun nn i (q : AR) => wpX11_bestOn_L166 rc sM s tc rg vc kd fl mi wh bR tS bS (nI d) l2 l3 l4 kx post nn q (nI i)) (fun i q => ∀ j, j < i → q j = bR (29 * d + j)) 29 wk (fun j hj => absurd hj (Nat.not_lt_zero _)) ?_ ?_
  · intro nn q hI
    show wpX11_bestOn_L166 rc sM s tc rg vc kd fl mi wh bR tS bS (nI d) l2 l3 l4 kx post (nn + 1) q (nI 29)
    unfold wpX11_bestOn_L166
    exact ⟨fun _ => hk _ _ hI, fun z => absurd (nI_le (Nat.le_refl 29) (by decide)) z⟩
  · intro nn i q hi hI hnext
    show wpX11_bestOn_L166 rc sM s tc rg vc kd fl mi wh bR tS bS (nI d) l2 l3 l4 kx post (nn + 1) q (nI i)
    unfold wpX11_bestOn_L166
    rw [show (29 : Int32) * nI d = nI (29 * d) from pk_mul 29 d, nI_add, nI_clamp (by omega), nI_clamp (by omega)]
    refine ⟨fun z => absurd z (nI_ge (b := 29) hi (by decide)), fun _ => ⟨vp_in_nI (by omega) (by omega), vp_in_nI (by omega) (by omega), nm_e (nm_r (nI_1 i) (hnext _ (fun j hj => ?_)))⟩⟩
    by_cases e : j = i
    · subst e; rw [pk_us]
    · rw [pk_un e]; exact hI j (by omega)
theorem m_L8 {rc : AR → AR → AR → AR → AR → AR → AR → AR → AR → AR → AR → AR → AR → Int32 → Int32 → Int32 → (AR → AR → AR → AR → AR → AR → Prop) → Prop} {sM s tc rg vc kd fl mi wh bR wk tS bS : AR} {d : Nat} (hd : d ≤ 4) {l2 : Int32} {kx : AR → Int32 → Prop} {post : AR → AR → AR → AR → AR → AR → Prop} (hk : ∀ wk' y, (∀ j, j < 29 → wk' j = bR (29 * d + j)) → kx wk' y) : ∃ n, wpX11_bestOn_L8 rc sM s tc rg vc kd fl mi wh bR tS bS (nI d) l2 kx post n wk (0 : Int32) := by
  refine loop_0 (fun nn i (q : AR) => wpX11_bestOn_L8 rc sM s tc rg vc kd fl mi wh bR tS bS (nI d) l2 kx post nn q (nI i)) (fun i q => ∀ j, j < i → q j = bR (29 * d + j)) 29 wk (fun j hj => absurd hj (Nat.not_lt_zero _)) ?_ ?_
  · intro nn q hI
    show wpX11_bestOn_L8 rc sM s tc rg vc kd fl mi wh bR tS bS (nI d) l2 kx post (nn + 1) q (nI 29)
    unfold wpX11_bestOn_L8
    exact ⟨fun _ => hk _ _ hI, fun z => absurd (nI_le (Nat.le_refl 29) (by decide)) z⟩
  · intro nn i q hi hI hnext
    show wpX11_bestOn_L8 rc sM s tc rg vc kd fl mi wh bR tS bS (nI d) l2 kx post (nn + 1) q (nI i)
    unfold wpX11_bestOn_L8
    rw [show (29 : Int32) * nI d = nI (29 * d) from pk_mul 29 d, nI_add, nI_clamp (by omega), nI_clamp (by omega)]
    refine ⟨fun z => absurd z (nI_ge (b := 29) hi (by decide)), fun _ => ⟨vp_in_nI (by omega) (by omega), vp_in_nI (by omega) (by omega), nm_e (nm_r (nI_1 i) (hnext _ (fun j hj => ?_)))⟩⟩
    by_cases e : j = i
    · subst e; rw [pk_us]
    · rw [pk_un e]; exact hI j (by omega)
theorem m_L261 {rc : AR → AR → AR → AR → AR → AR → AR → AR → AR → AR → AR → AR → AR → Int32 → Int32 → Int32 → (AR → AR → AR → AR → AR → AR → Prop) → Prop} {sM s tc rg vc kd fl mi wh bR wk tS bS : AR} {d : Nat} (hd : d ≤ 3) {l2 l3 l4 : Int32} {kx : AR → Int32 → Prop} {post : AR → AR → AR → AR → AR → AR → Prop} (hk : ∀ bR' y, (∀ j, j < 29 → bR' (29 * (d + 1) + j) = wk j) → (∀ j, j < 29 * (d + 1) → bR' j = bR j) → kx bR' y) : ∃ n, wpX11_bestOn_L261 rc sM s tc rg vc kd fl mi wh wk tS bS (nI d) l2 l3 l4 kx post n bR (0 : Int32) := by
  refine loop_0 (fun nn i (q : AR) => wpX11_bestOn_L261 rc sM s tc rg vc kd fl mi wh wk tS bS (nI d) l2 l3 l4 kx post nn q (nI i)) (fun i q => (∀ j, j < i → q (29 * (d + 1) + j) = wk j) ∧ ∀ j, j < 29 * (d + 1) → q j = bR j) 29 bR ⟨fun j hj => absurd hj (Nat.not_lt_zero _), fun _ _ => rfl⟩ ?_ ?_
  · intro nn q hI
    show wpX11_bestOn_L261 rc sM s tc rg vc kd fl mi wh wk tS bS (nI d) l2 l3 l4 kx post (nn + 1) q (nI 29)
    unfold wpX11_bestOn_L261
    exact ⟨fun _ => hk _ _ hI.1 hI.2, fun z => absurd (nI_le (Nat.le_refl 29) (by decide)) z⟩
  · intro nn i q hi hI hnext
    show wpX11_bestOn_L261 rc sM s tc rg vc kd fl mi wh wk tS bS (nI d) l2 l3 l4 kx post (nn + 1) q (nI i)
    unfold wpX11_bestOn_L261
    rw [show nI d + (1 : Int32) = nI (d + 1) from nI_1 d, show (29 : Int32) * nI (d + 1) = nI (29 * (d + 1)) from pk_mul 29 _, nI_add, nI_clamp (by omega), nI_clamp (by omega)]
    refine ⟨fun z => absurd z (nI_ge (b := 29) hi (by decide)), fun _ => ⟨vp_in_nI (by omega) (by omega), vp_in_nI (by omega) (by omega), nm_e (nm_r (nI_1 i) (hnext _ ⟨fun j hj => ?_, fun j hj => ?_⟩))⟩⟩
    · by_cases e : j = i
      · subst e; rw [pk_us]
      · rw [pk_un (by omega)]; exact hI.1 j (by omega)
    · rw [pk_un (by omega)]; exact hI.2 j hj
theorem m_J98 {rc : AR → AR → AR → AR → AR → AR → AR → AR → AR → AR → AR → AR → AR → Int32 → Int32 → Int32 → (AR → AR → AR → AR → AR → AR → Prop) → Prop} {sM s tc rg vc kd fl mi wh bR wk tS bS : AR} {n : Nat} (hn : n ≤ 4) {l4 l5 : Int32} {post : AR → AR → AR → AR → AR → AR → Prop} (hk : ∀ bS', (∀ j, j < n → bS' j = tS j) → post (upd (upd sM 43 l4) 44 l5) wh bR wk tS bS') : wpX11_bestOn_J98 rc sM s tc rg vc kd fl mi wh bR wk tS bS (nI n) l4 l5 post := by
  unfold wpX11_bestOn_J98
  refine loop_0 (fun nn i (q : AR) => wpX11_bestOn_L113 rc (upd (upd sM 43 l4) 44 l5) s tc rg vc kd fl mi wh bR wk tS (nI n) _ post nn q (nI i)) (fun i q => ∀ j, j < i → q j = tS j) n bS (fun j hj => absurd hj (Nat.not_lt_zero _)) ?_ ?_
  · intro nn q hI
    show wpX11_bestOn_L113 rc (upd (upd sM 43 l4) 44 l5) s tc rg vc kd fl mi wh bR wk tS (nI n) _ post (nn + 1) q (nI n)
    unfold wpX11_bestOn_L113
    exact ⟨fun _ => hk _ hI, fun z => absurd (nI_le (Nat.le_refl n) (by omega)) z⟩
  · intro nn i q hi hI hnext
    show wpX11_bestOn_L113 rc (upd (upd sM 43 l4) 44 l5) s tc rg vc kd fl mi wh bR wk tS (nI n) _ post (nn + 1) q (nI i)
    unfold wpX11_bestOn_L113
    rw [nI_clamp (by omega)]
    refine ⟨fun z => absurd z (nI_ge hi (by omega)), fun _ => ⟨vp_in_nI (by omega) (by omega), vp_in_nI (by omega) (by omega), nm_e (nm_r (nI_1 i) (hnext _ (fun j hj => ?_)))⟩⟩
    by_cases e : j = i
    · subst e; rw [pk_us]
    · rw [pk_un e]; exact hI j (by omega)
theorem m_bestOn {P : FL} {s tc rg vc fl kd mi : AR} (hF : FlatOK P) (hG : GRep P s tc rg vc fl kd mi) {n bu : Nat} (hn : n ≤ 4) (hbu : bu < 2 ^ 31) : ∀ r dp, r < dp → ∀ (d : Nat), d + r = n → ∀ (sM wh bR wk tS bS : AR) (a rw' : Nat → Nat) (B : Nat) (b : BS) (tr : Nat), FRep P (fun j => bR (29 * d + j)) a → FOK P B a → B + r < 2 ^ 30 → MB n sM bS b → sM 42 = nI tr → tr ≤ 20000 → sM 46 = 0 → (∀ i, i < d → tS i = nI (rw' i)) → ∀ (post : AR → AR → AR → AR → AR → AR → Prop),
    (tr + nd P bu r a ≤ 20000 → ∀ sM' wh' bR' wk' tS' bS', MB n sM' bS' (bF P bu r a rw' d b) → sM' 42 = nI (tr + nd P bu r a) → sM' 46 = 0 → FrM sM sM' → (∀ j, j < 29 * (d + 1) → bR' j = bR j) → (∀ i, i < d → tS' i = tS i) → post sM' wh' bR' wk' tS' bS') →
    (20000 < tr + nd P bu r a → ∀ sM' wh' bR' wk' tS' bS', sM' 46 = 1 → FrM sM sM' → post sM' wh' bR' wk' tS' bS') → wpX11_bestOn dp sM s tc rg vc kd fl mi wh bR wk tS bS (nI d) (nI n) (nI bu) post := by
  have f5 := hF.1.2.2.2.2.1
  have h32 := p2_le f5
  have hs := hG.1
  intro r
  induction r with
  | zero =>
    intro dp hdp d hdr sM wh bR wk tS bS a rw' B b tr ha hok hB hb h42 htr h46 hrow post hA hS
    obtain ⟨dp, rfl⟩ : ∃ k, dp = k + 1 := ⟨dp - 1, by omega⟩
    have hdn : d = n := by omega
    subst hdn
    unfold wpX11_bestOn
    refine ⟨fun z => absurd rfl z, fun _ => m_L8 hn (fun wk' y hw => ?_)⟩
    have haw : FRep P wk' a := ha.same hF (fun j hj => hw j hj)
    refine m_howMany hF hs haw hok (h := 1) (by omega) (m_howMany hF hs haw hok (h := 2) (by omega) ?_)
    have h1 := hmN_le hF a 1
    have h2 := hmN_le hF a 2
    have hA := hA (by rw [nd]; exact htr)
    rw [bF] at hA
    have better : btr b (hmN P a 1) (hmN P a 2) = true → wpX11_bestOn_J98 (wpX11_bestOn dp) sM s tc rg vc kd fl mi wh bR wk' tS bS (nI d) (nI (hmN P a 1)) (nI (hmN P a 2)) post := by
      intro q
      rw [if_pos q] at hA
      refine m_J98 hn (fun bS' hb' => hA _ _ _ _ _ _ ⟨?_, b5 hF a, fun _ => ⟨h2, ?_, fun i hi => ?_⟩⟩ ?_ ?_ (fun j q1 q2 q3 q4 q5 q6 => ?_) (fun _ _ => rfl) (fun _ _ => rfl))
      · rw [pk_un (by omega), pk_us]; rfl
      · rw [pk_us]
      · rw [hb' i hi]; exact hrow i hi
      · rw [pk_un (by omega), pk_un (by omega)]; exact h42
      · rw [pk_un (by omega), pk_un (by omega)]; exact h46
      · rw [pk_un q5, pk_un q4]
    have same : ¬ btr b (hmN P a 1) (hmN P a 2) = true → post sM wh bR wk' tS bS := by
      intro q
      rw [if_neg q] at hA
      exact hA _ _ _ _ _ _ hb h42 h46 FrM.rfl' (fun _ _ => rfl) (fun _ _ => rfl)
    obtain ⟨hb1, hb2, hb3⟩ := hb
    rw [hb1, show (-1 : Int32) = -nI 1 from rfl, tI_none (by omega)]
    unfold btr at better same
    rw [decide_eq_true_eq] at better same
    refine ⟨fun e => better (Or.inl (by omega)), fun e => ?_⟩
    obtain ⟨c, hc⟩ : ∃ c, b.1 = c + 1 := ⟨b.1 - 1, by omega⟩
    obtain ⟨hb4, hb5, -⟩ := hb3 e
    rw [hc, show tI (c + 1) = nI c from rfl, hb5, nI_ltI (by omega) (by omega), nI_eq (by omega) (by omega), nI_ltI (by omega) (by omega)]
    refine ⟨fun z => same (by omega), fun z => ⟨fun y => better (by omega), fun y => ⟨fun x => better (by omega), fun x => same (by omega)⟩⟩⟩
  | succ r ih =>
    intro dp hdp d hdr sM wh bR wk tS bS a rw' B b tr ha hok hB hb h42 htr h46 hrow post hA hS
    obtain ⟨dp, rfl⟩ : ∃ k, dp = k + 1 := ⟨dp - 1, by omega⟩
    rw [nd, bF] at *
    generalize hfd : (fun m => if canB P bu m a = true then 1 + nd P bu r (sk P m a) else 0) = f at hA hS
    generalize hgd : (fun m b => if canB P bu m a = true then bF P bu r (sk P m a) (rwU rw' d m) (d + 1) b else b) = g at hA
    have hf : ∀ m, f m = if canB P bu m a = true then 1 + nd P bu r (sk P m a) else 0 := fun m => by rw [← hfd]
    have hg : ∀ m b, g m b = if canB P bu m a = true then bF P bu r (sk P m a) (rwU rw' d m) (d + 1) b else b := fun m b => by rw [← hgd]
    unfold wpX11_bestOn
    refine ⟨fun _ => ?_, fun z => absurd ((nI_eq (by omega) (by omega)).mp z) (by omega)⟩
    refine loop_0 (fun nn i (q : AR × AR × AR × AR × AR × AR) => wpX11_bestOn_L143 (wpX11_bestOn dp) s tc rg vc kd fl mi (nI d) (nI n) (nI bu) _ post nn q.1 q.2.1 q.2.2.1 q.2.2.2.1 q.2.2.2.2.1 q.2.2.2.2.2 (nI i)) (fun i q => FrM sM q.1 ∧ ((q.1 46 = 0 ∧ tr + sm f i ≤ 20000 ∧ q.1 42 = nI (tr + sm f i) ∧ MB n q.1 q.2.2.2.2.2 (fld g i b) ∧ (∀ j, j < 29 * (d + 1) → q.2.2.1 j = bR j) ∧ ∀ i, i < d → q.2.2.2.2.1 i = tS i) ∨ (q.1 46 = 1 ∧ 20000 < tr + sm f (2 ^ P 0 2)))) (2 ^ P 0 2) (sM, wh, bR, wk, tS, bS) ⟨FrM.rfl', Or.inl ⟨h46, htr, h42, hb, fun _ _ => rfl, fun _ _ => rfl⟩⟩ ?_ ?_
    · rintro nn ⟨sM1, wh1, bR1, wk1, tS1, bS1⟩ ⟨g0, g1⟩
      show wpX11_bestOn_L143 (wpX11_bestOn dp) s tc rg vc kd fl mi (nI d) (nI n) (nI bu) _ post (nn + 1) sM1 wh1 bR1 wk1 tS1 bS1 (nI (2 ^ P 0 2))
      unfold wpX11_bestOn_L143
      rw [hs 2 (by omega), show jshl (1 : Int32) (nI (P 0 2)) = nI (2 ^ P 0 2) from n_shl (by omega)]
      refine ⟨fun _ => ?_, fun z => absurd (nI_le (Nat.le_refl _) (by omega)) z⟩
      rcases g1 with ⟨k1, k2, k3, k4, k5, k6⟩ | ⟨k1, k2⟩
      · exact hA k2 _ _ _ _ _ _ k4 k3 k1 g0 k5 k6
      · exact hS k2 _ _ _ _ _ _ k1 g0
    · rintro nn i ⟨sM1, wh1, bR1, wk1, tS1, bS1⟩ hi ⟨g0, g1⟩ hnext
      have g0 : FrM sM sM1 := g0
      show wpX11_bestOn_L143 (wpX11_bestOn dp) s tc rg vc kd fl mi (nI d) (nI n) (nI bu) _ post (nn + 1) sM1 wh1 bR1 wk1 tS1 bS1 (nI i)
      unfold wpX11_bestOn_L143
      rw [hs 2 (by omega), show jshl (1 : Int32) (nI (P 0 2)) = nI (2 ^ P 0 2) from n_shl (by omega)]
      refine ⟨fun z => absurd z (nI_ge hi (by omega)), fun _ => ?_⟩
      rcases g1 with ⟨k1, k2, k3, k4, k5, k6⟩ | ⟨k1, k2⟩
      · have k1 : sM1 46 = 0 := k1
        have k3 : sM1 42 = nI (tr + sm f i) := k3
        have k4 : MB n sM1 bS1 (fld g i b) := k4
        have k5 : ∀ j, j < 29 * (d + 1) → bR1 j = bR j := k5
        have k6 : ∀ i, i < d → tS1 i = tS i := k6
        refine ⟨fun z => absurd k1 z, fun _ => m_L166 (by omega) (fun wk' y hw => ?_)⟩
        have haw : FRep P wk' a := ha.same hF (fun j hj => by rw [hw j hj, k5 _ (by omega)])
        have skip : ¬ canB P bu i a = true → ∀ l4_312 : Int32, l4_312 = (nI i + (1 : Int32)) → wpX11_bestOn_L143 (wpX11_bestOn dp) s tc rg vc kd fl mi (nI d) (nI n) (nI bu) (fun sM_318 M_why_318 M_bestRows_318 M_work_318 M_trySets_318 M_bestSets_318 l4_318 => post sM_318 M_why_318 M_bestRows_318 M_work_318 M_trySets_318 M_bestSets_318) post nn sM1 wh1 bR1 wk' tS1 bS1 l4_312 := by
          intro e
          refine nm_r (nI_1 i) (hnext (sM1, wh1, bR1, wk', tS1, bS1) ⟨g0, Or.inl ⟨k1, ?_, ?_, ?_, k5, k6⟩⟩)
          · show tr + sm f (i + 1) ≤ 20000
            rw [sm, hf, if_neg e]; exact k2
          · show sM1 42 = nI (tr + sm f (i + 1))
            rw [sm, hf, if_neg e]; exact k3
          · show MB n sM1 bS1 (fld g (i + 1) b)
            rw [fld, hg, if_neg e]; exact k4
        have hil : i &&& bu < 2 ^ 31 := Nat.lt_of_le_of_lt Nat.and_le_left (by omega)
        rw [n_and, show (nI (i &&& bu) = (0 : Int32)) = (i &&& bu = 0) from propext (nI_eq (b := 0) hil (by omega))]
        refine ⟨fun e => skip (fun z => e ((canB_bu hi).mp z).1), fun e => ?_⟩
        refine m_canRing hF hs haw hok (fun m em hc => ⟨fun _ => ?_, fun z => absurd z (by decide)⟩) (fun e2 => ⟨fun z => absurd rfl z, fun _ => skip (fun z => e2 ⟨i, rfl, ((canB_bu hi).mp z).2⟩)⟩)
        have hem : i = m := nI_inj32 (by omega) (by have := hc.1; omega) em
        subst hem
        have hcb : canB P bu i a = true := (canB_bu hi).mpr ⟨e, hc⟩
        have hfi : sm f (i + 1) = sm f i + (1 + nd P bu r (sk P i a)) := by rw [sm, hf, if_pos hcb]
        have hgi : fld g (i + 1) b = bF P bu r (sk P i a) (rwU rw' d i) (d + 1) (fld g i b) := by rw [fld, hg, if_pos hcb]
        have hmono := sm_mono f (show i + 1 ≤ 2 ^ P 0 2 from hi)
        rw [k3, show (nI (tr + sm f i) = (20000 : Int32)) = (tr + sm f i = 20000) from propext (nI_eq (b := 20000) (by omega) (by omega))]
        refine ⟨fun e3 => nm_r (nI_1 _) ?_, fun e3 => ?_⟩
        · refine m_strokeOf hF hG hc haw hok (by omega) (fun s' wh' wk2 q1 q2 q3 => m_L261 (by omega) (fun bR' y' p1 p2 => ⟨vp_in_nI (by omega) (by omega), ?_⟩))
          rw [nI_clamp (by omega), show nI d + (1 : Int32) = nI (d + 1) from nI_1 d]
          refine nm_e (ih dp (by omega) (d + 1) (by omega) s' wh' bR' wk2 _ bS1 (sk P i a) (rwU rw' d i) (B + 1) (fld g i b) (tr + sm f i + 1) (q1.same hF (fun j hj => p1 j hj)) (sk_ok hF hok) (by omega) ?_ ?_ (by omega) ?_ (fun j hj => ?_) _ (fun h1 sM' wh2 bR2 wk3 tS2 bS2 r1 r2 r3 r4 r5 r6 => ?_) (fun h1 sM' wh2 bR2 wk3 tS2 bS2 r1 r2 => ?_))
          · refine ⟨?_, k4.2.1, fun z => ?_⟩
            · rw [q3 43 (by omega) (by omega), pk_un (by omega)]; exact k4.1
            · obtain ⟨z1, z2, z3⟩ := k4.2.2 z
              exact ⟨z1, by rw [q3 44 (by omega) (by omega), pk_un (by omega)]; exact z2, z3⟩
          · rw [q3 42 (by omega) (by omega), pk_us]
          · rw [q3 46 (by omega) (by omega), pk_un (by omega)]; exact k1
          · unfold rwU
            by_cases ej : j = d
            · rw [if_pos ej, ej, pk_us]
            · rw [if_neg ej, pk_un ej, k6 j (by omega)]; exact hrow j (by omega)
          · have fr : FrM sM sM' := g0.trans (FrM.trans (fun j j1 j2 j3 j4 j5 j6 => by rw [q3 j j1 j2, pk_un j3]) r4)
            refine nm_r (nI_1 i) (hnext (sM', wh2, bR2, wk3, tS2, bS2) ⟨fr, Or.inl ⟨r3, ?_, ?_, ?_, fun j hj => ?_, fun j hj => ?_⟩⟩)
            · show tr + sm f (i + 1) ≤ 20000
              rw [hfi]; omega
            · show sM' 42 = nI (tr + sm f (i + 1))
              rw [hfi, r2]; congr 1; omega
            · show MB n sM' bS2 (fld g (i + 1) b)
              rw [hgi]; exact r1
            · show bR2 j = _
              rw [r5 j (by omega), p2 j hj]; exact k5 j hj
            · show tS2 j = _
              rw [r6 j (by omega), pk_un (by omega)]; exact k6 j hj
          · have fr : FrM sM sM' := g0.trans (FrM.trans (fun j j1 j2 j3 j4 j5 j6 => by rw [q3 j j1 j2, pk_un j3]) r2)
            refine nm_r (nI_1 i) (hnext (sM', wh2, bR2, wk3, tS2, bS2) ⟨fr, Or.inr ⟨r1, ?_⟩⟩)
            rw [hfi] at hmono
            omega
        · refine hS (by rw [hfi] at hmono; omega) _ _ _ _ _ _ (by rw [pk_us]) (g0.trans (fun j j1 j2 j3 j4 j5 j6 => by rw [pk_un j6]))
      · have k1 : sM1 46 = 1 := k1
        refine ⟨fun _ => hS k2 _ _ _ _ _ _ k1 g0, fun z => ?_⟩
        rw [k1] at z
        exact absurd z (by decide)
