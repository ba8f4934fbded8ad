/-! the best row: how many come in (and 1; 0: none yet), how many are taken, the row -/
abbrev BS : Type := Nat × Nat × (Nat → Nat)
def btr (b : BS) (i k : Nat) : Bool := decide (b.1 < i + 1 ∨ (b.1 = i + 1 ∧ k < b.2.1))
def fld (f : Nat → BS → BS) : Nat → BS → BS
  | 0, b => b
  | n + 1, b => f n (fld f n b)
def rwU (row : Nat → Nat) (d m : Nat) : Nat → Nat := fun i => if i = d then m else row i
def bF (P : FL) (bu : Nat) : Nat → (Nat → Nat) → (Nat → Nat) → Nat → BS → BS
  | 0, a, row, _, b => if btr b (hmN P a 1) (hmN P a 2) = true then (hmN P a 1 + 1, hmN P a 2, row) else b
  | r + 1, a, row, d, b => fld (fun m b => if canB P bu m a = true then bF P bu r (sk P m a) (rwU row d m) (d + 1) b else b) (2 ^ P 0 2) b
theorem fld_congr {f g : Nat → BS → BS} : ∀ n b, (∀ i, i < n → ∀ b, f i b = g i b) → fld f n b = fld g n b := by
  intro n
  induction n with
  | zero => intro b _; rfl
  | succ n ih => intro b h; rw [fld, fld, ih b (fun i hi => h i (by omega)), h n (by omega)]
theorem fld_id {f : Nat → BS → BS} {b : BS} : ∀ n, (∀ i, i < n → f i b = b) → fld f n b = b := by
  intro n
  induction n with
  | zero => intro _; rfl
  | succ n ih => intro h; rw [fld, ih (fun i hi => h i (by omega)), h n (by omega)]
/-! how many are in or out, and taken, along strokes -/
theorem cnt_or {p q r : Nat → Bool} : ∀ n, (∀ i, i < n → (r i = true ↔ p i = true ∨ q i = true) ∧ ¬ (p i = true ∧ q i = true)) → cnt p n + cnt q n = cnt r n := by
  intro n
  induction n with
  | zero => intro _; rfl
  | succ n ih =>
    intro h
    have h1 := ih (fun i hi => h i (by omega))
    obtain ⟨h2, h3⟩ := h n (by omega)
    rw [cnt, cnt, cnt]
    by_cases e1 : p n = true
    · have e2 : ¬ q n = true := fun z => h3 ⟨e1, z⟩
      rw [if_pos e1, if_neg e2, if_pos (h2.mpr (Or.inl e1))]; omega
    · by_cases e2 : q n = true
      · rw [if_neg e1, if_pos e2, if_pos (h2.mpr (Or.inr e2))]; omega
      · rw [if_neg e1, if_neg e2, if_neg (fun z => (h2.mp z).elim e1 e2)]; omega
theorem io_eq (P : FL) (a : Nat → Nat) : hmN P a 1 + hmN P a 0 = cnt (fun w => decide (a (w * 6 + 3) ≤ 1)) (P 0 3) := by
  refine cnt_or _ (fun w _ => ?_)
  simp only [decide_eq_true_eq]
  omega
theorem sk_how {P : FL} {m w : Nat} {a : Nat → Nat} (hw : w < 4) (h : a (w * 6 + 3) ≠ 0) : sk P m a (w * 6 + 3) = a (w * 6 + 3) := by
  rw [sk_w hw (by omega)]
  unfold hW
  rw [if_pos (by show a (w * 6 + 3) ≠ 0; exact h)]
theorem io_mono {P : FL} (hF : FlatOK P) (m : Nat) (a : Nat → Nat) : hmN P (sk P m a) 1 + hmN P (sk P m a) 0 ≤ hmN P a 1 + hmN P a 0 := by
  have f6 := hF.1.2.2.2.2.2.1
  rw [io_eq, io_eq]
  refine cnt_sub _ (fun w hw e => ?_)
  simp only [decide_eq_true_eq] at e ⊢
  by_cases h : a (w * 6 + 3) = 0
  · omega
  · rw [sk_how (by omega) h] at e; exact e
theorem tk_mono {P : FL} (hF : FlatOK P) (m : Nat) (a : Nat → Nat) : hmN P a 2 ≤ hmN P (sk P m a) 2 := by
  have f6 := hF.1.2.2.2.2.2.1
  refine cnt_sub _ (fun w hw e => ?_)
  simp only [decide_eq_true_eq] at e ⊢
  rw [sk_how (by omega) (by omega)]; exact e
theorem btr_less {b : BS} {i i' k k' : Nat} (hi : i' ≤ i) (hk : k ≤ k') (h : ¬ btr b i k = true) : ¬ btr b i' k' = true := by
  unfold btr at *
  simp only [decide_eq_true_eq] at *
  omega
/-- what can't be better is left alone -/
theorem bF_prune {P : FL} (hF : FlatOK P) (bu : Nat) : ∀ r a row d b, ¬ btr b (hmN P a 1 + hmN P a 0) (hmN P a 2) = true → bF P bu r a row d b = b := by
  intro r
  induction r with
  | zero =>
    intro a row d b h
    rw [bF, if_neg (btr_less (by omega) (Nat.le_refl _) h)]
  | succ r ih =>
    intro a row d b h
    rw [bF]
    refine fld_id _ (fun m _ => ?_)
    show (if canB P bu m a = true then _ else _) = _
    split
    · exact ih _ _ _ _ (btr_less (io_mono hF m a) (tk_mono hF m a) h)
    · rfl
/-! a silent tower -/
theorem hW_fields {P : FL} {m kd : Nat} {x y : Nat → Nat} (f : Nat) (hf : f < 6) (h : ∀ f, f < 6 → x f = y f) : hW P m kd x f = hW P m kd y f := by
  have h0 := h 0 (by omega)
  have h1 := h 1 (by omega)
  have h2 := h 2 (by omega)
  have h3 := h 3 (by omega)
  have h4 := h 4 (by omega)
  have h5 := h 5 (by omega)
  have hd : ∀ f, f < 6 → drW kd x f = drW kd y f := fun f hf => by unfold drW; rw [h1, h f hf]
  have d0 := hd 0 (by omega)
  have d2 := hd 2 (by omega)
  have d4 := hd 4 (by omega)
  have d5 := hd 5 (by omega)
  have hdf := hd f hf
  have hxf := h f hf
  unfold hW
  rw [h3, h1]
  split
  · exact hxf
  · split
    · unfold flW; rw [h5, hxf]
    · unfold gW
      rw [d0, d4, d5]
      split
      · unfold tnW; rw [d5, hdf]
      · split
        · unfold tnW; rw [d5, hdf]
        · unfold gS; rw [d0, d2, d4, d5, hdf]
def Sil (t : Nat) (a' a : Nat → Nat) : Prop := a' (24 + t) = 0 ∧ ∀ i, i ≠ 24 + t → a' i = a i
theorem Sil.stp' {P : FL} {t m : Nat} {a' a : Nat → Nat} (h : Sil t a' a) : Sil t (sk P m a') (sk P m a) := by
  refine ⟨by rw [sk_t, h.1, Nat.zero_sub], fun i hi => ?_⟩
  unfold sk
  by_cases e : i < 24
  · rw [if_pos e, if_pos e]
    have : wv a' (i / 6) = fun f => if i / 6 * 6 + f = 24 + t then 0 else a (i / 6 * 6 + f) := funext (fun f => by
      show a' (i / 6 * 6 + f) = _
      by_cases e2 : i / 6 * 6 + f = 24 + t
      · rw [if_pos e2, e2, h.1]
      · rw [if_neg e2, h.2 _ e2])
    have hx : ∀ f, f < 6 → wv a' (i / 6) f = wv a (i / 6) f := fun f hf => h.2 _ (by omega)
    exact hW_fields (i % 6) (by omega) hx
  · rw [if_neg e, if_neg e, h.2 i hi]
theorem Sil.hm {P : FL} (hF : FlatOK P) {t : Nat} {a' a : Nat → Nat} (h : Sil t a' a) (k : Nat) : hmN P a' k = hmN P a k := by
  have f6 := hF.1.2.2.2.2.2.1
  refine cnt_congr _ (fun w hw => ?_)
  show decide (a' (w * 6 + 3) = k) = decide (a (w * 6 + 3) = k)
  rw [h.2 _ (by omega)]
theorem and_p2 {m t : Nat} : m &&& 2 ^ t = 0 ↔ bt1 m t = 0 := by
  have h2 : ∀ x, (bt1 x t = 1 ↔ x.testBit t = true) := fun x => by
    unfold bt1
    rw [Nat.testBit_eq_decide_div_mod_eq]
    simp
  have hb := bt1_lt m t
  constructor
  · intro h
    have h1 : (m &&& 2 ^ t).testBit t = false := by rw [h]; exact Nat.zero_testBit t
    rw [Nat.testBit_and, Nat.testBit_two_pow_self, Bool.and_true] at h1
    have : ¬ bt1 m t = 1 := fun z => by rw [(h2 m).mp z] at h1; exact absurd h1 (by decide)
    omega
  · intro h
    apply Nat.eq_of_testBit_eq
    intro i
    rw [Nat.zero_testBit, Nat.testBit_and, Nat.testBit_two_pow]
    by_cases e : t = i
    · subst e
      have : m.testBit t = false := by
        cases q : m.testBit t with
        | false => rfl
        | true => have := (h2 m).mpr q; omega
      rw [this, Bool.false_and]
    · rw [decide_eq_false e, Bool.and_false]
theorem Sil.can {P : FL} {t m : Nat} (ht : t < P 0 2) {a' a : Nat → Nat} (h : Sil t a' a) : canB P 0 m a' = canB P (2 ^ t) m a := by
  unfold canB
  rw [Bool.eq_iff_iff, decide_eq_true_eq, decide_eq_true_eq, and_p2]
  have hb := bt1_lt m t
  constructor
  · rintro ⟨-, q⟩
    have q1 := q t ht
    rw [h.1] at q1
    refine ⟨by omega, fun u hu => ?_⟩
    by_cases e : u = t
    · subst e; omega
    · rw [← h.2 (24 + u) (by omega)]; exact q u hu
  · rintro ⟨q0, q⟩
    refine ⟨Nat.and_zero m, fun u hu => ?_⟩
    by_cases e : u = t
    · subst e; omega
    · rw [h.2 (24 + u) (by omega)]; exact q u hu
theorem bF_sil {P : FL} (hF : FlatOK P) {t : Nat} (ht : t < P 0 2) : ∀ r a' a row d b, Sil t a' a → bF P 0 r a' row d b = bF P (2 ^ t) r a row d b := by
  intro r
  induction r with
  | zero => intro a' a row d b h; rw [bF, bF, h.hm hF, h.hm hF]
  | succ r ih =>
    intro a' a row d b h
    rw [bF, bF]
    refine fld_congr _ _ (fun m _ b => ?_)
    rw [h.can ht, ih _ _ _ _ b h.stp']
theorem canB_mono {P : FL} {bu m : Nat} {a : Nat → Nat} (h : canB P bu m a = true) : canB P 0 m a = true := by
  have h1 := of_decide_eq_true h
  exact decide_eq_true ⟨Nat.and_zero m, h1.2⟩
theorem nd_mono {P : FL} (bu : Nat) : ∀ r a, nd P bu r a ≤ nd P 0 r a := by
  intro r
  induction r with
  | zero => intro a; exact Nat.le_refl _
  | succ r ih =>
    intro a
    rw [nd, nd]
    refine sm_le _ (fun m _ => ?_)
    by_cases e : canB P bu m a = true
    · rw [if_pos e, if_pos (canB_mono e)]
      have := ih (sk P m a)
      omega
    · rw [if_neg e]; exact Nat.zero_le _
theorem canB_R {P : FL} {m : Nat} {a : Nat → Nat} (hm : m < 2 ^ P 0 2) : canB P 0 m a = true ↔ CanR P m a := by
  unfold canB
  rw [decide_eq_true_eq]
  exact ⟨fun h => ⟨hm, h.2⟩, fun h => ⟨Nat.and_zero m, h.2⟩⟩
/-! the class's planner: its best so far -/
def NRep (n : Nat) (sN fd : AR) (b : BS) : Prop := sN 4 = tI b.1 ∧ b.1 ≤ 5 ∧ (b.1 ≠ 0 → b.2.1 ≤ 4 ∧ sN 5 = nI b.2.1 ∧ ∀ i, i < n → fd i = nI (b.2.2 i))
theorem c_isBetter {n : Nat} {sN fd : AR} {b : BS} (h : NRep n sN fd b) {i k : Nat} (hi : i ≤ 8) (hk : k ≤ 4) {post : Int32 → Prop} (hp : post (if btr b i k = true then 1 else 0)) : wpX6_isBetter sN (nI i) (nI k) post := by
  obtain ⟨h1, h2, h3⟩ := h
  unfold wpX6_isBetter
  rw [h1]
  unfold btr at hp
  by_cases e0 : b.1 = 0
  · rw [e0] at hp ⊢
    rw [decide_eq_true (Or.inl (by omega))] at hp
    refine ⟨fun _ => hp, fun z => absurd ?_ z⟩
    rw [show (tI 0 < nI i) = True from n_neglt (b := 1) (by omega) (by omega) (by omega)]
    trivial
  · obtain ⟨c, hc⟩ : ∃ c, b.1 = c + 1 := ⟨b.1 - 1, by omega⟩
    obtain ⟨h4, h5, -⟩ := h3 e0
    rw [hc] at hp ⊢
    rw [h5, show tI (c + 1) = nI c from rfl, nI_ltI (by omega) (by omega), nI_eq (by omega) (by omega), nI_leI (by omega) (by omega)]
    refine ⟨fun z => ?_, fun z => ⟨fun y => ?_, fun y => ⟨fun x => ?_, fun x => ?_⟩⟩⟩
    · rw [decide_eq_true (Or.inl (by omega))] at hp; exact hp
    · rw [decide_eq_false (by omega)] at hp; exact hp
    · rw [decide_eq_false (by omega)] at hp; exact hp
    · rw [decide_eq_true (Or.inr ⟨by omega, by omega⟩)] at hp; exact hp
theorem c_mayBeBetter {P : FL} {sG sN F fd : AR} (hF : FlatOK P) (hs : ∀ k, k < 7 → sG k = nI (P 0 k)) {n B : Nat} {a : Nat → Nat} (ha : FRep P F a) (hok : FOK P B a) {b : BS} (h : NRep n sN fd b) {post : Int32 → Prop} (hp : post (if btr b (hmN P a 1 + hmN P a 0) (hmN P a 2) = true then 1 else 0)) : wpX6_mayBeBetter sG sN F post := by
  unfold wpX6_mayBeBetter
  refine c_howMany hF hs ha hok (h := 1) (by omega) (c_howMany hF hs ha hok (h := 0) (by omega) (c_howMany hF hs ha hok (h := 2) (by omega) ?_))
  have h1 := hmN_le hF a 1
  have h0 := hmN_le hF a 0
  rw [nI_add]
  refine c_isBetter h (by omega) (hmN_le hF a 2) ?_
  by_cases q : btr b (hmN P a 1 + hmN P a 0) (hmN P a 2) = true
  · rw [if_pos q] at hp ⊢; exact ⟨nrw1, hp⟩
  · rw [if_neg q] at hp ⊢; exact ⟨nrw0, hp⟩
