/-! words, signs, numbers -/
theorem sk_rng : ∀ k, k < 50 → ∀ i, i < (skB k).length → ((skB k).getD i 0).toNatClampNeg < 128 ∧ nI ((skB k).getD i 0).toNatClampNeg = (skB k).getD i 0 := by decide +kernel
theorem sk_len : ∀ k, k < 50 → (skB k).length < 40 := by decide +kernel
def wdB (tx : Nat → Nat) (N p k : Nat) : Bool := decide (tK tx N p = 1 ∧ tE tx N p - tB tx N p = (skB k).length ∧ ∀ i, i < (skB k).length → nI (tx (tB tx N p + i)) = (skB k).getD i 0)
theorem wd_inj {tx : Nat → Nat} {N p k k' : Nat} (h : wdB tx N p k = true) (h' : wdB tx N p k' = true) : skB k = skB k' := by
  obtain ⟨a1, a2, a3⟩ := of_decide_eq_true h
  obtain ⟨b1, b2, b3⟩ := of_decide_eq_true h'
  have hl : (skB k).length = (skB k').length := by omega
  refine List.ext_getElem hl (fun i h1 h2 => ?_)
  have e1 := a3 i h1
  have e2 := b3 i h2
  rw [List.getD_eq_getElem?_getD, List.getElem?_eq_getElem h1] at e1
  rw [List.getD_eq_getElem?_getD, List.getElem?_eq_getElem h2] at e2
  exact e1.symm.trans e2
theorem wd_sk {tx : Nat → Nat} {N p k k' : Nat} (h : skB k = skB k') : wdB tx N p k = wdB tx N p k' := by unfold wdB; rw [h]
theorem c_isWord {tx : Nat → Nat} {N p k : Nat} {t s : AR} (ht : TxC tx N t) (hp : p ≤ N) (hR : RdC tx N p s) (hk : k < 50) {post : Int32 → Prop} (h : post (if wdB tx N p k = true then 1 else 0)) : wpX8_isWord s t k post := by
  obtain ⟨hN, hb⟩ := ht
  obtain ⟨r1, r2, r5, r4, r7, -⟩ := hR
  have hE := tE_le (tx := tx) hp
  have hK := tK_le tx N p
  have hl := sk_len k hk
  unfold wdB at h
  unfold wpX8_isWord
  rw [r7, r4, show (nI (tK tx N p) = (1 : Int32)) = (tK tx N p = 1) from propext (nI_eq (b := 1) (by omega) (by omega)), nI_eq (by omega) (by omega)]
  refine ⟨fun z => ?_, fun z => ⟨hk, fun e => ?_, fun e => ?_⟩⟩
  · rw [if_neg (by simp only [decide_eq_true_eq]; exact fun q => z q.1)] at h; exact h
  · refine loop_0 (fun n i (_ : Unit) => wpX8_isWord_L23 s t k _ post n (nI i)) (fun i _ => ∀ j, j < i → nI (tx (tB tx N p + j)) = (skB k).getD j 0) (skB k).length () (fun j hj => absurd hj (Nat.not_lt_zero _)) ?_ ?_
    · intro n _ hI
      show wpX8_isWord_L23 s t k _ post (n + 1) (nI (skB k).length)
      unfold wpX8_isWord_L23
      rw [r4, e]
      refine ⟨fun _ => ?_, fun q => absurd (nI_le (Nat.le_refl _) (by omega)) q⟩
      rw [if_pos (by simp only [decide_eq_true_eq]; exact ⟨z, e, hI⟩)] at h
      exact h
    · intro n i _ hi hI hnext
      show wpX8_isWord_L23 s t k _ post (n + 1) (nI i)
      unfold wpX8_isWord_L23
      obtain ⟨hv, hti⟩ := hb (tB tx N p + i) (by omega)
      obtain ⟨w1, w2⟩ := sk_rng k hk i hi
      rw [r4, e, r5, nI_add, nI_clamp (by omega), nI_clamp (by omega), hti]
      refine ⟨fun q => absurd q (nI_ge hi (by omega)), fun _ => ⟨vp_in_nI (by omega) (by omega), hk, vp_in_nI hi (by omega), fun q => nm_r (nI_1 i) (hnext () (lt_s hI ?_)), fun q => ?_⟩⟩
      · rw [← w2] at q ⊢
        rw [(bI_eq _ hv _ w1).mp q]
      · rw [if_neg] at h
        · exact h
        · simp only [decide_eq_true_eq]
          intro q2
          have q3 := q2.2.2 i hi
          rw [← w2] at q q3
          exact q ((bI_eq _ hv _ w1).mpr ((nI_eq (by omega) (by omega)).mp q3))
  · rw [if_neg (by simp only [decide_eq_true_eq]; exact fun q => e q.2.1)] at h; exact h
theorem m_isL0 {t s : AR} {k : Nat} {l3 : Int32} {kx : Int32 → Int32 → Prop} {post : Int32 → Prop} (h : kx 0 l3) : ∃ n, wpX11_is_L39 s t k kx post n (0 : Int32) l3 := by
  refine ⟨1, ?_⟩
  unfold wpX11_is_L39
  exact ⟨fun _ => h, fun z => absurd rfl z⟩
theorem m_isBad {t s : AR} {k : Nat} {post : Int32 → Prop} (h21 : ¬ s 21 = 0) (h : post 0) : wpX11_is s t k post := by
  unfold wpX11_is
  exact ⟨fun _ => m_isL0 ⟨nrw0, h⟩, fun z => absurd z h21⟩
theorem m_is {tx : Nat → Nat} {N p k : Nat} {t s : AR} (ht : TxM tx N t) (hp : p ≤ N) (hR : RdM tx N p s) (h21 : s 21 = 0) (hk : k < 50) {post : Int32 → Prop} (h : post (if wdB tx N p k = true then 1 else 0)) : wpX11_is s t k post := by
  obtain ⟨hN, hb⟩ := ht
  obtain ⟨r16, r15, r20, r19, r17, -⟩ := hR
  have hE := tE_le (tx := tx) hp
  have hG := tE_ge tx N p
  have hK := tK_le tx N p
  have hl := sk_len k hk
  unfold wdB at h
  unfold wpX11_is
  rw [h21, r17, r20, r19, pk_sub hG, show (nI (tK tx N p) = (1 : Int32)) = (tK tx N p = 1) from propext (nI_eq (b := 1) (by omega) (by omega)), nI_eq (by omega) (by omega)]
  refine ⟨fun z => absurd rfl z, fun _ => ⟨fun z => ?_, fun z => ⟨hk, fun e => ?_, fun e => ?_⟩⟩⟩
  · rw [if_neg (by simp only [decide_eq_true_eq]; exact fun q => z q.1)] at h; exact m_isL0 ⟨nrw0, h⟩
  · rw [if_neg (by simp only [decide_eq_true_eq]; exact fun q => e q.2.1.symm)] at h; exact m_isL0 ⟨nrw0, h⟩
  · refine loop_m (fun n (q : Int32 × Nat) => wpX11_is_L39 s t k _ post n q.1 (nI q.2)) (fun q => q.2 ≤ (skB k).length ∧ ((q.1 = 1 ∧ ∀ j, j < q.2 → nI (tx (tB tx N p + j)) = (skB k).getD j 0) ∨ (q.1 = 0 ∧ ¬ ∀ i, i < (skB k).length → nI (tx (tB tx N p + i)) = (skB k).getD i 0))) (fun q => if q.1 = 0 then 0 else (skB k).length + 1 - q.2) ?_ (1, 0) ⟨Nat.zero_le _, Or.inl ⟨rfl, fun j hj => absurd hj (Nat.not_lt_zero _)⟩⟩
    rintro n ⟨b, i⟩ ⟨g1, g2⟩ hnext
    have g1 : i ≤ (skB k).length := g1
    show wpX11_is_L39 s t k _ post (n + 1) b (nI i)
    unfold wpX11_is_L39
    rcases g2 with ⟨hb1, hI⟩ | ⟨hb0, hno⟩
    · have hb1 : b = 1 := hb1
      subst hb1
      have hI : ∀ j, j < i → nI (tx (tB tx N p + j)) = (skB k).getD j 0 := hI
      refine ⟨fun q => absurd q (by decide), fun _ => ⟨hk, fun q => ?_, fun q => ?_⟩⟩
      · have : (skB k).length ≤ i := (nI_leI (by omega) (by omega)).mp q
        have ei : i = (skB k).length := by omega
        subst ei
        rw [if_pos (by simp only [decide_eq_true_eq]; exact ⟨z, e.symm, hI⟩)] at h
        exact ⟨nrw1, h⟩
      · have hi : i < (skB k).length := by
          rcases Nat.lt_or_ge i (skB k).length with q2 | q2
          · exact q2
          · exact absurd (nI_le q2 (by omega)) q
        obtain ⟨hv, hti⟩ := hb (tB tx N p + i) (by omega)
        rw [r19, nI_add, nI_clamp (by omega), nI_clamp (by omega), hti]
        refine ⟨hk, vp_in_nI hi (by omega), vp_in_nI (by omega) (by omega), fun q2 => nm_r (nI_1 i) (hnext (0, i + 1) ⟨hi, Or.inr ⟨rfl, fun q3 => q2 (q3 i hi).symm⟩⟩ ?_), fun q2 => nm_r (nI_1 i) (hnext (1, i + 1) ⟨hi, Or.inl ⟨rfl, lt_s hI q2.symm⟩⟩ ?_)⟩
        · show (if (0 : Int32) = 0 then 0 else _) < (if (1 : Int32) = 0 then 0 else _)
          rw [if_pos rfl, if_neg (by decide)]; omega
        · show (if (1 : Int32) = 0 then 0 else (skB k).length + 1 - (i + 1)) < (if (1 : Int32) = 0 then 0 else (skB k).length + 1 - i)
          rw [if_neg (by decide), if_neg (by decide)]; omega
    · have hb0 : b = 0 := hb0
      subst hb0
      refine ⟨fun _ => ?_, fun q => absurd rfl q⟩
      rw [if_neg (by simp only [decide_eq_true_eq]; exact fun q => hno q.2.2)] at h
      exact ⟨nrw0, h⟩
/-! signs -/
def sgB (tx : Nat → Nat) (N p c : Nat) : Bool := decide (tK tx N p = 3 ∧ tx (tB tx N p) = c)
theorem tK_in {tx : Nat → Nat} {N p : Nat} (h : tK tx N p ≠ 0) : tB tx N p < N := by
  rcases Nat.lt_or_ge (tB tx N p) N with q | q
  · exact q
  · exact absurd (tK_0.mpr q) h
theorem c_isSign {tx : Nat → Nat} {N p c : Nat} {t s : AR} (ht : TxC tx N t) (hR : RdC tx N p s) (hc : c < 128) {x : Int32} (hx : x = nI c) {post : Int32 → Prop} (h : post (if sgB tx N p c = true then 1 else 0)) : wpX8_isSign s t x post := by
  obtain ⟨hN, hb⟩ := ht
  obtain ⟨r1, r2, r5, r4, r7, -⟩ := hR
  have hK := tK_le tx N p
  subst hx
  unfold sgB at h
  unfold wpX8_isSign
  rw [r7, r5, show (nI (tK tx N p) = (3 : Int32)) = (tK tx N p = 3) from propext (nI_eq (b := 3) (by omega) (by omega))]
  refine ⟨fun z => ?_, fun z => ?_⟩
  · rw [if_neg (by simp only [decide_eq_true_eq]; exact fun q => z q.1)] at h; exact h
  · have hl := tK_in (tx := tx) (N := N) (p := p) (by omega)
    obtain ⟨hv, hti⟩ := hb _ hl
    rw [nI_clamp (by omega), hti, show (bI (tx (tB tx N p)) = nI c) = (tx (tB tx N p) = c) from propext (bI_eq _ hv c hc)]
    refine ⟨vp_in_nI (by omega) (by omega), fun q => ?_, fun q => ?_⟩
    · rw [if_neg (by simp only [decide_eq_true_eq]; exact fun w => q w.2)] at h; exact h
    · rw [if_pos (by simp only [decide_eq_true_eq]; exact ⟨z, q⟩)] at h; exact h
theorem m_isMarked {tx : Nat → Nat} {N p c : Nat} {t s : AR} (ht : TxM tx N t) (hR : RdM tx N p s) (h21 : s 21 = 0) (hc : c < 128) {x : Int32} (hx : x = nI c) {post : Int32 → Prop} (h : post (if sgB tx N p c = true then 1 else 0)) : wpX11_isMarked s t x post := by
  obtain ⟨hN, hb⟩ := ht
  obtain ⟨r16, r15, r20, r19, r17, -⟩ := hR
  have hK := tK_le tx N p
  subst hx
  unfold sgB at h
  unfold wpX11_isMarked
  rw [h21, r17, r19, show (nI (tK tx N p) = (3 : Int32)) = (tK tx N p = 3) from propext (nI_eq (b := 3) (by omega) (by omega))]
  refine ⟨fun z => absurd rfl z, fun _ => ⟨fun z => ?_, fun z => ?_⟩⟩
  · rw [if_neg (by simp only [decide_eq_true_eq]; exact fun q => z q.1)] at h; exact h
  · have hl := tK_in (tx := tx) (N := N) (p := p) (by omega)
    obtain ⟨hv, hti⟩ := hb _ hl
    rw [nI_clamp (by omega), hti, nI_eq (by omega) (by omega)]
    refine ⟨vp_in_nI (by omega) (by omega), fun q => ?_, fun q => ?_⟩
    · rw [if_neg (by simp only [decide_eq_true_eq]; exact fun w => q w.2)] at h; exact h
    · rw [if_pos (by simp only [decide_eq_true_eq]; exact ⟨z, q⟩)] at h; exact h
/-- a fault is written down: in the class, in the reference -/
abbrev cF (s : AR) (k b : Nat) : AR := upd (upd s 8 (nI k)) 9 (nI b)
abbrev mF (s : AR) (k b : Nat) : AR := upd (upd s 21 (nI k)) 22 (nI b)
theorem c_refuse {tx : Nat → Nat} {N p : Nat} {s : AR} (hR : RdC tx N p s) {k : Nat} {x : Int32} (hx : x = nI k) {post : Int32 → AR → Prop} (h : post 0 (cF s k (tB tx N p))) : wpX8_refuse s x post := by
  unfold wpX8_refuse
  rw [hR.2.2.1, hx]
  exact nm_e h
theorem m_wrong {tx : Nat → Nat} {N p : Nat} {s : AR} (hR : RdM tx N p s) (h21 : s 21 = 0) {k : Nat} {x : Int32} (hx : x = nI k) {post : AR → Prop} (h : post (mF s k (tB tx N p))) : wpX11_wrong s x post := by
  unfold wpX11_wrong
  rw [h21, hR.2.2.2.1, hx]
  exact ⟨fun _ => nm_e h, fun z => absurd rfl z⟩
theorem m_wrongBad {s : AR} (h21 : ¬ s 21 = 0) {x : Int32} {post : AR → Prop} (h : post s) : wpX11_wrong s x post := by
  unfold wpX11_wrong
  exact ⟨fun z => absurd z h21, fun _ => h⟩
theorem c_passSign {tx : Nat → Nat} {N p c : Nat} {t s : AR} (ht : TxC tx N t) (hp : p ≤ N) (hR : RdC tx N p s) (hc : c < 128) {x : Int32} (hx : x = nI c) {post : Int32 → AR → Prop} (h1 : sgB tx N p c = true → ∀ s', RdC tx N (tE tx N p) s' → (∀ j, 7 < j → s' j = s j) → post 1 s') (h0 : sgB tx N p c = false → post 0 (cF s 1 (tB tx N p))) : wpX8_passSign s t x post := by
  unfold wpX8_passSign
  refine c_isSign ht hR hc hx ?_
  by_cases e : sgB tx N p c = true
  · rw [if_pos e]
    exact ⟨fun _ => c_advance ht (tE_le hp) hR.1 hR.2.1 (fun s' a1 a2 a3 => h1 e s' a1 a3), fun z => absurd z (by decide)⟩
  · rw [if_neg e]
    exact ⟨fun z => absurd rfl z, fun _ => c_refuse hR (k := 1) rfl ⟨nrw0, h0 (by simpa using e)⟩⟩
/-- what a step of the reference leaves -/
def FrS (s s' : AR) : Prop := ∀ j, j ≠ 15 → j ≠ 17 → j ≠ 18 → j ≠ 19 → j ≠ 20 → s' j = s j
theorem FrS.rfl' {s : AR} : FrS s s := fun _ _ _ _ _ _ => rfl
theorem FrS.trans {a b c : AR} (h : FrS a b) (h2 : FrS b c) : FrS a c := fun j j1 j2 j3 j4 j5 => (h2 j j1 j2 j3 j4 j5).trans (h j j1 j2 j3 j4 j5)
theorem m_markBad {t s : AR} (h21 : ¬ s 21 = 0) {x : Int32} {post : AR → Prop} (h : post s) : wpX11_mark s t x post := by
  unfold wpX11_mark wpX11_mark_J20
  exact ⟨fun _ => ⟨fun _ => h, fun z => absurd z h21⟩, fun z => absurd z h21⟩
theorem mF21 {s : AR} {k b : Nat} (hk : 0 < k) (hk2 : k < 2 ^ 31) : ¬ mF s k b 21 = 0 := by
  rw [show mF s k b 21 = nI k from (pk_un (by omega)).trans pk_us]
  exact nI_ne0 hk hk2
theorem m_mark {tx : Nat → Nat} {N p c : Nat} {t s : AR} (ht : TxM tx N t) (hp : p ≤ N) (hR : RdM tx N p s) (h21 : s 21 = 0) (hc : c < 128) {x : Int32} (hx : x = nI c) {post : AR → Prop} (h1 : sgB tx N p c = true → ∀ s', RdM tx N (tE tx N p) s' → FrS s s' → post s') (h0 : sgB tx N p c = false → post (mF s 1 (tB tx N p))) : wpX11_mark s t x post := by
  unfold wpX11_mark wpX11_mark_J20
  refine ⟨fun z => absurd h21 z, fun _ => m_isMarked ht hR h21 hc hx ?_⟩
  by_cases e : sgB tx N p c = true
  · rw [if_pos e]
    exact ⟨fun _ => ⟨fun z => absurd h21 z, fun _ => m_stepOn ht (tE_le hp) hR.1 hR.2.1 (fun s' a1 a2 => h1 e s' a1 a2)⟩, fun z => absurd z (by decide)⟩
  · rw [if_neg e]
    refine ⟨fun z => absurd rfl z, fun _ => m_wrong hR h21 (k := 1) rfl ⟨fun _ => h0 (by simpa using e), fun z => absurd z (mF21 (by omega) (by omega))⟩⟩
/-! numbers -/
theorem rn_all (p : Nat → Bool) : ∀ f i j, i ≤ j → j < rn p f i → p j = true := by
  intro f
  induction f with
  | zero => intro i j h1 h2; rw [rn] at h2; omega
  | succ f ih =>
    intro i j h1 h2
    rw [rn] at h2
    by_cases e : p i = true
    · rw [if_pos e] at h2
      by_cases e2 : j = i
      · subst e2; exact e
      · exact ih (i + 1) j (by omega) h2
    · rw [if_neg e] at h2; omega
theorem dv_lt {tx : Nat → Nat} {b : Nat} : ∀ n, (∀ i, i < n → isDg (tx (b + i)) = true) → dv tx b n < 10 ^ n := by
  intro n
  induction n with
  | zero => intro _; exact Nat.lt_succ_self 0
  | succ n ih =>
    intro h
    have h1 := ih (fun i hi => h i (by omega))
    have h2 := of_decide_eq_true (h n (by omega))
    rw [dv, Nat.pow_succ]
    omega
/-- a number's fault: 0 none -/
def nF (tx : Nat → Nat) (N p lo hi : Nat) : Nat := if tK tx N p ≠ 2 then 1 else if 3 < tE tx N p - tB tx N p ∨ tV tx N p < lo ∨ hi ≤ tV tx N p then 2 else 0
theorem nF_ok {tx : Nat → Nat} {N p lo hi : Nat} (h : nF tx N p lo hi = 0) : tK tx N p = 2 ∧ tE tx N p - tB tx N p ≤ 3 ∧ lo ≤ tV tx N p ∧ tV tx N p < hi := by
  unfold nF at h
  by_cases e : tK tx N p ≠ 2
  · rw [if_pos e] at h; omega
  · rw [if_neg e] at h
    by_cases e2 : 3 < tE tx N p - tB tx N p ∨ tV tx N p < lo ∨ hi ≤ tV tx N p
    · rw [if_pos e2] at h; omega
    · exact ⟨by omega, by omega, by omega, by omega⟩
theorem nF_le (tx : Nat → Nat) (N p lo hi : Nat) : nF tx N p lo hi ≤ 2 := by
  unfold nF
  split
  · omega
  · split <;> omega
theorem tV_lt {tx : Nat → Nat} {N p : Nat} (h : tK tx N p = 2) (h3 : tE tx N p - tB tx N p ≤ 3) : tV tx N p < 1000 := by
  have hin := tK_in (tx := tx) (N := N) (p := p) (by omega)
  have hd : ∀ i, i < tE tx N p - tB tx N p → isDg (tx (tB tx N p + i)) = true := by
    intro i hi
    unfold tK at h
    unfold tE at hi
    rw [if_neg (by omega)] at h hi
    by_cases e1 : isLt (tx (tB tx N p)) = true
    · rw [if_pos e1] at h; omega
    · rw [if_neg e1] at h hi
      by_cases e2 : isDg (tx (tB tx N p)) = true
      · rw [if_pos e2] at hi
        exact rn_all (fun i => isDg (tx i)) (N - tB tx N p) (tB tx N p) (tB tx N p + i) (by omega) (by unfold rt at hi; omega)
      · rw [if_neg e2] at h
        split at h <;> omega
  have h1 := dv_lt _ hd
  have h2 : 10 ^ (tE tx N p - tB tx N p) ≤ 10 ^ 3 := Nat.pow_le_pow_right (by omega) h3
  have h4 : (10 : Nat) ^ 3 = 1000 := by decide
  unfold tV
  omega
theorem hi_le {v hi : Nat} (hv : v < 2 ^ 30) (hh : hi < 2 ^ 30) : (nI v ≤ nI hi - (1 : Int32)) = (v < hi) := by
  cases hi with
  | zero =>
    rw [show nI 0 - (1 : Int32) = -nI 1 from rfl, n_leneg (by omega) (by omega) (by omega)]
    simp
  | succ h =>
    rw [show nI (h + 1) - (1 : Int32) = nI h from pk_sub (a := h + 1) (b := 1) (by omega)]
    refine propext ?_
    rw [nI_leI (by omega) (by omega)]
    omega
theorem c_number {tx : Nat → Nat} {N p lo hi : Nat} {t s : AR} (ht : TxC tx N t) (hp : p ≤ N) (hR : RdC tx N p s) (hlo : lo < 2 ^ 30) (hhi : hi < 2 ^ 30) {x1 x2 : Int32} (hx1 : x1 = nI lo) (hx2 : x2 = nI hi - 1) {post : Int32 → AR → Prop} (h0 : nF tx N p lo hi = 0 → ∀ s', RdC tx N (tE tx N p) s' → s' 6 = nI (tB tx N p) → (∀ j, 7 < j → s' j = s j) → post (nI (tV tx N p)) s') (h1 : nF tx N p lo hi ≠ 0 → post (-1) (cF s (nF tx N p lo hi) (tB tx N p))) : wpX8_number s t x1 x2 post := by
  have hR2 := hR
  obtain ⟨r1, r2, r5, r4, r7, r3⟩ := hR
  have hK := tK_le tx N p
  have hE := tE_le (tx := tx) hp
  have hN := ht.1
  subst hx1 hx2
  unfold wpX8_number wpX8_number_J40
  rw [r7, show (nI (tK tx N p) = (2 : Int32)) = (tK tx N p = 2) from propext (nI_eq (b := 2) (by omega) (by omega)), r4, show ((3 : Int32) < nI (tE tx N p - tB tx N p)) = (3 < tE tx N p - tB tx N p) from propext (nI_ltI (a := 3) (by omega) (by omega))]
  unfold nF at h0 h1
  refine ⟨fun z => ?_, fun z => ?_⟩
  · rw [if_neg (fun q => q z)] at h0 h1
    have bad : (3 < tE tx N p - tB tx N p ∨ tV tx N p < lo ∨ hi ≤ tV tx N p) → wpX8_refuse s (2 : Int32) (fun r42 sR_42 => post (-1 : Int32) sR_42) := by
      intro q
      rw [if_pos q] at h1
      exact c_refuse hR2 (k := 2) rfl (h1 (by omega))
    refine ⟨fun q => bad (Or.inl q), fun q => ?_⟩
    have hv := tV_lt z (by omega)
    rw [r3 z (by omega), nI_ltI (by omega) (by omega), hi_le (by omega) hhi]
    refine ⟨fun q2 => bad (Or.inr (Or.inl q2)), fun q2 => ⟨fun q3 => ?_, fun q3 => bad (Or.inr (Or.inr (by omega)))⟩⟩
    rw [if_neg (by omega)] at h0
    exact nm_e (c_advance ht hE r1 r2 (fun s' a1 a2 a3 => h0 rfl s' a1 (a2.trans r5) a3))
  · rw [if_pos z] at h1
    exact c_refuse hR2 (k := 1) rfl (h1 (by omega))
theorem m_numberNow {tx : Nat → Nat} {N p lo hi : Nat} {s : AR} (hp : p ≤ N) (hN : N ≤ 500) (hR : RdM tx N p s) (h21 : s 21 = 0) (hlo : lo < 2 ^ 30) (hhi : hi < 2 ^ 30) {x1 x2 : Int32} (hx1 : x1 = nI lo) (hx2 : x2 = nI hi - 1) {post : Int32 → AR → Prop} (h0 : nF tx N p lo hi = 0 → post (nI (tV tx N p)) s) (h1 : nF tx N p lo hi ≠ 0 → post 0 (mF s (nF tx N p lo hi) (tB tx N p))) : wpX11_numberNow s x1 x2 post := by
  have hR2 := hR
  obtain ⟨r16, r15, r20, r19, r17, r18⟩ := hR
  have hK := tK_le tx N p
  have hE := tE_le (tx := tx) hp
  have hG := tE_ge tx N p
  subst hx1 hx2
  unfold wpX11_numberNow wpX11_numberNow_J54 wpX11_numberNow_J59
  rw [h21, r17, show (nI (tK tx N p) = (2 : Int32)) = (tK tx N p = 2) from propext (nI_eq (b := 2) (by omega) (by omega)), r20, r19, pk_sub hG, show ((3 : Int32) < nI (tE tx N p - tB tx N p)) = (3 < tE tx N p - tB tx N p) from propext (nI_ltI (a := 3) (by omega) (by omega))]
  unfold nF at h0 h1
  refine ⟨fun _ => ⟨fun z => ?_, fun z => ?_⟩, fun z => absurd rfl z⟩
  · rw [if_neg (fun q => q z)] at h0 h1
    have bad : (3 < tE tx N p - tB tx N p ∨ tV tx N p < lo ∨ hi ≤ tV tx N p) → wpX11_wrong s (2 : Int32) (fun sM_56 => ((¬ (sM_56 21) = 0 → post (0 : Int32) sM_56) ∧ ((sM_56 21) = 0 → post (sM_56 18) sM_56))) := by
      intro q
      rw [if_pos q] at h1
      exact m_wrong hR2 h21 (k := 2) rfl ⟨fun _ => h1 (by omega), fun q2 => absurd q2 (mF21 (by omega) (by omega))⟩
    refine ⟨fun q => bad (Or.inl q), fun q => ?_⟩
    have hv := tV_lt z (by omega)
    rw [r18 z (by omega), nI_ltI (by omega) (by omega), hi_le (by omega) hhi]
    refine ⟨fun q2 => bad (Or.inr (Or.inl q2)), fun q2 => ⟨fun q3 => ⟨fun q4 => absurd rfl q4, fun _ => ?_⟩, fun q3 => bad (Or.inr (Or.inr (by omega)))⟩⟩
    rw [if_neg (by omega)] at h0
    exact h0 rfl
  · rw [if_pos z] at h1
    exact m_wrong hR2 h21 (k := 1) rfl ⟨fun _ => h1 (by omega), fun q2 => absurd q2 (mF21 (by omega) (by omega))⟩
theorem m_nowBad {s : AR} (h21 : ¬ s 21 = 0) {x1 x2 : Int32} {post : Int32 → AR → Prop} (h : post 0 s) : wpX11_numberNow s x1 x2 post := by
  unfold wpX11_numberNow
  exact ⟨fun z => absurd z h21, fun _ => h⟩
theorem m_readBad {t s : AR} (h21 : ¬ s 21 = 0) {x1 x2 : Int32} {post : Int32 → AR → Prop} (h : post 0 s) : wpX11_readNumber s t x1 x2 post := by
  unfold wpX11_readNumber
  exact m_nowBad h21 ⟨fun _ => h, fun z => absurd z h21⟩
theorem m_readNumber {tx : Nat → Nat} {N p lo hi : Nat} {t s : AR} (ht : TxM tx N t) (hp : p ≤ N) (hR : RdM tx N p s) (h21 : s 21 = 0) (hlo : lo < 2 ^ 30) (hhi : hi < 2 ^ 30) {x1 x2 : Int32} (hx1 : x1 = nI lo) (hx2 : x2 = nI hi - 1) {post : Int32 → AR → Prop} (h0 : nF tx N p lo hi = 0 → ∀ s', RdM tx N (tE tx N p) s' → FrS s s' → post (nI (tV tx N p)) s') (h1 : nF tx N p lo hi ≠ 0 → post 0 (mF s (nF tx N p lo hi) (tB tx N p))) : wpX11_readNumber s t x1 x2 post := by
  have hle := nF_le tx N p lo hi
  unfold wpX11_readNumber
  refine m_numberNow hp ht.1 hR h21 hlo hhi hx1 hx2 (fun e => ?_) (fun e => ?_)
  · exact ⟨fun z => absurd h21 z, fun _ => m_stepOn ht (tE_le hp) hR.1 hR.2.1 (fun s' a1 a2 => h0 e s' a1 a2)⟩
  · exact ⟨fun _ => h1 e, fun z => absurd z (mF21 (by omega) (by omega))⟩
