/-! the reference reads a flat -/
def FrF (s s' : AR) : Prop := ∀ j, j ≠ 15 → j ≠ 17 → j ≠ 18 → j ≠ 19 → j ≠ 20 → j ≠ 21 → j ≠ 22 → s' j = s j
def BdM (s : AR) (k b : Nat) (s' : AR) : Prop := (0 < k ∧ k ≤ 4) ∧ s' 21 = nI k ∧ s' 22 = nI b ∧ FrF s s'
theorem BdM.bad {s s' : AR} {k b : Nat} (h : BdM s k b s') : ¬ s' 21 = 0 := by
  have h1 := h.1
  rw [h.2.1]; exact nI_ne0 h1.1 (by omega)
theorem FrS.frf {s s' : AR} (h : FrS s s') : FrF s s' := fun j a b c d e _ _ => h j a b c d e
theorem FrS.z {s s' : AR} (h : FrS s s') (h21 : s 21 = 0) : s' 21 = 0 := (h 21 (by omega) (by omega) (by omega) (by omega) (by omega)).trans h21
theorem BdM.pre {a s s' : AR} {k b : Nat} (h : FrS a s) (h2 : BdM s k b s') : BdM a k b s' := ⟨h2.1, h2.2.1, h2.2.2.1, fun j j1 j2 j3 j4 j5 j6 j7 => (h2.2.2.2 j j1 j2 j3 j4 j5 j6 j7).trans (h j j1 j2 j3 j4 j5)⟩
theorem BdM.mF {s : AR} {k b : Nat} (hk : 0 < k ∧ k ≤ 4) : BdM s k b (mF s k b) := ⟨hk, mF21e, mF22e, fun j _ _ _ _ _ j6 j7 => (pk_un j7).trans (pk_un j6)⟩
theorem m_num {tx : Nat → Nat} {N p lo hi : Nat} {t s : AR} (ht : TxM tx N t) (hp : p ≤ N) (hR : RdM tx N p s) (h21 : s 21 = 0) (hlo : lo < 2 ^ 30) (hhi : hi < 2 ^ 30) {x1 x2 : Int32} (hx1 : x1 = nI lo) (hx2 : x2 = nI hi - 1) {post : Int32 → AR → Prop} (h0 : ∀ v, aNum tx N p lo hi = .inr v → ∀ s', RdM tx N (tE tx N p) s' → s' 21 = 0 → FrS s s' → post (nI v) s') (h1 : ∀ k b, aNum tx N p lo hi = .inl (k, b) → ∀ s', BdM s k b s' → post 0 s') : wpX11_readNumber s t x1 x2 post := by
  have hle := nF_le tx N p lo hi
  refine m_readNumber ht hp hR h21 hlo hhi hx1 hx2 (fun e s' a1 a2 => h0 _ (by unfold aNum; rw [if_pos e]) s' a1 (a2.z h21) a2) (fun e => h1 _ _ (by unfold aNum; rw [if_neg e]) _ (BdM.mF (by omega)))
theorem m_now2 {tx : Nat → Nat} {N p lo hi : Nat} {s : AR} (hp : p ≤ N) (hN : N ≤ 500) (hR : RdM tx N p s) (h21 : s 21 = 0) (hlo : lo < 2 ^ 30) (hhi : hi < 2 ^ 30) {x1 x2 : Int32} (hx1 : x1 = nI lo) (hx2 : x2 = nI hi - 1) {post : Int32 → AR → Prop} (h0 : ∀ v, aNum tx N p lo hi = .inr v → post (nI v) s) (h1 : ∀ k b, aNum tx N p lo hi = .inl (k, b) → ∀ s', BdM s k b s' → post 0 s') : wpX11_numberNow s x1 x2 post := by
  have hle := nF_le tx N p lo hi
  refine m_numberNow hp hN hR h21 hlo hhi hx1 hx2 (fun e => h0 _ (by unfold aNum; rw [if_pos e])) (fun e => h1 _ _ (by unfold aNum; rw [if_neg e]) _ (BdM.mF (by omega)))
theorem m_step2 {tx : Nat → Nat} {N p : Nat} {t s : AR} (ht : TxM tx N t) (hp : p ≤ N) (hR : RdM tx N p s) (h21 : s 21 = 0) {post : AR → Prop} (hk : ∀ s', RdM tx N (tE tx N p) s' → s' 21 = 0 → FrS s s' → post s') : wpX11_stepOn s t post := m_stepOn ht (tE_le hp) hR.1 hR.2.1 (fun s' a1 a2 => hk s' a1 (FrS.z a2 h21) a2)
theorem m_passes {tx : Nat → Nat} {N p k : Nat} {t s : AR} (ht : TxM tx N t) (hp : p ≤ N) (hR : RdM tx N p s) (h21 : s 21 = 0) (hk : k < 50) {post : Int32 → AR → Prop} (h1 : wdB tx N p k = true → ∀ s', RdM tx N (tE tx N p) s' → s' 21 = 0 → FrS s s' → post 1 s') (h0 : wdB tx N p k = false → post 0 s) : wpX11_passes s t k post := by
  unfold wpX11_passes
  refine m_is ht hp hR h21 hk ?_
  by_cases e : wdB tx N p k = true
  · rw [if_pos e]
    exact ⟨fun z => absurd z (by decide), fun _ => m_step2 ht hp hR h21 (fun s' a1 a2 a3 => ⟨nrw1, h1 e s' a1 a2 a3⟩)⟩
  · rw [if_neg e]
    exact ⟨fun _ => ⟨nrw0, h0 (by simpa using e)⟩, fun z => absurd rfl z⟩
theorem m_passBad {t s : AR} {k : Nat} (h21 : ¬ s 21 = 0) {post : Int32 → AR → Prop} (h : post 0 s) : wpX11_passes s t k post := by
  unfold wpX11_passes
  exact m_isBad h21 ⟨fun _ => ⟨nrw0, h⟩, fun z => absurd rfl z⟩
theorem m_which {tx : Nat → Nat} {N p b n f : Nat} {t s : AR} (ht : TxM tx N t) (hp : p ≤ N) (hR : RdM tx N p s) (h21 : s 21 = 0) (hbn : b + n ≤ 50) {post : Int32 → Prop} (h1 : ∀ i, i < n → (∀ j, j < i → wdB tx N p (b + j) = false) → wdB tx N p (b + i) = true → post (nI i)) (h0 : (∀ j, j < n → wdB tx N p (b + j) = false) → post (-1)) : wpX11_which s t b n post := by
  unfold wpX11_which
  refine loop_0 (fun m i (_ : Unit) => wpX11_which_L2 s t b n _ post m (nI i)) (fun i _ => ∀ j, j < i → wdB tx N p (b + j) = false) n () (fun j hj => absurd hj (Nat.not_lt_zero _)) ?_ ?_
  · intro m _ hI
    show wpX11_which_L2 s t b n _ post (m + 1) (nI n)
    unfold wpX11_which_L2
    exact ⟨fun _ => h0 hI, fun z => absurd (nI_le (Nat.le_refl _) (by omega)) z⟩
  · intro m i _ hi hI hnext
    show wpX11_which_L2 s t b n _ post (m + 1) (nI i)
    unfold wpX11_which_L2
    rw [nI_clamp (by omega)]
    refine ⟨fun z => absurd z (nI_ge hi (by omega)), fun _ => ⟨vp_in_nI hi (by omega), m_is ht hp hR h21 (by omega) ?_⟩⟩
    by_cases e : wdB tx N p (b + i) = true
    · rw [if_pos e]
      exact ⟨fun z => absurd z (by decide), fun _ => h1 i hi hI e⟩
    · rw [if_neg e]
      exact ⟨fun _ => nm_r (nI_1 i) (hnext () (lt_s hI (by simpa using e))), fun z => absurd rfl z⟩
theorem m_whichBad {t s : AR} {b n : Nat} (hn : n ≤ 50) (h21 : ¬ s 21 = 0) {post : Int32 → Prop} (h : post (-1)) : wpX11_which s t b n post := by
  unfold wpX11_which
  refine loop_0 (fun m i (_ : Unit) => wpX11_which_L2 s t b n _ post m (nI i)) (fun i _ => True) n () trivial ?_ ?_
  · intro m _ hI
    show wpX11_which_L2 s t b n _ post (m + 1) (nI n)
    unfold wpX11_which_L2
    exact ⟨fun _ => h, fun z => absurd (nI_le (Nat.le_refl _) (by omega)) z⟩
  · intro m i _ hi hI hnext
    show wpX11_which_L2 s t b n _ post (m + 1) (nI i)
    unfold wpX11_which_L2
    rw [nI_clamp (by omega)]
    exact ⟨fun z => absurd z (nI_ge hi (by omega)), fun _ => ⟨vp_in_nI hi (by omega), m_isBad h21 ⟨fun _ => nm_r (nI_1 i) (hnext () trivial), fun z => absurd rfl z⟩⟩⟩
theorem m_winds {tx : Nat → Nat} {N p : Nat} {t s : AR} (ht : TxM tx N t) (hp : p ≤ N) (hR : RdM tx N p s) (h21 : s 21 = 0) {post : Int32 → Prop} (h : post (tI (dirB tx N p))) : wpX11_which s t 37 4 post := by
  have e0 : wdB tx N p 37 = wdB tx N p 6 := wd_sk (by decide)
  have e1 : wdB tx N p 38 = wdB tx N p 7 := wd_sk (by decide)
  have e2 : wdB tx N p 39 = wdB tx N p 8 := wd_sk (by decide)
  have e3 : wdB tx N p 40 = wdB tx N p 9 := wd_sk (by decide)
  unfold dirB at h
  rw [← e0, ← e1, ← e2, ← e3] at h
  refine m_which (f := 0) ht hp hR h21 (by omega) (fun i hi hl hw => ?_) (fun hl => ?_)
  · rcases (show i = 0 ∨ i = 1 ∨ i = 2 ∨ i = 3 by omega) with rfl | rfl | rfl | rfl
    · rw [show wdB tx N p 37 = true from hw] at h; exact h
    · rw [show wdB tx N p 37 = false from hl 0 (by omega), show wdB tx N p 38 = true from hw] at h; exact h
    · rw [show wdB tx N p 37 = false from hl 0 (by omega), show wdB tx N p 38 = false from hl 1 (by omega), show wdB tx N p 39 = true from hw] at h; exact h
    · rw [show wdB tx N p 37 = false from hl 0 (by omega), show wdB tx N p 38 = false from hl 1 (by omega), show wdB tx N p 39 = false from hl 2 (by omega), show wdB tx N p 40 = true from hw] at h; exact h
  · rw [show wdB tx N p 37 = false from hl 0 (by omega), show wdB tx N p 38 = false from hl 1 (by omega), show wdB tx N p 39 = false from hl 2 (by omega), show wdB tx N p 40 = false from hl 3 (by omega)] at h; exact h
theorem m_kinds {tx : Nat → Nat} {N p : Nat} {t s : AR} (ht : TxM tx N t) (hp : p ≤ N) (hR : RdM tx N p s) (h21 : s 21 = 0) {post : Int32 → Prop} (h : post (tI (kndB tx N p))) : wpX11_which s t 32 5 post := by
  have e0 : wdB tx N p 32 = wdB tx N p 12 := wd_sk (by decide)
  have e1 : wdB tx N p 33 = wdB tx N p 13 := wd_sk (by decide)
  have e2 : wdB tx N p 34 = wdB tx N p 14 := wd_sk (by decide)
  have e3 : wdB tx N p 35 = wdB tx N p 15 := wd_sk (by decide)
  have e4 : wdB tx N p 36 = wdB tx N p 16 := wd_sk (by decide)
  unfold kndB at h
  rw [← e0, ← e1, ← e2, ← e3, ← e4] at h
  refine m_which (f := 0) ht hp hR h21 (by omega) (fun i hi hl hw => ?_) (fun hl => ?_)
  · rcases (show i = 0 ∨ i = 1 ∨ i = 2 ∨ i = 3 ∨ i = 4 by omega) with rfl | rfl | rfl | rfl | rfl
    · rw [show wdB tx N p 32 = true from hw] at h; exact h
    · rw [show wdB tx N p 32 = false from hl 0 (by omega), show wdB tx N p 33 = true from hw] at h; exact h
    · rw [show wdB tx N p 32 = false from hl 0 (by omega), show wdB tx N p 33 = false from hl 1 (by omega), show wdB tx N p 34 = true from hw] at h; exact h
    · rw [show wdB tx N p 32 = false from hl 0 (by omega), show wdB tx N p 33 = false from hl 1 (by omega), show wdB tx N p 34 = false from hl 2 (by omega), show wdB tx N p 35 = true from hw] at h; exact h
    · rw [show wdB tx N p 32 = false from hl 0 (by omega), show wdB tx N p 33 = false from hl 1 (by omega), show wdB tx N p 34 = false from hl 2 (by omega), show wdB tx N p 35 = false from hl 3 (by omega), show wdB tx N p 36 = true from hw] at h; exact h
  · rw [show wdB tx N p 32 = false from hl 0 (by omega), show wdB tx N p 33 = false from hl 1 (by omega), show wdB tx N p 34 = false from hl 2 (by omega), show wdB tx N p 35 = false from hl 3 (by omega), show wdB tx N p 36 = false from hl 4 (by omega)] at h; exact h
/-! the draft in the reference -/
def DM (D : FL) (td pl rg vc kd rd fl mi : AR) : Prop := (∀ k, k < 7 → td (7 + k) = nI (D 0 k)) ∧ (∀ t, t < D 0 2 → pl (5 + t) = nI (D 1 t) ∧ rg (5 + t) = nI (D 2 t) ∧ vc (5 + t) = nI (D 3 t) ∧ fl (5 + t) = nI (D 4 t) ∧ rd (24 + t) = nI (D 7 t)) ∧ (∀ w, w < D 0 3 → kd (4 + w) = nI (D 5 w) ∧ rd (6 * w) = nI (D 8 w) ∧ rd (6 * w + 1) = nI (D 9 w) ∧ rd (6 * w + 2) = 0 ∧ rd (6 * w + 3) = 0 ∧ rd (6 * w + 4) = -1 ∧ rd (6 * w + 5) = 0) ∧ ∀ c, c < 100 → mi (100 + c) = nI (D 6 c)
def Lo (n : Nat) (a a' : AR) : Prop := ∀ j, j < n → a' j = a j
theorem Lo.rf {n : Nat} {a : AR} : Lo n a a := fun _ _ => rfl
theorem Lo.up {n i : Nat} {a a' : AR} {v : Int32} (h : Lo n a a') (hi : n ≤ i) : Lo n a (upd a' i v) := fun j hj => (pk_un (by omega)).trans (h j hj)
theorem Lo.tr {n : Nat} {a b c : AR} (h : Lo n a b) (h2 : Lo n b c) : Lo n a c := fun j hj => (h2 j hj).trans (h j hj)
theorem DM.size {D : FL} {td pl rg vc kd rd fl mi : AR} (h : DM D td pl rg vc kd rd fl mi) (w g : Nat) : DM (dU (dU D 0 0 w) 0 1 g) (upd (upd td 7 (nI w)) 8 (nI g)) pl rg vc kd rd fl mi := by
  obtain ⟨h1, h2, h3, h4⟩ := h
  have eo : ∀ a b, (a ≠ 0 ∨ (b ≠ 0 ∧ b ≠ 1)) → dU (dU D 0 0 w) 0 1 g a b = D a b := fun a b hab => by rw [dU_o (by omega), dU_o (by omega)]
  refine ⟨fun k hk => ?_, fun t ht => ?_, fun x hx => ?_, fun c hc => ?_⟩
  · by_cases e1 : k = 1
    · subst e1; rw [pk_us, dU_s]
    · by_cases e0 : k = 0
      · subst e0; rw [pk_un (by omega), pk_us, dU_o (by omega), dU_s]
      · rw [pk_un (by omega), pk_un (by omega), eo 0 k (by omega)]; exact h1 k hk
  · rw [eo 0 2 (by omega)] at ht
    rw [eo 1 t (by omega), eo 2 t (by omega), eo 3 t (by omega), eo 4 t (by omega), eo 7 t (by omega)]; exact h2 t ht
  · rw [eo 0 3 (by omega)] at hx
    rw [eo 5 x (by omega), eo 8 x (by omega), eo 9 x (by omega)]; exact h3 x hx
  · rw [eo 6 c (by omega)]; exact h4 c hc
theorem DM.wind {D : FL} {td pl rg vc kd rd fl mi : AR} (h : DM D td pl rg vc kd rd fl mi) (w g : Nat) : DM (dU (dU D 0 4 w) 0 5 g) (upd (upd td 11 (nI w)) 12 (nI g)) pl rg vc kd rd fl mi := by
  obtain ⟨h1, h2, h3, h4⟩ := h
  have eo : ∀ a b, (a ≠ 0 ∨ (b ≠ 4 ∧ b ≠ 5)) → dU (dU D 0 4 w) 0 5 g a b = D a b := fun a b hab => by rw [dU_o (by omega), dU_o (by omega)]
  refine ⟨fun k hk => ?_, fun t ht => ?_, fun x hx => ?_, fun c hc => ?_⟩
  · by_cases e1 : k = 5
    · subst e1; rw [pk_us, dU_s]
    · by_cases e0 : k = 4
      · subst e0; rw [pk_un (by omega), pk_us, dU_o (by omega), dU_s]
      · rw [pk_un (by omega), pk_un (by omega), eo 0 k (by omega)]; exact h1 k hk
  · rw [eo 0 2 (by omega)] at ht
    rw [eo 1 t (by omega), eo 2 t (by omega), eo 3 t (by omega), eo 4 t (by omega), eo 7 t (by omega)]; exact h2 t ht
  · rw [eo 0 3 (by omega)] at hx
    rw [eo 5 x (by omega), eo 8 x (by omega), eo 9 x (by omega)]; exact h3 x hx
  · rw [eo 6 c (by omega)]; exact h4 c hc
theorem DM.night {D : FL} {td pl rg vc kd rd fl mi : AR} (h : DM D td pl rg vc kd rd fl mi) (n : Nat) : DM (dU D 0 6 n) (upd td 13 (nI n)) pl rg vc kd rd fl mi := by
  obtain ⟨h1, h2, h3, h4⟩ := h
  have eo : ∀ a b, (a ≠ 0 ∨ b ≠ 6) → dU D 0 6 n a b = D a b := fun a b hab => dU_o hab
  refine ⟨fun k hk => ?_, fun t ht => ?_, fun x hx => ?_, fun c hc => ?_⟩
  · by_cases e1 : k = 6
    · subst e1; rw [pk_us, dU_s]
    · rw [pk_un (by omega), eo 0 k (by omega)]; exact h1 k hk
  · rw [eo 0 2 (by omega)] at ht
    rw [eo 1 t (by omega), eo 2 t (by omega), eo 3 t (by omega), eo 4 t (by omega), eo 7 t (by omega)]; exact h2 t ht
  · rw [eo 0 3 (by omega)] at hx
    rw [eo 5 x (by omega), eo 8 x (by omega), eo 9 x (by omega)]; exact h3 x hx
  · rw [eo 6 c (by omega)]; exact h4 c hc
theorem DM.mirage {D : FL} {td pl rg vc kd rd fl mi : AR} (h : DM D td pl rg vc kd rd fl mi) (c : Nat) : DM (dU D 6 c 1) td pl rg vc kd rd fl (upd mi (100 + c) (1 : Int32)) := by
  obtain ⟨h1, h2, h3, h4⟩ := h
  have eo : ∀ a b, a ≠ 6 → dU D 6 c 1 a b = D a b := fun a b hab => dU_o (Or.inl hab)
  refine ⟨fun k hk => ?_, fun t ht => ?_, fun x hx => ?_, fun c' hc => ?_⟩
  · rw [eo 0 k (by omega)]; exact h1 k hk
  · rw [eo 0 2 (by omega)] at ht
    rw [eo 1 t (by omega), eo 2 t (by omega), eo 3 t (by omega), eo 4 t (by omega), eo 7 t (by omega)]; exact h2 t ht
  · rw [eo 0 3 (by omega)] at hx
    rw [eo 5 x (by omega), eo 8 x (by omega), eo 9 x (by omega)]; exact h3 x hx
  · by_cases e : c' = c
    · subst e; rw [pk_us, dU_s]; rfl
    · rw [pk_un (by omega), dU_o (by omega)]; exact h4 c' hc
theorem DM.tower {D : FL} {td pl rg vc kd rd fl mi : AR} (h : DM D td pl rg vc kd rd fl mi) (h34 : D 0 3 ≤ 4) (c r v s f : Nat) : DM (dTw D c r v s f) (upd td 9 (nI (D 0 2 + 1))) (upd pl (5 + D 0 2) (nI c)) (upd rg (5 + D 0 2) (nI r)) (upd vc (5 + D 0 2) (nI v)) kd (upd rd (24 + D 0 2) (nI s)) (upd fl (5 + D 0 2) (nI f)) mi := by
  obtain ⟨h1, h2, h3, h4⟩ := h
  obtain ⟨n1, n2, n3, n4, n7⟩ := dTw_n (D := D) (c := c) (r := r) (v := v) (s := s) (f := f)
  refine ⟨fun k hk => ?_, fun t ht => ?_, fun x hx => ?_, fun c' hc => ?_⟩
  · by_cases e1 : k = 2
    · subst e1; rw [pk_us, dTw_2]
    · rw [pk_un (by omega), dTw_o (by omega)]; exact h1 k hk
  · rw [dTw_2] at ht
    by_cases e : t = D 0 2
    · subst e; rw [pk_us, pk_us, pk_us, pk_us, pk_us, n1, n2, n3, n4, n7]; exact ⟨rfl, rfl, rfl, rfl, rfl⟩
    · rw [pk_un (by omega), pk_un (by omega), pk_un (by omega), pk_un (by omega), pk_un (by omega), dTw_o (by omega), dTw_o (by omega), dTw_o (by omega), dTw_o (by omega), dTw_o (by omega)]; exact h2 t (by omega)
  · rw [dTw_o (by omega)] at hx
    rw [dTw_o (by omega), dTw_o (by omega), dTw_o (by omega), pk_un (by omega), pk_un (by omega), pk_un (by omega), pk_un (by omega), pk_un (by omega), pk_un (by omega)]; exact h3 x hx
  · rw [dTw_o (by omega)]; exact h4 c' hc
/-- a walker's row in the reference -/
abbrev rdW (rd : AR) (n c w : Nat) : AR := upd (upd (upd (upd (upd (upd rd (6 * n) (nI c)) (6 * n + 1) (nI w)) (6 * n + 2) 0) (6 * n + 3) 0) (6 * n + 4) (-1)) (6 * n + 5) 0
theorem rdW_o {rd : AR} {n c w j : Nat} (h : j < 6 * n ∨ 6 * n + 6 ≤ j) : rdW rd n c w j = rd j := by
  unfold rdW
  rw [pk_un (by omega), pk_un (by omega), pk_un (by omega), pk_un (by omega), pk_un (by omega), pk_un (by omega)]
theorem rdW_n {rd : AR} {n c w : Nat} : rdW rd n c w (6 * n) = nI c ∧ rdW rd n c w (6 * n + 1) = nI w ∧ rdW rd n c w (6 * n + 2) = 0 ∧ rdW rd n c w (6 * n + 3) = 0 ∧ rdW rd n c w (6 * n + 4) = -1 ∧ rdW rd n c w (6 * n + 5) = 0 := by
  unfold rdW
  refine ⟨?_, ?_, ?_, ?_, ?_, ?_⟩
  · rw [pk_un (by omega), pk_un (by omega), pk_un (by omega), pk_un (by omega), pk_un (by omega), pk_us]
  · rw [pk_un (by omega), pk_un (by omega), pk_un (by omega), pk_un (by omega), pk_us]
  · rw [pk_un (by omega), pk_un (by omega), pk_un (by omega), pk_us]
  · rw [pk_un (by omega), pk_un (by omega), pk_us]
  · rw [pk_un (by omega), pk_us]
  · rw [pk_us]
theorem DM.walker {D : FL} {td pl rg vc kd rd fl mi : AR} (h : DM D td pl rg vc kd rd fl mi) (h34 : ¬ 4 ≤ D 0 3) (k c w : Nat) : DM (dWk D k c w) (upd td 10 (nI (D 0 3 + 1))) pl rg vc (upd kd (4 + D 0 3) (nI k)) (rdW rd (D 0 3) c w) fl mi := by
  obtain ⟨h1, h2, h3, h4⟩ := h
  obtain ⟨n5, n8, n9⟩ := dWk_n (D := D) (k := k) (c := c) (w := w)
  obtain ⟨r0, r1, r2, r3, r4, r5⟩ := rdW_n (rd := rd) (n := D 0 3) (c := c) (w := w)
  refine ⟨fun j hj => ?_, fun t ht => ?_, fun x hx => ?_, fun c' hc => ?_⟩
  · by_cases e1 : j = 3
    · subst e1; rw [pk_us, dWk_3]
    · rw [pk_un (by omega), dWk_o (by omega)]; exact h1 j hj
  · rw [dWk_o (by omega)] at ht
    rw [dWk_o (by omega), dWk_o (by omega), dWk_o (by omega), dWk_o (by omega), dWk_o (by omega), rdW_o (by omega)]; exact h2 t ht
  · rw [dWk_3] at hx
    by_cases e : x = D 0 3
    · subst e; rw [pk_us, n5, n8, n9]; exact ⟨rfl, r0, r1, r2, r3, r4, r5⟩
    · rw [pk_un (by omega), dWk_o (by omega), dWk_o (by omega), dWk_o (by omega), rdW_o (by omega), rdW_o (by omega), rdW_o (by omega), rdW_o (by omega), rdW_o (by omega), rdW_o (by omega)]; exact h3 x (by omega)
  · rw [dWk_o (by omega)]; exact h4 c' hc
