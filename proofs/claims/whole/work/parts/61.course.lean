/-! what was done: the class's ring of 100 entries of 34, the reference's rows -/
theorem FRep.same {P : FL} (hF : FlatOK P) {F F' : AR} {a : Nat → Nat} (h : FRep P F a) (e : ∀ j, j < 29 → F' j = F j) : FRep P F' a := by
  have f5 := hF.1.2.2.2.2.1
  have f6 := hF.1.2.2.2.2.2.1
  refine ⟨fun w hw => (h.1 w hw).same (fun j h1 h2 => e j (by omega)), fun t ht => ?_⟩
  rw [e _ (by omega)]
  exact h.2 t ht
def enC (f i : Nat) : Nat := (f + i) % 100 * 34
def EntC (P : FL) (past : AR) (f i : Nat) (a : Nat → Nat) (m : Nat) : Prop := FRep P (fun j => past (enC f i + j)) a ∧ past (enC f i + 29) = nI m ∧ ∀ w, w < P 0 3 → past (enC f i + 30 + w) = rs P m a w
def EntM (P : FL) (rows sets whys : AR) (i : Nat) (a : Nat → Nat) (m : Nat) : Prop := FRep P (fun j => rows (29 * i + j)) a ∧ sets i = nI m ∧ ∀ w, w < P 0 3 → whys (4 * i + w) = rs P m a w
theorem EntC.same {P : FL} (hF : FlatOK P) {past past' : AR} {f i m : Nat} {a : Nat → Nat} (h : EntC P past f i a m) (e : ∀ j, j < 34 → past' (enC f i + j) = past (enC f i + j)) : EntC P past' f i a m := by
  have f6 := hF.1.2.2.2.2.2.1
  refine ⟨h.1.same hF (fun j hj => e j (by omega)), ?_, fun w hw => ?_⟩
  · rw [e 29 (by omega)]; exact h.2.1
  · rw [show enC f i + 30 + w = enC f i + (30 + w) by omega, e _ (by omega), show enC f i + (30 + w) = enC f i + 30 + w by omega]
    exact h.2.2 w hw
theorem EntM.same {P : FL} (hF : FlatOK P) {rows rows' sets sets' whys whys' : AR} {i m : Nat} {a : Nat → Nat} (h : EntM P rows sets whys i a m) (e : ∀ j, j < 29 → rows' (29 * i + j) = rows (29 * i + j)) (e1 : sets' i = sets i) (e2 : ∀ j, j < 4 → whys' (4 * i + j) = whys (4 * i + j)) : EntM P rows' sets' whys' i a m := by
  have f6 := hF.1.2.2.2.2.2.1
  refine ⟨h.1.same hF e, ?_, fun w hw => ?_⟩
  · rw [e1]; exact h.2.1
  · rw [e2 w (by omega)]; exact h.2.2 w hw
/-- one course: states 0 to n + u, the sets between them, n done, u undone -/
def CoOK (P : FL) (B : Nat) (st : Nat → Nat → Nat) (se : Nat → Nat) (n u : Nat) : Prop := n + u ≤ 100 ∧ (∀ i, i ≤ n + u → FOK P B (st i)) ∧ ∀ i, i < n + u → CanR P (se i) (st i) ∧ st (i + 1) = sk P (se i) (st i)
def CRep (P : FL) (sC past F : AR) (st : Nat → Nat → Nat) (se : Nat → Nat) (n u : Nat) : Prop := ∃ f, f < 100 ∧ sC 2 = nI f ∧ sC 3 = nI n ∧ sC 4 = nI u ∧ FRep P F (st n) ∧ ∀ i, i < n + u → EntC P past f i (st i) (se i)
def MRep (P : FL) (sM now rows sets whys : AR) (st : Nat → Nat → Nat) (se : Nat → Nat) (n u : Nat) : Prop := sM 30 = nI n ∧ sM 31 = nI u ∧ FRep P now (st n) ∧ ∀ i, i < n + u → EntM P rows sets whys i (st i) (se i)
theorem c_entry {sC : AR} {f i : Nat} (hf : f < 100) (h2 : sC 2 = nI f) (hi : i ≤ 100) {post : Int32 → Prop} (h : post (nI (enC f i))) : wpX0_entry sC (nI i) post := by
  unfold wpX0_entry
  rw [h2, nI_add, show jrem (nI (f + i)) (100 : Int32) = nI ((f + i) % 100) from n_rem (d := 100) (by omega) (by omega) (by omega), show nI ((f + i) % 100) * (34 : Int32) = nI ((f + i) % 100 * 34) from pk_mul _ 34]
  exact h
theorem enC_lt (f i : Nat) : enC f i + 34 ≤ 3400 := by
  unfold enC
  have := Nat.mod_lt (f + i) (show 0 < 100 by omega)
  omega
theorem enC_ne {f i n : Nat} (hf : f < 100) (hi : i < 100) (hn : n < 100) (h : i ≠ n) : enC f i + 34 ≤ enC f n ∨ enC f n + 34 ≤ enC f i := by
  unfold enC
  omega
theorem c_strikeNext {P : FL} {sC sG past F R fl kd hA E ov ak nx wy gl : AR} (hF : FlatOK P) (hs : ∀ k, k < 7 → sG k = nI (P 0 k)) (hE : EarsOK P hA E ov ak) (hW' : FeetOK P nx wy gl) (hfl : ∀ t, t < P 0 2 → fl t = nI (P 4 t)) (hkd : ∀ w, w < P 0 3 → kd w = nI (P 5 w)) {m B f n : Nat} {a : Nat → Nat} (hc : CanR P m a) (ha : FRep P F a) (hok : FOK P B a) (hB : B < 2 ^ 30) (hf : f < 100) (hn : n < 100) (h2 : sC 2 = nI f) (h3 : sC 3 = nI n) {post : AR → AR → AR → AR → Prop} (hk : ∀ past' F' R', FRep P F' (sk P m a) → EntC P past' f n a m → (∀ i, i < 100 → i ≠ n → ∀ j, j < 34 → past' (enC f i + j) = past (enC f i + j)) → post (upd sC 3 (nI (n + 1))) past' F' R') : wpX0_strikeNext sC sG past F R fl kd hA E ov ak nx wy gl (nI m) post := by
  have f6 := hF.1.2.2.2.2.2.1
  have f5 := hF.1.2.2.2.2.1
  have hen := enC_lt f n
  unfold wpX0_strikeNext
  rw [h3]
  refine c_entry hf h2 (by omega) ?_
  rw [nI_clamp (by omega), show nI (enC f n) + (29 : Int32) = nI (enC f n + 29) from nI_add _ 29, show nI (enC f n) + (30 : Int32) = nI (enC f n + 30) from nI_add _ 30, nI_clamp (by omega), nI_clamp (by omega)]
  refine ⟨fun z => absurd ((nI_ltI (b := 0) (by omega) (by omega)).mp z) (by omega), by omega, nm_e ?_⟩
  refine c_hear hF hs hE hW' hfl hkd hc ha hok hB (fun F' R' q1 q2 => ?_)
  refine ⟨vp_in_nI (by omega) (by omega), nm_e ⟨fun z => absurd ((nI_ltI (b := 0) (by omega) (by omega)).mp z) (by omega), by omega, nm_e (nm_r (nI_1 n) ?_)⟩⟩
  refine hk _ F' R' q1 ⟨ha.same hF (fun j hj => ?_), ?_, fun w hw => ?_⟩ (fun i hi hne j hj => ?_)
  · show va_cpy R' _ 0 (enC f n + 30) 4 (enC f n + j) = F j
    rw [pk_cpy_out (by omega), pk_un (by omega), pk_cpy_in (by omega) (by omega)]
    congr 1; omega
  · rw [pk_cpy_out (by omega), pk_us]
  · rw [pk_cpy_in (by omega) (by omega), show 0 + (enC f n + 30 + w - (enC f n + 30)) = w by omega]
    exact q2 w hw
  · have := enC_ne hf hi hn hne
    rw [pk_cpy_out (by omega), pk_un (by omega), pk_cpy_out (by omega)]
/-- the course behind a new stroke -/
def stN (P : FL) (m n : Nat) (st : Nat → Nat → Nat) : Nat → Nat → Nat := fun i => if i ≤ n then st i else sk P m (st n)
def seN (m n : Nat) (se : Nat → Nat) : Nat → Nat := fun i => if i = n then m else se i
theorem CoOK.new {P : FL} (hF : FlatOK P) {B m n u : Nat} {st : Nat → Nat → Nat} {se : Nat → Nat} (h : CoOK P B st se n u) (hn : n < 100) (hc : CanR P m (st n)) : CoOK P (B + 1) (stN P m n st) (seN m n se) (n + 1) 0 := by
  obtain ⟨h1, h2, h3⟩ := h
  refine ⟨by omega, fun i hi => ?_, fun i hi => ?_⟩
  · unfold stN
    split
    · exact (h2 i (by omega)).mono (by omega)
    · exact sk_ok hF (h2 n (by omega))
  · unfold stN seN
    by_cases e : i = n
    · subst e
      rw [if_pos rfl, if_pos (Nat.le_refl _), if_neg (by omega)]
      exact ⟨hc, rfl⟩
    · rw [if_neg e, if_pos (by omega), if_pos (by omega)]
      exact h3 i (by omega)
theorem CoOK.shift {P : FL} {B n u : Nat} {st : Nat → Nat → Nat} {se : Nat → Nat} (h : CoOK P B st se (n + 1) u) : CoOK P B (fun i => st (i + 1)) (fun i => se (i + 1)) n u := by
  obtain ⟨h1, h2, h3⟩ := h
  exact ⟨by omega, fun i hi => h2 (i + 1) (by omega), fun i hi => h3 (i + 1) (by omega)⟩
theorem CoOK.drop {P : FL} {B n u : Nat} {st : Nat → Nat → Nat} {se : Nat → Nat} (h : CoOK P B st se n u) : CoOK P B st se n 0 := by
  obtain ⟨h1, h2, h3⟩ := h
  exact ⟨by omega, fun i hi => h2 i (by omega), fun i hi => h3 i (by omega)⟩
/-- before a new stroke, room is made for it -/
def stR (n : Nat) (st : Nat → Nat → Nat) : Nat → Nat → Nat := if n = 100 then fun i => st (i + 1) else st
def seR (n : Nat) (se : Nat → Nat) : Nat → Nat := if n = 100 then fun i => se (i + 1) else se
def nR (n : Nat) : Nat := if n = 100 then 99 else n
theorem nR_lt {n : Nat} (h : n ≤ 100) : nR n < 100 := by unfold nR; split <;> omega
theorem stR_n {n : Nat} {st : Nat → Nat → Nat} : stR n st (nR n) = st n := by
  unfold stR nR
  by_cases e : n = 100
  · rw [if_pos e, if_pos e, e]
  · rw [if_neg e, if_neg e]
theorem CoOK.room {P : FL} {B n u : Nat} {st : Nat → Nat → Nat} {se : Nat → Nat} (h : CoOK P B st se n u) : CoOK P B (stR n st) (seR n se) (nR n) 0 := by
  unfold stR seR nR
  by_cases e : n = 100
  · subst e
    rw [if_pos rfl, if_pos rfl, if_pos rfl]
    exact CoOK.shift (n := 99) h.drop
  · rw [if_neg e, if_neg e, if_neg e]
    exact h.drop
theorem c_strikeNew {P : FL} {sC sG past F R fl kd hA E ov ak nx wy gl : AR} (hF : FlatOK P) (hs : ∀ k, k < 7 → sG k = nI (P 0 k)) (hE : EarsOK P hA E ov ak) (hW' : FeetOK P nx wy gl) (hfl : ∀ t, t < P 0 2 → fl t = nI (P 4 t)) (hkd : ∀ w, w < P 0 3 → kd w = nI (P 5 w)) {m B n u : Nat} {st : Nat → Nat → Nat} {se : Nat → Nat} (hc : CanR P m (st n)) (hr : CRep P sC past F st se n u) (hok : CoOK P B st se n u) (hB : B < 2 ^ 30) {post : Int32 → AR → AR → AR → AR → Prop} (hk : ∀ sC' past' F' R', CRep P sC' past' F' (stN P m (nR n) (stR n st)) (seN m (nR n) (seR n se)) (nR n + 1) 0 → (∀ j, 4 < j → sC' j = sC j) → post (nI (hmN P (sk P m (st n)) 1) - nI (hmN P (st n) 1)) sC' past' F' R') : wpX0_strikeNew sC sG past F R fl kd hA E ov ak nx wy gl (nI m) post := by
  obtain ⟨f, hf, h2, h3, h4, hFr, hen⟩ := hr
  have hn : n ≤ 100 := by have := hok.1; omega
  have hfo := hok.2.1 n (by omega)
  have core : ∀ (sC0 : AR) (f0 : Nat), f0 < 100 → sC0 2 = nI f0 → sC0 3 = nI (nR n) → sC0 4 = nI 0 → (∀ j, 4 < j → sC0 j = sC j) → (∀ i, i < nR n → EntC P past f0 i (stR n st i) (seR n se i)) → wpX0_strikeNew_J37 sC0 sG past F R fl kd hA E ov ak nx wy gl (nI m) post := by
    intro sC0 f0 hf0 g2 g3 g4 g5 g6
    unfold wpX0_strikeNew_J37
    refine c_howMany hF hs hFr hfo (h := 1) (by omega) ?_
    refine c_strikeNext hF hs hE hW' hfl hkd hc hFr hfo hB hf0 (nR_lt hn) g2 g3 (fun past' F' R' q1 q2 q3 => ?_)
    refine c_howMany hF hs q1 (sk_ok hF hfo) (h := 1) (by omega) ?_
    refine hk _ _ _ _ ⟨f0, hf0, ?_, ?_, ?_, ?_, fun i hi => ?_⟩ (fun j hj => by rw [pk_un (by omega)]; exact g5 j hj)
    · rw [pk_un (by omega)]; exact g2
    · rw [pk_us]
    · rw [pk_un (by omega)]; exact g4
    · unfold stN
      rw [if_neg (by omega), stR_n]
      exact q1
    · unfold stN seN
      rw [if_pos (by omega)]
      by_cases e : i = nR n
      · subst e
        rw [if_pos rfl, stR_n]
        exact q2
      · rw [if_neg e]
        have := nR_lt hn
        exact (g6 i (by omega)).same hF (fun j hj => q3 i (by omega) e j hj)
  unfold wpX0_strikeNew
  rw [h3, h2]
  refine ⟨fun e => ?_, fun e => ?_⟩
  · have e1 : ¬ n = 100 := fun q => e (by rw [q]; rfl)
    refine core _ f hf (by rw [pk_un (by omega)]; exact h2) (by rw [pk_un (by omega), h3]; unfold nR; rw [if_neg e1]) (by rw [pk_us]; rfl) (fun j hj => by rw [pk_un (by omega)]) (fun i hi => ?_)
    unfold nR at hi
    rw [if_neg e1] at hi
    unfold stR seR
    rw [if_neg e1, if_neg e1]
    exact hen i (by omega)
  · have e1 : n = 100 := (nI_eq (b := 100) (by omega) (by omega)).mp e
    subst e1
    refine nm_r (e' := nI ((f + 1) % 100)) ?_ (nm_r (e' := nI 99) ?_ ?_)
    · rw [show nI f + (1 : Int32) = nI (f + 1) from nI_1 f]
      exact n_rem (d := 100) (by omega) (by omega) (by omega)
    · exact pk_sub (a := 100) (b := 1) (by omega)
    · refine core _ ((f + 1) % 100) (by omega) (by rw [pk_un (by omega), pk_us]) (by rw [pk_us]; rfl) (by rw [pk_un (by omega), pk_un (by omega), pk_us]; rfl) (fun j hj => by rw [pk_un (by omega), pk_un (by omega), pk_un (by omega)]) (fun i hi => ?_)
      unfold nR at hi
      rw [if_pos rfl] at hi
      unfold stR seR
      rw [if_pos rfl, if_pos rfl]
      have h := hen (i + 1) (by omega)
      unfold EntC at h ⊢
      have ee : enC ((f + 1) % 100) i = enC f (i + 1) := by unfold enC; omega
      rw [ee]
      exact h
theorem c_takeBack {P : FL} {sC past F : AR} (hF : FlatOK P) {B n u : Nat} {st : Nat → Nat → Nat} {se : Nat → Nat} (hr : CRep P sC past F st se n u) (hok : CoOK P B st se n u) (hn : 0 < n) {post : AR → AR → Prop} (hk : ∀ sC' F', CRep P sC' past F' st se (n - 1) (u + 1) → (∀ j, 4 < j → sC' j = sC j) → post sC' F') : wpX0_takeBack sC past F post := by
  obtain ⟨f, hf, h2, h3, h4, hFr, hen⟩ := hr
  have hn1 : n ≤ 100 := by have := hok.1; omega
  have hl := enC_lt f (n - 1)
  unfold wpX0_takeBack
  rw [h3, h4]
  refine nm_r (e' := nI (n - 1)) (pk_sub (b := 1) (by omega)) (nm_r (nI_1 u) ?_)
  refine c_entry hf (by rw [pk_un (by omega), pk_un (by omega)]; exact h2) (by omega) ?_
  rw [nI_clamp (by omega)]
  refine ⟨fun z => absurd ((nI_ltI (b := 0) (by omega) (by omega)).mp z) (by omega), by omega, nm_e ?_⟩
  refine hk _ _ ⟨f, hf, ?_, ?_, ?_, ?_, fun i hi => hen i (by omega)⟩ (fun j hj => by rw [pk_un (by omega), pk_un (by omega)])
  · rw [pk_un (by omega), pk_un (by omega)]; exact h2
  · rw [pk_un (by omega), pk_us]
  · rw [pk_us]
  · refine (hen (n - 1) (by omega)).1.same hF (fun j hj => ?_)
    rw [pk_cpy_in (by omega) (by omega), Nat.sub_zero]
theorem c_strikeAgain {P : FL} {sC sG past F R fl kd hA E ov ak nx wy gl : AR} (hF : FlatOK P) (hs : ∀ k, k < 7 → sG k = nI (P 0 k)) (hE : EarsOK P hA E ov ak) (hW' : FeetOK P nx wy gl) (hfl : ∀ t, t < P 0 2 → fl t = nI (P 4 t)) (hkd : ∀ w, w < P 0 3 → kd w = nI (P 5 w)) {B n u : Nat} {st : Nat → Nat → Nat} {se : Nat → Nat} (hr : CRep P sC past F st se n u) (hok : CoOK P B st se n u) (hB : B < 2 ^ 30) (hu : 0 < u) {post : Int32 → AR → AR → AR → AR → Prop} (hk : ∀ sC' past' F' R', CRep P sC' past' F' st se (n + 1) (u - 1) → (∀ j, 4 < j → sC' j = sC j) → post (nI (se n)) sC' past' F' R') : wpX0_strikeAgain sC sG past F R fl kd hA E ov ak nx wy gl post := by
  obtain ⟨f, hf, h2, h3, h4, hFr, hen⟩ := hr
  have hn1 := hok.1
  have hl := enC_lt f n
  have hco := hok.2.2 n (by omega)
  unfold wpX0_strikeAgain
  rw [h3]
  refine c_entry hf h2 (by omega) ?_
  rw [show nI (enC f n) + (29 : Int32) = nI (enC f n + 29) from nI_add _ 29, nI_clamp (by omega), (hen n (by omega)).2.1]
  refine ⟨vp_in_nI (by omega) (by omega), nm_e ?_⟩
  refine c_strikeNext hF hs hE hW' hfl hkd hco.1 hFr (hok.2.1 n (by omega)) hB hf (by omega) h2 h3 (fun past' F' R' q1 q2 q3 => ?_)
  refine nm_r (e' := nI (u - 1)) (by rw [pk_un (by omega), h4]; exact pk_sub (b := 1) (by omega)) ?_
  refine hk _ _ _ _ ⟨f, hf, ?_, ?_, ?_, ?_, fun i hi => ?_⟩ (fun j hj => by rw [pk_un (by omega), pk_un (by omega)])
  · rw [pk_un (by omega), pk_un (by omega)]; exact h2
  · rw [pk_un (by omega), pk_us]
  · rw [pk_us]
  · rw [hco.2]; exact q1
  · by_cases e : i = n
    · subst e; exact q2
    · exact (hen i (by omega)).same hF (fun j hj => q3 i (by omega) e j hj)
theorem c_reason {P : FL} {sC past F : AR} (hF : FlatOK P) {B n u w i : Nat} {st : Nat → Nat → Nat} {se : Nat → Nat} (hr : CRep P sC past F st se n u) (hok : CoOK P B st se n u) (hw : w < P 0 3) (hi : i < n) {post : Int32 → Prop} (h : post (rs P (se i) (st i) w)) : wpX0_reason sC past (nI w) (nI i) post := by
  obtain ⟨f, hf, h2, h3, h4, hFr, hen⟩ := hr
  have f6 := hF.1.2.2.2.2.2.1
  have hn1 := hok.1
  have hl := enC_lt f i
  unfold wpX0_reason
  refine c_entry hf h2 (by omega) ?_
  rw [show nI (enC f i) + (30 : Int32) = nI (enC f i + 30) from nI_add _ 30, nI_add, nI_clamp (by omega), (hen i (by omega)).2.2 w hw]
  exact ⟨vp_in_nI (by omega) (by omega), h⟩
