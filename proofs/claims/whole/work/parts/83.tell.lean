/-! what a text tells: a fault (its kind, its place), or something -/
abbrev PR (α : Type) : Type := Sum (Nat × Nat) α
def bnd {α β : Type} (x : PR α) (f : α → PR β) : PR β :=
  match x with
  | .inl e => .inl e
  | .inr a => f a
def aNum (tx : Nat → Nat) (N p lo hi : Nat) : PR Nat := if nF tx N p lo hi = 0 then .inr (tV tx N p) else .inl (nF tx N p lo hi, tB tx N p)
def aCell (tx : Nat → Nat) (N p W H : Nat) : PR Nat := bnd (aNum tx N p 0 W) (fun x => bnd (aNum tx N (tE tx N p) 0 H) (fun y => .inr (W * y + x)))
/-- the draft of a flat; rows 7 strokes, 8 homes, 9 waters -/
def dU (D : FL) (i j v : Nat) : FL := fun a b => if a = i ∧ b = j then v else D a b
theorem dU_s {D : FL} {i j v : Nat} : dU D i j v i j = v := if_pos ⟨rfl, rfl⟩
theorem dU_o {D : FL} {i j v a b : Nat} (h : a ≠ i ∨ b ≠ j) : dU D i j v a b = D a b := if_neg (fun q => h.elim (fun z => z q.1) (fun z => z q.2))
def dirB (tx : Nat → Nat) (N p : Nat) : Nat := if wdB tx N p 6 = true then 1 else if wdB tx N p 7 = true then 2 else if wdB tx N p 8 = true then 3 else if wdB tx N p 9 = true then 4 else 0
def kndB (tx : Nat → Nat) (N p : Nat) : Nat := if wdB tx N p 12 = true then 1 else if wdB tx N p 13 = true then 2 else if wdB tx N p 14 = true then 3 else if wdB tx N p 15 = true then 4 else if wdB tx N p 16 = true then 5 else 0
def hasT (D : FL) (c : Nat) : Bool := decide (∃ t, t < D 0 2 ∧ D 1 t = c)
def aStk (tx : Nat → Nat) (N p : Nat) : PR (Nat × Nat) := if wdB tx N p 3 = true then bnd (aNum tx N (tE tx N p) 1 100) (fun s => .inr (tE tx N (tE tx N p), s)) else .inr (p, 99)
def aTower (tx : Nat → Nat) (N p : Nat) (D : FL) : PR (Nat × FL) :=
  if 5 ≤ D 0 2 then .inl (2, tB tx N p) else bnd (aCell tx N (tE tx N p) (D 0 0) (D 0 1)) (fun c =>
    if hasT D c = true then .inl (4, tB tx N (tE tx N (tE tx N p))) else
      bnd (aNum tx N (tE tx N (tE tx N (tE tx N p))) 1 21) (fun r => bnd (aNum tx N (tE tx N (tE tx N (tE tx N (tE tx N p)))) 0 4) (fun v =>
        bnd (aStk tx N (tE tx N (tE tx N (tE tx N (tE tx N (tE tx N p)))))) (fun s =>
          .inr (if wdB tx N s.1 4 = true then tE tx N s.1 else s.1, dU (dU (dU (dU (dU (dU D 1 (D 0 2) c) 2 (D 0 2) r) 3 (D 0 2) v) 7 (D 0 2) s.2) 4 (D 0 2) (if wdB tx N s.1 4 = true then 1 else 0)) 0 2 (D 0 2 + 1))))))
def aWalker (tx : Nat → Nat) (N p : Nat) (D : FL) (k : Nat) : PR (Nat × FL) :=
  if 4 ≤ D 0 3 then .inl (2, tB tx N p) else bnd (aCell tx N (tE tx N p) (D 0 0) (D 0 1)) (fun c => bnd (aNum tx N (tE tx N (tE tx N (tE tx N p))) 0 100) (fun w =>
    .inr (tE tx N (tE tx N (tE tx N (tE tx N p))), dU (dU (dU (dU D 5 (D 0 3) k) 8 (D 0 3) c) 9 (D 0 3) w) 0 3 (D 0 3 + 1))))
def aWind (tx : Nat → Nat) (N p : Nat) (D : FL) (sn : Nat) : PR (Nat × FL) :=
  if bt1 sn 1 = 1 then .inl (4, tB tx N p) else if dirB tx N (tE tx N p) = 0 then .inl (1, tB tx N (tE tx N p)) else bnd (aNum tx N (tE tx N (tE tx N p)) 0 4) (fun s => .inr (tE tx N (tE tx N (tE tx N p)), dU (dU D 0 4 (dirB tx N (tE tx N p) - 1)) 0 5 s))
def aNight (tx : Nat → Nat) (N p : Nat) (D : FL) (sn : Nat) : PR (Nat × FL) :=
  if bt1 sn 2 = 1 then .inl (4, tB tx N p) else bnd (aNum tx N (tE tx N p) 0 10) (fun n => .inr (tE tx N (tE tx N p), dU D 0 6 n))
def aMirage (tx : Nat → Nat) (N p : Nat) (D : FL) : PR (Nat × FL) :=
  bnd (aCell tx N (tE tx N p) (D 0 0) (D 0 1)) (fun c => if D 6 c = 0 then .inr (tE tx N (tE tx N (tE tx N p)), dU D 6 c 1) else .inl (4, tB tx N (tE tx N (tE tx N p))))
def aSize (tx : Nat → Nat) (N p : Nat) (D : FL) (sn : Nat) : PR (Nat × FL) :=
  if sn ≠ 0 then .inl (3, tB tx N p) else bnd (aNum tx N (tE tx N p) 2 11) (fun w => bnd (aNum tx N (tE tx N (tE tx N p)) 2 11) (fun h => .inr (tE tx N (tE tx N (tE tx N p)), dU (dU D 0 0 w) 0 1 h)))
def aLine (tx : Nat → Nat) (N p : Nat) (D : FL) (sn : Nat) : PR (Nat × FL) :=
  if wdB tx N p 1 = true then aSize tx N p D sn else if wdB tx N p 2 = true then aTower tx N p D else if wdB tx N p 5 = true then aWind tx N p D sn else if wdB tx N p 10 = true then aNight tx N p D sn else if wdB tx N p 11 = true then aMirage tx N p D else if kndB tx N p = 0 then .inl (1, tB tx N p) else aWalker tx N p D (kndB tx N p - 1)
def lnB (tx : Nat → Nat) (N p : Nat) : Nat := if wdB tx N p 1 = true then 1 else if wdB tx N p 5 = true then 2 else if wdB tx N p 10 = true then 4 else 8
def aText (tx : Nat → Nat) (N : Nat) : Nat → Nat → FL → Nat → PR FL
  | 0, _, D, _ => .inr D
  | f + 1, p, D, sn => if tK tx N p = 0 then .inr D else bnd (aLine tx N p D sn) (fun q => if sgB tx N q.1 59 = true then aText tx N f (tE tx N q.1) q.2 (sn ||| lnB tx N p) else .inl (1, tB tx N q.1))
/-! the draft in the class -/
def DC (D : FL) (sG tc rg vc st fl kd hm wt mi : AR) : Prop := (∀ k, k < 7 → sG k = nI (D 0 k)) ∧ (∀ t, t < D 0 2 → tc t = nI (D 1 t) ∧ rg t = nI (D 2 t) ∧ vc t = nI (D 3 t) ∧ fl t = nI (D 4 t) ∧ st t = nI (D 7 t)) ∧ (∀ w, w < D 0 3 → kd w = nI (D 5 w) ∧ hm w = nI (D 8 w) ∧ wt w = nI (D 9 w)) ∧ ∀ c, c < 100 → mi c = nI (D 6 c)
def DOK (D : FL) : Prop := FlatOK D ∧ (∀ t, t < D 0 2 → 1 ≤ D 7 t ∧ D 7 t ≤ 99) ∧ ∀ w, w < D 0 3 → D 8 w < D 0 0 * D 0 1 ∧ D 9 w ≤ 99
theorem aNum_ok {tx : Nat → Nat} {N p lo hi v : Nat} (h : aNum tx N p lo hi = .inr v) : lo ≤ v ∧ v < hi ∧ v < 1000 := by
  unfold aNum at h
  by_cases e : nF tx N p lo hi = 0
  · rw [if_pos e] at h
    injection h with h
    subst h
    obtain ⟨e1, e2, e3, e4⟩ := nF_ok e
    exact ⟨e3, e4, tV_lt e1 e2⟩
  · rw [if_neg e] at h
    exact absurd h (by simp)
theorem aCell_ok {tx : Nat → Nat} {N p W H c : Nat} (h : aCell tx N p W H = .inr c) : c < W * H := by
  unfold aCell at h
  cases e1 : aNum tx N p 0 W with
  | inl f => rw [e1] at h; exact absurd h (by simp [bnd])
  | inr x =>
    rw [e1] at h
    have h : bnd (aNum tx N (tE tx N p) 0 H) (fun y => (.inr (W * y + x) : PR Nat)) = .inr c := h
    cases e2 : aNum tx N (tE tx N p) 0 H with
    | inl f => rw [e2] at h; exact absurd h (by simp [bnd])
    | inr y =>
      rw [e2] at h
      have h : (.inr (W * y + x) : PR Nat) = .inr c := h
      injection h with h
      subst h
      have a1 := (aNum_ok e1).2.1
      have a2 := (aNum_ok e2).2.1
      have a3 : W * (y + 1) ≤ W * H := Nat.mul_le_mul_left _ a2
      rw [Nat.mul_add, Nat.mul_one] at a3
      omega
theorem cF8 {s : AR} {k b : Nat} : cF s k b 8 = nI k := (pk_un (by omega)).trans pk_us
theorem cF9 {s : AR} {k b : Nat} : cF s k b 9 = nI b := pk_us
theorem mF21e {s : AR} {k b : Nat} : mF s k b 21 = nI k := (pk_un (by omega)).trans pk_us
theorem mF22e {s : AR} {k b : Nat} : mF s k b 22 = nI b := pk_us
/-- a number, by its result -/
theorem c_num {tx : Nat → Nat} {N p lo hi : Nat} {t s : AR} (ht : TxC tx N t) (hp : p ≤ N) (hR : RdC tx N p s) (hlo : lo < 2 ^ 30) (hhi : hi < 2 ^ 30) {x1 x2 : Int32} (hx1 : x1 = nI lo) (hx2 : x2 = nI hi - 1) {post : Int32 → AR → Prop} (h0 : ∀ v, aNum tx N p lo hi = .inr v → ∀ s', RdC tx N (tE tx N p) s' → s' 6 = nI (tB tx N p) → (∀ j, 7 < j → s' j = s j) → post (nI v) s') (h1 : ∀ k b, aNum tx N p lo hi = .inl (k, b) → post (-1) (cF s k b)) : wpX8_number s t x1 x2 post := by
  refine c_number ht hp hR hlo hhi hx1 hx2 (fun e => h0 _ (by unfold aNum; rw [if_pos e])) (fun e => h1 _ _ (by unfold aNum; rw [if_neg e]))
theorem c_tellCell {tx : Nat → Nat} {N p : Nat} {t s sG : AR} (ht : TxC tx N t) (hp : p ≤ N) (hR : RdC tx N p s) {W H : Nat} (hW : W ≤ 10) (hH : H ≤ 10) (g0 : sG 0 = nI W) (g1 : sG 1 = nI H) {post : Int32 → AR → Prop} (h0 : ∀ c, aCell tx N p W H = .inr c → ∀ s', RdC tx N (tE tx N (tE tx N p)) s' → s' 6 = nI (tB tx N (tE tx N p)) → (∀ j, 7 < j → s' j = s j) → post (nI c) s') (h1 : ∀ k b, aCell tx N p W H = .inl (k, b) → ∀ s', s' 8 = nI k → s' 9 = nI b → post (-1) s') : wpX9_tellCell sG s t post := by
  unfold wpX9_tellCell
  rw [g0, g1]
  refine c_num ht hp hR (lo := 0) (hi := W) (by omega) (by omega) rfl rfl (fun x ex s1 r1 r2 r3 => ?_) (fun k b ex => ?_)
  · obtain ⟨x1, x2, x3⟩ := aNum_ok ex
    refine ⟨fun _ => ?_, fun z => absurd z (nI_nem (by omega))⟩
    refine c_num ht (tE_le hp) r1 (lo := 0) (hi := H) (by omega) (by omega) rfl rfl (fun y ey s2 q1 q2 q3 => ?_) (fun k b ey => ?_)
    · obtain ⟨y1, y2, y3⟩ := aNum_ok ey
      refine ⟨fun _ => ?_, fun z => absurd z (nI_nem (by omega))⟩
      rw [pk_mul, nI_add]
      exact h0 _ (by unfold aCell; rw [ex]; show bnd (aNum tx N (tE tx N p) 0 H) _ = _; rw [ey]; rfl) s2 q1 q2 (fun j hj => (q3 j hj).trans (r3 j hj))
    · refine ⟨fun z => absurd rfl z, fun _ => h1 k b (by unfold aCell; rw [ex]; show bnd (aNum tx N (tE tx N p) 0 H) _ = _; rw [ey]; rfl) _ ?_ ?_⟩
      · exact cF8
      · exact cF9
  · exact ⟨fun z => absurd rfl z, fun _ => h1 k b (by unfold aCell; rw [ex]; rfl) _ cF8 cF9⟩
theorem c_dir {tx : Nat → Nat} {N p : Nat} {t s : AR} (ht : TxC tx N t) (hp : p ≤ N) (hR : RdC tx N p s) {post : Int32 → Prop} (h : post (tI (dirB tx N p))) : wpX9_directionHere s t post := by
  unfold wpX9_directionHere
  unfold dirB at h
  have w := fun k (hk : k < 50) {post : Int32 → Prop} => c_isWord ht hp hR hk (post := post)
  refine w 6 (by omega) ?_
  by_cases e6 : wdB tx N p 6 = true
  · rw [if_pos e6] at h ⊢; exact ⟨fun z => absurd z (by decide), fun _ => h⟩
  · rw [if_neg e6] at h ⊢
    refine ⟨fun _ => w 7 (by omega) ?_, fun z => absurd rfl z⟩
    by_cases e7 : wdB tx N p 7 = true
    · rw [if_pos e7] at h ⊢; exact ⟨fun z => absurd z (by decide), fun _ => h⟩
    · rw [if_neg e7] at h ⊢
      refine ⟨fun _ => w 8 (by omega) ?_, fun z => absurd rfl z⟩
      by_cases e8 : wdB tx N p 8 = true
      · rw [if_pos e8] at h ⊢; exact ⟨fun z => absurd z (by decide), fun _ => h⟩
      · rw [if_neg e8] at h ⊢
        refine ⟨fun _ => w 9 (by omega) ?_, fun z => absurd rfl z⟩
        by_cases e9 : wdB tx N p 9 = true
        · rw [if_pos e9] at h ⊢; exact ⟨fun z => absurd z (by decide), fun _ => h⟩
        · rw [if_neg e9] at h ⊢; exact ⟨fun _ => h, fun z => absurd rfl z⟩
theorem c_kind {tx : Nat → Nat} {N p : Nat} {t s : AR} (ht : TxC tx N t) (hp : p ≤ N) (hR : RdC tx N p s) {post : Int32 → Prop} (h : post (tI (kndB tx N p))) : wpX9_kindHere s t post := by
  unfold wpX9_kindHere
  unfold kndB at h
  have w := fun k (hk : k < 50) {post : Int32 → Prop} => c_isWord ht hp hR hk (post := post)
  refine w 12 (by omega) ?_
  by_cases e6 : wdB tx N p 12 = true
  · rw [if_pos e6] at h ⊢; exact ⟨fun z => absurd z (by decide), fun _ => h⟩
  · rw [if_neg e6] at h ⊢
    refine ⟨fun _ => w 13 (by omega) ?_, fun z => absurd rfl z⟩
    by_cases e7 : wdB tx N p 13 = true
    · rw [if_pos e7] at h ⊢; exact ⟨fun z => absurd z (by decide), fun _ => h⟩
    · rw [if_neg e7] at h ⊢
      refine ⟨fun _ => w 14 (by omega) ?_, fun z => absurd rfl z⟩
      by_cases e8 : wdB tx N p 14 = true
      · rw [if_pos e8] at h ⊢; exact ⟨fun z => absurd z (by decide), fun _ => h⟩
      · rw [if_neg e8] at h ⊢
        refine ⟨fun _ => w 15 (by omega) ?_, fun z => absurd rfl z⟩
        by_cases e9 : wdB tx N p 15 = true
        · rw [if_pos e9] at h ⊢; exact ⟨fun z => absurd z (by decide), fun _ => h⟩
        · rw [if_neg e9] at h ⊢
          refine ⟨fun _ => w 16 (by omega) ?_, fun z => absurd rfl z⟩
          by_cases e10 : wdB tx N p 16 = true
          · rw [if_pos e10] at h ⊢; exact ⟨fun z => absurd z (by decide), fun _ => h⟩
          · rw [if_neg e10] at h ⊢; exact ⟨fun _ => h, fun z => absurd rfl z⟩
theorem c_hasTowerAt {D : FL} {sG tc : AR} (hF : D 0 2 ≤ 5) (g2 : sG 2 = nI (D 0 2)) (htc : ∀ t, t < D 0 2 → tc t = nI (D 1 t)) (hb : ∀ t, t < D 0 2 → D 1 t < 1000) {c : Nat} (hc : c < 1000) {post : Int32 → Prop} (h : post (if hasT D c = true then 1 else 0)) : wpX4_hasTowerAt sG tc (nI c) post := by
  unfold wpX4_hasTowerAt
  refine loop_0 (fun n i (_ : Unit) => wpX4_hasTowerAt_L2 sG tc (nI c) _ post n (nI i)) (fun i _ => ∀ t, t < i → D 1 t ≠ c) (D 0 2) () (fun t ht => absurd ht (Nat.not_lt_zero _)) ?_ ?_
  · intro n _ hI
    show wpX4_hasTowerAt_L2 sG tc (nI c) _ post (n + 1) (nI (D 0 2))
    unfold wpX4_hasTowerAt_L2
    rw [g2]
    refine ⟨fun _ => ?_, fun z => absurd (nI_le (Nat.le_refl _) (by omega)) z⟩
    unfold hasT at h
    rw [if_neg (by simp only [decide_eq_true_eq]; rintro ⟨t, h1, h2⟩; exact hI t h1 h2)] at h
    exact h
  · intro n i _ hi hI hnext
    show wpX4_hasTowerAt_L2 sG tc (nI c) _ post (n + 1) (nI i)
    unfold wpX4_hasTowerAt_L2
    have := hb i hi
    rw [g2, nI_clamp (by omega), htc i hi, nI_eq (by omega) (by omega)]
    refine ⟨fun z => absurd z (nI_ge hi (by omega)), fun _ => ⟨vp_in_nI (by omega) (by omega), fun e => nm_r (nI_1 i) (hnext () (lt_s hI e)), fun e => ?_⟩⟩
    unfold hasT at h
    rw [if_pos (by simp only [decide_eq_true_eq]; exact ⟨i, hi, e⟩)] at h
    exact h
