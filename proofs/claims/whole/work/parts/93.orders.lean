/-! orders: what a text of orders tells -/
def gt : List Nat → Nat → Nat
  | [], _ => 0
  | a :: _, 0 => a
  | _ :: l, i + 1 => gt l i
theorem gt_l : ∀ (l r : List Nat) (i : Nat), i < l.length → gt (l ++ r) i = gt l i := by
  intro l
  induction l with
  | nil => intro r i h; exact absurd h (Nat.not_lt_zero _)
  | cons a l ih =>
    intro r i h
    cases i with
    | zero => rfl
    | succ i => exact ih r i (Nat.lt_of_succ_lt_succ h)
theorem gt_r : ∀ (l r : List Nat) (i : Nat), gt (l ++ r) (l.length + i) = gt r i := by
  intro l
  induction l with
  | nil => intro r i; rw [List.nil_append]; show gt r (0 + i) = gt r i; rw [Nat.zero_add]
  | cons a l ih =>
    intro r i
    show gt (a :: (l ++ r)) (l.length + 1 + i) = gt r i
    rw [show l.length + 1 + i = (l.length + i) + 1 by omega]
    exact ih r i
def rep (l : List Nat) : Nat → List Nat
  | 0 => []
  | k + 1 => rep l k ++ l
theorem rep_len (l : List Nat) (k : Nat) : (rep l k).length = k * l.length := by
  induction k with
  | zero => rw [Nat.zero_mul]; rfl
  | succ k ih =>
    show (rep l k ++ l).length = _
    rw [List.length_append, ih, Nat.succ_mul]
theorem rep_gt (l : List Nat) : ∀ k j c, j < k → c < l.length → gt (rep l k) (j * l.length + c) = gt l c := by
  intro k
  induction k with
  | zero => intro j c h; omega
  | succ k ih =>
    intro j c hj hc
    show gt (rep l k ++ l) _ = _
    by_cases e : j = k
    · subst e
      rw [← rep_len l j, gt_r]
    · have h1 : (j + 1) * l.length ≤ k * l.length := Nat.mul_le_mul_right _ (by omega)
      rw [Nat.succ_mul] at h1
      rw [gt_l _ _ _ (by rw [rep_len]; omega)]
      exact ih j c (by omega) hc
def aSet (tx : Nat → Nat) (N T : Nat) : Nat → Nat → Nat → PR (Nat × Nat)
  | 0, p, m => .inr (p, m)
  | f + 1, p, m => if tK tx N p = 2 then bnd (aNum tx N p 0 T) (fun t => if bt1 m t = 1 then .inl (4, tB tx N p) else aSet tx N T f (tE tx N p) (m ||| 2 ^ t)) else if sgB tx N p 59 = true then .inr (tE tx N p, m) else .inl (1, tB tx N p)
def aSteps (tx : Nat → Nat) (N T : Nat) : Nat → Nat → Nat → PR (Nat × List Nat)
  | 0, p, _ => .inr (p, [])
  | f + 1, p, w => if wdB tx N p 17 = true then bnd (aSet tx N T 501 (tE tx N p) 0) (fun q => bnd (aSteps tx N T f q.1 w) (fun r => .inr (r.1, q.2 :: r.2)))
    else if wdB tx N p 18 = true then (if w = 3 then .inl (2, tB tx N p) else bnd (aNum tx N (tE tx N p) 1 21) (fun k => if sgB tx N (tE tx N (tE tx N p)) 123 = true then bnd (aSteps tx N T f (tE tx N (tE tx N (tE tx N p))) (w + 1)) (fun r => if sgB tx N r.1 125 = true then bnd (aSteps tx N T f (tE tx N r.1) w) (fun r2 => .inr (r2.1, rep r.2 k ++ r2.2)) else .inl (1, tB tx N r.1)) else .inl (1, tB tx N (tE tx N (tE tx N p)))))
    else .inr (p, [])
theorem aSet_n (tx : Nat → Nat) (N T f p m : Nat) : aSet tx N T (f + 1) p m = if tK tx N p = 2 then bnd (aNum tx N p 0 T) (fun t => if bt1 m t = 1 then .inl (4, tB tx N p) else aSet tx N T f (tE tx N p) (m ||| 2 ^ t)) else if sgB tx N p 59 = true then .inr (tE tx N p, m) else .inl (1, tB tx N p) := by rw [aSet]
theorem or_5 : ∀ m, m < 32 → ∀ t, t < 5 → m ||| 2 ^ t < 32 := by decide +kernel
theorem tE_lt {tx : Nat → Nat} {N p : Nat} (h : tK tx N p ≠ 0) : p < tE tx N p := Nat.lt_of_le_of_lt (tB_ge tx N p) (tE_gt h)
theorem sg_k {tx : Nat → Nat} {N p c : Nat} (h : sgB tx N p c = true) : tK tx N p = 3 := (of_decide_eq_true h).1
theorem wd_k {tx : Nat → Nat} {N p k : Nat} (h : wdB tx N p k = true) : tK tx N p = 1 := (of_decide_eq_true h).1
theorem aSet_ok {tx : Nat → Nat} {N T : Nat} (hT : T ≤ 5) : ∀ f p m, m < 32 → p ≤ N → N < p + f → ∀ q, aSet tx N T f p m = .inr q → p < q.1 ∧ q.1 ≤ N ∧ q.2 < 32 := by
  intro f
  induction f with
  | zero => intro p m hm hp hf; omega
  | succ f ih =>
    intro p m hm hp hf q h
    rw [aSet] at h
    by_cases e : tK tx N p = 2
    · rw [if_pos e] at h
      obtain ⟨t, ht, h⟩ := bnd_r h
      have at' := aNum_ok ht
      have hl := tE_lt (tx := tx) (N := N) (p := p) (by omega)
      by_cases e2 : bt1 m t = 1
      · rw [if_pos e2] at h; exact absurd h (by simp)
      · rw [if_neg e2] at h
        have := ih (tE tx N p) _ (or_5 m hm t (by omega)) (tE_le hp) (by omega) q h
        exact ⟨by omega, this.2⟩
    · rw [if_neg e] at h
      by_cases e2 : sgB tx N p 59 = true
      · rw [if_pos e2] at h
        have e3 : (tE tx N p, m) = q := Sum.inr.inj h
        subst e3
        have := sg_k e2
        exact ⟨tE_lt (by omega), tE_le hp, hm⟩
      · rw [if_neg e2] at h; exact absurd h (by simp)
theorem aSteps_ok {tx : Nat → Nat} {N T : Nat} (hN : N ≤ 500) (hT : T ≤ 5) : ∀ f p w, p ≤ N → N < p + f → ∀ q l, aSteps tx N T f p w = .inr (q, l) → p ≤ q ∧ q ≤ N ∧ wdB tx N q 17 = false ∧ wdB tx N q 18 = false ∧ ∀ i, gt l i < 32 := by
  intro f
  induction f with
  | zero => intro p w hp hf; omega
  | succ f ih =>
    intro p w hp hf q l h
    rw [aSteps] at h
    by_cases e : wdB tx N p 17 = true
    · rw [if_pos e] at h
      have hk := wd_k e
      have hl := tE_lt (tx := tx) (N := N) (p := p) (by omega)
      obtain ⟨x, hx, h⟩ := bnd_r h
      obtain ⟨y, hy, h⟩ := bnd_r h
      have a1 := aSet_ok hT 501 (tE tx N p) 0 (by omega) (tE_le hp) (by omega) x hx
      have a2 := ih x.1 w a1.2.1 (by omega) y.1 y.2 hy
      have e3 : (y.1, x.2 :: y.2) = (q, l) := Sum.inr.inj h
      injection e3 with e4 e5
      subst e4 e5
      refine ⟨by omega, a2.2.1, a2.2.2.1, a2.2.2.2.1, fun i => ?_⟩
      cases i with
      | zero => exact a1.2.2
      | succ i => exact a2.2.2.2.2 i
    · rw [if_neg e] at h
      by_cases e2 : wdB tx N p 18 = true
      · rw [if_pos e2] at h
        have hk := wd_k e2
        have hl := tE_lt (tx := tx) (N := N) (p := p) (by omega)
        by_cases e3 : w = 3
        · rw [if_pos e3] at h; exact absurd h (by simp)
        · rw [if_neg e3] at h
          obtain ⟨k, hk, h⟩ := bnd_r h
          by_cases e4 : sgB tx N (tE tx N (tE tx N p)) 123 = true
          · rw [if_pos e4] at h
            obtain ⟨r, hr, h⟩ := bnd_r h
            have l1 := tE_p (tx := tx) (N := N) (p := tE tx N p)
            have l2 := tE_p (tx := tx) (N := N) (p := tE tx N (tE tx N p))
            have a1 := ih _ (w + 1) (tE_le (tE_le (tE_le hp))) (by omega) r.1 r.2 hr
            by_cases e5 : sgB tx N r.1 125 = true
            · rw [if_pos e5] at h
              obtain ⟨r2, hr2, h⟩ := bnd_r h
              have l3 := tE_p (tx := tx) (N := N) (p := r.1)
              have a2 := ih _ w (tE_le a1.2.1) (by omega) r2.1 r2.2 hr2
              have e6 : (r2.1, rep r.2 k ++ r2.2) = (q, l) := Sum.inr.inj h
              injection e6 with e7 e8
              subst e7 e8
              refine ⟨by omega, a2.2.1, a2.2.2.1, a2.2.2.2.1, fun i => ?_⟩
              rcases Nat.lt_or_ge i (rep r.2 k).length with hi | hi
              · rw [gt_l _ _ _ hi]
                rw [rep_len] at hi
                have h0 : 0 < r.2.length := by
                  rcases Nat.eq_zero_or_pos r.2.length with z | z
                  · rw [z, Nat.mul_zero] at hi; omega
                  · exact z
                have hj : i / r.2.length < k := Nat.div_lt_of_lt_mul (by rw [Nat.mul_comm]; exact hi)
                have := rep_gt r.2 k (i / r.2.length) (i % r.2.length) hj (Nat.mod_lt _ h0)
                rw [Nat.mul_comm, Nat.div_add_mod] at this
                rw [this]
                exact a1.2.2.2.2 _
              · rw [show i = (rep r.2 k).length + (i - (rep r.2 k).length) by omega, gt_r]
                exact a2.2.2.2.2 _
            · rw [if_neg e5] at h; exact absurd h (by simp)
          · rw [if_neg e4] at h; exact absurd h (by simp)
      · rw [if_neg e2] at h
        have e3 : (p, ([] : List Nat)) = (q, l) := Sum.inr.inj h
        injection e3 with e4 e5
        subst e4 e5
        exact ⟨Nat.le_refl _, hp, by simpa using e, by simpa using e2, fun i => by show (0 : Nat) < 32; omega⟩
/-- the class reads a ring's set -/
theorem c_readRing {tx : Nat → Nat} {N T p : Nat} {t s sB st : AR} (ht : TxC tx N t) (hp : p ≤ N) (hT : T ≤ 5) (hR : RdC tx N p s) {post : Int32 → AR → AR → AR → Prop}
    (h1 : ∀ q m, aSet tx N T 501 (tE tx N p) 0 = .inr (q, m) → q ≤ N → ∀ s', RdC tx N q s' → s' 9 = s 9 → wpX5_put sB st (nI m) (fun sB' st' => post 1 sB' s' st'))
    (h0 : ∀ k b, aSet tx N T 501 (tE tx N p) 0 = .inl (k, b) → ∀ s', s' 8 = nI k → s' 9 = nI b → post 0 sB s' st) : wpX5_readRing sB s st t (nI T) post := by
  have hN := ht.1
  unfold wpX5_readRing
  refine c_advance ht (tE_le hp) hR.1 hR.2.1 (fun s0 r1 _ r3 => ?_)
  refine loop_m (fun n (q : (Nat × Nat × Nat × Nat) × AR) => wpX5_readRing_L11 sB st t (nI T) _ post n q.2 (nI q.1.2.2.1) (nI q.1.2.2.2)) (fun q => q.1.1 ≤ N ∧ N < q.1.1 + q.1.2.1 ∧ q.1.2.2.1 < 32 ∧ q.1.2.2.2 ≤ q.1.1 ∧ aSet tx N T 501 (tE tx N p) 0 = aSet tx N T q.1.2.1 q.1.1 q.1.2.2.1 ∧ RdC tx N q.1.1 q.2 ∧ q.2 9 = s 9) (fun q => q.1.2.1) ?_ ((tE tx N p, 501, 0, 0), s0) ⟨tE_le hp, by show N < tE tx N p + 501; omega, by show 0 < 32; omega, Nat.zero_le _, rfl, r1, r3 9 (by omega)⟩
  rintro n ⟨⟨p1, f, m, i⟩, s1⟩ ⟨k1, k2, k3, k4, k5, k6, k7⟩ hnext
  have k1' : p1 ≤ N := k1
  have k2' : N < p1 + f := k2
  obtain ⟨f, rfl⟩ : ∃ k, f = k + 1 := ⟨f - 1, by omega⟩
  have k1 : p1 ≤ N := k1
  have k2 : N < p1 + (f + 1) := k2
  have k3 : m < 32 := k3
  have k4 : i ≤ p1 := k4
  have k5 : aSet tx N T 501 (tE tx N p) 0 = aSet tx N T (f + 1) p1 m := k5
  have k6 : RdC tx N p1 s1 := k6
  have k7 : s1 9 = s 9 := k7
  replace k5 := k5.trans (aSet_n tx N T f p1 m)
  have hK := tK_le tx N p1
  have r7 : s1 7 = nI (tK tx N p1) := k6.2.2.2.2.1
  show wpX5_readRing_L11 sB st t (nI T) _ post (n + 1) s1 (nI m) (nI i)
  unfold wpX5_readRing_L11
  rw [r7, show (nI (tK tx N p1) = (2 : Int32)) = (tK tx N p1 = 2) from propext (nI_eq (b := 2) (by omega) (by omega))]
  refine ⟨fun z => absurd ((nI_ltI (a := 500) (by omega) (by omega)).mp z) (by omega), fun _ => ⟨fun e => ?_, fun e => ?_⟩⟩
  · rw [if_neg e] at k5
    unfold wpX5_readRing_J82
    refine c_passSign ht k1 k6 (c := 59) (by omega) rfl (fun es s2 q1 q2 => ⟨fun _ => ?_, fun z => absurd z (by decide)⟩) (fun es => ⟨fun z => absurd rfl z, fun _ => ?_⟩)
    · rw [if_pos es] at k5
      exact h1 _ _ k5 (tE_le k1) s2 q1 ((q2 9 (by omega)).trans k7)
    · rw [if_neg (by rw [es]; decide)] at k5
      exact h0 _ _ k5 _ cF8 cF9
  · rw [if_pos e] at k5
    have hl := tE_lt (tx := tx) (N := N) (p := p1) (by omega)
    refine c_num ht k1 k6 (lo := 0) (hi := T) (by omega) (by omega) rfl rfl (fun v ev s2 q1 q2 q3 => ?_) (fun k b ev => ⟨fun z => absurd rfl z, fun _ => h0 k b (by rw [k5, ev]; rfl) _ cF8 cF9⟩)
    have av := aNum_ok ev
    have k5 : aSet tx N T 501 (tE tx N p) 0 = if bt1 m v = 1 then .inl (4, tB tx N p1) else aSet tx N T f (tE tx N p1) (m ||| 2 ^ v) := by rw [k5, ev]; rfl
    have hb := bt1_lt m v
    refine ⟨fun _ => ?_, fun z => absurd z (nI_nem (by omega))⟩
    rw [show (1 : Int32) = nI 1 from rfl, n_bit (by omega) (by omega), nI_eq (by omega) (by omega), n_shl (by omega), n_or]
    refine ⟨fun eb => nm_e (nm_r (nI_1 i) (hnext ((tE tx N p1, f, m ||| 2 ^ v, i + 1), s2) ⟨tE_le k1, ?_, or_5 m k3 v (by omega), ?_, ?_, q1, (q3 9 (by omega)).trans k7⟩ (Nat.lt_succ_self f))), fun eb => ?_⟩
    · show N < tE tx N p1 + f; omega
    · show i + 1 ≤ tE tx N p1; omega
    · rw [if_neg eb] at k5; exact k5
    · rw [if_pos eb] at k5
      exact c_refuseBefore q2 (k := 4) rfl ⟨nrw0, h0 _ _ k5 _ cF8 cF9⟩
theorem m_readSet {tx : Nat → Nat} {N T p : Nat} {t s td : AR} (ht : TxM tx N t) (hp : p ≤ N) (hT : T ≤ 5) (hR : RdM tx N (tE tx N p) s) (h21 : s 21 = 0) (g2 : td 2 = nI T) {post : Int32 → AR → Prop}
    (h1 : ∀ q m, aSet tx N T 501 (tE tx N p) 0 = .inr (q, m) → ∀ s', RdM tx N q s' → s' 21 = 0 → FrS s s' → post (nI m) s')
    (h0 : ∀ k b, aSet tx N T 501 (tE tx N p) 0 = .inl (k, b) → ∀ s' v, BdM s k b s' → post v s') : wpX11_readSet s td t post := by
  have hN := ht.1
  unfold wpX11_readSet
  have endB : ∀ k b, aSet tx N T 501 (tE tx N p) 0 = .inl (k, b) → ∀ s' v, BdM s k b s' → wpX11_readSet_J72 s' td t v post := by
    intro k b er s' v hb
    unfold wpX11_readSet_J72
    exact m_markBad hb.bad (h0 k b er _ _ hb)
  refine loop_m (fun n (q : (Nat × Nat × Nat) × AR × Int32) => wpX11_readSet_L2 td t _ post n q.2.1 q.2.2) (fun q => (q.1.1 ≤ N ∧ N < q.1.1 + q.1.2.1 ∧ q.1.2.2 < 32 ∧ q.2.2 = nI q.1.2.2 ∧ aSet tx N T 501 (tE tx N p) 0 = aSet tx N T q.1.2.1 q.1.1 q.1.2.2 ∧ RdM tx N q.1.1 q.2.1 ∧ q.2.1 21 = 0 ∧ FrS s q.2.1) ∨ ∃ k b, aSet tx N T 501 (tE tx N p) 0 = .inl (k, b) ∧ BdM s k b q.2.1) (fun q => q.1.2.1) ?_ ((tE tx N p, 501, 0), s, 0) (Or.inl ⟨tE_le hp, by show N < tE tx N p + 501; omega, by show 0 < 32; omega, rfl, rfl, hR, h21, FrS.rfl'⟩)
  rintro n ⟨⟨p1, f, m⟩, s1, l1⟩ hc hnext
  show wpX11_readSet_L2 td t _ post (n + 1) s1 l1
  unfold wpX11_readSet_L2
  rcases hc with ⟨k1, k2, k3, k4, k5, k6, k7, k8⟩ | ⟨k, b, er, hb⟩
  · have k4 : l1 = nI m := k4
    subst k4
    have k1' : p1 ≤ N := k1
    have k2' : N < p1 + f := k2
    obtain ⟨f, rfl⟩ : ∃ k, f = k + 1 := ⟨f - 1, by omega⟩
    have k1 : p1 ≤ N := k1
    have k2 : N < p1 + (f + 1) := k2
    have k3 : m < 32 := k3
    have k5 : aSet tx N T 501 (tE tx N p) 0 = aSet tx N T (f + 1) p1 m := k5
    have k6 : RdM tx N p1 s1 := k6
    have k7 : s1 21 = 0 := k7
    have k8 : FrS s s1 := k8
    replace k5 := k5.trans (aSet_n tx N T f p1 m)
    have hK := tK_le tx N p1
    have r17 : s1 17 = nI (tK tx N p1) := k6.2.2.2.2.1
    rw [r17, g2, show (nI (tK tx N p1) = (2 : Int32)) = (tK tx N p1 = 2) from propext (nI_eq (b := 2) (by omega) (by omega))]
    refine ⟨fun z => absurd k7 z, fun _ => ⟨fun e => ?_, fun e => ?_⟩⟩
    · rw [if_neg e] at k5
      unfold wpX11_readSet_J72
      refine m_mark ht k1 k6 k7 (c := 59) (by omega) rfl (fun es s2 q1 q2 => ?_) (fun es => ?_)
      · rw [if_pos es] at k5
        exact h1 _ _ k5 s2 q1 (FrS.z q2 k7) (k8.trans q2)
      · rw [if_neg (by rw [es]; decide)] at k5
        exact h0 _ _ k5 _ _ ((BdM.mF (by omega)).pre k8)
    · rw [if_pos e] at k5
      have hl := tE_lt (tx := tx) (N := N) (p := p1) (by omega)
      refine m_now2 k1 hN k6 k7 (lo := 0) (hi := T) (by omega) (by omega) rfl rfl (fun v ev => ?_) (fun k b ev s2 q1 => ?_)
      · have av := aNum_ok ev
        have k5 : aSet tx N T 501 (tE tx N p) 0 = if bt1 m v = 1 then .inl (4, tB tx N p1) else aSet tx N T f (tE tx N p1) (m ||| 2 ^ v) := by rw [k5, ev]; rfl
        have hb := bt1_lt m v
        rw [show (1 : Int32) = nI 1 from rfl, n_bit (by omega) (by omega), nI_eq (by omega) (by omega)]
        refine ⟨fun z => absurd k7 z, fun _ => ⟨fun eb => ?_, fun eb => ?_⟩⟩
        · rw [if_neg eb] at k5
          unfold wpX11_readSet_J52 wpX11_readSet_J63
          refine ⟨fun z => absurd k7 z, fun _ => m_step2 ht k1 k6 k7 (fun s2 q1 q2 q3 => nm_r (e' := nI (m ||| 2 ^ v)) ?_ (hnext ((tE tx N p1, f, m ||| 2 ^ v), s2, nI (m ||| 2 ^ v)) (Or.inl ⟨tE_le k1, ?_, or_5 m k3 v (by omega), rfl, k5, q1, q2, k8.trans q3⟩) (Nat.lt_succ_self f)))⟩
          · rw [show (1 : Int32) = nI 1 from rfl, n_shl (by omega), n_or]
          · show N < tE tx N p1 + f; omega
        · rw [if_pos eb] at k5
          refine m_wrong k6 k7 (k := 4) rfl ?_
          unfold wpX11_readSet_J52 wpX11_readSet_J63
          exact ⟨fun _ => nm_e (hnext ((0, 0, 0), _, _) (Or.inr ⟨_, _, k5, (BdM.mF (by omega)).pre k8⟩) (Nat.succ_pos f)), fun z => absurd z (mF21 (by omega) (by omega))⟩
      · unfold wpX11_readSet_J52 wpX11_readSet_J63
        exact ⟨fun _ => ⟨fun _ => nm_e (hnext ((0, 0, 0), _, _) (Or.inr ⟨k, b, by rw [k5, ev]; rfl, q1.pre k8⟩) (Nat.succ_pos f)), fun z => absurd z q1.bad⟩, fun z => absurd z q1.bad⟩
  · have hb : BdM s k b s1 := hb
    exact ⟨fun _ => endB k b er _ _ hb, fun z => absurd z hb.bad⟩
