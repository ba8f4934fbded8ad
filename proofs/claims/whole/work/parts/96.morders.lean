/-! the reference does the orders -/
theorem RM.fr {P : FL} {op : Bool} {g : GS} {s s' now rows sets whys mc mh : AR} (h : RM P op g s now rows sets whys mc mh) (a : s' 30 = s 30) (b : s' 31 = s 31) (c : s' 36 = s 36) : RM P op g s' now rows sets whys mc mh := ⟨⟨a.trans h.1.1, b.trans h.1.2.1, h.1.2.2⟩, ⟨c.trans h.2.1, h.2.2⟩⟩
def NO (P : FL) (op : Bool) (g : GS) (L : List Nat) (s0 sta0 : AR) (i : Nat) (s now sta rows sets whys mc mh : AR) : Prop := (i < 200 ∧ i ≤ L.length) ∧ (∀ j, j < i → CanR P (gt L j) (cur (gIt P (gt L) g j))) ∧ RM P op (gIt P (gt L) g i) s now rows sets whys mc mh ∧ s 2 = 0 ∧ s 32 = nI i ∧ s 33 = 0 ∧ s 21 = 0 ∧ K1 s0 s ∧ sta 0 = sta0 0 ∧ sta 1 = sta0 1
def OV (tx : Nat → Nat) (N : Nat) (P : FL) (op : Bool) (g : GS) (L : List Nat) (s0 sta0 : AR) (s now sta rows sets whys mc mh : AR) : Prop := ∃ R, Rw P (fun i => nI (gt L i)) (gt L) g R (min 200 L.length) ∧ RM P op (gIt P (gt L) g R) s now rows sets whys mc mh ∧ s 2 = 0 ∧ s 32 = nI R ∧ ¬ s 33 = 0 ∧ K1 s0 s ∧ sta 0 = sta0 0 ∧ sta 1 = (if R < min 200 L.length then sta0 1 + 1 else sta0 1) ∧ ((∃ p', p' ≤ N ∧ RdM tx N p' s ∧ s 21 = 0) ∨ ¬ s 21 = 0)
theorem K1.fr {s0 s s' : AR} (h : K1 s0 s) (f : FrF s s') : K1 s0 s' := by
  have e : ∀ j, j < 15 ∨ 23 ≤ j → s' j = s j := fun j hj => f j (by omega) (by omega) (by omega) (by omega) (by omega) (by omega) (by omega)
  obtain ⟨a1, a2, a3, a4, a5, a6⟩ := h
  exact ⟨(e 14 (by omega)).trans a1, (e 23 (by omega)).trans a2, (e 45 (by omega)).trans a3, (e 48 (by omega)).trans a4, (e 49 (by omega)).trans a5, (e 50 (by omega)).trans a6⟩
theorem NO.fr {P : FL} {op : Bool} {g : GS} {L : List Nat} {s0 sta0 : AR} {i : Nat} {s s' now sta rows sets whys mc mh : AR} (h : NO P op g L s0 sta0 i s now sta rows sets whys mc mh) (f : FrS s s') : NO P op g L s0 sta0 i s' now sta rows sets whys mc mh := by
  obtain ⟨h1, h2, h3, h4, h5, h6, h7, h8, h9, h10⟩ := h
  have e : ∀ j, j < 15 ∨ 21 ≤ j → s' j = s j := fun j hj => f j (by omega) (by omega) (by omega) (by omega) (by omega)
  exact ⟨h1, h2, h3.fr (e 30 (by omega)) (e 31 (by omega)) (e 36 (by omega)), (e 2 (by omega)).trans h4, (e 32 (by omega)).trans h5, (e 33 (by omega)).trans h6, (e 21 (by omega)).trans h7, h8.fr f.frf, h9, h10⟩
theorem OV.fr {tx : Nat → Nat} {N : Nat} {P : FL} {op : Bool} {g : GS} {L : List Nat} {s0 sta0 : AR} {s s' now sta rows sets whys mc mh : AR} (h : OV tx N P op g L s0 sta0 s now sta rows sets whys mc mh) (f : FrF s s') (hz : (∃ p', p' ≤ N ∧ RdM tx N p' s' ∧ s' 21 = 0) ∨ ¬ s' 21 = 0) : OV tx N P op g L s0 sta0 s' now sta rows sets whys mc mh := by
  obtain ⟨R, h1, h2, h3, h4, h5, h6, h7, h8, h9⟩ := h
  have e : ∀ j, j < 15 ∨ 23 ≤ j → s' j = s j := fun j hj => f j (by omega) (by omega) (by omega) (by omega) (by omega) (by omega) (by omega)
  exact ⟨R, h1, h2.fr (e 30 (by omega)) (e 31 (by omega)) (e 36 (by omega)), (e 2 (by omega)).trans h3, (e 32 (by omega)).trans h4, (by rw [e 33 (by omega)]; exact h5), h6.fr f, h7, h8, hz⟩
/-- an order -/
theorem m_doOrder {tx : Nat → Nat} {N : Nat} {P : FL} {op : Bool} {g : GS} {L : List Nat} {s0 sta0 : AR} {B i p : Nat} {td pl rg vc kd fl mi s now sta wh rows sets whys mc mh : AR} (hF : FlatOK P) (hG : GRep P td pl rg vc fl kd mi) (hok : GOK P B g) (hB : B + 200 < 2 ^ 30) (hL : ∀ i, gt L i < 32) (hp : p ≤ N) (hR : RdM tx N p s) (hn : NO P op g L s0 sta0 i s now sta rows sets whys mc mh) (hi : i < L.length) {post : AR → AR → AR → AR → AR → AR → AR → AR → AR → Prop}
    (h1 : ∀ s' now' sta' wh' rows' sets' whys' mc' mh', NO P op g L s0 sta0 (i + 1) s' now' sta' rows' sets' whys' mc' mh' → RdM tx N p s' → post s' now' sta' wh' rows' sets' whys' mc' mh')
    (h2 : ∀ s' now' sta' wh' rows' sets' whys' mc' mh', OV tx N P op g L s0 sta0 s' now' sta' rows' sets' whys' mc' mh' → post s' now' sta' wh' rows' sets' whys' mc' mh') : wpX11_doOrder s td pl rg vc kd now sta fl mi wh rows sets whys mc mh (nI (gt L i)) post := by
  obtain ⟨n1, n2, n3, n4, n5, n6, n7, n8, n9, n10⟩ := hn
  have hoki := gIt_ok hF (xs := fun i => nI (gt L i)) hok i n2
  have RdK : ∀ s', (∀ j, 15 ≤ j → j ≤ 21 → s' j = s j) → RdM tx N p s' := by
    intro s' e
    obtain ⟨q1, q2, q3, q4, q5, q6⟩ := hR
    exact ⟨(e 16 (by omega) (by omega)).trans q1, (e 15 (by omega) (by omega)).trans q2, (e 20 (by omega) (by omega)).trans q3, (e 19 (by omega) (by omega)).trans q4, (e 17 (by omega) (by omega)).trans q5, fun a b => (e 18 (by omega) (by omega)).trans (q6 a b)⟩
  unfold wpX11_doOrder
  rw [n5, show (nI i = (200 : Int32)) = (i = 200) from propext (nI_eq (b := 200) (by omega) (by omega))]
  refine ⟨fun _ => ?_, fun z => by omega⟩
  refine m_stroke hF hG n3 hoki (by omega) (fun m e hc s1 now1 wh1 rows1 sets1 whys1 mc1 mh1 a1 a2 a3 => ?_) (fun hno => ?_)
  · have hd := dIn_le hF m (cur (gIt P (gt L) g i))
    have em : gt L i = m := nI_inj32 (by have := hL i; omega) (by have := hc.1; have := p2_le hF.1.2.2.2.2.1; omega) e
    subst em
    refine ⟨fun _ => ?_, fun z => absurd z (nI_nem (by omega))⟩
    refine nm_r (e' := nI (i + 1)) (by rw [a3 32 (by omega) (by omega) (by omega) (by omega) (by omega), n5]; exact nI_1 i) ?_
    have fr : ∀ (v : Int32) j, j ≠ 2 → j ≠ 24 → j ≠ 25 → j ≠ 30 → j ≠ 31 → j ≠ 32 → j ≠ 33 → upd (upd s1 32 (nI (i + 1))) 33 v j = s j := fun v j c1 c2 c3 c4 c5 c6 c7 => by rw [pk_un c7, pk_un c6]; exact a3 j c1 c2 c3 c4 c5
    have rm : ∀ v : Int32, RM P op (gIt P (gt L) g (i + 1)) (upd (upd s1 32 (nI (i + 1))) 33 v) now1 rows1 sets1 whys1 mc1 mh1 := fun v => RM.fr (s := s1) a1 (by rw [pk_un (by omega), pk_un (by omega)]) (by rw [pk_un (by omega), pk_un (by omega)]) (by rw [pk_un (by omega), pk_un (by omega)])
    have k1 : ∀ v : Int32, K1 s0 (upd (upd s1 32 (nI (i + 1))) 33 v) := fun v => by
      obtain ⟨k1, k2, k3, k4, k5, k6⟩ := n8
      exact ⟨(fr v 14 (by omega) (by omega) (by omega) (by omega) (by omega) (by omega) (by omega)).trans k1, (fr v 23 (by omega) (by omega) (by omega) (by omega) (by omega) (by omega) (by omega)).trans k2, (fr v 45 (by omega) (by omega) (by omega) (by omega) (by omega) (by omega) (by omega)).trans k3, (fr v 48 (by omega) (by omega) (by omega) (by omega) (by omega) (by omega) (by omega)).trans k4, (fr v 49 (by omega) (by omega) (by omega) (by omega) (by omega) (by omega) (by omega)).trans k5, (fr v 50 (by omega) (by omega) (by omega) (by omega) (by omega) (by omega) (by omega)).trans k6⟩
    have rd : ∀ v : Int32, RdM tx N p (upd (upd s1 32 (nI (i + 1))) 33 v) := fun v => RdK _ (fun j c1 c2 => fr v j (by omega) (by omega) (by omega) (by omega) (by omega) (by omega) (by omega))
    have e2 : ∀ v : Int32, upd (upd s1 32 (nI (i + 1))) 33 v 2 = 0 := fun v => by rw [pk_un (by omega), pk_un (by omega)]; exact a2
    have e21 : ∀ v : Int32, upd (upd s1 32 (nI (i + 1))) 33 v 21 = 0 := fun v => (fr v 21 (by omega) (by omega) (by omega) (by omega) (by omega) (by omega) (by omega)).trans n7
    have e32 : ∀ v : Int32, upd (upd s1 32 (nI (i + 1))) 33 v 32 = nI (i + 1) := fun v => by rw [pk_un (by omega), pk_us]
    have hall : ∀ j, j < i + 1 → CanR P (gt L j) (cur (gIt P (gt L) g j)) := fun j hj => by
      by_cases ej : j = i
      · subst ej; exact hc
      · exact n2 j (by omega)
    unfold wpX11_doOrder_J43 wpX11_doOrder_J63
    rw [pk_us, pk_un (by omega), a3 33 (by omega) (by omega) (by omega) (by omega) (by omega), n6, show (nI (i + 1) = (200 : Int32)) = (i + 1 = 200) from propext (nI_eq (b := 200) (by omega) (by omega))]
    refine ⟨fun e3 => nm_r (e' := 0) (by decide) ⟨nrw0, h1 _ _ _ _ _ _ _ _ _ ⟨⟨by omega, by omega⟩, hall, rm 0, e2 0, e32 0, pk_us, e21 0, k1 0, n9, n10⟩ (rd 0)⟩, fun e3 => nm_r (e' := 1) (by decide) ⟨nrw1, h2 _ _ _ _ _ _ _ _ _ ⟨i + 1, ⟨?_, fun j hj => ⟨rfl, hall j hj⟩, fun z => ?_⟩, rm 1, e2 1, e32 1, ?_, k1 1, n9, ?_, Or.inl ⟨p, hp, rd 1, e21 1⟩⟩⟩⟩
    · omega
    · omega
    · rw [pk_us]; decide
    · rw [if_neg (by omega)]; exact n10
  · refine ⟨fun z => absurd rfl z, fun _ => ?_⟩
    unfold wpX11_doOrder_J43 wpX11_doOrder_J63
    have hn5 : upd (upd s 2 0) 33 (1 : Int32) 32 = nI i := by rw [pk_un (by omega), pk_un (by omega)]; exact n5
    rw [hn5, show upd (upd s 2 0) 33 (1 : Int32) 33 = 1 from pk_us, show (nI i = (200 : Int32)) = (i = 200) from propext (nI_eq (b := 200) (by omega) (by omega))]
    refine ⟨fun _ => nm_r (e' := 1) (by decide) ⟨nrw1, h2 _ _ _ _ _ _ _ _ _ ?_⟩, fun z => by omega⟩
    have fr : ∀ j, j ≠ 2 → j ≠ 33 → upd (upd (upd s 2 0) 33 (1 : Int32)) 33 (1 : Int32) j = s j := fun j c1 c2 => by rw [pk_un c2, pk_un c2, pk_un c1]
    obtain ⟨k1, k2, k3, k4, k5, k6⟩ := n8
    refine ⟨i, ⟨by omega, fun j hj => ⟨rfl, n2 j hj⟩, fun _ => hno⟩, n3.fr (fr 30 (by omega) (by omega)) (fr 31 (by omega) (by omega)) (fr 36 (by omega) (by omega)), ?_, ?_, ?_, ⟨(fr 14 (by omega) (by omega)).trans k1, (fr 23 (by omega) (by omega)).trans k2, (fr 45 (by omega) (by omega)).trans k3, (fr 48 (by omega) (by omega)).trans k4, (fr 49 (by omega) (by omega)).trans k5, (fr 50 (by omega) (by omega)).trans k6⟩, ?_, ?_, Or.inl ⟨p, hp, RdK _ (fun j c1 c2 => fr j (by omega) (by omega)), (fr 21 (by omega) (by omega)).trans n7⟩⟩
    · rw [pk_un (by omega), pk_un (by omega), pk_us]
    · exact (fr 32 (by omega) (by omega)).trans n5
    · rw [pk_us]; decide
    · rw [pk_un (by omega)]; exact n9
    · rw [pk_us, if_pos (by omega), n10]
theorem m_steps2 {tx : Nat → Nat} {N : Nat} {P : FL} {op : Bool} {g : GS} {L : List Nat} {s0 sta0 : AR} {B : Nat} {t td pl rg vc kd fl mi : AR} (ht : TxM tx N t) (hF : FlatOK P) (hG : GRep P td pl rg vc fl kd mi) (hok : GOK P B g) (hB : B + 200 < 2 ^ 30) (hL : ∀ i, gt L i < 32) : ∀ f p w dp q l i (s now sta wh rows sets whys mc mh : AR) (kx post : AR → AR → AR → AR → AR → AR → AR → AR → AR → Prop), p ≤ N → N < p + f → w ≤ 3 → 3 ≤ dp + w → aSteps tx N (P 0 2) f p w = .inr (q, l) → RdM tx N p s → NO P op g L s0 sta0 i s now sta rows sets whys mc mh → i + l.length ≤ L.length → (∀ j, j < l.length → gt L (i + j) = gt l j) →
    (∀ s' now' sta' wh' rows' sets' whys' mc' mh', RdM tx N q s' → NO P op g L s0 sta0 (i + l.length) s' now' sta' rows' sets' whys' mc' mh' → kx s' now' sta' wh' rows' sets' whys' mc' mh') →
    (∀ s' now' sta' wh' rows' sets' whys' mc' mh', OV tx N P op g L s0 sta0 s' now' sta' rows' sets' whys' mc' mh' → kx s' now' sta' wh' rows' sets' whys' mc' mh') →
    ∀ n, N + 1 ≤ n + p → wpX11_readSteps_L0 (wpX11_readSteps dp) td pl rg vc kd fl mi t (nI w) (1 : Int32) kx post n s now sta wh rows sets whys mc mh := by
  have hN := ht.1
  have hT := hF.1.2.2.2.2.1
  have g2 : td 2 = nI (P 0 2) := hG.1 2 (by omega)
  have w48 : ∀ p, wdB tx N p 48 = wdB tx N p 17 := fun p => wd_sk (by decide)
  have w49 : ∀ p, wdB tx N p 49 = wdB tx N p 18 := fun p => wd_sk (by decide)
  intro f
  induction f with
  | zero => intro p w dp q l i s now sta wh rows sets whys mc mh kx post hp hf; omega
  | succ f ih =>
    intro p w dp q l i s now sta wh rows sets whys mc mh kx post hp hf hw hdp ha hR hNO hlen hsub hg ho n hn
    have h21 : s 21 = 0 := hNO.2.2.2.2.2.2.1
    have h33 : s 33 = 0 := hNO.2.2.2.2.2.1
    rw [aSteps_n] at ha
    obtain ⟨n, rfl⟩ : ∃ k, n = k + 1 := ⟨n - 1, by omega⟩
    -- it is over
    have ovx : ∀ s' now' sta' wh' rows' sets' whys' mc' mh', OV tx N P op g L s0 sta0 s' now' sta' rows' sets' whys' mc' mh' → ∀ n, 1 ≤ n → wpX11_readSteps_L0 (wpX11_readSteps dp) td pl rg vc kd fl mi t (nI w) (1 : Int32) kx post n s' now' sta' wh' rows' sets' whys' mc' mh' := by
      intro s' now' sta' wh' rows' sets' whys' mc' mh' hov n hn
      have h := ho s' now' sta' wh' rows' sets' whys' mc' mh' hov
      obtain ⟨R, -, -, -, -, h5, -⟩ := hov
      obtain ⟨n, rfl⟩ : ∃ k, n = k + 1 := ⟨n - 1, by omega⟩
      unfold wpX11_readSteps_L0
      exact ⟨fun _ => h, fun _ => ⟨fun _ => h, fun z => absurd z h5⟩⟩
    unfold wpX11_readSteps_L0
    refine ⟨fun z => absurd h21 z, fun _ => ⟨fun z => absurd h33 z, fun _ => m_is ht hp hR h21 (by omega) ?_⟩⟩
    rw [w48]
    by_cases e17 : wdB tx N p 17 = true
    · rw [if_pos e17] at ha ⊢
      have hk1 := wd_k e17
      have hl := tE_lt (tx := tx) (N := N) (p := p) (by omega)
      have hE := tE_le (tx := tx) hp
      obtain ⟨⟨q1, m⟩, hx, ha⟩ := bnd_r ha
      obtain ⟨⟨q2, l2⟩, hy, ha⟩ := bnd_r ha
      have e3 : (q2, m :: l2) = (q, l) := Sum.inr.inj ha
      injection e3 with e4 e5
      subst e4 e5
      have a1 := aSet_ok hT 501 (tE tx N p) 0 (by omega) (tE_le hp) (by omega) (q1, m) hx
      have a1' : tE tx N p < q1 := a1.1
      have a2' : q1 ≤ N := a1.2.1
      have hlen : i + (l2.length + 1) ≤ L.length := hlen
      have hm : gt L i = m := hsub 0 (Nat.zero_lt_succ _)
      refine ⟨fun _ => ?_, fun z => absurd z (by decide)⟩
      unfold wpX11_readSteps_J34
      refine m_passes ht hp hR h21 (by omega) (fun _ s1 r1 r2 r3 => ⟨fun z => absurd z (by decide), fun _ => ?_⟩) (fun z => absurd z (by rw [w48, e17]; decide))
      refine m_readSet ht hp hT r1 r2 g2 (fun q' m' es s2 c1 c2 c3 => ⟨fun z => absurd z (by decide), fun _ => ?_⟩) (fun k b es => absurd (hx.symm.trans es) (by simp))
      have e6 : (q1, m) = (q', m') := Sum.inr.inj (hx.symm.trans es)
      injection e6 with e7 e8
      subst e7 e8
      rw [← hm]
      refine m_doOrder hF hG hok hB hL a2' c1 (hNO.fr (r3.trans c3)) (by omega) (fun s' now' sta' wh' rows' sets' whys' mc' mh' b1 b2 => ?_) (fun s' now' sta' wh' rows' sets' whys' mc' mh' b1 => ovx _ _ _ _ _ _ _ _ _ b1 n (by omega))
      refine ih q1 w dp q2 l2 (i + 1) s' now' sta' wh' rows' sets' whys' mc' mh' kx post a2' (by omega) hw hdp hy b2 b1 (by omega) (fun j hj => ?_) (fun s3 now3 sta3 wh3 rows3 sets3 whys3 mc3 mh3 d1 d2 => hg _ _ _ _ _ _ _ _ _ d1 ?_) ho n (by omega)
      · rw [show i + 1 + j = i + (j + 1) by omega]
        exact hsub (j + 1) (Nat.succ_lt_succ hj)
      · rw [show i + (m :: l2).length = i + 1 + l2.length by show i + (l2.length + 1) = _; omega]
        exact d2
    rw [if_neg e17] at ha ⊢
    refine ⟨fun z => absurd rfl z, fun _ => m_is ht hp hR h21 (by omega) ?_⟩
    rw [w49]
    by_cases e18 : wdB tx N p 18 = true
    · rw [if_pos e18] at ha ⊢
      have hk1 := wd_k e18
      have hl := tE_lt (tx := tx) (N := N) (p := p) (by omega)
      have hE := tE_le (tx := tx) hp
      by_cases e3 : w = 3
      · rw [if_pos e3] at ha; exact absurd ha (by simp)
      rw [if_neg e3] at ha
      obtain ⟨k, ek, ha⟩ := bnd_r ha
      have ak := aNum_ok ek
      have es : sgB tx N (tE tx N (tE tx N p)) 123 = true := Classical.byContradiction (fun z => by rw [if_neg z] at ha; exact absurd ha (by simp))
      rw [if_pos es] at ha
      obtain ⟨⟨r, l1⟩, er, ha⟩ := bnd_r ha
      have ha : (if sgB tx N r 125 = true then bnd (aSteps tx N (P 0 2) f (tE tx N r) w) (fun r2 => (.inr (r2.1, rep l1 k ++ r2.2) : PR (Nat × List Nat))) else .inl (1, tB tx N r)) = .inr (q, l) := ha
      have es' : sgB tx N r 125 = true := Classical.byContradiction (fun z => by rw [if_neg z] at ha; exact absurd ha (by simp))
      rw [if_pos es'] at ha
      obtain ⟨⟨r2, l2⟩, er2, ha⟩ := bnd_r ha
      have e6 : (r2, rep l1 k ++ l2) = (q, l) := Sum.inr.inj ha
      injection e6 with e7 e8
      subst e7 e8
      have hp3 := tE_le (tx := tx) (tE_le (tx := tx) (tE_le (tx := tx) hp))
      have lp1 := tE_p (tx := tx) (N := N) (p := tE tx N p)
      have lp2 := tE_p (tx := tx) (N := N) (p := tE tx N (tE tx N p))
      obtain ⟨o1, o2, o3, o4, -⟩ := aSteps_ok hN hT f _ (w + 1) hp3 (by omega) r l1 er
      have hk3 := sg_k es'
      have hlr := tE_lt (tx := tx) (N := N) (p := r) (by omega)
      have hlt : (rep l1 k ++ l2).length = k * l1.length + l2.length := by rw [List.length_append, rep_len]
      rw [hlt] at hlen hsub
      -- where a body lies in the row
      have hbody : ∀ jj, jj < k → (i + jj * l1.length + l1.length ≤ L.length ∧ ∀ c, c < l1.length → gt L (i + jj * l1.length + c) = gt l1 c) := by
        intro jj hjj
        have hm : (jj + 1) * l1.length ≤ k * l1.length := Nat.mul_le_mul_right _ (by omega)
        rw [Nat.succ_mul] at hm
        refine ⟨by omega, fun c hc => ?_⟩
        rw [Nat.add_assoc, hsub _ (by omega), gt_l _ _ _ (by rw [rep_len]; omega)]
        exact rep_gt l1 k jj c hjj hc
      refine ⟨fun z => absurd z (by decide), fun _ => ?_⟩
      unfold wpX11_readSteps_J34
      refine m_passes ht hp hR h21 (by omega) (fun z => absurd z (by rw [w48]; exact e17)) (fun _ => ⟨fun _ => ?_, fun z => absurd rfl z⟩)
      rw [show (nI w = (3 : Int32)) = (w = 3) from propext (nI_eq (b := 3) (by omega) (by omega))]
      refine ⟨fun _ => ?_, fun z => absurd z e3⟩
      unfold wpX11_readSteps_J71
      refine ⟨fun z => absurd h21 z, fun _ => m_step2 ht hp hR h21 (fun s1 r1 r2' r3 => ?_)⟩
      unfold wpX11_readSteps_J82
      refine m_num ht (tE_le hp) r1 r2' (lo := 1) (hi := 21) (by omega) (by omega) rfl rfl (fun k' ek' s2 q1 q2 q3 => ?_) (fun k' b ek' => absurd (ek.symm.trans ek') (by simp))
      have ekk : k = k' := Sum.inr.inj (ek.symm.trans ek')
      subst ekk
      refine m_mark ht (tE_le (tE_le hp)) q1 q2 (c := 123) (by omega) rfl (fun _ s3 u1 u2 => ⟨fun z => absurd z (by decide), fun _ => ?_⟩) (fun z => absurd z (by rw [es]; decide))
      have f3 : FrS s s3 := r3.trans (q3.trans u2)
      have no3 := hNO.fr f3
      unfold wpX11_readSteps_J107 wpX11_readAgain
      refine nm_r (e' := nI (tB tx N (tE tx N (tE tx N (tE tx N p))))) u1.2.2.2.1 ?_
      -- over: the closing sign doesn't matter
      have ovm : ∀ s' now' sta' wh' rows' sets' whys' mc' mh', OV tx N P op g L s0 sta0 s' now' sta' rows' sets' whys' mc' mh' → wpX11_mark s' t (125 : Int32) (fun sM_114 => wpX11_readSteps_L0 (wpX11_readSteps dp) td pl rg vc kd fl mi t (nI w) (1 : Int32) kx post n sM_114 now' sta' wh' rows' sets' whys' mc' mh') := by
        intro s' now' sta' wh' rows' sets' whys' mc' mh' hov
        have hov2 := hov
        obtain ⟨R, -, -, -, -, -, -, -, -, hz⟩ := hov2
        rcases hz with ⟨p', c1, c2, c3⟩ | hz
        · refine m_mark ht c1 c2 c3 (c := 125) (by omega) rfl (fun _ s5 y1 y2 => ovx _ _ _ _ _ _ _ _ _ (hov.fr y2.frf (Or.inl ⟨_, tE_le c1, y1, FrS.z y2 c3⟩)) n (by omega)) (fun _ => ovx _ _ _ _ _ _ _ _ _ (hov.fr (BdM.mF (k := 1) (b := tB tx N p') (by omega)).2.2.2 (Or.inr (mF21 (by omega) (by omega)))) n (by omega))
        · exact m_markBad hz (ovx _ _ _ _ _ _ _ _ _ hov n (by omega))
      refine loop_0 (fun n j (q : AR × AR × AR × AR × AR × AR × AR × AR × AR) => wpX11_readAgain_L9 (wpX11_readSteps dp) td pl rg vc kd fl mi t (nI w) (nI k) (1 : Int32) (nI (tB tx N (tE tx N (tE tx N (tE tx N p))))) _ _ n q.1 q.2.1 q.2.2.1 q.2.2.2.1 q.2.2.2.2.1 q.2.2.2.2.2.1 q.2.2.2.2.2.2.1 q.2.2.2.2.2.2.2.1 q.2.2.2.2.2.2.2.2 (nI j)) (fun j q => (NO P op g L s0 sta0 (i + j * l1.length) q.1 q.2.1 q.2.2.1 q.2.2.2.2.1 q.2.2.2.2.2.1 q.2.2.2.2.2.2.1 q.2.2.2.2.2.2.2.1 q.2.2.2.2.2.2.2.2 ∧ q.1 16 = nI N ∧ (j ≠ 0 → RdM tx N r q.1)) ∨ OV tx N P op g L s0 sta0 q.1 q.2.1 q.2.2.1 q.2.2.2.2.1 q.2.2.2.2.2.1 q.2.2.2.2.2.2.1 q.2.2.2.2.2.2.2.1 q.2.2.2.2.2.2.2.2) k (s3, now, sta, wh, rows, sets, whys, mc, mh) (Or.inl ⟨by show NO P op g L s0 sta0 (i + 0 * l1.length) s3 now sta rows sets whys mc mh; rw [Nat.zero_mul]; exact no3, u1.1, fun z => absurd rfl z⟩) ?_ ?_
      · rintro n4 ⟨s4, now4, sta4, wh4, rows4, sets4, whys4, mc4, mh4⟩ hI
        show wpX11_readAgain_L9 (wpX11_readSteps dp) td pl rg vc kd fl mi t (nI w) (nI k) (1 : Int32) _ _ _ (n4 + 1) s4 now4 sta4 wh4 rows4 sets4 whys4 mc4 mh4 (nI k)
        unfold wpX11_readAgain_L9
        refine ⟨fun _ => ?_, fun z => absurd (nI_le (Nat.le_refl _) (by omega)) z⟩
        rcases hI with ⟨i1, i2, i3⟩ | hov
        · have i1 : NO P op g L s0 sta0 (i + k * l1.length) s4 now4 sta4 rows4 sets4 whys4 mc4 mh4 := i1
          have i3 : RdM tx N r s4 := i3 (by omega)
          refine m_mark ht o2 i3 i1.2.2.2.2.2.2.1 (c := 125) (by omega) rfl (fun _ s5 y1 y2 => ?_) (fun z => absurd z (by rw [es']; decide))
          refine ih (tE tx N r) w dp r2 l2 (i + k * l1.length) s5 now4 sta4 wh4 rows4 sets4 whys4 mc4 mh4 kx post (tE_le o2) (by omega) hw hdp er2 y1 (i1.fr y2) (by omega) (fun j hj => ?_) (fun s6 now6 sta6 wh6 rows6 sets6 whys6 mc6 mh6 d1 d2 => hg _ _ _ _ _ _ _ _ _ d1 ?_) ho n (by omega)
          · rw [Nat.add_assoc, hsub _ (by omega), ← rep_len l1 k, gt_r]
          · rw [hlt, ← Nat.add_assoc]; exact d2
        · exact ovm _ _ _ _ _ _ _ _ _ hov
      · rintro n4 j ⟨s4, now4, sta4, wh4, rows4, sets4, whys4, mc4, mh4⟩ hj hI hnext
        show wpX11_readAgain_L9 (wpX11_readSteps dp) td pl rg vc kd fl mi t (nI w) (nI k) (1 : Int32) _ _ _ (n4 + 1) s4 now4 sta4 wh4 rows4 sets4 whys4 mc4 mh4 (nI j)
        unfold wpX11_readAgain_L9
        refine ⟨fun z => absurd z (nI_ge hj (by omega)), fun _ => ?_⟩
        rcases hI with ⟨i1, i2, i3⟩ | hov
        · have i1 : NO P op g L s0 sta0 (i + j * l1.length) s4 now4 sta4 rows4 sets4 whys4 mc4 mh4 := i1
          have i2 : s4 16 = nI N := i2
          refine ⟨fun z => absurd i1.2.2.2.2.2.2.1 z, fun _ => ⟨fun z => absurd i1.2.2.2.2.2.1 z, fun _ => m_back ht hp3 i2 i1.2.2.2.2.2.2.1 (fun s5 v1 v2 v3 => ?_)⟩⟩
          obtain ⟨d, rfl⟩ : ∃ k, dp = k + 1 := ⟨dp - 1, by omega⟩
          rw [show nI w + (1 : Int32) = nI (w + 1) from nI_1 w]
          unfold wpX11_readSteps
          refine ⟨N + 1, ?_⟩
          obtain ⟨hb1, hb2⟩ := hbody j hj
          refine ih _ (w + 1) d r l1 (i + j * l1.length) s5 now4 sta4 wh4 rows4 sets4 whys4 mc4 mh4 _ _ hp3 (by omega) (by omega) (by omega) er v1 (i1.fr v3) hb1 hb2 (fun s6 now6 sta6 wh6 rows6 sets6 whys6 mc6 mh6 d1 d2 => nm_r (nI_1 j) (hnext (s6, now6, sta6, wh6, rows6, sets6, whys6, mc6, mh6) (Or.inl ⟨?_, d1.1, fun _ => d1⟩))) (fun s6 now6 sta6 wh6 rows6 sets6 whys6 mc6 mh6 d1 => nm_r (nI_1 j) (hnext (s6, now6, sta6, wh6, rows6, sets6, whys6, mc6, mh6) (Or.inr d1))) (N + 1) (by omega)
          show NO P op g L s0 sta0 (i + (j + 1) * l1.length) s6 now6 sta6 rows6 sets6 whys6 mc6 mh6
          rw [Nat.succ_mul, ← Nat.add_assoc]; exact d2
        · have hov : OV tx N P op g L s0 sta0 s4 now4 sta4 rows4 sets4 whys4 mc4 mh4 := hov
          have h5 : ¬ s4 33 = 0 := by obtain ⟨R, -, -, -, -, h5, -⟩ := hov; exact h5
          exact ⟨fun _ => ovm _ _ _ _ _ _ _ _ _ hov, fun _ => ⟨fun _ => ovm _ _ _ _ _ _ _ _ _ hov, fun z => absurd z h5⟩⟩
    · rw [if_neg e18] at ha ⊢
      have e6 : (p, ([] : List Nat)) = (q, l) := Sum.inr.inj ha
      injection e6 with e7 e8
      subst e7 e8
      exact ⟨fun _ => hg _ _ _ _ _ _ _ _ _ hR hNO, fun z => absurd rfl z⟩
