def sdN (P : FL) (x2 : Int32) : Nat := if x2 = 0 then P 0 0 else P 0 1
theorem sdN_le {P : FL} (hF : FlatOK P) (x2 : Int32) : sdN P x2 ≤ 10 := by
  have f2 := hF.1.2.1
  have f4 := hF.1.2.2.2.1
  unfold sdN
  split <;> omega
theorem c_seen {P : FL} {sQ sG qc qh : AR} (hF : FlatOK P) (hs : ∀ k, k < 7 → sG k = nI (P 0 k)) {op : Bool} {x x2 x3 : Int32} {cc ch : Nat → Nat} (hq : QRepC P sQ qc qh op cc ch) (hok : QOK P cc ch) {post : Int32 → AR → AR → AR → Prop} {postX : String → Prop} (hbad : (¬ ∃ c, c < sdN P x2 ∧ x = nI c) → postX exN) (hcl : (∃ c, c < sdN P x2 ∧ x = nI c) → op = false → post (-1) sQ qc qh) (hop : (∃ c, c < sdN P x2 ∧ x = nI c) → op = true → ∀ sQ' qc' qh', QRepC P sQ' qc' qh' true (cSeen P x x2 x3 cc) ch → post (nI (cnt (alv (cSeen P x x2 x3 cc)) (P 0 0 * P 0 1))) sQ' qc' qh') : wpX10_seen sG sQ qc qh x x2 x3 post postX := by
  have hsd := sdN_le hF x2
  have core : wpX10_seen_J26 sG sQ qc qh x x2 x3 x (nI (sdN P x2)) post postX ∨ True := Or.inr trivial
  have key : (x < 0 → wpX10_seen_J29 sG sQ qc qh post postX) ∧ (¬ x < 0 → wpX10_seen_J26 sG sQ qc qh x x2 x3 x (nI (sdN P x2)) post postX) := by
    unfold wpX10_seen_J26 wpX10_seen_J29
    refine n_range (b := sdN P x2) (by omega) (fun c hc e => ?_) hbad
    rw [hq.1]
    cases op with
    | false => exact ⟨fun z => absurd rfl z, fun _ => hcl ⟨c, hc, e⟩ rfl⟩
    | true =>
      refine ⟨fun _ => c_keepThose hF hs hq hok (fun sQ' qc' qh' p1 p2 => ?_), fun z => absurd z (by decide)⟩
      rw [p2]
      exact hop ⟨c, hc, e⟩ rfl _ _ _ p1
  unfold wpX10_seen
  rw [hs 0 (by omega), hs 1 (by omega)]
  refine ⟨key.1, fun z => ⟨fun e => ?_, fun e => ?_⟩⟩
  · have := key.2 z
    unfold sdN at this
    rw [if_pos e] at this
    exact this
  · have := key.2 z
    unfold sdN at this
    rw [if_neg e] at this
    exact this
theorem m_seen {P : FL} {sM s mc mh : AR} (hF : FlatOK P) (hs : ∀ k, k < 7 → s k = nI (P 0 k)) {op : Bool} {x x2 x3 : Int32} {cc ch : Nat → Nat} (hq : QRepM P sM mc mh op cc ch) (hok : QOK P cc ch) {post : Int32 → AR → AR → Prop} (hbad : (¬ ∃ c, c < sdN P x2 ∧ x = nI c) → post 0 (upd (upd sM 2 0) 2 1) mc) (hcl : (∃ c, c < sdN P x2 ∧ x = nI c) → op = false → post (-1) (upd sM 2 0) mc) (hop : (∃ c, c < sdN P x2 ∧ x = nI c) → op = true → ∀ mc', QRepM P (upd sM 2 0) mc' mh true (cSeen P x x2 x3 cc) ch → post (nI (cnt (alv (cSeen P x x2 x3 cc)) (P 0 0 * P 0 1))) (upd sM 2 0) mc') : wpX11_seen sM s mc x x2 x3 post := by
  have hsd := sdN_le hF x2
  have fc := hF.cells
  have e36 : upd sM 2 0 36 = sM 36 := pk_un (by omega)
  have key : wpX11_seen_J26 (upd sM 2 0) s mc x x2 x3 x (0 : Int32) (nI (sdN P x2)) post := by
    unfold wpX11_seen_J26 wpX11_fail
    refine m_range (by omega) (fun c hc e => ⟨fun _ => ?_, fun z => absurd z (by decide)⟩) (fun h => ⟨fun z => absurd rfl z, fun _ => hbad h⟩)
    rw [e36, hq.1]
    cases op with
    | false => exact ⟨fun z => absurd rfl z, fun _ => hcl ⟨c, hc, e⟩ rfl⟩
    | true =>
      refine ⟨fun _ => ?_, fun z => absurd z (nI_nem (by omega))⟩
      refine m_seenL hF hs (mh := mh) (cc := cc) (ch := ch) ⟨e36.trans hq.1, hq.2⟩ hok (fun mc' y q1 => ?_)
      have q2 := q1.2 rfl
      exact m_casesN hF (cc := cSeen P x x2 x3 cc) q1.1 (fun k hk => (q2 k hk).1) (fun k hk => (hok.seen x x2 x3 k hk).1) (hop ⟨c, hc, e⟩ rfl mc' q1)
  unfold wpX11_seen
  rw [hs 0 (by omega), hs 1 (by omega)]
  refine ⟨fun e => ?_, fun e => ?_⟩
  · unfold sdN at key
    rw [if_pos e] at key
    exact key
  · unfold sdN at key
    rw [if_neg e] at key
    exact key
/-- seen, for any two answers -/
theorem lawS {xs : Nat → Int32} {L B : Nat} {cs ms : ST} {ov l4 : Int32} (hI : INV B cs ms) (hv : HV l4 L) {kb : ST → ST → Prop} (hB : B + 1000 < 2 ^ 29) (hk : ∀ cs' ms', INV (B + 200) cs' ms' → kb cs' ms') (x2 x3 : Int32) : wpL_seen (cs 2) (cs 8) (cs 47) (cs 48) ov (xs (l4 + (1 : Int32)).toNatClampNeg) x2 x3 (fun r1 w1_0 w1_1 w1_2 o1 => vp_in (l4 + (1 : Int32)) L ∧ vp_in (l4 + (2 : Int32)) L ∧ vp_in (l4 + (3 : Int32)) L ∧ wpX11_seen (ms 0) (ms 1) (ms 16) (xs (l4 + (1 : Int32)).toNatClampNeg) x2 x3 (fun r2 w2_0 w2_1 => wpX11_thrown w2_0 (fun r3 => r3 = r1 ∧ ((¬ r1 = 0 → kb (sct (sct (sct cs 8 w1_0) 47 w1_1) 48 w1_2) (sct (sct ms 0 w2_0) 16 w2_1)) ∧ (r1 = 0 → (o1) = (r2) ∧ kb (sct (sct (sct cs 8 w1_0) 47 w1_1) 48 w1_2) (sct (sct ms 0 w2_0) 16 w2_1)))))) := by
  have hI2 := hI
  obtain ⟨P, op, g, im, g2, T, pl, hG, hR, hT, hP, hJ⟩ := hI
  have hCG := hG.cg
  have hG2 := hG
  obtain ⟨hF, hGc, hE, hW, hGm⟩ := hG
  have hR2 := hR
  obtain ⟨hRc, hRm, hok, hs5, hs6⟩ := hR
  have fc := hF.cells
  have f5 := hF.1.2.2.2.2.1
  have f6 := hF.1.2.2.2.2.2.1
  generalize xs (l4 + (1 : Int32)).toNatClampNeg = x
  have k0 : K0 (ms 0) (upd (ms 0) 2 0) := K0.c
  have k1 : K0 (ms 0) (upd (upd (ms 0) 2 0) 2 1) := K0.c.trans K0.c
  unfold wpL_seen
  refine c_seen hF hGc.1 hRc.2 hok.2 (fun e => ⟨rfl, hv.h1, hv.h2, hv.h3, ?_⟩) (fun e eo => ⟨hv.h1, hv.h2, hv.h3, ?_⟩) (fun e eo sQ' qc' qh' p1 => ⟨hv.h1, hv.h2, hv.h3, ?_⟩)
  · refine m_seen hF hGm.1 hRm.2 hok.2 (fun _ => ⟨pk_us, fun _ => hk _ _ ?_, fun z => absurd z (by decide)⟩) (fun z => absurd z e) (fun z => absurd z e)
    exact ⟨P, op, g, im, g2, T, pl, hG2, ⟨hRc, hRm.k0 k1, hok.mono (by omega), hs5, hs6⟩, hT.k0 k1, hP.k0 k1, (hJ.k0 k1).mono (by omega)⟩
  · refine m_seen hF hGm.1 hRm.2 hok.2 (fun z => absurd e z) (fun _ _ => ⟨pk_us, fun z => absurd rfl z, fun _ => ⟨rfl, hk _ _ ?_⟩⟩) (fun _ z => absurd (eo.symm.trans z) (by decide))
    exact ⟨P, op, g, im, g2, T, pl, hG2, ⟨hRc, hRm.k0 k0, hok.mono (by omega), hs5, hs6⟩, hT.k0 k0, hP.k0 k0, (hJ.k0 k0).mono (by omega)⟩
  · refine m_seen hF hGm.1 hRm.2 hok.2 (fun z => absurd e z) (fun _ z => absurd (z.symm.trans eo) (by decide)) (fun _ _ mc' q1 => ⟨pk_us, fun z => absurd rfl z, fun _ => ⟨rfl, hk _ _ ?_⟩⟩)
    exact ⟨P, true, (g.1, g.2.1, g.2.2.1, g.2.2.2.1, cSeen P x x2 x3 g.2.2.2.2.1, g.2.2.2.2.2), im, g2, T, pl, hG2, ⟨⟨hRc.1, p1⟩, ⟨(hRm.k0 k0).1, q1⟩, ⟨hok.1.mono (by omega), hok.2.seen x x2 x3⟩, hs5, hs6⟩, hT.k0 k0, hP.k0 k0, (hJ.k0 k0).mono (by omega)⟩
/-- seen -/
theorem law15 {xs : Nat → Int32} {L B : Nat} {cs ms : ST} {ov l4 : Int32} (hI : INV B cs ms) (hv : HV l4 L) {kb : ST → ST → Prop} (hB : B + 1000 < 2 ^ 29) (hk : ∀ cs' ms', INV (B + 200) cs' ms' → kb cs' ms') : wpC15 xs L cs ms ov l4 kb := by
  unfold wpC15
  exact ⟨hv.h1, hv.h2, fun _ => ⟨hv.h3, fun _ => lawS hI hv hB hk 0 0, fun _ => lawS hI hv hB hk 0 1⟩, fun _ => ⟨hv.h3, fun _ => lawS hI hv hB hk 1 0, fun _ => lawS hI hv hB hk 1 1⟩⟩
/-- cases -/
theorem law16 {xs : Nat → Int32} {L B : Nat} {cs ms : ST} {ov l4 : Int32} (hI : INV B cs ms) (hv : HV l4 L) {kb : ST → ST → Prop} (hk : ∀ cs' ms', INV B cs' ms' → kb cs' ms') : wpC16 xs L cs ms ov l4 kb := by
  have hI2 := hI
  obtain ⟨P, op, g, im, g2, T, pl, hG, hR, hT, hP, hJ⟩ := hI
  have hCG := hG.cg
  have hG2 := hG
  obtain ⟨hF, hGc, hE, hW, hGm⟩ := hG
  have hR2 := hR
  obtain ⟨hRc, hRm, hok, hs5, hs6⟩ := hR
  have fc := hF.cells
  have f5 := hF.1.2.2.2.2.1
  have f6 := hF.1.2.2.2.2.2.1
  have e36 : upd (ms 0) 2 0 36 = ms 0 36 := pk_un (by omega)
  have hle := cnt_le (alv g.2.2.2.2.1) (P 0 0 * P 0 1)
  unfold wpC16 wpL_cases
  refine ⟨hv.h1, ?_⟩
  generalize xs (l4 + (1 : Int32)).toNatClampNeg = x
  unfold wpX10_cases
  refine ⟨fun e => ?_, fun e => ?_⟩
  · subst e
    unfold wpX10_cases_J10
    rw [hRc.2.1]
    cases op with
    | false =>
      refine ⟨fun z => absurd rfl z, fun _ => ⟨hv.h1, ?_⟩⟩
      unfold wpX11_cases wpX11_cases_J24
      rw [e36, hRm.2.1]
      exact ⟨fun _ => ⟨fun z => absurd rfl z, fun _ => ro_ok hI2 hk _⟩, fun z => absurd rfl z⟩
    | true =>
      refine ⟨fun _ => ⟨fun z => absurd rfl z, fun _ => ?_⟩, fun z => absurd z (by decide)⟩
      rw [(hRc.2.2 rfl).1]
      refine ⟨hv.h1, ?_⟩
      have h36 : ms 0 36 = nI (P 0 0 * P 0 1) := hRm.2.1
      unfold wpX11_cases wpX11_cases_J24
      rw [e36, h36]
      exact ⟨fun _ => ⟨fun _ => m_casesN hF (cc := g.2.2.2.2.1) (e36.trans h36) (fun k hk => (hRm.2.2 rfl k hk).1) (fun k hk => (hok.2 k hk).1) (ro_ok hI2 hk _), fun z => absurd z (nI_nem (by omega))⟩, fun z => absurd rfl z⟩
  · refine c_needCell hF hGc.1 (fun c hc ec => ?_) (fun ec => ⟨rfl, hv.h1, ?_⟩)
    · subst ec
      unfold wpX10_cases_J10
      rw [hRc.2.1]
      cases op with
      | false =>
        refine ⟨fun z => absurd rfl z, fun _ => ⟨hv.h1, ?_⟩⟩
        unfold wpX11_cases wpX11_cases_J24
        rw [e36, hRm.2.1]
        exact ⟨fun z => absurd z e, fun _ => m_isCell hF hGm.1 (fun _ _ _ => ⟨fun _ => ⟨fun z => absurd rfl z, fun _ => ro_ok hI2 hk _⟩, fun z => absurd z (by decide)⟩) (fun z => absurd ⟨c, hc, rfl⟩ z)⟩
      | true =>
        refine ⟨fun _ => ⟨fun _ => c_howManyIn hF hRc.2 hok.2 hc ⟨hv.h1, ?_⟩, fun z => absurd z e⟩, fun z => absurd z (by decide)⟩
        have h36 : ms 0 36 = nI (P 0 0 * P 0 1) := hRm.2.1
        unfold wpX11_cases wpX11_cases_J24
        rw [e36, h36]
        exact ⟨fun z => absurd z e, fun _ => m_isCell hF hGm.1 (fun _ _ _ => ⟨fun _ => ⟨fun _ => m_casesC hF (cc := g.2.2.2.2.1) hc (e36.trans h36) (fun k hk => (hRm.2.2 rfl k hk).1) (fun k hk => (hok.2 k hk).1) (ro_ok hI2 hk _), fun z => absurd z (nI_nem (by omega))⟩, fun z => absurd z (by decide)⟩) (fun z => absurd ⟨c, hc, rfl⟩ z)⟩
    · unfold wpX11_cases wpX11_fail
      exact ⟨fun z => absurd z e, fun _ => m_isCell hF hGm.1 (fun c h1 h2 => absurd ⟨c, h1, h2⟩ ec) (fun _ => ⟨fun z => absurd rfl z, fun _ => ro_th hI2 hk _ _⟩)⟩
theorem inC_le {cc : Nat → Nat} {c M : Nat} : cnt (inC cc c) M ≤ cnt (alv cc) M := by
  refine cnt_sub _ (fun k _ e => ?_)
  have := of_decide_eq_true e
  exact decide_eq_true (by omega)
/-- odds -/
theorem law17 {xs : Nat → Int32} {L B : Nat} {cs ms : ST} {ov l4 : Int32} (hI : INV B cs ms) (hv : HV l4 L) {kb : ST → ST → Prop} (hk : ∀ cs' ms', INV B cs' ms' → kb cs' ms') : wpC17 xs L cs ms ov l4 kb := by
  have hI2 := hI
  obtain ⟨P, op, g, im, g2, T, pl, hG, hR, hT, hP, hJ⟩ := hI
  have hCG := hG.cg
  have hG2 := hG
  obtain ⟨hF, hGc, hE, hW, hGm⟩ := hG
  have hR2 := hR
  obtain ⟨hRc, hRm, hok, hs5, hs6⟩ := hR
  have fc := hF.cells
  have f5 := hF.1.2.2.2.2.1
  have f6 := hF.1.2.2.2.2.2.1
  have e36 : upd (ms 0) 2 0 36 = ms 0 36 := pk_un (by omega)
  have hle := cnt_le (alv g.2.2.2.2.1) (P 0 0 * P 0 1)
  unfold wpC17 wpL_odds wpX10_odds
  refine ⟨hv.h1, hv.h2, ?_⟩
  generalize xs (l4 + (1 : Int32)).toNatClampNeg = x
  generalize xs (l4 + (2 : Int32)).toNatClampNeg = y
  refine c_needCell hF hGc.1 (fun c hc ec => ?_) (fun ec => ⟨rfl, hv.h1, hv.h2, ?_⟩)
  · subst ec
    have hmc : ∀ {post : Int32 → Prop}, post 1 → wpX11_isCell (ms 1) (nI c) post := fun h => m_isCell hF hGm.1 (fun _ _ _ => h) (fun z => absurd ⟨c, hc, rfl⟩ z)
    have good : (y = 0 ∨ y = 1) → ((¬ (cs 8 5) = 0 → wpX7_howManyIn (cs 8) (cs 47) (nI c) (fun r27 => ((¬ r27 = 0 → wpX10_commonDivisor ((cs 8) 6) r27 (fun r45 => (((1 : Int32) ≤ r45 → ((¬ y = 0 → wpX10_odds_J73 (cs 2) (cs 8) (cs 47) r45 ((cs 8) 6) (fun r => vp_in (l4 + (1 : Int32)) L ∧ vp_in (l4 + (2 : Int32)) L ∧ wpX11_odds (ms 0) (ms 1) (ms 16) (nI c) y (fun r2 w2_0 => wpX11_thrown w2_0 (fun r3 => r3 = (0 : Int32) ∧ ((¬ (0 : Int32) = 0 → kb cs (sct ms 0 w2_0)) ∧ ((0 : Int32) = 0 → r = r2 ∧ kb cs (sct ms 0 w2_0)))))) (fun E => E = exN ∧ (vp_in (l4 + (1 : Int32)) L ∧ vp_in (l4 + (2 : Int32)) L ∧ wpX11_odds (ms 0) (ms 1) (ms 16) (nI c) y (fun r2 w2_0 => wpX11_thrown w2_0 (fun r3 => r3 = (1 : Int32) ∧ ((¬ (1 : Int32) = 0 → kb cs (sct ms 0 w2_0)) ∧ ((1 : Int32) = 0 → ov = r2 ∧ kb cs (sct ms 0 w2_0)))))))) ∧ (y = 0 → wpX10_odds_J73 (cs 2) (cs 8) (cs 47) r45 r27 (fun r => vp_in (l4 + (1 : Int32)) L ∧ vp_in (l4 + (2 : Int32)) L ∧ wpX11_odds (ms 0) (ms 1) (ms 16) (nI c) y (fun r2 w2_0 => wpX11_thrown w2_0 (fun r3 => r3 = (0 : Int32) ∧ ((¬ (0 : Int32) = 0 → kb cs (sct ms 0 w2_0)) ∧ ((0 : Int32) = 0 → r = r2 ∧ kb cs (sct ms 0 w2_0)))))) (fun E => E = exN ∧ (vp_in (l4 + (1 : Int32)) L ∧ vp_in (l4 + (2 : Int32)) L ∧ wpX11_odds (ms 0) (ms 1) (ms 16) (nI c) y (fun r2 w2_0 => wpX11_thrown w2_0 (fun r3 => r3 = (1 : Int32) ∧ ((¬ (1 : Int32) = 0 → kb cs (sct ms 0 w2_0)) ∧ ((1 : Int32) = 0 → ov = r2 ∧ kb cs (sct ms 0 w2_0)))))))))) ∧ (¬ (1 : Int32) ≤ r45 → vp_in (l4 + (1 : Int32)) L ∧ vp_in (l4 + (2 : Int32)) L ∧ wpX11_odds (ms 0) (ms 1) (ms 16) (nI c) y (fun r2 w2_0 => wpX11_thrown w2_0 (fun r3 => r3 = (0 : Int32) ∧ ((¬ (0 : Int32) = 0 → kb cs (sct ms 0 w2_0)) ∧ ((0 : Int32) = 0 → (-1 : Int32) = r2 ∧ kb cs (sct ms 0 w2_0))))))))) ∧ (r27 = 0 → vp_in (l4 + (1 : Int32)) L ∧ vp_in (l4 + (2 : Int32)) L ∧ wpX11_odds (ms 0) (ms 1) (ms 16) (nI c) y (fun r2 w2_0 => wpX11_thrown w2_0 (fun r3 => r3 = (0 : Int32) ∧ ((¬ (0 : Int32) = 0 → kb cs (sct ms 0 w2_0)) ∧ ((0 : Int32) = 0 → y = r2 ∧ kb cs (sct ms 0 w2_0)))))))) ) ∧ ((cs 8 5) = 0 → vp_in (l4 + (1 : Int32)) L ∧ vp_in (l4 + (2 : Int32)) L ∧ wpX11_odds (ms 0) (ms 1) (ms 16) (nI c) y (fun r2 w2_0 => wpX11_thrown w2_0 (fun r3 => r3 = (0 : Int32) ∧ ((¬ (0 : Int32) = 0 → kb cs (sct ms 0 w2_0)) ∧ ((0 : Int32) = 0 → (-1 : Int32) = r2 ∧ kb cs (sct ms 0 w2_0))))))) := by
      intro hy
      have hy0 : ¬ y < 0 := by rcases hy with rfl | rfl <;> decide
      have hy1 : y ≤ 1 := by rcases hy with rfl | rfl <;> decide
      rw [hRc.2.1]
      cases op with
      | false =>
        refine ⟨fun z => absurd rfl z, fun _ => ⟨hv.h1, hv.h2, ?_⟩⟩
        unfold wpX11_odds
        rw [hRm.2.1]
        exact hmc ⟨fun z => absurd z (by decide), fun _ => ⟨fun z => absurd z hy0, fun _ => ⟨fun _ => ⟨fun z => absurd rfl z, fun _ => ro_ok hI2 hk _⟩, fun z => absurd hy1 z⟩⟩⟩
      | true =>
        have h36 : ms 0 36 = nI (P 0 0 * P 0 1) := hRm.2.1
        have hup := inC_le (cc := g.2.2.2.2.1) (c := c) (M := P 0 0 * P 0 1)
        -- the reference's part
        have mo : ∀ v : Int32, (∀ {post : Int32 → AR → Prop}, post v (upd (ms 0) 2 0) → ((¬ nI (cnt (alv g.2.2.2.2.1) (P 0 0 * P 0 1)) = 0 → wpX11_common (nI (cnt (alv g.2.2.2.2.1) (P 0 0 * P 0 1))) (nI (cnt (inC g.2.2.2.2.1 c) (P 0 0 * P 0 1))) (fun r62 => wpX11_odds_J65 (upd (ms 0) 2 0) (ms 1) (ms 16) y (nI (cnt (alv g.2.2.2.2.1) (P 0 0 * P 0 1))) (nI (cnt (inC g.2.2.2.2.1 c) (P 0 0 * P 0 1))) r62 post)) ∧ (nI (cnt (alv g.2.2.2.2.1) (P 0 0 * P 0 1)) = 0 → wpX11_odds_J65 (upd (ms 0) 2 0) (ms 1) (ms 16) y (nI (cnt (alv g.2.2.2.2.1) (P 0 0 * P 0 1))) (nI (cnt (inC g.2.2.2.2.1 c) (P 0 0 * P 0 1))) (1 : Int32) post))) → vp_in (l4 + (1 : Int32)) L ∧ vp_in (l4 + (2 : Int32)) L ∧ wpX11_odds (ms 0) (ms 1) (ms 16) (nI c) y (fun r2 w2_0 => wpX11_thrown w2_0 (fun r3 => r3 = (0 : Int32) ∧ ((¬ (0 : Int32) = 0 → kb cs (sct ms 0 w2_0)) ∧ ((0 : Int32) = 0 → v = r2 ∧ kb cs (sct ms 0 w2_0))))) := by
          intro v hvv
          refine ⟨hv.h1, hv.h2, ?_⟩
          unfold wpX11_odds
          rw [h36]
          refine hmc ⟨fun z => absurd z (by decide), fun _ => ⟨fun z => absurd z hy0, fun _ => ⟨fun _ => ⟨fun _ => ?_, fun z => absurd z (nI_nem (by omega))⟩, fun z => absurd hy1 z⟩⟩⟩
          refine m_casesN hF (cc := g.2.2.2.2.1) (e36.trans h36) (fun k hk => (hRm.2.2 rfl k hk).1) (fun k hk => (hok.2 k hk).1) ?_
          refine m_casesC hF (cc := g.2.2.2.2.1) hc (e36.trans h36) (fun k hk => (hRm.2.2 rfl k hk).1) (fun k hk => (hok.2 k hk).1) ?_
          exact hvv (ro_ok hI2 hk _)
        refine ⟨fun _ => c_howManyIn hF hRc.2 hok.2 hc ?_, fun z => absurd z (by decide)⟩
        rw [(hRc.2.2 rfl).1]
        generalize cnt (alv g.2.2.2.2.1) (P 0 0 * P 0 1) = A at hle hup mo ⊢
        generalize cnt (inC g.2.2.2.2.1 c) (P 0 0 * P 0 1) = U at hup mo ⊢
        refine ⟨fun e => ?_, fun e => mo y (fun hp => ?_)⟩
        · have eU : 0 < U := by
            rcases Nat.eq_zero_or_pos U with q | q
            · exact absurd (by rw [q]; rfl) e
            · exact q
          have hg1 : 0 < Nat.gcd A U := Nat.gcd_pos_of_pos_right A eU
          have hg2 : Nat.gcd A U ≤ U := Nat.gcd_le_right A eU
          refine c_gcd (by omega) (by omega) ?_
          have nz : ¬ nI (Nat.gcd A U) = (0 : Int32) := nI_ne0 (by omega) (by omega)
          have nzA : ¬ nI A = (0 : Int32) := nI_ne0 (by omega) (by omega)
          refine ⟨fun _ => ⟨fun y1 => ?_, fun y1 => ?_⟩, fun z => absurd (nI_le (a := 1) hg1 (by omega)) z⟩
          · unfold wpX10_odds_J73
            refine ⟨nz, mo _ (fun hp => ⟨fun _ => m_gcd (by omega) (by omega) ?_, fun z => absurd z nzA⟩)⟩
            unfold wpX11_odds_J65
            exact ⟨fun _ => ⟨fun _ => ⟨nz, hp⟩, fun z => absurd z nzA⟩, fun z => absurd z y1⟩
          · unfold wpX10_odds_J73
            refine ⟨nz, mo _ (fun hp => ⟨fun _ => m_gcd (by omega) (by omega) ?_, fun z => absurd z nzA⟩)⟩
            unfold wpX11_odds_J65
            exact ⟨fun z => absurd y1 z, fun _ => ⟨nz, hp⟩⟩
        · have eU : U = 0 := (nI_eq (b := 0) (by omega) (by omega)).mp e
          subst eU
          unfold wpX11_odds_J65
          refine ⟨fun z => m_gcd (by omega) (by omega) ?_, fun z => ?_⟩
          · have eA : 0 < A := by
              rcases Nat.eq_zero_or_pos A with q | q
              · exact absurd (by rw [q]; rfl) z
              · exact q
            rw [Nat.gcd_zero_right]
            refine ⟨fun y1 => ⟨fun _ => ⟨z, ?_⟩, fun q => absurd q z⟩, fun y1 => ⟨z, ?_⟩⟩
            · have ey : y = 1 := hy.resolve_left y1
              rw [pk_div (by omega) eA (by omega), Nat.div_self eA]
              rw [ey] at hp
              exact hp
            · rw [pk_div (by omega) eA (by omega), Nat.zero_div]
              rw [y1] at hp
              exact hp
          · refine ⟨fun y1 => ⟨fun q => absurd z q, fun _ => ?_⟩, fun y1 => ⟨by decide, ?_⟩⟩
            · have ey : y = 1 := hy.resolve_left y1
              rw [ey] at hp
              exact hp
            · rw [show nI 0 / (1 : Int32) = nI 0 from pk_div (a := 0) (d := 1) (by omega) (by omega) (by omega)]
              rw [y1] at hp
              exact hp
    unfold wpX10_needPart
    refine ⟨fun e => good (Or.inl e), fun e => ⟨fun e1 => good (Or.inr e1), fun e1 => ⟨rfl, hv.h1, hv.h2, ?_⟩⟩⟩
    unfold wpX11_odds wpX11_odds_J22 wpX11_fail
    refine hmc ⟨fun z => absurd z (by decide), fun _ => ⟨fun _ => ro_th hI2 hk _ _, fun z => ⟨fun q => ?_, fun _ => ro_th hI2 hk _ _⟩⟩⟩
    exfalso
    obtain ⟨m, hm, rfl, hm2⟩ := n_any y
    rcases hm2 with hm2 | hm2
    · have := (nI_leI (b := 1) hm2 (by omega)).mp q
      rcases (show m = 0 ∨ m = 1 by omega) with rfl | rfl
      · exact e rfl
      · exact e1 rfl
    · exact z hm2
  · unfold wpX11_odds wpX11_odds_J22 wpX11_fail
    exact m_isCell hF hGm.1 (fun c h1 h2 => absurd ⟨c, h1, h2⟩ ec) (fun _ => ⟨fun _ => ro_th hI2 hk _ _, fun z => absurd rfl z⟩)
