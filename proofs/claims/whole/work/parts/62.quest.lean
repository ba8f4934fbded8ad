/-! counting -/
theorem cnt_mono (p : Nat → Bool) {a b : Nat} (h : a ≤ b) : cnt p a ≤ cnt p b := by
  obtain ⟨k, rfl⟩ : ∃ k, b = a + k := ⟨b - a, by omega⟩
  clear h
  induction k with
  | zero => exact Nat.le_refl _
  | succ k ih =>
    rw [← Nat.add_assoc, cnt]
    omega
theorem cnt_lt (p : Nat → Bool) {a b : Nat} (h : a < b) (hp : p a = true) : cnt p a < cnt p b := by
  have h1 := cnt_mono p (show a + 1 ≤ b from h)
  rw [cnt, if_pos hp] at h1
  omega
theorem cnt_surj (p : Nat → Bool) : ∀ n i, i < cnt p n → ∃ k, k < n ∧ p k = true ∧ cnt p k = i := by
  intro n
  induction n with
  | zero => intro i hi; exact absurd hi (by simp [cnt])
  | succ n ih =>
    intro i hi
    rw [cnt] at hi
    by_cases e : p n = true
    · rw [if_pos e] at hi
      by_cases e2 : i = cnt p n
      · exact ⟨n, by omega, e, e2.symm⟩
      · obtain ⟨k, h1, h2, h3⟩ := ih i (by omega)
        exact ⟨k, by omega, h2, h3⟩
    · rw [if_neg e] at hi
      obtain ⟨k, h1, h2, h3⟩ := ih i (by omega)
      exact ⟨k, by omega, h2, h3⟩
theorem cnt_comp (p g : Nat → Bool) : ∀ n, cnt (fun k => p k && g (cnt p k)) n = cnt g (cnt p n) := by
  intro n
  induction n with
  | zero => rfl
  | succ n ih =>
    rw [cnt, ih]
    by_cases e : p n = true
    · rw [show cnt p (n + 1) = cnt p n + 1 by rw [cnt, if_pos e]]
      show _ + (if (p n && g (cnt p n)) = true then 1 else 0) = _
      rw [cnt, e, Bool.true_and]
    · rw [show cnt p (n + 1) = cnt p n by rw [cnt, if_neg e, Nat.add_zero], if_neg (by simp [e]), Nat.add_zero]
theorem cnt_congr {p q : Nat → Bool} : ∀ n, (∀ i, i < n → p i = q i) → cnt p n = cnt q n := by
  intro n
  induction n with
  | zero => intro _; rfl
  | succ n ih => intro h; rw [cnt, cnt, ih (fun i hi => h i (by omega)), h n (by omega)]
/-! the quest: cases by their first cells; cc k: 0 no more, else the cell and 1; ch k the heading -/
def alv (cc : Nat → Nat) : Nat → Bool := fun k => decide (cc k ≠ 0)
def QOK (P : FL) (cc ch : Nat → Nat) : Prop := ∀ k, k < P 0 0 * P 0 1 → cc k ≤ P 0 0 * P 0 1 ∧ ch k < 4
def QRepC (P : FL) (sQ qc qh : AR) (op : Bool) (cc ch : Nat → Nat) : Prop := sQ 5 = (if op = true then 1 else 0) ∧ (op = true → sQ 6 = nI (cnt (alv cc) (P 0 0 * P 0 1)) ∧ ∀ k, k < P 0 0 * P 0 1 → cc k ≠ 0 → qc (cnt (alv cc) k) = nI (cc k - 1) ∧ qh (cnt (alv cc) k) = nI (ch k))
def QRepM (P : FL) (sM mc mh : AR) (op : Bool) (cc ch : Nat → Nat) : Prop := sM 36 = (if op = true then nI (P 0 0 * P 0 1) else -1) ∧ (op = true → ∀ k, k < P 0 0 * P 0 1 → mc k = tI (cc k) ∧ mh k = nI (ch k))
/-- a case goes on by a set -/
def cGo (P : FL) (m : Nat) (cc ch : Nat → Nat) : Nat → Nat := fun k => if cc k = 0 then 0 else if atT P (pcC P (cc k - 1) (ch k) (nr P m (cc k - 1))) (nr P m (cc k - 1)) = true then 0 else pcC P (cc k - 1) (ch k) (nr P m (cc k - 1)) + 1
def hGo (P : FL) (m : Nat) (cc ch : Nat → Nat) : Nat → Nat := fun k => if cc k = 0 then ch k else pcH P (cc k - 1) (ch k) (nr P m (cc k - 1))
theorem QOK.go {P : FL} (hF : FlatOK P) {cc ch : Nat → Nat} (h : QOK P cc ch) (m : Nat) : QOK P (cGo P m cc ch) (hGo P m cc ch) := by
  intro k hk
  obtain ⟨h1, h2⟩ := h k hk
  unfold cGo hGo
  by_cases e : cc k = 0
  · rw [if_pos e, if_pos e]
    exact ⟨by omega, h2⟩
  · rw [if_neg e, if_neg e]
    refine ⟨?_, pcH_lt _ _ _ h2⟩
    split
    · omega
    · have := pcC_lt hF (show cc k - 1 < P 0 0 * P 0 1 by omega) (ch k) (nr P m (cc k - 1))
      omega
/-- what is kept of a list, moved together -/
theorem q_pack {cc c2 : Nat → Nat} {M : Nat} (hz : ∀ k, k < M → cc k = 0 → c2 k = 0) {g : Nat → Bool} (hg : ∀ k, k < M → cc k ≠ 0 → g (cnt (alv cc) k) = decide (c2 k ≠ 0)) : ∀ k, k ≤ M → cnt (alv c2) k = cnt g (cnt (alv cc) k) := by
  intro k hk
  rw [← cnt_comp]
  refine cnt_congr k (fun i hi => ?_)
  by_cases e : cc i = 0
  · unfold alv
    rw [decide_eq_false (fun z => z (hz i (by omega) e)), decide_eq_false (fun z => z e), Bool.false_and]
  · rw [hg i (by omega) e]
    unfold alv
    rw [decide_eq_true e, Bool.true_and]
theorem c_goOn {P : FL} {sQ qc qh hA E ov ak nx wy gl : AR} (hF : FlatOK P) (hE : EarsOK P hA E ov ak) (hW' : FeetOK P nx wy gl) {m : Nat} (hm : m < 2 ^ P 0 2) {op : Bool} {cc ch : Nat → Nat} (hq : QRepC P sQ qc qh op cc ch) (hok : QOK P cc ch) {post : AR → AR → AR → Prop} (hk : ∀ sQ' qc' qh', QRepC P sQ' qc' qh' op (cGo P m cc ch) (hGo P m cc ch) → post sQ' qc' qh') : wpX7_goOn sQ qc qh E nx wy gl (nI m) post := by
  have fc := hF.cells
  obtain ⟨h5, h6⟩ := hq
  unfold wpX7_goOn
  rw [h5]
  cases op with
  | false =>
    refine ⟨fun z => absurd rfl z, fun _ => hk _ _ _ ⟨h5, fun z => absurd z (by decide)⟩⟩
  | true =>
    refine ⟨fun _ => ?_, fun z => absurd z (by decide)⟩
    obtain ⟨h6, h7⟩ := h6 rfl
    have hNle := cnt_le (alv cc) (P 0 0 * P 0 1)
    -- the i-th of the list
    have hl : ∀ i, i < cnt (alv cc) (P 0 0 * P 0 1) → ∃ c h, c < P 0 0 * P 0 1 ∧ h < 4 ∧ qc i = nI c ∧ qh i = nI h ∧ ∀ k, k < P 0 0 * P 0 1 → cc k ≠ 0 → cnt (alv cc) k = i → cc k = c + 1 ∧ ch k = h := by
      intro i hi
      obtain ⟨k, k1, k2, k3⟩ := cnt_surj (alv cc) _ i hi
      have k4 : cc k ≠ 0 := of_decide_eq_true k2
      obtain ⟨o1, o2⟩ := hok k k1
      have hv := h7 k k1 k4
      rw [k3] at hv
      refine ⟨cc k - 1, ch k, by omega, o2, hv.1, hv.2, fun k' l1 l2 l3 => ?_⟩
      have : k' = k := by
        rcases Nat.lt_trichotomy k' k with h | h | h
        · have := cnt_lt (alv cc) h (decide_eq_true l2); omega
        · exact h
        · have := cnt_lt (alv cc) h k2; omega
      subst this
      exact ⟨by omega, rfl⟩
    -- who stays
    have hg : ∃ g : Nat → Bool, ∀ i, i < cnt (alv cc) (P 0 0 * P 0 1) → ∀ c h, qc i = nI c → qh i = nI h → c < P 0 0 * P 0 1 → h < 4 → g i = !(atT P (pcC P c h (nr P m c)) (nr P m c)) := by
      refine ⟨fun i => !(atT P (pcC P (qc i).toNatClampNeg (qh i).toNatClampNeg (nr P m (qc i).toNatClampNeg)) (nr P m (qc i).toNatClampNeg)), fun i hi c h e1 e2 e3 e4 => ?_⟩
      show (!(atT P (pcC P (qc i).toNatClampNeg (qh i).toNatClampNeg (nr P m (qc i).toNatClampNeg)) (nr P m (qc i).toNatClampNeg))) = _
      rw [e1, e2, nI_clamp (by omega), nI_clamp (by omega)]
    obtain ⟨g, hg⟩ := hg
    have hpk : ∀ k, k ≤ P 0 0 * P 0 1 → cnt (alv (cGo P m cc ch)) k = cnt g (cnt (alv cc) k) := by
      refine q_pack (fun k hk e => by unfold cGo; rw [if_pos e]) (fun k hk e => ?_)
      have hi := cnt_lt (alv cc) hk (decide_eq_true e)
      obtain ⟨c, h, e1, e2, e3, e4, e5⟩ := hl _ hi
      rw [hg _ hi c h e3 e4 e1 e2]
      obtain ⟨e6, e7⟩ := e5 k hk e rfl
      unfold cGo
      rw [if_neg e, e6, e7, show c + 1 - 1 = c by omega]
      by_cases e8 : atT P (pcC P c h (nr P m c)) (nr P m c) = true
      · rw [if_pos e8, e8]; rfl
      · rw [if_neg e8, decide_eq_true (by omega)]
        simpa using e8
    refine loop_0 (fun n i (q : AR × AR × Int32) => wpX7_goOn_L12 sQ E nx wy gl (nI m) _ post n q.1 q.2.1 q.2.2 (nI i)) (fun i q => q.2.2 = nI (cnt g i) ∧ (∀ j, i ≤ j → q.1 j = qc j ∧ q.2.1 j = qh j) ∧ ∀ j, j < i → g j = true → ∃ c h, qc j = nI c ∧ qh j = nI h ∧ c < P 0 0 * P 0 1 ∧ h < 4 ∧ q.1 (cnt g j) = nI (pcC P c h (nr P m c)) ∧ q.2.1 (cnt g j) = nI (pcH P c h (nr P m c))) (cnt (alv cc) (P 0 0 * P 0 1)) (qc, qh, nI 0) ⟨rfl, fun _ _ => ⟨rfl, rfl⟩, fun j hj => by omega⟩ ?_ ?_
    · intro n q hI
      show wpX7_goOn_L12 sQ E nx wy gl (nI m) _ post (n + 1) q.1 q.2.1 q.2.2 (nI (cnt (alv cc) (P 0 0 * P 0 1)))
      unfold wpX7_goOn_L12
      rw [h6]
      refine ⟨fun _ => hk _ _ _ ⟨?_, fun _ => ⟨?_, fun k hk e => ?_⟩⟩, fun z => absurd (nI_le (Nat.le_refl _) (by omega)) z⟩
      · rw [pk_un (by omega)]; exact h5
      · rw [pk_us, hI.1, hpk _ (Nat.le_refl _)]
      · have e0 : cc k ≠ 0 := fun z => e (by unfold cGo; rw [if_pos z])
        have hi := cnt_lt (alv cc) hk (decide_eq_true e0)
        obtain ⟨c, h, e1, e2, e3, e4, e5⟩ := hl _ hi
        obtain ⟨e6, e7⟩ := e5 k hk e0 rfl
        have e9 : cGo P m cc ch k = pcC P c h (nr P m c) + 1 ∧ hGo P m cc ch k = pcH P c h (nr P m c) ∧ atT P (pcC P c h (nr P m c)) (nr P m c) = false := by
          have ecg : cGo P m cc ch k = if atT P (pcC P c h (nr P m c)) (nr P m c) = true then 0 else pcC P c h (nr P m c) + 1 := by
            unfold cGo; rw [if_neg e0, e6, e7]; rfl
          have ehg : hGo P m cc ch k = pcH P c h (nr P m c) := by
            unfold hGo; rw [if_neg e0, e6, e7]; rfl
          by_cases e8 : atT P (pcC P c h (nr P m c)) (nr P m c) = true
          · rw [ecg, if_pos e8] at e; exact absurd rfl e
          · rw [ecg, ehg, if_neg e8]; exact ⟨rfl, rfl, by simpa using e8⟩
        have eg : g (cnt (alv cc) k) = true := by rw [hg _ hi c h e3 e4 e1 e2, e9.2.2]; rfl
        obtain ⟨c', h', d1, d2, d3, d4, d5, d6⟩ := hI.2.2 _ hi eg
        have ec : c' = c := (nI_eq (by omega) (by omega)).mp (d1.symm.trans e3)
        have eh : h' = h := (nI_eq (by omega) (by omega)).mp (d2.symm.trans e4)
        subst ec eh
        rw [hpk k (by omega), e9.1, e9.2.1]
        exact ⟨d5, d6⟩
    · intro n i q hi hI hnext
      show wpX7_goOn_L12 sQ E nx wy gl (nI m) _ post (n + 1) q.1 q.2.1 q.2.2 (nI i)
      unfold wpX7_goOn_L12
      obtain ⟨c, h, e1, e2, e3, e4, -⟩ := hl i hi
      have hci := cnt_le g i
      have eg := hg i hi c h e3 e4 e1 e2
      rw [h6, hI.1, nI_clamp (by omega), (hI.2.1 i (Nat.le_refl _)).1, (hI.2.1 i (Nat.le_refl _)).2, e3, e4, nI_clamp (by omega)]
      have vi : vp_in (nI i) 100 := vp_in_nI (by omega) (by omega)
      have vc : vp_in (nI (cnt g i)) 100 := vp_in_nI (by omega) (by omega)
      have hcl := pcC_lt hF e1 h (nr P m c)
      have hhl := pcH_lt P c (nr P m c) e2
      refine ⟨fun z => absurd z (nI_ge hi (by omega)), fun _ => ⟨vi, c_nearestOf hF hE hm e1 ⟨vi, vi, c_pace hF hW' e1 e2 (nr_le _ _ _) (c_cellOf (by omega) hhl (c_isAt hF hW' hcl (nr_le _ _ _) ?_))⟩⟩⟩
      by_cases e8 : atT P (pcC P c h (nr P m c)) (nr P m c) = true
      · rw [if_pos e8]
        rw [e8] at eg
        refine ⟨fun _ => nm_r (nI_1 i) (hnext (q.1, q.2.1, nI (cnt g i)) ⟨?_, fun j hj => hI.2.1 j (by omega), fun j hj hgj => ?_⟩), fun z => absurd z (by decide)⟩
        · show nI (cnt g i) = nI (cnt g (i + 1))
          rw [cnt, eg]; rfl
        · refine hI.2.2 j ?_ hgj
          have : j ≠ i := fun z => by subst z; rw [eg] at hgj; exact absurd hgj (by decide)
          omega
      · rw [if_neg e8]
        have eg1 : g i = true := by rw [eg]; simpa using e8
        refine ⟨fun z => absurd rfl z, fun _ => c_cellOf (by omega) hhl ⟨vc, nm_e (c_headingOf (by omega) hhl ⟨vc, nm_e (nm_e (nm_r (nI_1 i) (hnext (_, _, _) ⟨?_, fun j hj => ⟨?_, ?_⟩, fun j hj hgj => ?_⟩)))⟩)⟩⟩
        · show nI (cnt g i) + 1 = nI (cnt g (i + 1))
          rw [cnt, if_pos eg1]; exact nI_1 _
        · show upd q.1 _ _ j = _
          rw [pk_un (by omega)]; exact (hI.2.1 j (by omega)).1
        · show upd q.2.1 _ _ j = _
          rw [pk_un (by omega)]; exact (hI.2.1 j (by omega)).2
        · by_cases ej : j = i
          · subst ej
            refine ⟨c, h, e3, e4, e1, e2, ?_, ?_⟩
            · show upd q.1 _ _ _ = _
              rw [pk_us]
            · show upd q.2.1 _ _ _ = _
              rw [pk_us]
          · obtain ⟨c', h', d1, d2, d3, d4, d5, d6⟩ := hI.2.2 j (by omega) hgj
            have := cnt_lt g (show j < i by omega) hgj
            refine ⟨c', h', d1, d2, d3, d4, ?_, ?_⟩
            · show upd q.1 _ _ _ = _
              rw [pk_un (by omega)]; exact d5
            · show upd q.2.1 _ _ _ = _
              rw [pk_un (by omega)]; exact d6
theorem m_searchOn {P : FL} {s tc rg vc fl kd mi mc mh sM : AR} (hF : FlatOK P) (hG : GRep P s tc rg vc fl kd mi) {m : Nat} (hm : m < 2 ^ P 0 2) {op : Bool} {cc ch : Nat → Nat} (hq : QRepM P sM mc mh op cc ch) (hok : QOK P cc ch) {post : AR → AR → AR → Prop} (hk : ∀ sM' mc' mh', QRepM P sM' mc' mh' op (cGo P m cc ch) (hGo P m cc ch) → (∀ j, j ≠ 24 → j ≠ 25 → sM' j = sM j) → post sM' mc' mh') : wpX11_searchOn sM s tc rg vc fl mi mc mh (nI m) post := by
  have fc := hF.cells
  have h32 := p2_le hF.1.2.2.2.2.1
  obtain ⟨hs, htc, hrg, hvc, hfl, hkd, hmi⟩ := hG
  obtain ⟨h36, h7⟩ := hq
  unfold wpX11_searchOn
  cases op with
  | false =>
    refine ⟨1, ?_⟩
    unfold wpX11_searchOn_L2
    rw [h36]
    refine ⟨fun _ => hk _ _ _ ⟨h36, fun z => absurd z (by decide)⟩ (fun _ _ _ => rfl), fun z => absurd (show (-1 : Int32) ≤ 0 by decide) z⟩
  | true =>
    have h7 := h7 rfl
    have h36 : sM 36 = nI (P 0 0 * P 0 1) := h36
    refine loop_0 (fun n i (q : AR × AR × AR) => wpX11_searchOn_L2 s tc rg vc fl mi (nI m) _ post n q.1 q.2.1 q.2.2 (nI i)) (fun i q => (∀ j, j ≠ 24 → j ≠ 25 → q.1 j = sM j) ∧ (∀ k, k < i → q.2.1 k = tI (cGo P m cc ch k) ∧ q.2.2 k = nI (hGo P m cc ch k)) ∧ ∀ k, i ≤ k → q.2.1 k = mc k ∧ q.2.2 k = mh k) (P 0 0 * P 0 1) (sM, mc, mh) ⟨fun _ _ _ => rfl, fun k hk => by omega, fun _ _ => ⟨rfl, rfl⟩⟩ ?_ ?_
    · intro n q hI
      show wpX11_searchOn_L2 s tc rg vc fl mi (nI m) _ post (n + 1) q.1 q.2.1 q.2.2 (nI (P 0 0 * P 0 1))
      unfold wpX11_searchOn_L2
      rw [hI.1 36 (by omega) (by omega), h36]
      exact ⟨fun _ => hk _ _ _ ⟨by rw [hI.1 36 (by omega) (by omega)]; exact h36, fun _ => hI.2.1⟩ hI.1, fun z => absurd (nI_le (Nat.le_refl _) (by omega)) z⟩
    · intro n i q hi hI hnext
      show wpX11_searchOn_L2 s tc rg vc fl mi (nI m) _ post (n + 1) q.1 q.2.1 q.2.2 (nI i)
      obtain ⟨o1, o2⟩ := hok i hi
      have hv := h7 i hi
      have hv2 := hI.2.2 i (Nat.le_refl _)
      have vi : vp_in (nI i) 100 := vp_in_nI (by omega) (by omega)
      unfold wpX11_searchOn_L2
      rw [hI.1 36 (by omega) (by omega), h36, nI_clamp (by omega), hv2.1, hv2.2, hv.1, hv.2, show (-1 : Int32) = -nI 1 from rfl, tI_none (by omega)]
      refine ⟨fun z => absurd z (nI_ge hi (by omega)), fun _ => ⟨vi, fun e => ⟨vi, nm_e ⟨vi, nm_e ?_⟩⟩, fun e => nm_r (nI_1 i) (hnext q ⟨hI.1, fun k hk => ?_, fun k hk => hI.2.2 k (by omega)⟩)⟩⟩
      · obtain ⟨c, hc⟩ : ∃ c, cc i = c + 1 := ⟨cc i - 1, by omega⟩
        have hcl : c < P 0 0 * P 0 1 := by omega
        rw [hc, show tI (c + 1) = nI c from rfl]
        refine m_heardOf hF hs htc hrg (by omega) hcl (m_near0 hF hs htc hvc hcl ?_)
        refine m_follow hF hs htc hfl hmi hcl o2 (nr_le _ _ _) (by rw [pk_un (by omega), pk_us]) (by rw [pk_us]) (fun s' q1 q2 q3 => ?_)
        have ecg : cGo P m cc ch i = if atT P (pcC P c (ch i) (nr P m c)) (nr P m c) = true then 0 else pcC P c (ch i) (nr P m c) + 1 := by
          unfold cGo; rw [if_neg e, hc]; rfl
        have ehg : hGo P m cc ch i = pcH P c (ch i) (nr P m c) := by
          unfold hGo; rw [if_neg e, hc]; rfl
        have fr : ∀ j, j ≠ 24 → j ≠ 25 → s' j = sM j := fun j ja jb => by rw [q3 j ja jb, pk_un jb, pk_un ja]; exact hI.1 j ja jb
        have fin : ∀ v : Int32, v = tI (cGo P m cc ch i) → wpX11_searchOn_J83 s' s tc rg vc fl mi q.2.1 q.2.2 (nI m) (nI i) (nI i) v (fun b0 b1 b2 b3 => wpX11_searchOn_L2 s tc rg vc fl mi (nI m) (fun sM_100 M_caseCell_100 M_caseHeading_100 l2_100 => post sM_100 M_caseCell_100 M_caseHeading_100) post n b0 b1 b2 b3) (fun sM_100 M_caseCell_100 M_caseHeading_100 l2_100 => post sM_100 M_caseCell_100 M_caseHeading_100) post := by
          intro v hv'
          subst hv'
          unfold wpX11_searchOn_J83
          rw [nI_clamp (by omega), q2]
          refine ⟨vi, nm_e ⟨vi, nm_e (nm_r (nI_1 i) (hnext (s', _, _) ⟨fr, fun k hk => ?_, fun k hk => ⟨?_, ?_⟩⟩))⟩⟩
          · by_cases ek : k = i
            · subst ek
              refine ⟨?_, ?_⟩
              · show upd q.2.1 _ _ _ = _
                rw [pk_us]
              · show upd q.2.2 _ _ _ = _
                rw [pk_us, ehg]
            · refine ⟨?_, ?_⟩
              · show upd q.2.1 _ _ _ = _
                rw [pk_un ek]; exact (hI.2.1 k (by omega)).1
              · show upd q.2.2 _ _ _ = _
                rw [pk_un ek]; exact (hI.2.1 k (by omega)).2
          · show upd q.2.1 _ _ _ = _
            rw [pk_un (by omega)]; exact (hI.2.2 k (by omega)).1
          · show upd q.2.2 _ _ _ = _
            rw [pk_un (by omega)]; exact (hI.2.2 k (by omega)).2
        have hwl := hwE_le P (pcC P c (ch i) (nr P m c)) (nr P m c)
        have heq : hwE P (pcC P c (ch i) (nr P m c)) (nr P m c) = 0 ↔ ¬ atT P (pcC P c (ch i) (nr P m c)) (nr P m c) = true := by
          unfold hwE
          by_cases e8 : atT P (pcC P c (ch i) (nr P m c)) (nr P m c) = true
          · rw [if_pos e8]
            constructor
            · intro z; split at z <;> omega
            · intro z; exact absurd e8 z
          · rw [if_neg e8]
            exact ⟨fun _ => e8, fun _ => rfl⟩
        refine ⟨fun z => fin _ ?_, fun z => fin _ ?_⟩
        · have z1 : ¬ hwE P (pcC P c (ch i) (nr P m c)) (nr P m c) = 0 := fun w => z (by rw [w]; rfl)
          rw [ecg, if_pos (Classical.byContradiction (fun w => z1 (heq.mpr w)))]
          rfl
        · have z1 := heq.mp ((nI_eq (b := 0) (by omega) (by omega)).mp z)
          rw [ecg, if_neg z1, q1]
          rfl
      · by_cases ek : k = i
        · subst ek
          rw [hv2.1, hv2.2, hv.1, hv.2]
          unfold cGo hGo
          rw [if_pos e, if_pos e, e]
          exact ⟨rfl, rfl⟩
        · exact hI.2.1 k (by omega)
