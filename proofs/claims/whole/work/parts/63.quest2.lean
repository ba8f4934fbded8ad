/-! ints out of and in a range -/
theorem n_ltz {c b : Nat} (hc : c < b) (hb : b < 2 ^ 31) : (nI c < 0) = False := by
  rw [show (0 : Int32) = nI 0 from rfl]
  refine eq_false (fun z => ?_)
  have := (nI_ltI (by omega) (by omega)).mp z
  omega
/-- what a test of a range says: in it, or not -/
theorem n_range {x : Int32} {b : Nat} (hb : b < 2 ^ 31) {A B : Prop} (h1 : ∀ c, c < b → x = nI c → A) (h0 : (¬ ∃ c, c < b ∧ x = nI c) → B) : (x < 0 → B) ∧ (¬ x < 0 → (x < nI b → A) ∧ (¬ x < nI b → B)) := by
  obtain ⟨m, hm, rfl, hm2⟩ := n_any x
  by_cases e : m < b
  · rw [n_ltz e hb]
    refine ⟨fun z => z.elim, fun _ => ⟨fun _ => h1 m e rfl, fun z => absurd ((nI_ltI (by omega) hb).mpr e) z⟩⟩
  · have hz : ¬ ∃ c, c < b ∧ nI m = nI c := by
      rintro ⟨c, hc, hc2⟩
      have := nI_inj32 hm (by omega) hc2
      omega
    refine ⟨fun _ => h0 hz, fun q => ⟨fun z => ?_, fun _ => h0 hz⟩⟩
    rcases hm2 with hm2 | hm2
    · exact absurd ((nI_ltI hm2 hb).mp z) e
    · exact absurd hm2 q
theorem m_range {x : Int32} {b : Nat} (hb : b < 2 ^ 31) {post : Int32 → Prop} (h1 : ∀ c, c < b → x = nI c → post (1 : Int32)) (h0 : (¬ ∃ c, c < b ∧ x = nI c) → post (0 : Int32)) : wpX11_isIn x (0 : Int32) (nI b - (1 : Int32)) post := by
  obtain ⟨m, hm, rfl, hm2⟩ := n_any x
  by_cases e : m < b
  · exact m_in1 e hb (h1 m e rfl)
  · have hz : ¬ ∃ c, c < b ∧ nI m = nI c := by
      rintro ⟨c, hc, hc2⟩
      have := nI_inj32 hm (by omega) hc2
      omega
    rcases hm2 with hm2 | hm2
    · exact m_in0 (by omega) hm2 (h0 hz)
    · unfold wpX11_isIn
      exact ⟨fun _ => h0 hz, fun q => absurd hm2 q⟩
theorem nrw1 : narrow .boolean (.int (1 : Int32)) = .int (1 : Int32) := (n_bool 1 (by decide)).2
theorem nrw0 : narrow .boolean (.int (0 : Int32)) = .int (0 : Int32) := (n_bool 0 (by decide)).2
theorem m_isCell {P : FL} {s : AR} (hF : FlatOK P) (hs : ∀ k, k < 7 → s k = nI (P 0 k)) {x : Int32} {post : Int32 → Prop} (h1 : ∀ c, c < P 0 0 * P 0 1 → x = nI c → post (1 : Int32)) (h0 : (¬ ∃ c, c < P 0 0 * P 0 1 ∧ x = nI c) → post (0 : Int32)) : wpX11_isCell s x post := by
  have fc := hF.cells
  unfold wpX11_isCell wpX11_cells
  rw [hs 0 (by omega), hs 1 (by omega), pk_mul]
  exact m_range (by omega) (fun c h e => ⟨nrw1, h1 c h e⟩) (fun h => ⟨nrw0, h0 h⟩)
theorem m_isTower {P : FL} {s : AR} (hF : FlatOK P) (hs : ∀ k, k < 7 → s k = nI (P 0 k)) {x : Int32} {post : Int32 → Prop} (h1 : ∀ c, c < P 0 2 → x = nI c → post (1 : Int32)) (h0 : (¬ ∃ c, c < P 0 2 ∧ x = nI c) → post (0 : Int32)) : wpX11_isTower s x post := by
  have f5 := hF.1.2.2.2.2.1
  unfold wpX11_isTower
  rw [hs 2 (by omega)]
  exact m_range (by omega) (fun c h e => ⟨nrw1, h1 c h e⟩) (fun h => ⟨nrw0, h0 h⟩)
theorem m_isWalker {P : FL} {s : AR} (hF : FlatOK P) (hs : ∀ k, k < 7 → s k = nI (P 0 k)) {x : Int32} {post : Int32 → Prop} (h1 : ∀ c, c < P 0 3 → x = nI c → post (1 : Int32)) (h0 : (¬ ∃ c, c < P 0 3 ∧ x = nI c) → post (0 : Int32)) : wpX11_isWalker s x post := by
  have f6 := hF.1.2.2.2.2.2.1
  unfold wpX11_isWalker
  rw [hs 3 (by omega)]
  exact m_range (by omega) (fun c h e => ⟨nrw1, h1 c h e⟩) (fun h => ⟨nrw0, h0 h⟩)
theorem c_needCell {P : FL} {s : AR} (hF : FlatOK P) (hs : ∀ k, k < 7 → s k = nI (P 0 k)) {x : Int32} {post : Prop} {postX : String → Prop} (h1 : ∀ c, c < P 0 0 * P 0 1 → x = nI c → post) (h0 : (¬ ∃ c, c < P 0 0 * P 0 1 ∧ x = nI c) → postX exN) : wpX10_needCell s x post postX := by
  have fc := hF.cells
  unfold wpX10_needCell wpX10_needCell_J15
  have h := n_range (x := x) (b := P 0 0 * P 0 1) (by omega) h1 h0
  exact ⟨h.1, fun z => c_cells hs (h.2 z)⟩
theorem c_needTower {P : FL} {s : AR} (hF : FlatOK P) (hs : ∀ k, k < 7 → s k = nI (P 0 k)) {x : Int32} {post : Prop} {postX : String → Prop} (h1 : ∀ c, c < P 0 2 → x = nI c → post) (h0 : (¬ ∃ c, c < P 0 2 ∧ x = nI c) → postX exN) : wpX10_needTower s x post postX := by
  have f5 := hF.1.2.2.2.2.1
  unfold wpX10_needTower wpX10_needTower_J15
  rw [hs 2 (by omega)]
  exact n_range (by omega) h1 h0
theorem c_needWalker {P : FL} {s : AR} (hF : FlatOK P) (hs : ∀ k, k < 7 → s k = nI (P 0 k)) {x : Int32} {post : Prop} {postX : String → Prop} (h1 : ∀ c, c < P 0 3 → x = nI c → post) (h0 : (¬ ∃ c, c < P 0 3 ∧ x = nI c) → postX exN) : wpX10_needWalker s x post postX := by
  have f6 := hF.1.2.2.2.2.2.1
  unfold wpX10_needWalker wpX10_needWalker_J15
  rw [hs 3 (by omega)]
  exact n_range (by omega) h1 h0
/-! the quest's beginning -/
def cc0 : Nat → Nat := fun k => k + 1
theorem cnt_all (p : Nat → Bool) (h : ∀ k, p k = true) : ∀ n, cnt p n = n := by
  intro n
  induction n with
  | zero => rfl
  | succ n ih => rw [cnt, ih, if_pos (h n)]
theorem alv0 (n : Nat) : cnt (alv cc0) n = n := cnt_all _ (fun k => decide_eq_true (by unfold cc0; omega)) n
theorem QOK0 (P : FL) : QOK P cc0 (fun _ => 0) := fun k hk => ⟨by unfold cc0; omega, Nat.zero_lt_succ 3⟩
theorem c_qbegin {P : FL} {sQ sG qc qh : AR} (hF : FlatOK P) (hs : ∀ k, k < 7 → sG k = nI (P 0 k)) {post : AR → AR → AR → Prop} (hk : ∀ sQ' qc' qh', QRepC P sQ' qc' qh' true cc0 (fun _ => 0) → sQ' 6 = nI (P 0 0 * P 0 1) → post sQ' qc' qh') : wpX7_begin sQ sG qc qh post := by
  have fc := hF.cells
  unfold wpX7_begin
  refine c_cells hs (nm_r (e' := nI (P 0 0 * P 0 1)) ?_ ?_)
  · rw [show jmin (nI (P 0 0 * P 0 1)) (100 : Int32) = nI (min (P 0 0 * P 0 1) 100) from n_jmin (b := 100) (by omega) (by omega), Nat.min_eq_left fc]
  · have e6 : upd (upd sQ 5 (1 : Int32)) 6 (nI (P 0 0 * P 0 1)) 6 = nI (P 0 0 * P 0 1) := by rw [pk_us]
    refine loop_0 (fun n i (q : AR × AR) => wpX7_begin_L23 (upd (upd sQ 5 (1 : Int32)) 6 (nI (P 0 0 * P 0 1))) sG _ post n q.1 q.2 (nI i)) (fun i q => ∀ k, k < i → q.1 k = nI k ∧ q.2 k = nI 0) (P 0 0 * P 0 1) (qc, qh) (fun k hk => by omega) ?_ ?_
    · intro n q hI
      show wpX7_begin_L23 (upd (upd sQ 5 (1 : Int32)) 6 (nI (P 0 0 * P 0 1))) sG _ post (n + 1) q.1 q.2 (nI (P 0 0 * P 0 1))
      unfold wpX7_begin_L23
      rw [e6]
      refine ⟨fun _ => hk _ _ _ ⟨?_, fun _ => ⟨?_, fun k hk _ => ?_⟩⟩ e6, fun z => absurd (nI_le (Nat.le_refl _) (by omega)) z⟩
      · rw [pk_un (by omega), pk_us]; rfl
      · rw [e6, alv0]
      · rw [alv0]; exact hI k hk
    · intro n i q hi hI hnext
      show wpX7_begin_L23 (upd (upd sQ 5 (1 : Int32)) 6 (nI (P 0 0 * P 0 1))) sG _ post (n + 1) q.1 q.2 (nI i)
      unfold wpX7_begin_L23
      rw [e6, nI_clamp (by omega)]
      have vi : vp_in (nI i) 100 := vp_in_nI (by omega) (by omega)
      refine ⟨fun z => absurd z (nI_ge hi (by omega)), fun _ => ⟨vi, nm_e ⟨vi, nm_e (nm_r (nI_1 i) (hnext (_, _) (fun k hk => ?_)))⟩⟩⟩
      by_cases e : k = i
      · subst e
        exact ⟨by show upd q.1 _ _ _ = _; rw [pk_us], by show upd q.2 _ _ _ = _; rw [pk_us]; rfl⟩
      · exact ⟨by show upd q.1 _ _ _ = _; rw [pk_un e]; exact (hI k (by omega)).1, by show upd q.2 _ _ _ = _; rw [pk_un e]; exact (hI k (by omega)).2⟩
theorem m_search {P : FL} {sM s mc mh : AR} (hF : FlatOK P) (hs : ∀ k, k < 7 → s k = nI (P 0 k)) {post : Int32 → AR → AR → AR → Prop} (hk : ∀ sM' mc' mh', QRepM P sM' mc' mh' true cc0 (fun _ => 0) → sM' 2 = 0 → (∀ j, j ≠ 2 → j ≠ 36 → sM' j = sM j) → post (nI (P 0 0 * P 0 1)) sM' mc' mh') : wpX11_search sM s mc mh post := by
  have fc := hF.cells
  unfold wpX11_search wpX11_cells
  rw [hs 0 (by omega), hs 1 (by omega), pk_mul]
  have e6 : upd (upd sM 2 (0 : Int32)) 36 (nI (P 0 0 * P 0 1)) 36 = nI (P 0 0 * P 0 1) := by rw [pk_us]
  refine loop_0 (fun n i (q : AR × AR) => wpX11_search_L15 (upd (upd sM 2 (0 : Int32)) 36 (nI (P 0 0 * P 0 1))) s _ post n q.1 q.2 (nI i)) (fun i q => ∀ k, k < i → q.1 k = nI k ∧ q.2 k = nI 0) (P 0 0 * P 0 1) (mc, mh) (fun k hk => by omega) ?_ ?_
  · intro n q hI
    show wpX11_search_L15 (upd (upd sM 2 (0 : Int32)) 36 (nI (P 0 0 * P 0 1))) s _ post (n + 1) q.1 q.2 (nI (P 0 0 * P 0 1))
    unfold wpX11_search_L15
    rw [e6]
    refine ⟨fun _ => hk _ _ _ ⟨?_, fun _ k hk => hI k hk⟩ ?_ (fun j ja jb => by rw [pk_un jb, pk_un ja]), fun z => absurd (nI_le (Nat.le_refl _) (by omega)) z⟩
    · rw [e6]; rfl
    · rw [pk_un (by omega), pk_us]
  · intro n i q hi hI hnext
    show wpX11_search_L15 (upd (upd sM 2 (0 : Int32)) 36 (nI (P 0 0 * P 0 1))) s _ post (n + 1) q.1 q.2 (nI i)
    unfold wpX11_search_L15
    rw [e6, nI_clamp (by omega)]
    have vi : vp_in (nI i) 100 := vp_in_nI (by omega) (by omega)
    refine ⟨fun z => absurd z (nI_ge hi (by omega)), fun _ => ⟨vi, nm_e ⟨vi, nm_e (nm_r (nI_1 i) (hnext (_, _) (fun k hk => ?_)))⟩⟩⟩
    by_cases e : k = i
    · subst e
      exact ⟨by show upd q.1 _ _ _ = _; rw [pk_us], by show upd q.2 _ _ _ = _; rw [pk_us]; rfl⟩
    · exact ⟨by show upd q.1 _ _ _ = _; rw [pk_un e]; exact (hI k (by omega)).1, by show upd q.2 _ _ _ = _; rw [pk_un e]; exact (hI k (by omega)).2⟩
/-! what was seen -/
def lnO (P : FL) (x2 : Int32) (c : Nat) : Nat := if x2 = 0 then c % P 0 0 else c / P 0 0
def isL (P : FL) (x1 x2 x3 : Int32) (c : Nat) : Bool := decide ((if nI (lnO P x2 c) = x1 then (1 : Int32) else 0) = x3)
def cSeen (P : FL) (x1 x2 x3 : Int32) (cc : Nat → Nat) : Nat → Nat := fun k => if cc k = 0 then 0 else if isL P x1 x2 x3 (cc k - 1) = true then 0 else cc k
theorem QOK.seen {P : FL} {cc ch : Nat → Nat} (h : QOK P cc ch) (x1 x2 x3 : Int32) : QOK P (cSeen P x1 x2 x3 cc) ch := by
  intro k hk
  obtain ⟨h1, h2⟩ := h k hk
  refine ⟨?_, h2⟩
  unfold cSeen
  split
  · omega
  · split <;> omega
theorem c_keepThose {P : FL} {sQ sG qc qh : AR} (hF : FlatOK P) (hs : ∀ k, k < 7 → sG k = nI (P 0 k)) {x1 x2 x3 : Int32} {cc ch : Nat → Nat} (hq : QRepC P sQ qc qh true cc ch) (hok : QOK P cc ch) {post : AR → AR → AR → Prop} (hk : ∀ sQ' qc' qh', QRepC P sQ' qc' qh' true (cSeen P x1 x2 x3 cc) ch → sQ' 6 = nI (cnt (alv (cSeen P x1 x2 x3 cc)) (P 0 0 * P 0 1)) → post sQ' qc' qh') : wpX7_keepThose sQ sG qc qh x1 x2 x3 post := by
  have fc := hF.cells
  have f1 := hF.1.1
  have f2 := hF.1.2.1
  obtain ⟨h5, h6⟩ := hq
  obtain ⟨h6, h7⟩ := h6 rfl
  have hNle := cnt_le (alv cc) (P 0 0 * P 0 1)
  have hl : ∀ i, i < cnt (alv cc) (P 0 0 * P 0 1) → ∃ c h, c < P 0 0 * P 0 1 ∧ h < 4 ∧ qc i = nI c ∧ qh i = nI h ∧ ∀ k, k < P 0 0 * P 0 1 → cc k ≠ 0 → cnt (alv cc) k = i → cc k = c + 1 ∧ ch k = h := by
    intro i hi
    obtain ⟨k, k1, k2, k3⟩ := cnt_surj (alv cc) _ i hi
    have k4 : cc k ≠ 0 := of_decide_eq_true k2
    obtain ⟨o1, o2⟩ := hok k k1
    have hv := h7 k k1 k4
    rw [k3] at hv
    refine ⟨cc k - 1, ch k, by omega, o2, hv.1, hv.2, fun k' l1 l2 l3 => ?_⟩
    have : k' = k := by
      rcases Nat.lt_trichotomy k' k with h | h | h
      · have := cnt_lt (alv cc) h (decide_eq_true l2); omega
      · exact h
      · have := cnt_lt (alv cc) h k2; omega
    subst this
    exact ⟨by omega, rfl⟩
  have hg : ∃ g : Nat → Bool, ∀ i, i < cnt (alv cc) (P 0 0 * P 0 1) → ∀ c, qc i = nI c → c < P 0 0 * P 0 1 → g i = !(isL P x1 x2 x3 c) := by
    refine ⟨fun i => !(isL P x1 x2 x3 (qc i).toNatClampNeg), fun i hi c e1 e3 => ?_⟩
    show (!(isL P x1 x2 x3 (qc i).toNatClampNeg)) = _
    rw [e1, nI_clamp (by omega)]
  obtain ⟨g, hg⟩ := hg
  have hpk : ∀ k, k ≤ P 0 0 * P 0 1 → cnt (alv (cSeen P x1 x2 x3 cc)) k = cnt g (cnt (alv cc) k) := by
    refine q_pack (fun k hk e => by unfold cSeen; rw [if_pos e]) (fun k hk e => ?_)
    have hi := cnt_lt (alv cc) hk (decide_eq_true e)
    obtain ⟨c, h, e1, e2, e3, e4, e5⟩ := hl _ hi
    rw [hg _ hi c e3 e1]
    obtain ⟨e6, e7⟩ := e5 k hk e rfl
    unfold cSeen
    rw [if_neg e, e6, show c + 1 - 1 = c by omega]
    by_cases e8 : isL P x1 x2 x3 c = true
    · rw [if_pos e8, e8]; rfl
    · rw [if_neg e8, decide_eq_true (by omega)]
      simpa using e8
  unfold wpX7_keepThose
  refine loop_0 (fun n i (q : AR × AR × Int32) => wpX7_keepThose_L6 sQ sG x1 x2 x3 _ post n q.1 q.2.1 q.2.2 (nI i)) (fun i q => q.2.2 = nI (cnt g i) ∧ (∀ j, i ≤ j → q.1 j = qc j ∧ q.2.1 j = qh j) ∧ ∀ j, j < i → g j = true → q.1 (cnt g j) = qc j ∧ q.2.1 (cnt g j) = qh j) (cnt (alv cc) (P 0 0 * P 0 1)) (qc, qh, nI 0) ⟨rfl, fun _ _ => ⟨rfl, rfl⟩, fun j hj => by omega⟩ ?_ ?_
  · intro n q hI
    show wpX7_keepThose_L6 sQ sG x1 x2 x3 _ post (n + 1) q.1 q.2.1 q.2.2 (nI (cnt (alv cc) (P 0 0 * P 0 1)))
    unfold wpX7_keepThose_L6
    rw [h6]
    refine ⟨fun _ => hk _ _ _ ⟨?_, fun _ => ⟨?_, fun k hk e => ?_⟩⟩ ?_, fun z => absurd (nI_le (Nat.le_refl _) (by omega)) z⟩
    · rw [pk_un (by omega)]; exact h5
    · rw [pk_us, hI.1, hpk _ (Nat.le_refl _)]
    · have e0 : cc k ≠ 0 := fun z => e (by unfold cSeen; rw [if_pos z])
      have hi := cnt_lt (alv cc) hk (decide_eq_true e0)
      obtain ⟨c, h, e1, e2, e3, e4, e5⟩ := hl _ hi
      obtain ⟨e6, e7⟩ := e5 k hk e0 rfl
      have ecg : cSeen P x1 x2 x3 cc k = if isL P x1 x2 x3 c = true then 0 else c + 1 := by
        unfold cSeen; rw [if_neg e0, e6]; rfl
      have e8 : ¬ isL P x1 x2 x3 c = true := fun z => e (by rw [ecg, if_pos z])
      have eg : g (cnt (alv cc) k) = true := by rw [hg _ hi c e3 e1]; simpa using e8
      obtain ⟨d5, d6⟩ := hI.2.2 _ hi eg
      rw [hpk k (by omega), ecg, if_neg e8, d5, d6, e3, e4, e7]
      exact ⟨rfl, rfl⟩
    · rw [pk_us, hI.1, hpk _ (Nat.le_refl _)]
  · intro n i q hi hI hnext
    show wpX7_keepThose_L6 sQ sG x1 x2 x3 _ post (n + 1) q.1 q.2.1 q.2.2 (nI i)
    obtain ⟨c, h, e1, e2, e3, e4, -⟩ := hl i hi
    have hci := cnt_le g i
    have eg := hg i hi c e3 e1
    have vi : vp_in (nI i) 100 := vp_in_nI (by omega) (by omega)
    have vc : vp_in (nI (cnt g i)) 100 := vp_in_nI (by omega) (by omega)
    have ha := hI.2.1 i (Nat.le_refl _)
    have j63 : ∀ b : Int32, b = (if nI (lnO P x2 c) = x1 then (1 : Int32) else 0) → ∀ kb, kb = (fun b0 b1 b2 b3 => wpX7_keepThose_L6 sQ sG x1 x2 x3 (fun Q_cell_104 Q_heading_104 l4_104 l5_104 => post (upd sQ 6 l4_104) Q_cell_104 Q_heading_104) post n b0 b1 b2 b3) → ∀ kx, wpX7_keepThose_J63 sQ sG q.1 q.2.1 x1 x2 x3 (nI (cnt g i)) (nI i) b kb kx post := by
      intro b hb kb hkb kx
      subst hkb
      unfold wpX7_keepThose_J63
      rw [nI_clamp (by omega), nI_clamp (by omega)]
      refine ⟨fun z => ?_, fun z => ?_⟩
      · have e8 : isL P x1 x2 x3 c = true := by unfold isL; rw [← hb]; exact decide_eq_true z
        rw [e8] at eg
        refine nm_r (nI_1 i) (hnext (q.1, q.2.1, nI (cnt g i)) ⟨?_, fun j hj => hI.2.1 j (by omega), fun j hj hgj => ?_⟩)
        · show nI (cnt g i) = nI (cnt g (i + 1))
          rw [cnt, eg]; rfl
        · refine hI.2.2 j ?_ hgj
          have : j ≠ i := fun z => by subst z; rw [eg] at hgj; exact absurd hgj (by decide)
          omega
      · have e8 : isL P x1 x2 x3 c = false := by unfold isL; rw [← hb]; exact decide_eq_false z
        have eg1 : g i = true := by rw [eg, e8]; rfl
        refine ⟨vi, vc, nm_e ⟨vi, vc, nm_e (nm_e (nm_r (nI_1 i) (hnext (_, _, _) ⟨?_, fun j hj => ⟨?_, ?_⟩, fun j hj hgj => ?_⟩)))⟩⟩
        · show nI (cnt g i) + 1 = nI (cnt g (i + 1))
          rw [cnt, if_pos eg1]; exact nI_1 _
        · show upd q.1 _ _ j = _
          rw [pk_un (by omega)]; exact (hI.2.1 j (by omega)).1
        · show upd q.2.1 _ _ j = _
          rw [pk_un (by omega)]; exact (hI.2.1 j (by omega)).2
        · by_cases ej : j = i
          · subst ej
            refine ⟨?_, ?_⟩
            · show upd q.1 _ _ _ = _
              rw [pk_us]; exact ha.1
            · show upd q.2.1 _ _ _ = _
              rw [pk_us]; exact ha.2
          · obtain ⟨d5, d6⟩ := hI.2.2 j (by omega) hgj
            have := cnt_lt g (show j < i by omega) hgj
            refine ⟨?_, ?_⟩
            · show upd q.1 _ _ _ = _
              rw [pk_un (by omega)]; exact d5
            · show upd q.2.1 _ _ _ = _
              rw [pk_un (by omega)]; exact d6
    have j50 : ∀ t0 : Int32, t0 = nI (lnO P x2 c) → ∀ kb, kb = (fun b0 b1 b2 b3 => wpX7_keepThose_L6 sQ sG x1 x2 x3 (fun Q_cell_104 Q_heading_104 l4_104 l5_104 => post (upd sQ 6 l4_104) Q_cell_104 Q_heading_104) post n b0 b1 b2 b3) → ∀ kx, wpX7_keepThose_J50 sQ sG q.1 q.2.1 x1 x2 x3 (nI (cnt g i)) (nI i) t0 kb kx post := by
      intro t0 ht kb hkb kx
      subst ht
      unfold wpX7_keepThose_J50
      exact ⟨fun z => j63 _ (by rw [if_neg z]) kb hkb kx, fun z => j63 _ (by rw [if_pos z]) kb hkb kx⟩
    unfold wpX7_keepThose_L6 wpX4_xOf wpX4_yOf
    rw [h6, hI.1, nI_clamp (by omega), ha.1, e3, hs 0 (by omega), n_rem (by omega) (by omega) (by omega), pk_div (by omega) (by omega) (by omega)]
    refine ⟨fun z => absurd z (nI_ge hi (by omega)), fun _ => ⟨fun z => ⟨vi, fun w => absurd w (nI_nle (by omega) (by omega)), fun _ => ⟨nI_ne0 (by omega) (by omega), j50 _ ?_ _ rfl _⟩⟩, fun z => ⟨vi, fun w => absurd w (nI_nle (by omega) (by omega)), fun _ => ⟨nI_ne0 (by omega) (by omega), j50 _ ?_ _ rfl _⟩⟩⟩⟩
    · unfold lnO; rw [if_pos z]
    · unfold lnO; rw [if_neg z]
