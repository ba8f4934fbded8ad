/-! the reference's course -/
theorem m_shiftRows {P : FL} {sM rows sets whys : AR} {post : AR → AR → AR → AR → Prop} (h30 : sM 30 = nI 100) (hk : ∀ rows' sets' whys', (∀ k, k < 2871 → rows' k = rows (k + 29)) → (∀ k, k < 99 → sets' k = sets (k + 1)) → (∀ k, k < 396 → whys' k = whys (k + 4)) → post (upd sM 30 (nI 99)) rows' sets' whys') : wpX11_shiftRows sM rows sets whys post := by
  unfold wpX11_shiftRows
  refine loop_0 (fun n i (q : AR) => wpX11_shiftRows_L2 sM sets whys _ post n q (nI i)) (fun i q => (∀ k, k < i → q k = rows (k + 29)) ∧ ∀ k, i ≤ k → q k = rows k) 2871 rows ⟨fun k hk => by omega, fun _ _ => rfl⟩ ?_ ?_
  · intro n q hI
    show wpX11_shiftRows_L2 sM sets whys _ post (n + 1) q (nI 2871)
    unfold wpX11_shiftRows_L2
    refine ⟨fun _ => ?_, fun z => absurd (nI_le (Nat.le_refl 2871) (by decide)) z⟩
    refine loop_0 (fun n i (r : AR) => wpX11_shiftRows_L32 sM q whys _ post n r (nI i)) (fun i r => (∀ k, k < i → r k = sets (k + 1)) ∧ ∀ k, i ≤ k → r k = sets k) 99 sets ⟨fun k hk => by omega, fun _ _ => rfl⟩ ?_ ?_
    · intro n r hI2
      show wpX11_shiftRows_L32 sM q whys _ post (n + 1) r (nI 99)
      unfold wpX11_shiftRows_L32
      refine ⟨fun _ => ?_, fun z => absurd (nI_le (Nat.le_refl 99) (by decide)) z⟩
      refine loop_0 (fun n i (u : AR) => wpX11_shiftRows_L60 sM q r _ post n u (nI i)) (fun i u => (∀ k, k < i → u k = whys (k + 4)) ∧ ∀ k, i ≤ k → u k = whys k) 396 whys ⟨fun k hk => by omega, fun _ _ => rfl⟩ ?_ ?_
      · intro n u hI3
        show wpX11_shiftRows_L60 sM q r _ post (n + 1) u (nI 396)
        unfold wpX11_shiftRows_L60
        refine ⟨fun _ => nm_r (e' := nI 99) ?_ (hk _ _ _ hI.1 hI2.1 hI3.1), fun z => absurd (nI_le (Nat.le_refl 396) (by decide)) z⟩
        rw [h30]
        exact pk_sub (a := 100) (b := 1) (by omega)
      · intro n i u hi hI3 hnext
        show wpX11_shiftRows_L60 sM q r _ post (n + 1) u (nI i)
        unfold wpX11_shiftRows_L60
        rw [show nI i + (4 : Int32) = nI (i + 4) from nI_add i 4, nI_clamp (by omega), nI_clamp (by omega)]
        refine ⟨fun z => absurd z (nI_ge (b := 396) hi (by decide)), fun _ => ⟨vp_in_nI (by omega) (by omega), vp_in_nI (by omega) (by omega), nm_e (nm_r (nI_1 i) (hnext _ ⟨fun k hk => ?_, fun k hk => ?_⟩))⟩⟩
        · by_cases e : k = i
          · subst e; rw [pk_us]; exact hI3.2 _ (by omega)
          · rw [pk_un e]; exact hI3.1 k (by omega)
        · rw [pk_un (by omega)]; exact hI3.2 k (by omega)
    · intro n i r hi hI2 hnext
      show wpX11_shiftRows_L32 sM q whys _ post (n + 1) r (nI i)
      unfold wpX11_shiftRows_L32
      rw [show nI i + (1 : Int32) = nI (i + 1) from nI_add i 1, nI_clamp (by omega), nI_clamp (by omega)]
      refine ⟨fun z => absurd z (nI_ge (b := 99) hi (by decide)), fun _ => ⟨vp_in_nI (by omega) (by omega), vp_in_nI (by omega) (by omega), nm_e (nm_e (hnext _ ⟨fun k hk => ?_, fun k hk => ?_⟩))⟩⟩
      · by_cases e : k = i
        · subst e; rw [pk_us]; exact hI2.2 _ (by omega)
        · rw [pk_un e]; exact hI2.1 k (by omega)
      · rw [pk_un (by omega)]; exact hI2.2 k (by omega)
  · intro n i q hi hI hnext
    show wpX11_shiftRows_L2 sM sets whys _ post (n + 1) q (nI i)
    unfold wpX11_shiftRows_L2
    rw [show nI i + (29 : Int32) = nI (i + 29) from nI_add i 29, nI_clamp (by omega), nI_clamp (by omega)]
    refine ⟨fun z => absurd z (nI_ge (b := 2871) hi (by decide)), fun _ => ⟨vp_in_nI (by omega) (by omega), vp_in_nI (by omega) (by omega), nm_e (nm_r (nI_1 i) (hnext _ ⟨fun k hk => ?_, fun k hk => ?_⟩))⟩⟩
    · by_cases e : k = i
      · subst e; rw [pk_us]; exact hI.2 _ (by omega)
      · rw [pk_un e]; exact hI.1 k (by omega)
    · rw [pk_un (by omega)]; exact hI.2 k (by omega)
/-- how many came in by a stroke -/
def dIn (P : FL) (m : Nat) (a : Nat → Nat) : Nat := hmN P (sk P m a) 1 - hmN P a 1
theorem cnt_sub {p q : Nat → Bool} : ∀ n, (∀ i, i < n → p i = true → q i = true) → cnt p n ≤ cnt q n := by
  intro n
  induction n with
  | zero => intro _; exact Nat.le_refl _
  | succ n ih =>
    intro h
    have h1 := ih (fun i hi => h i (by omega))
    rw [cnt, cnt]
    by_cases e : p n = true
    · rw [if_pos e, if_pos (h n (by omega) e)]; omega
    · rw [if_neg e]; split <;> omega
theorem in_mono {P : FL} (hF : FlatOK P) (m : Nat) (a : Nat → Nat) : hmN P a 1 ≤ hmN P (sk P m a) 1 := by
  have f6 := hF.1.2.2.2.2.2.1
  refine cnt_sub _ (fun w hw e => ?_)
  have e1 : a (w * 6 + 3) = 1 := of_decide_eq_true e
  refine decide_eq_true ?_
  rw [sk_w (by omega) (by omega)]
  unfold hW
  rw [if_pos (by show a (w * 6 + 3) ≠ 0; omega)]
  exact e1
theorem hmN_le {P : FL} (hF : FlatOK P) (a : Nat → Nat) (h : Nat) : hmN P a h ≤ 4 := Nat.le_trans (cnt_le _ _) hF.1.2.2.2.2.2.1
theorem dIn_eq {P : FL} (hF : FlatOK P) (m : Nat) (a : Nat → Nat) : nI (hmN P (sk P m a) 1) - nI (hmN P a 1) = nI (dIn P m a) := pk_sub (in_mono hF m a)
theorem dIn_le {P : FL} (hF : FlatOK P) (m : Nat) (a : Nat → Nat) : dIn P m a ≤ 4 := by
  have := hmN_le hF (sk P m a) 1
  unfold dIn
  omega
theorem m_doS {P : FL} {s tc rg vc fl kd mi now rows sets whys wh mc mh sM : AR} (hF : FlatOK P) (hG : GRep P s tc rg vc fl kd mi) {m B n : Nat} {a : Nat → Nat} (hc : CanR P m a) (ha : FRep P now a) (hok : FOK P B a) (hB : B < 2 ^ 30) (hn : n < 100) (h30 : sM 30 = nI n) {op : Bool} {cc ch : Nat → Nat} (hq : QRepM P sM mc mh op cc ch) (hqo : QOK P cc ch) {post : Int32 → AR → AR → AR → AR → AR → AR → AR → AR → Prop}
    (hk : ∀ sM' now' wh' rows' sets' whys' mc' mh', sM' 30 = nI (n + 1) → (∀ j, j ≠ 24 → j ≠ 25 → j ≠ 30 → sM' j = sM j) → FRep P now' (sk P m a) → EntM P rows' sets' whys' n a m → (∀ i, i ≠ n → (∀ j, j < 29 → rows' (29 * i + j) = rows (29 * i + j)) ∧ sets' i = sets i ∧ ∀ j, j < 4 → whys' (4 * i + j) = whys (4 * i + j)) → QRepM P sM' mc' mh' op (cGo P m cc ch) (hGo P m cc ch) → post (nI (dIn P m a)) sM' now' wh' rows' sets' whys' mc' mh') : ∃ nf15 : Nat, wpX11_doStroke_L15 sM s tc rg vc kd now fl mi wh sets whys mc mh (nI m) (fun M_rows_47 l2_47 => wpX11_strokeOf sM s tc rg vc kd fl mi wh now (nI m) (fun r53 sM_53 M_why_53 M_now_53 => vp_in (sM_53 30) 100 ∧ ∀ M_sets_66 : AR, M_sets_66 = upd sets (sM_53 30).toNatClampNeg (nI m) → ∃ nf69 : Nat, wpX11_doStroke_L69 sM_53 s tc rg vc kd M_now_53 fl mi M_why_53 M_rows_47 M_sets_66 mc mh (nI m) r53 (fun M_whys_114 l3_114 => ∀ f30_121 : Int32, f30_121 = ((sM_53 30) + (1 : Int32)) → wpX11_searchOn (upd sM_53 30 f30_121) s tc rg vc fl mi mc mh (nI m) (fun sM_126 M_caseCell_126 M_caseHeading_126 => post r53 sM_126 M_now_53 M_why_53 M_rows_47 M_sets_66 M_whys_114 M_caseCell_126 M_caseHeading_126)) post nf69 whys (0 : Int32))) post nf15 rows (0 : Int32) := by
  have f6 := hF.1.2.2.2.2.2.1
  have hs := hG.1
  refine loop_0 (fun nn i (q : AR) => wpX11_doStroke_L15 sM s tc rg vc kd now fl mi wh sets whys mc mh (nI m) _ post nn q (nI i)) (fun i q => (∀ k, k < i → q (29 * n + k) = now k) ∧ ∀ k, k < 29 * n ∨ 29 * n + i ≤ k → q k = rows k) 29 rows ⟨fun k hk => by omega, fun _ _ => rfl⟩ ?_ ?_
  · intro nn q hI
    show wpX11_doStroke_L15 sM s tc rg vc kd now fl mi wh sets whys mc mh (nI m) _ post (nn + 1) q (nI 29)
    unfold wpX11_doStroke_L15
    refine ⟨fun _ => ?_, fun z => absurd (nI_le (Nat.le_refl 29) (by decide)) z⟩
    refine m_strokeOf hF hG hc ha hok hB (fun s' wh' now' q1 q2 q3 => ?_)
    rw [dIn_eq hF]
    have h30' : s' 30 = nI n := by rw [q3 30 (by omega) (by omega)]; exact h30
    rw [h30', nI_clamp (by omega)]
    refine ⟨vp_in_nI (by omega) (by omega), nm_e ?_⟩
    refine loop_0 (fun nn i (r : AR) => wpX11_doStroke_L69 s' s tc rg vc kd now' fl mi wh' q (upd sets n (nI m)) mc mh (nI m) (nI (dIn P m a)) _ post nn r (nI i)) (fun i r => (∀ w, w < i → w < P 0 3 → r (4 * n + w) = rs P m a w) ∧ ∀ k, k < 4 * n ∨ 4 * n + i ≤ k → r k = whys k) 4 whys ⟨fun k hk => by omega, fun _ _ => rfl⟩ ?_ ?_
    · intro nn r hI2
      show wpX11_doStroke_L69 s' s tc rg vc kd now' fl mi wh' q (upd sets n (nI m)) mc mh (nI m) (nI (dIn P m a)) _ post (nn + 1) r (nI 4)
      unfold wpX11_doStroke_L69
      refine ⟨fun _ => nm_r (nI_1 n) ?_, fun z => absurd (nI_le (Nat.le_refl 4) (by decide)) z⟩
      refine m_searchOn hF hG hc.1 (op := op) (cc := cc) (ch := ch) ⟨?_, hq.2⟩ hqo (fun sM' mc' mh' p1 p2 => ?_)
      · rw [pk_un (by omega), q3 36 (by omega) (by omega)]; exact hq.1
      · refine hk sM' now' wh' q (upd sets n (nI m)) r mc' mh' ?_ (fun j ja jb jc => ?_) q1 ⟨ha.same hF (fun j hj => hI.1 j hj), ?_, fun w hw => hI2.1 w (by omega) hw⟩ (fun i hi => ⟨fun j hj => hI.2 _ (by omega), ?_, fun j hj => hI2.2 _ (by omega)⟩) p1
        · rw [p2 30 (by omega) (by omega), pk_us]
        · rw [p2 j ja jb, pk_un jc, q3 j ja jb]
        · rw [pk_us]
        · rw [pk_un hi]
    · intro nn i r hi hI2 hnext
      show wpX11_doStroke_L69 s' s tc rg vc kd now' fl mi wh' q (upd sets n (nI m)) mc mh (nI m) (nI (dIn P m a)) _ post (nn + 1) r (nI i)
      unfold wpX11_doStroke_L69 wpX11_doStroke_J107
      rw [hs 3 (by omega), h30', show (4 : Int32) * nI n = nI (4 * n) from pk_mul 4 n, nI_add, nI_clamp (by omega), nI_clamp (by omega)]
      refine ⟨fun z => absurd z (nI_ge (b := 4) hi (by decide)), fun _ => ⟨fun z => ⟨vp_in_nI (by omega) (by omega), nm_e (nm_r (nI_1 i) (hnext _ ⟨fun w hw hw2 => ?_, fun k hk => ?_⟩))⟩, fun z => ⟨vp_in_nI (by omega) (by omega), vp_in_nI (by omega) (by omega), nm_e (nm_r (nI_1 i) (hnext _ ⟨fun w hw hw2 => ?_, fun k hk => ?_⟩))⟩⟩⟩
      · have := (nI_leI (by omega) (by omega)).mp z
        rw [pk_un (by omega)]; exact hI2.1 w (by omega) hw2
      · rw [pk_un (by omega)]; exact hI2.2 k (by omega)
      · by_cases e : w = i
        · subst e; rw [pk_us]; exact q2 w hw2
        · rw [pk_un (by omega)]; exact hI2.1 w (by omega) hw2
      · rw [pk_un (by omega)]; exact hI2.2 k (by omega)
  · intro nn i q hi hI hnext
    show wpX11_doStroke_L15 sM s tc rg vc kd now fl mi wh sets whys mc mh (nI m) _ post (nn + 1) q (nI i)
    unfold wpX11_doStroke_L15
    rw [h30, show (29 : Int32) * nI n = nI (29 * n) from pk_mul 29 n, nI_add, nI_clamp (by omega), nI_clamp (by omega)]
    refine ⟨fun z => absurd z (nI_ge (b := 29) hi (by decide)), fun _ => ⟨vp_in_nI (by omega) (by omega), vp_in_nI (by omega) (by omega), nm_e (nm_r (nI_1 i) (hnext _ ⟨fun k hk => ?_, fun k hk => ?_⟩))⟩⟩
    · by_cases e : k = i
      · subst e; rw [pk_us]
      · rw [pk_un (by omega)]; exact hI.1 k (by omega)
    · rw [pk_un (by omega)]; exact hI.2 k (by omega)
theorem m_doNew {P : FL} {s tc rg vc fl kd mi now rows sets whys wh mc mh sM : AR} (hF : FlatOK P) (hG : GRep P s tc rg vc fl kd mi) {m B n : Nat} {st : Nat → Nat → Nat} {se : Nat → Nat} (hc : CanR P m (st n)) (hr : MRep P sM now rows sets whys st se n 0) (hok : CoOK P B st se n 0) (hB : B < 2 ^ 30) {op : Bool} {cc ch : Nat → Nat} (hq : QRepM P sM mc mh op cc ch) (hqo : QOK P cc ch) {post : Int32 → AR → AR → AR → AR → AR → AR → AR → AR → Prop}
    (hk : ∀ sM' now' wh' rows' sets' whys' mc' mh', MRep P sM' now' rows' sets' whys' (stN P m (nR n) (stR n st)) (seN m (nR n) (seR n se)) (nR n + 1) 0 → (∀ j, j ≠ 24 → j ≠ 25 → j ≠ 30 → sM' j = sM j) → QRepM P sM' mc' mh' op (cGo P m cc ch) (hGo P m cc ch) → post (nI (dIn P m (st n))) sM' now' wh' rows' sets' whys' mc' mh') : wpX11_doStroke sM s tc rg vc kd now fl mi wh rows sets whys mc mh (nI m) post := by
  obtain ⟨h30, h31, hnow, hen⟩ := hr
  have hn : n ≤ 100 := by have := hok.1; omega
  have hfo := hok.2.1 n (by omega)
  have core : ∀ (sM0 rows0 sets0 whys0 : AR), sM0 30 = nI (nR n) → (∀ j, j ≠ 30 → sM0 j = sM j) → (∀ i, i < nR n → EntM P rows0 sets0 whys0 i (stR n st i) (seR n se i)) → ∀ sM' now' wh' rows' sets' whys' mc' mh', sM' 30 = nI (nR n + 1) → (∀ j, j ≠ 24 → j ≠ 25 → j ≠ 30 → sM' j = sM0 j) → FRep P now' (sk P m (st n)) → EntM P rows' sets' whys' (nR n) (st n) m → (∀ i, i ≠ nR n → (∀ j, j < 29 → rows' (29 * i + j) = rows0 (29 * i + j)) ∧ sets' i = sets0 i ∧ ∀ j, j < 4 → whys' (4 * i + j) = whys0 (4 * i + j)) → QRepM P sM' mc' mh' op (cGo P m cc ch) (hGo P m cc ch) → post (nI (dIn P m (st n))) sM' now' wh' rows' sets' whys' mc' mh' := by
    intro sM0 rows0 sets0 whys0 g1 g2 g3 sM' now' wh' rows' sets' whys' mc' mh' p1 p2 p3 p4 p5 p6
    refine hk _ _ _ _ _ _ _ _ ⟨p1, ?_, ?_, fun i hi => ?_⟩ (fun j ja jb jc => by rw [p2 j ja jb jc, g2 j jc]) p6
    · rw [p2 31 (by omega) (by omega) (by omega), g2 31 (by omega)]; exact h31
    · unfold stN
      rw [if_neg (by omega), stR_n]
      exact p3
    · unfold stN seN
      rw [if_pos (by omega)]
      by_cases e : i = nR n
      · subst e
        rw [if_pos rfl, stR_n]
        exact p4
      · rw [if_neg e]
        obtain ⟨q1, q2, q3⟩ := p5 i e
        exact (g3 i (by omega)).same hF q1 q2 q3
  unfold wpX11_doStroke
  rw [h30]
  refine ⟨fun e => ?_, fun e => ?_⟩
  · have e1 : ¬ n = 100 := fun q => e (by rw [q]; rfl)
    have en : nR n = n := by unfold nR; rw [if_neg e1]
    have g := core sM rows sets whys (by rw [en]; exact h30) (fun _ _ => rfl) (fun i hi => by unfold stR seR; rw [if_neg e1, if_neg e1]; rw [en] at hi; exact hen i (by omega))
    rw [en] at g
    exact m_doS hF hG hc hnow hfo hB (by omega) h30 hq hqo g
  · have e1 : n = 100 := (nI_eq (b := 100) (by omega) (by omega)).mp e
    subst e1
    refine m_shiftRows (P := P) h30 (fun rows0 sets0 whys0 k1 k2 k3 => ?_)
    have g := core (upd sM 30 (nI 99)) rows0 sets0 whys0 (by rw [pk_us]; rfl) (fun j hj => by rw [pk_un hj]) (fun i hi => ?_)
    · exact m_doS hF hG hc hnow hfo hB (n := 99) (by omega) (by rw [pk_us]) ⟨by rw [pk_un (by omega)]; exact hq.1, hq.2⟩ hqo g
    · have hi : i < 99 := hi
      unfold stR seR
      rw [if_pos rfl, if_pos rfl]
      have h := hen (i + 1) (by omega)
      refine ⟨h.1.same hF (fun j hj => ?_), ?_, fun w hw => ?_⟩
      · show rows0 (29 * i + j) = rows (29 * (i + 1) + j)
        rw [k1 _ (by omega)]; congr 1; omega
      · rw [k2 i (by omega)]; exact h.2.1
      · have f6 := hF.1.2.2.2.2.2.1
        rw [k3 _ (by omega), show 4 * i + w + 4 = 4 * (i + 1) + w by omega]
        exact h.2.2 w hw
theorem m_redo {P : FL} {s tc rg vc fl kd mi now rows sets whys wh mc mh sM : AR} (hF : FlatOK P) (hG : GRep P s tc rg vc fl kd mi) {B n u : Nat} {st : Nat → Nat → Nat} {se : Nat → Nat} (hr : MRep P sM now rows sets whys st se n u) (hok : CoOK P B st se n u) (hB : B < 2 ^ 30) {op : Bool} {cc ch : Nat → Nat} (hq : QRepM P sM mc mh op cc ch) (hqo : QOK P cc ch) {post : Int32 → AR → AR → AR → AR → AR → AR → AR → AR → Prop}
    (h1 : 0 < u → ∀ sM' now' wh' rows' sets' whys' mc' mh', MRep P sM' now' rows' sets' whys' st se (n + 1) (u - 1) → sM' 2 = 0 → (∀ j, j ≠ 2 → j ≠ 24 → j ≠ 25 → j ≠ 30 → j ≠ 31 → sM' j = sM j) → QRepM P sM' mc' mh' op (cGo P (se n) cc ch) (hGo P (se n) cc ch) → post 1 sM' now' wh' rows' sets' whys' mc' mh') (h0 : u = 0 → post 0 (upd sM 2 0) now wh rows sets whys mc mh) : wpX11_redo sM s tc rg vc kd now fl mi wh rows sets whys mc mh post := by
  obtain ⟨h30, h31, hnow, hen⟩ := hr
  have hle := hok.1
  unfold wpX11_redo
  rw [h31, h30]
  refine ⟨fun e => ?_, fun e => h0 ((nI_eq (b := 0) (by omega) (by omega)).mp e)⟩
  have e1 : ¬ u = 0 := fun q => e (by rw [q]; rfl)
  have hn : n < 100 := by omega
  have hco := hok.2.2 n (by omega)
  refine nm_r (e' := nI (u - 1)) (pk_sub (b := 1) (by omega)) ?_
  rw [nI_clamp (by omega), (hen n (by omega)).2.1]
  refine ⟨vp_in_nI hn (by omega), ?_⟩
  unfold wpX11_doStroke
  have h30' : (upd (upd sM 2 (0 : Int32)) 31 (nI (u - 1))) 30 = nI n := by rw [pk_un (by omega), pk_un (by omega)]; exact h30
  refine ⟨fun _ => ?_, fun z => ?_⟩
  · refine m_doS hF hG hco.1 hnow (hok.2.1 n (by omega)) hB hn h30' (op := op) (cc := cc) (ch := ch) ⟨by rw [pk_un (by omega), pk_un (by omega)]; exact hq.1, hq.2⟩ hqo (fun sM' now' wh' rows' sets' whys' mc' mh' p1 p2 p3 p4 p5 p6 => ?_)
    refine h1 (by omega) _ _ _ _ _ _ _ _ ⟨p1, ?_, ?_, fun i hi => ?_⟩ ?_ (fun j j2 ja jb jc jd => ?_) p6
    · rw [p2 31 (by omega) (by omega) (by omega), pk_us]
    · rw [hco.2]; exact p3
    · by_cases e : i = n
      · subst e; exact p4
      · obtain ⟨q1, q2, q3⟩ := p5 i e
        exact (hen i (by omega)).same hF q1 q2 q3
    · rw [p2 2 (by omega) (by omega) (by omega), pk_un (by omega), pk_us]
    · rw [p2 j ja jb jc, pk_un jd, pk_un j2]
  · rw [h30'] at z
    have := (nI_eq (b := 100) (by omega) (by omega)).mp z
    omega
theorem m_undo {P : FL} {now rows sets whys sM : AR} (hF : FlatOK P) {B n u : Nat} {st : Nat → Nat → Nat} {se : Nat → Nat} (hr : MRep P sM now rows sets whys st se n u) (hok : CoOK P B st se n u) {post : Int32 → AR → AR → Prop}
    (h1 : 0 < n → ∀ sM' now', MRep P sM' now' rows sets whys st se (n - 1) (u + 1) → sM' 2 = 0 → (∀ j, j ≠ 2 → j ≠ 30 → j ≠ 31 → sM' j = sM j) → post 1 sM' now') (h0 : n = 0 → post 0 (upd sM 2 0) now) : wpX11_undo sM now rows post := by
  obtain ⟨h30, h31, hnow, hen⟩ := hr
  have hle := hok.1
  unfold wpX11_undo
  rw [h30, h31]
  refine ⟨fun e => ?_, fun e => h0 ((nI_eq (b := 0) (by omega) (by omega)).mp e)⟩
  have e1 : ¬ n = 0 := fun q => e (by rw [q]; rfl)
  refine nm_r (e' := nI (n - 1)) (pk_sub (b := 1) (by omega)) (nm_r (nI_1 u) ?_)
  have h30' : (upd (upd (upd sM 2 (0 : Int32)) 30 (nI (n - 1))) 31 (nI (u + 1))) 30 = nI (n - 1) := by rw [pk_un (by omega), pk_us]
  refine loop_0 (fun nn i (q : AR) => wpX11_undo_L36 (upd (upd (upd sM 2 (0 : Int32)) 30 (nI (n - 1))) 31 (nI (u + 1))) rows _ post nn q (nI i)) (fun i q => ∀ k, k < i → q k = rows (29 * (n - 1) + k)) 29 now (fun k hk => by omega) ?_ ?_
  · intro nn q hI
    show wpX11_undo_L36 (upd (upd (upd sM 2 (0 : Int32)) 30 (nI (n - 1))) 31 (nI (u + 1))) rows _ post (nn + 1) q (nI 29)
    unfold wpX11_undo_L36
    refine ⟨fun _ => h1 (by omega) _ _ ⟨h30', by rw [pk_us], (hen (n - 1) (by omega)).1.same hF (fun j hj => hI j hj), fun i hi => hen i (by omega)⟩ ?_ (fun j ja jb jc => by rw [pk_un jc, pk_un jb, pk_un ja]), fun z => absurd (nI_le (Nat.le_refl 29) (by decide)) z⟩
    rw [pk_un (by omega), pk_un (by omega), pk_us]
  · intro nn i q hi hI hnext
    show wpX11_undo_L36 (upd (upd (upd sM 2 (0 : Int32)) 30 (nI (n - 1))) 31 (nI (u + 1))) rows _ post (nn + 1) q (nI i)
    unfold wpX11_undo_L36
    rw [h30', show (29 : Int32) * nI (n - 1) = nI (29 * (n - 1)) from pk_mul 29 _, nI_add, nI_clamp (by omega), nI_clamp (by omega)]
    refine ⟨fun z => absurd z (nI_ge (b := 29) hi (by decide)), fun _ => ⟨vp_in_nI (by omega) (by omega), vp_in_nI (by omega) (by omega), nm_e (nm_r (nI_1 i) (hnext _ (fun k hk => ?_)))⟩⟩
    by_cases e : k = i
    · subst e; rw [pk_us]
    · rw [pk_un e]; exact hI k (by omega)
