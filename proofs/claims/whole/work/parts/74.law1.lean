/-! the law's invariant -/
theorem m_rangeL {x y : Int32} {b : Nat} (hy : y = nI b) (hb : b < 2 ^ 30) {post : Int32 → Prop} (h1 : ∀ c, c ≤ b → x = nI c → post (1 : Int32)) (h0 : (¬ ∃ c, c < b + 1 ∧ x = nI c) → post (0 : Int32)) : wpX11_isIn x (0 : Int32) y post := by
  have h := m_range (x := x) (b := b + 1) (by omega) (post := post) (fun c hc e => h1 c (by omega) e) h0
  rw [show nI (b + 1) - (1 : Int32) = y by rw [hy]; exact pk_sub (a := b + 1) (b := 1) (by omega)] at h
  exact h
/-- a byte as the class holds it -/
def bI (v : Nat) : Int32 := if v < 128 then nI v else -nI (256 - v)
def Tp (T : Nat) (tc tm : AR) : Prop := ∀ i, i < T → ∃ v, v < 256 ∧ tm i = nI v ∧ tc i = bI v
def IG (P : FL) (cs ms : ST) : Prop := FlatOK P ∧ GRep P (cs 2) (cs 12) (cs 13) (cs 14) (cs 16) (cs 17) (cs 20) ∧ EarsOK P (cs 30) (cs 31) (cs 33) (cs 34) ∧ FeetOK P (cs 35) (cs 36) (cs 37) ∧ GRep P (ms 1) (ms 2) (ms 3) (ms 4) (ms 9) (ms 5) (ms 10)
def IR (P : FL) (op : Bool) (g : GS) (B : Nat) (cs ms : ST) : Prop := RC P op g (cs 6) (cs 41) (cs 42) (cs 8) (cs 47) (cs 48) ∧ RM P op g (ms 0) (ms 6) (ms 13) (ms 14) (ms 15) (ms 16) (ms 17) ∧ GOK P B g ∧ cs 6 5 = ms 8 0 ∧ cs 6 6 = ms 8 1
def IT (T : Nat) (cs ms : ST) : Prop := T ≤ 500 ∧ cs 0 15 = nI T ∧ ms 0 14 = nI T ∧ Tp T (cs 10) (ms 11) ∧ cs 0 16 = ms 0 23
def IP (pl : Nat) (cs ms : ST) : Prop := pl ≤ 4 ∧ cs 0 14 = nI pl ∧ ms 0 45 = (if pl = 0 then -1 else nI pl) ∧ ∀ i, i < pl → cs 11 i = ms 22 i
def II (P : FL) (im : Bool) (g : GS) (B : Nat) (cs ms : ST) : Prop := cs 0 17 = (if im = true then 1 else 0) ∧ ms 0 48 = (if im = true then 1 else 0) ∧ (im = true → CRep P (cs 7) (cs 44) (cs 45) g.1 g.2.1 g.2.2.1 g.2.2.2.1 ∧ MRep P (fun j => if j = 30 then ms 0 49 else ms 0 50) (ms 24) (ms 25) (ms 26) (ms 27) g.1 g.2.1 g.2.2.1 g.2.2.2.1 ∧ CoOK P B g.1 g.2.1 g.2.2.1 g.2.2.2.1 ∧ cs 7 5 = ms 28 0 ∧ cs 7 6 = ms 28 1)
def INV (B : Nat) (cs ms : ST) : Prop := ∃ (P : FL) (op : Bool) (g : GS) (im : Bool) (g2 : GS) (T pl : Nat), IG P cs ms ∧ IR P op g B cs ms ∧ IT T cs ms ∧ IP pl cs ms ∧ II P im g2 B cs ms
theorem IR.mono {P : FL} {op : Bool} {g : GS} {B B' : Nat} {cs ms : ST} (h : IR P op g B cs ms) (hB : B ≤ B') : IR P op g B' cs ms := ⟨h.1, h.2.1, h.2.2.1.mono hB, h.2.2.2⟩
theorem II.mono {P : FL} {im : Bool} {g : GS} {B B' : Nat} {cs ms : ST} (h : II P im g B cs ms) (hB : B ≤ B') : II P im g B' cs ms := ⟨h.1, h.2.1, fun e => ⟨(h.2.2 e).1, (h.2.2 e).2.1, (h.2.2 e).2.2.1.mono hB, (h.2.2 e).2.2.2⟩⟩
/-- the reference's own numbers that must stay -/
def K0 (s s' : AR) : Prop := s' 14 = s 14 ∧ s' 23 = s 23 ∧ s' 30 = s 30 ∧ s' 31 = s 31 ∧ s' 36 = s 36 ∧ s' 45 = s 45 ∧ s' 48 = s 48 ∧ s' 49 = s 49 ∧ s' 50 = s 50
theorem K0.c {s : AR} {v : Int32} : K0 s (upd s 2 v) := ⟨pk_un (by omega), pk_un (by omega), pk_un (by omega), pk_un (by omega), pk_un (by omega), pk_un (by omega), pk_un (by omega), pk_un (by omega), pk_un (by omega)⟩
theorem K0.trans {a b c : AR} (h : K0 a b) (h2 : K0 b c) : K0 a c := by
  obtain ⟨a1, a2, a3, a4, a5, a6, a7, a8, a9⟩ := h
  obtain ⟨b1, b2, b3, b4, b5, b6, b7, b8, b9⟩ := h2
  exact ⟨b1.trans a1, b2.trans a2, b3.trans a3, b4.trans a4, b5.trans a5, b6.trans a6, b7.trans a7, b8.trans a8, b9.trans a9⟩
theorem RM.k0 {P : FL} {op : Bool} {g : GS} {s s' now rows sets whys mc mh : AR} (h : RM P op g s now rows sets whys mc mh) (k : K0 s s') : RM P op g s' now rows sets whys mc mh := ⟨⟨by rw [k.2.2.1]; exact h.1.1, by rw [k.2.2.2.1]; exact h.1.2.1, h.1.2.2⟩, ⟨by rw [k.2.2.2.2.1]; exact h.2.1, h.2.2⟩⟩
theorem IT.k0 {T : Nat} {cs ms : ST} (h : IT T cs ms) {w : AR} (k : K0 (ms 0) w) : IT T cs (sct ms 0 w) := ⟨h.1, h.2.1, k.1.trans h.2.2.1, h.2.2.2.1, h.2.2.2.2.trans k.2.1.symm⟩
theorem IP.k0 {pl : Nat} {cs ms : ST} (h : IP pl cs ms) {w : AR} (k : K0 (ms 0) w) : IP pl cs (sct ms 0 w) := ⟨h.1, h.2.1, k.2.2.2.2.2.1.trans h.2.2.1, h.2.2.2⟩
theorem II.k0 {P : FL} {im : Bool} {g : GS} {B : Nat} {cs ms : ST} (h : II P im g B cs ms) {w : AR} (k : K0 (ms 0) w) : II P im g B cs (sct ms 0 w) := ⟨h.1, k.2.2.2.2.2.2.1.trans h.2.1, fun e => by
  obtain ⟨h1, h2, h3⟩ := h.2.2 e
  refine ⟨h1, ⟨?_, ?_, h2.2.2⟩, h3⟩
  · show w 49 = _
    rw [k.2.2.2.2.2.2.2.1]; exact h2.1
  · show w 50 = _
    rw [k.2.2.2.2.2.2.2.2]; exact h2.2.1⟩
theorem IR.k0 {P : FL} {op : Bool} {g : GS} {B : Nat} {cs ms : ST} (h : IR P op g B cs ms) {w : AR} (k : K0 (ms 0) w) : IR P op g B cs (sct ms 0 w) := ⟨h.1, h.2.1.k0 k, h.2.2⟩
theorem INV.k0 {B : Nat} {cs ms : ST} (h : INV B cs ms) {w : AR} (k : K0 (ms 0) w) : INV B cs (sct ms 0 w) := by
  obtain ⟨P, op, g, im, g2, T, pl, hG, hR, hT, hP, hJ⟩ := h
  exact ⟨P, op, g, im, g2, T, pl, hG, hR.k0 k, hT.k0 k, hP.k0 k, hJ.k0 k⟩
theorem INV.mono {B B' : Nat} {cs ms : ST} (h : INV B cs ms) (hB : B ≤ B') : INV B' cs ms := by
  obtain ⟨P, op, g, im, g2, T, pl, hG, hR, hT, hP, hJ⟩ := h
  exact ⟨P, op, g, im, g2, T, pl, hG, hR.mono hB, hT, hP, hJ.mono hB⟩
theorem IG.cg {P : FL} {cs ms : ST} (h : IG P cs ms) : CG P (cs 2) (cs 16) (cs 17) (cs 30) (cs 31) (cs 33) (cs 34) (cs 35) (cs 36) (cs 37) := ⟨h.1, h.2.1.1, h.2.1.2.2.2.2.1, h.2.1.2.2.2.2.2.1, h.2.2.1, h.2.2.2.1⟩
abbrev HV (l4 : Int32) (L : Nat) : Prop := ∀ k : Int32, (k = 1 ∨ k = 2 ∨ k = 3 ∨ k = 4 ∨ k = 5) → vp_in (l4 + k) L
theorem HV.h1 {l4 : Int32} {L : Nat} (h : HV l4 L) : vp_in (l4 + (1 : Int32)) L := h 1 (Or.inl rfl)
theorem HV.h2 {l4 : Int32} {L : Nat} (h : HV l4 L) : vp_in (l4 + (2 : Int32)) L := h 2 (Or.inr (Or.inl rfl))
theorem HV.h3 {l4 : Int32} {L : Nat} (h : HV l4 L) : vp_in (l4 + (3 : Int32)) L := h 3 (Or.inr (Or.inr (Or.inl rfl)))
theorem HV.h4 {l4 : Int32} {L : Nat} (h : HV l4 L) : vp_in (l4 + (4 : Int32)) L := h 4 (Or.inr (Or.inr (Or.inr (Or.inl rfl))))
theorem HV.h5 {l4 : Int32} {L : Nat} (h : HV l4 L) : vp_in (l4 + (5 : Int32)) L := h 5 (Or.inr (Or.inr (Or.inr (Or.inr rfl))))
/-- fault -/
theorem law3 {xs : Nat → Int32} {L B : Nat} {cs ms : ST} {ov l4 : Int32} (hI : INV B cs ms) {kb : ST → ST → Prop} (hk : ∀ cs' ms', INV B cs' ms' → kb cs' ms') : wpC3 xs L cs ms ov l4 kb := by
  have hI2 := hI
  obtain ⟨P, op, g, im, g2, T, pl, hG, hR, hT, hP, hJ⟩ := hI
  unfold wpC3 wpX10_fault wpX11_fault
  exact ⟨hT.2.2.2.2, hk _ _ (hI2.k0 K0.c)⟩
/-- a call that changes nothing: it answers v -/
theorem ro_ok {B : Nat} {cs ms : ST} (hI : INV B cs ms) {kb : ST → ST → Prop} (hk : ∀ cs' ms', INV B cs' ms' → kb cs' ms') (v : Int32) : wpX11_thrown (upd (ms 0) 2 (0 : Int32)) (fun r3 => r3 = (0 : Int32) ∧ ((¬ (0 : Int32) = 0 → kb cs (sct ms 0 (upd (ms 0) 2 (0 : Int32)))) ∧ ((0 : Int32) = 0 → v = v ∧ kb cs (sct ms 0 (upd (ms 0) 2 (0 : Int32)))))) := ⟨pk_us, fun z => absurd rfl z, fun _ => ⟨rfl, hk _ _ (hI.k0 K0.c)⟩⟩
/-- a call that changes nothing, and throws -/
theorem ro_th {B : Nat} {cs ms : ST} (hI : INV B cs ms) {kb : ST → ST → Prop} (hk : ∀ cs' ms', INV B cs' ms' → kb cs' ms') (o r : Int32) : wpX11_thrown (upd (upd (ms 0) 2 (0 : Int32)) 2 (1 : Int32)) (fun r3 => r3 = (1 : Int32) ∧ ((¬ (1 : Int32) = 0 → kb cs (sct ms 0 (upd (upd (ms 0) 2 (0 : Int32)) 2 (1 : Int32)))) ∧ ((1 : Int32) = 0 → o = r ∧ kb cs (sct ms 0 (upd (upd (ms 0) 2 (0 : Int32)) 2 (1 : Int32)))))) := ⟨pk_us, fun _ => hk _ _ (hI.k0 (K0.c.trans K0.c)), fun z => absurd z (by decide)⟩
/-- count -/
theorem law4 {xs : Nat → Int32} {L B : Nat} {cs ms : ST} {ov l4 : Int32} (hI : INV B cs ms) (hv : HV l4 L) {kb : ST → ST → Prop} (hk : ∀ cs' ms', INV B cs' ms' → kb cs' ms') : wpC4 xs L cs ms ov l4 kb := by
  have hI2 := hI
  obtain ⟨P, op, g, im, g2, T, pl, hG, hR, hT, hP, hJ⟩ := hI
  obtain ⟨hF, hGc, hE, hW, hGm⟩ := hG
  obtain ⟨hRc, hRm, hok, hs5, hs6⟩ := hR
  obtain ⟨f, hf, h2, h3, h4, hFr, hen⟩ := hRc.1
  unfold wpC4 wpL_count
  refine ⟨hv.h1, ?_⟩
  generalize xs (l4 + (1 : Int32)).toNatClampNeg = x
  by_cases hx : ∃ c, c < 15 ∧ x = nI c
  · obtain ⟨c, hc, rfl⟩ := hx
    have lo : ∀ c, c < 7 → ∀ v, v = nI (P 0 c) → vp_in (l4 + (1 : Int32)) L ∧ wpX11_count (ms 0) (ms 1) (ms 6) (ms 8) (nI c) (fun r2 w2_0 => wpX11_thrown w2_0 (fun r3 => r3 = (0 : Int32) ∧ ((¬ (0 : Int32) = 0 → kb cs (sct ms 0 w2_0)) ∧ ((0 : Int32) = 0 → v = r2 ∧ kb cs (sct ms 0 w2_0))))) := by
      intro c hc v hv'
      unfold wpX11_count
      refine ⟨hv.h1, m_rangeL (b := 6) rfl (by decide) (fun c' _ _ => ⟨fun z => absurd z (by decide), fun _ => ?_⟩) (fun h => absurd ⟨c, hc, rfl⟩ h)⟩
      rw [nI_clamp (by omega), hGm.1 c hc, hv']
      exact ⟨vp_in_nI (by omega) (by omega), ro_ok hI2 hk _⟩
    have hi : ∀ {post : Int32 → Prop} (c : Nat), 7 ≤ c → c < 15 → post 0 → wpX11_isIn (nI c) (0 : Int32) (6 : Int32) post := fun c h1 h2 h => m_rangeL (b := 6) rfl (by decide) (fun c' q1 q2 => by have := nI_inj32 (by omega) (by omega) q2; omega) (fun _ => h)
    unfold wpX10_count
    rcases (show c = 0 ∨ c = 1 ∨ c = 2 ∨ c = 3 ∨ c = 4 ∨ c = 5 ∨ c = 6 ∨ c = 7 ∨ c = 8 ∨ c = 9 ∨ c = 10 ∨ c = 11 ∨ c = 12 ∨ c = 13 ∨ c = 14 by omega) with rfl | rfl | rfl | rfl | rfl | rfl | rfl | rfl | rfl | rfl | rfl | rfl | rfl | rfl | rfl
    · exact ⟨fun _ => lo 0 (by decide) _ (hGc.1 0 (by decide)), fun z => absurd rfl z⟩
    · exact ⟨fun z => absurd z (by decide), fun _ => ⟨fun _ => lo 1 (by decide) _ (hGc.1 1 (by decide)), fun z => absurd rfl z⟩⟩
    · exact ⟨fun z => absurd z (by decide), fun _ => ⟨fun z => absurd z (by decide), fun _ => ⟨fun _ => lo 2 (by decide) _ (hGc.1 2 (by decide)), fun z => absurd rfl z⟩⟩⟩
    · exact ⟨fun z => absurd z (by decide), fun _ => ⟨fun z => absurd z (by decide), fun _ => ⟨fun z => absurd z (by decide), fun _ => ⟨fun _ => lo 3 (by decide) _ (hGc.1 3 (by decide)), fun z => absurd rfl z⟩⟩⟩⟩
    · exact ⟨fun z => absurd z (by decide), fun _ => ⟨fun z => absurd z (by decide), fun _ => ⟨fun z => absurd z (by decide), fun _ => ⟨fun z => absurd z (by decide), fun _ => ⟨fun _ => lo 4 (by decide) _ (hGc.1 4 (by decide)), fun z => absurd rfl z⟩⟩⟩⟩⟩
    · exact ⟨fun z => absurd z (by decide), fun _ => ⟨fun z => absurd z (by decide), fun _ => ⟨fun z => absurd z (by decide), fun _ => ⟨fun z => absurd z (by decide), fun _ => ⟨fun z => absurd z (by decide), fun _ => ⟨fun _ => lo 5 (by decide) _ (hGc.1 5 (by decide)), fun z => absurd rfl z⟩⟩⟩⟩⟩⟩
    · exact ⟨fun z => absurd z (by decide), fun _ => ⟨fun z => absurd z (by decide), fun _ => ⟨fun z => absurd z (by decide), fun _ => ⟨fun z => absurd z (by decide), fun _ => ⟨fun z => absurd z (by decide), fun _ => ⟨fun z => absurd z (by decide), fun _ => ⟨fun _ => lo 6 (by decide) _ (hGc.1 6 (by decide)), fun z => absurd rfl z⟩⟩⟩⟩⟩⟩⟩
    · refine ⟨fun z => absurd z (by decide), fun _ => ⟨fun z => absurd z (by decide), fun _ => ⟨fun z => absurd z (by decide), fun _ => ⟨fun z => absurd z (by decide), fun _ => ⟨fun z => absurd z (by decide), fun _ => ⟨fun z => absurd z (by decide), fun _ => ⟨fun z => absurd z (by decide), fun _ => ⟨fun _ => ⟨hv.h1, ?_⟩, fun z => absurd rfl z⟩⟩⟩⟩⟩⟩⟩⟩
      unfold wpX11_count
      refine hi 7 (by decide) (by decide) ⟨fun _ => ?_, fun z => absurd rfl z⟩
      rw [h3, hRm.1.1]
      exact ⟨fun _ => ro_ok hI2 hk _, fun z => absurd rfl z⟩
    · refine ⟨fun z => absurd z (by decide), fun _ => ⟨fun z => absurd z (by decide), fun _ => ⟨fun z => absurd z (by decide), fun _ => ⟨fun z => absurd z (by decide), fun _ => ⟨fun z => absurd z (by decide), fun _ => ⟨fun z => absurd z (by decide), fun _ => ⟨fun z => absurd z (by decide), fun _ => ⟨fun z => absurd z (by decide), fun _ => ⟨fun _ => ⟨hv.h1, ?_⟩, fun z => absurd rfl z⟩⟩⟩⟩⟩⟩⟩⟩⟩
      unfold wpX11_count
      refine hi 8 (by decide) (by decide) ⟨fun _ => ?_, fun z => absurd rfl z⟩
      rw [h4, hRm.1.2.1]
      exact ⟨fun z => absurd z (by decide), fun _ => ⟨fun _ => ro_ok hI2 hk _, fun z => absurd rfl z⟩⟩
    · refine ⟨fun z => absurd z (by decide), fun _ => ⟨fun z => absurd z (by decide), fun _ => ⟨fun z => absurd z (by decide), fun _ => ⟨fun z => absurd z (by decide), fun _ => ⟨fun z => absurd z (by decide), fun _ => ⟨fun z => absurd z (by decide), fun _ => ⟨fun z => absurd z (by decide), fun _ => ⟨fun z => absurd z (by decide), fun _ => ⟨fun z => absurd z (by decide), fun _ => ⟨fun _ => c_howMany hF hGc.1 hFr hok.now (h := 1) (by omega) ⟨hv.h1, ?_⟩, fun z => absurd rfl z⟩⟩⟩⟩⟩⟩⟩⟩⟩⟩
      unfold wpX11_count
      refine hi 9 (by decide) (by decide) ⟨fun _ => ?_, fun z => absurd rfl z⟩
      refine ⟨fun z => absurd z (by decide), fun _ => ⟨fun z => absurd z (by decide), fun _ => ⟨fun _ => ?_, fun z => absurd rfl z⟩⟩⟩
      rw [show nI 9 - (8 : Int32) = nI 1 from pk_sub (a := 9) (b := 8) (by omega)]
      exact m_howMany hF hGm.1 hRm.1.2.2.1 hok.now (h := 1) (by omega) (ro_ok hI2 hk _)
    · refine ⟨fun z => absurd z (by decide), fun _ => ⟨fun z => absurd z (by decide), fun _ => ⟨fun z => absurd z (by decide), fun _ => ⟨fun z => absurd z (by decide), fun _ => ⟨fun z => absurd z (by decide), fun _ => ⟨fun z => absurd z (by decide), fun _ => ⟨fun z => absurd z (by decide), fun _ => ⟨fun z => absurd z (by decide), fun _ => ⟨fun z => absurd z (by decide), fun _ => ⟨fun z => absurd z (by decide), fun _ => ⟨fun _ => c_howMany hF hGc.1 hFr hok.now (h := 2) (by omega) ⟨hv.h1, ?_⟩, fun z => absurd rfl z⟩⟩⟩⟩⟩⟩⟩⟩⟩⟩⟩
      unfold wpX11_count
      refine hi 10 (by decide) (by decide) ⟨fun _ => ?_, fun z => absurd rfl z⟩
      refine ⟨fun z => absurd z (by decide), fun _ => ⟨fun z => absurd z (by decide), fun _ => ⟨fun z => absurd z (by decide), fun _ => ⟨fun _ => ?_, fun z => absurd rfl z⟩⟩⟩⟩
      rw [show nI 10 - (8 : Int32) = nI 2 from pk_sub (a := 10) (b := 8) (by omega)]
      exact m_howMany hF hGm.1 hRm.1.2.2.1 hok.now (h := 2) (by omega) (ro_ok hI2 hk _)
    · refine ⟨fun z => absurd z (by decide), fun _ => ⟨fun z => absurd z (by decide), fun _ => ⟨fun z => absurd z (by decide), fun _ => ⟨fun z => absurd z (by decide), fun _ => ⟨fun z => absurd z (by decide), fun _ => ⟨fun z => absurd z (by decide), fun _ => ⟨fun z => absurd z (by decide), fun _ => ⟨fun z => absurd z (by decide), fun _ => ⟨fun z => absurd z (by decide), fun _ => ⟨fun z => absurd z (by decide), fun _ => ⟨fun z => absurd z (by decide), fun _ => ⟨fun _ => c_howMany hF hGc.1 hFr hok.now (h := 3) (by omega) ⟨hv.h1, ?_⟩, fun z => absurd rfl z⟩⟩⟩⟩⟩⟩⟩⟩⟩⟩⟩⟩
      unfold wpX11_count
      refine hi 11 (by decide) (by decide) ⟨fun _ => ?_, fun z => absurd rfl z⟩
      refine ⟨fun z => absurd z (by decide), fun _ => ⟨fun z => absurd z (by decide), fun _ => ⟨fun z => absurd z (by decide), fun _ => ⟨fun z => absurd z (by decide), fun _ => ⟨fun _ => ?_, fun z => absurd rfl z⟩⟩⟩⟩⟩
      rw [show nI 11 - (8 : Int32) = nI 3 from pk_sub (a := 11) (b := 8) (by omega)]
      exact m_howMany hF hGm.1 hRm.1.2.2.1 hok.now (h := 3) (by omega) (ro_ok hI2 hk _)
    · refine ⟨fun z => absurd z (by decide), fun _ => ⟨fun z => absurd z (by decide), fun _ => ⟨fun z => absurd z (by decide), fun _ => ⟨fun z => absurd z (by decide), fun _ => ⟨fun z => absurd z (by decide), fun _ => ⟨fun z => absurd z (by decide), fun _ => ⟨fun z => absurd z (by decide), fun _ => ⟨fun z => absurd z (by decide), fun _ => ⟨fun z => absurd z (by decide), fun _ => ⟨fun z => absurd z (by decide), fun _ => ⟨fun z => absurd z (by decide), fun _ => ⟨fun z => absurd z (by decide), fun _ => ⟨fun _ => ⟨hv.h1, ?_⟩, fun z => absurd rfl z⟩⟩⟩⟩⟩⟩⟩⟩⟩⟩⟩⟩⟩
      unfold wpX11_count
      refine hi 12 (by decide) (by decide) ⟨fun _ => ?_, fun z => absurd rfl z⟩
      rw [hT.2.1, hT.2.2.1]
      exact ⟨fun z => absurd z (by decide), fun _ => ⟨fun z => absurd z (by decide), fun _ => ⟨fun z => absurd z (by decide), fun _ => ⟨fun z => absurd z (by decide), fun _ => ⟨fun z => absurd z (by decide), fun _ => ⟨fun _ => ro_ok hI2 hk _, fun z => absurd rfl z⟩⟩⟩⟩⟩⟩
    · refine ⟨fun z => absurd z (by decide), fun _ => ⟨fun z => absurd z (by decide), fun _ => ⟨fun z => absurd z (by decide), fun _ => ⟨fun z => absurd z (by decide), fun _ => ⟨fun z => absurd z (by decide), fun _ => ⟨fun z => absurd z (by decide), fun _ => ⟨fun z => absurd z (by decide), fun _ => ⟨fun z => absurd z (by decide), fun _ => ⟨fun z => absurd z (by decide), fun _ => ⟨fun z => absurd z (by decide), fun _ => ⟨fun z => absurd z (by decide), fun _ => ⟨fun z => absurd z (by decide), fun _ => ⟨fun z => absurd z (by decide), fun _ => ⟨fun _ => ⟨hv.h1, ?_⟩, fun z => absurd rfl z⟩⟩⟩⟩⟩⟩⟩⟩⟩⟩⟩⟩⟩⟩
      unfold wpX11_count
      refine hi 13 (by decide) (by decide) ⟨fun _ => ?_, fun z => absurd rfl z⟩
      rw [show nI 13 - (13 : Int32) = nI 0 from pk_sub (a := 13) (b := 13) (by omega), nI_clamp (by omega), hs5]
      exact ⟨fun z => absurd z (by decide), fun _ => ⟨fun z => absurd z (by decide), fun _ => ⟨fun z => absurd z (by decide), fun _ => ⟨fun z => absurd z (by decide), fun _ => ⟨fun z => absurd z (by decide), fun _ => ⟨fun z => absurd z (by decide), fun _ => ⟨fun _ => ⟨vp_in_nI (by omega) (by omega), ro_ok hI2 hk _⟩, fun z => absurd rfl z⟩⟩⟩⟩⟩⟩⟩
    · refine ⟨fun z => absurd z (by decide), fun _ => ⟨fun z => absurd z (by decide), fun _ => ⟨fun z => absurd z (by decide), fun _ => ⟨fun z => absurd z (by decide), fun _ => ⟨fun z => absurd z (by decide), fun _ => ⟨fun z => absurd z (by decide), fun _ => ⟨fun z => absurd z (by decide), fun _ => ⟨fun z => absurd z (by decide), fun _ => ⟨fun z => absurd z (by decide), fun _ => ⟨fun z => absurd z (by decide), fun _ => ⟨fun z => absurd z (by decide), fun _ => ⟨fun z => absurd z (by decide), fun _ => ⟨fun z => absurd z (by decide), fun _ => ⟨fun z => absurd z (by decide), fun _ => ⟨fun _ => ⟨hv.h1, ?_⟩, fun z => absurd rfl z⟩⟩⟩⟩⟩⟩⟩⟩⟩⟩⟩⟩⟩⟩⟩
      unfold wpX11_count
      refine hi 14 (by decide) (by decide) ⟨fun _ => ?_, fun z => absurd rfl z⟩
      rw [show nI 14 - (13 : Int32) = nI 1 from pk_sub (a := 14) (b := 13) (by omega), nI_clamp (by omega), hs6]
      exact ⟨fun z => absurd z (by decide), fun _ => ⟨fun z => absurd z (by decide), fun _ => ⟨fun z => absurd z (by decide), fun _ => ⟨fun z => absurd z (by decide), fun _ => ⟨fun z => absurd z (by decide), fun _ => ⟨fun z => absurd z (by decide), fun _ => ⟨fun z => absurd z (by decide), fun _ => ⟨fun _ => ⟨vp_in_nI (by omega) (by omega), ro_ok hI2 hk _⟩, fun z => absurd rfl z⟩⟩⟩⟩⟩⟩⟩⟩
  · unfold wpX10_count
    refine ⟨fun z => absurd ⟨0, by decide, z⟩ hx, fun _ => ⟨fun z => absurd ⟨1, by decide, z⟩ hx, fun _ => ⟨fun z => absurd ⟨2, by decide, z⟩ hx, fun _ => ⟨fun z => absurd ⟨3, by decide, z⟩ hx, fun _ => ⟨fun z => absurd ⟨4, by decide, z⟩ hx, fun _ => ⟨fun z => absurd ⟨5, by decide, z⟩ hx, fun _ => ⟨fun z => absurd ⟨6, by decide, z⟩ hx, fun _ => ⟨fun z => absurd ⟨7, by decide, z⟩ hx, fun _ => ⟨fun z => absurd ⟨8, by decide, z⟩ hx, fun _ => ⟨fun z => absurd ⟨9, by decide, z⟩ hx, fun _ => ⟨fun z => absurd ⟨10, by decide, z⟩ hx, fun _ => ⟨fun z => absurd ⟨11, by decide, z⟩ hx, fun _ => ⟨fun z => absurd ⟨12, by decide, z⟩ hx, fun _ => ⟨fun z => absurd ⟨13, by decide, z⟩ hx, fun _ => ⟨fun z => absurd ⟨14, by decide, z⟩ hx, fun _ => ⟨rfl, hv.h1, ?_⟩⟩⟩⟩⟩⟩⟩⟩⟩⟩⟩⟩⟩⟩⟩⟩
    unfold wpX11_count wpX11_fail
    refine m_rangeL (b := 6) rfl (by decide) (fun c q1 q2 => absurd ⟨c, by omega, q2⟩ hx) (fun _ => ⟨fun _ => ?_, fun z => absurd rfl z⟩)
    exact ⟨fun z => absurd ⟨7, by decide, z⟩ hx, fun _ => ⟨fun z => absurd ⟨8, by decide, z⟩ hx, fun _ => ⟨fun z => absurd ⟨9, by decide, z⟩ hx, fun _ => ⟨fun z => absurd ⟨10, by decide, z⟩ hx, fun _ => ⟨fun z => absurd ⟨11, by decide, z⟩ hx, fun _ => ⟨fun z => absurd ⟨12, by decide, z⟩ hx, fun _ => ⟨fun z => absurd ⟨13, by decide, z⟩ hx, fun _ => ⟨fun z => absurd ⟨14, by decide, z⟩ hx, fun _ => ro_th hI2 hk _ _⟩⟩⟩⟩⟩⟩⟩⟩
