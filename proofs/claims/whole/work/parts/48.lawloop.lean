def wpLaw (xs : Nat → Int32) (L : Nat) : Nat → ST → ST → Int32 → Prop
  | 0, _, _, _ => False
  | nf + 1, cs, ms, l4 => ¬ (Int32.ofNat L - (6 : Int32)) < l4 → vp_in l4 L ∧ (((xs l4.toNatClampNeg) &&& (31 : Int32)) = (0 : Int32) → ∀ ov : Int32, wpC0 xs L cs ms ov l4 (fun cs ms => wpLaw xs L nf cs ms (l4 + (6 : Int32)))) ∧ (¬ ((xs l4.toNatClampNeg) &&& (31 : Int32)) = (0 : Int32) → (((xs l4.toNatClampNeg) &&& (31 : Int32)) = (1 : Int32) → ∀ ov : Int32, wpC1 xs L cs ms ov l4 (fun cs ms => wpLaw xs L nf cs ms (l4 + (6 : Int32)))) ∧ (¬ ((xs l4.toNatClampNeg) &&& (31 : Int32)) = (1 : Int32) → (((xs l4.toNatClampNeg) &&& (31 : Int32)) = (2 : Int32) → ∀ ov : Int32, wpC2 xs L cs ms ov l4 (fun cs ms => wpLaw xs L nf cs ms (l4 + (6 : Int32)))) ∧ (¬ ((xs l4.toNatClampNeg) &&& (31 : Int32)) = (2 : Int32) → (((xs l4.toNatClampNeg) &&& (31 : Int32)) = (3 : Int32) → ∀ ov : Int32, wpC3 xs L cs ms ov l4 (fun cs ms => wpLaw xs L nf cs ms (l4 + (6 : Int32)))) ∧ (¬ ((xs l4.toNatClampNeg) &&& (31 : Int32)) = (3 : Int32) → (((xs l4.toNatClampNeg) &&& (31 : Int32)) = (4 : Int32) → ∀ ov : Int32, wpC4 xs L cs ms ov l4 (fun cs ms => wpLaw xs L nf cs ms (l4 + (6 : Int32)))) ∧ (¬ ((xs l4.toNatClampNeg) &&& (31 : Int32)) = (4 : Int32) → (((xs l4.toNatClampNeg) &&& (31 : Int32)) = (5 : Int32) → ∀ ov : Int32, wpC5 xs L cs ms ov l4 (fun cs ms => wpLaw xs L nf cs ms (l4 + (6 : Int32)))) ∧ (¬ ((xs l4.toNatClampNeg) &&& (31 : Int32)) = (5 : Int32) → (((xs l4.toNatClampNeg) &&& (31 : Int32)) = (6 : Int32) → ∀ ov : Int32, wpC6 xs L cs ms ov l4 (fun cs ms => wpLaw xs L nf cs ms (l4 + (6 : Int32)))) ∧ (¬ ((xs l4.toNatClampNeg) &&& (31 : Int32)) = (6 : Int32) → (((xs l4.toNatClampNeg) &&& (31 : Int32)) = (7 : Int32) → ∀ ov : Int32, wpC7 xs L cs ms ov l4 (fun cs ms => wpLaw xs L nf cs ms (l4 + (6 : Int32)))) ∧ (¬ ((xs l4.toNatClampNeg) &&& (31 : Int32)) = (7 : Int32) → (((xs l4.toNatClampNeg) &&& (31 : Int32)) = (8 : Int32) → ∀ ov : Int32, wpC8 xs L cs ms ov l4 (fun cs ms => wpLaw xs L nf cs ms (l4 + (6 : Int32)))) ∧ (¬ ((xs l4.toNatClampNeg) &&& (31 : Int32)) = (8 : Int32) → (((xs l4.toNatClampNeg) &&& (31 : Int32)) = (9 : Int32) → ∀ ov : Int32, wpC9 xs L cs ms ov l4 (fun cs ms => wpLaw xs L nf cs ms (l4 + (6 : Int32)))) ∧ (¬ ((xs l4.toNatClampNeg) &&& (31 : Int32)) = (9 : Int32) → (((xs l4.toNatClampNeg) &&& (31 : Int32)) = (10 : Int32) → ∀ ov : Int32, wpC10 xs L cs ms ov l4 (fun cs ms => wpLaw xs L nf cs ms (l4 + (6 : Int32)))) ∧ (¬ ((xs l4.toNatClampNeg) &&& (31 : Int32)) = (10 : Int32) → (((xs l4.toNatClampNeg) &&& (31 : Int32)) = (11 : Int32) → ∀ ov : Int32, wpC11 xs L cs ms ov l4 (fun cs ms => wpLaw xs L nf cs ms (l4 + (6 : Int32)))) ∧ (¬ ((xs l4.toNatClampNeg) &&& (31 : Int32)) = (11 : Int32) → (((xs l4.toNatClampNeg) &&& (31 : Int32)) = (12 : Int32) → ∀ ov : Int32, wpC12 xs L cs ms ov l4 (fun cs ms => wpLaw xs L nf cs ms (l4 + (6 : Int32)))) ∧ (¬ ((xs l4.toNatClampNeg) &&& (31 : Int32)) = (12 : Int32) → (((xs l4.toNatClampNeg) &&& (31 : Int32)) = (13 : Int32) → ∀ ov : Int32, wpC13 xs L cs ms ov l4 (fun cs ms => wpLaw xs L nf cs ms (l4 + (6 : Int32)))) ∧ (¬ ((xs l4.toNatClampNeg) &&& (31 : Int32)) = (13 : Int32) → (((xs l4.toNatClampNeg) &&& (31 : Int32)) = (14 : Int32) → ∀ ov : Int32, wpC14 xs L cs ms ov l4 (fun cs ms => wpLaw xs L nf cs ms (l4 + (6 : Int32)))) ∧ (¬ ((xs l4.toNatClampNeg) &&& (31 : Int32)) = (14 : Int32) → (((xs l4.toNatClampNeg) &&& (31 : Int32)) = (15 : Int32) → ∀ ov : Int32, wpC15 xs L cs ms ov l4 (fun cs ms => wpLaw xs L nf cs ms (l4 + (6 : Int32)))) ∧ (¬ ((xs l4.toNatClampNeg) &&& (31 : Int32)) = (15 : Int32) → (((xs l4.toNatClampNeg) &&& (31 : Int32)) = (16 : Int32) → ∀ ov : Int32, wpC16 xs L cs ms ov l4 (fun cs ms => wpLaw xs L nf cs ms (l4 + (6 : Int32)))) ∧ (¬ ((xs l4.toNatClampNeg) &&& (31 : Int32)) = (16 : Int32) → (((xs l4.toNatClampNeg) &&& (31 : Int32)) = (17 : Int32) → ∀ ov : Int32, wpC17 xs L cs ms ov l4 (fun cs ms => wpLaw xs L nf cs ms (l4 + (6 : Int32)))) ∧ (¬ ((xs l4.toNatClampNeg) &&& (31 : Int32)) = (17 : Int32) → (((xs l4.toNatClampNeg) &&& (31 : Int32)) = (18 : Int32) → ∀ ov : Int32, wpC18 xs L cs ms ov l4 (fun cs ms => wpLaw xs L nf cs ms (l4 + (6 : Int32)))) ∧ (¬ ((xs l4.toNatClampNeg) &&& (31 : Int32)) = (18 : Int32) → (((xs l4.toNatClampNeg) &&& (31 : Int32)) = (19 : Int32) → ∀ ov : Int32, wpC19 xs L cs ms ov l4 (fun cs ms => wpLaw xs L nf cs ms (l4 + (6 : Int32)))) ∧ (¬ ((xs l4.toNatClampNeg) &&& (31 : Int32)) = (19 : Int32) → (((xs l4.toNatClampNeg) &&& (31 : Int32)) = (20 : Int32) → ∀ ov : Int32, wpC20 xs L cs ms ov l4 (fun cs ms => wpLaw xs L nf cs ms (l4 + (6 : Int32)))) ∧ (¬ ((xs l4.toNatClampNeg) &&& (31 : Int32)) = (20 : Int32) → (((xs l4.toNatClampNeg) &&& (31 : Int32)) = (21 : Int32) → ∀ ov : Int32, wpC21 xs L cs ms ov l4 (fun cs ms => wpLaw xs L nf cs ms (l4 + (6 : Int32)))) ∧ (¬ ((xs l4.toNatClampNeg) &&& (31 : Int32)) = (21 : Int32) → (((xs l4.toNatClampNeg) &&& (31 : Int32)) = (22 : Int32) → ∀ ov : Int32, wpC22 xs L cs ms ov l4 (fun cs ms => wpLaw xs L nf cs ms (l4 + (6 : Int32)))) ∧ (¬ ((xs l4.toNatClampNeg) &&& (31 : Int32)) = (22 : Int32) → (((xs l4.toNatClampNeg) &&& (31 : Int32)) = (23 : Int32) → ∀ ov : Int32, wpC23 xs L cs ms ov l4 (fun cs ms => wpLaw xs L nf cs ms (l4 + (6 : Int32)))) ∧ (¬ ((xs l4.toNatClampNeg) &&& (31 : Int32)) = (23 : Int32) → (((xs l4.toNatClampNeg) &&& (31 : Int32)) = (24 : Int32) → ∀ ov : Int32, wpC24 xs L cs ms ov l4 (fun cs ms => wpLaw xs L nf cs ms (l4 + (6 : Int32)))) ∧ (¬ ((xs l4.toNatClampNeg) &&& (31 : Int32)) = (24 : Int32) → wpLaw xs L nf cs ms (l4 + (6 : Int32)))))))))))))))))))))))))))
section LawLoop
variable {p : Program} {l : Launch} {e : Env} {R : Room} {s : State} {m : MethodId} {args : Array Value} {below : List Frame} {meth : Method} {c : Code} {QQ : State → Prop} {D : va_G} {cy : Nat → ClassId} {ev : Nat → Nat} {A : Nat → Prop} {b L : Nat} {xs : Nat → Int32}
set_option maxHeartbeats 4000000 in
set_option maxRecDepth 100000 in
theorem lw_loop (F : LawFix p l R s m args c D cy ev A b L xs) (aS aM aO : Nat) (rr : Nat → Nat → Nat) (CE SE : Nat) (hCE : CE ≤ R.cells) (hSE : SE ≤ R.slots) (hend : ∀ (cs ms : ST) (rR : Nat → Nat) (ov l4 : Int32) (H : Heap) (locs : List Loc) (ls : Array Slot), va_P D clsX (wL cy ev aS aM aO rr rR cs ms ov) H → va_D A (wL cy ev aS aM aO rr rR cs ms ov) → va_S A s.heap H locs → W p l e R s m args below meth c H locs CE SE QQ (F0 m 1464 ls [])) :
    ∀ (nf : Nat) (cs ms : ST) (rR : Nat → Nat) (ov l4 : Int32) (cells slots : Nat) (H : Heap) (locs : List Loc) (ls : Array Slot), cells + 3 * nf ≤ CE → slots + 18 * nf ≤ SE → wpLaw xs L nf cs ms l4 → va_P D clsX (wL cy ev aS aM aO rr rR cs ms ov) H → va_D A (wL cy ev aS aM aO rr rR cs ms ov) → va_S A s.heap H locs → lv_has ls 7 [(0, .ref b), (1, .ref aS), (2, .ref aM), (3, .ref aO), (4, .int l4)] → W p l e R s m args below meth c H locs cells slots QQ (F0 m 23 ls []) := by
  intro nf
  induction nf with
  | zero =>
    intro cs ms rR ov l4 cells slots H locs ls _ _ h
    exact (show False from h).elim
  | succ nf ih =>
    intro cs ms rR ov l4 cells slots H locs ls hc1 hc2 h hP hD hS hl
    have F9 := F
    obtain ⟨hx, hb, hml, hown, hts, hE, hT, hN, hK, hA, hst, hX, hbl, hbA, hRf, hRl⟩ := F9
    have hback : ∀ (cs ms : ST) (rR : Nat → Nat) (ov : Int32) (H : Heap) (locs : List Loc) (ls : Array Slot), wpLaw xs L nf cs ms (l4 + (6 : Int32)) → va_P D clsX (wL cy ev aS aM aO rr rR cs ms ov) H → va_D A (wL cy ev aS aM aO rr rR cs ms ov) → va_S A s.heap H locs → lv_has ls 7 [(0, .ref b), (1, .ref aS), (2, .ref aM), (3, .ref aO), (4, .int l4)] → W p l e R s m args below meth c H locs (cells + 3) (slots + 18) QQ (F0 m 1458 ls []) := by
      intro cs ms rR ov H locs ls h hP hD hS hl
      obtain ⟨l5, e5⟩ : ∃ y : Int32, y = l4 + (6 : Int32) := ⟨_, rfl⟩
      refine lv_iinc (v := l5) (lv' := [(4, .int l5), (0, .ref b), (1, .ref aS), (2, .ref aM), (3, .ref aO)]) hx hb dL_law_1458 hl (k := 4) rfl (by rw [e5]; rfl) (by decide) rfl (fun ls hl => ?_)
      refine lv_goto (tgt := 23) hx hb dL_law_1461 (by decide) ?_
      rw [← e5] at h
      exact ih cs ms rR ov l5 _ _ H locs ls (by omega) (by omega) h hP hD hS (lv_sub hl [1, 2, 3, 4, 0] rfl)
    refine lv_iload hx hb dL_law_23 (lv_at hl 4 rfl) ?_
    refine lv_aload_n hx hb dL_law_25 rfl (lv_at hl 0 rfl) ?_
    refine va_slen hx hb hX hbl hbA hS dL_law_26 ?_
    refine lv_bipush (v := (6 : Int32)) hx hb dL_law_27 (by decide) ?_
    refine lv_isub hx hb dL_law_29 ?_
    refine lv_icmp_gt (tgt := 1464) hx hb dL_law_30 (by decide) (fun c30 => ?_) (fun c30 => ?_)
    · refine W.widen (k := CE) (n := SE) (by omega) (by omega) ?_
      exact hend cs ms rR ov l4 H locs ls hP hD hS
    · have h := h c30
      obtain ⟨hin, h⟩ := h
      refine lv_aload_n hx hb dL_law_33 rfl (lv_at hl 0 rfl) ?_
      refine lv_iload hx hb dL_law_34 (lv_at hl 4 rfl) ?_
      refine va_sld hx hb hX hbl hbA hS hin dL_law_36 ?_
      refine lv_bipush (v := (31 : Int32)) hx hb dL_law_37 (by decide) ?_
      refine lv_iand hx hb dL_law_39 ?_
      generalize hw : (xs l4.toNatClampNeg) &&& (31 : Int32) = w at h ⊢
      by_cases c40_0 : w = (0 : Int32)
      · have h := h.1 c40_0 ov
        refine lv_tableIn (off := 116) (tgt := 156) hx hb dL_law_40 (by rw [c40_0]; decide) (by rw [c40_0]; decide) (by rw [c40_0]; rfl) (by decide) ?_
        exact lw_c0 F aS aM aO rr rR cs ms ov l4 _ cells slots (by omega) (by omega) hback H locs ls h hP hD hS hl
      have h := h.2 c40_0
      by_cases c40_1 : w = (1 : Int32)
      · have h := h.1 c40_1 ov
        refine lv_tableIn (off := 189) (tgt := 229) hx hb dL_law_40 (by rw [c40_1]; decide) (by rw [c40_1]; decide) (by rw [c40_1]; rfl) (by decide) ?_
        exact lw_c1 F aS aM aO rr rR cs ms ov l4 _ cells slots (by omega) (by omega) hback H locs ls h hP hD hS hl
      have h := h.2 c40_1
      by_cases c40_2 : w = (2 : Int32)
      · have h := h.1 c40_2 ov
        refine lv_tableIn (off := 245) (tgt := 285) hx hb dL_law_40 (by rw [c40_2]; decide) (by rw [c40_2]; decide) (by rw [c40_2]; rfl) (by decide) ?_
        exact lw_c2 F aS aM aO rr rR cs ms ov l4 _ cells slots (by omega) (by omega) hback H locs ls h hP hD hS hl
      have h := h.2 c40_2
      by_cases c40_3 : w = (3 : Int32)
      · have h := h.1 c40_3 ov
        refine lv_tableIn (off := 301) (tgt := 341) hx hb dL_law_40 (by rw [c40_3]; decide) (by rw [c40_3]; decide) (by rw [c40_3]; rfl) (by decide) ?_
        exact lw_c3 F aS aM aO rr rR cs ms ov l4 _ cells slots (by omega) (by omega) hback H locs ls h hP hD hS hl
      have h := h.2 c40_3
      by_cases c40_4 : w = (4 : Int32)
      · have h := h.1 c40_4 ov
        refine lv_tableIn (off := 314) (tgt := 354) hx hb dL_law_40 (by rw [c40_4]; decide) (by rw [c40_4]; decide) (by rw [c40_4]; rfl) (by decide) ?_
        exact lw_c4 F aS aM aO rr rR cs ms ov l4 _ cells slots (by omega) (by omega) hback H locs ls h hP hD hS hl
      have h := h.2 c40_4
      by_cases c40_5 : w = (5 : Int32)
      · have h := h.1 c40_5 ov
        refine lv_tableIn (off := 370) (tgt := 410) hx hb dL_law_40 (by rw [c40_5]; decide) (by rw [c40_5]; decide) (by rw [c40_5]; rfl) (by decide) ?_
        exact lw_c5 F aS aM aO rr rR cs ms ov l4 _ cells slots (by omega) (by omega) hback H locs ls h hP hD hS hl
      have h := h.2 c40_5
      by_cases c40_6 : w = (6 : Int32)
      · have h := h.1 c40_6 ov
        refine lv_tableIn (off := 438) (tgt := 478) hx hb dL_law_40 (by rw [c40_6]; decide) (by rw [c40_6]; decide) (by rw [c40_6]; rfl) (by decide) ?_
        exact lw_c6 F aS aM aO rr rR cs ms ov l4 _ cells slots (by omega) (by omega) hback H locs ls h hP hD hS hl
      have h := h.2 c40_6
      by_cases c40_7 : w = (7 : Int32)
      · have h := h.1 c40_7 ov
        refine lv_tableIn (off := 506) (tgt := 546) hx hb dL_law_40 (by rw [c40_7]; decide) (by rw [c40_7]; decide) (by rw [c40_7]; rfl) (by decide) ?_
        exact lw_c7 F aS aM aO rr rR cs ms ov l4 _ cells slots (by omega) (by omega) hback H locs ls h hP hD hS hl
      have h := h.2 c40_7
      by_cases c40_8 : w = (8 : Int32)
      · have h := h.1 c40_8 ov
        refine lv_tableIn (off := 574) (tgt := 614) hx hb dL_law_40 (by rw [c40_8]; decide) (by rw [c40_8]; decide) (by rw [c40_8]; rfl) (by decide) ?_
        exact lw_c8 F aS aM aO rr rR cs ms ov l4 _ cells slots (by omega) (by omega) hback H locs ls h hP hD hS hl
      have h := h.2 c40_8
      by_cases c40_9 : w = (9 : Int32)
      · have h := h.1 c40_9 ov
        refine lv_tableIn (off := 630) (tgt := 670) hx hb dL_law_40 (by rw [c40_9]; decide) (by rw [c40_9]; decide) (by rw [c40_9]; rfl) (by decide) ?_
        exact lw_c9 F aS aM aO rr rR cs ms ov l4 _ cells slots (by omega) (by omega) hback H locs ls h hP hD hS hl
      have h := h.2 c40_9
      by_cases c40_10 : w = (10 : Int32)
      · have h := h.1 c40_10 ov
        refine lv_tableIn (off := 655) (tgt := 695) hx hb dL_law_40 (by rw [c40_10]; decide) (by rw [c40_10]; decide) (by rw [c40_10]; rfl) (by decide) ?_
        exact lw_c10 F aS aM aO rr rR cs ms ov l4 _ cells slots (by omega) (by omega) hback H locs ls h hP hD hS hl
      have h := h.2 c40_10
      by_cases c40_11 : w = (11 : Int32)
      · have h := h.1 c40_11 ov
        refine lv_tableIn (off := 723) (tgt := 763) hx hb dL_law_40 (by rw [c40_11]; decide) (by rw [c40_11]; decide) (by rw [c40_11]; rfl) (by decide) ?_
        exact lw_c11 F aS aM aO rr rR cs ms ov l4 _ cells slots (by omega) (by omega) hback H locs ls h hP hD hS hl
      have h := h.2 c40_11
      by_cases c40_12 : w = (12 : Int32)
      · have h := h.1 c40_12 ov
        refine lv_tableIn (off := 736) (tgt := 776) hx hb dL_law_40 (by rw [c40_12]; decide) (by rw [c40_12]; decide) (by rw [c40_12]; rfl) (by decide) ?_
        exact lw_c12 F aS aM aO rr rR cs ms ov l4 _ cells slots (by omega) (by omega) hback H locs ls h hP hD hS hl
      have h := h.2 c40_12
      by_cases c40_13 : w = (13 : Int32)
      · have h := h.1 c40_13 ov
        refine lv_tableIn (off := 749) (tgt := 789) hx hb dL_law_40 (by rw [c40_13]; decide) (by rw [c40_13]; decide) (by rw [c40_13]; rfl) (by decide) ?_
        exact lw_c13 F aS aM aO rr rR cs ms ov l4 _ cells slots (by omega) (by omega) hback H locs ls h hP hD hS hl
      have h := h.2 c40_13
      by_cases c40_14 : w = (14 : Int32)
      · have h := h.1 c40_14 ov
        refine lv_tableIn (off := 817) (tgt := 857) hx hb dL_law_40 (by rw [c40_14]; decide) (by rw [c40_14]; decide) (by rw [c40_14]; rfl) (by decide) ?_
        exact lw_c14 F aS aM aO rr rR cs ms ov l4 _ cells slots (by omega) (by omega) hback H locs ls h hP hD hS hl
      have h := h.2 c40_14
      by_cases c40_15 : w = (15 : Int32)
      · have h := h.1 c40_15 ov
        refine lv_tableIn (off := 830) (tgt := 870) hx hb dL_law_40 (by rw [c40_15]; decide) (by rw [c40_15]; decide) (by rw [c40_15]; rfl) (by decide) ?_
        exact lw_c15 F aS aM aO rr rR cs ms ov l4 _ cells slots (by omega) (by omega) hback H locs ls h hP hD hS hl
      have h := h.2 c40_15
      by_cases c40_16 : w = (16 : Int32)
      · have h := h.1 c40_16 ov
        refine lv_tableIn (off := 942) (tgt := 982) hx hb dL_law_40 (by rw [c40_16]; decide) (by rw [c40_16]; decide) (by rw [c40_16]; rfl) (by decide) ?_
        exact lw_c16 F aS aM aO rr rR cs ms ov l4 _ cells slots (by omega) (by omega) hback H locs ls h hP hD hS hl
      have h := h.2 c40_16
      by_cases c40_17 : w = (17 : Int32)
      · have h := h.1 c40_17 ov
        refine lv_tableIn (off := 998) (tgt := 1038) hx hb dL_law_40 (by rw [c40_17]; decide) (by rw [c40_17]; decide) (by rw [c40_17]; rfl) (by decide) ?_
        exact lw_c17 F aS aM aO rr rR cs ms ov l4 _ cells slots (by omega) (by omega) hback H locs ls h hP hD hS hl
      have h := h.2 c40_17
      by_cases c40_18 : w = (18 : Int32)
      · have h := h.1 c40_18 ov
        refine lv_tableIn (off := 1066) (tgt := 1106) hx hb dL_law_40 (by rw [c40_18]; decide) (by rw [c40_18]; decide) (by rw [c40_18]; rfl) (by decide) ?_
        exact lw_c18 F aS aM aO rr rR cs ms ov l4 _ cells slots (by omega) (by omega) hback H locs ls h hP hD hS hl
      have h := h.2 c40_18
      by_cases c40_19 : w = (19 : Int32)
      · have h := h.1 c40_19 ov
        refine lv_tableIn (off := 1122) (tgt := 1162) hx hb dL_law_40 (by rw [c40_19]; decide) (by rw [c40_19]; decide) (by rw [c40_19]; rfl) (by decide) ?_
        exact lw_c19 F aS aM aO rr rR cs ms ov l4 _ cells slots (by omega) (by omega) hback H locs ls h hP hD hS hl
      have h := h.2 c40_19
      by_cases c40_20 : w = (20 : Int32)
      · have h := h.1 c40_20 ov
        refine lv_tableIn (off := 1178) (tgt := 1218) hx hb dL_law_40 (by rw [c40_20]; decide) (by rw [c40_20]; decide) (by rw [c40_20]; rfl) (by decide) ?_
        exact lw_c20 F aS aM aO rr rR cs ms ov l4 _ cells slots (by omega) (by omega) hback H locs ls h hP hD hS hl
      have h := h.2 c40_20
      by_cases c40_21 : w = (21 : Int32)
      · have h := h.1 c40_21 ov
        refine lv_tableIn (off := 1246) (tgt := 1286) hx hb dL_law_40 (by rw [c40_21]; decide) (by rw [c40_21]; decide) (by rw [c40_21]; rfl) (by decide) ?_
        exact lw_c21 F aS aM aO rr rR cs ms ov l4 _ cells slots (by omega) (by omega) hback H locs ls h hP hD hS hl
      have h := h.2 c40_21
      by_cases c40_22 : w = (22 : Int32)
      · have h := h.1 c40_22 ov
        refine lv_tableIn (off := 1326) (tgt := 1366) hx hb dL_law_40 (by rw [c40_22]; decide) (by rw [c40_22]; decide) (by rw [c40_22]; rfl) (by decide) ?_
        exact lw_c22 F aS aM aO rr rR cs ms ov l4 _ cells slots (by omega) (by omega) hback H locs ls h hP hD hS hl
      have h := h.2 c40_22
      by_cases c40_23 : w = (23 : Int32)
      · have h := h.1 c40_23 ov
        refine lv_tableIn (off := 1394) (tgt := 1434) hx hb dL_law_40 (by rw [c40_23]; decide) (by rw [c40_23]; decide) (by rw [c40_23]; rfl) (by decide) ?_
        exact lw_c23 F aS aM aO rr rR cs ms ov l4 _ cells slots (by omega) (by omega) hback H locs ls h hP hD hS hl
      have h := h.2 c40_23
      by_cases c40_24 : w = (24 : Int32)
      · have h := h.1 c40_24 ov
        refine lv_tableIn (off := 1405) (tgt := 1445) hx hb dL_law_40 (by rw [c40_24]; decide) (by rw [c40_24]; decide) (by rw [c40_24]; rfl) (by decide) ?_
        exact lw_c24 F aS aM aO rr rR cs ms ov l4 _ cells slots (by omega) (by omega) hback H locs ls h hP hD hS hl
      have h := h.2 c40_24
      have k0 := ne_iN (n := 0) (by decide) c40_0
      have k1 := ne_iN (n := 1) (by decide) c40_1
      have k2 := ne_iN (n := 2) (by decide) c40_2
      have k3 := ne_iN (n := 3) (by decide) c40_3
      have k4 := ne_iN (n := 4) (by decide) c40_4
      have k5 := ne_iN (n := 5) (by decide) c40_5
      have k6 := ne_iN (n := 6) (by decide) c40_6
      have k7 := ne_iN (n := 7) (by decide) c40_7
      have k8 := ne_iN (n := 8) (by decide) c40_8
      have k9 := ne_iN (n := 9) (by decide) c40_9
      have k10 := ne_iN (n := 10) (by decide) c40_10
      have k11 := ne_iN (n := 11) (by decide) c40_11
      have k12 := ne_iN (n := 12) (by decide) c40_12
      have k13 := ne_iN (n := 13) (by decide) c40_13
      have k14 := ne_iN (n := 14) (by decide) c40_14
      have k15 := ne_iN (n := 15) (by decide) c40_15
      have k16 := ne_iN (n := 16) (by decide) c40_16
      have k17 := ne_iN (n := 17) (by decide) c40_17
      have k18 := ne_iN (n := 18) (by decide) c40_18
      have k19 := ne_iN (n := 19) (by decide) c40_19
      have k20 := ne_iN (n := 20) (by decide) c40_20
      have k21 := ne_iN (n := 21) (by decide) c40_21
      have k22 := ne_iN (n := 22) (by decide) c40_22
      have k23 := ne_iN (n := 23) (by decide) c40_23
      have k24 := ne_iN (n := 24) (by decide) c40_24
      refine lv_tableOut (tgt := 1458) hx hb dL_law_40 (by omega) (by decide) ?_
      refine W.widen (k := cells + 3) (n := slots + 18) (by omega) (by omega) ?_
      exact hback cs ms rR ov H locs ls h hP hD hS hl
end LawLoop
