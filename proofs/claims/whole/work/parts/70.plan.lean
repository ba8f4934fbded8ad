/-! sums and products -/
def sm (f : Nat → Nat) : Nat → Nat
  | 0 => 0
  | n + 1 => sm f n + f n
def pr (f : Nat → Nat) : Nat → Nat
  | 0 => 1
  | n + 1 => pr f n * f n
theorem sm_congr {f g : Nat → Nat} : ∀ n, (∀ i, i < n → f i = g i) → sm f n = sm g n := by
  intro n
  induction n with
  | zero => intro _; rfl
  | succ n ih => intro h; rw [sm, sm, ih (fun i hi => h i (by omega)), h n (by omega)]
theorem sm_le {f g : Nat → Nat} : ∀ n, (∀ i, i < n → f i ≤ g i) → sm f n ≤ sm g n := by
  intro n
  induction n with
  | zero => intro _; exact Nat.le_refl _
  | succ n ih =>
    intro h
    rw [sm, sm]
    have h1 := ih (fun i hi => h i (by omega))
    have h2 := h n (by omega)
    omega
theorem sm_mono (f : Nat → Nat) {a b : Nat} (h : a ≤ b) : sm f a ≤ sm f b := by
  obtain ⟨k, rfl⟩ : ∃ k, b = a + k := ⟨b - a, by omega⟩
  clear h
  induction k with
  | zero => exact Nat.le_refl _
  | succ k ih => rw [← Nat.add_assoc, sm]; omega
theorem sm_add (f g : Nat → Nat) : ∀ n, sm (fun i => f i + g i) n = sm f n + sm g n := by
  intro n
  induction n with
  | zero => rfl
  | succ n ih => rw [sm, sm, sm, ih]; omega
theorem sm_zero : ∀ n, sm (fun _ => 0) n = 0 := by
  intro n
  induction n with
  | zero => rfl
  | succ n ih => rw [sm, ih]
theorem sm_swap (g : Nat → Nat → Nat) (n : Nat) : ∀ k, sm (fun m => sm (fun p => g p m) k) n = sm (fun p => sm (fun m => g p m) n) k := by
  intro k
  induction k with
  | zero => rw [sm]; exact sm_zero n
  | succ k ih =>
    rw [sm, ← ih, ← sm_add]
    rfl
theorem sm_app (f : Nat → Nat) (a : Nat) : ∀ b, sm f (a + b) = sm f a + sm (fun i => f (a + i)) b := by
  intro b
  induction b with
  | zero => rfl
  | succ b ih => rw [← Nat.add_assoc, sm, sm, ih]; omega
theorem sm_mul (f : Nat → Nat) (c : Nat) : ∀ n, sm (fun i => f i * c) n = sm f n * c := by
  intro n
  induction n with
  | zero => rw [sm, sm, Nat.zero_mul]
  | succ n ih => rw [sm, sm, ih, Nat.add_mul]
theorem pr_congr {f g : Nat → Nat} : ∀ n, (∀ i, i < n → f i = g i) → pr f n = pr g n := by
  intro n
  induction n with
  | zero => intro _; rfl
  | succ n ih => intro h; rw [pr, pr, ih (fun i hi => h i (by omega)), h n (by omega)]
theorem pr_zero {f : Nat → Nat} : ∀ n, (∃ i, i < n ∧ f i = 0) → pr f n = 0 := by
  intro n
  induction n with
  | zero => rintro ⟨i, h, -⟩; omega
  | succ n ih =>
    rintro ⟨i, h1, h2⟩
    rw [pr]
    by_cases e : i = n
    · subst e; rw [h2, Nat.mul_zero]
    · rw [ih ⟨i, by omega, h2⟩, Nat.zero_mul]
theorem sm_pr (f : Nat → Nat → Nat) : ∀ T, sm (fun m => pr (fun t => f t (bt1 m t)) T) (2 ^ T) = pr (fun t => f t 0 + f t 1) T := by
  intro T
  induction T with
  | zero => rfl
  | succ T ih =>
    rw [Nat.pow_succ, Nat.mul_two, sm_app, pr]
    have h1 : sm (fun m => pr (fun t => f t (bt1 m t)) (T + 1)) (2 ^ T) = sm (fun m => pr (fun t => f t (bt1 m t)) T) (2 ^ T) * f T 0 := by
      rw [← sm_mul]
      refine sm_congr _ (fun m hm => ?_)
      show pr _ T * f T (bt1 m T) = _
      rw [bt1_hi hm (Nat.le_refl _)]
    have h2 : sm (fun i => (fun m => pr (fun t => f t (bt1 m t)) (T + 1)) (2 ^ T + i)) (2 ^ T) = sm (fun m => pr (fun t => f t (bt1 m t)) T) (2 ^ T) * f T 1 := by
      rw [← sm_mul]
      refine sm_congr _ (fun m hm => ?_)
      show pr _ T * f T (bt1 (2 ^ T + m) T) = pr _ T * f T 1
      rw [Nat.add_comm, bt1_top hm]
      congr 1
      exact pr_congr T (fun t ht => by rw [bt1_add hm t ht])
    rw [h1, h2, ih, ← Nat.mul_add]
/-! ways to ring -/
def wy : Nat → Nat → Nat
  | _, 0 => 1
  | l, p + 1 => wy l p + (if l = 0 then 0 else wy (l - 1) p)
theorem wy_big : ∀ p l l', p ≤ l → p ≤ l' → wy l p = wy l' p := by
  intro p
  induction p with
  | zero => intro l l' _ _; cases l <;> cases l' <;> rfl
  | succ p ih =>
    intro l l' h h'
    rw [wy, wy, if_neg (by omega), if_neg (by omega), ih l l' (by omega) (by omega), ih (l - 1) (l' - 1) (by omega) (by omega)]
theorem wy_le : ∀ p l, wy l p ≤ 2 ^ p := by
  intro p
  induction p with
  | zero => intro l; cases l <;> exact Nat.le_refl _
  | succ p ih =>
    intro l
    rw [wy, Nat.pow_succ]
    have h1 := ih l
    have h2 := ih (l - 1)
    split <;> omega
def bn : Nat → Nat → Nat
  | _, 0 => 1
  | p, r + 1 => bn p r * (p - r) / (r + 1)
theorem wy_bn : ∀ p, p ≤ 4 → ∀ l, l ≤ 5 → wy l p = sm (bn p) (min p l + 1) := by decide +kernel
theorem bn_le : ∀ p, p ≤ 4 → ∀ r, r ≤ 5 → bn p r ≤ 6 := by decide +kernel
theorem wy_eq {p l : Nat} (hp : p ≤ 4) : wy l p = sm (bn p) (min p l + 1) := by
  by_cases h : l ≤ 5
  · exact wy_bn p hp l h
  · rw [wy_big p l 5 (by omega) (by omega), wy_bn p hp 5 (by omega), Nat.min_eq_left (by omega), Nat.min_eq_left (by omega)]
theorem c_ways {l p : Nat} (hp : p ≤ 4) (hl : l < 2 ^ 30) {post : Int32 → Prop} (h : post (nI (wy l p))) : wpX6_waysToRing (nI l) (nI p) post := by
  rw [wy_eq hp] at h
  unfold wpX6_waysToRing
  refine loop_0 (fun n i (q : Int32 × Int32) => wpX6_waysToRing_L7 (nI l) (nI p) (fun l2_41 l3_41 l4_41 => post l2_41) post n q.1 q.2 (nI i)) (fun i q => q.1 = nI (sm (bn p) i) ∧ q.2 = nI (bn p i)) (min p l + 1) (nI 0, nI 1) ⟨rfl, by cases p <;> rfl⟩ ?_ ?_
  · rintro n ⟨q1, q2⟩ ⟨h1, h2⟩
    have h1 : q1 = nI (sm (bn p) (min p l + 1)) := h1
    subst h1
    show wpX6_waysToRing_L7 (nI l) (nI p) (fun l2_41 l3_41 l4_41 => post l2_41) post (n + 1) (nI (sm (bn p) (min p l + 1))) q2 (nI (min p l + 1))
    unfold wpX6_waysToRing_L7
    refine ⟨fun _ => h, fun _ => ⟨fun _ => h, fun z => ?_⟩⟩
    rename_i z1
    have z1 : ¬ p < min p l + 1 := fun q => z1 ((nI_ltI (by omega) (by omega)).mpr q)
    have z2 : ¬ l < min p l + 1 := fun q => z ((nI_ltI (by omega) (by omega)).mpr q)
    omega
  · rintro n i ⟨q1, q2⟩ hi ⟨h1, h2⟩ hnext
    have h1 : q1 = nI (sm (bn p) i) := h1
    have h2 : q2 = nI (bn p i) := h2
    subst h1 h2
    have hb := bn_le p hp i (by omega)
    have hb2 : bn p i * (p - i) ≤ 6 * 4 := Nat.mul_le_mul hb (by omega)
    show wpX6_waysToRing_L7 (nI l) (nI p) (fun l2_41 l3_41 l4_41 => post l2_41) post (n + 1) (nI (sm (bn p) i)) (nI (bn p i)) (nI i)
    unfold wpX6_waysToRing_L7
    rw [show nI i + (1 : Int32) = nI (i + 1) from nI_1 i, pk_sub (show i ≤ p by omega), pk_mul, pk_div (by omega) (by omega) (by omega)]
    refine ⟨fun z => absurd ((nI_ltI (by omega) (by omega)).mp z) (by omega), fun _ => ⟨fun z => absurd ((nI_ltI (by omega) (by omega)).mp z) (by omega), fun _ => nm_e ⟨nI_ne0 (by omega) (by omega), nm_e (nm_e (hnext (_, _) ⟨?_, rfl⟩))⟩⟩⟩
    show nI _ + nI _ = nI (sm (bn p) (i + 1))
    rw [nI_add, sm]
/-! the tree of strokes -/
def canB (P : FL) (bu m : Nat) (a : Nat → Nat) : Bool := decide (m &&& bu = 0 ∧ ∀ t, t < P 0 2 → bt1 m t ≤ a (24 + t))
def nd (P : FL) (bu : Nat) : Nat → (Nat → Nat) → Nat
  | 0, _ => 0
  | r + 1, a => sm (fun m => if canB P bu m a = true then 1 + nd P bu r (sk P m a) else 0) (2 ^ P 0 2)
def sqp (P : FL) (p : Nat) (a : Nat → Nat) : Nat := pr (fun t => wy (a (24 + t)) p) (P 0 2)
theorem sqp_0 (P : FL) (a : Nat → Nat) : sqp P 0 a = 1 := by
  unfold sqp
  generalize P 0 2 = T
  induction T with
  | zero => rfl
  | succ T ih => rw [pr, ih]; cases a (24 + T) <;> rfl
theorem sqp_s (P : FL) (p : Nat) (a : Nat → Nat) : sm (fun m => if canB P 0 m a = true then sqp P p (sk P m a) else 0) (2 ^ P 0 2) = sqp P (p + 1) a := by
  have h := sm_pr (fun t b => if b ≤ a (24 + t) then wy (a (24 + t) - b) p else 0) (P 0 2)
  have e : sqp P (p + 1) a = pr (fun t => (fun t b => if b ≤ a (24 + t) then wy (a (24 + t) - b) p else 0) t 0 + (fun t b => if b ≤ a (24 + t) then wy (a (24 + t) - b) p else 0) t 1) (P 0 2) := by
    unfold sqp
    refine pr_congr _ (fun t ht => ?_)
    show wy (a (24 + t)) (p + 1) = (if 0 ≤ a (24 + t) then wy (a (24 + t) - 0) p else 0) + (if 1 ≤ a (24 + t) then wy (a (24 + t) - 1) p else 0)
    rw [wy, if_pos (Nat.zero_le _), Nat.sub_zero]
    by_cases e : a (24 + t) = 0
    · rw [if_pos e, if_neg (by omega)]
    · rw [if_neg e, if_pos (by omega)]
  rw [e, ← h]
  refine sm_congr _ (fun m hm => ?_)
  by_cases ec : canB P 0 m a = true
  · rw [if_pos ec]
    have ec2 := of_decide_eq_true ec
    unfold sqp
    refine pr_congr _ (fun t ht => ?_)
    show wy (sk P m a (24 + t)) p = if bt1 m t ≤ a (24 + t) then wy (a (24 + t) - bt1 m t) p else 0
    rw [if_pos (ec2.2 t ht), sk_t]
  · rw [if_neg ec]
    refine (pr_zero _ ?_).symm
    apply Classical.byContradiction
    intro q
    refine ec (decide_eq_true ⟨Nat.and_zero m, fun t ht => ?_⟩)
    apply Classical.byContradiction
    intro q2
    refine q ⟨t, ht, ?_⟩
    show (if bt1 m t ≤ a (24 + t) then wy (a (24 + t) - bt1 m t) p else 0) = 0
    rw [if_neg q2]
theorem nd_eq (P : FL) : ∀ n a, nd P 0 n a = sm (fun p => sqp P (p + 1) a) n := by
  intro n
  induction n with
  | zero => intro a; rfl
  | succ n ih =>
    intro a
    rw [nd]
    have e : ∀ m, (if canB P 0 m a = true then 1 + nd P 0 n (sk P m a) else 0) = sm (fun p => if canB P 0 m a = true then sqp P p (sk P m a) else 0) (n + 1) := by
      intro m
      by_cases ec : canB P 0 m a = true
      · simp only [if_pos ec]
        rw [ih, show n + 1 = 1 + n by omega, sm_app]
        have : sm (fun p => sqp P p (sk P m a)) 1 = 1 := by
          show 0 + sqp P 0 (sk P m a) = 1
          rw [sqp_0]
        rw [this]
        congr 1
        exact sm_congr n (fun i _ => by rw [Nat.add_comm])
      · simp only [if_neg ec]
        exact (sm_zero _).symm
    rw [sm_congr (g := fun m => sm (fun p => if canB P 0 m a = true then sqp P p (sk P m a) else 0) (n + 1)) _ (fun m _ => e m), sm_swap (fun p m => if canB P 0 m a = true then sqp P p (sk P m a) else 0)]
    exact sm_congr _ (fun p _ => sqp_s P p a)
theorem sqp_le {P : FL} (hF : FlatOK P) {p : Nat} (hp : p ≤ 4) (a : Nat → Nat) : sqp P p a ≤ 2 ^ 20 := by
  have f5 := hF.1.2.2.2.2.1
  have h : ∀ T, pr (fun t => wy (a (24 + t)) p) T ≤ 16 ^ T := by
    intro T
    induction T with
    | zero => exact Nat.le_refl _
    | succ T ih =>
      rw [pr, Nat.pow_succ]
      refine Nat.mul_le_mul ih (Nat.le_trans (wy_le p _) ?_)
      exact Nat.le_trans (Nat.pow_le_pow_right (by omega) hp) (by decide)
  exact Nat.le_trans (h _) (Nat.le_trans (Nat.pow_le_pow_right (by omega) f5) (by decide))
theorem nd_lt {P : FL} (hF : FlatOK P) {n : Nat} (hn : n ≤ 4) (a : Nat → Nat) : nd P 0 n a ≤ 2 ^ 22 := by
  rw [nd_eq]
  have : ∀ k, k ≤ 4 → sm (fun p => sqp P (p + 1) a) k ≤ k * 2 ^ 20 := by
    intro k
    induction k with
    | zero => intro _; exact Nat.zero_le _
    | succ k ih =>
      intro hk
      have h1 := ih (by omega)
      have h2 := sqp_le hF (p := k + 1) (by omega) a
      rw [sm]
      omega
  have := this n hn
  omega
theorem c_isSpent {P : FL} {sG F : AR} (hF : FlatOK P) (hs : ∀ k, k < 7 → sG k = nI (P 0 k)) {a : Nat → Nat} {B n : Nat} (ha : FRep P F a) (hok : FOK P B a) (hn : n ≤ 4) {post : Int32 → Prop} (h1 : 20000 < nd P 0 n a → post 1) (h0 : nd P 0 n a ≤ 20000 → post 0) : wpX6_isSpent sG F (nI n) post := by
  have f5 := hF.1.2.2.2.2.1
  have hnd := nd_lt hF hn a
  rw [nd_eq] at h1 h0 hnd
  unfold wpX6_isSpent
  refine loop_0 (fun nn i (q : Int32) => wpX6_isSpent_L5 sG F (nI n) _ post nn q (nI (i + 1))) (fun i q => q = nI (sm (fun p => sqp P (p + 1) a) i)) n (nI 0) rfl ?_ ?_
  · intro nn q hI
    show wpX6_isSpent_L5 sG F (nI n) _ post (nn + 1) q (nI (n + 1))
    unfold wpX6_isSpent_L5
    rw [hI]
    refine ⟨fun _ => ⟨fun e => h0 ((nI_leI (b := 20000) (by omega) (by omega)).mp e), fun e => h1 ?_⟩, fun z => absurd ((nI_ltI (by omega) (by omega)).mpr (Nat.lt_succ_self n)) z⟩
    rcases Nat.lt_or_ge 20000 (sm (fun p => sqp P (p + 1) a) n) with q | q
    · exact q
    · exact absurd ((nI_leI (b := 20000) (by omega) (by omega)).mpr q) e
  · intro nn i q hi hI hnext
    show wpX6_isSpent_L5 sG F (nI n) _ post (nn + 1) q (nI (i + 1))
    unfold wpX6_isSpent_L5
    rw [hI]
    refine ⟨fun z => absurd ((nI_ltI (by omega) (by omega)).mp z) (by omega), fun _ => ?_⟩
    refine loop_0 (fun nn t (r : Int32) => wpX6_isSpent_L17 sG F (nI n) (nI (sm (fun p => sqp P (p + 1) a) i)) (nI (i + 1)) _ post nn r (nI t)) (fun t r => r = nI (pr (fun t => wy (a (24 + t)) (i + 1)) t)) (P 0 2) (nI 1) rfl ?_ ?_
    · intro n2 r hI2
      show wpX6_isSpent_L17 sG F (nI n) (nI (sm (fun p => sqp P (p + 1) a) i)) (nI (i + 1)) _ post (n2 + 1) r (nI (P 0 2))
      unfold wpX6_isSpent_L17
      rw [hs 2 (by omega), hI2]
      refine ⟨fun _ => nm_r (nI_add _ _) (nm_r (nI_1 (i + 1)) (hnext _ rfl)), fun z => absurd (nI_le (Nat.le_refl _) (by omega)) z⟩
    · intro n2 t r ht hI2 hnext2
      show wpX6_isSpent_L17 sG F (nI n) (nI (sm (fun p => sqp P (p + 1) a) i)) (nI (i + 1)) _ post (n2 + 1) r (nI t)
      have ho := hok.2 t ht
      unfold wpX6_isSpent_L17 wpX3_strokesLeft
      rw [hs 2 (by omega), hI2, show (24 : Int32) + nI t = nI (24 + t) from nI_add 24 t, nI_clamp (by omega), ha.2 t ht]
      refine ⟨fun z => absurd z (nI_ge ht (by omega)), fun _ => ⟨vp_in_nI (by omega) (by omega), c_ways (by omega) (by omega) (nm_r (pk_mul _ _) (nm_r (nI_1 t) (hnext2 _ rfl)))⟩⟩
