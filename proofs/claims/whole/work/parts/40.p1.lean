-- PURE 1: loops, first places, counting
theorem Lp_of {V : Type} {f : (V → Prop) → V → Prop} (I : V → Prop) (μ : V → Nat) (hs : ∀ (v : V) (kb : V → Prop), I v → (∀ v', I v' → μ v' < μ v → kb v') → f kb v) (v : V) (h : I v) : Lp f v := by
  have key : ∀ (n : Nat) (v : V), I v → μ v < n → lpN f n v := by
    intro n
    induction n with
    | zero => intro v _ h; exact absurd h (Nat.not_lt_zero _)
    | succ n ih => intro v hv h; exact hs v (lpN f n) hv (fun v' h1 h2 => ih v' h1 (by omega))
  exact ⟨μ v + 1, key _ v h (Nat.lt_succ_self _)⟩
theorem Lp_for0 {f : (Int32 → Prop) → Int32 → Prop} (N : Nat) (I : Nat → Prop) (hN : N < 2 ^ 31)
    (hs : ∀ (i : Nat) (kb : Int32 → Prop), i ≤ N → I i → (i < N → I (i + 1) → kb (nI (i + 1))) → f kb (nI i)) (i : Nat) (hi : i ≤ N) (h : I i) : Lp f (nI i) := by
  refine Lp_of (fun v => ∃ i, i ≤ N ∧ v = nI i ∧ I i) (fun v => N - v.toNatClampNeg) ?_ _ ⟨i, hi, rfl, h⟩
  rintro v kb ⟨i, hi, rfl, h⟩ hk
  refine hs i kb hi h (fun h1 h2 => hk _ ⟨i + 1, h1, rfl, h2⟩ ?_)
  show N - (nI (i + 1)).toNatClampNeg < N - (nI i).toNatClampNeg
  rw [nI_clamp (by omega), nI_clamp (by omega)]
  omega
theorem Lp_for {S : Type} {f : ((Int32 × S) → Prop) → (Int32 × S) → Prop} (N : Nat) (I : Nat → S → Prop) (hN : N < 2 ^ 31)
    (hs : ∀ (i : Nat) (s : S) (kb : Int32 × S → Prop), i ≤ N → I i s → (∀ s', i < N → I (i + 1) s' → kb (nI (i + 1), s')) → f kb (nI i, s)) (i : Nat) (s : S) (hi : i ≤ N) (h : I i s) : Lp f (nI i, s) := by
  refine Lp_of (fun v => ∃ i, i ≤ N ∧ v.1 = nI i ∧ I i v.2) (fun v => N - v.1.toNatClampNeg) ?_ _ ⟨i, hi, rfl, h⟩
  rintro ⟨v, s⟩ kb ⟨i, hi, e, h⟩ hk
  dsimp only at e h
  subst e
  refine hs i s kb hi h (fun s' h1 h2 => hk _ ⟨i + 1, h1, rfl, h2⟩ ?_)
  show N - (nI (i + 1)).toNatClampNeg < N - (nI i).toNatClampNeg
  rw [nI_clamp (by omega), nI_clamp (by omega)]
  omega
/-- the first place with P under n, or n -/
noncomputable def lf (P : Nat → Prop) (n : Nat) : Nat := @dite _ (∃ i, i < n ∧ P i ∧ ∀ j, j < i → ¬ P j) (Classical.propDecidable _) (fun h => h.choose) (fun _ => n)
theorem lf_hit {P : Nat → Prop} {n i : Nat} (h : i < n) (hP : P i) (hj : ∀ j, j < i → ¬ P j) : lf P n = i := by
  have e : ∃ i, i < n ∧ P i ∧ ∀ j, j < i → ¬ P j := ⟨i, h, hP, hj⟩
  unfold lf
  rw [dif_pos e]
  obtain ⟨h1, h2, h3⟩ := e.choose_spec
  rcases Nat.lt_trichotomy e.choose i with q | q | q
  · exact absurd h2 (hj _ q)
  · exact q
  · exact absurd hP (h3 _ q)
theorem lf_miss {P : Nat → Prop} {n : Nat} (h : ∀ j, j < n → ¬ P j) : lf P n = n := by
  unfold lf
  rw [dif_neg]
  rintro ⟨i, h1, h2, -⟩
  exact h i h1 h2
theorem lf_lt {P : Nat → Prop} {n : Nat} (h : lf P n < n) : P (lf P n) ∧ ∀ j, j < lf P n → ¬ P j := by
  by_cases e : ∃ i, i < n ∧ P i ∧ ∀ j, j < i → ¬ P j
  · obtain ⟨i, h1, h2, h3⟩ := e
    rw [lf_hit h1 h2 h3]
    exact ⟨h2, h3⟩
  · unfold lf at h
    rw [dif_neg e] at h
    omega
theorem lf_ex {P : Nat → Prop} : ∀ {n : Nat}, (∃ i, i < n ∧ P i) → lf P n < n := by
  intro n h
  obtain ⟨k, ⟨h1, h2⟩, h3⟩ := pk_least (fun i => i < n ∧ P i) h
  rw [lf_hit h1 h2 (fun j hj hp => h3 j hj ⟨by omega, hp⟩)]
  exact h1
theorem lf_no {P : Nat → Prop} {n : Nat} (h : ¬ lf P n < n) : ∀ j, j < n → ¬ P j := fun j h1 h2 => h (lf_ex ⟨j, h1, h2⟩)
theorem lf_le {P : Nat → Prop} {n : Nat} : lf P n ≤ n := by
  by_cases h : lf P n < n
  · omega
  · exact Nat.le_of_eq (lf_miss (lf_no h))
/-- a place, or z where there is none -/
def eN (k n : Nat) (z : Int32) : Int32 := if k < n then nI k else z
theorem eN_t {k n : Nat} {z : Int32} (h : k < n) : eN k n z = nI k := if_pos h
theorem eN_f {k n : Nat} {z : Int32} (h : ¬ k < n) : eN k n z = z := if_neg h
/-- how many have P under k -/
noncomputable def cnt (P : Nat → Prop) : Nat → Nat
  | 0 => 0
  | k + 1 => cnt P k + @ite _ (P k) (Classical.propDecidable _) 1 0
theorem cnt_t {P : Nat → Prop} {k : Nat} (h : P k) : cnt P (k + 1) = cnt P k + 1 := by
  show cnt P k + @ite _ (P k) (Classical.propDecidable _) 1 0 = _
  rw [if_pos h]
theorem cnt_f {P : Nat → Prop} {k : Nat} (h : ¬ P k) : cnt P (k + 1) = cnt P k := by
  show cnt P k + @ite _ (P k) (Classical.propDecidable _) 1 0 = _
  rw [if_neg h, Nat.add_zero]
theorem cnt_s {P : Nat → Prop} (k : Nat) : cnt P k ≤ cnt P (k + 1) ∧ cnt P (k + 1) ≤ cnt P k + 1 := by
  by_cases h : P k
  · rw [cnt_t h]; omega
  · rw [cnt_f h]; omega
theorem cnt_le {P : Nat → Prop} (k : Nat) : cnt P k ≤ k := by
  induction k with
  | zero => exact Nat.le_refl _
  | succ k ih => have := (cnt_s (P := P) k).2; omega
theorem cnt_mono {P : Nat → Prop} {a b : Nat} (h : a ≤ b) : cnt P a ≤ cnt P b := by
  induction b with
  | zero => rw [Nat.le_zero.mp h]; exact Nat.le_refl _
  | succ b ih =>
    rcases Nat.lt_or_ge b a with q | q
    · rw [show a = b + 1 by omega]; exact Nat.le_refl _
    · exact Nat.le_trans (ih q) (cnt_s b).1
theorem cnt_lt {P : Nat → Prop} {a b : Nat} (h : a < b) (hP : P a) : cnt P a < cnt P b := by
  have := cnt_mono (P := P) (show a + 1 ≤ b from h)
  rw [cnt_t hP] at this
  omega
theorem cnt_inj {P : Nat → Prop} {a b : Nat} (ha : P a) (hb : P b) (h : cnt P a = cnt P b) : a = b := by
  rcases Nat.lt_trichotomy a b with q | q | q
  · have := cnt_lt q ha; omega
  · exact q
  · have := cnt_lt q hb; omega
theorem cnt_sur {P : Nat → Prop} {f : Nat} : ∀ {N : Nat}, f < cnt P N → ∃ k, k < N ∧ P k ∧ cnt P k = f := by
  intro N
  induction N with
  | zero => intro h; exact absurd h (Nat.not_lt_zero _)
  | succ N ih =>
    intro h
    by_cases hP : P N
    · rw [cnt_t hP] at h
      rcases Nat.lt_or_ge f (cnt P N) with q | q
      · obtain ⟨k, h1, h2, h3⟩ := ih q
        exact ⟨k, by omega, h2, h3⟩
      · exact ⟨N, by omega, hP, by omega⟩
    · rw [cnt_f hP] at h
      obtain ⟨k, h1, h2, h3⟩ := ih h
      exact ⟨k, by omega, h2, h3⟩
/-- where P is less than Q, and at one place really -/
theorem cnt_sub {P Q : Nat → Prop} {N : Nat} (h : ∀ k, k < N → P k → Q k) : cnt P N ≤ cnt Q N := by
  induction N with
  | zero => exact Nat.le_refl _
  | succ N ih =>
    have ih := ih (fun k hk => h k (by omega))
    by_cases hP : P N
    · rw [cnt_t hP, cnt_t (h N (by omega) hP)]; omega
    · rw [cnt_f hP]; have := (cnt_s (P := Q) N).1; omega
theorem cnt_sub1 {P Q : Nat → Prop} {N k0 : Nat} (h : ∀ k, k < N → P k → Q k) (hk : k0 < N) (hQ : Q k0) (hP : ¬ P k0) : cnt P N + 1 ≤ cnt Q N := by
  induction N with
  | zero => exact absurd hk (Nat.not_lt_zero _)
  | succ N ih =>
    by_cases e : k0 = N
    · subst e
      have := cnt_sub (N := k0) (fun k hk => h k (by omega))
      rw [cnt_f hP, cnt_t hQ]; omega
    · have ih := ih (fun k hk => h k (by omega)) (by omega)
      by_cases hPN : P N
      · rw [cnt_t hPN, cnt_t (h N (by omega) hPN)]; omega
      · rw [cnt_f hPN]; have := (cnt_s (P := Q) N).1; omega
theorem ix6 (c d : Nat) : nI c * (6 : Int32) + nI d = nI (c * 6 + d) := by
  rw [show (6 : Int32) = nI 6 from rfl, pk_mul, nI_add]
theorem ix6' (c d : Nat) : (6 : Int32) * nI c + nI d = nI (c * 6 + d) := by
  rw [show (6 : Int32) = nI 6 from rfl, pk_mul, nI_add, Nat.mul_comm]
/-- the opposite direction -/
def op (e : Nat) : Nat := match e with | 0 => 1 | 1 => 0 | 2 => 3 | 3 => 2 | 4 => 5 | _ => 4
theorem op_lt (e : Nat) : op e < 6 := by
  unfold op
  split <;> decide
theorem op_x : ∀ e, e < 6 → nI e ^^^ (1 : Int32) = nI (op e) := by decide
theorem op_op : ∀ e, e < 6 → op (op e) = e := by decide
theorem op_ax : ∀ e, e < 6 → op e / 2 = e / 2 := by decide
theorem stepX_op : ∀ e, e < 6 → q_STEP_X (op e) = - q_STEP_X e := by decide
theorem stepY_op : ∀ e, e < 6 → q_STEP_Y (op e) = - q_STEP_Y e := by decide
theorem stepZ_op : ∀ e, e < 6 → q_STEP_Z (op e) = - q_STEP_Z e := by decide
theorem ax_r : ∀ e, e < 6 → nI e >>> ((1 : Int32) &&& 31) = nI (e / 2) := by decide
theorem ax_d : ∀ e, e < 6 → nI e / (2 : Int32) = nI (e / 2) := by decide
