-- PURE 27: how large a determinant of this kind may be
def prodN : (Nat → Int) → Nat → Int
  | _, 0 => 1
  | f, n + 1 => f 0 * prodN (fun i => f (i + 1)) n
theorem sumN_front {f : Nat → Int} : ∀ {n : Nat}, sumN f (n + 1) = f 0 + sumN (fun i => f (i + 1)) n := by
  intro n
  induction n with
  | zero => show (0 : Int) + f 0 = f 0 + 0; omega
  | succ n ih => show sumN f (n + 1) + f (n + 1) = f 0 + (sumN (fun i => f (i + 1)) n + f (n + 1)); rw [ih]; omega
def ZM (n : Nat) (A : Mx) : Prop := ∀ i, i < n → (∀ j, j < n → j ≠ i → A i j ≤ 0) ∧ 0 ≤ sumN (A i) n
theorem sumN_np {f : Nat → Int} {i : Nat} : ∀ {n : Nat}, i < n → (∀ j, j < n → j ≠ i → f j ≤ 0) → sumN f n ≤ f i := by
  intro n
  induction n with
  | zero => intro h; omega
  | succ n ih =>
    intro hi h
    show sumN f n + f n ≤ f i
    by_cases e : i = n
    · subst e
      have : ∀ m, m ≤ i → sumN f m ≤ 0 := by
        intro m
        induction m with
        | zero => intro _; exact Int.le_refl _
        | succ m ih2 => intro hm; have := ih2 (by omega); have := h m (by omega) (by omega); show sumN f m + f m ≤ 0; omega
      have := this i (Nat.le_refl _)
      omega
    · have := ih (by omega) (fun j hj => h j (by omega))
      have := h n (by omega) (by omega)
      omega
theorem ZM_diag {n i : Nat} {A : Mx} (h : ZM n A) (hi : i < n) : 0 ≤ A i i := by
  obtain ⟨a, b⟩ := h i hi
  have := sumN_np hi a
  omega
theorem sumN_neg0 {f : Nat → Int} : ∀ {n : Nat}, (∀ j, j < n → f j ≤ 0) → 0 ≤ sumN f n → ∀ j, j < n → f j = 0 := by
  intro n
  induction n with
  | zero => intro _ _ j hj; omega
  | succ n ih =>
    intro h hs j hj
    have hs : 0 ≤ sumN f n + f n := hs
    have a := h n (by omega)
    have b : sumN f n ≤ 0 := by
      have : ∀ m, m ≤ n → sumN f m ≤ 0 := by
        intro m
        induction m with
        | zero => intro _; exact Int.le_refl _
        | succ m ih2 => intro hm; have := ih2 (by omega); have := h m (by omega); show sumN f m + f m ≤ 0; omega
      exact this n (Nat.le_refl _)
    by_cases e : j = n
    · subst e; omega
    · exact ih (fun j hj => h j (by omega)) (by omega) j (by omega)
def Bz (A : Mx) : Mx := fun i j => A 0 0 * A (i + 1) (j + 1) - A (i + 1) 0 * A 0 (j + 1)
def Cz (A : Mx) (k : Nat) : Mx := fun i j => if 1 ≤ i ∧ i ≤ k then A 0 0 * A i j - A i 0 * A 0 j else A i j
theorem Cz_step {n k : Nat} {A : Mx} (hk : k + 1 < n) : det n (Cz A (k + 1)) = A 0 0 * det n (Cz A k) := by
  have e : Cz A (k + 1) = rset (rset (Cz A k) (k + 1) (fun j => A 0 0 * Cz A k (k + 1) j)) (k + 1) (fun j => (-(A (k + 1) 0)) * (rset (Cz A k) (k + 1) (fun j => A 0 0 * Cz A k (k + 1) j)) 0 j + (rset (Cz A k) (k + 1) (fun j => A 0 0 * Cz A k (k + 1) j)) (k + 1) j) := by
    funext i j
    by_cases c : i = k + 1
    · subst c
      rw [rset_s, rset_s, rset_n (by omega)]
      unfold Cz
      rw [if_pos (by omega), if_neg (by omega), if_neg (by omega), Int.neg_mul]
      omega
    · rw [rset_n c, rset_n c]
      unfold Cz
      by_cases d : 1 ≤ i ∧ i ≤ k
      · rw [if_pos (by omega), if_pos d]
      · rw [if_neg (by omega), if_neg d]
  rw [e, det_add hk (by omega) (by omega), det_scale hk]
theorem Cz_all {n : Nat} {A : Mx} : ∀ k, k < n → det n (Cz A k) = A 0 0 ^ k * det n A := by
  intro k
  induction k with
  | zero =>
    intro _
    rw [Int.pow_zero, Int.one_mul]
    exact det_congr (fun i j _ _ => by unfold Cz; rw [if_neg (by omega)])
  | succ k ih =>
    intro hk
    rw [Cz_step hk, ih (by omega), Int.pow_succ, Int.mul_comm (A 0 0 ^ k) (A 0 0), Int.mul_assoc]
theorem chio {n : Nat} {A : Mx} : A 0 0 ^ n * det (n + 1) A = A 0 0 * det n (Bz A) := by
  rw [← Cz_all n (by omega)]
  have h := det_head (M := 0) (n := n) (A := Cz A n) (fun i hi => ⟨0, by
    unfold Cz
    rw [if_pos (by omega), Int.mul_comm (A 0 0)]
    omega⟩)
  have h := Int.zero_dvd.mp h
  have e : det n (mnr (Cz A n) 0) = det n (Bz A) := det_congr (fun i j hi _ => by
    unfold mnr
    rw [show sk 0 i = i + 1 from by unfold sk; rw [if_neg (by omega)]]
    unfold Cz Bz
    rw [if_pos (by omega)])
  have e2 : Cz A n 0 0 = A 0 0 := by unfold Cz; rw [if_neg (by omega)]
  rw [e, e2] at h
  omega
theorem sumN_comb {f g : Nat → Int} {x y : Int} : ∀ {n : Nat}, sumN (fun j => x * f j - y * g j) n = x * sumN f n - y * sumN g n := by
  intro n
  induction n with
  | zero => show (0 : Int) = x * 0 - y * 0; omega
  | succ n ih =>
    show sumN (fun j => x * f j - y * g j) n + (x * f n - y * g n) = x * (sumN f n + f n) - y * (sumN g n + g n)
    rw [ih, Int.mul_add, Int.mul_add]
    omega
theorem ZM_B {n : Nat} {A : Mx} (h : ZM (n + 1) A) : ZM n (Bz A) := by
  intro i hi
  obtain ⟨a1, a2⟩ := h (i + 1) (by omega)
  obtain ⟨b1, b2⟩ := h 0 (by omega)
  have h0 := ZM_diag h (show 0 < n + 1 by omega)
  have c := a1 0 (by omega) (by omega)
  refine ⟨fun j hj hne => ?_, ?_⟩
  · have d := a1 (j + 1) (by omega) (by omega)
    have e := b1 (j + 1) (by omega) (by omega)
    have f := Int.mul_nonneg h0 (show 0 ≤ -(A (i + 1) (j + 1)) by omega)
    have g := Int.mul_nonneg_of_nonpos_of_nonpos c e
    rw [Int.mul_neg] at f
    show A 0 0 * A (i + 1) (j + 1) - A (i + 1) 0 * A 0 (j + 1) ≤ 0
    omega
  · show 0 ≤ sumN (fun j => A 0 0 * A (i + 1) (j + 1) - A (i + 1) 0 * A 0 (j + 1)) n
    rw [sumN_comb (f := fun j => A (i + 1) (j + 1)) (g := fun j => A 0 (j + 1))]
    rw [sumN_front] at a2 b2
    have f := Int.mul_nonneg h0 a2
    have g := Int.mul_nonneg (show 0 ≤ -(A (i + 1) 0) by omega) b2
    rw [Int.mul_add] at f g
    rw [Int.neg_mul, Int.neg_mul] at g
    rw [Int.mul_comm (A 0 0) (A (i + 1) 0)] at f
    omega
theorem prodN_le : ∀ {n : Nat} {f g : Nat → Int}, (∀ i, i < n → 0 ≤ f i ∧ f i ≤ g i) → 0 ≤ prodN f n ∧ prodN f n ≤ prodN g n := by
  intro n
  induction n with
  | zero => intro f g _; exact ⟨by show (0 : Int) ≤ 1; omega, Int.le_refl _⟩
  | succ n ih =>
    intro f g h
    obtain ⟨a, b⟩ := ih (f := fun i => f (i + 1)) (g := fun i => g (i + 1)) (fun i hi => h (i + 1) (by omega))
    obtain ⟨c, d⟩ := h 0 (by omega)
    exact ⟨Int.mul_nonneg c a, Int.mul_le_mul d b a (by omega)⟩
theorem prodN_sc {a : Int} : ∀ {n : Nat} {f : Nat → Int}, prodN (fun i => a * f i) n = a ^ n * prodN f n := by
  intro n
  induction n with
  | zero => intro f; show (1 : Int) = a ^ 0 * 1; rw [Int.pow_zero]; rfl
  | succ n ih =>
    intro f
    show a * f 0 * prodN (fun i => a * f (i + 1)) n = a ^ (n + 1) * (f 0 * prodN (fun i => f (i + 1)) n)
    rw [ih (f := fun i => f (i + 1)), Int.pow_succ]
    generalize a ^ n = z
    generalize prodN (fun i => f (i + 1)) n = w
    generalize f 0 = v
    rw [Int.mul_assoc, Int.mul_comm z a, Int.mul_assoc a z]
    congr 1
    rw [← Int.mul_assoc, ← Int.mul_assoc, Int.mul_comm v z]
theorem ZM_bound : ∀ {n : Nat} {A : Mx}, ZM n A → 0 ≤ det n A ∧ det n A ≤ prodN (fun i => A i i) n := by
  intro n
  induction n with
  | zero => intro A _; exact ⟨by show (0 : Int) ≤ 1; omega, Int.le_refl _⟩
  | succ n ih =>
    intro A h
    have h0 := ZM_diag h (show 0 < n + 1 by omega)
    obtain ⟨b1, b2⟩ := h 0 (by omega)
    have hd : ∀ i, i < n → 0 ≤ A (i + 1) (i + 1) := fun i hi => ZM_diag h (by omega)
    have hp := prodN_le (n := n) (f := fun i => A (i + 1) (i + 1)) (g := fun i => A (i + 1) (i + 1)) (fun i hi => ⟨hd i hi, Int.le_refl _⟩)
    by_cases c : A 0 0 = 0
    · have z := sumN_neg0 (f := A 0) (n := n + 1) (fun j hj => by
        by_cases e : j = 0
        · rw [e, c]; omega
        · exact b1 j hj e) b2
      have e : det (n + 1) A = 0 := by
        have a := det_scale (n := n + 1) (A := A) (r := 0) (x := 0) (by omega)
        rw [Int.zero_mul] at a
        rw [← a]
        refine det_congr (fun i j hi hj => ?_)
        by_cases q : i = 0
        · subst q; rw [rset_s, z j hj]; omega
        · rw [rset_n q]
      rw [e]
      refine ⟨Int.le_refl _, ?_⟩
      show 0 ≤ A 0 0 * _
      rw [c, Int.zero_mul]
      omega
    · have hpos : 0 < A 0 0 := by omega
      have hpw : 0 < A 0 0 ^ n := Int.pow_pos hpos
      obtain ⟨i1, i2⟩ := ih (ZM_B h)
      have e := chio (n := n) (A := A)
      have hB : prodN (fun i => Bz A i i) n ≤ A 0 0 ^ n * prodN (fun i => A (i + 1) (i + 1)) n := by
        rw [← prodN_sc (f := fun i => A (i + 1) (i + 1))]
        refine (prodN_le (f := fun i => Bz A i i) (fun i hi => ⟨ZM_diag (ZM_B h) hi, ?_⟩)).2
        have f := (h (i + 1) (by omega)).1 0 (by omega) (by omega)
        have g := b1 (i + 1) (by omega) (by omega)
        have k := Int.mul_nonneg_of_nonpos_of_nonpos f g
        show A 0 0 * A (i + 1) (i + 1) - A (i + 1) 0 * A 0 (i + 1) ≤ _
        omega
      refine ⟨?_, ?_⟩
      · have : 0 ≤ A 0 0 ^ n * det (n + 1) A := by rw [e]; exact Int.mul_nonneg h0 i1
        exact Int.nonneg_of_mul_nonneg_right this hpw
      · show det (n + 1) A ≤ A 0 0 * prodN (fun i => A (i + 1) (i + 1)) n
        refine Int.le_of_mul_le_mul_left (a := A 0 0 ^ n) ?_ hpw
        rw [e, ← Int.mul_assoc, Int.mul_comm (A 0 0 ^ n) (A 0 0), Int.mul_assoc]
        exact Int.mul_le_mul_of_nonneg_left (Int.le_trans i2 hB) h0
