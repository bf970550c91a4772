-- PURE 29: a turn of the elimination
def shM (k : Nat) (A : Mx) : Mx := fun i j => A (k + i) (k + j)
def Ez (A : Mx) (x : Nat → Int) (t : Nat) : Mx := fun i j => if 1 ≤ i ∧ i ≤ t then x i * A 0 j + A i j else A i j
theorem Ez_step {n t : Nat} {A : Mx} {x : Nat → Int} (ht : t + 1 < n) : det n (Ez A x (t + 1)) = det n (Ez A x t) := by
  have e : Ez A x (t + 1) = rset (Ez A x t) (t + 1) (fun j => x (t + 1) * Ez A x t 0 j + Ez A x t (t + 1) j) := by
    funext i
    by_cases c : i = t + 1
    · subst c
      rw [rset_s]
      funext j
      show (if 1 ≤ t + 1 ∧ t + 1 ≤ t + 1 then x (t + 1) * A 0 j + A (t + 1) j else A (t + 1) j) = x (t + 1) * (if 1 ≤ 0 ∧ 0 ≤ t then x 0 * A 0 j + A 0 j else A 0 j) + (if 1 ≤ t + 1 ∧ t + 1 ≤ t then x (t + 1) * A 0 j + A (t + 1) j else A (t + 1) j)
      rw [if_pos (by omega), if_neg (by omega), if_neg (by omega)]
    · rw [rset_n c]
      funext j
      show (if 1 ≤ i ∧ i ≤ t + 1 then x i * A 0 j + A i j else A i j) = (if 1 ≤ i ∧ i ≤ t then x i * A 0 j + A i j else A i j)
      by_cases d : 1 ≤ i ∧ i ≤ t
      · rw [if_pos (by omega), if_pos d]
      · rw [if_neg (by omega), if_neg d]
  rw [e]
  exact det_add (by omega) (by omega) (by omega)
theorem Ez_all {n : Nat} {A : Mx} {x : Nat → Int} : ∀ t, t < n → det n (Ez A x t) = det n A := by
  intro t
  induction t with
  | zero =>
    intro _
    have e : Ez A x 0 = A := by
      funext i j
      show (if 1 ≤ i ∧ i ≤ 0 then x i * A 0 j + A i j else A i j) = A i j
      rw [if_neg (by omega)]
    rw [e]
  | succ t ih => intro h; rw [Ez_step h, ih (by omega)]
theorem dvd_tr {M a b c : Int} (h1 : M ∣ a - b) (h2 : M ∣ b - c) : M ∣ a - c := by
  have := Int.dvd_add h1 h2
  rwa [show a - b + (b - c) = a - c by omega] at this
theorem dvd_sy {M a b : Int} (h1 : M ∣ a - b) : M ∣ b - a := by
  have := Int.dvd_neg.mpr h1
  rwa [show -(a - b) = b - a by omega] at this
theorem dvd_rf {M a : Int} : M ∣ a - a := by rw [Int.sub_self]; exact Int.dvd_zero M
theorem dvd_eq {M a b : Int} (h : a = b) : M ∣ a - b := by rw [h]; exact dvd_rf
theorem dvd_ad {M a b c d : Int} (h1 : M ∣ a - b) (h2 : M ∣ c - d) : M ∣ (a + c) - (b + d) := by
  have := Int.dvd_add h1 h2
  rwa [show a - b + (c - d) = a + c - (b + d) by omega] at this
theorem dvd_ng {M a b : Int} (h1 : M ∣ a - b) : M ∣ (- a) - (- b) := by
  have := Int.dvd_neg.mpr h1
  rwa [show -(a - b) = - a - (- b) by omega] at this
theorem dvd_sb {M a b c d : Int} (h1 : M ∣ a - b) (h2 : M ∣ c - d) : M ∣ (a - c) - (b - d) := by
  have := dvd_ad h1 (dvd_ng h2)
  rwa [show a + -c - (b + -d) = a - c - (b - d) by omega] at this
/-- the last column of the turn: rows k and pv change their places, then the rows under k are cleared -/
theorem el_turn {M D al s : Int} {n k pv : Nat} {A A1 A2 : Mx} (x : Nat → Int) (hk : k < n) (hpv : k ≤ pv) (hpn : pv < n)
    (hD : M ∣ D - al * det (n - k) (shM k A))
    (h1 : ∀ j, k ≤ j → j < n → A1 k j = A pv j ∧ A1 pv j = A k j)
    (h1' : ∀ i j, k ≤ i → i < n → k ≤ j → j < n → i ≠ k → i ≠ pv → A1 i j = A i j)
    (hs : s = if pv = k then 1 else -1)
    (h2 : ∀ j, k ≤ j → j < n → A2 k j = A1 k j)
    (h3 : ∀ i j, k < i → i < n → k ≤ j → j < n → M ∣ A2 i j - (x i * A1 k j + A1 i j))
    (h4 : ∀ i, k < i → i < n → M ∣ A2 i k) : M ∣ D - (al * s * A1 k k) * det (n - (k + 1)) (shM (k + 1) A2) := by
  have e0 : n - k = n - (k + 1) + 1 := by omega
  generalize hm : n - (k + 1) = m at e0
  rw [e0] at hD
  have f1 : det (m + 1) (shM k A1) = s * det (m + 1) (shM k A) := by
    by_cases c : pv = k
    · rw [hs, if_pos c, Int.one_mul]
      refine det_congr (fun i j hi hj => ?_)
      show A1 (k + i) (k + j) = A (k + i) (k + j)
      by_cases ci : i = 0
      · subst ci
        have := (h1 (k + j) (by omega) (by omega)).1
        rw [c] at this
        exact this
      · exact h1' _ _ (by omega) (by omega) (by omega) (by omega) (by omega) (by omega)
    · rw [hs, if_neg c]
      have := det_swap (n := m + 1) (A := shM k A) (r := 0) (s := pv - k) (by omega) (by omega) (by omega)
      rw [show (-1 : Int) * det (m + 1) (shM k A) = - det (m + 1) (shM k A) by omega, ← this]
      refine det_congr (fun i j hi hj => ?_)
      by_cases ci : i = pv - k
      · subst ci
        rw [rset_s]
        have := (h1 (k + j) (by omega) (by omega)).2
        show A1 (k + (pv - k)) (k + j) = A (k + 0) (k + j)
        rw [show k + (pv - k) = pv by omega]
        exact this
      · rw [rset_n ci]
        by_cases cj : i = 0
        · subst cj
          rw [rset_s]
          have := (h1 (k + j) (by omega) (by omega)).1
          show A1 (k + 0) (k + j) = A (k + (pv - k)) (k + j)
          rw [show k + (pv - k) = pv by omega]
          exact this
        · rw [rset_n cj]
          exact h1' _ _ (by omega) (by omega) (by omega) (by omega) (by omega) (by omega)
  have f2 : M ∣ det (m + 1) (shM k A2) - det (m + 1) (shM k A1) := by
    rw [← Ez_all (A := shM k A1) (x := fun i => x (k + i)) m (by omega)]
    refine det_mod (fun i j hi hj => ?_)
    show M ∣ A2 (k + i) (k + j) - (if 1 ≤ i ∧ i ≤ m then x (k + i) * A1 (k + 0) (k + j) + A1 (k + i) (k + j) else A1 (k + i) (k + j))
    by_cases ci : i = 0
    · subst ci
      rw [if_neg (by omega)]
      exact dvd_eq (h2 _ (by omega) (by omega))
    · rw [if_pos (by omega)]
      exact h3 _ _ (by omega) (by omega) (by omega) (by omega)
  have f3 : M ∣ det (m + 1) (shM k A2) - shM k A2 0 0 * det m (mnr (shM k A2) 0) := det_head (fun i hi => h4 (k + (i + 1)) (by omega) (by omega))
  have f4 : mnr (shM k A2) 0 = shM (k + 1) A2 := by
    funext a b
    show A2 (k + sk 0 a) (k + (b + 1)) = A2 (k + 1 + a) (k + 1 + b)
    have : sk 0 a = a + 1 := if_neg (by omega)
    rw [this, show k + (a + 1) = k + 1 + a by omega, show k + (b + 1) = k + 1 + b by omega]
  have f5 : shM k A2 0 0 = A1 k k := h2 k (by omega) hk
  rw [f4, f5] at f3
  have f6 := dvd_tr (dvd_sy f2) f3
  rw [f1] at f6
  have f7 : s * s = 1 := by rw [hs]; split <;> rfl
  have f8 := dvd_mul2 (dvd_rf (M := M) (a := al * s)) f6
  refine dvd_tr hD ?_
  rw [show al * s * (s * det (m + 1) (shM k A)) = al * det (m + 1) (shM k A) by rw [← Int.mul_assoc, Int.mul_assoc al s s, f7, Int.mul_one]] at f8
  rw [show al * s * A1 k k * det m (shM (k + 1) A2) = al * s * (A1 k k * det m (shM (k + 1) A2)) by rw [Int.mul_assoc]]
  exact f8
/-- no row to begin with -/
theorem el_none {M D al : Int} {n k : Nat} {A : Mx} (hk : k < n) (hD : M ∣ D - al * det (n - k) (shM k A)) (h : ∀ i, k ≤ i → i < n → M ∣ A i k) : M ∣ D := by
  have e0 : n - k = n - (k + 1) + 1 := by omega
  generalize hm : n - (k + 1) = m at e0
  rw [e0] at hD
  have f1 : M ∣ det (m + 1) (shM k A) - shM k A 0 0 * det m (mnr (shM k A) 0) := det_head (fun i hi => h (k + (i + 1)) (by omega) (by omega))
  have f2 : M ∣ shM k A 0 0 * det m (mnr (shM k A) 0) := Int.dvd_trans (h k (by omega) hk) (Int.dvd_mul_right _ _)
  have f3 : M ∣ det (m + 1) (shM k A) := by
    have := Int.dvd_add f1 f2
    rwa [show ∀ a b : Int, a - b + b = a by intro a b; omega] at this
  have f4 : M ∣ al * det (m + 1) (shM k A) := Int.dvd_trans f3 (Int.dvd_mul_left _ _)
  have := Int.dvd_add hD f4
  rwa [show ∀ a b : Int, a - b + b = a by intro a b; omega] at this
