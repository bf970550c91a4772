-- PURE 28: powers modulo a prime
def PR (p : Nat) : Prop := 2 ≤ p ∧ ∀ k, 0 < k → k < p → Nat.Coprime p k
def ch : Nat → Nat → Nat
  | _, 0 => 1
  | 0, _ + 1 => 0
  | n + 1, k + 1 => ch n k + ch n (k + 1)
theorem ch_0 (n : Nat) : ch n 0 = 1 := by cases n <;> rfl
theorem ch_s (n k : Nat) : ch (n + 1) (k + 1) = ch n k + ch n (k + 1) := rfl
theorem ch_gt : ∀ {n k : Nat}, n < k → ch n k = 0 := by
  intro n
  induction n with
  | zero => intro k h; cases k with
    | zero => omega
    | succ k => rfl
  | succ n ih => intro k h; cases k with
    | zero => omega
    | succ k => rw [ch_s, ih (by omega), ih (by omega)]
theorem ch_nn : ∀ {n : Nat}, ch n n = 1 := by
  intro n
  induction n with
  | zero => rfl
  | succ n ih => rw [ch_s, ih, ch_gt (by omega)]
theorem ch_abs : ∀ {n k : Nat}, (k + 1) * ch (n + 1) (k + 1) = (n + 1) * ch n k := by
  intro n
  induction n with
  | zero => intro k; cases k with
    | zero => rfl
    | succ k => rw [ch_s, ch_gt (n := 0) (k := k + 1) (by omega), ch_gt (n := 0) (k := k + 1 + 1) (by omega)]; omega
  | succ n ih => intro k; cases k with
    | zero => rw [ch_s, Nat.mul_add, ih, ch_0, ch_0]; omega
    | succ k =>
      rw [ch_s, Nat.mul_add, ih]
      have h2 := ih (k := k)
      have h3 := ch_s n k
      have e1 : (k + 1 + 1) * ch (n + 1) (k + 1) = (k + 1) * ch (n + 1) (k + 1) + ch (n + 1) (k + 1) := Nat.succ_mul _ _
      have e2 : (n + 1 + 1) * ch (n + 1) (k + 1) = (n + 1) * ch (n + 1) (k + 1) + ch (n + 1) (k + 1) := Nat.succ_mul _ _
      have e3 : (n + 1) * ch (n + 1) (k + 1) = (n + 1) * ch n k + (n + 1) * ch n (k + 1) := by rw [h3, Nat.mul_add]
      omega
def bs (n a : Nat) : Nat → Nat
  | 0 => 0
  | m + 1 => bs n a m + ch n m * a ^ m
theorem bs_rec {n a : Nat} : ∀ {m : Nat}, bs (n + 1) a (m + 1) = bs n a (m + 1) + a * bs n a m := by
  intro m
  induction m with
  | zero => show 0 + ch (n + 1) 0 * a ^ 0 = 0 + ch n 0 * a ^ 0 + a * 0; rw [ch_0, ch_0]; omega
  | succ m ih =>
    show bs (n + 1) a (m + 1) + ch (n + 1) (m + 1) * a ^ (m + 1) = bs n a (m + 1) + ch n (m + 1) * a ^ (m + 1) + a * (bs n a m + ch n m * a ^ m)
    rw [ih, ch_s, Nat.add_mul, Nat.mul_add]
    have e : ch n m * a ^ (m + 1) = a * (ch n m * a ^ m) := by rw [Nat.pow_succ, ← Nat.mul_assoc, Nat.mul_comm]
    omega
theorem bs_all {a : Nat} : ∀ {n : Nat}, bs n a (n + 1) = (a + 1) ^ n := by
  intro n
  induction n with
  | zero => show 0 + ch 0 0 * a ^ 0 = 1; rw [ch_0, Nat.pow_zero]
  | succ n ih =>
    rw [bs_rec, ih]
    have e : bs n a (n + 1 + 1) = bs n a (n + 1) := by
      show bs n a (n + 1) + ch n (n + 1) * a ^ (n + 1) = _
      rw [ch_gt (by omega)]; omega
    rw [e, ih, Nat.pow_succ, Nat.mul_add]
    have := Nat.mul_comm a ((a + 1) ^ n)
    omega
theorem bs_mod {p a : Nat} (hp : PR p) : ∀ {m : Nat}, m + 1 ≤ p → ∃ c, bs p a (m + 1) = 1 + p * c := by
  intro m
  induction m with
  | zero => intro _; exact ⟨0, by show 0 + ch p 0 * a ^ 0 = _; rw [ch_0, Nat.pow_zero]; omega⟩
  | succ m ih =>
    intro h
    obtain ⟨c, hc⟩ := ih (by omega)
    have hd : p ∣ ch p (m + 1) := by
      obtain ⟨q, rfl⟩ : ∃ q, p = q + 1 := ⟨p - 1, by omega⟩
      have h1 : (q + 1) ∣ (m + 1) * ch (q + 1) (m + 1) := ⟨ch q m, ch_abs⟩
      exact Nat.Coprime.dvd_of_dvd_mul_left (hp.2 (m + 1) (by omega) (by omega)) h1
    obtain ⟨d, hd⟩ := hd
    refine ⟨c + d * a ^ (m + 1), ?_⟩
    show bs p a (m + 1) + ch p (m + 1) * a ^ (m + 1) = _
    rw [hc, hd, Nat.mul_add, Nat.mul_assoc, Nat.add_assoc]
theorem flt0 {p : Nat} (hp : PR p) : ∀ {a : Nat}, ∃ d, a ^ p = a + p * d := by
  intro a
  have h2 := hp.1
  induction a with
  | zero => exact ⟨0, by rw [Nat.zero_pow (by omega)]; omega⟩
  | succ a ih =>
    obtain ⟨d, hd⟩ := ih
    obtain ⟨q, hq⟩ : ∃ q, p = q + 1 := ⟨p - 1, by omega⟩
    obtain ⟨c, hc⟩ := bs_mod (a := a) hp (m := q) (by omega)
    refine ⟨c + d, ?_⟩
    rw [← bs_all]
    show bs p a p + ch p p * a ^ p = _
    have e : bs p a p = 1 + p * c := by rw [← hc, ← hq]
    rw [e, ch_nn, hd, Nat.mul_add p c d]
    omega
theorem flt {p a : Nat} (hp : PR p) (h0 : 0 < a) (ha : a < p) : ∃ e, a * a ^ (p - 2) = 1 + p * e := by
  obtain ⟨d, hd⟩ := flt0 hp (a := a)
  have h2 := hp.1
  have e1 : a ^ p = a * (a * a ^ (p - 2)) := by
    have : p = (p - 2) + 1 + 1 := by omega
    rw [this, Nat.pow_succ, Nat.pow_succ, show p - 2 + 1 + 1 - 2 = p - 2 by omega, Nat.mul_comm (a ^ (p - 2)) a, Nat.mul_comm _ a]
  have e2 : 1 ≤ a * a ^ (p - 2) := Nat.mul_pos h0 (Nat.pow_pos h0)
  have e3 : a * (a * a ^ (p - 2) - 1) = p * d := by
    rw [Nat.mul_sub, ← e1, hd]; omega
  have e4 : p ∣ a * a ^ (p - 2) - 1 := Nat.Coprime.dvd_of_dvd_mul_left (hp.2 a h0 ha) ⟨d, e3⟩
  obtain ⟨e, he⟩ := e4
  exact ⟨e, by omega⟩
def trc (p : Nat) : Nat → Nat → Bool
  | 0, d => Nat.ble 1 (p % d)
  | n + 1, d => trc p n d && trc p n (d + 2 ^ n)
theorem trc_ok {p : Nat} : ∀ {n d : Nat}, trc p n d = true → ∀ x, d ≤ x → x < d + 2 ^ n → ¬ p % x = 0 := by
  intro n
  induction n with
  | zero =>
    intro d h x h1 h2
    have e : x = d := by rw [Nat.pow_zero] at h2; omega
    subst e
    have := Nat.le_of_ble_eq_true h
    omega
  | succ n ih =>
    intro d h x h1 h2
    have h' : (trc p n d && trc p n (d + 2 ^ n)) = true := h
    rw [Bool.and_eq_true] at h'
    rw [Nat.pow_succ] at h2
    by_cases c : x < d + 2 ^ n
    · exact ih h'.1 x h1 c
    · exact ih h'.2 x (by omega) (by omega)
theorem PR_of {p : Nat} (h2 : 2 ≤ p) (hm : p < 65538 * 65538) (h : trc p 16 2 = true) (hp : 65538 < p) : PR p := by
  refine ⟨h2, ?_⟩
  intro k hk hkp
  have hd := trc_ok h
  have hg1 : Nat.gcd p k ∣ p := Nat.gcd_dvd_left p k
  have hg2 : Nat.gcd p k ≤ k := Nat.gcd_le_right p hk
  have hg0 : 0 < Nat.gcd p k := Nat.gcd_pos_of_pos_right p hk
  show Nat.gcd p k = 1
  generalize Nat.gcd p k = g at hg1 hg2 hg0
  apply Classical.byContradiction
  intro hne
  obtain ⟨w, hw⟩ := hg1
  by_cases c : g < 65538
  · exact hd g (by omega) (by omega) (by rw [hw]; exact Nat.mul_mod_right g w)
  · have hw1 : w < 65538 := by
      apply Classical.byContradiction
      intro hc
      have := Nat.mul_le_mul (show 65538 ≤ g by omega) (show 65538 ≤ w by omega)
      omega
    have hw2 : 2 ≤ w := by
      apply Classical.byContradiction
      intro hc
      have : w = 0 ∨ w = 1 := by omega
      rcases this with e | e
      · rw [e] at hw; omega
      · rw [e] at hw; omega
    exact hd w hw2 (by omega) (by rw [hw]; exact Nat.mul_mod_left g w)
theorem PR_p : PR 2147483647 := PR_of (by decide) (by decide) (by decide +kernel) (by decide)
theorem PR_q : PR 2147483629 := PR_of (by decide) (by decide) (by decide +kernel) (by decide)
