-- PURE 26: determinants
abbrev Mx : Type := Nat → Nat → Int
def sumN (f : Nat → Int) : Nat → Int
  | 0 => 0
  | n + 1 => sumN f n + f n
def sg (i : Nat) : Int := if i % 2 = 0 then 1 else -1
theorem sg_s (i : Nat) : sg (i + 1) = - sg i := by
  unfold sg
  by_cases c : i % 2 = 0
  · rw [if_pos c, if_neg (by omega)]
  · rw [if_neg c, if_pos (by omega)]; rfl
def sk (i a : Nat) : Nat := if a < i then a else a + 1
def mnr (A : Mx) (i : Nat) : Mx := fun a b => A (sk i a) (b + 1)
def det : Nat → Mx → Int
  | 0, _ => 1
  | n + 1, A => sumN (fun i => sg i * A i 0 * det n (mnr A i)) (n + 1)
theorem det_s (n : Nat) (A : Mx) : det (n + 1) A = sumN (fun i => sg i * A i 0 * det n (mnr A i)) (n + 1) := rfl
theorem sumN_congr {f g : Nat → Int} : ∀ {n : Nat}, (∀ i, i < n → f i = g i) → sumN f n = sumN g n := by
  intro n
  induction n with
  | zero => intro _; rfl
  | succ n ih => intro h; show sumN f n + f n = sumN g n + g n; rw [ih (fun i hi => h i (by omega)), h n (by omega)]
theorem sumN_lin {f g h : Nat → Int} {x : Int} : ∀ {n : Nat}, (∀ i, i < n → f i = x * g i + h i) → sumN f n = x * sumN g n + sumN h n := by
  intro n
  induction n with
  | zero => intro _; show (0 : Int) = x * 0 + 0; omega
  | succ n ih =>
    intro q
    show sumN f n + f n = x * (sumN g n + g n) + (sumN h n + h n)
    rw [ih (fun i hi => q i (by omega)), q n (by omega), Int.mul_add]
    omega
theorem sumN_0 {f : Nat → Int} : ∀ {n : Nat}, (∀ i, i < n → f i = 0) → sumN f n = 0 := by
  intro n
  induction n with
  | zero => intro _; rfl
  | succ n ih => intro h; show sumN f n + f n = 0; rw [ih (fun i hi => h i (by omega)), h n (by omega)]; rfl
theorem sumN_2 {f : Nat → Int} {r : Nat} : ∀ {n : Nat}, r + 1 < n → (∀ i, i < n → i ≠ r → i ≠ r + 1 → f i = 0) → sumN f n = f r + f (r + 1) := by
  intro n
  induction n with
  | zero => intro h; omega
  | succ n ih =>
    intro hr h
    show sumN f n + f n = _
    by_cases e : n = r + 1
    · subst e
      show sumN f r + f r + f (r + 1) = _
      rw [sumN_0 (fun i hi => h i (by omega) (by omega) (by omega))]
      omega
    · rw [ih (by omega) (fun i hi => h i (by omega)), h n (by omega) (by omega) (by omega)]
      omega
theorem sumN_1 {f : Nat → Int} : ∀ {n : Nat}, (∀ i, i < n + 1 → i ≠ 0 → f i = 0) → sumN f (n + 1) = f 0 := by
  intro n
  induction n with
  | zero => intro _; show (0 : Int) + f 0 = f 0; omega
  | succ n ih => intro h; show sumN f (n + 1) + f (n + 1) = f 0; rw [ih (fun i hi => h i (by omega)), h (n + 1) (by omega) (by omega)]; omega
theorem sumN_dvd {f g : Nat → Int} {M : Int} : ∀ {n : Nat}, (∀ i, i < n → M ∣ f i - g i) → M ∣ sumN f n - sumN g n := by
  intro n
  induction n with
  | zero => intro _; exact ⟨0, by show (0 : Int) - 0 = M * 0; omega⟩
  | succ n ih =>
    intro h
    have a := ih (fun i hi => h i (by omega))
    have b := h n (by omega)
    have : sumN f (n + 1) - sumN g (n + 1) = (sumN f n - sumN g n) + (f n - g n) := by
      show sumN f n + f n - (sumN g n + g n) = _
      omega
    rw [this]
    exact Int.dvd_add a b
theorem dvd_mul2 {M a b c d : Int} (h1 : M ∣ a - b) (h2 : M ∣ c - d) : M ∣ a * c - b * d := by
  have : a * c - b * d = (a - b) * c + b * (c - d) := by rw [Int.sub_mul, Int.mul_sub]; omega
  rw [this]
  exact Int.dvd_add (Int.dvd_mul_of_dvd_left h1) (Int.dvd_mul_of_dvd_right h2)
theorem sk_lt {i a n : Nat} (ha : a < n) : sk i a < n + 1 := by unfold sk; split <;> omega
/-- congruent entries, congruent determinants -/
theorem det_mod {M : Int} : ∀ {n : Nat} {A B : Mx}, (∀ i j, i < n → j < n → M ∣ A i j - B i j) → M ∣ det n A - det n B := by
  intro n
  induction n with
  | zero => intro A B _; exact ⟨0, by show (1 : Int) - 1 = M * 0; omega⟩
  | succ n ih =>
    intro A B h
    rw [det_s, det_s]
    refine sumN_dvd (fun i hi => dvd_mul2 ?_ (ih (fun a b ha hb => h _ _ (sk_lt ha) (by omega))))
    rw [← Int.mul_sub]
    exact Int.dvd_mul_of_dvd_right (h i 0 hi (by omega))
theorem det_congr {n : Nat} {A B : Mx} (h : ∀ i j, i < n → j < n → A i j = B i j) : det n A = det n B := by
  have := det_mod (M := 0) (A := A) (B := B) (fun i j hi hj => by rw [h i j hi hj]; exact ⟨0, by omega⟩)
  have := Int.zero_dvd.mp this
  omega
def rset (A : Mx) (r : Nat) (u : Nat → Int) : Mx := fun i => if i = r then u else A i
theorem rset_s {A : Mx} {r : Nat} {u : Nat → Int} : rset A r u r = u := if_pos rfl
theorem rset_n {A : Mx} {r i : Nat} {u : Nat → Int} (h : i ≠ r) : rset A r u i = A i := if_neg h
theorem mnr_same {A : Mx} {r : Nat} {u : Nat → Int} : mnr (rset A r u) r = mnr A r := by
  funext a b
  unfold mnr
  rw [rset_n (by unfold sk; split <;> omega)]
def rdn (i r : Nat) : Nat := if r < i then r else r - 1
theorem sk_rdn {i r : Nat} (h : i ≠ r) : sk i (rdn i r) = r := by
  unfold sk rdn
  by_cases c : r < i
  · rw [if_pos c, if_pos c]
  · rw [if_neg c, if_neg (by omega)]; omega
theorem sk_rdn1 {i r : Nat} (h : i ≠ r) (h2 : i ≠ r + 1) : sk i (rdn i r + 1) = r + 1 := by
  unfold sk rdn
  by_cases c : r < i
  · rw [if_pos c, if_pos (by omega)]
  · rw [if_neg c, if_neg (by omega)]; omega
theorem mnr_oth {A : Mx} {r i : Nat} {u : Nat → Int} (h : i ≠ r) : mnr (rset A r u) i = rset (mnr A i) (rdn i r) (fun j => u (j + 1)) := by
  funext a b
  unfold mnr
  by_cases e : a = rdn i r
  · rw [e, rset_s, sk_rdn h, rset_s]
  · rw [rset_n e, rset_n (fun q => e (by unfold sk at q; unfold rdn; split at q <;> split <;> omega))]
theorem rdn_lt {i r n : Nat} (hr : r < n + 1) (hi : i < n + 1) (h : i ≠ r) : rdn i r < n := by unfold rdn; split <;> omega
theorem det_lin : ∀ {n : Nat} {A : Mx} {r : Nat} {u v : Nat → Int} {x : Int}, r < n → det n (rset A r (fun j => x * u j + v j)) = x * det n (rset A r u) + det n (rset A r v) := by
  intro n
  induction n with
  | zero => intro A r u v x h; omega
  | succ n ih =>
    intro A r u v x hr
    rw [det_s, det_s, det_s]
    refine sumN_lin (fun i hi => ?_)
    by_cases e : i = r
    · subst e
      rw [rset_s, rset_s, rset_s, mnr_same, mnr_same, mnr_same]
      rw [Int.mul_add, Int.add_mul]
      congr 1
      rw [← Int.mul_assoc, ← Int.mul_assoc, ← Int.mul_assoc, Int.mul_comm (sg i) x]
    · rw [rset_n e, rset_n e, rset_n e, mnr_oth e, mnr_oth e, mnr_oth e, ih (rdn_lt hr hi e), Int.mul_add]
      congr 1
      rw [← Int.mul_assoc, ← Int.mul_assoc, Int.mul_comm _ x, Int.mul_assoc]
/-- two rows alike, one behind the other -/
theorem det_adj : ∀ {n : Nat} {A : Mx} {r : Nat}, r + 1 < n → (∀ j, A r j = A (r + 1) j) → det n A = 0 := by
  intro n
  induction n with
  | zero => intro A r h; omega
  | succ n ih =>
    intro A r hr h
    rw [det_s, sumN_2 hr (fun i hi h1 h2 => ?_)]
    · have e : mnr A r = mnr A (r + 1) := by
        funext a b
        unfold mnr sk
        by_cases c : a < r
        · rw [if_pos c, if_pos (by omega)]
        · by_cases c2 : a = r
          · subst c2
            rw [if_neg (by omega), if_pos (by omega)]
            exact (h _).symm
          · rw [if_neg (by omega), if_neg (by omega)]
      show sg r * A r 0 * det n (mnr A r) + sg (r + 1) * A (r + 1) 0 * det n (mnr A (r + 1)) = 0
      rw [e, ← h 0, sg_s, Int.neg_mul, Int.neg_mul]
      omega
    · have : det n (mnr A i) = 0 := by
        refine ih (r := rdn i r) ?_ (fun j => ?_)
        · unfold rdn; split <;> omega
        · unfold mnr
          rw [sk_rdn h1, sk_rdn1 h1 h2]
          exact h _
      rw [this, Int.mul_zero]
theorem rset_id {A : Mx} {r : Nat} : rset A r (A r) = A := by
  funext i
  by_cases e : i = r
  · subst e; rw [rset_s]
  · rw [rset_n e]
theorem rset_comm {A : Mx} {r s : Nat} {u v : Nat → Int} (h : r ≠ s) : rset (rset A r u) s v = rset (rset A s v) r u := by
  funext i
  by_cases e : i = r
  · subst e; rw [rset_n h, rset_s, rset_s]
  · by_cases e2 : i = s
    · subst e2; rw [rset_s, rset_n e, rset_s]
    · rw [rset_n e2, rset_n e, rset_n e, rset_n e2]
theorem rset_rset {A : Mx} {r : Nat} {u v : Nat → Int} : rset (rset A r u) r v = rset A r v := by
  funext i
  by_cases e : i = r
  · subst e; rw [rset_s, rset_s]
  · rw [rset_n e, rset_n e, rset_n e]
/-- from "alike rows give nothing" to "changed about, the sign turns" -/
theorem det_turn {n : Nat} {A : Mx} {r s : Nat} (hr : r < n) (hs : s < n) (hrs : r ≠ s) (h0 : ∀ u : Nat → Int, det n (rset (rset A r u) s u) = 0) (u v : Nat → Int) : det n (rset (rset A r u) s v) = - det n (rset (rset A r v) s u) := by
  have a := h0 (fun j => 1 * u j + v j)
  have b := h0 u
  have c := h0 v
  rw [det_lin hs, rset_comm hrs, det_lin hr, rset_comm (Ne.symm hrs) , rset_comm (Ne.symm hrs), rset_comm hrs (u := fun j => 1 * u j + v j), det_lin hr, rset_comm (Ne.symm hrs), rset_comm (Ne.symm hrs)] at a
  omega
theorem det_same : ∀ {n : Nat} (d : Nat) {A : Mx} {r : Nat}, r + d + 1 < n → (∀ j, A r j = A (r + d + 1) j) → det n A = 0 := by
  intro n d
  induction d with
  | zero => intro A r h1 h2; exact det_adj h1 h2
  | succ d ih =>
    intro A r h1 h2
    have t := det_turn (n := n) (A := A) (r := r + d + 1) (s := r + d + 2) (by omega) (by omega) (by omega) (fun u => det_adj (r := r + d + 1) (by omega) (fun j => by rw [rset_n (by omega), rset_s, rset_s])) (A (r + d + 1)) (A (r + d + 2))
    rw [rset_id, show rset A (r + d + 2) (A (r + d + 2)) = A from rset_id] at t
    rw [t, ih (r := r) (by omega) (fun j => by rw [rset_n (by omega), rset_n (by omega), rset_n (by omega), rset_s]; exact h2 j)]
    rfl
theorem det_dup {n : Nat} {A : Mx} {r s : Nat} (hr : r < n) (hs : s < n) (hrs : r ≠ s) (h : ∀ j, A r j = A s j) : det n A = 0 := by
  by_cases c : r < s
  · exact det_same (s - r - 1) (r := r) (by omega) (fun j => by rw [show r + (s - r - 1) + 1 = s by omega]; exact h j)
  · exact det_same (r - s - 1) (r := s) (by omega) (fun j => by rw [show s + (r - s - 1) + 1 = r by omega]; exact (h j).symm)
/-- rows changed about -/
theorem det_swap {n : Nat} {A : Mx} {r s : Nat} (hr : r < n) (hs : s < n) (hrs : r ≠ s) : det n (rset (rset A r (A s)) s (A r)) = - det n A := by
  have t := det_turn (n := n) (A := A) hr hs hrs (fun u => det_dup hr hs hrs (fun j => by rw [rset_n hrs, rset_s, rset_s])) (A s) (A r)
  rw [show rset A r (A r) = A from rset_id, show rset A s (A s) = A from rset_id] at t
  exact t
/-- a row and a multiple of another -/
theorem det_add {n : Nat} {A : Mx} {r s : Nat} {x : Int} (hr : r < n) (hs : s < n) (hrs : r ≠ s) : det n (rset A r (fun j => x * A s j + A r j)) = det n A := by
  rw [det_lin hr, det_dup hr hs hrs (A := rset A r (A s)) (fun j => by rw [rset_s, rset_n (Ne.symm hrs)]), rset_id]
  omega
theorem det_scale {n : Nat} {A : Mx} {r : Nat} {x : Int} (hr : r < n) : det n (rset A r (fun j => x * A r j)) = x * det n A := by
  have a := det_lin (A := A) (u := A r) (v := fun _ => 0) (x := x) hr
  have b := det_lin (A := A) (u := fun _ => 0) (v := fun _ => 0) (x := 1) hr
  rw [rset_id] at a
  simp only [Int.add_zero, Int.mul_zero] at a b
  omega
/-- nothing below the head of the first column -/
theorem det_head {M : Int} {n : Nat} {A : Mx} (h : ∀ i, i < n → M ∣ A (i + 1) 0) : M ∣ det (n + 1) A - A 0 0 * det n (mnr A 0) := by
  have e : A 0 0 * det n (mnr A 0) = sumN (fun i => if i = 0 then A 0 0 * det n (mnr A 0) else 0) (n + 1) := by
    rw [sumN_1 (fun i _ hi => if_neg hi)]
    rfl
  rw [det_s, e]
  refine sumN_dvd (fun i hi => ?_)
  by_cases c : i = 0
  · subst c
    rw [if_pos rfl]
    refine ⟨0, ?_⟩
    show 1 * A 0 0 * det n (mnr A 0) - _ = _
    rw [Int.one_mul]
    omega
  · rw [if_neg c, Int.sub_zero]
    obtain ⟨k, rfl⟩ : ∃ k, i = k + 1 := ⟨i - 1, by omega⟩
    exact Int.dvd_mul_of_dvd_left (Int.dvd_mul_of_dvd_right (h k (by omega)))
