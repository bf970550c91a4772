-- PURE 33: how many trees there can be; the two remainders of the reference
theorem sumN_ind {i : Nat} {x : Int} : ∀ {n : Nat}, sumN (fun j => if i = j then x else 0) n = if i < n then x else 0 := by
  intro n
  induction n with
  | zero => rfl
  | succ n ih =>
    show sumN (fun j => if i = j then x else 0) n + (if i = n then x else 0) = _
    rw [ih]
    by_cases c : i = n
    · rw [if_neg (by omega), if_pos c, if_pos (by omega), Int.zero_add]
    · by_cases d : i < n
      · rw [if_pos d, if_neg c, if_pos (by omega), Int.add_zero]
      · rw [if_neg d, if_neg c, if_neg (by omega), Int.add_zero]
noncomputable def dv (look : Nat → Nat) (nb : Nat → Nat → Nat) (i j e : Nat) : Int := (if i = j then (cnt (dgP look i) e : Int) else 0) - (cnt (nbP look nb i j) e : Int)
theorem dv_0 {look : Nat → Nat} {nb : Nat → Nat → Nat} {i j : Nat} : dv look nb i j 0 = 0 := by
  unfold dv
  show (if i = j then ((0 : Nat) : Int) else 0) - ((0 : Nat) : Int) = 0
  split <;> rfl
theorem dv_skip {look : Nat → Nat} {nb : Nat → Nat → Nat} {i j e : Nat} (h : e / 2 = look i / 2) : dv look nb i j (e + 1) = dv look nb i j e := by
  unfold dv
  rw [cnt_f (P := dgP look i) (fun q => q h), cnt_f (P := nbP look nb i j) (fun q => q.1 h)]
theorem dv_add {look : Nat → Nat} {nb : Nat → Nat → Nat} {i j e : Nat} (h : ¬ e / 2 = look i / 2) : dv look nb i j (e + 1) = dv look nb i j e + ((if i = j then 1 else 0) - (if nb i e = j then 1 else 0)) := by
  unfold dv
  rw [cnt_t (P := dgP look i) h]
  by_cases c : nb i e = j
  · rw [cnt_t (P := nbP look nb i j) ⟨h, c⟩, if_pos c]
    split <;> omega
  · rw [cnt_f (P := nbP look nb i j) (fun q => c q.2), if_neg c]
    split <;> omega
theorem dv_row {look : Nat → Nat} {nb : Nat → Nat → Nat} {n i : Nat} (hi : i < n) : ∀ e, 0 ≤ sumN (fun j => dv look nb i j e) n := by
  intro e
  induction e with
  | zero => rw [sumN_0 (fun j _ => dv_0)]; exact Int.le_refl _
  | succ e ih =>
    by_cases h : e / 2 = look i / 2
    · rw [sumN_congr (fun j _ => dv_skip h)]; exact ih
    · have e1 := sumN_lin (f := fun j => dv look nb i j (e + 1)) (g := fun j => dv look nb i j e) (h := fun j => (if i = j then 1 else 0) - (if nb i e = j then 1 else 0)) (x := 1) (n := n) (fun j _ => by rw [Int.one_mul]; exact dv_add h)
      have e2 := sumN_comb (f := fun j => if i = j then 1 else 0) (g := fun j => if nb i e = j then 1 else 0) (x := 1) (y := 1) (n := n)
      simp only [Int.one_mul] at e1 e2
      rw [e1, e2, sumN_ind, sumN_ind, if_pos hi]
      split <;> omega
theorem DM_ZM {look : Nat → Nat} {nb : Nat → Nat → Nat} {n : Nat} : ZM n (DM look nb) := by
  intro i hi
  refine ⟨fun j hj hne => ?_, dv_row hi 6⟩
  unfold DM
  rw [if_neg (by omega)]
  omega
theorem six_lt : ∀ n, n ≤ 21 → prodN (fun _ => (6 : Int)) n < 2 ^ 60 := by decide
theorem DM_lt {look : Nat → Nat} {nb : Nat → Nat → Nat} {n : Nat} (hn : n ≤ 21) : 0 ≤ det n (DM look nb) ∧ det n (DM look nb) < 2 ^ 60 := by
  have h1 := ZM_bound (DM_ZM (look := look) (nb := nb) (n := n))
  have h2 := prodN_le (n := n) (f := fun i => DM look nb i i) (g := fun _ => 6) (fun i hi => ⟨ZM_diag DM_ZM hi, by
    show DM look nb i i ≤ 6
    unfold DM
    rw [if_pos rfl]
    have := cnt_le (P := dgP look i) 6
    omega⟩)
  have h3 := six_lt n hn
  exact ⟨h1.1, by omega⟩
theorem lN_back {b x q : Nat} (h : x ≤ q) : lN b - lN x + lN q = lN (b + (q - x)) := by
  rw [show lN q = lN x + lN (q - x) by rw [lN_add, show x + (q - x) = q by omega], ← Int64.add_assoc, Int64.sub_add_cancel, lN_add]
theorem crt_one {P Q : Nat} {D : Int} {V : Nat} (hc : Nat.Coprime P Q) (h1 : (P : Int) ∣ D - (V : Int)) (h2 : (Q : Int) ∣ D - (V : Int)) (h0 : 0 ≤ D) (hD : D < ((P * Q : Nat) : Int)) (hV : V < P * Q) : D = (V : Int) := by
  have g1 := Int.ofNat_dvd_left.mp h1
  have g2 := Int.ofNat_dvd_left.mp h2
  have g3 := Nat.Coprime.mul_dvd_of_dvd_of_dvd hc g1 g2
  have g4 := Nat.eq_zero_of_dvd_of_lt g3 (by omega)
  omega
/-- the reference's joining of two remainders -/
theorem crt_ok {P Q a b r : Nat} {D : Int} (hP : PR P) (hQ : PR Q) (hPQ : Q < P) (ha : a < P) (h1 : (P : Int) ∣ D - (a : Int)) (h2 : (Q : Int) ∣ D - (b : Int)) (hr : r % Q = (P % Q) ^ (Q - 2) % Q) (h0 : 0 ≤ D) (hD : D < ((P * Q : Nat) : Int)) : D = ((a + P * (((b + (Q - a % Q)) % Q * r) % Q) : Nat) : Int) ∧ a + P * (((b + (Q - a % Q)) % Q * r) % Q) < P * Q := by
  have hQ2 := hQ.1
  have hcop : Nat.Coprime P Q := hP.2 Q (by omega) hPQ
  have hpq0 : 0 < P % Q := by
    apply Nat.pos_of_ne_zero
    intro z
    have : Nat.gcd P Q = 1 := hcop
    have d1 : Q ∣ P := Nat.dvd_of_mod_eq_zero z
    have d2 : Q ∣ Nat.gcd P Q := Nat.dvd_gcd d1 (Nat.dvd_refl _)
    rw [this] at d2
    have := Nat.le_of_dvd (by omega) d2
    omega
  have hinv := inv_pow hQ hpq0 (Nat.mod_lt _ (by omega)) hr
  have hk := Nat.mod_lt ((b + (Q - a % Q)) % Q * r) (show 0 < Q by omega)
  have hV : a + P * (((b + (Q - a % Q)) % Q * r) % Q) < P * Q := by
    have := Nat.mul_le_mul_left P (show ((b + (Q - a % Q)) % Q * r) % Q + 1 ≤ Q by omega)
    rw [Nat.mul_succ] at this
    omega
  refine ⟨crt_one hcop ?_ ?_ h0 hD hV, hV⟩
  · refine dvd_tr h1 ?_
    rw [Int.natCast_add, Int.natCast_mul]
    exact ⟨-(((b + (Q - a % Q)) % Q * r % Q : Nat) : Int), by rw [Int.mul_neg]; omega⟩
  · refine dvd_tr h2 (dvd_sy ?_)
    rw [Int.natCast_add, Int.natCast_mul]
    have y1 : (Q : Int) ∣ (((b + (Q - a % Q)) % Q * r % Q : Nat) : Int) - ((b : Int) - (a : Int)) * (r : Int) := by
      refine dvd_tr (dvd_md Q _) ?_
      rw [Int.natCast_mul]
      refine dvd_mul2 (dvd_tr (dvd_md Q _) ?_) dvd_rf
      have z := dvd_md Q a
      have hm := Nat.mod_lt a (show 0 < Q by omega)
      rw [Int.natCast_add, show ((Q - a % Q : Nat) : Int) = (Q : Int) - ((a % Q : Nat) : Int) by omega]
      obtain ⟨w, hw⟩ := z
      exact ⟨1 - w, by rw [Int.mul_sub, ← hw]; omega⟩
    have y2 := dvd_mul2 (dvd_sy (dvd_md Q P)) y1
    have y3 : (Q : Int) ∣ ((P % Q : Nat) : Int) * (((b : Int) - (a : Int)) * (r : Int)) - ((b : Int) - (a : Int)) * 1 := by
      rw [show ((P % Q : Nat) : Int) * (((b : Int) - (a : Int)) * (r : Int)) = ((b : Int) - (a : Int)) * ((r : Int) * ((P % Q : Nat) : Int)) by rw [Int.mul_comm, Int.mul_assoc]]
      exact dvd_mul2 dvd_rf hinv
    have y4 := dvd_ad (dvd_rf (M := (Q : Int)) (a := (a : Int))) (dvd_tr y2 y3)
    rw [Int.mul_one, show (a : Int) + ((b : Int) - (a : Int)) = (b : Int) by omega] at y4
    exact y4
theorem X8_trees_gen {P Q n : Nat} {cu : Int32} {look : Nat → Nat} {nb on : Nat → Nat → Nat} {lo be ow : Nat → Int32} {G : Nat → Int64} {post : Int64 → (Nat → Int64) → Prop} (hP : PR P) (hQ : PR Q) (hPQ : Q < P) (hP3 : P < 2 ^ 31) (hb : 2 ^ 60 < P * Q) (hT : TB (n + 1) look nb on lo be ow) (hG : GS (n + 1) look nb on) (hF : n + 1 ≤ 22)
    (h : ∀ G, post (lN (det n (DM look nb)).toNat) G) :
    wp_X8_treesBy (nI (n + 1)) G lo be (lN P) (fun r_1 v_grid_3 => (wp_X8_treesBy (nI (n + 1)) v_grid_3 lo be (lN Q) (fun r_4 v_grid_6 => (wp_X8_power (lN P - lN P / lN Q * lN Q) (lN Q - (2 : Int64)) (lN Q) (fun r_7 => post (r_1 + (lN P * (((((r_4 - (r_1 - r_1 / lN Q * lN Q)) + lN Q) - ((r_4 - (r_1 - r_1 / lN Q * lN Q)) + lN Q) / lN Q * lN Q) * r_7) - ((((r_4 - (r_1 - r_1 / lN Q * lN Q)) + lN Q) - ((r_4 - (r_1 - r_1 / lN Q * lN Q)) + lN Q) / lN Q * lN Q) * r_7) / lN Q * lN Q))) v_grid_6))))) := by
  have hQ2 := hQ.1
  have hQ0 : 0 < Q := by omega
  have hD := DM_lt (look := look) (nb := nb) (n := n) (by omega)
  refine X8_treesBy_ok hP hP3 hT hG hF (fun a G1 ha h1 => X8_treesBy_ok hQ (by omega) hT hG hF (fun b G2 hb2 h2 => ?_))
  rw [pk_lRem (a := P) (by omega) hQ0 (by omega), show lN Q - (2 : Int64) = lN (Q - 2) from lN_sub (b := 2) hQ2]
  refine X8_power_ok (by omega) (by omega) (Nat.mod_lt _ hQ0) (by omega) (fun r hr hrp => ?_)
  have hm := Nat.mod_lt a hQ0
  have hm2 := Nat.mod_lt (b + (Q - a % Q)) hQ0
  have hm3 := sq_lt (show Q < 2 ^ 31 by omega) hm2 hr
  obtain ⟨c1, c2⟩ := crt_ok hP hQ hPQ ha h1 h2 hrp hD.1 (by omega)
  rw [pk_lRem (a := a) (by omega) hQ0 (by omega), lN_back (by omega), pk_lRem (a := b + (Q - a % Q)) (by omega) hQ0 (by omega), lN_mul, pk_lRem (by omega) hQ0 (by omega), lN_mul, lN_add]
  have := h G2
  rw [c1, Int.toNat_natCast] at this
  exact this
theorem X8_trees_ok {n : Nat} {cu : Int32} {look : Nat → Nat} {nb on : Nat → Nat → Nat} {lo be ow : Nat → Int32} {G : Nat → Int64} {post : Int64 → (Nat → Int64) → Prop} (hcu : ¬ cu = 0) (hT : TB (n + 1) look nb on lo be ow) (hG : GS (n + 1) look nb on) (hF : n + 1 ≤ 22) (h : ∀ G, post (lN (det n (DM look nb)).toNat) G) : wp_X8_trees cu (nI (n + 1)) G lo be post :=
  ⟨fun _ => X8_trees_gen (P := 2147483647) (Q := 2147483629) (cu := cu) PR_p PR_q (by decide) (by decide) (by decide) hT hG hF h, fun q => absurd q hcu⟩
