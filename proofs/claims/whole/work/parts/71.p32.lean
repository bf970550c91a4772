-- PURE 32: the elimination of the reference
def RG (n : Nat) (G : Nat → Int64) (γ : Nat → Nat → Nat) : Prop := ∀ a b, a < n → b < n → G (30 * a + b) = lN (γ a b) ∧ γ a b < 2 ^ 35
def u2 (γ : Nat → Nat → Nat) (a b v : Nat) : Nat → Nat → Nat := fun c d => if c = a ∧ d = b then v else γ c d
theorem u2_s {γ : Nat → Nat → Nat} {a b v : Nat} : u2 γ a b v a b = v := if_pos ⟨rfl, rfl⟩
theorem u2_n {γ : Nat → Nat → Nat} {a b v c d : Nat} (h : c ≠ a ∨ d ≠ b) : u2 γ a b v c d = γ c d := if_neg (by omega)
theorem RG_upd {n : Nat} {G : Nat → Int64} {γ : Nat → Nat → Nat} {a b v : Nat} (h : RG n G γ) (hn : n ≤ 30) (hb : b < n) (hv : v < 2 ^ 35) : RG n (vp_updL G (30 * a + b) (lN v)) (u2 γ a b v) := by
  intro c d hc hd
  by_cases e : c = a ∧ d = b
  · obtain ⟨rfl, rfl⟩ := e
    rw [pk_uLs, u2_s]
    exact ⟨rfl, hv⟩
  · rw [pk_uLn (by omega), u2_n (by omega)]
    exact h c d hc hd
def mI (γ : Nat → Nat → Nat) : Mx := fun a b => (γ a b : Int)
theorem X8_pivot_ok {n p k : Nat} {G : Nat → Int64} {γ : Nat → Nat → Nat} {kx : Int32 → Prop} (hp0 : 0 < p) (hp : p < 2 ^ 31) (hn : n ≤ 22) (hk : k < n) (hR : RG n G γ)
    (h1 : ∀ m, k ≤ m → m < n → ¬ γ m k % p = 0 → kx (nI m)) (h0 : (∀ a, k ≤ a → a < n → γ a k % p = 0) → kx (nI n)) : Lp (wl_X8_treesBy_147 G (lN p) (nI n) (nI k) kx) (nI k) := by
  refine Lp_for0 n (fun m => k ≤ m ∧ ∀ a, k ≤ a → a < m → γ a k % p = 0) (by omega) ?_ k (by omega) ⟨Nat.le_refl _, fun a h1 h2 => by omega⟩
  rintro m kb hm ⟨hkm, hI⟩ hkb
  dsimp only [wl_X8_treesBy_147, wb_X8_treesBy_147]
  refine pk_le n m (fun hle => ?_) (fun hlt => ?_)
  · have e : m = n := by omega
    subst e
    exact h0 hI
  obtain ⟨g1, g2⟩ := hR m k hlt hk
  rw [ixg, nI_clamp (show 30 * m + k < 2 ^ 31 by omega), g1, pk_lRem (by omega) hp0 (by omega), nI_1]
  have hc : lg_cmp (lN (γ m k % p)) 0 = 0 ↔ γ m k % p = 0 := by
    have := Nat.mod_lt (γ m k) hp0
    rw [lg_0, show (0 : Int64) = lN 0 from rfl, pk_lEQ (by omega) (by omega)]
  refine ⟨vp_in_nI (by omega) (by omega), lN_ne0 hp0 (by omega), fun q => h1 m hkm hlt (fun z => q (hc.mpr z)), fun q => hkb hlt ⟨by omega, ?_⟩⟩
  intro a ha1 ha2
  by_cases e : a = m
  · subst e; exact hc.mp q
  · exact hI a ha1 (by omega)
theorem X8_swap_ok {n k pv : Nat} {G : Nat → Int64} {γ : Nat → Nat → Nat} {kx : (Nat → Int64) → Prop} (hn : n ≤ 22) (hk : k < n) (hpv : pv < n) (hR : RG n G γ)
    (h : ∀ G γ1, RG n G γ1 → (∀ b, b < n → γ1 k b = γ pv b ∧ γ1 pv b = γ k b) → (∀ a b, a < n → b < n → a ≠ k → a ≠ pv → γ1 a b = γ a b) → kx G) : Lp (wl_X8_treesBy_190 (nI n) (nI k) (nI pv) kx) ((0 : Int32), G) := by
  refine Lp_for n (fun j G => ∃ γ1, RG n G γ1 ∧ (∀ b, b < j → γ1 k b = γ pv b ∧ γ1 pv b = γ k b) ∧ (∀ b, b < n → j ≤ b → γ1 k b = γ k b ∧ γ1 pv b = γ pv b) ∧ (∀ a b, a < n → b < n → a ≠ k → a ≠ pv → γ1 a b = γ a b)) (by omega) ?_ 0 G (Nat.zero_le _) ⟨γ, hR, fun b hb => absurd hb (Nat.not_lt_zero _), fun b _ _ => ⟨rfl, rfl⟩, fun a b _ _ _ _ => rfl⟩
  rintro j G kb hj ⟨γ1, r1, r2, r3, r4⟩ hkb
  dsimp only [wl_X8_treesBy_190, wb_X8_treesBy_190]
  refine pk_le n j (fun hle => h G γ1 r1 (fun b hb => r2 b (by omega)) r4) (fun hlt => ?_)
  refine pk_eq pv k (fun e => ?_) (fun hne => ?_)
  · subst e
    refine h G γ1 r1 (fun b hb => ?_) r4
    by_cases c : b < j
    · exact r2 b c
    · exact r3 b hb (by omega)
  obtain ⟨g1, g2⟩ := r1 pv j hpv hlt
  obtain ⟨g3, g4⟩ := r1 k j hk hlt
  have v1 : vp_in (nI (30 * pv + j)) 900 := vp_in_nI (by omega) (by omega)
  have v2 : vp_in (nI (30 * k + j)) 900 := vp_in_nI (by omega) (by omega)
  rw [ixg, ixg, nI_clamp (show 30 * pv + j < 2 ^ 31 by omega), nI_clamp (show 30 * k + j < 2 ^ 31 by omega), nI_1, g1, g3]
  refine ⟨v1, v2, v1, v2, hkb _ hlt ⟨u2 (u2 γ1 pv j (γ1 k j)) k j (γ1 pv j), RG_upd (RG_upd r1 (by omega) hlt g4) (by omega) hlt g2, ?_, ?_, ?_⟩⟩
  · intro b hb
    by_cases c : b = j
    · subst c
      rw [u2_s, u2_n (by omega), u2_s]
      have := r3 b hlt (Nat.le_refl _)
      exact ⟨this.2, this.1⟩
    · rw [u2_n (by omega), u2_n (by omega), u2_n (by omega), u2_n (by omega)]
      exact r2 b (by omega)
  · intro b hb1 hb2
    rw [u2_n (by omega), u2_n (by omega), u2_n (by omega), u2_n (by omega)]
    exact r3 b hb1 (by omega)
  · intro a b ha hb h1 h2
    rw [u2_n (by omega), u2_n (by omega)]
    exact r4 a b ha hb h1 h2
/-- a row is cleared -/
theorem X8_row_ok {n p k a f : Nat} {G : Nat → Int64} {γ : Nat → Nat → Nat} {kx : (Nat → Int64) → Prop} (hp0 : 0 < p) (hp : p < 2 ^ 31) (hn : n ≤ 22) (hk : k < a) (ha : a < n) (hf : f < p) (hR : RG n G γ)
    (h : ∀ G γ', RG n G γ' → (∀ c b, c < n → b < n → c ≠ a → γ' c b = γ c b) → (∀ b, k ≤ b → b < n → (p : Int) ∣ (γ' a b : Int) - (-(f : Int) * (γ k b : Int) + (γ a b : Int))) → kx G) : Lp (wl_X8_treesBy_362 (lN p) (nI n) (nI k) (nI a) (lN f) kx) (nI k, G) := by
  refine Lp_for n (fun j G => k ≤ j ∧ ∃ γ', RG n G γ' ∧ (∀ c b, c < n → b < n → c ≠ a ∨ j ≤ b → γ' c b = γ c b) ∧ (∀ b, k ≤ b → b < j → (p : Int) ∣ (γ' a b : Int) - (-(f : Int) * (γ k b : Int) + (γ a b : Int)))) (by omega) ?_ k G (by omega) ⟨Nat.le_refl _, γ, hR, fun c b _ _ _ => rfl, fun b h1 h2 => by omega⟩
  rintro j G kb hj ⟨hkj, γ', r1, r2, r3⟩ hkb
  dsimp only [wl_X8_treesBy_362, wb_X8_treesBy_362]
  refine pk_le n j (fun hle => h G γ' r1 (fun c b hc hb hca => r2 c b hc hb (Or.inl hca)) (fun b h1 h2 => r3 b h1 (by omega))) (fun hlt => ?_)
  have hf0 : lg_cmp (lN f) 0 = 0 ↔ f = 0 := by
    rw [lg_0, show (0 : Int64) = lN 0 from rfl, pk_lEQ (by omega) (by omega)]
  refine ⟨fun q => ?_, fun q => ?_⟩
  · refine h G γ' r1 (fun c b hc hb hca => r2 c b hc hb (Or.inl hca)) (fun b h1 h2 => ?_)
    by_cases c : b < j
    · exact r3 b h1 c
    · rw [r2 a b ha h2 (by omega), hf0.mp q]
      refine dvd_eq ?_
      show (γ a b : Int) = -0 * (γ k b : Int) + (γ a b : Int)
      rw [Int.neg_zero, Int.zero_mul, Int.zero_add]
  obtain ⟨g1, g2⟩ := r1 a j ha hlt
  obtain ⟨g3, g4⟩ := r1 k j (by omega) hlt
  have v1 : vp_in (nI (30 * a + j)) 900 := vp_in_nI (by omega) (by omega)
  have v2 : vp_in (nI (30 * k + j)) 900 := vp_in_nI (by omega) (by omega)
  have hm1 := Nat.mod_lt (γ' a j) hp0
  have hm2 := Nat.mod_lt (γ' k j) hp0
  have hm3 : (p - f) * (γ' k j % p) ≤ 2 ^ 62 := by
    have := Nat.mul_le_mul (show p - f ≤ 2 ^ 31 by omega) (show γ' k j % p ≤ 2 ^ 31 by omega)
    omega
  rw [ixg, ixg, nI_clamp (show 30 * a + j < 2 ^ 31 by omega), nI_clamp (show 30 * k + j < 2 ^ 31 by omega), nI_1, g1, g3, pk_lRem (a := γ' a j) (by omega) hp0 (by omega), pk_lRem (a := γ' k j) (by omega) hp0 (by omega), lN_sub (Nat.le_of_lt hf), lN_mul, lN_add, pk_lRem (by omega) hp0 (by omega)]
  have hne := lN_ne0 hp0 (show p < 2 ^ 63 by omega)
  have hm4 := Nat.mod_lt (γ' a j % p + (p - f) * (γ' k j % p)) hp0
  refine ⟨v1, hne, v2, hne, hne, v1, hkb _ hlt ⟨by omega, _, RG_upd r1 (by omega) hlt (by omega), ?_, ?_⟩⟩
  · intro c b hc hb hor
    rw [u2_n (by omega)]
    exact r2 c b hc hb (by omega)
  · intro b h1 h2
    by_cases c : b = j
    · subst c
      rw [u2_s]
      refine dvd_tr (dvd_md p _) ?_
      rw [Int.natCast_add, Int.natCast_mul, show ((p - f : Nat) : Int) = (p : Int) - (f : Int) by omega, r2 a b ha hlt (by omega), r2 k b (by omega) hlt (by omega)]
      rw [Int.add_comm]
      refine dvd_ad (dvd_mul2 ⟨1, by omega⟩ (dvd_md p _)) (dvd_md p _)
    · rw [u2_n (by omega)]
      exact r3 b h1 (by omega)
/-- all rows under the k-th -/
theorem X8_rows_ok {n p k r : Nat} {G : Nat → Int64} {γ : Nat → Nat → Nat} {kx : (Nat → Int64) → Prop} (hp0 : 0 < p) (hp : p < 2 ^ 31) (hn : n ≤ 22) (hk : k < n) (hr : r < p) (hR : RG n G γ)
    (h : ∀ G γ', RG n G γ' → (∀ b, b < n → γ' k b = γ k b) → (∀ a b, k < a → a < n → k ≤ b → b < n → (p : Int) ∣ (γ' a b : Int) - (-((γ a k % p * r % p : Nat) : Int) * (γ k b : Int) + (γ a b : Int))) → kx G) : Lp (wl_X8_treesBy_330 (lN p) (nI n) (nI k) (lN r) kx) (nI k + 1, G) := by
  rw [nI_1]
  refine Lp_for n (fun i G => k < i ∧ ∃ γ', RG n G γ' ∧ (∀ a b, a < n → b < n → a ≤ k ∨ i ≤ a → γ' a b = γ a b) ∧ (∀ a b, k < a → a < i → k ≤ b → b < n → (p : Int) ∣ (γ' a b : Int) - (-((γ a k % p * r % p : Nat) : Int) * (γ k b : Int) + (γ a b : Int)))) (by omega) ?_ (k + 1) G (by omega) ⟨by omega, γ, hR, fun c b _ _ _ => rfl, fun a b h1 h2 => by omega⟩
  rintro i G kb hi ⟨hki, γ', r1, r2, r3⟩ hkb
  dsimp only [wl_X8_treesBy_330, wb_X8_treesBy_330]
  refine pk_le n i (fun hle => h G γ' r1 (fun b hb => r2 k b hk hb (by omega)) (fun a b h1 h2 h3 h4 => r3 a b h1 (by omega) h3 h4)) (fun hlt => ?_)
  obtain ⟨g1, g2⟩ := r1 i k hlt hk
  have v1 : vp_in (nI (30 * i + k)) 900 := vp_in_nI (by omega) (by omega)
  have hne := lN_ne0 hp0 (show p < 2 ^ 63 by omega)
  have hm1 := Nat.mod_lt (γ' i k) hp0
  have hm3 := sq_lt hp hm1 hr
  rw [ixg, nI_clamp (show 30 * i + k < 2 ^ 31 by omega), nI_1, g1, pk_lRem (a := γ' i k) (by omega) hp0 (by omega), lN_mul, pk_lRem (by omega) hp0 (by omega)]
  refine ⟨v1, hne, hne, X8_row_ok hp0 hp hn hki hlt (Nat.mod_lt _ hp0) r1 ?_⟩
  intro G2 γ2 q1 q2 q3
  refine hkb _ hlt ⟨by omega, γ2, q1, ?_, ?_⟩
  · intro a b ha hb hor
    rw [q2 a b ha hb (by omega)]
    exact r2 a b ha hb (by omega)
  · intro a b h1 h2 h3 h4
    by_cases c : a = i
    · subst c
      have := q3 b h3 h4
      rw [r2 a k hlt hk (by omega), r2 k b hk h4 (by omega), r2 a b hlt h4 (by omega)] at this
      exact this
    · rw [q2 a b (by omega) h4 c]
      exact r3 a b h1 (by omega) h3 h4
set_option maxHeartbeats 1000000 in
theorem X8_elim_ok {n p : Nat} {D : Int} {G : Nat → Int64} {γ : Nat → Nat → Nat} {kx0 : (Nat → Int64) → Prop} {kx : Int64 → (Nat → Int64) → Prop} (hP : PR p) (hp : p < 2 ^ 31) (hn : n ≤ 22) (hR : RG n G γ) (hD : (p : Int) ∣ D - det n (mI γ))
    (h0 : ∀ G, (p : Int) ∣ D - ((0 : Nat) : Int) → kx0 G) (h : ∀ v G, v < p → (p : Int) ∣ D - (v : Int) → kx (lN v) G) : Lp (wl_X8_treesBy_137 (lN p) (nI n) kx0 kx) ((1 : Int64), (0 : Int32), G) := by
  have hp2 := hP.1
  have hp0 : 0 < p := by omega
  refine Lp_of (fun v => ∃ k α γ, k ≤ n ∧ α < p ∧ v.1 = lN α ∧ v.2.1 = nI k ∧ RG n v.2.2 γ ∧ (p : Int) ∣ D - (α : Int) * det (n - k) (shM k (mI γ))) (fun v => n - v.2.1.toNatClampNeg) ?_ _ ⟨0, 1, γ, Nat.zero_le _, by omega, rfl, rfl, hR, ?_⟩
  case refine_2 =>
    rw [show shM 0 (mI γ) = mI γ by funext a b; show mI γ (0 + a) (0 + b) = _; rw [Nat.zero_add, Nat.zero_add]]
    show (p : Int) ∣ D - 1 * det n (mI γ)
    rw [Int.one_mul]
    exact hD
  rintro ⟨v1, v2, G⟩ kb ⟨k, α, γ, hkn, hα, e1, e2, hR, hD⟩ hkb
  dsimp only at e1 e2 hR
  subst e1
  subst e2
  dsimp only [wl_X8_treesBy_137, wb_X8_treesBy_137]
  refine pk_le n k (fun hle => ?_) (fun hlt => ?_)
  · have e : k = n := by omega
    subst e
    refine h α G hα ?_
    rw [Nat.sub_self] at hD
    rwa [show det 0 (shM k (mI γ)) = 1 from rfl, Int.mul_one] at hD
  have hne := lN_ne0 hp0 (show p < 2 ^ 63 by omega)
  refine X8_pivot_ok hp0 hp hn hlt hR (fun pv hk1 hpv hnz => ?_) (fun hz => ?_)
  · refine And.symm (pk_eq pv n (fun e => absurd e (by omega)) (fun _ => ?_))
    refine X8_swap_ok hn hlt hpv hR ?_
    intro G1 γ1 r1 r2 r3
    have hkk : γ1 k k = γ pv k := (r2 k hlt).1
    have hj : ∀ t, t < p → (p : Int) ∣ (t : Int) - (α : Int) * (if pv = k then 1 else -1) → wj_X8_treesBy_283 (lN p) (nI n) (fun l4 l6 g => kb (l4, l6, g)) (nI k) G1 (lN t) := by
      intro t ht hts
      unfold wj_X8_treesBy_283
      obtain ⟨g1, g2⟩ := r1 k k hlt hlt
      have hm := Nat.mod_lt (γ1 k k) hp0
      rw [ixg, nI_clamp (show 30 * k + k < 2 ^ 31 by omega), g1, pk_lRem (a := γ1 k k) (by omega) hp0 (by omega), show lN p - (2 : Int64) = lN (p - 2) from lN_sub (b := 2) hp2]
      refine ⟨vp_in_nI (by omega) (by omega), hne, hne, X8_power_ok (by omega) hp hm (by omega) ?_⟩
      intro r hr hrp
      refine X8_rows_ok hp0 hp hn hlt hr r1 ?_
      intro G2 γ2 q1 q2 q3
      have htm := sq_lt hp ht hm
      rw [lN_mul, pk_lRem (by omega) hp0 (by omega), nI_1]
      have hinv := inv_pow hP (show 0 < γ1 k k % p by rw [hkk]; omega) hm hrp
      refine hkb _ ⟨k + 1, t * (γ1 k k % p) % p, γ2, hlt, Nat.mod_lt _ hp0, rfl, rfl, q1, ?_⟩ ?_
      · have el := el_turn (M := (p : Int)) (A := mI γ) (A1 := mI γ1) (A2 := mI γ2) (fun a => -((γ1 a k % p * r % p : Nat) : Int)) hlt hk1 hpv hD
          (fun j _ hj => ⟨congrArg Nat.cast (r2 j hj).1, congrArg Nat.cast (r2 j hj).2⟩)
          (fun i j _ hi _ hj h1 h2 => congrArg Nat.cast (r3 i j hi hj h1 h2)) rfl
          (fun j _ hj => congrArg Nat.cast (q2 j hj))
          (fun i j h1 h2 h3 h4 => q3 i j h1 h2 h3 h4) ?_
        · refine dvd_tr el ?_
          refine dvd_mul2 ?_ dvd_rf
          refine dvd_sy (dvd_tr (dvd_md p _) ?_)
          rw [Int.natCast_mul]
          exact dvd_mul2 hts (dvd_md p _)
        · intro i h1 h2
          have z := q3 i k h1 h2 (Nat.le_refl _) hlt
          have z2 : (p : Int) ∣ (-((γ1 i k % p * r % p : Nat) : Int) * (γ1 k k : Int) + (γ1 i k : Int)) - 0 := by
            have y1 : (p : Int) ∣ ((γ1 i k % p * r % p : Nat) : Int) * (γ1 k k : Int) - ((γ1 i k : Int) * (r : Int)) * ((γ1 k k % p : Nat) : Int) := by
              refine dvd_mul2 (dvd_tr (dvd_md p _) ?_) (dvd_sy (dvd_md p _))
              rw [Int.natCast_mul]
              exact dvd_mul2 (dvd_md p _) dvd_rf
            have y2 : (p : Int) ∣ ((γ1 i k : Int) * (r : Int)) * ((γ1 k k % p : Nat) : Int) - (γ1 i k : Int) * 1 := by
              rw [Int.mul_assoc]
              exact dvd_mul2 dvd_rf hinv
            rw [Int.mul_one] at y2
            have y3 := dvd_sy (dvd_tr y1 y2)
            rw [Int.neg_mul, Int.sub_zero, Int.add_comm, ← Int.sub_eq_add_neg]
            exact y3
          have z3 := dvd_tr z z2
          rwa [Int.sub_zero] at z3
      · show n - (nI (k + 1)).toNatClampNeg < n - (nI k).toNatClampNeg
        rw [nI_clamp (by omega), nI_clamp (by omega)]
        omega
    refine And.symm (pk_eq pv k (fun e => ?_) (fun e => ⟨hne, ?_⟩))
    · refine hj α hα ?_
      rw [if_pos e, Int.mul_one]
      exact dvd_rf
    · rw [lN_sub (Nat.le_of_lt hα), pk_lRem (by omega) hp0 (by omega)]
      refine hj _ (Nat.mod_lt _ hp0) ?_
      rw [if_neg e]
      refine dvd_tr (dvd_md p _) ⟨1, ?_⟩
      omega
  · refine And.symm (pk_eq n n (fun _ => ?_) (fun e => absurd rfl e))
    refine h0 G ?_
    have := el_none hlt hD (fun i h1 h2 => by
      have := hz i h1 h2
      have z := dvd_md p (γ i k)
      rw [this] at z
      have z2 := dvd_sy z
      rwa [show ((0 : Nat) : Int) = 0 from rfl, Int.sub_zero] at z2)
    rw [show ((0 : Nat) : Int) = 0 from rfl, Int.sub_zero]
    exact this
theorem X8_treesBy_ok {n p : Nat} {look : Nat → Nat} {nb on : Nat → Nat → Nat} {lo be ow : Nat → Int32} {G : Nat → Int64} {post : Int64 → (Nat → Int64) → Prop} (hP : PR p) (hp : p < 2 ^ 31) (hT : TB (n + 1) look nb on lo be ow) (hG : GS (n + 1) look nb on) (hF : n + 1 ≤ 22)
    (h : ∀ v G, v < p → (p : Int) ∣ det n (DM look nb) - (v : Int) → post (lN v) G) : wp_X8_treesBy (nI (n + 1)) G lo be (lN p) post := by
  have hp2 := hP.1
  unfold wp_X8_treesBy
  rw [show nI (n + 1) - (1 : Int32) = nI n from pk_sub (b := 1) (by omega)]
  refine X8_zero_ok (fun G0 h0 => X8_fill_ok (by omega) hT hG hF (by omega) ?_ (fun G1 h1 => X8_elim_ok (γ := fun a b => fv p look nb a b 6) (D := det n (DM look nb)) hP hp (by omega) ?_ ?_ ?_ ?_))
  · intro a b ha hb
    rw [h0 _ (by omega)]
    have : stg 0 0 a = 0 := by unfold stg; rw [if_neg (by omega)]; split <;> rfl
    rw [this, fv_0]
    rfl
  · intro a b ha hb
    have := h1 a b ha hb
    have e : stg n 0 a = 6 := by unfold stg; rw [if_pos ha]
    rw [e] at this
    exact ⟨this, fv_lt hp⟩
  · refine det_mod (fun i j _ _ => dvd_sy ?_)
    exact fv_mod (by omega)
  · intro G hd
    exact h 0 G (by omega) hd
  · intro v G hv hd
    exact h v G hv hd
