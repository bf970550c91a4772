-- PURE 35: long numbers modulo 2^64; inverses
def WW : Int := ((2 ^ 64 : Nat) : Int)
theorem tI_add (a b : Int64) : WW ∣ (a + b).toInt - (a.toInt + b.toInt) := by rw [Int64.toInt_add]; exact Int.dvd_bmod_sub_self
theorem tI_sub (a b : Int64) : WW ∣ (a - b).toInt - (a.toInt - b.toInt) := by rw [Int64.toInt_sub]; exact Int.dvd_bmod_sub_self
theorem tI_mul (a b : Int64) : WW ∣ (a * b).toInt - a.toInt * b.toInt := by rw [Int64.toInt_mul]; exact Int.dvd_bmod_sub_self
theorem tI_neg (a : Int64) : WW ∣ (-a).toInt - (-a.toInt) := by rw [Int64.toInt_neg]; exact Int.dvd_bmod_sub_self
theorem tI_of (x : Int) : WW ∣ (Int64.ofInt x).toInt - x := by rw [Int64.toInt_ofInt]; exact Int.dvd_bmod_sub_self
/-- the number of twos, and what is left of them -/
theorem V2_odd {x : Int64} {t : Nat} (h : V2 64 t x.toBitVec.toNat) (ht : t < 64) : ∃ y : Int, x.toInt = ((2 ^ t : Nat) : Int) * y ∧ y % 2 = 1 := by
  rcases h with ⟨_, e⟩ | ⟨_, m, e⟩
  · omega
  have hx : x.toInt = (x.toBitVec.toNat : Int) ∨ x.toInt = (x.toBitVec.toNat : Int) - ((2 ^ 64 : Nat) : Int) := by
    have : x.toInt = x.toBitVec.toInt := rfl
    rw [this, BitVec.toInt_eq_toNat_cond]
    split
    · exact Or.inl rfl
    · exact Or.inr rfl
  have ep : 2 ^ 64 = 2 ^ t * (2 * 2 ^ (63 - t)) := by
    rw [← Nat.mul_assoc, Nat.mul_comm (2 ^ t) 2, Nat.mul_comm 2, ← Nat.pow_succ, ← Nat.pow_add, show t + 1 + (63 - t) = 64 by omega]
  have eu : x.toBitVec.toNat = 2 ^ t * (2 * m + 1) := by
    rw [e, Nat.pow_succ, Nat.mul_add, Nat.mul_one, ← Nat.mul_assoc]
  rcases hx with hx | hx
  · refine ⟨((2 * m + 1 : Nat) : Int), ?_, by omega⟩
    rw [hx, eu, Int.natCast_mul]
  · refine ⟨((2 * m + 1 : Nat) : Int) - ((2 * 2 ^ (63 - t) : Nat) : Int), ?_, by omega⟩
    rw [hx, eu, ep, Int.natCast_mul, Int.natCast_mul, Int.mul_sub]
theorem V2_dvd {x : Int64} {t s : Nat} (h : V2 64 t x.toBitVec.toNat) (hs : s ≤ t) : ∃ y : Int, x.toInt = ((2 ^ s : Nat) : Int) * y := by
  by_cases ht : t < 64
  · obtain ⟨y, e, _⟩ := V2_odd h ht
    refine ⟨((2 ^ (t - s) : Nat) : Int) * y, ?_⟩
    rw [← Int.mul_assoc, ← Int.natCast_mul, ← Nat.pow_add, show s + (t - s) = t by omega]
    exact e
  · rcases h with ⟨e, _⟩ | ⟨e, _⟩
    · have : x = 0 := Int64.toBitVec_inj.mp (BitVec.eq_of_toNat_eq e)
      exact ⟨0, by rw [this, Int.mul_zero]; decide⟩
    · omega
theorem V2_zero {x : Int64} (h : V2 64 64 x.toBitVec.toNat) : x = 0 := by
  rcases h with ⟨e, _⟩ | ⟨e, _⟩
  · exact Int64.toBitVec_inj.mp (BitVec.eq_of_toNat_eq e)
  · omega
theorem sh_am : ∀ t, t < 64 → (((nI t).toInt64 &&& 63).toBitVec.smod 64).toNat = t := by decide +kernel
theorem shr_ok {x : Int64} {t : Nat} {y : Int} (ht : t < 64) (h : x.toInt = ((2 ^ t : Nat) : Int) * y) : (x >>> ((nI t).toInt64 &&& 63)).toInt = y := by
  show (x.toBitVec.sshiftRight (((nI t).toInt64 &&& 63).toBitVec.smod 64).toNat).toInt = y
  rw [sh_am t ht, BitVec.toInt_sshiftRight]
  show x.toInt >>> t = y
  rw [Int.shiftRight_eq_div_pow, h, Int.mul_ediv_cancel_left]
  have := Nat.two_pow_pos t
  omega
/-- a round of Newton's -/
theorem nw_step {h v v' : Int} {s s' : Nat} (h1 : ((2 ^ s : Nat) : Int) ∣ 1 - h * v) (h2 : WW ∣ v' - v * (2 - h * v)) (hs : s' ≤ 2 * s) (hs2 : s' ≤ 64) : ((2 ^ s' : Nat) : Int) ∣ 1 - h * v' := by
  have g1 : ((2 ^ s' : Nat) : Int) ∣ (1 - h * v) * (1 - h * v) := by
    refine Int.dvd_trans ?_ (Int.mul_dvd_mul h1 h1)
    rw [← Int.natCast_mul, ← Nat.pow_add]
    exact Int.natCast_dvd_natCast.mpr (Nat.pow_dvd_pow 2 (by omega))
  have g2 : ((2 ^ s' : Nat) : Int) ∣ v' - v * (2 - h * v) := Int.dvd_trans (Int.natCast_dvd_natCast.mpr (Nat.pow_dvd_pow 2 hs2)) h2
  have g3 := dvd_mul2 (dvd_rf (M := ((2 ^ s' : Nat) : Int)) (a := h)) g2
  have e : h * (v * (2 - h * v)) = 1 - (1 - h * v) * (1 - h * v) := by
    rw [← Int.mul_assoc]
    generalize h * v = z
    rw [Int.mul_sub, Int.sub_mul, Int.mul_sub, Int.mul_sub]
    omega
  rw [e] at g3
  have g4 := Int.dvd_sub g1 g3
  rwa [show (1 - h * v) * (1 - h * v) - (h * v' - (1 - (1 - h * v) * (1 - h * v))) = 1 - h * v' by omega] at g4
theorem odd_8 {h : Int} (ho : h % 2 = 1) : ((2 ^ 3 : Nat) : Int) ∣ 1 - h * h := by
  have : h * h % 8 = 1 := by
    rw [Int.mul_emod]
    have : h % 8 = 1 ∨ h % 8 = 3 ∨ h % 8 = 5 ∨ h % 8 = 7 := by omega
    rcases this with e | e | e | e <;> rw [e] <;> rfl
  show (8 : Int) ∣ 1 - h * h
  omega
def nwS (r : Nat) : Nat := match r with | 0 => 3 | 1 => 6 | 2 => 12 | 3 => 24 | 4 => 48 | _ => 64
theorem nwS_ok : ∀ r, r < 5 → nwS (r + 1) ≤ 2 * nwS r ∧ nwS (r + 1) ≤ 64 := by decide
theorem X5_inv_ok {x : Int64} {post : Int64 → Prop} (h : ∀ v : Int64, (x.toInt % 2 = 1 → WW ∣ x.toInt * v.toInt - 1) → post v) : wp_X5_inverseOfOdd x post := by
  unfold wp_X5_inverseOfOdd
  refine Lp_of (fun w => ∃ r, r ≤ 5 ∧ w.2 = nI r ∧ (x.toInt % 2 = 1 → ((2 ^ nwS r : Nat) : Int) ∣ 1 - x.toInt * w.1.toInt)) (fun w => 5 - w.2.toNatClampNeg) ?_ _ ⟨0, by omega, rfl, fun ho => odd_8 ho⟩
  rintro ⟨v, l4⟩ kb ⟨r, hr, e, hI⟩ hk
  dsimp only at e hI
  subst e
  dsimp only [wl_X5_inverseOfOdd_5, wb_X5_inverseOfOdd_5]
  refine pk_le 5 r (fun hle => ?_) (fun hlt => ?_)
  · have : r = 5 := by omega
    subst this
    refine h v (fun ho => dvd_sy (hI ho))
  · rw [nI_1]
    refine hk _ ⟨r + 1, hlt, rfl, fun ho => ?_⟩ ?_
    · obtain ⟨s1, s2⟩ := nwS_ok r hlt
      refine nw_step (hI ho) ?_ s1 s2
      refine dvd_tr (tI_mul _ _) (dvd_mul2 dvd_rf ?_)
      refine dvd_tr (tI_sub _ _) ?_
      exact dvd_sb dvd_rf (tI_mul _ _)
    · show 5 - (nI (r + 1)).toNatClampNeg < 5 - (nI r).toNatClampNeg
      rw [nI_clamp (by omega), nI_clamp (by omega)]
      omega
/-- the factor clears the head of a row -/
theorem fac_ok {a h v : Int64} {t s : Nat} (hh : V2 64 t h.toBitVec.toNat) (ha : V2 64 s a.toBitVec.toNat) (hs : t ≤ s) (ht : t ≤ 64) (hv : (h >>> ((nI t).toInt64 &&& 63)).toInt % 2 = 1 → WW ∣ (h >>> ((nI t).toInt64 &&& 63)).toInt * v.toInt - 1) :
    WW ∣ -((a >>> ((nI t).toInt64 &&& 63)) * v).toInt * h.toInt + a.toInt := by
  by_cases c : t = 64
  · subst c
    have hs64 : s ≤ 64 := by rcases ha with ⟨_, e⟩ | ⟨e, _⟩ <;> omega
    have : s = 64 := by omega
    subst this
    rw [V2_zero hh, V2_zero ha]
    show WW ∣ _ * 0 + 0
    rw [Int.mul_zero]
    exact Int.dvd_zero _
  · obtain ⟨y, e1, ho⟩ := V2_odd hh (by omega)
    obtain ⟨z, e2⟩ := V2_dvd ha hs
    have hv := hv (by rw [shr_ok (by omega) e1]; exact ho)
    rw [shr_ok (by omega) e1] at hv
    have q1 := tI_mul (a >>> ((nI t).toInt64 &&& 63)) v
    rw [shr_ok (by omega) e2] at q1
    have q2 := dvd_mul2 q1 (dvd_rf (M := WW) (a := h.toInt))
    have q3 : WW ∣ z * v.toInt * h.toInt - a.toInt := by
      rw [e1, e2]
      have := dvd_mul2 (dvd_rf (M := WW) (a := ((2 ^ t : Nat) : Int) * z)) hv
      rw [Int.mul_one] at this
      rw [show z * v.toInt * (((2 ^ t : Nat) : Int) * y) = ((2 ^ t : Nat) : Int) * z * (y * v.toInt) by
        generalize ((2 ^ t : Nat) : Int) = w
        rw [Int.mul_assoc, Int.mul_comm w z, Int.mul_assoc z w, ← Int.mul_assoc v.toInt, Int.mul_comm v.toInt w, Int.mul_assoc w, Int.mul_comm v.toInt y]]
      exact this
    have q4 := dvd_sy (dvd_tr q2 q3)
    rw [Int.neg_mul, Int.add_comm, ← Int.sub_eq_add_neg]
    exact q4
