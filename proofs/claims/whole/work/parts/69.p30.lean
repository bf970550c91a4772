-- PURE 30: powers in the reference
theorem lN_tn {m : Nat} (h : m < 2 ^ 63) : (lN m).toBitVec.toNat = m := Nat.mod_eq_of_lt (show m < 2 ^ 64 by omega)
theorem lN_and1 {m : Nat} (h : m < 2 ^ 31) : (lN m &&& (1 : Int64)) = lN (m % 2) := by
  apply Int64.toBitVec_inj.mp
  apply BitVec.eq_of_toNat_eq
  rw [Int64.toBitVec_and, BitVec.toNat_and, lN_tn (by omega), lN_tn (by omega), show (1 : Int64).toBitVec.toNat = 1 by decide, Nat.and_one_is_mod]
theorem lN_shr1 {m : Nat} (h : m < 2 ^ 31) : lN m >>> ((1 : Int32).toInt64 &&& 63) = lN (m / 2) := by
  apply Int64.toInt_inj.mp
  show ((lN m).toBitVec.sshiftRight (((1 : Int32).toInt64 &&& 63).toBitVec.smod 64).toNat).toInt = _
  rw [show (((1 : Int32).toInt64 &&& 63).toBitVec.smod 64).toNat = 1 by decide, BitVec.toInt_sshiftRight, pk_lT (by omega)]
  show (lN m).toInt >>> 1 = _
  rw [pk_lT (by omega), Int.shiftRight_eq_div_pow]
  rfl
theorem sq_lt {p a b : Nat} (hp : p < 2 ^ 31) (ha : a < p) (hb : b < p) : a * b < 2 ^ 62 := by
  have := Nat.mul_le_mul (show a ≤ 2 ^ 31 - 1 by omega) (show b ≤ 2 ^ 31 - 1 by omega)
  omega
theorem lN_ne0 {p : Nat} (h0 : 0 < p) (hp : p < 2 ^ 63) : ¬ lN p = 0 := by
  intro q
  have := (pk_lEQ (a := p) (b := 0) hp (by omega)).mp q
  omega
theorem pow_half {c m : Nat} (h : m % 2 = 0) : c ^ m = (c * c) ^ (m / 2) := by
  have : m = 2 * (m / 2) := by omega
  rw [← Nat.pow_two, ← Nat.pow_mul, ← this]
theorem pow_half1 {c m : Nat} (h : m % 2 = 1) : c ^ m = c * (c * c) ^ (m / 2) := by
  have : m = (m - 1) + 1 := by omega
  rw [this, Nat.pow_succ, pow_half (by omega), Nat.mul_comm, show (m - 1 + 1) / 2 = (m - 1) / 2 by omega]
theorem X8_power_ok {p b k : Nat} {post : Int64 → Prop} (h0 : 1 < p) (hp : p < 2 ^ 31) (hb : b < p) (hk : k < 2 ^ 31) (h : ∀ r, r < p → r % p = b ^ k % p → post (lN r)) : wp_X8_power (lN b) (lN k) (lN p) post := by
  unfold wp_X8_power
  refine Lp_of (fun v => ∃ r c m, v = (lN r, lN c, lN m) ∧ r < p ∧ c < p ∧ m < 2 ^ 31 ∧ (r * c ^ m) % p = b ^ k % p) (fun v => v.2.2.toInt.toNat) ?_ _ ⟨1, b, k, rfl, by omega, hb, hk, by rw [Nat.one_mul]⟩
  rintro v kb ⟨r, c, m, rfl, hr, hc, hm, e⟩ hkb
  dsimp only [wl_X8_power_9, wb_X8_power_9]
  have hm0 : lg_cmp (lN m) 0 ≤ 0 ↔ m = 0 := by
    rw [lg_cmp_le, show (0 : Int64) = lN 0 from rfl, pk_lLE (by omega) (by omega)]; omega
  have hm1 : lg_cmp (lN m &&& 1) 1 = 0 ↔ m % 2 = 1 := by
    rw [lN_and1 hm, lg_cmp_eq, show (1 : Int64) = lN 1 from rfl, pk_lEQ (by omega) (by omega)]
  have hl0 : ¬ lN p = 0 := lN_ne0 (by omega) (by omega)
  have hcc := sq_lt hp hc hc
  have hrc := sq_lt hp hr hc
  have hj : ∀ r', r' < p → (r' * (c * c) ^ (m / 2)) % p = b ^ k % p → ¬ m = 0 → wj_X8_power_38 (lN p) (fun l6 l8 l10 => kb (l6, l8, l10)) (lN c) (lN m) (lN r') := by
    intro r' hr' e' hn
    unfold wj_X8_power_38
    refine ⟨hl0, ?_⟩
    rw [lN_mul, pk_lRem (by omega) (by omega) (by omega), lN_shr1 hm]
    refine hkb _ ⟨r', c * c % p, m / 2, rfl, hr', Nat.mod_lt _ (by omega), by omega, ?_⟩ ?_
    · rw [← e', Nat.mul_mod, ← Nat.pow_mod, ← Nat.mul_mod]
    · show (lN (m / 2)).toInt.toNat < (lN m).toInt.toNat
      rw [pk_lT (by omega), pk_lT (by omega)]
      omega
  refine ⟨fun q => ?_, fun q => ⟨fun q1 => ?_, fun q1 => ⟨hl0, ?_⟩⟩⟩
  · have z := hm0.mp q
    subst z
    rw [Nat.pow_zero, Nat.mul_one] at e
    exact h r hr e
  · refine hj r hr ?_ (fun z => q (hm0.mpr z))
    rw [← pow_half (by have : ¬ m % 2 = 1 := fun z => q1 (hm1.mpr z); omega)]
    exact e
  · rw [lN_mul, pk_lRem (by omega) (by omega) (by omega)]
    refine hj _ (Nat.mod_lt _ (by omega)) ?_ (fun z => q (hm0.mpr z))
    rw [← e, pow_half1 (hm1.mp q1), ← Nat.mul_assoc, Nat.mul_mod, Nat.mod_mod, ← Nat.mul_mod]
theorem dvd_nm {p a b : Nat} (h : a % p = b % p) : (p : Int) ∣ (a : Int) - (b : Int) := ⟨((a / p : Nat) : Int) - ((b / p : Nat) : Int), by
  have h1 := Nat.div_add_mod a p
  have h2 := Nat.div_add_mod b p
  rw [Int.mul_sub, ← Int.natCast_mul, ← Int.natCast_mul]
  omega⟩
theorem dvd_md (p a : Nat) : (p : Int) ∣ ((a % p : Nat) : Int) - (a : Int) := dvd_nm (Nat.mod_mod a p)
/-- a power that is an inverse -/
theorem inv_pow {p b r : Nat} (hp : PR p) (h0 : 0 < b) (hb : b < p) (hr : r % p = b ^ (p - 2) % p) : (p : Int) ∣ (r : Int) * (b : Int) - 1 := by
  obtain ⟨e, he⟩ := flt hp h0 hb
  have h1 : (r * b) % p = 1 % p := by
    rw [Nat.mul_mod, hr, ← Nat.mul_mod, Nat.mul_comm, he, Nat.add_mul_mod_self_left]
  have h4 := dvd_nm h1
  rw [Int.natCast_mul] at h4
  exact h4
