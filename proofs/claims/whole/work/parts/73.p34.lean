-- PURE 34: twos in a long number, inverses of odd numbers
/-- t twos in u, of w places -/
def V2 (w t u : Nat) : Prop := (u = 0 ∧ t = w) ∨ (t < w ∧ ∃ m, u = 2 ^ (t + 1) * m + 2 ^ t)
theorem V2_ex0 : ∀ (n u : Nat), u < n → 0 < u → ∃ t m, u = 2 ^ (t + 1) * m + 2 ^ t := by
  intro n
  induction n with
  | zero => intro u h; omega
  | succ n ih =>
    intro u h h0
    by_cases c : u % 2 = 1
    · exact ⟨0, u / 2, by rw [Nat.pow_zero, show 2 ^ (0 + 1) = 2 from rfl]; omega⟩
    · obtain ⟨t, m, e⟩ := ih (u / 2) (by omega) (by omega)
      refine ⟨t + 1, m, ?_⟩
      have e2 : u = 2 * (u / 2) := by omega
      rw [e2, e, Nat.mul_add, Nat.pow_succ 2 (t + 1), Nat.pow_succ 2 t, ← Nat.mul_assoc, Nat.mul_comm 2 (2 ^ t * 2), Nat.mul_comm 2 (2 ^ t)]
theorem V2_ex {w u : Nat} (h : u < 2 ^ w) : ∃ t, V2 w t u := by
  by_cases c : u = 0
  · exact ⟨w, Or.inl ⟨c, rfl⟩⟩
  · obtain ⟨t, m, e⟩ := V2_ex0 (u + 1) u (by omega) (by omega)
    refine ⟨t, Or.inr ⟨?_, m, e⟩⟩
    apply Classical.byContradiction
    intro hc
    have := Nat.pow_le_pow_right (show 0 < 2 by decide) (show w ≤ t by omega)
    omega
def j62 (l0 l1 : Int32) : Int32 := if l0 ≤ (4 : Int32) then (l1 + ((l0.toUInt32 >>> ((1 : Int32).toUInt32 &&& Int32.toUInt32 31)).toInt32)) else ((l1 + (2 : Int32)) + ((((l0.toUInt32 >>> ((2 : Int32).toUInt32 &&& Int32.toUInt32 31)).toInt32).toUInt32 >>> ((1 : Int32).toUInt32 &&& Int32.toUInt32 31)).toInt32))
def j49 (l0 l1 : Int32) : Int32 := if l0 ≤ (16 : Int32) then j62 l0 l1 else j62 ((l0.toUInt32 >>> ((4 : Int32).toUInt32 &&& Int32.toUInt32 31)).toInt32) (l1 + (4 : Int32))
def j34 (l0 l1 : Int32) : Int32 := if l0 ≤ (256 : Int32) then j49 l0 l1 else j49 ((l0.toUInt32 >>> ((8 : Int32).toUInt32 &&& Int32.toUInt32 31)).toInt32) (l1 + (8 : Int32))
def j6 (y : Int32) : Int32 := if 0 < y then (if y ≤ (65536 : Int32) then j34 y 1 else j34 ((y.toUInt32 >>> ((16 : Int32).toUInt32 &&& Int32.toUInt32 31)).toInt32) ((1 : Int32) + (16 : Int32))) else y &&& 32
theorem j62_ok {l0 l1 : Int32} {post : Int32 → Prop} (h : post (j62 l0 l1)) : wj_J6_numberOfTrailingZeros_0f7a4_62 post l0 l1 := by
  unfold j62 at h
  unfold wj_J6_numberOfTrailingZeros_0f7a4_62
  exact ⟨fun q => by rwa [if_pos q] at h, fun q => by rwa [if_neg q] at h⟩
theorem j49_ok {l0 l1 : Int32} {post : Int32 → Prop} (h : post (j49 l0 l1)) : wj_J6_numberOfTrailingZeros_0f7a4_49 post l0 l1 := by
  unfold j49 at h
  unfold wj_J6_numberOfTrailingZeros_0f7a4_49
  exact ⟨fun q => j62_ok (by rwa [if_pos q] at h), fun q => j62_ok (by rwa [if_neg q] at h)⟩
theorem j34_ok {l0 l1 : Int32} {post : Int32 → Prop} (h : post (j34 l0 l1)) : wj_J6_numberOfTrailingZeros_0f7a4_34 post l0 l1 := by
  unfold j34 at h
  unfold wj_J6_numberOfTrailingZeros_0f7a4_34
  exact ⟨fun q => j49_ok (by rwa [if_pos q] at h), fun q => j49_ok (by rwa [if_neg q] at h)⟩
theorem j6_ok {x : Int32} {post : Int32 → Prop} (h : post (j6 ((x ^^^ (-1 : Int32)) &&& (x - (1 : Int32))))) : wp_J6_numberOfTrailingZeros_0f7a4 x post := by
  unfold j6 at h
  unfold wp_J6_numberOfTrailingZeros_0f7a4
  exact ⟨fun q => ⟨fun q2 => j34_ok (by rwa [if_pos q, if_pos q2] at h), fun q2 => j34_ok (by rwa [if_pos q, if_neg q2] at h)⟩, fun q => by rwa [if_neg q] at h⟩
theorem j6_val : ∀ t, t < 33 → j6 (nI (2 ^ t - 1)) = nI t := by decide +kernel
theorem low_ones {t m j : Nat} : ((!(2 ^ (t + 1) * m + 2 ^ t).testBit j) && (2 ^ (t + 1) * m + 2 ^ t - 1).testBit j) = decide (j < t) := by
  have hp : 2 ^ (t + 1) = 2 * 2 ^ t := by rw [Nat.pow_succ, Nat.mul_comm]
  have h0 : 0 < 2 ^ t := Nat.two_pow_pos t
  rw [show 2 ^ (t + 1) * m + 2 ^ t - 1 = 2 ^ (t + 1) * m + (2 ^ t - 1) by omega]
  rw [Nat.testBit_two_pow_mul_add m (show 2 ^ t < 2 ^ (t + 1) by omega), Nat.testBit_two_pow_mul_add m (show 2 ^ t - 1 < 2 ^ (t + 1) by omega)]
  by_cases c : j < t + 1
  · rw [if_pos c, if_pos c, Nat.testBit_two_pow, Nat.testBit_two_pow_sub_one]
    by_cases d : j < t
    · rw [decide_eq_true d, decide_eq_false (by omega)]; rfl
    · rw [decide_eq_false d, Bool.and_false]
  · rw [if_neg c, if_neg c, decide_eq_false (by omega), Bool.not_and_self]
theorem low_mask {x : Int32} {t : Nat} (h : V2 32 t x.toBitVec.toNat) : (x ^^^ (-1 : Int32)) &&& (x - (1 : Int32)) = nI (2 ^ t - 1) := by
  rcases h with ⟨h, rfl⟩ | ⟨ht, m, h⟩
  · have : x = 0 := Int32.toBitVec_inj.mp (BitVec.eq_of_toNat_eq h)
    subst this
    decide
  · apply Int32.toBitVec_inj.mp
    apply BitVec.eq_of_toNat_eq
    have hlt := x.toBitVec.isLt
    have h0 : 0 < 2 ^ t := Nat.two_pow_pos t
    have ht2 : 2 ^ t ≤ 2 ^ 31 := Nat.pow_le_pow_right (by decide) (by omega)
    rw [pk_tn (by omega)]
    have e1 : (x - (1 : Int32)).toBitVec.toNat = x.toBitVec.toNat - 1 := by
      show (x.toBitVec - (1 : Int32).toBitVec).toNat = _
      rw [BitVec.toNat_sub, show (1 : Int32).toBitVec.toNat = 1 by decide]
      omega
    apply Nat.eq_of_testBit_eq
    intro j
    rw [Int32.toBitVec_and, BitVec.toNat_and, Nat.testBit_and, e1, Nat.testBit_two_pow_sub_one, Int32.toBitVec_xor, BitVec.toNat_xor, Nat.testBit_xor, show (-1 : Int32).toBitVec.toNat = 2 ^ 32 - 1 by decide, Nat.testBit_two_pow_sub_one, h]
    by_cases c : j < 32
    · rw [decide_eq_true c, Bool.xor_true]
      exact low_ones
    · have : decide (j < t) = false := decide_eq_false (by omega)
      rw [this]
      have hz : (2 ^ (t + 1) * m + 2 ^ t - 1).testBit j = false := by
        apply Nat.testBit_lt_two_pow
        have := Nat.pow_le_pow_right (show 0 < 2 by decide) (show 32 ≤ j by omega)
        omega
      rw [hz, Bool.and_false]
theorem tz32_ok {x : Int32} {t : Nat} {post : Int32 → Prop} (h : V2 32 t x.toBitVec.toNat) (hp : post (nI t)) : wp_J6_numberOfTrailingZeros_0f7a4 x post := by
  have ht : t < 33 := by rcases h with ⟨_, e⟩ | ⟨e, _⟩ <;> omega
  refine j6_ok ?_
  rw [low_mask h, j6_val t ht]
  exact hp
theorem tz64_ok {x : Int64} {t : Nat} {post : Int32 → Prop} (h : V2 64 t x.toBitVec.toNat) (hp : post (nI t)) : wp_X5_twosIn x post := by
  unfold wp_X5_twosIn wp_J13_numberOfTrailingZeros_95d88
  have e1 : x.toInt32.toBitVec.toNat = x.toBitVec.toNat % 2 ^ 32 := by
    show (x.toBitVec.signExtend 32).toNat = _
    rw [BitVec.signExtend_eq_setWidth_of_le _ (by decide), BitVec.toNat_setWidth]
  have e2 : ((x.toUInt64 >>> ((32 : Int32).toInt64.toUInt64 &&& Int64.toUInt64 63)).toInt64).toInt32.toBitVec.toNat = x.toBitVec.toNat / 2 ^ 32 := by
    show (((x.toUInt64 >>> ((32 : Int32).toInt64.toUInt64 &&& Int64.toUInt64 63)).toInt64).toBitVec.signExtend 32).toNat = _
    rw [BitVec.signExtend_eq_setWidth_of_le _ (by decide), BitVec.toNat_setWidth]
    have : ((x.toUInt64 >>> ((32 : Int32).toInt64.toUInt64 &&& Int64.toUInt64 63)).toInt64).toBitVec = x.toBitVec >>> 32 := by
      rw [show (32 : Nat) = (((32 : Int32).toInt64.toUInt64 &&& Int64.toUInt64 63).toBitVec % 64).toNat by decide]
      exact UInt64.toBitVec_shiftRight _ _
    rw [this, BitVec.toNat_ushiftRight, Nat.shiftRight_eq_div_pow]
    have := x.toBitVec.isLt
    omega
  have z : x.toInt32 = 0 ↔ x.toBitVec.toNat % 2 ^ 32 = 0 := by
    rw [← e1]
    constructor
    · intro q; rw [q]; decide
    · intro q; exact Int32.toBitVec_inj.mp (BitVec.eq_of_toNat_eq q)
  generalize x.toBitVec.toNat = u at *
  by_cases c : t < 32
  · rcases h with ⟨_, e⟩ | ⟨_, m, e⟩
    · omega
    have ep : 2 ^ 32 = 2 ^ (t + 1) * 2 ^ (31 - t) := by rw [← Nat.pow_add, show t + 1 + (31 - t) = 32 by omega]
    have er : u % 2 ^ 32 = 2 ^ (t + 1) * (m % 2 ^ (31 - t)) + 2 ^ t := by
      have hlt : 2 ^ t < 2 ^ (t + 1) := Nat.pow_lt_pow_right (by decide) (by omega)
      have hml := Nat.mod_lt m (Nat.two_pow_pos (31 - t))
      have em : m = 2 ^ (31 - t) * (m / 2 ^ (31 - t)) + m % 2 ^ (31 - t) := (Nat.div_add_mod _ _).symm
      have eu : u = 2 ^ 32 * (m / 2 ^ (31 - t)) + (2 ^ (t + 1) * (m % 2 ^ (31 - t)) + 2 ^ t) := by
        rw [ep, Nat.mul_assoc, ← Nat.add_assoc, ← Nat.mul_add, ← em]
        exact e
      have hb : 2 ^ (t + 1) * (m % 2 ^ (31 - t)) + 2 ^ t < 2 ^ 32 := by
        have := Nat.mul_le_mul_left (2 ^ (t + 1)) (show m % 2 ^ (31 - t) + 1 ≤ 2 ^ (31 - t) from hml)
        rw [Nat.mul_succ, ← ep] at this
        omega
      rw [eu, Nat.mul_add_mod, Nat.mod_eq_of_lt hb]
    have h0 := Nat.two_pow_pos t
    refine ⟨fun _ => tz32_ok (Or.inr ⟨c, _, by rw [e1]; exact er⟩) hp, fun q => ?_⟩
    have := z.mp q
    omega
  · have hz : u % 2 ^ 32 = 0 ∧ V2 32 (t - 32) (u / 2 ^ 32) := by
      rcases h with ⟨e, e'⟩ | ⟨e', m, e⟩
      · subst e
        exact ⟨by decide, Or.inl ⟨by decide, by omega⟩⟩
      · have eu : u = 2 ^ 32 * (2 ^ (t - 32 + 1) * m + 2 ^ (t - 32)) := by
          rw [Nat.mul_add, ← Nat.mul_assoc, ← Nat.pow_add, ← Nat.pow_add, show 32 + (t - 32 + 1) = t + 1 by omega, show 32 + (t - 32) = t by omega]
          exact e
        exact ⟨by rw [eu]; exact Nat.mul_mod_right _ _, Or.inr ⟨by omega, m, by rw [eu]; exact Nat.mul_div_cancel_left _ (by decide)⟩⟩
    refine ⟨fun q => absurd (z.mpr hz.1) q, fun _ => tz32_ok (t := t - 32) (by rw [e2]; exact hz.2) ?_⟩
    rw [show (32 : Int32) = nI 32 from rfl, nI_add, show 32 + (t - 32) = t by rcases h with ⟨_, e⟩ | ⟨e, _⟩ <;> omega]
    exact hp
