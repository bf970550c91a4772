-- PURE 5: a solid as its faces see it
def GS (F : Nat) (look : Nat → Nat) (nb on : Nat → Nat → Nat) : Prop := (∀ f, f < F → look f < 6) ∧ ∀ f e, f < F → e < 6 → ¬ e / 2 = look f / 2 → nb f e < F ∧ on f e < 6 ∧ ((look (nb f e) / 2 = e / 2 ∧ on f e / 2 = look f / 2) ∨ (look (nb f e) / 2 = look f / 2 ∧ on f e / 2 = e / 2))
def TB (F : Nat) (look : Nat → Nat) (nb on : Nat → Nat → Nat) (lo be ow : Nat → Int32) : Prop := (∀ f, f < F → lo f = nI (look f)) ∧ ∀ f e, f < F → e < 6 → ¬ e / 2 = look f / 2 → be (f * 6 + e) = nI (nb f e) ∧ ow (f * 6 + e) = nI (on f e)
/-- the place of face f -/
noncomputable def kF (n : Nat) (x y z : Nat → Int32) (f : Nat) : Nat := lf (fun k => fP n x y z k ∧ fN n x y z k = f) (n * 6)
theorem kF_ok {n : Nat} {x y z : Nat → Int32} {f : Nat} (h : f < fN n x y z (n * 6)) : kF n x y z f < n * 6 ∧ fP n x y z (kF n x y z f) ∧ fN n x y z (kF n x y z f) = f := by
  obtain ⟨k, k1, k2, k3⟩ := cnt_sur (P := fP n x y z) h
  have hl : kF n x y z f < n * 6 := lf_ex ⟨k, k1, k2, k3⟩
  exact ⟨hl, (lf_lt hl).1.1, (lf_lt hl).1.2⟩
theorem kF_fN {n : Nat} {x y z : Nat → Int32} {k : Nat} (hk : k < n * 6) (hf : fP n x y z k) : kF n x y z (fN n x y z k) = k := by
  obtain ⟨h1, h2, h3⟩ := kF_ok (n := n) (x := x) (y := y) (z := z) (f := fN n x y z k) (cnt_lt hk hf)
  exact cnt_inj h2 hf h3
noncomputable def lookS (n : Nat) (x y z : Nat → Int32) (f : Nat) : Nat := kF n x y z f % 6
noncomputable def nbS (n : Nat) (x y z : Nat → Int32) (f e : Nat) : Nat := fN n x y z (nbK n x y z (kF n x y z f / 6) (kF n x y z f % 6) e)
noncomputable def onF (n : Nat) (x y z : Nat → Int32) (f e : Nat) : Nat := onS n x y z (kF n x y z f / 6) (kF n x y z f % 6) e
theorem GS_ok {n : Nat} {x y z : Nat → Int32} : GS (fN n x y z (n * 6)) (lookS n x y z) (nbS n x y z) (onF n x y z) := by
  refine ⟨fun f _ => by unfold lookS; omega, fun f e hf he ha => ?_⟩
  obtain ⟨h1, h2, h3⟩ := kF_ok hf
  have hd : kF n x y z f % 6 < 6 := by omega
  obtain ⟨g1, g2⟩ := nbK_ok (e := e) (show kF n x y z f / 6 < n by omega) hd he h2
  have hg : lookS n x y z (nbS n x y z f e) = nbK n x y z (kF n x y z f / 6) (kF n x y z f % 6) e % 6 := by
    unfold lookS nbS
    rw [kF_fN g1 g2]
  refine ⟨cnt_lt g1 g2, ?_, ?_⟩
  · unfold onF onS
    have := op_lt (kF n x y z f % 6)
    split
    · exact hd
    · split
      · exact he
      · exact this
  · rw [hg]
    unfold onF onS nbK lookS
    have o1 := op_ax e he
    have o2 := op_ax _ hd
    have o3 := op_lt e
    split
    · left; omega
    · split
      · right; omega
      · left; omega
theorem TB_of {n : Nat} {x y z co lo be ow : Nat → Int32} (hT : FT n x y z (n * 6) co lo) (hE : ET n x y z (fN n x y z (n * 6)) 0 be ow) : TB (fN n x y z (n * 6)) (lookS n x y z) (nbS n x y z) (onF n x y z) lo be ow := by
  refine ⟨fun f hf => ?_, fun f e hf he ha => ?_⟩
  · obtain ⟨h1, h2, h3⟩ := kF_ok hf
    have := (hT _ h1 h2).2
    rw [h3] at this
    exact this
  · obtain ⟨h1, h2, h3⟩ := kF_ok hf
    have := hE _ e h1 h2 he ha (Or.inl (by rw [h3]; exact hf))
    rw [h3] at this
    exact this
theorem CO_of {n : Nat} {x y z co lo : Nat → Int32} (hT : FT n x y z (n * 6) co lo) {f : Nat} (hf : f < fN n x y z (n * 6)) : co f = nI (kF n x y z f / 6) := by
  obtain ⟨h1, h2, h3⟩ := kF_ok hf
  have := (hT _ h1 h2).1
  rw [h3] at this
  exact this
/-- a face on paper: RIGHT and UP lie along it -/
def OR (look : Nat → Nat) (f r u : Nat) : Prop := r < 6 ∧ u < 6 ∧ ¬ r / 2 = look f / 2 ∧ ¬ u / 2 = look f / 2 ∧ ¬ r / 2 = u / 2
def sd (r u s : Nat) : Nat := match s with | 0 => r | 1 => u | 2 => op r | _ => op u
def nr (r s o : Nat) : Nat := match s with | 0 => o | 2 => op o | _ => r
def nu (u s o : Nat) : Nat := match s with | 1 => o | 3 => op o | _ => u
theorem sd_ok {look : Nat → Nat} {f r u s : Nat} (h : OR look f r u) (hs : s < 4) : sd r u s < 6 ∧ ¬ sd r u s / 2 = look f / 2 := by
  obtain ⟨h1, h2, h3, h4, h5⟩ := h
  have o1 := op_ax r h1
  have o2 := op_ax u h2
  have o3 := op_lt r
  have o4 := op_lt u
  rcases (show s = 0 ∨ s = 1 ∨ s = 2 ∨ s = 3 by omega) with rfl | rfl | rfl | rfl <;> simp only [sd] <;> omega
theorem OR_next {F : Nat} {look : Nat → Nat} {nb on : Nat → Nat → Nat} {f r u s : Nat} (hG : GS F look nb on) (hf : f < F) (h : OR look f r u) (hs : s < 4) : OR look (nb f (sd r u s)) (nr r s (on f (sd r u s))) (nu u s (on f (sd r u s))) := by
  obtain ⟨a1, a2⟩ := sd_ok h hs
  obtain ⟨b1, b2, b3⟩ := hG.2 f _ hf a1 a2
  obtain ⟨h1, h2, h3, h4, h5⟩ := h
  have o1 := op_ax r h1
  have o2 := op_ax u h2
  have o3 := op_ax _ b2
  have o4 := op_lt (on f (sd r u s))
  unfold OR
  generalize hgn : nb f (sd r u s) = g at *
  generalize hgo : on f (sd r u s) = o at *
  rcases (show s = 0 ∨ s = 1 ∨ s = 2 ∨ s = 3 by omega) with rfl | rfl | rfl | rfl <;> simp only [sd, nr, nu] at * <;> rcases b3 with b3 | b3 <;> omega
def fr (d : Nat) : Nat := match d with | 0 => 2 | 1 => 4 | 2 => 4 | 3 => 0 | 4 => 0 | _ => 2
def fu (d : Nat) : Nat := match d with | 0 => 4 | 1 => 2 | 2 => 0 | 3 => 4 | 4 => 2 | _ => 0
theorem fr_ok : ∀ d, d < 6 → q_FIRST_RIGHT d = nI (fr d) := by decide
theorem fu_ok : ∀ d, d < 6 → q_FIRST_UP d = nI (fu d) := by decide
theorem fru : ∀ d, d < 6 → fr d < 6 ∧ fu d < 6 ∧ ¬ fr d / 2 = d / 2 ∧ ¬ fu d / 2 = d / 2 ∧ ¬ fr d / 2 = fu d / 2 := by decide
theorem OR_first {look : Nat → Nat} {f : Nat} (h : look f < 6) : OR look f (fr (look f)) (fu (look f)) := fru _ h
/-- numbers that stay small -/
theorem tadd {a b : Int32} (h1 : -2147483648 ≤ a.toInt + b.toInt) (h2 : a.toInt + b.toInt < 2147483648) : (a + b).toInt = a.toInt + b.toInt := by
  rw [Int32.toInt_add, Int.bmod_def]
  split <;> omega
theorem tsub {a b : Int32} (h1 : -2147483648 ≤ a.toInt - b.toInt) (h2 : a.toInt - b.toInt < 2147483648) : (a - b).toInt = a.toInt - b.toInt := by
  rw [Int32.toInt_sub, Int.bmod_def]
  split <;> omega
theorem tmul {a b : Int32} (h1 : -2147483648 ≤ a.toInt * b.toInt) (h2 : a.toInt * b.toInt < 2147483648) : (a * b).toInt = a.toInt * b.toInt := by
  rw [Int32.toInt_mul, Int.bmod_def]
  split <;> omega
theorem tneg {a : Int32} (h1 : -2147483648 < a.toInt) : (-a).toInt = -a.toInt := by
  have := Int32.toInt_lt a
  rw [Int32.toInt_neg, Int.bmod_def]
  split <;> omega
theorem t31 : (31 : Int32).toInt = 31 := by decide
def sm (N : Nat) (a : Int32) : Prop := -(N : Int) ≤ a.toInt ∧ a.toInt ≤ N
theorem sm_le {M N : Nat} {a : Int32} (h : sm M a) (hMN : M ≤ N) : sm N a := by unfold sm at *; omega
theorem in63 {a : Int32} (h : sm 31 a) : vp_in ((31 : Int32) + a) 63 ∧ ((31 : Int32) + a).toNatClampNeg = (31 + a.toInt).toNat := by
  unfold sm at h
  have e : ((31 : Int32) + a).toInt = 31 + a.toInt := by rw [tadd] <;> rw [t31] <;> omega
  refine ⟨vp_in_iff.mpr ?_, ?_⟩
  · rw [e]; omega
  · show ((31 : Int32) + a).toInt.toNat = _
    rw [e]
theorem sideXY : ∀ s, s < 4 → (q_SIDE_X s).toInt + (q_SIDE_Y s).toInt ≤ 1 ∧ -1 ≤ (q_SIDE_X s).toInt ∧ (q_SIDE_X s).toInt ≤ 1 ∧ -1 ≤ (q_SIDE_Y s).toInt ∧ (q_SIDE_Y s).toInt ≤ 1 := by decide
theorem sm_step {N : Nat} {a b : Int32} (h : sm N a) (hb : -1 ≤ b.toInt ∧ b.toInt ≤ 1) (hN : N < 1000) : sm (N + 1) (a + b) := by
  unfold sm at *
  rw [tadd] <;> omega
