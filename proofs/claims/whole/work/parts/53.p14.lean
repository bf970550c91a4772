-- PURE 14: the class's images, as lines of bits
def bitI (w : Int32) (k : Nat) : Bool := w.toBitVec.getLsbD k
theorem sh_tp : ∀ k, k < 32 → ((1 : Int32) <<< (nI k &&& 31)).toBitVec = BitVec.twoPow 32 k := by decide +kernel
theorem bitI_or (w : Int32) {k : Nat} (hk : k < 32) (j : Nat) : bitI (w ||| ((1 : Int32) <<< (nI k &&& 31))) j = (bitI w j || decide (k = j)) := by
  unfold bitI
  rw [Int32.toBitVec_or, BitVec.getLsbD_or, sh_tp k hk, BitVec.getLsbD_twoPow]
  simp [hk]
theorem bitI_ext {v w : Int32} (h : ∀ k, k < 32 → bitI v k = bitI w k) : v = w := by
  rw [← Int32.toBitVec_inj]
  exact BitVec.eq_of_getLsbD_eq (fun i hi => h i hi)
theorem bitI_0 (k : Nat) : bitI 0 k = false := by
  unfold bitI
  rw [show (0 : Int32).toBitVec = 0#32 by decide, BitVec.getLsbD_zero]
theorem bitI_xor (v w : Int32) (k : Nat) : bitI (v ^^^ w) k = (bitI v k ^^ bitI w k) := by
  unfold bitI
  rw [Int32.toBitVec_xor, BitVec.getLsbD_xor]
/-- the lowest bit -/
theorem low1 {d : Int32} (h : ¬ d = 0) : ∃ k, k < 32 ∧ bitI d k = true ∧ (∀ j, j < k → bitI d j = false) ∧ ∀ a : Int32, ((d &&& -d) &&& a) = 0 ↔ bitI a k = false := by
  have hex : ∃ i, i < 32 ∧ bitI d i = true := by
    refine Classical.byContradiction (fun q => h (bitI_ext (fun k hk => ?_)))
    rw [bitI_0]
    cases e : bitI d k with
    | false => rfl
    | true => exact absurd ⟨k, hk, e⟩ q
  have hl := lf_ex hex
  obtain ⟨l1, l2⟩ := lf_lt hl
  refine ⟨lf (fun i => bitI d i = true) 32, hl, l1, fun j hj => by have := l2 j hj; simpa using this, fun a => ?_⟩
  generalize hk : lf (fun i => bitI d i = true) 32 = k at hl l1 l2
  have ht : (d &&& -d).toBitVec = BitVec.twoPow 32 k := by
    refine BitVec.eq_of_getLsbD_eq (fun i hi => ?_)
    rw [Int32.toBitVec_and, Int32.toBitVec_neg, BitVec.getLsbD_and, BitVec.getLsbD_neg, BitVec.getLsbD_twoPow]
    unfold bitI at l1 l2
    have e1 : ∀ j, j < k → d.toBitVec.getLsbD j = false := fun j hj => by have := l2 j hj; simpa using this
    by_cases c1 : i < k
    · rw [e1 i c1]; simp; omega
    · by_cases c2 : i = k
      · subst c2
        rw [l1, show decide (∃ j, j < i ∧ d.toBitVec.getLsbD j = true) = false from decide_eq_false (fun ⟨j, j1, j2⟩ => by rw [e1 j j1] at j2; cases j2)]
        simp [hi]
      · rw [show decide (∃ j, j < i ∧ d.toBitVec.getLsbD j = true) = true from decide_eq_true ⟨k, by omega, l1⟩]
        cases d.toBitVec.getLsbD i <;> simp [show ¬ k = i from fun e => c2 e.symm, hi]
  rw [← Int32.toBitVec_inj, Int32.toBitVec_and, ht, BitVec.and_comm, BitVec.and_twoPow]
  unfold bitI
  constructor
  · intro q
    cases e : a.toBitVec.getLsbD k with
    | false => rfl
    | true =>
      rw [e] at q
      simp only [if_true] at q
      have := congrArg (fun v => v.getLsbD k) q
      simp only [BitVec.getLsbD_twoPow] at this
      rw [show (0 : Int32).toBitVec = 0#32 by decide] at this
      simp [hl] at this
  · intro q
    rw [q]
    rfl
theorem fill_ok {N : Nat} {r : Nat → Int32} {v : Int32} {post : (Nat → Int32) → Prop} (hN : N < 2000) (h : ∀ r : Nat → Int32, (∀ j, j < N → r j = v) → post r) : wp_J7_fill_53178 N r v post := by
  unfold wp_J7_fill_53178
  refine Lp_for N (fun i r => ∀ j, j < i → r j = v) (by omega) (fun i r kb hi hI hkb => ?_) 0 r (by omega) (fun j hj => by omega)
  show wb_J7_fill_53178_5 N v (nI N) _ _ (nI i) r
  unfold wb_J7_fill_53178_5
  refine pk_le N i (fun hle => ?_) (fun hlt => ?_)
  · have e : i = N := by omega
    subst e
    exact h r hI
  · rw [nI_1, nI_clamp (by omega)]
    refine ⟨vp_in_nI (by omega) (by omega), hkb _ (by omega) (fun j hj => ?_)⟩
    by_cases e : j = i
    · subst e; rw [pk_us]
    · rw [pk_un e]; exact hI j (by omega)
def BT (im : Nat → Int32) (S : Nat → Prop) : Prop := ∀ y x, y < 22 → x < 32 → (bitI (im y) x = true ↔ S (32 * y + x))
theorem IM_succ {m F : Nat} {X Y : Nat → Int32} {i v : Nat} : IM m F X Y (i + 1) v ↔ IM m F X Y i v ∨ nmI m F X Y i = v := by
  constructor
  · rintro ⟨f, f1, f2⟩
    by_cases e : f = i
    · subst e; exact Or.inr f2
    · exact Or.inl ⟨f, by omega, f2⟩
  · rintro (⟨f, f1, f2⟩ | h)
    · exact ⟨f, by omega, f2⟩
    · exact ⟨i, by omega, h⟩
set_option maxHeartbeats 1000000 in
theorem X0_drawImage_ok {m F : Nat} {X Y im ix iy : Nat → Int32} {post : (Nat → Int32) → (Nat → Int32) → (Nat → Int32) → Prop} (hm : m < 8) (h1 : 1 ≤ F) (hF : F ≤ 22) (hX : SP X F) (hY : SP Y F) (h : ∀ im ix iy : Nat → Int32, BT im (IM m F X Y F) → post im ix iy) : wp_X0_drawImage im ix iy (nI F) X Y (nI m) post := by
  unfold wp_X0_drawImage
  refine Lp_for F (fun i (s : (Nat → Int32) × (Nat → Int32)) => ∀ k, k < i → s.1 k = imXr m X Y k ∧ s.2 k = imYr m X Y k) (by omega) (fun i s kb hi hI hkb => ?_) 0 (ix, iy) (by omega) (fun j hj => by omega)
  obtain ⟨ix, iy⟩ := s
  dsimp only [wl_X0_drawImage_8, wb_X0_drawImage_8]
  refine pk_le F i (fun hle => ?_) (fun hlt => ?_)
  · have e : i = F := by omega
    subst e
    have hI1 : ∀ k, k < i → ix k = imXr m X Y k := fun k hk => (hI k hk).1
    have hI2 : ∀ k, k < i → iy k = imYr m X Y k := fun k hk => (hI k hk).2
    obtain ⟨sX, sY⟩ := SP_im hm hX hY
    refine fill_ok (by omega) (fun im him => X7_least_ok h1 hF (by omega) (X7_least_ok h1 hF (by omega) ?_))
    rw [lsI_congr h1 hI1, lsI_congr h1 hI2]
    refine Lp_for i (fun j im => BT im (IM m i X Y j)) (by omega) (fun j im kb hj hJ hkb => ?_) 0 im (by omega) (fun y x hy hx => ?_)
    · dsimp only [wl_X0_drawImage_119, wb_X0_drawImage_119]
      refine pk_le i j (fun hle => ?_) (fun hlt => ?_)
      · have e : j = i := by omega
        subst e
        exact h _ _ _ hJ
      · obtain ⟨a1, a2, -⟩ := dN_ok sX hF (show j < i by omega)
        obtain ⟨b1, b2, -⟩ := dN_ok sY hF (show j < i by omega)
        rw [nI_1, nI_clamp (show j < 2 ^ 31 by omega), hI1 j (by omega), hI2 j (by omega), a1, b1, nI_clamp (show dN (imYr m X Y) i j < 2 ^ 31 by omega)]
        have hv1 : vp_in (nI j) 22 := vp_in_nI (by omega) (by omega)
        have hv2 : vp_in (nI (dN (imYr m X Y) i j)) 22 := vp_in_nI (by omega) (by omega)
        refine ⟨hv1, hv2, hv1, hv2, hkb _ (by omega) (fun y x hy hx => ?_)⟩
        rw [IM_succ, ← hJ y x hy hx]
        by_cases e : y = dN (imYr m X Y) i j
        · rw [e, pk_us, bitI_or _ (by omega)]
          have : (nmI m i X Y j = 32 * dN (imYr m X Y) i j + x) ↔ dN (imXr m X Y) i j = x := by unfold nmI; omega
          rw [this]
          simp
        · rw [pk_un e]
          refine ⟨fun q => Or.inl q, fun q => q.elim id (fun z => ?_)⟩
          unfold nmI at z
          omega
    · rw [him y hy, bitI_0]
      exact ⟨fun q => (by cases q), fun ⟨f, f1, _⟩ => (by omega)⟩
  · rw [nI_1, nI_clamp (show i < 2 ^ 31 by omega), nI_clamp (show m < 2 ^ 31 by omega)]
    have hv1 : vp_in (nI i) 22 := vp_in_nI (by omega) (by omega)
    have hv2 : vp_in (nI m) 8 := vp_in_nI (by omega) (by omega)
    refine ⟨hv2, hv1, hv2, hv1, hv1, hv2, hv1, hv2, hv1, hv1, hkb (_, _) (by omega) (fun k hk => ?_)⟩
    by_cases e : k = i
    · subst e
      show upd _ _ _ _ = _ ∧ upd _ _ _ _ = _
      rw [pk_us, pk_us]; exact ⟨rfl, rfl⟩
    · show upd _ _ _ _ = _ ∧ upd _ _ _ _ = _
      rw [pk_un e, pk_un e]; exact hI k (by omega)
/-- of two images the lesser -/
def less (S T : Nat → Prop) : Prop := ∃ v, S v ∧ ¬ T v ∧ ∀ u, u < v → (S u ↔ T u)
theorem less_as {S T : Nat → Prop} (h : less S T) (h2 : less T S) : False := by
  obtain ⟨v, v1, v2, v3⟩ := h
  obtain ⟨u, u1, u2, u3⟩ := h2
  by_cases c : u < v
  · exact u2 ((v3 u c).mpr u1)
  · by_cases c2 : v < u
    · exact v2 ((u3 v c2).mpr v1)
    · have : u = v := by omega
      subst this
      exact u2 v1
def B7 (S : Nat → Prop) : Prop := ∀ v, S v → v < 704
theorem X0_isImageLess_ok {im le : Nat → Int32} {S T : Nat → Prop} {post : Int32 → Prop} (hS : BT im S) (hT : BT le T) (bS : B7 S) (bT : B7 T) (h1 : less S T → post 1) (h0 : ¬ less S T → post 0) : wp_X0_isImageLess im le post := by
  unfold wp_X0_isImageLess
  refine Lp_for0 22 (fun y => ∀ j, j < y → im j = le j) (by omega) (fun y kb hy hI hkb => ?_) 0 (by omega) (fun j hj => by omega)
  show wb_X0_isImageLess_2 im le _ _ kb (nI y)
  unfold wb_X0_isImageLess_2
  have hrow : ∀ u, u / 32 < y → u < 704 → (S u ↔ T u) := fun u hu hu2 => by
    have a := hS (u / 32) (u % 32) (by omega) (by omega)
    have b := hT (u / 32) (u % 32) (by omega) (by omega)
    rw [show 32 * (u / 32) + u % 32 = u by omega] at a b
    rw [← a, ← b, hI _ hu]
  refine pk_le 22 y (fun hle => ?_) (fun hlt => ?_)
  · refine h0 (fun ⟨v, v1, v2, v3⟩ => v2 ((hrow v ?_ (bS v v1)).mp v1))
    have := bS v v1
    omega
  · rw [nI_1, nI_clamp (show y < 2 ^ 31 by omega)]
    have hv : vp_in (nI y) 22 := vp_in_nI (by omega) (by omega)
    refine ⟨hv, hv, fun q => hkb (by omega) (fun j hj => ?_), fun q => ⟨hv, ?_⟩⟩
    · by_cases e : j = y
      · subst e
        have : im j = im j ^^^ le j ^^^ le j := by rw [Int32.xor_assoc, Int32.xor_self, Int32.xor_zero]
        rw [this, q, Int32.zero_xor]
      · exact hI j (by omega)
    · obtain ⟨k, k1, k2, k3, k4⟩ := low1 q
      rw [bitI_xor] at k2
      have hk := hS y k (by omega) k1
      have hk' := hT y k (by omega) k1
      have hbelow : ∀ u, u < 32 * y + k → (S u ↔ T u) := fun u hu => by
        by_cases c : u / 32 < y
        · exact hrow u c (by omega)
        · have a := hS (u / 32) (u % 32) (by omega) (by omega)
          have b := hT (u / 32) (u % 32) (by omega) (by omega)
          rw [show 32 * (u / 32) + u % 32 = u by omega] at a b
          have c3 := k3 (u % 32) (by omega)
          rw [bitI_xor] at c3
          rw [← a, ← b, show u / 32 = y by omega]
          cases e1 : bitI (im y) (u % 32) <;> cases e2 : bitI (le y) (u % 32) <;> rw [e1, e2] at c3 <;> simp at c3 ⊢
      rw [nI_clamp (show y < 2 ^ 31 by omega), k4]
      refine ⟨fun z => h0 (fun hl => ?_), fun z => h1 ?_⟩
      · have hT1 : bitI (le y) k = true := by rw [z] at k2; simpa using k2
        have hT2 := hk'.mp hT1
        have hS2 : ¬ S (32 * y + k) := fun w => by rw [hk.mpr w] at z; cases z
        exact less_as hl ⟨_, hT2, hS2, fun u hu => (hbelow u hu).symm⟩
      · have hS1 : bitI (im y) k = true := by simpa using z
        have hT1 : ¬ bitI (le y) k = true := fun w => by rw [hS1, w] at k2; cases k2
        exact ⟨_, hk.mp hS1, fun w => hT1 (hk'.mpr w), hbelow⟩
noncomputable def Bst (F : Nat) (X Y : Nat → Int32) : Nat → Nat → Prop
  | 0 => IM 0 F X Y F
  | m + 1 => @ite _ (less (IM (m + 1) F X Y F) (Bst F X Y m)) (Classical.propDecidable _) (IM (m + 1) F X Y F) (Bst F X Y m)
theorem Bst_t {F m : Nat} {X Y : Nat → Int32} (h : less (IM (m + 1) F X Y F) (Bst F X Y m)) : Bst F X Y (m + 1) = IM (m + 1) F X Y F := if_pos h
theorem Bst_f {F m : Nat} {X Y : Nat → Int32} (h : ¬ less (IM (m + 1) F X Y F) (Bst F X Y m)) : Bst F X Y (m + 1) = Bst F X Y m := if_neg h
theorem Bst_is {F : Nat} {X Y : Nat → Int32} : ∀ m, ∃ k, k ≤ m ∧ Bst F X Y m = IM k F X Y F := by
  intro m
  induction m with
  | zero => exact ⟨0, by omega, rfl⟩
  | succ m ih =>
    by_cases q : less (IM (m + 1) F X Y F) (Bst F X Y m)
    · exact ⟨m + 1, by omega, Bst_t q⟩
    · obtain ⟨k, k1, k2⟩ := ih
      exact ⟨k, by omega, by rw [Bst_f q]; exact k2⟩
theorem B7_IM {m F : Nat} {X Y : Nat → Int32} (hm : m < 8) (hF : F ≤ 22) (hX : SP X F) (hY : SP Y F) : B7 (IM m F X Y F) := by
  rintro v ⟨f, f1, f2⟩
  rw [← f2]
  exact (nmI_ok hm hF hX hY f1).1
theorem B7_Bst {m F : Nat} {X Y : Nat → Int32} (hm : m < 8) (hF : F ≤ 22) (hX : SP X F) (hY : SP Y F) : B7 (Bst F X Y m) := by
  obtain ⟨k, k1, k2⟩ := Bst_is (F := F) (X := X) (Y := Y) m
  rw [k2]
  exact B7_IM (by omega) hF hX hY
theorem BT_cpy {im le : Nat → Int32} {S : Nat → Prop} (h : BT im S) : BT (va_cpy im le (0 : Int32).toNatClampNeg (0 : Int32).toNatClampNeg (22 : Int32).toNatClampNeg) S := by
  intro y x hy hx
  rw [pk_cpy_in (show (0 : Int32).toNatClampNeg ≤ y from Nat.zero_le _) (show y < (0 : Int32).toNatClampNeg + (22 : Int32).toNatClampNeg from by rw [show (0 : Int32).toNatClampNeg = 0 by decide, show (22 : Int32).toNatClampNeg = 22 by decide]; omega)]
  rw [show (0 : Int32).toNatClampNeg + (y - (0 : Int32).toNatClampNeg) = y from by rw [show (0 : Int32).toNatClampNeg = 0 by decide]; omega]
  exact h y x hy hx
set_option maxHeartbeats 1000000 in
theorem X0_findLeastImage_ok {F : Nat} {X Y im ix iy le : Nat → Int32} {post : (Nat → Int32) → (Nat → Int32) → (Nat → Int32) → (Nat → Int32) → Prop} (h1 : 1 ≤ F) (hF : F ≤ 22) (hX : SP X F) (hY : SP Y F) (h : ∀ im ix iy le : Nat → Int32, BT le (Bst F X Y 7) → post im ix iy le) : wp_X0_findLeastImage im ix iy le (nI F) X Y post := by
  unfold wp_X0_findLeastImage
  refine Lp_for 8 (fun m (s : (Nat → Int32) × (Nat → Int32) × (Nat → Int32) × (Nat → Int32)) => 1 ≤ m → BT s.2.2.2 (Bst F X Y (m - 1))) (by omega) (fun m s kb hm hI hkb => ?_) 0 (im, ix, iy, le) (by omega) (fun q => by omega)
  obtain ⟨im, ix, iy, le⟩ := s
  dsimp only [wl_X0_findLeastImage_2, wb_X0_findLeastImage_2]
  refine pk_le 8 m (fun hle => ?_) (fun hlt => ?_)
  · have e : m = 8 := by omega
    subst e
    exact h _ _ _ _ (hI (by omega))
  · refine X0_drawImage_ok (by omega) h1 hF hX hY (fun im ix iy hB => ?_)
    unfold wj_X0_findLeastImage_25
    rw [nI_1]
    have hcp : Bst F X Y m = IM m F X Y F → kb (nI (m + 1), im, ix, iy, va_cpy im le (0 : Int32).toNatClampNeg (0 : Int32).toNatClampNeg (22 : Int32).toNatClampNeg) := fun e => hkb (_, _, _, _) (by omega) (fun _ => by show BT _ (Bst F X Y m); rw [e]; exact BT_cpy hB)
    have hw : ¬ (0 : Int32) < 0 ∧ ¬ (0 : Int32) < 0 ∧ ¬ (22 : Int32) < 0 ∧ (0 : Int32).toNatClampNeg + (22 : Int32).toNatClampNeg ≤ 22 ∧ (0 : Int32).toNatClampNeg + (22 : Int32).toNatClampNeg ≤ 22 := by decide
    obtain ⟨w1, w2, w3, w4, w5⟩ := hw
    refine ⟨fun q => ?_, fun q => ?_⟩
    · have e : m = 0 := (nI_eq (b := 0) (by omega) (by omega)).mp q
      subst e
      exact ⟨w1, w2, w3, w4, w5, hcp rfl⟩
    · have e : 1 ≤ m := by
        refine Nat.pos_of_ne_zero (fun e => q ?_)
        subst e
        rfl
      obtain ⟨k, rfl⟩ : ∃ k, m = k + 1 := ⟨m - 1, by omega⟩
      have hT := hI e
      rw [show k + 1 - 1 = k by omega] at hT
      refine X0_isImageLess_ok hB hT (B7_IM (by omega) hF hX hY) (B7_Bst (by omega) hF hX hY) (fun hl => ⟨fun z => absurd z (by decide), fun _ => ⟨w1, w2, w3, w4, w5, hcp (Bst_t hl)⟩⟩) (fun hl => ⟨fun _ => hkb (_, _, _, _) (by omega) (fun _ => ?_), fun z => absurd rfl z⟩)
      show BT le (Bst F X Y (k + 1))
      rw [Bst_f hl]
      exact hT
