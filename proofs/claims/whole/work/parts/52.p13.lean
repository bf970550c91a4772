-- PURE 13: least, most, images, their bits
def lsI (r : Nat → Int32) : Nat → Int32
  | 0 => r 0
  | k + 1 => if lsI r k ≤ r k then lsI r k else r k
def msI (r : Nat → Int32) : Nat → Int32
  | 0 => r 0
  | k + 1 => if r k ≤ msI r k then msI r k else r k
theorem lsI_1 (r : Nat → Int32) : lsI r 1 = r 0 := by show (if r 0 ≤ r 0 then r 0 else r 0) = r 0; split <;> rfl
theorem msI_1 (r : Nat → Int32) : msI r 1 = r 0 := by show (if r 0 ≤ r 0 then r 0 else r 0) = r 0; split <;> rfl
theorem lsI_t {r : Nat → Int32} {k : Nat} (h : lsI r k ≤ r k) : lsI r (k + 1) = lsI r k := if_pos h
theorem lsI_f {r : Nat → Int32} {k : Nat} (h : ¬ lsI r k ≤ r k) : lsI r (k + 1) = r k := if_neg h
theorem msI_t {r : Nat → Int32} {k : Nat} (h : r k ≤ msI r k) : msI r (k + 1) = msI r k := if_pos h
theorem msI_f {r : Nat → Int32} {k : Nat} (h : ¬ r k ≤ msI r k) : msI r (k + 1) = r k := if_neg h
theorem lsI_congr {r r' : Nat → Int32} : ∀ {n : Nat}, 1 ≤ n → (∀ k, k < n → r k = r' k) → lsI r n = lsI r' n := by
  intro n
  induction n with
  | zero => intro h; omega
  | succ n ih =>
    intro _ h
    by_cases e : n = 0
    · subst e; rw [lsI_1, lsI_1, h 0 (by omega)]
    · have ih := ih (by omega) (fun k hk => h k (by omega))
      show (if lsI r n ≤ r n then lsI r n else r n) = (if lsI r' n ≤ r' n then lsI r' n else r' n)
      rw [ih, h n (by omega)]
theorem msI_congr {r r' : Nat → Int32} : ∀ {n : Nat}, 1 ≤ n → (∀ k, k < n → r k = r' k) → msI r n = msI r' n := by
  intro n
  induction n with
  | zero => intro h; omega
  | succ n ih =>
    intro _ h
    by_cases e : n = 0
    · subst e; rw [msI_1, msI_1, h 0 (by omega)]
    · have ih := ih (by omega) (fun k hk => h k (by omega))
      show (if r n ≤ msI r n then msI r n else r n) = (if r' n ≤ msI r' n then msI r' n else r' n)
      rw [ih, h n (by omega)]
theorem lsI_le {r : Nat → Int32} : ∀ {n : Nat} (k : Nat), k < n → (lsI r n).toInt ≤ (r k).toInt := by
  intro n
  induction n with
  | zero => intro k h; omega
  | succ n ih =>
    intro k hk
    by_cases e : k = n
    · subst e
      by_cases q : lsI r k ≤ r k
      · rw [lsI_t q]; exact Int32.le_iff_toInt_le.mp q
      · rw [lsI_f q]; omega
    · have := ih k (by omega)
      by_cases q : lsI r n ≤ r n
      · rw [lsI_t q]; exact this
      · rw [lsI_f q]
        have q : ¬ (lsI r n).toInt ≤ (r n).toInt := fun z => q (Int32.le_iff_toInt_le.mpr z)
        omega
theorem lsI_ex {r : Nat → Int32} : ∀ {n : Nat}, 1 ≤ n → ∃ k, k < n ∧ lsI r n = r k := by
  intro n
  induction n with
  | zero => intro h; omega
  | succ n ih =>
    intro _
    by_cases e : n = 0
    · subst e; exact ⟨0, by omega, lsI_1 r⟩
    · by_cases q : lsI r n ≤ r n
      · obtain ⟨k, k1, k2⟩ := ih (by omega)
        exact ⟨k, by omega, by rw [lsI_t q]; exact k2⟩
      · exact ⟨n, by omega, lsI_f q⟩
theorem X7_least_ok {N n : Nat} {r : Nat → Int32} {post : Int32 → Prop} (h1 : 1 ≤ n) (hn : n ≤ N) (hN : N < 1000) (h : post (lsI r n)) : wp_X7_least N r (nI n) post := by
  unfold wp_X7_least
  refine ⟨vp_in_nI (n := 0) (by omega) (by omega), Lp_of (fun v => ∃ i, 1 ≤ i ∧ i ≤ n ∧ v.2 = nI i ∧ v.1 = lsI r i) (fun v => n - v.2.toNatClampNeg) (fun v kb hI hkb => ?_) _ ⟨1, by omega, by omega, rfl, (lsI_1 r).symm⟩⟩
  obtain ⟨v1, v2⟩ := v
  obtain ⟨i, i1, hi, e2, e1⟩ := hI
  subst e2
  replace e1 : v1 = lsI r i := e1
  subst e1
  dsimp only [wl_X7_least_6, wb_X7_least_6]
  refine pk_le n i (fun hle => ?_) (fun hlt => ?_)
  · have e : i = n := by omega
    subst e
    exact h
  · have hnx : ∀ u : Int32, u = lsI r (i + 1) → kb (u, nI (i + 1)) := fun u hu => hkb _ ⟨i + 1, by omega, by omega, rfl, hu⟩ (by show n - (nI (i + 1)).toNatClampNeg < n - (nI i).toNatClampNeg; rw [nI_clamp (by omega), nI_clamp (by omega)]; omega)
    have hv : vp_in (nI i) N := vp_in_nI (by omega) (by omega)
    rw [nI_1, nI_clamp (by omega)]
    exact ⟨hv, fun q => hnx _ (lsI_t q).symm, fun q => ⟨hv, hnx _ (lsI_f q).symm⟩⟩
theorem X7_most_ok {N n : Nat} {r : Nat → Int32} {post : Int32 → Prop} (h1 : 1 ≤ n) (hn : n ≤ N) (hN : N < 1000) (h : post (msI r n)) : wp_X7_most N r (nI n) post := by
  unfold wp_X7_most
  refine ⟨vp_in_nI (n := 0) (by omega) (by omega), Lp_of (fun v => ∃ i, 1 ≤ i ∧ i ≤ n ∧ v.2 = nI i ∧ v.1 = msI r i) (fun v => n - v.2.toNatClampNeg) (fun v kb hI hkb => ?_) _ ⟨1, by omega, by omega, rfl, (msI_1 r).symm⟩⟩
  obtain ⟨v1, v2⟩ := v
  obtain ⟨i, i1, hi, e2, e1⟩ := hI
  subst e2
  replace e1 : v1 = msI r i := e1
  subst e1
  dsimp only [wl_X7_most_6, wb_X7_most_6]
  refine pk_le n i (fun hle => ?_) (fun hlt => ?_)
  · have e : i = n := by omega
    subst e
    exact h
  · have hnx : ∀ u : Int32, u = msI r (i + 1) → kb (u, nI (i + 1)) := fun u hu => hkb _ ⟨i + 1, by omega, by omega, rfl, hu⟩ (by show n - (nI (i + 1)).toNatClampNeg < n - (nI i).toNatClampNeg; rw [nI_clamp (by omega), nI_clamp (by omega)]; omega)
    have hv : vp_in (nI i) N := vp_in_nI (by omega) (by omega)
    rw [nI_1, nI_clamp (by omega)]
    exact ⟨hv, fun q => hnx _ (msI_t q).symm, fun q => ⟨hv, hnx _ (msI_f q).symm⟩⟩
theorem X8_least_ok {N n : Nat} {r : Nat → Int32} {post : Int32 → Prop} (h1 : 1 ≤ n) (hn : n ≤ N) (hN : N < 1000) (h : post (lsI r n)) : wp_X8_least N (nI n) r post := X7_least_ok h1 hn hN h
theorem X8_most_ok {N n : Nat} {r : Nat → Int32} {post : Int32 → Prop} (h1 : 1 ≤ n) (hn : n ≤ N) (hN : N < 1000) (h : post (msI r n)) : wp_X8_most N (nI n) r post := X7_most_ok h1 hn hN h
-- the eight images
def imX (m : Nat) (x y : Int32) : Int32 := q_X_OF_X m * x + q_X_OF_Y m * y
def imY (m : Nat) (x y : Int32) : Int32 := q_Y_OF_X m * x + q_Y_OF_Y m * y
theorem m1 (x : Int32) : (-1 : Int32) * x = -x := by rw [Int32.neg_mul, Int32.one_mul]
/-- what an image is -/
def imC (m : Nat) : Prop :=
  ((∀ x y, imX m x y = x) ∧ (∀ x y, imY m x y = y)) ∨ ((∀ x y, imX m x y = y) ∧ (∀ x y, imY m x y = x)) ∨ ((∀ x y, imX m x y = -x) ∧ (∀ x y, imY m x y = y)) ∨ ((∀ x y, imX m x y = -y) ∧ (∀ x y, imY m x y = x)) ∨
  ((∀ x y, imX m x y = x) ∧ (∀ x y, imY m x y = -y)) ∨ ((∀ x y, imX m x y = y) ∧ (∀ x y, imY m x y = -x)) ∨ ((∀ x y, imX m x y = -x) ∧ (∀ x y, imY m x y = -y)) ∨ ((∀ x y, imX m x y = -y) ∧ (∀ x y, imY m x y = -x))
theorem im_0 (x y : Int32) : imX 0 x y = x ∧ imY 0 x y = y := by constructor <;> simp only [imX, imY, q_X_OF_X, q_X_OF_Y, q_Y_OF_X, q_Y_OF_Y, Int32.one_mul, Int32.zero_mul, m1, Int32.add_zero, Int32.zero_add]
theorem im_1 (x y : Int32) : imX 1 x y = y ∧ imY 1 x y = x := by constructor <;> simp only [imX, imY, q_X_OF_X, q_X_OF_Y, q_Y_OF_X, q_Y_OF_Y, Int32.one_mul, Int32.zero_mul, m1, Int32.add_zero, Int32.zero_add]
theorem im_2 (x y : Int32) : imX 2 x y = -x ∧ imY 2 x y = y := by constructor <;> simp only [imX, imY, q_X_OF_X, q_X_OF_Y, q_Y_OF_X, q_Y_OF_Y, Int32.one_mul, Int32.zero_mul, m1, Int32.add_zero, Int32.zero_add]
theorem im_3 (x y : Int32) : imX 3 x y = -y ∧ imY 3 x y = x := by constructor <;> simp only [imX, imY, q_X_OF_X, q_X_OF_Y, q_Y_OF_X, q_Y_OF_Y, Int32.one_mul, Int32.zero_mul, m1, Int32.add_zero, Int32.zero_add]
theorem im_4 (x y : Int32) : imX 4 x y = x ∧ imY 4 x y = -y := by constructor <;> simp only [imX, imY, q_X_OF_X, q_X_OF_Y, q_Y_OF_X, q_Y_OF_Y, Int32.one_mul, Int32.zero_mul, m1, Int32.add_zero, Int32.zero_add]
theorem im_5 (x y : Int32) : imX 5 x y = y ∧ imY 5 x y = -x := by constructor <;> simp only [imX, imY, q_X_OF_X, q_X_OF_Y, q_Y_OF_X, q_Y_OF_Y, Int32.one_mul, Int32.zero_mul, m1, Int32.add_zero, Int32.zero_add]
theorem im_6 (x y : Int32) : imX 6 x y = -x ∧ imY 6 x y = -y := by constructor <;> simp only [imX, imY, q_X_OF_X, q_X_OF_Y, q_Y_OF_X, q_Y_OF_Y, Int32.one_mul, Int32.zero_mul, m1, Int32.add_zero, Int32.zero_add]
theorem im_7 (x y : Int32) : imX 7 x y = -y ∧ imY 7 x y = -x := by constructor <;> simp only [imX, imY, q_X_OF_X, q_X_OF_Y, q_Y_OF_X, q_Y_OF_Y, Int32.one_mul, Int32.zero_mul, m1, Int32.add_zero, Int32.zero_add]
theorem imC_ok : ∀ m, m < 8 → imC m := by
  intro m h
  match m, h with
  | 0, _ => exact Or.inl ⟨fun x y => (im_0 x y).1, fun x y => (im_0 x y).2⟩
  | 1, _ => exact Or.inr (Or.inl ⟨fun x y => (im_1 x y).1, fun x y => (im_1 x y).2⟩)
  | 2, _ => exact Or.inr (Or.inr (Or.inl ⟨fun x y => (im_2 x y).1, fun x y => (im_2 x y).2⟩))
  | 3, _ => exact Or.inr (Or.inr (Or.inr (Or.inl ⟨fun x y => (im_3 x y).1, fun x y => (im_3 x y).2⟩)))
  | 4, _ => exact Or.inr (Or.inr (Or.inr (Or.inr (Or.inl ⟨fun x y => (im_4 x y).1, fun x y => (im_4 x y).2⟩))))
  | 5, _ => exact Or.inr (Or.inr (Or.inr (Or.inr (Or.inr (Or.inl ⟨fun x y => (im_5 x y).1, fun x y => (im_5 x y).2⟩)))))
  | 6, _ => exact Or.inr (Or.inr (Or.inr (Or.inr (Or.inr (Or.inr (Or.inl ⟨fun x y => (im_6 x y).1, fun x y => (im_6 x y).2⟩))))))
  | 7, _ => exact Or.inr (Or.inr (Or.inr (Or.inr (Or.inr (Or.inr (Or.inr ⟨fun x y => (im_7 x y).1, fun x y => (im_7 x y).2⟩))))))
theorem X8_imageOfX_ok : ∀ m, m < 8 → ∀ {x y : Int32} {post : Int32 → Prop}, post (imX m x y) → wp_X8_imageOfX (nI m) x y post := by
  intro m hm x y post h
  unfold wp_X8_imageOfX wj_X8_imageOfX_11
  match m, hm with
  | 0, _ => rw [(im_0 x y).1] at h; refine ⟨fun q => absurd (by decide) q, fun _ => ⟨fun q => absurd q (by decide), fun _ => ⟨fun q => absurd q (by decide), fun _ => ⟨fun q => absurd q (by decide), fun _ => ⟨fun _ => h, fun q => absurd q (by decide)⟩⟩⟩⟩⟩
  | 1, _ => rw [(im_1 x y).1] at h; refine ⟨fun _ => ⟨fun q => absurd q (by decide), fun _ => ⟨fun q => absurd q (by decide), fun _ => ⟨fun q => absurd q (by decide), fun _ => ⟨fun _ => h, fun q => absurd q (by decide)⟩⟩⟩⟩, fun q => absurd q (by decide)⟩
  | 2, _ => rw [(im_2 x y).1] at h; refine ⟨fun q => absurd (by decide) q, fun _ => ⟨fun _ => h, fun q => absurd (by decide) q⟩⟩
  | 3, _ => rw [(im_3 x y).1] at h; refine ⟨fun _ => ⟨fun _ => h, fun _ => ⟨fun _ => h, fun q => absurd (by decide) q⟩⟩, fun q => absurd q (by decide)⟩
  | 4, _ => rw [(im_4 x y).1] at h; refine ⟨fun q => absurd (by decide) q, fun _ => ⟨fun q => absurd q (by decide), fun _ => ⟨fun q => absurd q (by decide), fun _ => ⟨fun q => absurd q (by decide), fun _ => ⟨fun _ => h, fun q => absurd q (by decide)⟩⟩⟩⟩⟩
  | 5, _ => rw [(im_5 x y).1] at h; refine ⟨fun _ => ⟨fun q => absurd q (by decide), fun _ => ⟨fun q => absurd q (by decide), fun _ => ⟨fun q => absurd q (by decide), fun _ => ⟨fun _ => h, fun q => absurd q (by decide)⟩⟩⟩⟩, fun q => absurd q (by decide)⟩
  | 6, _ => rw [(im_6 x y).1] at h; refine ⟨fun q => absurd (by decide) q, fun _ => ⟨fun _ => h, fun _ => ⟨fun _ => h, fun _ => ⟨fun _ => h, fun q => absurd (by decide) q⟩⟩⟩⟩
  | 7, _ => rw [(im_7 x y).1] at h; refine ⟨fun _ => ⟨fun _ => h, fun _ => ⟨fun _ => h, fun _ => ⟨fun _ => h, fun _ => ⟨fun q => absurd (by decide) q, fun _ => h⟩⟩⟩⟩, fun q => absurd q (by decide)⟩
theorem X8_imageOfY_ok : ∀ m, m < 8 → ∀ {x y : Int32} {post : Int32 → Prop}, post (imY m x y) → wp_X8_imageOfY (nI m) x y post := by
  intro m hm x y post h
  unfold wp_X8_imageOfY
  match m, hm with
  | 0, _ => rw [(im_0 x y).2] at h; exact ⟨fun q => absurd (by decide) q, fun _ => ⟨fun _ => h, fun q => absurd (by decide) q⟩⟩
  | 1, _ => rw [(im_1 x y).2] at h; exact ⟨fun _ => ⟨fun _ => h, fun q => absurd (by decide) q⟩, fun q => absurd q (by decide)⟩
  | 2, _ => rw [(im_2 x y).2] at h; exact ⟨fun q => absurd (by decide) q, fun _ => ⟨fun _ => h, fun q => absurd (by decide) q⟩⟩
  | 3, _ => rw [(im_3 x y).2] at h; exact ⟨fun _ => ⟨fun _ => h, fun q => absurd (by decide) q⟩, fun q => absurd q (by decide)⟩
  | 4, _ => rw [(im_4 x y).2] at h; exact ⟨fun q => absurd (by decide) q, fun _ => ⟨fun q => absurd q (by decide), fun _ => h⟩⟩
  | 5, _ => rw [(im_5 x y).2] at h; exact ⟨fun _ => ⟨fun q => absurd q (by decide), fun _ => h⟩, fun q => absurd q (by decide)⟩
  | 6, _ => rw [(im_6 x y).2] at h; exact ⟨fun q => absurd (by decide) q, fun _ => ⟨fun q => absurd q (by decide), fun _ => h⟩⟩
  | 7, _ => rw [(im_7 x y).2] at h; exact ⟨fun _ => ⟨fun q => absurd q (by decide), fun _ => h⟩, fun q => absurd q (by decide)⟩
-- how far apart
def SP (r : Nat → Int32) (F : Nat) : Prop := (∀ f, f < F → sm 100 (r f)) ∧ ∀ f g, f < F → g < F → (r f).toInt - (r g).toInt < F
theorem SP_neg {r : Nat → Int32} {F : Nat} (h : SP r F) : SP (fun f => -(r f)) F := by
  obtain ⟨h1, h2⟩ := h
  have e : ∀ f, f < F → (-(r f)).toInt = -(r f).toInt := fun f hf => by
    have := h1 f hf
    unfold sm at this
    exact tneg (by omega)
  refine ⟨fun f hf => ?_, fun f g hf hg => ?_⟩
  · have := h1 f hf
    unfold sm at *
    show _ ≤ (-(r f)).toInt ∧ (-(r f)).toInt ≤ _
    rw [e f hf]; omega
  · have := h2 g f hg hf
    show (-(r f)).toInt - (-(r g)).toInt < _
    rw [e f hf, e g hg]; omega
def imXr (m : Nat) (X Y : Nat → Int32) : Nat → Int32 := fun f => imX m (X f) (Y f)
def imYr (m : Nat) (X Y : Nat → Int32) : Nat → Int32 := fun f => imY m (X f) (Y f)
theorem SP_im {m F : Nat} {X Y : Nat → Int32} (hm : m < 8) (hX : SP X F) (hY : SP Y F) : SP (imXr m X Y) F ∧ SP (imYr m X Y) F := by
  unfold imXr imYr
  rcases imC_ok m hm with ⟨a, b⟩ | ⟨a, b⟩ | ⟨a, b⟩ | ⟨a, b⟩ | ⟨a, b⟩ | ⟨a, b⟩ | ⟨a, b⟩ | ⟨a, b⟩ <;> simp only [a, b]
  · exact ⟨hX, hY⟩
  · exact ⟨hY, hX⟩
  · exact ⟨SP_neg hX, hY⟩
  · exact ⟨SP_neg hY, hX⟩
  · exact ⟨hX, SP_neg hY⟩
  · exact ⟨hY, SP_neg hX⟩
  · exact ⟨SP_neg hX, SP_neg hY⟩
  · exact ⟨SP_neg hY, SP_neg hX⟩
theorem neg_inj {a b : Int32} (h : -a = -b) : a = b := by have := congrArg (fun z => -z) h; simpa using this
theorem im_inj {m : Nat} {x y x' y' : Int32} (hm : m < 8) (h1 : imX m x y = imX m x' y') (h2 : imY m x y = imY m x' y') : x = x' ∧ y = y' := by
  rcases imC_ok m hm with ⟨a, b⟩ | ⟨a, b⟩ | ⟨a, b⟩ | ⟨a, b⟩ | ⟨a, b⟩ | ⟨a, b⟩ | ⟨a, b⟩ | ⟨a, b⟩ <;> rw [a, a] at h1 <;> rw [b, b] at h2
  · exact ⟨h1, h2⟩
  · exact ⟨h2, h1⟩
  · exact ⟨neg_inj h1, h2⟩
  · exact ⟨h2, neg_inj h1⟩
  · exact ⟨h1, neg_inj h2⟩
  · exact ⟨neg_inj h2, h1⟩
  · exact ⟨neg_inj h1, neg_inj h2⟩
  · exact ⟨neg_inj h2, neg_inj h1⟩
/-- how far from the least -/
def dN (r : Nat → Int32) (F f : Nat) : Nat := (r f - lsI r F).toNatClampNeg
theorem dN_ok {r : Nat → Int32} {F f : Nat} (h : SP r F) (hF : F ≤ 22) (hf : f < F) : r f - lsI r F = nI (dN r F f) ∧ dN r F f < F ∧ (dN r F f : Int) = (r f).toInt - (lsI r F).toInt := by
  obtain ⟨h1, h2⟩ := h
  obtain ⟨k, k1, k2⟩ := lsI_ex (r := r) (n := F) (by omega)
  have a := lsI_le (r := r) f hf
  have b := h2 f k hf k1
  rw [← k2] at b
  have c := h1 f hf
  have d := h1 k k1
  rw [← k2] at d
  unfold sm at c d
  have e : (r f - lsI r F).toInt = (r f).toInt - (lsI r F).toInt := tsub (by omega) (by omega)
  have e2 : dN r F f = ((r f).toInt - (lsI r F).toInt).toNat := by unfold dN; show (r f - lsI r F).toInt.toNat = _; rw [e]
  refine ⟨Int32.toInt_inj.mp ?_, by omega, by omega⟩
  rw [e, nI_toInt (by omega)]
  omega
/-- the number of a place in an image -/
def nmI (m F : Nat) (X Y : Nat → Int32) (f : Nat) : Nat := 32 * dN (imYr m X Y) F f + dN (imXr m X Y) F f
def IM (m F : Nat) (X Y : Nat → Int32) (n v : Nat) : Prop := ∃ f, f < n ∧ nmI m F X Y f = v
/-- no two in one place -/
def DI (X Y : Nat → Int32) (F : Nat) : Prop := ∀ f g, f < F → g < F → X f = X g → Y f = Y g → f = g
theorem nmI_ok {m F f : Nat} {X Y : Nat → Int32} (hm : m < 8) (hF : F ≤ 22) (hX : SP X F) (hY : SP Y F) (hf : f < F) : nmI m F X Y f < 704 ∧ nmI m F X Y f % 32 = dN (imXr m X Y) F f ∧ nmI m F X Y f / 32 = dN (imYr m X Y) F f ∧ nmI m F X Y f % 32 < F ∧ nmI m F X Y f / 32 < F := by
  obtain ⟨a, b⟩ := SP_im hm hX hY
  have c := dN_ok a hF hf
  have d := dN_ok b hF hf
  unfold nmI
  omega
theorem nmI_inj {m F f g : Nat} {X Y : Nat → Int32} (hm : m < 8) (hF : F ≤ 22) (hX : SP X F) (hY : SP Y F) (hD : DI X Y F) (hf : f < F) (hg : g < F) (h : nmI m F X Y f = nmI m F X Y g) : f = g := by
  obtain ⟨a, b⟩ := SP_im hm hX hY
  have c := dN_ok a hF hf
  have d := dN_ok b hF hf
  have c' := dN_ok a hF hg
  have d' := dN_ok b hF hg
  obtain ⟨-, e1, e2, -⟩ := nmI_ok hm hF hX hY hf
  obtain ⟨-, e3, e4, -⟩ := nmI_ok hm hF hX hY hg
  rw [h] at e1 e2
  have q1 : imX m (X f) (Y f) = imX m (X g) (Y g) := Int32.toInt_inj.mp (by have c1 := c.2.2; have c2 := c'.2.2; unfold imXr at c1 c2 e1 e3; omega)
  have q2 : imY m (X f) (Y f) = imY m (X g) (Y g) := Int32.toInt_inj.mp (by have c1 := d.2.2; have c2 := d'.2.2; unfold imYr at c1 c2 e2 e4; omega)
  obtain ⟨p1, p2⟩ := im_inj hm q1 q2
  exact hD f g hf hg p1 p2
