-- PURE 36: the elimination of the class
theorem ixm (c d : Nat) : nI c * (21 : Int32) + nI d = nI (c * 21 + d) := by
  rw [show (21 : Int32) = nI 21 from rfl, pk_mul, nI_add]
def mT (M : Nat → Int64) : Mx := fun i j => (M (i * 21 + j)).toInt
noncomputable def tw (x : Int64) : Nat := (V2_ex x.toBitVec.isLt).choose
theorem tw_ok (x : Int64) : V2 64 (tw x) x.toBitVec.toNat := (V2_ex x.toBitVec.isLt).choose_spec
theorem tw_le (x : Int64) : tw x ≤ 64 := by rcases tw_ok x with ⟨_, e⟩ | ⟨e, _⟩ <;> omega
theorem fillL_ok {N : Nat} {r : Nat → Int64} {v : Int64} {post : (Nat → Int64) → Prop} (hN : N < 2000) (h : ∀ r : Nat → Int64, (∀ j, j < N → r j = v) → post r) : wp_J7_fill_d0a16 N r v post := by
  unfold wp_J7_fill_d0a16
  refine Lp_for N (fun i r => ∀ j, j < i → r j = v) (by omega) ?_ 0 r (Nat.zero_le _) (fun k hk => absurd hk (Nat.not_lt_zero _))
  intro i r kb hi hI hk
  show wb_J7_fill_d0a16_6 N v (nI N) _ _ (nI i) r
  unfold wb_J7_fill_d0a16_6
  refine pk_le N i (fun hc => h r (fun k hk => hI k (by omega))) (fun hc => ?_)
  rw [nI_clamp (by omega), nI_1]
  refine ⟨vp_in_nI (by omega) (by omega), hk _ hc ?_⟩
  intro k hk2
  by_cases e : k = i
  · subst e; exact pk_uLs
  · rw [pk_uLn e]; exact hI k (by omega)
def FCm (n : Nat) (look : Nat → Nat) (nb : Nat → Nat → Nat) (i e : Nat) (M : Nat → Int64) : Prop := ∀ a b, a < n → b < n → M (a * 21 + b) = Int64.ofInt (dv look nb a b (stg i e a))
theorem oI_1 (x : Int) : Int64.ofInt x + 1 = Int64.ofInt (x + 1) := (Int64.ofInt_add x 1).symm
theorem oI_m1 (x : Int) : Int64.ofInt x - 1 = Int64.ofInt (x - 1) := (Int64.ofInt_sub x 1).symm
theorem X5_fill_ok {F n : Nat} {look : Nat → Nat} {nb on : Nat → Nat → Nat} {lo be ow : Nat → Int32} {M : Nat → Int64} {post : (Nat → Int64) → Prop} (hT : TB F look nb on lo be ow) (hG : GS F look nb on) (hF : F ≤ 22) (hn : n < F) (h : ∀ M, FCm n look nb n 0 M → post M) : wp_X5_fillMatrix M be lo (nI n) post := by
  unfold wp_X5_fillMatrix
  refine fillL_ok (by omega) (fun M h0 => ?_)
  refine Lp_for n (fun i M => FCm n look nb i 0 M) (by omega) ?_ 0 M (Nat.zero_le _) ?_
  case refine_2 =>
    intro a b ha hb
    rw [h0 _ (by omega)]
    have : stg 0 0 a = 0 := by unfold stg; rw [if_neg (by omega)]; split <;> rfl
    rw [this, dv_0]
    rfl
  intro i M kb hi hI hk
  dsimp only [wl_X5_fillMatrix_10, wb_X5_fillMatrix_10]
  refine pk_le n i (fun hc => ?_) (fun hc => ?_)
  · have : i = n := by omega
    subst this
    exact h M hI
  have hl6 := hG.1 i (by omega)
  refine Lp_for 6 (fun e M => FCm n look nb i e M) (by omega) ?_ 0 M (Nat.zero_le _) hI
  intro e M kb2 he hI hk2
  dsimp only [wl_X5_fillMatrix_17, wb_X5_fillMatrix_17]
  refine pk_le 6 e (fun hle => ?_) (fun hlt => ?_)
  · have : e = 6 := by omega
    subst this
    rw [nI_1]
    refine hk _ hc ?_
    intro a b ha hb
    rw [← stg_next]
    exact hI a b ha hb
  have hv : vp_in (nI i) 22 := vp_in_nI (by omega) (by omega)
  have hv2 : vp_in (nI (i * 21 + i)) 441 := vp_in_nI (by omega) (by omega)
  rw [nI_clamp (show i < 2 ^ 31 by omega), hT.1 i (by omega), nI_1]
  refine ⟨hv, X7_sameAxis_ok hlt hl6 (fun ha => ⟨fun _ => hk2 _ hlt ?_, fun q => absurd q (by decide)⟩) (fun ha => ⟨fun q => absurd rfl q, fun _ => X4_beyond_ok hT hF (by omega) hlt ha ?_⟩)⟩
  · intro a b ha1 hb
    rw [hI a b ha1 hb]
    by_cases c : a = i
    · subst c; rw [stg_s, stg_s, dv_skip ha]
    · rw [stg_n c]
  have hnb := (hG.2 i e (by omega) hlt ha).1
  unfold wp_X5_addEdge
  rw [ixm, nI_clamp (show i * 21 + i < 2 ^ 31 by omega)]
  refine ⟨hv2, hv2, pk_le n (nb i e) (fun hge => ?_) (fun hlt2 => ?_)⟩
  · refine hk2 _ hlt ?_
    intro a b ha1 hb1
    by_cases c : a = i
    · subst c
      rw [stg_s, dv_add ha, if_neg (show ¬ nb a e = b by omega)]
      have hIab := hI a b ha1 hb1
      rw [stg_s] at hIab
      by_cases d : b = a
      · subst d
        rw [pk_uLs, hIab, if_pos rfl, oI_1]; rfl
      · rw [pk_uLn (by omega), hIab, if_neg (by omega)]
        exact congrArg Int64.ofInt (by omega)
    · rw [pk_uLn (by omega), hI a b ha1 hb1, stg_n c]
  · have hv3 : vp_in (nI (i * 21 + nb i e)) 441 := vp_in_nI (by omega) (by omega)
    rw [ixm, nI_clamp (show i * 21 + nb i e < 2 ^ 31 by omega)]
    refine ⟨hv3, hv3, hk2 _ hlt ?_⟩
    intro a b ha1 hb1
    by_cases c : a = i
    · subst c
      rw [stg_s, dv_add ha]
      have hIab := hI a b ha1 hb1
      rw [stg_s] at hIab
      by_cases d : b = nb a e
      · subst d
        rw [pk_uLs, if_pos (show nb a e = nb a e from rfl)]
        by_cases d2 : nb a e = a
        · rw [d2] at hIab
          rw [d2, pk_uLs, hIab, if_pos rfl, oI_1, oI_m1]
          exact congrArg Int64.ofInt (by omega)
        · rw [pk_uLn (by omega), hIab, if_neg (by omega), oI_m1]
          exact congrArg Int64.ofInt (by omega)
      · rw [pk_uLn (by omega), if_neg (show ¬ nb a e = b by omega)]
        by_cases d2 : b = a
        · subst d2
          rw [pk_uLs, hIab, if_pos rfl, oI_1]
          exact congrArg Int64.ofInt (by omega)
        · rw [pk_uLn (by omega), hIab, if_neg (by omega)]
          exact congrArg Int64.ofInt (by omega)
    · rw [pk_uLn (by omega), pk_uLn (by omega), hI a b ha1 hb1, stg_n c]
theorem X5_pivot_ok {n k : Nat} {M : Nat → Int64} {post : Int32 → Prop} (hn : n ≤ 21) (hk : k < n) (h : ∀ r, k ≤ r → r < n → (∀ i, k ≤ i → i < n → tw (M (r * 21 + k)) ≤ tw (M (i * 21 + k))) → post (nI r)) : wp_X5_findPivot M (nI k) (nI n) post := by
  unfold wp_X5_findPivot
  rw [nI_1]
  refine Lp_of (fun w => ∃ r i, w.1 = nI r ∧ w.2 = nI i ∧ k ≤ r ∧ r < n ∧ k < i ∧ i ≤ n ∧ ∀ j, k ≤ j → j < i → tw (M (r * 21 + k)) ≤ tw (M (j * 21 + k))) (fun w => n - w.2.toNatClampNeg) ?_ _ ⟨k, k + 1, rfl, rfl, Nat.le_refl _, hk, by omega, hk, fun j h1 h2 => by rw [show j = k by omega]; exact Nat.le_refl _⟩
  rintro ⟨l3, l4⟩ kb ⟨r, i, e1, e2, h1, h2, h3, h4, h5⟩ hkb
  dsimp only at e1 e2
  subst e1
  subst e2
  dsimp only [wl_X5_findPivot_7, wb_X5_findPivot_7]
  refine pk_le n i (fun hle => h r h1 h2 (fun j j1 j2 => h5 j j1 (by omega))) (fun hlt => ?_)
  rw [ixm, ixm, nI_clamp (show i * 21 + k < 2 ^ 31 by omega), nI_clamp (show r * 21 + k < 2 ^ 31 by omega), nI_1]
  refine ⟨vp_in_nI (by omega) (by omega), tz64_ok (tw_ok _) ⟨vp_in_nI (by omega) (by omega), tz64_ok (tw_ok _) ?_⟩⟩
  have b1 := tw_le (M (r * 21 + k))
  have b2 := tw_le (M (i * 21 + k))
  have hdec : n - (nI (i + 1)).toNatClampNeg < n - (nI i).toNatClampNeg := by
    rw [nI_clamp (by omega), nI_clamp (by omega)]
    omega
  refine pk_le (tw (M (r * 21 + k))) (tw (M (i * 21 + k))) (fun hle => hkb _ ⟨r, i + 1, rfl, rfl, h1, h2, by omega, hlt, fun j j1 j2 => ?_⟩ hdec) (fun hgt => hkb _ ⟨i, i + 1, rfl, rfl, by omega, hlt, by omega, hlt, fun j j1 j2 => ?_⟩ hdec)
  · by_cases c : j = i
    · subst c; exact hle
    · exact h5 j j1 (by omega)
  · by_cases c : j = i
    · subst c; exact Nat.le_refl _
    · have := h5 j j1 (by omega); omega
theorem X5_swap_ok {n k pv : Nat} {M : Nat → Int64} {post : (Nat → Int64) → Prop} (hn : n ≤ 21) (hk : k < n) (hpv : pv < n) (hne : pv ≠ k)
    (h : ∀ M1, (∀ b, b < n → M1 (k * 21 + b) = M (pv * 21 + b) ∧ M1 (pv * 21 + b) = M (k * 21 + b)) → (∀ a b, a < n → b < n → a ≠ k → a ≠ pv → M1 (a * 21 + b) = M (a * 21 + b)) → post M1) : wp_X5_swapRows M (nI pv) (nI k) (nI n) post := by
  unfold wp_X5_swapRows
  refine Lp_for n (fun j M1 => (∀ b, b < j → M1 (k * 21 + b) = M (pv * 21 + b) ∧ M1 (pv * 21 + b) = M (k * 21 + b)) ∧ (∀ b, b < n → j ≤ b → M1 (k * 21 + b) = M (k * 21 + b) ∧ M1 (pv * 21 + b) = M (pv * 21 + b)) ∧ (∀ a b, a < n → b < n → a ≠ k → a ≠ pv → M1 (a * 21 + b) = M (a * 21 + b))) (by omega) ?_ 0 M (Nat.zero_le _) ⟨fun b hb => absurd hb (Nat.not_lt_zero _), fun b _ _ => ⟨rfl, rfl⟩, fun a b _ _ _ _ => rfl⟩
  rintro j M1 kb hj ⟨r2, r3, r4⟩ hkb
  dsimp only [wl_X5_swapRows_3, wb_X5_swapRows_3]
  refine pk_le n j (fun hle => h M1 (fun b hb => r2 b (by omega)) r4) (fun hlt => ?_)
  have v1 : vp_in (nI (pv * 21 + j)) 441 := vp_in_nI (by omega) (by omega)
  have v2 : vp_in (nI (k * 21 + j)) 441 := vp_in_nI (by omega) (by omega)
  rw [ixm, ixm, nI_clamp (show pv * 21 + j < 2 ^ 31 by omega), nI_clamp (show k * 21 + j < 2 ^ 31 by omega), nI_1]
  refine ⟨v1, v2, v1, v2, hkb _ hlt ⟨?_, ?_, ?_⟩⟩
  · intro b hb
    by_cases c : b = j
    · subst c
      have := r3 b hlt (Nat.le_refl _)
      rw [pk_uLs, pk_uLn (show pv * 21 + b ≠ k * 21 + b by omega), pk_uLs]
      exact ⟨this.2, this.1⟩
    · rw [pk_uLn (by omega), pk_uLn (by omega), pk_uLn (by omega), pk_uLn (by omega)]
      exact r2 b (by omega)
  · intro b hb1 hb2
    rw [pk_uLn (by omega), pk_uLn (by omega), pk_uLn (by omega), pk_uLn (by omega)]
    exact r3 b hb1 (by omega)
  · intro a b ha hb h1 h2
    rw [pk_uLn (by omega), pk_uLn (by omega)]
    exact r4 a b ha hb h1 h2
theorem X5_row_ok {n k a : Nat} {f : Int64} {M : Nat → Int64} {kx : (Nat → Int64) → Prop} (hn : n ≤ 21) (hk : k < a) (ha : a < n)
    (h : ∀ M', (∀ c b, c < n → b < n → c ≠ a → M' (c * 21 + b) = M (c * 21 + b)) → (∀ b, k ≤ b → b < n → WW ∣ mT M' a b - (-f.toInt * mT M k b + mT M a b)) → kx M') : Lp (wl_X5_clearBelow_61 (nI k) (nI n) (nI a) f kx) (nI k, M) := by
  refine Lp_for n (fun j M' => k ≤ j ∧ (∀ c b, c < n → b < n → c ≠ a ∨ j ≤ b → M' (c * 21 + b) = M (c * 21 + b)) ∧ (∀ b, k ≤ b → b < j → WW ∣ mT M' a b - (-f.toInt * mT M k b + mT M a b))) (by omega) ?_ k M (by omega) ⟨Nat.le_refl _, fun c b _ _ _ => rfl, fun b h1 h2 => by omega⟩
  rintro j M' kb hj ⟨hkj, r2, r3⟩ hkb
  dsimp only [wl_X5_clearBelow_61, wb_X5_clearBelow_61]
  refine pk_le n j (fun hle => h M' (fun c b hc hb hca => r2 c b hc hb (Or.inl hca)) (fun b h1 h2 => r3 b h1 (by omega))) (fun hlt => ?_)
  refine ⟨fun q => ?_, fun q => ?_⟩
  · refine h M' (fun c b hc hb hca => r2 c b hc hb (Or.inl hca)) (fun b h1 h2 => ?_)
    by_cases c : b < j
    · exact r3 b h1 c
    · refine dvd_eq ?_
      show (M' (a * 21 + b)).toInt = _
      rw [r2 a b ha h2 (by omega), (lg_0 f).mp q]
      show mT M a b = -0 * mT M k b + mT M a b
      rw [Int.neg_zero, Int.zero_mul, Int.zero_add]
  have v1 : vp_in (nI (a * 21 + j)) 441 := vp_in_nI (by omega) (by omega)
  have v2 : vp_in (nI (k * 21 + j)) 441 := vp_in_nI (by omega) (by omega)
  rw [ixm, ixm, nI_clamp (show a * 21 + j < 2 ^ 31 by omega), nI_clamp (show k * 21 + j < 2 ^ 31 by omega), nI_1]
  refine ⟨v1, v2, v1, hkb _ hlt ⟨by omega, ?_, ?_⟩⟩
  · intro c b hc hb hor
    rw [pk_uLn (by omega)]
    exact r2 c b hc hb (by omega)
  · intro b h1 h2
    by_cases c : b = j
    · subst c
      show WW ∣ (vp_updL M' (a * 21 + b) _ (a * 21 + b)).toInt - _
      rw [pk_uLs, r2 a b ha hlt (by omega), r2 k b (by omega) hlt (by omega)]
      refine dvd_tr (tI_sub _ _) ?_
      have := dvd_sb (dvd_rf (M := WW) (a := (M (a * 21 + b)).toInt)) (tI_mul f (M (k * 21 + b)))
      rw [Int.neg_mul, Int.add_comm, ← Int.sub_eq_add_neg]
      exact this
    · show WW ∣ (vp_updL M' (a * 21 + j) _ (a * 21 + b)).toInt - _
      rw [pk_uLn (by omega)]
      exact r3 b h1 (by omega)
theorem X5_clear_ok {n k : Nat} {M : Nat → Int64} {post : (Nat → Int64) → Prop} (hn : n ≤ 21) (hk : k < n) (hmin : ∀ i, k ≤ i → i < n → tw (M (k * 21 + k)) ≤ tw (M (i * 21 + k)))
    (h : ∀ (M' : Nat → Int64) (x : Nat → Int), (∀ b, b < n → M' (k * 21 + b) = M (k * 21 + b)) → (∀ a b, k < a → a < n → k ≤ b → b < n → WW ∣ mT M' a b - (x a * mT M k b + mT M a b)) → (∀ a, k < a → a < n → WW ∣ mT M' a k) → post M') : wp_X5_clearBelow M (nI k) (nI n) post := by
  unfold wp_X5_clearBelow
  rw [ixm, nI_clamp (show k * 21 + k < 2 ^ 31 by omega)]
  refine ⟨vp_in_nI (by omega) (by omega), tz64_ok (tw_ok _) (X5_inv_ok (fun v hv => ?_))⟩
  rw [nI_1]
  refine Lp_for n (fun i M' => k < i ∧ (∀ a b, a < n → b < n → a ≤ k ∨ i ≤ a → M' (a * 21 + b) = M (a * 21 + b)) ∧ ∃ x : Nat → Int, (∀ a b, k < a → a < i → k ≤ b → b < n → WW ∣ mT M' a b - (x a * mT M k b + mT M a b)) ∧ (∀ a, k < a → a < i → WW ∣ mT M' a k)) (by omega) ?_ (k + 1) M (by omega) ⟨by omega, fun c b _ _ _ => rfl, fun _ => 0, fun a b h1 h2 => by omega, fun a h1 h2 => by omega⟩
  rintro i M' kb hi ⟨hki, r2, x, r3, r4⟩ hkb
  dsimp only [wl_X5_clearBelow_32, wb_X5_clearBelow_32]
  refine pk_le n i (fun hle => h M' x (fun b hb => r2 k b hk hb (by omega)) (fun a b h1 h2 h3 h4 => r3 a b h1 (by omega) h3 h4) (fun a h1 h2 => r4 a h1 (by omega))) (fun hlt => ?_)
  rw [ixm, nI_clamp (show i * 21 + k < 2 ^ 31 by omega), nI_1]
  refine ⟨vp_in_nI (by omega) (by omega), X5_row_ok hn hki hlt ?_⟩
  intro M2 q2 q3
  have hf : WW ∣ -((M (i * 21 + k) >>> ((nI (tw (M (k * 21 + k)))).toInt64 &&& 63)) * v).toInt * mT M k k + mT M i k := fac_ok (tw_ok (M (k * 21 + k))) (tw_ok (M (i * 21 + k))) (hmin i (by omega) hlt) (tw_le _) hv
  have e1 : ∀ b, b < n → M' (i * 21 + b) = M (i * 21 + b) := fun b hb => r2 i b hlt hb (by omega)
  have e2 : ∀ b, b < n → M' (k * 21 + b) = M (k * 21 + b) := fun b hb => r2 k b hk hb (by omega)
  have q3' : ∀ b, k ≤ b → b < n → WW ∣ mT M2 i b - (-((M (i * 21 + k) >>> ((nI (tw (M (k * 21 + k)))).toInt64 &&& 63)) * v).toInt * mT M k b + mT M i b) := by
    intro b b1 b2
    have := q3 b b1 b2
    rw [e1 k hk] at this
    have t1 : mT M' k b = mT M k b := congrArg Int64.toInt (e2 b b2)
    have t2 : mT M' i b = mT M i b := congrArg Int64.toInt (e1 b b2)
    rwa [t1, t2] at this
  refine hkb _ hlt ⟨by omega, ?_, fun a => if a = i then -((M (i * 21 + k) >>> ((nI (tw (M (k * 21 + k)))).toInt64 &&& 63)) * v).toInt else x a, ?_, ?_⟩
  · intro a b ha hb hor
    rw [q2 a b ha hb (by omega)]
    exact r2 a b ha hb (by omega)
  · intro a b h1 h2 h3 h4
    dsimp only
    by_cases c : a = i
    · subst c
      rw [if_pos rfl]
      exact q3' b h3 h4
    · rw [if_neg c]
      have t1 : mT M2 a b = mT M' a b := congrArg Int64.toInt (q2 a b (by omega) h4 c)
      rw [t1]
      exact r3 a b h1 (by omega) h3 h4
  · intro a h1 h2
    by_cases c : a = i
    · subst c
      have z := q3' k (Nat.le_refl _) hk
      have z2 := Int.dvd_add z hf
      rwa [show ∀ p q : Int, p - q + q = p by intro p q; omega] at z2
    · have t1 : mT M2 a k = mT M' a k := congrArg Int64.toInt (q2 a k (by omega) hk c)
      rw [t1]
      exact r4 a h1 (by omega)
theorem X5_count_ok {n : Nat} {look : Nat → Nat} {nb on : Nat → Nat → Nat} {lo be ow : Nat → Int32} {M : Nat → Int64} {post : Int64 → (Nat → Int64) → Prop} (hT : TB (n + 1) look nb on lo be ow) (hG : GS (n + 1) look nb on) (hF : n + 1 ≤ 22)
    (h : ∀ M, post (lN (det n (DM look nb)).toNat) M) : wp_X5_count M (nI (n + 1)) be lo post := by
  unfold wp_X5_count
  rw [show nI (n + 1) - (1 : Int32) = nI n from pk_sub (b := 1) (by omega)]
  refine X5_fill_ok hT hG hF (by omega) (fun M hM => ?_)
  have hD0 : WW ∣ det n (DM look nb) - det n (mT M) := by
    refine det_mod (fun i j hi hj => dvd_sy ?_)
    have e : stg n 0 i = 6 := by unfold stg; rw [if_pos hi]
    have := hM i j hi hj
    rw [e] at this
    show WW ∣ (M (i * 21 + j)).toInt - dv look nb i j 6
    rw [this]
    exact tI_of _
  have hlt := DM_lt (look := look) (nb := nb) (n := n) (by omega)
  refine Lp_of (fun w => ∃ k, k ≤ n ∧ w.2.1 = nI k ∧ WW ∣ det n (DM look nb) - w.1.toInt * det (n - k) (shM k (mT w.2.2))) (fun w => n - w.2.1.toNatClampNeg) ?_ _ ⟨0, Nat.zero_le _, rfl, ?_⟩
  case refine_2 =>
    show WW ∣ det n (DM look nb) - (1 : Int64).toInt * det (n - 0) (shM 0 (mT M))
    rw [show shM 0 (mT M) = mT M by funext a b; show mT M (0 + a) (0 + b) = _; rw [Nat.zero_add, Nat.zero_add], show (1 : Int64).toInt = 1 by decide, Int.one_mul]
    exact hD0
  rintro ⟨l2, l4, M⟩ kb ⟨k, hkn, e, hD⟩ hkb
  dsimp only at e hD
  subst e
  dsimp only [wl_X5_count_20, wb_X5_count_20]
  refine pk_le n k (fun hle => ?_) (fun hk => ?_)
  · have e : k = n := by omega
    subst e
    rw [Nat.sub_self, show det 0 (shM k (mT M)) = 1 from rfl, Int.mul_one] at hD
    have e2 : l2 = lN (det k (DM look nb)).toNat := by
      apply Int64.toInt_inj.mp
      rw [pk_lT (by omega)]
      have b1 := Int64.toInt_lt l2
      have b2 := Int64.le_toInt l2
      have hD' : ((2 ^ 64 : Nat) : Int) ∣ det k (DM look nb) - l2.toInt := hD
      obtain ⟨c, hc⟩ := hD'
      have hd := hlt
      generalize det k (DM look nb) = D at *
      generalize l2.toInt = y at *
      have : c = 0 := by omega
      omega
    rw [e2]
    exact h M
  refine X5_pivot_ok (by omega) hk (fun r hkr hrn hmin => ?_)
  have hj : ∀ (l2' : Int64) (M1 : Nat → Int64), (∀ b, b < n → M1 (k * 21 + b) = M (r * 21 + b) ∧ M1 (r * 21 + b) = M (k * 21 + b)) → (∀ a b, a < n → b < n → a ≠ k → a ≠ r → M1 (a * 21 + b) = M (a * 21 + b)) → WW ∣ l2'.toInt - l2.toInt * (if r = k then 1 else -1) → wj_X5_count_54 (nI n) (fun l2 l4 v_matrix => kb (l2, l4, v_matrix)) l2' (nI k) M1 := by
    intro l2' M1 r2 r3 hl
    unfold wj_X5_count_54
    rw [ixm, nI_clamp (show k * 21 + k < 2 ^ 31 by omega), nI_1]
    refine ⟨vp_in_nI (by omega) (by omega), X5_clear_ok (by omega) hk ?_ (fun M2 x q1 q2 q3 => ?_)⟩
    · intro i h1 h2
      rw [(r2 k hk).1]
      by_cases c1 : i = k
      · subst c1; rw [(r2 i hk).1]; exact Nat.le_refl _
      · by_cases c2 : i = r
        · subst c2; rw [(r2 k hk).2]; exact hmin k (Nat.le_refl _) hk
        · rw [r3 i k h2 hk c1 c2]; exact hmin i h1 h2
    · refine hkb _ ⟨k + 1, hk, rfl, ?_⟩ ?_
      · have el := el_turn (M := WW) (A := mT M) (A1 := mT M1) (A2 := mT M2) x hk hkr hrn hD
          (fun j _ hj => ⟨congrArg Int64.toInt (r2 j hj).1, congrArg Int64.toInt (r2 j hj).2⟩)
          (fun i j _ hi _ hj h1 h2 => congrArg Int64.toInt (r3 i j hi hj h1 h2)) rfl
          (fun j _ hj => congrArg Int64.toInt (q1 j hj))
          (fun i j h1 h2 h3 h4 => q2 i j h1 h2 h3 h4) (fun i h1 h2 => q3 i h1 h2)
        refine dvd_tr el ?_
        refine dvd_mul2 ?_ dvd_rf
        refine dvd_sy (dvd_tr (tI_mul _ _) ?_)
        exact dvd_mul2 hl dvd_rf
      · show n - (nI (k + 1)).toNatClampNeg < n - (nI k).toNatClampNeg
        rw [nI_clamp (by omega), nI_clamp (by omega)]
        omega
  refine pk_eq r k (fun e => ?_) (fun e => X5_swap_ok (by omega) hk hrn e (fun M1 r2 r3 => ?_))
  · subst e
    refine hj l2 M (fun b _ => ⟨rfl, rfl⟩) (fun a b _ _ _ _ => rfl) ?_
    rw [if_pos rfl, Int.mul_one]
    exact dvd_rf
  · refine hj (-l2) M1 r2 r3 ?_
    rw [if_neg e, Int.mul_neg, Int.mul_one]
    exact tI_neg l2
