-- PURE 31: the matrix of the faces, and how the reference fills it
theorem ixg (c d : Nat) : (30 : Int32) * nI c + nI d = nI (30 * c + d) := by
  rw [show (30 : Int32) = nI 30 from rfl, pk_mul, nI_add]
/-- neighbours of face i among the first e directions; those that are j -/
def dgP (look : Nat → Nat) (i : Nat) : Nat → Prop := fun e => ¬ e / 2 = look i / 2
def nbP (look : Nat → Nat) (nb : Nat → Nat → Nat) (i j : Nat) : Nat → Prop := fun e => ¬ e / 2 = look i / 2 ∧ nb i e = j
noncomputable def DM (look : Nat → Nat) (nb : Nat → Nat → Nat) : Mx := fun i j => (if i = j then (cnt (dgP look i) 6 : Int) else 0) - (cnt (nbP look nb i j) 6 : Int)
noncomputable def fv (p : Nat) (look : Nat → Nat) (nb : Nat → Nat → Nat) (i j e : Nat) : Nat := (if i = j then cnt (dgP look i) e else 0) + (p - 1) * cnt (nbP look nb i j) e
theorem fv_0 {p : Nat} {look : Nat → Nat} {nb : Nat → Nat → Nat} {i j : Nat} : fv p look nb i j 0 = 0 := by
  unfold fv
  show (if i = j then 0 else 0) + (p - 1) * 0 = 0
  rw [Nat.mul_zero]
  split <;> rfl
theorem fv_skip {p : Nat} {look : Nat → Nat} {nb : Nat → Nat → Nat} {i j e : Nat} (h : e / 2 = look i / 2) : fv p look nb i j (e + 1) = fv p look nb i j e := by
  unfold fv
  rw [cnt_f (P := dgP look i) (fun q => q h), cnt_f (P := nbP look nb i j) (fun q => q.1 h)]
theorem fv_add {p : Nat} {look : Nat → Nat} {nb : Nat → Nat → Nat} {i j e : Nat} (h : ¬ e / 2 = look i / 2) : fv p look nb i j (e + 1) = fv p look nb i j e + (if i = j then 1 else 0) + (if nb i e = j then p - 1 else 0) := by
  unfold fv
  rw [cnt_t (P := dgP look i) h]
  by_cases c : nb i e = j
  · rw [cnt_t (P := nbP look nb i j) ⟨h, c⟩, if_pos c, Nat.mul_succ]
    by_cases d : i = j
    · rw [if_pos d, if_pos d, if_pos d]; omega
    · rw [if_neg d, if_neg d, if_neg d]; omega
  · rw [cnt_f (P := nbP look nb i j) (fun q => c q.2), if_neg c]
    by_cases d : i = j
    · rw [if_pos d, if_pos d, if_pos d]; omega
    · rw [if_neg d, if_neg d, if_neg d]; omega
theorem fv_lt {p : Nat} {look : Nat → Nat} {nb : Nat → Nat → Nat} {i j : Nat} (hp : p < 2 ^ 31) : fv p look nb i j 6 < 2 ^ 35 := by
  unfold fv
  have h1 := cnt_le (P := dgP look i) 6
  have h2 := cnt_le (P := nbP look nb i j) 6
  have h3 := Nat.mul_le_mul (show p - 1 ≤ 2 ^ 31 by omega) h2
  split <;> omega
theorem fv_mod {p : Nat} {look : Nat → Nat} {nb : Nat → Nat → Nat} {i j : Nat} (hp : 0 < p) : (p : Int) ∣ (fv p look nb i j 6 : Int) - DM look nb i j := by
  refine ⟨(cnt (nbP look nb i j) 6 : Int), ?_⟩
  unfold fv DM
  rw [Int.natCast_add, Int.natCast_mul, show ((p - 1 : Nat) : Int) = (p : Int) - 1 by omega, Int.sub_mul, Int.one_mul]
  generalize (p : Int) * _ = z
  split <;> omega
/-- the stage of row a while row i stands at direction e -/
def stg (i e a : Nat) : Nat := if a < i then 6 else if a = i then e else 0
theorem stg_next {i a : Nat} : stg i 6 a = stg (i + 1) 0 a := by
  unfold stg
  by_cases c : a < i
  · rw [if_pos c, if_pos (by omega)]
  · rw [if_neg c]
    by_cases d : a = i
    · rw [if_pos d, if_pos (by omega)]
    · rw [if_neg d, if_neg (by omega)]
      split <;> rfl
theorem stg_s {i e : Nat} : stg i e i = e := by unfold stg; rw [if_neg (by omega), if_pos rfl]
theorem stg_n {i e e' a : Nat} (h : a ≠ i) : stg i e a = stg i e' a := by unfold stg; rw [if_neg h, if_neg h]
theorem X8_zero_ok {G : Nat → Int64} {kx : (Nat → Int64) → Prop} (h : ∀ G : Nat → Int64, (∀ k, k < 900 → G k = 0) → kx G) : Lp (wl_X8_treesBy_10 kx) ((0 : Int32), G) := by
  refine Lp_for 900 (fun i G => ∀ k, k < i → G k = 0) (by omega) ?_ 0 G (Nat.zero_le _) (fun k hk => absurd hk (Nat.not_lt_zero _))
  intro i G kb hi hI hk
  dsimp only [wl_X8_treesBy_10, wb_X8_treesBy_10]
  refine pk_le 900 i (fun hc => h G (fun k hk => hI k (by omega))) (fun hc => ?_)
  rw [nI_clamp (by omega), nI_1]
  refine ⟨vp_in_nI (by omega) (by omega), hk _ hc ?_⟩
  intro k hk2
  by_cases e : k = i
  · subst e; exact pk_uLs
  · rw [pk_uLn e]; exact hI k (by omega)
def FI (n p : Nat) (look : Nat → Nat) (nb : Nat → Nat → Nat) (i e : Nat) (G : Nat → Int64) : Prop := ∀ a b, a < n → b < n → G (30 * a + b) = lN (fv p look nb a b (stg i e a))
theorem X8_fill_ok {F n p : Nat} {look : Nat → Nat} {nb on : Nat → Nat → Nat} {lo be ow : Nat → Int32} {G : Nat → Int64} {kx : (Nat → Int64) → Prop} (hp : 0 < p) (hT : TB F look nb on lo be ow) (hG : GS F look nb on) (hF : F ≤ 22) (hn : n < F) (hG0 : FI n p look nb 0 0 G) (h : ∀ G, FI n p look nb n 0 G → kx G) : Lp (wl_X8_treesBy_35 lo be (lN p) (nI n) kx) ((0 : Int32), G) := by
  refine Lp_for n (fun i G => FI n p look nb i 0 G) (by omega) ?_ 0 G (Nat.zero_le _) hG0
  intro i G kb hi hI hk
  dsimp only [wl_X8_treesBy_35, wb_X8_treesBy_35]
  refine pk_le n i (fun hc => ?_) (fun hc => ?_)
  · have : i = n := by omega
    subst this
    exact h G hI
  have hl6 := hG.1 i (by omega)
  refine Lp_for 6 (fun e G => FI n p look nb i e G) (by omega) ?_ 0 G (Nat.zero_le _) hI
  intro e G kb2 he hI hk2
  dsimp only [wl_X8_treesBy_44, wb_X8_treesBy_44]
  refine pk_le 6 e (fun hle => ?_) (fun hlt => ?_)
  · have : e = 6 := by omega
    subst this
    rw [nI_1]
    refine hk _ hc ?_
    intro a b ha hb
    rw [← stg_next]
    exact hI a b ha hb
  have hv : vp_in (nI i) 30 := vp_in_nI (by omega) (by omega)
  have hv2 : vp_in (nI (30 * i + i)) 900 := vp_in_nI (by omega) (by omega)
  rw [nI_clamp (show i < 2 ^ 31 by omega), hT.1 i (by omega), ax_d e hlt, ax_d _ hl6, nI_1]
  have hax : nI (e / 2) = nI (look i / 2) ↔ e / 2 = look i / 2 := nI_eq (by omega) (by omega)
  refine ⟨hv, fun q => ?_, fun q => ?_⟩
  · refine hk2 _ hlt ?_
    intro a b ha hb
    rw [hI a b ha hb]
    by_cases c : a = i
    · subst c; rw [stg_s, stg_s, fv_skip (hax.mp q)]
    · rw [stg_n c]
  have ha := fun z => q (hax.mpr z)
  refine X8_beside_ok hT hF (by omega) hlt ha ?_
  have hnb := (hG.2 i e (by omega) hlt ha).1
  rw [ixg, nI_clamp (show 30 * i + i < 2 ^ 31 by omega)]
  refine ⟨hv2, hv2, pk_le n (nb i e) (fun hge => ?_) (fun hlt2 => ?_)⟩
  · refine hk2 _ hlt ?_
    intro a b ha1 hb1
    by_cases c : a = i
    · subst c
      rw [stg_s, fv_add ha, if_neg (show ¬ nb a e = b by omega)]
      have hIab := hI a b ha1 hb1
      rw [stg_s] at hIab
      by_cases d : b = a
      · subst d
        rw [pk_uLs, hIab, if_pos rfl, lN_1, Nat.add_zero]
      · rw [pk_uLn (by omega), hIab, if_neg (by omega)]; rfl
    · rw [pk_uLn (by omega), hI a b ha1 hb1, stg_n c]
  · have hv3 : vp_in (nI (30 * i + nb i e)) 900 := vp_in_nI (by omega) (by omega)
    rw [ixg, nI_clamp (show 30 * i + nb i e < 2 ^ 31 by omega)]
    refine ⟨hv3, hv3, hk2 _ hlt ?_⟩
    have hone : lN p - (1 : Int64) = lN (p - 1) := lN_sub (b := 1) (by omega)
    rw [hone]
    intro a b ha1 hb1
    by_cases c : a = i
    · subst c
      rw [stg_s, fv_add ha]
      have hIab := hI a b ha1 hb1
      rw [stg_s] at hIab
      by_cases d : b = nb a e
      · subst d
        rw [pk_uLs, if_pos (show nb a e = nb a e from rfl)]
        by_cases d2 : nb a e = a
        · rw [d2] at hIab
          rw [d2, pk_uLs, hIab, if_pos rfl, lN_1, lN_add]
        · rw [pk_uLn (by omega), hIab, if_neg (by omega), lN_add, Nat.add_zero]
      · rw [pk_uLn (by omega), if_neg (show ¬ nb a e = b by omega)]
        by_cases d2 : b = a
        · subst d2
          rw [pk_uLs, hIab, if_pos rfl, lN_1, Nat.add_zero]
        · rw [pk_uLn (by omega), hIab, if_neg (by omega)]; rfl
    · rw [pk_uLn (by omega), pk_uLn (by omega), hI a b ha1 hb1, stg_n c]
