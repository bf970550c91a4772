-- PURE 6: paper
abbrev PL : Type := Int32 × Int32 × Nat × Nat
def ppset (pp : Nat → Option PL) (g : Nat) (v : Option PL) : Nat → Option PL := fun j => if j = g then v else pp j
theorem ppset_s {pp : Nat → Option PL} {g : Nat} {v : Option PL} : ppset pp g v g = v := if_pos rfl
theorem ppset_n {pp : Nat → Option PL} {g j : Nat} {v : Option PL} (h : j ≠ g) : ppset pp g v j = pp j := if_neg h
/-- how many lie on it -/
noncomputable def pN (pp : Nat → Option PL) : Nat := cnt (fun f => pp f ≠ none) 22
theorem cnt_congr {P Q : Nat → Prop} {N : Nat} (h : ∀ j, j < N → (P j ↔ Q j)) : cnt P N = cnt Q N := Nat.le_antisymm (cnt_sub (fun k hk hp => (h k hk).mp hp)) (cnt_sub (fun k hk hp => (h k hk).mpr hp))
theorem cnt_del {P Q : Nat → Prop} {N f : Nat} (hf : f < N) (hP : P f) (hQ : ¬ Q f) (h : ∀ j, j ≠ f → (P j ↔ Q j)) : cnt P N = cnt Q N + 1 := by
  induction N with
  | zero => exact absurd hf (Nat.not_lt_zero _)
  | succ N ih =>
    by_cases e : f = N
    · subst e
      rw [cnt_t hP, cnt_f hQ, cnt_congr (fun j hj => h j (Nat.ne_of_lt hj))]
    · have ih := ih (by omega)
      by_cases hN : P N
      · rw [cnt_t hN, cnt_t ((h N (Ne.symm e)).mp hN), ih]
      · rw [cnt_f hN, cnt_f (fun q => hN ((h N (Ne.symm e)).mpr q)), ih]
theorem pN_del {pp : Nat → Option PL} {f : Nat} {p : PL} (hf : f < 22) (h : pp f = some p) : pN pp = pN (ppset pp f none) + 1 :=
  cnt_del hf (by rw [h]; exact fun q => by cases q) (by rw [ppset_s]; exact fun q => q rfl) (fun j hj => by rw [ppset_n hj])
theorem pN_add {pp : Nat → Option PL} {f : Nat} {p : PL} (hf : f < 22) (h : pp f = none) : pN (ppset pp f (some p)) = pN pp + 1 :=
  cnt_del hf (by rw [ppset_s]; exact fun q => by cases q) (by rw [h]; exact fun q => q rfl) (fun j hj => by rw [ppset_n hj])
theorem pN_none : pN (fun _ => none) = 0 := by
  have : ∀ N, cnt (fun f => ((fun _ => none : Nat → Option PL) f) ≠ none) N = 0 := by
    intro N
    induction N with
    | zero => rfl
    | succ N ih => rw [cnt_f (fun q => q rfl), ih]
  exact this 22
theorem pN_le {pp : Nat → Option PL} : pN pp ≤ 22 := cnt_le _
/-- the class's sheet -/
def CS (N : Nat) (pp : Nat → Option PL) (ct : Int32) (hd li x y : Nat → Int32) : Prop :=
  (∀ f, pp f = none → f < 22 → li f = 0) ∧ (∀ f p, pp f = some p → f < 22 ∧ li f = 1 ∧ x f = p.1 ∧ y f = p.2.1 ∧ p.2.2.1 < 6 ∧ p.2.2.2 < 6 ∧ (∀ s, s < 4 → hd (f * 4 + s) = nI (sd p.2.2.1 p.2.2.2 s)) ∧ sm N p.1 ∧ sm N p.2.1) ∧ ct = nI (pN pp)
def pb (a : Int32) : Int64 := (1 : Int64) <<< (((31 : Int32) + a).toInt64 &&& 63)
/-- where its line of bits stands -/
def ln (a : Int32) : Nat := (31 + a.toInt).toNat
theorem X3_takeOff_ok {f : Nat} {ct : Int32} {li x y : Nat → Int32} {tk : Nat → Int64} {post : Int32 → (Nat → Int32) → (Nat → Int64) → Prop} (hf : f < 22) (hy : sm 31 (y f)) (h : post (ct - 1) (upd li f 0) (vp_updL tk (ln (y f)) (tk (ln (y f)) &&& (pb (x f) ^^^ (-1))))) : wp_X3_takeOff ct li tk x y (nI f) post := by
  unfold wp_X3_takeOff wp_X3_placeBit
  have hv : vp_in (nI f) 22 := vp_in_nI hf (by omega)
  obtain ⟨h1, h2⟩ := in63 hy
  rw [nI_clamp (by omega), h2, nar0]
  exact ⟨hv, hv, h1, hv, h1, h⟩
theorem X3_putAt_ok {f : Nat} {ct px py : Int32} {li x y : Nat → Int32} {tk : Nat → Int64} {post : Int32 → (Nat → Int32) → (Nat → Int64) → (Nat → Int32) → (Nat → Int32) → Prop} (hf : f < 22) (hy : sm 31 py) (h : post (ct + 1) (upd li f 1) (vp_updL tk (ln py) (tk (ln py) ||| pb px)) (upd x f px) (upd y f py)) : wp_X3_putAt ct li tk x y (nI f) px py post := by
  unfold wp_X3_putAt wp_X3_placeBit
  have hv : vp_in (nI f) 22 := vp_in_nI hf (by omega)
  obtain ⟨h1, h2⟩ := in63 hy
  rw [nI_clamp (by omega), h2, nar1]
  exact ⟨hv, hv, hv, h1, h1, h⟩
theorem CS_del {N : Nat} {pp : Nat → Option PL} {ct : Int32} {hd li x y : Nat → Int32} {f : Nat} {p : PL} (h : CS N pp ct hd li x y) (hp : pp f = some p) : CS N (ppset pp f none) (ct - 1) hd (upd li f 0) x y := by
  obtain ⟨h1, h2, h3⟩ := h
  have hf := (h2 f p hp).1
  refine ⟨fun g hg hl => ?_, fun g q hg => ?_, ?_⟩
  · by_cases e : g = f
    · subst e; exact pk_us
    · rw [pk_un e]
      rw [ppset_n e] at hg
      exact h1 g hg hl
  · by_cases e : g = f
    · subst e; rw [ppset_s] at hg; cases hg
    · rw [ppset_n e] at hg
      rw [pk_un e]
      exact h2 g q hg
  · rw [h3, pN_del hf hp, nI_pred]
set_option maxHeartbeats 1000000 in
theorem X3_wipe_ok {N : Nat} {pp : Nat → Option PL} {ct : Int32} {hd li x y : Nat → Int32} {tk : Nat → Int64} {post : Int32 → (Nat → Int32) → (Nat → Int64) → Prop} (T : (Nat → Option PL) → (Nat → Int64) → Prop) (hN : N ≤ 31) (hC : CS N pp ct hd li x y) (hT : T pp tk)
    (hTc : ∀ (pp : Nat → Option PL) (tk : Nat → Int64) (f : Nat) (p : PL), pp f = some p → sm 31 p.1 → sm 31 p.2.1 → T pp tk → T (ppset pp f none) (vp_updL tk (ln p.2.1) (tk (ln p.2.1) &&& (pb p.1 ^^^ (-1)))))
    (h : ∀ (li : Nat → Int32) (tk : Nat → Int64), CS 0 (fun _ => none) 0 hd li x y → T (fun _ => none) tk → post 0 li tk) : wp_X3_wipe ct li tk x y post := by
  unfold wp_X3_wipe
  refine Lp_for (S := Int32 × (Nat → Int32) × (Nat → Int64)) 22 (fun i v => ∃ pp, CS N pp v.1 hd v.2.1 x y ∧ T pp v.2.2 ∧ ∀ j, j < i → pp j = none) (by omega) ?_ 0 (ct, li, tk) (Nat.zero_le _) ⟨pp, hC, hT, fun j hj => absurd hj (Nat.not_lt_zero _)⟩
  rintro i ⟨ct, li, tk⟩ kb hi ⟨pp, hC, hT, hz⟩ hk
  dsimp only at hC hT
  dsimp only [wl_X3_wipe_2, wb_X3_wipe_2]
  refine pk_le 22 i (fun hq => ?_) (fun hq => ?_)
  · have e : pp = fun _ => none := by
      funext j
      cases hj : pp j with
      | none => rfl
      | some p => have := (hC.2.1 j p hj).1; rw [hz j (by omega)] at hj; cases hj
    subst e
    have hc := hC.2.2
    rw [pN_none] at hc
    subst hc
    exact h li tk ⟨hC.1, fun f p q => by (cases q), by rw [pN_none]; rfl⟩ hT
  · have hv : vp_in (nI i) 22 := vp_in_nI hq (by omega)
    rw [nI_clamp (by omega), nI_1]
    refine ⟨hv, fun g => ?_, fun g => ?_⟩
    · refine hk (ct, li, tk) hq ⟨pp, hC, hT, fun j hj => ?_⟩
      by_cases e : j = i
      · subst e
        cases hj : pp j with
        | none => rfl
        | some p => have := (hC.2.1 j p hj).2.1; rw [g] at this; exact absurd this (by decide)
      · exact hz j (by omega)
    · cases hj : pp i with
      | none => exact absurd (hC.1 i hj hq) g
      | some p =>
        obtain ⟨c1, c2, c3, c4, c5, c6, c7, c8, c9⟩ := hC.2.1 i p hj
        have s1 := sm_le c8 hN
        have s2 := sm_le c9 hN
        refine X3_takeOff_ok hq (by rw [c4]; exact s2) ?_
        rw [c3, c4]
        refine hk (_, _, _) hq ⟨ppset pp i none, CS_del hC hj, hTc pp tk i p hj s1 s2 hT, fun j hj2 => ?_⟩
        by_cases e : j = i
        · subst e; exact ppset_s
        · rw [ppset_n e]; exact hz j (by omega)
def s2 (s : Nat) : Nat := match s with | 0 => 2 | 1 => 3 | 2 => 0 | _ => 1
def s1 (s : Nat) : Nat := match s with | 0 => 1 | 1 => 0 | 2 => 3 | _ => 2
theorem s2_x : ∀ s, s < 4 → nI s ^^^ (2 : Int32) = nI (s2 s) := by decide
theorem s1_x : ∀ s, s < 4 → nI s ^^^ (1 : Int32) = nI (s1 s) := by decide
theorem s2_lt (s : Nat) : s2 s < 4 := by unfold s2; split <;> decide
theorem s1_lt (s : Nat) : s1 s < 4 := by unfold s1; split <;> decide
theorem ix4 (f s : Nat) : nI f * (4 : Int32) + nI s = nI (f * 4 + s) := by
  rw [show (4 : Int32) = nI 4 from rfl, pk_mul, nI_add]
theorem X3_setHeading_ok {f s d : Nat} {hd : Nat → Int32} {post : (Nat → Int32) → Prop} (hf : f < 22) (hs : s < 4) (hdd : d < 6) (h : post (upd (upd hd (f * 4 + s) (nI d)) (f * 4 + s2 s) (nI (op d)))) : wp_X3_setHeading hd (nI f) (nI s) (nI d) post := by
  unfold wp_X3_setHeading
  have := s2_lt s
  rw [s2_x s hs, ix4, ix4, nI_clamp (by omega), nI_clamp (by omega)]
  exact ⟨vp_in_nI (by omega) (by omega), X7_opposite_ok hdd ⟨vp_in_nI (by omega) (by omega), h⟩⟩
/-- a face's four directions -/
def H4 (hd : Nat → Int32) (f r u : Nat) : Prop := ∀ s, s < 4 → hd (f * 4 + s) = nI (sd r u s)
theorem CS_add {N M : Nat} {pp : Nat → Option PL} {ct : Int32} {hd hd' li x y : Nat → Int32} {f : Nat} {p : PL} (h : CS N pp ct hd li x y) (hNM : N ≤ M) (hf : f < 22) (hp : pp f = none) (hr : p.2.2.1 < 6) (hu : p.2.2.2 < 6) (h1 : sm M p.1) (h2 : sm M p.2.1) (hH : H4 hd' f p.2.2.1 p.2.2.2) (hk : ∀ g s, g ≠ f → s < 4 → hd' (g * 4 + s) = hd (g * 4 + s)) : CS M (ppset pp f (some p)) (ct + 1) hd' (upd li f 1) (upd x f p.1) (upd y f p.2.1) := by
  obtain ⟨c1, c2, c3⟩ := h
  refine ⟨fun g hg hl => ?_, fun g q hg => ?_, ?_⟩
  · by_cases e : g = f
    · subst e; rw [ppset_s] at hg; cases hg
    · rw [pk_un e]
      rw [ppset_n e] at hg
      exact c1 g hg hl
  · by_cases e : g = f
    · subst e
      rw [ppset_s] at hg
      cases hg
      exact ⟨hf, pk_us, pk_us, pk_us, hr, hu, hH, h1, h2⟩
    · rw [ppset_n e] at hg
      obtain ⟨a1, a2, a3, a4, a5, a6, a7, a8, a9⟩ := c2 g q hg
      rw [pk_un e, pk_un e, pk_un e]
      exact ⟨a1, a2, a3, a4, a5, a6, fun s hs => by rw [hk g s e hs]; exact a7 s hs, sm_le a8 hNM, sm_le a9 hNM⟩
  · rw [c3, pN_add hf hp, nI_1]
theorem sm0 (N : Nat) : sm N 0 := by unfold sm; rw [show (0 : Int32).toInt = 0 by decide]; omega
set_option maxHeartbeats 1000000 in
theorem X3_putFirst_ok {N : Nat} {pp : Nat → Option PL} {ct : Int32} {hd li x y lo : Nat → Int32} {tk : Nat → Int64} {f d : Nat} {post : Int32 → (Nat → Int32) → (Nat → Int32) → (Nat → Int64) → (Nat → Int32) → (Nat → Int32) → Prop} (hC : CS N pp ct hd li x y) (hf : f < 22) (hp : pp f = none) (hl : lo f = nI d) (hd6 : d < 6)
    (h : ∀ hd li x y : Nat → Int32, CS N (ppset pp f (some (0, 0, fr d, fu d))) (ct + 1) hd li x y → post (ct + 1) hd li (vp_updL tk (ln 0) (tk (ln 0) ||| pb 0)) x y) : wp_X3_putFirst ct hd li lo tk x y (nI f) post := by
  unfold wp_X3_putFirst
  have hv : vp_in (nI f) 22 := vp_in_nI hf (by omega)
  have hv2 : vp_in (nI d) 6 := vp_in_nI hd6 (by omega)
  obtain ⟨g1, g2, -⟩ := fru d hd6
  rw [nI_clamp (by omega), hl, nI_clamp (by omega), fr_ok d hd6, fu_ok d hd6]
  refine ⟨hv, hv2, X3_setHeading_ok (s := 0) hf (by omega) g1 ⟨hv, hv2, X3_setHeading_ok (s := 1) hf (by omega) g2 (X3_putAt_ok hf (sm0 31) (h _ _ _ _ (CS_add hC (Nat.le_refl _) hf hp g1 g2 (sm0 N) (sm0 N) ?_ ?_)))⟩⟩
  · intro s hs
    rcases (show s = 0 ∨ s = 1 ∨ s = 2 ∨ s = 3 by omega) with rfl | rfl | rfl | rfl <;> simp [upd, s2, sd]
  · intro g s e hs
    simp only [s2]
    rw [pk_un (by omega), pk_un (by omega), pk_un (by omega), pk_un (by omega)]
theorem X3_heading_ok {f s : Nat} {hd : Nat → Int32} {post : Int32 → Prop} (hf : f < 22) (hs : s < 4) (h : post (hd (f * 4 + s))) : wp_X3_heading hd (nI f) (nI s) post := by
  unfold wp_X3_heading
  rw [ix4, nI_clamp (by omega)]
  exact ⟨vp_in_nI (by omega) (by omega), h⟩
