-- PURE 10: the search's state
def updN (f : Nat → Nat) (k v : Nat) : Nat → Nat := fun j => if j = k then v else f j
theorem updN_s {f : Nat → Nat} {k v : Nat} : updN f k v k = v := if_pos rfl
theorem updN_n {f : Nat → Nat} {k v j : Nat} (h : j ≠ k) : updN f k v j = f j := if_neg h
theorem cnt_below {P : Nat → Prop} {F N : Nat} (h : ∀ k, P k → k < F) : cnt P N ≤ F := by
  by_cases e : N ≤ F
  · exact Nat.le_trans (cnt_le N) e
  · have : ∀ M, F ≤ M → cnt P M ≤ F := by
      intro M
      induction M with
      | zero => intro _; exact Nat.zero_le _
      | succ M ih =>
        intro hM
        by_cases q : F ≤ M
        · rw [cnt_f (fun z => by have := h _ z; omega)]; exact ih q
        · exact Nat.le_trans (cnt_le _) (by omega)
    exact this N (by omega)
def SW (F : Nat) (look : Nat → Nat) (cn stp : Nat) (ord cho : Nat → Nat) (pp : Nat → Option PL) : Prop :=
  1 ≤ cn ∧ cn ≤ F ∧ stp ≤ cn * 4 ∧ (∀ k, k < cn → ∃ p, pp (ord k) = some p ∧ sm k p.1 ∧ sm k p.2.1 ∧ (1 ≤ k → ∃ j q s, j < k ∧ pp (ord j) = some q ∧ s < 4 ∧ p.1 = q.1 + q_SIDE_X s ∧ p.2.1 = q.2.1 + q_SIDE_Y s)) ∧ (∀ f p, pp f = some p → f < F ∧ OR look f p.2.2.1 p.2.2.2 ∧ ∃ k, k < cn ∧ ord k = f) ∧ (∀ j k, j < cn → k < cn → ord j = ord k → j = k) ∧ (∀ k, 1 ≤ k → k < cn → cho k < k * 4) ∧ PD pp ∧ pN pp = cn
/-- the face that step stp would lay -/
def tgt (nb : Nat → Nat → Nat) (f : Nat) (p : PL) (s : Nat) : Nat := nb f (sd p.2.2.1 p.2.2.2 s)
def isC (nb on : Nat → Nat → Nat) (pp : Nat → Option PL) (f : Nat) (p : PL) (s : Nat) : Prop := pp (tgt nb f p s) = none ∧ ∀ g, ¬ pAtP pp (nxt on f p s).1 (nxt on f p s).2.1 g
theorem SW_step {F : Nat} {look : Nat → Nat} {cn stp : Nat} {ord cho : Nat → Nat} {pp : Nat → Option PL} (h : SW F look cn stp ord cho pp) (hs : stp < cn * 4) : SW F look cn (stp + 1) ord cho pp := ⟨h.1, h.2.1, hs, h.2.2.2⟩
theorem SW_add {F : Nat} {look : Nat → Nat} {nb on : Nat → Nat → Nat} {cn stp : Nat} {ord cho : Nat → Nat} {pp : Nat → Option PL} {p : PL} (hF : F ≤ 22) (hG : GS F look nb on) (h : SW F look cn stp ord cho pp) (hs : stp < cn * 4) (hp : pp (ord (stp / 4)) = some p) (hc : isC nb on pp (ord (stp / 4)) p (stp % 4)) :
    SW F look (cn + 1) (stp + 1) (updN ord cn (tgt nb (ord (stp / 4)) p (stp % 4))) (updN cho cn stp) (ppset pp (tgt nb (ord (stp / 4)) p (stp % 4)) (some (nxt on (ord (stp / 4)) p (stp % 4)))) := by
  obtain ⟨h1, h2, h3, h4, h5, h6, h7, h8, h9⟩ := h
  obtain ⟨a1, a2, -⟩ := h5 _ p hp
  obtain ⟨p2, b1, b2, b3, -⟩ := h4 (stp / 4) (by omega)
  rw [hp] at b1
  cases b1
  have hs4 : stp % 4 < 4 := by omega
  obtain ⟨c1, c2⟩ := sd_ok a2 hs4
  obtain ⟨d1, d2, d3⟩ := hG.2 _ _ a1 c1 c2
  have hO := OR_next hG a1 a2 hs4
  have hside := sideXY _ hs4
  have s1 : sm (stp / 4 + 1) (nxt on (ord (stp / 4)) p (stp % 4)).1 := sm_step b2 ⟨hside.2.1, hside.2.2.1⟩ (by omega)
  have s2 : sm (stp / 4 + 1) (nxt on (ord (stp / 4)) p (stp % 4)).2.1 := sm_step b3 ⟨hside.2.2.2.1, hside.2.2.2.2⟩ (by omega)
  have hg : tgt nb (ord (stp / 4)) p (stp % 4) < F := d1
  have hne : ∀ k, k < cn → ord k ≠ tgt nb (ord (stp / 4)) p (stp % 4) := by
    intro k hk e
    obtain ⟨q, q1, -⟩ := h4 k hk
    rw [e, hc.1] at q1
    cases q1
  have hpN : pN (ppset pp (tgt nb (ord (stp / 4)) p (stp % 4)) (some (nxt on (ord (stp / 4)) p (stp % 4)))) = cn + 1 := by rw [pN_add (by omega) hc.1, h9]
  have hall : ∀ f q, ppset pp (tgt nb (ord (stp / 4)) p (stp % 4)) (some (nxt on (ord (stp / 4)) p (stp % 4))) f = some q → f < F ∧ OR look f q.2.2.1 q.2.2.2 ∧ ∃ k, k < cn + 1 ∧ updN ord cn (tgt nb (ord (stp / 4)) p (stp % 4)) k = f := by
    intro f q hq
    by_cases e : f = tgt nb (ord (stp / 4)) p (stp % 4)
    · subst e; rw [ppset_s] at hq; cases hq
      exact ⟨hg, hO, cn, by omega, updN_s⟩
    · rw [ppset_n e] at hq
      obtain ⟨e1, e2, k, e3, e4⟩ := h5 f q hq
      exact ⟨e1, e2, k, by omega, by rw [updN_n (by omega)]; exact e4⟩
  refine ⟨by omega, ?_, by omega, fun k hk => ?_, hall, fun j k hj hk e => ?_, fun k k1 hk => ?_, PD_add h8 hc.2 (sm_le s1 (by omega)) (sm_le s2 (by omega)), hpN⟩
  · rw [← hpN]
    refine cnt_below (fun f hf => ?_)
    cases hq : ppset pp (tgt nb (ord (stp / 4)) p (stp % 4)) (some (nxt on (ord (stp / 4)) p (stp % 4))) f with
    | none => exact absurd hq hf
    | some q => exact (hall f q hq).1
  · by_cases e : k = cn
    · subst e
      rw [updN_s, ppset_s]
      exact ⟨_, rfl, sm_le s1 (by omega), sm_le s2 (by omega), fun _ => ⟨stp / 4, p, stp % 4, by omega, by rw [updN_n (by omega), ppset_n (hne _ (by omega))]; exact hp, hs4, rfl, rfl⟩⟩
    · rw [updN_n e, ppset_n (hne k (by omega))]
      obtain ⟨q, q1, q2, q3, q4⟩ := h4 k (by omega)
      refine ⟨q, q1, q2, q3, fun k1 => ?_⟩
      obtain ⟨j, r, s, r1, r2, r3⟩ := q4 k1
      exact ⟨j, r, s, r1, by rw [updN_n (by omega), ppset_n (hne j (by omega))]; exact r2, r3⟩
  · by_cases e1 : j = cn <;> by_cases e2 : k = cn
    · omega
    · rw [e1, updN_s, updN_n e2] at e
      exact absurd e.symm (hne k (by omega))
    · rw [e2, updN_s, updN_n e1] at e
      exact absurd e (hne j (by omega))
    · rw [updN_n e1, updN_n e2] at e
      exact h6 j k (by omega) (by omega) e
  · by_cases e : k = cn
    · subst e; rw [updN_s]; exact hs
    · rw [updN_n e]; exact h7 k k1 (by omega)
theorem SW_pop {F : Nat} {look : Nat → Nat} {cn stp : Nat} {ord cho : Nat → Nat} {pp : Nat → Option PL} (hF : F ≤ 22) (h : SW F look cn stp ord cho pp) (hc : ¬ cn = 1) : SW F look (cn - 1) (cho (cn - 1) + 1) ord cho (ppset pp (ord (cn - 1)) none) := by
  obtain ⟨h1, h2, h3, h4, h5, h6, h7, h8, h9⟩ := h
  have hb := h7 (cn - 1) (by omega) (by omega)
  obtain ⟨p, hp, -⟩ := h4 (cn - 1) (by omega)
  have hf := (h5 _ p hp).1
  refine ⟨by omega, by omega, by omega, fun k hk => ?_, fun f q hq => ?_, fun j k hj hk => h6 j k (by omega) (by omega), fun k k1 hk => h7 k k1 (by omega), PD_del h8, ?_⟩
  · have e : ord k ≠ ord (cn - 1) := fun e => by have := h6 k (cn - 1) (by omega) (by omega) e; omega
    rw [ppset_n e]
    obtain ⟨q, q1, q2, q3, q4⟩ := h4 k (by omega)
    refine ⟨q, q1, q2, q3, fun k1 => ?_⟩
    obtain ⟨j, r, s, r1, r2, r3⟩ := q4 k1
    exact ⟨j, r, s, r1, by rw [ppset_n (fun e => by have := h6 j (cn - 1) (by omega) (by omega) e; omega)]; exact r2, r3⟩
  · by_cases e : f = ord (cn - 1)
    · subst e; rw [ppset_s] at hq; cases hq
    · rw [ppset_n e] at hq
      obtain ⟨a1, a2, k, a3, a4⟩ := h5 f q hq
      exact ⟨a1, a2, k, by have : k ≠ cn - 1 := fun z => e (by rw [← a4, z]); omega, a4⟩
  · have := pN_del (by omega) hp
    omega
/-- the class's search -/
def SCr (cn stp : Nat) (ord cho : Nat → Nat) (pp : Nat → Option PL) (step : Int32) (laid las : Nat → Int32) (ct : Int32) (hd li : Nat → Int32) (tk : Nat → Int64) (x y : Nat → Int32) : Prop := step = nI stp ∧ (∀ k, k < cn → laid k = nI (ord k)) ∧ (∀ k, 1 ≤ k → k < cn → las k = nI (cho k)) ∧ CS 30 pp ct hd li x y ∧ TK pp tk
theorem div4 {n : Nat} (h : n < 2 ^ 31) : nI n / (4 : Int32) = nI (n / 4) := pk_div (d := 4) h (by omega) (by omega)
theorem rem4 {n : Nat} (h : n < 2 ^ 31) : nI n - nI n / (4 : Int32) * (4 : Int32) = nI (n % 4) := pk_rem (d := 4) h (by omega) (by omega)
set_option maxHeartbeats 1000000 in
theorem X2_isChoice_ok {F : Nat} {look : Nat → Nat} {nb on : Nat → Nat → Nat} {lo be ow : Nat → Int32} {cn stp : Nat} {ord cho : Nat → Nat} {pp : Nat → Option PL} {p : PL} {step ct : Int32} {laid las hd li x y : Nat → Int32} {tk : Nat → Int64} {post : Int32 → Prop} (hF : F ≤ 22) (hG : GS F look nb on) (hT : TB F look nb on lo be ow) (hW : SW F look cn stp ord cho pp) (hS : SCr cn stp ord cho pp step laid las ct hd li tk x y) (hs : stp < cn * 4) (hp : pp (ord (stp / 4)) = some p)
    (h1 : isC nb on pp (ord (stp / 4)) p (stp % 4) → post 1) (h0 : ¬ isC nb on pp (ord (stp / 4)) p (stp % 4) → post 0) : wp_X2_isChoice step laid hd li tk x y be post := by
  obtain ⟨e1, e2, e3, hC, hTK⟩ := hS
  subst e1
  obtain ⟨w1, w2, w3, w4, w5, -⟩ := id hW
  obtain ⟨a1, a2, -⟩ := w5 _ p hp
  obtain ⟨c1, c2, c3, c4, c5, c6, c7, c8, c9⟩ := hC.2.1 _ p hp
  obtain ⟨p2, b1, b2, b3, -⟩ := w4 (stp / 4) (by omega)
  rw [hp] at b1
  cases b1
  have hs4 : stp % 4 < 4 := by omega
  obtain ⟨d1, d2⟩ := sd_ok a2 hs4
  obtain ⟨g1, g2, g3⟩ := hG.2 _ _ a1 d1 d2
  unfold wp_X2_isChoice
  rw [div4 (by omega), show nI stp - nI (stp / 4) * (4 : Int32) = nI (stp % 4) from by rw [← div4 (show stp < 2 ^ 31 by omega)]; exact rem4 (by omega), nI_clamp (show stp / 4 < 2 ^ 31 by omega), e2 _ (by omega)]
  refine ⟨vp_in_nI (by omega) (by omega), X3_neighbour_ok hT hF a1 hs4 c7 a2 ?_⟩
  rw [nI_clamp (by omega)]
  refine ⟨vp_in_nI (by omega) (by omega), fun q => h0 (fun z => q ?_), fun q => ?_⟩
  · exact hC.1 _ z.1 (by omega)
  · have hn : pp (tgt nb (ord (stp / 4)) p (stp % 4)) = none := by
      cases e : pp (tgt nb (ord (stp / 4)) p (stp % 4)) with
      | none => rfl
      | some pg => have := (hC.2.1 _ pg e).2.1; unfold tgt at this; rw [this] at q; exact absurd q (by decide)
    refine X3_isFreeBeside_ok hTK c1 hs4 c3 c4 (sm_le b2 (by omega)) (sm_le b3 (by omega)) (fun z => ⟨fun w => absurd w (by decide), fun _ => h1 ⟨hn, z⟩⟩) (fun z => ⟨fun _ => h0 (fun w => ?_), fun w => absurd rfl w⟩)
    obtain ⟨g, hg⟩ := z
    exact w.2 g hg
set_option maxHeartbeats 1000000 in
theorem X2_choose_ok {F : Nat} {look : Nat → Nat} {nb on : Nat → Nat → Nat} {lo be ow : Nat → Int32} {cn stp : Nat} {ord cho : Nat → Nat} {pp : Nat → Option PL} {p : PL} {work step ct : Int32} {laid las hd li x y : Nat → Int32} {tk : Nat → Int64} {post : Int32 → Int32 → (Nat → Int32) → (Nat → Int32) → Int32 → (Nat → Int32) → (Nat → Int32) → (Nat → Int64) → (Nat → Int32) → (Nat → Int32) → Prop} (hF : F ≤ 22) (hG : GS F look nb on) (hT : TB F look nb on lo be ow) (hW : SW F look cn stp ord cho pp) (hS : SCr cn stp ord cho pp step laid las ct hd li tk x y) (hs : stp < cn * 4) (hp : pp (ord (stp / 4)) = some p) (hc : isC nb on pp (ord (stp / 4)) p (stp % 4))
    (h : ∀ (step ct : Int32) (laid las hd li x y : Nat → Int32) (tk : Nat → Int64), SCr (cn + 1) (stp + 1) (updN ord cn (tgt nb (ord (stp / 4)) p (stp % 4))) (updN cho cn stp) (ppset pp (tgt nb (ord (stp / 4)) p (stp % 4)) (some (nxt on (ord (stp / 4)) p (stp % 4)))) step laid las ct hd li tk x y → post (work + 1) step laid las ct hd li tk x y) : wp_X2_choose work step laid las ct hd li tk x y be ow post := by
  have hW2 := SW_add hF hG hW hs hp hc
  obtain ⟨e1, e2, e3, hC, hTK⟩ := hS
  subst e1
  obtain ⟨w1, w2, w3, w4, w5, w6, w7, w8, w9⟩ := id hW
  obtain ⟨a1, a2, -⟩ := w5 _ p hp
  obtain ⟨c1, c2, c3, c4, c5, c6, c7, c8, c9⟩ := hC.2.1 _ p hp
  obtain ⟨p2, b1, b2, b3, -⟩ := w4 (stp / 4) (by omega)
  rw [hp] at b1
  cases b1
  have hs4 : stp % 4 < 4 := by omega
  have hcn : cn < 22 := by have := hW2.2.1; omega
  have hct : ct = nI cn := by rw [hC.2.2, w9]
  have hside := sideXY _ hs4
  have s1 : sm (stp / 4 + 1) (nxt on (ord (stp / 4)) p (stp % 4)).1 := sm_step b2 ⟨hside.2.1, hside.2.2.1⟩ (by omega)
  have s2 : sm (stp / 4 + 1) (nxt on (ord (stp / 4)) p (stp % 4)).2.1 := sm_step b3 ⟨hside.2.2.2.1, hside.2.2.2.2⟩ (by omega)
  have hv : vp_in (nI cn) 22 := vp_in_nI hcn (by omega)
  unfold wp_X2_choose
  rw [div4 (by omega), show nI stp - nI (stp / 4) * (4 : Int32) = nI (stp % 4) from by rw [← div4 (show stp < 2 ^ 31 by omega)]; exact rem4 (by omega), nI_clamp (show stp / 4 < 2 ^ 31 by omega), e2 _ (by omega), hct, nI_clamp (show cn < 2 ^ 31 by omega), nI_1]
  refine ⟨vp_in_nI (by omega) (by omega), X3_neighbour_ok hT hF a1 hs4 c7 a2 ⟨hv, hv, ?_⟩⟩
  rw [hct] at hC
  refine X3_putBeside_ok (M := 30) hG hT hF hC (Nat.le_refl _) (by omega) a1 hs4 hp a2 hc.1 (sm_le s1 (by omega)) (sm_le s2 (by omega)) (fun hd li x y hC2 => ?_)
  refine h _ _ _ _ _ _ _ _ _ ⟨rfl, fun k hk => ?_, fun k k1 hk => ?_, hC2, TK_add hTK hc.1 (sm_le s1 (by omega)) (sm_le s2 (by omega))⟩
  · by_cases e : k = cn
    · subst e; rw [pk_us, updN_s]; rfl
    · rw [pk_un e, updN_n e]; exact e2 k (by omega)
  · by_cases e : k = cn
    · subst e; rw [pk_us, updN_s]
    · rw [pk_un e, updN_n e]; exact e3 k k1 (by omega)
set_option maxHeartbeats 1000000 in
theorem X2_takeBack_ok {F : Nat} {look : Nat → Nat} {cn stp : Nat} {ord cho : Nat → Nat} {pp : Nat → Option PL} {step ct : Int32} {laid las hd li x y : Nat → Int32} {tk : Nat → Int64} {post : Int32 → Int32 → (Nat → Int32) → (Nat → Int64) → Prop} (hF : F ≤ 22) (hW : SW F look cn stp ord cho pp) (hS : SCr cn stp ord cho pp step laid las ct hd li tk x y) (hc : ¬ cn = 1)
    (h : ∀ (step ct : Int32) (li : Nat → Int32) (tk : Nat → Int64), SCr (cn - 1) (cho (cn - 1) + 1) ord cho (ppset pp (ord (cn - 1)) none) step laid las ct hd li tk x y → post step ct li tk) : wp_X2_takeBack step laid las ct li tk x y post := by
  obtain ⟨e1, e2, e3, hC, hTK⟩ := hS
  subst e1
  obtain ⟨w1, w2, w3, w4, w5, w6, w7, w8, w9⟩ := id hW
  obtain ⟨p, hp, s1, s2, -⟩ := w4 (cn - 1) (by omega)
  obtain ⟨c1, c2, c3, c4, c5, c6, c7, c8, c9⟩ := hC.2.1 _ p hp
  have hct : ct = nI cn := by rw [hC.2.2, w9]
  unfold wp_X2_takeBack
  rw [hct, show nI cn - (1 : Int32) = nI (cn - 1) from by rw [show cn = cn - 1 + 1 by omega]; exact nI_pred _, nI_clamp (by omega), e2 _ (by omega), e3 _ (by omega) (by omega), nI_1]
  have hv : vp_in (nI (cn - 1)) 22 := vp_in_nI (by omega) (by omega)
  refine ⟨hv, X3_takeOff_ok c1 (by rw [c4]; exact sm_le s2 (by omega)) ⟨hv, h _ _ _ _ ⟨rfl, fun k hk => e2 k (by omega), fun k k1 hk => e3 k k1 (by omega), ?_, ?_⟩⟩⟩
  · rw [hct] at hC
    exact CS_del hC hp
  · rw [c3, c4]
    exact TK_del hTK hp w8.2 (sm_le s1 (by omega)) (sm_le s2 (by omega))
