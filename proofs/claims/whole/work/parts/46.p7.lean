-- PURE 7: one face beside another
theorem X4_beyond_ok {F : Nat} {look : Nat → Nat} {nb on : Nat → Nat → Nat} {lo be ow : Nat → Int32} {f e : Nat} {post : Int32 → Prop} (hT : TB F look nb on lo be ow) (hF : F ≤ 22) (hf : f < F) (he : e < 6) (ha : ¬ e / 2 = look f / 2) (h : post (nI (nb f e))) : wp_X4_beyond be (nI f) (nI e) post := by
  unfold wp_X4_beyond
  rw [ix6, nI_clamp (by omega), (hT.2 f e hf he ha).1]
  exact ⟨vp_in_nI (by omega) (by omega), h⟩
theorem X4_onward_ok {F : Nat} {look : Nat → Nat} {nb on : Nat → Nat → Nat} {lo be ow : Nat → Int32} {f e : Nat} {post : Int32 → Prop} (hT : TB F look nb on lo be ow) (hF : F ≤ 22) (hf : f < F) (he : e < 6) (ha : ¬ e / 2 = look f / 2) (h : post (nI (on f e))) : wp_X4_onward ow (nI f) (nI e) post := by
  unfold wp_X4_onward
  rw [ix6, nI_clamp (by omega), (hT.2 f e hf he ha).2]
  exact ⟨vp_in_nI (by omega) (by omega), h⟩
theorem X3_neighbour_ok {F : Nat} {look : Nat → Nat} {nb on : Nat → Nat → Nat} {lo be ow hd : Nat → Int32} {f s r u : Nat} {post : Int32 → Prop} (hT : TB F look nb on lo be ow) (hF : F ≤ 22) (hf : f < F) (hs : s < 4) (hH : H4 hd f r u) (hO : OR look f r u) (h : post (nI (nb f (sd r u s)))) : wp_X3_neighbour hd be (nI f) (nI s) post := by
  unfold wp_X3_neighbour
  obtain ⟨a1, a2⟩ := sd_ok hO hs
  refine X3_heading_ok (by omega) hs ?_
  rw [hH s hs]
  exact X4_beyond_ok hT hF hf a1 a2 h
theorem X3_onward_ok {F : Nat} {look : Nat → Nat} {nb on : Nat → Nat → Nat} {lo be ow hd : Nat → Int32} {f s r u : Nat} {post : Int32 → Prop} (hT : TB F look nb on lo be ow) (hF : F ≤ 22) (hf : f < F) (hs : s < 4) (hH : H4 hd f r u) (hO : OR look f r u) (h : post (nI (on f (sd r u s)))) : wp_X3_onward hd ow (nI f) (nI s) post := by
  unfold wp_X3_onward
  obtain ⟨a1, a2⟩ := sd_ok hO hs
  refine X3_heading_ok (by omega) hs ?_
  rw [hH s hs]
  exact X4_onward_ok hT hF hf a1 a2 h
/-- where the face beside face f, on side s, lies -/
def nxt (on : Nat → Nat → Nat) (f : Nat) (p : PL) (s : Nat) : PL := (p.1 + q_SIDE_X s, p.2.1 + q_SIDE_Y s, nr p.2.2.1 s (on f (sd p.2.2.1 p.2.2.2 s)), nu p.2.2.2 s (on f (sd p.2.2.1 p.2.2.2 s)))
theorem h4_next {hd : Nat → Int32} {g r u s o : Nat} (hs : s < 4) (hr : r < 6) (hu : u < 6) (ho : o < 6) : H4 (upd (upd (upd (upd hd (g * 4 + s) (nI o)) (g * 4 + s2 s) (nI (op o))) (g * 4 + s1 s) (nI (sd r u (s1 s)))) (g * 4 + s2 (s1 s)) (nI (op (sd r u (s1 s))))) g (nr r s o) (nu u s o) := by
  have o1 := op_op o ho
  have o2 := op_op r hr
  have o3 := op_op u hu
  intro t ht
  rcases (show s = 0 ∨ s = 1 ∨ s = 2 ∨ s = 3 by omega) with rfl | rfl | rfl | rfl <;> rcases (show t = 0 ∨ t = 1 ∨ t = 2 ∨ t = 3 by omega) with rfl | rfl | rfl | rfl <;> simp [upd, s1, s2, sd, nr, nu, o1, o2, o3]
set_option maxHeartbeats 1000000 in
theorem X3_putBeside_ok {N M F : Nat} {look : Nat → Nat} {nb on : Nat → Nat → Nat} {pp : Nat → Option PL} {ct : Int32} {hd li x y lo be ow : Nat → Int32} {tk : Nat → Int64} {f s : Nat} {p : PL} {post : Int32 → (Nat → Int32) → (Nat → Int32) → (Nat → Int64) → (Nat → Int32) → (Nat → Int32) → Prop} (hG : GS F look nb on) (hT : TB F look nb on lo be ow) (hF : F ≤ 22) (hC : CS N pp ct hd li x y) (hNM : N ≤ M) (hM : M ≤ 31) (hf : f < F) (hs : s < 4) (hp : pp f = some p) (hO : OR look f p.2.2.1 p.2.2.2) (hg : pp (nb f (sd p.2.2.1 p.2.2.2 s)) = none) (h1 : sm M (nxt on f p s).1) (h2 : sm M (nxt on f p s).2.1)
    (h : ∀ hd li x y : Nat → Int32, CS M (ppset pp (nb f (sd p.2.2.1 p.2.2.2 s)) (some (nxt on f p s))) (ct + 1) hd li x y → post (ct + 1) hd li (vp_updL tk (ln (nxt on f p s).2.1) (tk (ln (nxt on f p s).2.1) ||| pb (nxt on f p s).1)) x y) : wp_X3_putBeside ct hd li be ow tk x y (nI f) (nI s) post := by
  obtain ⟨c1, c2, c3, c4, c5, c6, c7, c8, c9⟩ := hC.2.1 f p hp
  obtain ⟨a1, a2⟩ := sd_ok hO hs
  obtain ⟨b1, b2, b3⟩ := hG.2 f _ hf a1 a2
  have hN := OR_next hG hf hO hs
  have hv : vp_in (nI f) 22 := vp_in_nI c1 (by omega)
  have hv2 : vp_in (nI s) 4 := vp_in_nI hs (by omega)
  have hne : nb f (sd p.2.2.1 p.2.2.2 s) ≠ f := fun q => by rw [q, hp] at hg; cases hg
  have q1 := s1_lt s
  unfold wp_X3_putBeside
  refine X3_neighbour_ok hT hF hf hs c7 hO (X3_onward_ok hT hF hf hs c7 hO (X3_setHeading_ok (by omega) hs b2 ?_))
  rw [s1_x s hs]
  refine X3_heading_ok c1 q1 ?_
  have q2 := s2_lt s
  rw [pk_un (by omega), pk_un (by omega), c7 _ q1]
  have q3 := (sd_ok hO q1).1
  refine X3_setHeading_ok (by omega) q1 q3 ⟨hv, hv2, hv, hv2, ?_⟩
  rw [nI_clamp (by omega), nI_clamp (by omega), c3, c4]
  refine X3_putAt_ok (by omega) (sm_le h2 hM) (h _ _ _ _ (CS_add hC hNM (by omega) hg hN.1 hN.2.1 h1 h2 (h4_next hs c5 c6 b2) ?_))
  intro g t e ht
  have q4 := s2_lt (s1 s)
  rw [pk_un (by omega), pk_un (by omega), pk_un (by omega), pk_un (by omega)]
/-- a face at a place of the paper -/
def pAtP (pp : Nat → Option PL) (a b : Int32) (f : Nat) : Prop := ∃ p, pp f = some p ∧ p.1 = a ∧ p.2.1 = b
theorem X3_faceAt_ok {N : Nat} {pp : Nat → Option PL} {ct a b : Int32} {hd li x y : Nat → Int32} {post : Int32 → Prop} (hC : CS N pp ct hd li x y) (h : post (eN (lf (pAtP pp a b) 22) 22 (-1))) : wp_X3_faceAt li x y a b post := by
  unfold wp_X3_faceAt
  refine Lp_for0 22 (fun i => ∀ j, j < i → ¬ pAtP pp a b j) (by omega) ?_ 0 (Nat.zero_le _) (fun j hj => absurd hj (Nat.not_lt_zero _))
  intro i kb hi hI hk
  dsimp only [wl_X3_faceAt_2, wb_X3_faceAt_2]
  refine pk_le 22 i (fun hc => ?_) (fun hc => ?_)
  · have e : lf (pAtP pp a b) 22 = 22 := lf_miss (fun j hj => hI j (by omega))
    rw [e, eN_f (by omega)] at h
    exact h
  · have hv : vp_in (nI i) 22 := vp_in_nI (by omega) (by omega)
    rw [nI_clamp (by omega), nI_1]
    cases hp : pp i with
    | none => exact ⟨hv, fun _ => hk hc (lt_s hI (fun q => by obtain ⟨p, q1, -⟩ := q; rw [hp] at q1; cases q1)), fun q => absurd (hC.1 i hp hc) q⟩
    | some p =>
      obtain ⟨c1, c2, c3, c4, -⟩ := hC.2.1 i p hp
      rw [c2, c3, c4]
      refine ⟨hv, fun q => absurd q (by decide), fun _ => ⟨hv, fun g1 => hk hc (lt_s hI (fun q => by obtain ⟨p2, q1, q2, q3⟩ := q; rw [hp] at q1; cases q1; exact g1 q2)), fun g1 => ⟨hv, fun g2 => hk hc (lt_s hI (fun q => by obtain ⟨p2, q1, q2, q3⟩ := q; rw [hp] at q1; cases q1; exact g2 q3)), fun g2 => ?_⟩⟩⟩
      have e : lf (pAtP pp a b) 22 = i := lf_hit hc ⟨p, hp, g1, g2⟩ hI
      rw [e, eN_t hc] at h
      exact h
-- the reference
theorem X8_sideOf_ok {s r u : Nat} {post : Int32 → Prop} (hs : s < 4) (hr : r < 6) (hu : u < 6) (h : post (nI (sd r u s))) : wp_X8_sideOf (nI s) (nI r) (nI u) post := by
  unfold wp_X8_sideOf
  rw [op_x r hr, op_x u hu]
  rcases (show s = 0 ∨ s = 1 ∨ s = 2 ∨ s = 3 by omega) with rfl | rfl | rfl | rfl <;> simpa +decide [sd] using h
theorem X8_sideX_ok : ∀ s, s < 4 → ∀ {post : Int32 → Prop}, post (q_SIDE_X s) → wp_X8_sideX (nI s) post := by
  intro s hs post h
  rcases (show s = 0 ∨ s = 1 ∨ s = 2 ∨ s = 3 by omega) with rfl | rfl | rfl | rfl <;> simpa +decide [wp_X8_sideX, q_SIDE_X] using h
theorem X8_sideY_ok : ∀ s, s < 4 → ∀ {post : Int32 → Prop}, post (q_SIDE_Y s) → wp_X8_sideY (nI s) post := by
  intro s hs post h
  rcases (show s = 0 ∨ s = 1 ∨ s = 2 ∨ s = 3 by omega) with rfl | rfl | rfl | rfl <;> simpa +decide [wp_X8_sideY, q_SIDE_Y] using h
theorem X8_beside_ok {F : Nat} {look : Nat → Nat} {nb on : Nat → Nat → Nat} {lo be ow : Nat → Int32} {f e : Nat} {post : Int32 → Prop} (hT : TB F look nb on lo be ow) (hF : F ≤ 22) (hf : f < F) (he : e < 6) (ha : ¬ e / 2 = look f / 2) (h : post (nI (nb f e))) : wp_X8_beside be (nI f) (nI e) post := by
  unfold wp_X8_beside
  rw [ix6', nI_clamp (by omega), (hT.2 f e hf he ha).1]
  exact ⟨vp_in_nI (by omega) (by omega), h⟩
theorem X8_lead_ok {F : Nat} {look : Nat → Nat} {nb on : Nat → Nat → Nat} {lo be ow : Nat → Int32} {f e : Nat} {post : Int32 → Prop} (hT : TB F look nb on lo be ow) (hF : F ≤ 22) (hf : f < F) (he : e < 6) (ha : ¬ e / 2 = look f / 2) (h : post (nI (on f e))) : wp_X8_lead ow (nI f) (nI e) post := by
  unfold wp_X8_lead
  rw [ix6', nI_clamp (by omega), (hT.2 f e hf he ha).2]
  exact ⟨vp_in_nI (by omega) (by omega), h⟩
theorem X8_nextRight_ok {F : Nat} {look : Nat → Nat} {nb on : Nat → Nat → Nat} {lo be ow : Nat → Int32} {f s r u : Nat} {post : Int32 → Prop} (hG : GS F look nb on) (hT : TB F look nb on lo be ow) (hF : F ≤ 22) (hf : f < F) (hs : s < 4) (hO : OR look f r u) (h : post (nI (nr r s (on f (sd r u s))))) : wp_X8_nextRight ow (nI f) (nI s) (nI r) (nI u) post := by
  obtain ⟨a1, a2⟩ := sd_ok hO hs
  obtain ⟨b1, b2, b3⟩ := hG.2 f _ hf a1 a2
  unfold wp_X8_nextRight
  refine X8_sideOf_ok hs hO.1 hO.2.1 (X8_lead_ok hT hF hf a1 a2 ?_)
  rw [op_x _ b2]
  generalize on f (sd r u s) = o at *
  rcases (show s = 0 ∨ s = 1 ∨ s = 2 ∨ s = 3 by omega) with rfl | rfl | rfl | rfl <;> simpa +decide [nr] using h
theorem X8_nextUp_ok {F : Nat} {look : Nat → Nat} {nb on : Nat → Nat → Nat} {lo be ow : Nat → Int32} {f s r u : Nat} {post : Int32 → Prop} (hG : GS F look nb on) (hT : TB F look nb on lo be ow) (hF : F ≤ 22) (hf : f < F) (hs : s < 4) (hO : OR look f r u) (h : post (nI (nu u s (on f (sd r u s))))) : wp_X8_nextUp ow (nI f) (nI s) (nI r) (nI u) post := by
  obtain ⟨a1, a2⟩ := sd_ok hO hs
  obtain ⟨b1, b2, b3⟩ := hG.2 f _ hf a1 a2
  unfold wp_X8_nextUp
  refine X8_sideOf_ok hs hO.1 hO.2.1 (X8_lead_ok hT hF hf a1 a2 ?_)
  rw [op_x _ b2]
  generalize on f (sd r u s) = o at *
  rcases (show s = 0 ∨ s = 1 ∨ s = 2 ∨ s = 3 by omega) with rfl | rfl | rfl | rfl <;> simpa +decide [nu] using h
