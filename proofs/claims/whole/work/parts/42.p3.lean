-- PURE 3: what lies across an edge
theorem i3a (a b c : Int32) : a + b + c + (-b) = a + c := by
  rw [Int32.add_assoc a b c, Int32.add_comm b c, ← Int32.add_assoc, Int32.add_assoc (a + c), Int32.add_right_neg, Int32.add_zero]
theorem cBy_lt {n : Nat} {x y z : Nat → Int32} {c d : Nat} (h : cBy n x y z c d < n) : x (cBy n x y z c d) = x c + q_STEP_X d ∧ y (cBy n x y z c d) = y c + q_STEP_Y d ∧ z (cBy n x y z c d) = z c + q_STEP_Z d := (lf_lt h).1
theorem cOver_lt {n : Nat} {x y z : Nat → Int32} {c e d : Nat} (h : cOver n x y z c e d < n) : x (cOver n x y z c e d) = x c + q_STEP_X e + q_STEP_X d ∧ y (cOver n x y z c e d) = y c + q_STEP_Y e + q_STEP_Y d ∧ z (cOver n x y z c e d) = z c + q_STEP_Z e + q_STEP_Z d := (lf_lt h).1
/-- the place of the face across direction e of the face of cube c, direction d -/
noncomputable def nbK (n : Nat) (x y z : Nat → Int32) (c d e : Nat) : Nat := if cOver n x y z c e d < n then cOver n x y z c e d * 6 + op e else if cBy n x y z c e < n then cBy n x y z c e * 6 + d else c * 6 + e
/-- as what e leads on -/
noncomputable def onS (n : Nat) (x y z : Nat → Int32) (c d e : Nat) : Nat := if cOver n x y z c e d < n then d else if cBy n x y z c e < n then e else op d
theorem fP_at {n : Nat} {x y z : Nat → Int32} {c d : Nat} (hd : d < 6) : fP n x y z (c * 6 + d) ↔ ¬ cBy n x y z c d < n := by
  unfold fP
  rw [show (c * 6 + d) / 6 = c by omega, show (c * 6 + d) % 6 = d by omega]
theorem nbK_ok {n : Nat} {x y z : Nat → Int32} {c d e : Nat} (hc : c < n) (hd : d < 6) (he : e < 6) (hf : ¬ cBy n x y z c d < n) : nbK n x y z c d e < n * 6 ∧ fP n x y z (nbK n x y z c d e) := by
  unfold nbK
  by_cases h1 : cOver n x y z c e d < n
  · rw [if_pos h1]
    have ho := op_lt e
    refine ⟨by omega, (fP_at ho).mpr ?_⟩
    obtain ⟨a1, a2, a3⟩ := cOver_lt h1
    unfold cBy
    rw [a1, a2, a3, stepX_op e he, stepY_op e he, stepZ_op e he, i3a, i3a, i3a]
    exact hf
  · rw [if_neg h1]
    by_cases h2 : cBy n x y z c e < n
    · rw [if_pos h2]
      refine ⟨by omega, (fP_at hd).mpr ?_⟩
      obtain ⟨a1, a2, a3⟩ := cBy_lt h2
      rw [cBy, a1, a2, a3]
      exact h1
    · rw [if_neg h2]
      exact ⟨by omega, (fP_at he).mpr h2⟩
theorem X7_opposite_ok {d : Nat} {post : Int32 → Prop} (hd : d < 6) (h : post (nI (op d))) : wp_X7_opposite (nI d) post := by
  unfold wp_X7_opposite
  rw [op_x d hd]
  exact h
theorem X7_sameAxis_ok {d e : Nat} {post : Int32 → Prop} (hd : d < 6) (he : e < 6) (h1 : d / 2 = e / 2 → post 1) (h0 : ¬ d / 2 = e / 2 → post 0) : wp_X7_sameAxis (nI d) (nI e) post := by
  unfold wp_X7_sameAxis
  rw [ax_r d hd, ax_r e he]
  have hq : nI (d / 2) = nI (e / 2) ↔ d / 2 = e / 2 := nI_eq (by omega) (by omega)
  exact ⟨fun h => h0 (fun q => h (hq.mpr q)), fun h => h1 (hq.mp h)⟩
theorem X4_setEdge_ok {f e : Nat} {be on : Nat → Int32} {p q : Int32} {post : (Nat → Int32) → (Nat → Int32) → Prop} (hf : f < 22) (he : e < 6) (h : post (upd be (f * 6 + e) p) (upd on (f * 6 + e) q)) : wp_X4_setEdge be on (nI f) (nI e) p q post := by
  unfold wp_X4_setEdge
  rw [ix6, nI_clamp (by omega)]
  have hv : vp_in (nI (f * 6 + e)) 132 := vp_in_nI (by omega) (by omega)
  exact ⟨hv, hv, h⟩
/-- the class's tables of faces, as they stand behind numberFaces -/
def FC (n : Nat) (x y z : Nat → Int32) (co fo lo : Nat → Int32) : Prop := FT n x y z (n * 6) co lo ∧ ∀ k, k < n * 6 → fP n x y z k → fo k = nI (fN n x y z k)
set_option maxHeartbeats 1000000 in
theorem X4_joinAcross_ok {n : Nat} {x y z co fo lo be on : Nat → Int32} {k e : Nat} {post : (Nat → Int32) → (Nat → Int32) → Prop} (hn : n ≤ 5) (hF : fN n x y z (n * 6) ≤ 22) (hC : FC n x y z co fo lo) (hk : k < n * 6) (hf : fP n x y z k) (he : e < 6)
    (h : post (upd be (fN n x y z k * 6 + e) (nI (fN n x y z (nbK n x y z (k / 6) (k % 6) e)))) (upd on (fN n x y z k * 6 + e) (nI (onS n x y z (k / 6) (k % 6) e)))) : wp_X4_joinAcross (nI n) be co fo lo on x y z (nI (fN n x y z k)) (nI e) post := by
  have hlt : fN n x y z k < fN n x y z (n * 6) := cnt_lt hk hf
  obtain ⟨e1, e2⟩ := hC.1 k hk hf
  have hc : k / 6 < n := by omega
  have hd : k % 6 < 6 := by omega
  have hv1 : vp_in (nI (fN n x y z k)) 22 := vp_in_nI (by omega) (by omega)
  have hv2 : vp_in (nI (k / 6)) 5 := vp_in_nI (by omega) (by omega)
  have hv3 : vp_in (nI e) 6 := vp_in_nI (by omega) (by omega)
  have hv4 : vp_in (nI (k % 6)) 6 := vp_in_nI (by omega) (by omega)
  obtain ⟨g1, g2⟩ := nbK_ok (e := e) hc hd he hf
  have hfo := hC.2 _ g1 g2
  unfold wp_X4_joinAcross
  rw [nI_clamp (show fN n x y z k < 2 ^ 31 by omega), e1, e2, nI_clamp (show k / 6 < 2 ^ 31 by omega), nI_clamp (show k % 6 < 2 ^ 31 by omega), nI_clamp (show e < 2 ^ 31 by omega)]
  refine ⟨hv1, hv1, hv2, hv3, hv4, hv2, hv3, hv4, hv2, hv3, hv4, X4_cubeAt_ok hn (X4_cubeFrom_ok hn (by omega) he ?_)⟩
  rw [show cAt n x y z (x (k / 6) + q_STEP_X e + q_STEP_X (k % 6)) (y (k / 6) + q_STEP_Y e + q_STEP_Y (k % 6)) (z (k / 6) + q_STEP_Z e + q_STEP_Z (k % 6)) = cOver n x y z (k / 6) e (k % 6) from rfl]
  unfold nbK at hfo h
  unfold onS at h
  by_cases h1 : cOver n x y z (k / 6) e (k % 6) < n
  · rw [if_pos h1] at hfo
    rw [if_pos h1, if_pos h1] at h
    have ho := op_lt e
    rw [eN_t h1]
    refine ⟨fun q => absurd q (nI_pos (by omega)), fun _ => X7_opposite_ok he ?_⟩
    rw [ix6, nI_clamp (by omega), hfo]
    exact ⟨vp_in_nI (by omega) (by omega), X4_setEdge_ok (by omega) he h⟩
  · rw [if_neg h1] at hfo
    rw [if_neg h1, if_neg h1] at h
    rw [eN_f h1]
    refine ⟨fun _ => ?_, fun q => absurd (by decide) q⟩
    by_cases h2 : cBy n x y z (k / 6) e < n
    · rw [if_pos h2] at hfo
      rw [if_pos h2, if_pos h2] at h
      rw [eN_t h2]
      refine ⟨fun q => absurd q (nI_pos (by omega)), fun _ => ?_⟩
      rw [ix6, nI_clamp (by omega), hfo]
      exact ⟨vp_in_nI (by omega) (by omega), X4_setEdge_ok (by omega) he h⟩
    · rw [if_neg h2] at hfo
      rw [if_neg h2, if_neg h2] at h
      rw [eN_f h2]
      refine ⟨fun _ => ?_, fun q => absurd (by decide) q⟩
      rw [ix6, nI_clamp (by omega), hfo]
      exact ⟨vp_in_nI (by omega) (by omega), X7_opposite_ok hd (X4_setEdge_ok (by omega) he h)⟩
/-- the tables of edges, for the faces under F and, of face F, the directions under E -/
def ET (n : Nat) (x y z : Nat → Int32) (F E : Nat) (be on : Nat → Int32) : Prop := ∀ k e, k < n * 6 → fP n x y z k → e < 6 → ¬ e / 2 = (k % 6) / 2 → (fN n x y z k < F ∨ (fN n x y z k = F ∧ e < E)) → be (fN n x y z k * 6 + e) = nI (fN n x y z (nbK n x y z (k / 6) (k % 6) e)) ∧ on (fN n x y z k * 6 + e) = nI (onS n x y z (k / 6) (k % 6) e)
theorem ET_add {n : Nat} {x y z : Nat → Int32} {k e : Nat} {be on : Nat → Int32} (h : ET n x y z (fN n x y z k) e be on) (hf : fP n x y z k) (he : e < 6) : ET n x y z (fN n x y z k) (e + 1) (upd be (fN n x y z k * 6 + e) (nI (fN n x y z (nbK n x y z (k / 6) (k % 6) e)))) (upd on (fN n x y z k * 6 + e) (nI (onS n x y z (k / 6) (k % 6) e))) := by
  intro k2 e2 h1 h2 h3 h4 h5
  by_cases q : fN n x y z k2 * 6 + e2 = fN n x y z k * 6 + e
  · have q1 : fN n x y z k2 = fN n x y z k := by omega
    have q2 : e2 = e := by omega
    have q3 : k2 = k := cnt_inj h2 hf q1
    subst q2; subst q3
    rw [pk_us, pk_us]
    exact ⟨rfl, rfl⟩
  · rw [pk_un q, pk_un q]
    exact h k2 e2 h1 h2 h3 h4 (by omega)
theorem ET_skip {n : Nat} {x y z : Nat → Int32} {k e : Nat} {be on : Nat → Int32} (h : ET n x y z (fN n x y z k) e be on) (hf : fP n x y z k) (ha : e / 2 = (k % 6) / 2) : ET n x y z (fN n x y z k) (e + 1) be on := by
  intro k2 e2 h1 h2 h3 h4 h5
  by_cases q : fN n x y z k2 = fN n x y z k ∧ e2 = e
  · have q3 : k2 = k := cnt_inj h2 hf q.1
    rw [q3, q.2] at h4
    exact absurd ha h4
  · exact h k2 e2 h1 h2 h3 h4 (by omega)
theorem ET_next {n : Nat} {x y z : Nat → Int32} {F : Nat} {be on : Nat → Int32} (h : ET n x y z F 6 be on) : ET n x y z (F + 1) 0 be on := by
  intro k2 e2 h1 h2 h3 h4 h5
  exact h k2 e2 h1 h2 h3 h4 (by omega)
set_option maxHeartbeats 1000000 in
theorem X4_joinFaces_ok {n : Nat} {x y z co fo lo be on : Nat → Int32} {post : (Nat → Int32) → (Nat → Int32) → Prop} (hn : n ≤ 5) (hF : fN n x y z (n * 6) ≤ 22) (hC : FC n x y z co fo lo)
    (h : ∀ be on : Nat → Int32, ET n x y z (fN n x y z (n * 6)) 0 be on → post be on) : wp_X4_joinFaces (nI n) (nI (fN n x y z (n * 6))) be co fo lo on x y z post := by
  unfold wp_X4_joinFaces
  refine Lp_for (S := (Nat → Int32) × (Nat → Int32)) (fN n x y z (n * 6)) (fun f v => ET n x y z f 0 v.1 v.2) (by omega) ?_ 0 (be, on) (Nat.zero_le _) (fun k2 e2 h1 h2 h3 h4 h5 => absurd h5 (by omega))
  rintro f ⟨be, on⟩ kb hf hI hk
  dsimp only at hI
  dsimp only [wl_X4_joinFaces_2, wb_X4_joinFaces_2]
  refine pk_le (fN n x y z (n * 6)) f (fun hq => ?_) (fun hq => ?_)
  · obtain rfl : f = fN n x y z (n * 6) := by omega
    exact h be on hI
  · obtain ⟨k, k1, k2, rfl⟩ := cnt_sur hq
    refine Lp_for (S := (Nat → Int32) × (Nat → Int32)) 6 (fun e v => ET n x y z (fN n x y z k) e v.1 v.2) (by omega) ?_ 0 (be, on) (Nat.zero_le _) hI
    rintro e ⟨be, on⟩ kb2 he hI hk2
    dsimp only at hI
    dsimp only [wl_X4_joinFaces_12, wb_X4_joinFaces_12]
    refine pk_le 6 e (fun hq2 => ?_) (fun hq2 => ?_)
    · obtain rfl : e = 6 := by omega
      rw [nI_1]
      exact hk (be, on) hq (ET_next hI)
    · have e2 := (hC.1 k k1 k2).2
      refine ⟨vp_in_nI (by omega) (by omega), ?_⟩
      rw [nI_clamp (show cnt (fP n x y z) k < 2 ^ 31 by omega)]
      change lo (cnt (fP n x y z) k) = _ at e2
      rw [e2, nI_1]
      refine X7_sameAxis_ok hq2 (by omega) (fun ha => ⟨fun _ => hk2 (be, on) hq2 (ET_skip hI k2 ha), fun q => absurd q (by decide)⟩) (fun ha => ⟨fun q => absurd rfl q, fun _ => ?_⟩)
      exact X4_joinAcross_ok hn hF hC k1 k2 hq2 (hk2 (_, _) hq2 (ET_add hI k2 hq2))
