-- PURE 2: solids
def pAt (x y z : Nat → Int32) (px py pz : Int32) (c : Nat) : Prop := x c = px ∧ y c = py ∧ z c = pz
/-- the cube at a place, or n -/
noncomputable def cAt (n : Nat) (x y z : Nat → Int32) (px py pz : Int32) : Nat := lf (pAt x y z px py pz) n
theorem X4_cubeAt_ok {n : Nat} {x y z : Nat → Int32} {px py pz : Int32} {post : Int32 → Prop} (hn : n ≤ 5) (h : post (eN (cAt n x y z px py pz) n (-1))) : wp_X4_cubeAt (nI n) x y z px py pz post := by
  unfold wp_X4_cubeAt
  refine Lp_for0 n (fun i => ∀ j, j < i → ¬ pAt x y z px py pz j) (by omega) ?_ 0 (Nat.zero_le _) (fun j hj => absurd hj (Nat.not_lt_zero _))
  intro i kb hi hI hk
  dsimp only [wl_X4_cubeAt_3, wb_X4_cubeAt_3]
  refine pk_le n i (fun hc => ?_) (fun hc => ?_)
  · have e : cAt n x y z px py pz = n := lf_miss (fun j hj => hI j (by omega))
    rw [e, eN_f (by omega)] at h
    exact h
  · have hv : vp_in (nI i) 5 := vp_in_nI (by omega) (by omega)
    rw [nI_clamp (by omega), nI_1]
    refine ⟨hv, fun h1 => hk hc (lt_s hI (fun q => h1 q.1)), fun h1 => ⟨hv, fun h2 => hk hc (lt_s hI (fun q => h2 q.2.1)), fun h2 => ⟨hv, fun h3 => hk hc (lt_s hI (fun q => h3 q.2.2)), fun h3 => ?_⟩⟩⟩
    have e : cAt n x y z px py pz = i := lf_hit hc ⟨h1, h2, h3⟩ hI
    rw [e, eN_t hc] at h
    exact h
theorem X8_cubeAt_ok {n : Nat} {x y z : Nat → Int32} {px py pz : Int32} {post : Int32 → Prop} (hn : n ≤ 5) (h : post (eN (cAt n x y z px py pz) n (-9))) : wp_X8_cubeAt (nI n) x y z px py pz post := by
  unfold wp_X8_cubeAt
  refine Lp_for0 n (fun i => ∀ j, j < i → ¬ pAt x y z px py pz j) (by omega) ?_ 0 (Nat.zero_le _) (fun j hj => absurd hj (Nat.not_lt_zero _))
  intro i kb hi hI hk
  dsimp only [wl_X8_cubeAt_3, wb_X8_cubeAt_3]
  refine pk_le n i (fun hc => ?_) (fun hc => ?_)
  · have e : cAt n x y z px py pz = n := lf_miss (fun j hj => hI j (by omega))
    rw [e, eN_f (by omega)] at h
    exact h
  · have hv : vp_in (nI i) 5 := vp_in_nI (by omega) (by omega)
    rw [nI_clamp (by omega), nI_1]
    refine ⟨hv, fun h1 => hk hc (lt_s hI (fun q => h1 q.1)), fun h1 => ⟨hv, fun h2 => hk hc (lt_s hI (fun q => h2 q.2.1)), fun h2 => ⟨hv, fun h3 => hk hc (lt_s hI (fun q => h3 q.2.2)), fun h3 => ?_⟩⟩⟩
    have e : cAt n x y z px py pz = i := lf_hit hc ⟨h1, h2, h3⟩ hI
    rw [e, eN_t hc] at h
    exact h
/-- the cube beside cube c in direction d, or n -/
noncomputable def cBy (n : Nat) (x y z : Nat → Int32) (c d : Nat) : Nat := cAt n x y z (x c + q_STEP_X d) (y c + q_STEP_Y d) (z c + q_STEP_Z d)
/-- the cube beyond an edge: in directions e and d -/
noncomputable def cOver (n : Nat) (x y z : Nat → Int32) (c e d : Nat) : Nat := cAt n x y z (x c + q_STEP_X e + q_STEP_X d) (y c + q_STEP_Y e + q_STEP_Y d) (z c + q_STEP_Z e + q_STEP_Z d)
theorem X4_cubeFrom_ok {n c d : Nat} {x y z : Nat → Int32} {post : Int32 → Prop} (hn : n ≤ 5) (hc : c < 5) (hd : d < 6) (h : post (eN (cBy n x y z c d) n (-1))) : wp_X4_cubeFrom (nI n) x y z (nI c) (nI d) post := by
  unfold wp_X4_cubeFrom
  have h1 : vp_in (nI c) 5 := vp_in_nI hc (by omega)
  have h2 : vp_in (nI d) 6 := vp_in_nI hd (by omega)
  rw [nI_clamp (show c < 2 ^ 31 by omega), nI_clamp (show d < 2 ^ 31 by omega)]
  exact ⟨h1, h2, h1, h2, h1, h2, X4_cubeAt_ok hn h⟩
theorem X8_stepX_ok : ∀ d, d < 6 → ∀ {post : Int32 → Prop}, post (q_STEP_X d) → wp_X8_stepX (nI d) post := by
  intro d hd post h
  rcases (show d = 0 ∨ d = 1 ∨ d = 2 ∨ d = 3 ∨ d = 4 ∨ d = 5 by omega) with rfl | rfl | rfl | rfl | rfl | rfl <;> simpa +decide [wp_X8_stepX, q_STEP_X] using h
theorem X8_stepY_ok : ∀ d, d < 6 → ∀ {post : Int32 → Prop}, post (q_STEP_Y d) → wp_X8_stepY (nI d) post := by
  intro d hd post h
  rcases (show d = 0 ∨ d = 1 ∨ d = 2 ∨ d = 3 ∨ d = 4 ∨ d = 5 by omega) with rfl | rfl | rfl | rfl | rfl | rfl <;> simpa +decide [wp_X8_stepY, q_STEP_Y] using h
theorem X8_stepZ_ok : ∀ d, d < 6 → ∀ {post : Int32 → Prop}, post (q_STEP_Z d) → wp_X8_stepZ (nI d) post := by
  intro d hd post h
  rcases (show d = 0 ∨ d = 1 ∨ d = 2 ∨ d = 3 ∨ d = 4 ∨ d = 5 by omega) with rfl | rfl | rfl | rfl | rfl | rfl <;> simpa +decide [wp_X8_stepZ, q_STEP_Z] using h
theorem X8_cubeBeside_ok {n c d : Nat} {x y z : Nat → Int32} {post : Int32 → Prop} (hn : n ≤ 5) (hc : c < 5) (hd : d < 6) (h : post (eN (cBy n x y z c d) n (-9))) : wp_X8_cubeBeside (nI n) x y z (nI c) (nI d) post := by
  unfold wp_X8_cubeBeside
  have h1 : vp_in (nI c) 5 := vp_in_nI hc (by omega)
  rw [nI_clamp (show c < 2 ^ 31 by omega)]
  exact ⟨h1, X8_stepX_ok d hd ⟨h1, X8_stepY_ok d hd ⟨h1, X8_stepZ_ok d hd (X8_cubeAt_ok hn h)⟩⟩⟩
/-- faces: place k stands for cube k / 6, direction k % 6 -/
def fP (n : Nat) (x y z : Nat → Int32) (k : Nat) : Prop := ¬ cBy n x y z (k / 6) (k % 6) < n
noncomputable def fN (n : Nat) (x y z : Nat → Int32) (k : Nat) : Nat := cnt (fP n x y z) k
/-- the tables of faces, up to place N -/
def FT (n : Nat) (x y z : Nat → Int32) (N : Nat) (co lo : Nat → Int32) : Prop := ∀ k, k < N → fP n x y z k → co (fN n x y z k) = nI (k / 6) ∧ lo (fN n x y z k) = nI (k % 6)
theorem FT_add {n : Nat} {x y z : Nat → Int32} {N : Nat} {co lo : Nat → Int32} (h : FT n x y z N co lo) (hP : fP n x y z N) : FT n x y z (N + 1) (upd co (fN n x y z N) (nI (N / 6))) (upd lo (fN n x y z N) (nI (N % 6))) := by
  intro k hk hf
  by_cases e : k = N
  · subst e
    exact ⟨pk_us, pk_us⟩
  · have hl : fN n x y z k ≠ fN n x y z N := Nat.ne_of_lt (cnt_lt (by omega) hf)
    rw [pk_un hl, pk_un hl]
    exact h k (by omega) hf
theorem FT_skip {n : Nat} {x y z : Nat → Int32} {N : Nat} {co lo : Nat → Int32} (h : FT n x y z N co lo) (hP : ¬ fP n x y z N) : FT n x y z (N + 1) co lo := by
  intro k hk hf
  by_cases e : k = N
  · subst e
    exact absurd hf hP
  · exact h k (by omega) hf
set_option maxHeartbeats 1000000 in
theorem X4_numberFaces_ok {n : Nat} {x y z co fo lo : Nat → Int32} {f0 : Int32} {post : Int32 → (Nat → Int32) → (Nat → Int32) → (Nat → Int32) → Prop} (hn : n ≤ 5) (hF : fN n x y z (n * 6) ≤ 22)
    (h : ∀ co fo lo : Nat → Int32, FT n x y z (n * 6) co lo → (∀ k, k < n * 6 → fP n x y z k → fo k = nI (fN n x y z k)) → post (nI (fN n x y z (n * 6))) co fo lo) : wp_X4_numberFaces (nI n) f0 co fo lo x y z post := by
  unfold wp_X4_numberFaces
  refine Lp_for (S := Int32 × (Nat → Int32) × (Nat → Int32) × (Nat → Int32)) n (fun c v => v.1 = nI (fN n x y z (c * 6)) ∧ FT n x y z (c * 6) v.2.1 v.2.2.2 ∧ ∀ k, k < c * 6 → fP n x y z k → v.2.2.1 k = nI (fN n x y z k)) (by omega) ?_ 0 (0, co, fo, lo) (Nat.zero_le _) ⟨rfl, fun k hk => absurd hk (by omega), fun k hk => absurd hk (by omega)⟩
  rintro c ⟨vf, co, fo, lo⟩ kb hc ⟨e1, h2, h3⟩ hk
  dsimp only at e1 h2 h3
  subst e1
  dsimp only [wl_X4_numberFaces_7, wb_X4_numberFaces_7]
  refine pk_le n c (fun hq => ?_) (fun hq => ?_)
  · obtain rfl : c = n := by omega
    exact h co fo lo h2 h3
  · refine Lp_for (S := Int32 × (Nat → Int32) × (Nat → Int32) × (Nat → Int32)) 6 (fun d v => v.1 = nI (fN n x y z (c * 6 + d)) ∧ FT n x y z (c * 6 + d) v.2.1 v.2.2.2 ∧ ∀ k, k < c * 6 + d → fP n x y z k → v.2.2.1 k = nI (fN n x y z k)) (by omega) ?_ 0 (nI (fN n x y z (c * 6)), co, fo, lo) (Nat.zero_le _) ⟨rfl, h2, h3⟩
    rintro d ⟨vf, co, fo, lo⟩ kb2 hd ⟨e1, h2, h3⟩ hk2
    dsimp only at e1 h2 h3
    subst e1
    dsimp only [wl_X4_numberFaces_17, wb_X4_numberFaces_17]
    refine pk_le 6 d (fun hq2 => ?_) (fun hq2 => ?_)
    · obtain rfl : d = 6 := by omega
      rw [nI_1]
      exact hk (nI (fN n x y z (c * 6 + 6)), co, fo, lo) hq ⟨by rw [show (c + 1) * 6 = c * 6 + 6 by omega], by rw [show (c + 1) * 6 = c * 6 + 6 by omega]; exact h2, by rw [show (c + 1) * 6 = c * 6 + 6 by omega]; exact h3⟩
    · refine X4_cubeFrom_ok hn (by omega) hq2 ?_
      have hm : (c * 6 + d) / 6 = c ∧ (c * 6 + d) % 6 = d := by omega
      rw [nI_1, ix6]
      by_cases hh : cBy n x y z c d < n
      · rw [eN_t hh]
        have hnf : ¬ fP n x y z (c * 6 + d) := by unfold fP; rw [hm.1, hm.2]; exact fun q => q hh
        refine ⟨fun _ => hk2 (nI (fN n x y z (c * 6 + d)), co, fo, lo) hq2 ⟨?_, FT_skip h2 hnf, ?_⟩, fun q => absurd (nI_pos' (by omega)) q⟩
        · rw [fN, fN, show c * 6 + (d + 1) = c * 6 + d + 1 by omega, cnt_f hnf]
        · intro k hk hf
          by_cases e : k = c * 6 + d
          · subst e; exact absurd hf hnf
          · exact h3 k (by omega) hf
      · rw [eN_f hh]
        have hf : fP n x y z (c * 6 + d) := by unfold fP; rw [hm.1, hm.2]; exact hh
        have hlt : fN n x y z (c * 6 + d) < fN n x y z (n * 6) := cnt_lt (by omega) hf
        have hv : vp_in (nI (fN n x y z (c * 6 + d))) 22 := vp_in_nI (by omega) (by omega)
        refine ⟨fun q => absurd q (by decide), fun _ => ⟨vp_in_nI (by omega) (by omega), hv, hv, ?_⟩⟩
        rw [nI_clamp (show fN n x y z (c * 6 + d) < 2 ^ 31 by omega), nI_clamp (show c * 6 + d < 2 ^ 31 by omega), nI_1]
        refine hk2 (nI (fN n x y z (c * 6 + d) + 1), upd co (fN n x y z (c * 6 + d)) (nI c), upd fo (c * 6 + d) (nI (fN n x y z (c * 6 + d))), upd lo (fN n x y z (c * 6 + d)) (nI d)) hq2 ⟨?_, ?_, ?_⟩
        · rw [fN, fN, show c * 6 + (d + 1) = c * 6 + d + 1 by omega, cnt_t hf]
        · have := FT_add h2 hf
          rw [hm.1, hm.2] at this
          exact this
        · intro k hk hf2
          by_cases e : k = c * 6 + d
          · subst e; exact pk_us
          · show upd fo _ _ k = _
            rw [pk_un e]; exact h3 k (by omega) hf2
