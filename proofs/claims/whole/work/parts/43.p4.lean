-- PURE 4: the reference's solids
theorem nI_ne9 {k : Nat} (h : k < 2 ^ 31) : ¬ nI k = (-9 : Int32) := fun q => nI_pos h (by rw [q]; decide)
theorem nar0 : vp_nar .boolean (0 : Int32) = 0 := by decide
theorem nar1 : vp_nar .boolean (1 : Int32) = 1 := by decide
theorem cl0 : (0 : Int32).toNatClampNeg = 0 := by decide
theorem fN_30 {n : Nat} {x y z : Nat → Int32} (hn : n ≤ 5) : fN n x y z (n * 6) ≤ 30 := Nat.le_trans (cnt_le _) (by omega)
noncomputable def edg (n : Nat) (x y z : Nat → Int32) (c d e : Nat) : Nat := if cOver n x y z c e d < n then 2 else if cBy n x y z c e < n then 1 else 0
set_option maxHeartbeats 1000000 in
theorem X8_edge_ok {n : Nat} {x y z co lo : Nat → Int32} {k e : Nat} {post : Int32 → Prop} (hn : n ≤ 5) (hT : FT n x y z (n * 6) co lo) (hk : k < n * 6) (hf : fP n x y z k) (he : e < 6) (h : post (nI (edg n x y z (k / 6) (k % 6) e))) : wp_X8_edge (nI n) co x y z lo (nI (fN n x y z k)) (nI e) post := by
  have hlt : fN n x y z k < fN n x y z (n * 6) := cnt_lt hk hf
  have h30 := fN_30 (x := x) (y := y) (z := z) hn
  obtain ⟨e1, e2⟩ := hT k hk hf
  have hd : k % 6 < 6 := by omega
  have hv1 : vp_in (nI (fN n x y z k)) 30 := vp_in_nI (by omega) (by omega)
  have hv2 : vp_in (nI (k / 6)) 5 := vp_in_nI (by omega) (by omega)
  unfold wp_X8_edge
  rw [nI_clamp (show fN n x y z k < 2 ^ 31 by omega), e1, e2, nI_clamp (show k / 6 < 2 ^ 31 by omega)]
  refine ⟨hv1, hv1, hv2, X8_stepX_ok e he (X8_stepX_ok _ hd ⟨hv2, X8_stepY_ok e he (X8_stepY_ok _ hd ⟨hv2, X8_stepZ_ok e he (X8_stepZ_ok _ hd (X8_cubeAt_ok hn ?_))⟩)⟩)⟩
  rw [show cAt n x y z (x (k / 6) + q_STEP_X e + q_STEP_X (k % 6)) (y (k / 6) + q_STEP_Y e + q_STEP_Y (k % 6)) (z (k / 6) + q_STEP_Z e + q_STEP_Z (k % 6)) = cOver n x y z (k / 6) e (k % 6) from rfl]
  unfold edg at h
  by_cases h1 : cOver n x y z (k / 6) e (k % 6) < n
  · rw [if_pos h1] at h
    rw [eN_t h1]
    exact ⟨fun q => absurd q (nI_ne9 (by omega)), fun _ => h⟩
  · rw [if_neg h1] at h
    rw [eN_f h1]
    refine ⟨fun _ => X8_cubeBeside_ok hn (by omega) he ?_, fun q => absurd rfl q⟩
    by_cases h2 : cBy n x y z (k / 6) e < n
    · rw [if_pos h2] at h
      rw [eN_t h2]
      exact ⟨fun q => absurd q (nI_ne9 (by omega)), fun _ => h⟩
    · rw [if_neg h2] at h
      rw [eN_f h2]
      exact ⟨fun _ => h, fun q => absurd rfl q⟩
theorem X8_faceOf_ok {n : Nat} {x y z co lo : Nat → Int32} {c d : Nat} {post : Int32 → Prop} (hn : n ≤ 5) (hT : FT n x y z (n * 6) co lo) (hk : c * 6 + d < n * 6) (hd : d < 6) (hf : fP n x y z (c * 6 + d)) (h : post (nI (fN n x y z (c * 6 + d)))) : wp_X8_faceOf (nI (fN n x y z (n * 6))) co lo (nI c) (nI d) post := by
  have hlt : fN n x y z (c * 6 + d) < fN n x y z (n * 6) := cnt_lt hk hf
  have h30 := fN_30 (x := x) (y := y) (z := z) hn
  unfold wp_X8_faceOf
  refine Lp_for0 (fN n x y z (n * 6)) (fun i => i ≤ fN n x y z (c * 6 + d)) (by omega) ?_ 0 (Nat.zero_le _) (Nat.zero_le _)
  intro i kb hi hI hk2
  dsimp only [wl_X8_faceOf_2, wb_X8_faceOf_2]
  refine pk_le (fN n x y z (n * 6)) i (fun hq => absurd hI (by omega)) (fun hq => ?_)
  have hv : vp_in (nI i) 30 := vp_in_nI (by omega) (by omega)
  obtain ⟨k, k1, k2, k3⟩ := cnt_sur (P := fP n x y z) hq
  obtain ⟨e1, e2⟩ := hT k k1 k2
  change co (cnt (fP n x y z) k) = _ at e1
  change lo (cnt (fP n x y z) k) = _ at e2
  rw [k3] at e1 e2
  rw [nI_clamp (by omega), nI_1, e1, e2]
  have hq1 : nI (k / 6) = nI c ↔ k / 6 = c := nI_eq (by omega) (by omega)
  have hq2 : nI (k % 6) = nI d ↔ k % 6 = d := nI_eq (by omega) (by omega)
  have hne : ¬ (k / 6 = c ∧ k % 6 = d) → i + 1 ≤ fN n x y z (c * 6 + d) := by
    intro hh
    have : i ≠ fN n x y z (c * 6 + d) := by
      intro q
      have := cnt_inj k2 hf (k3.trans q)
      exact hh (by omega)
    omega
  refine ⟨hv, fun g1 => hk2 hq (hne (fun q => g1 (hq1.mpr q.1))), fun g1 => ⟨hv, fun g2 => hk2 hq (hne (fun q => g2 (hq2.mpr q.2))), fun g2 => ?_⟩⟩
  have : k = c * 6 + d := by have := hq1.mp g1; have := hq2.mp g2; omega
  subst this
  rw [← k3]
  exact h
set_option maxHeartbeats 1000000 in
theorem X8_found_ok {n : Nat} {x y z co lo : Nat → Int32} {k e : Nat} {post : Int32 → Prop} (hn : n ≤ 5) (hT : FT n x y z (n * 6) co lo) (hk : k < n * 6) (hf : fP n x y z k) (he : e < 6) (h : post (nI (fN n x y z (nbK n x y z (k / 6) (k % 6) e)))) : wp_X8_found (nI n) (nI (fN n x y z (n * 6))) co x y z lo (nI (fN n x y z k)) (nI e) post := by
  have hlt : fN n x y z k < fN n x y z (n * 6) := cnt_lt hk hf
  have h30 := fN_30 (x := x) (y := y) (z := z) hn
  obtain ⟨e1, e2⟩ := hT k hk hf
  have hd : k % 6 < 6 := by omega
  have hv1 : vp_in (nI (fN n x y z k)) 30 := vp_in_nI (by omega) (by omega)
  have hv2 : vp_in (nI (k / 6)) 5 := vp_in_nI (by omega) (by omega)
  obtain ⟨g1, g2⟩ := nbK_ok (e := e) (show k / 6 < n by omega) hd he hf
  unfold wp_X8_found
  rw [nI_clamp (show fN n x y z k < 2 ^ 31 by omega), e1, e2, nI_clamp (show k / 6 < 2 ^ 31 by omega)]
  refine ⟨hv1, hv1, X8_edge_ok hn hT hk hf he ?_⟩
  unfold edg
  unfold nbK at h g1 g2
  by_cases h1 : cOver n x y z (k / 6) e (k % 6) < n
  · rw [if_pos h1] at h g1 g2 ⊢
    refine ⟨fun q => absurd rfl q, fun _ => ⟨hv2, X8_stepX_ok e he (X8_stepX_ok _ hd ⟨hv2, X8_stepY_ok e he (X8_stepY_ok _ hd ⟨hv2, X8_stepZ_ok e he (X8_stepZ_ok _ hd (X8_cubeAt_ok hn ?_))⟩)⟩)⟩⟩
    rw [show cAt n x y z (x (k / 6) + q_STEP_X e + q_STEP_X (k % 6)) (y (k / 6) + q_STEP_Y e + q_STEP_Y (k % 6)) (z (k / 6) + q_STEP_Z e + q_STEP_Z (k % 6)) = cOver n x y z (k / 6) e (k % 6) from rfl, eN_t h1, op_x e he]
    exact X8_faceOf_ok hn hT g1 (op_lt e) g2 h
  · rw [if_neg h1] at h g1 g2 ⊢
    by_cases h2 : cBy n x y z (k / 6) e < n
    · rw [if_pos h2] at h g1 g2 ⊢
      refine ⟨fun _ => ⟨fun q => absurd rfl q, fun _ => X8_cubeBeside_ok hn (by omega) he ?_⟩, fun q => absurd q (by decide)⟩
      rw [eN_t h2]
      exact X8_faceOf_ok hn hT g1 hd g2 h
    · rw [if_neg h2] at h g1 g2 ⊢
      refine ⟨fun _ => ⟨fun _ => ?_, fun q => absurd q (by decide)⟩, fun q => absurd q (by decide)⟩
      exact X8_faceOf_ok hn hT g1 he g2 h
theorem X8_led_ok {n : Nat} {x y z co lo : Nat → Int32} {k e : Nat} {post : Int32 → Prop} (hn : n ≤ 5) (hT : FT n x y z (n * 6) co lo) (hk : k < n * 6) (hf : fP n x y z k) (he : e < 6) (h : post (nI (onS n x y z (k / 6) (k % 6) e))) : wp_X8_led (nI n) co x y z lo (nI (fN n x y z k)) (nI e) post := by
  have hlt : fN n x y z k < fN n x y z (n * 6) := cnt_lt hk hf
  have h30 := fN_30 (x := x) (y := y) (z := z) hn
  obtain ⟨e1, e2⟩ := hT k hk hf
  have hd : k % 6 < 6 := by omega
  have hv1 : vp_in (nI (fN n x y z k)) 30 := vp_in_nI (by omega) (by omega)
  unfold wp_X8_led
  refine X8_edge_ok hn hT hk hf he ?_
  rw [nI_clamp (show fN n x y z k < 2 ^ 31 by omega), e2]
  unfold edg
  unfold onS at h
  by_cases h1 : cOver n x y z (k / 6) e (k % 6) < n
  · rw [if_pos h1] at h ⊢
    exact ⟨fun q => absurd rfl q, fun _ => ⟨hv1, h⟩⟩
  · rw [if_neg h1] at h ⊢
    by_cases h2 : cBy n x y z (k / 6) e < n
    · rw [if_pos h2] at h ⊢
      exact ⟨fun _ => ⟨fun q => absurd rfl q, fun _ => h⟩, fun q => absurd q (by decide)⟩
    · rw [if_neg h2] at h ⊢
      rw [op_x _ hd]
      exact ⟨fun _ => ⟨fun _ => ⟨hv1, h⟩, fun q => absurd q (by decide)⟩, fun q => absurd q (by decide)⟩
theorem X8_firstRight_ok : ∀ d, d < 6 → ∀ {post : Int32 → Prop}, post (q_FIRST_RIGHT d) → wp_X8_firstRight (nI d) post := by
  intro d hd post h
  rcases (show d = 0 ∨ d = 1 ∨ d = 2 ∨ d = 3 ∨ d = 4 ∨ d = 5 by omega) with rfl | rfl | rfl | rfl | rfl | rfl <;> simpa +decide [wp_X8_firstRight, q_FIRST_RIGHT] using h
theorem X8_firstUp_ok : ∀ d, d < 6 → ∀ {post : Int32 → Prop}, post (q_FIRST_UP d) → wp_X8_firstUp (nI d) post := by
  intro d hd post h
  rcases (show d = 0 ∨ d = 1 ∨ d = 2 ∨ d = 3 ∨ d = 4 ∨ d = 5 by omega) with rfl | rfl | rfl | rfl | rfl | rfl <;> simpa +decide [wp_X8_firstUp, q_FIRST_UP] using h
set_option maxHeartbeats 2000000 in
theorem X8_anew_ok {n : Nat} {x y z : Nat → Int32} {f0 a1 a2 a3 a4 a5 a6 a7 : Int32} {atX atY ch co has le li lo nx od ri up : Nat → Int32} {post : Int32 → Int32 → Int32 → Int32 → Int32 → Int32 → Int32 → Int32 → (Nat → Int32) → (Nat → Int32) → (Nat → Int32) → (Nat → Int32) → (Nat → Int32) → (Nat → Int32) → (Nat → Int32) → (Nat → Int32) → (Nat → Int32) → (Nat → Int32) → (Nat → Int32) → (Nat → Int32) → Prop} (hn : n ≤ 5)
    (h0 : fN n x y z (n * 6) = 0 → ∀ co has le li lo nx : Nat → Int32, FT n x y z (n * 6) co lo → ET n x y z (fN n x y z (n * 6)) 0 nx le → (∀ j, j < 30 → has j = 0) → (∀ j, j < 30 → li j = 0) → post (nI 0) 0 0 0 0 0 0 (-9) atX atY ch co has le li lo nx od ri up)
    (h1 : ∀ k, k < n * 6 → fP n x y z k → fN n x y z k = 0 → ∀ co has le li lo nx : Nat → Int32, FT n x y z (n * 6) co lo → ET n x y z (fN n x y z (n * 6)) 0 nx le → (∀ j, j < 30 → has j = 0) → (∀ j, j < 30 → li j = 0) → post (nI (fN n x y z (n * 6))) 0 1 0 0 0 0 (-9) (upd atX 0 0) (upd atY 0 0) (upd ch 0 (-9)) co (upd has 0 1) le li lo nx (upd od 0 0) (upd ri 0 (q_FIRST_RIGHT (k % 6))) (upd up 0 (q_FIRST_UP (k % 6)))) :
    wp_X8_anew (nI n) f0 a1 a2 a3 a4 a5 a6 a7 atX atY ch co x y z has le li lo nx od ri up post := by
  have h30 := fN_30 (x := x) (y := y) (z := z) hn
  unfold wp_X8_anew
  refine Lp_for (S := (Nat → Int32) × (Nat → Int32)) 30 (fun i v => (∀ j, j < i → v.1 j = 0) ∧ ∀ j, j < i → v.2 j = 0) (by omega) ?_ 0 (has, li) (Nat.zero_le _) ⟨fun j hj => absurd hj (Nat.not_lt_zero _), fun j hj => absurd hj (Nat.not_lt_zero _)⟩
  rintro i ⟨has, li⟩ kb hi ⟨z1, z2⟩ hk
  dsimp only at z1 z2
  dsimp only [wl_X8_anew_7, wb_X8_anew_7]
  refine pk_le 30 i (fun hq => ?_) (fun hq => ?_)
  rotate_left
  · have hv : vp_in (nI i) 30 := vp_in_nI (by omega) (by omega)
    rw [nI_clamp (by omega), nI_1, nar0]
    refine ⟨hv, hv, hk (upd has i 0, upd li i 0) hq ⟨fun j hj => ?_, fun j hj => ?_⟩⟩
    · by_cases q : j = i
      · subst q; exact pk_us
      · show upd has i 0 j = 0
        rw [pk_un q]; exact z1 j (by omega)
    · by_cases q : j = i
      · subst q; exact pk_us
      · show upd li i 0 j = 0
        rw [pk_un q]; exact z2 j (by omega)
  obtain rfl : i = 30 := by omega
  clear hk kb
  refine Lp_for (S := Int32 × (Nat → Int32) × (Nat → Int32)) n (fun c v => v.1 = nI (fN n x y z (c * 6)) ∧ FT n x y z (c * 6) v.2.1 v.2.2) (by omega) ?_ 0 (0, co, lo) (Nat.zero_le _) ⟨rfl, fun k hk => absurd hk (by omega)⟩
  rintro c ⟨vf, co, lo⟩ kb hc ⟨e1, h2⟩ hk
  dsimp only at e1 h2
  subst e1
  dsimp only [wl_X8_anew_40, wb_X8_anew_40]
  refine pk_le n c (fun hq => ?_) (fun hq => ?_)
  rotate_left
  · refine Lp_for (S := Int32 × (Nat → Int32) × (Nat → Int32)) 6 (fun d v => v.1 = nI (fN n x y z (c * 6 + d)) ∧ FT n x y z (c * 6 + d) v.2.1 v.2.2) (by omega) ?_ 0 (nI (fN n x y z (c * 6)), co, lo) (Nat.zero_le _) ⟨rfl, h2⟩
    rintro d ⟨vf, co, lo⟩ kb2 hd ⟨e1, h2⟩ hk2
    dsimp only at e1 h2
    subst e1
    dsimp only [wl_X8_anew_50, wb_X8_anew_50]
    refine pk_le 6 d (fun hq2 => ?_) (fun hq2 => ?_)
    · obtain rfl : d = 6 := by omega
      rw [nI_1]
      exact hk (nI (fN n x y z (c * 6 + 6)), co, lo) hq ⟨by rw [show (c + 1) * 6 = c * 6 + 6 by omega], by rw [show (c + 1) * 6 = c * 6 + 6 by omega]; exact h2⟩
    · refine X8_cubeBeside_ok hn (by omega) hq2 ?_
      have hm : (c * 6 + d) / 6 = c ∧ (c * 6 + d) % 6 = d := by omega
      rw [nI_1]
      by_cases hh : cBy n x y z c d < n
      · rw [eN_t hh]
        have hnf : ¬ fP n x y z (c * 6 + d) := by unfold fP; rw [hm.1, hm.2]; exact fun q => q hh
        refine ⟨fun _ => hk2 (nI (fN n x y z (c * 6 + d)), co, lo) hq2 ⟨?_, FT_skip h2 hnf⟩, fun q => absurd q (nI_ne9 (by omega))⟩
        rw [fN, fN, show c * 6 + (d + 1) = c * 6 + d + 1 by omega, cnt_f hnf]
      · rw [eN_f hh]
        have hf : fP n x y z (c * 6 + d) := by unfold fP; rw [hm.1, hm.2]; exact hh
        have hlt : fN n x y z (c * 6 + d) < fN n x y z (n * 6) := cnt_lt (by omega) hf
        have hv : vp_in (nI (fN n x y z (c * 6 + d))) 30 := vp_in_nI (by omega) (by omega)
        refine ⟨fun q => absurd rfl q, fun _ => ⟨hv, hv, ?_⟩⟩
        rw [nI_clamp (show fN n x y z (c * 6 + d) < 2 ^ 31 by omega), nI_1]
        refine hk2 (nI (fN n x y z (c * 6 + d) + 1), upd co (fN n x y z (c * 6 + d)) (nI c), upd lo (fN n x y z (c * 6 + d)) (nI d)) hq2 ⟨?_, ?_⟩
        · rw [fN, fN, show c * 6 + (d + 1) = c * 6 + d + 1 by omega, cnt_t hf]
        · have := FT_add h2 hf
          rw [hm.1, hm.2] at this
          exact this
  obtain rfl : c = n := by omega
  clear hk kb
  refine Lp_for (S := (Nat → Int32) × (Nat → Int32)) (fN c x y z (c * 6)) (fun f v => ET c x y z f 0 v.2 v.1) (by omega) ?_ 0 (le, nx) (Nat.zero_le _) (fun k2 e2 h1 h2 h3 h4 h5 => absurd h5 (by omega))
  rintro f ⟨le, nx⟩ kb hf hI hk
  dsimp only at hI
  dsimp only [wl_X8_anew_111, wb_X8_anew_111]
  refine pk_le (fN c x y z (c * 6)) f (fun hq => ?_) (fun hq => ?_)
  rotate_left
  · obtain ⟨k, k1, k2, rfl⟩ := cnt_sur hq
    refine Lp_for (S := (Nat → Int32) × (Nat → Int32)) 6 (fun e v => ET c x y z (fN c x y z k) e v.2 v.1) (by omega) ?_ 0 (le, nx) (Nat.zero_le _) hI
    rintro e ⟨le, nx⟩ kb2 he hI hk2
    dsimp only at hI
    dsimp only [wl_X8_anew_121, wb_X8_anew_121]
    refine pk_le 6 e (fun hq2 => ?_) (fun hq2 => ?_)
    · obtain rfl : e = 6 := by omega
      rw [nI_1]
      exact hk (le, nx) hq (ET_next hI)
    · have e2 := (h2 k k1 k2).2
      change lo (cnt (fP c x y z) k) = _ at e2
      refine ⟨vp_in_nI (by omega) (by omega), ?_⟩
      rw [nI_clamp (show cnt (fP c x y z) k < 2 ^ 31 by omega), e2, nI_1, ax_d e hq2, ax_d (k % 6) (by omega), ix6', nI_clamp (show cnt (fP c x y z) k * 6 + e < 2 ^ 31 by omega)]
      have hv : vp_in (nI (cnt (fP c x y z) k * 6 + e)) 180 := vp_in_nI (by omega) (by omega)
      refine pk_eq (e / 2) (k % 6 / 2) (fun ha => hk2 (le, nx) hq2 (ET_skip hI k2 ha)) (fun ha => ?_)
      exact X8_found_ok hn h2 k1 k2 hq2 ⟨hv, X8_led_ok hn h2 k1 k2 hq2 ⟨hv, hk2 (_, _) hq2 (ET_add hI k2 hq2)⟩⟩
  obtain rfl : f = fN c x y z (c * 6) := by omega
  clear hk kb
  refine pk_le (fN c x y z (c * 6)) 0 (fun hq3 => ?_) (fun hq3 => ?_)
  · have e0 : fN c x y z (c * 6) = 0 := by omega
    have := h0 e0 co has le li lo nx h2 hI z1 z2
    rw [← e0] at this
    exact this
  · obtain ⟨k, k1, k2, k3⟩ := cnt_sur (P := fP c x y z) hq3
    have e2 := (h2 k k1 k2).2
    change lo (cnt (fP c x y z) k) = _ at e2
    rw [k3] at e2
    have hv : vp_in (0 : Int32) 30 := vp_in_nI (n := 0) (by omega) (by omega)
    rw [cl0, e2, nar1]
    refine ⟨hv, hv, hv, hv, hv, hv, X8_firstRight_ok _ (by omega) ⟨hv, hv, X8_firstUp_ok _ (by omega) ⟨hv, ?_⟩⟩⟩
    exact h1 k k1 k2 k3 co has le li lo nx h2 hI z1 z2
