-- PURE 19: a cube more; how many faces
theorem cnt_blk {P : Nat → Prop} {a : Nat} : ∀ {m : Nat}, (∃ d, d < m ∧ ¬ P (a + d)) → cnt P (a + m) + 1 ≤ cnt P a + m := by
  intro m
  induction m with
  | zero => rintro ⟨d, d1, -⟩; omega
  | succ m ih =>
    rintro ⟨d, d1, d2⟩
    have s := cnt_s (P := P) (a + m)
    by_cases e : d = m
    · subst e
      rw [show a + (d + 1) = a + d + 1 by omega, cnt_f d2]
      have : ∀ b, cnt P (a + b) ≤ cnt P a + b := by
        intro b
        induction b with
        | zero => exact Nat.le_refl _
        | succ b ih2 => have := (cnt_s (P := P) (a + b)).2; rw [show a + (b + 1) = a + b + 1 by omega]; omega
      have := this d
      omega
    · have := ih ⟨d, by omega, d2⟩
      rw [show a + (m + 1) = a + m + 1 by omega]
      omega
theorem i3c (a b : Int32) : a + b + -b = a := by rw [Int32.add_assoc, Int32.add_right_neg, Int32.add_zero]
theorem i3d (a b : Int32) : a + -b + b = a := by rw [Int32.add_assoc, Int32.add_left_neg, Int32.add_zero]
/-- near enough -/
def nrC (n : Nat) (x y z : Nat → Int32) (px py pz : Int32) : Prop := ∃ d, d < 6 ∧ cAt n x y z (px + q_STEP_X d) (py + q_STEP_Y d) (pz + q_STEP_Z d) < n
theorem pAt_upd {n c : Nat} {x y z : Nat → Int32} {a b e px py pz : Int32} (h : c ≠ n) : pAt (upd x n px) (upd y n py) (upd z n pz) a b e c ↔ pAt x y z a b e c := by
  unfold pAt
  rw [pk_un h, pk_un h, pk_un h]
theorem fN_add {n : Nat} {x y z : Nat → Int32} {px py pz : Int32} (hn : 1 ≤ n) (hB : fN n x y z (n * 6) ≤ 4 * n + 2) (hfree : ¬ cAt n x y z px py pz < n) (hnr : nrC n x y z px py pz) : fN (n + 1) (upd x n px) (upd y n py) (upd z n pz) ((n + 1) * 6) ≤ 4 * (n + 1) + 2 := by
  obtain ⟨d, hd, hc⟩ := hnr
  obtain ⟨⟨c1, c2, c3⟩, -⟩ := lf_lt hc
  generalize hcc : lf (pAt x y z (px + q_STEP_X d) (py + q_STEP_Y d) (pz + q_STEP_Z d)) n = c at c1 c2 c3
  have hcn : c < n := by rw [← hcc]; exact hc
  have hod := op_lt d
  have blk : cnt (fP (n + 1) (upd x n px) (upd y n py) (upd z n pz)) (n * 6 + 6) + 1 ≤ cnt (fP (n + 1) (upd x n px) (upd y n py) (upd z n pz)) (n * 6) + 6 := by
    refine cnt_blk ⟨d, hd, fun q => q ?_⟩
    rw [show (n * 6 + d) / 6 = n by omega, show (n * 6 + d) % 6 = d by omega]
    refine lf_ex ⟨c, by omega, ?_⟩
    rw [pAt_upd (by omega), pk_us, pk_us, pk_us]
    exact ⟨c1, c2, c3⟩
  have old : cnt (fP (n + 1) (upd x n px) (upd y n py) (upd z n pz)) (n * 6) + 1 ≤ cnt (fP n x y z) (n * 6) := by
    refine cnt_sub1 (k0 := c * 6 + op d) (fun k hk hP hQ => hP ?_) (by omega) ?_ ?_
    · obtain ⟨⟨e1, e2, e3⟩, -⟩ := lf_lt hQ
      refine lf_ex ⟨_, Nat.lt_succ_of_lt hQ, ?_⟩
      rw [pAt_upd (Nat.ne_of_lt hQ), pk_un (by omega), pk_un (by omega), pk_un (by omega)]
      exact ⟨e1, e2, e3⟩
    · intro q
      rw [show (c * 6 + op d) / 6 = c by omega, show (c * 6 + op d) % 6 = op d by omega] at q
      refine hfree (lf_ex ⟨_, q, ?_⟩)
      obtain ⟨e1, e2, e3⟩ := cBy_lt q
      rw [c1, stepX_op d hd, i3c] at e1
      rw [c2, stepY_op d hd, i3c] at e2
      rw [c3, stepZ_op d hd, i3c] at e3
      exact ⟨e1, e2, e3⟩
    · intro q
      refine q ?_
      rw [show (c * 6 + op d) / 6 = c by omega, show (c * 6 + op d) % 6 = op d by omega]
      refine lf_ex ⟨n, by omega, ?_⟩
      unfold pAt
      rw [pk_us, pk_us, pk_us, pk_un (by omega), pk_un (by omega), pk_un (by omega), c1, c2, c3, stepX_op d hd, stepY_op d hd, stepZ_op d hd, i3c, i3c, i3c]
      exact ⟨rfl, rfl, rfl⟩
  unfold fN at hB ⊢
  rw [show (n + 1) * 6 = n * 6 + 6 by omega]
  omega
/-- a solid has a face -/
theorem fN_pos {n : Nat} {x y z : Nat → Int32} (hn : 1 ≤ n) (hx : ∀ c, c < n → 0 ≤ (x c).toInt ∧ (x c).toInt ≤ 4) : 1 ≤ fN n x y z (n * 6) := by
  obtain ⟨c, c1, c2⟩ := lsI_ex (r := x) hn
  have hP : fP n x y z (c * 6 + 1) := by
    intro q
    rw [show (c * 6 + 1) / 6 = c by omega, show (c * 6 + 1) % 6 = 1 by omega] at q
    obtain ⟨⟨e1, -, -⟩, -⟩ := lf_lt q
    have a := lsI_le (r := x) _ q
    have b := hx c c1
    have e2 : (x c + q_STEP_X 1).toInt = (x c).toInt - 1 := by
      have e3 : (q_STEP_X 1).toInt = -1 := by decide
      rw [tadd] <;> omega
    have e4 : (x (cBy n x y z c 1)).toInt = (x c).toInt - 1 := by rw [← e2]; exact congrArg Int32.toInt e1
    have e5 : (lsI x n).toInt ≤ (x (cBy n x y z c 1)).toInt := a
    rw [e4, c2] at e5
    omega
  have := cnt_lt (P := fP n x y z) (show c * 6 + 1 < n * 6 by omega) hP
  unfold fN
  omega
theorem X4_canJoin_ok {n : Nat} {x y z : Nat → Int32} {px py pz : Int32} {post : Int32 → Prop} (hn : n ≤ 5) (h1 : (n = 0 ∨ nrC n x y z px py pz) → post 1) (h0 : ¬ (n = 0 ∨ nrC n x y z px py pz) → post 0) : wp_X4_canJoin (nI n) x y z px py pz post := by
  have key : ∀ t0 : Int32, ((t0 = 1 ∧ n = 0) ∨ (t0 = 0 ∧ ¬ n = 0)) → wj_X4_canJoin_12 (nI n) x y z post px py pz t0 := by
    intro t0 ht
    unfold wj_X4_canJoin_12
    refine Lp_of (fun s => ∃ d, d ≤ 6 ∧ s.2 = nI d ∧ ((s.1 = 1 ∧ (n = 0 ∨ nrC n x y z px py pz)) ∨ (s.1 = 0 ∧ ¬ n = 0 ∧ ∀ k, k < d → ¬ cAt n x y z (px + q_STEP_X k) (py + q_STEP_Y k) (pz + q_STEP_Z k) < n))) (fun s => 6 - s.2.toNatClampNeg) (fun s kb hS hkb => ?_) _ ⟨0, by omega, rfl, ht.elim (fun q => Or.inl ⟨q.1, Or.inl q.2⟩) (fun q => Or.inr ⟨q.1, q.2, fun k hk => by omega⟩)⟩
    obtain ⟨s1, s2⟩ := s
    obtain ⟨d, hd, e2, hs⟩ := hS
    replace e2 : s2 = nI d := e2
    subst e2
    dsimp only [wl_X4_canJoin_17, wb_X4_canJoin_17]
    rcases hs with ⟨e1, hs⟩ | ⟨e1, hs, hk⟩
    · replace e1 : s1 = 1 := e1
      subst e1
      exact pk_le 6 d (fun _ => ⟨nb1, h1 hs⟩) (fun _ => ⟨fun _ => ⟨nb1, h1 hs⟩, fun q => absurd q (by decide)⟩)
    · replace e1 : s1 = 0 := e1
      subst e1
      refine pk_le 6 d (fun hle => ⟨nb0, h0 (fun q => q.elim hs (fun ⟨k, k1, k2⟩ => hk k (by omega) k2))⟩) (fun hlt => ⟨fun q => absurd rfl q, fun _ => ?_⟩)
      have hv : vp_in (nI d) 6 := vp_in_nI (by omega) (by omega)
      rw [nI_1, nI_clamp (show d < 2 ^ 31 by omega)]
      have hmu : (6 - (nI (d + 1)).toNatClampNeg) < 6 - (nI d).toNatClampNeg := by rw [nI_clamp (by omega), nI_clamp (by omega)]; omega
      refine ⟨hv, hv, hv, X4_cubeAt_ok hn ?_⟩
      by_cases c : cAt n x y z (px + q_STEP_X d) (py + q_STEP_Y d) (pz + q_STEP_Z d) < n
      · rw [eN_t c]
        exact ⟨fun q => absurd q (nI_pos (by omega)), fun _ => hkb _ ⟨d + 1, by omega, rfl, Or.inl ⟨rfl, Or.inr ⟨d, hlt, c⟩⟩⟩ hmu⟩
      · rw [eN_f c]
        exact ⟨fun _ => hkb _ ⟨d + 1, by omega, rfl, Or.inr ⟨rfl, hs, fun k hk2 => by
          by_cases e : k = d
          · subst e; exact c
          · exact hk k (by omega)⟩⟩ hmu, fun q => absurd (by decide) q⟩
  unfold wp_X4_canJoin
  have e : nI n = 0 ↔ n = 0 := nI_eq (b := 0) (by omega) (by omega)
  exact ⟨fun q => key 0 (Or.inr ⟨rfl, fun z => q (e.mpr z)⟩), fun q => key 1 (Or.inl ⟨rfl, e.mp q⟩)⟩
theorem X8_near_ok {n : Nat} {x y z : Nat → Int32} {px py pz t0 : Int32} {kx : Int32 → Prop} (hn : n ≤ 5) (ht : (t0 = 1 ∧ n = 0) ∨ (t0 = 0 ∧ ¬ n = 0)) (h1 : (n = 0 ∨ nrC n x y z px py pz) → kx 1) (h0 : ¬ (n = 0 ∨ nrC n x y z px py pz) → kx 0) : Lp (wl_X8_cube_46 (nI n) x y z px py pz kx) (t0, (0 : Int32)) := by
  refine Lp_of (fun s => ∃ d, d ≤ 6 ∧ s.2 = nI d ∧ ((s.1 = 1 ∧ (n = 0 ∨ nrC n x y z px py pz)) ∨ (s.1 = 0 ∧ ¬ n = 0 ∧ ∀ k, k < d → ¬ cAt n x y z (px + q_STEP_X k) (py + q_STEP_Y k) (pz + q_STEP_Z k) < n))) (fun s => 6 - s.2.toNatClampNeg) (fun s kb hS hkb => ?_) _ ⟨0, by omega, rfl, ht.elim (fun q => Or.inl ⟨q.1, Or.inl q.2⟩) (fun q => Or.inr ⟨q.1, q.2, fun k hk => by omega⟩)⟩
  obtain ⟨s1, s2⟩ := s
  obtain ⟨d, hd, e2, hs⟩ := hS
  replace e2 : s2 = nI d := e2
  subst e2
  dsimp only [wl_X8_cube_46, wb_X8_cube_46]
  have hmu : d < 6 → (6 - (nI (d + 1)).toNatClampNeg) < 6 - (nI d).toNatClampNeg := fun _ => by rw [nI_clamp (by omega), nI_clamp (by omega)]; omega
  rcases hs with ⟨e1, hs⟩ | ⟨e1, hs, hk⟩
  · replace e1 : s1 = 1 := e1
    subst e1
    refine pk_le 6 d (fun _ => h1 hs) (fun hlt => ⟨fun _ => ?_, fun q => absurd q (by decide)⟩)
    rw [nI_1]
    exact hkb _ ⟨d + 1, by omega, rfl, Or.inl ⟨rfl, hs⟩⟩ (hmu hlt)
  · replace e1 : s1 = 0 := e1
    subst e1
    refine pk_le 6 d (fun hle => h0 (fun q => q.elim hs (fun ⟨k, k1, k2⟩ => hk k (by omega) k2))) (fun hlt => ⟨fun q => absurd rfl q, fun _ => ?_⟩)
    rw [nI_1]
    refine X8_stepX_ok d hlt (X8_stepY_ok d hlt (X8_stepZ_ok d hlt (X8_cubeAt_ok hn ?_)))
    by_cases c : cAt n x y z (px + q_STEP_X d) (py + q_STEP_Y d) (pz + q_STEP_Z d) < n
    · rw [eN_t c]
      exact ⟨fun q => absurd q (nI_ne9 (by omega)), fun _ => hkb _ ⟨d + 1, by omega, rfl, Or.inl ⟨rfl, Or.inr ⟨d, hlt, c⟩⟩⟩ (hmu hlt)⟩
    · rw [eN_f c]
      exact ⟨fun _ => hkb _ ⟨d + 1, by omega, rfl, Or.inr ⟨rfl, hs, fun k hk2 => by
        by_cases e : k = d
        · subst e; exact c
        · exact hk k (by omega)⟩⟩ (hmu hlt), fun q => absurd rfl q⟩
-- within the room
def inR (p : Int32) : Prop := 0 ≤ p.toInt ∧ p.toInt ≤ 4
theorem lt0 {p : Int32} : p < 0 ↔ p.toInt < 0 := by rw [Int32.lt_iff_toInt_lt]; rfl
theorem le5 {p : Int32} : (5 : Int32) ≤ p ↔ 5 ≤ p.toInt := by rw [Int32.le_iff_toInt_le]; rfl
theorem lt4 {p : Int32} : (4 : Int32) < p ↔ 4 < p.toInt := by rw [Int32.lt_iff_toInt_lt]; rfl
theorem le4 {p : Int32} : p ≤ (4 : Int32) ↔ p.toInt ≤ 4 := by rw [Int32.le_iff_toInt_le]; rfl
theorem X7_inRoom_ok {p : Int32} {post : Int32 → Prop} (h1 : inR p → post 1) (h0 : ¬ inR p → post 0) : wp_X7_inRoom p post := by
  unfold wp_X7_inRoom
  rw [lt0, le5]
  unfold inR at h1 h0
  exact ⟨fun q => h0 (by omega), fun q => ⟨fun q2 => h0 (by omega), fun q2 => h1 (by omega)⟩⟩
-- wiped, begun anew
def pp1 (d : Nat) : Nat → Option PL := ppset (fun _ => none) 0 (some (0, 0, fr d, fu d))
def injP (pp : Nat → Option PL) : Prop := ∀ f g p q, pp f = some p → pp g = some q → p.1 = q.1 → p.2.1 = q.2.1 → f = g
theorem injP_del {pp : Nat → Option PL} {g : Nat} (h : injP pp) : injP (ppset pp g none) := by
  intro f k p q hp hq e1 e2
  by_cases c1 : f = g
  · subst c1; rw [ppset_s] at hp; cases hp
  · by_cases c2 : k = g
    · subst c2; rw [ppset_s] at hq; cases hq
    · rw [ppset_n c1] at hp; rw [ppset_n c2] at hq; exact h f k p q hp hq e1 e2
theorem X7_beginAnew_ok {N F d : Nat} {hp pp : Nat → Option PL} {hct nets work ended step fo ct : I3} {hhd hli hx hy laid hd li x y lo : Ar} {htk tk : Aw} {post : I3 → Ar → Aw → I3 → I3 → I3 → I3 → I3 → Ar → I3 → Ar → Ar → Aw → Ar → Ar → Prop} (hN : N ≤ 31) (hF : F ≤ 22) (hH : CS N hp hct hhd hli hx hy) (hC : CS 30 pp ct hd li x y) (hT : TK pp tk) (hI : injP pp) (hl : 1 ≤ F → lo 0 = nI d) (hd6 : d < 6)
    (h0 : F = 0 → ∀ (hli li : Ar) (htk tk : Aw), CS 0 (fun _ => none) 0 hhd hli hx hy → CS 0 (fun _ => none) 0 hd li x y → TK (fun _ => none) tk → post 0 hli htk 0 0 0 0 0 laid 0 hd li tk x y)
    (h1 : 1 ≤ F → ∀ (hli hd li x y : Ar) (htk tk : Aw), CS 0 (fun _ => none) 0 hhd hli hx hy → CS 30 (pp1 d) 1 hd li x y → TK (pp1 d) tk → post 0 hli htk 0 0 0 0 0 (upd laid 0 0) 1 hd li tk x y) :
    wp_X7_beginAnew hct hli htk hx hy nets work ended step fo laid ct hd li tk x y (nI F) lo post := by
  unfold wp_X7_beginAnew wp_X2_restart
  refine X3_wipe_ok (fun _ _ => True) hN hH trivial (fun _ _ _ _ _ _ _ _ => trivial) (fun hli htk hH2 _ => ?_)
  refine X3_wipe_ok (fun pp tk => TK pp tk ∧ injP pp) (by omega) hC ⟨hT, hI⟩ (fun pp tk f p hp s1 s2 hq => ⟨TK_del hq.1 hp hq.2 s1 s2, injP_del hq.2⟩) (fun li tk hC2 hT2 => ?_)
  refine pk_le F 0 (fun hle => h0 (by omega) _ _ _ _ hH2 hC2 hT2.1) (fun hlt => ?_)
  have hC3 : CS 30 (fun _ => none) 0 hd li x y := ⟨hC2.1, fun f p hp => (by cases hp), hC2.2.2⟩
  refine X3_putFirst_ok (f := 0) (d := d) hC3 (by omega) rfl (hl (by omega)) hd6 (fun hd li x y hC4 => ⟨vp_in_nI (n := 0) (by omega) (by omega), ?_⟩)
  exact h1 (by omega) _ _ _ _ _ _ _ hH2 hC4 (TK_add (p := (0, 0, fr d, fu d)) hT2.1 rfl (sm0 31) (sm0 31))
