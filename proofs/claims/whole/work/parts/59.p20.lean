-- PURE 20: clear, cube
def SoI (n : Nat) (cx cy cz : Ar) (cu fa : I3) (be co lo ow : Ar) (mfa : I3) (mcf mlo mle mnx : Ar) : Prop :=
  n ≤ 5 ∧ cu = nI n ∧ fa = nI (fN n cx cy cz (n * 6)) ∧ mfa = nI (fN n cx cy cz (n * 6)) ∧ (∀ c, c < n → inR (cx c)) ∧ (1 ≤ n → fN n cx cy cz (n * 6) ≤ 4 * n + 2) ∧ TB (fN n cx cy cz (n * 6)) (lookS n cx cy cz) (nbS n cx cy cz) (onF n cx cy cz) lo be ow ∧ TB (fN n cx cy cz (n * 6)) (lookS n cx cy cz) (nbS n cx cy cz) (onF n cx cy cz) mlo mnx mle ∧ ∀ f, f < fN n cx cy cz (n * 6) → co f = nI (kF n cx cy cz f / 6) ∧ mcf f = nI (kF n cx cy cz f / 6)
theorem fN_0 {cx cy cz : Ar} : fN 0 cx cy cz (0 * 6) = 0 := rfl
theorem SoI_22 {n : Nat} {cx cy cz : Ar} {cu fa : I3} {be co lo ow : Ar} {mfa : I3} {mcf mlo mle mnx : Ar} (h : SoI n cx cy cz cu fa be co lo ow mfa mcf mlo mle mnx) : fN n cx cy cz (n * 6) ≤ 22 := by
  obtain ⟨h1, -, -, -, -, h6, -⟩ := h
  by_cases c : n = 0
  · subst c; rw [fN_0]; omega
  · have := h6 (by omega); omega
def ns0 (ns : NST) : NST := (0, (false, 0, 0, 0, (fun _ => 0), (fun _ => 0)), ns.2.2)
theorem handI_none {F : Nat} {look : Nat → Nat} {hhd hli hx hy mr mu mx my ml : Ar} (h : CS 0 (fun _ => none) 0 hhd hli hx hy) (hm : ∀ j, j < 30 → ml j = 0) : handI F look 0 hhd hli hx hy 0 mr mu mx my ml :=
  ⟨fun _ => none, 0, Or.inl rfl, h, fun f p hp => (by cases hp), fun f hf _ => hm f hf, fun f p hp => (by cases hp), (by rw [pN_none]; rfl)⟩
theorem CS_30 {hd li x y : Ar} (h : CS 0 (fun _ => none) 0 hd li x y) : CS 30 (fun _ => none) 0 hd li x y := ⟨h.1, fun f p hp => (by cases hp), h.2.2⟩
theorem SrI_sheet {F : Nat} {look : Nat → Nat} {B : Nat} {ac nets work ended step fo wi he no ct mco mst men mne mwo bw bh bn shs : I3} {im ix iy lm nu pl bx bY laid las hd li x y atX atY mbx mbY ch has od ri sr ss up : Ar} {tk : Aw} (h : SrI F look B ac im ix iy lm nu pl nets work ended step fo wi he no bx bY laid las ct hd li tk x y mco mst men mne mwo bw bh bn shs atX atY mbx mbY ch has od ri sr ss up) : ∃ pp, CS 30 pp ct hd li x y ∧ TK pp tk ∧ injP pp := by
  obtain ⟨ns, s1, s2, s3, s4, s5, s6⟩ := h
  rcases s6 with ⟨-, -, -, c1, c2⟩ | ⟨cn, stp, ord, cho, pp, en, hW, hSC, -⟩
  · exact ⟨_, c1, c2, fun f g p q hp => (by cases hp)⟩
  · exact ⟨pp, hSC.2.2.2.1, hSC.2.2.2.2, hW.2.2.2.2.2.2.2.1.2⟩
theorem SrI_anew0 {F : Nat} {look look2 : Nat → Nat} {B : Nat} {ac nets work ended step fo wi he no ct mco mst men mne mwo bw bh bn shs : I3} {im ix iy lm nu pl bx bY laid las hd li x y atX atY mbx mbY ch has od ri sr ss up : Ar} {tk : Aw} {laid2 hd2 li2 x2 y2 atX2 atY2 ch2 has2 od2 ri2 up2 : Ar} {tk2 : Aw} {mco2 mst2 : I3} (h : SrI F look B ac im ix iy lm nu pl nets work ended step fo wi he no bx bY laid las ct hd li tk x y mco mst men mne mwo bw bh bn shs atX atY mbx mbY ch has od ri sr ss up) (hC : CS 0 (fun _ => none) 0 hd2 li2 x2 y2) (hT : TK (fun _ => none) tk2) : SrI 0 look2 B ac im ix iy lm nu pl 0 0 0 0 0 wi he no bx bY laid2 las 0 hd2 li2 tk2 x2 y2 mco2 mst2 0 0 0 bw bh (-9) shs atX2 atY2 mbx mbY ch2 has2 od2 ri2 sr ss up2 := by
  obtain ⟨ns, s1, s2, s3, s4, s5, s6⟩ := h
  refine ⟨ns0 ns, ⟨rfl, s1.2.1, s1.2.2.1, rfl, fun q => (by cases q)⟩, ⟨rfl, s2.2.1, s2.2.2.1, fun q => (by cases q), fun _ => ⟨fun q => (by cases q), fun _ => rfl⟩⟩, s3, Nat.zero_le _, rfl, Or.inl ⟨rfl, rfl, rfl, CS_30 hC, hT⟩⟩
theorem pp1_s {d : Nat} : pp1 d 0 = some (0, 0, fr d, fu d) := ppset_s
theorem pp1_o {d f : Nat} {p : PL} (h : pp1 d f = some p) : f = 0 ∧ p = (0, 0, fr d, fu d) := by
  unfold pp1 at h
  by_cases e : f = 0
  · subst e; rw [ppset_s] at h; cases h; exact ⟨rfl, rfl⟩
  · rw [ppset_n e] at h; cases h
theorem SW_first {F d : Nat} {look : Nat → Nat} (hF : 1 ≤ F) (hl : look 0 = d) (hd : d < 6) : SW F look 1 0 (fun _ => 0) (fun _ => 0) (pp1 d) := by
  refine ⟨by omega, hF, by omega, fun k hk => ⟨_, pp1_s, sm0 k, sm0 k, fun q => by omega⟩, fun f p hp => ?_, fun j k hj hk _ => by omega, fun k k1 hk => by omega, ⟨fun f p hp => ?_, fun f g p q hp hq _ _ => ?_⟩, ?_⟩
  · obtain ⟨e1, e2⟩ := pp1_o hp
    subst e1 e2
    exact ⟨by omega, by rw [← hl] at hd ⊢; exact OR_first hd, 0, by omega, rfl⟩
  · obtain ⟨e1, e2⟩ := pp1_o hp
    subst e2
    exact ⟨sm0 31, sm0 31⟩
  · rw [(pp1_o hp).1, (pp1_o hq).1]
  · unfold pp1
    rw [pN_add (by omega) rfl, pN_none]
theorem SrI_anew1 {F F2 d : Nat} {look look2 : Nat → Nat} {B : Nat} {ac nets work ended step fo wi he no ct mco mst men mne mwo bw bh bn shs : I3} {im ix iy lm nu pl bx bY laid las hd li x y atX atY mbx mbY ch has od ri sr ss up : Ar} {tk : Aw} {hd2 li2 x2 y2 has2 : Ar} {tk2 : Aw} (hF : 1 ≤ F2) (hl : look2 0 = d) (hd6 : d < 6) (h : SrI F look B ac im ix iy lm nu pl nets work ended step fo wi he no bx bY laid las ct hd li tk x y mco mst men mne mwo bw bh bn shs atX atY mbx mbY ch has od ri sr ss up) (hC : CS 30 (pp1 d) 1 hd2 li2 x2 y2) (hT : TK (pp1 d) tk2) (hh : ∀ j, j < 30 → has2 j = 0) : SrI F2 look2 B ac im ix iy lm nu pl 0 0 0 0 0 wi he no bx bY (upd laid 0 0) las 1 hd2 li2 tk2 x2 y2 1 0 0 0 0 bw bh (-9) shs (upd atX 0 0) (upd atY 0 0) mbx mbY (upd ch 0 (-9)) (upd has2 0 1) (upd od 0 0) (upd ri 0 (q_FIRST_RIGHT d)) sr ss (upd up 0 (q_FIRST_UP d)) := by
  obtain ⟨ns, s1, s2, s3, s4, s5, s6⟩ := h
  refine ⟨ns0 ns, ⟨rfl, s1.2.1, s1.2.2.1, rfl, fun q => (by cases q)⟩, ⟨rfl, s2.2.1, s2.2.2.1, fun q => (by cases q), fun _ => ⟨fun q => (by cases q), fun _ => rfl⟩⟩, s3, Nat.zero_le _, rfl, Or.inr ⟨1, 0, fun _ => 0, fun _ => 0, pp1 d, false, SW_first hF hl hd6, ⟨rfl, fun k hk => ?_, fun k k1 hk => by omega, hC, hT⟩, ⟨rfl, rfl, fun k hk => ?_, fun k k1 hk => by omega, fun f hf hp => ?_, fun f p hp => ?_⟩, rfl, rfl⟩⟩
  · rw [show k = 0 by omega, pk_us]; rfl
  · rw [show k = 0 by omega, pk_us]; rfl
  · have e : f ≠ 0 := fun e => by rw [e, pp1_s] at hp; cases hp
    rw [pk_un e]; exact hh f hf
  · obtain ⟨e1, e2⟩ := pp1_o hp
    subst e1 e2
    rw [pk_us, pk_us, pk_us, pk_us, pk_us]
    exact ⟨rfl, rfl, rfl, fr_ok d hd6, fu_ok d hd6⟩
set_option maxHeartbeats 2000000 in
theorem op_clear {n : Nat} {B : Nat} {ac nets work ended step fo wi he no ct mco mst men mne mwo bw bh bn shs : I3} {im ix iy lm nu pl bx bY laid las hd li x y atX atY mbx mbY ch has od ri sr ss up : Ar} {tk : Aw} {hct mla : I3} {hhd hli hx hy mhr mhu mhx mhy mli : Ar} {htk : Aw} {cu fa mfa : I3} {cx cy cz be co lo ow mcf mlo mle mnx : Ar} (hSo : SoI n cx cy cz cu fa be co lo ow mfa mcf mlo mle mnx) (hH : handI (fN n cx cy cz (n * 6)) (lookS n cx cy cz) hct hhd hli hx hy mla mhr mhu mhx mhy mli) (hS : SrI (fN n cx cy cz (n * 6)) (lookS n cx cy cz) B ac im ix iy lm nu pl nets work ended step fo wi he no bx bY laid las ct hd li tk x y mco mst men mne mwo bw bh bn shs atX atY mbx mbY ch has od ri sr ss up)
    {post : I3 → I3 → Ar → Aw → I3 → I3 → I3 → I3 → I3 → Ar → I3 → Ar → Ar → Aw → Ar → Ar → I3 → I3 → I3 → I3 → I3 → I3 → I3 → I3 → I3 → I3 → I3 → I3 → Ar → Ar → Ar → Ar → Ar → Ar → Ar → Ar → Ar → Ar → Ar → Ar → Prop}
    (h : ∀ (r : I3) (hct nets work ended step fo ct cu fa mfa mla mco mst men mne mwo bn : I3) (hli laid hd li x y atX atY ch mcf has mle mli mlo mnx od ri up : Ar) (htk tk : Aw), SoI 0 cx cy cz cu fa be co lo ow mfa mcf mlo mle mnx → handI (fN 0 cx cy cz (0 * 6)) (lookS 0 cx cy cz) hct hhd hli hx hy mla mhr mhu mhx mhy mli → SrI (fN 0 cx cy cz (0 * 6)) (lookS 0 cx cy cz) B ac im ix iy lm nu pl nets work ended step fo wi he no bx bY laid las ct hd li tk x y mco mst men mne mwo bw bh bn shs atX atY mbx mbY ch has od ri sr ss up → post r hct hli htk nets work ended step fo laid ct hd li tk x y cu fa r cu mfa mla mco mst men mne mwo bn atX atY ch mcf has mle mli mlo mnx od ri up) :
    wp_X7_clear hct hli htk hx hy nets work ended step fo laid ct hd li tk x y cu fa lo (fun r hct hli htk nets work ended step fo laid ct hd li tk x y cu1 fa => wp_X8_clear cu mfa mla mco mst men mne mwo bn atX atY ch mcf cx cy cz has mle mli mlo mnx od ri up (fun r' cu2 mfa mla mco mst men mne mwo bn atX atY ch mcf has mle mli mlo mnx od ri up => post r hct hli htk nets work ended step fo laid ct hd li tk x y cu1 fa r' cu2 mfa mla mco mst men mne mwo bn atX atY ch mcf has mle mli mlo mnx od ri up)) := by
  obtain ⟨pp, c1, c2, c3⟩ := SrI_sheet hS
  obtain ⟨hp, N, hN, hHC, -, hMH⟩ := hH
  have hN31 : N ≤ 31 := by have := pN_le (pp := hp); omega
  unfold wp_X7_clear wp_X4_removeAll wp_X8_clear
  refine X7_beginAnew_ok (F := 0) (d := 0) hN31 (by omega) hHC c1 c2 c3 (fun q => by omega) (by omega) (fun _ hli li htk tk d1 d2 d3 => ?_) (fun q => by omega)
  refine X8_anew_ok (n := 0) (by omega) (fun _ mcf has mle mli mlo mnx hFT hET hhas hli => ?_) (fun k hk => by omega)
  refine h _ _ _ _ _ _ _ _ _ _ _ _ _ _ _ _ _ _ _ _ _ _ _ _ _ _ _ _ _ _ _ _ _ _ _ _ _ _ ⟨by omega, rfl, rfl, rfl, fun c hc => by omega, fun q => by omega, ⟨fun f hf => absurd hf (Nat.not_lt_zero _), fun f e hf => absurd hf (Nat.not_lt_zero _)⟩, ⟨fun f hf => absurd hf (Nat.not_lt_zero _), fun f e hf => absurd hf (Nat.not_lt_zero _)⟩, fun f hf => absurd hf (Nat.not_lt_zero _)⟩ (handI_none d1 hli) (SrI_anew0 hS d2 d3)
theorem X8_cube_out {cu mfa mla mco mst men mne mwo bn p1 p2 p3 : I3} {atX atY ch mcf cx cy cz has mle mli mlo mnx od ri up : Ar} {post : I3 → I3 → I3 → I3 → I3 → I3 → I3 → I3 → I3 → I3 → Ar → Ar → Ar → Ar → Ar → Ar → Ar → Ar → Ar → Ar → Ar → Ar → Ar → Ar → Ar → Prop} (hr : ¬ (inR p1 ∧ inR p2 ∧ inR p3)) (h : post (-1) cu mfa mla mco mst men mne mwo bn atX atY ch mcf cx cy cz has mle mli mlo mnx od ri up) : wp_X8_cube cu mfa mla mco mst men mne mwo bn atX atY ch mcf cx cy cz has mle mli mlo mnx od ri up p1 p2 p3 post := by
  unfold wp_X8_cube
  rw [lt0, lt4, lt0, lt4, lt0, le4]
  unfold inR at hr
  exact ⟨fun _ => h, fun q1 => ⟨fun _ => h, fun q2 => ⟨fun _ => h, fun q3 => ⟨fun _ => h, fun q4 => ⟨fun _ => h, fun q5 => ⟨fun q6 => absurd ⟨⟨by omega, by omega⟩, ⟨by omega, by omega⟩, ⟨by omega, by omega⟩⟩ hr, fun _ => h⟩⟩⟩⟩⟩⟩
theorem X8_cube_in {cu mfa mla mco mst men mne mwo bn p1 p2 p3 : I3} {atX atY ch mcf cx cy cz has mle mli mlo mnx od ri up : Ar} {post : I3 → I3 → I3 → I3 → I3 → I3 → I3 → I3 → I3 → I3 → Ar → Ar → Ar → Ar → Ar → Ar → Ar → Ar → Ar → Ar → Ar → Ar → Ar → Ar → Ar → Prop} (h1 : inR p1) (h2 : inR p2) (h3 : inR p3) (h : ∀ t0 : I3, ((t0 = 1 ∧ cu = 0) ∨ (t0 = 0 ∧ ¬ cu = 0)) → wj_X8_cube_41 post p1 p2 p3 cu mfa mla mco mst men mne mwo bn atX atY ch mcf cx cy cz has mle mli mlo mnx od ri up t0) : wp_X8_cube cu mfa mla mco mst men mne mwo bn atX atY ch mcf cx cy cz has mle mli mlo mnx od ri up p1 p2 p3 post := by
  unfold wp_X8_cube
  rw [lt0, lt4, lt0, lt4, lt0, le4]
  unfold inR at h1 h2 h3
  exact ⟨fun q => absurd q (by omega), fun _ => ⟨fun q => absurd q (by omega), fun _ => ⟨fun q => absurd q (by omega), fun _ => ⟨fun q => absurd q (by omega), fun _ => ⟨fun q => absurd q (by omega), fun _ => ⟨fun _ => ⟨fun q => h 0 (Or.inr ⟨rfl, q⟩), fun q => h 1 (Or.inl ⟨rfl, q⟩)⟩, fun q => absurd (by omega) q⟩⟩⟩⟩⟩⟩
set_option maxHeartbeats 4000000 in
theorem op_cube {n : Nat} {B : Nat} {ac nets work ended step fo wi he no ct mco mst men mne mwo bw bh bn shs : I3} {im ix iy lm nu pl bx bY laid las hd li x y atX atY mbx mbY ch has od ri sr ss up : Ar} {tk : Aw} {hct mla : I3} {hhd hli hx hy mhr mhu mhx mhy mli : Ar} {htk : Aw} {cu fa mfa : I3} {cx cy cz be co lo ow mcf mlo mle mnx : Ar} {fof : Ar} {p1 p2 p3 : I3} (hSo : SoI n cx cy cz cu fa be co lo ow mfa mcf mlo mle mnx) (hH : handI (fN n cx cy cz (n * 6)) (lookS n cx cy cz) hct hhd hli hx hy mla mhr mhu mhx mhy mli) (hS : SrI (fN n cx cy cz (n * 6)) (lookS n cx cy cz) B ac im ix iy lm nu pl nets work ended step fo wi he no bx bY laid las ct hd li tk x y mco mst men mne mwo bw bh bn shs atX atY mbx mbY ch has od ri sr ss up)
    {post : I3 → I3 → Ar → Aw → I3 → I3 → I3 → I3 → I3 → Ar → I3 → Ar → Ar → Aw → Ar → Ar → I3 → I3 → Ar → Ar → Ar → Ar → Ar → Ar → Ar → Ar → I3 → I3 → I3 → I3 → I3 → I3 → I3 → I3 → I3 → I3 → Ar → Ar → Ar → Ar → Ar → Ar → Ar → Ar → Ar → Ar → Ar → Ar → Ar → Ar → Ar → Prop}
    (h : ∀ (n : Nat) (r : I3) (hct nets work ended step fo ct cu fa mfa mla mco mst men mne mwo bn : I3) (hli laid hd li x y be co fof lo ow cx cy cz atX atY ch mcf has mle mli mlo mnx od ri up : Ar) (htk tk : Aw), SoI n cx cy cz cu fa be co lo ow mfa mcf mlo mle mnx → handI (fN n cx cy cz (n * 6)) (lookS n cx cy cz) hct hhd hli hx hy mla mhr mhu mhx mhy mli → SrI (fN n cx cy cz (n * 6)) (lookS n cx cy cz) B ac im ix iy lm nu pl nets work ended step fo wi he no bx bY laid las ct hd li tk x y mco mst men mne mwo bw bh bn shs atX atY mbx mbY ch has od ri sr ss up → post r hct hli htk nets work ended step fo laid ct hd li tk x y cu fa be co fof lo ow cx cy cz r cu mfa mla mco mst men mne mwo bn atX atY ch mcf cx cy cz has mle mli mlo mnx od ri up) :
    wp_X7_cube hct hli htk hx hy nets work ended step fo laid ct hd li tk x y cu fa be co fof lo ow cx cy cz p1 p2 p3 (fun r hct hli htk nets work ended step fo laid ct hd li tk x y cu1 fa be co fof lo ow cx1 cy1 cz1 => wp_X8_cube cu mfa mla mco mst men mne mwo bn atX atY ch mcf cx cy cz has mle mli mlo mnx od ri up p1 p2 p3 (fun r' cu2 mfa mla mco mst men mne mwo bn atX atY ch mcf cx2 cy2 cz2 has mle mli mlo mnx od ri up => post r hct hli htk nets work ended step fo laid ct hd li tk x y cu1 fa be co fof lo ow cx1 cy1 cz1 r' cu2 mfa mla mco mst men mne mwo bn atX atY ch mcf cx2 cy2 cz2 has mle mli mlo mnx od ri up)) := by
  obtain ⟨h5, rfl, e2, e3, hx5, hB4, hT1, hT2, hco⟩ := id hSo
  subst e2 e3
  have same : ∀ r, post r hct hli htk nets work ended step fo laid ct hd li tk x y (nI n) (nI (fN n cx cy cz (n * 6))) be co fof lo ow cx cy cz r (nI n) (nI (fN n cx cy cz (n * 6))) mla mco mst men mne mwo bn atX atY ch mcf cx cy cz has mle mli mlo mnx od ri up := fun r => h n r _ _ _ _ _ _ _ _ _ _ _ _ _ _ _ _ _ _ _ _ _ _ _ _ _ _ _ _ _ _ _ _ _ _ _ _ _ _ _ _ _ _ _ _ _ hSo hH hS
  have hcu0 : nI n = 0 ↔ n = 0 := nI_eq (b := 0) (by omega) (by omega)
  unfold wp_X7_cube
  refine X7_inRoom_ok (fun r1 => ⟨fun q => absurd q (by decide), fun _ => ?_⟩) (fun r1 => ⟨fun _ => X8_cube_out (fun q => r1 q.1) (same _), fun q => absurd rfl q⟩)
  refine X7_inRoom_ok (fun r2 => ⟨fun q => absurd q (by decide), fun _ => ?_⟩) (fun r2 => ⟨fun _ => X8_cube_out (fun q => r2 q.2.1) (same _), fun q => absurd rfl q⟩)
  refine X7_inRoom_ok (fun r3 => ⟨fun _ => ?_, fun q => absurd q (by decide)⟩) (fun r3 => ⟨fun q => absurd rfl q, fun _ => X8_cube_out (fun q => r3 q.2.2) (same _)⟩)
  refine X4_cubeAt_ok h5 ?_
  by_cases hat : cAt n cx cy cz p1 p2 p3 < n
  · rw [eN_t hat]
    refine ⟨fun _ => X8_cube_in r1 r2 r3 (fun t0 ht => ?_), fun q => absurd (Int32.le_iff_toInt_le.mpr (by rw [nI_toInt (by omega)]; show (0 : Int) ≤ _; omega)) q⟩
    unfold wj_X8_cube_41
    refine X8_near_ok h5 (by rw [hcu0] at ht; exact ht) (fun _ => X8_cubeAt_ok h5 ?_) (fun _ => X8_cubeAt_ok h5 ?_)
    · rw [eN_t hat]
      exact ⟨fun _ => same _, fun q => absurd q (nI_ne9 (by omega))⟩
    · rw [eN_t hat]
      exact ⟨fun _ => same _, fun q => absurd q (nI_ne9 (by omega))⟩
  · rw [eN_f hat]
    refine ⟨fun q => absurd q (by decide), fun _ => X4_canJoin_ok h5 (fun hnr => ⟨fun _ => ?_, fun q => absurd q (by decide)⟩) (fun hnr => ⟨fun q => absurd rfl q, fun _ => X8_cube_in r1 r2 r3 (fun t0 ht => ?_)⟩)⟩
    · refine pk_lt n 5 (fun hlt => ?_) (fun hge => X8_cube_in r1 r2 r3 (fun t0 ht => ?_))
      · -- a cube more
        have hF2 : fN (n + 1) (upd cx n p1) (upd cy n p2) (upd cz n p3) ((n + 1) * 6) ≤ 4 * (n + 1) + 2 := by
          by_cases c : n = 0
          · subst c; exact cnt_le _
          · exact fN_add (by omega) (hB4 (by omega)) hat (hnr.elim (fun q => absurd q c) id)
        have hx6 : ∀ c, c < n + 1 → inR (upd cx n p1 c) := fun c hc => by
          by_cases e : c = n
          · subst e; rw [pk_us]; exact r1
          · rw [pk_un e]; exact hx5 c (by omega)
        have hpos := fN_pos (n := n + 1) (y := upd cy n p2) (z := upd cz n p3) (by omega) hx6
        have hv : vp_in (nI n) 5 := vp_in_nI (by omega) (by omega)
        unfold wp_X4_add
        rw [nI_1, nI_clamp (show n < 2 ^ 31 by omega)]
        refine ⟨hv, hv, hv, X4_numberFaces_ok (by omega) (by omega) (fun co fof lo hFT hfo => X4_joinFaces_ok (by omega) (by omega) ⟨hFT, hfo⟩ (fun be ow hET => ?_))⟩
        obtain ⟨pp, c1, c2, c3⟩ := SrI_sheet hS
        obtain ⟨hp, N, hN, hHC, -, hMH⟩ := hH
        have hN31 : N ≤ 31 := by have := pN_le (pp := hp); omega
        have hTB := TB_of hFT hET
        refine X7_beginAnew_ok (d := lookS (n + 1) (upd cx n p1) (upd cy n p2) (upd cz n p3) 0) hN31 (by omega) hHC c1 c2 c3 (fun _ => hTB.1 0 (by omega)) (by unfold lookS; omega) (fun q => by omega) (fun _ hli hd li x y htk tk d1 d2 d3 => ?_)
        refine X8_cube_in r1 r2 r3 (fun t0 ht => ?_)
        unfold wj_X8_cube_41
        refine X8_near_ok h5 (by rw [hcu0] at ht; exact ht) (fun _ => X8_cubeAt_ok h5 ?_) (fun q => absurd hnr q)
        rw [eN_f hat]
        refine ⟨fun q => absurd rfl q, fun _ => ⟨fun _ => ⟨fun _ => ⟨hv, hv, hv, ?_⟩, fun q => absurd ((nI_eq (b := 5) (by omega) (by omega)).mp q) (by omega)⟩, fun q => absurd q (by decide)⟩⟩
        rw [nI_1, nI_clamp (show n < 2 ^ 31 by omega)]
        refine X8_anew_ok (n := n + 1) (by omega) (fun q => by omega) (fun k hk hPk hk0 mcf has mle mli mlo mnx hFT2 hET2 hhas hli2 => ?_)
        have hk6 : k % 6 = lookS (n + 1) (upd cx n p1) (upd cy n p2) (upd cz n p3) 0 := by
          unfold lookS
          rw [← hk0, kF_fN hk hPk]
        rw [hk6]
        exact h (n + 1) _ _ _ _ _ _ _ _ _ _ _ _ _ _ _ _ _ _ _ _ _ _ _ _ _ _ _ _ _ _ _ _ _ _ _ _ _ _ _ _ _ _ _ _ _ _ ⟨by omega, rfl, rfl, rfl, hx6, fun _ => hF2, hTB, TB_of hFT2 hET2, fun f hf => ⟨CO_of hFT hf, CO_of hFT2 hf⟩⟩ (handI_none d1 hli2) (SrI_anew1 hpos rfl (by unfold lookS; omega) hS d2 d3 hhas)
      · unfold wj_X8_cube_41
        refine X8_near_ok h5 (by rw [hcu0] at ht; exact ht) (fun _ => X8_cubeAt_ok h5 ?_) (fun q => absurd hnr q)
        rw [eN_f hat]
        refine ⟨fun q => absurd rfl q, fun _ => ⟨fun _ => ⟨fun q => absurd ((nI_eq (b := 5) (by omega) (by omega)).mpr (by omega)) q, fun _ => same _⟩, fun q => absurd q (by decide)⟩⟩
    · unfold wj_X8_cube_41
      refine X8_near_ok h5 (by rw [hcu0] at ht; exact ht) (fun q => absurd q hnr) (fun _ => X8_cubeAt_ok h5 ?_)
      rw [eN_f hat]
      exact ⟨fun q => absurd rfl q, fun _ => ⟨fun q => absurd rfl q, fun _ => same _⟩⟩
