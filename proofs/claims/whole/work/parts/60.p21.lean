-- PURE 21: the calls that only tell
theorem z0 {p : I3} : p = 0 ↔ p.toInt = 0 := by rw [← Int32.toInt_inj]; rfl
theorem z1 {p : I3} : p = (1 : I3) ↔ p.toInt = 1 := by rw [← Int32.toInt_inj]; rfl
theorem z2 {p : I3} : p = (2 : I3) ↔ p.toInt = 2 := by rw [← Int32.toInt_inj]; rfl
theorem z3 {p : I3} : p = (3 : I3) ↔ p.toInt = 3 := by rw [← Int32.toInt_inj]; rfl
theorem z4 {p : I3} : p = (4 : I3) ↔ p.toInt = 4 := by rw [← Int32.toInt_inj]; rfl
theorem le1 {p : I3} : p ≤ (1 : I3) ↔ p.toInt ≤ 1 := by rw [Int32.le_iff_toInt_le]; rfl
theorem ge3 {p : I3} : (3 : I3) ≤ p ↔ 3 ≤ p.toInt := by rw [Int32.le_iff_toInt_le]; rfl
theorem ge6 {p : I3} : (6 : I3) ≤ p ↔ 6 ≤ p.toInt := by rw [Int32.le_iff_toInt_le]; rfl
theorem gt5 {p : I3} : (5 : I3) < p ↔ 5 < p.toInt := by rw [Int32.lt_iff_toInt_lt]; rfl
theorem nI_of6 {p : I3} (h0 : ¬ p.toInt < 0) (h6 : ¬ 6 ≤ p.toInt) : ∃ e, e < 6 ∧ p = nI e := ⟨p.toInt.toNat, by omega, Int32.toInt_inj.mp (by rw [nI_toInt (by omega)]; omega)⟩
theorem isShape_ok {c : Nat} {p : I3} {post : I3 → Prop} (hc : c ≤ 64) (h1 : ∀ i, i < c → p = nI i → post 1) (h0 : (∀ i, i < c → ¬ p = nI i) → post 0) : wp_X7_isShape (nI c) p post := by
  unfold wp_X7_isShape
  rw [lt0, Int32.le_iff_toInt_le, nI_toInt (show c < 2 ^ 31 by omega)]
  refine ⟨fun q => h0 (fun i hi e => ?_), fun q => ⟨fun q2 => h0 (fun i hi e => ?_), fun q2 => h1 p.toInt.toNat (by omega) (Int32.toInt_inj.mp (by rw [nI_toInt (by omega)]; omega))⟩⟩
  · rw [e, nI_toInt (by omega)] at q; omega
  · rw [e, nI_toInt (by omega)] at q2; omega
theorem isShape8_ok {c : Nat} {p : I3} {post : I3 → Prop} (hc : c ≤ 64) (h1 : ∀ i, i < c → p = nI i → post 1) (h0 : (∀ i, i < c → ¬ p = nI i) → post 0) : wp_X8_isShape (nI c) p post := isShape_ok hc h1 h0
theorem op_face {n : Nat} {cu fa mfa : I3} {cx cy cz be co lo ow mcf mlo mle mnx : Ar} {p1 p2 : I3} {post : I3 → I3 → Prop} (hSo : SoI n cx cy cz cu fa be co lo ow mfa mcf mlo mle mnx) (h : ∀ r, post r r) : wp_X7_face fa co lo p1 p2 (fun r => wp_X8_face mfa mcf mlo p1 p2 (fun r' => post r r')) := by
  have h22 := SoI_22 hSo
  obtain ⟨h5, -, rfl, rfl, -, -, hT1, hT2, hco⟩ := hSo
  unfold wp_X7_face wp_X8_face
  refine X7_isFace_ok (by omega) (fun f hf e => ⟨fun _ => ?_, fun q => absurd q (by decide)⟩) (fun hno => ⟨fun q => absurd rfl q, fun _ => X8_isFace_f (by omega) hno ⟨fun _ => h _, fun q => absurd rfl q⟩⟩)
  subst e
  have hv : vp_in (nI f) 22 := vp_in_nI (by omega) (by omega)
  have hv2 : vp_in (nI f) 30 := vp_in_nI (by omega) (by omega)
  rw [nI_clamp (show f < 2 ^ 31 by omega), (hco f hf).1, (hco f hf).2, hT1.1 f hf, hT2.1 f hf, z0, z1, lt0, le1]
  refine ⟨fun q => ⟨hv, X8_isFace_t (by omega) hf ⟨fun z => absurd z (by decide), fun _ => ⟨fun z => absurd z (by omega), fun _ => ⟨fun _ => ⟨fun z => absurd q z, fun _ => ⟨hv2, h _⟩⟩, fun z => absurd z (by omega)⟩⟩⟩⟩, fun q => ⟨fun q2 => ⟨hv, X8_isFace_t (by omega) hf ⟨fun z => absurd z (by decide), fun _ => ⟨fun z => absurd z (by omega), fun _ => ⟨fun _ => ⟨fun _ => ⟨hv2, h _⟩, fun z => absurd z q⟩, fun z => absurd z (by omega)⟩⟩⟩⟩, fun q2 => X8_isFace_t (by omega) hf ⟨fun z => absurd z (by decide), fun _ => ⟨fun _ => h _, fun z => ⟨fun w => absurd w (by omega), fun _ => h _⟩⟩⟩⟩⟩
theorem op_across {n : Nat} {cu fa mfa : I3} {cx cy cz be co lo ow mcf mlo mle mnx : Ar} {p1 p2 : I3} {post : I3 → I3 → Prop} (hSo : SoI n cx cy cz cu fa be co lo ow mfa mcf mlo mle mnx) (h : ∀ r, post r r) : wp_X7_across fa be lo p1 p2 (fun r => wp_X8_across mfa mlo mnx p1 p2 (fun r' => post r r')) := by
  have h22 := SoI_22 hSo
  obtain ⟨h5, -, rfl, rfl, -, -, hT1, hT2, hco⟩ := hSo
  unfold wp_X7_across wp_X8_across
  refine X7_isFace_ok (by omega) (fun f hf e => ⟨fun q => absurd q (by decide), fun _ => ?_⟩) (fun hno => ⟨fun _ => X8_isFace_f (by omega) hno ⟨fun _ => h _, fun q => absurd rfl q⟩, fun q => absurd rfl q⟩)
  subst e
  have hv : vp_in (nI f) 22 := vp_in_nI (by omega) (by omega)
  have hv2 : vp_in (nI f) 30 := vp_in_nI (by omega) (by omega)
  have hl6 : lookS n cx cy cz f < 6 := by unfold lookS; omega
  have inn : ∀ {P : Prop}, P → wp_X8_isFace (nI (fN n cx cy cz (n * 6))) (nI f) (fun r_1 => (r_1 = 0 → post (-1) (-1)) ∧ (¬ r_1 = 0 → P)) := fun hP => X8_isFace_t (by omega) hf ⟨fun z => absurd z (by decide), fun _ => hP⟩
  rw [nI_clamp (show f < 2 ^ 31 by omega), hT1.1 f hf, hT2.1 f hf, lt0, ge6, gt5]
  refine ⟨fun q => X8_isFace_t (by omega) hf ⟨fun z => absurd z (by decide), fun _ => ⟨fun _ => h _, fun z => absurd q z⟩⟩, fun q => ⟨fun q2 => X8_isFace_t (by omega) hf ⟨fun z => absurd z (by decide), fun _ => ⟨fun z => absurd z q, fun _ => ⟨fun _ => h _, fun z => absurd (by omega) z⟩⟩⟩, fun q2 => ⟨hv, ?_⟩⟩⟩
  obtain ⟨e, he, rfl⟩ := nI_of6 q q2
  have hax : nI e / (2 : I3) = nI (lookS n cx cy cz f) / (2 : I3) ↔ e / 2 = lookS n cx cy cz f / 2 := by
    rw [ax_d e he, ax_d _ hl6, nI_eq (by omega) (by omega)]
  refine X7_sameAxis_ok he hl6 (fun ha => ⟨fun z => absurd z (by decide), fun _ => X8_isFace_t (by omega) hf ⟨fun z => absurd z (by decide), fun _ => ⟨fun z => absurd z q, fun _ => ⟨fun z => absurd z (by omega), fun _ => ⟨hv2, fun z => absurd (hax.mpr ha) z, fun _ => h _⟩⟩⟩⟩⟩) (fun ha => ⟨fun _ => X4_beyond_ok hT1 h22 hf he ha (X8_isFace_t (by omega) hf ⟨fun z => absurd z (by decide), fun _ => ⟨fun z => absurd z q, fun _ => ⟨fun z => absurd z (by omega), fun _ => ⟨hv2, fun _ => X8_beside_ok hT2 h22 hf he ha (h _), fun z => absurd (hax.mp z) ha⟩⟩⟩⟩), fun z => absurd rfl z⟩)
theorem op_told {n F : Nat} {look look2 : Nat → Nat} {B : Nat} {ac nets work ended step fo wi he no ct mco mst men mne mwo bw bh bn shs : I3} {im ix iy lm nu pl bx bY laid las hd li x y atX atY mbx mbY ch has od ri sr ss up : Ar} {tk : Aw} {hct mla : I3} {hhd hli hx hy mhr mhu mhx mhy mli : Ar} {cu fa mfa : I3} {cx cy cz be co lo ow mcf mlo mle mnx : Ar} {p1 : I3} {post : I3 → I3 → Prop} (hSo : SoI n cx cy cz cu fa be co lo ow mfa mcf mlo mle mnx) (hH : handI F look hct hhd hli hx hy mla mhr mhu mhx mhy mli) (hS : SrI F look2 B ac im ix iy lm nu pl nets work ended step fo wi he no bx bY laid las ct hd li tk x y mco mst men mne mwo bw bh bn shs atX atY mbx mbY ch has od ri sr ss up) (h : ∀ r, post r r) : wp_X7_told ac hct nets work ended cu fa p1 (fun r => wp_X8_told cu mfa mla men mne mwo shs p1 (fun r' => post r r')) := by
  obtain ⟨h5, e1, e2, e3, -⟩ := hSo
  obtain ⟨hp, N, hN, hHC, -, hMH⟩ := hH
  have e4 : hct = mla := by rw [hHC.2.2, hMH.2.2]
  obtain ⟨ns, s1, s2, s3, s4, s5, s6⟩ := hS
  have e5 : nets = mne := by rw [s1.1, s2.1]
  have e6 : ac = shs := by rw [s1.2.2.1.1, s2.2.2.1.1]
  have e7 : ended = men := by
    rcases s6 with ⟨-, q1, q2, -⟩ | ⟨cn, stp, ord, cho, pp, en, -, -, -, q1, q2⟩
    · rw [q1, q2]
    · rw [q1, q2]
  have e8 : fa = mfa := by rw [e2, e3]
  subst e4 e5 e6 e7 e8 s5
  unfold wp_X7_told wp_X8_told
  refine ⟨fun q => ?_, fun q0 => ⟨fun q => ?_, fun q1 => ⟨fun q => ?_, fun q2 => ⟨fun q => ?_, fun q3 => ⟨fun q => ?_, fun q4 => ⟨fun q => ?_, fun q5 => ⟨fun q => ?_, fun q6 => ?_⟩⟩⟩⟩⟩⟩⟩
  · exact ⟨fun _ => ⟨fun z => absurd q z, fun _ => h _⟩, fun z => absurd (q.symm.trans z) (by decide)⟩
  · exact ⟨fun _ => ⟨fun _ => ⟨fun z => absurd q z, fun _ => h _⟩, fun z => absurd z q0⟩, fun z => absurd (q.symm.trans z) (by decide)⟩
  · exact ⟨fun _ => ⟨fun _ => ⟨fun _ => ⟨fun z => absurd q z, fun _ => h _⟩, fun z => absurd z q1⟩, fun z => absurd z q0⟩, fun z => absurd (q.symm.trans z) (by decide)⟩
  · exact ⟨fun _ => ⟨fun _ => ⟨fun _ => ⟨fun _ => ⟨fun z => absurd q z, fun _ => h _⟩, fun z => absurd z q2⟩, fun z => absurd z q1⟩, fun z => absurd z q0⟩, fun z => absurd (q.symm.trans z) (by decide)⟩
  · exact ⟨fun _ => ⟨fun _ => ⟨fun _ => ⟨fun _ => ⟨fun _ => ⟨fun z => absurd q z, fun _ => h _⟩, fun z => absurd z q3⟩, fun z => absurd z q2⟩, fun z => absurd z q1⟩, fun z => absurd z q0⟩, fun z => absurd (q.symm.trans z) (by decide)⟩
  · exact ⟨fun w => ⟨fun z => absurd q z, fun _ => ⟨fun _ => h _, fun z => absurd w z⟩⟩, fun w => ⟨fun z => absurd q z, fun _ => ⟨fun z => absurd z w, fun _ => h _⟩⟩⟩
  · exact ⟨fun _ => ⟨fun _ => ⟨fun _ => ⟨fun _ => ⟨fun _ => ⟨fun _ => ⟨fun z => absurd q z, fun _ => h _⟩, fun z => absurd z q4⟩, fun z => absurd z q3⟩, fun z => absurd z q2⟩, fun z => absurd z q1⟩, fun z => absurd z q0⟩, fun z => absurd z q5⟩
  · exact ⟨fun _ => ⟨fun _ => ⟨fun _ => ⟨fun _ => ⟨fun _ => ⟨fun _ => ⟨fun _ => h _, fun z => absurd z q6⟩, fun z => absurd z q4⟩, fun z => absurd z q3⟩, fun z => absurd z q2⟩, fun z => absurd z q1⟩, fun z => absurd z q0⟩, fun z => absurd z q5⟩
theorem op_best {F : Nat} {look : Nat → Nat} {B : Nat} {ac nets work ended step fo wi he no ct mco mst men mne mwo bw bh bn shs : I3} {im ix iy lm nu pl bx bY laid las hd li x y atX atY mbx mbY ch has od ri sr ss up : Ar} {tk : Aw} {p1 p2 : I3} {post : I3 → I3 → Prop} (hF : F ≤ 22) (hB : B ≤ 2 ^ 31) (hS : SrI F look B ac im ix iy lm nu pl nets work ended step fo wi he no bx bY laid las ct hd li tk x y mco mst men mne mwo bw bh bn shs atX atY mbx mbY ch has od ri sr ss up) (h : ∀ r, post r r) : wp_X7_best fo wi he no bx bY (nI F) p1 p2 (fun r => wp_X8_best (nI F) bw bh bn mbx mbY p1 p2 (fun r' => post r r')) := by
  obtain ⟨ns, s1, s2, s3, s4, s5, s6⟩ := hS
  obtain ⟨-, -, -, n4, n5⟩ := s1
  obtain ⟨-, -, -, m4, m5⟩ := s2
  have m5 := m5 (by omega)
  unfold wp_X7_best wj_X7_best_27 wj_X7_best_28 wp_X8_best
  rw [z0 (p := p1), z1 (p := p1), z2 (p := p1), z3 (p := p1), z4 (p := p1), lt0 (p := p1), le4 (p := p1), ge3 (p := p1)]
  cases hb : ns.2.1.1 with
  | false =>
    rw [hb] at n4
    subst n4
    have e := m5.2 hb
    subst e
    refine ⟨fun _ => ⟨fun q => ⟨fun _ => ⟨fun z => absurd z (by omega), fun _ => ⟨fun _ => ⟨fun z => absurd z (by omega), fun _ => ⟨fun z => absurd rfl z, fun _ => h _⟩⟩, fun z => absurd (by omega) z⟩⟩, fun z => absurd rfl z⟩, fun q => ⟨fun q => ⟨fun _ => ⟨fun z => absurd z (by omega), fun _ => ⟨fun _ => ⟨fun z => absurd z (by omega), fun _ => ⟨fun z => absurd rfl z, fun _ => h _⟩⟩, fun z => absurd (by omega) z⟩⟩, fun z => absurd rfl z⟩, fun q1 => ⟨fun q => ⟨fun _ => ⟨fun z => absurd z (by omega), fun _ => ⟨fun _ => ⟨fun z => absurd z (by omega), fun _ => ⟨fun z => absurd rfl z, fun _ => h _⟩⟩, fun z => absurd (by omega) z⟩⟩, fun z => absurd rfl z⟩, fun q2 => ⟨fun q => ⟨fun _ => ⟨fun z => absurd z (by omega), fun _ => ⟨fun _ => ⟨fun _ => ⟨fun _ => h _, fun z => absurd rfl z⟩, fun z => absurd (by omega) z⟩, fun z => absurd (by omega) z⟩⟩, fun z => absurd rfl z⟩, fun q3 => ⟨fun q => ⟨fun _ => ⟨fun z => absurd z (by omega), fun _ => ⟨fun _ => ⟨fun _ => ⟨fun _ => h _, fun z => absurd rfl z⟩, fun z => absurd (by omega) z⟩, fun z => absurd (by omega) z⟩⟩, fun z => absurd rfl z⟩, fun q4 => ⟨fun _ => h _, fun z => ⟨fun w => absurd w (by omega), fun _ => h _⟩⟩⟩⟩⟩⟩⟩, fun z => absurd rfl z⟩
  | true =>
    rw [hb] at n4
    subst n4
    obtain ⟨rfl, rfl, rfl, r4⟩ := n5 hb
    obtain ⟨rfl, rfl, rfl, t4⟩ := m5.1 hb
    have hne : ¬ nI ns.2.1.2.2.2.1 = (-9 : I3) := nI_ne9 (by have := m4 hb; omega)
    have e1 : ¬ enI true = 0 := by decide
    refine ⟨fun z => absurd z e1, fun _ => X7_isFace_ok (by omega) (fun f hf e => ⟨fun z => absurd z (by decide), fun _ => ?_⟩) (fun hno => ⟨fun _ => ?_, fun z => absurd rfl z⟩)⟩
    · subst e
      have hv : vp_in (nI f) 22 := vp_in_nI (by omega) (by omega)
      have hv2 : vp_in (nI f) 30 := vp_in_nI (by omega) (by omega)
      rw [nI_clamp (show f < 2 ^ 31 by omega), (r4 f hf).1, (r4 f hf).2, (t4 f hf).1, (t4 f hf).2]
      refine ⟨fun q => ⟨fun z => absurd z e1, fun _ => ⟨fun z => absurd z (by omega), fun _ => ⟨fun _ => ⟨fun z => absurd z (by omega), fun _ => ⟨fun _ => ⟨fun z => absurd q z, fun _ => h _⟩, fun z => absurd z hne⟩⟩, fun z => absurd (by omega) z⟩⟩⟩, fun q0 => ⟨fun q => ⟨fun z => absurd z e1, fun _ => ⟨fun z => absurd z (by omega), fun _ => ⟨fun _ => ⟨fun z => absurd z (by omega), fun _ => ⟨fun _ => ⟨fun _ => ⟨fun z => absurd q z, fun _ => h _⟩, fun z => absurd z q0⟩, fun z => absurd z hne⟩⟩, fun z => absurd (by omega) z⟩⟩⟩, fun q1 => ⟨fun q => ⟨fun z => absurd z e1, fun _ => ⟨fun z => absurd z (by omega), fun _ => ⟨fun _ => ⟨fun z => absurd z (by omega), fun _ => ⟨fun _ => ⟨fun _ => ⟨fun _ => h _, fun z => absurd z q1⟩, fun z => absurd z q0⟩, fun z => absurd z hne⟩⟩, fun z => absurd (by omega) z⟩⟩⟩, fun q2 => ⟨fun q => ⟨fun z => absurd z (by decide), fun _ => ⟨hv, ⟨fun z => absurd z (by omega), fun _ => ⟨fun _ => ⟨fun _ => ⟨fun z => absurd z hne, fun _ => X8_isFace_t (by omega) hf ⟨fun _ => ⟨fun z => absurd q z, fun _ => ⟨hv2, h _⟩⟩, fun z => absurd z (by decide)⟩⟩, fun z => absurd (by omega) z⟩, fun z => absurd (by omega) z⟩⟩⟩⟩, fun q3 => ⟨fun q => ⟨fun z => absurd z (by decide), fun _ => ⟨hv, ⟨fun z => absurd z (by omega), fun _ => ⟨fun _ => ⟨fun _ => ⟨fun z => absurd z hne, fun _ => X8_isFace_t (by omega) hf ⟨fun _ => ⟨fun _ => ⟨hv2, h _⟩, fun z => absurd z q3⟩, fun z => absurd z (by decide)⟩⟩, fun z => absurd (by omega) z⟩, fun z => absurd (by omega) z⟩⟩⟩⟩, fun q4 => ⟨fun _ => h _, fun z => ⟨fun w => absurd w (by omega), fun _ => h _⟩⟩⟩⟩⟩⟩⟩
    · refine ⟨fun q => ⟨fun z => absurd z e1, fun _ => ⟨fun z => absurd z (by omega), fun _ => ⟨fun _ => ⟨fun z => absurd z (by omega), fun _ => ⟨fun _ => ⟨fun z => absurd q z, fun _ => h _⟩, fun z => absurd z hne⟩⟩, fun z => absurd (by omega) z⟩⟩⟩, fun q0 => ⟨fun q => ⟨fun z => absurd z e1, fun _ => ⟨fun z => absurd z (by omega), fun _ => ⟨fun _ => ⟨fun z => absurd z (by omega), fun _ => ⟨fun _ => ⟨fun _ => ⟨fun z => absurd q z, fun _ => h _⟩, fun z => absurd z q0⟩, fun z => absurd z hne⟩⟩, fun z => absurd (by omega) z⟩⟩⟩, fun q1 => ⟨fun q => ⟨fun z => absurd z e1, fun _ => ⟨fun z => absurd z (by omega), fun _ => ⟨fun _ => ⟨fun z => absurd z (by omega), fun _ => ⟨fun _ => ⟨fun _ => ⟨fun _ => h _, fun z => absurd z q1⟩, fun z => absurd z q0⟩, fun z => absurd z hne⟩⟩, fun z => absurd (by omega) z⟩⟩⟩, fun q2 => ⟨fun q => ⟨fun _ => ⟨fun z => absurd z (by omega), fun _ => ⟨fun _ => ⟨fun _ => ⟨fun z => absurd z hne, fun _ => X8_isFace_f (by omega) hno ⟨fun z => absurd rfl z, fun _ => h _⟩⟩, fun z => absurd (by omega) z⟩, fun z => absurd (by omega) z⟩⟩, fun z => absurd rfl z⟩, fun q3 => ⟨fun q => ⟨fun _ => ⟨fun z => absurd z (by omega), fun _ => ⟨fun _ => ⟨fun _ => ⟨fun z => absurd z hne, fun _ => X8_isFace_f (by omega) hno ⟨fun z => absurd rfl z, fun _ => h _⟩⟩, fun z => absurd (by omega) z⟩, fun z => absurd (by omega) z⟩⟩, fun z => absurd rfl z⟩, fun q4 => ⟨fun _ => h _, fun z => ⟨fun w => absurd w (by omega), fun _ => h _⟩⟩⟩⟩⟩⟩⟩
theorem op_size {F : Nat} {look : Nat → Nat} {B : Nat} {ac nets work ended step fo wi he no ct mco mst men mne mwo bw bh bn shs : I3} {im ix iy lm nu pl bx bY laid las hd li x y atX atY mbx mbY ch has od ri sr ss up : Ar} {tk : Aw} {p1 : I3} {post : I3 → I3 → Prop} (hS : SrI F look B ac im ix iy lm nu pl nets work ended step fo wi he no bx bY laid las ct hd li tk x y mco mst men mne mwo bw bh bn shs atX atY mbx mbY ch has od ri sr ss up) (h : ∀ r, post r r) : wp_X7_size ac pl p1 (fun r => wp_X8_size shs ss p1 (fun r' => post r r')) := by
  obtain ⟨ns, s1, s2, s3, s4, s5, s6⟩ := hS
  obtain ⟨-, g, ⟨rfl, hA⟩, -⟩ := s1
  obtain ⟨-, -, ⟨rfl, hM⟩, -⟩ := s2
  have g0 := g.1
  unfold wp_X7_size wp_X8_size
  refine isShape_ok g0 (fun i hi e => ⟨fun z => absurd z (by decide), fun _ => ?_⟩) (fun hno => ⟨fun _ => isShape8_ok g0 (fun i hi e => absurd e (hno i hi)) (fun _ => ⟨fun _ => h _, fun z => absurd rfl z⟩), fun z => absurd rfl z⟩)
  subst e
  have hv : vp_in (nI i) 64 := vp_in_nI (by omega) (by omega)
  rw [nI_clamp (show i < 2 ^ 31 by omega), (hA i hi).1, (hM i hi).1]
  exact ⟨hv, isShape8_ok g0 (fun _ _ _ => ⟨fun z => absurd z (by decide), fun _ => ⟨hv, h _⟩⟩) (fun hno => absurd rfl (hno i hi))⟩
theorem op_shape {F : Nat} {look : Nat → Nat} {B : Nat} {ac nets work ended step fo wi he no ct mco mst men mne mwo bw bh bn shs : I3} {im ix iy lm nu pl bx bY laid las hd li x y atX atY mbx mbY ch has od ri sr ss up : Ar} {tk : Aw} {p1 p2 p3 : I3} {post : I3 → I3 → Prop} (hS : SrI F look B ac im ix iy lm nu pl nets work ended step fo wi he no bx bY laid las ct hd li tk x y mco mst men mne mwo bw bh bn shs atX atY mbx mbY ch has od ri sr ss up) (h : ∀ r, post r r) : wp_X7_shape ac nu pl p1 p2 p3 (fun r => wp_X8_shape shs sr ss p1 p2 p3 (fun r' => post r r')) := by
  obtain ⟨ns, s1, s2, s3, s4, s5, s6⟩ := hS
  obtain ⟨-, g, ⟨rfl, hA⟩, -⟩ := s1
  obtain ⟨-, -, ⟨rfl, hM⟩, -⟩ := s2
  have g0 := g.1
  unfold wp_X7_shape wp_X8_shape
  refine isShape_ok g0 (fun i hi e => ⟨fun z => absurd z (by decide), fun _ => ?_⟩) (fun hno => ⟨fun _ => isShape8_ok g0 (fun i hi e => absurd e (hno i hi)) (fun _ => ⟨fun _ => h _, fun z => absurd rfl z⟩), fun z => absurd rfl z⟩)
  subst e
  have hv : vp_in (nI i) 64 := vp_in_nI (by omega) (by omega)
  have gi := g.2 i hi
  have gi2 := gi.2.1
  have inn : ∀ {P : Prop}, P → wp_X8_isShape (nI ns.2.2.1) (nI i) (fun r_1 => (r_1 = 0 → post (-1) (-1)) ∧ (¬ r_1 = 0 → P)) := fun hP => isShape8_ok g0 (fun _ _ _ => ⟨fun z => absurd z (by decide), fun _ => hP⟩) (fun hno => absurd rfl (hno i hi))
  have sh : ∀ {r : I3} {P : Prop}, P → wp_X8_isShape (nI ns.2.2.1) (nI i) (fun r_1 => (r_1 = 0 → post r (-1)) ∧ (¬ r_1 = 0 → P)) := fun hP => isShape8_ok g0 (fun _ _ _ => ⟨fun z => absurd z (by decide), fun _ => hP⟩) (fun hno => absurd rfl (hno i hi))
  rw [nI_clamp (show i < 2 ^ 31 by omega), (hA i hi).1, (hM i hi).1, lt0, lt0, le1, z0, z1, Int32.lt_iff_toInt_lt, Int32.le_iff_toInt_le, nI_toInt (show ns.2.2.2.2 i < 2 ^ 31 by omega)]
  refine ⟨fun q => sh ⟨fun _ => h _, fun z => absurd q z⟩, fun q => ⟨hv, fun q2 => ?_, fun q2 => sh ⟨fun z => absurd z q, fun _ => ⟨hv, fun _ => h _, fun z => absurd (by omega) z⟩⟩⟩⟩
  obtain ⟨k, hk, rfl⟩ : ∃ k, k < ns.2.2.2.2 i ∧ p2 = nI k := ⟨p2.toInt.toNat, by omega, Int32.toInt_inj.mp (by rw [nI_toInt (by omega)]; omega)⟩
  obtain ⟨v, v1, v2⟩ := GSh_at gi hk
  have hv7 := (gi.2.2.2 v v1).1
  have e1 := (hA i hi).2 v v1
  have e2 := (hM i hi).2 v v1
  rw [v2] at e1 e2
  have a1 : nu (nI i * (22 : I3) + nI k).toNatClampNeg = nI v := by rw [ix22, nI_clamp (by omega)]; exact e1
  have a2 : sr ((30 : I3) * nI i + nI k).toNatClampNeg = nI v := by rw [ix30, nI_clamp (by omega)]; exact e2
  have hv1 : vp_in (nI i * (22 : I3) + nI k) 1408 := by rw [ix22]; exact vp_in_nI (by omega) (by omega)
  have hv2 : vp_in ((30 : I3) * nI i + nI k) 1920 := by rw [ix30]; exact vp_in_nI (by omega) (by omega)
  unfold wp_X0_placeX wp_X0_placeY
  rw [a1, a2]
  have body : ∀ {r : I3} {Q : Prop}, Q → wp_X8_isShape (nI ns.2.2.1) (nI i) (fun r_1 => (r_1 = 0 → post r (-1)) ∧ (¬ r_1 = 0 → (((nI k).toInt < 0 → post r (-1)) ∧ (¬ (nI k).toInt < 0 → (vp_in (nI i) 64 ∧ ((((ns.2.2.2.2 i : Nat) : Int) ≤ (nI k).toInt → post r (-1)) ∧ (¬ ((ns.2.2.2.2 i : Nat) : Int) ≤ (nI k).toInt → Q))))))) := fun hQ => sh ⟨fun z => absurd z q, fun _ => ⟨hv, fun z => absurd z (by omega), fun _ => hQ⟩⟩
  refine ⟨fun z => ⟨hv1, body ⟨fun w => absurd w (by omega), fun _ => ⟨fun _ => ⟨fun w => absurd z w, fun _ => ⟨hv2, h _⟩⟩, fun w => absurd (by omega) w⟩⟩⟩, fun z => ⟨fun z1 => ⟨hv1, body ⟨fun w => absurd w (by omega), fun _ => ⟨fun _ => ⟨fun _ => ⟨hv2, h _⟩, fun w => absurd w z⟩, fun w => absurd (by omega) w⟩⟩⟩, fun z1 => body ⟨fun _ => h _, fun _ => ⟨fun w => absurd w (by omega), fun _ => h _⟩⟩⟩⟩
theorem op_forget {F : Nat} {look : Nat → Nat} {B : Nat} {ac nets work ended step fo wi he no ct mco mst men mne mwo bw bh bn shs : I3} {im ix iy lm nu pl bx bY laid las hd li x y atX atY mbx mbY ch has od ri sr ss up : Ar} {tk : Aw} {post : I3 → I3 → I3 → I3 → Prop} (hS : SrI F look B ac im ix iy lm nu pl nets work ended step fo wi he no bx bY laid las ct hd li tk x y mco mst men mne mwo bw bh bn shs atX atY mbx mbY ch has od ri sr ss up) (h : ∀ r, SrI F look B 0 im ix iy lm nu pl nets work ended step fo wi he no bx bY laid las ct hd li tk x y mco mst men mne mwo bw bh bn 0 atX atY mbx mbY ch has od ri sr ss up → post r 0 r 0) : wp_X7_forget ac (fun r ac => wp_X8_forget shs (fun r' shs => post r ac r' shs)) := by
  obtain ⟨ns, s1, s2, s3, s4, s5, s6⟩ := hS
  have e6 : ac = shs := by rw [s1.2.2.1.1, s2.2.2.1.1]
  subst e6
  refine h ac ⟨(ns.1, ns.2.1, 0, ns.2.2.2), ⟨s1.1, ⟨Nat.zero_le _, fun i hi => absurd hi (Nat.not_lt_zero _)⟩, ⟨rfl, fun i hi => absurd hi (Nat.not_lt_zero _)⟩, s1.2.2.2⟩, ⟨s2.1, ⟨Nat.zero_le _, fun i hi => absurd hi (Nat.not_lt_zero _)⟩, ⟨rfl, fun i hi => absurd hi (Nat.not_lt_zero _)⟩, s2.2.2.2⟩, fun i hi => absurd hi (Nat.not_lt_zero _), s4, s5, s6⟩
