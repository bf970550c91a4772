-- PURE 8: by hand: lay, grow, paper
theorem X7_isFace_ok {F : Nat} {p : Int32} {post : Int32 → Prop} (hF : F ≤ 30) (h1 : ∀ f, f < F → p = nI f → post 1) (h0 : (∀ f, f < F → ¬ p = nI f) → post 0) : wp_X7_isFace (nI F) p post := by
  unfold wp_X7_isFace
  refine ⟨fun h => h0 (fun f hf e => ?_), fun h => ⟨fun h2 => h0 (fun f hf e => ?_), fun h2 => ?_⟩⟩
  · rw [e] at h; exact nI_pos (by omega) h
  · rw [e] at h2; exact nI_ge hf (by omega) h2
  · rcases pk_ix p (n := F) (by omega) with q | q | ⟨f, hf, e⟩
    · exact absurd q h
    · exact absurd q h2
    · exact h1 f hf e
theorem X8_isFace_ok {F : Nat} {p : Int32} {post : Int32 → Prop} (hF : F ≤ 30) (h1 : ∀ f, f < F → p = nI f → post 1) (h0 : (∀ f, f < F → ¬ p = nI f) → post 0) : wp_X8_isFace (nI F) p post := X7_isFace_ok hF h1 h0
theorem X8_isFace_t {F f : Nat} {post : Int32 → Prop} (hF : F ≤ 30) (hf : f < F) (h : post 1) : wp_X8_isFace (nI F) (nI f) post := X8_isFace_ok hF (fun _ _ _ => h) (fun q => absurd rfl (q f hf))
theorem X8_isFace_f {F : Nat} {p : Int32} {post : Int32 → Prop} (hF : F ≤ 30) (hf : ∀ f, f < F → ¬ p = nI f) (h : post 0) : wp_X8_isFace (nI F) p post := X8_isFace_ok hF (fun f h1 h2 => absurd h2 (hf f h1)) (fun _ => h)
/-- the reference's paper by hand -/
def MH (pp : Nat → Option PL) (laid : Int32) (mr mu mx my ml : Nat → Int32) : Prop := (∀ f, f < 30 → pp f = none → ml f = 0) ∧ (∀ f p, pp f = some p → ml f = 1 ∧ mx f = p.1 ∧ my f = p.2.1 ∧ mr f = nI p.2.2.1 ∧ mu f = nI p.2.2.2) ∧ laid = nI (pN pp)
def handI (F : Nat) (look : Nat → Nat) (ct : Int32) (hd li x y : Nat → Int32) (laid : Int32) (mr mu mx my ml : Nat → Int32) : Prop := ∃ pp N, (N = 0 ∨ N + 1 ≤ pN pp) ∧ CS N pp ct hd li x y ∧ (∀ f p, pp f = some p → f < F ∧ OR look f p.2.2.1 p.2.2.2) ∧ MH pp laid mr mu mx my ml
theorem MH_add {pp : Nat → Option PL} {laid : Int32} {mr mu mx my ml : Nat → Int32} {g : Nat} {p : PL} (h : MH pp laid mr mu mx my ml) (hg : g < 22) (hn : pp g = none) : MH (ppset pp g (some p)) (laid + 1) (upd mr g (nI p.2.2.1)) (upd mu g (nI p.2.2.2)) (upd mx g p.1) (upd my g p.2.1) (upd ml g 1) := by
  obtain ⟨h1, h2, h3⟩ := h
  refine ⟨fun f hf hq => ?_, fun f q hq => ?_, by rw [h3, pN_add hg hn, nI_1]⟩
  · by_cases e : f = g
    · subst e; rw [ppset_s] at hq; cases hq
    · rw [ppset_n e] at hq; rw [pk_un e]; exact h1 f hf hq
  · by_cases e : f = g
    · subst e; rw [ppset_s] at hq; cases hq; exact ⟨pk_us, pk_us, pk_us, pk_us, pk_us⟩
    · rw [ppset_n e] at hq; rw [pk_un e, pk_un e, pk_un e, pk_un e, pk_un e]; exact h2 f q hq
theorem cl_nI {f : Nat} (h : f < 2 ^ 31) : (nI f).toNatClampNeg = f := nI_clamp h
set_option maxHeartbeats 1000000 in
theorem op_lay {F : Nat} {look : Nat → Nat} {nb on : Nat → Nat → Nat} {ct laid p1 : Int32} {hd li x y lo be ow mr mu mx my ml mlo mbe mow : Nat → Int32} {tk : Nat → Int64} (hF : F ≤ 22) (hG : GS F look nb on) (hT : TB F look nb on lo be ow) (hM : TB F look nb on mlo mbe mow) (hH : handI F look ct hd li x y laid mr mu mx my ml)
    {post : Int32 → Int32 → (Nat → Int32) → (Nat → Int32) → (Nat → Int64) → (Nat → Int32) → (Nat → Int32) → Int32 → Int32 → (Nat → Int32) → (Nat → Int32) → (Nat → Int32) → (Nat → Int32) → (Nat → Int32) → Prop}
    (h : ∀ (r ct laid : Int32) (hd li x y mr mu mx my ml : Nat → Int32) (tk : Nat → Int64), handI F look ct hd li x y laid mr mu mx my ml → post r ct hd li tk x y r laid mr mu mx my ml) :
    wp_X7_lay ct hd li tk x y (nI F) lo p1 (fun r ct hd li tk x y => wp_X8_lay (nI F) laid mr mu mx my ml mlo p1 (fun r' laid mr mu mx my ml => post r ct hd li tk x y r' laid mr mu mx my ml)) := by
  obtain ⟨pp, N, hN, hC, hO, hMH⟩ := id hH
  have hpN := pN_le (pp := pp)
  unfold wp_X7_lay
  refine X7_isFace_ok (by omega) (fun f hf e => ?_) (fun hn => ?_)
  · subst e
    refine ⟨fun _ => ?_, fun q => absurd q (by decide)⟩
    refine X3_wipe_ok (fun _ _ => True) (by omega) hC trivial (fun _ _ _ _ _ _ _ _ => trivial) (fun li tk hC0 _ => ?_)
    refine X3_putFirst_ok hC0 (by omega) rfl (hT.1 f hf) (hG.1 f hf) (fun hd li x y hC1 => ?_)
    unfold wp_X8_lay
    refine X8_isFace_t (by omega) hf ⟨fun _ => ?_, fun q => absurd q (by decide)⟩
    refine Lp_for (S := Nat → Int32) 30 (fun i v => ∀ j, j < i → v j = 0) (by omega) ?_ 0 ml (Nat.zero_le _) (fun j hj => absurd hj (Nat.not_lt_zero _))
    intro i ml kb hi hz hk
    dsimp only [wl_X8_lay_12, wb_X8_lay_12]
    refine pk_le 30 i (fun hq => ?_) (fun hq => ?_)
    · have hv : vp_in (nI f) 30 := vp_in_nI (by omega) (by omega)
      rw [nI_clamp (by omega), hM.1 f hf, nar1]
      refine ⟨hv, hv, hv, hv, X8_firstRight_ok _ (hG.1 f hf) ⟨hv, hv, X8_firstUp_ok _ (hG.1 f hf) ⟨hv, ?_⟩⟩⟩
      refine h _ _ _ _ _ _ _ _ _ _ _ _ _ ⟨ppset (fun _ => none) f (some (0, 0, fr (look f), fu (look f))), 0, Or.inl rfl, hC1, fun g p hg => ?_, ?_⟩
      · by_cases e : g = f
        · subst e; rw [ppset_s] at hg; cases hg; exact ⟨hf, OR_first (hG.1 g hf)⟩
        · rw [ppset_n e] at hg; cases hg
      · rw [fr_ok _ (hG.1 f hf), fu_ok _ (hG.1 f hf)]
        have := MH_add (pp := fun _ => none) (laid := 0) (mr := mr) (mu := mu) (mx := mx) (my := my) (ml := ml) (g := f) (p := (0, 0, fr (look f), fu (look f))) ⟨fun j hj _ => hz j (by omega), fun _ _ q => (by cases q), (by rw [pN_none]; rfl)⟩ (by omega) rfl
        exact this
    · rw [nI_clamp (by omega), nI_1, nar0]
      refine ⟨vp_in_nI hq (by omega), hk _ hq (fun j hj => ?_)⟩
      by_cases e : j = i
      · subst e; exact pk_us
      · rw [pk_un e]; exact hz j (by omega)
  · refine ⟨fun q => absurd rfl q, fun _ => ?_⟩
    unfold wp_X8_lay
    exact X8_isFace_f (by omega) hn ⟨fun q => absurd rfl q, fun _ => h _ _ _ _ _ _ _ _ _ _ _ _ _ hH⟩
theorem lf_F {P : Nat → Prop} {M F : Nat} (hFM : F ≤ M) (hP : ∀ k, P k → k < F) : (lf P M < M → lf P F = lf P M ∧ lf P F < F) ∧ (¬ lf P M < M → ¬ lf P F < F) := by
  refine ⟨fun h => ?_, fun h q => ?_⟩
  · obtain ⟨h1, h2⟩ := lf_lt h
    have h3 := hP _ h1
    have e := lf_hit h3 h1 h2
    exact ⟨e, by omega⟩
  · obtain ⟨h1, -⟩ := lf_lt q
    exact lf_no h _ (by omega) h1
theorem X8_grow_loop {F : Nat} {pp : Nat → Option PL} {laid a b : Int32} {mr mu mx my ml : Nat → Int32} {k1 : Int32 → Prop} {k2 : Prop} (hF : F ≤ 22) (hM : MH pp laid mr mu mx my ml) (h1 : lf (pAtP pp a b) F < F → k1 (nI (lf (pAtP pp a b) F))) (h2 : ¬ lf (pAtP pp a b) F < F → k2) : Lp (wl_X8_grow_94 (nI F) mx my ml a b k1 k2) (0 : Int32) := by
  refine Lp_for0 F (fun i => ∀ j, j < i → ¬ pAtP pp a b j) (by omega) ?_ 0 (Nat.zero_le _) (fun j hj => absurd hj (Nat.not_lt_zero _))
  intro i kb hi hI hk
  dsimp only [wl_X8_grow_94, wb_X8_grow_94]
  refine pk_le F i (fun hc => ?_) (fun hc => ?_)
  · have e : lf (pAtP pp a b) F = F := lf_miss (fun j hj => hI j (by omega))
    exact h2 (by omega)
  · have hv : vp_in (nI i) 30 := vp_in_nI (by omega) (by omega)
    rw [nI_clamp (by omega), nI_1]
    cases hp : pp i with
    | none => exact ⟨hv, fun _ => hk hc (lt_s hI (fun q => by obtain ⟨p, q1, -⟩ := q; rw [hp] at q1; cases q1)), fun q => absurd (hM.1 i (by omega) hp) q⟩
    | some p =>
      obtain ⟨c2, c3, c4, -⟩ := hM.2.1 i p hp
      rw [c2, c3, c4]
      refine ⟨hv, fun q => absurd q (by decide), fun _ => ⟨hv, fun g1 => hk hc (lt_s hI (fun q => by obtain ⟨p2, q1, q2, q3⟩ := q; rw [hp] at q1; cases q1; exact g1 q2)), fun g1 => ⟨hv, fun g2 => hk hc (lt_s hI (fun q => by obtain ⟨p2, q1, q2, q3⟩ := q; rw [hp] at q1; cases q1; exact g2 q3)), fun g2 => ?_⟩⟩⟩
      have e : lf (pAtP pp a b) F = i := lf_hit hc ⟨p, hp, g1, g2⟩ hI
      rw [e] at h1
      exact h1 hc
set_option maxHeartbeats 2000000 in
theorem op_grow {F : Nat} {look : Nat → Nat} {nb on : Nat → Nat → Nat} {ct laid p1 p2 : Int32} {hd li x y lo be ow mr mu mx my ml mlo mbe mow : Nat → Int32} {tk : Nat → Int64} (hF : F ≤ 22) (hG : GS F look nb on) (hT : TB F look nb on lo be ow) (hM : TB F look nb on mlo mbe mow) (hH : handI F look ct hd li x y laid mr mu mx my ml)
    {post : Int32 → Int32 → (Nat → Int32) → (Nat → Int32) → (Nat → Int64) → (Nat → Int32) → (Nat → Int32) → Int32 → Int32 → (Nat → Int32) → (Nat → Int32) → (Nat → Int32) → (Nat → Int32) → (Nat → Int32) → Prop}
    (h : ∀ (r ct laid : Int32) (hd li x y mr mu mx my ml : Nat → Int32) (tk : Nat → Int64), handI F look ct hd li x y laid mr mu mx my ml → post r ct hd li tk x y r laid mr mu mx my ml) :
    wp_X7_grow ct hd li tk x y (nI F) be ow p1 p2 (fun r ct hd li tk x y => wp_X8_grow (nI F) laid mr mu mx my mow ml mbe p1 p2 (fun r' laid mr mu mx my ml => post r ct hd li tk x y r' laid mr mu mx my ml)) := by
  obtain ⟨pp, N, hN, hC, hO, hMH⟩ := id hH
  have hpN := pN_le (pp := pp)
  have same : ∀ r : Int32, post r ct hd li tk x y r laid mr mu mx my ml := fun r => h r ct laid hd li x y mr mu mx my ml tk hH
  unfold wp_X7_grow
  refine X7_isFace_ok (by omega) (fun f hf e => ?_) (fun hn => ?_)
  rotate_left
  · refine ⟨fun _ => ?_, fun q => absurd rfl q⟩
    unfold wp_X8_grow
    exact X8_isFace_f (by omega) hn ⟨fun _ => same _, fun q => absurd rfl q⟩
  subst e
  refine ⟨fun q => absurd q (by decide), fun _ => ⟨fun hc => ?_, fun hc => ⟨fun hc2 => ?_, fun hc2 => ?_⟩⟩⟩
  · unfold wp_X8_grow
    exact X8_isFace_t (by omega) hf ⟨fun q => absurd q (by decide), fun _ => ⟨fun _ => same _, fun q => absurd hc q⟩⟩
  rotate_left
  · unfold wp_X8_grow
    refine X8_isFace_t (by omega) hf ⟨fun q => absurd q (by decide), fun _ => ⟨fun _ => same _, fun _ => ⟨fun q => absurd ?_ hc2, fun _ => same _⟩⟩⟩
    rw [Int32.lt_iff_toInt_lt, show (4 : Int32).toInt = 4 by decide]
    rw [Int32.le_iff_toInt_le, show (3 : Int32).toInt = 3 by decide] at q
    omega
  obtain ⟨s, hs, rfl⟩ : ∃ s, s < 4 ∧ p2 = nI s := by
    rcases pk_ix p2 (n := 4) (by omega) with q | q | q
    · exact absurd q hc
    · exfalso
      rw [Int32.lt_iff_toInt_lt, show (4 : Int32).toInt = 4 by decide] at hc2
      rw [Int32.le_iff_toInt_le, show (nI 4).toInt = 4 by decide] at q
      omega
    · exact q
  have hv : vp_in (nI f) 22 := vp_in_nI (by omega) (by omega)
  have hv4 : vp_in (nI s) 4 := vp_in_nI hs (by omega)
  have hm : vp_in (nI f) 30 := vp_in_nI (by omega) (by omega)
  have hs3 : nI s ≤ (3 : Int32) := nI_le (b := 3) (by omega) (by omega)
  have hs0 : ¬ nI s < 0 := nI_pos (by omega)
  have start : ∀ {K : Int32 → Prop}, True → True := fun _ => trivial
  rw [nI_clamp (show f < 2 ^ 31 by omega), nI_clamp (show s < 2 ^ 31 by omega)]
  cases hp : pp f with
  | none =>
    refine ⟨hv, fun q => absurd (hC.1 f hp (by omega)) q, fun _ => ?_⟩
    unfold wp_X8_grow
    rw [nI_clamp (show f < 2 ^ 31 by omega)]
    exact X8_isFace_t (by omega) hf ⟨fun q => absurd q (by decide), fun _ => ⟨fun q => absurd q hs0, fun _ => ⟨fun _ => ⟨hm, fun q => absurd (hMH.1 f (by omega) hp) q, fun _ => same _⟩, fun q => absurd hs3 q⟩⟩⟩
  | some p =>
    obtain ⟨c1, c2, c3, c4, c5, c6, c7, c8, c9⟩ := hC.2.1 f p hp
    obtain ⟨m1, m2, m3, m4, m5⟩ := hMH.2.1 f p hp
    have hOR := (hO f p hp).2
    obtain ⟨a1, a2⟩ := sd_ok hOR hs
    obtain ⟨b1, b2, b3⟩ := hG.2 f _ hf a1 a2
    have hg22 : vp_in (nI (nb f (sd p.2.2.1 p.2.2.2 s))) 22 := vp_in_nI (by omega) (by omega)
    have hg30 : vp_in (nI (nb f (sd p.2.2.1 p.2.2.2 s))) 30 := vp_in_nI (by omega) (by omega)
    rw [c2]
    refine ⟨hv, fun _ => ?_, fun q => absurd q (by decide)⟩
    refine X3_neighbour_ok hT hF hf hs c7 hOR ?_
    rw [nI_clamp (show nb f (sd p.2.2.1 p.2.2.2 s) < 2 ^ 31 by omega)]
    cases hgp : pp (nb f (sd p.2.2.1 p.2.2.2 s)) with
    | some pg =>
      rw [(hC.2.1 _ pg hgp).2.1]
      refine ⟨hg22, fun q => absurd q (by decide), fun _ => ?_⟩
      unfold wp_X8_grow
      rw [nI_clamp (show f < 2 ^ 31 by omega), m1, m4, m5]
      refine X8_isFace_t (by omega) hf ⟨fun q => absurd q (by decide), fun _ => ⟨fun q => absurd q hs0, fun _ => ⟨fun _ => ⟨hm, fun _ => ⟨hm, hm, X8_sideOf_ok hs c5 c6 (X8_beside_ok hM hF hf a1 a2 ?_)⟩, fun q => absurd q (by decide)⟩, fun q => absurd hs3 q⟩⟩⟩
      rw [nI_clamp (show nb f (sd p.2.2.1 p.2.2.2 s) < 2 ^ 31 by omega), (hMH.2.1 _ pg hgp).1]
      exact ⟨hg30, fun q => absurd q (by decide), fun _ => same _⟩
    | none =>
      rw [hC.1 _ hgp (by omega), c3, c4]
      refine ⟨hg22, fun _ => ⟨hv, hv4, hv, hv4, X3_faceAt_ok hC ?_⟩, fun q => absurd rfl q⟩
      have hlF := lf_F (P := pAtP pp (p.1 + q_SIDE_X s) (p.2.1 + q_SIDE_Y s)) (M := 22) (F := F) hF (fun k hk => by obtain ⟨q, q1, -⟩ := hk; exact (hO k q q1).1)
      have mod : ∀ {post2 : Int32 → Int32 → (Nat → Int32) → (Nat → Int32) → (Nat → Int32) → (Nat → Int32) → (Nat → Int32) → Prop}, (lf (pAtP pp (p.1 + q_SIDE_X s) (p.2.1 + q_SIDE_Y s)) F < F → post2 ((-10 : Int32) - nI (lf (pAtP pp (p.1 + q_SIDE_X s) (p.2.1 + q_SIDE_Y s)) F)) laid mr mu mx my ml) → (¬ lf (pAtP pp (p.1 + q_SIDE_X s) (p.2.1 + q_SIDE_Y s)) F < F → post2 (nI (nb f (sd p.2.2.1 p.2.2.2 s))) (laid + 1) (upd mr (nb f (sd p.2.2.1 p.2.2.2 s)) (nI (nxt on f p s).2.2.1)) (upd mu (nb f (sd p.2.2.1 p.2.2.2 s)) (nI (nxt on f p s).2.2.2)) (upd mx (nb f (sd p.2.2.1 p.2.2.2 s)) (nxt on f p s).1) (upd my (nb f (sd p.2.2.1 p.2.2.2 s)) (nxt on f p s).2.1) (upd ml (nb f (sd p.2.2.1 p.2.2.2 s)) 1)) → wp_X8_grow (nI F) laid mr mu mx my mow ml mbe (nI f) (nI s) post2 := by
        intro post2 k1 k2
        have hne : nb f (sd p.2.2.1 p.2.2.2 s) ≠ f := fun q => by rw [q, hp] at hgp; cases hgp
        unfold wp_X8_grow
        rw [nI_clamp (show f < 2 ^ 31 by omega), m1, m2, m3, m4, m5]
        refine X8_isFace_t (by omega) hf ⟨fun q => absurd q (by decide), fun _ => ⟨fun q => absurd q hs0, fun _ => ⟨fun _ => ⟨hm, fun _ => ⟨hm, hm, X8_sideOf_ok hs c5 c6 (X8_beside_ok hM hF hf a1 a2 ?_)⟩, fun q => absurd q (by decide)⟩, fun q => absurd hs3 q⟩⟩⟩
        rw [nI_clamp (show nb f (sd p.2.2.1 p.2.2.2 s) < 2 ^ 31 by omega), hMH.1 _ (by omega) hgp, nar1]
        refine ⟨hg30, fun _ => ⟨hm, X8_sideX_ok s hs ⟨hm, X8_sideY_ok s hs (X8_grow_loop hF hMH k1 (fun q => ?_))⟩⟩, fun q => absurd rfl q⟩
        refine ⟨hg30, hg30, hg30, hm, hm, X8_nextRight_ok hG hM hF hf hs hOR ⟨hg30, hm, hm, ?_⟩⟩
        rw [pk_un (Ne.symm hne), m4]
        exact X8_nextUp_ok hG hM hF hf hs hOR ⟨hg30, k2 q⟩
      by_cases hl : lf (pAtP pp (p.1 + q_SIDE_X s) (p.2.1 + q_SIDE_Y s)) 22 < 22
      · obtain ⟨e1, e2⟩ := hlF.1 hl
        rw [eN_t hl]
        refine ⟨fun q => absurd q (nI_pos (by omega)), fun _ => ?_⟩
        rw [← e1]
        exact mod (fun _ => same _) (fun q => absurd e2 q)
      · rw [eN_f hl]
        refine ⟨fun _ => ?_, fun q => absurd (by decide) q⟩
        have hpos : 1 ≤ pN pp := by rw [pN_del c1 hp]; omega
        have hN2 : N + 1 ≤ pN pp := by rcases hN with q | q <;> omega
        have hpN2 := pN_le (pp := ppset pp (nb f (sd p.2.2.1 p.2.2.2 s)) (some (nxt on f p s)))
        rw [pN_add (by omega) hgp] at hpN2
        have hside := sideXY s hs
        refine X3_putBeside_ok (M := N + 1) hG hT hF hC (by omega) (by omega) hf hs hp hOR hgp (sm_step c8 ⟨hside.2.1, hside.2.2.1⟩ (by omega)) (sm_step c9 ⟨hside.2.2.2.1, hside.2.2.2.2⟩ (by omega)) (fun hd li x y hC2 => ?_)
        refine mod (fun q => absurd q (hlF.2 hl)) (fun _ => h _ _ _ _ _ _ _ _ _ _ _ _ _ ⟨_, N + 1, Or.inr (by rw [pN_add (by omega) hgp]; omega), hC2, fun g q hq => ?_, MH_add hMH (by omega) hgp⟩)
        by_cases e : g = nb f (sd p.2.2.1 p.2.2.2 s)
        · subst e; rw [ppset_s] at hq; cases hq; exact ⟨b1, OR_next hG hf hOR hs⟩
        · rw [ppset_n e] at hq; exact hO g q hq
set_option maxHeartbeats 1000000 in
theorem op_paper {F : Nat} {look : Nat → Nat} {ct laid p1 p2 : Int32} {hd li x y mr mu mx my ml : Nat → Int32} {post : Int32 → Int32 → Prop} (hF : F ≤ 22) (hH : handI F look ct hd li x y laid mr mu mx my ml) (h : ∀ r, post r r) : wp_X7_paper hd li x y (nI F) p1 p2 (fun r => wp_X8_paper (nI F) mr mu mx my ml p1 p2 (fun r' => post r r')) := by
  obtain ⟨pp, N, hN, hC, hO, hMH⟩ := id hH
  unfold wp_X7_paper
  refine X7_isFace_ok (by omega) (fun f hf e => ?_) (fun hn => ?_)
  rotate_left
  · refine ⟨fun _ => ?_, fun q => absurd rfl q⟩
    unfold wp_X8_paper
    exact X8_isFace_f (by omega) hn ⟨fun _ => h _, fun q => absurd rfl q⟩
  subst e
  have hv : vp_in (nI f) 22 := vp_in_nI (by omega) (by omega)
  have hm : vp_in (nI f) 30 := vp_in_nI (by omega) (by omega)
  rw [nI_clamp (show f < 2 ^ 31 by omega)]
  refine ⟨fun q => absurd q (by decide), fun _ => ⟨hv, fun g => ?_, fun g => ?_⟩⟩
  rotate_left
  · unfold wp_X8_paper
    rw [nI_clamp (show f < 2 ^ 31 by omega)]
    cases hp : pp f with
    | none => exact X8_isFace_t (by omega) hf ⟨fun q => absurd q (by decide), fun _ => ⟨hm, fun _ => h _, fun q => absurd (hMH.1 f (by omega) hp) q⟩⟩
    | some p => rw [(hC.2.1 f p hp).2.1] at g; exact absurd g (by decide)
  cases hp : pp f with
  | none => exact absurd (hC.1 f hp (by omega)) g
  | some p =>
    obtain ⟨c1, c2, c3, c4, c5, c6, c7, c8, c9⟩ := hC.2.1 f p hp
    obtain ⟨m1, m2, m3, m4, m5⟩ := hMH.2.1 f p hp
    have c70 := c7 0 (by omega)
    have c71 := c7 1 (by omega)
    have i0 : ¬ (0 : Int32) < 0 := by decide
    have mo : ∀ {post2 : Int32 → Prop}, (p2 = 0 → post2 p.1) → (p2 = 1 → post2 p.2.1) → (p2 = 2 → post2 (nI p.2.2.1)) → (p2 = 3 → post2 (nI p.2.2.2)) → (¬ p2 = 0 → ¬ p2 = 1 → ¬ p2 = 2 → ¬ p2 = 3 → post2 (-1000)) → wp_X8_paper (nI F) mr mu mx my ml (nI f) p2 post2 := by
      intro post2 k0 k1 k2 k3 k4
      unfold wp_X8_paper
      rw [nI_clamp (show f < 2 ^ 31 by omega), m1, m2, m3, m4, m5]
      refine X8_isFace_t (by omega) hf ⟨fun q => absurd q (by decide), fun _ => ⟨hm, fun q => absurd q (by decide), fun _ => ⟨fun q => ?_, fun q => ⟨fun q2 => ⟨fun n0 => ⟨fun n1 => ⟨fun n2 => ⟨hm, ?_⟩, fun e2 => ⟨hm, k2 e2⟩⟩, fun e1 => ⟨hm, k1 e1⟩⟩, fun e0 => ⟨hm, k0 e0⟩⟩, fun q2 => ?_⟩⟩⟩⟩
      · refine k4 ?_ ?_ ?_ ?_ <;> (intro e; rw [e] at q; exact absurd q (by decide))
      · refine k3 ?_
        rcases pk_ix p2 (n := 4) (by omega) with z | z | ⟨j, hj, z⟩
        · exact absurd z q
        · rw [Int32.le_iff_toInt_le, show (3 : Int32).toInt = 3 by decide] at q2
          rw [Int32.le_iff_toInt_le, show (nI 4).toInt = 4 by decide] at z
          omega
        · rcases (show j = 0 ∨ j = 1 ∨ j = 2 ∨ j = 3 by omega) with rfl | rfl | rfl | rfl
          · exact absurd z n0
          · exact absurd z n1
          · exact absurd z n2
          · exact z
      · refine k4 ?_ ?_ ?_ ?_ <;> (intro e; rw [e] at q2; exact absurd (by decide) q2)
    rw [c3, c4]
    refine ⟨fun e0 => ⟨hv, ?_⟩, fun n0 => ⟨fun e1 => ⟨hv, ?_⟩, fun n1 => ⟨fun e2 => X3_heading_ok (s := 0) c1 (by omega) ?_, fun n2 => ⟨fun e3 => X3_heading_ok (s := 1) c1 (by omega) ?_, fun n3 => ?_⟩⟩⟩⟩
    · subst e0; exact mo (fun _ => h _) (fun q => absurd q (by decide)) (fun q => absurd q (by decide)) (fun q => absurd q (by decide)) (fun q => absurd rfl q)
    · subst e1; exact mo (fun q => absurd q (by decide)) (fun _ => h _) (fun q => absurd q (by decide)) (fun q => absurd q (by decide)) (fun _ q => absurd rfl q)
    · rw [c70]
      subst e2; exact mo (fun q => absurd q (by decide)) (fun q => absurd q (by decide)) (fun _ => h _) (fun q => absurd q (by decide)) (fun _ _ q => absurd rfl q)
    · rw [c71]
      subst e3; exact mo (fun q => absurd q (by decide)) (fun q => absurd q (by decide)) (fun q => absurd q (by decide)) (fun _ => h _) (fun _ _ _ q => absurd rfl q)
    · exact mo (fun q => absurd q n0) (fun q => absurd q n1) (fun q => absurd q n2) (fun q => absurd q n3) (fun _ _ _ _ => h _)
