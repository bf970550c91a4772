-- PURE 12: the model's search goes the same way
def SMr (cn stp : Nat) (ord cho : Nat → Nat) (pp : Nat → Option PL) (count step : Int32) (order choice has atX atY right up : Nat → Int32) : Prop := count = nI cn ∧ step = nI stp ∧ (∀ k, k < cn → order k = nI (ord k)) ∧ (∀ k, 1 ≤ k → k < cn → choice k = nI (cho k)) ∧ (∀ f, f < 30 → pp f = none → has f = 0) ∧ ∀ f p, pp f = some p → has f = 1 ∧ atX f = p.1 ∧ atY f = p.2.1 ∧ right f = nI p.2.2.1 ∧ up f = nI p.2.2.2
theorem nb1 : narrow .boolean (.int (1 : Int32)) = .int (1 : Int32) := rfl
theorem nb0 : narrow .boolean (.int (0 : Int32)) = .int (0 : Int32) := rfl
theorem X8_isEmpty_ok {F : Nat} {look : Nat → Nat} {cn stp : Nat} {ord cho : Nat → Nat} {pp : Nat → Option PL} {count step a b : Int32} {order choice has atX atY right up : Nat → Int32} {post : Int32 → Prop} (hF : F ≤ 22) (hW : SW F look cn stp ord cho pp) (hS : SMr cn stp ord cho pp count step order choice has atX atY right up)
    (h1 : (∀ g, ¬ pAtP pp a b g) → post 1) (h0 : (∃ g, pAtP pp a b g) → post 0) : wp_X8_isEmpty count atX atY order a b post := by
  obtain ⟨w1, w2, w3, w4, w5, w6, w7, w8, w9⟩ := id hW
  obtain ⟨m1, m2, m3, m4, m5, m6⟩ := id hS
  subst m1
  unfold wp_X8_isEmpty
  refine Lp_of (fun v => ∃ i, i ≤ cn ∧ v.2 = nI i ∧ ((v.1 = 1 ∧ ∀ k, k < i → ¬ pAtP pp a b (ord k)) ∨ (v.1 = 0 ∧ ∃ g, pAtP pp a b g))) (fun v => cn - v.2.toNatClampNeg) (fun v kb hI hkb => ?_) _ ⟨0, by omega, rfl, Or.inl ⟨rfl, fun k hk => by omega⟩⟩
  obtain ⟨v1, v2⟩ := v
  obtain ⟨i, hi, e2, hv⟩ := hI
  subst e2
  dsimp only [wl_X8_isEmpty_5, wb_X8_isEmpty_5]
  refine pk_le cn i (fun hle => ?_) (fun hlt => ?_)
  · have e : i = cn := by omega
    subst e
    rcases hv with ⟨q, hq⟩ | ⟨q, hq⟩
    · subst q
      refine ⟨nb1, h1 (fun g hg => ?_)⟩
      obtain ⟨p, p1, p2⟩ := hg
      obtain ⟨-, -, k, k1, k2⟩ := w5 g p p1
      exact hq k k1 (by rw [k2]; exact ⟨p, p1, p2⟩)
    · subst q
      exact ⟨nb0, h0 hq⟩
  · have hnx : ∀ u : Int32, ((u = 1 ∧ ∀ k, k < i + 1 → ¬ pAtP pp a b (ord k)) ∨ (u = 0 ∧ ∃ g, pAtP pp a b g)) → kb (u, nI (i + 1)) := fun u hu => hkb _ ⟨i + 1, by omega, rfl, hu⟩ (by show cn - (nI (i + 1)).toNatClampNeg < cn - (nI i).toNatClampNeg; rw [nI_clamp (by omega), nI_clamp (by omega)]; omega)
    rw [nI_1]
    rcases hv with ⟨q, hq⟩ | ⟨q, hq⟩
    · subst q
      obtain ⟨p, hp, -⟩ := w4 i (by omega)
      obtain ⟨c1, c2, c3, c4, c5⟩ := m6 _ p hp
      have hf := (w5 _ p hp).1
      have hv1 : vp_in (nI i) 30 := vp_in_nI (by omega) (by omega)
      have hv2 : vp_in (nI (ord i)) 30 := vp_in_nI (by omega) (by omega)
      refine ⟨fun z => absurd z (by decide), fun _ => ?_⟩
      rw [nI_clamp (show i < 2 ^ 31 by omega), m3 i (by omega), nI_clamp (show ord i < 2 ^ 31 by omega), c2, c3]
      have hst : ¬ (p.1 = a ∧ p.2.1 = b) → kb (1, nI (i + 1)) := fun z => hnx 1 (Or.inl ⟨rfl, fun k hk => by
        by_cases e : k = i
        · subst e
          rintro ⟨p2, p3, p4⟩
          rw [hp] at p3; cases p3
          exact z p4
        · exact hq k (by omega)⟩)
      refine ⟨hv1, hv2, fun z => hst (fun y => z y.1), fun z1 => ⟨hv1, hv2, fun z2 => hnx 0 (Or.inr ⟨rfl, ord i, p, hp, z1, z2⟩), fun z => hst (fun y => z y.2)⟩⟩
    · subst q
      exact ⟨fun _ => hnx 0 (Or.inr ⟨rfl, hq⟩), fun z => absurd rfl z⟩
theorem SMr_add {cn stp : Nat} {ord cho : Nat → Nat} {pp : Nat → Option PL} {count step : Int32} {order choice has atX atY right up : Nat → Int32} {g : Nat} {p : PL} (h : SMr cn stp ord cho pp count step order choice has atX atY right up) (hg : g < 22) :
    SMr (cn + 1) (stp + 1) (updN ord cn g) (updN cho cn stp) (ppset pp g (some p)) (nI (cn + 1)) (nI (stp + 1)) (upd order cn (nI g)) (upd choice cn (nI stp)) (upd has g 1) (upd atX g p.1) (upd atY g p.2.1) (upd right g (nI p.2.2.1)) (upd up g (nI p.2.2.2)) := by
  obtain ⟨m1, m2, m3, m4, m5, m6⟩ := h
  refine ⟨rfl, rfl, fun k hk => ?_, fun k k1 hk => ?_, fun f hf hp => ?_, fun f q hq => ?_⟩
  · by_cases e : k = cn
    · subst e; rw [pk_us, updN_s]
    · rw [pk_un e, updN_n e]; exact m3 k (by omega)
  · by_cases e : k = cn
    · subst e; rw [pk_us, updN_s]
    · rw [pk_un e, updN_n e]; exact m4 k k1 (by omega)
  · by_cases e : f = g
    · subst e; rw [ppset_s] at hp; cases hp
    · rw [ppset_n e] at hp; rw [pk_un e]; exact m5 f hf hp
  · by_cases e : f = g
    · subst e; rw [ppset_s] at hq; cases hq
      rw [pk_us, pk_us, pk_us, pk_us, pk_us]
      exact ⟨rfl, rfl, rfl, rfl, rfl⟩
    · rw [ppset_n e] at hq; rw [pk_un e, pk_un e, pk_un e, pk_un e, pk_un e]; exact m6 f q hq
theorem SMr_pop {cn stp : Nat} {ord cho : Nat → Nat} {pp : Nat → Option PL} {count step : Int32} {order choice has atX atY right up : Nat → Int32} (h : SMr cn stp ord cho pp count step order choice has atX atY right up) :
    SMr (cn - 1) (cho (cn - 1) + 1) ord cho (ppset pp (ord (cn - 1)) none) (nI (cn - 1)) (nI (cho (cn - 1) + 1)) order choice (upd has (ord (cn - 1)) 0) atX atY right up := by
  obtain ⟨m1, m2, m3, m4, m5, m6⟩ := h
  refine ⟨rfl, rfl, fun k hk => m3 k (by omega), fun k k1 hk => m4 k k1 (by omega), fun f hf hp => ?_, fun f q hq => ?_⟩
  · by_cases e : f = ord (cn - 1)
    · subst e; rw [pk_us]
    · rw [ppset_n e] at hp; rw [pk_un e]; exact m5 f hf hp
  · by_cases e : f = ord (cn - 1)
    · subst e; rw [ppset_s] at hq; cases hq
    · rw [ppset_n e] at hq; rw [pk_un e]; exact m6 f q hq
abbrev NMt (NS : Type) : Type := NS → Int32 → Int32 → Int32 → Int32 → Int32 → (Nat → Int32) → (Nat → Int32) → (Nat → Int32) → (Nat → Int32) → Prop
/-- a net, in the model -/
def netMok {NS : Type} (F : Nat) (look : Nat → Nat) (netS : (Nat → Option PL) → NS → NS) (NM : NMt NS) : Prop :=
  ∀ (ns : NS) (stp : Nat) (ord cho : Nat → Nat) (pp : Nat → Option PL) (nets bw bh bn shs : Int32) (atX atY br bx bY ix iy ro sr ss : Nat → Int32) (K : Int32 → Int32 → Int32 → Int32 → Int32 → (Nat → Int32) → (Nat → Int32) → (Nat → Int32) → (Nat → Int32) → (Nat → Int32) → (Nat → Int32) → (Nat → Int32) → (Nat → Int32) → Prop),
    SW F look F stp ord cho pp → (∀ f p, pp f = some p → atX f = p.1 ∧ atY f = p.2.1) → NM ns nets bw bh bn shs bx bY sr ss →
    (∀ (nets bw bh bn shs : Int32) (br bx bY ix iy ro sr ss : Nat → Int32), NM (netS pp ns) nets bw bh bn shs bx bY sr ss → K nets bw bh bn shs br bx bY ix iy ro sr ss) →
    wp_X8_net (nI F) nets bw bh bn shs atX atY br bx bY ix iy ro sr ss K
set_option maxHeartbeats 4000000 in
theorem run_sim {NS : Type} {F : Nat} {look : Nat → Nat} {nb on : Nat → Nat → Nat} {netS : (Nat → Option PL) → NS → NS} {NM : NMt NS} {w : Nat} {wb : Int32} {lo be ow : Nat → Int32} {kx : AX NS → Prop} {k218 k361 : Int32 → Int32 → Int32 → Int32 → Int32 → Int32 → Int32 → Int32 → Int32 → (Nat → Int32) → (Nat → Int32) → (Nat → Int32) → (Nat → Int32) → (Nat → Int32) → (Nat → Int32) → (Nat → Int32) → (Nat → Int32) → (Nat → Int32) → (Nat → Int32) → (Nat → Int32) → (Nat → Int32) → (Nat → Int32) → (Nat → Int32) → (Nat → Int32) → Prop}
    (hF : F ≤ 22) (hG : GS F look nb on) (hT : TB F look nb on lo be ow) (hN : netMok F look netS NM) (hw : w ≤ 500)
    (hk : ∀ (cn stp : Nat) (ord cho : Nat → Nat) (pp : Nat → Option PL) (ns : NS) (en : Bool) (u : Nat) (count step nets bw bh bn shs : Int32) (atX atY br bx bY ch has ix iy od ri ro sr ss up : Nat → Int32), kx (cn, stp, ord, cho, pp, ns, en, u) → SW F look cn stp ord cho pp → SMr cn stp ord cho pp count step od ch has atX atY ri up → NM ns nets bw bh bn shs bx bY sr ss →
      k218 count step (enI en) nets (wb + nI u) bw bh bn shs atX atY br bx bY ch has ix iy od ri ro sr ss up ∧ k361 count step (enI en) nets (wb + nI u) bw bh bn shs atX atY br bx bY ch has ix iy od ri ro sr ss up) :
    ∀ (n cn stp : Nat) (ord cho : Nat → Nat) (pp : Nat → Option PL) (ns : NS) (en : Bool) (u : Nat) (count step nets bw bh bn shs : Int32) (atX atY br bx bY ch has ix iy od ri ro sr ss up : Nat → Int32), lpN (gA F nb on netS w kx) n (cn, stp, ord, cho, pp, ns, en, u) → SW F look cn stp ord cho pp → SMr cn stp ord cho pp count step od ch has atX atY ri up → NM ns nets bw bh bn shs bx bY sr ss → u ≤ w →
      lpN (wl_X8_run_26 (nI F) ow be (nI w) k218 k361) n (nI u, count, step, enI en, nets, wb + nI u, bw, bh, bn, shs, atX, atY, br, bx, bY, ch, has, ix, iy, od, ri, ro, sr, ss, up) := by
  intro n
  induction n with
  | zero => intro cn stp ord cho pp ns en u count step nets bw bh bn shs atX atY br bx bY ch has ix iy od ri ro sr ss up h; exact False.elim h
  | succ n ih =>
    intro cn stp ord cho pp ns en u count step nets bw bh bn shs atX atY br bx bY ch has ix iy od ri ro sr ss up h hW hS hC hu
    have h : fA F nb on netS w kx (lpN (gA F nb on netS w kx) n) cn stp ord cho pp ns en u := h
    show wl_X8_run_26 (nI F) ow be (nI w) k218 k361 (lpN (wl_X8_run_26 (nI F) ow be (nI w) k218 k361) n) _
    dsimp only [wl_X8_run_26, wb_X8_run_26]
    obtain ⟨w1, w2, w3, w4, w5, w6, w7, w8, w9⟩ := id hW
    obtain ⟨m1, m2, m3, m4, m5, m6⟩ := id hS
    cases en with
    | true => exact ⟨fun _ => (hk cn stp ord cho pp ns true u count step nets bw bh bn shs atX atY br bx bY ch has ix iy od ri ro sr ss up (h.1 rfl) hW hS hC).2, fun q => absurd q (by decide)⟩
    | false =>
      refine ⟨fun q => absurd rfl q, fun _ => ?_⟩
      replace h := h.2 rfl
      subst m1 m2
      rw [show (4 : Int32) * nI cn = nI (cn * 4) from by rw [Int32.mul_comm]; exact pk_mul cn 4]
      have hst4 : nI stp = nI (cn * 4) ↔ stp = cn * 4 := nI_eq (by omega) (by omega)
      refine ⟨fun hne => ?_, fun heq => ?_⟩
      · have hlt : stp < cn * 4 := by have : ¬ stp = cn * 4 := fun e => hne (hst4.mpr e); omega
        obtain ⟨p, hp, b2, b3, -⟩ := w4 (stp / 4) (by omega)
        replace h := h.2 (by omega) p hp
        obtain ⟨c1, c2, c3, c4, c5⟩ := m6 _ p hp
        obtain ⟨a1, a2, -⟩ := w5 _ p hp
        have hs4 : stp % 4 < 4 := by omega
        obtain ⟨d1, d2⟩ := sd_ok a2 hs4
        obtain ⟨g1, g2, g3⟩ := hG.2 _ _ a1 d1 d2
        have hv1 : vp_in (nI (stp / 4)) 30 := vp_in_nI (by omega) (by omega)
        have hv2 : vp_in (nI (ord (stp / 4))) 30 := vp_in_nI (by omega) (by omega)
        have hv3 : vp_in (nI (tgt nb (ord (stp / 4)) p (stp % 4))) 30 := vp_in_nI (show nb _ _ < 30 by omega) (by omega)
        have hv4 : vp_in (nI cn) 30 := vp_in_nI (by omega) (by omega)
        have htg : tgt nb (ord (stp / 4)) p (stp % 4) < 2 ^ 31 := by show nb _ _ < 2 ^ 31; omega
        rw [div4 (by omega), show nI stp - nI (stp / 4) * (4 : Int32) = nI (stp % 4) from by rw [← div4 (show stp < 2 ^ 31 by omega)]; exact rem4 (by omega), nI_clamp (show stp / 4 < 2 ^ 31 by omega), m3 _ (by omega), nI_clamp (show ord (stp / 4) < 2 ^ 31 by omega), c2, c3, c4, c5, nI_1, nI_1]
        refine ⟨hv1, hv2, hv2, X8_sideOf_ok hs4 a2.1 a2.2.1 (X8_beside_ok hT hF a1 d1 d2 ⟨hv2, X8_sideX_ok _ hs4 ⟨hv2, X8_sideY_ok _ hs4 ⟨hv3, ?_⟩⟩⟩)⟩
        have hno : ¬ isC nb on pp (ord (stp / 4)) p (stp % 4) → lpN (wl_X8_run_26 (nI F) ow be (nI w) k218 k361) n (nI u, nI cn, nI (stp + 1), enI false, nets, wb + nI u, bw, bh, bn, shs, atX, atY, br, bx, bY, ch, has, ix, iy, od, ri, ro, sr, ss, up) := fun hc =>
          ih _ _ _ _ _ ns false u _ _ _ _ _ _ _ _ _ _ _ _ _ _ _ _ _ _ _ _ _ _ (h.2 hc) (SW_step hW hlt) ⟨rfl, rfl, m3, m4, m5, m6⟩ hC hu
        rw [nI_clamp (show nb (ord (stp / 4)) (sd p.2.2.1 p.2.2.2 (stp % 4)) < 2 ^ 31 by omega)]
        refine ⟨fun q => hno (fun z => q (m5 _ (by omega) z.1)), fun q => ?_⟩
        have hn : pp (tgt nb (ord (stp / 4)) p (stp % 4)) = none := by
          cases e : pp (tgt nb (ord (stp / 4)) p (stp % 4)) with
          | none => rfl
          | some pg => have := (m6 _ pg e).1; unfold tgt at this; rw [this] at q; exact absurd q (by decide)
        refine X8_isEmpty_ok hF hW hS (fun z => ⟨fun q => absurd q (by decide), fun _ => ?_⟩) (fun z => ⟨fun _ => hno (fun hc => ?_), fun q => absurd rfl q⟩)
        · have hc : isC nb on pp (ord (stp / 4)) p (stp % 4) := ⟨hn, z⟩
          have huw : nI u = nI w ↔ u = w := nI_eq (by omega) (by omega)
          refine ⟨fun q => ?_, fun q => ?_⟩
          · have hfg : ord (stp / 4) ≠ nb (ord (stp / 4)) (sd p.2.2.1 p.2.2.2 (stp % 4)) := fun e => by
              have hn2 : pp (nb (ord (stp / 4)) (sd p.2.2.1 p.2.2.2 (stp % 4))) = none := hn
              rw [← e, hp] at hn2; cases hn2
            refine ⟨hv3, hv3, hv3, hv2, hv2, X8_nextRight_ok hG hT hF a1 hs4 a2 ⟨hv3, hv2, hv2, ?_⟩⟩
            rw [pk_un hfg, c4, nar1, nI_clamp (show cn < 2 ^ 31 by omega), nI_1, Int32.add_assoc, nI_1]
            refine X8_nextUp_ok hG hT hF a1 hs4 a2 ⟨hv3, hv4, hv4, ?_⟩
            exact ih _ _ _ _ _ ns false (u + 1) _ _ _ _ _ _ _ _ _ _ _ _ _ _ _ _ _ _ _ _ _ _ ((h.1 hc).2 (fun e => q (huw.mpr e))) (SW_add hF hG hW hlt hp hc) (SMr_add hS (by show nb _ _ < 22; omega)) hC (by have : ¬ u = w := fun e => q (huw.mpr e); omega)
          · exact (hk cn stp ord cho pp ns false u (nI cn) (nI stp) nets bw bh bn shs atX atY br bx bY ch has ix iy od ri ro sr ss up ((h.1 hc).1 (huw.mp q)) hW hS hC).1
        · obtain ⟨g, hg⟩ := z
          exact hc.2 g hg
      · have hst : stp = cn * 4 := hst4.mp heq
        replace h := h.1 hst
        have tail : ∀ (nets bw bh bn shs : Int32) (br bx bY ix iy ro sr ss : Nat → Int32), NM (nsN F cn netS pp ns) nets bw bh bn shs bx bY sr ss → wj_X8_run_61 (fun l2 count step ended nets work bw bh bn shs atX atY br bx bY ch has ix iy od ri ro sr ss up => lpN (wl_X8_run_26 (nI F) ow be (nI w) k218 k361) n (l2, count, step, ended, nets, work, bw, bh, bn, shs, atX, atY, br, bx, bY, ch, has, ix, iy, od, ri, ro, sr, ss, up)) (nI u) (nI cn) (nI stp) (enI false) nets (wb + nI u) bw bh bn shs atX atY br bx bY ch has ix iy od ri ro sr ss up := by
          intro nets bw bh bn shs br bx bY ix iy ro sr ss hC2
          unfold wj_X8_run_61
          have h1e : nI cn = (1 : Int32) ↔ cn = 1 := nI_eq (b := 1) (by omega) (by omega)
          refine ⟨fun q => ?_, fun q => ?_⟩
          · have hc1 : ¬ cn = 1 := fun e => q (h1e.mpr e)
            have hv : vp_in (nI (cn - 1)) 30 := vp_in_nI (by omega) (by omega)
            obtain ⟨p, hp, -⟩ := w4 (cn - 1) (by omega)
            have hf := (w5 _ p hp).1
            rw [show nI cn - (1 : Int32) = nI (cn - 1) from by rw [show cn = cn - 1 + 1 by omega]; exact nI_pred _, nI_clamp (show cn - 1 < 2 ^ 31 by omega), m3 _ (by omega), m4 _ (by omega) (by omega), nI_clamp (show ord (cn - 1) < 2 ^ 31 by omega), nar0, nI_1]
            exact ⟨hv, vp_in_nI (by omega) (by omega), hv, ih _ _ _ _ _ _ false u _ _ _ _ _ _ _ _ _ _ _ _ _ _ _ _ _ _ _ _ _ _ (h.2 hc1) (SW_pop hF hW hc1) (SMr_pop hS) hC2 hu⟩
          · have hc1 := h1e.mp q
            exact ih cn stp ord cho pp _ true u _ _ _ _ _ _ _ _ _ _ _ _ _ _ _ _ _ _ _ _ _ _ (h.1 hc1) hW hS hC2 hu
        have hcF : nI cn = nI F ↔ cn = F := nI_eq (by omega) (by omega)
        refine ⟨fun q => ?_, fun q => ?_⟩
        · refine tail _ _ _ _ _ _ _ _ _ _ _ _ _ ?_
          unfold nsN
          rw [if_neg (fun e => q (hcF.mpr e))]
          exact hC
        · have e := hcF.mp q
          subst e
          refine hN ns stp ord cho pp nets bw bh bn shs atX atY br bx bY ix iy ro sr ss _ hW (fun f p hp => ⟨(m6 f p hp).2.1, (m6 f p hp).2.2.1⟩) hC (fun nets bw bh bn shs br bx bY ix iy ro sr ss hC2 => ?_)
          refine tail _ _ _ _ _ _ _ _ _ _ _ _ _ ?_
          unfold nsN
          rw [if_pos rfl]
          exact hC2
