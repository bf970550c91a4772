-- PURE 18: shapes hang together; op_run
def adj (v w : Nat) : Prop := ∃ s, s < 4 ∧ ((w % 32 : Nat) : Int) = (v % 32 : Nat) + (q_SIDE_X s).toInt ∧ ((w / 32 : Nat) : Int) = (v / 32 : Nat) + (q_SIDE_Y s).toInt
def CN (S : Nat → Prop) : Prop := ∀ A : Nat → Prop, (∃ v, S v ∧ A v) → (∀ v w, S v → A v → S w → adj v w → A w) → ∀ v, S v → A v
theorem side_s2 : ∀ s, s < 4 → (q_SIDE_X (s2 s)).toInt = -(q_SIDE_X s).toInt ∧ (q_SIDE_Y (s2 s)).toInt = -(q_SIDE_Y s).toInt := by decide
theorem adj_symm {v w : Nat} (h : adj v w) : adj w v := by
  obtain ⟨s, h1, h2, h3⟩ := h
  have := side_s2 s h1
  exact ⟨s2 s, s2_lt s, by omega, by omega⟩
def sI (m s : Nat) : Nat := match m, s with
  | 0, s => s
  | 1, s => s1 s
  | 2, 0 => 2 | 2, 2 => 0 | 2, s => s
  | 3, 0 => 1 | 3, 1 => 2 | 3, 2 => 3 | 3, _ => 0
  | 4, 1 => 3 | 4, 3 => 1 | 4, s => s
  | 5, 0 => 3 | 5, 1 => 0 | 5, 2 => 1 | 5, _ => 2
  | 6, s => s2 s
  | _, 0 => 3 | _, 1 => 2 | _, 2 => 1 | _, _ => 0
theorem sI_ok : ∀ m, m < 8 → ∀ s, s < 4 → sI m s < 4 ∧ imX m (q_SIDE_X s) (q_SIDE_Y s) = q_SIDE_X (sI m s) ∧ imY m (q_SIDE_X s) (q_SIDE_Y s) = q_SIDE_Y (sI m s) := by decide
theorem im_add {m : Nat} (hm : m < 8) (x y a b : Int32) : imX m (x + a) (y + b) = imX m x y + imX m a b ∧ imY m (x + a) (y + b) = imY m x y + imY m a b := by
  rcases imC_ok m hm with ⟨p, q⟩ | ⟨p, q⟩ | ⟨p, q⟩ | ⟨p, q⟩ | ⟨p, q⟩ | ⟨p, q⟩ | ⟨p, q⟩ | ⟨p, q⟩ <;> simp only [p, q, Int32.neg_add, Int32.sub_eq_add_neg, and_self]
theorem nm_adj {m F f g s : Nat} {X Y : Nat → Int32} (hm : m < 8) (hF : F ≤ 22) (hX : SP X F) (hY : SP Y F) (hf : f < F) (hg : g < F) (hs : s < 4) (e1 : X f = X g + q_SIDE_X s) (e2 : Y f = Y g + q_SIDE_Y s) : adj (nmI m F X Y g) (nmI m F X Y f) := by
  obtain ⟨sX, sY⟩ := SP_im hm hX hY
  obtain ⟨i1, i2, i3⟩ := sI_ok m hm s hs
  have ix : imXr m X Y f = imXr m X Y g + q_SIDE_X (sI m s) := by unfold imXr; rw [e1, e2, (im_add hm _ _ _ _).1, i2]
  have iy : imYr m X Y f = imYr m X Y g + q_SIDE_Y (sI m s) := by unfold imYr; rw [e1, e2, (im_add hm _ _ _ _).2, i3]
  have side := sideXY (sI m s) i1
  have tx := tstep (b := q_SIDE_X (sI m s)) (sX.1 g hg) (by omega) (by omega)
  have ty := tstep (b := q_SIDE_Y (sI m s)) (sY.1 g hg) (by omega) (by omega)
  rw [← ix] at tx
  rw [← iy] at ty
  obtain ⟨-, a1, a2, -⟩ := nmI_ok hm hF hX hY hf
  obtain ⟨-, b1, b2, -⟩ := nmI_ok hm hF hX hY hg
  have c1 := (dN_ok sX hF hf).2.2
  have c2 := (dN_ok sX hF hg).2.2
  have d1 := (dN_ok sY hF hf).2.2
  have d2 := (dN_ok sY hF hg).2.2
  exact ⟨sI m s, i1, by rw [a1, b1]; omega, by rw [a2, b2]; omega⟩
theorem CN_IM {m F : Nat} {look : Nat → Nat} {stp : Nat} {ord cho : Nat → Nat} {pp : Nat → Option PL} (hm : m < 8) (hF : F ≤ 22) (hW : SW F look F stp ord cho pp) : CN (IM m F (ppX pp) (ppY pp) F) := by
  obtain ⟨sX, sY, sD⟩ := SP_of hF hW
  obtain ⟨h1, h2, h3, h4, h5, h6, h7, h8, h9⟩ := id hW
  intro A hex hcl
  have hord : ∀ k, k < F → ord k < F := fun k hk => by
    obtain ⟨p, p1, -⟩ := h4 k hk
    exact (h5 _ p p1).1
  have par : ∀ k, 1 ≤ k → k < F → ∃ j, j < k ∧ adj (nmI m F (ppX pp) (ppY pp) (ord j)) (nmI m F (ppX pp) (ppY pp) (ord k)) := fun k k1 hk => by
    obtain ⟨p, p1, p2, p3, p4⟩ := h4 k hk
    obtain ⟨j, q, s, j1, j2, j3, j4, j5⟩ := p4 k1
    exact ⟨j, j1, nm_adj hm hF sX sY (hord k hk) (hord j (by omega)) j3 (by rw [ppX_s p1, ppX_s j2]; exact j4) (by rw [ppY_s p1, ppY_s j2]; exact j5)⟩
  have hin : ∀ k, k < F → IM m F (ppX pp) (ppY pp) F (nmI m F (ppX pp) (ppY pp) (ord k)) := fun k hk => ⟨ord k, hord k hk, rfl⟩
  have up : ∀ n k, k ≤ n → k < F → A (nmI m F (ppX pp) (ppY pp) (ord k)) → A (nmI m F (ppX pp) (ppY pp) (ord 0)) := by
    intro n
    induction n with
    | zero => intro k hk _ h; rw [show k = 0 by omega] at h; exact h
    | succ n ih =>
      intro k hk hkF h
      by_cases e : k = 0
      · rw [e] at h; exact h
      · obtain ⟨j, j1, j2⟩ := par k (by omega) hkF
        exact ih j (by omega) (by omega) (hcl _ _ (hin k hkF) h (hin j (by omega)) (adj_symm j2))
  have down : A (nmI m F (ppX pp) (ppY pp) (ord 0)) → ∀ n k, k ≤ n → k < F → A (nmI m F (ppX pp) (ppY pp) (ord k)) := by
    intro h0 n
    induction n with
    | zero => intro k hk _; rw [show k = 0 by omega]; exact h0
    | succ n ih =>
      intro k hk hkF
      by_cases e : k = 0
      · rw [e]; exact h0
      · obtain ⟨j, j1, j2⟩ := par k (by omega) hkF
        exact hcl _ _ (hin j (by omega)) (ih j (by omega) (by omega)) (hin k hkF) j2
  obtain ⟨v0, ⟨f0, f1, f2⟩, hA0⟩ := hex
  obtain ⟨k0, k1, k2⟩ := SW_ord hF hW f1
  rw [← f2, ← k2] at hA0
  have h0 := up k0 k0 (Nat.le_refl _) k1 hA0
  rintro v ⟨f, g1, g2⟩
  obtain ⟨k, l1, l2⟩ := SW_ord hF hW g1
  rw [← g2, ← l2]
  exact down h0 k k (Nat.le_refl _) l1
def NI (ns : NST) : Prop := ∀ i, i < ns.2.2.1 → CN (ns.2.2.2.1 i)
theorem NI_net {F : Nat} {look : Nat → Nat} (hF : F ≤ 22) : ∀ (ns : NST) (stp : Nat) (ord cho : Nat → Nat) (pp : Nat → Option PL), SW F look F stp ord cho pp → NI ns → NI (netS F pp ns) := by
  intro ns stp ord cho pp hW hN
  show ∀ i, i < (kpS ns.2.2 (Bst F (ppX pp) (ppY pp) 7) F).1 → CN ((kpS ns.2.2 (Bst F (ppX pp) (ppY pp) 7) F).2.1 i)
  by_cases c : ns.2.2.1 < 64 ∧ ¬ inA ns.2.2 (Bst F (ppX pp) (ppY pp) 7)
  · rw [kpS_t c.1 c.2]
    intro i hi
    replace hi : i < ns.2.2.1 + 1 := hi
    show CN (updS ns.2.2.2.1 ns.2.2.1 (Bst F (ppX pp) (ppY pp) 7) i)
    by_cases e : i = ns.2.2.1
    · subst e
      rw [updS_s]
      obtain ⟨k, k1, k2⟩ := Bst_is (F := F) (X := ppX pp) (Y := ppY pp) 7
      rw [k2]
      exact CN_IM (by omega) hF hW
    · rw [updS_n e]; exact hN i (by omega)
  · rw [kpS_f (fun q => Classical.byContradiction (fun z => c ⟨q, z⟩))]
    exact hN
abbrev I3 : Type := Int32
abbrev Ar : Type := Nat → Int32
abbrev Aw : Type := Nat → Int64
/-- the search of both -/
def SrI (F : Nat) (look : Nat → Nat) (B : Nat) (ac : I3) (im ix iy lm nu pl : Ar) (nets work ended step fo wi he no : I3) (bx bY laid las : Ar) (ct : I3) (hd li : Ar) (tk : Aw) (x y : Ar) (mco mst men mne mwo bw bh bn shs : I3) (atX atY mbx mbY ch has od ri sr ss up : Ar) : Prop :=
  ∃ ns : NST, NC F ns nets ac im ix iy lm nu pl fo wi he no bx bY ∧ NM F ns mne bw bh bn shs mbx mbY sr ss ∧ NI ns ∧ ns.1 ≤ B ∧ work = mwo ∧
    ((F = 0 ∧ ended = 0 ∧ men = 0 ∧ CS 30 (fun _ => none) ct hd li x y ∧ TK (fun _ => none) tk) ∨ ∃ (cn stp : Nat) (ord cho : Nat → Nat) (pp : Nat → Option PL) (en : Bool), SW F look cn stp ord cho pp ∧ SCr cn stp ord cho pp step laid las ct hd li tk x y ∧ SMr cn stp ord cho pp mco mst od ch has atX atY ri up ∧ ended = enI en ∧ men = enI en)
set_option maxHeartbeats 4000000 in
theorem op_run {F : Nat} {look : Nat → Nat} {nb on : Nat → Nat → Nat} {B : Nat} {ac nets work ended step fo wi he no ct mco mst men mne mwo bw bh bn shs cu p1 : I3} {im ix iy lm nu pl bx bY laid las hd li x y atX atY mbx mbY ch has od ri sr ss up lo be ow mlo mbe mow br mix miy ro : Ar} {tk : Aw} (hF : F ≤ 22) (hG : GS F look nb on) (hT : TB F look nb on lo be ow) (hM : TB F look nb on mlo mbe mow) (hcu : ¬ cu = 0 → 1 ≤ F)
    (hS : SrI F look B ac im ix iy lm nu pl nets work ended step fo wi he no bx bY laid las ct hd li tk x y mco mst men mne mwo bw bh bn shs atX atY mbx mbY ch has od ri sr ss up)
    {post : I3 → I3 → Ar → Ar → Ar → Ar → Ar → Ar → I3 → I3 → I3 → I3 → I3 → I3 → I3 → I3 → Ar → Ar → Ar → Ar → I3 → Ar → Ar → Aw → Ar → Ar → I3 → I3 → I3 → I3 → I3 → I3 → I3 → I3 → I3 → I3 → Ar → Ar → Ar → Ar → Ar → Ar → Ar → Ar → Ar → Ar → Ar → Ar → Ar → Ar → Ar → Prop}
    (h : ∀ (r ac nets work ended step fo wi he no ct mco mst men mne mwo bw bh bn shs : I3) (im ix iy lm nu pl bx bY laid las hd li x y atX atY mbx mbY ch has od ri sr ss up br mix miy ro : Ar) (tk : Aw), SrI F look (B + 103000) ac im ix iy lm nu pl nets work ended step fo wi he no bx bY laid las ct hd li tk x y mco mst men mne mwo bw bh bn shs atX atY mbx mbY ch has od ri sr ss up →
      post r ac im ix iy lm nu pl nets work ended step fo wi he no bx bY laid las ct hd li tk x y r mco mst men mne mwo bw bh bn shs atX atY br mbx mbY ch has mix miy od ri ro sr ss up) :
    wp_X7_run ac im ix iy lm nu pl nets work ended step fo wi he no bx bY laid las ct hd li tk x y cu (nI F) be ow p1 (fun r ac im ix iy lm nu pl nets work ended step fo wi he no bx bY laid las ct hd li tk x y => wp_X8_run cu (nI F) mco mst men mne mwo bw bh bn shs atX atY br mbx mbY ch has mix miy mow mbe od ri ro sr ss up p1 (fun r' mco mst men mne mwo bw bh bn shs atX atY br mbx mbY ch has mix miy od ri ro sr ss up => post r ac im ix iy lm nu pl nets work ended step fo wi he no bx bY laid las ct hd li tk x y r' mco mst men mne mwo bw bh bn shs atX atY br mbx mbY ch has mix miy od ri ro sr ss up)) := by
  obtain ⟨ns, s1, s2, s3, s4, s5, s6⟩ := hS
  have same : ∀ r, post r ac im ix iy lm nu pl nets work ended step fo wi he no bx bY laid las ct hd li tk x y r mco mst men mne mwo bw bh bn shs atX atY br mbx mbY ch has mix miy od ri ro sr ss up := fun r => h _ _ _ _ _ _ _ _ _ _ _ _ _ _ _ _ _ _ _ _ _ _ _ _ _ _ _ _ _ _ _ _ _ _ _ _ _ _ _ _ _ _ _ _ _ _ _ _ _ _ ⟨ns, s1, s2, s3, by omega, s5, s6⟩
  unfold wp_X7_run wp_X8_run
  refine ⟨fun q => ⟨fun _ => same _, fun z => absurd q z⟩, fun q => ⟨fun q2 => ⟨fun q3 => ?_, fun q3 => ⟨fun z => absurd z q, fun _ => ⟨fun _ => ⟨fun z => absurd q3 z, fun _ => same _⟩, fun z => absurd q2 z⟩⟩⟩, fun q2 => ⟨fun z => absurd z q, fun _ => ⟨fun z => absurd z q2, fun _ => same _⟩⟩⟩⟩
  have hF1 := hcu q3
  obtain ⟨w, hw, rfl⟩ := nI_of2 (M := 500) (n := 500) (by decide) (fun z => q (by
    have a := Int32.lt_iff_toInt_lt.mp z
    refine Int32.lt_iff_toInt_lt.mpr ?_
    have e0 : (0 : Int32).toInt = 0 := by decide
    have e1 : (1 : Int32).toInt = 1 := by decide
    omega)) q2
  rcases s6 with ⟨z, -⟩ | ⟨cn, stp, ord, cho, pp, en, hW, hSC, hSM, e1, e2⟩
  · omega
  subst e1 e2 s5
  have hm : mA w cn stp en 0 ≤ 102999 := by
    have a := hW.2.1
    have b := hW.2.2.1
    cases en with
    | true => simp only [mA]; omega
    | false => simp only [mA]; omega
  obtain ⟨cn2, stp2, ord2, cho2, pp2, ns2, en2, u2, b1, b2, b3, b4⟩ := A_term (netS := netS F) (w := w) (look := look) (nb := nb) (on := on) NI (fun ns => ns.1) hF hG (NI_net hF) (fun ns pp => Nat.le_refl _) 102999 cn stp ord cho pp ns en 0 hW hm (by omega) s3
  have hrun := b1 (fun a => a = (cn2, stp2, ord2, cho2, pp2, ns2, en2, u2)) rfl
  have w0 : work + nI 0 = work := Int32.add_zero work
  unfold wp_X2_goOn
  refine ⟨103000, ?_⟩
  have et : ((0 : Int32), nets, work, enI en, step, ac, im, ix, iy, lm, nu, pl, fo, wi, he, no, bx, bY, laid, las, ct, hd, li, tk, x, y) = (nI 0, nets, work + nI 0, enI en, step, ac, im, ix, iy, lm, nu, pl, fo, wi, he, no, bx, bY, laid, las, ct, hd, li, tk, x, y) := by rw [w0]; rfl
  rw [et]
  refine goOn_sim (wb := work) (w := w) (lo := lo) hF hG hT (netC_ok hF) hw ?_ 103000 cn stp ord cho pp ns en 0 0 nets step ac fo wi he no ct im ix iy lm nu pl bx bY laid las hd li x y tk hrun hW hSC s1 (by omega) (by omega)
  · intro cn3 stp3 ord3 cho3 pp3 ns3 en3 u3 nets step ac fo wi he no ct im ix iy lm nu pl bx bY laid las hd li x y tk hk3 hW3 hSC3 hNC3
    cases hk3
    have key : ∀ r0 : Prop, r0 → r0 ∧ r0 := fun _ z => ⟨z, z⟩
    refine key _ ⟨fun z => absurd z q, fun _ => ⟨fun _ => ⟨fun _ => ⟨103000, ?_⟩, fun z => absurd z q3⟩, fun z => absurd q2 z⟩⟩
    have et : ((0 : Int32), mco, mst, enI en, mne, work, bw, bh, bn, shs, atX, atY, br, mbx, mbY, ch, has, mix, miy, od, ri, ro, sr, ss, up) = (nI 0, mco, mst, enI en, mne, work + nI 0, bw, bh, bn, shs, atX, atY, br, mbx, mbY, ch, has, mix, miy, od, ri, ro, sr, ss, up) := by rw [w0]; rfl
    rw [et]
    refine run_sim (wb := work) (w := w) (lo := mlo) hF hG hM (netM_ok hF) hw ?_ 103000 cn stp ord cho pp ns en 0 mco mst mne bw bh bn shs atX atY br mbx mbY ch has mix miy od ri ro sr ss up hrun hW hSM s2 (by omega)
    · intro cn4 stp4 ord4 cho4 pp4 ns4 en4 u4 mco mst mne bw bh bn shs atX atY br mbx mbY ch has mix miy od ri ro sr ss up hk4 hW4 hSM4 hNM4
      cases hk4
      have en : mne = nets := by rw [hNC3.1, hNM4.1]
      subst en
      exact key _ (h _ _ _ _ _ _ _ _ _ _ _ _ _ _ _ _ _ _ _ _ _ _ _ _ _ _ _ _ _ _ _ _ _ _ _ _ _ _ _ _ _ _ _ _ _ _ _ _ _ _ ⟨ns2, hNC3, hNM4, b3, by omega, rfl, Or.inr ⟨cn2, stp2, ord2, cho2, pp2, en2, hW4, hSC3, hSM4, rfl, rfl⟩⟩)
