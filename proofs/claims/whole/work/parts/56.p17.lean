-- PURE 17: a net, in class and model
def ppX (pp : Nat → Option PL) (f : Nat) : Int32 := match pp f with | some p => p.1 | none => 0
def ppY (pp : Nat → Option PL) (f : Nat) : Int32 := match pp f with | some p => p.2.1 | none => 0
theorem ppX_s {pp : Nat → Option PL} {f : Nat} {p : PL} (h : pp f = some p) : ppX pp f = p.1 := by unfold ppX; rw [h]
theorem ppY_s {pp : Nat → Option PL} {f : Nat} {p : PL} (h : pp f = some p) : ppY pp f = p.2.1 := by unfold ppY; rw [h]
theorem SW_all {F : Nat} {look : Nat → Nat} {stp : Nat} {ord cho : Nat → Nat} {pp : Nat → Option PL} (hF : F ≤ 22) (h : SW F look F stp ord cho pp) {f : Nat} (hf : f < F) : ∃ p, pp f = some p := by
  obtain ⟨h1, h2, h3, h4, h5, h6, h7, h8, h9⟩ := h
  cases e : pp f with
  | some p => exact ⟨p, rfl⟩
  | none =>
    have a : cnt (fun f => pp f ≠ none) 22 + 1 ≤ cnt (fun k => k < F) 22 := cnt_sub1 (k0 := f) (fun k _ hk => by
      cases e2 : pp k with
      | none => exact absurd e2 hk
      | some p => exact (h5 k p e2).1) (by omega) hf (fun q => q e)
    have b : cnt (fun k => k < F) 22 ≤ F := cnt_below (fun k hk => hk)
    have c : cnt (fun f => pp f ≠ none) 22 = F := h9
    omega
theorem SW_ord {F : Nat} {look : Nat → Nat} {stp : Nat} {ord cho : Nat → Nat} {pp : Nat → Option PL} (hF : F ≤ 22) (h : SW F look F stp ord cho pp) {f : Nat} (hf : f < F) : ∃ k, k < F ∧ ord k = f := by
  obtain ⟨p, hp⟩ := SW_all hF h hf
  exact (h.2.2.2.2.1 f p hp).2.2
theorem tstep {a b : Int32} {N : Nat} (h : sm N a) (hN : N < 1000) (hb : -1 ≤ b.toInt ∧ b.toInt ≤ 1) : (a + b).toInt = a.toInt + b.toInt := by
  unfold sm at h
  exact tadd (by omega) (by omega)
theorem span_of {F : Nat} {z : Nat → Int32} (hs : ∀ k, k < F → sm 100 (z k)) (hp : ∀ k, 1 ≤ k → k < F → ∃ j b, j < k ∧ z k = z j + b ∧ -1 ≤ b.toInt ∧ b.toInt ≤ 1) : ∀ n, n < F → ∃ lo hi : Int, hi - lo ≤ n ∧ ∀ k, k ≤ n → lo ≤ (z k).toInt ∧ (z k).toInt ≤ hi := by
  intro n
  induction n with
  | zero =>
    intro _
    refine ⟨(z 0).toInt, (z 0).toInt, by omega, fun k hk => ?_⟩
    rw [show k = 0 by omega]; omega
  | succ n ih =>
    intro hn
    obtain ⟨lo, hi, a, b⟩ := ih (by omega)
    obtain ⟨j, d, j1, j2, j3⟩ := hp (n + 1) (by omega) hn
    have e := tstep (hs j (by omega)) (by omega) j3
    rw [← j2] at e
    have c := b j (by omega)
    by_cases c1 : (z (n + 1)).toInt < lo
    · refine ⟨(z (n + 1)).toInt, hi, by omega, fun k hk => ?_⟩
      by_cases q : k = n + 1
      · subst q; omega
      · have := b k (by omega); omega
    · by_cases c2 : hi < (z (n + 1)).toInt
      · refine ⟨lo, (z (n + 1)).toInt, by omega, fun k hk => ?_⟩
        by_cases q : k = n + 1
        · subst q; omega
        · have := b k (by omega); omega
      · refine ⟨lo, hi, by omega, fun k hk => ?_⟩
        by_cases q : k = n + 1
        · subst q; omega
        · have := b k (by omega); omega
theorem SP_of {F : Nat} {look : Nat → Nat} {stp : Nat} {ord cho : Nat → Nat} {pp : Nat → Option PL} (hF : F ≤ 22) (h : SW F look F stp ord cho pp) : SP (ppX pp) F ∧ SP (ppY pp) F ∧ DI (ppX pp) (ppY pp) F := by
  obtain ⟨h1, h2, h3, h4, h5, h6, h7, h8, h9⟩ := id h
  have hsx : ∀ k, k < F → sm 100 (ppX pp (ord k)) := fun k hk => by
    obtain ⟨p, p1, p2, p3, -⟩ := h4 k hk
    rw [ppX_s p1]; exact sm_le p2 (by omega)
  have hsy : ∀ k, k < F → sm 100 (ppY pp (ord k)) := fun k hk => by
    obtain ⟨p, p1, p2, p3, -⟩ := h4 k hk
    rw [ppY_s p1]; exact sm_le p3 (by omega)
  refine ⟨⟨fun f hf => ?_, fun f g hf hg => ?_⟩, ⟨fun f hf => ?_, fun f g hf hg => ?_⟩, fun f g hf hg e1 e2 => ?_⟩
  · obtain ⟨k, k1, k2⟩ := SW_ord hF h hf
    rw [← k2]; exact hsx k k1
  · obtain ⟨k, k1, k2⟩ := SW_ord hF h hf
    obtain ⟨j, j1, j2⟩ := SW_ord hF h hg
    obtain ⟨lo, hi, a, b⟩ := span_of (z := fun k => ppX pp (ord k)) hsx (fun k k1 hk => by
      obtain ⟨p, p1, p2, p3, p4⟩ := h4 k hk
      obtain ⟨j, q, s, j1, j2, j3, j4, j5⟩ := p4 k1
      have := sideXY s j3
      exact ⟨j, q_SIDE_X s, j1, by show ppX pp (ord k) = ppX pp (ord j) + _; rw [ppX_s p1, ppX_s j2]; exact j4, by omega, by omega⟩) (F - 1) (by omega)
    have c := b k (by omega)
    have d := b j (by omega)
    simp only [k2, j2] at c d
    omega
  · obtain ⟨k, k1, k2⟩ := SW_ord hF h hf
    rw [← k2]; exact hsy k k1
  · obtain ⟨k, k1, k2⟩ := SW_ord hF h hf
    obtain ⟨j, j1, j2⟩ := SW_ord hF h hg
    obtain ⟨lo, hi, a, b⟩ := span_of (z := fun k => ppY pp (ord k)) hsy (fun k k1 hk => by
      obtain ⟨p, p1, p2, p3, p4⟩ := h4 k hk
      obtain ⟨j, q, s, j1, j2, j3, j4, j5⟩ := p4 k1
      have := sideXY s j3
      exact ⟨j, q_SIDE_Y s, j1, by show ppY pp (ord k) = ppY pp (ord j) + _; rw [ppY_s p1, ppY_s j2]; exact j5, by omega, by omega⟩) (F - 1) (by omega)
    have c := b k (by omega)
    have d := b j (by omega)
    simp only [k2, j2] at c d
    omega
  · obtain ⟨p, hp⟩ := SW_all hF h hf
    obtain ⟨q, hq⟩ := SW_all hF h hg
    rw [ppX_s hp, ppX_s hq] at e1
    rw [ppY_s hp, ppY_s hq] at e2
    exact h8.2 f g p q hp hq e1 e2
-- the state of nets
abbrev BS : Type := Bool × Int32 × Int32 × Nat × (Nat → Int32) × (Nat → Int32)
abbrev NST : Type := Nat × BS × AL
def bsW (F : Nat) (X : Nat → Int32) : Int32 := msI X F - lsI X F + 1
def bsS (F : Nat) (X Y : Nat → Int32) (k : Nat) (b : BS) : BS := if b.1 = true ∧ b.2.1 * b.2.2.1 ≤ bsW F X * bsW F Y then b else (true, bsW F X, bsW F Y, k, X, Y)
theorem bsS_t {F : Nat} {X Y : Nat → Int32} {k : Nat} {b : BS} (h : b.1 = true) (h2 : b.2.1 * b.2.2.1 ≤ bsW F X * bsW F Y) : bsS F X Y k b = b := if_pos ⟨h, h2⟩
theorem bsS_f {F : Nat} {X Y : Nat → Int32} {k : Nat} {b : BS} (h : b.1 = true → ¬ b.2.1 * b.2.2.1 ≤ bsW F X * bsW F Y) : bsS F X Y k b = (true, bsW F X, bsW F Y, k, X, Y) := if_neg (fun q => h q.1 q.2)
noncomputable def netS (F : Nat) (pp : Nat → Option PL) (ns : NST) : NST := (ns.1 + 1, bsS F (ppX pp) (ppY pp) ns.1 ns.2.1, kpS ns.2.2 (Bst F (ppX pp) (ppY pp) 7) F)
def bRel (F : Nat) (b : BS) (wi he no : Int32) (bx bY : Nat → Int32) : Prop := wi = b.2.1 ∧ he = b.2.2.1 ∧ no = nI b.2.2.2.1 ∧ ∀ f, f < F → bx f = b.2.2.2.2.1 f ∧ bY f = b.2.2.2.2.2 f
def NC (F : Nat) : NCt NST := fun ns nets ac _ _ _ _ nu pl fo wi he no bx bY => nets = nI ns.1 ∧ GA ns.2.2 ∧ AC ns.2.2 ac nu pl ∧ fo = enI ns.2.1.1 ∧ (ns.2.1.1 = true → bRel F ns.2.1 wi he no bx bY)
def NM (F : Nat) : NMt NST := fun ns nets bw bh bn shs bx bY sr ss => nets = nI ns.1 ∧ GA ns.2.2 ∧ AM ns.2.2 shs sr ss ∧ (ns.2.1.1 = true → ns.2.1.2.2.2.1 < ns.1) ∧ (ns.1 ≤ 2 ^ 31 → (ns.2.1.1 = true → bRel F ns.2.1 bw bh bn bx bY) ∧ (ns.2.1.1 = false → bn = -9))
theorem cpyF {F : Nat} {X Z : Nat → Int32} (hF : F ≤ 22) : ∀ f, f < F → va_cpy X Z (0 : Int32).toNatClampNeg (0 : Int32).toNatClampNeg (nI F).toNatClampNeg f = X f := by
  intro f hf
  rw [nI_clamp (show F < 2 ^ 31 by omega), cl0, pk_cpy_in (Nat.zero_le _) (by omega)]
  rw [show 0 + (f - 0) = f by omega]
set_option maxHeartbeats 1000000 in
theorem netC_ok {F : Nat} {look : Nat → Nat} (hF : F ≤ 22) : netCok F look (netS F) (NC F) := by
  intro ns stp ord cho pp ct nets ac fo wi he no hd li x y im ix iy lm nu pl bx bY K hW hCS hN hK
  obtain ⟨n1, n2, n3, n4, n5⟩ := hN
  have hct : ct = nI F := by rw [hCS.2.2, hW.2.2.2.2.2.2.2.2]
  subst hct
  have h1 : 1 ≤ F := hW.1
  obtain ⟨sX, sY, sD⟩ := SP_of hF hW
  have hx : ∀ f, f < F → x f = ppX pp f := fun f hf => by
    obtain ⟨p, hp⟩ := SW_all hF hW hf
    rw [ppX_s hp]; exact (hCS.2.1 f p hp).2.2.1
  have hy : ∀ f, f < F → y f = ppY pp f := fun f hf => by
    obtain ⟨p, hp⟩ := SW_all hF hW hf
    rw [ppY_s hp]; exact (hCS.2.1 f p hp).2.2.2.1
  have sX2 : SP x F := ⟨fun f hf => by rw [hx f hf]; exact sX.1 f hf, fun f g hf hg => by rw [hx f hf, hx g hg]; exact sX.2 f g hf hg⟩
  have sY2 : SP y F := ⟨fun f hf => by rw [hy f hf]; exact sY.1 f hf, fun f g hf hg => by rw [hy f hf, hy g hg]; exact sY.2 f g hf hg⟩
  have sD2 : DI x y F := fun f g hf hg e1 e2 => sD f g hf hg (by rw [← hx f hf, ← hx g hg]; exact e1) (by rw [← hy f hf, ← hy g hg]; exact e2)
  have hIM : ∀ m, IM m F x y F = IM m F (ppX pp) (ppY pp) F := fun m => by
    have e1 : ∀ f, f < F → imXr m x y f = imXr m (ppX pp) (ppY pp) f := fun f hf => by unfold imXr; rw [hx f hf, hy f hf]
    have e2 : ∀ f, f < F → imYr m x y f = imYr m (ppX pp) (ppY pp) f := fun f hf => by unfold imYr; rw [hx f hf, hy f hf]
    funext v
    have e3 : ∀ f, f < F → nmI m F x y f = nmI m F (ppX pp) (ppY pp) f := fun f hf => by
      unfold nmI dN
      rw [lsI_congr h1 e1, lsI_congr h1 e2, e1 f hf, e2 f hf]
    exact propext ⟨fun ⟨f, f1, f2⟩ => ⟨f, f1, by rw [← e3 f f1]; exact f2⟩, fun ⟨f, f1, f2⟩ => ⟨f, f1, by rw [e3 f f1]; exact f2⟩⟩
  have hBst : ∀ m, Bst F x y m = Bst F (ppX pp) (ppY pp) m := fun m => by
    induction m with
    | zero => exact hIM 0
    | succ m ih =>
      by_cases q : less (IM (m + 1) F x y F) (Bst F x y m)
      · rw [Bst_t q]
        rw [hIM, ih] at q
        rw [Bst_t q, hIM]
      · rw [Bst_f q]
        rw [hIM, ih] at q
        rw [Bst_f q, ih]
  have hwx : msI x F - lsI x F + 1 = bsW F (ppX pp) := by unfold bsW; rw [msI_congr h1 hx, lsI_congr h1 hx]
  have hwy : msI y F - lsI y F + 1 = bsW F (ppY pp) := by unfold bsW; rw [msI_congr h1 hy, lsI_congr h1 hy]
  have tail : ∀ (fo wi he no : Int32) (bx bY : Nat → Int32), fo = enI (bsS F (ppX pp) (ppY pp) ns.1 ns.2.1).1 → ((bsS F (ppX pp) (ppY pp) ns.1 ns.2.1).1 = true → bRel F (bsS F (ppX pp) (ppY pp) ns.1 ns.2.1) wi he no bx bY) → wp_X0_keep ac im ix iy lm nu pl (nI F) x y (fun ac im ix iy lm nu pl => K fo wi he no bx bY ac im ix iy lm nu pl) := by
    intro fo wi he no bx bY q1 q2
    have gT : GSh (Bst F x y 7) F := GSh_Bst (by omega) h1 hF sX2 sY2 sD2
    refine X0_keep_ok h1 hF sX2 sY2 gT n2 n3 (fun ac im ix iy lm nu pl hA => hK _ _ _ _ _ _ _ _ _ _ _ _ _ ?_)
    rw [hBst] at hA gT
    exact ⟨by rw [n1, nI_1]; rfl, GA_kp n2 gT, hA, q1, q2⟩
  unfold wp_X1_offer
  refine X7_most_ok h1 hF (by omega) (X7_least_ok h1 hF (by omega) (X7_most_ok h1 hF (by omega) (X7_least_ok h1 hF (by omega) ?_)))
  rw [hwx, hwy]
  have new : (ns.2.1.1 = true → ¬ ns.2.1.2.1 * ns.2.1.2.2.1 ≤ bsW F (ppX pp) * bsW F (ppY pp)) → wj_X1_offer_76 (nI F) x y (fun fo wi he no bx bY => wp_X0_keep ac im ix iy lm nu pl (nI F) x y (fun ac im ix iy lm nu pl => K fo wi he no bx bY ac im ix iy lm nu pl)) nets (bsW F (ppX pp)) (bsW F (ppY pp)) bx bY := by
    intro q
    unfold wj_X1_offer_76
    have hcl : (0 : Int32).toNatClampNeg + (nI F).toNatClampNeg ≤ 22 := by rw [cl0, nI_clamp (show F < 2 ^ 31 by omega)]; omega
    have hneg : ¬ nI F < 0 := nI_pos (by omega)
    refine ⟨by decide, by decide, hneg, hcl, hcl, by decide, by decide, hneg, hcl, hcl, tail _ _ _ _ _ _ ?_ ?_⟩
    · rw [bsS_f q]; rfl
    · rw [bsS_f q]
      exact fun _ => ⟨rfl, rfl, n1, fun f hf => ⟨by rw [cpyF hF f hf]; exact hx f hf, by rw [cpyF hF f hf]; exact hy f hf⟩⟩
  cases hb : ns.2.1.1 with
  | false =>
    rw [hb] at n4
    subst n4
    exact ⟨fun _ => new (fun q => by rw [hb] at q; cases q), fun q => absurd rfl q⟩
  | true =>
    have n4b := n4
    rw [hb] at n4
    subst n4
    obtain ⟨r1, r2, r3, r4⟩ := n5 hb
    subst r1 r2
    refine ⟨fun q => absurd q (by decide), fun _ => ⟨fun q => tail _ _ _ _ _ _ ?_ ?_, fun q => new (fun _ => q)⟩⟩
    · rw [bsS_t hb q]; exact n4b
    · rw [bsS_t hb q]; exact n5
set_option maxHeartbeats 1000000 in
theorem netM_ok {F : Nat} {look : Nat → Nat} (hF : F ≤ 22) : netMok F look (netS F) (NM F) := by
  intro ns stp ord cho pp nets bw bh bn shs atX atY br bx bY ix iy ro sr ss K hW hat hN hK
  obtain ⟨n1, n2, n3, n4, n5⟩ := hN
  have h1 : 1 ≤ F := hW.1
  obtain ⟨sX, sY, sD⟩ := SP_of hF hW
  have hx : ∀ f, f < F → atX f = ppX pp f := fun f hf => by
    obtain ⟨p, hp⟩ := SW_all hF hW hf
    rw [ppX_s hp]; exact (hat f p hp).1
  have hy : ∀ f, f < F → atY f = ppY pp f := fun f hf => by
    obtain ⟨p, hp⟩ := SW_all hF hW hf
    rw [ppY_s hp]; exact (hat f p hp).2
  have gT : GSh (Bst F (ppX pp) (ppY pp) 7) F := GSh_Bst (by omega) h1 hF sX sY sD
  have hwx : msI atX F - lsI atX F + 1 = bsW F (ppX pp) := by unfold bsW; rw [msI_congr h1 hx, lsI_congr h1 hx]
  have hwy : msI atY F - lsI atY F + 1 = bsW F (ppY pp) := by unfold bsW; rw [msI_congr h1 hy, lsI_congr h1 hy]
  have tail : ∀ (bw bh bn : Int32) (bx bY : Nat → Int32), ((bsS F (ppX pp) (ppY pp) ns.1 ns.2.1).1 = true → (bsS F (ppX pp) (ppY pp) ns.1 ns.2.1).2.2.2.1 < ns.1 + 1) → (ns.1 + 1 ≤ 2 ^ 31 → ((bsS F (ppX pp) (ppY pp) ns.1 ns.2.1).1 = true → bRel F (bsS F (ppX pp) (ppY pp) ns.1 ns.2.1) bw bh bn bx bY) ∧ ((bsS F (ppX pp) (ppY pp) ns.1 ns.2.1).1 = false → bn = -9)) → wj_X8_net_122 (nI F) atX atY K nets bw bh bn shs br bx bY ix iy ro sr ss := by
    intro bw bh bn bx bY q1 q2
    unfold wj_X8_net_122
    refine net_134_ok h1 hF sX sY sD hx hy (fun br ix iy ro hE => X8_keep_ok gT hE n2 n3 (fun shs sr ss hA => hK _ _ _ _ _ _ _ _ _ _ _ _ _ ?_))
    exact ⟨by rw [n1, nI_1]; rfl, GA_kp n2 gT, hA, q1, q2⟩
  unfold wp_X8_net
  refine X8_most_ok h1 (by omega) (by omega) (X8_least_ok h1 (by omega) (by omega) (X8_most_ok h1 (by omega) (by omega) (X8_least_ok h1 (by omega) (by omega) ?_)))
  rw [hwx, hwy]
  have new : (ns.1 + 1 ≤ 2 ^ 31 → ns.2.1.1 = true → ¬ ns.2.1.2.1 * ns.2.1.2.2.1 ≤ bsW F (ppX pp) * bsW F (ppY pp)) → wj_X8_net_64 (nI F) atX atY K (bsW F (ppX pp)) (bsW F (ppY pp)) nets shs br bx bY ix iy ro sr ss := by
    intro q
    unfold wj_X8_net_64
    refine Lp_for F (fun i (s : (Nat → Int32) × (Nat → Int32)) => ∀ k, k < i → s.1 k = ppX pp k ∧ s.2 k = ppY pp k) (by omega) (fun i s kb hi hI hkb => ?_) 0 (bx, bY) (by omega) (fun k hk => by omega)
    obtain ⟨bx, bY⟩ := s
    dsimp only [wl_X8_net_84, wb_X8_net_84]
    refine pk_le F i (fun hle => ?_) (fun hlt => ?_)
    · have e : i = F := by omega
      subst e
      refine tail _ _ _ _ _ (fun hb => ?_) (fun hle => ?_)
      · by_cases c : ns.2.1.1 = true ∧ ns.2.1.2.1 * ns.2.1.2.2.1 ≤ bsW i (ppX pp) * bsW i (ppY pp)
        · rw [bsS_t c.1 c.2]; have := n4 c.1; omega
        · rw [bsS_f (fun z w => c ⟨z, w⟩)]; exact Nat.lt_succ_self _
      · rw [bsS_f (q hle)]
        exact ⟨fun _ => ⟨rfl, rfl, n1, fun f hf => hI f hf⟩, fun z => by cases z⟩
    · rw [nI_1, nI_clamp (show i < 2 ^ 31 by omega)]
      have hv : vp_in (nI i) 30 := vp_in_nI (by omega) (by omega)
      refine ⟨hv, hv, hv, hv, hkb (_, _) hlt (fun k hk => ?_)⟩
      show upd _ _ _ _ = _ ∧ upd _ _ _ _ = _
      by_cases e : k = i
      · subst e; rw [pk_us, pk_us]; exact ⟨hx k hlt, hy k hlt⟩
      · rw [pk_un e, pk_un e]; exact hI k (by omega)
  have keepB : (ns.1 + 1 ≤ 2 ^ 31 → ns.2.1.1 = true ∧ ns.2.1.2.1 * ns.2.1.2.2.1 ≤ bsW F (ppX pp) * bsW F (ppY pp)) → wj_X8_net_122 (nI F) atX atY K nets bw bh bn shs br bx bY ix iy ro sr ss := by
    intro q
    refine tail _ _ _ _ _ (fun hb => ?_) (fun hle => ?_)
    · by_cases c : ns.2.1.1 = true ∧ ns.2.1.2.1 * ns.2.1.2.2.1 ≤ bsW F (ppX pp) * bsW F (ppY pp)
      · rw [bsS_t c.1 c.2]; have := n4 c.1; omega
      · rw [bsS_f (fun z w => c ⟨z, w⟩)]; exact Nat.lt_succ_self _
    · obtain ⟨c1, c2⟩ := q hle
      rw [bsS_t c1 c2]
      exact n5 (by omega)
  refine ⟨fun q => new (fun hle hb => ?_), fun q => ⟨fun z => keepB (fun hle => ?_), fun z => new (fun hle hb => ?_)⟩⟩
  · obtain ⟨r1, r2, r3, -⟩ := (n5 (by omega)).1 hb
    have := n4 hb
    rw [q] at r3
    exact absurd r3.symm (nI_ne9 (by omega))
  · cases hb : ns.2.1.1 with
    | false => exact absurd ((n5 (by omega)).2 hb) q
    | true =>
      obtain ⟨r1, r2, r3, -⟩ := (n5 (by omega)).1 hb
      rw [← r1, ← r2]
      exact ⟨rfl, z⟩
  · obtain ⟨r1, r2, r3, -⟩ := (n5 (by omega)).1 hb
    rw [← r1, ← r2]
    exact z
