-- PURE 11: the search as a loop of its own; the class goes its way
abbrev AX (NS : Type) : Type := Nat × Nat × (Nat → Nat) × (Nat → Nat) × (Nat → Option PL) × NS × Bool × Nat
def nsN {NS : Type} (F cn : Nat) (netS : (Nat → Option PL) → NS → NS) (pp : Nat → Option PL) (ns : NS) : NS := if cn = F then netS pp ns else ns
def fA {NS : Type} (F : Nat) (nb on : Nat → Nat → Nat) (netS : (Nat → Option PL) → NS → NS) (w : Nat) (kx kb : AX NS → Prop) (cn stp : Nat) (ord cho : Nat → Nat) (pp : Nat → Option PL) (ns : NS) (en : Bool) (u : Nat) : Prop :=
  (en = true → kx (cn, stp, ord, cho, pp, ns, en, u)) ∧ (en = false → (stp = cn * 4 → (cn = 1 → kb (cn, stp, ord, cho, pp, nsN F cn netS pp ns, true, u)) ∧ (¬ cn = 1 → kb (cn - 1, cho (cn - 1) + 1, ord, cho, ppset pp (ord (cn - 1)) none, nsN F cn netS pp ns, false, u))) ∧ (¬ stp = cn * 4 → ∀ p, pp (ord (stp / 4)) = some p → (isC nb on pp (ord (stp / 4)) p (stp % 4) → (u = w → kx (cn, stp, ord, cho, pp, ns, en, u)) ∧ (¬ u = w → kb (cn + 1, stp + 1, updN ord cn (tgt nb (ord (stp / 4)) p (stp % 4)), updN cho cn stp, ppset pp (tgt nb (ord (stp / 4)) p (stp % 4)) (some (nxt on (ord (stp / 4)) p (stp % 4))), ns, false, u + 1))) ∧ (¬ isC nb on pp (ord (stp / 4)) p (stp % 4) → kb (cn, stp + 1, ord, cho, pp, ns, false, u))))
def gA {NS : Type} (F : Nat) (nb on : Nat → Nat → Nat) (netS : (Nat → Option PL) → NS → NS) (w : Nat) (kx : AX NS → Prop) : (AX NS → Prop) → AX NS → Prop := fun kb a => fA F nb on netS w kx kb a.1 a.2.1 a.2.2.1 a.2.2.2.1 a.2.2.2.2.1 a.2.2.2.2.2.1 a.2.2.2.2.2.2.1 a.2.2.2.2.2.2.2
def mA (w cn stp : Nat) (en : Bool) (u : Nat) : Nat := match en with | true => 0 | false => 100 * cn + 200 * (w - u) + (cn * 4 - stp) + 1
set_option maxHeartbeats 1000000 in
theorem A_term {NS : Type} {F : Nat} {look : Nat → Nat} {nb on : Nat → Nat → Nat} {netS : (Nat → Option PL) → NS → NS} {w : Nat} (NI : NS → Prop) (Nb : NS → Nat) (hF : F ≤ 22) (hG : GS F look nb on)
    (hNI : ∀ (ns : NS) (stp : Nat) (ord cho : Nat → Nat) (pp : Nat → Option PL), SW F look F stp ord cho pp → NI ns → NI (netS pp ns)) (hNb : ∀ (ns : NS) (pp : Nat → Option PL), Nb (netS pp ns) ≤ Nb ns + 1) :
    ∀ (m cn stp : Nat) (ord cho : Nat → Nat) (pp : Nat → Option PL) (ns : NS) (en : Bool) (u : Nat), SW F look cn stp ord cho pp → mA w cn stp en u ≤ m → u ≤ w → NI ns →
      ∃ (cn2 stp2 : Nat) (ord2 cho2 : Nat → Nat) (pp2 : Nat → Option PL) (ns2 : NS) (en2 : Bool) (u2 : Nat), (∀ kx : AX NS → Prop, kx (cn2, stp2, ord2, cho2, pp2, ns2, en2, u2) → lpN (gA F nb on netS w kx) (m + 1) (cn, stp, ord, cho, pp, ns, en, u)) ∧ SW F look cn2 stp2 ord2 cho2 pp2 ∧ NI ns2 ∧ Nb ns2 ≤ Nb ns + m := by
  intro m
  induction m with
  | zero =>
    intro cn stp ord cho pp ns en u hW hm hu hI
    have e : en = true := by
      cases en with
      | true => rfl
      | false => simp only [mA] at hm; omega
    subst e
    exact ⟨cn, stp, ord, cho, pp, ns, true, u, fun kx h => ⟨fun _ => h, fun q => by cases q⟩, hW, hI, Nat.le_refl _⟩
  | succ m ih =>
    intro cn stp ord cho pp ns en u hW hm hu hI
    cases en with
    | true => exact ⟨cn, stp, ord, cho, pp, ns, true, u, fun kx h => ⟨fun _ => h, fun q => (by cases q)⟩, hW, hI, by omega⟩
    | false =>
      simp only [mA] at hm
      obtain ⟨w1, w2, w3, w4, w5, w6, w7, w8, w9⟩ := id hW
      by_cases hs : stp = cn * 4
      · have hI2 : NI (nsN F cn netS pp ns) := by
          unfold nsN
          by_cases e : cn = F
          · rw [if_pos e]; subst e; exact hNI ns stp ord cho pp hW hI
          · rw [if_neg e]; exact hI
        have hB2 : Nb (nsN F cn netS pp ns) ≤ Nb ns + 1 := by
          unfold nsN
          by_cases e : cn = F
          · rw [if_pos e]; exact hNb ns pp
          · rw [if_neg e]; omega
        by_cases hc : cn = 1
        · obtain ⟨a1, a2, a3, a4, a5, a6, a7, a8, b1, b2, b3, b4⟩ := ih cn stp ord cho pp (nsN F cn netS pp ns) true u hW (Nat.zero_le _) hu hI2
          exact ⟨a1, a2, a3, a4, a5, a6, a7, a8, fun kx h => ⟨fun q => (by cases q), fun _ => ⟨fun _ => ⟨fun _ => b1 kx h, fun q => absurd hc q⟩, fun q => absurd hs q⟩⟩, b2, b3, by omega⟩
        · have hb := w7 (cn - 1) (by omega) (by omega)
          obtain ⟨a1, a2, a3, a4, a5, a6, a7, a8, b1, b2, b3, b4⟩ := ih (cn - 1) (cho (cn - 1) + 1) ord cho (ppset pp (ord (cn - 1)) none) (nsN F cn netS pp ns) false u (SW_pop hF hW hc) (by simp only [mA]; omega) hu hI2
          exact ⟨a1, a2, a3, a4, a5, a6, a7, a8, fun kx h => ⟨fun q => (by cases q), fun _ => ⟨fun _ => ⟨fun q => absurd q hc, fun _ => b1 kx h⟩, fun q => absurd hs q⟩⟩, b2, b3, by omega⟩
      · obtain ⟨p, hp, -⟩ := w4 (stp / 4) (by omega)
        have hlt : stp < cn * 4 := by omega
        by_cases hC : isC nb on pp (ord (stp / 4)) p (stp % 4)
        · by_cases hw : u = w
          · exact ⟨cn, stp, ord, cho, pp, ns, false, u, fun kx h => ⟨fun q => (by cases q), fun _ => ⟨fun q => absurd q hs, fun _ p2 hp2 => (by have hp2 : pp (ord (stp / 4)) = some p2 := hp2; rw [hp] at hp2; cases hp2; exact ⟨fun _ => ⟨fun _ => h, fun q => absurd hw q⟩, fun q => absurd hC q⟩)⟩⟩, hW, hI, by omega⟩
          · have hW2 := SW_add hF hG hW hlt hp hC
            obtain ⟨a1, a2, a3, a4, a5, a6, a7, a8, b1, b2, b3, b4⟩ := ih _ _ _ _ _ ns false (u + 1) hW2 (by simp only [mA]; omega) (by omega) hI
            exact ⟨a1, a2, a3, a4, a5, a6, a7, a8, fun kx h => ⟨fun q => (by cases q), fun _ => ⟨fun q => absurd q hs, fun _ p2 hp2 => (by have hp2 : pp (ord (stp / 4)) = some p2 := hp2; rw [hp] at hp2; cases hp2; exact ⟨fun _ => ⟨fun q => absurd q hw, fun _ => b1 kx h⟩, fun q => absurd hC q⟩)⟩⟩, b2, b3, by omega⟩
        · obtain ⟨a1, a2, a3, a4, a5, a6, a7, a8, b1, b2, b3, b4⟩ := ih cn (stp + 1) ord cho pp ns false u (SW_step hW hlt) (by simp only [mA]; omega) hu hI
          exact ⟨a1, a2, a3, a4, a5, a6, a7, a8, fun kx h => ⟨fun q => (by cases q), fun _ => ⟨fun q => absurd q hs, fun _ p2 hp2 => (by have hp2 : pp (ord (stp / 4)) = some p2 := hp2; rw [hp] at hp2; cases hp2; exact ⟨fun q => absurd q hC, fun _ => b1 kx h⟩)⟩⟩, b2, b3, by omega⟩
theorem asub (a b : Int32) : a + b - a = b := by
  rw [Int32.sub_eq_add_neg, Int32.add_comm a b, Int32.add_assoc, Int32.add_right_neg, Int32.add_zero]
def enI (en : Bool) : Int32 := match en with | true => 1 | false => 0
abbrev NCt (NS : Type) : Type := NS → Int32 → Int32 → (Nat → Int32) → (Nat → Int32) → (Nat → Int32) → (Nat → Int32) → (Nat → Int32) → (Nat → Int32) → Int32 → Int32 → Int32 → Int32 → (Nat → Int32) → (Nat → Int32) → Prop
/-- a net, in the class: offered, kept -/
def netCok {NS : Type} (F : Nat) (look : Nat → Nat) (netS : (Nat → Option PL) → NS → NS) (NC : NCt NS) : Prop :=
  ∀ (ns : NS) (stp : Nat) (ord cho : Nat → Nat) (pp : Nat → Option PL) (ct nets ac fo wi he no : Int32) (hd li x y im ix iy lm nu pl bx bY : Nat → Int32) (K : Int32 → Int32 → Int32 → Int32 → (Nat → Int32) → (Nat → Int32) → Int32 → (Nat → Int32) → (Nat → Int32) → (Nat → Int32) → (Nat → Int32) → (Nat → Int32) → (Nat → Int32) → Prop),
    SW F look F stp ord cho pp → CS 30 pp ct hd li x y → NC ns nets ac im ix iy lm nu pl fo wi he no bx bY →
    (∀ (ac fo wi he no : Int32) (im ix iy lm nu pl bx bY : Nat → Int32), NC (netS pp ns) (nets + 1) ac im ix iy lm nu pl fo wi he no bx bY → K fo wi he no bx bY ac im ix iy lm nu pl) →
    wp_X1_offer fo wi he no bx bY ct x y nets (fun fo wi he no bx bY => wp_X0_keep ac im ix iy lm nu pl ct x y (fun ac im ix iy lm nu pl => K fo wi he no bx bY ac im ix iy lm nu pl))
set_option maxHeartbeats 4000000 in
theorem goOn_sim {NS : Type} {F : Nat} {look : Nat → Nat} {nb on : Nat → Nat → Nat} {netS : (Nat → Option PL) → NS → NS} {NC : NCt NS} {w : Nat} {wb : Int32} {lo be ow : Nat → Int32} {kx : AX NS → Prop} {k73 k86 : Int32 → Int32 → Int32 → Int32 → Int32 → (Nat → Int32) → (Nat → Int32) → (Nat → Int32) → (Nat → Int32) → (Nat → Int32) → (Nat → Int32) → Int32 → Int32 → Int32 → Int32 → (Nat → Int32) → (Nat → Int32) → (Nat → Int32) → (Nat → Int32) → Int32 → (Nat → Int32) → (Nat → Int32) → (Nat → Int64) → (Nat → Int32) → (Nat → Int32) → Prop}
    (hF : F ≤ 22) (hG : GS F look nb on) (hT : TB F look nb on lo be ow) (hN : netCok F look netS NC) (hw : w ≤ 500)
    (hk : ∀ (cn stp : Nat) (ord cho : Nat → Nat) (pp : Nat → Option PL) (ns : NS) (en : Bool) (u : Nat) (nets step ac fo wi he no ct : Int32) (im ix iy lm nu pl bx bY laid las hd li x y : Nat → Int32) (tk : Nat → Int64), kx (cn, stp, ord, cho, pp, ns, en, u) → SW F look cn stp ord cho pp → SCr cn stp ord cho pp step laid las ct hd li tk x y → NC ns nets ac im ix iy lm nu pl fo wi he no bx bY →
      k73 nets (wb + nI u) (enI en) step ac im ix iy lm nu pl fo wi he no bx bY laid las ct hd li tk x y ∧ k86 nets (wb + nI u) (enI en) step ac im ix iy lm nu pl fo wi he no bx bY laid las ct hd li tk x y) :
    ∀ (n cn stp : Nat) (ord cho : Nat → Nat) (pp : Nat → Option PL) (ns : NS) (en : Bool) (u i : Nat) (nets step ac fo wi he no ct : Int32) (im ix iy lm nu pl bx bY laid las hd li x y : Nat → Int32) (tk : Nat → Int64), lpN (gA F nb on netS w kx) n (cn, stp, ord, cho, pp, ns, en, u) → SW F look cn stp ord cho pp → SCr cn stp ord cho pp step laid las ct hd li tk x y → NC ns nets ac im ix iy lm nu pl fo wi he no bx bY → u ≤ w → i + n ≤ 1000000 →
      lpN (wl_X2_goOn_7 (nI F) be ow (nI w) wb k73 k86) n (nI i, nets, wb + nI u, enI en, step, ac, im, ix, iy, lm, nu, pl, fo, wi, he, no, bx, bY, laid, las, ct, hd, li, tk, x, y) := by
  intro n
  induction n with
  | zero => intro cn stp ord cho pp ns en u i nets step ac fo wi he no ct im ix iy lm nu pl bx bY laid las hd li x y tk h; exact False.elim h
  | succ n ih =>
    intro cn stp ord cho pp ns en u i nets step ac fo wi he no ct im ix iy lm nu pl bx bY laid las hd li x y tk h hW hS hC hu hi
    have h : fA F nb on netS w kx (lpN (gA F nb on netS w kx) n) cn stp ord cho pp ns en u := h
    show wl_X2_goOn_7 (nI F) be ow (nI w) wb k73 k86 (lpN (wl_X2_goOn_7 (nI F) be ow (nI w) wb k73 k86) n) _
    dsimp only [wl_X2_goOn_7, wb_X2_goOn_7]
    refine pk_le 1000000 i (fun q => by omega) (fun _ => ?_)
    obtain ⟨w1, w2, w3, w4, w5, w6, w7, w8, w9⟩ := id hW
    have hct : ct = nI cn := by rw [hS.2.2.2.1.2.2, w9]
    cases en with
    | true => exact ⟨fun _ => (hk cn stp ord cho pp ns true u nets step ac fo wi he no ct im ix iy lm nu pl bx bY laid las hd li x y tk (h.1 rfl) hW hS hC).2, fun q => absurd q (by decide)⟩
    | false =>
      refine ⟨fun q => absurd rfl q, fun _ => ?_⟩
      replace h := h.2 rfl
      rw [hS.1, hct, show nI cn * (4 : Int32) = nI (cn * 4) from pk_mul cn 4, nI_1]
      refine pk_lt stp (cn * 4) (fun hlt => ?_) (fun hge => ?_)
      · obtain ⟨p, hp, -⟩ := w4 (stp / 4) (by omega)
        replace h := h.2 (by omega) p hp
        have hS2 := hS
        rw [hS.1, hct] at hS2
        refine X2_isChoice_ok hF hG hT hW hS2 hlt hp (fun hc => ⟨fun _ => ?_, fun q => absurd q (by decide)⟩) (fun hc => ⟨fun q => absurd rfl q, fun _ => ?_⟩)
        · rw [asub]
          refine pk_lt u w (fun hl => ?_) (fun hl => ?_)
          · refine X2_choose_ok hF hG hT hW hS2 hlt hp hc (fun step ct laid las hd li x y tk hS3 => ?_)
            rw [Int32.add_assoc, nI_1]
            exact ih _ _ _ _ _ ns false (u + 1) (i + 1) _ _ _ _ _ _ _ _ _ _ _ _ _ _ _ _ _ _ _ _ _ _ _ ((h.1 hc).2 (by omega)) (SW_add hF hG hW hlt hp hc) hS3 hC (by omega) (by omega)
          · have := (hk cn stp ord cho pp ns false u nets step ac fo wi he no ct im ix iy lm nu pl bx bY laid las hd li x y tk ((h.1 hc).1 (by omega)) hW hS hC).1
            rw [hS.1, hct] at this
            exact this
        · rw [nI_1]
          refine ih _ _ _ _ _ ns false u (i + 1) _ _ _ _ _ _ _ _ _ _ _ _ _ _ _ _ _ _ _ _ _ _ _ (h.2 hc) (SW_step hW hlt) ⟨rfl, hS2.2⟩ hC hu (by omega)
      · have hst : stp = cn * 4 := by omega
        replace h := h.1 hst
        have hS2 := hS
        rw [hS.1, hct] at hS2
        -- behind the net, if it is one
        have tail : ∀ (nets ac fo wi he no : Int32) (im ix iy lm nu pl bx bY : Nat → Int32), NC (nsN F cn netS pp ns) nets ac im ix iy lm nu pl fo wi he no bx bY → wj_X2_finishUnfolding_53 laid las x y (fun nets ended step ac im ix iy lm nu pl fo wi he no bx bY ct li tk => lpN (wl_X2_goOn_7 (nI F) be ow (nI w) wb k73 k86) n (nI (i + 1), nets, wb + nI u, ended, step, ac, im, ix, iy, lm, nu, pl, fo, wi, he, no, bx, bY, laid, las, ct, hd, li, tk, x, y)) nets (enI false) (nI stp) ac im ix iy lm nu pl fo wi he no bx bY (nI cn) li tk := by
          intro nets ac fo wi he no im ix iy lm nu pl bx bY hC2
          unfold wj_X2_finishUnfolding_53
          refine pk_le cn 1 (fun h1 => ?_) (fun h1 => ?_)
          · have e1 : cn = 1 := by omega
            exact ih cn stp ord cho pp _ true u (i + 1) _ _ _ _ _ _ _ _ _ _ _ _ _ _ _ _ _ _ _ _ _ _ _ (h.1 e1) hW hS2 hC2 hu (by omega)
          · refine X2_takeBack_ok hF hW hS2 (by omega) (fun step ct li tk hS3 => ?_)
            exact ih _ _ _ _ _ _ false u (i + 1) _ _ _ _ _ _ _ _ _ _ _ _ _ _ _ _ _ _ _ _ _ _ _ (h.2 (by omega)) (SW_pop hF hW (by omega)) hS3 hC2 hu (by omega)
        unfold wp_X2_finishUnfolding
        have hcF : nI cn = nI F ↔ cn = F := nI_eq (by omega) (by omega)
        refine ⟨fun q => ?_, fun q => ?_⟩
        · refine tail _ _ _ _ _ _ _ _ _ _ _ _ _ _ ?_
          unfold nsN
          rw [if_neg (fun e => q (hcF.mpr e))]
          exact hC
        · have e := hcF.mp q
          subst e
          have hCS := hS2.2.2.2.1
          refine hN ns stp ord cho pp _ nets ac fo wi he no hd li x y im ix iy lm nu pl bx bY _ hW hCS hC (fun ac fo wi he no im ix iy lm nu pl bx bY hC2 => ?_)
          refine tail _ _ _ _ _ _ _ _ _ _ _ _ _ _ ?_
          unfold nsN
          rw [if_pos rfl]
          exact hC2
