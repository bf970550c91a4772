-- PURE 24: the model folds; wraps
theorem lf_congr2 {P Q : Nat → Prop} {n : Nat} (h : ∀ j, j < n → (P j ↔ Q j)) : lf P n = lf Q n := by
  by_cases c : lf P n < n
  · obtain ⟨a, b⟩ := lf_lt c
    exact (lf_hit c ((h _ c).mp a) (fun j hj q => b j hj ((h j (by omega)).mpr q))).symm
  · have e : lf P n = n := by have := lf_le (P := P) (n := n); omega
    rw [e]
    exact (lf_miss (fun j hj q => lf_no c j hj ((h j hj).mpr q))).symm
section MODEL
variable {F f m i : Nat} {look : Nat → Nat} {nb on : Nat → Nat → Nat} {S : Nat → Prop} {ix iy sr ss : Ar}
def IXY (F m : Nat) (S : Nat → Prop) (ix iy : Ar) : Prop := ∀ j, j < F → ix j = imX m (kX S j) (kY S j) ∧ iy j = imY m (kX S j) (kY S j)
theorem X8_placeAt_ok {a b : I3} {post : I3 → Prop} (hF : F ≤ 22) (h : post (eN (lf (fun j => ix j = a ∧ iy j = b) F) F (-9))) : wp_X8_placeAt ix iy (nI F) a b post := by
  unfold wp_X8_placeAt
  refine Lp_for0 F (fun k => ∀ j, j < k → ¬ (ix j = a ∧ iy j = b)) (by omega) (fun k kb hk hI hkb => ?_) 0 (by omega) (fun j hj => by omega)
  dsimp only [wl_X8_placeAt_3, wb_X8_placeAt_3]
  refine pk_le F k (fun hle => ?_) (fun hlt => ?_)
  · rw [lf_miss (fun j hj => hI j (by omega)), eN_f (by omega)] at h
    exact h
  · have hv : vp_in (nI k) 30 := vp_in_nI (by omega) (by omega)
    rw [nI_1, nI_clamp (show k < 2 ^ 31 by omega)]
    refine ⟨hv, fun q => hkb hlt (lt_s hI (fun z => q z.1)), fun q1 => ⟨hv, fun q => hkb hlt (lt_s hI (fun z => q z.2)), fun q2 => ?_⟩⟩
    rw [lf_hit hlt ⟨q1, q2⟩ hI, eN_t hlt] at h
    exact h
theorem place_J {k s : Nat} (hm : m < 8) (hs : s < 4) (hk : k < F) (hI : IXY F m S ix iy) : lf (fun j => ix j = ix k + q_SIDE_X s ∧ iy j = iy k + q_SIDE_Y s) F = bsK S F k (sJ m s) := by
  obtain ⟨a, b, -⟩ := sJ_ok m hm s hs
  obtain ⟨-, c, d⟩ := sI_ok m hm _ a
  rw [b] at c d
  refine lf_congr2 (fun j hj => ?_)
  rw [(hI j hj).1, (hI j hj).2, (hI k hk).1, (hI k hk).2, ← c, ← d, ← (im_add hm _ _ _ _).1, ← (im_add hm _ _ _ _).2]
  constructor
  · intro q
    exact im_inj hm q.1 q.2
  · intro q
    rw [q.1, q.2]
    exact ⟨rfl, rfl⟩
def ONR (F : Nat) (A : Nat → Option LB) (mon moR moU : Ar) : Prop := ∀ p, p < F → (A p = none → mon p = -9) ∧ ∀ l, A p = some l → mon p = nI l.1 ∧ moR p = nI l.2.1 ∧ moU p = nI l.2.2
abbrev MBI (F m : Nat) (look : Nat → Nat) (nb on : Nat → Nat → Nat) (S : Nat → Prop) (f t rc : Nat) (rq : Nat → Nat) (A : Nat → Option LB) : Prop := BI F (fun k i => bsK S F k (sJ m i)) (fun i => trL nb on i) (okL F look) (fst3 look f) t rc rq A
theorem WRP_no (hm : m < 8) (h : ¬ ∃ L, COL F (fun k i => bsK S F k (sJ m i)) (fun i => trL nb on i) (fst3 look f) L) : ¬ WRP F look nb on S f m := fun ⟨L, hL, _⟩ => h ⟨L, (COL_J hm).mpr hL⟩
set_option maxHeartbeats 2000000 in
theorem isW_166_ok {lo rc : Nat} {rq : Nat → Nat} {A : Nat → Option LB} {mlo mnx mle mon moR moU mqu : Ar} {kx393 : Ar → Ar → Ar → Ar → Prop} {kx401 : I3 → Ar → Ar → Ar → Ar → Prop} (hF : F ≤ 22) (hm : m < 8) (hG : GS F look nb on) (hT : TB F look nb on mlo mnx mle) (hI : IXY F m S ix iy) (hlo : lo < rc)
    (hB : MBI F m look nb on S f (4 * lo) rc rq A) (hq : ∀ k, k < rc → mqu k = nI (rq k)) (hO : ONR F A mon moR moU)
    (h0 : ¬ WRP F look nb on S f m → ∀ mon moR moU mqu, kx393 mon moR moU mqu)
    (h1 : ∀ (rc : Nat) (rq : Nat → Nat) (A : Nat → Option LB) (mon moR moU mqu : Ar), lo < rc → MBI F m look nb on S f (4 * (lo + 1)) rc rq A → (∀ k, k < rc → mqu k = nI (rq k)) → ONR F A mon moR moU → kx401 (nI rc) mon moR moU mqu) :
    Lp (wl_X8_isWrapped_166 ix iy mle mnx (nI F) (nI (rq lo)) kx393 kx401) (nI rc, (0 : I3), mon, moR, moU, mqu) := by
  have hrq : rq lo < F := by
    obtain ⟨_, _, z, _⟩ := BI_q hB hlo
    exact z
  refine Lp_of (fun s => ∃ i rc rq2 A, i ≤ 4 ∧ lo < rc ∧ rq2 lo = rq lo ∧ s.2.1 = nI i ∧ s.1 = nI rc ∧ MBI F m look nb on S f (4 * lo + i) rc rq2 A ∧ (∀ k, k < rc → s.2.2.2.2.2 k = nI (rq2 k)) ∧ ONR F A s.2.2.1 s.2.2.2.1 s.2.2.2.2.1) (fun s => 4 - s.2.1.toNatClampNeg) (fun s kb hS hkb => ?_) _ ⟨0, rc, rq, A, by omega, hlo, rfl, rfl, rfl, hB, hq, hO⟩
  obtain ⟨s1, s2, mon, moR, moU, mqu⟩ := s
  obtain ⟨i, rc, rq2, A, hi, hlo, hrl, e2, e1, hB, hq, hO⟩ := hS
  replace e2 : s2 = nI i := e2
  replace e1 : s1 = nI rc := e1
  replace hq : ∀ k, k < rc → mqu k = nI (rq2 k) := hq
  replace hO : ONR F A mon moR moU := hO
  subst e1 e2
  have hrc := BI_le hB
  dsimp only [wl_X8_isWrapped_166, wb_X8_isWrapped_166]
  refine pk_le 4 i (fun hle => ?_) (fun hlt => ?_)
  · have e : i = 4 := by omega
    subst e
    exact h1 rc rq2 A _ _ _ _ hlo (by rw [show 4 * (lo + 1) = 4 * lo + 4 by omega]; exact hB) hq hO
  · have ht4 : (4 * lo + i) / 4 = lo := by omega
    have hti : (4 * lo + i) % 4 = i := by omega
    obtain ⟨l, hl, -, hok⟩ := BI_q hB hlo
    rw [hrl] at hl
    have hOl := (hO _ hrq).2 l hl
    have hv : vp_in (nI (rq lo)) 30 := vp_in_nI (by omega) (by omega)
    obtain ⟨d1, d2⟩ := sd_ok hok.2 hlt
    have hnf := (hG.2 _ _ hok.1 d1 d2).1
    rw [nI_1 i, nI_clamp (show rq lo < 2 ^ 31 by omega)]
    refine ⟨hv, X8_sideX_ok i hlt ⟨hv, X8_sideY_ok i hlt (X8_placeAt_ok hF ?_)⟩⟩
    rw [place_J hm hlt hrq hI]
    have hmu : 4 - (nI (i + 1)).toNatClampNeg < 4 - (nI i).toNatClampNeg := by rw [nI_clamp (by omega), nI_clamp (by omega)]; omega
    have hgo : ∀ (rc2 : Nat) (rq3 : Nat → Nat) (A2 : Nat → Option LB) (mon moR moU mqu : Ar), lo < rc2 → rq3 lo = rq lo → MBI F m look nb on S f (4 * lo + i + 1) rc2 rq3 A2 → (∀ k, k < rc2 → mqu k = nI (rq3 k)) → ONR F A2 mon moR moU → kb (nI rc2, nI (i + 1), mon, moR, moU, mqu) := fun rc2 rq3 A2 mon moR moU mqu a1 a2 a3 a4 a5 => hkb _ ⟨i + 1, rc2, rq3, A2, by omega, a1, a2, rfl, rfl, a3, a4, a5⟩ hmu
    by_cases hn : bsK S F (rq lo) (sJ m i) < F
    · rw [eN_t hn, nI_clamp (show bsK S F (rq lo) (sJ m i) < 2 ^ 31 by omega), hOl.1, hOl.2.1, hOl.2.2]
      have hvn : vp_in (nI (bsK S F (rq lo) (sJ m i))) 30 := vp_in_nI (by omega) (by omega)
      refine ⟨fun q => absurd q (nI_ne9 (by omega)), fun _ => ⟨hv, hv, hv, X8_sideOf_ok hlt hok.2.1 hok.2.2.1 (X8_beside_ok hT hF hok.1 d1 d2 ⟨hv, hv, hv, X8_nextRight_ok hG hT hF hok.1 hlt hok.2 ⟨hv, hv, hv, X8_nextUp_ok hG hT hF hok.1 hlt hok.2 ⟨hvn, ?_⟩⟩⟩)⟩⟩
      have hl' : A (rq2 ((4 * lo + i) / 4)) = some l := by rw [ht4, hrl]; exact hl
      cases e : A (bsK S F (rq lo) (sJ m i)) with
      | none =>
        rw [((hO _ hn).1 e)]
        have hn' : bsK S F (rq2 ((4 * lo + i) / 4)) (sJ m ((4 * lo + i) % 4)) = bsK S F (rq lo) (sJ m i) := by rw [ht4, hti, hrl]
        have hadd := BI_add hB (by omega) hl' (by rw [hn']; exact hn) (by rw [hn']; exact e) (okL_tr hG (by omega) hok)
        rw [hn', hti] at hadd
        have hrcF := BI_le hadd
        rw [nI_1 rc, nI_clamp (show rc < 2 ^ 31 by omega)]
        refine ⟨fun q => absurd rfl q, fun _ => ⟨hvn, hvn, hvn, vp_in_nI (by omega) (by omega), hgo _ _ _ _ _ _ _ (by omega) (by rw [updN_n (by omega)]; exact hrl) hadd (fun k hk => ?_) (fun p hp => ⟨fun q => ?_, fun l2 q => ?_⟩)⟩⟩
        · by_cases c : k = rc
          · subst c; rw [pk_us, updN_s]
          · rw [pk_un c, updN_n c]; exact hq k (by omega)
        · have c : p ≠ bsK S F (rq lo) (sJ m i) := fun c => by rw [c, lset_s] at q; cases q
          rw [lset_n c] at q; rw [pk_un c]; exact (hO p hp).1 q
        · by_cases c : p = bsK S F (rq lo) (sJ m i)
          · subst c; rw [lset_s] at q; cases q; rw [pk_us, pk_us, pk_us]; exact ⟨rfl, rfl, rfl⟩
          · rw [lset_n c] at q; rw [pk_un c, pk_un c, pk_un c]; exact (hO p hp).2 l2 q
      | some l2 =>
        obtain ⟨o1, o2, o3⟩ := (hO _ hn).2 l2 e
        have hok2 := (hB.2.1 _ _ e).2.1
        rw [o1, o2, o3]
        have hl1 := hok2.1
        have hb1 := hok2.2.1
        have hb2 := hok2.2.2.1
        have hok3 := okL_tr hG hlt hok
        have hn' : bsK S F (rq2 ((4 * lo + i) / 4)) (sJ m ((4 * lo + i) % 4)) = bsK S F (rq lo) (sJ m i) := by rw [ht4, hti, hrl]
        have bad : ¬ l2 = trL nb on i l → ∀ mon moR moU mqu, kx393 mon moR moU mqu := fun hne => h0 (WRP_no hm (BI_bad hB hl' (by rw [hn']; exact hn) (by rw [hn']; exact e) (by rw [hti]; exact hne)))
        have c1 : nI l2.1 = nI (nb l.1 (sd l.2.1 l.2.2 i)) ↔ l2.1 = nb l.1 (sd l.2.1 l.2.2 i) := nI_eq (by omega) (by omega)
        have c2 : nI l2.2.1 = nI (nr l.2.1 i (on l.1 (sd l.2.1 l.2.2 i))) ↔ l2.2.1 = nr l.2.1 i (on l.1 (sd l.2.1 l.2.2 i)) := nI_eq (by omega) (by have := hok3.2.1; unfold trL at this; dsimp only at this; omega)
        have c3 : nI l2.2.2 = nI (nu l.2.2 i (on l.1 (sd l.2.1 l.2.2 i))) ↔ l2.2.2 = nu l.2.2 i (on l.1 (sd l.2.1 l.2.2 i)) := nI_eq (by omega) (by have := hok3.2.2.1; unfold trL at this; dsimp only at this; omega)
        refine ⟨fun _ => ⟨hvn, fun z => bad (fun w => z (c1.mpr (by rw [w]; rfl))) _ _ _ _, fun z1 => ⟨hvn, fun z => bad (fun w => z (c2.mpr (by rw [w]; rfl))) _ _ _ _, fun z2 => ⟨hvn, fun z3 => ?_, fun z => bad (fun w => z (c3.mpr (by rw [w]; rfl))) _ _ _ _⟩⟩⟩, fun q => absurd q (nI_ne9 (by omega))⟩
        refine hgo rc rq2 A _ _ _ _ hlo hrl (BI_ok hB hl' ?_) hq hO
        rw [hn', hti, e]
        obtain ⟨f2, r2, u2⟩ := l2
        have k1 := c1.mp z1
        have k2 := c2.mp z2
        have k3 := c3.mp z3
        dsimp only at k1 k2 k3
        rw [k1, k2, k3]
        rfl
    · rw [eN_f hn]
      refine ⟨fun _ => hgo rc rq2 A _ _ _ _ hlo hrl (BI_none hB ?_) hq hO, fun q => absurd rfl q⟩
      rw [ht4, hti, hrl]
      exact hn
set_option maxHeartbeats 2000000 in
theorem X8_isWrapped_ok {mlo mnx mle mon moR moU mqu : Ar} {post : I3 → Ar → Ar → Ar → Ar → Ar → Ar → Prop} (hF : F ≤ 22) (hm : m < 8) (hf : f < F) (hi : i < 64) (hG : GS F look nb on) (hT : TB F look nb on mlo mnx mle) (hS : GSh S F) (hCN : CN S) (hss : ss i = nI F) (hR : RW sr (30 * i) S)
    (h1 : WRP F look nb on S f m → ∀ ix iy mon moR moU mqu, post 1 ix iy mon moR moU mqu) (h0 : ¬ WRP F look nb on S f m → ∀ ix iy mon moR moU mqu, post 0 ix iy mon moR moU mqu) :
    wp_X8_isWrapped ix iy mle mlo mnx mon moR moU mqu sr ss (nI i) (nI f) (nI m) post := by
  have hlk := hG.1 f hf
  unfold wp_X8_isWrapped
  rw [nI_clamp (show i < 2 ^ 31 by omega), nI_clamp (show f < 2 ^ 31 by omega), hss, hT.1 f hf, cl0]
  have hv0 : vp_in (0 : I3) 30 := vp_in_nI (n := 0) (by omega) (by omega)
  have hvf : vp_in (nI f) 30 := vp_in_nI (by omega) (by omega)
  refine ⟨vp_in_nI (by omega) (by omega), Lp_for F (fun k (s : Ar × Ar × Ar) => (∀ j, j < k → s.1 j = imX m (kX S j) (kY S j) ∧ s.2.1 j = imY m (kX S j) (kY S j)) ∧ ∀ j, j < k → s.2.2 j = -9) (by omega) (fun k s kb hk hI hkb => ?_) 0 (ix, iy, mon) (by omega) ⟨fun j hj => by omega, fun j hj => by omega⟩⟩
  obtain ⟨ix, iy, mon⟩ := s
  dsimp only [wl_X8_isWrapped_11, wb_X8_isWrapped_11]
  refine pk_le F k (fun hle => ?_) (fun hlt => ?_)
  · have e : k = F := by omega
    subst e
    have hIXY : IXY k m S ix iy := hI.1
    refine ⟨hv0, hvf, X8_firstRight_ok _ hlk ⟨hv0, hvf, X8_firstUp_ok _ hlk ⟨hv0, hv0, ?_⟩⟩⟩
    rw [fr_ok _ hlk, fu_ok _ hlk]
    refine Lp_of (fun s => ∃ lo rc rq A, lo ≤ rc ∧ s.2.1 = nI lo ∧ s.1 = nI rc ∧ MBI k m look nb on S f (4 * lo) rc rq A ∧ (∀ j, j < rc → s.2.2.2.2.2 j = nI (rq j)) ∧ ONR k A s.2.2.1 s.2.2.2.1 s.2.2.2.2.1) (fun s => 100 - s.2.1.toNatClampNeg) (fun s kb2 hS2 hkb2 => ?_) _ ⟨0, 1, updN (fun _ => 0) 0 0, lset (fun _ => none) 0 (fst3 look f), by omega, rfl, rfl, BI_first (by omega) ⟨hf, OR_first hlk⟩, fun j hj => ?_, fun p hp => ⟨fun q => ?_, fun l q => ?_⟩⟩
    · obtain ⟨s1, s2, mon, moR, moU, mqu⟩ := s
      obtain ⟨lo, rc, rq, A, hlo, e2, e1, hB, hq, hO⟩ := hS2
      replace e2 : s2 = nI lo := e2
      replace e1 : s1 = nI rc := e1
      replace hq : ∀ j, j < rc → mqu j = nI (rq j) := hq
      replace hO : ONR k A mon moR moU := hO
      subst e1 e2
      have hrc := BI_le hB
      dsimp only [wl_X8_isWrapped_147, wb_X8_isWrapped_147]
      refine pk_le rc lo (fun hle => ?_) (fun hlt => ?_)
      · -- all is reached
        obtain ⟨hfull, hall⟩ := BI_full (CNN_J hm (CNN_of hS hCN)) hB (by omega)
        have hcol := (COL_J hm).mp (BI_end hB hfull (by omega) hall)
        have hL : ∀ p, p < k → ∃ l, A p = some l ∧ mon p = nI l.1 ∧ l.1 < k := fun p hp => by
          obtain ⟨l, hl⟩ := hall p hp
          exact ⟨l, hl, ((hO p hp).2 l hl).1, (hB.2.1 p l hl).2.1.1⟩
        have same : ∀ a b, a < k → b < k → a ≠ b → mon a = mon b → ¬ WRP k look nb on S f m := fun a b ha hb hab hmon ⟨L, hL1, hL2⟩ => by
          obtain ⟨l, l1, l2, l3⟩ := hL a ha
          obtain ⟨l', l1', l2', l3'⟩ := hL b hb
          have f1 := hB.2.2.2.2.1 L ((COL_J hm).mpr hL1) a l l1
          have f2 := hB.2.2.2.2.1 L ((COL_J hm).mpr hL1) b l' l1'
          rw [l2, l2', nI_eq (by omega) (by omega)] at hmon
          exact hab (hL2 a b ha hb (by rw [f1, f2]; exact hmon))
        refine Lp_for0 k (fun a => ∀ x y, x < a → y < x → ¬ mon x = mon y) (by omega) (fun a kb3 ha hA hkb3 => ?_) 0 (by omega) (fun x y hx => by omega)
        dsimp only [wl_X8_isWrapped_410, wb_X8_isWrapped_410]
        refine pk_le k a (fun hle => ?_) (fun hlt => ?_)
        · refine h1 ⟨_, hcol, fun x y hx hy e => ?_⟩ _ _ _ _ _ _
          replace e : ((A x).getD (0, 0, 0)).1 = ((A y).getD (0, 0, 0)).1 := e
          obtain ⟨l, l1, l2, l3⟩ := hL x hx
          obtain ⟨l', l1', l2', l3'⟩ := hL y hy
          rw [l1, l1'] at e
          replace e : l.1 = l'.1 := e
          have em : mon x = mon y := by rw [l2, l2', e]
          by_cases c : x = y
          · exact c
          · by_cases c2 : x < y
            · exact absurd em.symm (hA y x (by omega) c2)
            · exact absurd em (hA x y (by omega) (by omega))
        · refine Lp_for0 a (fun b => ∀ y, y < b → ¬ mon a = mon y) (by omega) (fun b kb4 hb hBb hkb4 => ?_) 0 (by omega) (fun y hy => by omega)
          dsimp only [wl_X8_isWrapped_420, wb_X8_isWrapped_420]
          refine pk_le a b (fun hle => ?_) (fun hlt2 => ?_)
          · rw [nI_1]
            refine hkb3 hlt (fun x y hx hy => ?_)
            by_cases c : x = a
            · subst c; exact hBb y (by omega)
            · exact hA x y (by omega) hy
          · rw [nI_1, nI_clamp (show a < 2 ^ 31 by omega), nI_clamp (show b < 2 ^ 31 by omega)]
            refine ⟨vp_in_nI (by omega) (by omega), vp_in_nI (by omega) (by omega), fun q => hkb4 hlt2 (lt_s hBb q), fun q => h0 (same a b hlt (by omega) (by omega) q) _ _ _ _ _ _⟩
      · rw [nI_clamp (show lo < 2 ^ 31 by omega), nI_1 lo, hq lo hlt]
        refine ⟨vp_in_nI (by omega) (by omega), isW_166_ok hF hm hG hT hIXY hlt hB hq hO (fun hno mon moR moU mqu => h0 hno _ _ _ _ _ _) (fun rc rq A mon moR moU mqu c1 c2 c3 c4 => hkb2 _ ⟨lo + 1, rc, rq, A, by omega, rfl, rfl, c2, c3, c4⟩ (by show 100 - (nI (lo + 1)).toNatClampNeg < 100 - (nI lo).toNatClampNeg; rw [nI_clamp (by omega), nI_clamp (by omega)]; omega))⟩
    · rw [show j = 0 by omega, updN_s]
      show upd mqu 0 0 0 = nI 0
      rw [pk_us]; rfl
    · have e : p ≠ 0 := fun e => by rw [e, lset_s] at q; cases q
      show upd mon 0 (nI f) p = -9
      rw [pk_un e]; exact hI.2 p hp
    · by_cases e : p = 0
      · subst e; rw [lset_s] at q; cases q
        show upd mon 0 (nI f) 0 = _ ∧ upd moR 0 _ 0 = _ ∧ upd moU 0 _ 0 = _
        rw [pk_us, pk_us, pk_us]; exact ⟨rfl, rfl, rfl⟩
      · rw [lset_n e] at q; cases q
  · obtain ⟨a, b, c, d, e⟩ := vk_ok hS hlt
    have hrow : sr (30 * i + k) = nI (vk S k) := by have := hR _ a; rw [b] at this; exact this
    have hv : vp_in (nI k) 30 := vp_in_nI (by omega) (by omega)
    have hvr : vp_in (nI (30 * i + k)) 1920 := vp_in_nI (by omega) (by omega)
    rw [ix30, nI_1, nI_clamp (show 30 * i + k < 2 ^ 31 by omega), nI_clamp (show k < 2 ^ 31 by omega), hrow, show nI (vk S k) - nI (vk S k) / (32 : I3) * (32 : I3) = nI (vk S k % 32) from pk_rem (d := 32) (by omega) (by omega) (by omega), show nI (vk S k) / (32 : I3) = nI (vk S k / 32) from pk_div (d := 32) (by omega) (by omega) (by omega)]
    refine ⟨hvr, hvr, X8_imageOfX_ok m hm ⟨hv, X8_imageOfY_ok m hm ⟨hv, hv, hkb (_, _, _) hlt ⟨fun j hj => ?_, fun j hj => ?_⟩⟩⟩⟩
    · show upd ix k _ j = _ ∧ upd iy k _ j = _
      by_cases c : j = k
      · subst c; rw [pk_us, pk_us]; exact ⟨rfl, rfl⟩
      · rw [pk_un c, pk_un c]; exact hI.1 j (by omega)
    · show upd mon k (-9) j = -9
      by_cases c : j = k
      · subst c; rw [pk_us]
      · rw [pk_un c]; exact hI.2 j (by omega)
end MODEL
/-- how many ways, up to here -/
noncomputable def wyN (F : Nat) (look : Nat → Nat) (nb on : Nat → Nat → Nat) (S : Nat → Prop) (j : Nat) : Nat := cnt (fun j => WRP F look nb on S (j / 8) (j % 8)) j
theorem wyN_t {F : Nat} {look : Nat → Nat} {nb on : Nat → Nat → Nat} {S : Nat → Prop} {f m : Nat} (hm : m < 8) (h : WRP F look nb on S f m) : wyN F look nb on S (8 * f + (m + 1)) = wyN F look nb on S (8 * f + m) + 1 := by
  unfold wyN
  rw [show 8 * f + (m + 1) = 8 * f + m + 1 by omega]
  exact cnt_t (by rw [show (8 * f + m) / 8 = f by omega, show (8 * f + m) % 8 = m by omega]; exact h)
theorem wyN_f {F : Nat} {look : Nat → Nat} {nb on : Nat → Nat → Nat} {S : Nat → Prop} {f m : Nat} (hm : m < 8) (h : ¬ WRP F look nb on S f m) : wyN F look nb on S (8 * f + (m + 1)) = wyN F look nb on S (8 * f + m) := by
  unfold wyN
  rw [show 8 * f + (m + 1) = 8 * f + m + 1 by omega]
  exact cnt_f (by rw [show (8 * f + m) / 8 = f by omega, show (8 * f + m) % 8 = m by omega]; exact h)
def WSI (ct : I3) (hd li x y : Ar) : Prop := ∃ pp N, N ≤ 31 ∧ CS N pp ct hd li x y
set_option maxHeartbeats 2000000 in
theorem X6_countWays_ok {F i sz : Nat} {look : Nat → Nat} {nb on : Nat → Nat → Nat} {S : Nat → Prop} {rcI ct : I3} {nu pl bs fon is re hd li x y lo be ow : Ar} {tk : Aw} {post : I3 → I3 → Ar → Ar → Ar → I3 → Ar → Ar → Aw → Ar → Ar → Prop} (hF : F ≤ 22) (hi : i < 64) (hG : GS F look nb on) (hT : TB F look nb on lo be ow) (hS : GSh S sz) (hCN : CN S) (hpl : pl i = nI sz) (hR : RW nu (i * 22) S) (hI : ISd is) (hW : WSI ct hd li x y)
    (h0 : ¬ sz = F → post 0 rcI bs fon re ct hd li tk x y)
    (h1 : sz = F → ∀ (rcI ct : I3) (bs fon re hd li x y : Ar) (tk : Aw), WSI ct hd li x y → post (nI (wyN F look nb on S (8 * F))) rcI bs fon re ct hd li tk x y) :
    wp_X6_countWays rcI nu pl bs fon is re ct hd li tk x y (nI F) be lo ow (nI i) post := by
  have g2 := hS.2.1
  unfold wp_X6_countWays
  rw [nI_clamp (show i < 2 ^ 31 by omega), hpl]
  have hsz : nI sz = nI F ↔ sz = F := nI_eq (by omega) (by omega)
  refine ⟨vp_in_nI (by omega) (by omega), fun q => ?_, fun q => h0 (fun z => q (hsz.mpr z))⟩
  have e := hsz.mp q
  subst e
  refine X6_findNeighbours_ok hi hS hpl hR (fun bs hB => ?_)
  refine Lp_of (fun s => ∃ f, f ≤ sz ∧ s.2.1 = nI f ∧ s.1 = nI (wyN sz look nb on S (8 * f)) ∧ WSI s.2.2.2.2.2.1 s.2.2.2.2.2.2.1 s.2.2.2.2.2.2.2.1 s.2.2.2.2.2.2.2.2.2.1 s.2.2.2.2.2.2.2.2.2.2) (fun s => sz - s.2.1.toNatClampNeg) (fun s kb hS2 hkb => ?_) _ ⟨0, by omega, rfl, rfl, hW⟩
  obtain ⟨s1, s2, rcI, fon, re, ct, hd, li, tk, x, y⟩ := s
  obtain ⟨f, hf, e2, e1, hW⟩ := hS2
  replace e2 : s2 = nI f := e2
  replace e1 : s1 = nI (wyN sz look nb on S (8 * f)) := e1
  subst e1 e2
  dsimp only [wl_X6_countWays_30, wb_X6_countWays_30]
  refine pk_le sz f (fun hle => ?_) (fun hlt => ?_)
  · have e : f = sz := by omega
    subst e
    exact h1 rfl _ _ _ _ _ _ _ _ _ _ hW
  · rw [nI_1 f]
    refine Lp_of (fun s => ∃ m, m ≤ 8 ∧ s.2.1 = nI m ∧ s.1 = nI (wyN sz look nb on S (8 * f + m)) ∧ WSI s.2.2.2.2.2.1 s.2.2.2.2.2.2.1 s.2.2.2.2.2.2.2.1 s.2.2.2.2.2.2.2.2.2.1 s.2.2.2.2.2.2.2.2.2.2) (fun s => 8 - s.2.1.toNatClampNeg) (fun s kb2 hS2 hkb2 => ?_) _ ⟨0, by omega, rfl, rfl, hW⟩
    obtain ⟨s1, s2, rcI, fon, re, ct, hd, li, tk, x, y⟩ := s
    obtain ⟨m, hm, e2, e1, hW⟩ := hS2
    replace e2 : s2 = nI m := e2
    replace e1 : s1 = nI (wyN sz look nb on S (8 * f + m)) := e1
    subst e1 e2
    dsimp only [wl_X6_countWays_44, wb_X6_countWays_44]
    refine pk_le 8 m (fun hle => ?_) (fun hlt2 => ?_)
    · have e : m = 8 := by omega
      subst e
      rw [show 8 * f + 8 = 8 * (f + 1) by omega]
      exact hkb _ ⟨f + 1, by omega, rfl, rfl, hW⟩ (by show sz - (nI (f + 1)).toNatClampNeg < sz - (nI f).toNatClampNeg; rw [nI_clamp (by omega), nI_clamp (by omega)]; omega)
    · obtain ⟨pp, N, hN, hC⟩ := hW
      have hmu : 8 - (nI (m + 1)).toNatClampNeg < 8 - (nI m).toNatClampNeg := by rw [nI_clamp (by omega), nI_clamp (by omega)]; omega
      rw [nI_1 m, nI_1 (wyN sz look nb on S (8 * f + m))]
      refine X6_canFold_ok hF hlt2 hlt hG hT hS hCN hB hI hN hC (fun hw pp rcI ct fon re hd li x y tk hC2 => ⟨fun q => absurd q (by decide), fun _ => ?_⟩) (fun hw pp rcI ct fon re hd li x y tk hC2 => ⟨fun _ => ?_, fun q => absurd rfl q⟩)
      · exact hkb2 _ ⟨m + 1, by omega, rfl, by show nI _ = nI _; rw [wyN_t hlt2 hw], pp, 30, by omega, hC2⟩ hmu
      · exact hkb2 _ ⟨m + 1, by omega, rfl, by show nI _ = nI _; rw [wyN_f hlt2 hw], pp, 30, by omega, hC2⟩ hmu
set_option maxHeartbeats 2000000 in
theorem X8_ways_ok {F i sz : Nat} {look : Nat → Nat} {nb on : Nat → Nat → Nat} {S : Nat → Prop} {mlo mnx mle ix iy mon moR moU mqu sr ss : Ar} {kx : I3 → Ar → Ar → Ar → Ar → Ar → Ar → Prop} (hF1 : 1 ≤ F) (hF : F ≤ 22) (hi : i < 64) (hG : GS F look nb on) (hT : TB F look nb on mlo mnx mle) (hS : GSh S sz) (hCN : CN S) (hss : ss i = nI sz) (hR : RW sr (30 * i) S)
    (h0 : ¬ sz = F → ∀ ix iy mon moR moU mqu, kx 0 ix iy mon moR moU mqu) (h1 : sz = F → ∀ ix iy mon moR moU mqu, kx (nI (wyN F look nb on S (8 * F))) ix iy mon moR moU mqu) :
    Lp (wl_X8_wraps_24 (nI F) mle mlo mnx sr ss (nI i) kx) ((0 : I3), (0 : I3), ix, iy, mon, moR, moU, mqu) := by
  have g2 := hS.2.1
  have hsz : nI sz = nI F ↔ sz = F := nI_eq (by omega) (by omega)
  by_cases c : sz = F
  · subst c
    refine Lp_of (fun s => ∃ f, f ≤ sz ∧ s.2.1 = nI f ∧ s.1 = nI (wyN sz look nb on S (8 * f))) (fun s => sz - s.2.1.toNatClampNeg) (fun s kb hS2 hkb => ?_) _ ⟨0, by omega, rfl, rfl⟩
    obtain ⟨s1, s2, ix, iy, mon, moR, moU, mqu⟩ := s
    obtain ⟨f, hf, e2, e1⟩ := hS2
    replace e2 : s2 = nI f := e2
    replace e1 : s1 = nI (wyN sz look nb on S (8 * f)) := e1
    subst e1 e2
    dsimp only [wl_X8_wraps_24, wb_X8_wraps_24]
    refine pk_le sz f (fun hle => ?_) (fun hlt => ?_)
    · have e : f = sz := by omega
      subst e
      exact h1 rfl _ _ _ _ _ _
    · rw [nI_1 f, nI_clamp (show i < 2 ^ 31 by omega), hss]
      refine ⟨vp_in_nI (by omega) (by omega), fun q => absurd rfl q, fun _ => ?_⟩
      refine Lp_of (fun s => ∃ m, m ≤ 8 ∧ s.2.1 = nI m ∧ s.1 = nI (wyN sz look nb on S (8 * f + m))) (fun s => 8 - s.2.1.toNatClampNeg) (fun s kb2 hS2 hkb2 => ?_) _ ⟨0, by omega, rfl, rfl⟩
      obtain ⟨s1, s2, ix, iy, mon, moR, moU, mqu⟩ := s
      obtain ⟨m, hm, e2, e1⟩ := hS2
      replace e2 : s2 = nI m := e2
      replace e1 : s1 = nI (wyN sz look nb on S (8 * f + m)) := e1
      subst e1 e2
      dsimp only [wl_X8_wraps_48, wb_X8_wraps_48]
      refine pk_le 8 m (fun hle => ?_) (fun hlt2 => ?_)
      · have e : m = 8 := by omega
        subst e
        rw [show 8 * f + 8 = 8 * (f + 1) by omega]
        exact hkb _ ⟨f + 1, by omega, rfl, rfl⟩ (by show sz - (nI (f + 1)).toNatClampNeg < sz - (nI f).toNatClampNeg; rw [nI_clamp (by omega), nI_clamp (by omega)]; omega)
      · have hmu : 8 - (nI (m + 1)).toNatClampNeg < 8 - (nI m).toNatClampNeg := by rw [nI_clamp (by omega), nI_clamp (by omega)]; omega
        rw [nI_1 m, nI_1 (wyN sz look nb on S (8 * f + m)), Int32.add_zero]
        refine X8_isWrapped_ok hF hlt2 hlt hi hG hT hS hCN hss hR (fun hw ix iy mon moR moU mqu => ⟨fun q => absurd q (by decide), fun _ => ?_⟩) (fun hw ix iy mon moR moU mqu => ⟨fun _ => ?_, fun q => absurd rfl q⟩)
        · exact hkb2 _ ⟨m + 1, by omega, rfl, by show nI _ = nI _; rw [wyN_t hlt2 hw]⟩ hmu
        · exact hkb2 _ ⟨m + 1, by omega, rfl, by show nI _ = nI _; rw [wyN_f hlt2 hw]⟩ hmu
  · refine Lp_of (fun s => s.1 = 0 ∧ s.2.1 = 0) (fun _ => 0) (fun s kb hS2 hkb => ?_) _ ⟨rfl, rfl⟩
    obtain ⟨s1, s2, ix, iy, mon, moR, moU, mqu⟩ := s
    obtain ⟨e1, e2⟩ := hS2
    replace e1 : s1 = 0 := e1
    replace e2 : s2 = 0 := e2
    subst e1 e2
    dsimp only [wl_X8_wraps_24, wb_X8_wraps_24]
    refine pk_le F 0 (fun q => by omega) (fun _ => ?_)
    rw [nI_clamp (show i < 2 ^ 31 by omega), hss]
    exact ⟨vp_in_nI (by omega) (by omega), fun _ => h0 c _ _ _ _ _ _, fun q => absurd (hsz.mp q) c⟩
