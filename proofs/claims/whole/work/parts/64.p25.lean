-- PURE 25: op_wraps; the sides of images
theorem side_u : ∀ k, k < 4 → ∀ j, j < 4 → q_SIDE_X k = q_SIDE_X j → q_SIDE_Y k = q_SIDE_Y j → k = j := by decide
theorem X6_sideInImage_ok {m s : Nat} {post : I3 → Prop} (hm : m < 8) (hs : s < 4) (h : post (nI (sI m s))) : wp_X6_sideInImage (nI m) (nI s) post := by
  obtain ⟨i1, i2, i3⟩ := sI_ok m hm s hs
  have hvm : vp_in (nI m) 8 := vp_in_nI (by omega) (by omega)
  have hvs : vp_in (nI s) 4 := vp_in_nI (by omega) (by omega)
  unfold wp_X6_sideInImage
  rw [nI_clamp (show m < 2 ^ 31 by omega), nI_clamp (show s < 2 ^ 31 by omega)]
  refine ⟨hvm, hvs, hvm, hvs, hvm, hvs, hvm, hvs, ?_⟩
  show Lp (wl_X6_sideInImage_54 (imX m (q_SIDE_X s) (q_SIDE_Y s)) (imY m (q_SIDE_X s) (q_SIDE_Y s)) (fun l4_1 => post l4_1)) ((0 : I3), (0 : I3))
  rw [i2, i3]
  refine Lp_of (fun v => ∃ k, k ≤ 4 ∧ v.2 = nI k ∧ (sI m s < k → v.1 = nI (sI m s))) (fun v => 4 - v.2.toNatClampNeg) (fun v kb hI hkb => ?_) _ ⟨0, by omega, rfl, fun q => by omega⟩
  obtain ⟨v1, v2⟩ := v
  obtain ⟨k, hk, e2, hv⟩ := hI
  replace e2 : v2 = nI k := e2
  replace hv : sI m s < k → v1 = nI (sI m s) := hv
  subst e2
  dsimp only [wl_X6_sideInImage_54, wb_X6_sideInImage_54]
  refine pk_le 4 k (fun hle => ?_) (fun hlt => ?_)
  · rw [hv (by omega)]; exact h
  · have hvk : vp_in (nI k) 4 := vp_in_nI (by omega) (by omega)
    have hmu : 4 - (nI (k + 1)).toNatClampNeg < 4 - (nI k).toNatClampNeg := by rw [nI_clamp (by omega), nI_clamp (by omega)]; omega
    rw [nI_1, nI_clamp (show k < 2 ^ 31 by omega)]
    have no : ¬ k = sI m s → kb (v1, nI (k + 1)) := fun q => hkb _ ⟨k + 1, by omega, rfl, fun z => hv (by omega)⟩ hmu
    refine ⟨hvk, fun q => no (fun z => q (by rw [z])), fun q1 => ⟨hvk, fun q => no (fun z => q (by rw [z])), fun q2 => hkb _ ⟨k + 1, by omega, rfl, fun _ => ?_⟩ hmu⟩⟩
    show nI k = nI (sI m s)
    rw [side_u k hlt _ i1 q1 q2]
theorem X6_init_ok {is : Ar} {post : Ar → Prop} (h : ∀ is, ISd is → post is) : wp_X6_init is post := by
  unfold wp_X6_init
  refine Lp_for 8 (fun m is => ∀ k s, k < m → s < 4 → is (k * 4 + s) = nI (sI k s)) (by omega) (fun m is kb hm hI hkb => ?_) 0 is (by omega) (fun k s hk => by omega)
  dsimp only [wl_X6_init_60, wb_X6_init_60]
  refine pk_le 8 m (fun hle => ?_) (fun hlt => ?_)
  · exact h _ (fun k s hk hs => hI k s (by omega) hs)
  · rw [nI_1 m]
    refine Lp_for 4 (fun s is => (∀ k s, k < m → s < 4 → is (k * 4 + s) = nI (sI k s)) ∧ ∀ s', s' < s → is (m * 4 + s') = nI (sI m s')) (by omega) (fun s is kb2 hs hJ hkb2 => ?_) 0 is (by omega) ⟨hI, fun s' hs' => by omega⟩
    dsimp only [wl_X6_init_69, wb_X6_init_69]
    refine pk_le 4 s (fun hle => ?_) (fun hlt2 => ?_)
    · refine hkb _ hlt (fun k s2 hk hs2 => ?_)
      by_cases e : k = m
      · subst e; exact hJ.2 s2 (by omega)
      · exact hJ.1 k s2 (by omega) hs2
    · rw [nI_1 s]
      refine X6_sideInImage_ok hlt hlt2 ?_
      rw [ix4, nI_clamp (show m * 4 + s < 2 ^ 31 by omega)]
      refine ⟨vp_in_nI (by omega) (by omega), hkb2 _ hlt2 ⟨fun k s2 hk hs2 => ?_, fun s2 hs2 => ?_⟩⟩
      · rw [pk_un (by omega)]; exact hJ.1 k s2 hk hs2
      · by_cases e : s2 = s
        · subst e; rw [pk_us]
        · rw [pk_un (by omega)]; exact hJ.2 s2 (by omega)
set_option maxHeartbeats 2000000 in
theorem op_wraps {F : Nat} {look : Nat → Nat} {nb on : Nat → Nat → Nat} {B : Nat} {ac nets work ended step fo wi he no ct mco mst men mne mwo bw bh bn shs : I3} {im ix iy lm nu pl bx bY laid las hd li x y atX atY mbx mbY ch has od ri sr ss up : Ar} {tk : Aw} {cu wrc wct p1 : I3} {lo be ow mlo mnx mle wbs wfo wis wre whd wli wx wy mix miy mon moR moU mqu : Ar} {wtk : Aw} {post : I3 → I3 → Ar → Ar → Ar → I3 → Ar → Ar → Aw → Ar → Ar → I3 → Ar → Ar → Ar → Ar → Ar → Ar → Prop} (hF : F ≤ 22) (hG : GS F look nb on) (hT : TB F look nb on lo be ow) (hM : TB F look nb on mlo mnx mle) (hcu : ¬ cu = 0 → 1 ≤ F) (hS : SrI F look B ac im ix iy lm nu pl nets work ended step fo wi he no bx bY laid las ct hd li tk x y mco mst men mne mwo bw bh bn shs atX atY mbx mbY ch has od ri sr ss up) (hI : ISd wis) (hW : WSI wct whd wli wx wy)
    (h : ∀ (r wrc wct : I3) (wbs wfo wre whd wli wx wy mix miy mon moR moU mqu : Ar) (wtk : Aw), WSI wct whd wli wx wy → post r wrc wbs wfo wre wct whd wli wtk wx wy r mix miy mon moR moU mqu) :
    wp_X7_wraps ac nu pl cu (nI F) be lo ow wrc wbs wfo wis wre wct whd wli wtk wx wy p1 (fun r wrc wbs wfo wre wct whd wli wtk wx wy => wp_X8_wraps cu (nI F) shs mix miy mle mlo mnx mon moR moU mqu sr ss p1 (fun r' mix miy mon moR moU mqu => post r wrc wbs wfo wre wct whd wli wtk wx wy r' mix miy mon moR moU mqu)) := by
  obtain ⟨ns, s1, s2, s3, s4, s5, s6⟩ := hS
  obtain ⟨-, g, ⟨rfl, hA⟩, -⟩ := s1
  obtain ⟨-, -, ⟨rfl, hMM⟩, -⟩ := s2
  have g0 := g.1
  unfold wp_X7_wraps wp_X8_wraps
  refine isShape_ok g0 (fun i hi e => ⟨fun _ => ?_, fun z => absurd z (by decide)⟩) (fun hno => ⟨fun z => absurd rfl z, fun _ => isShape8_ok g0 (fun i hi e => absurd e (hno i hi)) (fun _ => ⟨fun z => absurd rfl z, fun _ => h _ _ _ _ _ _ _ _ _ _ _ _ _ _ _ _ _ hW⟩)⟩)
  subst e
  have i64 : i < 64 := by omega
  refine ⟨fun q => ?_, fun q => isShape8_ok g0 (fun _ _ _ => ⟨fun _ => ⟨fun z => absurd q z, fun _ => h _ _ _ _ _ _ _ _ _ _ _ _ _ _ _ _ _ hW⟩, fun z => absurd z (by decide)⟩) (fun hno => absurd rfl (hno i hi))⟩
  have hF1 := hcu q
  refine X6_countWays_ok hF i64 hG hT (g.2 i hi) (s3 i hi) (hA i hi).1 (hA i hi).2 hI hW (fun hsz => ?_) (fun hsz wrc wct wbs wfo wre whd wli wx wy wtk hW2 => ?_)
  · refine isShape8_ok g0 (fun _ _ _ => ⟨fun _ => ⟨fun _ => ?_, fun z => absurd z q⟩, fun z => absurd z (by decide)⟩) (fun hno => absurd rfl (hno i hi))
    exact X8_ways_ok hF1 hF i64 hG hM (g.2 i hi) (s3 i hi) (hMM i hi).1 (hMM i hi).2 (fun _ mix miy mon moR moU mqu => h _ _ _ _ _ _ _ _ _ _ _ _ _ _ _ _ _ hW) (fun z => absurd z hsz)
  · refine isShape8_ok g0 (fun _ _ _ => ⟨fun _ => ⟨fun _ => ?_, fun z => absurd z q⟩, fun z => absurd z (by decide)⟩) (fun hno => absurd rfl (hno i hi))
    exact X8_ways_ok hF1 hF i64 hG hM (g.2 i hi) (s3 i hi) (hMM i hi).1 (hMM i hi).2 (fun z => absurd hsz z) (fun _ mix miy mon moR moU mqu => h _ _ _ _ _ _ _ _ _ _ _ _ _ _ _ _ _ hW2)
