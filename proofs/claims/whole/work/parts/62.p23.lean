-- PURE 23: the class folds
theorem op_inj {a b : Nat} (ha : a < 6) (hb : b < 6) (h : op a = op b) : a = b := by rw [← op_op a ha, ← op_op b hb, h]
theorem hd_next : ∀ {s : Nat}, s < 4 → ∀ {r u r2 u2 o : Nat}, r < 6 → u < 6 → r2 < 6 → u2 < 6 → o < 6 → ((sd r2 u2 s = o ∧ sd r2 u2 (s1 s) = sd r u (s1 s)) ↔ (r2 = nr r s o ∧ u2 = nu u s o)) := by
  intro s hs r u r2 u2 o hr hu hr2 hu2 ho
  match s, hs with
  | 0, _ => exact ⟨fun h => ⟨h.1, h.2⟩, fun h => ⟨h.1, h.2⟩⟩
  | 1, _ => exact ⟨fun h => ⟨h.2, h.1⟩, fun h => ⟨h.2, h.1⟩⟩
  | 2, _ =>
    show (op r2 = o ∧ op u2 = op u) ↔ (r2 = op o ∧ u2 = u)
    exact ⟨fun h => ⟨by rw [← h.1, op_op r2 hr2], op_inj hu2 hu h.2⟩, fun h => ⟨by rw [h.1, op_op o ho], by rw [h.2]⟩⟩
  | 3, _ =>
    show (op u2 = o ∧ op r2 = op r) ↔ (r2 = r ∧ u2 = op o)
    exact ⟨fun h => ⟨op_inj hr2 hr h.2, by rw [← h.1, op_op u2 hu2]⟩, fun h => ⟨by rw [h.2, op_op o ho], by rw [h.1]⟩⟩
theorem sd_lt {r u s : Nat} (hr : r < 6) (hu : u < 6) (hs : s < 4) : sd r u s < 6 := by
  match s, hs with
  | 0, _ => exact hr
  | 1, _ => exact hu
  | 2, _ => exact op_lt r
  | 3, _ => exact op_lt u
set_option maxHeartbeats 1000000 in
theorem X3_fitsBeside_ok {N F : Nat} {look : Nat → Nat} {nb on : Nat → Nat → Nat} {pp : Nat → Option PL} {ct : I3} {hd li x y lo be ow : Ar} {f s : Nat} {p : PL} {post : I3 → Prop} (hG : GS F look nb on) (hT : TB F look nb on lo be ow) (hF : F ≤ 22) (hC : CS N pp ct hd li x y) (hf : f < F) (hs : s < 4) (hp : pp f = some p) (hO : OR look f p.2.2.1 p.2.2.2)
    (h1 : pp (nb f (sd p.2.2.1 p.2.2.2 s)) = some (nxt on f p s) → post 1) (h0 : ¬ pp (nb f (sd p.2.2.1 p.2.2.2 s)) = some (nxt on f p s) → post 0) : wp_X3_fitsBeside hd li be ow x y (nI f) (nI s) post := by
  obtain ⟨c1, c2, c3, c4, c5, c6, c7, c8, c9⟩ := hC.2.1 f p hp
  obtain ⟨d1, d2⟩ := sd_ok hO hs
  obtain ⟨g1, g2, g3⟩ := hG.2 _ _ hf d1 d2
  have hvg : vp_in (nI (nb f (sd p.2.2.1 p.2.2.2 s))) 22 := vp_in_nI (by omega) (by omega)
  have hvf : vp_in (nI f) 22 := vp_in_nI (by omega) (by omega)
  have hvs : vp_in (nI s) 4 := vp_in_nI (by omega) (by omega)
  unfold wp_X3_fitsBeside
  refine X3_neighbour_ok hT hF hf hs c7 hO ⟨hvg, ?_⟩
  rw [nI_clamp (show nb f (sd p.2.2.1 p.2.2.2 s) < 2 ^ 31 by omega), nI_clamp (show f < 2 ^ 31 by omega), nI_clamp (show s < 2 ^ 31 by omega), c3, c4]
  cases e : pp (nb f (sd p.2.2.1 p.2.2.2 s)) with
  | none =>
    rw [e] at h0
    exact ⟨fun _ => h0 (fun q => by cases q), fun q => absurd (hC.1 _ e (by omega)) q⟩
  | some q =>
    rw [e] at h0 h1
    obtain ⟨b1, b2, b3, b4, b5, b6, b7, b8, b9⟩ := hC.2.1 _ q e
    have hs1 := s1_lt s
    rw [b2, b3, b4, s1_x s hs]
    refine ⟨fun z => absurd z (by decide), fun _ => ⟨hvg, hvf, hvs, fun z => h0 (fun w => z ?_), fun z1 => ⟨hvg, hvf, hvs, fun z => h0 (fun w => z ?_), fun z2 => ?_⟩⟩⟩
    · cases w; rfl
    · cases w; rfl
    · have hk := hd_next hs hO.1 hO.2.1 b5 b6 g2
      refine X3_heading_ok b1 hs (X3_onward_ok hT hF hf hs c7 hO ?_)
      rw [b7 s hs]
      have e1 : nI (sd q.2.2.1 q.2.2.2 s) = nI (on f (sd p.2.2.1 p.2.2.2 s)) ↔ sd q.2.2.1 q.2.2.2 s = on f (sd p.2.2.1 p.2.2.2 s) := nI_eq (by have := sd_lt b5 b6 hs; omega) (by omega)
      have e2 : nI (sd q.2.2.1 q.2.2.2 (s1 s)) = nI (sd p.2.2.1 p.2.2.2 (s1 s)) ↔ sd q.2.2.1 q.2.2.2 (s1 s) = sd p.2.2.1 p.2.2.2 (s1 s) := nI_eq (by have := sd_lt b5 b6 hs1; omega) (by have := sd_lt hO.1 hO.2.1 hs1; omega)
      have hw : ∀ w : some q = some (nxt on f p s), q.2.2.1 = nr p.2.2.1 s (on f (sd p.2.2.1 p.2.2.2 s)) ∧ q.2.2.2 = nu p.2.2.2 s (on f (sd p.2.2.1 p.2.2.2 s)) := fun w => by cases w; exact ⟨rfl, rfl⟩
      refine ⟨fun z => h0 (fun w => z (e1.mpr (hk.mpr (hw w)).1)), fun z3 => X3_heading_ok b1 hs1 (X3_heading_ok c1 hs1 ?_)⟩
      rw [b7 _ hs1, c7 _ hs1]
      refine ⟨fun z => h0 (fun w => z (e2.mpr (hk.mpr (hw w)).2)), fun z4 => h1 ?_⟩
      obtain ⟨k1, k2⟩ := hk.mp ⟨e1.mp z3, e2.mp z4⟩
      unfold nxt
      rw [← k1, ← k2, ← z1, ← z2]
section PLACES
variable {S : Nat → Prop} {i n : Nat} {nu pl : Ar}
theorem nu_at {k : Nat} (hG : GSh S n) (hR : RW nu (i * 22) S) (hk : k < n) : nu (i * 22 + k) = nI (vk S k) := by
  obtain ⟨a, b, -⟩ := vk_ok hG hk
  have := hR _ a
  rw [b] at this
  exact this
theorem X0_placeX_ok {k : Nat} {post : I3 → Prop} (hi : i < 64) (hG : GSh S n) (hR : RW nu (i * 22) S) (hk : k < n) (h : post (kX S k)) : wp_X0_placeX nu (nI i) (nI k) post := by
  have a := vk_ok hG hk
  have b := hG.2.1
  unfold wp_X0_placeX
  rw [ix22, nI_clamp (show i * 22 + k < 2 ^ 31 by omega), nu_at hG hR hk, show nI (vk S k) - nI (vk S k) / (32 : I3) * (32 : I3) = nI (vk S k % 32) from pk_rem (d := 32) (by omega) (by omega) (by omega)]
  exact ⟨vp_in_nI (by omega) (by omega), h⟩
theorem X0_placeY_ok {k : Nat} {post : I3 → Prop} (hi : i < 64) (hG : GSh S n) (hR : RW nu (i * 22) S) (hk : k < n) (h : post (kY S k)) : wp_X0_placeY nu (nI i) (nI k) post := by
  have a := vk_ok hG hk
  have b := hG.2.1
  unfold wp_X0_placeY
  rw [ix22, nI_clamp (show i * 22 + k < 2 ^ 31 by omega), nu_at hG hR hk, show nI (vk S k) / (32 : I3) = nI (vk S k / 32) from pk_div (d := 32) (by omega) (by omega) (by omega)]
  exact ⟨vp_in_nI (by omega) (by omega), h⟩
theorem X0_placeAt_ok {a b : I3} {post : I3 → Prop} (hi : i < 64) (hG : GSh S n) (hpl : pl i = nI n) (hR : RW nu (i * 22) S) (h : post (eN (lf (fun j => kX S j = a ∧ kY S j = b) n) n (-1))) : wp_X0_placeAt nu pl (nI i) a b post := by
  have g2 := hG.2.1
  unfold wp_X0_placeAt
  refine Lp_for0 n (fun k => ∀ j, j < k → ¬ (kX S j = a ∧ kY S j = b)) (by omega) (fun k kb hk hI hkb => ?_) 0 (by omega) (fun j hj => by omega)
  dsimp only [wl_X0_placeAt_3, wb_X0_placeAt_3]
  rw [nI_clamp (show i < 2 ^ 31 by omega), hpl]
  refine ⟨vp_in_nI (by omega) (by omega), pk_le n k (fun hle => ?_) (fun hlt => ?_)⟩
  · rw [lf_miss (fun j hj => hI j (by omega)), eN_f (by omega)] at h
    exact h
  · rw [nI_1]
    refine X0_placeX_ok hi hG hR hlt ⟨fun q => hkb hlt (lt_s hI (fun z => q z.1)), fun q1 => X0_placeY_ok hi hG hR hlt ⟨fun q => hkb hlt (lt_s hI (fun z => q z.2)), fun q2 => ?_⟩⟩
    rw [lf_hit hlt ⟨q1, q2⟩ hI, eN_t hlt] at h
    exact h
def BE (S : Nat → Prop) (F : Nat) (bs : Ar) : Prop := ∀ k s, k < F → s < 4 → bs (k * 4 + s) = eN (bsK S F k s) F (-1)
theorem X6_findNeighbours_ok {bs : Ar} {post : Ar → Prop} (hi : i < 64) (hG : GSh S n) (hpl : pl i = nI n) (hR : RW nu (i * 22) S) (h : ∀ bs, BE S n bs → post bs) : wp_X6_findNeighbours nu pl bs (nI n) (nI i) post := by
  have g2 := hG.2.1
  unfold wp_X6_findNeighbours
  refine Lp_for n (fun k bs => ∀ j s, j < k → s < 4 → bs (j * 4 + s) = eN (bsK S n j s) n (-1)) (by omega) (fun k bs kb hk hI hkb => ?_) 0 bs (by omega) (fun j s hj => by omega)
  dsimp only [wl_X6_findNeighbours_2, wb_X6_findNeighbours_2]
  refine pk_le n k (fun hle => ?_) (fun hlt => ?_)
  · have e : k = n := by omega
    subst e
    exact h _ hI
  · refine X0_placeX_ok hi hG hR hlt (X0_placeY_ok hi hG hR hlt ?_)
    refine Lp_for 4 (fun s bs => (∀ j s, j < k → s < 4 → bs (j * 4 + s) = eN (bsK S n j s) n (-1)) ∧ ∀ s', s' < s → bs (k * 4 + s') = eN (bsK S n k s') n (-1)) (by omega) (fun s bs kb2 hs hJ hkb2 => ?_) 0 bs (by omega) ⟨hI, fun s' hs' => by omega⟩
    dsimp only [wl_X6_findNeighbours_37, wb_X6_findNeighbours_37]
    refine pk_le 4 s (fun hle => ?_) (fun hlt2 => ?_)
    · rw [nI_1]
      refine hkb _ hlt (fun j s2 hj hs2 => ?_)
      by_cases e : j = k
      · subst e; exact hJ.2 s2 (by omega)
      · exact hJ.1 j s2 (by omega) hs2
    · have hv : vp_in (nI s) 4 := vp_in_nI (by omega) (by omega)
      rw [nI_clamp (show s < 2 ^ 31 by omega), ix4, nI_1, nI_clamp (show k * 4 + s < 2 ^ 31 by omega)]
      refine ⟨hv, hv, X0_placeAt_ok hi hG hpl hR ⟨vp_in_nI (by omega) (by omega), hkb2 _ hlt2 ⟨fun j s2 hj hs2 => ?_, fun s2 hs2 => ?_⟩⟩⟩
      · rw [pk_un (by omega)]; exact hJ.1 j s2 hj hs2
      · by_cases e : s2 = s
        · subst e; rw [pk_us]; rfl
        · rw [pk_un (by omega)]; exact hJ.2 s2 (by omega)
end PLACES
-- where a place lies on the sheet
noncomputable def PX (m : Nat) (S : Nat → Prop) (p : Nat) : I3 := imX m (kX S p - kX S 0) (kY S p - kY S 0)
noncomputable def PY (m : Nat) (S : Nat → Prop) (p : Nat) : I3 := imY m (kX S p - kX S 0) (kY S p - kY S 0)
theorem i3e (a b c : I3) : a + b - c = a - c + b := by rw [Int32.sub_eq_add_neg, Int32.sub_eq_add_neg, Int32.add_assoc, Int32.add_comm b, ← Int32.add_assoc]
theorem PX_step {m n k s : Nat} {S : Nat → Prop} (hm : m < 8) (hs : s < 4) (h : bsK S n k s < n) : PX m S (bsK S n k s) = PX m S k + q_SIDE_X (sI m s) ∧ PY m S (bsK S n k s) = PY m S k + q_SIDE_Y (sI m s) := by
  obtain ⟨a, b⟩ := bsK_lt h
  obtain ⟨-, c, d⟩ := sI_ok m hm s hs
  unfold PX PY
  rw [a, b, i3e, i3e, (im_add hm _ _ _ _).1, (im_add hm _ _ _ _).2, c, d]
  exact ⟨rfl, rfl⟩
theorem sub_inj {a b c : I3} (h : a - c = b - c) : a = b := by
  have := congrArg (fun z => z + c) h
  simpa using this
theorem PXY_inj {m n j k : Nat} {S : Nat → Prop} (hm : m < 8) (hG : GSh S n) (hj : j < n) (hk : k < n) (h1 : PX m S j = PX m S k) (h2 : PY m S j = PY m S k) : j = k := by
  obtain ⟨a, b⟩ := im_inj hm h1 h2
  exact kXY_inj hG hj hk (sub_inj a) (sub_inj b)
theorem PXY_sm {m n k : Nat} {S : Nat → Prop} (hm : m < 8) (hG : GSh S n) (hk : k < n) : sm 30 (PX m S k) ∧ sm 30 (PY m S k) := by
  have g2 := hG.2.1
  have a := kX_int hG hk
  have b := kX_int hG (show 0 < n from hG.1)
  have c := vk_ok hG hk
  have d := vk_ok hG (show 0 < n from hG.1)
  have e1 : (kX S k - kX S 0).toInt = (kX S k).toInt - (kX S 0).toInt := tsub (by omega) (by omega)
  have e2 : (kY S k - kY S 0).toInt = (kY S k).toInt - (kY S 0).toInt := tsub (by omega) (by omega)
  have f1 : (-(kX S k - kX S 0)).toInt = -(kX S k - kX S 0).toInt := tneg (by omega)
  have f2 : (-(kY S k - kY S 0)).toInt = -(kY S k - kY S 0).toInt := tneg (by omega)
  unfold PX PY sm
  rcases imC_ok m hm with ⟨p, q⟩ | ⟨p, q⟩ | ⟨p, q⟩ | ⟨p, q⟩ | ⟨p, q⟩ | ⟨p, q⟩ | ⟨p, q⟩ | ⟨p, q⟩ <;> rw [p, q] <;> omega
def SHT (m : Nat) (S : Nat → Prop) (pp : Nat → Option PL) (A : Nat → Option LB) : Prop := (∀ p l, A p = some l → pp l.1 = some (PX m S p, PY m S p, l.2.1, l.2.2)) ∧ ∀ f q, pp f = some q → ∃ p l, A p = some l ∧ l.1 = f ∧ q = (PX m S p, PY m S p, l.2.1, l.2.2)
def FOn (A : Nat → Option LB) (fo : Ar) : Prop := ∀ p, p < 22 → (A p = none → fo p = -1) ∧ ∀ l, A p = some l → fo p = nI l.1
def ISd (is : Ar) : Prop := ∀ m s, m < 8 → s < 4 → is (m * 4 + s) = nI (sI m s)
set_option maxHeartbeats 2000000 in
theorem X6_canFoldOver_ok {F f m t rc : Nat} {look : Nat → Nat} {nb on : Nat → Nat → Nat} {S : Nat → Prop} {rq : Nat → Nat} {A : Nat → Option LB} {pp : Nat → Option PL} {ct : I3} {bs fon is re hd li x y lo be ow : Ar} {tk : Aw} {post : I3 → I3 → Ar → Ar → I3 → Ar → Ar → Aw → Ar → Ar → Prop} (hF : F ≤ 22) (hm : m < 8) (hG : GS F look nb on) (hT : TB F look nb on lo be ow) (hS : GSh S F) (hB : BE S F bs) (hI : ISd is)
    (hBI : BI F (bsK S F) (fun i => trL nb on (sI m i)) (okL F look) (fst3 look f) t rc rq A) (htr : t / 4 < rc) (hre : ∀ k, k < rc → re k = nI (rq k)) (hfo : FOn A fon) (hC : CS 30 pp ct hd li x y) (hSH : SHT m S pp A)
    (h1 : ∀ (rc : Nat) (rq : Nat → Nat) (A : Nat → Option LB) (pp : Nat → Option PL) (ct : I3) (fon re hd li x y : Ar) (tk : Aw), BI F (bsK S F) (fun i => trL nb on (sI m i)) (okL F look) (fst3 look f) (t + 1) rc rq A → (∀ k, k < rc → re k = nI (rq k)) → FOn A fon → CS 30 pp ct hd li x y → SHT m S pp A → post 1 (nI rc) fon re ct hd li tk x y)
    (h0 : ¬ WRP F look nb on S f m → post 0 (nI rc) fon re ct hd li tk x y) :
    wp_X6_canFoldOver (nI rc) bs fon is re ct hd li tk x y be ow (re (t / 4)) (nI (t % 4)) (nI m) post := by
  obtain ⟨l, hl, hq, hok⟩ := BI_q hBI htr
  have hs4 : t % 4 < 4 := by omega
  have hrc := BI_le hBI
  obtain ⟨i1, i2, i3⟩ := sI_ok m hm _ hs4
  have hpf := hSH.1 _ l hl
  have hfp := (hfo (rq (t / 4)) (by omega)).2 l hl
  unfold wp_X6_canFoldOver
  rw [hre _ htr, ix4, ix4, nI_clamp (show rq (t / 4) * 4 + t % 4 < 2 ^ 31 by omega), nI_clamp (show m * 4 + t % 4 < 2 ^ 31 by omega), nI_clamp (show rq (t / 4) < 2 ^ 31 by omega), hB _ _ hq hs4, hI m _ hm hs4, hfp]
  refine ⟨vp_in_nI (by omega) (by omega), ?_⟩
  by_cases hn : bsK S F (rq (t / 4)) (t % 4) < F
  · rw [eN_t hn, nI_clamp (show bsK S F (rq (t / 4)) (t % 4) < 2 ^ 31 by omega)]
    have hvn : vp_in (nI (bsK S F (rq (t / 4)) (t % 4))) 22 := vp_in_nI (by omega) (by omega)
    obtain ⟨px1, px2⟩ := PX_step (S := S) hm hs4 hn
    obtain ⟨d1, d2⟩ := sd_ok hok.2 i1
    have hnf := (hG.2 _ _ hok.1 d1 d2).1
    have hnx : nxt on l.1 (PX m S (rq (t / 4)), PY m S (rq (t / 4)), l.2.1, l.2.2) (sI m (t % 4)) = (PX m S (bsK S F (rq (t / 4)) (t % 4)), PY m S (bsK S F (rq (t / 4)) (t % 4)), (trL nb on (sI m (t % 4)) l).2.1, (trL nb on (sI m (t % 4)) l).2.2) := by
      rw [px1, px2]; rfl
    refine ⟨fun _ => ⟨vp_in_nI (by omega) (by omega), vp_in_nI (by omega) (by omega), hvn, ?_⟩, fun q => absurd (Int32.le_iff_toInt_le.mpr (by rw [nI_toInt (by omega)]; show (0 : Int) ≤ _; omega)) q⟩
    cases e : A (bsK S F (rq (t / 4)) (t % 4)) with
    | none =>
      rw [(hfo _ (by omega)).1 e]
      refine ⟨fun _ => X3_neighbour_ok (r := l.2.1) (u := l.2.2) hT hF hok.1 i1 (hC.2.1 _ _ hpf).2.2.2.2.2.2.1 hok.2 ⟨vp_in_nI (by omega) (by omega), ?_⟩, fun q => absurd (by decide) q⟩
      rw [nI_clamp (show nb l.1 (sd l.2.1 l.2.2 (sI m (t % 4))) < 2 ^ 31 by omega)]
      cases e2 : pp (nb l.1 (sd l.2.1 l.2.2 (sI m (t % 4)))) with
      | none =>
        refine ⟨fun _ => ?_, fun q => absurd (hC.1 _ e2 (by omega)) q⟩
        obtain ⟨b1, b2⟩ := PXY_sm (S := S) hm hS hn
        refine X3_putBeside_ok (M := 30) hG hT hF hC (Nat.le_refl _) (by omega) hok.1 i1 hpf hok.2 e2 (by rw [hnx]; exact b1) (by rw [hnx]; exact b2) (fun hd li x y hC2 => ⟨hvn, ?_⟩)
        have hadd := BI_add hBI htr hl hn e (okL_tr hG i1 hok)
        have hrcF : rc < F := by have := BI_le hadd; omega
        rw [nI_clamp (show rc < 2 ^ 31 by omega), nI_1]
        refine ⟨vp_in_nI (by omega) (by omega), h1 _ _ _ _ _ _ _ _ _ _ _ _ hadd (fun k hk => ?_) (fun p hp => ⟨fun q => ?_, fun l2 q => ?_⟩) hC2 ⟨fun p l2 hp => ?_, fun g q hq2 => ?_⟩⟩
        · by_cases c : k = rc
          · subst c; rw [pk_us, updN_s]
          · rw [pk_un c, updN_n c]; exact hre k (by omega)
        · by_cases c : p = bsK S F (rq (t / 4)) (t % 4)
          · subst c; rw [lset_s] at q; cases q
          · rw [lset_n c] at q; rw [pk_un c]; exact (hfo p hp).1 q
        · by_cases c : p = bsK S F (rq (t / 4)) (t % 4)
          · subst c; rw [lset_s] at q; cases q; rw [pk_us]; rfl
          · rw [lset_n c] at q; rw [pk_un c]; exact (hfo p hp).2 l2 q
        · by_cases c : p = bsK S F (rq (t / 4)) (t % 4)
          · subst c; rw [lset_s] at hp; cases hp
            show ppset pp (nb l.1 (sd l.2.1 l.2.2 (sI m (t % 4)))) _ (nb l.1 (sd l.2.1 l.2.2 (sI m (t % 4)))) = _
            rw [ppset_s, hnx]
          · rw [lset_n c] at hp
            have := hSH.1 p l2 hp
            rw [ppset_n (fun w => by
              have e2' : pp (nb l.1 (sd l.2.1 l.2.2 (sI m (t % 4)))) = none := e2
              rw [← w, this] at e2'; cases e2')]
            exact this
        · by_cases c : g = nb l.1 (sd l.2.1 l.2.2 (sI m (t % 4)))
          · subst c
            rw [ppset_s, hnx] at hq2
            cases hq2
            exact ⟨_, _, lset_s, rfl, rfl⟩
          · rw [ppset_n c] at hq2
            obtain ⟨p, l2, a1, a2, a3⟩ := hSH.2 g q hq2
            exact ⟨p, l2, by rw [lset_n (fun w => by rw [w, e] at a1; cases a1)]; exact a1, a2, a3⟩
      | some q =>
        refine ⟨fun z => absurd z (by rw [(hC.2.1 _ q e2).2.1]; decide), fun _ => h0 ?_⟩
        rintro ⟨L, hL, hinj⟩
        obtain ⟨p, l2, a1, a2, a3⟩ := hSH.2 _ q e2
        have b1 := hBI.2.2.2.2.1 L hL _ _ hl
        have b2 := hBI.2.2.2.2.1 L hL _ _ a1
        have b3 := hL.2 _ _ hq hs4 hn
        have b4 := hinj _ p hn (hBI.2.1 _ _ a1).1 (by rw [b3, b1, b2]; exact a2.symm)
        rw [b4, a1] at e
        cases e
    | some l2 =>
      have hl2 := (hfo _ (by omega)).2 l2 e
      have hok2 := (hBI.2.1 _ _ e).2.1
      rw [hl2]
      refine ⟨fun q => absurd q (nI_pos (by have := hok2.1; omega)), fun _ => ?_⟩
      refine X3_fitsBeside_ok hG hT hF hC hok.1 i1 hpf hok.2 (fun hfit => ⟨nb1, ?_⟩) (fun hfit => ⟨nb0, h0 ?_⟩)
      · refine h1 _ _ _ _ _ _ _ _ _ _ _ _ (BI_ok hBI hl ?_) hre hfo hC hSH
        rw [hnx] at hfit
        obtain ⟨p, l3, a1, a2, a3⟩ := hSH.2 _ _ hfit
        have hp : p = bsK S F (rq (t / 4)) (t % 4) := PXY_inj hm hS (hBI.2.1 _ _ a1).1 hn (congrArg Prod.fst a3).symm (congrArg (fun z : PL => z.2.1) a3).symm
        rw [hp] at a1
        rw [a1]
        obtain ⟨f3, r3, u3⟩ := l3
        replace a2 : f3 = nb l.1 (sd l.2.1 l.2.2 (sI m (t % 4))) := a2
        have a4 : (trL nb on (sI m (t % 4)) l).2.1 = r3 ∧ (trL nb on (sI m (t % 4)) l).2.2 = u3 := by
          have := congrArg (fun z : PL => z.2.2) a3
          exact ⟨congrArg Prod.fst this, congrArg Prod.snd this⟩
        rw [a2, ← a4.1, ← a4.2]
        rfl
      · have hbad := BI_bad hBI hl hn e (fun w => hfit ?_)
        · rintro ⟨L, hL, -⟩
          exact hbad ⟨L, hL⟩
        · have := hSH.1 _ _ e
          rw [w] at this
          rw [hnx]
          exact this
  · rw [eN_f hn]
    exact ⟨fun q => absurd q (by decide), fun _ => h1 _ _ _ _ _ _ _ _ _ _ _ _ (BI_none hBI hn) hre hfo hC hSH⟩
set_option maxHeartbeats 2000000 in
theorem X6_canFold_ok {F f m N : Nat} {look : Nat → Nat} {nb on : Nat → Nat → Nat} {S : Nat → Prop} {pp : Nat → Option PL} {rcI ct : I3} {bs fon is re hd li x y lo be ow : Ar} {tk : Aw} {post : I3 → I3 → Ar → Ar → I3 → Ar → Ar → Aw → Ar → Ar → Prop} (hF : F ≤ 22) (hm : m < 8) (hf : f < F) (hG : GS F look nb on) (hT : TB F look nb on lo be ow) (hS : GSh S F) (hCN : CN S) (hB : BE S F bs) (hI : ISd is) (hN : N ≤ 31) (hC : CS N pp ct hd li x y)
    (h1 : WRP F look nb on S f m → ∀ (pp : Nat → Option PL) (rcI ct : I3) (fon re hd li x y : Ar) (tk : Aw), CS 30 pp ct hd li x y → post 1 rcI fon re ct hd li tk x y)
    (h0 : ¬ WRP F look nb on S f m → ∀ (pp : Nat → Option PL) (rcI ct : I3) (fon re hd li x y : Ar) (tk : Aw), CS 30 pp ct hd li x y → post 0 rcI fon re ct hd li tk x y) :
    wp_X6_canFold rcI bs fon is re ct hd li tk x y (nI F) be lo ow (nI f) (nI m) post := by
  have hlk := hG.1 f hf
  unfold wp_X6_canFold wp_X6_beginAt
  refine fill_ok (by omega) (fun fon hfon => X3_wipe_ok (fun _ _ => True) hN hC trivial (fun _ _ _ _ _ _ _ _ => trivial) (fun li tk hC2 _ => ?_))
  refine X3_putFirst_ok (f := f) (d := look f) (CS_30 hC2) (by omega) rfl (hT.1 f hf) hlk (fun hd li x y hC3 => ⟨vp_in_nI (n := 0) (by omega) (by omega), vp_in_nI (n := 0) (by omega) (by omega), ?_⟩)
  rw [cl0]
  refine Lp_for (4 * F) (fun t (s : I3 × Ar × Ar × I3 × Ar × Ar × Aw × Ar × Ar) => ∃ rc rq A pp, BI F (bsK S F) (fun i => trL nb on (sI m i)) (okL F look) (fst3 look f) t rc rq A ∧ s.1 = nI rc ∧ (∀ k, k < rc → s.2.2.1 k = nI (rq k)) ∧ FOn A s.2.1 ∧ CS 30 pp s.2.2.2.1 s.2.2.2.2.1 s.2.2.2.2.2.1 s.2.2.2.2.2.2.2.1 s.2.2.2.2.2.2.2.2 ∧ SHT m S pp A) (by omega) (fun t s kb ht hI2 hkb => ?_) 0 _ (by omega) ⟨1, updN (fun _ => 0) 0 0, lset (fun _ => none) 0 (fst3 look f), _, BI_first (by omega) ⟨hf, OR_first hlk⟩, rfl, fun k hk => ?_, fun p hp => ⟨fun q => ?_, fun l q => ?_⟩, hC3, fun p l q => ?_, fun g q hq => ?_⟩
  · obtain ⟨rcI, fon, re, ct, hd, li, tk, x, y⟩ := s
    obtain ⟨rc, rq, A, pp, hBI, e1, hre, hfo, hC4, hSH⟩ := hI2
    replace e1 : rcI = nI rc := e1
    subst e1
    dsimp only [wl_X6_canFold_7, wb_X6_canFold_7]
    rw [show nI F * (4 : I3) = nI (F * 4) from pk_mul F 4]
    have hrc := BI_le hBI
    refine pk_le (F * 4) t (fun hle => ?_) (fun hlt => ?_)
    · -- all steps done
      have hfull := BI_full (CNN_of hS hCN) hBI (by omega)
      have hcol := BI_end hBI hfull.1 (by omega) hfull.2
      refine h1 ⟨_, hcol, fun j k hj hk e => ?_⟩ _ _ _ _ _ _ _ _ _ _ hC4
      obtain ⟨l, hl⟩ := hfull.2 j hj
      obtain ⟨l2, hl2⟩ := hfull.2 k hk
      replace e : ((A j).getD (0, 0, 0)).1 = ((A k).getD (0, 0, 0)).1 := e
      rw [hl, hl2] at e
      replace e : l.1 = l2.1 := e
      have a1 := hSH.1 j l hl
      have a2 := hSH.1 k l2 hl2
      rw [e, a2] at a1
      have a3 := Option.some.inj a1
      exact PXY_inj hm hS hj hk (congrArg Prod.fst a3).symm (congrArg (fun z : PL => z.2.1) a3).symm
    · rw [div4 (by omega), show nI t - nI (t / 4) * (4 : I3) = nI (t % 4) from by rw [← div4 (show t < 2 ^ 31 by omega)]; exact rem4 (by omega), nI_1, nI_clamp (show t / 4 < 2 ^ 31 by omega)]
      refine pk_le rc (t / 4) (fun hle => ?_) (fun hlt2 => ?_)
      · have := (BI_full (CNN_of hS hCN) hBI (by omega)).1
        omega
      · refine ⟨vp_in_nI (by omega) (by omega), X6_canFoldOver_ok hF hm hG hT hS hB hI hBI hlt2 hre hfo hC4 hSH (fun rc rq A pp ct fon re hd li x y tk b1 b2 b3 b4 b5 => ⟨fun _ => hkb (_, _, _, _, _, _, _, _, _) (by omega) ⟨rc, rq, A, pp, b1, rfl, b2, b3, b4, b5⟩, fun q => absurd q (by decide)⟩) (fun hno => ⟨fun q => absurd rfl q, fun _ => h0 hno _ _ _ _ _ _ _ _ _ _ hC4⟩)⟩
  · rw [show k = 0 by omega, updN_s]
    show upd re 0 0 0 = nI 0
    rw [pk_us]; rfl
  · have e : p ≠ 0 := fun e => by rw [e, lset_s] at q; cases q
    show upd fon 0 (nI f) p = -1
    rw [pk_un e]; exact hfon p hp
  · by_cases e : p = 0
    · subst e; rw [lset_s] at q; cases q
      show upd fon 0 (nI f) 0 = nI f
      rw [pk_us]
    · rw [lset_n e] at q; cases q
  · by_cases e : p = 0
    · subst e; rw [lset_s] at q; cases q
      show ppset (fun _ => none) f (some (0, 0, fr (look f), fu (look f))) f = _
      rw [ppset_s]
      have z : ∀ a : I3, a - a = 0 := fun a => by simp
      unfold PX PY
      rw [z, z, show imX m 0 0 = 0 from by unfold imX; simp, show imY m 0 0 = 0 from by unfold imY; simp]
      rfl
    · rw [lset_n e] at q; cases q
  · by_cases e : g = f
    · subst e
      rw [ppset_s] at hq
      cases hq
      refine ⟨0, fst3 look g, lset_s, rfl, ?_⟩
      have z : ∀ a : I3, a - a = 0 := fun a => by simp
      unfold PX PY
      rw [z, z, show imX m 0 0 = 0 from by unfold imX; simp, show imY m 0 0 = 0 from by unfold imY; simp]
      rfl
    · rw [ppset_n e] at hq; cases hq
