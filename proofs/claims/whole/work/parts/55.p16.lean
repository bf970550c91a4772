-- PURE 16: the model's rows
def ER (ro : Nat → Int32) (S : Nat → Prop) : Prop := ∀ v, S v → ro (cnt S v) = nI v
theorem cnt_IM {m F : Nat} {X Y : Nat → Int32} (hm : m < 8) (hF : F ≤ 22) (hX : SP X F) (hY : SP Y F) (hD : DI X Y F) : ∀ n, n ≤ F → cnt (IM m F X Y n) 704 = n := by
  intro n
  induction n with
  | zero =>
    intro _
    rw [cnt_gap (a := 0) (by omega) (fun u _ _ ⟨f, f1, _⟩ => by omega)]
    rfl
  | succ n ih =>
    intro hn
    rw [cnt_del (f := nmI m F X Y n) (Q := IM m F X Y n) (nmI_ok hm hF hX hY (by omega)).1 ⟨n, by omega, rfl⟩ ?_ ?_, ih (by omega)]
    · rintro ⟨f, f1, f2⟩
      have := nmI_inj hm hF hX hY hD (by omega) (by omega) f2
      omega
    · intro j hj
      rw [IM_succ]
      exact ⟨fun q => q.elim id (fun z => absurd z.symm hj), fun q => Or.inl q⟩
theorem GSh_IM {m F : Nat} {X Y : Nat → Int32} (hm : m < 8) (h1 : 1 ≤ F) (hF : F ≤ 22) (hX : SP X F) (hY : SP Y F) (hD : DI X Y F) : GSh (IM m F X Y F) F := by
  refine ⟨h1, hF, cnt_IM hm hF hX hY hD F (by omega), ?_⟩
  rintro v ⟨f, f1, f2⟩
  obtain ⟨a, -, -, b, c⟩ := nmI_ok hm hF hX hY f1
  rw [f2] at a b c
  exact ⟨a, b, c⟩
theorem GSh_Bst {m F : Nat} {X Y : Nat → Int32} (hm : m < 8) (h1 : 1 ≤ F) (hF : F ≤ 22) (hX : SP X F) (hY : SP Y F) (hD : DI X Y F) : GSh (Bst F X Y m) F := by
  obtain ⟨k, k1, k2⟩ := Bst_is (F := F) (X := X) (Y := Y) m
  rw [k2]
  exact GSh_IM (by omega) h1 hF hX hY hD
theorem place_ok {S : Nat → Prop} {k v : Nat} (hk : k ≤ cnt S 704) (h1 : ∀ u, S u → cnt S u < k → u < v) (h2 : ∀ u, S u → k ≤ cnt S u → v < u) : cnt S v = k := by
  by_cases c : cnt S v < k
  · obtain ⟨u, -, u2, u3⟩ := cnt_sur (show cnt S v < cnt S 704 by omega)
    have a := h1 u u2 (by omega)
    have := cnt_lt a u2
    omega
  · by_cases c2 : k < cnt S v
    · obtain ⟨u, u1, u2, u3⟩ := cnt_sur c2
      have := h2 u u2 (by omega)
      omega
    · omega
set_option maxHeartbeats 1000000 in
theorem net_270_ok {S S' : Nat → Prop} {n v : Nat} {ro : Nat → Int32} {kx : Int32 → (Nat → Int32) → Prop} (hn : n < 22) (hc : cnt S 704 = n) (hb : ∀ u, S u → u < 704) (hv : v < 704) (hvS : ¬ S v) (hS' : ∀ u, S' u ↔ S u ∨ v = u) (hR : ER ro S)
    (h : ∀ (k : Nat) (ro : Nat → Int32), k ≤ n → ER (upd ro k (nI v)) S' → kx (nI k) ro) : Lp (wl_X8_net_270 (nI v) kx) (nI n, ro) := by
  refine Lp_of (fun s => ∃ k, k ≤ n ∧ s.1 = nI k ∧ (∀ u, S u → cnt S u < k → s.2 (cnt S u) = nI u) ∧ ∀ u, S u → k ≤ cnt S u → v < u ∧ s.2 (cnt S u + 1) = nI u) (fun s => s.1.toNatClampNeg) (fun s kb hI hkb => ?_) _ ⟨n, Nat.le_refl _, rfl, fun u hu _ => hR u hu, fun u hu q => ?_⟩
  · obtain ⟨s1, ro⟩ := s
    obtain ⟨k, hk, e1, hA, hB⟩ := hI
    replace e1 : s1 = nI k := e1
    replace hA : ∀ u, S u → cnt S u < k → ro (cnt S u) = nI u := hA
    replace hB : ∀ u, S u → k ≤ cnt S u → v < u ∧ ro (cnt S u + 1) = nI u := hB
    subst e1
    have fin : (∀ u, S u → cnt S u < k → u < v) → kx (nI k) ro := by
      intro hlow
      have hpl := place_ok (by omega) hlow (fun u h1 h2 => (hB u h1 h2).1)
      refine h k ro hk (fun u hu => ?_)
      rcases (hS' u).mp hu with q | q
      · by_cases c : u < v
        · have e : cnt S' u = cnt S u := cnt_congr (fun j hj => by rw [hS' j]; exact ⟨fun z => z.elim id (fun w => absurd w (by omega)), Or.inl⟩)
          have e2 : cnt S u < cnt S v := cnt_lt c q
          rw [e, pk_un (by omega)]
          exact hA u q (by omega)
        · have c2 : v < u := by
            have : u ≠ v := fun e => hvS (by rw [← e]; exact q)
            omega
          have e : cnt S' u = cnt S u + 1 := cnt_del c2 ((hS' v).mpr (Or.inr rfl)) hvS (fun j hj => by rw [hS' j]; exact ⟨fun z => z.elim id (fun w => absurd w.symm hj), Or.inl⟩)
          have e2 : cnt S v ≤ cnt S u := cnt_mono (by omega)
          rw [e, pk_un (by omega)]
          exact (hB u q (by omega)).2
      · subst q
        have e : cnt S' v = cnt S v := cnt_congr (fun j hj => by rw [hS' j]; exact ⟨fun z => z.elim id (fun w => absurd w (by omega)), Or.inl⟩)
        rw [e, hpl, pk_us]
    dsimp only [wl_X8_net_270, wb_X8_net_270]
    refine pk_le k 0 (fun hle => fin (fun u _ q => by omega)) (fun hlt => ?_)
    obtain ⟨j, rfl⟩ : ∃ j, k = j + 1 := ⟨k - 1, by omega⟩
    rw [nI_pred, pk_m1, nI_clamp (show j < 2 ^ 31 by omega), nI_clamp (show j + 1 < 2 ^ 31 by omega)]
    have hv1 : vp_in (nI j) 30 := vp_in_nI (by omega) (by omega)
    have hv2 : vp_in (nI (j + 1)) 30 := vp_in_nI (by omega) (by omega)
    obtain ⟨u, -, u2, u3⟩ := cnt_sur (show j < cnt S 704 by omega)
    have hu := hb u u2
    have hru := hA u u2 (by omega)
    rw [u3] at hru
    rw [hru]
    refine ⟨hv1, pk_le u v (fun hle => fin (fun w w1 w2 => ?_)) (fun hlt => ⟨hv1, hv2, hkb _ ⟨j, by omega, rfl, fun w w1 w2 => ?_, fun w w1 w2 => ?_⟩ ?_⟩)⟩
    · have : ¬ u < w := fun c => by have := cnt_lt c u2; omega
      have : w ≠ v := fun e => hvS (by rw [← e]; exact w1)
      omega
    · show upd ro (j + 1) (nI u) (cnt S w) = nI w
      rw [pk_un (by omega)]
      exact hA w w1 (by omega)
    · show v < w ∧ upd ro (j + 1) (nI u) (cnt S w + 1) = nI w
      by_cases e : cnt S w = j
      · have : w = u := cnt_inj w1 u2 (by omega)
        subst this
        rw [e, pk_us]
        exact ⟨hlt, rfl⟩
      · rw [pk_un (by omega)]
        exact hB w w1 (by omega)
    · show (nI j).toNatClampNeg < (nI (j + 1)).toNatClampNeg
      rw [nI_clamp (by omega), nI_clamp (by omega)]
      omega
  · have := cnt_lt (hb u hu) hu
    omega
theorem i3b (a b c : Int32) : a + b - c = a + (b - c) := by rw [Int32.sub_eq_add_neg, Int32.sub_eq_add_neg, Int32.add_assoc]
set_option maxHeartbeats 1000000 in
theorem net_231_ok {m F : Nat} {X Y ix iy ro : Nat → Int32} {kx : (Nat → Int32) → Prop} (hm : m < 8) (hF : F ≤ 22) (hX : SP X F) (hY : SP Y F) (hD : DI X Y F) (hix : ∀ k, k < F → ix k = imXr m X Y k) (hiy : ∀ k, k < F → iy k = imYr m X Y k) (h : ∀ ro : Nat → Int32, ER ro (IM m F X Y F) → kx ro) : Lp (wl_X8_net_231 (nI F) ix iy (lsI (imXr m X Y) F) (lsI (imYr m X Y) F) kx) ((0 : Int32), ro) := by
  obtain ⟨sX, sY⟩ := SP_im hm hX hY
  refine Lp_for F (fun i ro => ER ro (IM m F X Y i)) (by omega) (fun i ro kb hi hI hkb => ?_) 0 ro (by omega) (fun v ⟨f, f1, _⟩ => by omega)
  dsimp only [wl_X8_net_231, wb_X8_net_231]
  refine pk_le F i (fun hle => ?_) (fun hlt => ?_)
  · have e : i = F := by omega
    subst e
    exact h ro hI
  · obtain ⟨a1, a2, -⟩ := dN_ok sX hF hlt
    obtain ⟨b1, b2, -⟩ := dN_ok sY hF hlt
    have e : (32 : Int32) * (iy (nI i).toNatClampNeg - lsI (imYr m X Y) F) + ix (nI i).toNatClampNeg - lsI (imXr m X Y) F = nI (nmI m F X Y i) := by
      rw [nI_clamp (show i < 2 ^ 31 by omega), hix i hlt, hiy i hlt, i3b, a1, b1, v32]
      rfl
    rw [e, nI_1]
    have hv : vp_in (nI i) 30 := vp_in_nI (by omega) (by omega)
    refine ⟨hv, hv, net_270_ok (by omega) (cnt_IM hm hF hX hY hD i (by omega)) (fun u ⟨f, f1, f2⟩ => by rw [← f2]; exact (nmI_ok hm hF hX hY (by omega)).1) (nmI_ok hm hF hX hY hlt).1 (fun ⟨f, f1, f2⟩ => ?_) (fun u => IM_succ) hI (fun k ro hk hE => ?_)⟩
    · have := nmI_inj hm hF hX hY hD (by omega) (by omega) f2
      omega
    · rw [nI_clamp (show k < 2 ^ 31 by omega)]
      exact ⟨vp_in_nI (by omega) (by omega), hkb _ hlt hE⟩
theorem row_less1 {S T : Nat → Prop} {n k s t : Nat} {ro br : Nat → Int32} (gS : GSh S n) (gT : GSh T n) (hS : ER ro S) (hT : ER br T) (h : ∀ j, j < k → ro j = br j) (s1 : S s) (s2 : cnt S s = k) (t1 : T t) (t2 : cnt T t = k) (hst : s < t) : less S T := by
  have hk : k < n := by rw [← s2]; exact GSh_ix gS s1
  have key : ∀ u, S u → cnt S u < k → T u := fun u hu hc => by
    obtain ⟨w, w1, w2⟩ := GSh_at gT (show cnt S u < n by omega)
    have e1 := hS u hu
    have e2 := hT w w1
    rw [w2, ← h _ hc, e1] at e2
    have := (nI_eq (by have := (gS.2.2.2 u hu).1; omega) (by have := (gT.2.2.2 w w1).1; omega)).mp e2
    rw [this]; exact w1
  have key2 : ∀ u, T u → cnt T u < k → S u := fun u hu hc => by
    obtain ⟨w, w1, w2⟩ := GSh_at gS (show cnt T u < n by omega)
    have e1 := hT u hu
    have e2 := hS w w1
    rw [w2, h _ hc, e1] at e2
    have := (nI_eq (by have := (gT.2.2.2 u hu).1; omega) (by have := (gS.2.2.2 w w1).1; omega)).mp e2
    rw [this]; exact w1
  refine ⟨s, s1, fun q => ?_, fun u hu => ⟨fun q => key u q (by have := cnt_lt hu q; omega), fun q => key2 u q (by have := cnt_lt (show u < t by omega) q; omega)⟩⟩
  have c1 : cnt T s < k := by have := cnt_lt hst q; omega
  have e1 := hT s q
  rw [← h _ c1] at e1
  obtain ⟨w, w1, w2⟩ := GSh_at gS (show cnt T s < n by omega)
  have e2 := hS w w1
  rw [w2, e1] at e2
  have := (nI_eq (by have := (gS.2.2.2 s s1).1; omega) (by have := (gS.2.2.2 w w1).1; omega)).mp e2
  subst this
  omega
theorem row_less {S T : Nat → Prop} {n k : Nat} {ro br : Nat → Int32} (gS : GSh S n) (gT : GSh T n) (hS : ER ro S) (hT : ER br T) (hk : k < n) (h : ∀ j, j < k → ro j = br j) (hne : ¬ ro k = br k) : ¬ br k ≤ ro k ↔ less S T := by
  obtain ⟨s, s1, s2⟩ := GSh_at gS hk
  obtain ⟨t, t1, t2⟩ := GSh_at gT hk
  have e1 := hS s s1
  have e2 := hT t t1
  rw [s2] at e1
  rw [t2] at e2
  have hs := (gS.2.2.2 s s1).1
  have ht := (gT.2.2.2 t t1).1
  rw [e1, e2, nI_leI (by omega) (by omega)]
  rw [e1, e2, nI_eq (by omega) (by omega)] at hne
  constructor
  · intro q
    exact row_less1 gS gT hS hT h s1 s2 t1 t2 (by omega)
  · intro q c
    exact less_as q (row_less1 gT gS hT hS (fun j hj => (h j hj).symm) t1 t2 s1 s2 (by omega))
theorem row_same {S T : Nat → Prop} {n : Nat} {ro br : Nat → Int32} (gS : GSh S n) (gT : GSh T n) (hS : ER ro S) (hT : ER br T) (h : ∀ j, j < n → ro j = br j) : ¬ less S T := by
  have hS2 : RW ro 0 S := fun v hv => by rw [Nat.zero_add]; exact hS v hv
  have hT2 : RW br 0 T := fun v hv => by rw [Nat.zero_add]; exact hT v hv
  have := (RW_eq gS gT hS2 hT2).mp (fun k hk => by rw [Nat.zero_add]; exact h k hk)
  rintro ⟨v, v1, v2, -⟩
  exact v2 ((this v).mp v1)
set_option maxHeartbeats 2000000 in
theorem net_134_ok {F : Nat} {X Y atX atY br ix iy ro : Nat → Int32} {kx : (Nat → Int32) → (Nat → Int32) → (Nat → Int32) → (Nat → Int32) → Prop} (h1 : 1 ≤ F) (hF : F ≤ 22) (hX : SP X F) (hY : SP Y F) (hD : DI X Y F) (hax : ∀ f, f < F → atX f = X f) (hay : ∀ f, f < F → atY f = Y f)
    (h : ∀ br ix iy ro : Nat → Int32, ER br (Bst F X Y 7) → kx br ix iy ro) : Lp (wl_X8_net_134 (nI F) atX atY kx) ((0 : Int32), br, ix, iy, ro) := by
  refine Lp_for 8 (fun m (s : (Nat → Int32) × (Nat → Int32) × (Nat → Int32) × (Nat → Int32)) => 1 ≤ m → ER s.1 (Bst F X Y (m - 1))) (by omega) (fun m s kb hm hI hkb => ?_) 0 (br, ix, iy, ro) (by omega) (fun q => by omega)
  obtain ⟨br, ix, iy, ro⟩ := s
  dsimp only [wl_X8_net_134, wb_X8_net_134]
  refine pk_le 8 m (fun hle => ?_) (fun hlt => ?_)
  · have e : m = 8 := by omega
    subst e
    exact h _ _ _ _ (hI (by omega))
  · refine Lp_for F (fun i (s : (Nat → Int32) × (Nat → Int32)) => ∀ k, k < i → s.1 k = imXr m X Y k ∧ s.2 k = imYr m X Y k) (by omega) (fun i s kb2 hi hJ hkb2 => ?_) 0 (ix, iy) (by omega) (fun j hj => by omega)
    obtain ⟨ix, iy⟩ := s
    dsimp only [wl_X8_net_143, wb_X8_net_143]
    refine pk_le F i (fun hle => ?_) (fun hlt2 => ?_)
    · have e : i = F := by omega
      subst e
      have hix : ∀ k, k < i → ix k = imXr m X Y k := fun k hk => (hJ k hk).1
      have hiy : ∀ k, k < i → iy k = imYr m X Y k := fun k hk => (hJ k hk).2
      refine X8_least_ok h1 (by omega) (by omega) (X8_least_ok h1 (by omega) (by omega) ?_)
      rw [lsI_congr h1 hix, lsI_congr h1 hiy]
      refine net_231_ok hlt hF hX hY hD hix hiy (fun ro hE => ?_)
      have gS := GSh_IM hlt h1 hF hX hY hD
      have hcp : Bst i X Y m = IM m i X Y i → wj_X8_net_395 (nI i) (fun l3 br ix iy ro => kb (l3, br, ix, iy, ro)) (nI m) br ix iy ro := by
        intro e
        unfold wj_X8_net_395
        refine Lp_for i (fun j br => ∀ k, k < j → br k = ro k) (by omega) (fun j br kb3 hj hJ2 hkb3 => ?_) 0 br (by omega) (fun k hk => by omega)
        dsimp only [wl_X8_net_398, wb_X8_net_398]
        refine pk_le i j (fun hle => ?_) (fun hlt3 => ?_)
        · rw [nI_1]
          refine hkb (_, _, _, _) (by omega) (fun _ => ?_)
          show ER br (Bst i X Y m)
          rw [e]
          exact fun v hv => by rw [hJ2 _ (by have := GSh_ix gS hv; omega)]; exact hE v hv
        · rw [nI_1, nI_clamp (show j < 2 ^ 31 by omega)]
          have hv : vp_in (nI j) 30 := vp_in_nI (by omega) (by omega)
          refine ⟨hv, hv, hkb3 _ hlt3 (fun k hk => ?_)⟩
          by_cases e2 : k = j
          · subst e2; rw [pk_us]
          · rw [pk_un e2]; exact hJ2 k (by omega)
      by_cases hm0 : m = 0
      · subst hm0
        refine Lp_for0 0 (fun k => True) (by omega) (fun k kb3 hk _ hkb3 => ?_) 0 (by omega) trivial
        show wb_X8_net_329 (nI i) br ro (nI 0) _ kb3 (nI k)
        exact ⟨fun _ => ⟨fun _ => hcp rfl, fun q => absurd rfl q⟩, fun q => absurd (by decide) q⟩
      · obtain ⟨p, rfl⟩ : ∃ p, m = p + 1 := ⟨m - 1, by omega⟩
        have hT := hI (by omega)
        rw [show p + 1 - 1 = p by omega] at hT
        replace hT : ER br (Bst i X Y p) := hT
        have gT := GSh_Bst (m := p) (by omega) h1 hF hX hY hD
        have hno : ¬ less (IM (p + 1) i X Y i) (Bst i X Y p) → kb (nI (p + 1) + 1, br, ix, iy, ro) := fun q => by
          rw [nI_1]
          refine hkb (_, _, _, _) (by omega) (fun _ => ?_)
          show ER br (Bst i X Y (p + 1))
          rw [Bst_f q]; exact hT
        have hm1 : ¬ nI (p + 1) = 0 := fun q => by have := (nI_eq (b := 0) (by omega) (by omega)).mp q; omega
        refine Lp_for0 i (fun k => ∀ j, j < k → ro j = br j) (by omega) (fun k kb3 hk hK hkb3 => ?_) 0 (by omega) (fun j hj => by omega)
        show wb_X8_net_329 (nI i) br ro (nI (p + 1)) _ kb3 (nI k)
        unfold wb_X8_net_329
        refine pk_le (p + 1) 0 (fun q => by omega) (fun _ => pk_le i k (fun hle => ?_) (fun hlt3 => ?_))
        · have e : k = i := by omega
          subst e
          exact ⟨fun q => absurd q hm1, fun _ => pk_le k k (fun _ => hno (row_same gS gT hE hT hK)) (fun q => by omega)⟩
        · have hv : vp_in (nI k) 30 := vp_in_nI (by omega) (by omega)
          rw [nI_1 k, nI_clamp (show k < 2 ^ 31 by omega)]
          refine ⟨hv, hv, fun q => ⟨fun z => absurd z hm1, fun _ => pk_le i k (fun z => by omega) (fun _ => ?_)⟩, fun q => hkb3 hlt3 (fun j hj => ?_)⟩
          · rw [nI_clamp (show k < 2 ^ 31 by omega)]
            have hl := row_less gS gT hE hT hlt3 hK q
            exact ⟨hv, hv, fun z => hno (fun w => hl.mpr w z), fun z => hcp (Bst_t (hl.mp z))⟩
          · by_cases e : j = k
            · subst e; exact q
            · exact hK j (by omega)
    · rw [nI_1, nI_clamp (show i < 2 ^ 31 by omega)]
      have hv : vp_in (nI i) 30 := vp_in_nI (by omega) (by omega)
      refine ⟨hv, hv, X8_imageOfX_ok m hlt ⟨hv, hv, hv, X8_imageOfY_ok m hlt ⟨hv, hkb2 (_, _) hlt2 (fun k hk => ?_)⟩⟩⟩
      rw [hax i hlt2, hay i hlt2]
      show upd _ _ _ _ = _ ∧ upd _ _ _ _ = _
      by_cases e : k = i
      · subst e; rw [pk_us, pk_us]; exact ⟨rfl, rfl⟩
      · rw [pk_un e, pk_un e]; exact hJ k (by omega)
-- the model's album
def AM (a : AL) (shs : Int32) (sr ss : Nat → Int32) : Prop := shs = nI a.1 ∧ ∀ i, i < a.1 → ss i = nI (a.2.2 i) ∧ RW sr (30 * i) (a.2.1 i)
theorem ix30 (c k : Nat) : (30 : Int32) * nI c + nI k = nI (30 * c + k) := by rw [show (30 : Int32) * nI c = nI (30 * c) from pk_mul 30 c, nI_add]
set_option maxHeartbeats 1000000 in
theorem X8_keep_ok {F : Nat} {a : AL} {shs : Int32} {br sr ss : Nat → Int32} {T : Nat → Prop} {post : Int32 → (Nat → Int32) → (Nat → Int32) → Prop} (hT : GSh T F) (hR : ER br T) (hG : GA a) (hA : AM a shs sr ss)
    (h : ∀ (shs : Int32) (sr ss : Nat → Int32), AM (kpS a T F) shs sr ss → post shs sr ss) : wp_X8_keep (nI F) shs br sr ss post := by
  obtain ⟨rfl, hA⟩ := hA
  have g0 := hG.1
  have f1 := hT.1
  have f2 := hT.2.1
  have hR2 : RW br 0 T := fun v hv => by rw [Nat.zero_add]; exact hR v hv
  unfold wp_X8_keep
  refine Lp_for0 a.1 (fun i => ∀ k, k < i → ¬ ∀ v, a.2.1 k v ↔ T v) (by omega) (fun i kb hi hI hkb => ?_) 0 (by omega) (fun l hl => by omega)
  show wb_X8_keep_2 (nI F) (nI a.1) br sr ss _ _ kb (nI i)
  unfold wb_X8_keep_2
  refine pk_le a.1 i (fun hle => ?_) (fun hlt => ?_)
  · have hn : ¬ inA a T := fun ⟨k, k1, k2⟩ => hI k (by omega) k2
    refine pk_le 64 a.1 (fun hfull => ?_) (fun hroom => ?_)
    · refine h _ _ _ ?_
      rw [kpS_f (fun q => by omega)]
      exact ⟨rfl, hA⟩
    · refine ⟨vp_in_nI (by omega) (by omega), Lp_for F (fun k sr' => (∀ j, j < k → sr' (30 * a.1 + j) = br j) ∧ ∀ j, j < 30 * a.1 → sr' j = sr j) (by omega) (fun k sr' kb2 hk hK hkb2 => ?_) 0 sr (by omega) ⟨fun j hj => by omega, fun j _ => rfl⟩⟩
      dsimp only [wl_X8_keep_110, wb_X8_keep_110]
      refine pk_le F k (fun hle => ?_) (fun hlt => ?_)
      · have e : k = F := by omega
        subst e
        refine h _ _ _ ?_
        rw [kpS_t hroom hn, nI_1, nI_clamp (show a.1 < 2 ^ 31 by omega)]
        refine ⟨rfl, fun i hi => ?_⟩
        show upd ss a.1 (nI k) i = nI (updN a.2.2 a.1 k i) ∧ RW sr' (30 * i) (updS a.2.1 a.1 T i)
        by_cases e : i = a.1
        · subst e; rw [pk_us, updN_s, updS_s]; exact ⟨rfl, fun v hv => by rw [hK.1 _ (GSh_ix hT hv)]; exact hR v hv⟩
        · have hi : i < a.1 + 1 := hi
          rw [pk_un e, updN_n e, updS_n e]
          refine ⟨(hA i (by omega)).1, fun v hv => ?_⟩
          rw [hK.2 _ (by have := GSh_ix (hG.2 i (by omega)) hv; have := (hG.2 i (by omega)).2.1; omega)]
          exact (hA i (by omega)).2 v hv
      · rw [ix30, nI_1, nI_clamp (show k < 2 ^ 31 by omega), nI_clamp (show 30 * a.1 + k < 2 ^ 31 by omega)]
        refine ⟨vp_in_nI (by omega) (by omega), vp_in_nI (by omega) (by omega), hkb2 _ hlt ⟨fun j hj => ?_, fun j hj => ?_⟩⟩
        · by_cases e : j = k
          · subst e; rw [pk_us]
          · rw [pk_un (by omega)]; exact hK.1 j (by omega)
        · rw [pk_un (by omega)]; exact hK.2 j hj
  · have gi := hG.2 i hlt
    have gi2 := gi.2.1
    rw [nI_clamp (show i < 2 ^ 31 by omega), (hA i hlt).1]
    have hsz : nI (a.2.2 i) = nI F ↔ a.2.2 i = F := nI_eq (by omega) (by omega)
    have hno : ¬ (∀ v, a.2.1 i v ↔ T v) → kb (nI i + 1) := fun q => by
      rw [nI_1]
      refine hkb hlt (fun k hk => ?_)
      by_cases e : k = i
      · subst e; exact q
      · exact hI k (by omega)
    unfold wj_X8_keep_28
    refine ⟨vp_in_nI (by omega) (by omega), fun q => ?_, fun q => ?_⟩
    · refine Lp_of (fun s => s = (0, 0)) (fun _ => 0) (fun s kb2 hS hkb2 => ?_) _ rfl
      subst hS
      dsimp only [wl_X8_keep_31, wb_X8_keep_31]
      exact pk_le F 0 (fun z => by omega) (fun _ => ⟨fun _ => ⟨fun _ => hno (fun z => q (hsz.mpr (GSh_n gi hT z))), fun z => absurd rfl z⟩, fun z => absurd rfl z⟩)
    · have e := hsz.mp q
      rw [e] at gi
      have heq := RW_eq gi hT (hA i hlt).2 hR2
      refine Lp_of (fun s => ∃ k, k ≤ F ∧ s.2 = nI k ∧ ((s.1 = 1 ∧ ∀ j, j < k → sr (30 * i + j) = br j) ∨ (s.1 = 0 ∧ ¬ ∀ v, a.2.1 i v ↔ T v))) (fun s => F - s.2.toNatClampNeg) (fun s kb2 hS hkb2 => ?_) _ ⟨0, by omega, rfl, Or.inl ⟨rfl, fun j hj => by omega⟩⟩
      obtain ⟨s1, s2⟩ := s
      obtain ⟨k, hk, e2, hs⟩ := hS
      replace e2 : s2 = nI k := e2
      subst e2
      dsimp only [wl_X8_keep_31, wb_X8_keep_31]
      have hnx : ∀ u : Int32, ((u = 1 ∧ ∀ j, j < k + 1 → sr (30 * i + j) = br j) ∨ (u = 0 ∧ ¬ ∀ v, a.2.1 i v ↔ T v)) → k < F → kb2 (u, nI k + 1) := fun u hu hkF => by
        rw [nI_1]
        exact hkb2 _ ⟨k + 1, by omega, rfl, hu⟩ (by show F - (nI (k + 1)).toNatClampNeg < F - (nI k).toNatClampNeg; rw [nI_clamp (by omega), nI_clamp (by omega)]; omega)
      rcases hs with ⟨e1, hs⟩ | ⟨e1, hs⟩
      · replace e1 : s1 = 1 := e1
        subst e1
        refine pk_le F k (fun hle => ⟨fun z => absurd z (by decide), fun _ => ?_⟩) (fun hlt2 => ⟨fun z => absurd z (by decide), fun _ => ?_⟩)
        · have e3 : k = F := by omega
          subst e3
          refine h _ _ _ ?_
          rw [kpS_f (fun _ => ⟨i, hlt, heq.mp (fun j hj => by rw [Nat.zero_add]; exact hs j hj)⟩)]
          exact ⟨rfl, hA⟩
        · rw [ix30, nI_clamp (show k < 2 ^ 31 by omega), nI_clamp (show 30 * i + k < 2 ^ 31 by omega)]
          refine ⟨vp_in_nI (by omega) (by omega), vp_in_nI (by omega) (by omega), fun z => hnx 0 (Or.inr ⟨rfl, fun w => z ?_⟩) hlt2, fun z => hnx 1 (Or.inl ⟨rfl, fun j hj => ?_⟩) hlt2⟩
          · have := heq.mpr w k hlt2
            rw [Nat.zero_add] at this
            exact this
          · by_cases e : j = k
            · subst e; exact z
            · exact hs j (by omega)
      · replace e1 : s1 = 0 := e1
        subst e1
        exact pk_le F k (fun hle => ⟨fun _ => hno hs, fun z => absurd rfl z⟩) (fun hlt2 => ⟨fun _ => ⟨fun _ => hno hs, fun z => absurd rfl z⟩, fun z => absurd rfl z⟩)
