-- PURE 15: the class's album
def GSh (S : Nat → Prop) (n : Nat) : Prop := 1 ≤ n ∧ n ≤ 22 ∧ cnt S 704 = n ∧ ∀ v, S v → v < 704 ∧ v % 32 < n ∧ v / 32 < n
def RW (nu : Nat → Int32) (b : Nat) (S : Nat → Prop) : Prop := ∀ v, S v → nu (b + cnt S v) = nI v
theorem GSh_ix {S : Nat → Prop} {n v : Nat} (h : GSh S n) (hv : S v) : cnt S v < n := by
  rw [← h.2.2.1]
  exact cnt_lt (h.2.2.2 v hv).1 hv
theorem GSh_at {S : Nat → Prop} {n k : Nat} (h : GSh S n) (hk : k < n) : ∃ v, S v ∧ cnt S v = k := by
  rw [← h.2.2.1] at hk
  obtain ⟨v, v1, v2, v3⟩ := cnt_sur hk
  exact ⟨v, v2, v3⟩
theorem RW_sub {S T : Nat → Prop} {n a b : Nat} {nu nu' : Nat → Int32} (gS : GSh S n) (gT : GSh T n) (hS : RW nu a S) (hT : RW nu' b T) (h : ∀ k, k < n → nu (a + k) = nu' (b + k)) (v : Nat) (hv : S v) : T v := by
  have h1 := GSh_ix gS hv
  obtain ⟨u, u1, u2⟩ := GSh_at gT h1
  have e1 := hS v hv
  have e2 := hT u u1
  rw [u2, ← h _ h1, e1] at e2
  have := (nI_eq (by have := (gS.2.2.2 v hv).1; omega) (by have := (gT.2.2.2 u u1).1; omega)).mp e2
  rw [this]; exact u1
theorem RW_eq {S T : Nat → Prop} {n a b : Nat} {nu nu' : Nat → Int32} (gS : GSh S n) (gT : GSh T n) (hS : RW nu a S) (hT : RW nu' b T) : (∀ k, k < n → nu (a + k) = nu' (b + k)) ↔ ∀ v, S v ↔ T v := by
  constructor
  · intro h v
    exact ⟨RW_sub gS gT hS hT h v, RW_sub gT gS hT hS (fun k hk => (h k hk).symm) v⟩
  · intro h k hk
    obtain ⟨v, v1, v2⟩ := GSh_at gS hk
    have e1 := hS v v1
    have e2 := hT v ((h v).mp v1)
    rw [cnt_congr (fun j _ => (h j).symm), v2] at e2
    rw [v2] at e1
    rw [e1, e2]
theorem GSh_n {S T : Nat → Prop} {n m : Nat} (gS : GSh S n) (gT : GSh T m) (h : ∀ v, S v ↔ T v) : n = m := by
  rw [← gS.2.2.1, ← gT.2.2.1]
  exact cnt_congr (fun j _ => h j)
theorem cnt_gap {S : Nat → Prop} {a b : Nat} (hab : a ≤ b) (h : ∀ u, a ≤ u → u < b → ¬ S u) : cnt S b = cnt S a := by
  induction b with
  | zero => rw [show a = 0 by omega]
  | succ b ih =>
    by_cases e : a = b + 1
    · rw [e]
    · rw [cnt_f (h b (by omega) (by omega))]
      exact ih (by omega) (fun u h1 h2 => h u h1 (by omega))
theorem sr_k : ∀ x, x < 32 → ((nI x &&& 31).toBitVec.smod 32).toNat = x := by decide +kernel
theorem sr_bit (w : Int32) {x : Nat} (hx : x < 32) : ((w >>> (nI x &&& 31)) &&& (1 : Int32)) = 0 ↔ bitI w x = false := by
  have e : (w >>> (nI x &&& 31)).toBitVec.getLsbD 0 = w.toBitVec.getLsbD x := by
    show (BitVec.sshiftRight' w.toBitVec ((nI x &&& 31).toBitVec.smod 32)).getLsbD 0 = _
    rw [BitVec.getLsbD_sshiftRight', sr_k x hx]
    simp [hx]
  rw [← Int32.toBitVec_inj, Int32.toBitVec_and, show (1 : Int32).toBitVec = BitVec.twoPow 32 0 by decide, BitVec.and_twoPow, e]
  unfold bitI
  cases w.toBitVec.getLsbD x
  · simp
  · simp only [if_true]
    exact ⟨fun q => absurd q (by decide), fun q => absurd q (by decide)⟩
theorem ix22 (c k : Nat) : nI c * (22 : Int32) + nI k = nI (c * 22 + k) := by rw [show nI c * (22 : Int32) = nI (c * 22) from pk_mul c 22, nI_add]
theorem v32 (y x : Nat) : (32 : Int32) * nI y + nI x = nI (32 * y + x) := by rw [show (32 : Int32) * nI y = nI (32 * y) from pk_mul 32 y, nI_add]
set_option maxHeartbeats 1000000 in
theorem X0_writeNumbers_ok {c F : Nat} {S : Nat → Prop} {le nu pl : Nat → Int32} {post : (Nat → Int32) → (Nat → Int32) → Prop} (hc : c < 64) (hG : GSh S F) (hB : BT le S) (h : ∀ nu' : Nat → Int32, RW nu' (c * 22) S → (∀ j, j < c * 22 → nu' j = nu j) → post nu' (upd pl c (nI F))) : wp_X0_writeNumbers (nI c) le nu pl (nI F) post := by
  obtain ⟨g1, g2, g3, g4⟩ := id hG
  unfold wp_X0_writeNumbers
  refine Lp_of (fun s => ∃ y, y ≤ F ∧ s.2.1 = nI y ∧ s.1 = nI (cnt S (32 * y)) ∧ (∀ v, v < 32 * y → S v → s.2.2 (c * 22 + cnt S v) = nI v) ∧ ∀ j, j < c * 22 → s.2.2 j = nu j) (fun s => F - s.2.1.toNatClampNeg) (fun s kb hI hkb => ?_) _ ⟨0, by omega, rfl, rfl, fun v hv => by omega, fun j _ => rfl⟩
  obtain ⟨s1, s2, nu1⟩ := s
  obtain ⟨y, hy, e2, e1, hv, hj⟩ := hI
  replace e2 : s2 = nI y := e2
  replace e1 : s1 = nI (cnt S (32 * y)) := e1
  replace hv : ∀ v, v < 32 * y → S v → nu1 (c * 22 + cnt S v) = nI v := hv
  replace hj : ∀ j, j < c * 22 → nu1 j = nu j := hj
  subst e2 e1
  dsimp only [wl_X0_writeNumbers_4, wb_X0_writeNumbers_4]
  refine pk_le F y (fun hle => ?_) (fun hlt => ?_)
  · have e : y = F := by omega
    subst e
    have e3 : cnt S (32 * y) = y := by
      rw [cnt_gap (show 32 * y ≤ 704 by omega) (fun u h1 _ h2 => by have := (g4 u h2).2.2; omega)] at g3
      exact g3
    rw [e3, nI_clamp (show c < 2 ^ 31 by omega)]
    exact ⟨vp_in_nI (by omega) (by omega), h _ (fun v hv2 => hv v (by have := (g4 v hv2).2.2; omega) hv2) hj⟩
  · -- a line
    have hout : ∀ (x : Nat) (nu2 : Nat → Int32), x ≤ F → (∀ u, 32 * y + x ≤ u → u < 32 * (y + 1) → ¬ S u) → (∀ v, v < 32 * y + x → S v → nu2 (c * 22 + cnt S v) = nI v) → (∀ j, j < c * 22 → nu2 j = nu j) → kb (nI (cnt S (32 * y + x)), nI y + 1, nu2) := by
      intro x nu2 hx hno h1 h2
      rw [nI_1, ← cnt_gap (show 32 * y + x ≤ 32 * (y + 1) by omega) hno]
      refine hkb _ ⟨y + 1, by omega, rfl, rfl, fun v hv1 hv2 => h1 v ?_ hv2, h2⟩ (by show F - (nI (y + 1)).toNatClampNeg < F - (nI y).toNatClampNeg; rw [nI_clamp (by omega), nI_clamp (by omega)]; omega)
      exact Classical.byContradiction (fun q => hno v (by omega) hv1 hv2)
    refine Lp_of (fun s => ∃ x, x ≤ F ∧ s.2.1 = nI x ∧ s.1 = nI (cnt S (32 * y + x)) ∧ (∀ v, v < 32 * y + x → S v → s.2.2 (c * 22 + cnt S v) = nI v) ∧ ∀ j, j < c * 22 → s.2.2 j = nu j) (fun s => F - s.2.1.toNatClampNeg) (fun s kb2 hI hkb2 => ?_) _ ⟨0, by omega, rfl, rfl, hv, hj⟩
    obtain ⟨s1, s2, nu2⟩ := s
    obtain ⟨x, hx, e2, e1, hv2, hj2⟩ := hI
    replace e2 : s2 = nI x := e2
    replace e1 : s1 = nI (cnt S (32 * y + x)) := e1
    replace hv2 : ∀ v, v < 32 * y + x → S v → nu2 (c * 22 + cnt S v) = nI v := hv2
    replace hj2 : ∀ j, j < c * 22 → nu2 j = nu j := hj2
    subst e2 e1
    dsimp only [wl_X0_writeNumbers_12, wb_X0_writeNumbers_12]
    refine pk_le F x (fun hle => ?_) (fun hlx => ?_)
    · have e : x = F := by omega
      subst e
      exact hout x nu2 (by omega) (fun u h1 h2 h3 => by have := (g4 u h3).2.1; omega) hv2 hj2
    · have hcle : cnt S (32 * y + x) ≤ F := by rw [← g3]; exact cnt_mono (by omega)
      refine pk_le F (cnt S (32 * y + x)) (fun hfull => ?_) (fun hnf => ?_)
      · refine hout x nu2 (by omega) (fun u h1 h2 h3 => ?_) hv2 hj2
        have := GSh_ix hG h3
        have := cnt_mono (P := S) h1
        omega
      · have hb := hB y x (by omega) (by omega)
        rw [nI_clamp (show y < 2 ^ 31 by omega), sr_bit _ (show x < 32 by omega), nI_1, nI_1, ix22, v32, nI_clamp (show c * 22 + cnt S (32 * y + x) < 2 ^ 31 by omega)]
        have hnx : ∀ (a : Int32) (nu3 : Nat → Int32), a = nI (cnt S (32 * y + (x + 1))) → (∀ v, v < 32 * y + (x + 1) → S v → nu3 (c * 22 + cnt S v) = nI v) → (∀ j, j < c * 22 → nu3 j = nu j) → kb2 (a, nI (x + 1), nu3) := fun a nu3 h1 h2 h3 => hkb2 _ ⟨x + 1, by omega, rfl, h1, h2, h3⟩ (by show F - (nI (x + 1)).toNatClampNeg < F - (nI x).toNatClampNeg; rw [nI_clamp (by omega), nI_clamp (by omega)]; omega)
        refine ⟨vp_in_nI (by omega) (by omega), fun q => hnx _ _ ?_ ?_ hj2, fun q => ⟨vp_in_nI (by omega) (by omega), hnx _ _ ?_ ?_ ?_⟩⟩
        · have : ¬ S (32 * y + x) := fun z => by rw [hb.mpr z] at q; cases q
          rw [show 32 * y + (x + 1) = 32 * y + x + 1 by omega, cnt_f this]
        · intro v v1 v2
          have : ¬ S (32 * y + x) := fun z => by rw [hb.mpr z] at q; cases q
          exact hv2 v (by have : v ≠ 32 * y + x := fun e => this (by rw [← e]; exact v2); omega) v2
        · have : S (32 * y + x) := hb.mp (by simpa using q)
          rw [show 32 * y + (x + 1) = 32 * y + x + 1 by omega, cnt_t this]
        · intro v v1 v2
          by_cases e : v = 32 * y + x
          · subst e; rw [pk_us]
          · have : cnt S v < cnt S (32 * y + x) := cnt_lt (by omega) v2
            rw [pk_un (by omega)]
            exact hv2 v (by omega) v2
        · intro j hj
          rw [pk_un (by omega)]
          exact hj2 j hj
theorem X0_isSame_ok {i j n m : Nat} {S T : Nat → Prop} {nu pl : Nat → Int32} {post : Int32 → Prop} (hi : i < 64) (hj : j < 64) (gS : GSh S n) (gT : GSh T m) (pi : pl i = nI n) (pj : pl j = nI m) (hS : RW nu (i * 22) S) (hT : RW nu (j * 22) T) (h1 : (∀ v, S v ↔ T v) → post 1) (h0 : ¬ (∀ v, S v ↔ T v) → post 0) : wp_X0_isSame nu pl (nI i) (nI j) post := by
  unfold wp_X0_isSame
  have a1 := gS.2.1
  have a2 := gT.2.1
  rw [nI_clamp (show i < 2 ^ 31 by omega), nI_clamp (show j < 2 ^ 31 by omega), pi, pj]
  have hvi : vp_in (nI i) 64 := vp_in_nI (by omega) (by omega)
  have hvj : vp_in (nI j) 64 := vp_in_nI (by omega) (by omega)
  have hnm : nI n = nI m ↔ n = m := nI_eq (by omega) (by omega)
  refine ⟨hvi, hvj, fun q => ?_, fun q => h0 (fun z => q (hnm.mpr (GSh_n gS gT z)))⟩
  have e := hnm.mp q
  subst e
  refine Lp_for0 n (fun k => ∀ l, l < k → nu (i * 22 + l) = nu (j * 22 + l)) (by omega) (fun k kb hk hI hkb => ?_) 0 (by omega) (fun l hl => by omega)
  show wb_X0_isSame_19 nu pl (nI i) (nI j) (post 0) (post 1) kb (nI k)
  unfold wb_X0_isSame_19
  rw [nI_clamp (show i < 2 ^ 31 by omega), pi]
  refine ⟨hvi, pk_le n k (fun hle => ?_) (fun hlt => ?_)⟩
  · have e : k = n := by omega
    subst e
    exact h1 ((RW_eq gS gT hS hT).mp hI)
  · rw [ix22, ix22, nI_1, nI_clamp (show i * 22 + k < 2 ^ 31 by omega), nI_clamp (show j * 22 + k < 2 ^ 31 by omega)]
    refine ⟨vp_in_nI (by omega) (by omega), vp_in_nI (by omega) (by omega), fun z => hkb (by omega) (fun l hl => ?_), fun z => h0 (fun w => z ((RW_eq gS gT hS hT).mpr w k hlt))⟩
    by_cases e : l = k
    · subst e; exact z
    · exact hI l (by omega)
-- the album
abbrev AL : Type := Nat × (Nat → Nat → Prop) × (Nat → Nat)
def GA (a : AL) : Prop := a.1 ≤ 64 ∧ ∀ i, i < a.1 → GSh (a.2.1 i) (a.2.2 i)
def AC (a : AL) (ac : Int32) (nu pl : Nat → Int32) : Prop := ac = nI a.1 ∧ ∀ i, i < a.1 → pl i = nI (a.2.2 i) ∧ RW nu (i * 22) (a.2.1 i)
def updS (f : Nat → Nat → Prop) (k : Nat) (v : Nat → Prop) : Nat → Nat → Prop := fun j => if j = k then v else f j
theorem updS_s {f : Nat → Nat → Prop} {k : Nat} {v : Nat → Prop} : updS f k v k = v := if_pos rfl
theorem updS_n {f : Nat → Nat → Prop} {k j : Nat} {v : Nat → Prop} (h : j ≠ k) : updS f k v j = f j := if_neg h
def inA (a : AL) (T : Nat → Prop) : Prop := ∃ i, i < a.1 ∧ ∀ v, a.2.1 i v ↔ T v
noncomputable def kpS (a : AL) (T : Nat → Prop) (n : Nat) : AL := @ite _ (a.1 < 64 ∧ ¬ inA a T) (Classical.propDecidable _) (a.1 + 1, updS a.2.1 a.1 T, updN a.2.2 a.1 n) a
theorem kpS_t {a : AL} {T : Nat → Prop} {n : Nat} (h : a.1 < 64) (h2 : ¬ inA a T) : kpS a T n = (a.1 + 1, updS a.2.1 a.1 T, updN a.2.2 a.1 n) := if_pos ⟨h, h2⟩
theorem kpS_f {a : AL} {T : Nat → Prop} {n : Nat} (h : a.1 < 64 → inA a T) : kpS a T n = a := if_neg (fun q => q.2 (h q.1))
theorem GA_kp {a : AL} {T : Nat → Prop} {n : Nat} (h : GA a) (hT : GSh T n) : GA (kpS a T n) := by
  by_cases c : a.1 < 64 ∧ ¬ inA a T
  · rw [kpS_t c.1 c.2]
    refine ⟨c.1, fun i hi => ?_⟩
    replace hi : i < a.1 + 1 := hi
    show GSh (updS a.2.1 a.1 T i) (updN a.2.2 a.1 n i)
    by_cases e : i = a.1
    · subst e; rw [updS_s, updN_s]; exact hT
    · rw [updS_n e, updN_n e]; exact h.2 i (by omega)
  · rw [kpS_f (fun q => Classical.byContradiction (fun z => c ⟨q, z⟩))]; exact h
set_option maxHeartbeats 1000000 in
theorem X0_keep_ok {F : Nat} {a : AL} {ac : Int32} {im ix iy le nu pl X Y : Nat → Int32} {post : Int32 → (Nat → Int32) → (Nat → Int32) → (Nat → Int32) → (Nat → Int32) → (Nat → Int32) → (Nat → Int32) → Prop} (h1 : 1 ≤ F) (hF : F ≤ 22) (hX : SP X F) (hY : SP Y F) (hT : GSh (Bst F X Y 7) F) (hG : GA a) (hA : AC a ac nu pl)
    (h : ∀ (ac : Int32) (im ix iy le nu pl : Nat → Int32), AC (kpS a (Bst F X Y 7) F) ac nu pl → post ac im ix iy le nu pl) : wp_X0_keep ac im ix iy le nu pl (nI F) X Y post := by
  obtain ⟨rfl, hA⟩ := hA
  unfold wp_X0_keep
  have g0 := hG.1
  refine pk_lt a.1 64 (fun hlt => ?_) (fun hge => ?_)
  · refine X0_findLeastImage_ok h1 hF hX hY (fun im ix iy le hB => X0_writeNumbers_ok hlt hT hB (fun nu' hR hj => ?_))
    have hR2 : ∀ i, i < a.1 → RW nu' (i * 22) (a.2.1 i) := fun i hi v hv => by
      rw [hj _ (by have := GSh_ix (hG.2 i hi) hv; have := (hG.2 i hi).2.1; omega)]
      exact (hA i hi).2 v hv
    unfold wp_X0_isLastNew
    refine Lp_for0 a.1 (fun i => ∀ k, k < i → ¬ ∀ v, a.2.1 k v ↔ Bst F X Y 7 v) (by omega) (fun i kb hi hI hkb => ?_) 0 (by omega) (fun l hl => by omega)
    dsimp only [wl_X0_isLastNew_2, wb_X0_isLastNew_2]
    refine pk_le a.1 i (fun hle => ?_) (fun hlt2 => ?_)
    · have hn : ¬ inA a (Bst F X Y 7) := fun ⟨k, k1, k2⟩ => hI k (by omega) k2
      refine ⟨fun q => absurd q (by decide), fun _ => ?_⟩
      refine h _ _ _ _ _ _ _ ?_
      rw [kpS_t hlt hn, nI_1]
      refine ⟨rfl, fun k hk => ?_⟩
      show upd pl a.1 (nI F) k = nI (updN a.2.2 a.1 F k) ∧ RW nu' (k * 22) (updS a.2.1 a.1 (Bst F X Y 7) k)
      by_cases e : k = a.1
      · subst e; rw [pk_us, updN_s, updS_s]; exact ⟨rfl, hR⟩
      · have hk : k < a.1 + 1 := hk
        rw [pk_un e, updN_n e, updS_n e]; exact ⟨(hA k (by omega)).1, hR2 k (by omega)⟩
    · refine X0_isSame_ok (n := a.2.2 i) (m := F) (by omega) hlt (hG.2 i hlt2) hT (by rw [pk_un (by omega)]; exact (hA i hlt2).1) pk_us (hR2 i hlt2) hR (fun z => ⟨fun q => absurd q (by decide), fun _ => ?_⟩) (fun z => ⟨fun _ => ?_, fun q => absurd rfl q⟩)
      · refine ⟨fun _ => ?_, fun q => absurd rfl q⟩
        refine h _ _ _ _ _ _ _ ?_
        rw [kpS_f (fun _ => ⟨i, hlt2, z⟩)]
        refine ⟨rfl, fun k hk => ?_⟩
        rw [pk_un (by omega)]
        exact ⟨(hA k hk).1, hR2 k hk⟩
      · rw [nI_1]
        refine hkb hlt2 (fun k hk => ?_)
        by_cases e : k = i
        · subst e; exact z
        · exact hI k (by omega)
  · refine h _ _ _ _ _ _ _ ?_
    rw [kpS_f (fun q => by omega)]
    exact ⟨rfl, hA⟩
