-- PURE 22: labels that spread from place to place
abbrev LB : Type := Nat × Nat × Nat
def lset (A : Nat → Option LB) (p : Nat) (l : LB) : Nat → Option LB := fun q => if q = p then some l else A q
theorem lset_s {A : Nat → Option LB} {p : Nat} {l : LB} : lset A p l p = some l := if_pos rfl
theorem lset_n {A : Nat → Option LB} {p q : Nat} {l : LB} (h : q ≠ p) : lset A p l q = A q := if_neg h
/-- a labelling that keeps the rule -/
def COL (F : Nat) (nbr : Nat → Nat → Nat) (tr : Nat → LB → LB) (l0 : LB) (L : Nat → LB) : Prop := L 0 = l0 ∧ ∀ k i, k < F → i < 4 → nbr k i < F → L (nbr k i) = tr i (L k)
def BI (F : Nat) (nbr : Nat → Nat → Nat) (tr : Nat → LB → LB) (ok : LB → Prop) (l0 : LB) (t rc : Nat) (rq : Nat → Nat) (A : Nat → Option LB) : Prop :=
  A 0 = some l0 ∧ (∀ p l, A p = some l → p < F ∧ ok l ∧ ∃ k, k < rc ∧ rq k = p) ∧ (∀ k, k < rc → A (rq k) ≠ none) ∧ cnt (fun p => A p ≠ none) F = rc ∧ (∀ L, COL F nbr tr l0 L → ∀ p l, A p = some l → L p = l) ∧ ∀ k i, k < rc → i < 4 → 4 * k + i < t → nbr (rq k) i < F → ∃ l, A (rq k) = some l ∧ A (nbr (rq k) i) = some (tr i l)
section BFS
variable {F : Nat} {nbr : Nat → Nat → Nat} {tr : Nat → LB → LB} {ok : LB → Prop} {l0 : LB} {t rc : Nat} {rq : Nat → Nat} {A : Nat → Option LB}
theorem BI_first (hF : 1 ≤ F) (ho : ok l0) : BI F nbr tr ok l0 0 1 (updN rq 0 0) (lset (fun _ => none) 0 l0) := by
  refine ⟨lset_s, fun p l h => ?_, fun k hk => ?_, ?_, fun L hL p l h => ?_, fun k i _ _ h => by omega⟩
  · by_cases e : p = 0
    · subst e; rw [lset_s] at h; cases h; exact ⟨hF, ho, 0, by omega, updN_s⟩
    · rw [lset_n e] at h; cases h
  · rw [show k = 0 by omega, updN_s, lset_s]; exact fun q => by cases q
  · rw [cnt_del (Q := fun _ => False) hF (by rw [lset_s]; exact fun q => (by cases q)) (fun q => q) (fun j hj => by rw [lset_n hj]; exact ⟨fun q => q rfl, fun q => q.elim⟩), cnt_gap (a := 0) (by omega) (fun u _ _ q => q)]
    rfl
  · by_cases e : p = 0
    · subst e; rw [lset_s] at h; cases h; exact hL.1
    · rw [lset_n e] at h; cases h
theorem BI_le (h : BI F nbr tr ok l0 t rc rq A) : rc ≤ F := by rw [← h.2.2.2.1]; exact cnt_le _
theorem BI_q (h : BI F nbr tr ok l0 t rc rq A) {k : Nat} (hk : k < rc) : ∃ l, A (rq k) = some l ∧ rq k < F ∧ ok l := by
  cases e : A (rq k) with
  | none => exact absurd e (h.2.2.1 k hk)
  | some l => exact ⟨l, rfl, (h.2.1 _ l e).1, (h.2.1 _ l e).2.1⟩
theorem BI_none (h : BI F nbr tr ok l0 t rc rq A) (hn : ¬ nbr (rq (t / 4)) (t % 4) < F) : BI F nbr tr ok l0 (t + 1) rc rq A := by
  obtain ⟨h1, h2, h3, h4, h5, h6⟩ := h
  refine ⟨h1, h2, h3, h4, h5, fun k i hk hi ht hF => ?_⟩
  by_cases e : 4 * k + i = t
  · rw [show t / 4 = k by omega, show t % 4 = i by omega] at hn
    exact absurd hF hn
  · exact h6 k i hk hi (by omega) hF
theorem BI_ok {l : LB} (h : BI F nbr tr ok l0 t rc rq A) (hl : A (rq (t / 4)) = some l) (hn : A (nbr (rq (t / 4)) (t % 4)) = some (tr (t % 4) l)) : BI F nbr tr ok l0 (t + 1) rc rq A := by
  obtain ⟨h1, h2, h3, h4, h5, h6⟩ := h
  refine ⟨h1, h2, h3, h4, h5, fun k i hk hi ht hF => ?_⟩
  by_cases e : 4 * k + i = t
  · rw [show t / 4 = k by omega, show t % 4 = i by omega] at hn
    rw [show t / 4 = k by omega] at hl
    exact ⟨l, hl, hn⟩
  · exact h6 k i hk hi (by omega) hF
theorem BI_add {l : LB} (h : BI F nbr tr ok l0 t rc rq A) (hk : t / 4 < rc) (hl : A (rq (t / 4)) = some l) (hF : nbr (rq (t / 4)) (t % 4) < F) (hn : A (nbr (rq (t / 4)) (t % 4)) = none) (ho : ok (tr (t % 4) l)) : BI F nbr tr ok l0 (t + 1) (rc + 1) (updN rq rc (nbr (rq (t / 4)) (t % 4))) (lset A (nbr (rq (t / 4)) (t % 4)) (tr (t % 4) l)) := by
  obtain ⟨h1, h2, h3, h4, h5, h6⟩ := h
  have hne : ∀ p l, A p = some l → p ≠ nbr (rq (t / 4)) (t % 4) := fun p l e1 e2 => by rw [e2, hn] at e1; cases e1
  refine ⟨by rw [lset_n (hne _ _ h1)]; exact h1, fun p l2 hp => ?_, fun k hk2 => ?_, ?_, fun L hL p l2 hp => ?_, fun k i hk2 hi ht hF2 => ?_⟩
  · by_cases e : p = nbr (rq (t / 4)) (t % 4)
    · subst e; rw [lset_s] at hp; cases hp; exact ⟨hF, ho, rc, by omega, updN_s⟩
    · rw [lset_n e] at hp
      obtain ⟨a, b, k, c, d⟩ := h2 p l2 hp
      exact ⟨a, b, k, by omega, by rw [updN_n (by omega)]; exact d⟩
  · by_cases e : k = rc
    · subst e; rw [updN_s, lset_s]; exact fun q => by cases q
    · rw [updN_n e]
      have a := h3 k (by omega)
      rw [lset_n (fun q => a (by rw [q]; exact hn))]
      exact a
  · rw [cnt_del (Q := fun p => A p ≠ none) hF (by rw [lset_s]; exact fun q => (by cases q)) (fun q => q hn) (fun j hj => by rw [lset_n hj]), h4]
  · by_cases e : p = nbr (rq (t / 4)) (t % 4)
    · subst e; rw [lset_s] at hp; cases hp
      obtain ⟨a, -⟩ := h2 _ l hl
      rw [hL.2 _ _ a (by omega) hF, h5 L hL _ l hl]
    · rw [lset_n e] at hp; exact h5 L hL p l2 hp
  · by_cases e2 : 4 * k + i = t
    · have ek : t / 4 = k := by omega
      have ei : t % 4 = i := by omega
      rw [ek] at hk
      rw [updN_n (by omega), ← ek, ← ei, lset_s, lset_n (hne _ _ hl)]
      exact ⟨l, hl, rfl⟩
    · have ekr : k ≠ rc := fun q => by omega
      rw [updN_n ekr] at hF2 ⊢
      obtain ⟨l2, a, b⟩ := h6 k i (by omega) hi (by omega) hF2
      exact ⟨l2, by rw [lset_n (hne _ _ a)]; exact a, by rw [lset_n (hne _ _ b)]; exact b⟩
theorem BI_bad {l l2 : LB} (h : BI F nbr tr ok l0 t rc rq A) (hl : A (rq (t / 4)) = some l) (hF : nbr (rq (t / 4)) (t % 4) < F) (hn : A (nbr (rq (t / 4)) (t % 4)) = some l2) (hne : ¬ l2 = tr (t % 4) l) : ¬ ∃ L, COL F nbr tr l0 L := by
  obtain ⟨h1, h2, h3, h4, h5, h6⟩ := h
  rintro ⟨L, hL⟩
  refine hne ?_
  rw [← h5 L hL _ _ hn, ← h5 L hL _ _ hl]
  exact hL.2 _ _ (h2 _ _ hl).1 (by omega) hF
/-- places hang together -/
def CNN (F : Nat) (nbr : Nat → Nat → Nat) : Prop := ∀ P : Nat → Prop, P 0 → (∀ k i, k < F → i < 4 → P k → nbr k i < F → P (nbr k i)) → ∀ k, k < F → P k
theorem BI_full (hC : CNN F nbr) (h : BI F nbr tr ok l0 t rc rq A) (ht : 4 * rc ≤ t) : rc = F ∧ ∀ p, p < F → ∃ l, A p = some l := by
  obtain ⟨h1, h2, h3, h4, h5, h6⟩ := h
  have all : ∀ p, p < F → A p ≠ none := by
    refine hC (fun p => A p ≠ none) (by rw [h1]; exact fun q => by cases q) (fun k i hk hi hA hF => ?_)
    cases e : A k with
    | none => exact absurd e hA
    | some l =>
      obtain ⟨-, -, j, j1, j2⟩ := h2 k l e
      subst j2
      obtain ⟨l3, -, b⟩ := h6 j i j1 hi (by omega) hF
      rw [b]; exact fun q => by cases q
  refine ⟨?_, fun p hp => ?_⟩
  · rw [← h4]
    refine Nat.le_antisymm (cnt_le _) ?_
    have e : cnt (fun _ => True) F = F := by
      have : ∀ N, cnt (fun _ => True) N = N := fun N => by
        induction N with
        | zero => rfl
        | succ N ih => rw [cnt_t trivial, ih]
      exact this F
    rw [← e]
    conv => rhs; rw [e]
    exact cnt_sub (fun k hk _ => all k hk)
  · cases e : A p with
    | none => exact absurd e (all p hp)
    | some l => exact ⟨l, rfl⟩
theorem BI_end (h : BI F nbr tr ok l0 t rc rq A) (hr : rc = F) (ht : 4 * F ≤ t) (hall : ∀ p, p < F → ∃ l, A p = some l) : COL F nbr tr l0 (fun p => (A p).getD (0, 0, 0)) := by
  obtain ⟨h1, h2, h3, h4, h5, h6⟩ := h
  refine ⟨by show (A 0).getD _ = l0; rw [h1]; rfl, fun k i hk hi hF => ?_⟩
  obtain ⟨l, hl⟩ := hall k hk
  obtain ⟨-, -, j, j1, j2⟩ := h2 k l hl
  subst j2
  obtain ⟨l3, a, b⟩ := h6 j i j1 hi (by omega) hF
  show (A (nbr (rq j) i)).getD _ = tr i ((A (rq j)).getD _)
  rw [a, b]
  rfl
end BFS
-- the places of a shape
noncomputable def vk (S : Nat → Prop) (k : Nat) : Nat := lf (fun v => S v ∧ cnt S v = k) 704
theorem vk_ok {S : Nat → Prop} {n k : Nat} (h : GSh S n) (hk : k < n) : S (vk S k) ∧ cnt S (vk S k) = k ∧ vk S k < 704 ∧ vk S k % 32 < n ∧ vk S k / 32 < n := by
  obtain ⟨v, v1, v2⟩ := GSh_at h hk
  have hl : vk S k < 704 := lf_ex ⟨v, (h.2.2.2 v v1).1, v1, v2⟩
  obtain ⟨a, -⟩ := lf_lt hl
  have := h.2.2.2 _ a.1
  exact ⟨a.1, a.2, this.1, this.2.1, this.2.2⟩
theorem vk_inj {S : Nat → Prop} {n j k : Nat} (h : GSh S n) (hj : j < n) (hk : k < n) (e : vk S j = vk S k) : j = k := by
  rw [← (vk_ok h hj).2.1, ← (vk_ok h hk).2.1, e]
theorem vk_of {S : Nat → Prop} {n v : Nat} (h : GSh S n) (hv : S v) : cnt S v < n ∧ vk S (cnt S v) = v := by
  have a := GSh_ix h hv
  obtain ⟨b, c, -⟩ := vk_ok h a
  exact ⟨a, cnt_inj b hv c⟩
noncomputable def kX (S : Nat → Prop) (k : Nat) : Int32 := nI (vk S k % 32)
noncomputable def kY (S : Nat → Prop) (k : Nat) : Int32 := nI (vk S k / 32)
theorem kXY_inj {S : Nat → Prop} {n j k : Nat} (h : GSh S n) (hj : j < n) (hk : k < n) (e1 : kX S j = kX S k) (e2 : kY S j = kY S k) : j = k := by
  have a := vk_ok h hj
  have b := vk_ok h hk
  have c := (nI_eq (by omega) (by omega)).mp e1
  have d := (nI_eq (by omega) (by omega)).mp e2
  exact vk_inj h hj hk (by omega)
def bsP (S : Nat → Prop) (k s j : Nat) : Prop := kX S j = kX S k + q_SIDE_X s ∧ kY S j = kY S k + q_SIDE_Y s
noncomputable def bsK (S : Nat → Prop) (n k s : Nat) : Nat := lf (bsP S k s) n
theorem bsK_lt {S : Nat → Prop} {n k s : Nat} (h : bsK S n k s < n) : kX S (bsK S n k s) = kX S k + q_SIDE_X s ∧ kY S (bsK S n k s) = kY S k + q_SIDE_Y s := (lf_lt h).1
theorem kX_int {S : Nat → Prop} {n k : Nat} (h : GSh S n) (hk : k < n) : (kX S k).toInt = (vk S k % 32 : Nat) ∧ (kY S k).toInt = (vk S k / 32 : Nat) := by
  have a := vk_ok h hk
  exact ⟨nI_toInt (by omega), nI_toInt (by omega)⟩
theorem CNN_of {S : Nat → Prop} {n : Nat} (h : GSh S n) (hC : CN S) : CNN n (bsK S n) := by
  intro P h0 hcl k hk
  have key := hC (fun v => ∃ k, k < n ∧ vk S k = v ∧ P k) ⟨vk S 0, (vk_ok h h.1).1, 0, h.1, rfl, h0⟩ (fun v w hv hA hw hadj => ?_) (vk S k) (vk_ok h hk).1
  · obtain ⟨j, j1, j2, j3⟩ := key
    rw [← vk_inj h j1 hk j2]; exact j3
  · obtain ⟨j, j1, j2, j3⟩ := hA
    obtain ⟨s, s1, s2, s3⟩ := hadj
    obtain ⟨c1, c2⟩ := vk_of h hw
    have a := kX_int h j1
    have b := kX_int h c1
    rw [j2] at a
    rw [c2] at b
    have side := sideXY s s1
    have hv7 := (h.2.2.2 v hv)
    have ex : kX S (cnt S w) = kX S j + q_SIDE_X s := Int32.toInt_inj.mp (by rw [tadd] <;> omega)
    have ey : kY S (cnt S w) = kY S j + q_SIDE_Y s := Int32.toInt_inj.mp (by rw [tadd] <;> omega)
    have hl : bsK S n j s < n := lf_ex ⟨cnt S w, c1, ex, ey⟩
    obtain ⟨d1, d2⟩ := bsK_lt hl
    have e : bsK S n j s = cnt S w := kXY_inj h hl c1 (by rw [d1, ex]) (by rw [d2, ey])
    refine ⟨cnt S w, c1, c2, ?_⟩
    rw [← e]
    exact hcl j s j1 s1 j3 hl
/-- the side that becomes side s -/
def sJ (m s : Nat) : Nat := match m with | 3 => sI 5 s | 5 => sI 3 s | m => sI m s
theorem sJ_ok : ∀ m, m < 8 → ∀ s, s < 4 → sJ m s < 4 ∧ sI m (sJ m s) = s ∧ sJ m (sI m s) = s := by decide
theorem lf_congr {P Q : Nat → Prop} {n : Nat} (h : ∀ j, P j ↔ Q j) : lf P n = lf Q n := by
  have : P = Q := funext (fun j => propext (h j))
  rw [this]
theorem CNN_J {n : Nat} {bs : Nat → Nat → Nat} {m : Nat} (hm : m < 8) (h : CNN n bs) : CNN n (fun k i => bs k (sJ m i)) := by
  intro P h0 hcl
  refine h P h0 (fun k i hk hi hP hF => ?_)
  obtain ⟨a, b, c⟩ := sJ_ok m hm (sI m i) (sI_ok m hm i hi).1
  have e : sJ m (sI m i) = i := (sJ_ok m hm i hi).2.2
  have := hcl k (sI m i) hk (sI_ok m hm i hi).1 hP
  simp only [e] at this
  exact this hF
-- what wraps
def trL (nb on : Nat → Nat → Nat) (s : Nat) (l : LB) : LB := (nb l.1 (sd l.2.1 l.2.2 s), nr l.2.1 s (on l.1 (sd l.2.1 l.2.2 s)), nu l.2.2 s (on l.1 (sd l.2.1 l.2.2 s)))
def okL (F : Nat) (look : Nat → Nat) (l : LB) : Prop := l.1 < F ∧ OR look l.1 l.2.1 l.2.2
theorem okL_tr {F : Nat} {look : Nat → Nat} {nb on : Nat → Nat → Nat} {l : LB} {s : Nat} (hG : GS F look nb on) (hs : s < 4) (h : okL F look l) : okL F look (trL nb on s l) := by
  obtain ⟨a, b⟩ := sd_ok h.2 hs
  exact ⟨(hG.2 _ _ h.1 a b).1, OR_next hG h.1 h.2 hs⟩
def fst3 (look : Nat → Nat) (f : Nat) : LB := (f, fr (look f), fu (look f))
def injL (F : Nat) (L : Nat → LB) : Prop := ∀ j k, j < F → k < F → (L j).1 = (L k).1 → j = k
def WRP (F : Nat) (look : Nat → Nat) (nb on : Nat → Nat → Nat) (S : Nat → Prop) (f m : Nat) : Prop := ∃ L, COL F (bsK S F) (fun i => trL nb on (sI m i)) (fst3 look f) L ∧ injL F L
theorem COL_J {F : Nat} {nb on : Nat → Nat → Nat} {bs : Nat → Nat → Nat} {m : Nat} {l0 : LB} {L : Nat → LB} (hm : m < 8) : COL F (fun k i => bs k (sJ m i)) (fun i => trL nb on i) l0 L ↔ COL F bs (fun i => trL nb on (sI m i)) l0 L := by
  constructor
  · rintro ⟨h1, h2⟩
    refine ⟨h1, fun k i hk hi hF => ?_⟩
    have e : sJ m (sI m i) = i := (sJ_ok m hm i hi).2.2
    have := h2 k (sI m i) hk (sI_ok m hm i hi).1
    simp only [e] at this
    exact this hF
  · rintro ⟨h1, h2⟩
    refine ⟨h1, fun k i hk hi hF => ?_⟩
    obtain ⟨a, b, -⟩ := sJ_ok m hm i hi
    have := h2 k (sJ m i) hk a hF
    simp only [b] at this
    exact this
