-- PURE 9: the sheet's bits
def bitL (w : Int64) (k : Nat) : Bool := w.toBitVec.getLsbD k
theorem pb_tp : ∀ k, k < 63 → ((1 : Int64) <<< ((nI k).toInt64 &&& 63)).toBitVec = BitVec.twoPow 64 k := by decide +kernel
theorem ln_lt {a : Int32} (h : sm 31 a) : ln a < 63 := by unfold sm at h; unfold ln; omega
theorem ln_inj {a b : Int32} (ha : sm 31 a) (hb : sm 31 b) (h : ln a = ln b) : a = b := by
  unfold sm at ha hb
  unfold ln at h
  exact Int32.toInt_inj.mp (by omega)
theorem ln_nI {a : Int32} (h : sm 31 a) : (31 : Int32) + a = nI (ln a) := by
  have h1 := ln_lt h
  apply Int32.toInt_inj.mp
  rw [nI_toInt (by omega)]
  unfold sm at h
  rw [tadd] <;> rw [t31] <;> (try unfold ln) <;> omega
theorem pb_bv {a : Int32} (h : sm 31 a) : (pb a).toBitVec = BitVec.twoPow 64 (ln a) := by
  unfold pb
  rw [ln_nI h]
  exact pb_tp _ (ln_lt h)
theorem bit_pb {a : Int32} {k : Nat} (h : sm 31 a) : bitL (pb a) k = decide (ln a = k) := by
  have h1 := ln_lt h
  unfold bitL
  rw [pb_bv h, BitVec.getLsbD_twoPow]
  simp [show ln a < 64 by omega]
theorem bit_or (v w : Int64) (k : Nat) : bitL (v ||| w) k = (bitL v k || bitL w k) := by
  unfold bitL
  rw [Int64.toBitVec_or, BitVec.getLsbD_or]
theorem bit_and (v w : Int64) (k : Nat) : bitL (v &&& w) k = (bitL v k && bitL w k) := by
  unfold bitL
  rw [Int64.toBitVec_and, BitVec.getLsbD_and]
theorem bit_not {a : Int32} {k : Nat} (h : sm 31 a) (hk : k < 64) : bitL (pb a ^^^ (-1)) k = !decide (ln a = k) := by
  have e := bit_pb (k := k) h
  unfold bitL at e ⊢
  rw [Int64.toBitVec_xor, BitVec.getLsbD_xor, e, show (-1 : Int64).toBitVec = BitVec.allOnes 64 by decide, BitVec.getLsbD_allOnes]
  simp [hk]
theorem bit_0 {w : Int64} {a : Int32} (h : sm 31 a) : (w &&& pb a) = 0 ↔ bitL w (ln a) = false := by
  rw [← Int64.toBitVec_inj, Int64.toBitVec_and, pb_bv h, BitVec.and_twoPow]
  unfold bitL
  have h1 := ln_lt h
  constructor
  · intro q
    cases e : w.toBitVec.getLsbD (ln a) with
    | false => rfl
    | true =>
      rw [e] at q
      simp only [if_true] at q
      have := congrArg (fun v => v.getLsbD (ln a)) q
      simp only [BitVec.getLsbD_twoPow] at this
      rw [show (0 : Int64).toBitVec = 0#64 by decide] at this
      simp [show ln a < 64 by omega] at this
  · intro q
    rw [q]
    rfl
/-- what the bits tell -/
def TK (pp : Nat → Option PL) (tk : Nat → Int64) : Prop := ∀ a b : Int32, sm 31 a → sm 31 b → (bitL (tk (ln b)) (ln a) = true ↔ ∃ f, pAtP pp a b f)
def PD (pp : Nat → Option PL) : Prop := (∀ f p, pp f = some p → sm 31 p.1 ∧ sm 31 p.2.1) ∧ ∀ f g p q, pp f = some p → pp g = some q → p.1 = q.1 → p.2.1 = q.2.1 → f = g
theorem TK_add {pp : Nat → Option PL} {tk : Nat → Int64} {g : Nat} {p : PL} (h : TK pp tk) (hg : pp g = none) (h1 : sm 31 p.1) (h2 : sm 31 p.2.1) : TK (ppset pp g (some p)) (vp_updL tk (ln p.2.1) (tk (ln p.2.1) ||| pb p.1)) := by
  intro a b ha hb
  have key : (∃ f, pAtP (ppset pp g (some p)) a b f) ↔ (∃ f, pAtP pp a b f) ∨ (p.1 = a ∧ p.2.1 = b) := by
    constructor
    · rintro ⟨f, q, q1, q2, q3⟩
      by_cases e : f = g
      · subst e; rw [ppset_s] at q1; cases q1; exact Or.inr ⟨q2, q3⟩
      · rw [ppset_n e] at q1; exact Or.inl ⟨f, q, q1, q2, q3⟩
    · rintro (⟨f, q, q1, q2, q3⟩ | ⟨q2, q3⟩)
      · exact ⟨f, q, by rw [ppset_n (fun e => by rw [e, hg] at q1; cases q1)]; exact q1, q2, q3⟩
      · exact ⟨g, p, ppset_s, q2, q3⟩
  rw [key]
  by_cases e : ln b = ln p.2.1
  · rw [e, pk_uLs, bit_or, bit_pb h1]
    have eb := ln_inj hb h2 e
    have := h a b ha hb
    rw [e] at this
    constructor
    · intro q
      rcases Bool.or_eq_true _ _ |>.mp q with q | q
      · exact Or.inl (this.mp q)
      · exact Or.inr ⟨ln_inj h1 ha (of_decide_eq_true q), eb.symm⟩
    · rintro (q | ⟨q, -⟩)
      · rw [this.mpr q]; rfl
      · rw [q]; simp
  · rw [pk_uLn e, h a b ha hb]
    constructor
    · exact Or.inl
    · rintro (q | ⟨-, q⟩)
      · exact q
      · exact absurd (by rw [q]) e
theorem TK_del {pp : Nat → Option PL} {tk : Nat → Int64} {g : Nat} {p : PL} (h : TK pp tk) (hg : pp g = some p) (hD : ∀ f g p q, pp f = some p → pp g = some q → p.1 = q.1 → p.2.1 = q.2.1 → f = g) (h1 : sm 31 p.1) (h2 : sm 31 p.2.1) : TK (ppset pp g none) (vp_updL tk (ln p.2.1) (tk (ln p.2.1) &&& (pb p.1 ^^^ (-1)))) := by
  intro a b ha hb
  have key : (∃ f, pAtP (ppset pp g none) a b f) ↔ (∃ f, pAtP pp a b f) ∧ ¬ (p.1 = a ∧ p.2.1 = b) := by
    constructor
    · rintro ⟨f, q, q1, q2, q3⟩
      by_cases e : f = g
      · subst e; rw [ppset_s] at q1; cases q1
      · rw [ppset_n e] at q1
        exact ⟨⟨f, q, q1, q2, q3⟩, fun z => e (hD f g q p q1 hg (q2.trans z.1.symm) (q3.trans z.2.symm))⟩
    · rintro ⟨⟨f, q, q1, q2, q3⟩, z⟩
      have e : f ≠ g := fun e => by rw [e, hg] at q1; cases q1; exact z ⟨q2, q3⟩
      exact ⟨f, q, by rw [ppset_n e]; exact q1, q2, q3⟩
  have hl := ln_lt ha
  rw [key]
  by_cases e : ln b = ln p.2.1
  · rw [e, pk_uLs, bit_and, bit_not h1 (by omega)]
    have eb := ln_inj hb h2 e
    have := h a b ha hb
    rw [e] at this
    constructor
    · intro q
      obtain ⟨q1, q2⟩ := Bool.and_eq_true _ _ |>.mp q
      refine ⟨this.mp q1, fun z => ?_⟩
      rw [z.1] at q2
      simp at q2
    · rintro ⟨q1, q2⟩
      rw [this.mpr q1]
      have : ¬ ln p.1 = ln a := fun z => q2 ⟨ln_inj h1 ha z, eb.symm⟩
      simp [this]
  · rw [pk_uLn e, h a b ha hb]
    constructor
    · exact fun q => ⟨q, fun z => e (by rw [z.2])⟩
    · exact fun q => q.1
theorem TK_0 {tk : Nat → Int64} (h : ∀ k, k < 63 → tk k = 0) : TK (fun _ => none) tk := by
  intro a b ha hb
  rw [h _ (ln_lt hb)]
  constructor
  · intro q
    exact absurd q (by unfold bitL; rw [show (0 : Int64).toBitVec = 0#64 by decide]; simp)
  · rintro ⟨f, p, q, -⟩
    cases q
theorem PD_add {pp : Nat → Option PL} {g : Nat} {p : PL} (h : PD pp) (hn : ∀ f, ¬ pAtP pp p.1 p.2.1 f) (h1 : sm 31 p.1) (h2 : sm 31 p.2.1) : PD (ppset pp g (some p)) := by
  refine ⟨fun f q hq => ?_, fun f f2 q q2 hq hq2 e1 e2 => ?_⟩
  · by_cases e : f = g
    · subst e; rw [ppset_s] at hq; cases hq; exact ⟨h1, h2⟩
    · rw [ppset_n e] at hq; exact h.1 f q hq
  · by_cases e : f = g
    · subst e
      rw [ppset_s] at hq; cases hq
      by_cases e3 : f2 = f
      · exact e3.symm
      · rw [ppset_n e3] at hq2
        exact absurd ⟨q2, hq2, e1.symm, e2.symm⟩ (hn f2)
    · rw [ppset_n e] at hq
      by_cases e3 : f2 = g
      · subst e3
        rw [ppset_s] at hq2; cases hq2
        exact absurd ⟨q, hq, e1, e2⟩ (hn f)
      · rw [ppset_n e3] at hq2
        exact h.2 f f2 q q2 hq hq2 e1 e2
theorem PD_del {pp : Nat → Option PL} {g : Nat} (h : PD pp) : PD (ppset pp g none) := by
  have key : ∀ f q, ppset pp g none f = some q → pp f = some q := by
    intro f q hq
    by_cases e : f = g
    · subst e; rw [ppset_s] at hq; cases hq
    · rw [ppset_n e] at hq; exact hq
  exact ⟨fun f q hq => h.1 f q (key f q hq), fun f f2 q q2 hq hq2 => h.2 f f2 q q2 (key f q hq) (key f2 q2 hq2)⟩
theorem lg_0 (x : Int64) : lg_cmp x 0 = 0 ↔ x = 0 := by
  unfold lg_cmp
  constructor
  · intro h
    split at h
    · exact absurd h (by decide)
    · split at h
      · assumption
      · exact absurd h (by decide)
  · intro h
    rw [h]
    decide
theorem X3_isFreeBeside_ok {f s : Nat} {pp : Nat → Option PL} {p : PL} {x y : Nat → Int32} {tk : Nat → Int64} {post : Int32 → Prop} (hT : TK pp tk) (hf : f < 22) (hs : s < 4) (hx : x f = p.1) (hy : y f = p.2.1) (s1 : sm 30 p.1) (s2 : sm 30 p.2.1) (h1 : (∀ g, ¬ pAtP pp (p.1 + q_SIDE_X s) (p.2.1 + q_SIDE_Y s) g) → post 1) (h0 : (∃ g, pAtP pp (p.1 + q_SIDE_X s) (p.2.1 + q_SIDE_Y s) g) → post 0) : wp_X3_isFreeBeside tk x y (nI f) (nI s) post := by
  have hside := sideXY s hs
  have t1 : sm 31 (p.1 + q_SIDE_X s) := sm_step s1 ⟨hside.2.1, hside.2.2.1⟩ (by omega)
  have t2 : sm 31 (p.2.1 + q_SIDE_Y s) := sm_step s2 ⟨hside.2.2.2.1, hside.2.2.2.2⟩ (by omega)
  obtain ⟨g1, g2⟩ := in63 t2
  unfold wp_X3_isFreeBeside wp_X3_placeBit
  rw [nI_clamp (show f < 2 ^ 31 by omega), nI_clamp (show s < 2 ^ 31 by omega), hx, hy, Int32.add_assoc (31 : Int32), g2]
  have hv : vp_in (nI f) 22 := vp_in_nI hf (by omega)
  have hv2 : vp_in (nI s) 4 := vp_in_nI hs (by omega)
  refine ⟨hv, hv2, g1, hv, hv2, ?_⟩
  have k := hT _ _ t1 t2
  have z := bit_0 (w := tk (ln (p.2.1 + q_SIDE_Y s))) t1
  refine ⟨fun q => h0 (k.mp ?_), fun q => h1 ?_⟩
  · cases e : bitL (tk (ln (p.2.1 + q_SIDE_Y s))) (ln (p.1 + q_SIDE_X s)) with
    | true => rfl
    | false => exact absurd ((lg_0 _).mpr (z.mpr e)) q
  · have e := z.mp ((lg_0 _).mp q)
    intro g hg
    have := k.mpr ⟨g, hg⟩
    rw [e] at this
    cases this
