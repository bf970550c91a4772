-- BASE: the words that all contracts use
def q_STEP_X : Nat → Int32 := fun j => match j with | 0 => 1 | 1 => -1 | _ => 0
def q_STEP_Y : Nat → Int32 := fun j => match j with | 2 => 1 | 3 => -1 | _ => 0
def q_STEP_Z : Nat → Int32 := fun j => match j with | 4 => 1 | 5 => -1 | _ => 0
def q_FIRST_RIGHT : Nat → Int32 := fun j => match j with | 0 => 2 | 1 => 4 | 2 => 4 | 3 => 0 | 4 => 0 | _ => 2
def q_FIRST_UP : Nat → Int32 := fun j => match j with | 0 => 4 | 1 => 2 | 2 => 0 | 3 => 4 | 4 => 2 | _ => 0
def q_SIDE_X : Nat → Int32 := fun j => match j with | 0 => 1 | 2 => -1 | _ => 0
def q_SIDE_Y : Nat → Int32 := fun j => match j with | 1 => 1 | 3 => -1 | _ => 0
def q_X_OF_X : Nat → Int32 := fun j => match j with | 0 => 1 | 2 => -1 | 4 => 1 | 6 => -1 | _ => 0
def q_X_OF_Y : Nat → Int32 := fun j => match j with | 1 => 1 | 3 => -1 | 5 => 1 | 7 => -1 | _ => 0
def q_Y_OF_X : Nat → Int32 := fun j => match j with | 1 => 1 | 3 => 1 | 5 => -1 | 7 => -1 | _ => 0
def q_Y_OF_Y : Nat → Int32 := fun j => match j with | 0 => 1 | 2 => 1 | 4 => -1 | 6 => -1 | _ => 0
def q_tn : Nat → String := fun k => match k with | 0 => "STEP_X" | 1 => "STEP_Y" | 2 => "STEP_Z" | 3 => "FIRST_RIGHT" | 4 => "FIRST_UP" | 5 => "SIDE_X" | 6 => "SIDE_Y" | 7 => "X_OF_X" | 8 => "X_OF_Y" | 9 => "Y_OF_X" | _ => "Y_OF_Y"
def q_tl : Nat → Nat := fun k => match k with | 0 => 6 | 1 => 6 | 2 => 6 | 3 => 6 | 4 => 6 | 5 => 4 | 6 => 4 | _ => 8
def q_tv : Nat → Nat → Int32 := fun k => match k with | 0 => q_STEP_X | 1 => q_STEP_Y | 2 => q_STEP_Z | 3 => q_FIRST_RIGHT | 4 => q_FIRST_UP | 5 => q_SIDE_X | 6 => q_SIDE_Y | 7 => q_X_OF_X | 8 => q_X_OF_Y | 9 => q_Y_OF_X | _ => q_Y_OF_Y
def q_st (tb : Nat → Nat) (A : Nat → Prop) (U : State) (H : Heap) : Prop := ∀ k, k < 11 → va_Z "NetSearch" (q_tn k) "[I" (.ref (tb k)) A U H ∧ va_T .int (tb k) (q_tl k) (fun j => .int (q_tv k j)) A U H
theorem q_st.moved {tb : Nat → Nat} {A : Nat → Prop} {u U : State} {H : Heap} (hvm : u.vm.Alike U.vm) (h : q_st tb A u H) : q_st tb A U H := fun k hk => ⟨va_Z.moved hvm (h k hk).1, va_T.moved hvm (h k hk).2⟩
theorem q_st.kept {tb : Nat → Nat} {A : Nat → Prop} {U : State} {H H1 : Heap} (h : q_st tb A U H) (hq : ∀ a : Nat, a < H.size → ¬ A a → H1[a]? = H[a]?) : q_st tb A U H1 := fun k hk => ⟨(h k hk).1.kept hq, (h k hk).2.kept hq⟩
theorem q_st.narrow {tb : Nat → Nat} {A B : Nat → Prop} {U : State} {H : Heap} (h : q_st tb A U H) (hAB : ∀ q, B q → A q) : q_st tb B U H := fun k hk => ⟨(h k hk).1.narrow hAB, (h k hk).2.narrow hAB⟩
def q_nwF : List (String × Nat × String × String × String × String) := [(RX6, 64, "NetSearch", "X_OF_X", "[I", "NetSearch"), (RX6, 67, "NetSearch", "SIDE_X", "[I", "NetSearch"), (RX6, 70, "NetSearch", "X_OF_Y", "[I", "NetSearch"), (RX6, 73, "NetSearch", "SIDE_Y", "[I", "NetSearch"), (RX6, 76, "NetSearch", "Y_OF_X", "[I", "NetSearch"), (RX6, 79, "NetSearch", "Y_OF_Y", "[I", "NetSearch"), (RX4, 40, "NetSearch", "STEP_X", "[I", "NetSearch"), (RX4, 43, "NetSearch", "STEP_Y", "[I", "NetSearch"), (RX4, 46, "NetSearch", "STEP_Z", "[I", "NetSearch"), (RX3, 37, "NetSearch", "FIRST_RIGHT", "[I", "NetSearch"), (RX3, 49, "NetSearch", "FIRST_UP", "[I", "NetSearch"), (RX3, 65, "NetSearch", "SIDE_X", "[I", "NetSearch"), (RX3, 68, "NetSearch", "SIDE_Y", "[I", "NetSearch"), (RX0, 69, "NetSearch", "X_OF_X", "[I", "NetSearch"), (RX0, 75, "NetSearch", "X_OF_Y", "[I", "NetSearch"), (RX0, 81, "NetSearch", "Y_OF_X", "[I", "NetSearch"), (RX0, 84, "NetSearch", "Y_OF_Y", "[I", "NetSearch")]
def q_nwM : List (String × Nat × MethodName × String) := [(RX7, 9, yX4_init, "NetSearch"), (RX7, 12, yX0_init, "NetSearch"), (RX2, 11, yX1_init, "NetSearch"), (RX4, 66, yX7_sameAxis, "NetSearch"), (RX4, 74, yX7_opposite, "NetSearch"), (RX3, 85, yX7_opposite, "NetSearch"), (RX5, 51, yX7_sameAxis, "NetSearch"), (RX1, 25, yX7_most, "NetSearch"), (RX1, 29, yX7_least, "NetSearch"), (RX0, 93, yX7_least, "NetSearch")]
def q_nw (U : State) : Prop := (∀ w ∈ q_nwF, va_Nw (.fieldLinkNest w.1 w.2.1 w.2.2.1 w.2.2.2.1 w.2.2.2.2.1 w.2.2.2.2.2) U) ∧ ∀ w ∈ q_nwM, va_Nw (.methodLinkNest w.1 w.2.1 w.2.2.1 w.2.2.2) U
theorem q_nw.warm {s U : State} (hW : s.WarmedH U.vm) (h : q_nw s) : q_nw U := ⟨fun w hw => va_Nw.warmF hW (h.1 w hw), fun w hw => va_Nw.warmM hW (h.2 w hw)⟩
theorem q_nw.same {u U : State} (hv : u.vm = U.vm) (h : q_nw u) : q_nw U := ⟨fun w hw => va_Nw.same rfl hv (h.1 w hw), fun w hw => va_Nw.same rfl hv (h.2 w hw)⟩
abbrev q_ty (cI cZ cJ : ClassId) : List (ClassId × FieldType) := [(cI, .int), (cZ, .boolean), (cJ, .long)]
/-- what holds where a method begins -/
def q_pre (D : va_G) (cI cZ cJ : ClassId) (tb : Nat → Nat) (ws : va_W) (sz : Nat) (U : State) : Prop := U.heap.size = sz ∧ va_P D vwCl ws U.heap ∧ va_K D vwCl (q_ty cI cZ cJ) U ∧ va_D (fun _ => True) ws ∧ q_st tb (va_A ws sz) U U.heap ∧ q_nw U
theorem q_pre.blind {av : List Value} {D : va_G} {cI cZ cJ : ClassId} {tb : Nat → Nat} {ws : va_W} {sz : Nat} : FrameBlind (va_Pc av (q_pre D cI cZ cJ tb ws sz)) := by
  intro a U g mk q
  obtain ⟨q0, q1, qP, qK, qD, qS, qN⟩ := q
  exact ⟨q0, q1, qP, va_K.moved (u := U) (U := U.calling g mk a) (Vm.Alike.refl U.vm) qK, qD, q_st.moved (u := U) (U := U.calling g mk a) (Vm.Alike.refl U.vm) qS, q_nw.same (u := U) (U := U.calling g mk a) rfl qN⟩
theorem q_pre.of {D : va_G} {cI cZ cJ : ClassId} {tb : Nat → Nat} {wc : va_W} {A : Nat → Prop} {s U : State} {H : Heap} {locs : List Loc} (hU : U.heap = H) (hW : s.WarmedH U.vm) (hP : va_P D vwCl wc H) (hK : va_K D vwCl (q_ty cI cZ cJ) s) (hD : va_D A wc) (hSt : q_st tb A s s.heap) (hS : va_S A s.heap H locs) (hF : ∀ q, va_A wc H.size q → A q) (hNw : q_nw s) : q_pre D cI cZ cJ tb wc H.size U := by
  subst hU
  exact ⟨rfl, hP, va_K.moved hW.alike hK, hD.weaken (fun _ _ _ _ => trivial), ((hSt.kept hS.2.1).narrow hF).moved hW.alike, hNw.warm hW⟩
/-- what holds where a method ends -/
def q_post (D : va_G) (cI cZ cJ : ClassId) (A : Nat → Prop) (ws : va_W) (t : State) : Prop := va_P D vwCl ws t.heap ∧ va_K D vwCl (q_ty cI cZ cJ) t ∧ va_D A ws
/-- loops -/
def lpN {V : Type} (f : (V → Prop) → V → Prop) : Nat → V → Prop
  | 0, _ => False
  | n + 1, v => f (lpN f n) v
def Lp {V : Type} (f : (V → Prop) → V → Prop) (v : V) : Prop := ∃ n, lpN f n v
section QW
variable {l : Launch} {y : MethodName} {ws ws' : List Cond} {rm : Room} {cc : ByteArray} {maxL : Nat} {D : va_G} {cI cZ cJ : ClassId} {tb : Nat → Nat} {S : Type} {wd : S → va_W} {wd0 : va_W} {sz : Nat} {av : List Value} {own : String}
set_option maxHeartbeats 1000000 in
theorem q_walki {post : Int32 → S → Prop} (hy : plainName y.cls = true) (hw : ws = Cond.code y cc maxL (some .int) :: ws') (ho : y.cls = own) (hn : (lg_sl av).length ≤ maxL)
    (body : ∀ (p : Program) (e : Env) (s : State) (m : MethodId) (below : List Frame) (meth : Method) (c : Code) (Q : State → Prop) (A : Nat → Prop) (ls : Array Slot), CallFix p m c cc maxL s av.toArray ws own → (∀ q : Nat, s.heap.size ≤ q → A q) →
      (∀ (r : Int32) (u : S) (H : Heap) (locs : List Loc) (ls : Array Slot) (pc : Nat), decode cc pc = .ok (.ireturn, 1) → post r u → va_P D vwCl (wd u) H → va_D A (wd u) → va_S A s.heap H locs → W p l e rm s m av.toArray below meth c H locs 0 0 Q (F0 m pc ls [.int r])) →
      va_P D vwCl wd0 s.heap → va_D A wd0 → va_S A s.heap s.heap [] → va_K D vwCl (q_ty cI cZ cJ) s → q_st tb A s s.heap → q_nw s → lv_has ls maxL (lv_args 0 av) → W p l e rm s m av.toArray below meth c s.heap [] 0 0 Q (F0 m 0 ls [])) :
    Met l y ws rm (va_Pc av (q_pre D cI cZ cJ tb wd0 sz)) (va_Qi post (fun u => q_post D cI cZ cJ (va_A wd0 sz) (wd u)) (va_A wd0 sz)) 0 0 (va_A wd0 sz) := by
  refine Met.ofW (cc := cc) (maxL := maxL) (ret := some .int) hy hw ?_
  intro p e s m args below meth c s₁ B hml hv
  obtain ⟨rfl, hsz, hP, hK, hD0, hSt, hNw⟩ := hv
  have hlocks := B.notSynchronized
  have hr := B.returns
  subst hsz
  have hl := lv_entry av (n := maxL) hn
  rw [lg_entry_eq]
  exact body p e s m below meth c _ (va_A wd0 s.heap.size) _ ⟨B.exec, B.bytes, hml, by rw [← ho]; exact findClass_of_methodNamed B.named, atoms_spec (ws := ws) B.pre⟩ (fun q h => Or.inr h)
    (fun r u H locs ls pc hd hp h1 h2 h3 => W.iret (v := r) B.exec B.bytes hr (fun t ht hW => ⟨⟨r, u, rfl, hp, by rw [ht]; exact h1, va_K.moved hW.alike hK, h2⟩, h3.F ht⟩) h3.2.2 hd)
    hP hD0.self va_S.rf hK hSt hNw hl
set_option maxHeartbeats 1000000 in
theorem q_walkz {post : Int32 → S → Prop} (hy : plainName y.cls = true) (hw : ws = Cond.code y cc maxL (some .boolean) :: ws') (ho : y.cls = own) (hn : (lg_sl av).length ≤ maxL)
    (body : ∀ (p : Program) (e : Env) (s : State) (m : MethodId) (below : List Frame) (meth : Method) (c : Code) (Q : State → Prop) (A : Nat → Prop) (ls : Array Slot), CallFix p m c cc maxL s av.toArray ws own → (∀ q : Nat, s.heap.size ≤ q → A q) →
      (∀ (r : Int32) (u : S) (H : Heap) (locs : List Loc) (ls : Array Slot) (pc : Nat), decode cc pc = .ok (.ireturn, 1) → narrow .boolean (.int r) = .int r ∧ post r u → va_P D vwCl (wd u) H → va_D A (wd u) → va_S A s.heap H locs → W p l e rm s m av.toArray below meth c H locs 0 0 Q (F0 m pc ls [.int r])) →
      va_P D vwCl wd0 s.heap → va_D A wd0 → va_S A s.heap s.heap [] → va_K D vwCl (q_ty cI cZ cJ) s → q_st tb A s s.heap → q_nw s → lv_has ls maxL (lv_args 0 av) → W p l e rm s m av.toArray below meth c s.heap [] 0 0 Q (F0 m 0 ls [])) :
    Met l y ws rm (va_Pc av (q_pre D cI cZ cJ tb wd0 sz)) (va_Qi post (fun u => q_post D cI cZ cJ (va_A wd0 sz) (wd u)) (va_A wd0 sz)) 0 0 (va_A wd0 sz) := by
  refine Met.ofW (cc := cc) (maxL := maxL) (ret := some .boolean) hy hw ?_
  intro p e s m args below meth c s₁ B hml hv
  obtain ⟨rfl, hsz, hP, hK, hD0, hSt, hNw⟩ := hv
  have hlocks := B.notSynchronized
  have hr := B.returns
  subst hsz
  have hl := lv_entry av (n := maxL) hn
  rw [lg_entry_eq]
  exact body p e s m below meth c _ (va_A wd0 s.heap.size) _ ⟨B.exec, B.bytes, hml, by rw [← ho]; exact findClass_of_methodNamed B.named, atoms_spec (ws := ws) B.pre⟩ (fun q h => Or.inr h)
    (fun r u H locs ls pc hd hp h1 h2 h3 => W.zret (v := r) B.exec B.bytes hr hp.1 (fun t ht hW => ⟨⟨r, u, rfl, hp.2, by rw [ht]; exact h1, va_K.moved hW.alike hK, h2⟩, h3.F ht⟩) h3.2.2 hd)
    hP hD0.self va_S.rf hK hSt hNw hl
set_option maxHeartbeats 1000000 in
theorem q_walkl {post : Int64 → S → Prop} (hy : plainName y.cls = true) (hw : ws = Cond.code y cc maxL (some .long) :: ws') (ho : y.cls = own) (hn : (lg_sl av).length ≤ maxL)
    (body : ∀ (p : Program) (e : Env) (s : State) (m : MethodId) (below : List Frame) (meth : Method) (c : Code) (Q : State → Prop) (A : Nat → Prop) (ls : Array Slot), CallFix p m c cc maxL s av.toArray ws own → (∀ q : Nat, s.heap.size ≤ q → A q) →
      (∀ (r : Int64) (u : S) (H : Heap) (locs : List Loc) (ls : Array Slot) (pc : Nat), decode cc pc = .ok (.lreturn, 1) → post r u → va_P D vwCl (wd u) H → va_D A (wd u) → va_S A s.heap H locs → W p l e rm s m av.toArray below meth c H locs 0 0 Q (F0 m pc ls [.long r])) →
      va_P D vwCl wd0 s.heap → va_D A wd0 → va_S A s.heap s.heap [] → va_K D vwCl (q_ty cI cZ cJ) s → q_st tb A s s.heap → q_nw s → lv_has ls maxL (lv_args 0 av) → W p l e rm s m av.toArray below meth c s.heap [] 0 0 Q (F0 m 0 ls [])) :
    Met l y ws rm (va_Pc av (q_pre D cI cZ cJ tb wd0 sz)) (va_Ql post (fun u => q_post D cI cZ cJ (va_A wd0 sz) (wd u)) (va_A wd0 sz)) 0 0 (va_A wd0 sz) := by
  refine Met.ofW (cc := cc) (maxL := maxL) (ret := some .long) hy hw ?_
  intro p e s m args below meth c s₁ B hml hv
  obtain ⟨rfl, hsz, hP, hK, hD0, hSt, hNw⟩ := hv
  have hlocks := B.notSynchronized
  have hr := B.returns
  subst hsz
  have hl := lv_entry av (n := maxL) hn
  rw [lg_entry_eq]
  exact body p e s m below meth c _ (va_A wd0 s.heap.size) _ ⟨B.exec, B.bytes, hml, by rw [← ho]; exact findClass_of_methodNamed B.named, atoms_spec (ws := ws) B.pre⟩ (fun q h => Or.inr h)
    (fun r u H locs ls pc hd hp h1 h2 h3 => W.lret (v := r) B.exec B.bytes hr (fun t ht hW => ⟨⟨r, u, rfl, hp, by rw [ht]; exact h1, va_K.moved hW.alike hK, h2⟩, h3.F ht⟩) h3.2.2 hd)
    hP hD0.self va_S.rf hK hSt hNw hl
set_option maxHeartbeats 1000000 in
theorem q_walkv {post : S → Prop} (hy : plainName y.cls = true) (hw : ws = Cond.code y cc maxL none :: ws') (ho : y.cls = own) (hn : (lg_sl av).length ≤ maxL)
    (body : ∀ (p : Program) (e : Env) (s : State) (m : MethodId) (below : List Frame) (meth : Method) (c : Code) (Q : State → Prop) (A : Nat → Prop) (ls : Array Slot), CallFix p m c cc maxL s av.toArray ws own → (∀ q : Nat, s.heap.size ≤ q → A q) →
      (∀ (u : S) (H : Heap) (locs : List Loc) (ls : Array Slot) (pc : Nat), decode cc pc = .ok (.return_, 1) → post u → va_P D vwCl (wd u) H → va_D A (wd u) → va_S A s.heap H locs → W p l e rm s m av.toArray below meth c H locs 0 0 Q (F0 m pc ls [])) →
      va_P D vwCl wd0 s.heap → va_D A wd0 → va_S A s.heap s.heap [] → va_K D vwCl (q_ty cI cZ cJ) s → q_st tb A s s.heap → q_nw s → lv_has ls maxL (lv_args 0 av) → W p l e rm s m av.toArray below meth c s.heap [] 0 0 Q (F0 m 0 ls [])) :
    Met l y ws rm (va_Pc av (q_pre D cI cZ cJ tb wd0 sz)) (va_Qv post (fun u => q_post D cI cZ cJ (va_A wd0 sz) (wd u)) (va_A wd0 sz)) 0 0 (va_A wd0 sz) := by
  refine Met.ofW (cc := cc) (maxL := maxL) (ret := none) hy hw ?_
  intro p e s m args below meth c s₁ B hml hv
  obtain ⟨rfl, hsz, hP, hK, hD0, hSt, hNw⟩ := hv
  have hlocks := B.notSynchronized
  have hr := B.returns
  subst hsz
  have hl := lv_entry av (n := maxL) hn
  rw [lg_entry_eq]
  exact body p e s m below meth c _ (va_A wd0 s.heap.size) _ ⟨B.exec, B.bytes, hml, by rw [← ho]; exact findClass_of_methodNamed B.named, atoms_spec (ws := ws) B.pre⟩ (fun q h => Or.inr h)
    (fun u H locs ls pc hd hp h1 h2 h3 => W.vret B.exec B.bytes hr (fun t ht hW => ⟨⟨u, rfl, hp, by rw [ht]; exact h1, va_K.moved hW.alike hK, h2⟩, h3.F ht⟩) h3.2.2 hd)
    hP hD0.self va_S.rf hK hSt hNw hl
end QW
