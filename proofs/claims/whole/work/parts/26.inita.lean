-- a constructor's contract
section QC
variable {l : Launch} {y : MethodName} {ws ws' : List Cond} {rm : Room} {cc : ByteArray} {maxL : Nat} {D : va_G} {cI cZ cJ : ClassId} {tb : Nat → Nat} {S : Type} {wd : S → va_W} {wd0 : va_W} {sz : Nat} {av : List Value} {own : String} {mc ms : Nat}
set_option maxHeartbeats 1000000 in
theorem q_walkc {post : S → Prop} (hy : plainName y.cls = true) (hw : ws = Cond.code y cc maxL none :: ws') (ho : y.cls = own) (hi : y.name = "<init>") (hn : (lg_sl av).length ≤ maxL)
    (body : ∀ (p : Program) (e : Env) (s : State) (m : MethodId) (below : List Frame) (meth : Method) (c : Code) (Q : State → Prop) (A : Nat → Prop) (ls : Array Slot), CallFix p m c cc maxL s av.toArray ws own → (∀ q : Nat, s.heap.size ≤ q → A q) →
      (∀ (u : S) (H : Heap) (locs : List Loc) (ls : Array Slot) (pc : Nat), decode cc pc = .ok (.return_, 1) → post u → va_P D vwCl (wd u) H → va_D A (wd u) → va_S A s.heap H locs → W p l e rm s m av.toArray below meth c H locs mc ms Q (F0 m pc ls [])) → meth.name = "<init>" →
      va_P D vwCl wd0 s.heap → va_D A wd0 → va_S A s.heap s.heap [] → va_K D vwCl (q_ty cI cZ cJ) s → q_st tb A s s.heap → q_nw s → lv_has ls maxL (lv_args 0 av) → W p l e rm s m av.toArray below meth c s.heap [] 0 0 Q (F0 m 0 ls [])) :
    Met l y ws rm (va_Pc av (q_pre D cI cZ cJ tb wd0 sz)) (va_Qv post (fun u => q_post D cI cZ cJ (va_A wd0 sz) (wd u)) (va_A wd0 sz)) mc ms (va_A wd0 sz) := by
  refine Met.ofW (cc := cc) (maxL := maxL) (ret := none) hy hw ?_
  intro p e s m args below meth c s₁ B hml hv
  obtain ⟨rfl, hsz, hP, hK, hD0, hSt, hNw⟩ := hv
  have hlocks := B.notSynchronized
  have hr := B.returns
  have hin : meth.name = "<init>" := ((name_of_methodNamed B.named B.method).1).trans hi
  subst hsz
  have hl := lv_entry av (n := maxL) hn
  rw [lg_entry_eq]
  exact body p e s m below meth c _ (va_A wd0 s.heap.size) _ ⟨B.exec, B.bytes, hml, by rw [← ho]; exact findClass_of_methodNamed B.named, atoms_spec (ws := ws) B.pre⟩ (fun q h => Or.inr h)
    (fun u H locs ls pc hd hp h1 h2 h3 => W.vret B.exec B.bytes hr (fun t ht hW => ⟨⟨u, rfl, hp, by rw [ht]; exact h1, va_K.moved hW.alike hK, h2⟩, h3.F ht⟩) h3.2.2 hd)
    hin hP hD0.self va_S.rf hK hSt hNw hl
end QC
abbrev rm_X4_init : Room := { frames := 1, cells := 8, slots := 353, locals := 12 }
def wi_X4_init (cI cZ cJ : ClassId) (a_this : Nat) (u : Nat → Nat) : va_W := [(a_this, .inr (4, [.int 0, .int 0, .ref (u 0), .ref (u 1), .ref (u 2), .ref (u 3), .ref (u 4), .ref (u 5), .ref (u 6), .ref (u 7)])), ((u 0), .inl (cI, 22, .inl (fun _ => 0))), ((u 1), .inl (cI, 22, .inl (fun _ => 0))), ((u 2), .inl (cI, 5, .inl (fun _ => 0))), ((u 3), .inl (cI, 5, .inl (fun _ => 0))), ((u 4), .inl (cI, 5, .inl (fun _ => 0))), ((u 5), .inl (cI, 30, .inl (fun _ => 0))), ((u 6), .inl (cI, 132, .inl (fun _ => 0))), ((u 7), .inl (cI, 132, .inl (fun _ => 0)))]
set_option maxHeartbeats 4000000 in
set_option maxRecDepth 100000 in
theorem ci_X4_init (l : Launch) (D : va_G) (cI cZ cJ : ClassId) (tb : Nat → Nat) (a_this : Nat) (sz : Nat) : Met l yX4_init wsX4_init rm_X4_init (va_Pc [.ref a_this] (q_pre D cI cZ cJ tb [(a_this, .inr (4, [.int 0, .int 0, .null, .null, .null, .null, .null, .null, .null, .null]))] sz)) (va_Qv (fun _ : Nat → Nat => True) (fun u => q_post D cI cZ cJ (va_A [(a_this, .inr (4, [.int 0, .int 0, .null, .null, .null, .null, .null, .null, .null, .null]))] sz) (wi_X4_init cI cZ cJ a_this u)) (va_A [(a_this, .inr (4, [.int 0, .int 0, .null, .null, .null, .null, .null, .null, .null, .null]))] sz)) 8 353 (va_A [(a_this, .inr (4, [.int 0, .int 0, .null, .null, .null, .null, .null, .null, .null, .null]))] sz) := by
  refine q_walkc (cc := cX4_init) (maxL := 1) (own := RX4) (wd := fun (u : Nat → Nat) => (wi_X4_init cI cZ cJ a_this u)) (by decide) rfl rfl rfl (Nat.le_of_ble_eq_true rfl) ?_
  intro p e s m below meth c Q A ls C hA ret hin hP hD hS hK hSt hNw hl
  obtain ⟨hx, hb, hml, hown, hts⟩ := id C
  replace hl : lv_has ls 1 [(0, .ref a_this)] := hl
  have ml3 := hts (.methodLink RX4 3 objectInit) (by decide +kernel)
  have imO := hts (.instanceMethod objectInit) (by decide +kernel)
  have acI := hts (.arrayClass .int) (by decide +kernel)
  have f9 := hts (.fieldLink RX4 9 "NetSearch$Solid" "cubeOf" "[I") (by decide +kernel)
  have iX4 : ∀ w ∈ wsX40, w ∈ wsX4_init := by decide +kernel
  have f15 := hts (.fieldLink RX4 15 "NetSearch$Solid" "lookOf" "[I") (by decide +kernel)
  have f18 := hts (.fieldLink RX4 18 "NetSearch$Solid" "x" "[I") (by decide +kernel)
  have f21 := hts (.fieldLink RX4 21 "NetSearch$Solid" "y" "[I") (by decide +kernel)
  have f24 := hts (.fieldLink RX4 24 "NetSearch$Solid" "z" "[I") (by decide +kernel)
  have f27 := hts (.fieldLink RX4 27 "NetSearch$Solid" "faceOf" "[I") (by decide +kernel)
  have f30 := hts (.fieldLink RX4 30 "NetSearch$Solid" "beyondEdge" "[I") (by decide +kernel)
  have f33 := hts (.fieldLink RX4 33 "NetSearch$Solid" "onwardEdge" "[I") (by decide +kernel)
  refine lv_aload_n hx hb dX4_init_0 rfl (lv_at hl 0 rfl) ?_
  refine W.objInit hx hb hown ml3 imO (hts _ (List.mem_of_getElem? (i := 3) rfl)) rfl (by rw [hml]; exact hl.1) rfl dX4_init_1 (Nat.le_of_ble_eq_true rfl) (Nat.le_of_ble_eq_true rfl) ?_
  refine W.eq (g2 := F0 m 4 ls []) rfl ?_
  refine lv_aload_n hx hb dX4_init_4 rfl (lv_at hl 0 rfl) ?_
  refine lv_bipush (v := 22) hx hb dX4_init_5 (by decide) ?_
  refine va_newa (atype := .int) (ty := .int) (N' := 22) (n := 22) (a0 := (22, .inl (fun _ => 0))) hx hb acI rfl hK hP hD hS hA (fun cA => rfl) (by decide) (by decide) (by decide) (Nat.le_of_ble_eq_true rfl) (Nat.le_of_ble_eq_true rfl) dX4_init_7 (fun q1 cA H hK2 hP hD hS => ?_)
  obtain rfl : cI = cA := Option.some.inj ((hK.2 0 _ rfl).2.symm.trans (hK2.2 3 _ rfl).2)
  clear hK2
  replace hP : va_P D vwCl [(a_this, .inr (4, [.int 0, .int 0, .null, .null, .null, .null, .null, .null, .null, .null])), (q1, .inl (cI, 22, .inl (fun _ => 0)))] H := hP
  replace hD : va_D A [(a_this, .inr (4, [.int 0, .int 0, .null, .null, .null, .null, .null, .null, .null, .null])), (q1, .inl (cI, 22, .inl (fun _ => 0)))] := hD
  refine va_putF (D := D) (ci := 4) (v := .ref q1) (ty := .array .int) (C := RX4) (T := TX4) (N := 10) hx hb hts iX4 tyX4 tyX4_ok nmX4 hown hK hP hD hS 0 rfl rfl 2 (by decide) f9 (fun _ h9 => h9) rfl hin rfl (by decide +kernel) rfl rfl (Nat.le_of_ble_eq_true rfl) dX4_init_9 (fun H locs hP hD hS => ?_)
  replace hP : va_P D vwCl [(a_this, .inr (4, [.int 0, .int 0, .ref q1, .null, .null, .null, .null, .null, .null, .null])), (q1, .inl (cI, 22, .inl (fun _ => 0)))] H := hP
  replace hD : va_D A [(a_this, .inr (4, [.int 0, .int 0, .ref q1, .null, .null, .null, .null, .null, .null, .null])), (q1, .inl (cI, 22, .inl (fun _ => 0)))] := hD
  refine lv_aload_n hx hb dX4_init_12 rfl (lv_at hl 0 rfl) ?_
  refine lv_bipush (v := 22) hx hb dX4_init_13 (by decide) ?_
  refine va_newa (atype := .int) (ty := .int) (N' := 22) (n := 22) (a0 := (22, .inl (fun _ => 0))) hx hb acI rfl hK hP hD hS hA (fun cA => rfl) (by decide) (by decide) (by decide) (Nat.le_of_ble_eq_true rfl) (Nat.le_of_ble_eq_true rfl) dX4_init_15 (fun q2 cA H hK2 hP hD hS => ?_)
  obtain rfl : cI = cA := Option.some.inj ((hK.2 0 _ rfl).2.symm.trans (hK2.2 3 _ rfl).2)
  clear hK2
  replace hP : va_P D vwCl [(a_this, .inr (4, [.int 0, .int 0, .ref q1, .null, .null, .null, .null, .null, .null, .null])), (q1, .inl (cI, 22, .inl (fun _ => 0))), (q2, .inl (cI, 22, .inl (fun _ => 0)))] H := hP
  replace hD : va_D A [(a_this, .inr (4, [.int 0, .int 0, .ref q1, .null, .null, .null, .null, .null, .null, .null])), (q1, .inl (cI, 22, .inl (fun _ => 0))), (q2, .inl (cI, 22, .inl (fun _ => 0)))] := hD
  refine va_putF (D := D) (ci := 4) (v := .ref q2) (ty := .array .int) (C := RX4) (T := TX4) (N := 10) hx hb hts iX4 tyX4 tyX4_ok nmX4 hown hK hP hD hS 0 rfl rfl 3 (by decide) f15 (fun _ h9 => h9) rfl hin rfl (by decide +kernel) rfl rfl (Nat.le_of_ble_eq_true rfl) dX4_init_17 (fun H locs hP hD hS => ?_)
  replace hP : va_P D vwCl [(a_this, .inr (4, [.int 0, .int 0, .ref q1, .ref q2, .null, .null, .null, .null, .null, .null])), (q1, .inl (cI, 22, .inl (fun _ => 0))), (q2, .inl (cI, 22, .inl (fun _ => 0)))] H := hP
  replace hD : va_D A [(a_this, .inr (4, [.int 0, .int 0, .ref q1, .ref q2, .null, .null, .null, .null, .null, .null])), (q1, .inl (cI, 22, .inl (fun _ => 0))), (q2, .inl (cI, 22, .inl (fun _ => 0)))] := hD
  refine lv_aload_n hx hb dX4_init_20 rfl (lv_at hl 0 rfl) ?_
  refine lv_iconst (v := 5) hx hb dX4_init_21 (by decide) ?_
  refine va_newa (atype := .int) (ty := .int) (N' := 5) (n := 5) (a0 := (5, .inl (fun _ => 0))) hx hb acI rfl hK hP hD hS hA (fun cA => rfl) (by decide) (by decide) (by decide) (Nat.le_of_ble_eq_true rfl) (Nat.le_of_ble_eq_true rfl) dX4_init_22 (fun q3 cA H hK2 hP hD hS => ?_)
  obtain rfl : cI = cA := Option.some.inj ((hK.2 0 _ rfl).2.symm.trans (hK2.2 3 _ rfl).2)
  clear hK2
  replace hP : va_P D vwCl [(a_this, .inr (4, [.int 0, .int 0, .ref q1, .ref q2, .null, .null, .null, .null, .null, .null])), (q1, .inl (cI, 22, .inl (fun _ => 0))), (q2, .inl (cI, 22, .inl (fun _ => 0))), (q3, .inl (cI, 5, .inl (fun _ => 0)))] H := hP
  replace hD : va_D A [(a_this, .inr (4, [.int 0, .int 0, .ref q1, .ref q2, .null, .null, .null, .null, .null, .null])), (q1, .inl (cI, 22, .inl (fun _ => 0))), (q2, .inl (cI, 22, .inl (fun _ => 0))), (q3, .inl (cI, 5, .inl (fun _ => 0)))] := hD
  refine va_putF (D := D) (ci := 4) (v := .ref q3) (ty := .array .int) (C := RX4) (T := TX4) (N := 10) hx hb hts iX4 tyX4 tyX4_ok nmX4 hown hK hP hD hS 0 rfl rfl 4 (by decide) f18 (fun _ h9 => h9) rfl hin rfl (by decide +kernel) rfl rfl (Nat.le_of_ble_eq_true rfl) dX4_init_24 (fun H locs hP hD hS => ?_)
  replace hP : va_P D vwCl [(a_this, .inr (4, [.int 0, .int 0, .ref q1, .ref q2, .ref q3, .null, .null, .null, .null, .null])), (q1, .inl (cI, 22, .inl (fun _ => 0))), (q2, .inl (cI, 22, .inl (fun _ => 0))), (q3, .inl (cI, 5, .inl (fun _ => 0)))] H := hP
  replace hD : va_D A [(a_this, .inr (4, [.int 0, .int 0, .ref q1, .ref q2, .ref q3, .null, .null, .null, .null, .null])), (q1, .inl (cI, 22, .inl (fun _ => 0))), (q2, .inl (cI, 22, .inl (fun _ => 0))), (q3, .inl (cI, 5, .inl (fun _ => 0)))] := hD
  refine lv_aload_n hx hb dX4_init_27 rfl (lv_at hl 0 rfl) ?_
  refine lv_iconst (v := 5) hx hb dX4_init_28 (by decide) ?_
  refine va_newa (atype := .int) (ty := .int) (N' := 5) (n := 5) (a0 := (5, .inl (fun _ => 0))) hx hb acI rfl hK hP hD hS hA (fun cA => rfl) (by decide) (by decide) (by decide) (Nat.le_of_ble_eq_true rfl) (Nat.le_of_ble_eq_true rfl) dX4_init_29 (fun q4 cA H hK2 hP hD hS => ?_)
  obtain rfl : cI = cA := Option.some.inj ((hK.2 0 _ rfl).2.symm.trans (hK2.2 3 _ rfl).2)
  clear hK2
  replace hP : va_P D vwCl [(a_this, .inr (4, [.int 0, .int 0, .ref q1, .ref q2, .ref q3, .null, .null, .null, .null, .null])), (q1, .inl (cI, 22, .inl (fun _ => 0))), (q2, .inl (cI, 22, .inl (fun _ => 0))), (q3, .inl (cI, 5, .inl (fun _ => 0))), (q4, .inl (cI, 5, .inl (fun _ => 0)))] H := hP
  replace hD : va_D A [(a_this, .inr (4, [.int 0, .int 0, .ref q1, .ref q2, .ref q3, .null, .null, .null, .null, .null])), (q1, .inl (cI, 22, .inl (fun _ => 0))), (q2, .inl (cI, 22, .inl (fun _ => 0))), (q3, .inl (cI, 5, .inl (fun _ => 0))), (q4, .inl (cI, 5, .inl (fun _ => 0)))] := hD
  refine va_putF (D := D) (ci := 4) (v := .ref q4) (ty := .array .int) (C := RX4) (T := TX4) (N := 10) hx hb hts iX4 tyX4 tyX4_ok nmX4 hown hK hP hD hS 0 rfl rfl 5 (by decide) f21 (fun _ h9 => h9) rfl hin rfl (by decide +kernel) rfl rfl (Nat.le_of_ble_eq_true rfl) dX4_init_31 (fun H locs hP hD hS => ?_)
  replace hP : va_P D vwCl [(a_this, .inr (4, [.int 0, .int 0, .ref q1, .ref q2, .ref q3, .ref q4, .null, .null, .null, .null])), (q1, .inl (cI, 22, .inl (fun _ => 0))), (q2, .inl (cI, 22, .inl (fun _ => 0))), (q3, .inl (cI, 5, .inl (fun _ => 0))), (q4, .inl (cI, 5, .inl (fun _ => 0)))] H := hP
  replace hD : va_D A [(a_this, .inr (4, [.int 0, .int 0, .ref q1, .ref q2, .ref q3, .ref q4, .null, .null, .null, .null])), (q1, .inl (cI, 22, .inl (fun _ => 0))), (q2, .inl (cI, 22, .inl (fun _ => 0))), (q3, .inl (cI, 5, .inl (fun _ => 0))), (q4, .inl (cI, 5, .inl (fun _ => 0)))] := hD
  refine lv_aload_n hx hb dX4_init_34 rfl (lv_at hl 0 rfl) ?_
  refine lv_iconst (v := 5) hx hb dX4_init_35 (by decide) ?_
  refine va_newa (atype := .int) (ty := .int) (N' := 5) (n := 5) (a0 := (5, .inl (fun _ => 0))) hx hb acI rfl hK hP hD hS hA (fun cA => rfl) (by decide) (by decide) (by decide) (Nat.le_of_ble_eq_true rfl) (Nat.le_of_ble_eq_true rfl) dX4_init_36 (fun q5 cA H hK2 hP hD hS => ?_)
  obtain rfl : cI = cA := Option.some.inj ((hK.2 0 _ rfl).2.symm.trans (hK2.2 3 _ rfl).2)
  clear hK2
  replace hP : va_P D vwCl [(a_this, .inr (4, [.int 0, .int 0, .ref q1, .ref q2, .ref q3, .ref q4, .null, .null, .null, .null])), (q1, .inl (cI, 22, .inl (fun _ => 0))), (q2, .inl (cI, 22, .inl (fun _ => 0))), (q3, .inl (cI, 5, .inl (fun _ => 0))), (q4, .inl (cI, 5, .inl (fun _ => 0))), (q5, .inl (cI, 5, .inl (fun _ => 0)))] H := hP
  replace hD : va_D A [(a_this, .inr (4, [.int 0, .int 0, .ref q1, .ref q2, .ref q3, .ref q4, .null, .null, .null, .null])), (q1, .inl (cI, 22, .inl (fun _ => 0))), (q2, .inl (cI, 22, .inl (fun _ => 0))), (q3, .inl (cI, 5, .inl (fun _ => 0))), (q4, .inl (cI, 5, .inl (fun _ => 0))), (q5, .inl (cI, 5, .inl (fun _ => 0)))] := hD
  refine va_putF (D := D) (ci := 4) (v := .ref q5) (ty := .array .int) (C := RX4) (T := TX4) (N := 10) hx hb hts iX4 tyX4 tyX4_ok nmX4 hown hK hP hD hS 0 rfl rfl 6 (by decide) f24 (fun _ h9 => h9) rfl hin rfl (by decide +kernel) rfl rfl (Nat.le_of_ble_eq_true rfl) dX4_init_38 (fun H locs hP hD hS => ?_)
  replace hP : va_P D vwCl [(a_this, .inr (4, [.int 0, .int 0, .ref q1, .ref q2, .ref q3, .ref q4, .ref q5, .null, .null, .null])), (q1, .inl (cI, 22, .inl (fun _ => 0))), (q2, .inl (cI, 22, .inl (fun _ => 0))), (q3, .inl (cI, 5, .inl (fun _ => 0))), (q4, .inl (cI, 5, .inl (fun _ => 0))), (q5, .inl (cI, 5, .inl (fun _ => 0)))] H := hP
  replace hD : va_D A [(a_this, .inr (4, [.int 0, .int 0, .ref q1, .ref q2, .ref q3, .ref q4, .ref q5, .null, .null, .null])), (q1, .inl (cI, 22, .inl (fun _ => 0))), (q2, .inl (cI, 22, .inl (fun _ => 0))), (q3, .inl (cI, 5, .inl (fun _ => 0))), (q4, .inl (cI, 5, .inl (fun _ => 0))), (q5, .inl (cI, 5, .inl (fun _ => 0)))] := hD
  refine lv_aload_n hx hb dX4_init_41 rfl (lv_at hl 0 rfl) ?_
  refine lv_bipush (v := 30) hx hb dX4_init_42 (by decide) ?_
  refine va_newa (atype := .int) (ty := .int) (N' := 30) (n := 30) (a0 := (30, .inl (fun _ => 0))) hx hb acI rfl hK hP hD hS hA (fun cA => rfl) (by decide) (by decide) (by decide) (Nat.le_of_ble_eq_true rfl) (Nat.le_of_ble_eq_true rfl) dX4_init_44 (fun q6 cA H hK2 hP hD hS => ?_)
  obtain rfl : cI = cA := Option.some.inj ((hK.2 0 _ rfl).2.symm.trans (hK2.2 3 _ rfl).2)
  clear hK2
  replace hP : va_P D vwCl [(a_this, .inr (4, [.int 0, .int 0, .ref q1, .ref q2, .ref q3, .ref q4, .ref q5, .null, .null, .null])), (q1, .inl (cI, 22, .inl (fun _ => 0))), (q2, .inl (cI, 22, .inl (fun _ => 0))), (q3, .inl (cI, 5, .inl (fun _ => 0))), (q4, .inl (cI, 5, .inl (fun _ => 0))), (q5, .inl (cI, 5, .inl (fun _ => 0))), (q6, .inl (cI, 30, .inl (fun _ => 0)))] H := hP
  replace hD : va_D A [(a_this, .inr (4, [.int 0, .int 0, .ref q1, .ref q2, .ref q3, .ref q4, .ref q5, .null, .null, .null])), (q1, .inl (cI, 22, .inl (fun _ => 0))), (q2, .inl (cI, 22, .inl (fun _ => 0))), (q3, .inl (cI, 5, .inl (fun _ => 0))), (q4, .inl (cI, 5, .inl (fun _ => 0))), (q5, .inl (cI, 5, .inl (fun _ => 0))), (q6, .inl (cI, 30, .inl (fun _ => 0)))] := hD
  refine va_putF (D := D) (ci := 4) (v := .ref q6) (ty := .array .int) (C := RX4) (T := TX4) (N := 10) hx hb hts iX4 tyX4 tyX4_ok nmX4 hown hK hP hD hS 0 rfl rfl 7 (by decide) f27 (fun _ h9 => h9) rfl hin rfl (by decide +kernel) rfl rfl (Nat.le_of_ble_eq_true rfl) dX4_init_46 (fun H locs hP hD hS => ?_)
  replace hP : va_P D vwCl [(a_this, .inr (4, [.int 0, .int 0, .ref q1, .ref q2, .ref q3, .ref q4, .ref q5, .ref q6, .null, .null])), (q1, .inl (cI, 22, .inl (fun _ => 0))), (q2, .inl (cI, 22, .inl (fun _ => 0))), (q3, .inl (cI, 5, .inl (fun _ => 0))), (q4, .inl (cI, 5, .inl (fun _ => 0))), (q5, .inl (cI, 5, .inl (fun _ => 0))), (q6, .inl (cI, 30, .inl (fun _ => 0)))] H := hP
  replace hD : va_D A [(a_this, .inr (4, [.int 0, .int 0, .ref q1, .ref q2, .ref q3, .ref q4, .ref q5, .ref q6, .null, .null])), (q1, .inl (cI, 22, .inl (fun _ => 0))), (q2, .inl (cI, 22, .inl (fun _ => 0))), (q3, .inl (cI, 5, .inl (fun _ => 0))), (q4, .inl (cI, 5, .inl (fun _ => 0))), (q5, .inl (cI, 5, .inl (fun _ => 0))), (q6, .inl (cI, 30, .inl (fun _ => 0)))] := hD
  refine lv_aload_n hx hb dX4_init_49 rfl (lv_at hl 0 rfl) ?_
  refine lv_sipush (v := 132) hx hb dX4_init_50 (by decide) ?_
  refine va_newa (atype := .int) (ty := .int) (N' := 132) (n := 132) (a0 := (132, .inl (fun _ => 0))) hx hb acI rfl hK hP hD hS hA (fun cA => rfl) (by decide) (by decide) (by decide) (Nat.le_of_ble_eq_true rfl) (Nat.le_of_ble_eq_true rfl) dX4_init_53 (fun q7 cA H hK2 hP hD hS => ?_)
  obtain rfl : cI = cA := Option.some.inj ((hK.2 0 _ rfl).2.symm.trans (hK2.2 3 _ rfl).2)
  clear hK2
  replace hP : va_P D vwCl [(a_this, .inr (4, [.int 0, .int 0, .ref q1, .ref q2, .ref q3, .ref q4, .ref q5, .ref q6, .null, .null])), (q1, .inl (cI, 22, .inl (fun _ => 0))), (q2, .inl (cI, 22, .inl (fun _ => 0))), (q3, .inl (cI, 5, .inl (fun _ => 0))), (q4, .inl (cI, 5, .inl (fun _ => 0))), (q5, .inl (cI, 5, .inl (fun _ => 0))), (q6, .inl (cI, 30, .inl (fun _ => 0))), (q7, .inl (cI, 132, .inl (fun _ => 0)))] H := hP
  replace hD : va_D A [(a_this, .inr (4, [.int 0, .int 0, .ref q1, .ref q2, .ref q3, .ref q4, .ref q5, .ref q6, .null, .null])), (q1, .inl (cI, 22, .inl (fun _ => 0))), (q2, .inl (cI, 22, .inl (fun _ => 0))), (q3, .inl (cI, 5, .inl (fun _ => 0))), (q4, .inl (cI, 5, .inl (fun _ => 0))), (q5, .inl (cI, 5, .inl (fun _ => 0))), (q6, .inl (cI, 30, .inl (fun _ => 0))), (q7, .inl (cI, 132, .inl (fun _ => 0)))] := hD
  refine va_putF (D := D) (ci := 4) (v := .ref q7) (ty := .array .int) (C := RX4) (T := TX4) (N := 10) hx hb hts iX4 tyX4 tyX4_ok nmX4 hown hK hP hD hS 0 rfl rfl 8 (by decide) f30 (fun _ h9 => h9) rfl hin rfl (by decide +kernel) rfl rfl (Nat.le_of_ble_eq_true rfl) dX4_init_55 (fun H locs hP hD hS => ?_)
  replace hP : va_P D vwCl [(a_this, .inr (4, [.int 0, .int 0, .ref q1, .ref q2, .ref q3, .ref q4, .ref q5, .ref q6, .ref q7, .null])), (q1, .inl (cI, 22, .inl (fun _ => 0))), (q2, .inl (cI, 22, .inl (fun _ => 0))), (q3, .inl (cI, 5, .inl (fun _ => 0))), (q4, .inl (cI, 5, .inl (fun _ => 0))), (q5, .inl (cI, 5, .inl (fun _ => 0))), (q6, .inl (cI, 30, .inl (fun _ => 0))), (q7, .inl (cI, 132, .inl (fun _ => 0)))] H := hP
  replace hD : va_D A [(a_this, .inr (4, [.int 0, .int 0, .ref q1, .ref q2, .ref q3, .ref q4, .ref q5, .ref q6, .ref q7, .null])), (q1, .inl (cI, 22, .inl (fun _ => 0))), (q2, .inl (cI, 22, .inl (fun _ => 0))), (q3, .inl (cI, 5, .inl (fun _ => 0))), (q4, .inl (cI, 5, .inl (fun _ => 0))), (q5, .inl (cI, 5, .inl (fun _ => 0))), (q6, .inl (cI, 30, .inl (fun _ => 0))), (q7, .inl (cI, 132, .inl (fun _ => 0)))] := hD
  refine lv_aload_n hx hb dX4_init_58 rfl (lv_at hl 0 rfl) ?_
  refine lv_sipush (v := 132) hx hb dX4_init_59 (by decide) ?_
  refine va_newa (atype := .int) (ty := .int) (N' := 132) (n := 132) (a0 := (132, .inl (fun _ => 0))) hx hb acI rfl hK hP hD hS hA (fun cA => rfl) (by decide) (by decide) (by decide) (Nat.le_of_ble_eq_true rfl) (Nat.le_of_ble_eq_true rfl) dX4_init_62 (fun q8 cA H hK2 hP hD hS => ?_)
  obtain rfl : cI = cA := Option.some.inj ((hK.2 0 _ rfl).2.symm.trans (hK2.2 3 _ rfl).2)
  clear hK2
  replace hP : va_P D vwCl [(a_this, .inr (4, [.int 0, .int 0, .ref q1, .ref q2, .ref q3, .ref q4, .ref q5, .ref q6, .ref q7, .null])), (q1, .inl (cI, 22, .inl (fun _ => 0))), (q2, .inl (cI, 22, .inl (fun _ => 0))), (q3, .inl (cI, 5, .inl (fun _ => 0))), (q4, .inl (cI, 5, .inl (fun _ => 0))), (q5, .inl (cI, 5, .inl (fun _ => 0))), (q6, .inl (cI, 30, .inl (fun _ => 0))), (q7, .inl (cI, 132, .inl (fun _ => 0))), (q8, .inl (cI, 132, .inl (fun _ => 0)))] H := hP
  replace hD : va_D A [(a_this, .inr (4, [.int 0, .int 0, .ref q1, .ref q2, .ref q3, .ref q4, .ref q5, .ref q6, .ref q7, .null])), (q1, .inl (cI, 22, .inl (fun _ => 0))), (q2, .inl (cI, 22, .inl (fun _ => 0))), (q3, .inl (cI, 5, .inl (fun _ => 0))), (q4, .inl (cI, 5, .inl (fun _ => 0))), (q5, .inl (cI, 5, .inl (fun _ => 0))), (q6, .inl (cI, 30, .inl (fun _ => 0))), (q7, .inl (cI, 132, .inl (fun _ => 0))), (q8, .inl (cI, 132, .inl (fun _ => 0)))] := hD
  refine va_putF (D := D) (ci := 4) (v := .ref q8) (ty := .array .int) (C := RX4) (T := TX4) (N := 10) hx hb hts iX4 tyX4 tyX4_ok nmX4 hown hK hP hD hS 0 rfl rfl 9 (by decide) f33 (fun _ h9 => h9) rfl hin rfl (by decide +kernel) rfl rfl (Nat.le_of_ble_eq_true rfl) dX4_init_64 (fun H locs hP hD hS => ?_)
  replace hP : va_P D vwCl [(a_this, .inr (4, [.int 0, .int 0, .ref q1, .ref q2, .ref q3, .ref q4, .ref q5, .ref q6, .ref q7, .ref q8])), (q1, .inl (cI, 22, .inl (fun _ => 0))), (q2, .inl (cI, 22, .inl (fun _ => 0))), (q3, .inl (cI, 5, .inl (fun _ => 0))), (q4, .inl (cI, 5, .inl (fun _ => 0))), (q5, .inl (cI, 5, .inl (fun _ => 0))), (q6, .inl (cI, 30, .inl (fun _ => 0))), (q7, .inl (cI, 132, .inl (fun _ => 0))), (q8, .inl (cI, 132, .inl (fun _ => 0)))] H := hP
  replace hD : va_D A [(a_this, .inr (4, [.int 0, .int 0, .ref q1, .ref q2, .ref q3, .ref q4, .ref q5, .ref q6, .ref q7, .ref q8])), (q1, .inl (cI, 22, .inl (fun _ => 0))), (q2, .inl (cI, 22, .inl (fun _ => 0))), (q3, .inl (cI, 5, .inl (fun _ => 0))), (q4, .inl (cI, 5, .inl (fun _ => 0))), (q5, .inl (cI, 5, .inl (fun _ => 0))), (q6, .inl (cI, 30, .inl (fun _ => 0))), (q7, .inl (cI, 132, .inl (fun _ => 0))), (q8, .inl (cI, 132, .inl (fun _ => 0)))] := hD
  exact ret (fun k => ([q1, q2, q3, q4, q5, q6, q7, q8] : List Nat).getD k 0) _ _ _ 67 dX4_init_67 trivial hP hD hS
abbrev rm_X0_init : Room := { frames := 1, cells := 6, slots := 1560, locals := 12 }
def wi_X0_init (cI cZ cJ : ClassId) (a_this : Nat) (u : Nat → Nat) : va_W := [(a_this, .inr (0, [.int 0, .ref (u 0), .ref (u 1), .ref (u 2), .ref (u 3), .ref (u 4), .ref (u 5)])), ((u 0), .inl (cI, 64, .inl (fun _ => 0))), ((u 1), .inl (cI, 1408, .inl (fun _ => 0))), ((u 2), .inl (cI, 22, .inl (fun _ => 0))), ((u 3), .inl (cI, 22, .inl (fun _ => 0))), ((u 4), .inl (cI, 22, .inl (fun _ => 0))), ((u 5), .inl (cI, 22, .inl (fun _ => 0)))]
set_option maxHeartbeats 4000000 in
set_option maxRecDepth 100000 in
theorem ci_X0_init (l : Launch) (D : va_G) (cI cZ cJ : ClassId) (tb : Nat → Nat) (a_this : Nat) (sz : Nat) : Met l yX0_init wsX0_init rm_X0_init (va_Pc [.ref a_this] (q_pre D cI cZ cJ tb [(a_this, .inr (0, [.int 0, .null, .null, .null, .null, .null, .null]))] sz)) (va_Qv (fun _ : Nat → Nat => True) (fun u => q_post D cI cZ cJ (va_A [(a_this, .inr (0, [.int 0, .null, .null, .null, .null, .null, .null]))] sz) (wi_X0_init cI cZ cJ a_this u)) (va_A [(a_this, .inr (0, [.int 0, .null, .null, .null, .null, .null, .null]))] sz)) 6 1560 (va_A [(a_this, .inr (0, [.int 0, .null, .null, .null, .null, .null, .null]))] sz) := by
  refine q_walkc (cc := cX0_init) (maxL := 1) (own := RX0) (wd := fun (u : Nat → Nat) => (wi_X0_init cI cZ cJ a_this u)) (by decide) rfl rfl rfl (Nat.le_of_ble_eq_true rfl) ?_
  intro p e s m below meth c Q A ls C hA ret hin hP hD hS hK hSt hNw hl
  obtain ⟨hx, hb, hml, hown, hts⟩ := id C
  replace hl : lv_has ls 1 [(0, .ref a_this)] := hl
  have ml3 := hts (.methodLink RX0 3 objectInit) (by decide +kernel)
  have imO := hts (.instanceMethod objectInit) (by decide +kernel)
  have acI := hts (.arrayClass .int) (by decide +kernel)
  have f9 := hts (.fieldLink RX0 9 "NetSearch$Album" "places" "[I") (by decide +kernel)
  have iX0 : ∀ w ∈ wsX00, w ∈ wsX0_init := by decide +kernel
  have f15 := hts (.fieldLink RX0 15 "NetSearch$Album" "numbers" "[I") (by decide +kernel)
  have f18 := hts (.fieldLink RX0 18 "NetSearch$Album" "imageX" "[I") (by decide +kernel)
  have f21 := hts (.fieldLink RX0 21 "NetSearch$Album" "imageY" "[I") (by decide +kernel)
  have f24 := hts (.fieldLink RX0 24 "NetSearch$Album" "image" "[I") (by decide +kernel)
  have f27 := hts (.fieldLink RX0 27 "NetSearch$Album" "leastImage" "[I") (by decide +kernel)
  refine lv_aload_n hx hb dX0_init_0 rfl (lv_at hl 0 rfl) ?_
  refine W.objInit hx hb hown ml3 imO (hts _ (List.mem_of_getElem? (i := 3) rfl)) rfl (by rw [hml]; exact hl.1) rfl dX0_init_1 (Nat.le_of_ble_eq_true rfl) (Nat.le_of_ble_eq_true rfl) ?_
  refine W.eq (g2 := F0 m 4 ls []) rfl ?_
  refine lv_aload_n hx hb dX0_init_4 rfl (lv_at hl 0 rfl) ?_
  refine lv_bipush (v := 64) hx hb dX0_init_5 (by decide) ?_
  refine va_newa (atype := .int) (ty := .int) (N' := 64) (n := 64) (a0 := (64, .inl (fun _ => 0))) hx hb acI rfl hK hP hD hS hA (fun cA => rfl) (by decide) (by decide) (by decide) (Nat.le_of_ble_eq_true rfl) (Nat.le_of_ble_eq_true rfl) dX0_init_7 (fun q1 cA H hK2 hP hD hS => ?_)
  obtain rfl : cI = cA := Option.some.inj ((hK.2 0 _ rfl).2.symm.trans (hK2.2 3 _ rfl).2)
  clear hK2
  replace hP : va_P D vwCl [(a_this, .inr (0, [.int 0, .null, .null, .null, .null, .null, .null])), (q1, .inl (cI, 64, .inl (fun _ => 0)))] H := hP
  replace hD : va_D A [(a_this, .inr (0, [.int 0, .null, .null, .null, .null, .null, .null])), (q1, .inl (cI, 64, .inl (fun _ => 0)))] := hD
  refine va_putF (D := D) (ci := 0) (v := .ref q1) (ty := .array .int) (C := RX0) (T := TX0) (N := 7) hx hb hts iX0 tyX0 tyX0_ok nmX0 hown hK hP hD hS 0 rfl rfl 1 (by decide) f9 (fun _ h9 => h9) rfl hin rfl (by decide +kernel) rfl rfl (Nat.le_of_ble_eq_true rfl) dX0_init_9 (fun H locs hP hD hS => ?_)
  replace hP : va_P D vwCl [(a_this, .inr (0, [.int 0, .ref q1, .null, .null, .null, .null, .null])), (q1, .inl (cI, 64, .inl (fun _ => 0)))] H := hP
  replace hD : va_D A [(a_this, .inr (0, [.int 0, .ref q1, .null, .null, .null, .null, .null])), (q1, .inl (cI, 64, .inl (fun _ => 0)))] := hD
  refine lv_aload_n hx hb dX0_init_12 rfl (lv_at hl 0 rfl) ?_
  refine lv_sipush (v := 1408) hx hb dX0_init_13 (by decide) ?_
  refine va_newa (atype := .int) (ty := .int) (N' := 1408) (n := 1408) (a0 := (1408, .inl (fun _ => 0))) hx hb acI rfl hK hP hD hS hA (fun cA => rfl) (by decide) (by decide) (by decide) (Nat.le_of_ble_eq_true rfl) (Nat.le_of_ble_eq_true rfl) dX0_init_16 (fun q2 cA H hK2 hP hD hS => ?_)
  obtain rfl : cI = cA := Option.some.inj ((hK.2 0 _ rfl).2.symm.trans (hK2.2 3 _ rfl).2)
  clear hK2
  replace hP : va_P D vwCl [(a_this, .inr (0, [.int 0, .ref q1, .null, .null, .null, .null, .null])), (q1, .inl (cI, 64, .inl (fun _ => 0))), (q2, .inl (cI, 1408, .inl (fun _ => 0)))] H := hP
  replace hD : va_D A [(a_this, .inr (0, [.int 0, .ref q1, .null, .null, .null, .null, .null])), (q1, .inl (cI, 64, .inl (fun _ => 0))), (q2, .inl (cI, 1408, .inl (fun _ => 0)))] := hD
  refine va_putF (D := D) (ci := 0) (v := .ref q2) (ty := .array .int) (C := RX0) (T := TX0) (N := 7) hx hb hts iX0 tyX0 tyX0_ok nmX0 hown hK hP hD hS 0 rfl rfl 2 (by decide) f15 (fun _ h9 => h9) rfl hin rfl (by decide +kernel) rfl rfl (Nat.le_of_ble_eq_true rfl) dX0_init_18 (fun H locs hP hD hS => ?_)
  replace hP : va_P D vwCl [(a_this, .inr (0, [.int 0, .ref q1, .ref q2, .null, .null, .null, .null])), (q1, .inl (cI, 64, .inl (fun _ => 0))), (q2, .inl (cI, 1408, .inl (fun _ => 0)))] H := hP
  replace hD : va_D A [(a_this, .inr (0, [.int 0, .ref q1, .ref q2, .null, .null, .null, .null])), (q1, .inl (cI, 64, .inl (fun _ => 0))), (q2, .inl (cI, 1408, .inl (fun _ => 0)))] := hD
  refine lv_aload_n hx hb dX0_init_21 rfl (lv_at hl 0 rfl) ?_
  refine lv_bipush (v := 22) hx hb dX0_init_22 (by decide) ?_
  refine va_newa (atype := .int) (ty := .int) (N' := 22) (n := 22) (a0 := (22, .inl (fun _ => 0))) hx hb acI rfl hK hP hD hS hA (fun cA => rfl) (by decide) (by decide) (by decide) (Nat.le_of_ble_eq_true rfl) (Nat.le_of_ble_eq_true rfl) dX0_init_24 (fun q3 cA H hK2 hP hD hS => ?_)
  obtain rfl : cI = cA := Option.some.inj ((hK.2 0 _ rfl).2.symm.trans (hK2.2 3 _ rfl).2)
  clear hK2
  replace hP : va_P D vwCl [(a_this, .inr (0, [.int 0, .ref q1, .ref q2, .null, .null, .null, .null])), (q1, .inl (cI, 64, .inl (fun _ => 0))), (q2, .inl (cI, 1408, .inl (fun _ => 0))), (q3, .inl (cI, 22, .inl (fun _ => 0)))] H := hP
  replace hD : va_D A [(a_this, .inr (0, [.int 0, .ref q1, .ref q2, .null, .null, .null, .null])), (q1, .inl (cI, 64, .inl (fun _ => 0))), (q2, .inl (cI, 1408, .inl (fun _ => 0))), (q3, .inl (cI, 22, .inl (fun _ => 0)))] := hD
  refine va_putF (D := D) (ci := 0) (v := .ref q3) (ty := .array .int) (C := RX0) (T := TX0) (N := 7) hx hb hts iX0 tyX0 tyX0_ok nmX0 hown hK hP hD hS 0 rfl rfl 3 (by decide) f18 (fun _ h9 => h9) rfl hin rfl (by decide +kernel) rfl rfl (Nat.le_of_ble_eq_true rfl) dX0_init_26 (fun H locs hP hD hS => ?_)
  replace hP : va_P D vwCl [(a_this, .inr (0, [.int 0, .ref q1, .ref q2, .ref q3, .null, .null, .null])), (q1, .inl (cI, 64, .inl (fun _ => 0))), (q2, .inl (cI, 1408, .inl (fun _ => 0))), (q3, .inl (cI, 22, .inl (fun _ => 0)))] H := hP
  replace hD : va_D A [(a_this, .inr (0, [.int 0, .ref q1, .ref q2, .ref q3, .null, .null, .null])), (q1, .inl (cI, 64, .inl (fun _ => 0))), (q2, .inl (cI, 1408, .inl (fun _ => 0))), (q3, .inl (cI, 22, .inl (fun _ => 0)))] := hD
  refine lv_aload_n hx hb dX0_init_29 rfl (lv_at hl 0 rfl) ?_
  refine lv_bipush (v := 22) hx hb dX0_init_30 (by decide) ?_
  refine va_newa (atype := .int) (ty := .int) (N' := 22) (n := 22) (a0 := (22, .inl (fun _ => 0))) hx hb acI rfl hK hP hD hS hA (fun cA => rfl) (by decide) (by decide) (by decide) (Nat.le_of_ble_eq_true rfl) (Nat.le_of_ble_eq_true rfl) dX0_init_32 (fun q4 cA H hK2 hP hD hS => ?_)
  obtain rfl : cI = cA := Option.some.inj ((hK.2 0 _ rfl).2.symm.trans (hK2.2 3 _ rfl).2)
  clear hK2
  replace hP : va_P D vwCl [(a_this, .inr (0, [.int 0, .ref q1, .ref q2, .ref q3, .null, .null, .null])), (q1, .inl (cI, 64, .inl (fun _ => 0))), (q2, .inl (cI, 1408, .inl (fun _ => 0))), (q3, .inl (cI, 22, .inl (fun _ => 0))), (q4, .inl (cI, 22, .inl (fun _ => 0)))] H := hP
  replace hD : va_D A [(a_this, .inr (0, [.int 0, .ref q1, .ref q2, .ref q3, .null, .null, .null])), (q1, .inl (cI, 64, .inl (fun _ => 0))), (q2, .inl (cI, 1408, .inl (fun _ => 0))), (q3, .inl (cI, 22, .inl (fun _ => 0))), (q4, .inl (cI, 22, .inl (fun _ => 0)))] := hD
  refine va_putF (D := D) (ci := 0) (v := .ref q4) (ty := .array .int) (C := RX0) (T := TX0) (N := 7) hx hb hts iX0 tyX0 tyX0_ok nmX0 hown hK hP hD hS 0 rfl rfl 4 (by decide) f21 (fun _ h9 => h9) rfl hin rfl (by decide +kernel) rfl rfl (Nat.le_of_ble_eq_true rfl) dX0_init_34 (fun H locs hP hD hS => ?_)
  replace hP : va_P D vwCl [(a_this, .inr (0, [.int 0, .ref q1, .ref q2, .ref q3, .ref q4, .null, .null])), (q1, .inl (cI, 64, .inl (fun _ => 0))), (q2, .inl (cI, 1408, .inl (fun _ => 0))), (q3, .inl (cI, 22, .inl (fun _ => 0))), (q4, .inl (cI, 22, .inl (fun _ => 0)))] H := hP
  replace hD : va_D A [(a_this, .inr (0, [.int 0, .ref q1, .ref q2, .ref q3, .ref q4, .null, .null])), (q1, .inl (cI, 64, .inl (fun _ => 0))), (q2, .inl (cI, 1408, .inl (fun _ => 0))), (q3, .inl (cI, 22, .inl (fun _ => 0))), (q4, .inl (cI, 22, .inl (fun _ => 0)))] := hD
  refine lv_aload_n hx hb dX0_init_37 rfl (lv_at hl 0 rfl) ?_
  refine lv_bipush (v := 22) hx hb dX0_init_38 (by decide) ?_
  refine va_newa (atype := .int) (ty := .int) (N' := 22) (n := 22) (a0 := (22, .inl (fun _ => 0))) hx hb acI rfl hK hP hD hS hA (fun cA => rfl) (by decide) (by decide) (by decide) (Nat.le_of_ble_eq_true rfl) (Nat.le_of_ble_eq_true rfl) dX0_init_40 (fun q5 cA H hK2 hP hD hS => ?_)
  obtain rfl : cI = cA := Option.some.inj ((hK.2 0 _ rfl).2.symm.trans (hK2.2 3 _ rfl).2)
  clear hK2
  replace hP : va_P D vwCl [(a_this, .inr (0, [.int 0, .ref q1, .ref q2, .ref q3, .ref q4, .null, .null])), (q1, .inl (cI, 64, .inl (fun _ => 0))), (q2, .inl (cI, 1408, .inl (fun _ => 0))), (q3, .inl (cI, 22, .inl (fun _ => 0))), (q4, .inl (cI, 22, .inl (fun _ => 0))), (q5, .inl (cI, 22, .inl (fun _ => 0)))] H := hP
  replace hD : va_D A [(a_this, .inr (0, [.int 0, .ref q1, .ref q2, .ref q3, .ref q4, .null, .null])), (q1, .inl (cI, 64, .inl (fun _ => 0))), (q2, .inl (cI, 1408, .inl (fun _ => 0))), (q3, .inl (cI, 22, .inl (fun _ => 0))), (q4, .inl (cI, 22, .inl (fun _ => 0))), (q5, .inl (cI, 22, .inl (fun _ => 0)))] := hD
  refine va_putF (D := D) (ci := 0) (v := .ref q5) (ty := .array .int) (C := RX0) (T := TX0) (N := 7) hx hb hts iX0 tyX0 tyX0_ok nmX0 hown hK hP hD hS 0 rfl rfl 5 (by decide) f24 (fun _ h9 => h9) rfl hin rfl (by decide +kernel) rfl rfl (Nat.le_of_ble_eq_true rfl) dX0_init_42 (fun H locs hP hD hS => ?_)
  replace hP : va_P D vwCl [(a_this, .inr (0, [.int 0, .ref q1, .ref q2, .ref q3, .ref q4, .ref q5, .null])), (q1, .inl (cI, 64, .inl (fun _ => 0))), (q2, .inl (cI, 1408, .inl (fun _ => 0))), (q3, .inl (cI, 22, .inl (fun _ => 0))), (q4, .inl (cI, 22, .inl (fun _ => 0))), (q5, .inl (cI, 22, .inl (fun _ => 0)))] H := hP
  replace hD : va_D A [(a_this, .inr (0, [.int 0, .ref q1, .ref q2, .ref q3, .ref q4, .ref q5, .null])), (q1, .inl (cI, 64, .inl (fun _ => 0))), (q2, .inl (cI, 1408, .inl (fun _ => 0))), (q3, .inl (cI, 22, .inl (fun _ => 0))), (q4, .inl (cI, 22, .inl (fun _ => 0))), (q5, .inl (cI, 22, .inl (fun _ => 0)))] := hD
  refine lv_aload_n hx hb dX0_init_45 rfl (lv_at hl 0 rfl) ?_
  refine lv_bipush (v := 22) hx hb dX0_init_46 (by decide) ?_
  refine va_newa (atype := .int) (ty := .int) (N' := 22) (n := 22) (a0 := (22, .inl (fun _ => 0))) hx hb acI rfl hK hP hD hS hA (fun cA => rfl) (by decide) (by decide) (by decide) (Nat.le_of_ble_eq_true rfl) (Nat.le_of_ble_eq_true rfl) dX0_init_48 (fun q6 cA H hK2 hP hD hS => ?_)
  obtain rfl : cI = cA := Option.some.inj ((hK.2 0 _ rfl).2.symm.trans (hK2.2 3 _ rfl).2)
  clear hK2
  replace hP : va_P D vwCl [(a_this, .inr (0, [.int 0, .ref q1, .ref q2, .ref q3, .ref q4, .ref q5, .null])), (q1, .inl (cI, 64, .inl (fun _ => 0))), (q2, .inl (cI, 1408, .inl (fun _ => 0))), (q3, .inl (cI, 22, .inl (fun _ => 0))), (q4, .inl (cI, 22, .inl (fun _ => 0))), (q5, .inl (cI, 22, .inl (fun _ => 0))), (q6, .inl (cI, 22, .inl (fun _ => 0)))] H := hP
  replace hD : va_D A [(a_this, .inr (0, [.int 0, .ref q1, .ref q2, .ref q3, .ref q4, .ref q5, .null])), (q1, .inl (cI, 64, .inl (fun _ => 0))), (q2, .inl (cI, 1408, .inl (fun _ => 0))), (q3, .inl (cI, 22, .inl (fun _ => 0))), (q4, .inl (cI, 22, .inl (fun _ => 0))), (q5, .inl (cI, 22, .inl (fun _ => 0))), (q6, .inl (cI, 22, .inl (fun _ => 0)))] := hD
  refine va_putF (D := D) (ci := 0) (v := .ref q6) (ty := .array .int) (C := RX0) (T := TX0) (N := 7) hx hb hts iX0 tyX0 tyX0_ok nmX0 hown hK hP hD hS 0 rfl rfl 6 (by decide) f27 (fun _ h9 => h9) rfl hin rfl (by decide +kernel) rfl rfl (Nat.le_of_ble_eq_true rfl) dX0_init_50 (fun H locs hP hD hS => ?_)
  replace hP : va_P D vwCl [(a_this, .inr (0, [.int 0, .ref q1, .ref q2, .ref q3, .ref q4, .ref q5, .ref q6])), (q1, .inl (cI, 64, .inl (fun _ => 0))), (q2, .inl (cI, 1408, .inl (fun _ => 0))), (q3, .inl (cI, 22, .inl (fun _ => 0))), (q4, .inl (cI, 22, .inl (fun _ => 0))), (q5, .inl (cI, 22, .inl (fun _ => 0))), (q6, .inl (cI, 22, .inl (fun _ => 0)))] H := hP
  replace hD : va_D A [(a_this, .inr (0, [.int 0, .ref q1, .ref q2, .ref q3, .ref q4, .ref q5, .ref q6])), (q1, .inl (cI, 64, .inl (fun _ => 0))), (q2, .inl (cI, 1408, .inl (fun _ => 0))), (q3, .inl (cI, 22, .inl (fun _ => 0))), (q4, .inl (cI, 22, .inl (fun _ => 0))), (q5, .inl (cI, 22, .inl (fun _ => 0))), (q6, .inl (cI, 22, .inl (fun _ => 0)))] := hD
  exact ret (fun k => ([q1, q2, q3, q4, q5, q6] : List Nat).getD k 0) _ _ _ 53 dX0_init_53 trivial hP hD hS
abbrev rm_X1_init : Room := { frames := 1, cells := 2, slots := 44, locals := 12 }
def wi_X1_init (cI cZ cJ : ClassId) (a_this : Nat) (u : Nat → Nat) : va_W := [(a_this, .inr (1, [.int 0, .int 0, .int 0, .int 0, .ref (u 0), .ref (u 1)])), ((u 0), .inl (cI, 22, .inl (fun _ => 0))), ((u 1), .inl (cI, 22, .inl (fun _ => 0)))]
set_option maxHeartbeats 4000000 in
set_option maxRecDepth 100000 in
theorem ci_X1_init (l : Launch) (D : va_G) (cI cZ cJ : ClassId) (tb : Nat → Nat) (a_this : Nat) (sz : Nat) : Met l yX1_init wsX1_init rm_X1_init (va_Pc [.ref a_this] (q_pre D cI cZ cJ tb [(a_this, .inr (1, [.int 0, .int 0, .int 0, .int 0, .null, .null]))] sz)) (va_Qv (fun _ : Nat → Nat => True) (fun u => q_post D cI cZ cJ (va_A [(a_this, .inr (1, [.int 0, .int 0, .int 0, .int 0, .null, .null]))] sz) (wi_X1_init cI cZ cJ a_this u)) (va_A [(a_this, .inr (1, [.int 0, .int 0, .int 0, .int 0, .null, .null]))] sz)) 2 44 (va_A [(a_this, .inr (1, [.int 0, .int 0, .int 0, .int 0, .null, .null]))] sz) := by
  refine q_walkc (cc := cX1_init) (maxL := 1) (own := RX1) (wd := fun (u : Nat → Nat) => (wi_X1_init cI cZ cJ a_this u)) (by decide) rfl rfl rfl (Nat.le_of_ble_eq_true rfl) ?_
  intro p e s m below meth c Q A ls C hA ret hin hP hD hS hK hSt hNw hl
  obtain ⟨hx, hb, hml, hown, hts⟩ := id C
  replace hl : lv_has ls 1 [(0, .ref a_this)] := hl
  have ml3 := hts (.methodLink RX1 3 objectInit) (by decide +kernel)
  have imO := hts (.instanceMethod objectInit) (by decide +kernel)
  have acI := hts (.arrayClass .int) (by decide +kernel)
  have f9 := hts (.fieldLink RX1 9 "NetSearch$BestNet" "x" "[I") (by decide +kernel)
  have iX1 : ∀ w ∈ wsX10, w ∈ wsX1_init := by decide +kernel
  have f15 := hts (.fieldLink RX1 15 "NetSearch$BestNet" "y" "[I") (by decide +kernel)
  refine lv_aload_n hx hb dX1_init_0 rfl (lv_at hl 0 rfl) ?_
  refine W.objInit hx hb hown ml3 imO (hts _ (List.mem_of_getElem? (i := 3) rfl)) rfl (by rw [hml]; exact hl.1) rfl dX1_init_1 (Nat.le_of_ble_eq_true rfl) (Nat.le_of_ble_eq_true rfl) ?_
  refine W.eq (g2 := F0 m 4 ls []) rfl ?_
  refine lv_aload_n hx hb dX1_init_4 rfl (lv_at hl 0 rfl) ?_
  refine lv_bipush (v := 22) hx hb dX1_init_5 (by decide) ?_
  refine va_newa (atype := .int) (ty := .int) (N' := 22) (n := 22) (a0 := (22, .inl (fun _ => 0))) hx hb acI rfl hK hP hD hS hA (fun cA => rfl) (by decide) (by decide) (by decide) (Nat.le_of_ble_eq_true rfl) (Nat.le_of_ble_eq_true rfl) dX1_init_7 (fun q1 cA H hK2 hP hD hS => ?_)
  obtain rfl : cI = cA := Option.some.inj ((hK.2 0 _ rfl).2.symm.trans (hK2.2 3 _ rfl).2)
  clear hK2
  replace hP : va_P D vwCl [(a_this, .inr (1, [.int 0, .int 0, .int 0, .int 0, .null, .null])), (q1, .inl (cI, 22, .inl (fun _ => 0)))] H := hP
  replace hD : va_D A [(a_this, .inr (1, [.int 0, .int 0, .int 0, .int 0, .null, .null])), (q1, .inl (cI, 22, .inl (fun _ => 0)))] := hD
  refine va_putF (D := D) (ci := 1) (v := .ref q1) (ty := .array .int) (C := RX1) (T := TX1) (N := 6) hx hb hts iX1 tyX1 tyX1_ok nmX1 hown hK hP hD hS 0 rfl rfl 4 (by decide) f9 (fun _ h9 => h9) rfl hin rfl (by decide +kernel) rfl rfl (Nat.le_of_ble_eq_true rfl) dX1_init_9 (fun H locs hP hD hS => ?_)
  replace hP : va_P D vwCl [(a_this, .inr (1, [.int 0, .int 0, .int 0, .int 0, .ref q1, .null])), (q1, .inl (cI, 22, .inl (fun _ => 0)))] H := hP
  replace hD : va_D A [(a_this, .inr (1, [.int 0, .int 0, .int 0, .int 0, .ref q1, .null])), (q1, .inl (cI, 22, .inl (fun _ => 0)))] := hD
  refine lv_aload_n hx hb dX1_init_12 rfl (lv_at hl 0 rfl) ?_
  refine lv_bipush (v := 22) hx hb dX1_init_13 (by decide) ?_
  refine va_newa (atype := .int) (ty := .int) (N' := 22) (n := 22) (a0 := (22, .inl (fun _ => 0))) hx hb acI rfl hK hP hD hS hA (fun cA => rfl) (by decide) (by decide) (by decide) (Nat.le_of_ble_eq_true rfl) (Nat.le_of_ble_eq_true rfl) dX1_init_15 (fun q2 cA H hK2 hP hD hS => ?_)
  obtain rfl : cI = cA := Option.some.inj ((hK.2 0 _ rfl).2.symm.trans (hK2.2 3 _ rfl).2)
  clear hK2
  replace hP : va_P D vwCl [(a_this, .inr (1, [.int 0, .int 0, .int 0, .int 0, .ref q1, .null])), (q1, .inl (cI, 22, .inl (fun _ => 0))), (q2, .inl (cI, 22, .inl (fun _ => 0)))] H := hP
  replace hD : va_D A [(a_this, .inr (1, [.int 0, .int 0, .int 0, .int 0, .ref q1, .null])), (q1, .inl (cI, 22, .inl (fun _ => 0))), (q2, .inl (cI, 22, .inl (fun _ => 0)))] := hD
  refine va_putF (D := D) (ci := 1) (v := .ref q2) (ty := .array .int) (C := RX1) (T := TX1) (N := 6) hx hb hts iX1 tyX1 tyX1_ok nmX1 hown hK hP hD hS 0 rfl rfl 5 (by decide) f15 (fun _ h9 => h9) rfl hin rfl (by decide +kernel) rfl rfl (Nat.le_of_ble_eq_true rfl) dX1_init_17 (fun H locs hP hD hS => ?_)
  replace hP : va_P D vwCl [(a_this, .inr (1, [.int 0, .int 0, .int 0, .int 0, .ref q1, .ref q2])), (q1, .inl (cI, 22, .inl (fun _ => 0))), (q2, .inl (cI, 22, .inl (fun _ => 0)))] H := hP
  replace hD : va_D A [(a_this, .inr (1, [.int 0, .int 0, .int 0, .int 0, .ref q1, .ref q2])), (q1, .inl (cI, 22, .inl (fun _ => 0))), (q2, .inl (cI, 22, .inl (fun _ => 0)))] := hD
  exact ret (fun k => ([q1, q2] : List Nat).getD k 0) _ _ _ 20 dX1_init_20 trivial hP hD hS
abbrev rm_X5_init : Room := { frames := 1, cells := 1, slots := 441, locals := 12 }
def wi_X5_init (cI cZ cJ : ClassId) (a_this : Nat) (a_p1 : Nat) (u : Nat → Nat) : va_W := [(a_this, .inr (5, [.ref a_p1, .ref (u 0)])), ((u 0), .inl (cJ, 441, .inr (.inl (fun _ => 0))))]
set_option maxHeartbeats 4000000 in
set_option maxRecDepth 100000 in
theorem ci_X5_init (l : Launch) (D : va_G) (cI cZ cJ : ClassId) (tb : Nat → Nat) (a_this : Nat) (a_p1 : Nat) (sz : Nat) : Met l yX5_init wsX5_init rm_X5_init (va_Pc [.ref a_this, .ref a_p1] (q_pre D cI cZ cJ tb [(a_this, .inr (5, [.null, .null]))] sz)) (va_Qv (fun _ : Nat → Nat => True) (fun u => q_post D cI cZ cJ (va_A [(a_this, .inr (5, [.null, .null]))] sz) (wi_X5_init cI cZ cJ a_this a_p1 u)) (va_A [(a_this, .inr (5, [.null, .null]))] sz)) 1 441 (va_A [(a_this, .inr (5, [.null, .null]))] sz) := by
  refine q_walkc (cc := cX5_init) (maxL := 2) (own := RX5) (wd := fun (u : Nat → Nat) => (wi_X5_init cI cZ cJ a_this a_p1 u)) (by decide) rfl rfl rfl (Nat.le_of_ble_eq_true rfl) ?_
  intro p e s m below meth c Q A ls C hA ret hin hP hD hS hK hSt hNw hl
  obtain ⟨hx, hb, hml, hown, hts⟩ := id C
  replace hl : lv_has ls 2 [(0, .ref a_this), (1, .ref a_p1)] := hl
  have ml3 := hts (.methodLink RX5 3 objectInit) (by decide +kernel)
  have imO := hts (.instanceMethod objectInit) (by decide +kernel)
  have acJ := hts (.arrayClass .long) (by decide +kernel)
  have f11 := hts (.fieldLink RX5 11 "NetSearch$TreeCounter" "matrix" "[J") (by decide +kernel)
  have iX5 : ∀ w ∈ wsX50, w ∈ wsX5_init := by decide +kernel
  have f15 := hts (.fieldLink RX5 15 "NetSearch$TreeCounter" "solid" "LNetSearch$Solid;") (by decide +kernel)
  refine lv_aload_n hx hb dX5_init_0 rfl (lv_at hl 0 rfl) ?_
  refine W.objInit hx hb hown ml3 imO (hts _ (List.mem_of_getElem? (i := 3) rfl)) rfl (by rw [hml]; exact hl.1) rfl dX5_init_1 (Nat.le_of_ble_eq_true rfl) (Nat.le_of_ble_eq_true rfl) ?_
  refine W.eq (g2 := F0 m 4 ls []) rfl ?_
  refine lv_aload_n hx hb dX5_init_4 rfl (lv_at hl 0 rfl) ?_
  refine lv_sipush (v := 441) hx hb dX5_init_5 (by decide) ?_
  refine va_newa (atype := .long) (ty := .long) (N' := 441) (n := 441) (a0 := (441, .inr (.inl (fun _ => 0)))) hx hb acJ rfl hK hP hD hS hA (fun cA => rfl) (by decide) (by decide) (by decide) (Nat.le_of_ble_eq_true rfl) (Nat.le_of_ble_eq_true rfl) dX5_init_8 (fun q1 cA H hK2 hP hD hS => ?_)
  obtain rfl : cJ = cA := Option.some.inj ((hK.2 2 _ rfl).2.symm.trans (hK2.2 3 _ rfl).2)
  clear hK2
  replace hP : va_P D vwCl [(a_this, .inr (5, [.null, .null])), (q1, .inl (cJ, 441, .inr (.inl (fun _ => 0))))] H := hP
  replace hD : va_D A [(a_this, .inr (5, [.null, .null])), (q1, .inl (cJ, 441, .inr (.inl (fun _ => 0))))] := hD
  refine va_putF (D := D) (ci := 5) (v := .ref q1) (ty := .array .long) (C := RX5) (T := TX5) (N := 2) hx hb hts iX5 tyX5 tyX5_ok nmX5 hown hK hP hD hS 0 rfl rfl 1 (by decide) f11 (fun _ h9 => h9) rfl hin rfl (by decide +kernel) rfl rfl (Nat.le_of_ble_eq_true rfl) dX5_init_10 (fun H locs hP hD hS => ?_)
  replace hP : va_P D vwCl [(a_this, .inr (5, [.null, .ref q1])), (q1, .inl (cJ, 441, .inr (.inl (fun _ => 0))))] H := hP
  replace hD : va_D A [(a_this, .inr (5, [.null, .ref q1])), (q1, .inl (cJ, 441, .inr (.inl (fun _ => 0))))] := hD
  refine lv_aload_n hx hb dX5_init_13 rfl (lv_at hl 0 rfl) ?_
  refine lv_aload_n hx hb dX5_init_14 rfl (lv_at hl 1 rfl) ?_
  refine va_putF (D := D) (ci := 5) (v := .ref a_p1) (ty := .object "NetSearch$Solid") (C := RX5) (T := TX5) (N := 2) hx hb hts iX5 tyX5 tyX5_ok nmX5 hown hK hP hD hS 0 rfl rfl 0 (by decide) f15 (fun _ h9 => h9) rfl hin rfl (by decide +kernel) rfl rfl (Nat.le_of_ble_eq_true rfl) dX5_init_15 (fun H locs hP hD hS => ?_)
  replace hP : va_P D vwCl [(a_this, .inr (5, [.ref a_p1, .ref q1])), (q1, .inl (cJ, 441, .inr (.inl (fun _ => 0))))] H := hP
  replace hD : va_D A [(a_this, .inr (5, [.ref a_p1, .ref q1])), (q1, .inl (cJ, 441, .inr (.inl (fun _ => 0))))] := hD
  exact ret (fun k => ([q1] : List Nat).getD k 0) _ _ _ 18 dX5_init_18 trivial hP hD hS
abbrev rm_X3_init : Room := { frames := 1, cells := 5, slots := 217, locals := 12 }
def wi_X3_init (cI cZ cJ : ClassId) (a_this : Nat) (a_p1 : Nat) (u : Nat → Nat) : va_W := [(a_this, .inr (3, [.ref (u 0), .ref (u 1), .ref (u 2), .int 0, .ref a_p1, .ref (u 3), .ref (u 4)])), ((u 0), .inl (cZ, 22, .inl (fun _ => 0))), ((u 1), .inl (cI, 22, .inl (fun _ => 0))), ((u 2), .inl (cI, 22, .inl (fun _ => 0))), ((u 3), .inl (cI, 88, .inl (fun _ => 0))), ((u 4), .inl (cJ, 63, .inr (.inl (fun _ => 0))))]
set_option maxHeartbeats 4000000 in
set_option maxRecDepth 100000 in
theorem ci_X3_init (l : Launch) (D : va_G) (cI cZ cJ : ClassId) (tb : Nat → Nat) (a_this : Nat) (a_p1 : Nat) (sz : Nat) : Met l yX3_init wsX3_init rm_X3_init (va_Pc [.ref a_this, .ref a_p1] (q_pre D cI cZ cJ tb [(a_this, .inr (3, [.null, .null, .null, .int 0, .null, .null, .null]))] sz)) (va_Qv (fun _ : Nat → Nat => True) (fun u => q_post D cI cZ cJ (va_A [(a_this, .inr (3, [.null, .null, .null, .int 0, .null, .null, .null]))] sz) (wi_X3_init cI cZ cJ a_this a_p1 u)) (va_A [(a_this, .inr (3, [.null, .null, .null, .int 0, .null, .null, .null]))] sz)) 5 217 (va_A [(a_this, .inr (3, [.null, .null, .null, .int 0, .null, .null, .null]))] sz) := by
  refine q_walkc (cc := cX3_init) (maxL := 2) (own := RX3) (wd := fun (u : Nat → Nat) => (wi_X3_init cI cZ cJ a_this a_p1 u)) (by decide) rfl rfl rfl (Nat.le_of_ble_eq_true rfl) ?_
  intro p e s m below meth c Q A ls C hA ret hin hP hD hS hK hSt hNw hl
  obtain ⟨hx, hb, hml, hown, hts⟩ := id C
  replace hl : lv_has ls 2 [(0, .ref a_this), (1, .ref a_p1)] := hl
  have ml3 := hts (.methodLink RX3 3 objectInit) (by decide +kernel)
  have imO := hts (.instanceMethod objectInit) (by decide +kernel)
  have acZ := hts (.arrayClass .boolean) (by decide +kernel)
  have f9 := hts (.fieldLink RX3 9 "NetSearch$Sheet" "lies" "[Z") (by decide +kernel)
  have iX3 : ∀ w ∈ wsX30, w ∈ wsX3_init := by decide +kernel
  have acI := hts (.arrayClass .int) (by decide +kernel)
  have f15 := hts (.fieldLink RX3 15 "NetSearch$Sheet" "x" "[I") (by decide +kernel)
  have f19 := hts (.fieldLink RX3 19 "NetSearch$Sheet" "y" "[I") (by decide +kernel)
  have f22 := hts (.fieldLink RX3 22 "NetSearch$Sheet" "headings" "[I") (by decide +kernel)
  have acJ := hts (.arrayClass .long) (by decide +kernel)
  have f25 := hts (.fieldLink RX3 25 "NetSearch$Sheet" "taken" "[J") (by decide +kernel)
  have f29 := hts (.fieldLink RX3 29 "NetSearch$Sheet" "solid" "LNetSearch$Solid;") (by decide +kernel)
  refine lv_aload_n hx hb dX3_init_0 rfl (lv_at hl 0 rfl) ?_
  refine W.objInit hx hb hown ml3 imO (hts _ (List.mem_of_getElem? (i := 3) rfl)) rfl (by rw [hml]; exact hl.1) rfl dX3_init_1 (Nat.le_of_ble_eq_true rfl) (Nat.le_of_ble_eq_true rfl) ?_
  refine W.eq (g2 := F0 m 4 ls []) rfl ?_
  refine lv_aload_n hx hb dX3_init_4 rfl (lv_at hl 0 rfl) ?_
  refine lv_bipush (v := 22) hx hb dX3_init_5 (by decide) ?_
  refine va_newa (atype := .boolean) (ty := .boolean) (N' := 22) (n := 22) (a0 := (22, .inl (fun _ => 0))) hx hb acZ rfl hK hP hD hS hA (fun cA => rfl) (by decide) (by decide) (by decide) (Nat.le_of_ble_eq_true rfl) (Nat.le_of_ble_eq_true rfl) dX3_init_7 (fun q1 cA H hK2 hP hD hS => ?_)
  obtain rfl : cZ = cA := Option.some.inj ((hK.2 1 _ rfl).2.symm.trans (hK2.2 3 _ rfl).2)
  clear hK2
  replace hP : va_P D vwCl [(a_this, .inr (3, [.null, .null, .null, .int 0, .null, .null, .null])), (q1, .inl (cZ, 22, .inl (fun _ => 0)))] H := hP
  replace hD : va_D A [(a_this, .inr (3, [.null, .null, .null, .int 0, .null, .null, .null])), (q1, .inl (cZ, 22, .inl (fun _ => 0)))] := hD
  refine va_putF (D := D) (ci := 3) (v := .ref q1) (ty := .array .boolean) (C := RX3) (T := TX3) (N := 7) hx hb hts iX3 tyX3 tyX3_ok nmX3 hown hK hP hD hS 0 rfl rfl 0 (by decide) f9 (fun _ h9 => h9) rfl hin rfl (by decide +kernel) rfl rfl (Nat.le_of_ble_eq_true rfl) dX3_init_9 (fun H locs hP hD hS => ?_)
  replace hP : va_P D vwCl [(a_this, .inr (3, [.ref q1, .null, .null, .int 0, .null, .null, .null])), (q1, .inl (cZ, 22, .inl (fun _ => 0)))] H := hP
  replace hD : va_D A [(a_this, .inr (3, [.ref q1, .null, .null, .int 0, .null, .null, .null])), (q1, .inl (cZ, 22, .inl (fun _ => 0)))] := hD
  refine lv_aload_n hx hb dX3_init_12 rfl (lv_at hl 0 rfl) ?_
  refine lv_bipush (v := 22) hx hb dX3_init_13 (by decide) ?_
  refine va_newa (atype := .int) (ty := .int) (N' := 22) (n := 22) (a0 := (22, .inl (fun _ => 0))) hx hb acI rfl hK hP hD hS hA (fun cA => rfl) (by decide) (by decide) (by decide) (Nat.le_of_ble_eq_true rfl) (Nat.le_of_ble_eq_true rfl) dX3_init_15 (fun q2 cA H hK2 hP hD hS => ?_)
  obtain rfl : cI = cA := Option.some.inj ((hK.2 0 _ rfl).2.symm.trans (hK2.2 3 _ rfl).2)
  clear hK2
  replace hP : va_P D vwCl [(a_this, .inr (3, [.ref q1, .null, .null, .int 0, .null, .null, .null])), (q1, .inl (cZ, 22, .inl (fun _ => 0))), (q2, .inl (cI, 22, .inl (fun _ => 0)))] H := hP
  replace hD : va_D A [(a_this, .inr (3, [.ref q1, .null, .null, .int 0, .null, .null, .null])), (q1, .inl (cZ, 22, .inl (fun _ => 0))), (q2, .inl (cI, 22, .inl (fun _ => 0)))] := hD
  refine va_putF (D := D) (ci := 3) (v := .ref q2) (ty := .array .int) (C := RX3) (T := TX3) (N := 7) hx hb hts iX3 tyX3 tyX3_ok nmX3 hown hK hP hD hS 0 rfl rfl 1 (by decide) f15 (fun _ h9 => h9) rfl hin rfl (by decide +kernel) rfl rfl (Nat.le_of_ble_eq_true rfl) dX3_init_17 (fun H locs hP hD hS => ?_)
  replace hP : va_P D vwCl [(a_this, .inr (3, [.ref q1, .ref q2, .null, .int 0, .null, .null, .null])), (q1, .inl (cZ, 22, .inl (fun _ => 0))), (q2, .inl (cI, 22, .inl (fun _ => 0)))] H := hP
  replace hD : va_D A [(a_this, .inr (3, [.ref q1, .ref q2, .null, .int 0, .null, .null, .null])), (q1, .inl (cZ, 22, .inl (fun _ => 0))), (q2, .inl (cI, 22, .inl (fun _ => 0)))] := hD
  refine lv_aload_n hx hb dX3_init_20 rfl (lv_at hl 0 rfl) ?_
  refine lv_bipush (v := 22) hx hb dX3_init_21 (by decide) ?_
  refine va_newa (atype := .int) (ty := .int) (N' := 22) (n := 22) (a0 := (22, .inl (fun _ => 0))) hx hb acI rfl hK hP hD hS hA (fun cA => rfl) (by decide) (by decide) (by decide) (Nat.le_of_ble_eq_true rfl) (Nat.le_of_ble_eq_true rfl) dX3_init_23 (fun q3 cA H hK2 hP hD hS => ?_)
  obtain rfl : cI = cA := Option.some.inj ((hK.2 0 _ rfl).2.symm.trans (hK2.2 3 _ rfl).2)
  clear hK2
  replace hP : va_P D vwCl [(a_this, .inr (3, [.ref q1, .ref q2, .null, .int 0, .null, .null, .null])), (q1, .inl (cZ, 22, .inl (fun _ => 0))), (q2, .inl (cI, 22, .inl (fun _ => 0))), (q3, .inl (cI, 22, .inl (fun _ => 0)))] H := hP
  replace hD : va_D A [(a_this, .inr (3, [.ref q1, .ref q2, .null, .int 0, .null, .null, .null])), (q1, .inl (cZ, 22, .inl (fun _ => 0))), (q2, .inl (cI, 22, .inl (fun _ => 0))), (q3, .inl (cI, 22, .inl (fun _ => 0)))] := hD
  refine va_putF (D := D) (ci := 3) (v := .ref q3) (ty := .array .int) (C := RX3) (T := TX3) (N := 7) hx hb hts iX3 tyX3 tyX3_ok nmX3 hown hK hP hD hS 0 rfl rfl 2 (by decide) f19 (fun _ h9 => h9) rfl hin rfl (by decide +kernel) rfl rfl (Nat.le_of_ble_eq_true rfl) dX3_init_25 (fun H locs hP hD hS => ?_)
  replace hP : va_P D vwCl [(a_this, .inr (3, [.ref q1, .ref q2, .ref q3, .int 0, .null, .null, .null])), (q1, .inl (cZ, 22, .inl (fun _ => 0))), (q2, .inl (cI, 22, .inl (fun _ => 0))), (q3, .inl (cI, 22, .inl (fun _ => 0)))] H := hP
  replace hD : va_D A [(a_this, .inr (3, [.ref q1, .ref q2, .ref q3, .int 0, .null, .null, .null])), (q1, .inl (cZ, 22, .inl (fun _ => 0))), (q2, .inl (cI, 22, .inl (fun _ => 0))), (q3, .inl (cI, 22, .inl (fun _ => 0)))] := hD
  refine lv_aload_n hx hb dX3_init_28 rfl (lv_at hl 0 rfl) ?_
  refine lv_bipush (v := 88) hx hb dX3_init_29 (by decide) ?_
  refine va_newa (atype := .int) (ty := .int) (N' := 88) (n := 88) (a0 := (88, .inl (fun _ => 0))) hx hb acI rfl hK hP hD hS hA (fun cA => rfl) (by decide) (by decide) (by decide) (Nat.le_of_ble_eq_true rfl) (Nat.le_of_ble_eq_true rfl) dX3_init_31 (fun q4 cA H hK2 hP hD hS => ?_)
  obtain rfl : cI = cA := Option.some.inj ((hK.2 0 _ rfl).2.symm.trans (hK2.2 3 _ rfl).2)
  clear hK2
  replace hP : va_P D vwCl [(a_this, .inr (3, [.ref q1, .ref q2, .ref q3, .int 0, .null, .null, .null])), (q1, .inl (cZ, 22, .inl (fun _ => 0))), (q2, .inl (cI, 22, .inl (fun _ => 0))), (q3, .inl (cI, 22, .inl (fun _ => 0))), (q4, .inl (cI, 88, .inl (fun _ => 0)))] H := hP
  replace hD : va_D A [(a_this, .inr (3, [.ref q1, .ref q2, .ref q3, .int 0, .null, .null, .null])), (q1, .inl (cZ, 22, .inl (fun _ => 0))), (q2, .inl (cI, 22, .inl (fun _ => 0))), (q3, .inl (cI, 22, .inl (fun _ => 0))), (q4, .inl (cI, 88, .inl (fun _ => 0)))] := hD
  refine va_putF (D := D) (ci := 3) (v := .ref q4) (ty := .array .int) (C := RX3) (T := TX3) (N := 7) hx hb hts iX3 tyX3 tyX3_ok nmX3 hown hK hP hD hS 0 rfl rfl 5 (by decide) f22 (fun _ h9 => h9) rfl hin rfl (by decide +kernel) rfl rfl (Nat.le_of_ble_eq_true rfl) dX3_init_33 (fun H locs hP hD hS => ?_)
  replace hP : va_P D vwCl [(a_this, .inr (3, [.ref q1, .ref q2, .ref q3, .int 0, .null, .ref q4, .null])), (q1, .inl (cZ, 22, .inl (fun _ => 0))), (q2, .inl (cI, 22, .inl (fun _ => 0))), (q3, .inl (cI, 22, .inl (fun _ => 0))), (q4, .inl (cI, 88, .inl (fun _ => 0)))] H := hP
  replace hD : va_D A [(a_this, .inr (3, [.ref q1, .ref q2, .ref q3, .int 0, .null, .ref q4, .null])), (q1, .inl (cZ, 22, .inl (fun _ => 0))), (q2, .inl (cI, 22, .inl (fun _ => 0))), (q3, .inl (cI, 22, .inl (fun _ => 0))), (q4, .inl (cI, 88, .inl (fun _ => 0)))] := hD
  refine lv_aload_n hx hb dX3_init_36 rfl (lv_at hl 0 rfl) ?_
  refine lv_bipush (v := 63) hx hb dX3_init_37 (by decide) ?_
  refine va_newa (atype := .long) (ty := .long) (N' := 63) (n := 63) (a0 := (63, .inr (.inl (fun _ => 0)))) hx hb acJ rfl hK hP hD hS hA (fun cA => rfl) (by decide) (by decide) (by decide) (Nat.le_of_ble_eq_true rfl) (Nat.le_of_ble_eq_true rfl) dX3_init_39 (fun q5 cA H hK2 hP hD hS => ?_)
  obtain rfl : cJ = cA := Option.some.inj ((hK.2 2 _ rfl).2.symm.trans (hK2.2 3 _ rfl).2)
  clear hK2
  replace hP : va_P D vwCl [(a_this, .inr (3, [.ref q1, .ref q2, .ref q3, .int 0, .null, .ref q4, .null])), (q1, .inl (cZ, 22, .inl (fun _ => 0))), (q2, .inl (cI, 22, .inl (fun _ => 0))), (q3, .inl (cI, 22, .inl (fun _ => 0))), (q4, .inl (cI, 88, .inl (fun _ => 0))), (q5, .inl (cJ, 63, .inr (.inl (fun _ => 0))))] H := hP
  replace hD : va_D A [(a_this, .inr (3, [.ref q1, .ref q2, .ref q3, .int 0, .null, .ref q4, .null])), (q1, .inl (cZ, 22, .inl (fun _ => 0))), (q2, .inl (cI, 22, .inl (fun _ => 0))), (q3, .inl (cI, 22, .inl (fun _ => 0))), (q4, .inl (cI, 88, .inl (fun _ => 0))), (q5, .inl (cJ, 63, .inr (.inl (fun _ => 0))))] := hD
  refine va_putF (D := D) (ci := 3) (v := .ref q5) (ty := .array .long) (C := RX3) (T := TX3) (N := 7) hx hb hts iX3 tyX3 tyX3_ok nmX3 hown hK hP hD hS 0 rfl rfl 6 (by decide) f25 (fun _ h9 => h9) rfl hin rfl (by decide +kernel) rfl rfl (Nat.le_of_ble_eq_true rfl) dX3_init_41 (fun H locs hP hD hS => ?_)
  replace hP : va_P D vwCl [(a_this, .inr (3, [.ref q1, .ref q2, .ref q3, .int 0, .null, .ref q4, .ref q5])), (q1, .inl (cZ, 22, .inl (fun _ => 0))), (q2, .inl (cI, 22, .inl (fun _ => 0))), (q3, .inl (cI, 22, .inl (fun _ => 0))), (q4, .inl (cI, 88, .inl (fun _ => 0))), (q5, .inl (cJ, 63, .inr (.inl (fun _ => 0))))] H := hP
  replace hD : va_D A [(a_this, .inr (3, [.ref q1, .ref q2, .ref q3, .int 0, .null, .ref q4, .ref q5])), (q1, .inl (cZ, 22, .inl (fun _ => 0))), (q2, .inl (cI, 22, .inl (fun _ => 0))), (q3, .inl (cI, 22, .inl (fun _ => 0))), (q4, .inl (cI, 88, .inl (fun _ => 0))), (q5, .inl (cJ, 63, .inr (.inl (fun _ => 0))))] := hD
  refine lv_aload_n hx hb dX3_init_44 rfl (lv_at hl 0 rfl) ?_
  refine lv_aload_n hx hb dX3_init_45 rfl (lv_at hl 1 rfl) ?_
  refine va_putF (D := D) (ci := 3) (v := .ref a_p1) (ty := .object "NetSearch$Solid") (C := RX3) (T := TX3) (N := 7) hx hb hts iX3 tyX3 tyX3_ok nmX3 hown hK hP hD hS 0 rfl rfl 4 (by decide) f29 (fun _ h9 => h9) rfl hin rfl (by decide +kernel) rfl rfl (Nat.le_of_ble_eq_true rfl) dX3_init_46 (fun H locs hP hD hS => ?_)
  replace hP : va_P D vwCl [(a_this, .inr (3, [.ref q1, .ref q2, .ref q3, .int 0, .ref a_p1, .ref q4, .ref q5])), (q1, .inl (cZ, 22, .inl (fun _ => 0))), (q2, .inl (cI, 22, .inl (fun _ => 0))), (q3, .inl (cI, 22, .inl (fun _ => 0))), (q4, .inl (cI, 88, .inl (fun _ => 0))), (q5, .inl (cJ, 63, .inr (.inl (fun _ => 0))))] H := hP
  replace hD : va_D A [(a_this, .inr (3, [.ref q1, .ref q2, .ref q3, .int 0, .ref a_p1, .ref q4, .ref q5])), (q1, .inl (cZ, 22, .inl (fun _ => 0))), (q2, .inl (cI, 22, .inl (fun _ => 0))), (q3, .inl (cI, 22, .inl (fun _ => 0))), (q4, .inl (cI, 88, .inl (fun _ => 0))), (q5, .inl (cJ, 63, .inr (.inl (fun _ => 0))))] := hD
  exact ret (fun k => ([q1, q2, q3, q4, q5] : List Nat).getD k 0) _ _ _ 49 dX3_init_49 trivial hP hD hS
