abbrev rm_X2_init : Room := { frames := 2, cells := 11, slots := 318, locals := 33 }
def wi_X2_init (cI cZ cJ : ClassId) (a_this : Nat) (a_p1 : Nat) (a_p2 : Nat) (u : Nat → Nat) : va_W := [(a_this, .inr (2, [.int 0, .int 0, .int 0, .ref (u 0), .ref a_p1, .ref a_p2, .ref (u 5), .ref (u 3), .ref (u 4), .int 0])), ((u 0), .inr (1, [.int 0, .int 0, .int 0, .int 0, .ref (u 1), .ref (u 2)])), ((u 1), .inl (cI, 22, .inl (fun _ => 0))), ((u 2), .inl (cI, 22, .inl (fun _ => 0))), ((u 3), .inl (cI, 22, .inl (fun _ => 0))), ((u 4), .inl (cI, 22, .inl (fun _ => 0))), ((u 5), .inr (3, [.ref (u 6), .ref (u 7), .ref (u 8), .int 0, .ref a_p1, .ref (u 9), .ref (u 10)])), ((u 6), .inl (cZ, 22, .inl (fun _ => 0))), ((u 7), .inl (cI, 22, .inl (fun _ => 0))), ((u 8), .inl (cI, 22, .inl (fun _ => 0))), ((u 9), .inl (cI, 88, .inl (fun _ => 0))), ((u 10), .inl (cJ, 63, .inr (.inl (fun _ => 0))))]
set_option maxHeartbeats 4000000 in
set_option maxRecDepth 100000 in
theorem ci_X2_init (l : Launch) (D : va_G) (cI cZ cJ : ClassId) (tb : Nat → Nat) (a_this : Nat) (a_p1 : Nat) (a_p2 : Nat) (sz : Nat) : Met l yX2_init wsX2_init rm_X2_init (va_Pc [.ref a_this, .ref a_p1, .ref a_p2] (q_pre D cI cZ cJ tb [(a_this, .inr (2, [.int 0, .int 0, .int 0, .null, .null, .null, .null, .null, .null, .int 0]))] sz)) (va_Qv (fun _ : Nat → Nat => True) (fun u => q_post D cI cZ cJ (va_A [(a_this, .inr (2, [.int 0, .int 0, .int 0, .null, .null, .null, .null, .null, .null, .int 0]))] sz) (wi_X2_init cI cZ cJ a_this a_p1 a_p2 u)) (va_A [(a_this, .inr (2, [.int 0, .int 0, .int 0, .null, .null, .null, .null, .null, .null, .int 0]))] sz)) 11 318 (va_A [(a_this, .inr (2, [.int 0, .int 0, .int 0, .null, .null, .null, .null, .null, .null, .int 0]))] sz) := by
  refine q_walkc (cc := cX2_init) (maxL := 3) (own := RX2) (wd := fun (u : Nat → Nat) => (wi_X2_init cI cZ cJ a_this a_p1 a_p2 u)) (by decide) rfl rfl rfl (Nat.le_of_ble_eq_true rfl) ?_
  intro p e s m below meth c Q A ls C hA ret hin hP hD hS hK hSt hNw hl
  obtain ⟨hx, hb, hml, hown, hts⟩ := id C
  replace hl : lv_has ls 3 [(0, .ref a_this), (1, .ref a_p1), (2, .ref a_p2)] := hl
  have ml3 := hts (.methodLink RX2 3 objectInit) (by decide +kernel)
  have imO := hts (.instanceMethod objectInit) (by decide +kernel)
  have cl9 := hts (.classLink RX2 9 RX1) (by decide +kernel)
  have inX1 := hts (.instantiable RX1 6) (by decide +kernel)
  have iniX1 := hts (.initialized RX1) (by decide +kernel)
  have iX1 : ∀ w ∈ wsX10, w ∈ wsX2_init := by decide +kernel
  have im_X1_init := hts (.instanceMethod yX1_init) (by decide +kernel)
  have nn11 : va_Nw (.methodLinkNest RX2 11 yX1_init "NetSearch") s := hNw.2 (RX2, 11, yX1_init, "NetSearch") (by decide +kernel)
  have f12 := hts (.fieldLink RX2 12 "NetSearch$Search" "bestNet" "LNetSearch$BestNet;") (by decide +kernel)
  have iX2 : ∀ w ∈ wsX20, w ∈ wsX2_init := by decide +kernel
  have acI := hts (.arrayClass .int) (by decide +kernel)
  have f18 := hts (.fieldLink RX2 18 "NetSearch$Search" "laid" "[I") (by decide +kernel)
  have f22 := hts (.fieldLink RX2 22 "NetSearch$Search" "laidAtStep" "[I") (by decide +kernel)
  have f25 := hts (.fieldLink RX2 25 "NetSearch$Search" "solid" "LNetSearch$Solid;") (by decide +kernel)
  have f29 := hts (.fieldLink RX2 29 "NetSearch$Search" "album" "LNetSearch$Album;") (by decide +kernel)
  have cl33 := hts (.classLink RX2 33 RX3) (by decide +kernel)
  have inX3 := hts (.instantiable RX3 7) (by decide +kernel)
  have iniX3 := hts (.initialized RX3) (by decide +kernel)
  have iX3 : ∀ w ∈ wsX30, w ∈ wsX2_init := by decide +kernel
  have im_X3_init := hts (.instanceMethod yX3_init) (by decide +kernel)
  have ml35 := hts (.methodLink RX2 35 yX3_init) (by decide +kernel)
  have f38 := hts (.fieldLink RX2 38 "NetSearch$Search" "sheet" "LNetSearch$Sheet;") (by decide +kernel)
  refine lv_aload_n hx hb dX2_init_0 rfl (lv_at hl 0 rfl) ?_
  refine W.objInit hx hb hown ml3 imO (hts _ (List.mem_of_getElem? (i := 3) rfl)) rfl (by rw [hml]; exact hl.1) rfl dX2_init_1 (Nat.le_of_ble_eq_true rfl) (Nat.le_of_ble_eq_true rfl) ?_
  refine W.eq (g2 := F0 m 4 ls []) rfl ?_
  refine lv_aload_n hx hb dX2_init_4 rfl (lv_at hl 0 rfl) ?_
  refine va_new (ci := 1) (fs := [.int 0, .int 0, .int 0, .int 0, .null, .null]) (C := RX1) (T := TX1) (N := 6) hx hb hts iX1 tyX1 tyX1_ok hown cl9 inX1 iniX1 hK hP hD hS hA rfl (fun j hj => by rcases (show j = 0 ∨ j = 1 ∨ j = 2 ∨ j = 3 ∨ j = 4 ∨ j = 5 by omega) with rfl | rfl | rfl | rfl | rfl | rfl <;> rfl) (Nat.le_of_ble_eq_true rfl) (Nat.le_of_ble_eq_true rfl) dX2_init_5 (fun q1 H hP hD hS => ?_)
  replace hP : va_P D vwCl [(a_this, .inr (2, [.int 0, .int 0, .int 0, .null, .null, .null, .null, .null, .null, .int 0])), (q1, .inr (1, [.int 0, .int 0, .int 0, .int 0, .null, .null]))] H := hP
  replace hD : va_D A [(a_this, .inr (2, [.int 0, .int 0, .int 0, .null, .null, .null, .null, .null, .null, .int 0])), (q1, .inr (1, [.int 0, .int 0, .int 0, .int 0, .null, .null]))] := hD
  refine lv_dup hx hb dX2_init_8 rfl ?_
  have hPc := hP.sub (ws' := [(q1, .inr (1, [.int 0, .int 0, .int 0, .int 0, .null, .null]))]) [1] rfl
  have hDc := hD.sub (ws' := [(q1, .inr (1, [.int 0, .int 0, .int 0, .int 0, .null, .null]))]) [1] (by decide) rfl
  have hFc := va_free (wc := [(q1, .inr (1, [.int 0, .int 0, .int 0, .int 0, .null, .null]))]) hD hS hA [1] rfl
  refine va_callv (va_runIN (As := []) (rest := [.ref q1, .ref a_this]) C (ci_X1_init l D cI cZ cJ tb q1 H.size) ⟨va_cnB 0 hts gX2_init_X1_init_n11 rfl rfl rfl nn11 iniX1 (by decide +kernel) ⟨Nat.le_of_ble_eq_true rfl, Nat.le_of_ble_eq_true rfl⟩, rfl, im_X1_init⟩ ⟨q_pre.blind, fun U hU hW => ⟨rfl, q_pre.of hU hW hPc hK hDc hSt hS hFc hNw⟩⟩ rfl rfl hl.1 rfl (lv_room (Nat.le_of_ble_eq_true rfl)) dX2_init_9 ⟨Nat.le_of_ble_eq_true rfl, Nat.le_of_ble_eq_true rfl⟩) hS (fun q _ h => hFc q h) hFc (fun u2 t H1 locs ht hvm hw hB hz1 hk1 hS => ?_)
  obtain ⟨hP1, hK1, hD1⟩ := hB
  rw [ht] at hP1
  obtain ⟨hP, hD⟩ := va_join (wr := [(a_this, .inr (2, [.int 0, .int 0, .int 0, .null, .null, .null, .null, .null, .null, .int 0]))]) (w1 := (wi_X1_init cI cZ cJ q1 u2)) hP hD [1] [0] rfl rfl (by decide) (by decide) hk1 hFc hP1 hD1
  clear hPc hDc hFc hP1 hD1 hK1 hk1 hz1 ht hvm
  generalize H1 = H at hP hS ⊢
  clear hw
  replace hP : va_P D vwCl [(a_this, .inr (2, [.int 0, .int 0, .int 0, .null, .null, .null, .null, .null, .null, .int 0])), (q1, .inr (1, [.int 0, .int 0, .int 0, .int 0, .ref (u2 0), .ref (u2 1)])), ((u2 0), .inl (cI, 22, .inl (fun _ => 0))), ((u2 1), .inl (cI, 22, .inl (fun _ => 0)))] H := hP
  replace hD : va_D A [(a_this, .inr (2, [.int 0, .int 0, .int 0, .null, .null, .null, .null, .null, .null, .int 0])), (q1, .inr (1, [.int 0, .int 0, .int 0, .int 0, .ref (u2 0), .ref (u2 1)])), ((u2 0), .inl (cI, 22, .inl (fun _ => 0))), ((u2 1), .inl (cI, 22, .inl (fun _ => 0)))] := hD
  refine va_putF (D := D) (ci := 2) (v := .ref q1) (ty := .object "NetSearch$BestNet") (C := RX2) (T := TX2) (N := 10) hx hb hts iX2 tyX2 tyX2_ok nmX2 hown hK hP hD hS 0 rfl rfl 3 (by decide) f12 (fun _ h9 => h9) rfl hin rfl (by decide +kernel) rfl rfl (Nat.le_of_ble_eq_true rfl) dX2_init_12 (fun H locs hP hD hS => ?_)
  replace hP : va_P D vwCl [(a_this, .inr (2, [.int 0, .int 0, .int 0, .ref q1, .null, .null, .null, .null, .null, .int 0])), (q1, .inr (1, [.int 0, .int 0, .int 0, .int 0, .ref (u2 0), .ref (u2 1)])), ((u2 0), .inl (cI, 22, .inl (fun _ => 0))), ((u2 1), .inl (cI, 22, .inl (fun _ => 0)))] H := hP
  replace hD : va_D A [(a_this, .inr (2, [.int 0, .int 0, .int 0, .ref q1, .null, .null, .null, .null, .null, .int 0])), (q1, .inr (1, [.int 0, .int 0, .int 0, .int 0, .ref (u2 0), .ref (u2 1)])), ((u2 0), .inl (cI, 22, .inl (fun _ => 0))), ((u2 1), .inl (cI, 22, .inl (fun _ => 0)))] := hD
  refine lv_aload_n hx hb dX2_init_15 rfl (lv_at hl 0 rfl) ?_
  refine lv_bipush (v := 22) hx hb dX2_init_16 (by decide) ?_
  refine va_newa (atype := .int) (ty := .int) (N' := 22) (n := 22) (a0 := (22, .inl (fun _ => 0))) hx hb acI rfl hK hP hD hS hA (fun cA => rfl) (by decide) (by decide) (by decide) (Nat.le_of_ble_eq_true rfl) (Nat.le_of_ble_eq_true rfl) dX2_init_18 (fun q3 cA H hK2 hP hD hS => ?_)
  obtain rfl : cI = cA := Option.some.inj ((hK.2 0 _ rfl).2.symm.trans (hK2.2 3 _ rfl).2)
  clear hK2
  replace hP : va_P D vwCl [(a_this, .inr (2, [.int 0, .int 0, .int 0, .ref q1, .null, .null, .null, .null, .null, .int 0])), (q1, .inr (1, [.int 0, .int 0, .int 0, .int 0, .ref (u2 0), .ref (u2 1)])), ((u2 0), .inl (cI, 22, .inl (fun _ => 0))), ((u2 1), .inl (cI, 22, .inl (fun _ => 0))), (q3, .inl (cI, 22, .inl (fun _ => 0)))] H := hP
  replace hD : va_D A [(a_this, .inr (2, [.int 0, .int 0, .int 0, .ref q1, .null, .null, .null, .null, .null, .int 0])), (q1, .inr (1, [.int 0, .int 0, .int 0, .int 0, .ref (u2 0), .ref (u2 1)])), ((u2 0), .inl (cI, 22, .inl (fun _ => 0))), ((u2 1), .inl (cI, 22, .inl (fun _ => 0))), (q3, .inl (cI, 22, .inl (fun _ => 0)))] := hD
  refine va_putF (D := D) (ci := 2) (v := .ref q3) (ty := .array .int) (C := RX2) (T := TX2) (N := 10) hx hb hts iX2 tyX2 tyX2_ok nmX2 hown hK hP hD hS 0 rfl rfl 7 (by decide) f18 (fun _ h9 => h9) rfl hin rfl (by decide +kernel) rfl rfl (Nat.le_of_ble_eq_true rfl) dX2_init_20 (fun H locs hP hD hS => ?_)
  replace hP : va_P D vwCl [(a_this, .inr (2, [.int 0, .int 0, .int 0, .ref q1, .null, .null, .null, .ref q3, .null, .int 0])), (q1, .inr (1, [.int 0, .int 0, .int 0, .int 0, .ref (u2 0), .ref (u2 1)])), ((u2 0), .inl (cI, 22, .inl (fun _ => 0))), ((u2 1), .inl (cI, 22, .inl (fun _ => 0))), (q3, .inl (cI, 22, .inl (fun _ => 0)))] H := hP
  replace hD : va_D A [(a_this, .inr (2, [.int 0, .int 0, .int 0, .ref q1, .null, .null, .null, .ref q3, .null, .int 0])), (q1, .inr (1, [.int 0, .int 0, .int 0, .int 0, .ref (u2 0), .ref (u2 1)])), ((u2 0), .inl (cI, 22, .inl (fun _ => 0))), ((u2 1), .inl (cI, 22, .inl (fun _ => 0))), (q3, .inl (cI, 22, .inl (fun _ => 0)))] := hD
  refine lv_aload_n hx hb dX2_init_23 rfl (lv_at hl 0 rfl) ?_
  refine lv_bipush (v := 22) hx hb dX2_init_24 (by decide) ?_
  refine va_newa (atype := .int) (ty := .int) (N' := 22) (n := 22) (a0 := (22, .inl (fun _ => 0))) hx hb acI rfl hK hP hD hS hA (fun cA => rfl) (by decide) (by decide) (by decide) (Nat.le_of_ble_eq_true rfl) (Nat.le_of_ble_eq_true rfl) dX2_init_26 (fun q4 cA H hK2 hP hD hS => ?_)
  obtain rfl : cI = cA := Option.some.inj ((hK.2 0 _ rfl).2.symm.trans (hK2.2 3 _ rfl).2)
  clear hK2
  replace hP : va_P D vwCl [(a_this, .inr (2, [.int 0, .int 0, .int 0, .ref q1, .null, .null, .null, .ref q3, .null, .int 0])), (q1, .inr (1, [.int 0, .int 0, .int 0, .int 0, .ref (u2 0), .ref (u2 1)])), ((u2 0), .inl (cI, 22, .inl (fun _ => 0))), ((u2 1), .inl (cI, 22, .inl (fun _ => 0))), (q3, .inl (cI, 22, .inl (fun _ => 0))), (q4, .inl (cI, 22, .inl (fun _ => 0)))] H := hP
  replace hD : va_D A [(a_this, .inr (2, [.int 0, .int 0, .int 0, .ref q1, .null, .null, .null, .ref q3, .null, .int 0])), (q1, .inr (1, [.int 0, .int 0, .int 0, .int 0, .ref (u2 0), .ref (u2 1)])), ((u2 0), .inl (cI, 22, .inl (fun _ => 0))), ((u2 1), .inl (cI, 22, .inl (fun _ => 0))), (q3, .inl (cI, 22, .inl (fun _ => 0))), (q4, .inl (cI, 22, .inl (fun _ => 0)))] := hD
  refine va_putF (D := D) (ci := 2) (v := .ref q4) (ty := .array .int) (C := RX2) (T := TX2) (N := 10) hx hb hts iX2 tyX2 tyX2_ok nmX2 hown hK hP hD hS 0 rfl rfl 8 (by decide) f22 (fun _ h9 => h9) rfl hin rfl (by decide +kernel) rfl rfl (Nat.le_of_ble_eq_true rfl) dX2_init_28 (fun H locs hP hD hS => ?_)
  replace hP : va_P D vwCl [(a_this, .inr (2, [.int 0, .int 0, .int 0, .ref q1, .null, .null, .null, .ref q3, .ref q4, .int 0])), (q1, .inr (1, [.int 0, .int 0, .int 0, .int 0, .ref (u2 0), .ref (u2 1)])), ((u2 0), .inl (cI, 22, .inl (fun _ => 0))), ((u2 1), .inl (cI, 22, .inl (fun _ => 0))), (q3, .inl (cI, 22, .inl (fun _ => 0))), (q4, .inl (cI, 22, .inl (fun _ => 0)))] H := hP
  replace hD : va_D A [(a_this, .inr (2, [.int 0, .int 0, .int 0, .ref q1, .null, .null, .null, .ref q3, .ref q4, .int 0])), (q1, .inr (1, [.int 0, .int 0, .int 0, .int 0, .ref (u2 0), .ref (u2 1)])), ((u2 0), .inl (cI, 22, .inl (fun _ => 0))), ((u2 1), .inl (cI, 22, .inl (fun _ => 0))), (q3, .inl (cI, 22, .inl (fun _ => 0))), (q4, .inl (cI, 22, .inl (fun _ => 0)))] := hD
  refine lv_aload_n hx hb dX2_init_31 rfl (lv_at hl 0 rfl) ?_
  refine lv_aload_n hx hb dX2_init_32 rfl (lv_at hl 1 rfl) ?_
  refine va_putF (D := D) (ci := 2) (v := .ref a_p1) (ty := .object "NetSearch$Solid") (C := RX2) (T := TX2) (N := 10) hx hb hts iX2 tyX2 tyX2_ok nmX2 hown hK hP hD hS 0 rfl rfl 4 (by decide) f25 (fun _ h9 => h9) rfl hin rfl (by decide +kernel) rfl rfl (Nat.le_of_ble_eq_true rfl) dX2_init_33 (fun H locs hP hD hS => ?_)
  replace hP : va_P D vwCl [(a_this, .inr (2, [.int 0, .int 0, .int 0, .ref q1, .ref a_p1, .null, .null, .ref q3, .ref q4, .int 0])), (q1, .inr (1, [.int 0, .int 0, .int 0, .int 0, .ref (u2 0), .ref (u2 1)])), ((u2 0), .inl (cI, 22, .inl (fun _ => 0))), ((u2 1), .inl (cI, 22, .inl (fun _ => 0))), (q3, .inl (cI, 22, .inl (fun _ => 0))), (q4, .inl (cI, 22, .inl (fun _ => 0)))] H := hP
  replace hD : va_D A [(a_this, .inr (2, [.int 0, .int 0, .int 0, .ref q1, .ref a_p1, .null, .null, .ref q3, .ref q4, .int 0])), (q1, .inr (1, [.int 0, .int 0, .int 0, .int 0, .ref (u2 0), .ref (u2 1)])), ((u2 0), .inl (cI, 22, .inl (fun _ => 0))), ((u2 1), .inl (cI, 22, .inl (fun _ => 0))), (q3, .inl (cI, 22, .inl (fun _ => 0))), (q4, .inl (cI, 22, .inl (fun _ => 0)))] := hD
  refine lv_aload_n hx hb dX2_init_36 rfl (lv_at hl 0 rfl) ?_
  refine lv_aload_n hx hb dX2_init_37 rfl (lv_at hl 2 rfl) ?_
  refine va_putF (D := D) (ci := 2) (v := .ref a_p2) (ty := .object "NetSearch$Album") (C := RX2) (T := TX2) (N := 10) hx hb hts iX2 tyX2 tyX2_ok nmX2 hown hK hP hD hS 0 rfl rfl 5 (by decide) f29 (fun _ h9 => h9) rfl hin rfl (by decide +kernel) rfl rfl (Nat.le_of_ble_eq_true rfl) dX2_init_38 (fun H locs hP hD hS => ?_)
  replace hP : va_P D vwCl [(a_this, .inr (2, [.int 0, .int 0, .int 0, .ref q1, .ref a_p1, .ref a_p2, .null, .ref q3, .ref q4, .int 0])), (q1, .inr (1, [.int 0, .int 0, .int 0, .int 0, .ref (u2 0), .ref (u2 1)])), ((u2 0), .inl (cI, 22, .inl (fun _ => 0))), ((u2 1), .inl (cI, 22, .inl (fun _ => 0))), (q3, .inl (cI, 22, .inl (fun _ => 0))), (q4, .inl (cI, 22, .inl (fun _ => 0)))] H := hP
  replace hD : va_D A [(a_this, .inr (2, [.int 0, .int 0, .int 0, .ref q1, .ref a_p1, .ref a_p2, .null, .ref q3, .ref q4, .int 0])), (q1, .inr (1, [.int 0, .int 0, .int 0, .int 0, .ref (u2 0), .ref (u2 1)])), ((u2 0), .inl (cI, 22, .inl (fun _ => 0))), ((u2 1), .inl (cI, 22, .inl (fun _ => 0))), (q3, .inl (cI, 22, .inl (fun _ => 0))), (q4, .inl (cI, 22, .inl (fun _ => 0)))] := hD
  refine lv_aload_n hx hb dX2_init_41 rfl (lv_at hl 0 rfl) ?_
  refine va_new (ci := 3) (fs := [.null, .null, .null, .int 0, .null, .null, .null]) (C := RX3) (T := TX3) (N := 7) hx hb hts iX3 tyX3 tyX3_ok hown cl33 inX3 iniX3 hK hP hD hS hA rfl (fun j hj => by rcases (show j = 0 ∨ j = 1 ∨ j = 2 ∨ j = 3 ∨ j = 4 ∨ j = 5 ∨ j = 6 by omega) with rfl | rfl | rfl | rfl | rfl | rfl | rfl <;> rfl) (Nat.le_of_ble_eq_true rfl) (Nat.le_of_ble_eq_true rfl) dX2_init_42 (fun q5 H hP hD hS => ?_)
  replace hP : va_P D vwCl [(a_this, .inr (2, [.int 0, .int 0, .int 0, .ref q1, .ref a_p1, .ref a_p2, .null, .ref q3, .ref q4, .int 0])), (q1, .inr (1, [.int 0, .int 0, .int 0, .int 0, .ref (u2 0), .ref (u2 1)])), ((u2 0), .inl (cI, 22, .inl (fun _ => 0))), ((u2 1), .inl (cI, 22, .inl (fun _ => 0))), (q3, .inl (cI, 22, .inl (fun _ => 0))), (q4, .inl (cI, 22, .inl (fun _ => 0))), (q5, .inr (3, [.null, .null, .null, .int 0, .null, .null, .null]))] H := hP
  replace hD : va_D A [(a_this, .inr (2, [.int 0, .int 0, .int 0, .ref q1, .ref a_p1, .ref a_p2, .null, .ref q3, .ref q4, .int 0])), (q1, .inr (1, [.int 0, .int 0, .int 0, .int 0, .ref (u2 0), .ref (u2 1)])), ((u2 0), .inl (cI, 22, .inl (fun _ => 0))), ((u2 1), .inl (cI, 22, .inl (fun _ => 0))), (q3, .inl (cI, 22, .inl (fun _ => 0))), (q4, .inl (cI, 22, .inl (fun _ => 0))), (q5, .inr (3, [.null, .null, .null, .int 0, .null, .null, .null]))] := hD
  refine lv_dup hx hb dX2_init_45 rfl ?_
  refine lv_aload_n hx hb dX2_init_46 rfl (lv_at hl 1 rfl) ?_
  have hPc := hP.sub (ws' := [(q5, .inr (3, [.null, .null, .null, .int 0, .null, .null, .null]))]) [6] rfl
  have hDc := hD.sub (ws' := [(q5, .inr (3, [.null, .null, .null, .int 0, .null, .null, .null]))]) [6] (by decide) rfl
  have hFc := va_free (wc := [(q5, .inr (3, [.null, .null, .null, .int 0, .null, .null, .null]))]) hD hS hA [6] rfl
  refine va_callv (va_runI (As := [.ref a_p1]) (rest := [.ref q5, .ref a_this]) C (ci_X3_init l D cI cZ cJ tb q5 a_p1 H.size) (cwI 1 hts gX2_init_X3_init rfl rfl rfl iniX3 ml35 im_X3_init rfl (by decide +kernel) ⟨Nat.le_of_ble_eq_true rfl, Nat.le_of_ble_eq_true rfl⟩) ⟨q_pre.blind, fun U hU hW => ⟨rfl, q_pre.of hU hW hPc hK hDc hSt hS hFc hNw⟩⟩ rfl rfl hl.1 rfl (lv_room (Nat.le_of_ble_eq_true rfl)) dX2_init_47 ⟨Nat.le_of_ble_eq_true rfl, Nat.le_of_ble_eq_true rfl⟩) hS (fun q _ h => hFc q h) hFc (fun u6 t H1 locs ht hvm hw hB hz1 hk1 hS => ?_)
  obtain ⟨hP1, hK1, hD1⟩ := hB
  rw [ht] at hP1
  obtain ⟨hP, hD⟩ := va_join (wr := [(a_this, .inr (2, [.int 0, .int 0, .int 0, .ref q1, .ref a_p1, .ref a_p2, .null, .ref q3, .ref q4, .int 0])), (q1, .inr (1, [.int 0, .int 0, .int 0, .int 0, .ref (u2 0), .ref (u2 1)])), ((u2 0), .inl (cI, 22, .inl (fun _ => 0))), ((u2 1), .inl (cI, 22, .inl (fun _ => 0))), (q3, .inl (cI, 22, .inl (fun _ => 0))), (q4, .inl (cI, 22, .inl (fun _ => 0)))]) (w1 := (wi_X3_init cI cZ cJ q5 a_p1 u6)) hP hD [6] [0, 1, 2, 3, 4, 5] rfl rfl (by decide) (by decide) hk1 hFc hP1 hD1
  clear hPc hDc hFc hP1 hD1 hK1 hk1 hz1 ht hvm
  generalize H1 = H at hP hS ⊢
  clear hw
  replace hP : va_P D vwCl [(a_this, .inr (2, [.int 0, .int 0, .int 0, .ref q1, .ref a_p1, .ref a_p2, .null, .ref q3, .ref q4, .int 0])), (q1, .inr (1, [.int 0, .int 0, .int 0, .int 0, .ref (u2 0), .ref (u2 1)])), ((u2 0), .inl (cI, 22, .inl (fun _ => 0))), ((u2 1), .inl (cI, 22, .inl (fun _ => 0))), (q3, .inl (cI, 22, .inl (fun _ => 0))), (q4, .inl (cI, 22, .inl (fun _ => 0))), (q5, .inr (3, [.ref (u6 0), .ref (u6 1), .ref (u6 2), .int 0, .ref a_p1, .ref (u6 3), .ref (u6 4)])), ((u6 0), .inl (cZ, 22, .inl (fun _ => 0))), ((u6 1), .inl (cI, 22, .inl (fun _ => 0))), ((u6 2), .inl (cI, 22, .inl (fun _ => 0))), ((u6 3), .inl (cI, 88, .inl (fun _ => 0))), ((u6 4), .inl (cJ, 63, .inr (.inl (fun _ => 0))))] H := hP
  replace hD : va_D A [(a_this, .inr (2, [.int 0, .int 0, .int 0, .ref q1, .ref a_p1, .ref a_p2, .null, .ref q3, .ref q4, .int 0])), (q1, .inr (1, [.int 0, .int 0, .int 0, .int 0, .ref (u2 0), .ref (u2 1)])), ((u2 0), .inl (cI, 22, .inl (fun _ => 0))), ((u2 1), .inl (cI, 22, .inl (fun _ => 0))), (q3, .inl (cI, 22, .inl (fun _ => 0))), (q4, .inl (cI, 22, .inl (fun _ => 0))), (q5, .inr (3, [.ref (u6 0), .ref (u6 1), .ref (u6 2), .int 0, .ref a_p1, .ref (u6 3), .ref (u6 4)])), ((u6 0), .inl (cZ, 22, .inl (fun _ => 0))), ((u6 1), .inl (cI, 22, .inl (fun _ => 0))), ((u6 2), .inl (cI, 22, .inl (fun _ => 0))), ((u6 3), .inl (cI, 88, .inl (fun _ => 0))), ((u6 4), .inl (cJ, 63, .inr (.inl (fun _ => 0))))] := hD
  refine va_putF (D := D) (ci := 2) (v := .ref q5) (ty := .object "NetSearch$Sheet") (C := RX2) (T := TX2) (N := 10) hx hb hts iX2 tyX2 tyX2_ok nmX2 hown hK hP hD hS 0 rfl rfl 6 (by decide) f38 (fun _ h9 => h9) rfl hin rfl (by decide +kernel) rfl rfl (Nat.le_of_ble_eq_true rfl) dX2_init_50 (fun H locs hP hD hS => ?_)
  replace hP : va_P D vwCl [(a_this, .inr (2, [.int 0, .int 0, .int 0, .ref q1, .ref a_p1, .ref a_p2, .ref q5, .ref q3, .ref q4, .int 0])), (q1, .inr (1, [.int 0, .int 0, .int 0, .int 0, .ref (u2 0), .ref (u2 1)])), ((u2 0), .inl (cI, 22, .inl (fun _ => 0))), ((u2 1), .inl (cI, 22, .inl (fun _ => 0))), (q3, .inl (cI, 22, .inl (fun _ => 0))), (q4, .inl (cI, 22, .inl (fun _ => 0))), (q5, .inr (3, [.ref (u6 0), .ref (u6 1), .ref (u6 2), .int 0, .ref a_p1, .ref (u6 3), .ref (u6 4)])), ((u6 0), .inl (cZ, 22, .inl (fun _ => 0))), ((u6 1), .inl (cI, 22, .inl (fun _ => 0))), ((u6 2), .inl (cI, 22, .inl (fun _ => 0))), ((u6 3), .inl (cI, 88, .inl (fun _ => 0))), ((u6 4), .inl (cJ, 63, .inr (.inl (fun _ => 0))))] H := hP
  replace hD : va_D A [(a_this, .inr (2, [.int 0, .int 0, .int 0, .ref q1, .ref a_p1, .ref a_p2, .ref q5, .ref q3, .ref q4, .int 0])), (q1, .inr (1, [.int 0, .int 0, .int 0, .int 0, .ref (u2 0), .ref (u2 1)])), ((u2 0), .inl (cI, 22, .inl (fun _ => 0))), ((u2 1), .inl (cI, 22, .inl (fun _ => 0))), (q3, .inl (cI, 22, .inl (fun _ => 0))), (q4, .inl (cI, 22, .inl (fun _ => 0))), (q5, .inr (3, [.ref (u6 0), .ref (u6 1), .ref (u6 2), .int 0, .ref a_p1, .ref (u6 3), .ref (u6 4)])), ((u6 0), .inl (cZ, 22, .inl (fun _ => 0))), ((u6 1), .inl (cI, 22, .inl (fun _ => 0))), ((u6 2), .inl (cI, 22, .inl (fun _ => 0))), ((u6 3), .inl (cI, 88, .inl (fun _ => 0))), ((u6 4), .inl (cJ, 63, .inr (.inl (fun _ => 0))))] := hD
  exact ret (fun k => ([q1, (u2 0), (u2 1), q3, q4, q5, (u6 0), (u6 1), (u6 2), (u6 3), (u6 4)] : List Nat).getD k 0) _ _ _ 53 dX2_init_53 trivial hP hD hS
def wd_X6_init (cI cZ cJ : ClassId) (a_this a_imageSide a_beside a_reached a_faceOn a_sheet a_sheet_lies a_sheet_x a_sheet_y a_sheet_headings a_sheet_taken a_solid a_album : Nat) (v_reachedCount : Int32) (v_imageSide : Nat → Int32) (v_beside : Nat → Int32) (v_reached : Nat → Int32) (v_faceOn : Nat → Int32) (v_sheet_count : Int32) (v_sheet_lies : Nat → Int32) (v_sheet_x : Nat → Int32) (v_sheet_y : Nat → Int32) (v_sheet_headings : Nat → Int32) (v_sheet_taken : Nat → Int64) : va_W := [(a_this, .inr (6, [.ref a_solid, .ref a_album, .ref a_sheet, .ref a_imageSide, .ref a_beside, .ref a_reached, .ref a_faceOn, .int v_reachedCount])), (a_imageSide, .inl (cI, 32, .inl v_imageSide)), (a_beside, .inl (cI, 88, .inl v_beside)), (a_reached, .inl (cI, 22, .inl v_reached)), (a_faceOn, .inl (cI, 22, .inl v_faceOn)), (a_sheet, .inr (3, [.ref a_sheet_lies, .ref a_sheet_x, .ref a_sheet_y, .int v_sheet_count, .ref a_solid, .ref a_sheet_headings, .ref a_sheet_taken])), (a_sheet_lies, .inl (cZ, 22, .inl v_sheet_lies)), (a_sheet_x, .inl (cI, 22, .inl v_sheet_x)), (a_sheet_y, .inl (cI, 22, .inl v_sheet_y)), (a_sheet_headings, .inl (cI, 88, .inl v_sheet_headings)), (a_sheet_taken, .inl (cJ, 63, .inr (.inl v_sheet_taken)))]
def wb_X6_init_69 (l3 : Int32) (kx98 : (Nat → Int32) → Prop) (kb : Int32 → (Nat → Int32) → Prop) (l4 : Int32) (v_imageSide : Nat → Int32) : Prop :=
  (((4 : Int32) ≤ l4 → kx98 v_imageSide) ∧ (¬ (4 : Int32) ≤ l4 → (wp_X6_sideInImage l3 l4 (fun r_1 => (vp_in ((l3 * (4 : Int32)) + l4) 32 ∧ kb (l4 + (1 : Int32)) (upd v_imageSide ((l3 * (4 : Int32)) + l4).toNatClampNeg r_1))))))
def wl_X6_init_69 (l3 : Int32) (kx98 : (Nat → Int32) → Prop) : ((Int32 × (Nat → Int32)) → Prop) → (Int32 × (Nat → Int32)) → Prop := fun kb v => wb_X6_init_69 l3 kx98 (fun l4 v_imageSide => kb (l4, v_imageSide)) v.1 v.2
def wb_X6_init_60 (kx104 : (Nat → Int32) → Prop) (kb : Int32 → (Nat → Int32) → Prop) (l3 : Int32) (v_imageSide : Nat → Int32) : Prop :=
  (((8 : Int32) ≤ l3 → kx104 v_imageSide) ∧ (¬ (8 : Int32) ≤ l3 → (Lp (wl_X6_init_69 l3 (fun v_imageSide_3 => kb (l3 + (1 : Int32)) v_imageSide_3)) ((0 : Int32), v_imageSide))))
def wl_X6_init_60 (kx104 : (Nat → Int32) → Prop) : ((Int32 × (Nat → Int32)) → Prop) → (Int32 × (Nat → Int32)) → Prop := fun kb v => wb_X6_init_60 kx104 (fun l3 v_imageSide => kb (l3, v_imageSide)) v.1 v.2
def wp_X6_init (v_imageSide : Nat → Int32) (post : (Nat → Int32) → Prop) : Prop :=
  (Lp (wl_X6_init_60 (fun v_imageSide_4 => post v_imageSide_4)) ((0 : Int32), v_imageSide))
abbrev rm_X6_init : Room := { frames := 2, cells := 10, slots := 388, locals := 33 }
def wi_X6_init (cI cZ cJ : ClassId) (a_this : Nat) (a_p1 : Nat) (a_p2 : Nat) (u : (Nat → Nat) × (Nat → Int32)) : va_W := [(a_this, .inr (6, [.ref a_p1, .ref a_p2, .ref (u.1 4), .ref (u.1 0), .ref (u.1 1), .ref (u.1 2), .ref (u.1 3), .int 0])), ((u.1 0), .inl (cI, 32, .inl u.2)), ((u.1 1), .inl (cI, 88, .inl (fun _ => 0))), ((u.1 2), .inl (cI, 22, .inl (fun _ => 0))), ((u.1 3), .inl (cI, 22, .inl (fun _ => 0))), ((u.1 4), .inr (3, [.ref (u.1 5), .ref (u.1 6), .ref (u.1 7), .int 0, .ref a_p1, .ref (u.1 8), .ref (u.1 9)])), ((u.1 5), .inl (cZ, 22, .inl (fun _ => 0))), ((u.1 6), .inl (cI, 22, .inl (fun _ => 0))), ((u.1 7), .inl (cI, 22, .inl (fun _ => 0))), ((u.1 8), .inl (cI, 88, .inl (fun _ => 0))), ((u.1 9), .inl (cJ, 63, .inr (.inl (fun _ => 0))))]
set_option maxHeartbeats 4000000 in
set_option maxRecDepth 100000 in
theorem ci_X6_init (l : Launch) (D : va_G) (cI cZ cJ : ClassId) (tb : Nat → Nat) (a_this : Nat) (a_p1 : Nat) (a_p2 : Nat) (sz : Nat) {post : (Nat → Int32) → Prop} (h : wp_X6_init (fun _ => 0) post) : Met l yX6_init wsX6_init rm_X6_init (va_Pc [.ref a_this, .ref a_p1, .ref a_p2] (q_pre D cI cZ cJ tb [(a_this, .inr (6, [.null, .null, .null, .null, .null, .null, .null, .int 0]))] sz)) (va_Qv (fun (u : (Nat → Nat) × (Nat → Int32)) => post u.2) (fun u => q_post D cI cZ cJ (va_A [(a_this, .inr (6, [.null, .null, .null, .null, .null, .null, .null, .int 0]))] sz) (wi_X6_init cI cZ cJ a_this a_p1 a_p2 u)) (va_A [(a_this, .inr (6, [.null, .null, .null, .null, .null, .null, .null, .int 0]))] sz)) 10 388 (va_A [(a_this, .inr (6, [.null, .null, .null, .null, .null, .null, .null, .int 0]))] sz) := by
  refine q_walkc (cc := cX6_init) (maxL := 5) (own := RX6) (wd := fun (u : (Nat → Nat) × (Nat → Int32)) => (wi_X6_init cI cZ cJ a_this a_p1 a_p2 u)) (by decide) rfl rfl rfl (Nat.le_of_ble_eq_true rfl) ?_
  intro p e s m below meth c Q A ls C hA ret hin hP hD hS hK hSt hNw hl
  obtain ⟨hx, hb, hml, hown, hts⟩ := id C
  replace hl : lv_has ls 5 [(0, .ref a_this), (1, .ref a_p1), (2, .ref a_p2)] := hl
  have ml3 := hts (.methodLink RX6 3 objectInit) (by decide +kernel)
  have imO := hts (.instanceMethod objectInit) (by decide +kernel)
  have acI := hts (.arrayClass .int) (by decide +kernel)
  have f9 := hts (.fieldLink RX6 9 "NetSearch$Wrapping" "imageSide" "[I") (by decide +kernel)
  have iX6 : ∀ w ∈ wsX60, w ∈ wsX6_init := by decide +kernel
  have f15 := hts (.fieldLink RX6 15 "NetSearch$Wrapping" "beside" "[I") (by decide +kernel)
  have f18 := hts (.fieldLink RX6 18 "NetSearch$Wrapping" "reached" "[I") (by decide +kernel)
  have f21 := hts (.fieldLink RX6 21 "NetSearch$Wrapping" "faceOn" "[I") (by decide +kernel)
  have f24 := hts (.fieldLink RX6 24 "NetSearch$Wrapping" "solid" "LNetSearch$Solid;") (by decide +kernel)
  have f28 := hts (.fieldLink RX6 28 "NetSearch$Wrapping" "album" "LNetSearch$Album;") (by decide +kernel)
  have cl32 := hts (.classLink RX6 32 RX3) (by decide +kernel)
  have inX3 := hts (.instantiable RX3 7) (by decide +kernel)
  have iniX3 := hts (.initialized RX3) (by decide +kernel)
  have iX3 : ∀ w ∈ wsX30, w ∈ wsX6_init := by decide +kernel
  have im_X3_init := hts (.instanceMethod yX3_init) (by decide +kernel)
  have ml34 := hts (.methodLink RX6 34 yX3_init) (by decide +kernel)
  have f37 := hts (.fieldLink RX6 37 "NetSearch$Wrapping" "sheet" "LNetSearch$Sheet;") (by decide +kernel)
  unfold wp_X6_init at h
  refine lv_aload_n hx hb dX6_init_0 rfl (lv_at hl 0 rfl) ?_
  refine W.objInit hx hb hown ml3 imO (hts _ (List.mem_of_getElem? (i := 3) rfl)) rfl (by rw [hml]; exact hl.1) rfl dX6_init_1 (Nat.le_of_ble_eq_true rfl) (Nat.le_of_ble_eq_true rfl) ?_
  refine W.eq (g2 := F0 m 4 ls []) rfl ?_
  refine lv_aload_n hx hb dX6_init_4 rfl (lv_at hl 0 rfl) ?_
  refine lv_bipush (v := 32) hx hb dX6_init_5 (by decide) ?_
  refine va_newa (atype := .int) (ty := .int) (N' := 32) (n := 32) (a0 := (32, .inl (fun _ => 0))) hx hb acI rfl hK hP hD hS hA (fun cA => rfl) (by decide) (by decide) (by decide) (Nat.le_of_ble_eq_true rfl) (Nat.le_of_ble_eq_true rfl) dX6_init_7 (fun q1 cA H hK2 hP hD hS => ?_)
  obtain rfl : cI = cA := Option.some.inj ((hK.2 0 _ rfl).2.symm.trans (hK2.2 3 _ rfl).2)
  clear hK2
  replace hP : va_P D vwCl [(a_this, .inr (6, [.null, .null, .null, .null, .null, .null, .null, .int 0])), (q1, .inl (cI, 32, .inl (fun _ => 0)))] H := hP
  replace hD : va_D A [(a_this, .inr (6, [.null, .null, .null, .null, .null, .null, .null, .int 0])), (q1, .inl (cI, 32, .inl (fun _ => 0)))] := hD
  refine va_putF (D := D) (ci := 6) (v := .ref q1) (ty := .array .int) (C := RX6) (T := TX6) (N := 8) hx hb hts iX6 tyX6 tyX6_ok nmX6 hown hK hP hD hS 0 rfl rfl 3 (by decide) f9 (fun _ h9 => h9) rfl hin rfl (by decide +kernel) rfl rfl (Nat.le_of_ble_eq_true rfl) dX6_init_9 (fun H locs hP hD hS => ?_)
  replace hP : va_P D vwCl [(a_this, .inr (6, [.null, .null, .null, .ref q1, .null, .null, .null, .int 0])), (q1, .inl (cI, 32, .inl (fun _ => 0)))] H := hP
  replace hD : va_D A [(a_this, .inr (6, [.null, .null, .null, .ref q1, .null, .null, .null, .int 0])), (q1, .inl (cI, 32, .inl (fun _ => 0)))] := hD
  refine lv_aload_n hx hb dX6_init_12 rfl (lv_at hl 0 rfl) ?_
  refine lv_bipush (v := 88) hx hb dX6_init_13 (by decide) ?_
  refine va_newa (atype := .int) (ty := .int) (N' := 88) (n := 88) (a0 := (88, .inl (fun _ => 0))) hx hb acI rfl hK hP hD hS hA (fun cA => rfl) (by decide) (by decide) (by decide) (Nat.le_of_ble_eq_true rfl) (Nat.le_of_ble_eq_true rfl) dX6_init_15 (fun q2 cA H hK2 hP hD hS => ?_)
  obtain rfl : cI = cA := Option.some.inj ((hK.2 0 _ rfl).2.symm.trans (hK2.2 3 _ rfl).2)
  clear hK2
  replace hP : va_P D vwCl [(a_this, .inr (6, [.null, .null, .null, .ref q1, .null, .null, .null, .int 0])), (q1, .inl (cI, 32, .inl (fun _ => 0))), (q2, .inl (cI, 88, .inl (fun _ => 0)))] H := hP
  replace hD : va_D A [(a_this, .inr (6, [.null, .null, .null, .ref q1, .null, .null, .null, .int 0])), (q1, .inl (cI, 32, .inl (fun _ => 0))), (q2, .inl (cI, 88, .inl (fun _ => 0)))] := hD
  refine va_putF (D := D) (ci := 6) (v := .ref q2) (ty := .array .int) (C := RX6) (T := TX6) (N := 8) hx hb hts iX6 tyX6 tyX6_ok nmX6 hown hK hP hD hS 0 rfl rfl 4 (by decide) f15 (fun _ h9 => h9) rfl hin rfl (by decide +kernel) rfl rfl (Nat.le_of_ble_eq_true rfl) dX6_init_17 (fun H locs hP hD hS => ?_)
  replace hP : va_P D vwCl [(a_this, .inr (6, [.null, .null, .null, .ref q1, .ref q2, .null, .null, .int 0])), (q1, .inl (cI, 32, .inl (fun _ => 0))), (q2, .inl (cI, 88, .inl (fun _ => 0)))] H := hP
  replace hD : va_D A [(a_this, .inr (6, [.null, .null, .null, .ref q1, .ref q2, .null, .null, .int 0])), (q1, .inl (cI, 32, .inl (fun _ => 0))), (q2, .inl (cI, 88, .inl (fun _ => 0)))] := hD
  refine lv_aload_n hx hb dX6_init_20 rfl (lv_at hl 0 rfl) ?_
  refine lv_bipush (v := 22) hx hb dX6_init_21 (by decide) ?_
  refine va_newa (atype := .int) (ty := .int) (N' := 22) (n := 22) (a0 := (22, .inl (fun _ => 0))) hx hb acI rfl hK hP hD hS hA (fun cA => rfl) (by decide) (by decide) (by decide) (Nat.le_of_ble_eq_true rfl) (Nat.le_of_ble_eq_true rfl) dX6_init_23 (fun q3 cA H hK2 hP hD hS => ?_)
  obtain rfl : cI = cA := Option.some.inj ((hK.2 0 _ rfl).2.symm.trans (hK2.2 3 _ rfl).2)
  clear hK2
  replace hP : va_P D vwCl [(a_this, .inr (6, [.null, .null, .null, .ref q1, .ref q2, .null, .null, .int 0])), (q1, .inl (cI, 32, .inl (fun _ => 0))), (q2, .inl (cI, 88, .inl (fun _ => 0))), (q3, .inl (cI, 22, .inl (fun _ => 0)))] H := hP
  replace hD : va_D A [(a_this, .inr (6, [.null, .null, .null, .ref q1, .ref q2, .null, .null, .int 0])), (q1, .inl (cI, 32, .inl (fun _ => 0))), (q2, .inl (cI, 88, .inl (fun _ => 0))), (q3, .inl (cI, 22, .inl (fun _ => 0)))] := hD
  refine va_putF (D := D) (ci := 6) (v := .ref q3) (ty := .array .int) (C := RX6) (T := TX6) (N := 8) hx hb hts iX6 tyX6 tyX6_ok nmX6 hown hK hP hD hS 0 rfl rfl 5 (by decide) f18 (fun _ h9 => h9) rfl hin rfl (by decide +kernel) rfl rfl (Nat.le_of_ble_eq_true rfl) dX6_init_25 (fun H locs hP hD hS => ?_)
  replace hP : va_P D vwCl [(a_this, .inr (6, [.null, .null, .null, .ref q1, .ref q2, .ref q3, .null, .int 0])), (q1, .inl (cI, 32, .inl (fun _ => 0))), (q2, .inl (cI, 88, .inl (fun _ => 0))), (q3, .inl (cI, 22, .inl (fun _ => 0)))] H := hP
  replace hD : va_D A [(a_this, .inr (6, [.null, .null, .null, .ref q1, .ref q2, .ref q3, .null, .int 0])), (q1, .inl (cI, 32, .inl (fun _ => 0))), (q2, .inl (cI, 88, .inl (fun _ => 0))), (q3, .inl (cI, 22, .inl (fun _ => 0)))] := hD
  refine lv_aload_n hx hb dX6_init_28 rfl (lv_at hl 0 rfl) ?_
  refine lv_bipush (v := 22) hx hb dX6_init_29 (by decide) ?_
  refine va_newa (atype := .int) (ty := .int) (N' := 22) (n := 22) (a0 := (22, .inl (fun _ => 0))) hx hb acI rfl hK hP hD hS hA (fun cA => rfl) (by decide) (by decide) (by decide) (Nat.le_of_ble_eq_true rfl) (Nat.le_of_ble_eq_true rfl) dX6_init_31 (fun q4 cA H hK2 hP hD hS => ?_)
  obtain rfl : cI = cA := Option.some.inj ((hK.2 0 _ rfl).2.symm.trans (hK2.2 3 _ rfl).2)
  clear hK2
  replace hP : va_P D vwCl [(a_this, .inr (6, [.null, .null, .null, .ref q1, .ref q2, .ref q3, .null, .int 0])), (q1, .inl (cI, 32, .inl (fun _ => 0))), (q2, .inl (cI, 88, .inl (fun _ => 0))), (q3, .inl (cI, 22, .inl (fun _ => 0))), (q4, .inl (cI, 22, .inl (fun _ => 0)))] H := hP
  replace hD : va_D A [(a_this, .inr (6, [.null, .null, .null, .ref q1, .ref q2, .ref q3, .null, .int 0])), (q1, .inl (cI, 32, .inl (fun _ => 0))), (q2, .inl (cI, 88, .inl (fun _ => 0))), (q3, .inl (cI, 22, .inl (fun _ => 0))), (q4, .inl (cI, 22, .inl (fun _ => 0)))] := hD
  refine va_putF (D := D) (ci := 6) (v := .ref q4) (ty := .array .int) (C := RX6) (T := TX6) (N := 8) hx hb hts iX6 tyX6 tyX6_ok nmX6 hown hK hP hD hS 0 rfl rfl 6 (by decide) f21 (fun _ h9 => h9) rfl hin rfl (by decide +kernel) rfl rfl (Nat.le_of_ble_eq_true rfl) dX6_init_33 (fun H locs hP hD hS => ?_)
  replace hP : va_P D vwCl [(a_this, .inr (6, [.null, .null, .null, .ref q1, .ref q2, .ref q3, .ref q4, .int 0])), (q1, .inl (cI, 32, .inl (fun _ => 0))), (q2, .inl (cI, 88, .inl (fun _ => 0))), (q3, .inl (cI, 22, .inl (fun _ => 0))), (q4, .inl (cI, 22, .inl (fun _ => 0)))] H := hP
  replace hD : va_D A [(a_this, .inr (6, [.null, .null, .null, .ref q1, .ref q2, .ref q3, .ref q4, .int 0])), (q1, .inl (cI, 32, .inl (fun _ => 0))), (q2, .inl (cI, 88, .inl (fun _ => 0))), (q3, .inl (cI, 22, .inl (fun _ => 0))), (q4, .inl (cI, 22, .inl (fun _ => 0)))] := hD
  refine lv_aload_n hx hb dX6_init_36 rfl (lv_at hl 0 rfl) ?_
  refine lv_aload_n hx hb dX6_init_37 rfl (lv_at hl 1 rfl) ?_
  refine va_putF (D := D) (ci := 6) (v := .ref a_p1) (ty := .object "NetSearch$Solid") (C := RX6) (T := TX6) (N := 8) hx hb hts iX6 tyX6 tyX6_ok nmX6 hown hK hP hD hS 0 rfl rfl 0 (by decide) f24 (fun _ h9 => h9) rfl hin rfl (by decide +kernel) rfl rfl (Nat.le_of_ble_eq_true rfl) dX6_init_38 (fun H locs hP hD hS => ?_)
  replace hP : va_P D vwCl [(a_this, .inr (6, [.ref a_p1, .null, .null, .ref q1, .ref q2, .ref q3, .ref q4, .int 0])), (q1, .inl (cI, 32, .inl (fun _ => 0))), (q2, .inl (cI, 88, .inl (fun _ => 0))), (q3, .inl (cI, 22, .inl (fun _ => 0))), (q4, .inl (cI, 22, .inl (fun _ => 0)))] H := hP
  replace hD : va_D A [(a_this, .inr (6, [.ref a_p1, .null, .null, .ref q1, .ref q2, .ref q3, .ref q4, .int 0])), (q1, .inl (cI, 32, .inl (fun _ => 0))), (q2, .inl (cI, 88, .inl (fun _ => 0))), (q3, .inl (cI, 22, .inl (fun _ => 0))), (q4, .inl (cI, 22, .inl (fun _ => 0)))] := hD
  refine lv_aload_n hx hb dX6_init_41 rfl (lv_at hl 0 rfl) ?_
  refine lv_aload_n hx hb dX6_init_42 rfl (lv_at hl 2 rfl) ?_
  refine va_putF (D := D) (ci := 6) (v := .ref a_p2) (ty := .object "NetSearch$Album") (C := RX6) (T := TX6) (N := 8) hx hb hts iX6 tyX6 tyX6_ok nmX6 hown hK hP hD hS 0 rfl rfl 1 (by decide) f28 (fun _ h9 => h9) rfl hin rfl (by decide +kernel) rfl rfl (Nat.le_of_ble_eq_true rfl) dX6_init_43 (fun H locs hP hD hS => ?_)
  replace hP : va_P D vwCl [(a_this, .inr (6, [.ref a_p1, .ref a_p2, .null, .ref q1, .ref q2, .ref q3, .ref q4, .int 0])), (q1, .inl (cI, 32, .inl (fun _ => 0))), (q2, .inl (cI, 88, .inl (fun _ => 0))), (q3, .inl (cI, 22, .inl (fun _ => 0))), (q4, .inl (cI, 22, .inl (fun _ => 0)))] H := hP
  replace hD : va_D A [(a_this, .inr (6, [.ref a_p1, .ref a_p2, .null, .ref q1, .ref q2, .ref q3, .ref q4, .int 0])), (q1, .inl (cI, 32, .inl (fun _ => 0))), (q2, .inl (cI, 88, .inl (fun _ => 0))), (q3, .inl (cI, 22, .inl (fun _ => 0))), (q4, .inl (cI, 22, .inl (fun _ => 0)))] := hD
  refine lv_aload_n hx hb dX6_init_46 rfl (lv_at hl 0 rfl) ?_
  refine va_new (ci := 3) (fs := [.null, .null, .null, .int 0, .null, .null, .null]) (C := RX3) (T := TX3) (N := 7) hx hb hts iX3 tyX3 tyX3_ok hown cl32 inX3 iniX3 hK hP hD hS hA rfl (fun j hj => by rcases (show j = 0 ∨ j = 1 ∨ j = 2 ∨ j = 3 ∨ j = 4 ∨ j = 5 ∨ j = 6 by omega) with rfl | rfl | rfl | rfl | rfl | rfl | rfl <;> rfl) (Nat.le_of_ble_eq_true rfl) (Nat.le_of_ble_eq_true rfl) dX6_init_47 (fun q5 H hP hD hS => ?_)
  replace hP : va_P D vwCl [(a_this, .inr (6, [.ref a_p1, .ref a_p2, .null, .ref q1, .ref q2, .ref q3, .ref q4, .int 0])), (q1, .inl (cI, 32, .inl (fun _ => 0))), (q2, .inl (cI, 88, .inl (fun _ => 0))), (q3, .inl (cI, 22, .inl (fun _ => 0))), (q4, .inl (cI, 22, .inl (fun _ => 0))), (q5, .inr (3, [.null, .null, .null, .int 0, .null, .null, .null]))] H := hP
  replace hD : va_D A [(a_this, .inr (6, [.ref a_p1, .ref a_p2, .null, .ref q1, .ref q2, .ref q3, .ref q4, .int 0])), (q1, .inl (cI, 32, .inl (fun _ => 0))), (q2, .inl (cI, 88, .inl (fun _ => 0))), (q3, .inl (cI, 22, .inl (fun _ => 0))), (q4, .inl (cI, 22, .inl (fun _ => 0))), (q5, .inr (3, [.null, .null, .null, .int 0, .null, .null, .null]))] := hD
  refine lv_dup hx hb dX6_init_50 rfl ?_
  refine lv_aload_n hx hb dX6_init_51 rfl (lv_at hl 1 rfl) ?_
  have hPc := hP.sub (ws' := [(q5, .inr (3, [.null, .null, .null, .int 0, .null, .null, .null]))]) [5] rfl
  have hDc := hD.sub (ws' := [(q5, .inr (3, [.null, .null, .null, .int 0, .null, .null, .null]))]) [5] (by decide) rfl
  have hFc := va_free (wc := [(q5, .inr (3, [.null, .null, .null, .int 0, .null, .null, .null]))]) hD hS hA [5] rfl
  refine va_callv (va_runI (As := [.ref a_p1]) (rest := [.ref q5, .ref a_this]) C (ci_X3_init l D cI cZ cJ tb q5 a_p1 H.size) (cwI 1 hts gX6_init_X3_init rfl rfl rfl iniX3 ml34 im_X3_init rfl (by decide +kernel) ⟨Nat.le_of_ble_eq_true rfl, Nat.le_of_ble_eq_true rfl⟩) ⟨q_pre.blind, fun U hU hW => ⟨rfl, q_pre.of hU hW hPc hK hDc hSt hS hFc hNw⟩⟩ rfl rfl hl.1 rfl (lv_room (Nat.le_of_ble_eq_true rfl)) dX6_init_52 ⟨Nat.le_of_ble_eq_true rfl, Nat.le_of_ble_eq_true rfl⟩) hS (fun q _ h => hFc q h) hFc (fun u6 t H1 locs ht hvm hw hB hz1 hk1 hS => ?_)
  obtain ⟨hP1, hK1, hD1⟩ := hB
  rw [ht] at hP1
  obtain ⟨hP, hD⟩ := va_join (wr := [(a_this, .inr (6, [.ref a_p1, .ref a_p2, .null, .ref q1, .ref q2, .ref q3, .ref q4, .int 0])), (q1, .inl (cI, 32, .inl (fun _ => 0))), (q2, .inl (cI, 88, .inl (fun _ => 0))), (q3, .inl (cI, 22, .inl (fun _ => 0))), (q4, .inl (cI, 22, .inl (fun _ => 0)))]) (w1 := (wi_X3_init cI cZ cJ q5 a_p1 u6)) hP hD [5] [0, 1, 2, 3, 4] rfl rfl (by decide) (by decide) hk1 hFc hP1 hD1
  clear hPc hDc hFc hP1 hD1 hK1 hk1 hz1 ht hvm
  generalize H1 = H at hP hS ⊢
  clear hw
  replace hP : va_P D vwCl [(a_this, .inr (6, [.ref a_p1, .ref a_p2, .null, .ref q1, .ref q2, .ref q3, .ref q4, .int 0])), (q1, .inl (cI, 32, .inl (fun _ => 0))), (q2, .inl (cI, 88, .inl (fun _ => 0))), (q3, .inl (cI, 22, .inl (fun _ => 0))), (q4, .inl (cI, 22, .inl (fun _ => 0))), (q5, .inr (3, [.ref (u6 0), .ref (u6 1), .ref (u6 2), .int 0, .ref a_p1, .ref (u6 3), .ref (u6 4)])), ((u6 0), .inl (cZ, 22, .inl (fun _ => 0))), ((u6 1), .inl (cI, 22, .inl (fun _ => 0))), ((u6 2), .inl (cI, 22, .inl (fun _ => 0))), ((u6 3), .inl (cI, 88, .inl (fun _ => 0))), ((u6 4), .inl (cJ, 63, .inr (.inl (fun _ => 0))))] H := hP
  replace hD : va_D A [(a_this, .inr (6, [.ref a_p1, .ref a_p2, .null, .ref q1, .ref q2, .ref q3, .ref q4, .int 0])), (q1, .inl (cI, 32, .inl (fun _ => 0))), (q2, .inl (cI, 88, .inl (fun _ => 0))), (q3, .inl (cI, 22, .inl (fun _ => 0))), (q4, .inl (cI, 22, .inl (fun _ => 0))), (q5, .inr (3, [.ref (u6 0), .ref (u6 1), .ref (u6 2), .int 0, .ref a_p1, .ref (u6 3), .ref (u6 4)])), ((u6 0), .inl (cZ, 22, .inl (fun _ => 0))), ((u6 1), .inl (cI, 22, .inl (fun _ => 0))), ((u6 2), .inl (cI, 22, .inl (fun _ => 0))), ((u6 3), .inl (cI, 88, .inl (fun _ => 0))), ((u6 4), .inl (cJ, 63, .inr (.inl (fun _ => 0))))] := hD
  refine va_putF (D := D) (ci := 6) (v := .ref q5) (ty := .object "NetSearch$Sheet") (C := RX6) (T := TX6) (N := 8) hx hb hts iX6 tyX6 tyX6_ok nmX6 hown hK hP hD hS 0 rfl rfl 2 (by decide) f37 (fun _ h9 => h9) rfl hin rfl (by decide +kernel) rfl rfl (Nat.le_of_ble_eq_true rfl) dX6_init_55 (fun H locs hP hD hS => ?_)
  replace hP : va_P D vwCl [(a_this, .inr (6, [.ref a_p1, .ref a_p2, .ref q5, .ref q1, .ref q2, .ref q3, .ref q4, .int 0])), (q1, .inl (cI, 32, .inl (fun _ => 0))), (q2, .inl (cI, 88, .inl (fun _ => 0))), (q3, .inl (cI, 22, .inl (fun _ => 0))), (q4, .inl (cI, 22, .inl (fun _ => 0))), (q5, .inr (3, [.ref (u6 0), .ref (u6 1), .ref (u6 2), .int 0, .ref a_p1, .ref (u6 3), .ref (u6 4)])), ((u6 0), .inl (cZ, 22, .inl (fun _ => 0))), ((u6 1), .inl (cI, 22, .inl (fun _ => 0))), ((u6 2), .inl (cI, 22, .inl (fun _ => 0))), ((u6 3), .inl (cI, 88, .inl (fun _ => 0))), ((u6 4), .inl (cJ, 63, .inr (.inl (fun _ => 0))))] H := hP
  replace hD : va_D A [(a_this, .inr (6, [.ref a_p1, .ref a_p2, .ref q5, .ref q1, .ref q2, .ref q3, .ref q4, .int 0])), (q1, .inl (cI, 32, .inl (fun _ => 0))), (q2, .inl (cI, 88, .inl (fun _ => 0))), (q3, .inl (cI, 22, .inl (fun _ => 0))), (q4, .inl (cI, 22, .inl (fun _ => 0))), (q5, .inr (3, [.ref (u6 0), .ref (u6 1), .ref (u6 2), .int 0, .ref a_p1, .ref (u6 3), .ref (u6 4)])), ((u6 0), .inl (cZ, 22, .inl (fun _ => 0))), ((u6 1), .inl (cI, 22, .inl (fun _ => 0))), ((u6 2), .inl (cI, 22, .inl (fun _ => 0))), ((u6 3), .inl (cI, 88, .inl (fun _ => 0))), ((u6 4), .inl (cJ, 63, .inr (.inl (fun _ => 0))))] := hD
  refine W.widen (k := 10) (n := 388) (Nat.le_of_ble_eq_true rfl) (Nat.le_of_ble_eq_true rfl) ?_
  have ret2 := fun (f : Nat → Int32) (H : Heap) (locs : List Loc) (ls : Array Slot) (pc : Nat) (hd : decode cX6_init pc = .ok (.return_, 1)) (h1 : post f) (h2 : va_P D vwCl (wd_X6_init cI cZ cJ a_this q1 q2 q3 q4 q5 (u6 0) (u6 1) (u6 2) (u6 3) (u6 4) a_p1 a_p2 (0 : Int32) f (fun _ => 0) (fun _ => 0) (fun _ => 0) (0 : Int32) (fun _ => 0) (fun _ => 0) (fun _ => 0) (fun _ => 0) (fun _ => 0)) H) (h3 : va_D A (wd_X6_init cI cZ cJ a_this q1 q2 q3 q4 q5 (u6 0) (u6 1) (u6 2) (u6 3) (u6 4) a_p1 a_p2 (0 : Int32) f (fun _ => 0) (fun _ => 0) (fun _ => 0) (0 : Int32) (fun _ => 0) (fun _ => 0) (fun _ => 0) (fun _ => 0) (fun _ => 0))) (h4 : va_S A s.heap H locs) => ret ((fun k => ([q1, q2, q3, q4, q5, (u6 0), (u6 1), (u6 2), (u6 3), (u6 4)] : List Nat).getD k 0), f) H locs ls pc hd h1 h2 h3 h4
  replace hP : va_P D vwCl (wd_X6_init cI cZ cJ a_this q1 q2 q3 q4 q5 (u6 0) (u6 1) (u6 2) (u6 3) (u6 4) a_p1 a_p2 (0 : Int32) (fun _ => 0) (fun _ => 0) (fun _ => 0) (fun _ => 0) (0 : Int32) (fun _ => 0) (fun _ => 0) (fun _ => 0) (fun _ => 0) (fun _ => 0)) H := hP
  replace hD : va_D A (wd_X6_init cI cZ cJ a_this q1 q2 q3 q4 q5 (u6 0) (u6 1) (u6 2) (u6 3) (u6 4) a_p1 a_p2 (0 : Int32) (fun _ => 0) (fun _ => 0) (fun _ => 0) (fun _ => 0) (0 : Int32) (fun _ => 0) (fun _ => 0) (fun _ => 0) (fun _ => 0) (fun _ => 0)) := hD
  have L69_ok : ∀ (l3 : Int32) (kx98 : (Nat → Int32) → Prop) (hkx98 : ∀ (v_imageSide : Nat → Int32) (H : Heap) (locs : List Loc) (ls : Array Slot), kx98 v_imageSide → va_P D vwCl (wd_X6_init cI cZ cJ a_this q1 q2 q3 q4 q5 (u6 0) (u6 1) (u6 2) (u6 3) (u6 4) a_p1 a_p2 (0 : Int32) v_imageSide (fun _ => 0) (fun _ => 0) (fun _ => 0) (0 : Int32) (fun _ => 0) (fun _ => 0) (fun _ => 0) (fun _ => 0) (fun _ => 0)) H → va_D A (wd_X6_init cI cZ cJ a_this q1 q2 q3 q4 q5 (u6 0) (u6 1) (u6 2) (u6 3) (u6 4) a_p1 a_p2 (0 : Int32) v_imageSide (fun _ => 0) (fun _ => 0) (fun _ => 0) (0 : Int32) (fun _ => 0) (fun _ => 0) (fun _ => 0) (fun _ => 0) (fun _ => 0)) → va_S A s.heap H locs → lv_has ls 5 [(0, .ref a_this), (3, .int l3)] → W p l e rm_X6_init s m ([.ref a_this, .ref a_p1, .ref a_p2] : List Value).toArray below meth c H locs 10 388 Q (F0 m 98 ls [])) (n : Nat) (l4 : Int32) (v_imageSide : Nat → Int32) (H : Heap) (locs : List Loc) (ls : Array Slot), lpN (wl_X6_init_69 l3 kx98) n (l4, v_imageSide) → va_P D vwCl (wd_X6_init cI cZ cJ a_this q1 q2 q3 q4 q5 (u6 0) (u6 1) (u6 2) (u6 3) (u6 4) a_p1 a_p2 (0 : Int32) v_imageSide (fun _ => 0) (fun _ => 0) (fun _ => 0) (0 : Int32) (fun _ => 0) (fun _ => 0) (fun _ => 0) (fun _ => 0) (fun _ => 0)) H → va_D A (wd_X6_init cI cZ cJ a_this q1 q2 q3 q4 q5 (u6 0) (u6 1) (u6 2) (u6 3) (u6 4) a_p1 a_p2 (0 : Int32) v_imageSide (fun _ => 0) (fun _ => 0) (fun _ => 0) (0 : Int32) (fun _ => 0) (fun _ => 0) (fun _ => 0) (fun _ => 0) (fun _ => 0)) → va_S A s.heap H locs → lv_has ls 5 [(0, .ref a_this), (3, .int l3), (4, .int l4)] → W p l e rm_X6_init s m ([.ref a_this, .ref a_p1, .ref a_p2] : List Value).toArray below meth c H locs 10 388 Q (F0 m 69 ls []) := by
    intro l3 kx98 hkx98 n
    induction n with
    | zero => intro l4 v_imageSide H locs ls h; exact False.elim h
    | succ n ih =>
      intro l4 v_imageSide H locs ls h hP hD hS hl
      have h : wb_X6_init_69 l3 kx98 (fun l4 v_imageSide => lpN (wl_X6_init_69 l3 kx98) n (l4, v_imageSide)) l4 v_imageSide := h
      unfold wb_X6_init_69 at h
      refine lv_iload hx hb dX6_init_69 (lv_at hl 2 rfl) ?_
      refine lv_iconst (v := 4) hx hb dX6_init_71 (by decide) ?_
      refine lv_icmp_ge (tgt := 98) hx hb dX6_init_72 (by decide) (fun hc => ?_) (fun hc => ?_)
      · replace h := h.1 hc
        exact hkx98 v_imageSide _ _ _ h hP hD hS (lv_sub hl [0, 1] rfl)
      · replace h := h.2 hc
        refine lv_aload_n hx hb dX6_init_75 rfl (lv_at hl 0 rfl) ?_
        refine va_get (D := D) (ci := 6) (v := .ref q1) (C := RX6) (T := TX6) (N := 8) hx hb hts iX6 hown hK hP 0 rfl rfl 3 (by decide) f9 (fun _ h9 => h9) rfl dX6_init_76 ?_
        refine lv_iload_n hx hb dX6_init_79 rfl (lv_at hl 1 rfl) ?_
        refine lv_iconst (v := 4) hx hb dX6_init_80 (by decide) ?_
        refine lv_imul hx hb dX6_init_81 ?_
        refine lv_iload hx hb dX6_init_82 (lv_at hl 2 rfl) ?_
        refine lv_iadd hx hb dX6_init_84 ?_
        refine lv_iload_n hx hb dX6_init_85 rfl (lv_at hl 1 rfl) ?_
        refine lv_iload hx hb dX6_init_86 (lv_at hl 2 rfl) ?_
        have hPc := hP.sub (ws' := (wd_X6_sideInImage cI cZ cJ)) [] rfl
        have hDc := hD.sub (ws' := (wd_X6_sideInImage cI cZ cJ)) [] (by decide) rfl
        have hFc := va_free (wc := (wd_X6_sideInImage cI cZ cJ)) hD hS hA [] rfl
        refine va_calli (va_runS (As := [.int l3, .int l4]) (rest := [.int ((l3 * (4 : Int32)) + l4), .ref q1]) C (c_X6_sideInImage l D cI cZ cJ tb H.size l3 l4 h) (va_cwS 2 hts gX6_init_X6_sideInImage rfl rfl rfl (by decide +kernel) ⟨Nat.le_of_ble_eq_true rfl, Nat.le_of_ble_eq_true rfl⟩) ⟨q_pre.blind, fun U hU hW => ⟨rfl, q_pre.of hU hW hPc hK hDc hSt hS hFc hNw⟩⟩ rfl rfl hl.1 rfl (lv_room (Nat.le_of_ble_eq_true rfl)) dX6_init_88 ⟨Nat.le_of_ble_eq_true rfl, Nat.le_of_ble_eq_true rfl⟩) hS (fun q _ h => hFc q h) hFc (fun r_1 u_2 t H1 locs ht hvm hw hB hz1 hk1 hS => ?_)
        obtain ⟨hP1, hK1, hD1⟩ := hB
        rw [ht] at hP1
        obtain ⟨hP, hD⟩ := va_join (wr := [(a_this, .inr (6, [.ref a_p1, .ref a_p2, .ref q5, .ref q1, .ref q2, .ref q3, .ref q4, .int (0 : Int32)])), (q1, .inl (cI, 32, .inl v_imageSide)), (q2, .inl (cI, 88, .inl (fun _ => 0))), (q3, .inl (cI, 22, .inl (fun _ => 0))), (q4, .inl (cI, 22, .inl (fun _ => 0))), (q5, .inr (3, [.ref (u6 0), .ref (u6 1), .ref (u6 2), .int (0 : Int32), .ref a_p1, .ref (u6 3), .ref (u6 4)])), ((u6 0), .inl (cZ, 22, .inl (fun _ => 0))), ((u6 1), .inl (cI, 22, .inl (fun _ => 0))), ((u6 2), .inl (cI, 22, .inl (fun _ => 0))), ((u6 3), .inl (cI, 88, .inl (fun _ => 0))), ((u6 4), .inl (cJ, 63, .inr (.inl (fun _ => 0))))]) (w1 := (wd_X6_sideInImage cI cZ cJ)) hP hD [] [0, 1, 2, 3, 4, 5, 6, 7, 8, 9, 10] rfl rfl (by decide) (by decide) hk1 hFc hP1 hD1
        clear hPc hDc hFc hP1 hD1 hK1 hk1 hz1 ht hvm
        replace h := hw
        clear hw
        generalize H1 = H at hP hS ⊢
        replace hP : va_P D vwCl (wd_X6_init cI cZ cJ a_this q1 q2 q3 q4 q5 (u6 0) (u6 1) (u6 2) (u6 3) (u6 4) a_p1 a_p2 (0 : Int32) v_imageSide (fun _ => 0) (fun _ => 0) (fun _ => 0) (0 : Int32) (fun _ => 0) (fun _ => 0) (fun _ => 0) (fun _ => 0) (fun _ => 0)) H := hP.sub [0, 1, 2, 3, 4, 5, 6, 7, 8, 9, 10] rfl
        replace hD : va_D A (wd_X6_init cI cZ cJ a_this q1 q2 q3 q4 q5 (u6 0) (u6 1) (u6 2) (u6 3) (u6 4) a_p1 a_p2 (0 : Int32) v_imageSide (fun _ => 0) (fun _ => 0) (fun _ => 0) (0 : Int32) (fun _ => 0) (fun _ => 0) (fun _ => 0) (fun _ => 0) (fun _ => 0)) := hD.sub [0, 1, 2, 3, 4, 5, 6, 7, 8, 9, 10] (by decide) rfl
        obtain ⟨hin, h⟩ := h
        refine va_iast hx hb hK hP hD hS 1 0 rfl rfl hin dX6_init_91 (fun H locs hP hD hS => ?_)
        replace hP : va_P D vwCl (wd_X6_init cI cZ cJ a_this q1 q2 q3 q4 q5 (u6 0) (u6 1) (u6 2) (u6 3) (u6 4) a_p1 a_p2 (0 : Int32) (upd v_imageSide ((l3 * (4 : Int32)) + l4).toNatClampNeg r_1) (fun _ => 0) (fun _ => 0) (fun _ => 0) (0 : Int32) (fun _ => 0) (fun _ => 0) (fun _ => 0) (fun _ => 0) (fun _ => 0)) H := hP
        replace hD : va_D A (wd_X6_init cI cZ cJ a_this q1 q2 q3 q4 q5 (u6 0) (u6 1) (u6 2) (u6 3) (u6 4) a_p1 a_p2 (0 : Int32) (upd v_imageSide ((l3 * (4 : Int32)) + l4).toNatClampNeg r_1) (fun _ => 0) (fun _ => 0) (fun _ => 0) (0 : Int32) (fun _ => 0) (fun _ => 0) (fun _ => 0) (fun _ => 0) (fun _ => 0)) := hD
        refine lv_iinc (v := (l4 + (1 : Int32))) (lv' := [(4, .int (l4 + (1 : Int32))), (0, .ref a_this), (3, .int l3)]) hx hb dX6_init_92 hl (k := 2) rfl rfl (by decide) rfl (fun ls hl => ?_)
        refine lv_goto (tgt := 69) hx hb dX6_init_95 (by decide) ?_
        exact ih (l4 + (1 : Int32)) (upd v_imageSide ((l3 * (4 : Int32)) + l4).toNatClampNeg r_1) _ _ _ h hP hD hS (lv_sub hl [1, 2, 0] rfl)
  have L60_ok : ∀  (kx104 : (Nat → Int32) → Prop) (hkx104 : ∀ (v_imageSide : Nat → Int32) (H : Heap) (locs : List Loc) (ls : Array Slot), kx104 v_imageSide → va_P D vwCl (wd_X6_init cI cZ cJ a_this q1 q2 q3 q4 q5 (u6 0) (u6 1) (u6 2) (u6 3) (u6 4) a_p1 a_p2 (0 : Int32) v_imageSide (fun _ => 0) (fun _ => 0) (fun _ => 0) (0 : Int32) (fun _ => 0) (fun _ => 0) (fun _ => 0) (fun _ => 0) (fun _ => 0)) H → va_D A (wd_X6_init cI cZ cJ a_this q1 q2 q3 q4 q5 (u6 0) (u6 1) (u6 2) (u6 3) (u6 4) a_p1 a_p2 (0 : Int32) v_imageSide (fun _ => 0) (fun _ => 0) (fun _ => 0) (0 : Int32) (fun _ => 0) (fun _ => 0) (fun _ => 0) (fun _ => 0) (fun _ => 0)) → va_S A s.heap H locs → lv_has ls 5 [] → W p l e rm_X6_init s m ([.ref a_this, .ref a_p1, .ref a_p2] : List Value).toArray below meth c H locs 10 388 Q (F0 m 104 ls [])) (n : Nat) (l3 : Int32) (v_imageSide : Nat → Int32) (H : Heap) (locs : List Loc) (ls : Array Slot), lpN (wl_X6_init_60 kx104) n (l3, v_imageSide) → va_P D vwCl (wd_X6_init cI cZ cJ a_this q1 q2 q3 q4 q5 (u6 0) (u6 1) (u6 2) (u6 3) (u6 4) a_p1 a_p2 (0 : Int32) v_imageSide (fun _ => 0) (fun _ => 0) (fun _ => 0) (0 : Int32) (fun _ => 0) (fun _ => 0) (fun _ => 0) (fun _ => 0) (fun _ => 0)) H → va_D A (wd_X6_init cI cZ cJ a_this q1 q2 q3 q4 q5 (u6 0) (u6 1) (u6 2) (u6 3) (u6 4) a_p1 a_p2 (0 : Int32) v_imageSide (fun _ => 0) (fun _ => 0) (fun _ => 0) (0 : Int32) (fun _ => 0) (fun _ => 0) (fun _ => 0) (fun _ => 0) (fun _ => 0)) → va_S A s.heap H locs → lv_has ls 5 [(0, .ref a_this), (3, .int l3)] → W p l e rm_X6_init s m ([.ref a_this, .ref a_p1, .ref a_p2] : List Value).toArray below meth c H locs 10 388 Q (F0 m 60 ls []) := by
    intro  kx104 hkx104 n
    induction n with
    | zero => intro l3 v_imageSide H locs ls h; exact False.elim h
    | succ n ih =>
      intro l3 v_imageSide H locs ls h hP hD hS hl
      have h : wb_X6_init_60 kx104 (fun l3 v_imageSide => lpN (wl_X6_init_60 kx104) n (l3, v_imageSide)) l3 v_imageSide := h
      unfold wb_X6_init_60 at h
      refine lv_iload_n hx hb dX6_init_60 rfl (lv_at hl 1 rfl) ?_
      refine lv_bipush (v := 8) hx hb dX6_init_61 (by decide) ?_
      refine lv_icmp_ge (tgt := 104) hx hb dX6_init_63 (by decide) (fun hc => ?_) (fun hc => ?_)
      · replace h := h.1 hc
        exact hkx104 v_imageSide _ _ _ h hP hD hS (lv_sub hl [] rfl)
      · replace h := h.2 hc
        refine lv_iconst (v := 0) hx hb dX6_init_66 (by decide) ?_
        refine lv_istore (lv' := [(4, .int (0 : Int32)), (0, .ref a_this), (3, .int l3)]) hx hb dX6_init_67 hl (by decide) rfl (fun ls hl => ?_)
        obtain ⟨n, h⟩ := h
        refine L69_ok l3 _ (fun v_imageSide_3 H locs ls h hP hD hS hl => ?_) n (0 : Int32) v_imageSide _ _ _ h hP hD hS (lv_sub hl [1, 2, 0] rfl)
        refine lv_iinc (v := (l3 + (1 : Int32))) (lv' := [(3, .int (l3 + (1 : Int32))), (0, .ref a_this)]) hx hb dX6_init_98 hl (k := 1) rfl rfl (by decide) rfl (fun ls hl => ?_)
        refine lv_goto (tgt := 60) hx hb dX6_init_101 (by decide) ?_
        exact ih (l3 + (1 : Int32)) v_imageSide_3 _ _ _ h hP hD hS (lv_sub hl [1, 0] rfl)
  refine lv_iconst (v := 0) hx hb dX6_init_58 (by decide) ?_
  refine lv_istore_n (lv' := [(3, .int (0 : Int32)), (0, .ref a_this), (1, .ref a_p1), (2, .ref a_p2)]) hx hb dX6_init_59 rfl hl (by decide) rfl (fun ls hl => ?_)
  obtain ⟨n, h⟩ := h
  refine L60_ok  _ (fun v_imageSide_4 H locs ls h hP hD hS hl => ?_) n (0 : Int32) (fun _ => 0) _ _ _ h hP hD hS (lv_sub hl [1, 0] rfl)
  exact ret2 v_imageSide_4 _ _ _ 104 dX6_init_104 h hP hD hS
