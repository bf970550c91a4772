def wd_X8_nextUp (cI cZ cJ : ClassId) (a_this a_leads a_cubeX a_cubeY a_cubeZ a_cubeOf a_looks a_lies a_handX a_handY a_handRight a_handUp a_order a_choice a_has a_atX a_atY a_right a_up a_bestX a_bestY a_shapeSize a_shapeRow a_nextFace a_grid a_imageX a_imageY a_row a_bestRow a_on a_onRight a_onUp a_queue : Nat) (v_cubes : Int32) (v_faces : Int32) (v_laid : Int32) (v_count : Int32) (v_step : Int32) (v_ended : Int32) (v_nets : Int32) (v_work : Int32) (v_bestWidth : Int32) (v_bestHeight : Int32) (v_bestNet : Int32) (v_shapes : Int32) (v_leads : Nat → Int32) : va_W := [(a_this, .inr (8, [.int v_cubes, .ref a_cubeX, .ref a_cubeY, .ref a_cubeZ, .int v_faces, .ref a_cubeOf, .ref a_looks, .int v_laid, .ref a_lies, .ref a_handX, .ref a_handY, .ref a_handRight, .ref a_handUp, .int v_count, .ref a_order, .ref a_choice, .ref a_has, .ref a_atX, .ref a_atY, .ref a_right, .ref a_up, .int v_step, .int v_ended, .int v_nets, .int v_work, .int v_bestWidth, .int v_bestHeight, .int v_bestNet, .ref a_bestX, .ref a_bestY, .int v_shapes, .ref a_shapeSize, .ref a_shapeRow, .ref a_nextFace, .ref a_leads, .ref a_grid, .ref a_imageX, .ref a_imageY, .ref a_row, .ref a_bestRow, .ref a_on, .ref a_onRight, .ref a_onUp, .ref a_queue])),
  (a_leads, .inl (cI, 180, .inl v_leads))]
abbrev rm_X8_nextUp : Room := { frames := 1, cells := 0, slots := 0, locals := 22 }
set_option maxHeartbeats 4000000 in
set_option maxRecDepth 100000 in
theorem c_X8_nextUp (l : Launch) (D : va_G) (cI cZ cJ : ClassId) (tb : Nat → Nat) (a_this a_leads a_cubeX a_cubeY a_cubeZ a_cubeOf a_looks a_lies a_handX a_handY a_handRight a_handUp a_order a_choice a_has a_atX a_atY a_right a_up a_bestX a_bestY a_shapeSize a_shapeRow a_nextFace a_grid a_imageX a_imageY a_row a_bestRow a_on a_onRight a_onUp a_queue : Nat) (v_cubes : Int32) (v_faces : Int32) (v_laid : Int32) (v_count : Int32) (v_step : Int32) (v_ended : Int32) (v_nets : Int32) (v_work : Int32) (v_bestWidth : Int32) (v_bestHeight : Int32) (v_bestNet : Int32) (v_shapes : Int32) (v_leads : Nat → Int32) (sz : Nat) (p1 : Int32) (p2 : Int32) (p3 : Int32) (p4 : Int32) {post : Int32 → Prop} (h : wp_X8_nextUp v_leads p1 p2 p3 p4 post) : Met l yX8_nextUp wsX8_nextUp rm_X8_nextUp (va_Pc [.ref a_this, .int p1, .int p2, .int p3, .int p4] (q_pre D cI cZ cJ tb (wd_X8_nextUp cI cZ cJ a_this a_leads a_cubeX a_cubeY a_cubeZ a_cubeOf a_looks a_lies a_handX a_handY a_handRight a_handUp a_order a_choice a_has a_atX a_atY a_right a_up a_bestX a_bestY a_shapeSize a_shapeRow a_nextFace a_grid a_imageX a_imageY a_row a_bestRow a_on a_onRight a_onUp a_queue v_cubes v_faces v_laid v_count v_step v_ended v_nets v_work v_bestWidth v_bestHeight v_bestNet v_shapes v_leads) sz)) (va_Qi (fun r (u : Unit) => post r) (fun u => q_post D cI cZ cJ (va_A (wd_X8_nextUp cI cZ cJ a_this a_leads a_cubeX a_cubeY a_cubeZ a_cubeOf a_looks a_lies a_handX a_handY a_handRight a_handUp a_order a_choice a_has a_atX a_atY a_right a_up a_bestX a_bestY a_shapeSize a_shapeRow a_nextFace a_grid a_imageX a_imageY a_row a_bestRow a_on a_onRight a_onUp a_queue v_cubes v_faces v_laid v_count v_step v_ended v_nets v_work v_bestWidth v_bestHeight v_bestNet v_shapes v_leads) sz) (wd_X8_nextUp cI cZ cJ a_this a_leads a_cubeX a_cubeY a_cubeZ a_cubeOf a_looks a_lies a_handX a_handY a_handRight a_handUp a_order a_choice a_has a_atX a_atY a_right a_up a_bestX a_bestY a_shapeSize a_shapeRow a_nextFace a_grid a_imageX a_imageY a_row a_bestRow a_on a_onRight a_onUp a_queue v_cubes v_faces v_laid v_count v_step v_ended v_nets v_work v_bestWidth v_bestHeight v_bestNet v_shapes v_leads)) (va_A (wd_X8_nextUp cI cZ cJ a_this a_leads a_cubeX a_cubeY a_cubeZ a_cubeOf a_looks a_lies a_handX a_handY a_handRight a_handUp a_order a_choice a_has a_atX a_atY a_right a_up a_bestX a_bestY a_shapeSize a_shapeRow a_nextFace a_grid a_imageX a_imageY a_row a_bestRow a_on a_onRight a_onUp a_queue v_cubes v_faces v_laid v_count v_step v_ended v_nets v_work v_bestWidth v_bestHeight v_bestNet v_shapes v_leads) sz)) 0 0 (va_A (wd_X8_nextUp cI cZ cJ a_this a_leads a_cubeX a_cubeY a_cubeZ a_cubeOf a_looks a_lies a_handX a_handY a_handRight a_handUp a_order a_choice a_has a_atX a_atY a_right a_up a_bestX a_bestY a_shapeSize a_shapeRow a_nextFace a_grid a_imageX a_imageY a_row a_bestRow a_on a_onRight a_onUp a_queue v_cubes v_faces v_laid v_count v_step v_ended v_nets v_work v_bestWidth v_bestHeight v_bestNet v_shapes v_leads) sz) := by
  refine q_walki (cc := cX8_nextUp) (maxL := 6) (own := RX8) (wd := fun (u : Unit) => (wd_X8_nextUp cI cZ cJ a_this a_leads a_cubeX a_cubeY a_cubeZ a_cubeOf a_looks a_lies a_handX a_handY a_handRight a_handUp a_order a_choice a_has a_atX a_atY a_right a_up a_bestX a_bestY a_shapeSize a_shapeRow a_nextFace a_grid a_imageX a_imageY a_row a_bestRow a_on a_onRight a_onUp a_queue v_cubes v_faces v_laid v_count v_step v_ended v_nets v_work v_bestWidth v_bestHeight v_bestNet v_shapes v_leads)) (by decide) rfl rfl (Nat.le_of_ble_eq_true rfl) ?_
  intro p e s m below meth c Q A ls C hA ret hP hD hS hK hSt hNw hl
  obtain ⟨hx, hb, hml, hown, hts⟩ := id C
  replace hl : lv_has ls 6 [(0, .ref a_this), (1, .int p1), (2, .int p2), (3, .int p3), (4, .int p4)] := hl
  unfold wp_X8_nextUp at h
  refine lv_aload_n hx hb dX8_nextUp_0 rfl (lv_at hl 0 rfl) ?_
  refine lv_iload_n hx hb dX8_nextUp_1 rfl (lv_at hl 1 rfl) ?_
  refine lv_iload_n hx hb dX8_nextUp_2 rfl (lv_at hl 2 rfl) ?_
  refine lv_iload_n hx hb dX8_nextUp_3 rfl (lv_at hl 3 rfl) ?_
  refine lv_iload hx hb dX8_nextUp_4 (lv_at hl 4 rfl) ?_
  have hPc := hP.sub (ws' := (wd_X8_sideOf cI cZ cJ)) [] rfl
  have hDc := hD.sub (ws' := (wd_X8_sideOf cI cZ cJ)) [] (by decide) rfl
  have hFc := va_free (wc := (wd_X8_sideOf cI cZ cJ)) hD hS hA [] rfl
  refine va_calli (va_runS (As := [.int p2, .int p3, .int p4]) (rest := [.int p1, .ref a_this]) C (c_X8_sideOf l D cI cZ cJ tb s.heap.size p2 p3 p4 h) (va_cwS 3 hts gX8_nextUp_X8_sideOf rfl rfl rfl (by decide +kernel) ⟨Nat.le_of_ble_eq_true rfl, Nat.le_of_ble_eq_true rfl⟩) ⟨q_pre.blind, fun U hU hW => ⟨rfl, q_pre.of hU hW hPc hK hDc hSt hS hFc hNw⟩⟩ rfl rfl hl.1 rfl (lv_room (Nat.le_of_ble_eq_true rfl)) dX8_nextUp_6 ⟨Nat.zero_le _, Nat.zero_le _⟩) hS (fun q _ h => hFc q h) hFc (fun r_1 u_2 t H1 locs ht hvm hw hB hz1 hk1 hS => ?_)
  obtain ⟨hP1, hK1, hD1⟩ := hB
  rw [ht] at hP1
  obtain ⟨hP, hD⟩ := va_join (wr := [(a_this, .inr (8, [.int v_cubes, .ref a_cubeX, .ref a_cubeY, .ref a_cubeZ, .int v_faces, .ref a_cubeOf, .ref a_looks, .int v_laid, .ref a_lies, .ref a_handX, .ref a_handY, .ref a_handRight, .ref a_handUp, .int v_count, .ref a_order, .ref a_choice, .ref a_has, .ref a_atX, .ref a_atY, .ref a_right, .ref a_up, .int v_step, .int v_ended, .int v_nets, .int v_work, .int v_bestWidth, .int v_bestHeight, .int v_bestNet, .ref a_bestX, .ref a_bestY, .int v_shapes, .ref a_shapeSize, .ref a_shapeRow, .ref a_nextFace, .ref a_leads, .ref a_grid, .ref a_imageX, .ref a_imageY, .ref a_row, .ref a_bestRow, .ref a_on, .ref a_onRight, .ref a_onUp, .ref a_queue])), (a_leads, .inl (cI, 180, .inl v_leads))]) (w1 := (wd_X8_sideOf cI cZ cJ)) hP hD [] [0, 1] rfl rfl (by decide) (by decide) hk1 hFc hP1 hD1
  clear hPc hDc hFc hP1 hD1 hK1 hk1 hz1 ht hvm
  replace h := hw
  clear hw
  generalize H1 = H at hP hS ⊢
  replace hP : va_P D vwCl (wd_X8_nextUp cI cZ cJ a_this a_leads a_cubeX a_cubeY a_cubeZ a_cubeOf a_looks a_lies a_handX a_handY a_handRight a_handUp a_order a_choice a_has a_atX a_atY a_right a_up a_bestX a_bestY a_shapeSize a_shapeRow a_nextFace a_grid a_imageX a_imageY a_row a_bestRow a_on a_onRight a_onUp a_queue v_cubes v_faces v_laid v_count v_step v_ended v_nets v_work v_bestWidth v_bestHeight v_bestNet v_shapes v_leads) H := hP.sub [0, 1] rfl
  replace hD : va_D A (wd_X8_nextUp cI cZ cJ a_this a_leads a_cubeX a_cubeY a_cubeZ a_cubeOf a_looks a_lies a_handX a_handY a_handRight a_handUp a_order a_choice a_has a_atX a_atY a_right a_up a_bestX a_bestY a_shapeSize a_shapeRow a_nextFace a_grid a_imageX a_imageY a_row a_bestRow a_on a_onRight a_onUp a_queue v_cubes v_faces v_laid v_count v_step v_ended v_nets v_work v_bestWidth v_bestHeight v_bestNet v_shapes v_leads) := hD.sub [0, 1] (by decide) rfl
  have hPc := hP.sub (ws' := (wd_X8_lead cI cZ cJ a_this a_leads a_cubeX a_cubeY a_cubeZ a_cubeOf a_looks a_lies a_handX a_handY a_handRight a_handUp a_order a_choice a_has a_atX a_atY a_right a_up a_bestX a_bestY a_shapeSize a_shapeRow a_nextFace a_grid a_imageX a_imageY a_row a_bestRow a_on a_onRight a_onUp a_queue v_cubes v_faces v_laid v_count v_step v_ended v_nets v_work v_bestWidth v_bestHeight v_bestNet v_shapes v_leads)) [0, 1] rfl
  have hDc := hD.sub (ws' := (wd_X8_lead cI cZ cJ a_this a_leads a_cubeX a_cubeY a_cubeZ a_cubeOf a_looks a_lies a_handX a_handY a_handRight a_handUp a_order a_choice a_has a_atX a_atY a_right a_up a_bestX a_bestY a_shapeSize a_shapeRow a_nextFace a_grid a_imageX a_imageY a_row a_bestRow a_on a_onRight a_onUp a_queue v_cubes v_faces v_laid v_count v_step v_ended v_nets v_work v_bestWidth v_bestHeight v_bestNet v_shapes v_leads)) [0, 1] (by decide) rfl
  have hFc := va_free (wc := (wd_X8_lead cI cZ cJ a_this a_leads a_cubeX a_cubeY a_cubeZ a_cubeOf a_looks a_lies a_handX a_handY a_handRight a_handUp a_order a_choice a_has a_atX a_atY a_right a_up a_bestX a_bestY a_shapeSize a_shapeRow a_nextFace a_grid a_imageX a_imageY a_row a_bestRow a_on a_onRight a_onUp a_queue v_cubes v_faces v_laid v_count v_step v_ended v_nets v_work v_bestWidth v_bestHeight v_bestNet v_shapes v_leads)) hD hS hA [0, 1] rfl
  refine va_calli (va_runV (As := [.int p1, .int r_1]) (rest := []) C (c_X8_lead l D cI cZ cJ tb a_this a_leads a_cubeX a_cubeY a_cubeZ a_cubeOf a_looks a_lies a_handX a_handY a_handRight a_handUp a_order a_choice a_has a_atX a_atY a_right a_up a_bestX a_bestY a_shapeSize a_shapeRow a_nextFace a_grid a_imageX a_imageY a_row a_bestRow a_on a_onRight a_onUp a_queue v_cubes v_faces v_laid v_count v_step v_ended v_nets v_work v_bestWidth v_bestHeight v_bestNet v_shapes v_leads H.size p1 r_1 h) (cwV 2 hts gX8_nextUp_X8_lead rfl rfl rfl (by decide +kernel) ⟨Nat.le_of_ble_eq_true rfl, Nat.le_of_ble_eq_true rfl⟩) ⟨q_pre.blind, va_recv hK hP (ci := 8) (q0 := 0) rfl rfl, fun U hU hW => ⟨rfl, q_pre.of hU hW hPc hK hDc hSt hS hFc hNw⟩⟩ rfl rfl hl.1 rfl (lv_room (Nat.le_of_ble_eq_true rfl)) dX8_nextUp_9 ⟨Nat.zero_le _, Nat.zero_le _⟩) hS (fun q _ h => hFc q h) hFc (fun r_3 u_4 t H1 locs ht hvm hw hB hz1 hk1 hS => ?_)
  obtain ⟨hP1, hK1, hD1⟩ := hB
  rw [ht] at hP1
  obtain ⟨hP, hD⟩ := va_join (wr := []) (w1 := (wd_X8_lead cI cZ cJ a_this a_leads a_cubeX a_cubeY a_cubeZ a_cubeOf a_looks a_lies a_handX a_handY a_handRight a_handUp a_order a_choice a_has a_atX a_atY a_right a_up a_bestX a_bestY a_shapeSize a_shapeRow a_nextFace a_grid a_imageX a_imageY a_row a_bestRow a_on a_onRight a_onUp a_queue v_cubes v_faces v_laid v_count v_step v_ended v_nets v_work v_bestWidth v_bestHeight v_bestNet v_shapes v_leads)) hP hD [0, 1] [] rfl rfl (by decide) (by decide) hk1 hFc hP1 hD1
  clear hPc hDc hFc hP1 hD1 hK1 hk1 hz1 ht hvm
  replace h := hw
  clear hw
  generalize H1 = H at hP hS ⊢
  replace hP : va_P D vwCl (wd_X8_nextUp cI cZ cJ a_this a_leads a_cubeX a_cubeY a_cubeZ a_cubeOf a_looks a_lies a_handX a_handY a_handRight a_handUp a_order a_choice a_has a_atX a_atY a_right a_up a_bestX a_bestY a_shapeSize a_shapeRow a_nextFace a_grid a_imageX a_imageY a_row a_bestRow a_on a_onRight a_onUp a_queue v_cubes v_faces v_laid v_count v_step v_ended v_nets v_work v_bestWidth v_bestHeight v_bestNet v_shapes v_leads) H := hP.sub [0, 1] rfl
  replace hD : va_D A (wd_X8_nextUp cI cZ cJ a_this a_leads a_cubeX a_cubeY a_cubeZ a_cubeOf a_looks a_lies a_handX a_handY a_handRight a_handUp a_order a_choice a_has a_atX a_atY a_right a_up a_bestX a_bestY a_shapeSize a_shapeRow a_nextFace a_grid a_imageX a_imageY a_row a_bestRow a_on a_onRight a_onUp a_queue v_cubes v_faces v_laid v_count v_step v_ended v_nets v_work v_bestWidth v_bestHeight v_bestNet v_shapes v_leads) := hD.sub [0, 1] (by decide) rfl
  refine lv_istore (lv' := [(5, .int r_3), (0, .ref a_this), (1, .int p1), (2, .int p2), (3, .int p3), (4, .int p4)]) hx hb dX8_nextUp_12 hl (by decide) rfl (fun ls hl => ?_)
  refine lv_iload_n hx hb dX8_nextUp_14 rfl (lv_at hl 3 rfl) ?_
  refine lv_iconst (v := 1) hx hb dX8_nextUp_15 (by decide) ?_
  refine lv_icmp_ne (tgt := 24) hx hb dX8_nextUp_16 (by decide) (fun hc => ?_) (fun hc => ?_)
  · replace h := h.1 hc
    refine lv_iload_n hx hb dX8_nextUp_24 rfl (lv_at hl 3 rfl) ?_
    refine lv_iconst (v := 3) hx hb dX8_nextUp_25 (by decide) ?_
    refine lv_icmp_ne (tgt := 36) hx hb dX8_nextUp_26 (by decide) (fun hc => ?_) (fun hc => ?_)
    · replace h := h.1 hc
      refine lv_iload hx hb dX8_nextUp_36 (lv_at hl 5 rfl) ?_
      exact ret p4 () _ _ _ 38 dX8_nextUp_38 h hP hD hS
    · replace h := h.2 hc
      refine lv_iload hx hb dX8_nextUp_29 (lv_at hl 0 rfl) ?_
      refine lv_iconst (v := 1) hx hb dX8_nextUp_31 (by decide) ?_
      refine lv_ixor hx hb dX8_nextUp_32 ?_
      refine lv_goto (tgt := 38) hx hb dX8_nextUp_33 (by decide) ?_
      exact ret (r_3 ^^^ (1 : Int32)) () _ _ _ 38 dX8_nextUp_38 h hP hD hS
  · replace h := h.2 hc
    refine lv_iload hx hb dX8_nextUp_19 (lv_at hl 0 rfl) ?_
    refine lv_goto (tgt := 38) hx hb dX8_nextUp_21 (by decide) ?_
    exact ret r_3 () _ _ _ 38 dX8_nextUp_38 h hP hD hS
def wd_X8_grow (cI cZ cJ : ClassId) (a_this a_handRight a_handUp a_handX a_handY a_leads a_lies a_nextFace a_cubeX a_cubeY a_cubeZ a_cubeOf a_looks a_order a_choice a_has a_atX a_atY a_right a_up a_bestX a_bestY a_shapeSize a_shapeRow a_grid a_imageX a_imageY a_row a_bestRow a_on a_onRight a_onUp a_queue : Nat) (v_cubes : Int32) (v_faces : Int32) (v_laid : Int32) (v_count : Int32) (v_step : Int32) (v_ended : Int32) (v_nets : Int32) (v_work : Int32) (v_bestWidth : Int32) (v_bestHeight : Int32) (v_bestNet : Int32) (v_shapes : Int32) (v_handRight : Nat → Int32) (v_handUp : Nat → Int32) (v_handX : Nat → Int32) (v_handY : Nat → Int32) (v_leads : Nat → Int32) (v_lies : Nat → Int32) (v_nextFace : Nat → Int32) : va_W := [(a_this, .inr (8, [.int v_cubes, .ref a_cubeX, .ref a_cubeY, .ref a_cubeZ, .int v_faces, .ref a_cubeOf, .ref a_looks, .int v_laid, .ref a_lies, .ref a_handX, .ref a_handY, .ref a_handRight, .ref a_handUp, .int v_count, .ref a_order, .ref a_choice, .ref a_has, .ref a_atX, .ref a_atY, .ref a_right, .ref a_up, .int v_step, .int v_ended, .int v_nets, .int v_work, .int v_bestWidth, .int v_bestHeight, .int v_bestNet, .ref a_bestX, .ref a_bestY, .int v_shapes, .ref a_shapeSize, .ref a_shapeRow, .ref a_nextFace, .ref a_leads, .ref a_grid, .ref a_imageX, .ref a_imageY, .ref a_row, .ref a_bestRow, .ref a_on, .ref a_onRight, .ref a_onUp, .ref a_queue])),
  (a_handRight, .inl (cI, 30, .inl v_handRight)),
  (a_handUp, .inl (cI, 30, .inl v_handUp)),
  (a_handX, .inl (cI, 30, .inl v_handX)),
  (a_handY, .inl (cI, 30, .inl v_handY)),
  (a_leads, .inl (cI, 180, .inl v_leads)),
  (a_lies, .inl (cZ, 30, .inl v_lies)),
  (a_nextFace, .inl (cI, 180, .inl v_nextFace))]
abbrev rm_X8_grow : Room := { frames := 2, cells := 0, slots := 0, locals := 47 }
set_option maxHeartbeats 4000000 in
set_option maxRecDepth 100000 in
theorem c_X8_grow (l : Launch) (D : va_G) (cI cZ cJ : ClassId) (tb : Nat → Nat) (a_this a_handRight a_handUp a_handX a_handY a_leads a_lies a_nextFace a_cubeX a_cubeY a_cubeZ a_cubeOf a_looks a_order a_choice a_has a_atX a_atY a_right a_up a_bestX a_bestY a_shapeSize a_shapeRow a_grid a_imageX a_imageY a_row a_bestRow a_on a_onRight a_onUp a_queue : Nat) (v_cubes : Int32) (v_faces : Int32) (v_laid : Int32) (v_count : Int32) (v_step : Int32) (v_ended : Int32) (v_nets : Int32) (v_work : Int32) (v_bestWidth : Int32) (v_bestHeight : Int32) (v_bestNet : Int32) (v_shapes : Int32) (v_handRight : Nat → Int32) (v_handUp : Nat → Int32) (v_handX : Nat → Int32) (v_handY : Nat → Int32) (v_leads : Nat → Int32) (v_lies : Nat → Int32) (v_nextFace : Nat → Int32) (sz : Nat) (p1 : Int32) (p2 : Int32) {post : Int32 → Int32 → (Nat → Int32) → (Nat → Int32) → (Nat → Int32) → (Nat → Int32) → (Nat → Int32) → Prop} (h : wp_X8_grow v_faces v_laid v_handRight v_handUp v_handX v_handY v_leads v_lies v_nextFace p1 p2 post) : Met l yX8_grow wsX8_grow rm_X8_grow (va_Pc [.ref a_this, .int p1, .int p2] (q_pre D cI cZ cJ tb (wd_X8_grow cI cZ cJ a_this a_handRight a_handUp a_handX a_handY a_leads a_lies a_nextFace a_cubeX a_cubeY a_cubeZ a_cubeOf a_looks a_order a_choice a_has a_atX a_atY a_right a_up a_bestX a_bestY a_shapeSize a_shapeRow a_grid a_imageX a_imageY a_row a_bestRow a_on a_onRight a_onUp a_queue v_cubes v_faces v_laid v_count v_step v_ended v_nets v_work v_bestWidth v_bestHeight v_bestNet v_shapes v_handRight v_handUp v_handX v_handY v_leads v_lies v_nextFace) sz)) (va_Qi (fun r (u : Int32 × (Nat → Int32) × (Nat → Int32) × (Nat → Int32) × (Nat → Int32) × (Nat → Int32)) => post r u.1 u.2.1 u.2.2.1 u.2.2.2.1 u.2.2.2.2.1 u.2.2.2.2.2) (fun u => q_post D cI cZ cJ (va_A (wd_X8_grow cI cZ cJ a_this a_handRight a_handUp a_handX a_handY a_leads a_lies a_nextFace a_cubeX a_cubeY a_cubeZ a_cubeOf a_looks a_order a_choice a_has a_atX a_atY a_right a_up a_bestX a_bestY a_shapeSize a_shapeRow a_grid a_imageX a_imageY a_row a_bestRow a_on a_onRight a_onUp a_queue v_cubes v_faces v_laid v_count v_step v_ended v_nets v_work v_bestWidth v_bestHeight v_bestNet v_shapes v_handRight v_handUp v_handX v_handY v_leads v_lies v_nextFace) sz) (wd_X8_grow cI cZ cJ a_this a_handRight a_handUp a_handX a_handY a_leads a_lies a_nextFace a_cubeX a_cubeY a_cubeZ a_cubeOf a_looks a_order a_choice a_has a_atX a_atY a_right a_up a_bestX a_bestY a_shapeSize a_shapeRow a_grid a_imageX a_imageY a_row a_bestRow a_on a_onRight a_onUp a_queue v_cubes v_faces u.1 v_count v_step v_ended v_nets v_work v_bestWidth v_bestHeight v_bestNet v_shapes u.2.1 u.2.2.1 u.2.2.2.1 u.2.2.2.2.1 v_leads u.2.2.2.2.2 v_nextFace)) (va_A (wd_X8_grow cI cZ cJ a_this a_handRight a_handUp a_handX a_handY a_leads a_lies a_nextFace a_cubeX a_cubeY a_cubeZ a_cubeOf a_looks a_order a_choice a_has a_atX a_atY a_right a_up a_bestX a_bestY a_shapeSize a_shapeRow a_grid a_imageX a_imageY a_row a_bestRow a_on a_onRight a_onUp a_queue v_cubes v_faces v_laid v_count v_step v_ended v_nets v_work v_bestWidth v_bestHeight v_bestNet v_shapes v_handRight v_handUp v_handX v_handY v_leads v_lies v_nextFace) sz)) 0 0 (va_A (wd_X8_grow cI cZ cJ a_this a_handRight a_handUp a_handX a_handY a_leads a_lies a_nextFace a_cubeX a_cubeY a_cubeZ a_cubeOf a_looks a_order a_choice a_has a_atX a_atY a_right a_up a_bestX a_bestY a_shapeSize a_shapeRow a_grid a_imageX a_imageY a_row a_bestRow a_on a_onRight a_onUp a_queue v_cubes v_faces v_laid v_count v_step v_ended v_nets v_work v_bestWidth v_bestHeight v_bestNet v_shapes v_handRight v_handUp v_handX v_handY v_leads v_lies v_nextFace) sz) := by
  refine q_walki (cc := cX8_grow) (maxL := 7) (own := RX8) (wd := fun (u : Int32 × (Nat → Int32) × (Nat → Int32) × (Nat → Int32) × (Nat → Int32) × (Nat → Int32)) => (wd_X8_grow cI cZ cJ a_this a_handRight a_handUp a_handX a_handY a_leads a_lies a_nextFace a_cubeX a_cubeY a_cubeZ a_cubeOf a_looks a_order a_choice a_has a_atX a_atY a_right a_up a_bestX a_bestY a_shapeSize a_shapeRow a_grid a_imageX a_imageY a_row a_bestRow a_on a_onRight a_onUp a_queue v_cubes v_faces u.1 v_count v_step v_ended v_nets v_work v_bestWidth v_bestHeight v_bestNet v_shapes u.2.1 u.2.2.1 u.2.2.2.1 u.2.2.2.2.1 v_leads u.2.2.2.2.2 v_nextFace)) (by decide) rfl rfl (Nat.le_of_ble_eq_true rfl) ?_
  intro p e s m below meth c Q A ls C hA ret hP hD hS hK hSt hNw hl
  obtain ⟨hx, hb, hml, hown, hts⟩ := id C
  replace hl : lv_has ls 7 [(0, .ref a_this), (1, .int p1), (2, .int p2)] := hl
  have f115 := hts (.fieldLink RX8 115 "NetSearchModel" "faces" "I") (by decide +kernel)
  have iX8 : ∀ w ∈ wsX80, w ∈ wsX8_grow := by decide +kernel
  have f25 := hts (.fieldLink RX8 25 "NetSearchModel" "lies" "[Z") (by decide +kernel)
  have f29 := hts (.fieldLink RX8 29 "NetSearchModel" "handX" "[I") (by decide +kernel)
  have f32 := hts (.fieldLink RX8 32 "NetSearchModel" "handY" "[I") (by decide +kernel)
  have f35 := hts (.fieldLink RX8 35 "NetSearchModel" "handRight" "[I") (by decide +kernel)
  have f38 := hts (.fieldLink RX8 38 "NetSearchModel" "handUp" "[I") (by decide +kernel)
  have f111 := hts (.fieldLink RX8 111 "NetSearchModel" "laid" "I") (by decide +kernel)
  have L94_ok : ∀ (v_laid : Int32) (v_handRight : Nat → Int32) (v_handUp : Nat → Int32) (v_handX : Nat → Int32) (v_handY : Nat → Int32) (v_lies : Nat → Int32) (l1 : Int32) (l2 : Int32) (l3 : Int32) (l4 : Int32) (l5 : Int32) (kx137 : Int32 → Prop) (hkx137 : ∀ (l6 : Int32) (H : Heap) (locs : List Loc) (ls : Array Slot), kx137 l6 → va_P D vwCl (wd_X8_grow cI cZ cJ a_this a_handRight a_handUp a_handX a_handY a_leads a_lies a_nextFace a_cubeX a_cubeY a_cubeZ a_cubeOf a_looks a_order a_choice a_has a_atX a_atY a_right a_up a_bestX a_bestY a_shapeSize a_shapeRow a_grid a_imageX a_imageY a_row a_bestRow a_on a_onRight a_onUp a_queue v_cubes v_faces v_laid v_count v_step v_ended v_nets v_work v_bestWidth v_bestHeight v_bestNet v_shapes v_handRight v_handUp v_handX v_handY v_leads v_lies v_nextFace) H → va_D A (wd_X8_grow cI cZ cJ a_this a_handRight a_handUp a_handX a_handY a_leads a_lies a_nextFace a_cubeX a_cubeY a_cubeZ a_cubeOf a_looks a_order a_choice a_has a_atX a_atY a_right a_up a_bestX a_bestY a_shapeSize a_shapeRow a_grid a_imageX a_imageY a_row a_bestRow a_on a_onRight a_onUp a_queue v_cubes v_faces v_laid v_count v_step v_ended v_nets v_work v_bestWidth v_bestHeight v_bestNet v_shapes v_handRight v_handUp v_handX v_handY v_leads v_lies v_nextFace) → va_S A s.heap H locs → lv_has ls 7 [(6, .int l6)] → W p l e rm_X8_grow s m ([.ref a_this, .int p1, .int p2] : List Value).toArray below meth c H locs 0 0 Q (F0 m 137 ls [])) (kx149 : Prop) (hkx149 : ∀ (H : Heap) (locs : List Loc) (ls : Array Slot), kx149  → va_P D vwCl (wd_X8_grow cI cZ cJ a_this a_handRight a_handUp a_handX a_handY a_leads a_lies a_nextFace a_cubeX a_cubeY a_cubeZ a_cubeOf a_looks a_order a_choice a_has a_atX a_atY a_right a_up a_bestX a_bestY a_shapeSize a_shapeRow a_grid a_imageX a_imageY a_row a_bestRow a_on a_onRight a_onUp a_queue v_cubes v_faces v_laid v_count v_step v_ended v_nets v_work v_bestWidth v_bestHeight v_bestNet v_shapes v_handRight v_handUp v_handX v_handY v_leads v_lies v_nextFace) H → va_D A (wd_X8_grow cI cZ cJ a_this a_handRight a_handUp a_handX a_handY a_leads a_lies a_nextFace a_cubeX a_cubeY a_cubeZ a_cubeOf a_looks a_order a_choice a_has a_atX a_atY a_right a_up a_bestX a_bestY a_shapeSize a_shapeRow a_grid a_imageX a_imageY a_row a_bestRow a_on a_onRight a_onUp a_queue v_cubes v_faces v_laid v_count v_step v_ended v_nets v_work v_bestWidth v_bestHeight v_bestNet v_shapes v_handRight v_handUp v_handX v_handY v_leads v_lies v_nextFace) → va_S A s.heap H locs → lv_has ls 7 [(0, .ref a_this), (1, .int l1), (2, .int l2), (3, .int l3), (4, .int l4), (5, .int l5)] → W p l e rm_X8_grow s m ([.ref a_this, .int p1, .int p2] : List Value).toArray below meth c H locs 0 0 Q (F0 m 149 ls [])) (n : Nat) (l6 : Int32) (H : Heap) (locs : List Loc) (ls : Array Slot), lpN (wl_X8_grow_94 v_faces v_handX v_handY v_lies l4 l5 kx137 kx149) n l6 → va_P D vwCl (wd_X8_grow cI cZ cJ a_this a_handRight a_handUp a_handX a_handY a_leads a_lies a_nextFace a_cubeX a_cubeY a_cubeZ a_cubeOf a_looks a_order a_choice a_has a_atX a_atY a_right a_up a_bestX a_bestY a_shapeSize a_shapeRow a_grid a_imageX a_imageY a_row a_bestRow a_on a_onRight a_onUp a_queue v_cubes v_faces v_laid v_count v_step v_ended v_nets v_work v_bestWidth v_bestHeight v_bestNet v_shapes v_handRight v_handUp v_handX v_handY v_leads v_lies v_nextFace) H → va_D A (wd_X8_grow cI cZ cJ a_this a_handRight a_handUp a_handX a_handY a_leads a_lies a_nextFace a_cubeX a_cubeY a_cubeZ a_cubeOf a_looks a_order a_choice a_has a_atX a_atY a_right a_up a_bestX a_bestY a_shapeSize a_shapeRow a_grid a_imageX a_imageY a_row a_bestRow a_on a_onRight a_onUp a_queue v_cubes v_faces v_laid v_count v_step v_ended v_nets v_work v_bestWidth v_bestHeight v_bestNet v_shapes v_handRight v_handUp v_handX v_handY v_leads v_lies v_nextFace) → va_S A s.heap H locs → lv_has ls 7 [(0, .ref a_this), (1, .int l1), (2, .int l2), (3, .int l3), (4, .int l4), (5, .int l5), (6, .int l6)] → W p l e rm_X8_grow s m ([.ref a_this, .int p1, .int p2] : List Value).toArray below meth c H locs 0 0 Q (F0 m 94 ls []) := by
    intro v_laid v_handRight v_handUp v_handX v_handY v_lies l1 l2 l3 l4 l5 kx137 hkx137 kx149 hkx149 n
    induction n with
    | zero => intro l6 H locs ls h; exact False.elim h
    | succ n ih =>
      intro l6 H locs ls h hP hD hS hl
      have h : wb_X8_grow_94 v_faces v_handX v_handY v_lies l4 l5 kx137 kx149 (fun l6 => lpN (wl_X8_grow_94 v_faces v_handX v_handY v_lies l4 l5 kx137 kx149) n l6) l6 := h
      unfold wb_X8_grow_94 at h
      refine lv_iload hx hb dX8_grow_94 (lv_at hl 6 rfl) ?_
      refine lv_aload_n hx hb dX8_grow_96 rfl (lv_at hl 0 rfl) ?_
      refine va_get (D := D) (ci := 8) (v := .int v_faces) (C := RX8) (T := TX8) (N := 44) hx hb hts iX8 hown hK hP 0 rfl rfl 4 (by decide) f115 (fun _ h9 => h9) rfl dX8_grow_97 ?_
      refine lv_icmp_ge (tgt := 149) hx hb dX8_grow_100 (by decide) (fun hc => ?_) (fun hc => ?_)
      · replace h := h.1 hc
        exact hkx149  _ _ _ h hP hD hS (lv_sub hl [0, 1, 2, 3, 4, 5] rfl)
      · replace h := h.2 hc
        refine lv_aload_n hx hb dX8_grow_103 rfl (lv_at hl 0 rfl) ?_
        refine va_get (D := D) (ci := 8) (v := .ref a_lies) (C := RX8) (T := TX8) (N := 44) hx hb hts iX8 hown hK hP 0 rfl rfl 8 (by decide) f25 (fun _ h9 => h9) rfl dX8_grow_104 ?_
        refine lv_iload hx hb dX8_grow_107 (lv_at hl 6 rfl) ?_
        obtain ⟨hin, h⟩ := h
        refine va_zald hx hb hK hP 6 1 rfl rfl hin dX8_grow_109 ?_
        refine lv_if_eq (tgt := 143) hx hb dX8_grow_110 (by decide) (fun hc => ?_) (fun hc => ?_)
        · replace h := h.1 hc
          refine lv_iinc (v := (l6 + (1 : Int32))) (lv' := [(6, .int (l6 + (1 : Int32))), (0, .ref a_this), (1, .int l1), (2, .int l2), (3, .int l3), (4, .int l4), (5, .int l5)]) hx hb dX8_grow_143 hl (k := 6) rfl rfl (by decide) rfl (fun ls hl => ?_)
          refine lv_goto (tgt := 94) hx hb dX8_grow_146 (by decide) ?_
          exact ih (l6 + (1 : Int32)) _ _ _ h hP hD hS (lv_sub hl [1, 2, 3, 4, 5, 6, 0] rfl)
        · replace h := h.2 hc
          refine lv_aload_n hx hb dX8_grow_113 rfl (lv_at hl 0 rfl) ?_
          refine va_get (D := D) (ci := 8) (v := .ref a_handX) (C := RX8) (T := TX8) (N := 44) hx hb hts iX8 hown hK hP 0 rfl rfl 9 (by decide) f29 (fun _ h9 => h9) rfl dX8_grow_114 ?_
          refine lv_iload hx hb dX8_grow_117 (lv_at hl 6 rfl) ?_
          obtain ⟨hin, h⟩ := h
          refine va_iald hx hb hK hP 3 0 rfl rfl hin dX8_grow_119 ?_
          refine lv_iload hx hb dX8_grow_120 (lv_at hl 4 rfl) ?_
          refine lv_icmp_ne (tgt := 143) hx hb dX8_grow_122 (by decide) (fun hc => ?_) (fun hc => ?_)
          · replace h := h.1 hc
            refine lv_iinc (v := (l6 + (1 : Int32))) (lv' := [(6, .int (l6 + (1 : Int32))), (0, .ref a_this), (1, .int l1), (2, .int l2), (3, .int l3), (4, .int l4), (5, .int l5)]) hx hb dX8_grow_143 hl (k := 6) rfl rfl (by decide) rfl (fun ls hl => ?_)
            refine lv_goto (tgt := 94) hx hb dX8_grow_146 (by decide) ?_
            exact ih (l6 + (1 : Int32)) _ _ _ h hP hD hS (lv_sub hl [1, 2, 3, 4, 5, 6, 0] rfl)
          · replace h := h.2 hc
            refine lv_aload_n hx hb dX8_grow_125 rfl (lv_at hl 0 rfl) ?_
            refine va_get (D := D) (ci := 8) (v := .ref a_handY) (C := RX8) (T := TX8) (N := 44) hx hb hts iX8 hown hK hP 0 rfl rfl 10 (by decide) f32 (fun _ h9 => h9) rfl dX8_grow_126 ?_
            refine lv_iload hx hb dX8_grow_129 (lv_at hl 6 rfl) ?_
            obtain ⟨hin, h⟩ := h
            refine va_iald hx hb hK hP 4 0 rfl rfl hin dX8_grow_131 ?_
            refine lv_iload hx hb dX8_grow_132 (lv_at hl 5 rfl) ?_
            refine lv_icmp_ne (tgt := 143) hx hb dX8_grow_134 (by decide) (fun hc => ?_) (fun hc => ?_)
            · replace h := h.1 hc
              refine lv_iinc (v := (l6 + (1 : Int32))) (lv' := [(6, .int (l6 + (1 : Int32))), (0, .ref a_this), (1, .int l1), (2, .int l2), (3, .int l3), (4, .int l4), (5, .int l5)]) hx hb dX8_grow_143 hl (k := 6) rfl rfl (by decide) rfl (fun ls hl => ?_)
              refine lv_goto (tgt := 94) hx hb dX8_grow_146 (by decide) ?_
              exact ih (l6 + (1 : Int32)) _ _ _ h hP hD hS (lv_sub hl [1, 2, 3, 4, 5, 6, 0] rfl)
            · replace h := h.2 hc
              exact hkx137 l6 _ _ _ h hP hD hS (lv_sub hl [6] rfl)
  unfold wp_X8_grow at h
  refine lv_aload_n hx hb dX8_grow_0 rfl (lv_at hl 0 rfl) ?_
  refine lv_iload_n hx hb dX8_grow_1 rfl (lv_at hl 1 rfl) ?_
  have hPc := hP.sub (ws' := (wd_X8_isFace cI cZ cJ a_this a_cubeX a_cubeY a_cubeZ a_cubeOf a_looks a_lies a_handX a_handY a_handRight a_handUp a_order a_choice a_has a_atX a_atY a_right a_up a_bestX a_bestY a_shapeSize a_shapeRow a_nextFace a_leads a_grid a_imageX a_imageY a_row a_bestRow a_on a_onRight a_onUp a_queue v_cubes v_faces v_laid v_count v_step v_ended v_nets v_work v_bestWidth v_bestHeight v_bestNet v_shapes)) [0] rfl
  have hDc := hD.sub (ws' := (wd_X8_isFace cI cZ cJ a_this a_cubeX a_cubeY a_cubeZ a_cubeOf a_looks a_lies a_handX a_handY a_handRight a_handUp a_order a_choice a_has a_atX a_atY a_right a_up a_bestX a_bestY a_shapeSize a_shapeRow a_nextFace a_leads a_grid a_imageX a_imageY a_row a_bestRow a_on a_onRight a_onUp a_queue v_cubes v_faces v_laid v_count v_step v_ended v_nets v_work v_bestWidth v_bestHeight v_bestNet v_shapes)) [0] (by decide) rfl
  have hFc := va_free (wc := (wd_X8_isFace cI cZ cJ a_this a_cubeX a_cubeY a_cubeZ a_cubeOf a_looks a_lies a_handX a_handY a_handRight a_handUp a_order a_choice a_has a_atX a_atY a_right a_up a_bestX a_bestY a_shapeSize a_shapeRow a_nextFace a_leads a_grid a_imageX a_imageY a_row a_bestRow a_on a_onRight a_onUp a_queue v_cubes v_faces v_laid v_count v_step v_ended v_nets v_work v_bestWidth v_bestHeight v_bestNet v_shapes)) hD hS hA [0] rfl
  refine va_calli (va_runV (As := [.int p1]) (rest := []) C (c_X8_isFace l D cI cZ cJ tb a_this a_cubeX a_cubeY a_cubeZ a_cubeOf a_looks a_lies a_handX a_handY a_handRight a_handUp a_order a_choice a_has a_atX a_atY a_right a_up a_bestX a_bestY a_shapeSize a_shapeRow a_nextFace a_leads a_grid a_imageX a_imageY a_row a_bestRow a_on a_onRight a_onUp a_queue v_cubes v_faces v_laid v_count v_step v_ended v_nets v_work v_bestWidth v_bestHeight v_bestNet v_shapes s.heap.size p1 h) (cwV 1 hts gX8_grow_X8_isFace rfl rfl rfl (by decide +kernel) ⟨Nat.le_of_ble_eq_true rfl, Nat.le_of_ble_eq_true rfl⟩) ⟨q_pre.blind, va_recv hK hP (ci := 8) (q0 := 0) rfl rfl, fun U hU hW => ⟨rfl, q_pre.of hU hW hPc hK hDc hSt hS hFc hNw⟩⟩ rfl rfl hl.1 rfl (lv_room (Nat.le_of_ble_eq_true rfl)) dX8_grow_2 ⟨Nat.zero_le _, Nat.zero_le _⟩) hS (fun q _ h => hFc q h) hFc (fun r_1 u_2 t H1 locs ht hvm hw hB hz1 hk1 hS => ?_)
  obtain ⟨hP1, hK1, hD1⟩ := hB
  rw [ht] at hP1
  obtain ⟨hP, hD⟩ := va_join (wr := [(a_handRight, .inl (cI, 30, .inl v_handRight)), (a_handUp, .inl (cI, 30, .inl v_handUp)), (a_handX, .inl (cI, 30, .inl v_handX)), (a_handY, .inl (cI, 30, .inl v_handY)), (a_leads, .inl (cI, 180, .inl v_leads)), (a_lies, .inl (cZ, 30, .inl v_lies)), (a_nextFace, .inl (cI, 180, .inl v_nextFace))]) (w1 := (wd_X8_isFace cI cZ cJ a_this a_cubeX a_cubeY a_cubeZ a_cubeOf a_looks a_lies a_handX a_handY a_handRight a_handUp a_order a_choice a_has a_atX a_atY a_right a_up a_bestX a_bestY a_shapeSize a_shapeRow a_nextFace a_leads a_grid a_imageX a_imageY a_row a_bestRow a_on a_onRight a_onUp a_queue v_cubes v_faces v_laid v_count v_step v_ended v_nets v_work v_bestWidth v_bestHeight v_bestNet v_shapes)) hP hD [0] [1, 2, 3, 4, 5, 6, 7] rfl rfl (by decide) (by decide) hk1 hFc hP1 hD1
  clear hPc hDc hFc hP1 hD1 hK1 hk1 hz1 ht hvm
  replace h := hw
  clear hw
  generalize H1 = H at hP hS ⊢
  replace hP : va_P D vwCl (wd_X8_grow cI cZ cJ a_this a_handRight a_handUp a_handX a_handY a_leads a_lies a_nextFace a_cubeX a_cubeY a_cubeZ a_cubeOf a_looks a_order a_choice a_has a_atX a_atY a_right a_up a_bestX a_bestY a_shapeSize a_shapeRow a_grid a_imageX a_imageY a_row a_bestRow a_on a_onRight a_onUp a_queue v_cubes v_faces v_laid v_count v_step v_ended v_nets v_work v_bestWidth v_bestHeight v_bestNet v_shapes v_handRight v_handUp v_handX v_handY v_leads v_lies v_nextFace) H := hP.sub [7, 0, 1, 2, 3, 4, 5, 6] rfl
  replace hD : va_D A (wd_X8_grow cI cZ cJ a_this a_handRight a_handUp a_handX a_handY a_leads a_lies a_nextFace a_cubeX a_cubeY a_cubeZ a_cubeOf a_looks a_order a_choice a_has a_atX a_atY a_right a_up a_bestX a_bestY a_shapeSize a_shapeRow a_grid a_imageX a_imageY a_row a_bestRow a_on a_onRight a_onUp a_queue v_cubes v_faces v_laid v_count v_step v_ended v_nets v_work v_bestWidth v_bestHeight v_bestNet v_shapes v_handRight v_handUp v_handX v_handY v_leads v_lies v_nextFace) := hD.sub [7, 0, 1, 2, 3, 4, 5, 6] (by decide) rfl
  refine lv_if_eq (tgt := 17) hx hb dX8_grow_5 (by decide) (fun hc => ?_) (fun hc => ?_)
  · replace h := h.1 hc
    refine lv_iconst (v := -1) hx hb dX8_grow_17 (by decide) ?_
    exact ret (-1 : Int32) (v_laid, v_handRight, v_handUp, v_handX, v_handY, v_lies) _ _ _ 18 dX8_grow_18 h hP hD hS
  · replace h := h.2 hc
    refine lv_iload_n hx hb dX8_grow_8 rfl (lv_at hl 2 rfl) ?_
    refine lv_if_lt (tgt := 17) hx hb dX8_grow_9 (by decide) (fun hc => ?_) (fun hc => ?_)
    · replace h := h.1 hc
      refine lv_iconst (v := -1) hx hb dX8_grow_17 (by decide) ?_
      exact ret (-1 : Int32) (v_laid, v_handRight, v_handUp, v_handX, v_handY, v_lies) _ _ _ 18 dX8_grow_18 h hP hD hS
    · replace h := h.2 hc
      refine lv_iload_n hx hb dX8_grow_12 rfl (lv_at hl 2 rfl) ?_
      refine lv_iconst (v := 3) hx hb dX8_grow_13 (by decide) ?_
      refine lv_icmp_le (tgt := 19) hx hb dX8_grow_14 (by decide) (fun hc => ?_) (fun hc => ?_)
      · replace h := h.1 hc
        refine lv_aload_n hx hb dX8_grow_19 rfl (lv_at hl 0 rfl) ?_
        refine va_get (D := D) (ci := 8) (v := .ref a_lies) (C := RX8) (T := TX8) (N := 44) hx hb hts iX8 hown hK hP 0 rfl rfl 8 (by decide) f25 (fun _ h9 => h9) rfl dX8_grow_20 ?_
        refine lv_iload_n hx hb dX8_grow_23 rfl (lv_at hl 1 rfl) ?_
        obtain ⟨hin, h⟩ := h
        refine va_zald hx hb hK hP 6 1 rfl rfl hin dX8_grow_24 ?_
        refine lv_if_ne (tgt := 31) hx hb dX8_grow_25 (by decide) (fun hc => ?_) (fun hc => ?_)
        · replace h := h.1 hc
          refine lv_aload_n hx hb dX8_grow_31 rfl (lv_at hl 0 rfl) ?_
          refine lv_iload_n hx hb dX8_grow_32 rfl (lv_at hl 1 rfl) ?_
          refine lv_iload_n hx hb dX8_grow_33 rfl (lv_at hl 2 rfl) ?_
          refine lv_aload_n hx hb dX8_grow_34 rfl (lv_at hl 0 rfl) ?_
          refine va_get (D := D) (ci := 8) (v := .ref a_handRight) (C := RX8) (T := TX8) (N := 44) hx hb hts iX8 hown hK hP 0 rfl rfl 11 (by decide) f35 (fun _ h9 => h9) rfl dX8_grow_35 ?_
          refine lv_iload_n hx hb dX8_grow_38 rfl (lv_at hl 1 rfl) ?_
          obtain ⟨hin, h⟩ := h
          refine va_iald hx hb hK hP 1 0 rfl rfl hin dX8_grow_39 ?_
          refine lv_aload_n hx hb dX8_grow_40 rfl (lv_at hl 0 rfl) ?_
          refine va_get (D := D) (ci := 8) (v := .ref a_handUp) (C := RX8) (T := TX8) (N := 44) hx hb hts iX8 hown hK hP 0 rfl rfl 12 (by decide) f38 (fun _ h9 => h9) rfl dX8_grow_41 ?_
          refine lv_iload_n hx hb dX8_grow_44 rfl (lv_at hl 1 rfl) ?_
          obtain ⟨hin, h⟩ := h
          refine va_iald hx hb hK hP 2 0 rfl rfl hin dX8_grow_45 ?_
          have hPc := hP.sub (ws' := (wd_X8_sideOf cI cZ cJ)) [] rfl
          have hDc := hD.sub (ws' := (wd_X8_sideOf cI cZ cJ)) [] (by decide) rfl
          have hFc := va_free (wc := (wd_X8_sideOf cI cZ cJ)) hD hS hA [] rfl
          refine va_calli (va_runS (As := [.int p2, .int (v_handRight p1.toNatClampNeg), .int (v_handUp p1.toNatClampNeg)]) (rest := [.int p1, .ref a_this]) C (c_X8_sideOf l D cI cZ cJ tb H.size p2 (v_handRight p1.toNatClampNeg) (v_handUp p1.toNatClampNeg) h) (va_cwS 3 hts gX8_grow_X8_sideOf rfl rfl rfl (by decide +kernel) ⟨Nat.le_of_ble_eq_true rfl, Nat.le_of_ble_eq_true rfl⟩) ⟨q_pre.blind, fun U hU hW => ⟨rfl, q_pre.of hU hW hPc hK hDc hSt hS hFc hNw⟩⟩ rfl rfl hl.1 rfl (lv_room (Nat.le_of_ble_eq_true rfl)) dX8_grow_46 ⟨Nat.zero_le _, Nat.zero_le _⟩) hS (fun q _ h => hFc q h) hFc (fun r_3 u_4 t H1 locs ht hvm hw hB hz1 hk1 hS => ?_)
          obtain ⟨hP1, hK1, hD1⟩ := hB
          rw [ht] at hP1
          obtain ⟨hP, hD⟩ := va_join (wr := [(a_this, .inr (8, [.int v_cubes, .ref a_cubeX, .ref a_cubeY, .ref a_cubeZ, .int v_faces, .ref a_cubeOf, .ref a_looks, .int v_laid, .ref a_lies, .ref a_handX, .ref a_handY, .ref a_handRight, .ref a_handUp, .int v_count, .ref a_order, .ref a_choice, .ref a_has, .ref a_atX, .ref a_atY, .ref a_right, .ref a_up, .int v_step, .int v_ended, .int v_nets, .int v_work, .int v_bestWidth, .int v_bestHeight, .int v_bestNet, .ref a_bestX, .ref a_bestY, .int v_shapes, .ref a_shapeSize, .ref a_shapeRow, .ref a_nextFace, .ref a_leads, .ref a_grid, .ref a_imageX, .ref a_imageY, .ref a_row, .ref a_bestRow, .ref a_on, .ref a_onRight, .ref a_onUp, .ref a_queue])), (a_handRight, .inl (cI, 30, .inl v_handRight)), (a_handUp, .inl (cI, 30, .inl v_handUp)), (a_handX, .inl (cI, 30, .inl v_handX)), (a_handY, .inl (cI, 30, .inl v_handY)), (a_leads, .inl (cI, 180, .inl v_leads)), (a_lies, .inl (cZ, 30, .inl v_lies)), (a_nextFace, .inl (cI, 180, .inl v_nextFace))]) (w1 := (wd_X8_sideOf cI cZ cJ)) hP hD [] [0, 1, 2, 3, 4, 5, 6, 7] rfl rfl (by decide) (by decide) hk1 hFc hP1 hD1
          clear hPc hDc hFc hP1 hD1 hK1 hk1 hz1 ht hvm
          replace h := hw
          clear hw
          generalize H1 = H at hP hS ⊢
          replace hP : va_P D vwCl (wd_X8_grow cI cZ cJ a_this a_handRight a_handUp a_handX a_handY a_leads a_lies a_nextFace a_cubeX a_cubeY a_cubeZ a_cubeOf a_looks a_order a_choice a_has a_atX a_atY a_right a_up a_bestX a_bestY a_shapeSize a_shapeRow a_grid a_imageX a_imageY a_row a_bestRow a_on a_onRight a_onUp a_queue v_cubes v_faces v_laid v_count v_step v_ended v_nets v_work v_bestWidth v_bestHeight v_bestNet v_shapes v_handRight v_handUp v_handX v_handY v_leads v_lies v_nextFace) H := hP.sub [0, 1, 2, 3, 4, 5, 6, 7] rfl
          replace hD : va_D A (wd_X8_grow cI cZ cJ a_this a_handRight a_handUp a_handX a_handY a_leads a_lies a_nextFace a_cubeX a_cubeY a_cubeZ a_cubeOf a_looks a_order a_choice a_has a_atX a_atY a_right a_up a_bestX a_bestY a_shapeSize a_shapeRow a_grid a_imageX a_imageY a_row a_bestRow a_on a_onRight a_onUp a_queue v_cubes v_faces v_laid v_count v_step v_ended v_nets v_work v_bestWidth v_bestHeight v_bestNet v_shapes v_handRight v_handUp v_handX v_handY v_leads v_lies v_nextFace) := hD.sub [0, 1, 2, 3, 4, 5, 6, 7] (by decide) rfl
          have hPc := hP.sub (ws' := (wd_X8_beside cI cZ cJ a_this a_nextFace a_cubeX a_cubeY a_cubeZ a_cubeOf a_looks a_lies a_handX a_handY a_handRight a_handUp a_order a_choice a_has a_atX a_atY a_right a_up a_bestX a_bestY a_shapeSize a_shapeRow a_leads a_grid a_imageX a_imageY a_row a_bestRow a_on a_onRight a_onUp a_queue v_cubes v_faces v_laid v_count v_step v_ended v_nets v_work v_bestWidth v_bestHeight v_bestNet v_shapes v_nextFace)) [0, 7] rfl
          have hDc := hD.sub (ws' := (wd_X8_beside cI cZ cJ a_this a_nextFace a_cubeX a_cubeY a_cubeZ a_cubeOf a_looks a_lies a_handX a_handY a_handRight a_handUp a_order a_choice a_has a_atX a_atY a_right a_up a_bestX a_bestY a_shapeSize a_shapeRow a_leads a_grid a_imageX a_imageY a_row a_bestRow a_on a_onRight a_onUp a_queue v_cubes v_faces v_laid v_count v_step v_ended v_nets v_work v_bestWidth v_bestHeight v_bestNet v_shapes v_nextFace)) [0, 7] (by decide) rfl
          have hFc := va_free (wc := (wd_X8_beside cI cZ cJ a_this a_nextFace a_cubeX a_cubeY a_cubeZ a_cubeOf a_looks a_lies a_handX a_handY a_handRight a_handUp a_order a_choice a_has a_atX a_atY a_right a_up a_bestX a_bestY a_shapeSize a_shapeRow a_leads a_grid a_imageX a_imageY a_row a_bestRow a_on a_onRight a_onUp a_queue v_cubes v_faces v_laid v_count v_step v_ended v_nets v_work v_bestWidth v_bestHeight v_bestNet v_shapes v_nextFace)) hD hS hA [0, 7] rfl
          refine va_calli (va_runV (As := [.int p1, .int r_3]) (rest := []) C (c_X8_beside l D cI cZ cJ tb a_this a_nextFace a_cubeX a_cubeY a_cubeZ a_cubeOf a_looks a_lies a_handX a_handY a_handRight a_handUp a_order a_choice a_has a_atX a_atY a_right a_up a_bestX a_bestY a_shapeSize a_shapeRow a_leads a_grid a_imageX a_imageY a_row a_bestRow a_on a_onRight a_onUp a_queue v_cubes v_faces v_laid v_count v_step v_ended v_nets v_work v_bestWidth v_bestHeight v_bestNet v_shapes v_nextFace H.size p1 r_3 h) (cwV 2 hts gX8_grow_X8_beside rfl rfl rfl (by decide +kernel) ⟨Nat.le_of_ble_eq_true rfl, Nat.le_of_ble_eq_true rfl⟩) ⟨q_pre.blind, va_recv hK hP (ci := 8) (q0 := 0) rfl rfl, fun U hU hW => ⟨rfl, q_pre.of hU hW hPc hK hDc hSt hS hFc hNw⟩⟩ rfl rfl hl.1 rfl (lv_room (Nat.le_of_ble_eq_true rfl)) dX8_grow_49 ⟨Nat.zero_le _, Nat.zero_le _⟩) hS (fun q _ h => hFc q h) hFc (fun r_5 u_6 t H1 locs ht hvm hw hB hz1 hk1 hS => ?_)
          obtain ⟨hP1, hK1, hD1⟩ := hB
          rw [ht] at hP1
          obtain ⟨hP, hD⟩ := va_join (wr := [(a_handRight, .inl (cI, 30, .inl v_handRight)), (a_handUp, .inl (cI, 30, .inl v_handUp)), (a_handX, .inl (cI, 30, .inl v_handX)), (a_handY, .inl (cI, 30, .inl v_handY)), (a_leads, .inl (cI, 180, .inl v_leads)), (a_lies, .inl (cZ, 30, .inl v_lies))]) (w1 := (wd_X8_beside cI cZ cJ a_this a_nextFace a_cubeX a_cubeY a_cubeZ a_cubeOf a_looks a_lies a_handX a_handY a_handRight a_handUp a_order a_choice a_has a_atX a_atY a_right a_up a_bestX a_bestY a_shapeSize a_shapeRow a_leads a_grid a_imageX a_imageY a_row a_bestRow a_on a_onRight a_onUp a_queue v_cubes v_faces v_laid v_count v_step v_ended v_nets v_work v_bestWidth v_bestHeight v_bestNet v_shapes v_nextFace)) hP hD [0, 7] [1, 2, 3, 4, 5, 6] rfl rfl (by decide) (by decide) hk1 hFc hP1 hD1
          clear hPc hDc hFc hP1 hD1 hK1 hk1 hz1 ht hvm
          replace h := hw
          clear hw
          generalize H1 = H at hP hS ⊢
          replace hP : va_P D vwCl (wd_X8_grow cI cZ cJ a_this a_handRight a_handUp a_handX a_handY a_leads a_lies a_nextFace a_cubeX a_cubeY a_cubeZ a_cubeOf a_looks a_order a_choice a_has a_atX a_atY a_right a_up a_bestX a_bestY a_shapeSize a_shapeRow a_grid a_imageX a_imageY a_row a_bestRow a_on a_onRight a_onUp a_queue v_cubes v_faces v_laid v_count v_step v_ended v_nets v_work v_bestWidth v_bestHeight v_bestNet v_shapes v_handRight v_handUp v_handX v_handY v_leads v_lies v_nextFace) H := hP.sub [6, 0, 1, 2, 3, 4, 5, 7] rfl
          replace hD : va_D A (wd_X8_grow cI cZ cJ a_this a_handRight a_handUp a_handX a_handY a_leads a_lies a_nextFace a_cubeX a_cubeY a_cubeZ a_cubeOf a_looks a_order a_choice a_has a_atX a_atY a_right a_up a_bestX a_bestY a_shapeSize a_shapeRow a_grid a_imageX a_imageY a_row a_bestRow a_on a_onRight a_onUp a_queue v_cubes v_faces v_laid v_count v_step v_ended v_nets v_work v_bestWidth v_bestHeight v_bestNet v_shapes v_handRight v_handUp v_handX v_handY v_leads v_lies v_nextFace) := hD.sub [6, 0, 1, 2, 3, 4, 5, 7] (by decide) rfl
          refine lv_istore_n (lv' := [(3, .int r_5), (0, .ref a_this), (1, .int p1), (2, .int p2)]) hx hb dX8_grow_52 rfl hl (by decide) rfl (fun ls hl => ?_)
          refine lv_aload_n hx hb dX8_grow_53 rfl (lv_at hl 1 rfl) ?_
          refine va_get (D := D) (ci := 8) (v := .ref a_lies) (C := RX8) (T := TX8) (N := 44) hx hb hts iX8 hown hK hP 0 rfl rfl 8 (by decide) f25 (fun _ h9 => h9) rfl dX8_grow_54 ?_
          refine lv_iload_n hx hb dX8_grow_57 rfl (lv_at hl 0 rfl) ?_
          obtain ⟨hin, h⟩ := h
          refine va_zald hx hb hK hP 6 1 rfl rfl hin dX8_grow_58 ?_
          refine lv_if_eq (tgt := 65) hx hb dX8_grow_59 (by decide) (fun hc => ?_) (fun hc => ?_)
          · replace h := h.1 hc
            refine lv_aload_n hx hb dX8_grow_65 rfl (lv_at hl 1 rfl) ?_
            refine va_get (D := D) (ci := 8) (v := .ref a_handX) (C := RX8) (T := TX8) (N := 44) hx hb hts iX8 hown hK hP 0 rfl rfl 9 (by decide) f29 (fun _ h9 => h9) rfl dX8_grow_66 ?_
            refine lv_iload_n hx hb dX8_grow_69 rfl (lv_at hl 2 rfl) ?_
            obtain ⟨hin, h⟩ := h
            refine va_iald hx hb hK hP 3 0 rfl rfl hin dX8_grow_70 ?_
            refine lv_iload_n hx hb dX8_grow_71 rfl (lv_at hl 3 rfl) ?_
            have hPc := hP.sub (ws' := (wd_X8_sideX cI cZ cJ)) [] rfl
            have hDc := hD.sub (ws' := (wd_X8_sideX cI cZ cJ)) [] (by decide) rfl
            have hFc := va_free (wc := (wd_X8_sideX cI cZ cJ)) hD hS hA [] rfl
            refine va_calli (va_runS (As := [.int p2]) (rest := [.int (v_handX p1.toNatClampNeg)]) C (c_X8_sideX l D cI cZ cJ tb H.size p2 h) (va_cwS 1 hts gX8_grow_X8_sideX rfl rfl rfl (by decide +kernel) ⟨Nat.le_of_ble_eq_true rfl, Nat.le_of_ble_eq_true rfl⟩) ⟨q_pre.blind, fun U hU hW => ⟨rfl, q_pre.of hU hW hPc hK hDc hSt hS hFc hNw⟩⟩ rfl rfl hl.1 rfl (lv_room (Nat.le_of_ble_eq_true rfl)) dX8_grow_72 ⟨Nat.zero_le _, Nat.zero_le _⟩) hS (fun q _ h => hFc q h) hFc (fun r_7 u_8 t H1 locs ht hvm hw hB hz1 hk1 hS => ?_)
            obtain ⟨hP1, hK1, hD1⟩ := hB
            rw [ht] at hP1
            obtain ⟨hP, hD⟩ := va_join (wr := [(a_this, .inr (8, [.int v_cubes, .ref a_cubeX, .ref a_cubeY, .ref a_cubeZ, .int v_faces, .ref a_cubeOf, .ref a_looks, .int v_laid, .ref a_lies, .ref a_handX, .ref a_handY, .ref a_handRight, .ref a_handUp, .int v_count, .ref a_order, .ref a_choice, .ref a_has, .ref a_atX, .ref a_atY, .ref a_right, .ref a_up, .int v_step, .int v_ended, .int v_nets, .int v_work, .int v_bestWidth, .int v_bestHeight, .int v_bestNet, .ref a_bestX, .ref a_bestY, .int v_shapes, .ref a_shapeSize, .ref a_shapeRow, .ref a_nextFace, .ref a_leads, .ref a_grid, .ref a_imageX, .ref a_imageY, .ref a_row, .ref a_bestRow, .ref a_on, .ref a_onRight, .ref a_onUp, .ref a_queue])), (a_handRight, .inl (cI, 30, .inl v_handRight)), (a_handUp, .inl (cI, 30, .inl v_handUp)), (a_handX, .inl (cI, 30, .inl v_handX)), (a_handY, .inl (cI, 30, .inl v_handY)), (a_leads, .inl (cI, 180, .inl v_leads)), (a_lies, .inl (cZ, 30, .inl v_lies)), (a_nextFace, .inl (cI, 180, .inl v_nextFace))]) (w1 := (wd_X8_sideX cI cZ cJ)) hP hD [] [0, 1, 2, 3, 4, 5, 6, 7] rfl rfl (by decide) (by decide) hk1 hFc hP1 hD1
            clear hPc hDc hFc hP1 hD1 hK1 hk1 hz1 ht hvm
            replace h := hw
            clear hw
            generalize H1 = H at hP hS ⊢
            replace hP : va_P D vwCl (wd_X8_grow cI cZ cJ a_this a_handRight a_handUp a_handX a_handY a_leads a_lies a_nextFace a_cubeX a_cubeY a_cubeZ a_cubeOf a_looks a_order a_choice a_has a_atX a_atY a_right a_up a_bestX a_bestY a_shapeSize a_shapeRow a_grid a_imageX a_imageY a_row a_bestRow a_on a_onRight a_onUp a_queue v_cubes v_faces v_laid v_count v_step v_ended v_nets v_work v_bestWidth v_bestHeight v_bestNet v_shapes v_handRight v_handUp v_handX v_handY v_leads v_lies v_nextFace) H := hP.sub [0, 1, 2, 3, 4, 5, 6, 7] rfl
            replace hD : va_D A (wd_X8_grow cI cZ cJ a_this a_handRight a_handUp a_handX a_handY a_leads a_lies a_nextFace a_cubeX a_cubeY a_cubeZ a_cubeOf a_looks a_order a_choice a_has a_atX a_atY a_right a_up a_bestX a_bestY a_shapeSize a_shapeRow a_grid a_imageX a_imageY a_row a_bestRow a_on a_onRight a_onUp a_queue v_cubes v_faces v_laid v_count v_step v_ended v_nets v_work v_bestWidth v_bestHeight v_bestNet v_shapes v_handRight v_handUp v_handX v_handY v_leads v_lies v_nextFace) := hD.sub [0, 1, 2, 3, 4, 5, 6, 7] (by decide) rfl
            refine lv_iadd hx hb dX8_grow_75 ?_
            refine lv_istore (lv' := [(4, .int ((v_handX p1.toNatClampNeg) + r_7)), (3, .int r_5), (0, .ref a_this), (1, .int p1), (2, .int p2)]) hx hb dX8_grow_76 hl (by decide) rfl (fun ls hl => ?_)
            refine lv_aload_n hx hb dX8_grow_78 rfl (lv_at hl 2 rfl) ?_
            refine va_get (D := D) (ci := 8) (v := .ref a_handY) (C := RX8) (T := TX8) (N := 44) hx hb hts iX8 hown hK hP 0 rfl rfl 10 (by decide) f32 (fun _ h9 => h9) rfl dX8_grow_79 ?_
            refine lv_iload_n hx hb dX8_grow_82 rfl (lv_at hl 3 rfl) ?_
            obtain ⟨hin, h⟩ := h
            refine va_iald hx hb hK hP 4 0 rfl rfl hin dX8_grow_83 ?_
            refine lv_iload_n hx hb dX8_grow_84 rfl (lv_at hl 4 rfl) ?_
            have hPc := hP.sub (ws' := (wd_X8_sideY cI cZ cJ)) [] rfl
            have hDc := hD.sub (ws' := (wd_X8_sideY cI cZ cJ)) [] (by decide) rfl
            have hFc := va_free (wc := (wd_X8_sideY cI cZ cJ)) hD hS hA [] rfl
            refine va_calli (va_runS (As := [.int p2]) (rest := [.int (v_handY p1.toNatClampNeg)]) C (c_X8_sideY l D cI cZ cJ tb H.size p2 h) (va_cwS 1 hts gX8_grow_X8_sideY rfl rfl rfl (by decide +kernel) ⟨Nat.le_of_ble_eq_true rfl, Nat.le_of_ble_eq_true rfl⟩) ⟨q_pre.blind, fun U hU hW => ⟨rfl, q_pre.of hU hW hPc hK hDc hSt hS hFc hNw⟩⟩ rfl rfl hl.1 rfl (lv_room (Nat.le_of_ble_eq_true rfl)) dX8_grow_85 ⟨Nat.zero_le _, Nat.zero_le _⟩) hS (fun q _ h => hFc q h) hFc (fun r_9 u_10 t H1 locs ht hvm hw hB hz1 hk1 hS => ?_)
            obtain ⟨hP1, hK1, hD1⟩ := hB
            rw [ht] at hP1
            obtain ⟨hP, hD⟩ := va_join (wr := [(a_this, .inr (8, [.int v_cubes, .ref a_cubeX, .ref a_cubeY, .ref a_cubeZ, .int v_faces, .ref a_cubeOf, .ref a_looks, .int v_laid, .ref a_lies, .ref a_handX, .ref a_handY, .ref a_handRight, .ref a_handUp, .int v_count, .ref a_order, .ref a_choice, .ref a_has, .ref a_atX, .ref a_atY, .ref a_right, .ref a_up, .int v_step, .int v_ended, .int v_nets, .int v_work, .int v_bestWidth, .int v_bestHeight, .int v_bestNet, .ref a_bestX, .ref a_bestY, .int v_shapes, .ref a_shapeSize, .ref a_shapeRow, .ref a_nextFace, .ref a_leads, .ref a_grid, .ref a_imageX, .ref a_imageY, .ref a_row, .ref a_bestRow, .ref a_on, .ref a_onRight, .ref a_onUp, .ref a_queue])), (a_handRight, .inl (cI, 30, .inl v_handRight)), (a_handUp, .inl (cI, 30, .inl v_handUp)), (a_handX, .inl (cI, 30, .inl v_handX)), (a_handY, .inl (cI, 30, .inl v_handY)), (a_leads, .inl (cI, 180, .inl v_leads)), (a_lies, .inl (cZ, 30, .inl v_lies)), (a_nextFace, .inl (cI, 180, .inl v_nextFace))]) (w1 := (wd_X8_sideY cI cZ cJ)) hP hD [] [0, 1, 2, 3, 4, 5, 6, 7] rfl rfl (by decide) (by decide) hk1 hFc hP1 hD1
            clear hPc hDc hFc hP1 hD1 hK1 hk1 hz1 ht hvm
            replace h := hw
            clear hw
            generalize H1 = H at hP hS ⊢
            replace hP : va_P D vwCl (wd_X8_grow cI cZ cJ a_this a_handRight a_handUp a_handX a_handY a_leads a_lies a_nextFace a_cubeX a_cubeY a_cubeZ a_cubeOf a_looks a_order a_choice a_has a_atX a_atY a_right a_up a_bestX a_bestY a_shapeSize a_shapeRow a_grid a_imageX a_imageY a_row a_bestRow a_on a_onRight a_onUp a_queue v_cubes v_faces v_laid v_count v_step v_ended v_nets v_work v_bestWidth v_bestHeight v_bestNet v_shapes v_handRight v_handUp v_handX v_handY v_leads v_lies v_nextFace) H := hP.sub [0, 1, 2, 3, 4, 5, 6, 7] rfl
            replace hD : va_D A (wd_X8_grow cI cZ cJ a_this a_handRight a_handUp a_handX a_handY a_leads a_lies a_nextFace a_cubeX a_cubeY a_cubeZ a_cubeOf a_looks a_order a_choice a_has a_atX a_atY a_right a_up a_bestX a_bestY a_shapeSize a_shapeRow a_grid a_imageX a_imageY a_row a_bestRow a_on a_onRight a_onUp a_queue v_cubes v_faces v_laid v_count v_step v_ended v_nets v_work v_bestWidth v_bestHeight v_bestNet v_shapes v_handRight v_handUp v_handX v_handY v_leads v_lies v_nextFace) := hD.sub [0, 1, 2, 3, 4, 5, 6, 7] (by decide) rfl
            refine lv_iadd hx hb dX8_grow_88 ?_
            refine lv_istore (lv' := [(5, .int ((v_handY p1.toNatClampNeg) + r_9)), (4, .int ((v_handX p1.toNatClampNeg) + r_7)), (3, .int r_5), (0, .ref a_this), (1, .int p1), (2, .int p2)]) hx hb dX8_grow_89 hl (by decide) rfl (fun ls hl => ?_)
            refine lv_iconst (v := 0) hx hb dX8_grow_91 (by decide) ?_
            refine lv_istore (lv' := [(6, .int (0 : Int32)), (5, .int ((v_handY p1.toNatClampNeg) + r_9)), (4, .int ((v_handX p1.toNatClampNeg) + r_7)), (3, .int r_5), (0, .ref a_this), (1, .int p1), (2, .int p2)]) hx hb dX8_grow_92 hl (by decide) rfl (fun ls hl => ?_)
            obtain ⟨n, h⟩ := h
            refine L94_ok v_laid v_handRight v_handUp v_handX v_handY v_lies p1 p2 r_5 ((v_handX p1.toNatClampNeg) + r_7) ((v_handY p1.toNatClampNeg) + r_9) _ (fun l6_11 H locs ls h hP hD hS hl => ?_) _ (fun  H locs ls h hP hD hS hl => ?_) n (0 : Int32) _ _ _ h hP hD hS (lv_sub hl [4, 5, 6, 3, 2, 1, 0] rfl)
            · refine lv_bipush (v := -10) hx hb dX8_grow_137 (by decide) ?_
              refine lv_iload hx hb dX8_grow_139 (lv_at hl 0 rfl) ?_
              refine lv_isub hx hb dX8_grow_141 ?_
              exact ret ((-10 : Int32) - l6_11) (v_laid, v_handRight, v_handUp, v_handX, v_handY, v_lies) _ _ _ 142 dX8_grow_142 h hP hD hS
            · refine lv_aload_n hx hb dX8_grow_149 rfl (lv_at hl 0 rfl) ?_
              refine va_get (D := D) (ci := 8) (v := .ref a_lies) (C := RX8) (T := TX8) (N := 44) hx hb hts iX8 hown hK hP 0 rfl rfl 8 (by decide) f25 (fun _ h9 => h9) rfl dX8_grow_150 ?_
              refine lv_iload_n hx hb dX8_grow_153 rfl (lv_at hl 3 rfl) ?_
              refine lv_iconst (v := 1) hx hb dX8_grow_154 (by decide) ?_
              obtain ⟨hin, h⟩ := h
              refine va_zast hx hb hK hP hD hS 6 1 rfl rfl hin dX8_grow_155 (fun H locs hP hD hS => ?_)
              replace hP : va_P D vwCl (wd_X8_grow cI cZ cJ a_this a_handRight a_handUp a_handX a_handY a_leads a_lies a_nextFace a_cubeX a_cubeY a_cubeZ a_cubeOf a_looks a_order a_choice a_has a_atX a_atY a_right a_up a_bestX a_bestY a_shapeSize a_shapeRow a_grid a_imageX a_imageY a_row a_bestRow a_on a_onRight a_onUp a_queue v_cubes v_faces v_laid v_count v_step v_ended v_nets v_work v_bestWidth v_bestHeight v_bestNet v_shapes v_handRight v_handUp v_handX v_handY v_leads (upd v_lies r_5.toNatClampNeg (vp_nar .boolean (1 : Int32))) v_nextFace) H := hP
              replace hD : va_D A (wd_X8_grow cI cZ cJ a_this a_handRight a_handUp a_handX a_handY a_leads a_lies a_nextFace a_cubeX a_cubeY a_cubeZ a_cubeOf a_looks a_order a_choice a_has a_atX a_atY a_right a_up a_bestX a_bestY a_shapeSize a_shapeRow a_grid a_imageX a_imageY a_row a_bestRow a_on a_onRight a_onUp a_queue v_cubes v_faces v_laid v_count v_step v_ended v_nets v_work v_bestWidth v_bestHeight v_bestNet v_shapes v_handRight v_handUp v_handX v_handY v_leads (upd v_lies r_5.toNatClampNeg (vp_nar .boolean (1 : Int32))) v_nextFace) := hD
              refine lv_aload_n hx hb dX8_grow_156 rfl (lv_at hl 0 rfl) ?_
              refine va_get (D := D) (ci := 8) (v := .ref a_handX) (C := RX8) (T := TX8) (N := 44) hx hb hts iX8 hown hK hP 0 rfl rfl 9 (by decide) f29 (fun _ h9 => h9) rfl dX8_grow_157 ?_
              refine lv_iload_n hx hb dX8_grow_160 rfl (lv_at hl 3 rfl) ?_
              refine lv_iload hx hb dX8_grow_161 (lv_at hl 4 rfl) ?_
              obtain ⟨hin, h⟩ := h
              refine va_iast hx hb hK hP hD hS 3 0 rfl rfl hin dX8_grow_163 (fun H locs hP hD hS => ?_)
              replace hP : va_P D vwCl (wd_X8_grow cI cZ cJ a_this a_handRight a_handUp a_handX a_handY a_leads a_lies a_nextFace a_cubeX a_cubeY a_cubeZ a_cubeOf a_looks a_order a_choice a_has a_atX a_atY a_right a_up a_bestX a_bestY a_shapeSize a_shapeRow a_grid a_imageX a_imageY a_row a_bestRow a_on a_onRight a_onUp a_queue v_cubes v_faces v_laid v_count v_step v_ended v_nets v_work v_bestWidth v_bestHeight v_bestNet v_shapes v_handRight v_handUp (upd v_handX r_5.toNatClampNeg ((v_handX p1.toNatClampNeg) + r_7)) v_handY v_leads (upd v_lies r_5.toNatClampNeg (vp_nar .boolean (1 : Int32))) v_nextFace) H := hP
              replace hD : va_D A (wd_X8_grow cI cZ cJ a_this a_handRight a_handUp a_handX a_handY a_leads a_lies a_nextFace a_cubeX a_cubeY a_cubeZ a_cubeOf a_looks a_order a_choice a_has a_atX a_atY a_right a_up a_bestX a_bestY a_shapeSize a_shapeRow a_grid a_imageX a_imageY a_row a_bestRow a_on a_onRight a_onUp a_queue v_cubes v_faces v_laid v_count v_step v_ended v_nets v_work v_bestWidth v_bestHeight v_bestNet v_shapes v_handRight v_handUp (upd v_handX r_5.toNatClampNeg ((v_handX p1.toNatClampNeg) + r_7)) v_handY v_leads (upd v_lies r_5.toNatClampNeg (vp_nar .boolean (1 : Int32))) v_nextFace) := hD
              refine lv_aload_n hx hb dX8_grow_164 rfl (lv_at hl 0 rfl) ?_
              refine va_get (D := D) (ci := 8) (v := .ref a_handY) (C := RX8) (T := TX8) (N := 44) hx hb hts iX8 hown hK hP 0 rfl rfl 10 (by decide) f32 (fun _ h9 => h9) rfl dX8_grow_165 ?_
              refine lv_iload_n hx hb dX8_grow_168 rfl (lv_at hl 3 rfl) ?_
              refine lv_iload hx hb dX8_grow_169 (lv_at hl 5 rfl) ?_
              obtain ⟨hin, h⟩ := h
              refine va_iast hx hb hK hP hD hS 4 0 rfl rfl hin dX8_grow_171 (fun H locs hP hD hS => ?_)
              replace hP : va_P D vwCl (wd_X8_grow cI cZ cJ a_this a_handRight a_handUp a_handX a_handY a_leads a_lies a_nextFace a_cubeX a_cubeY a_cubeZ a_cubeOf a_looks a_order a_choice a_has a_atX a_atY a_right a_up a_bestX a_bestY a_shapeSize a_shapeRow a_grid a_imageX a_imageY a_row a_bestRow a_on a_onRight a_onUp a_queue v_cubes v_faces v_laid v_count v_step v_ended v_nets v_work v_bestWidth v_bestHeight v_bestNet v_shapes v_handRight v_handUp (upd v_handX r_5.toNatClampNeg ((v_handX p1.toNatClampNeg) + r_7)) (upd v_handY r_5.toNatClampNeg ((v_handY p1.toNatClampNeg) + r_9)) v_leads (upd v_lies r_5.toNatClampNeg (vp_nar .boolean (1 : Int32))) v_nextFace) H := hP
              replace hD : va_D A (wd_X8_grow cI cZ cJ a_this a_handRight a_handUp a_handX a_handY a_leads a_lies a_nextFace a_cubeX a_cubeY a_cubeZ a_cubeOf a_looks a_order a_choice a_has a_atX a_atY a_right a_up a_bestX a_bestY a_shapeSize a_shapeRow a_grid a_imageX a_imageY a_row a_bestRow a_on a_onRight a_onUp a_queue v_cubes v_faces v_laid v_count v_step v_ended v_nets v_work v_bestWidth v_bestHeight v_bestNet v_shapes v_handRight v_handUp (upd v_handX r_5.toNatClampNeg ((v_handX p1.toNatClampNeg) + r_7)) (upd v_handY r_5.toNatClampNeg ((v_handY p1.toNatClampNeg) + r_9)) v_leads (upd v_lies r_5.toNatClampNeg (vp_nar .boolean (1 : Int32))) v_nextFace) := hD
              refine lv_aload_n hx hb dX8_grow_172 rfl (lv_at hl 0 rfl) ?_
              refine va_get (D := D) (ci := 8) (v := .ref a_handRight) (C := RX8) (T := TX8) (N := 44) hx hb hts iX8 hown hK hP 0 rfl rfl 11 (by decide) f35 (fun _ h9 => h9) rfl dX8_grow_173 ?_
              refine lv_iload_n hx hb dX8_grow_176 rfl (lv_at hl 3 rfl) ?_
              refine lv_aload_n hx hb dX8_grow_177 rfl (lv_at hl 0 rfl) ?_
              refine lv_iload_n hx hb dX8_grow_178 rfl (lv_at hl 1 rfl) ?_
              refine lv_iload_n hx hb dX8_grow_179 rfl (lv_at hl 2 rfl) ?_
              refine lv_aload_n hx hb dX8_grow_180 rfl (lv_at hl 0 rfl) ?_
              refine va_get (D := D) (ci := 8) (v := .ref a_handRight) (C := RX8) (T := TX8) (N := 44) hx hb hts iX8 hown hK hP 0 rfl rfl 11 (by decide) f35 (fun _ h9 => h9) rfl dX8_grow_181 ?_
              refine lv_iload_n hx hb dX8_grow_184 rfl (lv_at hl 1 rfl) ?_
              obtain ⟨hin, h⟩ := h
              refine va_iald hx hb hK hP 1 0 rfl rfl hin dX8_grow_185 ?_
              refine lv_aload_n hx hb dX8_grow_186 rfl (lv_at hl 0 rfl) ?_
              refine va_get (D := D) (ci := 8) (v := .ref a_handUp) (C := RX8) (T := TX8) (N := 44) hx hb hts iX8 hown hK hP 0 rfl rfl 12 (by decide) f38 (fun _ h9 => h9) rfl dX8_grow_187 ?_
              refine lv_iload_n hx hb dX8_grow_190 rfl (lv_at hl 1 rfl) ?_
              obtain ⟨hin, h⟩ := h
              refine va_iald hx hb hK hP 2 0 rfl rfl hin dX8_grow_191 ?_
              have hPc := hP.sub (ws' := (wd_X8_nextRight cI cZ cJ a_this a_leads a_cubeX a_cubeY a_cubeZ a_cubeOf a_looks a_lies a_handX a_handY a_handRight a_handUp a_order a_choice a_has a_atX a_atY a_right a_up a_bestX a_bestY a_shapeSize a_shapeRow a_nextFace a_grid a_imageX a_imageY a_row a_bestRow a_on a_onRight a_onUp a_queue v_cubes v_faces v_laid v_count v_step v_ended v_nets v_work v_bestWidth v_bestHeight v_bestNet v_shapes v_leads)) [0, 5] rfl
              have hDc := hD.sub (ws' := (wd_X8_nextRight cI cZ cJ a_this a_leads a_cubeX a_cubeY a_cubeZ a_cubeOf a_looks a_lies a_handX a_handY a_handRight a_handUp a_order a_choice a_has a_atX a_atY a_right a_up a_bestX a_bestY a_shapeSize a_shapeRow a_nextFace a_grid a_imageX a_imageY a_row a_bestRow a_on a_onRight a_onUp a_queue v_cubes v_faces v_laid v_count v_step v_ended v_nets v_work v_bestWidth v_bestHeight v_bestNet v_shapes v_leads)) [0, 5] (by decide) rfl
              have hFc := va_free (wc := (wd_X8_nextRight cI cZ cJ a_this a_leads a_cubeX a_cubeY a_cubeZ a_cubeOf a_looks a_lies a_handX a_handY a_handRight a_handUp a_order a_choice a_has a_atX a_atY a_right a_up a_bestX a_bestY a_shapeSize a_shapeRow a_nextFace a_grid a_imageX a_imageY a_row a_bestRow a_on a_onRight a_onUp a_queue v_cubes v_faces v_laid v_count v_step v_ended v_nets v_work v_bestWidth v_bestHeight v_bestNet v_shapes v_leads)) hD hS hA [0, 5] rfl
              refine va_calli (va_runV (As := [.int p1, .int p2, .int (v_handRight p1.toNatClampNeg), .int (v_handUp p1.toNatClampNeg)]) (rest := [.int r_5, .ref a_handRight]) C (c_X8_nextRight l D cI cZ cJ tb a_this a_leads a_cubeX a_cubeY a_cubeZ a_cubeOf a_looks a_lies a_handX a_handY a_handRight a_handUp a_order a_choice a_has a_atX a_atY a_right a_up a_bestX a_bestY a_shapeSize a_shapeRow a_nextFace a_grid a_imageX a_imageY a_row a_bestRow a_on a_onRight a_onUp a_queue v_cubes v_faces v_laid v_count v_step v_ended v_nets v_work v_bestWidth v_bestHeight v_bestNet v_shapes v_leads H.size p1 p2 (v_handRight p1.toNatClampNeg) (v_handUp p1.toNatClampNeg) h) (cwV 4 hts gX8_grow_X8_nextRight rfl rfl rfl (by decide +kernel) ⟨Nat.le_of_ble_eq_true rfl, Nat.le_of_ble_eq_true rfl⟩) ⟨q_pre.blind, va_recv hK hP (ci := 8) (q0 := 0) rfl rfl, fun U hU hW => ⟨rfl, q_pre.of hU hW hPc hK hDc hSt hS hFc hNw⟩⟩ rfl rfl hl.1 rfl (lv_room (Nat.le_of_ble_eq_true rfl)) dX8_grow_192 ⟨Nat.zero_le _, Nat.zero_le _⟩) hS (fun q _ h => hFc q h) hFc (fun r_12 u_13 t H1 locs ht hvm hw hB hz1 hk1 hS => ?_)
              obtain ⟨hP1, hK1, hD1⟩ := hB
              rw [ht] at hP1
              obtain ⟨hP, hD⟩ := va_join (wr := [(a_handRight, .inl (cI, 30, .inl v_handRight)), (a_handUp, .inl (cI, 30, .inl v_handUp)), (a_handX, .inl (cI, 30, .inl (upd v_handX r_5.toNatClampNeg ((v_handX p1.toNatClampNeg) + r_7)))), (a_handY, .inl (cI, 30, .inl (upd v_handY r_5.toNatClampNeg ((v_handY p1.toNatClampNeg) + r_9)))), (a_lies, .inl (cZ, 30, .inl (upd v_lies r_5.toNatClampNeg (vp_nar .boolean (1 : Int32))))), (a_nextFace, .inl (cI, 180, .inl v_nextFace))]) (w1 := (wd_X8_nextRight cI cZ cJ a_this a_leads a_cubeX a_cubeY a_cubeZ a_cubeOf a_looks a_lies a_handX a_handY a_handRight a_handUp a_order a_choice a_has a_atX a_atY a_right a_up a_bestX a_bestY a_shapeSize a_shapeRow a_nextFace a_grid a_imageX a_imageY a_row a_bestRow a_on a_onRight a_onUp a_queue v_cubes v_faces v_laid v_count v_step v_ended v_nets v_work v_bestWidth v_bestHeight v_bestNet v_shapes v_leads)) hP hD [0, 5] [1, 2, 3, 4, 6, 7] rfl rfl (by decide) (by decide) hk1 hFc hP1 hD1
              clear hPc hDc hFc hP1 hD1 hK1 hk1 hz1 ht hvm
              replace h := hw
              clear hw
              generalize H1 = H at hP hS ⊢
              replace hP : va_P D vwCl (wd_X8_grow cI cZ cJ a_this a_handRight a_handUp a_handX a_handY a_leads a_lies a_nextFace a_cubeX a_cubeY a_cubeZ a_cubeOf a_looks a_order a_choice a_has a_atX a_atY a_right a_up a_bestX a_bestY a_shapeSize a_shapeRow a_grid a_imageX a_imageY a_row a_bestRow a_on a_onRight a_onUp a_queue v_cubes v_faces v_laid v_count v_step v_ended v_nets v_work v_bestWidth v_bestHeight v_bestNet v_shapes v_handRight v_handUp (upd v_handX r_5.toNatClampNeg ((v_handX p1.toNatClampNeg) + r_7)) (upd v_handY r_5.toNatClampNeg ((v_handY p1.toNatClampNeg) + r_9)) v_leads (upd v_lies r_5.toNatClampNeg (vp_nar .boolean (1 : Int32))) v_nextFace) H := hP.sub [6, 0, 1, 2, 3, 7, 4, 5] rfl
              replace hD : va_D A (wd_X8_grow cI cZ cJ a_this a_handRight a_handUp a_handX a_handY a_leads a_lies a_nextFace a_cubeX a_cubeY a_cubeZ a_cubeOf a_looks a_order a_choice a_has a_atX a_atY a_right a_up a_bestX a_bestY a_shapeSize a_shapeRow a_grid a_imageX a_imageY a_row a_bestRow a_on a_onRight a_onUp a_queue v_cubes v_faces v_laid v_count v_step v_ended v_nets v_work v_bestWidth v_bestHeight v_bestNet v_shapes v_handRight v_handUp (upd v_handX r_5.toNatClampNeg ((v_handX p1.toNatClampNeg) + r_7)) (upd v_handY r_5.toNatClampNeg ((v_handY p1.toNatClampNeg) + r_9)) v_leads (upd v_lies r_5.toNatClampNeg (vp_nar .boolean (1 : Int32))) v_nextFace) := hD.sub [6, 0, 1, 2, 3, 7, 4, 5] (by decide) rfl
              obtain ⟨hin, h⟩ := h
              refine va_iast hx hb hK hP hD hS 1 0 rfl rfl hin dX8_grow_195 (fun H locs hP hD hS => ?_)
              replace hP : va_P D vwCl (wd_X8_grow cI cZ cJ a_this a_handRight a_handUp a_handX a_handY a_leads a_lies a_nextFace a_cubeX a_cubeY a_cubeZ a_cubeOf a_looks a_order a_choice a_has a_atX a_atY a_right a_up a_bestX a_bestY a_shapeSize a_shapeRow a_grid a_imageX a_imageY a_row a_bestRow a_on a_onRight a_onUp a_queue v_cubes v_faces v_laid v_count v_step v_ended v_nets v_work v_bestWidth v_bestHeight v_bestNet v_shapes (upd v_handRight r_5.toNatClampNeg r_12) v_handUp (upd v_handX r_5.toNatClampNeg ((v_handX p1.toNatClampNeg) + r_7)) (upd v_handY r_5.toNatClampNeg ((v_handY p1.toNatClampNeg) + r_9)) v_leads (upd v_lies r_5.toNatClampNeg (vp_nar .boolean (1 : Int32))) v_nextFace) H := hP
              replace hD : va_D A (wd_X8_grow cI cZ cJ a_this a_handRight a_handUp a_handX a_handY a_leads a_lies a_nextFace a_cubeX a_cubeY a_cubeZ a_cubeOf a_looks a_order a_choice a_has a_atX a_atY a_right a_up a_bestX a_bestY a_shapeSize a_shapeRow a_grid a_imageX a_imageY a_row a_bestRow a_on a_onRight a_onUp a_queue v_cubes v_faces v_laid v_count v_step v_ended v_nets v_work v_bestWidth v_bestHeight v_bestNet v_shapes (upd v_handRight r_5.toNatClampNeg r_12) v_handUp (upd v_handX r_5.toNatClampNeg ((v_handX p1.toNatClampNeg) + r_7)) (upd v_handY r_5.toNatClampNeg ((v_handY p1.toNatClampNeg) + r_9)) v_leads (upd v_lies r_5.toNatClampNeg (vp_nar .boolean (1 : Int32))) v_nextFace) := hD
              refine lv_aload_n hx hb dX8_grow_196 rfl (lv_at hl 0 rfl) ?_
              refine va_get (D := D) (ci := 8) (v := .ref a_handUp) (C := RX8) (T := TX8) (N := 44) hx hb hts iX8 hown hK hP 0 rfl rfl 12 (by decide) f38 (fun _ h9 => h9) rfl dX8_grow_197 ?_
              refine lv_iload_n hx hb dX8_grow_200 rfl (lv_at hl 3 rfl) ?_
              refine lv_aload_n hx hb dX8_grow_201 rfl (lv_at hl 0 rfl) ?_
              refine lv_iload_n hx hb dX8_grow_202 rfl (lv_at hl 1 rfl) ?_
              refine lv_iload_n hx hb dX8_grow_203 rfl (lv_at hl 2 rfl) ?_
              refine lv_aload_n hx hb dX8_grow_204 rfl (lv_at hl 0 rfl) ?_
              refine va_get (D := D) (ci := 8) (v := .ref a_handRight) (C := RX8) (T := TX8) (N := 44) hx hb hts iX8 hown hK hP 0 rfl rfl 11 (by decide) f35 (fun _ h9 => h9) rfl dX8_grow_205 ?_
              refine lv_iload_n hx hb dX8_grow_208 rfl (lv_at hl 1 rfl) ?_
              obtain ⟨hin, h⟩ := h
              refine va_iald hx hb hK hP 1 0 rfl rfl hin dX8_grow_209 ?_
              refine lv_aload_n hx hb dX8_grow_210 rfl (lv_at hl 0 rfl) ?_
              refine va_get (D := D) (ci := 8) (v := .ref a_handUp) (C := RX8) (T := TX8) (N := 44) hx hb hts iX8 hown hK hP 0 rfl rfl 12 (by decide) f38 (fun _ h9 => h9) rfl dX8_grow_211 ?_
              refine lv_iload_n hx hb dX8_grow_214 rfl (lv_at hl 1 rfl) ?_
              obtain ⟨hin, h⟩ := h
              refine va_iald hx hb hK hP 2 0 rfl rfl hin dX8_grow_215 ?_
              have hPc := hP.sub (ws' := (wd_X8_nextUp cI cZ cJ a_this a_leads a_cubeX a_cubeY a_cubeZ a_cubeOf a_looks a_lies a_handX a_handY a_handRight a_handUp a_order a_choice a_has a_atX a_atY a_right a_up a_bestX a_bestY a_shapeSize a_shapeRow a_nextFace a_grid a_imageX a_imageY a_row a_bestRow a_on a_onRight a_onUp a_queue v_cubes v_faces v_laid v_count v_step v_ended v_nets v_work v_bestWidth v_bestHeight v_bestNet v_shapes v_leads)) [0, 5] rfl
              have hDc := hD.sub (ws' := (wd_X8_nextUp cI cZ cJ a_this a_leads a_cubeX a_cubeY a_cubeZ a_cubeOf a_looks a_lies a_handX a_handY a_handRight a_handUp a_order a_choice a_has a_atX a_atY a_right a_up a_bestX a_bestY a_shapeSize a_shapeRow a_nextFace a_grid a_imageX a_imageY a_row a_bestRow a_on a_onRight a_onUp a_queue v_cubes v_faces v_laid v_count v_step v_ended v_nets v_work v_bestWidth v_bestHeight v_bestNet v_shapes v_leads)) [0, 5] (by decide) rfl
              have hFc := va_free (wc := (wd_X8_nextUp cI cZ cJ a_this a_leads a_cubeX a_cubeY a_cubeZ a_cubeOf a_looks a_lies a_handX a_handY a_handRight a_handUp a_order a_choice a_has a_atX a_atY a_right a_up a_bestX a_bestY a_shapeSize a_shapeRow a_nextFace a_grid a_imageX a_imageY a_row a_bestRow a_on a_onRight a_onUp a_queue v_cubes v_faces v_laid v_count v_step v_ended v_nets v_work v_bestWidth v_bestHeight v_bestNet v_shapes v_leads)) hD hS hA [0, 5] rfl
              refine va_calli (va_runV (As := [.int p1, .int p2, .int ((upd v_handRight r_5.toNatClampNeg r_12) p1.toNatClampNeg), .int (v_handUp p1.toNatClampNeg)]) (rest := [.int r_5, .ref a_handUp]) C (c_X8_nextUp l D cI cZ cJ tb a_this a_leads a_cubeX a_cubeY a_cubeZ a_cubeOf a_looks a_lies a_handX a_handY a_handRight a_handUp a_order a_choice a_has a_atX a_atY a_right a_up a_bestX a_bestY a_shapeSize a_shapeRow a_nextFace a_grid a_imageX a_imageY a_row a_bestRow a_on a_onRight a_onUp a_queue v_cubes v_faces v_laid v_count v_step v_ended v_nets v_work v_bestWidth v_bestHeight v_bestNet v_shapes v_leads H.size p1 p2 ((upd v_handRight r_5.toNatClampNeg r_12) p1.toNatClampNeg) (v_handUp p1.toNatClampNeg) h) (cwV 4 hts gX8_grow_X8_nextUp rfl rfl rfl (by decide +kernel) ⟨Nat.le_of_ble_eq_true rfl, Nat.le_of_ble_eq_true rfl⟩) ⟨q_pre.blind, va_recv hK hP (ci := 8) (q0 := 0) rfl rfl, fun U hU hW => ⟨rfl, q_pre.of hU hW hPc hK hDc hSt hS hFc hNw⟩⟩ rfl rfl hl.1 rfl (lv_room (Nat.le_of_ble_eq_true rfl)) dX8_grow_216 ⟨Nat.zero_le _, Nat.zero_le _⟩) hS (fun q _ h => hFc q h) hFc (fun r_14 u_15 t H1 locs ht hvm hw hB hz1 hk1 hS => ?_)
              obtain ⟨hP1, hK1, hD1⟩ := hB
              rw [ht] at hP1
              obtain ⟨hP, hD⟩ := va_join (wr := [(a_handRight, .inl (cI, 30, .inl (upd v_handRight r_5.toNatClampNeg r_12))), (a_handUp, .inl (cI, 30, .inl v_handUp)), (a_handX, .inl (cI, 30, .inl (upd v_handX r_5.toNatClampNeg ((v_handX p1.toNatClampNeg) + r_7)))), (a_handY, .inl (cI, 30, .inl (upd v_handY r_5.toNatClampNeg ((v_handY p1.toNatClampNeg) + r_9)))), (a_lies, .inl (cZ, 30, .inl (upd v_lies r_5.toNatClampNeg (vp_nar .boolean (1 : Int32))))), (a_nextFace, .inl (cI, 180, .inl v_nextFace))]) (w1 := (wd_X8_nextUp cI cZ cJ a_this a_leads a_cubeX a_cubeY a_cubeZ a_cubeOf a_looks a_lies a_handX a_handY a_handRight a_handUp a_order a_choice a_has a_atX a_atY a_right a_up a_bestX a_bestY a_shapeSize a_shapeRow a_nextFace a_grid a_imageX a_imageY a_row a_bestRow a_on a_onRight a_onUp a_queue v_cubes v_faces v_laid v_count v_step v_ended v_nets v_work v_bestWidth v_bestHeight v_bestNet v_shapes v_leads)) hP hD [0, 5] [1, 2, 3, 4, 6, 7] rfl rfl (by decide) (by decide) hk1 hFc hP1 hD1
              clear hPc hDc hFc hP1 hD1 hK1 hk1 hz1 ht hvm
              replace h := hw
              clear hw
              generalize H1 = H at hP hS ⊢
              replace hP : va_P D vwCl (wd_X8_grow cI cZ cJ a_this a_handRight a_handUp a_handX a_handY a_leads a_lies a_nextFace a_cubeX a_cubeY a_cubeZ a_cubeOf a_looks a_order a_choice a_has a_atX a_atY a_right a_up a_bestX a_bestY a_shapeSize a_shapeRow a_grid a_imageX a_imageY a_row a_bestRow a_on a_onRight a_onUp a_queue v_cubes v_faces v_laid v_count v_step v_ended v_nets v_work v_bestWidth v_bestHeight v_bestNet v_shapes (upd v_handRight r_5.toNatClampNeg r_12) v_handUp (upd v_handX r_5.toNatClampNeg ((v_handX p1.toNatClampNeg) + r_7)) (upd v_handY r_5.toNatClampNeg ((v_handY p1.toNatClampNeg) + r_9)) v_leads (upd v_lies r_5.toNatClampNeg (vp_nar .boolean (1 : Int32))) v_nextFace) H := hP.sub [6, 0, 1, 2, 3, 7, 4, 5] rfl
              replace hD : va_D A (wd_X8_grow cI cZ cJ a_this a_handRight a_handUp a_handX a_handY a_leads a_lies a_nextFace a_cubeX a_cubeY a_cubeZ a_cubeOf a_looks a_order a_choice a_has a_atX a_atY a_right a_up a_bestX a_bestY a_shapeSize a_shapeRow a_grid a_imageX a_imageY a_row a_bestRow a_on a_onRight a_onUp a_queue v_cubes v_faces v_laid v_count v_step v_ended v_nets v_work v_bestWidth v_bestHeight v_bestNet v_shapes (upd v_handRight r_5.toNatClampNeg r_12) v_handUp (upd v_handX r_5.toNatClampNeg ((v_handX p1.toNatClampNeg) + r_7)) (upd v_handY r_5.toNatClampNeg ((v_handY p1.toNatClampNeg) + r_9)) v_leads (upd v_lies r_5.toNatClampNeg (vp_nar .boolean (1 : Int32))) v_nextFace) := hD.sub [6, 0, 1, 2, 3, 7, 4, 5] (by decide) rfl
              obtain ⟨hin, h⟩ := h
              refine va_iast hx hb hK hP hD hS 2 0 rfl rfl hin dX8_grow_219 (fun H locs hP hD hS => ?_)
              replace hP : va_P D vwCl (wd_X8_grow cI cZ cJ a_this a_handRight a_handUp a_handX a_handY a_leads a_lies a_nextFace a_cubeX a_cubeY a_cubeZ a_cubeOf a_looks a_order a_choice a_has a_atX a_atY a_right a_up a_bestX a_bestY a_shapeSize a_shapeRow a_grid a_imageX a_imageY a_row a_bestRow a_on a_onRight a_onUp a_queue v_cubes v_faces v_laid v_count v_step v_ended v_nets v_work v_bestWidth v_bestHeight v_bestNet v_shapes (upd v_handRight r_5.toNatClampNeg r_12) (upd v_handUp r_5.toNatClampNeg r_14) (upd v_handX r_5.toNatClampNeg ((v_handX p1.toNatClampNeg) + r_7)) (upd v_handY r_5.toNatClampNeg ((v_handY p1.toNatClampNeg) + r_9)) v_leads (upd v_lies r_5.toNatClampNeg (vp_nar .boolean (1 : Int32))) v_nextFace) H := hP
              replace hD : va_D A (wd_X8_grow cI cZ cJ a_this a_handRight a_handUp a_handX a_handY a_leads a_lies a_nextFace a_cubeX a_cubeY a_cubeZ a_cubeOf a_looks a_order a_choice a_has a_atX a_atY a_right a_up a_bestX a_bestY a_shapeSize a_shapeRow a_grid a_imageX a_imageY a_row a_bestRow a_on a_onRight a_onUp a_queue v_cubes v_faces v_laid v_count v_step v_ended v_nets v_work v_bestWidth v_bestHeight v_bestNet v_shapes (upd v_handRight r_5.toNatClampNeg r_12) (upd v_handUp r_5.toNatClampNeg r_14) (upd v_handX r_5.toNatClampNeg ((v_handX p1.toNatClampNeg) + r_7)) (upd v_handY r_5.toNatClampNeg ((v_handY p1.toNatClampNeg) + r_9)) v_leads (upd v_lies r_5.toNatClampNeg (vp_nar .boolean (1 : Int32))) v_nextFace) := hD
              refine lv_aload_n hx hb dX8_grow_220 rfl (lv_at hl 0 rfl) ?_
              refine lv_dup hx hb dX8_grow_221 rfl ?_
              refine va_get (D := D) (ci := 8) (v := .int v_laid) (C := RX8) (T := TX8) (N := 44) hx hb hts iX8 hown hK hP 0 rfl rfl 7 (by decide) f111 (fun _ h9 => h9) rfl dX8_grow_222 ?_
              refine lv_iconst (v := 1) hx hb dX8_grow_225 (by decide) ?_
              refine lv_iadd hx hb dX8_grow_226 ?_
              refine va_put (D := D) (ci := 8) (v := .int (v_laid + (1 : Int32))) (ty := .int) (C := RX8) (T := TX8) (N := 44) hx hb hts iX8 tyX8 tyX8_ok nmX8 hown hK hP hD hS 0 rfl rfl 7 (by decide) f111 (fun _ h9 => h9) rfl (by decide +kernel) rfl rfl (Nat.le_of_ble_eq_true rfl) dX8_grow_227 (fun H locs hP hD hS => ?_)
              replace hP : va_P D vwCl (wd_X8_grow cI cZ cJ a_this a_handRight a_handUp a_handX a_handY a_leads a_lies a_nextFace a_cubeX a_cubeY a_cubeZ a_cubeOf a_looks a_order a_choice a_has a_atX a_atY a_right a_up a_bestX a_bestY a_shapeSize a_shapeRow a_grid a_imageX a_imageY a_row a_bestRow a_on a_onRight a_onUp a_queue v_cubes v_faces (v_laid + (1 : Int32)) v_count v_step v_ended v_nets v_work v_bestWidth v_bestHeight v_bestNet v_shapes (upd v_handRight r_5.toNatClampNeg r_12) (upd v_handUp r_5.toNatClampNeg r_14) (upd v_handX r_5.toNatClampNeg ((v_handX p1.toNatClampNeg) + r_7)) (upd v_handY r_5.toNatClampNeg ((v_handY p1.toNatClampNeg) + r_9)) v_leads (upd v_lies r_5.toNatClampNeg (vp_nar .boolean (1 : Int32))) v_nextFace) H := hP
              replace hD : va_D A (wd_X8_grow cI cZ cJ a_this a_handRight a_handUp a_handX a_handY a_leads a_lies a_nextFace a_cubeX a_cubeY a_cubeZ a_cubeOf a_looks a_order a_choice a_has a_atX a_atY a_right a_up a_bestX a_bestY a_shapeSize a_shapeRow a_grid a_imageX a_imageY a_row a_bestRow a_on a_onRight a_onUp a_queue v_cubes v_faces (v_laid + (1 : Int32)) v_count v_step v_ended v_nets v_work v_bestWidth v_bestHeight v_bestNet v_shapes (upd v_handRight r_5.toNatClampNeg r_12) (upd v_handUp r_5.toNatClampNeg r_14) (upd v_handX r_5.toNatClampNeg ((v_handX p1.toNatClampNeg) + r_7)) (upd v_handY r_5.toNatClampNeg ((v_handY p1.toNatClampNeg) + r_9)) v_leads (upd v_lies r_5.toNatClampNeg (vp_nar .boolean (1 : Int32))) v_nextFace) := hD
              refine lv_iload_n hx hb dX8_grow_230 rfl (lv_at hl 3 rfl) ?_
              exact ret r_5 ((v_laid + (1 : Int32)), (upd v_handRight r_5.toNatClampNeg r_12), (upd v_handUp r_5.toNatClampNeg r_14), (upd v_handX r_5.toNatClampNeg ((v_handX p1.toNatClampNeg) + r_7)), (upd v_handY r_5.toNatClampNeg ((v_handY p1.toNatClampNeg) + r_9)), (upd v_lies r_5.toNatClampNeg (vp_nar .boolean (1 : Int32)))) _ _ _ 231 dX8_grow_231 h hP hD hS
          · replace h := h.2 hc
            refine lv_bipush (v := -3) hx hb dX8_grow_62 (by decide) ?_
            exact ret (-3 : Int32) (v_laid, v_handRight, v_handUp, v_handX, v_handY, v_lies) _ _ _ 64 dX8_grow_64 h hP hD hS
        · replace h := h.2 hc
          refine lv_bipush (v := -2) hx hb dX8_grow_28 (by decide) ?_
          exact ret (-2 : Int32) (v_laid, v_handRight, v_handUp, v_handX, v_handY, v_lies) _ _ _ 30 dX8_grow_30 h hP hD hS
      · replace h := h.2 hc
        refine lv_iconst (v := -1) hx hb dX8_grow_17 (by decide) ?_
        exact ret (-1 : Int32) (v_laid, v_handRight, v_handUp, v_handX, v_handY, v_lies) _ _ _ 18 dX8_grow_18 h hP hD hS
def wd_X8_imageOfX (cI cZ cJ : ClassId) : va_W := []
abbrev rm_X8_imageOfX : Room := { frames := 0, cells := 0, slots := 0, locals := 0 }
set_option maxHeartbeats 4000000 in
set_option maxRecDepth 100000 in
theorem c_X8_imageOfX (l : Launch) (D : va_G) (cI cZ cJ : ClassId) (tb : Nat → Nat) (sz : Nat) (p0 : Int32) (p1 : Int32) (p2 : Int32) {post : Int32 → Prop} (h : wp_X8_imageOfX p0 p1 p2 post) : Met l yX8_imageOfX wsX8_imageOfX rm_X8_imageOfX (va_Pc [.int p0, .int p1, .int p2] (q_pre D cI cZ cJ tb (wd_X8_imageOfX cI cZ cJ) sz)) (va_Qi (fun r (u : Unit) => post r) (fun u => q_post D cI cZ cJ (va_A (wd_X8_imageOfX cI cZ cJ) sz) (wd_X8_imageOfX cI cZ cJ)) (va_A (wd_X8_imageOfX cI cZ cJ) sz)) 0 0 (va_A (wd_X8_imageOfX cI cZ cJ) sz) := by
  refine q_walki (cc := cX8_imageOfX) (maxL := 4) (own := RX8) (wd := fun (u : Unit) => (wd_X8_imageOfX cI cZ cJ)) (by decide) rfl rfl (Nat.le_of_ble_eq_true rfl) ?_
  intro p e s m below meth c Q A ls C hA ret hP hD hS hK hSt hNw hl
  obtain ⟨hx, hb, hml, hown, hts⟩ := id C
  replace hl : lv_has ls 4 [(0, .int p0), (1, .int p1), (2, .int p2)] := hl
  have J11_ok : ∀   (l0 : Int32) (t0 : Int32) (H : Heap) (locs : List Loc) (ls : Array Slot), wj_X8_imageOfX_11 post l0 t0 → va_P D vwCl (wd_X8_imageOfX cI cZ cJ) H → va_D A (wd_X8_imageOfX cI cZ cJ) → va_S A s.heap H locs → lv_has ls 4 [(0, .int l0)] → W p l e rm_X8_imageOfX s m ([.int p0, .int p1, .int p2] : List Value).toArray below meth c H locs 0 0 Q (F0 m 11 ls [.int t0]) := by
    intro    l0 t0 H locs ls h hP hD hS hl
    unfold wj_X8_imageOfX_11 at h
    refine lv_istore_n (lv' := [(3, .int t0), (0, .int l0)]) hx hb dX8_imageOfX_11 rfl hl (by decide) rfl (fun ls hl => ?_)
    refine lv_iload_n hx hb dX8_imageOfX_12 rfl (lv_at hl 1 rfl) ?_
    refine lv_iconst (v := 2) hx hb dX8_imageOfX_13 (by decide) ?_
    refine lv_icmp_eq (tgt := 34) hx hb dX8_imageOfX_14 (by decide) (fun hc => ?_) (fun hc => ?_)
    · replace h := h.1 hc
      refine lv_iload_n hx hb dX8_imageOfX_34 rfl (lv_at hl 0 rfl) ?_
      refine lv_ineg hx hb dX8_imageOfX_35 ?_
      refine lv_goto (tgt := 40) hx hb dX8_imageOfX_36 (by decide) ?_
      exact ret (-t0) () _ _ _ 40 dX8_imageOfX_40 h hP hD hS
    · replace h := h.2 hc
      refine lv_iload_n hx hb dX8_imageOfX_17 rfl (lv_at hl 1 rfl) ?_
      refine lv_iconst (v := 3) hx hb dX8_imageOfX_18 (by decide) ?_
      refine lv_icmp_eq (tgt := 34) hx hb dX8_imageOfX_19 (by decide) (fun hc => ?_) (fun hc => ?_)
      · replace h := h.1 hc
        refine lv_iload_n hx hb dX8_imageOfX_34 rfl (lv_at hl 0 rfl) ?_
        refine lv_ineg hx hb dX8_imageOfX_35 ?_
        refine lv_goto (tgt := 40) hx hb dX8_imageOfX_36 (by decide) ?_
        exact ret (-t0) () _ _ _ 40 dX8_imageOfX_40 h hP hD hS
      · replace h := h.2 hc
        refine lv_iload_n hx hb dX8_imageOfX_22 rfl (lv_at hl 1 rfl) ?_
        refine lv_bipush (v := 6) hx hb dX8_imageOfX_23 (by decide) ?_
        refine lv_icmp_eq (tgt := 34) hx hb dX8_imageOfX_25 (by decide) (fun hc => ?_) (fun hc => ?_)
        · replace h := h.1 hc
          refine lv_iload_n hx hb dX8_imageOfX_34 rfl (lv_at hl 0 rfl) ?_
          refine lv_ineg hx hb dX8_imageOfX_35 ?_
          refine lv_goto (tgt := 40) hx hb dX8_imageOfX_36 (by decide) ?_
          exact ret (-t0) () _ _ _ 40 dX8_imageOfX_40 h hP hD hS
        · replace h := h.2 hc
          refine lv_iload_n hx hb dX8_imageOfX_28 rfl (lv_at hl 1 rfl) ?_
          refine lv_bipush (v := 7) hx hb dX8_imageOfX_29 (by decide) ?_
          refine lv_icmp_ne (tgt := 39) hx hb dX8_imageOfX_31 (by decide) (fun hc => ?_) (fun hc => ?_)
          · replace h := h.1 hc
            refine lv_iload_n hx hb dX8_imageOfX_39 rfl (lv_at hl 0 rfl) ?_
            exact ret t0 () _ _ _ 40 dX8_imageOfX_40 h hP hD hS
          · replace h := h.2 hc
            refine lv_iload_n hx hb dX8_imageOfX_34 rfl (lv_at hl 0 rfl) ?_
            refine lv_ineg hx hb dX8_imageOfX_35 ?_
            refine lv_goto (tgt := 40) hx hb dX8_imageOfX_36 (by decide) ?_
            exact ret (-t0) () _ _ _ 40 dX8_imageOfX_40 h hP hD hS
  unfold wp_X8_imageOfX at h
  refine lv_iload_n hx hb dX8_imageOfX_0 rfl (lv_at hl 0 rfl) ?_
  refine lv_iconst (v := 2) hx hb dX8_imageOfX_1 (by decide) ?_
  refine lv_irem hx hb dX8_imageOfX_2 (by decide) ?_
  refine lv_if_ne (tgt := 10) hx hb dX8_imageOfX_3 (by decide) (fun hc => ?_) (fun hc => ?_)
  · replace h := h.1 hc
    refine lv_iload_n hx hb dX8_imageOfX_10 rfl (lv_at hl 2 rfl) ?_
    exact J11_ok   p0 p2 _ _ _ h hP hD hS (lv_sub hl [0] rfl)
  · replace h := h.2 hc
    refine lv_iload_n hx hb dX8_imageOfX_6 rfl (lv_at hl 1 rfl) ?_
    refine lv_goto (tgt := 11) hx hb dX8_imageOfX_7 (by decide) ?_
    exact J11_ok   p0 p1 _ _ _ h hP hD hS (lv_sub hl [0] rfl)
def wd_X8_imageOfY (cI cZ cJ : ClassId) : va_W := []
abbrev rm_X8_imageOfY : Room := { frames := 0, cells := 0, slots := 0, locals := 0 }
set_option maxHeartbeats 4000000 in
set_option maxRecDepth 100000 in
theorem c_X8_imageOfY (l : Launch) (D : va_G) (cI cZ cJ : ClassId) (tb : Nat → Nat) (sz : Nat) (p0 : Int32) (p1 : Int32) (p2 : Int32) {post : Int32 → Prop} (h : wp_X8_imageOfY p0 p1 p2 post) : Met l yX8_imageOfY wsX8_imageOfY rm_X8_imageOfY (va_Pc [.int p0, .int p1, .int p2] (q_pre D cI cZ cJ tb (wd_X8_imageOfY cI cZ cJ) sz)) (va_Qi (fun r (u : Unit) => post r) (fun u => q_post D cI cZ cJ (va_A (wd_X8_imageOfY cI cZ cJ) sz) (wd_X8_imageOfY cI cZ cJ)) (va_A (wd_X8_imageOfY cI cZ cJ) sz)) 0 0 (va_A (wd_X8_imageOfY cI cZ cJ) sz) := by
  refine q_walki (cc := cX8_imageOfY) (maxL := 4) (own := RX8) (wd := fun (u : Unit) => (wd_X8_imageOfY cI cZ cJ)) (by decide) rfl rfl (Nat.le_of_ble_eq_true rfl) ?_
  intro p e s m below meth c Q A ls C hA ret hP hD hS hK hSt hNw hl
  obtain ⟨hx, hb, hml, hown, hts⟩ := id C
  replace hl : lv_has ls 4 [(0, .int p0), (1, .int p1), (2, .int p2)] := hl
  unfold wp_X8_imageOfY at h
  refine lv_iload_n hx hb dX8_imageOfY_0 rfl (lv_at hl 0 rfl) ?_
  refine lv_iconst (v := 2) hx hb dX8_imageOfY_1 (by decide) ?_
  refine lv_irem hx hb dX8_imageOfY_2 (by decide) ?_
  refine lv_if_ne (tgt := 10) hx hb dX8_imageOfY_3 (by decide) (fun hc => ?_) (fun hc => ?_)
  · replace h := h.1 hc
    refine lv_iload_n hx hb dX8_imageOfY_10 rfl (lv_at hl 1 rfl) ?_
    refine lv_istore_n (lv' := [(3, .int p1), (0, .int p0), (1, .int p1), (2, .int p2)]) hx hb dX8_imageOfY_11 rfl hl (by decide) rfl (fun ls hl => ?_)
    refine lv_iload_n hx hb dX8_imageOfY_12 rfl (lv_at hl 1 rfl) ?_
    refine lv_iconst (v := 4) hx hb dX8_imageOfY_13 (by decide) ?_
    refine lv_icmp_lt (tgt := 22) hx hb dX8_imageOfY_14 (by decide) (fun hc => ?_) (fun hc => ?_)
    · replace h := h.1 hc
      refine lv_iload_n hx hb dX8_imageOfY_22 rfl (lv_at hl 0 rfl) ?_
      exact ret p1 () _ _ _ 23 dX8_imageOfY_23 h hP hD hS
    · replace h := h.2 hc
      refine lv_iload_n hx hb dX8_imageOfY_17 rfl (lv_at hl 0 rfl) ?_
      refine lv_ineg hx hb dX8_imageOfY_18 ?_
      refine lv_goto (tgt := 23) hx hb dX8_imageOfY_19 (by decide) ?_
      exact ret (-p1) () _ _ _ 23 dX8_imageOfY_23 h hP hD hS
  · replace h := h.2 hc
    refine lv_iload_n hx hb dX8_imageOfY_6 rfl (lv_at hl 2 rfl) ?_
    refine lv_goto (tgt := 11) hx hb dX8_imageOfY_7 (by decide) ?_
    refine lv_istore_n (lv' := [(3, .int p2), (0, .int p0), (1, .int p1), (2, .int p2)]) hx hb dX8_imageOfY_11 rfl hl (by decide) rfl (fun ls hl => ?_)
    refine lv_iload_n hx hb dX8_imageOfY_12 rfl (lv_at hl 1 rfl) ?_
    refine lv_iconst (v := 4) hx hb dX8_imageOfY_13 (by decide) ?_
    refine lv_icmp_lt (tgt := 22) hx hb dX8_imageOfY_14 (by decide) (fun hc => ?_) (fun hc => ?_)
    · replace h := h.1 hc
      refine lv_iload_n hx hb dX8_imageOfY_22 rfl (lv_at hl 0 rfl) ?_
      exact ret p2 () _ _ _ 23 dX8_imageOfY_23 h hP hD hS
    · replace h := h.2 hc
      refine lv_iload_n hx hb dX8_imageOfY_17 rfl (lv_at hl 0 rfl) ?_
      refine lv_ineg hx hb dX8_imageOfY_18 ?_
      refine lv_goto (tgt := 23) hx hb dX8_imageOfY_19 (by decide) ?_
      exact ret (-p2) () _ _ _ 23 dX8_imageOfY_23 h hP hD hS
def wd_X8_isEmpty (cI cZ cJ : ClassId) (a_this a_atX a_atY a_order a_cubeX a_cubeY a_cubeZ a_cubeOf a_looks a_lies a_handX a_handY a_handRight a_handUp a_choice a_has a_right a_up a_bestX a_bestY a_shapeSize a_shapeRow a_nextFace a_leads a_grid a_imageX a_imageY a_row a_bestRow a_on a_onRight a_onUp a_queue : Nat) (v_cubes : Int32) (v_faces : Int32) (v_laid : Int32) (v_count : Int32) (v_step : Int32) (v_ended : Int32) (v_nets : Int32) (v_work : Int32) (v_bestWidth : Int32) (v_bestHeight : Int32) (v_bestNet : Int32) (v_shapes : Int32) (v_atX : Nat → Int32) (v_atY : Nat → Int32) (v_order : Nat → Int32) : va_W := [(a_this, .inr (8, [.int v_cubes, .ref a_cubeX, .ref a_cubeY, .ref a_cubeZ, .int v_faces, .ref a_cubeOf, .ref a_looks, .int v_laid, .ref a_lies, .ref a_handX, .ref a_handY, .ref a_handRight, .ref a_handUp, .int v_count, .ref a_order, .ref a_choice, .ref a_has, .ref a_atX, .ref a_atY, .ref a_right, .ref a_up, .int v_step, .int v_ended, .int v_nets, .int v_work, .int v_bestWidth, .int v_bestHeight, .int v_bestNet, .ref a_bestX, .ref a_bestY, .int v_shapes, .ref a_shapeSize, .ref a_shapeRow, .ref a_nextFace, .ref a_leads, .ref a_grid, .ref a_imageX, .ref a_imageY, .ref a_row, .ref a_bestRow, .ref a_on, .ref a_onRight, .ref a_onUp, .ref a_queue])),
  (a_atX, .inl (cI, 30, .inl v_atX)),
  (a_atY, .inl (cI, 30, .inl v_atY)),
  (a_order, .inl (cI, 30, .inl v_order))]
abbrev rm_X8_isEmpty : Room := { frames := 0, cells := 0, slots := 0, locals := 0 }
set_option maxHeartbeats 4000000 in
set_option maxRecDepth 100000 in
theorem c_X8_isEmpty (l : Launch) (D : va_G) (cI cZ cJ : ClassId) (tb : Nat → Nat) (a_this a_atX a_atY a_order a_cubeX a_cubeY a_cubeZ a_cubeOf a_looks a_lies a_handX a_handY a_handRight a_handUp a_choice a_has a_right a_up a_bestX a_bestY a_shapeSize a_shapeRow a_nextFace a_leads a_grid a_imageX a_imageY a_row a_bestRow a_on a_onRight a_onUp a_queue : Nat) (v_cubes : Int32) (v_faces : Int32) (v_laid : Int32) (v_count : Int32) (v_step : Int32) (v_ended : Int32) (v_nets : Int32) (v_work : Int32) (v_bestWidth : Int32) (v_bestHeight : Int32) (v_bestNet : Int32) (v_shapes : Int32) (v_atX : Nat → Int32) (v_atY : Nat → Int32) (v_order : Nat → Int32) (sz : Nat) (p1 : Int32) (p2 : Int32) {post : Int32 → Prop} (h : wp_X8_isEmpty v_count v_atX v_atY v_order p1 p2 post) : Met l yX8_isEmpty wsX8_isEmpty rm_X8_isEmpty (va_Pc [.ref a_this, .int p1, .int p2] (q_pre D cI cZ cJ tb (wd_X8_isEmpty cI cZ cJ a_this a_atX a_atY a_order a_cubeX a_cubeY a_cubeZ a_cubeOf a_looks a_lies a_handX a_handY a_handRight a_handUp a_choice a_has a_right a_up a_bestX a_bestY a_shapeSize a_shapeRow a_nextFace a_leads a_grid a_imageX a_imageY a_row a_bestRow a_on a_onRight a_onUp a_queue v_cubes v_faces v_laid v_count v_step v_ended v_nets v_work v_bestWidth v_bestHeight v_bestNet v_shapes v_atX v_atY v_order) sz)) (va_Qi (fun r (u : Unit) => post r) (fun u => q_post D cI cZ cJ (va_A (wd_X8_isEmpty cI cZ cJ a_this a_atX a_atY a_order a_cubeX a_cubeY a_cubeZ a_cubeOf a_looks a_lies a_handX a_handY a_handRight a_handUp a_choice a_has a_right a_up a_bestX a_bestY a_shapeSize a_shapeRow a_nextFace a_leads a_grid a_imageX a_imageY a_row a_bestRow a_on a_onRight a_onUp a_queue v_cubes v_faces v_laid v_count v_step v_ended v_nets v_work v_bestWidth v_bestHeight v_bestNet v_shapes v_atX v_atY v_order) sz) (wd_X8_isEmpty cI cZ cJ a_this a_atX a_atY a_order a_cubeX a_cubeY a_cubeZ a_cubeOf a_looks a_lies a_handX a_handY a_handRight a_handUp a_choice a_has a_right a_up a_bestX a_bestY a_shapeSize a_shapeRow a_nextFace a_leads a_grid a_imageX a_imageY a_row a_bestRow a_on a_onRight a_onUp a_queue v_cubes v_faces v_laid v_count v_step v_ended v_nets v_work v_bestWidth v_bestHeight v_bestNet v_shapes v_atX v_atY v_order)) (va_A (wd_X8_isEmpty cI cZ cJ a_this a_atX a_atY a_order a_cubeX a_cubeY a_cubeZ a_cubeOf a_looks a_lies a_handX a_handY a_handRight a_handUp a_choice a_has a_right a_up a_bestX a_bestY a_shapeSize a_shapeRow a_nextFace a_leads a_grid a_imageX a_imageY a_row a_bestRow a_on a_onRight a_onUp a_queue v_cubes v_faces v_laid v_count v_step v_ended v_nets v_work v_bestWidth v_bestHeight v_bestNet v_shapes v_atX v_atY v_order) sz)) 0 0 (va_A (wd_X8_isEmpty cI cZ cJ a_this a_atX a_atY a_order a_cubeX a_cubeY a_cubeZ a_cubeOf a_looks a_lies a_handX a_handY a_handRight a_handUp a_choice a_has a_right a_up a_bestX a_bestY a_shapeSize a_shapeRow a_nextFace a_leads a_grid a_imageX a_imageY a_row a_bestRow a_on a_onRight a_onUp a_queue v_cubes v_faces v_laid v_count v_step v_ended v_nets v_work v_bestWidth v_bestHeight v_bestNet v_shapes v_atX v_atY v_order) sz) := by
  refine q_walkz (cc := cX8_isEmpty) (maxL := 5) (own := RX8) (wd := fun (u : Unit) => (wd_X8_isEmpty cI cZ cJ a_this a_atX a_atY a_order a_cubeX a_cubeY a_cubeZ a_cubeOf a_looks a_lies a_handX a_handY a_handRight a_handUp a_choice a_has a_right a_up a_bestX a_bestY a_shapeSize a_shapeRow a_nextFace a_leads a_grid a_imageX a_imageY a_row a_bestRow a_on a_onRight a_onUp a_queue v_cubes v_faces v_laid v_count v_step v_ended v_nets v_work v_bestWidth v_bestHeight v_bestNet v_shapes v_atX v_atY v_order)) (by decide) rfl rfl (Nat.le_of_ble_eq_true rfl) ?_
  intro p e s m below meth c Q A ls C hA ret hP hD hS hK hSt hNw hl
  obtain ⟨hx, hb, hml, hown, hts⟩ := id C
  replace hl : lv_has ls 5 [(0, .ref a_this), (1, .int p1), (2, .int p2)] := hl
  have f144 := hts (.fieldLink RX8 144 "NetSearchModel" "count" "I") (by decide +kernel)
  have iX8 : ∀ w ∈ wsX80, w ∈ wsX8_isEmpty := by decide +kernel
  have f50 := hts (.fieldLink RX8 50 "NetSearchModel" "atX" "[I") (by decide +kernel)
  have f41 := hts (.fieldLink RX8 41 "NetSearchModel" "order" "[I") (by decide +kernel)
  have f53 := hts (.fieldLink RX8 53 "NetSearchModel" "atY" "[I") (by decide +kernel)
  have L5_ok : ∀ (l1 : Int32) (l2 : Int32) (kx62 : Int32 → Prop) (hkx62 : ∀ (l3 : Int32) (H : Heap) (locs : List Loc) (ls : Array Slot), kx62 l3 → va_P D vwCl (wd_X8_isEmpty cI cZ cJ a_this a_atX a_atY a_order a_cubeX a_cubeY a_cubeZ a_cubeOf a_looks a_lies a_handX a_handY a_handRight a_handUp a_choice a_has a_right a_up a_bestX a_bestY a_shapeSize a_shapeRow a_nextFace a_leads a_grid a_imageX a_imageY a_row a_bestRow a_on a_onRight a_onUp a_queue v_cubes v_faces v_laid v_count v_step v_ended v_nets v_work v_bestWidth v_bestHeight v_bestNet v_shapes v_atX v_atY v_order) H → va_D A (wd_X8_isEmpty cI cZ cJ a_this a_atX a_atY a_order a_cubeX a_cubeY a_cubeZ a_cubeOf a_looks a_lies a_handX a_handY a_handRight a_handUp a_choice a_has a_right a_up a_bestX a_bestY a_shapeSize a_shapeRow a_nextFace a_leads a_grid a_imageX a_imageY a_row a_bestRow a_on a_onRight a_onUp a_queue v_cubes v_faces v_laid v_count v_step v_ended v_nets v_work v_bestWidth v_bestHeight v_bestNet v_shapes v_atX v_atY v_order) → va_S A s.heap H locs → lv_has ls 5 [(3, .int l3)] → W p l e rm_X8_isEmpty s m ([.ref a_this, .int p1, .int p2] : List Value).toArray below meth c H locs 0 0 Q (F0 m 62 ls [])) (n : Nat) (l3 : Int32) (l4 : Int32) (H : Heap) (locs : List Loc) (ls : Array Slot), lpN (wl_X8_isEmpty_5 v_count v_atX v_atY v_order l1 l2 kx62) n (l3, l4) → va_P D vwCl (wd_X8_isEmpty cI cZ cJ a_this a_atX a_atY a_order a_cubeX a_cubeY a_cubeZ a_cubeOf a_looks a_lies a_handX a_handY a_handRight a_handUp a_choice a_has a_right a_up a_bestX a_bestY a_shapeSize a_shapeRow a_nextFace a_leads a_grid a_imageX a_imageY a_row a_bestRow a_on a_onRight a_onUp a_queue v_cubes v_faces v_laid v_count v_step v_ended v_nets v_work v_bestWidth v_bestHeight v_bestNet v_shapes v_atX v_atY v_order) H → va_D A (wd_X8_isEmpty cI cZ cJ a_this a_atX a_atY a_order a_cubeX a_cubeY a_cubeZ a_cubeOf a_looks a_lies a_handX a_handY a_handRight a_handUp a_choice a_has a_right a_up a_bestX a_bestY a_shapeSize a_shapeRow a_nextFace a_leads a_grid a_imageX a_imageY a_row a_bestRow a_on a_onRight a_onUp a_queue v_cubes v_faces v_laid v_count v_step v_ended v_nets v_work v_bestWidth v_bestHeight v_bestNet v_shapes v_atX v_atY v_order) → va_S A s.heap H locs → lv_has ls 5 [(0, .ref a_this), (1, .int l1), (2, .int l2), (3, .int l3), (4, .int l4)] → W p l e rm_X8_isEmpty s m ([.ref a_this, .int p1, .int p2] : List Value).toArray below meth c H locs 0 0 Q (F0 m 5 ls []) := by
    intro l1 l2 kx62 hkx62 n
    induction n with
    | zero => intro l3 l4 H locs ls h; exact False.elim h
    | succ n ih =>
      intro l3 l4 H locs ls h hP hD hS hl
      have h : wb_X8_isEmpty_5 v_count v_atX v_atY v_order l1 l2 kx62 (fun l3 l4 => lpN (wl_X8_isEmpty_5 v_count v_atX v_atY v_order l1 l2 kx62) n (l3, l4)) l3 l4 := h
      unfold wb_X8_isEmpty_5 at h
      refine lv_iload hx hb dX8_isEmpty_5 (lv_at hl 4 rfl) ?_
      refine lv_aload_n hx hb dX8_isEmpty_7 rfl (lv_at hl 0 rfl) ?_
      refine va_get (D := D) (ci := 8) (v := .int v_count) (C := RX8) (T := TX8) (N := 44) hx hb hts iX8 hown hK hP 0 rfl rfl 13 (by decide) f144 (fun _ h9 => h9) rfl dX8_isEmpty_8 ?_
      refine lv_icmp_ge (tgt := 62) hx hb dX8_isEmpty_11 (by decide) (fun hc => ?_) (fun hc => ?_)
      · replace h := h.1 hc
        exact hkx62 l3 _ _ _ h hP hD hS (lv_sub hl [3] rfl)
      · replace h := h.2 hc
        refine lv_iload_n hx hb dX8_isEmpty_14 rfl (lv_at hl 3 rfl) ?_
        refine lv_if_eq (tgt := 54) hx hb dX8_isEmpty_15 (by decide) (fun hc => ?_) (fun hc => ?_)
        · replace h := h.1 hc
          refine lv_iconst (v := 0) hx hb dX8_isEmpty_54 (by decide) ?_
          refine lv_istore_n (lv' := [(3, .int (0 : Int32)), (0, .ref a_this), (1, .int l1), (2, .int l2), (4, .int l4)]) hx hb dX8_isEmpty_55 rfl hl (by decide) rfl (fun ls hl => ?_)
          refine lv_iinc (v := (l4 + (1 : Int32))) (lv' := [(4, .int (l4 + (1 : Int32))), (3, .int (0 : Int32)), (0, .ref a_this), (1, .int l1), (2, .int l2)]) hx hb dX8_isEmpty_56 hl (k := 4) rfl rfl (by decide) rfl (fun ls hl => ?_)
          refine lv_goto (tgt := 5) hx hb dX8_isEmpty_59 (by decide) ?_
          exact ih (0 : Int32) (l4 + (1 : Int32)) _ _ _ h hP hD hS (lv_sub hl [2, 3, 4, 1, 0] rfl)
        · replace h := h.2 hc
          refine lv_aload_n hx hb dX8_isEmpty_18 rfl (lv_at hl 0 rfl) ?_
          refine va_get (D := D) (ci := 8) (v := .ref a_atX) (C := RX8) (T := TX8) (N := 44) hx hb hts iX8 hown hK hP 0 rfl rfl 17 (by decide) f50 (fun _ h9 => h9) rfl dX8_isEmpty_19 ?_
          refine lv_aload_n hx hb dX8_isEmpty_22 rfl (lv_at hl 0 rfl) ?_
          refine va_get (D := D) (ci := 8) (v := .ref a_order) (C := RX8) (T := TX8) (N := 44) hx hb hts iX8 hown hK hP 0 rfl rfl 14 (by decide) f41 (fun _ h9 => h9) rfl dX8_isEmpty_23 ?_
          refine lv_iload hx hb dX8_isEmpty_26 (lv_at hl 4 rfl) ?_
          obtain ⟨hin, h⟩ := h
          refine va_iald hx hb hK hP 3 0 rfl rfl hin dX8_isEmpty_28 ?_
          obtain ⟨hin, h⟩ := h
          refine va_iald hx hb hK hP 1 0 rfl rfl hin dX8_isEmpty_29 ?_
          refine lv_iload_n hx hb dX8_isEmpty_30 rfl (lv_at hl 1 rfl) ?_
          refine lv_icmp_ne (tgt := 50) hx hb dX8_isEmpty_31 (by decide) (fun hc => ?_) (fun hc => ?_)
          · replace h := h.1 hc
            refine lv_iconst (v := 1) hx hb dX8_isEmpty_50 (by decide) ?_
            refine lv_goto (tgt := 55) hx hb dX8_isEmpty_51 (by decide) ?_
            refine lv_istore_n (lv' := [(3, .int (1 : Int32)), (0, .ref a_this), (1, .int l1), (2, .int l2), (4, .int l4)]) hx hb dX8_isEmpty_55 rfl hl (by decide) rfl (fun ls hl => ?_)
            refine lv_iinc (v := (l4 + (1 : Int32))) (lv' := [(4, .int (l4 + (1 : Int32))), (3, .int (1 : Int32)), (0, .ref a_this), (1, .int l1), (2, .int l2)]) hx hb dX8_isEmpty_56 hl (k := 4) rfl rfl (by decide) rfl (fun ls hl => ?_)
            refine lv_goto (tgt := 5) hx hb dX8_isEmpty_59 (by decide) ?_
            exact ih (1 : Int32) (l4 + (1 : Int32)) _ _ _ h hP hD hS (lv_sub hl [2, 3, 4, 1, 0] rfl)
          · replace h := h.2 hc
            refine lv_aload_n hx hb dX8_isEmpty_34 rfl (lv_at hl 0 rfl) ?_
            refine va_get (D := D) (ci := 8) (v := .ref a_atY) (C := RX8) (T := TX8) (N := 44) hx hb hts iX8 hown hK hP 0 rfl rfl 18 (by decide) f53 (fun _ h9 => h9) rfl dX8_isEmpty_35 ?_
            refine lv_aload_n hx hb dX8_isEmpty_38 rfl (lv_at hl 0 rfl) ?_
            refine va_get (D := D) (ci := 8) (v := .ref a_order) (C := RX8) (T := TX8) (N := 44) hx hb hts iX8 hown hK hP 0 rfl rfl 14 (by decide) f41 (fun _ h9 => h9) rfl dX8_isEmpty_39 ?_
            refine lv_iload hx hb dX8_isEmpty_42 (lv_at hl 4 rfl) ?_
            obtain ⟨hin, h⟩ := h
            refine va_iald hx hb hK hP 3 0 rfl rfl hin dX8_isEmpty_44 ?_
            obtain ⟨hin, h⟩ := h
            refine va_iald hx hb hK hP 2 0 rfl rfl hin dX8_isEmpty_45 ?_
            refine lv_iload_n hx hb dX8_isEmpty_46 rfl (lv_at hl 2 rfl) ?_
            refine lv_icmp_eq (tgt := 54) hx hb dX8_isEmpty_47 (by decide) (fun hc => ?_) (fun hc => ?_)
            · replace h := h.1 hc
              refine lv_iconst (v := 0) hx hb dX8_isEmpty_54 (by decide) ?_
              refine lv_istore_n (lv' := [(3, .int (0 : Int32)), (0, .ref a_this), (1, .int l1), (2, .int l2), (4, .int l4)]) hx hb dX8_isEmpty_55 rfl hl (by decide) rfl (fun ls hl => ?_)
              refine lv_iinc (v := (l4 + (1 : Int32))) (lv' := [(4, .int (l4 + (1 : Int32))), (3, .int (0 : Int32)), (0, .ref a_this), (1, .int l1), (2, .int l2)]) hx hb dX8_isEmpty_56 hl (k := 4) rfl rfl (by decide) rfl (fun ls hl => ?_)
              refine lv_goto (tgt := 5) hx hb dX8_isEmpty_59 (by decide) ?_
              exact ih (0 : Int32) (l4 + (1 : Int32)) _ _ _ h hP hD hS (lv_sub hl [2, 3, 4, 1, 0] rfl)
            · replace h := h.2 hc
              refine lv_iconst (v := 1) hx hb dX8_isEmpty_50 (by decide) ?_
              refine lv_goto (tgt := 55) hx hb dX8_isEmpty_51 (by decide) ?_
              refine lv_istore_n (lv' := [(3, .int (1 : Int32)), (0, .ref a_this), (1, .int l1), (2, .int l2), (4, .int l4)]) hx hb dX8_isEmpty_55 rfl hl (by decide) rfl (fun ls hl => ?_)
              refine lv_iinc (v := (l4 + (1 : Int32))) (lv' := [(4, .int (l4 + (1 : Int32))), (3, .int (1 : Int32)), (0, .ref a_this), (1, .int l1), (2, .int l2)]) hx hb dX8_isEmpty_56 hl (k := 4) rfl rfl (by decide) rfl (fun ls hl => ?_)
              refine lv_goto (tgt := 5) hx hb dX8_isEmpty_59 (by decide) ?_
              exact ih (1 : Int32) (l4 + (1 : Int32)) _ _ _ h hP hD hS (lv_sub hl [2, 3, 4, 1, 0] rfl)
  unfold wp_X8_isEmpty at h
  refine lv_iconst (v := 1) hx hb dX8_isEmpty_0 (by decide) ?_
  refine lv_istore_n (lv' := [(3, .int (1 : Int32)), (0, .ref a_this), (1, .int p1), (2, .int p2)]) hx hb dX8_isEmpty_1 rfl hl (by decide) rfl (fun ls hl => ?_)
  refine lv_iconst (v := 0) hx hb dX8_isEmpty_2 (by decide) ?_
  refine lv_istore (lv' := [(4, .int (0 : Int32)), (3, .int (1 : Int32)), (0, .ref a_this), (1, .int p1), (2, .int p2)]) hx hb dX8_isEmpty_3 hl (by decide) rfl (fun ls hl => ?_)
  obtain ⟨n, h⟩ := h
  refine L5_ok p1 p2 _ (fun l3_1 H locs ls h hP hD hS hl => ?_) n (1 : Int32) (0 : Int32) _ _ _ h hP hD hS (lv_sub hl [2, 3, 4, 1, 0] rfl)
  refine lv_iload_n hx hb dX8_isEmpty_62 rfl (lv_at hl 0 rfl) ?_
  exact ret l3_1 () _ _ _ 63 dX8_isEmpty_63 h hP hD hS
def wd_X8_isShape (cI cZ cJ : ClassId) (a_this a_cubeX a_cubeY a_cubeZ a_cubeOf a_looks a_lies a_handX a_handY a_handRight a_handUp a_order a_choice a_has a_atX a_atY a_right a_up a_bestX a_bestY a_shapeSize a_shapeRow a_nextFace a_leads a_grid a_imageX a_imageY a_row a_bestRow a_on a_onRight a_onUp a_queue : Nat) (v_cubes : Int32) (v_faces : Int32) (v_laid : Int32) (v_count : Int32) (v_step : Int32) (v_ended : Int32) (v_nets : Int32) (v_work : Int32) (v_bestWidth : Int32) (v_bestHeight : Int32) (v_bestNet : Int32) (v_shapes : Int32) : va_W := [(a_this, .inr (8, [.int v_cubes, .ref a_cubeX, .ref a_cubeY, .ref a_cubeZ, .int v_faces, .ref a_cubeOf, .ref a_looks, .int v_laid, .ref a_lies, .ref a_handX, .ref a_handY, .ref a_handRight, .ref a_handUp, .int v_count, .ref a_order, .ref a_choice, .ref a_has, .ref a_atX, .ref a_atY, .ref a_right, .ref a_up, .int v_step, .int v_ended, .int v_nets, .int v_work, .int v_bestWidth, .int v_bestHeight, .int v_bestNet, .ref a_bestX, .ref a_bestY, .int v_shapes, .ref a_shapeSize, .ref a_shapeRow, .ref a_nextFace, .ref a_leads, .ref a_grid, .ref a_imageX, .ref a_imageY, .ref a_row, .ref a_bestRow, .ref a_on, .ref a_onRight, .ref a_onUp, .ref a_queue]))]
abbrev rm_X8_isShape : Room := { frames := 0, cells := 0, slots := 0, locals := 0 }
set_option maxHeartbeats 4000000 in
set_option maxRecDepth 100000 in
theorem c_X8_isShape (l : Launch) (D : va_G) (cI cZ cJ : ClassId) (tb : Nat → Nat) (a_this a_cubeX a_cubeY a_cubeZ a_cubeOf a_looks a_lies a_handX a_handY a_handRight a_handUp a_order a_choice a_has a_atX a_atY a_right a_up a_bestX a_bestY a_shapeSize a_shapeRow a_nextFace a_leads a_grid a_imageX a_imageY a_row a_bestRow a_on a_onRight a_onUp a_queue : Nat) (v_cubes : Int32) (v_faces : Int32) (v_laid : Int32) (v_count : Int32) (v_step : Int32) (v_ended : Int32) (v_nets : Int32) (v_work : Int32) (v_bestWidth : Int32) (v_bestHeight : Int32) (v_bestNet : Int32) (v_shapes : Int32) (sz : Nat) (p1 : Int32) {post : Int32 → Prop} (h : wp_X8_isShape v_shapes p1 post) : Met l yX8_isShape wsX8_isShape rm_X8_isShape (va_Pc [.ref a_this, .int p1] (q_pre D cI cZ cJ tb (wd_X8_isShape cI cZ cJ a_this a_cubeX a_cubeY a_cubeZ a_cubeOf a_looks a_lies a_handX a_handY a_handRight a_handUp a_order a_choice a_has a_atX a_atY a_right a_up a_bestX a_bestY a_shapeSize a_shapeRow a_nextFace a_leads a_grid a_imageX a_imageY a_row a_bestRow a_on a_onRight a_onUp a_queue v_cubes v_faces v_laid v_count v_step v_ended v_nets v_work v_bestWidth v_bestHeight v_bestNet v_shapes) sz)) (va_Qi (fun r (u : Unit) => post r) (fun u => q_post D cI cZ cJ (va_A (wd_X8_isShape cI cZ cJ a_this a_cubeX a_cubeY a_cubeZ a_cubeOf a_looks a_lies a_handX a_handY a_handRight a_handUp a_order a_choice a_has a_atX a_atY a_right a_up a_bestX a_bestY a_shapeSize a_shapeRow a_nextFace a_leads a_grid a_imageX a_imageY a_row a_bestRow a_on a_onRight a_onUp a_queue v_cubes v_faces v_laid v_count v_step v_ended v_nets v_work v_bestWidth v_bestHeight v_bestNet v_shapes) sz) (wd_X8_isShape cI cZ cJ a_this a_cubeX a_cubeY a_cubeZ a_cubeOf a_looks a_lies a_handX a_handY a_handRight a_handUp a_order a_choice a_has a_atX a_atY a_right a_up a_bestX a_bestY a_shapeSize a_shapeRow a_nextFace a_leads a_grid a_imageX a_imageY a_row a_bestRow a_on a_onRight a_onUp a_queue v_cubes v_faces v_laid v_count v_step v_ended v_nets v_work v_bestWidth v_bestHeight v_bestNet v_shapes)) (va_A (wd_X8_isShape cI cZ cJ a_this a_cubeX a_cubeY a_cubeZ a_cubeOf a_looks a_lies a_handX a_handY a_handRight a_handUp a_order a_choice a_has a_atX a_atY a_right a_up a_bestX a_bestY a_shapeSize a_shapeRow a_nextFace a_leads a_grid a_imageX a_imageY a_row a_bestRow a_on a_onRight a_onUp a_queue v_cubes v_faces v_laid v_count v_step v_ended v_nets v_work v_bestWidth v_bestHeight v_bestNet v_shapes) sz)) 0 0 (va_A (wd_X8_isShape cI cZ cJ a_this a_cubeX a_cubeY a_cubeZ a_cubeOf a_looks a_lies a_handX a_handY a_handRight a_handUp a_order a_choice a_has a_atX a_atY a_right a_up a_bestX a_bestY a_shapeSize a_shapeRow a_nextFace a_leads a_grid a_imageX a_imageY a_row a_bestRow a_on a_onRight a_onUp a_queue v_cubes v_faces v_laid v_count v_step v_ended v_nets v_work v_bestWidth v_bestHeight v_bestNet v_shapes) sz) := by
  refine q_walkz (cc := cX8_isShape) (maxL := 2) (own := RX8) (wd := fun (u : Unit) => (wd_X8_isShape cI cZ cJ a_this a_cubeX a_cubeY a_cubeZ a_cubeOf a_looks a_lies a_handX a_handY a_handRight a_handUp a_order a_choice a_has a_atX a_atY a_right a_up a_bestX a_bestY a_shapeSize a_shapeRow a_nextFace a_leads a_grid a_imageX a_imageY a_row a_bestRow a_on a_onRight a_onUp a_queue v_cubes v_faces v_laid v_count v_step v_ended v_nets v_work v_bestWidth v_bestHeight v_bestNet v_shapes)) (by decide) rfl rfl (Nat.le_of_ble_eq_true rfl) ?_
  intro p e s m below meth c Q A ls C hA ret hP hD hS hK hSt hNw hl
  obtain ⟨hx, hb, hml, hown, hts⟩ := id C
  replace hl : lv_has ls 2 [(0, .ref a_this), (1, .int p1)] := hl
  have f182 := hts (.fieldLink RX8 182 "NetSearchModel" "shapes" "I") (by decide +kernel)
  have iX8 : ∀ w ∈ wsX80, w ∈ wsX8_isShape := by decide +kernel
  unfold wp_X8_isShape at h
  refine lv_iload_n hx hb dX8_isShape_0 rfl (lv_at hl 1 rfl) ?_
  refine lv_if_lt (tgt := 16) hx hb dX8_isShape_1 (by decide) (fun hc => ?_) (fun hc => ?_)
  · replace h := h.1 hc
    refine lv_iconst (v := 0) hx hb dX8_isShape_16 (by decide) ?_
    exact ret (0 : Int32) () _ _ _ 17 dX8_isShape_17 ⟨by decide, h⟩ hP hD hS
  · replace h := h.2 hc
    refine lv_iload_n hx hb dX8_isShape_4 rfl (lv_at hl 1 rfl) ?_
    refine lv_aload_n hx hb dX8_isShape_5 rfl (lv_at hl 0 rfl) ?_
    refine va_get (D := D) (ci := 8) (v := .int v_shapes) (C := RX8) (T := TX8) (N := 44) hx hb hts iX8 hown hK hP 0 rfl rfl 30 (by decide) f182 (fun _ h9 => h9) rfl dX8_isShape_6 ?_
    refine lv_icmp_ge (tgt := 16) hx hb dX8_isShape_9 (by decide) (fun hc => ?_) (fun hc => ?_)
    · replace h := h.1 hc
      refine lv_iconst (v := 0) hx hb dX8_isShape_16 (by decide) ?_
      exact ret (0 : Int32) () _ _ _ 17 dX8_isShape_17 ⟨by decide, h⟩ hP hD hS
    · replace h := h.2 hc
      refine lv_iconst (v := 1) hx hb dX8_isShape_12 (by decide) ?_
      refine lv_goto (tgt := 17) hx hb dX8_isShape_13 (by decide) ?_
      exact ret (1 : Int32) () _ _ _ 17 dX8_isShape_17 ⟨by decide, h⟩ hP hD hS
def wd_X8_placeAt (cI cZ cJ : ClassId) (a_this a_imageX a_imageY a_cubeX a_cubeY a_cubeZ a_cubeOf a_looks a_lies a_handX a_handY a_handRight a_handUp a_order a_choice a_has a_atX a_atY a_right a_up a_bestX a_bestY a_shapeSize a_shapeRow a_nextFace a_leads a_grid a_row a_bestRow a_on a_onRight a_onUp a_queue : Nat) (v_cubes : Int32) (v_faces : Int32) (v_laid : Int32) (v_count : Int32) (v_step : Int32) (v_ended : Int32) (v_nets : Int32) (v_work : Int32) (v_bestWidth : Int32) (v_bestHeight : Int32) (v_bestNet : Int32) (v_shapes : Int32) (v_imageX : Nat → Int32) (v_imageY : Nat → Int32) : va_W := [(a_this, .inr (8, [.int v_cubes, .ref a_cubeX, .ref a_cubeY, .ref a_cubeZ, .int v_faces, .ref a_cubeOf, .ref a_looks, .int v_laid, .ref a_lies, .ref a_handX, .ref a_handY, .ref a_handRight, .ref a_handUp, .int v_count, .ref a_order, .ref a_choice, .ref a_has, .ref a_atX, .ref a_atY, .ref a_right, .ref a_up, .int v_step, .int v_ended, .int v_nets, .int v_work, .int v_bestWidth, .int v_bestHeight, .int v_bestNet, .ref a_bestX, .ref a_bestY, .int v_shapes, .ref a_shapeSize, .ref a_shapeRow, .ref a_nextFace, .ref a_leads, .ref a_grid, .ref a_imageX, .ref a_imageY, .ref a_row, .ref a_bestRow, .ref a_on, .ref a_onRight, .ref a_onUp, .ref a_queue])),
  (a_imageX, .inl (cI, 30, .inl v_imageX)),
  (a_imageY, .inl (cI, 30, .inl v_imageY))]
abbrev rm_X8_placeAt : Room := { frames := 0, cells := 0, slots := 0, locals := 0 }
set_option maxHeartbeats 4000000 in
set_option maxRecDepth 100000 in
theorem c_X8_placeAt (l : Launch) (D : va_G) (cI cZ cJ : ClassId) (tb : Nat → Nat) (a_this a_imageX a_imageY a_cubeX a_cubeY a_cubeZ a_cubeOf a_looks a_lies a_handX a_handY a_handRight a_handUp a_order a_choice a_has a_atX a_atY a_right a_up a_bestX a_bestY a_shapeSize a_shapeRow a_nextFace a_leads a_grid a_row a_bestRow a_on a_onRight a_onUp a_queue : Nat) (v_cubes : Int32) (v_faces : Int32) (v_laid : Int32) (v_count : Int32) (v_step : Int32) (v_ended : Int32) (v_nets : Int32) (v_work : Int32) (v_bestWidth : Int32) (v_bestHeight : Int32) (v_bestNet : Int32) (v_shapes : Int32) (v_imageX : Nat → Int32) (v_imageY : Nat → Int32) (sz : Nat) (p1 : Int32) (p2 : Int32) (p3 : Int32) {post : Int32 → Prop} (h : wp_X8_placeAt v_imageX v_imageY p1 p2 p3 post) : Met l yX8_placeAt wsX8_placeAt rm_X8_placeAt (va_Pc [.ref a_this, .int p1, .int p2, .int p3] (q_pre D cI cZ cJ tb (wd_X8_placeAt cI cZ cJ a_this a_imageX a_imageY a_cubeX a_cubeY a_cubeZ a_cubeOf a_looks a_lies a_handX a_handY a_handRight a_handUp a_order a_choice a_has a_atX a_atY a_right a_up a_bestX a_bestY a_shapeSize a_shapeRow a_nextFace a_leads a_grid a_row a_bestRow a_on a_onRight a_onUp a_queue v_cubes v_faces v_laid v_count v_step v_ended v_nets v_work v_bestWidth v_bestHeight v_bestNet v_shapes v_imageX v_imageY) sz)) (va_Qi (fun r (u : Unit) => post r) (fun u => q_post D cI cZ cJ (va_A (wd_X8_placeAt cI cZ cJ a_this a_imageX a_imageY a_cubeX a_cubeY a_cubeZ a_cubeOf a_looks a_lies a_handX a_handY a_handRight a_handUp a_order a_choice a_has a_atX a_atY a_right a_up a_bestX a_bestY a_shapeSize a_shapeRow a_nextFace a_leads a_grid a_row a_bestRow a_on a_onRight a_onUp a_queue v_cubes v_faces v_laid v_count v_step v_ended v_nets v_work v_bestWidth v_bestHeight v_bestNet v_shapes v_imageX v_imageY) sz) (wd_X8_placeAt cI cZ cJ a_this a_imageX a_imageY a_cubeX a_cubeY a_cubeZ a_cubeOf a_looks a_lies a_handX a_handY a_handRight a_handUp a_order a_choice a_has a_atX a_atY a_right a_up a_bestX a_bestY a_shapeSize a_shapeRow a_nextFace a_leads a_grid a_row a_bestRow a_on a_onRight a_onUp a_queue v_cubes v_faces v_laid v_count v_step v_ended v_nets v_work v_bestWidth v_bestHeight v_bestNet v_shapes v_imageX v_imageY)) (va_A (wd_X8_placeAt cI cZ cJ a_this a_imageX a_imageY a_cubeX a_cubeY a_cubeZ a_cubeOf a_looks a_lies a_handX a_handY a_handRight a_handUp a_order a_choice a_has a_atX a_atY a_right a_up a_bestX a_bestY a_shapeSize a_shapeRow a_nextFace a_leads a_grid a_row a_bestRow a_on a_onRight a_onUp a_queue v_cubes v_faces v_laid v_count v_step v_ended v_nets v_work v_bestWidth v_bestHeight v_bestNet v_shapes v_imageX v_imageY) sz)) 0 0 (va_A (wd_X8_placeAt cI cZ cJ a_this a_imageX a_imageY a_cubeX a_cubeY a_cubeZ a_cubeOf a_looks a_lies a_handX a_handY a_handRight a_handUp a_order a_choice a_has a_atX a_atY a_right a_up a_bestX a_bestY a_shapeSize a_shapeRow a_nextFace a_leads a_grid a_row a_bestRow a_on a_onRight a_onUp a_queue v_cubes v_faces v_laid v_count v_step v_ended v_nets v_work v_bestWidth v_bestHeight v_bestNet v_shapes v_imageX v_imageY) sz) := by
  refine q_walki (cc := cX8_placeAt) (maxL := 5) (own := RX8) (wd := fun (u : Unit) => (wd_X8_placeAt cI cZ cJ a_this a_imageX a_imageY a_cubeX a_cubeY a_cubeZ a_cubeOf a_looks a_lies a_handX a_handY a_handRight a_handUp a_order a_choice a_has a_atX a_atY a_right a_up a_bestX a_bestY a_shapeSize a_shapeRow a_nextFace a_leads a_grid a_row a_bestRow a_on a_onRight a_onUp a_queue v_cubes v_faces v_laid v_count v_step v_ended v_nets v_work v_bestWidth v_bestHeight v_bestNet v_shapes v_imageX v_imageY)) (by decide) rfl rfl (Nat.le_of_ble_eq_true rfl) ?_
  intro p e s m below meth c Q A ls C hA ret hP hD hS hK hSt hNw hl
  obtain ⟨hx, hb, hml, hown, hts⟩ := id C
  replace hl : lv_has ls 5 [(0, .ref a_this), (1, .int p1), (2, .int p2), (3, .int p3)] := hl
  have f84 := hts (.fieldLink RX8 84 "NetSearchModel" "imageX" "[I") (by decide +kernel)
  have iX8 : ∀ w ∈ wsX80, w ∈ wsX8_placeAt := by decide +kernel
  have f87 := hts (.fieldLink RX8 87 "NetSearchModel" "imageY" "[I") (by decide +kernel)
  have L3_ok : ∀ (l1 : Int32) (l2 : Int32) (l3 : Int32) (kx31 : Int32 → Prop) (hkx31 : ∀ (l4 : Int32) (H : Heap) (locs : List Loc) (ls : Array Slot), kx31 l4 → va_P D vwCl (wd_X8_placeAt cI cZ cJ a_this a_imageX a_imageY a_cubeX a_cubeY a_cubeZ a_cubeOf a_looks a_lies a_handX a_handY a_handRight a_handUp a_order a_choice a_has a_atX a_atY a_right a_up a_bestX a_bestY a_shapeSize a_shapeRow a_nextFace a_leads a_grid a_row a_bestRow a_on a_onRight a_onUp a_queue v_cubes v_faces v_laid v_count v_step v_ended v_nets v_work v_bestWidth v_bestHeight v_bestNet v_shapes v_imageX v_imageY) H → va_D A (wd_X8_placeAt cI cZ cJ a_this a_imageX a_imageY a_cubeX a_cubeY a_cubeZ a_cubeOf a_looks a_lies a_handX a_handY a_handRight a_handUp a_order a_choice a_has a_atX a_atY a_right a_up a_bestX a_bestY a_shapeSize a_shapeRow a_nextFace a_leads a_grid a_row a_bestRow a_on a_onRight a_onUp a_queue v_cubes v_faces v_laid v_count v_step v_ended v_nets v_work v_bestWidth v_bestHeight v_bestNet v_shapes v_imageX v_imageY) → va_S A s.heap H locs → lv_has ls 5 [(4, .int l4)] → W p l e rm_X8_placeAt s m ([.ref a_this, .int p1, .int p2, .int p3] : List Value).toArray below meth c H locs 0 0 Q (F0 m 31 ls [])) (kx40 : Prop) (hkx40 : ∀ (H : Heap) (locs : List Loc) (ls : Array Slot), kx40  → va_P D vwCl (wd_X8_placeAt cI cZ cJ a_this a_imageX a_imageY a_cubeX a_cubeY a_cubeZ a_cubeOf a_looks a_lies a_handX a_handY a_handRight a_handUp a_order a_choice a_has a_atX a_atY a_right a_up a_bestX a_bestY a_shapeSize a_shapeRow a_nextFace a_leads a_grid a_row a_bestRow a_on a_onRight a_onUp a_queue v_cubes v_faces v_laid v_count v_step v_ended v_nets v_work v_bestWidth v_bestHeight v_bestNet v_shapes v_imageX v_imageY) H → va_D A (wd_X8_placeAt cI cZ cJ a_this a_imageX a_imageY a_cubeX a_cubeY a_cubeZ a_cubeOf a_looks a_lies a_handX a_handY a_handRight a_handUp a_order a_choice a_has a_atX a_atY a_right a_up a_bestX a_bestY a_shapeSize a_shapeRow a_nextFace a_leads a_grid a_row a_bestRow a_on a_onRight a_onUp a_queue v_cubes v_faces v_laid v_count v_step v_ended v_nets v_work v_bestWidth v_bestHeight v_bestNet v_shapes v_imageX v_imageY) → va_S A s.heap H locs → lv_has ls 5 [] → W p l e rm_X8_placeAt s m ([.ref a_this, .int p1, .int p2, .int p3] : List Value).toArray below meth c H locs 0 0 Q (F0 m 40 ls [])) (n : Nat) (l4 : Int32) (H : Heap) (locs : List Loc) (ls : Array Slot), lpN (wl_X8_placeAt_3 v_imageX v_imageY l1 l2 l3 kx31 kx40) n l4 → va_P D vwCl (wd_X8_placeAt cI cZ cJ a_this a_imageX a_imageY a_cubeX a_cubeY a_cubeZ a_cubeOf a_looks a_lies a_handX a_handY a_handRight a_handUp a_order a_choice a_has a_atX a_atY a_right a_up a_bestX a_bestY a_shapeSize a_shapeRow a_nextFace a_leads a_grid a_row a_bestRow a_on a_onRight a_onUp a_queue v_cubes v_faces v_laid v_count v_step v_ended v_nets v_work v_bestWidth v_bestHeight v_bestNet v_shapes v_imageX v_imageY) H → va_D A (wd_X8_placeAt cI cZ cJ a_this a_imageX a_imageY a_cubeX a_cubeY a_cubeZ a_cubeOf a_looks a_lies a_handX a_handY a_handRight a_handUp a_order a_choice a_has a_atX a_atY a_right a_up a_bestX a_bestY a_shapeSize a_shapeRow a_nextFace a_leads a_grid a_row a_bestRow a_on a_onRight a_onUp a_queue v_cubes v_faces v_laid v_count v_step v_ended v_nets v_work v_bestWidth v_bestHeight v_bestNet v_shapes v_imageX v_imageY) → va_S A s.heap H locs → lv_has ls 5 [(0, .ref a_this), (1, .int l1), (2, .int l2), (3, .int l3), (4, .int l4)] → W p l e rm_X8_placeAt s m ([.ref a_this, .int p1, .int p2, .int p3] : List Value).toArray below meth c H locs 0 0 Q (F0 m 3 ls []) := by
    intro l1 l2 l3 kx31 hkx31 kx40 hkx40 n
    induction n with
    | zero => intro l4 H locs ls h; exact False.elim h
    | succ n ih =>
      intro l4 H locs ls h hP hD hS hl
      have h : wb_X8_placeAt_3 v_imageX v_imageY l1 l2 l3 kx31 kx40 (fun l4 => lpN (wl_X8_placeAt_3 v_imageX v_imageY l1 l2 l3 kx31 kx40) n l4) l4 := h
      unfold wb_X8_placeAt_3 at h
      refine lv_iload hx hb dX8_placeAt_3 (lv_at hl 4 rfl) ?_
      refine lv_iload_n hx hb dX8_placeAt_5 rfl (lv_at hl 1 rfl) ?_
      refine lv_icmp_ge (tgt := 40) hx hb dX8_placeAt_6 (by decide) (fun hc => ?_) (fun hc => ?_)
      · replace h := h.1 hc
        exact hkx40  _ _ _ h hP hD hS (lv_sub hl [] rfl)
      · replace h := h.2 hc
        refine lv_aload_n hx hb dX8_placeAt_9 rfl (lv_at hl 0 rfl) ?_
        refine va_get (D := D) (ci := 8) (v := .ref a_imageX) (C := RX8) (T := TX8) (N := 44) hx hb hts iX8 hown hK hP 0 rfl rfl 36 (by decide) f84 (fun _ h9 => h9) rfl dX8_placeAt_10 ?_
        refine lv_iload hx hb dX8_placeAt_13 (lv_at hl 4 rfl) ?_
        obtain ⟨hin, h⟩ := h
        refine va_iald hx hb hK hP 1 0 rfl rfl hin dX8_placeAt_15 ?_
        refine lv_iload_n hx hb dX8_placeAt_16 rfl (lv_at hl 2 rfl) ?_
        refine lv_icmp_ne (tgt := 34) hx hb dX8_placeAt_17 (by decide) (fun hc => ?_) (fun hc => ?_)
        · replace h := h.1 hc
          refine lv_iinc (v := (l4 + (1 : Int32))) (lv' := [(4, .int (l4 + (1 : Int32))), (0, .ref a_this), (1, .int l1), (2, .int l2), (3, .int l3)]) hx hb dX8_placeAt_34 hl (k := 4) rfl rfl (by decide) rfl (fun ls hl => ?_)
          refine lv_goto (tgt := 3) hx hb dX8_placeAt_37 (by decide) ?_
          exact ih (l4 + (1 : Int32)) _ _ _ h hP hD hS (lv_sub hl [1, 2, 3, 4, 0] rfl)
        · replace h := h.2 hc
          refine lv_aload_n hx hb dX8_placeAt_20 rfl (lv_at hl 0 rfl) ?_
          refine va_get (D := D) (ci := 8) (v := .ref a_imageY) (C := RX8) (T := TX8) (N := 44) hx hb hts iX8 hown hK hP 0 rfl rfl 37 (by decide) f87 (fun _ h9 => h9) rfl dX8_placeAt_21 ?_
          refine lv_iload hx hb dX8_placeAt_24 (lv_at hl 4 rfl) ?_
          obtain ⟨hin, h⟩ := h
          refine va_iald hx hb hK hP 2 0 rfl rfl hin dX8_placeAt_26 ?_
          refine lv_iload_n hx hb dX8_placeAt_27 rfl (lv_at hl 3 rfl) ?_
          refine lv_icmp_ne (tgt := 34) hx hb dX8_placeAt_28 (by decide) (fun hc => ?_) (fun hc => ?_)
          · replace h := h.1 hc
            refine lv_iinc (v := (l4 + (1 : Int32))) (lv' := [(4, .int (l4 + (1 : Int32))), (0, .ref a_this), (1, .int l1), (2, .int l2), (3, .int l3)]) hx hb dX8_placeAt_34 hl (k := 4) rfl rfl (by decide) rfl (fun ls hl => ?_)
            refine lv_goto (tgt := 3) hx hb dX8_placeAt_37 (by decide) ?_
            exact ih (l4 + (1 : Int32)) _ _ _ h hP hD hS (lv_sub hl [1, 2, 3, 4, 0] rfl)
          · replace h := h.2 hc
            exact hkx31 l4 _ _ _ h hP hD hS (lv_sub hl [4] rfl)
  unfold wp_X8_placeAt at h
  refine lv_iconst (v := 0) hx hb dX8_placeAt_0 (by decide) ?_
  refine lv_istore (lv' := [(4, .int (0 : Int32)), (0, .ref a_this), (1, .int p1), (2, .int p2), (3, .int p3)]) hx hb dX8_placeAt_1 hl (by decide) rfl (fun ls hl => ?_)
  obtain ⟨n, h⟩ := h
  refine L3_ok p1 p2 p3 _ (fun l4_1 H locs ls h hP hD hS hl => ?_) _ (fun  H locs ls h hP hD hS hl => ?_) n (0 : Int32) _ _ _ h hP hD hS (lv_sub hl [1, 2, 3, 4, 0] rfl)
  · refine lv_iload hx hb dX8_placeAt_31 (lv_at hl 0 rfl) ?_
    exact ret l4_1 () _ _ _ 33 dX8_placeAt_33 h hP hD hS
  · refine lv_bipush (v := -9) hx hb dX8_placeAt_40 (by decide) ?_
    exact ret (-9 : Int32) () _ _ _ 42 dX8_placeAt_42 h hP hD hS
def wd_X8_isWrapped (cI cZ cJ : ClassId) (a_this a_imageX a_imageY a_leads a_looks a_nextFace a_on a_onRight a_onUp a_queue a_shapeRow a_shapeSize a_cubeX a_cubeY a_cubeZ a_cubeOf a_lies a_handX a_handY a_handRight a_handUp a_order a_choice a_has a_atX a_atY a_right a_up a_bestX a_bestY a_grid a_row a_bestRow : Nat) (v_cubes : Int32) (v_faces : Int32) (v_laid : Int32) (v_count : Int32) (v_step : Int32) (v_ended : Int32) (v_nets : Int32) (v_work : Int32) (v_bestWidth : Int32) (v_bestHeight : Int32) (v_bestNet : Int32) (v_shapes : Int32) (v_imageX : Nat → Int32) (v_imageY : Nat → Int32) (v_leads : Nat → Int32) (v_looks : Nat → Int32) (v_nextFace : Nat → Int32) (v_on : Nat → Int32) (v_onRight : Nat → Int32) (v_onUp : Nat → Int32) (v_queue : Nat → Int32) (v_shapeRow : Nat → Int32) (v_shapeSize : Nat → Int32) : va_W := [(a_this, .inr (8, [.int v_cubes, .ref a_cubeX, .ref a_cubeY, .ref a_cubeZ, .int v_faces, .ref a_cubeOf, .ref a_looks, .int v_laid, .ref a_lies, .ref a_handX, .ref a_handY, .ref a_handRight, .ref a_handUp, .int v_count, .ref a_order, .ref a_choice, .ref a_has, .ref a_atX, .ref a_atY, .ref a_right, .ref a_up, .int v_step, .int v_ended, .int v_nets, .int v_work, .int v_bestWidth, .int v_bestHeight, .int v_bestNet, .ref a_bestX, .ref a_bestY, .int v_shapes, .ref a_shapeSize, .ref a_shapeRow, .ref a_nextFace, .ref a_leads, .ref a_grid, .ref a_imageX, .ref a_imageY, .ref a_row, .ref a_bestRow, .ref a_on, .ref a_onRight, .ref a_onUp, .ref a_queue])),
  (a_imageX, .inl (cI, 30, .inl v_imageX)),
  (a_imageY, .inl (cI, 30, .inl v_imageY)),
  (a_leads, .inl (cI, 180, .inl v_leads)),
  (a_looks, .inl (cI, 30, .inl v_looks)),
  (a_nextFace, .inl (cI, 180, .inl v_nextFace)),
  (a_on, .inl (cI, 30, .inl v_on)),
  (a_onRight, .inl (cI, 30, .inl v_onRight)),
  (a_onUp, .inl (cI, 30, .inl v_onUp)),
  (a_queue, .inl (cI, 30, .inl v_queue)),
  (a_shapeRow, .inl (cI, 1920, .inl v_shapeRow)),
  (a_shapeSize, .inl (cI, 64, .inl v_shapeSize))]
abbrev rm_X8_isWrapped : Room := { frames := 2, cells := 0, slots := 0, locals := 47 }
set_option maxHeartbeats 4000000 in
set_option maxRecDepth 100000 in
theorem c_X8_isWrapped (l : Launch) (D : va_G) (cI cZ cJ : ClassId) (tb : Nat → Nat) (a_this a_imageX a_imageY a_leads a_looks a_nextFace a_on a_onRight a_onUp a_queue a_shapeRow a_shapeSize a_cubeX a_cubeY a_cubeZ a_cubeOf a_lies a_handX a_handY a_handRight a_handUp a_order a_choice a_has a_atX a_atY a_right a_up a_bestX a_bestY a_grid a_row a_bestRow : Nat) (v_cubes : Int32) (v_faces : Int32) (v_laid : Int32) (v_count : Int32) (v_step : Int32) (v_ended : Int32) (v_nets : Int32) (v_work : Int32) (v_bestWidth : Int32) (v_bestHeight : Int32) (v_bestNet : Int32) (v_shapes : Int32) (v_imageX : Nat → Int32) (v_imageY : Nat → Int32) (v_leads : Nat → Int32) (v_looks : Nat → Int32) (v_nextFace : Nat → Int32) (v_on : Nat → Int32) (v_onRight : Nat → Int32) (v_onUp : Nat → Int32) (v_queue : Nat → Int32) (v_shapeRow : Nat → Int32) (v_shapeSize : Nat → Int32) (sz : Nat) (p1 : Int32) (p2 : Int32) (p3 : Int32) {post : Int32 → (Nat → Int32) → (Nat → Int32) → (Nat → Int32) → (Nat → Int32) → (Nat → Int32) → (Nat → Int32) → Prop} (h : wp_X8_isWrapped v_imageX v_imageY v_leads v_looks v_nextFace v_on v_onRight v_onUp v_queue v_shapeRow v_shapeSize p1 p2 p3 post) : Met l yX8_isWrapped wsX8_isWrapped rm_X8_isWrapped (va_Pc [.ref a_this, .int p1, .int p2, .int p3] (q_pre D cI cZ cJ tb (wd_X8_isWrapped cI cZ cJ a_this a_imageX a_imageY a_leads a_looks a_nextFace a_on a_onRight a_onUp a_queue a_shapeRow a_shapeSize a_cubeX a_cubeY a_cubeZ a_cubeOf a_lies a_handX a_handY a_handRight a_handUp a_order a_choice a_has a_atX a_atY a_right a_up a_bestX a_bestY a_grid a_row a_bestRow v_cubes v_faces v_laid v_count v_step v_ended v_nets v_work v_bestWidth v_bestHeight v_bestNet v_shapes v_imageX v_imageY v_leads v_looks v_nextFace v_on v_onRight v_onUp v_queue v_shapeRow v_shapeSize) sz)) (va_Qi (fun r (u : (Nat → Int32) × (Nat → Int32) × (Nat → Int32) × (Nat → Int32) × (Nat → Int32) × (Nat → Int32)) => post r u.1 u.2.1 u.2.2.1 u.2.2.2.1 u.2.2.2.2.1 u.2.2.2.2.2) (fun u => q_post D cI cZ cJ (va_A (wd_X8_isWrapped cI cZ cJ a_this a_imageX a_imageY a_leads a_looks a_nextFace a_on a_onRight a_onUp a_queue a_shapeRow a_shapeSize a_cubeX a_cubeY a_cubeZ a_cubeOf a_lies a_handX a_handY a_handRight a_handUp a_order a_choice a_has a_atX a_atY a_right a_up a_bestX a_bestY a_grid a_row a_bestRow v_cubes v_faces v_laid v_count v_step v_ended v_nets v_work v_bestWidth v_bestHeight v_bestNet v_shapes v_imageX v_imageY v_leads v_looks v_nextFace v_on v_onRight v_onUp v_queue v_shapeRow v_shapeSize) sz) (wd_X8_isWrapped cI cZ cJ a_this a_imageX a_imageY a_leads a_looks a_nextFace a_on a_onRight a_onUp a_queue a_shapeRow a_shapeSize a_cubeX a_cubeY a_cubeZ a_cubeOf a_lies a_handX a_handY a_handRight a_handUp a_order a_choice a_has a_atX a_atY a_right a_up a_bestX a_bestY a_grid a_row a_bestRow v_cubes v_faces v_laid v_count v_step v_ended v_nets v_work v_bestWidth v_bestHeight v_bestNet v_shapes u.1 u.2.1 v_leads v_looks v_nextFace u.2.2.1 u.2.2.2.1 u.2.2.2.2.1 u.2.2.2.2.2 v_shapeRow v_shapeSize)) (va_A (wd_X8_isWrapped cI cZ cJ a_this a_imageX a_imageY a_leads a_looks a_nextFace a_on a_onRight a_onUp a_queue a_shapeRow a_shapeSize a_cubeX a_cubeY a_cubeZ a_cubeOf a_lies a_handX a_handY a_handRight a_handUp a_order a_choice a_has a_atX a_atY a_right a_up a_bestX a_bestY a_grid a_row a_bestRow v_cubes v_faces v_laid v_count v_step v_ended v_nets v_work v_bestWidth v_bestHeight v_bestNet v_shapes v_imageX v_imageY v_leads v_looks v_nextFace v_on v_onRight v_onUp v_queue v_shapeRow v_shapeSize) sz)) 0 0 (va_A (wd_X8_isWrapped cI cZ cJ a_this a_imageX a_imageY a_leads a_looks a_nextFace a_on a_onRight a_onUp a_queue a_shapeRow a_shapeSize a_cubeX a_cubeY a_cubeZ a_cubeOf a_lies a_handX a_handY a_handRight a_handUp a_order a_choice a_has a_atX a_atY a_right a_up a_bestX a_bestY a_grid a_row a_bestRow v_cubes v_faces v_laid v_count v_step v_ended v_nets v_work v_bestWidth v_bestHeight v_bestNet v_shapes v_imageX v_imageY v_leads v_looks v_nextFace v_on v_onRight v_onUp v_queue v_shapeRow v_shapeSize) sz) := by
  refine q_walkz (cc := cX8_isWrapped) (maxL := 13) (own := RX8) (wd := fun (u : (Nat → Int32) × (Nat → Int32) × (Nat → Int32) × (Nat → Int32) × (Nat → Int32) × (Nat → Int32)) => (wd_X8_isWrapped cI cZ cJ a_this a_imageX a_imageY a_leads a_looks a_nextFace a_on a_onRight a_onUp a_queue a_shapeRow a_shapeSize a_cubeX a_cubeY a_cubeZ a_cubeOf a_lies a_handX a_handY a_handRight a_handUp a_order a_choice a_has a_atX a_atY a_right a_up a_bestX a_bestY a_grid a_row a_bestRow v_cubes v_faces v_laid v_count v_step v_ended v_nets v_work v_bestWidth v_bestHeight v_bestNet v_shapes u.1 u.2.1 v_leads v_looks v_nextFace u.2.2.1 u.2.2.2.1 u.2.2.2.2.1 u.2.2.2.2.2 v_shapeRow v_shapeSize)) (by decide) rfl rfl (Nat.le_of_ble_eq_true rfl) ?_
  intro p e s m below meth c Q A ls C hA ret hP hD hS hK hSt hNw hl
  obtain ⟨hx, hb, hml, hown, hts⟩ := id C
  replace hl : lv_has ls 13 [(0, .ref a_this), (1, .int p1), (2, .int p2), (3, .int p3)] := hl
  have f96 := hts (.fieldLink RX8 96 "NetSearchModel" "on" "[I") (by decide +kernel)
  have iX8 : ∀ w ∈ wsX80, w ∈ wsX8_isWrapped := by decide +kernel
  have f84 := hts (.fieldLink RX8 84 "NetSearchModel" "imageX" "[I") (by decide +kernel)
  have f87 := hts (.fieldLink RX8 87 "NetSearchModel" "imageY" "[I") (by decide +kernel)
  have f99 := hts (.fieldLink RX8 99 "NetSearchModel" "onRight" "[I") (by decide +kernel)
  have f102 := hts (.fieldLink RX8 102 "NetSearchModel" "onUp" "[I") (by decide +kernel)
  have f105 := hts (.fieldLink RX8 105 "NetSearchModel" "queue" "[I") (by decide +kernel)
  have f71 := hts (.fieldLink RX8 71 "NetSearchModel" "shapeRow" "[I") (by decide +kernel)
  have f68 := hts (.fieldLink RX8 68 "NetSearchModel" "shapeSize" "[I") (by decide +kernel)
  have f22 := hts (.fieldLink RX8 22 "NetSearchModel" "looks" "[I") (by decide +kernel)
  have L420_ok : ∀ (v_imageX : Nat → Int32) (v_imageY : Nat → Int32) (v_on : Nat → Int32) (v_onRight : Nat → Int32) (v_onUp : Nat → Int32) (v_queue : Nat → Int32) (l4 : Int32) (l6 : Int32) (kx444 : Prop) (hkx444 : ∀ (H : Heap) (locs : List Loc) (ls : Array Slot), kx444  → va_P D vwCl (wd_X8_isWrapped cI cZ cJ a_this a_imageX a_imageY a_leads a_looks a_nextFace a_on a_onRight a_onUp a_queue a_shapeRow a_shapeSize a_cubeX a_cubeY a_cubeZ a_cubeOf a_lies a_handX a_handY a_handRight a_handUp a_order a_choice a_has a_atX a_atY a_right a_up a_bestX a_bestY a_grid a_row a_bestRow v_cubes v_faces v_laid v_count v_step v_ended v_nets v_work v_bestWidth v_bestHeight v_bestNet v_shapes v_imageX v_imageY v_leads v_looks v_nextFace v_on v_onRight v_onUp v_queue v_shapeRow v_shapeSize) H → va_D A (wd_X8_isWrapped cI cZ cJ a_this a_imageX a_imageY a_leads a_looks a_nextFace a_on a_onRight a_onUp a_queue a_shapeRow a_shapeSize a_cubeX a_cubeY a_cubeZ a_cubeOf a_lies a_handX a_handY a_handRight a_handUp a_order a_choice a_has a_atX a_atY a_right a_up a_bestX a_bestY a_grid a_row a_bestRow v_cubes v_faces v_laid v_count v_step v_ended v_nets v_work v_bestWidth v_bestHeight v_bestNet v_shapes v_imageX v_imageY v_leads v_looks v_nextFace v_on v_onRight v_onUp v_queue v_shapeRow v_shapeSize) → va_S A s.heap H locs → lv_has ls 13 [] → W p l e rm_X8_isWrapped s m ([.ref a_this, .int p1, .int p2, .int p3] : List Value).toArray below meth c H locs 0 0 Q (F0 m 444 ls [])) (kx452 : Prop) (hkx452 : ∀ (H : Heap) (locs : List Loc) (ls : Array Slot), kx452  → va_P D vwCl (wd_X8_isWrapped cI cZ cJ a_this a_imageX a_imageY a_leads a_looks a_nextFace a_on a_onRight a_onUp a_queue a_shapeRow a_shapeSize a_cubeX a_cubeY a_cubeZ a_cubeOf a_lies a_handX a_handY a_handRight a_handUp a_order a_choice a_has a_atX a_atY a_right a_up a_bestX a_bestY a_grid a_row a_bestRow v_cubes v_faces v_laid v_count v_step v_ended v_nets v_work v_bestWidth v_bestHeight v_bestNet v_shapes v_imageX v_imageY v_leads v_looks v_nextFace v_on v_onRight v_onUp v_queue v_shapeRow v_shapeSize) H → va_D A (wd_X8_isWrapped cI cZ cJ a_this a_imageX a_imageY a_leads a_looks a_nextFace a_on a_onRight a_onUp a_queue a_shapeRow a_shapeSize a_cubeX a_cubeY a_cubeZ a_cubeOf a_lies a_handX a_handY a_handRight a_handUp a_order a_choice a_has a_atX a_atY a_right a_up a_bestX a_bestY a_grid a_row a_bestRow v_cubes v_faces v_laid v_count v_step v_ended v_nets v_work v_bestWidth v_bestHeight v_bestNet v_shapes v_imageX v_imageY v_leads v_looks v_nextFace v_on v_onRight v_onUp v_queue v_shapeRow v_shapeSize) → va_S A s.heap H locs → lv_has ls 13 [(0, .ref a_this), (4, .int l4), (6, .int l6)] → W p l e rm_X8_isWrapped s m ([.ref a_this, .int p1, .int p2, .int p3] : List Value).toArray below meth c H locs 0 0 Q (F0 m 452 ls [])) (n : Nat) (l7 : Int32) (H : Heap) (locs : List Loc) (ls : Array Slot), lpN (wl_X8_isWrapped_420 v_on l6 kx444 kx452) n l7 → va_P D vwCl (wd_X8_isWrapped cI cZ cJ a_this a_imageX a_imageY a_leads a_looks a_nextFace a_on a_onRight a_onUp a_queue a_shapeRow a_shapeSize a_cubeX a_cubeY a_cubeZ a_cubeOf a_lies a_handX a_handY a_handRight a_handUp a_order a_choice a_has a_atX a_atY a_right a_up a_bestX a_bestY a_grid a_row a_bestRow v_cubes v_faces v_laid v_count v_step v_ended v_nets v_work v_bestWidth v_bestHeight v_bestNet v_shapes v_imageX v_imageY v_leads v_looks v_nextFace v_on v_onRight v_onUp v_queue v_shapeRow v_shapeSize) H → va_D A (wd_X8_isWrapped cI cZ cJ a_this a_imageX a_imageY a_leads a_looks a_nextFace a_on a_onRight a_onUp a_queue a_shapeRow a_shapeSize a_cubeX a_cubeY a_cubeZ a_cubeOf a_lies a_handX a_handY a_handRight a_handUp a_order a_choice a_has a_atX a_atY a_right a_up a_bestX a_bestY a_grid a_row a_bestRow v_cubes v_faces v_laid v_count v_step v_ended v_nets v_work v_bestWidth v_bestHeight v_bestNet v_shapes v_imageX v_imageY v_leads v_looks v_nextFace v_on v_onRight v_onUp v_queue v_shapeRow v_shapeSize) → va_S A s.heap H locs → lv_has ls 13 [(0, .ref a_this), (4, .int l4), (6, .int l6), (7, .int l7)] → W p l e rm_X8_isWrapped s m ([.ref a_this, .int p1, .int p2, .int p3] : List Value).toArray below meth c H locs 0 0 Q (F0 m 420 ls []) := by
    intro v_imageX v_imageY v_on v_onRight v_onUp v_queue l4 l6 kx444 hkx444 kx452 hkx452 n
    induction n with
    | zero => intro l7 H locs ls h; exact False.elim h
    | succ n ih =>
      intro l7 H locs ls h hP hD hS hl
      have h : wb_X8_isWrapped_420 v_on l6 kx444 kx452 (fun l7 => lpN (wl_X8_isWrapped_420 v_on l6 kx444 kx452) n l7) l7 := h
      unfold wb_X8_isWrapped_420 at h
      refine lv_iload hx hb dX8_isWrapped_420 (lv_at hl 3 rfl) ?_
      refine lv_iload hx hb dX8_isWrapped_422 (lv_at hl 2 rfl) ?_
      refine lv_icmp_ge (tgt := 452) hx hb dX8_isWrapped_424 (by decide) (fun hc => ?_) (fun hc => ?_)
      · replace h := h.1 hc
        exact hkx452  _ _ _ h hP hD hS (lv_sub hl [0, 1, 2] rfl)
      · replace h := h.2 hc
        refine lv_aload_n hx hb dX8_isWrapped_427 rfl (lv_at hl 0 rfl) ?_
        refine va_get (D := D) (ci := 8) (v := .ref a_on) (C := RX8) (T := TX8) (N := 44) hx hb hts iX8 hown hK hP 0 rfl rfl 40 (by decide) f96 (fun _ h9 => h9) rfl dX8_isWrapped_428 ?_
        refine lv_iload hx hb dX8_isWrapped_431 (lv_at hl 2 rfl) ?_
        obtain ⟨hin, h⟩ := h
        refine va_iald hx hb hK hP 6 0 rfl rfl hin dX8_isWrapped_433 ?_
        refine lv_aload_n hx hb dX8_isWrapped_434 rfl (lv_at hl 0 rfl) ?_
        refine va_get (D := D) (ci := 8) (v := .ref a_on) (C := RX8) (T := TX8) (N := 44) hx hb hts iX8 hown hK hP 0 rfl rfl 40 (by decide) f96 (fun _ h9 => h9) rfl dX8_isWrapped_435 ?_
        refine lv_iload hx hb dX8_isWrapped_438 (lv_at hl 3 rfl) ?_
        obtain ⟨hin, h⟩ := h
        refine va_iald hx hb hK hP 6 0 rfl rfl hin dX8_isWrapped_440 ?_
        refine lv_icmp_ne (tgt := 446) hx hb dX8_isWrapped_441 (by decide) (fun hc => ?_) (fun hc => ?_)
        · replace h := h.1 hc
          refine lv_iinc (v := (l7 + (1 : Int32))) (lv' := [(7, .int (l7 + (1 : Int32))), (0, .ref a_this), (4, .int l4), (6, .int l6)]) hx hb dX8_isWrapped_446 hl (k := 3) rfl rfl (by decide) rfl (fun ls hl => ?_)
          refine lv_goto (tgt := 420) hx hb dX8_isWrapped_449 (by decide) ?_
          exact ih (l7 + (1 : Int32)) _ _ _ h hP hD hS (lv_sub hl [1, 2, 3, 0] rfl)
        · replace h := h.2 hc
          exact hkx444  _ _ _ h hP hD hS (lv_sub hl [] rfl)
  have L410_ok : ∀ (v_imageX : Nat → Int32) (v_imageY : Nat → Int32) (v_on : Nat → Int32) (v_onRight : Nat → Int32) (v_onUp : Nat → Int32) (v_queue : Nat → Int32) (l4 : Int32) (kx444 : Prop) (hkx444 : ∀ (H : Heap) (locs : List Loc) (ls : Array Slot), kx444  → va_P D vwCl (wd_X8_isWrapped cI cZ cJ a_this a_imageX a_imageY a_leads a_looks a_nextFace a_on a_onRight a_onUp a_queue a_shapeRow a_shapeSize a_cubeX a_cubeY a_cubeZ a_cubeOf a_lies a_handX a_handY a_handRight a_handUp a_order a_choice a_has a_atX a_atY a_right a_up a_bestX a_bestY a_grid a_row a_bestRow v_cubes v_faces v_laid v_count v_step v_ended v_nets v_work v_bestWidth v_bestHeight v_bestNet v_shapes v_imageX v_imageY v_leads v_looks v_nextFace v_on v_onRight v_onUp v_queue v_shapeRow v_shapeSize) H → va_D A (wd_X8_isWrapped cI cZ cJ a_this a_imageX a_imageY a_leads a_looks a_nextFace a_on a_onRight a_onUp a_queue a_shapeRow a_shapeSize a_cubeX a_cubeY a_cubeZ a_cubeOf a_lies a_handX a_handY a_handRight a_handUp a_order a_choice a_has a_atX a_atY a_right a_up a_bestX a_bestY a_grid a_row a_bestRow v_cubes v_faces v_laid v_count v_step v_ended v_nets v_work v_bestWidth v_bestHeight v_bestNet v_shapes v_imageX v_imageY v_leads v_looks v_nextFace v_on v_onRight v_onUp v_queue v_shapeRow v_shapeSize) → va_S A s.heap H locs → lv_has ls 13 [] → W p l e rm_X8_isWrapped s m ([.ref a_this, .int p1, .int p2, .int p3] : List Value).toArray below meth c H locs 0 0 Q (F0 m 444 ls [])) (kx458 : Prop) (hkx458 : ∀ (H : Heap) (locs : List Loc) (ls : Array Slot), kx458  → va_P D vwCl (wd_X8_isWrapped cI cZ cJ a_this a_imageX a_imageY a_leads a_looks a_nextFace a_on a_onRight a_onUp a_queue a_shapeRow a_shapeSize a_cubeX a_cubeY a_cubeZ a_cubeOf a_lies a_handX a_handY a_handRight a_handUp a_order a_choice a_has a_atX a_atY a_right a_up a_bestX a_bestY a_grid a_row a_bestRow v_cubes v_faces v_laid v_count v_step v_ended v_nets v_work v_bestWidth v_bestHeight v_bestNet v_shapes v_imageX v_imageY v_leads v_looks v_nextFace v_on v_onRight v_onUp v_queue v_shapeRow v_shapeSize) H → va_D A (wd_X8_isWrapped cI cZ cJ a_this a_imageX a_imageY a_leads a_looks a_nextFace a_on a_onRight a_onUp a_queue a_shapeRow a_shapeSize a_cubeX a_cubeY a_cubeZ a_cubeOf a_lies a_handX a_handY a_handRight a_handUp a_order a_choice a_has a_atX a_atY a_right a_up a_bestX a_bestY a_grid a_row a_bestRow v_cubes v_faces v_laid v_count v_step v_ended v_nets v_work v_bestWidth v_bestHeight v_bestNet v_shapes v_imageX v_imageY v_leads v_looks v_nextFace v_on v_onRight v_onUp v_queue v_shapeRow v_shapeSize) → va_S A s.heap H locs → lv_has ls 13 [] → W p l e rm_X8_isWrapped s m ([.ref a_this, .int p1, .int p2, .int p3] : List Value).toArray below meth c H locs 0 0 Q (F0 m 458 ls [])) (n : Nat) (l6 : Int32) (H : Heap) (locs : List Loc) (ls : Array Slot), lpN (wl_X8_isWrapped_410 v_on l4 kx444 kx458) n l6 → va_P D vwCl (wd_X8_isWrapped cI cZ cJ a_this a_imageX a_imageY a_leads a_looks a_nextFace a_on a_onRight a_onUp a_queue a_shapeRow a_shapeSize a_cubeX a_cubeY a_cubeZ a_cubeOf a_lies a_handX a_handY a_handRight a_handUp a_order a_choice a_has a_atX a_atY a_right a_up a_bestX a_bestY a_grid a_row a_bestRow v_cubes v_faces v_laid v_count v_step v_ended v_nets v_work v_bestWidth v_bestHeight v_bestNet v_shapes v_imageX v_imageY v_leads v_looks v_nextFace v_on v_onRight v_onUp v_queue v_shapeRow v_shapeSize) H → va_D A (wd_X8_isWrapped cI cZ cJ a_this a_imageX a_imageY a_leads a_looks a_nextFace a_on a_onRight a_onUp a_queue a_shapeRow a_shapeSize a_cubeX a_cubeY a_cubeZ a_cubeOf a_lies a_handX a_handY a_handRight a_handUp a_order a_choice a_has a_atX a_atY a_right a_up a_bestX a_bestY a_grid a_row a_bestRow v_cubes v_faces v_laid v_count v_step v_ended v_nets v_work v_bestWidth v_bestHeight v_bestNet v_shapes v_imageX v_imageY v_leads v_looks v_nextFace v_on v_onRight v_onUp v_queue v_shapeRow v_shapeSize) → va_S A s.heap H locs → lv_has ls 13 [(0, .ref a_this), (4, .int l4), (6, .int l6)] → W p l e rm_X8_isWrapped s m ([.ref a_this, .int p1, .int p2, .int p3] : List Value).toArray below meth c H locs 0 0 Q (F0 m 410 ls []) := by
    intro v_imageX v_imageY v_on v_onRight v_onUp v_queue l4 kx444 hkx444 kx458 hkx458 n
    induction n with
    | zero => intro l6 H locs ls h; exact False.elim h
    | succ n ih =>
      intro l6 H locs ls h hP hD hS hl
      have h : wb_X8_isWrapped_410 v_on l4 kx444 kx458 (fun l6 => lpN (wl_X8_isWrapped_410 v_on l4 kx444 kx458) n l6) l6 := h
      unfold wb_X8_isWrapped_410 at h
      refine lv_iload hx hb dX8_isWrapped_410 (lv_at hl 2 rfl) ?_
      refine lv_iload hx hb dX8_isWrapped_412 (lv_at hl 1 rfl) ?_
      refine lv_icmp_ge (tgt := 458) hx hb dX8_isWrapped_414 (by decide) (fun hc => ?_) (fun hc => ?_)
      · replace h := h.1 hc
        exact hkx458  _ _ _ h hP hD hS (lv_sub hl [] rfl)
      · replace h := h.2 hc
        refine lv_iconst (v := 0) hx hb dX8_isWrapped_417 (by decide) ?_
        refine lv_istore (lv' := [(7, .int (0 : Int32)), (0, .ref a_this), (4, .int l4), (6, .int l6)]) hx hb dX8_isWrapped_418 hl (by decide) rfl (fun ls hl => ?_)
        obtain ⟨n, h⟩ := h
        refine L420_ok v_imageX v_imageY v_on v_onRight v_onUp v_queue l4 l6 _ (fun  H locs ls h hP hD hS hl => ?_) _ (fun  H locs ls h hP hD hS hl => ?_) n (0 : Int32) _ _ _ h hP hD hS (lv_sub hl [1, 2, 3, 0] rfl)
        · exact hkx444  _ _ _ h hP hD hS (lv_sub hl [] rfl)
        · refine lv_iinc (v := (l6 + (1 : Int32))) (lv' := [(6, .int (l6 + (1 : Int32))), (0, .ref a_this), (4, .int l4)]) hx hb dX8_isWrapped_452 hl (k := 2) rfl rfl (by decide) rfl (fun ls hl => ?_)
          refine lv_goto (tgt := 410) hx hb dX8_isWrapped_455 (by decide) ?_
          exact ih (l6 + (1 : Int32)) _ _ _ h hP hD hS (lv_sub hl [1, 2, 0] rfl)
  have L166_ok : ∀ (v_imageX : Nat → Int32) (v_imageY : Nat → Int32) (l4 : Int32) (l6 : Int32) (l7 : Int32) (kx393 : (Nat → Int32) → (Nat → Int32) → (Nat → Int32) → (Nat → Int32) → Prop) (hkx393 : ∀ (v_on : Nat → Int32) (v_onRight : Nat → Int32) (v_onUp : Nat → Int32) (v_queue : Nat → Int32) (H : Heap) (locs : List Loc) (ls : Array Slot), kx393 v_on v_onRight v_onUp v_queue → va_P D vwCl (wd_X8_isWrapped cI cZ cJ a_this a_imageX a_imageY a_leads a_looks a_nextFace a_on a_onRight a_onUp a_queue a_shapeRow a_shapeSize a_cubeX a_cubeY a_cubeZ a_cubeOf a_lies a_handX a_handY a_handRight a_handUp a_order a_choice a_has a_atX a_atY a_right a_up a_bestX a_bestY a_grid a_row a_bestRow v_cubes v_faces v_laid v_count v_step v_ended v_nets v_work v_bestWidth v_bestHeight v_bestNet v_shapes v_imageX v_imageY v_leads v_looks v_nextFace v_on v_onRight v_onUp v_queue v_shapeRow v_shapeSize) H → va_D A (wd_X8_isWrapped cI cZ cJ a_this a_imageX a_imageY a_leads a_looks a_nextFace a_on a_onRight a_onUp a_queue a_shapeRow a_shapeSize a_cubeX a_cubeY a_cubeZ a_cubeOf a_lies a_handX a_handY a_handRight a_handUp a_order a_choice a_has a_atX a_atY a_right a_up a_bestX a_bestY a_grid a_row a_bestRow v_cubes v_faces v_laid v_count v_step v_ended v_nets v_work v_bestWidth v_bestHeight v_bestNet v_shapes v_imageX v_imageY v_leads v_looks v_nextFace v_on v_onRight v_onUp v_queue v_shapeRow v_shapeSize) → va_S A s.heap H locs → lv_has ls 13 [] → W p l e rm_X8_isWrapped s m ([.ref a_this, .int p1, .int p2, .int p3] : List Value).toArray below meth c H locs 0 0 Q (F0 m 393 ls [])) (kx401 : Int32 → (Nat → Int32) → (Nat → Int32) → (Nat → Int32) → (Nat → Int32) → Prop) (hkx401 : ∀ (l5 : Int32) (v_on : Nat → Int32) (v_onRight : Nat → Int32) (v_onUp : Nat → Int32) (v_queue : Nat → Int32) (H : Heap) (locs : List Loc) (ls : Array Slot), kx401 l5 v_on v_onRight v_onUp v_queue → va_P D vwCl (wd_X8_isWrapped cI cZ cJ a_this a_imageX a_imageY a_leads a_looks a_nextFace a_on a_onRight a_onUp a_queue a_shapeRow a_shapeSize a_cubeX a_cubeY a_cubeZ a_cubeOf a_lies a_handX a_handY a_handRight a_handUp a_order a_choice a_has a_atX a_atY a_right a_up a_bestX a_bestY a_grid a_row a_bestRow v_cubes v_faces v_laid v_count v_step v_ended v_nets v_work v_bestWidth v_bestHeight v_bestNet v_shapes v_imageX v_imageY v_leads v_looks v_nextFace v_on v_onRight v_onUp v_queue v_shapeRow v_shapeSize) H → va_D A (wd_X8_isWrapped cI cZ cJ a_this a_imageX a_imageY a_leads a_looks a_nextFace a_on a_onRight a_onUp a_queue a_shapeRow a_shapeSize a_cubeX a_cubeY a_cubeZ a_cubeOf a_lies a_handX a_handY a_handRight a_handUp a_order a_choice a_has a_atX a_atY a_right a_up a_bestX a_bestY a_grid a_row a_bestRow v_cubes v_faces v_laid v_count v_step v_ended v_nets v_work v_bestWidth v_bestHeight v_bestNet v_shapes v_imageX v_imageY v_leads v_looks v_nextFace v_on v_onRight v_onUp v_queue v_shapeRow v_shapeSize) → va_S A s.heap H locs → lv_has ls 13 [(0, .ref a_this), (4, .int l4), (5, .int l5), (6, .int l6)] → W p l e rm_X8_isWrapped s m ([.ref a_this, .int p1, .int p2, .int p3] : List Value).toArray below meth c H locs 0 0 Q (F0 m 401 ls [])) (n : Nat) (l5 : Int32) (l8 : Int32) (v_on : Nat → Int32) (v_onRight : Nat → Int32) (v_onUp : Nat → Int32) (v_queue : Nat → Int32) (H : Heap) (locs : List Loc) (ls : Array Slot), lpN (wl_X8_isWrapped_166 v_imageX v_imageY v_leads v_nextFace l4 l7 kx393 kx401) n (l5, l8, v_on, v_onRight, v_onUp, v_queue) → va_P D vwCl (wd_X8_isWrapped cI cZ cJ a_this a_imageX a_imageY a_leads a_looks a_nextFace a_on a_onRight a_onUp a_queue a_shapeRow a_shapeSize a_cubeX a_cubeY a_cubeZ a_cubeOf a_lies a_handX a_handY a_handRight a_handUp a_order a_choice a_has a_atX a_atY a_right a_up a_bestX a_bestY a_grid a_row a_bestRow v_cubes v_faces v_laid v_count v_step v_ended v_nets v_work v_bestWidth v_bestHeight v_bestNet v_shapes v_imageX v_imageY v_leads v_looks v_nextFace v_on v_onRight v_onUp v_queue v_shapeRow v_shapeSize) H → va_D A (wd_X8_isWrapped cI cZ cJ a_this a_imageX a_imageY a_leads a_looks a_nextFace a_on a_onRight a_onUp a_queue a_shapeRow a_shapeSize a_cubeX a_cubeY a_cubeZ a_cubeOf a_lies a_handX a_handY a_handRight a_handUp a_order a_choice a_has a_atX a_atY a_right a_up a_bestX a_bestY a_grid a_row a_bestRow v_cubes v_faces v_laid v_count v_step v_ended v_nets v_work v_bestWidth v_bestHeight v_bestNet v_shapes v_imageX v_imageY v_leads v_looks v_nextFace v_on v_onRight v_onUp v_queue v_shapeRow v_shapeSize) → va_S A s.heap H locs → lv_has ls 13 [(0, .ref a_this), (4, .int l4), (5, .int l5), (6, .int l6), (7, .int l7), (8, .int l8)] → W p l e rm_X8_isWrapped s m ([.ref a_this, .int p1, .int p2, .int p3] : List Value).toArray below meth c H locs 0 0 Q (F0 m 166 ls []) := by
    intro v_imageX v_imageY l4 l6 l7 kx393 hkx393 kx401 hkx401 n
    induction n with
    | zero => intro l5 l8 v_on v_onRight v_onUp v_queue H locs ls h; exact False.elim h
    | succ n ih =>
      intro l5 l8 v_on v_onRight v_onUp v_queue H locs ls h hP hD hS hl
      have h : wb_X8_isWrapped_166 v_imageX v_imageY v_leads v_nextFace l4 l7 kx393 kx401 (fun l5 l8 v_on v_onRight v_onUp v_queue => lpN (wl_X8_isWrapped_166 v_imageX v_imageY v_leads v_nextFace l4 l7 kx393 kx401) n (l5, l8, v_on, v_onRight, v_onUp, v_queue)) l5 l8 v_on v_onRight v_onUp v_queue := h
      unfold wb_X8_isWrapped_166 at h
      refine lv_iload hx hb dX8_isWrapped_166 (lv_at hl 5 rfl) ?_
      refine lv_iconst (v := 4) hx hb dX8_isWrapped_168 (by decide) ?_
      refine lv_icmp_ge (tgt := 401) hx hb dX8_isWrapped_169 (by decide) (fun hc => ?_) (fun hc => ?_)
      · replace h := h.1 hc
        exact hkx401 l5 v_on v_onRight v_onUp v_queue _ _ _ h hP hD hS (lv_sub hl [0, 1, 2, 3] rfl)
      · replace h := h.2 hc
        refine lv_aload_n hx hb dX8_isWrapped_172 rfl (lv_at hl 0 rfl) ?_
        refine lv_iload hx hb dX8_isWrapped_173 (lv_at hl 1 rfl) ?_
        refine lv_aload_n hx hb dX8_isWrapped_175 rfl (lv_at hl 0 rfl) ?_
        refine va_get (D := D) (ci := 8) (v := .ref a_imageX) (C := RX8) (T := TX8) (N := 44) hx hb hts iX8 hown hK hP 0 rfl rfl 36 (by decide) f84 (fun _ h9 => h9) rfl dX8_isWrapped_176 ?_
        refine lv_iload hx hb dX8_isWrapped_179 (lv_at hl 4 rfl) ?_
        obtain ⟨hin, h⟩ := h
        refine va_iald hx hb hK hP 1 0 rfl rfl hin dX8_isWrapped_181 ?_
        refine lv_iload hx hb dX8_isWrapped_182 (lv_at hl 5 rfl) ?_
        have hPc := hP.sub (ws' := (wd_X8_sideX cI cZ cJ)) [] rfl
        have hDc := hD.sub (ws' := (wd_X8_sideX cI cZ cJ)) [] (by decide) rfl
        have hFc := va_free (wc := (wd_X8_sideX cI cZ cJ)) hD hS hA [] rfl
        refine va_calli (va_runS (As := [.int l8]) (rest := [.int (v_imageX l7.toNatClampNeg), .int l4, .ref a_this]) C (c_X8_sideX l D cI cZ cJ tb H.size l8 h) (va_cwS 1 hts gX8_isWrapped_X8_sideX rfl rfl rfl (by decide +kernel) ⟨Nat.le_of_ble_eq_true rfl, Nat.le_of_ble_eq_true rfl⟩) ⟨q_pre.blind, fun U hU hW => ⟨rfl, q_pre.of hU hW hPc hK hDc hSt hS hFc hNw⟩⟩ rfl rfl hl.1 rfl (lv_room (Nat.le_of_ble_eq_true rfl)) dX8_isWrapped_184 ⟨Nat.zero_le _, Nat.zero_le _⟩) hS (fun q _ h => hFc q h) hFc (fun r_1 u_2 t H1 locs ht hvm hw hB hz1 hk1 hS => ?_)
        obtain ⟨hP1, hK1, hD1⟩ := hB
        rw [ht] at hP1
        obtain ⟨hP, hD⟩ := va_join (wr := [(a_this, .inr (8, [.int v_cubes, .ref a_cubeX, .ref a_cubeY, .ref a_cubeZ, .int v_faces, .ref a_cubeOf, .ref a_looks, .int v_laid, .ref a_lies, .ref a_handX, .ref a_handY, .ref a_handRight, .ref a_handUp, .int v_count, .ref a_order, .ref a_choice, .ref a_has, .ref a_atX, .ref a_atY, .ref a_right, .ref a_up, .int v_step, .int v_ended, .int v_nets, .int v_work, .int v_bestWidth, .int v_bestHeight, .int v_bestNet, .ref a_bestX, .ref a_bestY, .int v_shapes, .ref a_shapeSize, .ref a_shapeRow, .ref a_nextFace, .ref a_leads, .ref a_grid, .ref a_imageX, .ref a_imageY, .ref a_row, .ref a_bestRow, .ref a_on, .ref a_onRight, .ref a_onUp, .ref a_queue])), (a_imageX, .inl (cI, 30, .inl v_imageX)), (a_imageY, .inl (cI, 30, .inl v_imageY)), (a_leads, .inl (cI, 180, .inl v_leads)), (a_looks, .inl (cI, 30, .inl v_looks)), (a_nextFace, .inl (cI, 180, .inl v_nextFace)), (a_on, .inl (cI, 30, .inl v_on)), (a_onRight, .inl (cI, 30, .inl v_onRight)), (a_onUp, .inl (cI, 30, .inl v_onUp)), (a_queue, .inl (cI, 30, .inl v_queue)), (a_shapeRow, .inl (cI, 1920, .inl v_shapeRow)), (a_shapeSize, .inl (cI, 64, .inl v_shapeSize))]) (w1 := (wd_X8_sideX cI cZ cJ)) hP hD [] [0, 1, 2, 3, 4, 5, 6, 7, 8, 9, 10, 11] rfl rfl (by decide) (by decide) hk1 hFc hP1 hD1
        clear hPc hDc hFc hP1 hD1 hK1 hk1 hz1 ht hvm
        replace h := hw
        clear hw
        generalize H1 = H at hP hS ⊢
        replace hP : va_P D vwCl (wd_X8_isWrapped cI cZ cJ a_this a_imageX a_imageY a_leads a_looks a_nextFace a_on a_onRight a_onUp a_queue a_shapeRow a_shapeSize a_cubeX a_cubeY a_cubeZ a_cubeOf a_lies a_handX a_handY a_handRight a_handUp a_order a_choice a_has a_atX a_atY a_right a_up a_bestX a_bestY a_grid a_row a_bestRow v_cubes v_faces v_laid v_count v_step v_ended v_nets v_work v_bestWidth v_bestHeight v_bestNet v_shapes v_imageX v_imageY v_leads v_looks v_nextFace v_on v_onRight v_onUp v_queue v_shapeRow v_shapeSize) H := hP.sub [0, 1, 2, 3, 4, 5, 6, 7, 8, 9, 10, 11] rfl
        replace hD : va_D A (wd_X8_isWrapped cI cZ cJ a_this a_imageX a_imageY a_leads a_looks a_nextFace a_on a_onRight a_onUp a_queue a_shapeRow a_shapeSize a_cubeX a_cubeY a_cubeZ a_cubeOf a_lies a_handX a_handY a_handRight a_handUp a_order a_choice a_has a_atX a_atY a_right a_up a_bestX a_bestY a_grid a_row a_bestRow v_cubes v_faces v_laid v_count v_step v_ended v_nets v_work v_bestWidth v_bestHeight v_bestNet v_shapes v_imageX v_imageY v_leads v_looks v_nextFace v_on v_onRight v_onUp v_queue v_shapeRow v_shapeSize) := hD.sub [0, 1, 2, 3, 4, 5, 6, 7, 8, 9, 10, 11] (by decide) rfl
        refine lv_iadd hx hb dX8_isWrapped_187 ?_
        refine lv_aload_n hx hb dX8_isWrapped_188 rfl (lv_at hl 0 rfl) ?_
        refine va_get (D := D) (ci := 8) (v := .ref a_imageY) (C := RX8) (T := TX8) (N := 44) hx hb hts iX8 hown hK hP 0 rfl rfl 37 (by decide) f87 (fun _ h9 => h9) rfl dX8_isWrapped_189 ?_
        refine lv_iload hx hb dX8_isWrapped_192 (lv_at hl 4 rfl) ?_
        obtain ⟨hin, h⟩ := h
        refine va_iald hx hb hK hP 2 0 rfl rfl hin dX8_isWrapped_194 ?_
        refine lv_iload hx hb dX8_isWrapped_195 (lv_at hl 5 rfl) ?_
        have hPc := hP.sub (ws' := (wd_X8_sideY cI cZ cJ)) [] rfl
        have hDc := hD.sub (ws' := (wd_X8_sideY cI cZ cJ)) [] (by decide) rfl
        have hFc := va_free (wc := (wd_X8_sideY cI cZ cJ)) hD hS hA [] rfl
        refine va_calli (va_runS (As := [.int l8]) (rest := [.int (v_imageY l7.toNatClampNeg), .int ((v_imageX l7.toNatClampNeg) + r_1), .int l4, .ref a_this]) C (c_X8_sideY l D cI cZ cJ tb H.size l8 h) (va_cwS 1 hts gX8_isWrapped_X8_sideY rfl rfl rfl (by decide +kernel) ⟨Nat.le_of_ble_eq_true rfl, Nat.le_of_ble_eq_true rfl⟩) ⟨q_pre.blind, fun U hU hW => ⟨rfl, q_pre.of hU hW hPc hK hDc hSt hS hFc hNw⟩⟩ rfl rfl hl.1 rfl (lv_room (Nat.le_of_ble_eq_true rfl)) dX8_isWrapped_197 ⟨Nat.zero_le _, Nat.zero_le _⟩) hS (fun q _ h => hFc q h) hFc (fun r_3 u_4 t H1 locs ht hvm hw hB hz1 hk1 hS => ?_)
        obtain ⟨hP1, hK1, hD1⟩ := hB
        rw [ht] at hP1
        obtain ⟨hP, hD⟩ := va_join (wr := [(a_this, .inr (8, [.int v_cubes, .ref a_cubeX, .ref a_cubeY, .ref a_cubeZ, .int v_faces, .ref a_cubeOf, .ref a_looks, .int v_laid, .ref a_lies, .ref a_handX, .ref a_handY, .ref a_handRight, .ref a_handUp, .int v_count, .ref a_order, .ref a_choice, .ref a_has, .ref a_atX, .ref a_atY, .ref a_right, .ref a_up, .int v_step, .int v_ended, .int v_nets, .int v_work, .int v_bestWidth, .int v_bestHeight, .int v_bestNet, .ref a_bestX, .ref a_bestY, .int v_shapes, .ref a_shapeSize, .ref a_shapeRow, .ref a_nextFace, .ref a_leads, .ref a_grid, .ref a_imageX, .ref a_imageY, .ref a_row, .ref a_bestRow, .ref a_on, .ref a_onRight, .ref a_onUp, .ref a_queue])), (a_imageX, .inl (cI, 30, .inl v_imageX)), (a_imageY, .inl (cI, 30, .inl v_imageY)), (a_leads, .inl (cI, 180, .inl v_leads)), (a_looks, .inl (cI, 30, .inl v_looks)), (a_nextFace, .inl (cI, 180, .inl v_nextFace)), (a_on, .inl (cI, 30, .inl v_on)), (a_onRight, .inl (cI, 30, .inl v_onRight)), (a_onUp, .inl (cI, 30, .inl v_onUp)), (a_queue, .inl (cI, 30, .inl v_queue)), (a_shapeRow, .inl (cI, 1920, .inl v_shapeRow)), (a_shapeSize, .inl (cI, 64, .inl v_shapeSize))]) (w1 := (wd_X8_sideY cI cZ cJ)) hP hD [] [0, 1, 2, 3, 4, 5, 6, 7, 8, 9, 10, 11] rfl rfl (by decide) (by decide) hk1 hFc hP1 hD1
        clear hPc hDc hFc hP1 hD1 hK1 hk1 hz1 ht hvm
        replace h := hw
        clear hw
        generalize H1 = H at hP hS ⊢
        replace hP : va_P D vwCl (wd_X8_isWrapped cI cZ cJ a_this a_imageX a_imageY a_leads a_looks a_nextFace a_on a_onRight a_onUp a_queue a_shapeRow a_shapeSize a_cubeX a_cubeY a_cubeZ a_cubeOf a_lies a_handX a_handY a_handRight a_handUp a_order a_choice a_has a_atX a_atY a_right a_up a_bestX a_bestY a_grid a_row a_bestRow v_cubes v_faces v_laid v_count v_step v_ended v_nets v_work v_bestWidth v_bestHeight v_bestNet v_shapes v_imageX v_imageY v_leads v_looks v_nextFace v_on v_onRight v_onUp v_queue v_shapeRow v_shapeSize) H := hP.sub [0, 1, 2, 3, 4, 5, 6, 7, 8, 9, 10, 11] rfl
        replace hD : va_D A (wd_X8_isWrapped cI cZ cJ a_this a_imageX a_imageY a_leads a_looks a_nextFace a_on a_onRight a_onUp a_queue a_shapeRow a_shapeSize a_cubeX a_cubeY a_cubeZ a_cubeOf a_lies a_handX a_handY a_handRight a_handUp a_order a_choice a_has a_atX a_atY a_right a_up a_bestX a_bestY a_grid a_row a_bestRow v_cubes v_faces v_laid v_count v_step v_ended v_nets v_work v_bestWidth v_bestHeight v_bestNet v_shapes v_imageX v_imageY v_leads v_looks v_nextFace v_on v_onRight v_onUp v_queue v_shapeRow v_shapeSize) := hD.sub [0, 1, 2, 3, 4, 5, 6, 7, 8, 9, 10, 11] (by decide) rfl
        refine lv_iadd hx hb dX8_isWrapped_200 ?_
        have hPc := hP.sub (ws' := (wd_X8_placeAt cI cZ cJ a_this a_imageX a_imageY a_cubeX a_cubeY a_cubeZ a_cubeOf a_looks a_lies a_handX a_handY a_handRight a_handUp a_order a_choice a_has a_atX a_atY a_right a_up a_bestX a_bestY a_shapeSize a_shapeRow a_nextFace a_leads a_grid a_row a_bestRow a_on a_onRight a_onUp a_queue v_cubes v_faces v_laid v_count v_step v_ended v_nets v_work v_bestWidth v_bestHeight v_bestNet v_shapes v_imageX v_imageY)) [0, 1, 2] rfl
        have hDc := hD.sub (ws' := (wd_X8_placeAt cI cZ cJ a_this a_imageX a_imageY a_cubeX a_cubeY a_cubeZ a_cubeOf a_looks a_lies a_handX a_handY a_handRight a_handUp a_order a_choice a_has a_atX a_atY a_right a_up a_bestX a_bestY a_shapeSize a_shapeRow a_nextFace a_leads a_grid a_row a_bestRow a_on a_onRight a_onUp a_queue v_cubes v_faces v_laid v_count v_step v_ended v_nets v_work v_bestWidth v_bestHeight v_bestNet v_shapes v_imageX v_imageY)) [0, 1, 2] (by decide) rfl
        have hFc := va_free (wc := (wd_X8_placeAt cI cZ cJ a_this a_imageX a_imageY a_cubeX a_cubeY a_cubeZ a_cubeOf a_looks a_lies a_handX a_handY a_handRight a_handUp a_order a_choice a_has a_atX a_atY a_right a_up a_bestX a_bestY a_shapeSize a_shapeRow a_nextFace a_leads a_grid a_row a_bestRow a_on a_onRight a_onUp a_queue v_cubes v_faces v_laid v_count v_step v_ended v_nets v_work v_bestWidth v_bestHeight v_bestNet v_shapes v_imageX v_imageY)) hD hS hA [0, 1, 2] rfl
        refine va_calli (va_runV (As := [.int l4, .int ((v_imageX l7.toNatClampNeg) + r_1), .int ((v_imageY l7.toNatClampNeg) + r_3)]) (rest := []) C (c_X8_placeAt l D cI cZ cJ tb a_this a_imageX a_imageY a_cubeX a_cubeY a_cubeZ a_cubeOf a_looks a_lies a_handX a_handY a_handRight a_handUp a_order a_choice a_has a_atX a_atY a_right a_up a_bestX a_bestY a_shapeSize a_shapeRow a_nextFace a_leads a_grid a_row a_bestRow a_on a_onRight a_onUp a_queue v_cubes v_faces v_laid v_count v_step v_ended v_nets v_work v_bestWidth v_bestHeight v_bestNet v_shapes v_imageX v_imageY H.size l4 ((v_imageX l7.toNatClampNeg) + r_1) ((v_imageY l7.toNatClampNeg) + r_3) h) (cwV 3 hts gX8_isWrapped_X8_placeAt rfl rfl rfl (by decide +kernel) ⟨Nat.le_of_ble_eq_true rfl, Nat.le_of_ble_eq_true rfl⟩) ⟨q_pre.blind, va_recv hK hP (ci := 8) (q0 := 0) rfl rfl, fun U hU hW => ⟨rfl, q_pre.of hU hW hPc hK hDc hSt hS hFc hNw⟩⟩ rfl rfl hl.1 rfl (lv_room (Nat.le_of_ble_eq_true rfl)) dX8_isWrapped_201 ⟨Nat.zero_le _, Nat.zero_le _⟩) hS (fun q _ h => hFc q h) hFc (fun r_5 u_6 t H1 locs ht hvm hw hB hz1 hk1 hS => ?_)
        obtain ⟨hP1, hK1, hD1⟩ := hB
        rw [ht] at hP1
        obtain ⟨hP, hD⟩ := va_join (wr := [(a_leads, .inl (cI, 180, .inl v_leads)), (a_looks, .inl (cI, 30, .inl v_looks)), (a_nextFace, .inl (cI, 180, .inl v_nextFace)), (a_on, .inl (cI, 30, .inl v_on)), (a_onRight, .inl (cI, 30, .inl v_onRight)), (a_onUp, .inl (cI, 30, .inl v_onUp)), (a_queue, .inl (cI, 30, .inl v_queue)), (a_shapeRow, .inl (cI, 1920, .inl v_shapeRow)), (a_shapeSize, .inl (cI, 64, .inl v_shapeSize))]) (w1 := (wd_X8_placeAt cI cZ cJ a_this a_imageX a_imageY a_cubeX a_cubeY a_cubeZ a_cubeOf a_looks a_lies a_handX a_handY a_handRight a_handUp a_order a_choice a_has a_atX a_atY a_right a_up a_bestX a_bestY a_shapeSize a_shapeRow a_nextFace a_leads a_grid a_row a_bestRow a_on a_onRight a_onUp a_queue v_cubes v_faces v_laid v_count v_step v_ended v_nets v_work v_bestWidth v_bestHeight v_bestNet v_shapes v_imageX v_imageY)) hP hD [0, 1, 2] [3, 4, 5, 6, 7, 8, 9, 10, 11] rfl rfl (by decide) (by decide) hk1 hFc hP1 hD1
        clear hPc hDc hFc hP1 hD1 hK1 hk1 hz1 ht hvm
        replace h := hw
        clear hw
        generalize H1 = H at hP hS ⊢
        replace hP : va_P D vwCl (wd_X8_isWrapped cI cZ cJ a_this a_imageX a_imageY a_leads a_looks a_nextFace a_on a_onRight a_onUp a_queue a_shapeRow a_shapeSize a_cubeX a_cubeY a_cubeZ a_cubeOf a_lies a_handX a_handY a_handRight a_handUp a_order a_choice a_has a_atX a_atY a_right a_up a_bestX a_bestY a_grid a_row a_bestRow v_cubes v_faces v_laid v_count v_step v_ended v_nets v_work v_bestWidth v_bestHeight v_bestNet v_shapes v_imageX v_imageY v_leads v_looks v_nextFace v_on v_onRight v_onUp v_queue v_shapeRow v_shapeSize) H := hP.sub [9, 10, 11, 0, 1, 2, 3, 4, 5, 6, 7, 8] rfl
        replace hD : va_D A (wd_X8_isWrapped cI cZ cJ a_this a_imageX a_imageY a_leads a_looks a_nextFace a_on a_onRight a_onUp a_queue a_shapeRow a_shapeSize a_cubeX a_cubeY a_cubeZ a_cubeOf a_lies a_handX a_handY a_handRight a_handUp a_order a_choice a_has a_atX a_atY a_right a_up a_bestX a_bestY a_grid a_row a_bestRow v_cubes v_faces v_laid v_count v_step v_ended v_nets v_work v_bestWidth v_bestHeight v_bestNet v_shapes v_imageX v_imageY v_leads v_looks v_nextFace v_on v_onRight v_onUp v_queue v_shapeRow v_shapeSize) := hD.sub [9, 10, 11, 0, 1, 2, 3, 4, 5, 6, 7, 8] (by decide) rfl
        refine lv_istore (lv' := [(9, .int r_5), (0, .ref a_this), (4, .int l4), (5, .int l5), (6, .int l6), (7, .int l7), (8, .int l8)]) hx hb dX8_isWrapped_204 hl (by decide) rfl (fun ls hl => ?_)
        refine lv_iload hx hb dX8_isWrapped_206 (lv_at hl 0 rfl) ?_
        refine lv_bipush (v := -9) hx hb dX8_isWrapped_208 (by decide) ?_
        refine lv_icmp_eq (tgt := 395) hx hb dX8_isWrapped_210 (by decide) (fun hc => ?_) (fun hc => ?_)
        · replace h := h.1 hc
          refine lv_iinc (v := (l8 + (1 : Int32))) (lv' := [(8, .int (l8 + (1 : Int32))), (9, .int r_5), (0, .ref a_this), (4, .int l4), (5, .int l5), (6, .int l6), (7, .int l7)]) hx hb dX8_isWrapped_395 hl (k := 6) rfl rfl (by decide) rfl (fun ls hl => ?_)
          refine lv_goto (tgt := 166) hx hb dX8_isWrapped_398 (by decide) ?_
          exact ih l5 (l8 + (1 : Int32)) v_on v_onRight v_onUp v_queue _ _ _ h hP hD hS (lv_sub hl [2, 3, 4, 5, 6, 0] rfl)
        · replace h := h.2 hc
          refine lv_aload_n hx hb dX8_isWrapped_213 rfl (lv_at hl 1 rfl) ?_
          refine lv_aload_n hx hb dX8_isWrapped_214 rfl (lv_at hl 1 rfl) ?_
          refine va_get (D := D) (ci := 8) (v := .ref a_on) (C := RX8) (T := TX8) (N := 44) hx hb hts iX8 hown hK hP 0 rfl rfl 40 (by decide) f96 (fun _ h9 => h9) rfl dX8_isWrapped_215 ?_
          refine lv_iload hx hb dX8_isWrapped_218 (lv_at hl 5 rfl) ?_
          obtain ⟨hin, h⟩ := h
          refine va_iald hx hb hK hP 6 0 rfl rfl hin dX8_isWrapped_220 ?_
          refine lv_iload hx hb dX8_isWrapped_221 (lv_at hl 6 rfl) ?_
          refine lv_aload_n hx hb dX8_isWrapped_223 rfl (lv_at hl 1 rfl) ?_
          refine va_get (D := D) (ci := 8) (v := .ref a_onRight) (C := RX8) (T := TX8) (N := 44) hx hb hts iX8 hown hK hP 0 rfl rfl 41 (by decide) f99 (fun _ h9 => h9) rfl dX8_isWrapped_224 ?_
          refine lv_iload hx hb dX8_isWrapped_227 (lv_at hl 5 rfl) ?_
          obtain ⟨hin, h⟩ := h
          refine va_iald hx hb hK hP 7 0 rfl rfl hin dX8_isWrapped_229 ?_
          refine lv_aload_n hx hb dX8_isWrapped_230 rfl (lv_at hl 1 rfl) ?_
          refine va_get (D := D) (ci := 8) (v := .ref a_onUp) (C := RX8) (T := TX8) (N := 44) hx hb hts iX8 hown hK hP 0 rfl rfl 42 (by decide) f102 (fun _ h9 => h9) rfl dX8_isWrapped_231 ?_
          refine lv_iload hx hb dX8_isWrapped_234 (lv_at hl 5 rfl) ?_
          obtain ⟨hin, h⟩ := h
          refine va_iald hx hb hK hP 8 0 rfl rfl hin dX8_isWrapped_236 ?_
          have hPc := hP.sub (ws' := (wd_X8_sideOf cI cZ cJ)) [] rfl
          have hDc := hD.sub (ws' := (wd_X8_sideOf cI cZ cJ)) [] (by decide) rfl
          have hFc := va_free (wc := (wd_X8_sideOf cI cZ cJ)) hD hS hA [] rfl
          refine va_calli (va_runS (As := [.int l8, .int (v_onRight l7.toNatClampNeg), .int (v_onUp l7.toNatClampNeg)]) (rest := [.int (v_on l7.toNatClampNeg), .ref a_this]) C (c_X8_sideOf l D cI cZ cJ tb H.size l8 (v_onRight l7.toNatClampNeg) (v_onUp l7.toNatClampNeg) h) (va_cwS 3 hts gX8_isWrapped_X8_sideOf rfl rfl rfl (by decide +kernel) ⟨Nat.le_of_ble_eq_true rfl, Nat.le_of_ble_eq_true rfl⟩) ⟨q_pre.blind, fun U hU hW => ⟨rfl, q_pre.of hU hW hPc hK hDc hSt hS hFc hNw⟩⟩ rfl rfl hl.1 rfl (lv_room (Nat.le_of_ble_eq_true rfl)) dX8_isWrapped_237 ⟨Nat.zero_le _, Nat.zero_le _⟩) hS (fun q _ h => hFc q h) hFc (fun r_7 u_8 t H1 locs ht hvm hw hB hz1 hk1 hS => ?_)
          obtain ⟨hP1, hK1, hD1⟩ := hB
          rw [ht] at hP1
          obtain ⟨hP, hD⟩ := va_join (wr := [(a_this, .inr (8, [.int v_cubes, .ref a_cubeX, .ref a_cubeY, .ref a_cubeZ, .int v_faces, .ref a_cubeOf, .ref a_looks, .int v_laid, .ref a_lies, .ref a_handX, .ref a_handY, .ref a_handRight, .ref a_handUp, .int v_count, .ref a_order, .ref a_choice, .ref a_has, .ref a_atX, .ref a_atY, .ref a_right, .ref a_up, .int v_step, .int v_ended, .int v_nets, .int v_work, .int v_bestWidth, .int v_bestHeight, .int v_bestNet, .ref a_bestX, .ref a_bestY, .int v_shapes, .ref a_shapeSize, .ref a_shapeRow, .ref a_nextFace, .ref a_leads, .ref a_grid, .ref a_imageX, .ref a_imageY, .ref a_row, .ref a_bestRow, .ref a_on, .ref a_onRight, .ref a_onUp, .ref a_queue])), (a_imageX, .inl (cI, 30, .inl v_imageX)), (a_imageY, .inl (cI, 30, .inl v_imageY)), (a_leads, .inl (cI, 180, .inl v_leads)), (a_looks, .inl (cI, 30, .inl v_looks)), (a_nextFace, .inl (cI, 180, .inl v_nextFace)), (a_on, .inl (cI, 30, .inl v_on)), (a_onRight, .inl (cI, 30, .inl v_onRight)), (a_onUp, .inl (cI, 30, .inl v_onUp)), (a_queue, .inl (cI, 30, .inl v_queue)), (a_shapeRow, .inl (cI, 1920, .inl v_shapeRow)), (a_shapeSize, .inl (cI, 64, .inl v_shapeSize))]) (w1 := (wd_X8_sideOf cI cZ cJ)) hP hD [] [0, 1, 2, 3, 4, 5, 6, 7, 8, 9, 10, 11] rfl rfl (by decide) (by decide) hk1 hFc hP1 hD1
          clear hPc hDc hFc hP1 hD1 hK1 hk1 hz1 ht hvm
          replace h := hw
          clear hw
          generalize H1 = H at hP hS ⊢
          replace hP : va_P D vwCl (wd_X8_isWrapped cI cZ cJ a_this a_imageX a_imageY a_leads a_looks a_nextFace a_on a_onRight a_onUp a_queue a_shapeRow a_shapeSize a_cubeX a_cubeY a_cubeZ a_cubeOf a_lies a_handX a_handY a_handRight a_handUp a_order a_choice a_has a_atX a_atY a_right a_up a_bestX a_bestY a_grid a_row a_bestRow v_cubes v_faces v_laid v_count v_step v_ended v_nets v_work v_bestWidth v_bestHeight v_bestNet v_shapes v_imageX v_imageY v_leads v_looks v_nextFace v_on v_onRight v_onUp v_queue v_shapeRow v_shapeSize) H := hP.sub [0, 1, 2, 3, 4, 5, 6, 7, 8, 9, 10, 11] rfl
          replace hD : va_D A (wd_X8_isWrapped cI cZ cJ a_this a_imageX a_imageY a_leads a_looks a_nextFace a_on a_onRight a_onUp a_queue a_shapeRow a_shapeSize a_cubeX a_cubeY a_cubeZ a_cubeOf a_lies a_handX a_handY a_handRight a_handUp a_order a_choice a_has a_atX a_atY a_right a_up a_bestX a_bestY a_grid a_row a_bestRow v_cubes v_faces v_laid v_count v_step v_ended v_nets v_work v_bestWidth v_bestHeight v_bestNet v_shapes v_imageX v_imageY v_leads v_looks v_nextFace v_on v_onRight v_onUp v_queue v_shapeRow v_shapeSize) := hD.sub [0, 1, 2, 3, 4, 5, 6, 7, 8, 9, 10, 11] (by decide) rfl
          have hPc := hP.sub (ws' := (wd_X8_beside cI cZ cJ a_this a_nextFace a_cubeX a_cubeY a_cubeZ a_cubeOf a_looks a_lies a_handX a_handY a_handRight a_handUp a_order a_choice a_has a_atX a_atY a_right a_up a_bestX a_bestY a_shapeSize a_shapeRow a_leads a_grid a_imageX a_imageY a_row a_bestRow a_on a_onRight a_onUp a_queue v_cubes v_faces v_laid v_count v_step v_ended v_nets v_work v_bestWidth v_bestHeight v_bestNet v_shapes v_nextFace)) [0, 5] rfl
          have hDc := hD.sub (ws' := (wd_X8_beside cI cZ cJ a_this a_nextFace a_cubeX a_cubeY a_cubeZ a_cubeOf a_looks a_lies a_handX a_handY a_handRight a_handUp a_order a_choice a_has a_atX a_atY a_right a_up a_bestX a_bestY a_shapeSize a_shapeRow a_leads a_grid a_imageX a_imageY a_row a_bestRow a_on a_onRight a_onUp a_queue v_cubes v_faces v_laid v_count v_step v_ended v_nets v_work v_bestWidth v_bestHeight v_bestNet v_shapes v_nextFace)) [0, 5] (by decide) rfl
          have hFc := va_free (wc := (wd_X8_beside cI cZ cJ a_this a_nextFace a_cubeX a_cubeY a_cubeZ a_cubeOf a_looks a_lies a_handX a_handY a_handRight a_handUp a_order a_choice a_has a_atX a_atY a_right a_up a_bestX a_bestY a_shapeSize a_shapeRow a_leads a_grid a_imageX a_imageY a_row a_bestRow a_on a_onRight a_onUp a_queue v_cubes v_faces v_laid v_count v_step v_ended v_nets v_work v_bestWidth v_bestHeight v_bestNet v_shapes v_nextFace)) hD hS hA [0, 5] rfl
          refine va_calli (va_runV (As := [.int (v_on l7.toNatClampNeg), .int r_7]) (rest := []) C (c_X8_beside l D cI cZ cJ tb a_this a_nextFace a_cubeX a_cubeY a_cubeZ a_cubeOf a_looks a_lies a_handX a_handY a_handRight a_handUp a_order a_choice a_has a_atX a_atY a_right a_up a_bestX a_bestY a_shapeSize a_shapeRow a_leads a_grid a_imageX a_imageY a_row a_bestRow a_on a_onRight a_onUp a_queue v_cubes v_faces v_laid v_count v_step v_ended v_nets v_work v_bestWidth v_bestHeight v_bestNet v_shapes v_nextFace H.size (v_on l7.toNatClampNeg) r_7 h) (cwV 2 hts gX8_isWrapped_X8_beside rfl rfl rfl (by decide +kernel) ⟨Nat.le_of_ble_eq_true rfl, Nat.le_of_ble_eq_true rfl⟩) ⟨q_pre.blind, va_recv hK hP (ci := 8) (q0 := 0) rfl rfl, fun U hU hW => ⟨rfl, q_pre.of hU hW hPc hK hDc hSt hS hFc hNw⟩⟩ rfl rfl hl.1 rfl (lv_room (Nat.le_of_ble_eq_true rfl)) dX8_isWrapped_240 ⟨Nat.zero_le _, Nat.zero_le _⟩) hS (fun q _ h => hFc q h) hFc (fun r_9 u_10 t H1 locs ht hvm hw hB hz1 hk1 hS => ?_)
          obtain ⟨hP1, hK1, hD1⟩ := hB
          rw [ht] at hP1
          obtain ⟨hP, hD⟩ := va_join (wr := [(a_imageX, .inl (cI, 30, .inl v_imageX)), (a_imageY, .inl (cI, 30, .inl v_imageY)), (a_leads, .inl (cI, 180, .inl v_leads)), (a_looks, .inl (cI, 30, .inl v_looks)), (a_on, .inl (cI, 30, .inl v_on)), (a_onRight, .inl (cI, 30, .inl v_onRight)), (a_onUp, .inl (cI, 30, .inl v_onUp)), (a_queue, .inl (cI, 30, .inl v_queue)), (a_shapeRow, .inl (cI, 1920, .inl v_shapeRow)), (a_shapeSize, .inl (cI, 64, .inl v_shapeSize))]) (w1 := (wd_X8_beside cI cZ cJ a_this a_nextFace a_cubeX a_cubeY a_cubeZ a_cubeOf a_looks a_lies a_handX a_handY a_handRight a_handUp a_order a_choice a_has a_atX a_atY a_right a_up a_bestX a_bestY a_shapeSize a_shapeRow a_leads a_grid a_imageX a_imageY a_row a_bestRow a_on a_onRight a_onUp a_queue v_cubes v_faces v_laid v_count v_step v_ended v_nets v_work v_bestWidth v_bestHeight v_bestNet v_shapes v_nextFace)) hP hD [0, 5] [1, 2, 3, 4, 6, 7, 8, 9, 10, 11] rfl rfl (by decide) (by decide) hk1 hFc hP1 hD1
          clear hPc hDc hFc hP1 hD1 hK1 hk1 hz1 ht hvm
          replace h := hw
          clear hw
          generalize H1 = H at hP hS ⊢
          replace hP : va_P D vwCl (wd_X8_isWrapped cI cZ cJ a_this a_imageX a_imageY a_leads a_looks a_nextFace a_on a_onRight a_onUp a_queue a_shapeRow a_shapeSize a_cubeX a_cubeY a_cubeZ a_cubeOf a_lies a_handX a_handY a_handRight a_handUp a_order a_choice a_has a_atX a_atY a_right a_up a_bestX a_bestY a_grid a_row a_bestRow v_cubes v_faces v_laid v_count v_step v_ended v_nets v_work v_bestWidth v_bestHeight v_bestNet v_shapes v_imageX v_imageY v_leads v_looks v_nextFace v_on v_onRight v_onUp v_queue v_shapeRow v_shapeSize) H := hP.sub [10, 0, 1, 2, 3, 11, 4, 5, 6, 7, 8, 9] rfl
          replace hD : va_D A (wd_X8_isWrapped cI cZ cJ a_this a_imageX a_imageY a_leads a_looks a_nextFace a_on a_onRight a_onUp a_queue a_shapeRow a_shapeSize a_cubeX a_cubeY a_cubeZ a_cubeOf a_lies a_handX a_handY a_handRight a_handUp a_order a_choice a_has a_atX a_atY a_right a_up a_bestX a_bestY a_grid a_row a_bestRow v_cubes v_faces v_laid v_count v_step v_ended v_nets v_work v_bestWidth v_bestHeight v_bestNet v_shapes v_imageX v_imageY v_leads v_looks v_nextFace v_on v_onRight v_onUp v_queue v_shapeRow v_shapeSize) := hD.sub [10, 0, 1, 2, 3, 11, 4, 5, 6, 7, 8, 9] (by decide) rfl
          refine lv_istore (lv' := [(10, .int r_9), (9, .int r_5), (0, .ref a_this), (4, .int l4), (5, .int l5), (6, .int l6), (7, .int l7), (8, .int l8)]) hx hb dX8_isWrapped_243 hl (by decide) rfl (fun ls hl => ?_)
          refine lv_aload_n hx hb dX8_isWrapped_245 rfl (lv_at hl 2 rfl) ?_
          refine lv_aload_n hx hb dX8_isWrapped_246 rfl (lv_at hl 2 rfl) ?_
          refine va_get (D := D) (ci := 8) (v := .ref a_on) (C := RX8) (T := TX8) (N := 44) hx hb hts iX8 hown hK hP 0 rfl rfl 40 (by decide) f96 (fun _ h9 => h9) rfl dX8_isWrapped_247 ?_
          refine lv_iload hx hb dX8_isWrapped_250 (lv_at hl 6 rfl) ?_
          obtain ⟨hin, h⟩ := h
          refine va_iald hx hb hK hP 6 0 rfl rfl hin dX8_isWrapped_252 ?_
          refine lv_iload hx hb dX8_isWrapped_253 (lv_at hl 7 rfl) ?_
          refine lv_aload_n hx hb dX8_isWrapped_255 rfl (lv_at hl 2 rfl) ?_
          refine va_get (D := D) (ci := 8) (v := .ref a_onRight) (C := RX8) (T := TX8) (N := 44) hx hb hts iX8 hown hK hP 0 rfl rfl 41 (by decide) f99 (fun _ h9 => h9) rfl dX8_isWrapped_256 ?_
          refine lv_iload hx hb dX8_isWrapped_259 (lv_at hl 6 rfl) ?_
          obtain ⟨hin, h⟩ := h
          refine va_iald hx hb hK hP 7 0 rfl rfl hin dX8_isWrapped_261 ?_
          refine lv_aload_n hx hb dX8_isWrapped_262 rfl (lv_at hl 2 rfl) ?_
          refine va_get (D := D) (ci := 8) (v := .ref a_onUp) (C := RX8) (T := TX8) (N := 44) hx hb hts iX8 hown hK hP 0 rfl rfl 42 (by decide) f102 (fun _ h9 => h9) rfl dX8_isWrapped_263 ?_
          refine lv_iload hx hb dX8_isWrapped_266 (lv_at hl 6 rfl) ?_
          obtain ⟨hin, h⟩ := h
          refine va_iald hx hb hK hP 8 0 rfl rfl hin dX8_isWrapped_268 ?_
          have hPc := hP.sub (ws' := (wd_X8_nextRight cI cZ cJ a_this a_leads a_cubeX a_cubeY a_cubeZ a_cubeOf a_looks a_lies a_handX a_handY a_handRight a_handUp a_order a_choice a_has a_atX a_atY a_right a_up a_bestX a_bestY a_shapeSize a_shapeRow a_nextFace a_grid a_imageX a_imageY a_row a_bestRow a_on a_onRight a_onUp a_queue v_cubes v_faces v_laid v_count v_step v_ended v_nets v_work v_bestWidth v_bestHeight v_bestNet v_shapes v_leads)) [0, 3] rfl
          have hDc := hD.sub (ws' := (wd_X8_nextRight cI cZ cJ a_this a_leads a_cubeX a_cubeY a_cubeZ a_cubeOf a_looks a_lies a_handX a_handY a_handRight a_handUp a_order a_choice a_has a_atX a_atY a_right a_up a_bestX a_bestY a_shapeSize a_shapeRow a_nextFace a_grid a_imageX a_imageY a_row a_bestRow a_on a_onRight a_onUp a_queue v_cubes v_faces v_laid v_count v_step v_ended v_nets v_work v_bestWidth v_bestHeight v_bestNet v_shapes v_leads)) [0, 3] (by decide) rfl
          have hFc := va_free (wc := (wd_X8_nextRight cI cZ cJ a_this a_leads a_cubeX a_cubeY a_cubeZ a_cubeOf a_looks a_lies a_handX a_handY a_handRight a_handUp a_order a_choice a_has a_atX a_atY a_right a_up a_bestX a_bestY a_shapeSize a_shapeRow a_nextFace a_grid a_imageX a_imageY a_row a_bestRow a_on a_onRight a_onUp a_queue v_cubes v_faces v_laid v_count v_step v_ended v_nets v_work v_bestWidth v_bestHeight v_bestNet v_shapes v_leads)) hD hS hA [0, 3] rfl
          refine va_calli (va_runV (As := [.int (v_on l7.toNatClampNeg), .int l8, .int (v_onRight l7.toNatClampNeg), .int (v_onUp l7.toNatClampNeg)]) (rest := []) C (c_X8_nextRight l D cI cZ cJ tb a_this a_leads a_cubeX a_cubeY a_cubeZ a_cubeOf a_looks a_lies a_handX a_handY a_handRight a_handUp a_order a_choice a_has a_atX a_atY a_right a_up a_bestX a_bestY a_shapeSize a_shapeRow a_nextFace a_grid a_imageX a_imageY a_row a_bestRow a_on a_onRight a_onUp a_queue v_cubes v_faces v_laid v_count v_step v_ended v_nets v_work v_bestWidth v_bestHeight v_bestNet v_shapes v_leads H.size (v_on l7.toNatClampNeg) l8 (v_onRight l7.toNatClampNeg) (v_onUp l7.toNatClampNeg) h) (cwV 4 hts gX8_isWrapped_X8_nextRight rfl rfl rfl (by decide +kernel) ⟨Nat.le_of_ble_eq_true rfl, Nat.le_of_ble_eq_true rfl⟩) ⟨q_pre.blind, va_recv hK hP (ci := 8) (q0 := 0) rfl rfl, fun U hU hW => ⟨rfl, q_pre.of hU hW hPc hK hDc hSt hS hFc hNw⟩⟩ rfl rfl hl.1 rfl (lv_room (Nat.le_of_ble_eq_true rfl)) dX8_isWrapped_269 ⟨Nat.zero_le _, Nat.zero_le _⟩) hS (fun q _ h => hFc q h) hFc (fun r_11 u_12 t H1 locs ht hvm hw hB hz1 hk1 hS => ?_)
          obtain ⟨hP1, hK1, hD1⟩ := hB
          rw [ht] at hP1
          obtain ⟨hP, hD⟩ := va_join (wr := [(a_imageX, .inl (cI, 30, .inl v_imageX)), (a_imageY, .inl (cI, 30, .inl v_imageY)), (a_looks, .inl (cI, 30, .inl v_looks)), (a_nextFace, .inl (cI, 180, .inl v_nextFace)), (a_on, .inl (cI, 30, .inl v_on)), (a_onRight, .inl (cI, 30, .inl v_onRight)), (a_onUp, .inl (cI, 30, .inl v_onUp)), (a_queue, .inl (cI, 30, .inl v_queue)), (a_shapeRow, .inl (cI, 1920, .inl v_shapeRow)), (a_shapeSize, .inl (cI, 64, .inl v_shapeSize))]) (w1 := (wd_X8_nextRight cI cZ cJ a_this a_leads a_cubeX a_cubeY a_cubeZ a_cubeOf a_looks a_lies a_handX a_handY a_handRight a_handUp a_order a_choice a_has a_atX a_atY a_right a_up a_bestX a_bestY a_shapeSize a_shapeRow a_nextFace a_grid a_imageX a_imageY a_row a_bestRow a_on a_onRight a_onUp a_queue v_cubes v_faces v_laid v_count v_step v_ended v_nets v_work v_bestWidth v_bestHeight v_bestNet v_shapes v_leads)) hP hD [0, 3] [1, 2, 4, 5, 6, 7, 8, 9, 10, 11] rfl rfl (by decide) (by decide) hk1 hFc hP1 hD1
          clear hPc hDc hFc hP1 hD1 hK1 hk1 hz1 ht hvm
          replace h := hw
          clear hw
          generalize H1 = H at hP hS ⊢
          replace hP : va_P D vwCl (wd_X8_isWrapped cI cZ cJ a_this a_imageX a_imageY a_leads a_looks a_nextFace a_on a_onRight a_onUp a_queue a_shapeRow a_shapeSize a_cubeX a_cubeY a_cubeZ a_cubeOf a_lies a_handX a_handY a_handRight a_handUp a_order a_choice a_has a_atX a_atY a_right a_up a_bestX a_bestY a_grid a_row a_bestRow v_cubes v_faces v_laid v_count v_step v_ended v_nets v_work v_bestWidth v_bestHeight v_bestNet v_shapes v_imageX v_imageY v_leads v_looks v_nextFace v_on v_onRight v_onUp v_queue v_shapeRow v_shapeSize) H := hP.sub [10, 0, 1, 11, 2, 3, 4, 5, 6, 7, 8, 9] rfl
          replace hD : va_D A (wd_X8_isWrapped cI cZ cJ a_this a_imageX a_imageY a_leads a_looks a_nextFace a_on a_onRight a_onUp a_queue a_shapeRow a_shapeSize a_cubeX a_cubeY a_cubeZ a_cubeOf a_lies a_handX a_handY a_handRight a_handUp a_order a_choice a_has a_atX a_atY a_right a_up a_bestX a_bestY a_grid a_row a_bestRow v_cubes v_faces v_laid v_count v_step v_ended v_nets v_work v_bestWidth v_bestHeight v_bestNet v_shapes v_imageX v_imageY v_leads v_looks v_nextFace v_on v_onRight v_onUp v_queue v_shapeRow v_shapeSize) := hD.sub [10, 0, 1, 11, 2, 3, 4, 5, 6, 7, 8, 9] (by decide) rfl
          refine lv_istore (lv' := [(11, .int r_11), (10, .int r_9), (9, .int r_5), (0, .ref a_this), (4, .int l4), (5, .int l5), (6, .int l6), (7, .int l7), (8, .int l8)]) hx hb dX8_isWrapped_272 hl (by decide) rfl (fun ls hl => ?_)
          refine lv_aload_n hx hb dX8_isWrapped_274 rfl (lv_at hl 3 rfl) ?_
          refine lv_aload_n hx hb dX8_isWrapped_275 rfl (lv_at hl 3 rfl) ?_
          refine va_get (D := D) (ci := 8) (v := .ref a_on) (C := RX8) (T := TX8) (N := 44) hx hb hts iX8 hown hK hP 0 rfl rfl 40 (by decide) f96 (fun _ h9 => h9) rfl dX8_isWrapped_276 ?_
          refine lv_iload hx hb dX8_isWrapped_279 (lv_at hl 7 rfl) ?_
          obtain ⟨hin, h⟩ := h
          refine va_iald hx hb hK hP 6 0 rfl rfl hin dX8_isWrapped_281 ?_
          refine lv_iload hx hb dX8_isWrapped_282 (lv_at hl 8 rfl) ?_
          refine lv_aload_n hx hb dX8_isWrapped_284 rfl (lv_at hl 3 rfl) ?_
          refine va_get (D := D) (ci := 8) (v := .ref a_onRight) (C := RX8) (T := TX8) (N := 44) hx hb hts iX8 hown hK hP 0 rfl rfl 41 (by decide) f99 (fun _ h9 => h9) rfl dX8_isWrapped_285 ?_
          refine lv_iload hx hb dX8_isWrapped_288 (lv_at hl 7 rfl) ?_
          obtain ⟨hin, h⟩ := h
          refine va_iald hx hb hK hP 7 0 rfl rfl hin dX8_isWrapped_290 ?_
          refine lv_aload_n hx hb dX8_isWrapped_291 rfl (lv_at hl 3 rfl) ?_
          refine va_get (D := D) (ci := 8) (v := .ref a_onUp) (C := RX8) (T := TX8) (N := 44) hx hb hts iX8 hown hK hP 0 rfl rfl 42 (by decide) f102 (fun _ h9 => h9) rfl dX8_isWrapped_292 ?_
          refine lv_iload hx hb dX8_isWrapped_295 (lv_at hl 7 rfl) ?_
          obtain ⟨hin, h⟩ := h
          refine va_iald hx hb hK hP 8 0 rfl rfl hin dX8_isWrapped_297 ?_
          have hPc := hP.sub (ws' := (wd_X8_nextUp cI cZ cJ a_this a_leads a_cubeX a_cubeY a_cubeZ a_cubeOf a_looks a_lies a_handX a_handY a_handRight a_handUp a_order a_choice a_has a_atX a_atY a_right a_up a_bestX a_bestY a_shapeSize a_shapeRow a_nextFace a_grid a_imageX a_imageY a_row a_bestRow a_on a_onRight a_onUp a_queue v_cubes v_faces v_laid v_count v_step v_ended v_nets v_work v_bestWidth v_bestHeight v_bestNet v_shapes v_leads)) [0, 3] rfl
          have hDc := hD.sub (ws' := (wd_X8_nextUp cI cZ cJ a_this a_leads a_cubeX a_cubeY a_cubeZ a_cubeOf a_looks a_lies a_handX a_handY a_handRight a_handUp a_order a_choice a_has a_atX a_atY a_right a_up a_bestX a_bestY a_shapeSize a_shapeRow a_nextFace a_grid a_imageX a_imageY a_row a_bestRow a_on a_onRight a_onUp a_queue v_cubes v_faces v_laid v_count v_step v_ended v_nets v_work v_bestWidth v_bestHeight v_bestNet v_shapes v_leads)) [0, 3] (by decide) rfl
          have hFc := va_free (wc := (wd_X8_nextUp cI cZ cJ a_this a_leads a_cubeX a_cubeY a_cubeZ a_cubeOf a_looks a_lies a_handX a_handY a_handRight a_handUp a_order a_choice a_has a_atX a_atY a_right a_up a_bestX a_bestY a_shapeSize a_shapeRow a_nextFace a_grid a_imageX a_imageY a_row a_bestRow a_on a_onRight a_onUp a_queue v_cubes v_faces v_laid v_count v_step v_ended v_nets v_work v_bestWidth v_bestHeight v_bestNet v_shapes v_leads)) hD hS hA [0, 3] rfl
          refine va_calli (va_runV (As := [.int (v_on l7.toNatClampNeg), .int l8, .int (v_onRight l7.toNatClampNeg), .int (v_onUp l7.toNatClampNeg)]) (rest := []) C (c_X8_nextUp l D cI cZ cJ tb a_this a_leads a_cubeX a_cubeY a_cubeZ a_cubeOf a_looks a_lies a_handX a_handY a_handRight a_handUp a_order a_choice a_has a_atX a_atY a_right a_up a_bestX a_bestY a_shapeSize a_shapeRow a_nextFace a_grid a_imageX a_imageY a_row a_bestRow a_on a_onRight a_onUp a_queue v_cubes v_faces v_laid v_count v_step v_ended v_nets v_work v_bestWidth v_bestHeight v_bestNet v_shapes v_leads H.size (v_on l7.toNatClampNeg) l8 (v_onRight l7.toNatClampNeg) (v_onUp l7.toNatClampNeg) h) (cwV 4 hts gX8_isWrapped_X8_nextUp rfl rfl rfl (by decide +kernel) ⟨Nat.le_of_ble_eq_true rfl, Nat.le_of_ble_eq_true rfl⟩) ⟨q_pre.blind, va_recv hK hP (ci := 8) (q0 := 0) rfl rfl, fun U hU hW => ⟨rfl, q_pre.of hU hW hPc hK hDc hSt hS hFc hNw⟩⟩ rfl rfl hl.1 rfl (lv_room (Nat.le_of_ble_eq_true rfl)) dX8_isWrapped_298 ⟨Nat.zero_le _, Nat.zero_le _⟩) hS (fun q _ h => hFc q h) hFc (fun r_13 u_14 t H1 locs ht hvm hw hB hz1 hk1 hS => ?_)
          obtain ⟨hP1, hK1, hD1⟩ := hB
          rw [ht] at hP1
          obtain ⟨hP, hD⟩ := va_join (wr := [(a_imageX, .inl (cI, 30, .inl v_imageX)), (a_imageY, .inl (cI, 30, .inl v_imageY)), (a_looks, .inl (cI, 30, .inl v_looks)), (a_nextFace, .inl (cI, 180, .inl v_nextFace)), (a_on, .inl (cI, 30, .inl v_on)), (a_onRight, .inl (cI, 30, .inl v_onRight)), (a_onUp, .inl (cI, 30, .inl v_onUp)), (a_queue, .inl (cI, 30, .inl v_queue)), (a_shapeRow, .inl (cI, 1920, .inl v_shapeRow)), (a_shapeSize, .inl (cI, 64, .inl v_shapeSize))]) (w1 := (wd_X8_nextUp cI cZ cJ a_this a_leads a_cubeX a_cubeY a_cubeZ a_cubeOf a_looks a_lies a_handX a_handY a_handRight a_handUp a_order a_choice a_has a_atX a_atY a_right a_up a_bestX a_bestY a_shapeSize a_shapeRow a_nextFace a_grid a_imageX a_imageY a_row a_bestRow a_on a_onRight a_onUp a_queue v_cubes v_faces v_laid v_count v_step v_ended v_nets v_work v_bestWidth v_bestHeight v_bestNet v_shapes v_leads)) hP hD [0, 3] [1, 2, 4, 5, 6, 7, 8, 9, 10, 11] rfl rfl (by decide) (by decide) hk1 hFc hP1 hD1
          clear hPc hDc hFc hP1 hD1 hK1 hk1 hz1 ht hvm
          replace h := hw
          clear hw
          generalize H1 = H at hP hS ⊢
          replace hP : va_P D vwCl (wd_X8_isWrapped cI cZ cJ a_this a_imageX a_imageY a_leads a_looks a_nextFace a_on a_onRight a_onUp a_queue a_shapeRow a_shapeSize a_cubeX a_cubeY a_cubeZ a_cubeOf a_lies a_handX a_handY a_handRight a_handUp a_order a_choice a_has a_atX a_atY a_right a_up a_bestX a_bestY a_grid a_row a_bestRow v_cubes v_faces v_laid v_count v_step v_ended v_nets v_work v_bestWidth v_bestHeight v_bestNet v_shapes v_imageX v_imageY v_leads v_looks v_nextFace v_on v_onRight v_onUp v_queue v_shapeRow v_shapeSize) H := hP.sub [10, 0, 1, 11, 2, 3, 4, 5, 6, 7, 8, 9] rfl
          replace hD : va_D A (wd_X8_isWrapped cI cZ cJ a_this a_imageX a_imageY a_leads a_looks a_nextFace a_on a_onRight a_onUp a_queue a_shapeRow a_shapeSize a_cubeX a_cubeY a_cubeZ a_cubeOf a_lies a_handX a_handY a_handRight a_handUp a_order a_choice a_has a_atX a_atY a_right a_up a_bestX a_bestY a_grid a_row a_bestRow v_cubes v_faces v_laid v_count v_step v_ended v_nets v_work v_bestWidth v_bestHeight v_bestNet v_shapes v_imageX v_imageY v_leads v_looks v_nextFace v_on v_onRight v_onUp v_queue v_shapeRow v_shapeSize) := hD.sub [10, 0, 1, 11, 2, 3, 4, 5, 6, 7, 8, 9] (by decide) rfl
          refine lv_istore (lv' := [(12, .int r_13), (11, .int r_11), (10, .int r_9), (9, .int r_5), (0, .ref a_this), (4, .int l4), (5, .int l5), (6, .int l6), (7, .int l7), (8, .int l8)]) hx hb dX8_isWrapped_301 hl (by decide) rfl (fun ls hl => ?_)
          refine lv_aload_n hx hb dX8_isWrapped_303 rfl (lv_at hl 4 rfl) ?_
          refine va_get (D := D) (ci := 8) (v := .ref a_on) (C := RX8) (T := TX8) (N := 44) hx hb hts iX8 hown hK hP 0 rfl rfl 40 (by decide) f96 (fun _ h9 => h9) rfl dX8_isWrapped_304 ?_
          refine lv_iload hx hb dX8_isWrapped_307 (lv_at hl 3 rfl) ?_
          obtain ⟨hin, h⟩ := h
          refine va_iald hx hb hK hP 6 0 rfl rfl hin dX8_isWrapped_309 ?_
          refine lv_bipush (v := -9) hx hb dX8_isWrapped_310 (by decide) ?_
          refine lv_icmp_ne (tgt := 357) hx hb dX8_isWrapped_312 (by decide) (fun hc => ?_) (fun hc => ?_)
          · replace h := h.1 hc
            refine lv_aload_n hx hb dX8_isWrapped_357 rfl (lv_at hl 4 rfl) ?_
            refine va_get (D := D) (ci := 8) (v := .ref a_on) (C := RX8) (T := TX8) (N := 44) hx hb hts iX8 hown hK hP 0 rfl rfl 40 (by decide) f96 (fun _ h9 => h9) rfl dX8_isWrapped_358 ?_
            refine lv_iload hx hb dX8_isWrapped_361 (lv_at hl 3 rfl) ?_
            obtain ⟨hin, h⟩ := h
            refine va_iald hx hb hK hP 6 0 rfl rfl hin dX8_isWrapped_363 ?_
            refine lv_iload hx hb dX8_isWrapped_364 (lv_at hl 2 rfl) ?_
            refine lv_icmp_ne (tgt := 393) hx hb dX8_isWrapped_366 (by decide) (fun hc => ?_) (fun hc => ?_)
            · replace h := h.1 hc
              exact hkx393 v_on v_onRight v_onUp v_queue _ _ _ h hP hD hS (lv_sub hl [] rfl)
            · replace h := h.2 hc
              refine lv_aload_n hx hb dX8_isWrapped_369 rfl (lv_at hl 4 rfl) ?_
              refine va_get (D := D) (ci := 8) (v := .ref a_onRight) (C := RX8) (T := TX8) (N := 44) hx hb hts iX8 hown hK hP 0 rfl rfl 41 (by decide) f99 (fun _ h9 => h9) rfl dX8_isWrapped_370 ?_
              refine lv_iload hx hb dX8_isWrapped_373 (lv_at hl 3 rfl) ?_
              obtain ⟨hin, h⟩ := h
              refine va_iald hx hb hK hP 7 0 rfl rfl hin dX8_isWrapped_375 ?_
              refine lv_iload hx hb dX8_isWrapped_376 (lv_at hl 1 rfl) ?_
              refine lv_icmp_ne (tgt := 393) hx hb dX8_isWrapped_378 (by decide) (fun hc => ?_) (fun hc => ?_)
              · replace h := h.1 hc
                exact hkx393 v_on v_onRight v_onUp v_queue _ _ _ h hP hD hS (lv_sub hl [] rfl)
              · replace h := h.2 hc
                refine lv_aload_n hx hb dX8_isWrapped_381 rfl (lv_at hl 4 rfl) ?_
                refine va_get (D := D) (ci := 8) (v := .ref a_onUp) (C := RX8) (T := TX8) (N := 44) hx hb hts iX8 hown hK hP 0 rfl rfl 42 (by decide) f102 (fun _ h9 => h9) rfl dX8_isWrapped_382 ?_
                refine lv_iload hx hb dX8_isWrapped_385 (lv_at hl 3 rfl) ?_
                obtain ⟨hin, h⟩ := h
                refine va_iald hx hb hK hP 8 0 rfl rfl hin dX8_isWrapped_387 ?_
                refine lv_iload hx hb dX8_isWrapped_388 (lv_at hl 0 rfl) ?_
                refine lv_icmp_eq (tgt := 395) hx hb dX8_isWrapped_390 (by decide) (fun hc => ?_) (fun hc => ?_)
                · replace h := h.1 hc
                  refine lv_iinc (v := (l8 + (1 : Int32))) (lv' := [(8, .int (l8 + (1 : Int32))), (12, .int r_13), (11, .int r_11), (10, .int r_9), (9, .int r_5), (0, .ref a_this), (4, .int l4), (5, .int l5), (6, .int l6), (7, .int l7)]) hx hb dX8_isWrapped_395 hl (k := 9) rfl rfl (by decide) rfl (fun ls hl => ?_)
                  refine lv_goto (tgt := 166) hx hb dX8_isWrapped_398 (by decide) ?_
                  exact ih l5 (l8 + (1 : Int32)) v_on v_onRight v_onUp v_queue _ _ _ h hP hD hS (lv_sub hl [5, 6, 7, 8, 9, 0] rfl)
                · replace h := h.2 hc
                  exact hkx393 v_on v_onRight v_onUp v_queue _ _ _ h hP hD hS (lv_sub hl [] rfl)
          · replace h := h.2 hc
            refine lv_aload_n hx hb dX8_isWrapped_315 rfl (lv_at hl 4 rfl) ?_
            refine va_get (D := D) (ci := 8) (v := .ref a_on) (C := RX8) (T := TX8) (N := 44) hx hb hts iX8 hown hK hP 0 rfl rfl 40 (by decide) f96 (fun _ h9 => h9) rfl dX8_isWrapped_316 ?_
            refine lv_iload hx hb dX8_isWrapped_319 (lv_at hl 3 rfl) ?_
            refine lv_iload hx hb dX8_isWrapped_321 (lv_at hl 2 rfl) ?_
            obtain ⟨hin, h⟩ := h
            refine va_iast hx hb hK hP hD hS 6 0 rfl rfl hin dX8_isWrapped_323 (fun H locs hP hD hS => ?_)
            replace hP : va_P D vwCl (wd_X8_isWrapped cI cZ cJ a_this a_imageX a_imageY a_leads a_looks a_nextFace a_on a_onRight a_onUp a_queue a_shapeRow a_shapeSize a_cubeX a_cubeY a_cubeZ a_cubeOf a_lies a_handX a_handY a_handRight a_handUp a_order a_choice a_has a_atX a_atY a_right a_up a_bestX a_bestY a_grid a_row a_bestRow v_cubes v_faces v_laid v_count v_step v_ended v_nets v_work v_bestWidth v_bestHeight v_bestNet v_shapes v_imageX v_imageY v_leads v_looks v_nextFace (upd v_on r_5.toNatClampNeg r_9) v_onRight v_onUp v_queue v_shapeRow v_shapeSize) H := hP
            replace hD : va_D A (wd_X8_isWrapped cI cZ cJ a_this a_imageX a_imageY a_leads a_looks a_nextFace a_on a_onRight a_onUp a_queue a_shapeRow a_shapeSize a_cubeX a_cubeY a_cubeZ a_cubeOf a_lies a_handX a_handY a_handRight a_handUp a_order a_choice a_has a_atX a_atY a_right a_up a_bestX a_bestY a_grid a_row a_bestRow v_cubes v_faces v_laid v_count v_step v_ended v_nets v_work v_bestWidth v_bestHeight v_bestNet v_shapes v_imageX v_imageY v_leads v_looks v_nextFace (upd v_on r_5.toNatClampNeg r_9) v_onRight v_onUp v_queue v_shapeRow v_shapeSize) := hD
            refine lv_aload_n hx hb dX8_isWrapped_324 rfl (lv_at hl 4 rfl) ?_
            refine va_get (D := D) (ci := 8) (v := .ref a_onRight) (C := RX8) (T := TX8) (N := 44) hx hb hts iX8 hown hK hP 0 rfl rfl 41 (by decide) f99 (fun _ h9 => h9) rfl dX8_isWrapped_325 ?_
            refine lv_iload hx hb dX8_isWrapped_328 (lv_at hl 3 rfl) ?_
            refine lv_iload hx hb dX8_isWrapped_330 (lv_at hl 1 rfl) ?_
            obtain ⟨hin, h⟩ := h
            refine va_iast hx hb hK hP hD hS 7 0 rfl rfl hin dX8_isWrapped_332 (fun H locs hP hD hS => ?_)
            replace hP : va_P D vwCl (wd_X8_isWrapped cI cZ cJ a_this a_imageX a_imageY a_leads a_looks a_nextFace a_on a_onRight a_onUp a_queue a_shapeRow a_shapeSize a_cubeX a_cubeY a_cubeZ a_cubeOf a_lies a_handX a_handY a_handRight a_handUp a_order a_choice a_has a_atX a_atY a_right a_up a_bestX a_bestY a_grid a_row a_bestRow v_cubes v_faces v_laid v_count v_step v_ended v_nets v_work v_bestWidth v_bestHeight v_bestNet v_shapes v_imageX v_imageY v_leads v_looks v_nextFace (upd v_on r_5.toNatClampNeg r_9) (upd v_onRight r_5.toNatClampNeg r_11) v_onUp v_queue v_shapeRow v_shapeSize) H := hP
            replace hD : va_D A (wd_X8_isWrapped cI cZ cJ a_this a_imageX a_imageY a_leads a_looks a_nextFace a_on a_onRight a_onUp a_queue a_shapeRow a_shapeSize a_cubeX a_cubeY a_cubeZ a_cubeOf a_lies a_handX a_handY a_handRight a_handUp a_order a_choice a_has a_atX a_atY a_right a_up a_bestX a_bestY a_grid a_row a_bestRow v_cubes v_faces v_laid v_count v_step v_ended v_nets v_work v_bestWidth v_bestHeight v_bestNet v_shapes v_imageX v_imageY v_leads v_looks v_nextFace (upd v_on r_5.toNatClampNeg r_9) (upd v_onRight r_5.toNatClampNeg r_11) v_onUp v_queue v_shapeRow v_shapeSize) := hD
            refine lv_aload_n hx hb dX8_isWrapped_333 rfl (lv_at hl 4 rfl) ?_
            refine va_get (D := D) (ci := 8) (v := .ref a_onUp) (C := RX8) (T := TX8) (N := 44) hx hb hts iX8 hown hK hP 0 rfl rfl 42 (by decide) f102 (fun _ h9 => h9) rfl dX8_isWrapped_334 ?_
            refine lv_iload hx hb dX8_isWrapped_337 (lv_at hl 3 rfl) ?_
            refine lv_iload hx hb dX8_isWrapped_339 (lv_at hl 0 rfl) ?_
            obtain ⟨hin, h⟩ := h
            refine va_iast hx hb hK hP hD hS 8 0 rfl rfl hin dX8_isWrapped_341 (fun H locs hP hD hS => ?_)
            replace hP : va_P D vwCl (wd_X8_isWrapped cI cZ cJ a_this a_imageX a_imageY a_leads a_looks a_nextFace a_on a_onRight a_onUp a_queue a_shapeRow a_shapeSize a_cubeX a_cubeY a_cubeZ a_cubeOf a_lies a_handX a_handY a_handRight a_handUp a_order a_choice a_has a_atX a_atY a_right a_up a_bestX a_bestY a_grid a_row a_bestRow v_cubes v_faces v_laid v_count v_step v_ended v_nets v_work v_bestWidth v_bestHeight v_bestNet v_shapes v_imageX v_imageY v_leads v_looks v_nextFace (upd v_on r_5.toNatClampNeg r_9) (upd v_onRight r_5.toNatClampNeg r_11) (upd v_onUp r_5.toNatClampNeg r_13) v_queue v_shapeRow v_shapeSize) H := hP
            replace hD : va_D A (wd_X8_isWrapped cI cZ cJ a_this a_imageX a_imageY a_leads a_looks a_nextFace a_on a_onRight a_onUp a_queue a_shapeRow a_shapeSize a_cubeX a_cubeY a_cubeZ a_cubeOf a_lies a_handX a_handY a_handRight a_handUp a_order a_choice a_has a_atX a_atY a_right a_up a_bestX a_bestY a_grid a_row a_bestRow v_cubes v_faces v_laid v_count v_step v_ended v_nets v_work v_bestWidth v_bestHeight v_bestNet v_shapes v_imageX v_imageY v_leads v_looks v_nextFace (upd v_on r_5.toNatClampNeg r_9) (upd v_onRight r_5.toNatClampNeg r_11) (upd v_onUp r_5.toNatClampNeg r_13) v_queue v_shapeRow v_shapeSize) := hD
            refine lv_aload_n hx hb dX8_isWrapped_342 rfl (lv_at hl 4 rfl) ?_
            refine va_get (D := D) (ci := 8) (v := .ref a_queue) (C := RX8) (T := TX8) (N := 44) hx hb hts iX8 hown hK hP 0 rfl rfl 43 (by decide) f105 (fun _ h9 => h9) rfl dX8_isWrapped_343 ?_
            refine lv_iload hx hb dX8_isWrapped_346 (lv_at hl 6 rfl) ?_
            refine lv_iload hx hb dX8_isWrapped_348 (lv_at hl 3 rfl) ?_
            obtain ⟨hin, h⟩ := h
            refine va_iast hx hb hK hP hD hS 9 0 rfl rfl hin dX8_isWrapped_350 (fun H locs hP hD hS => ?_)
            replace hP : va_P D vwCl (wd_X8_isWrapped cI cZ cJ a_this a_imageX a_imageY a_leads a_looks a_nextFace a_on a_onRight a_onUp a_queue a_shapeRow a_shapeSize a_cubeX a_cubeY a_cubeZ a_cubeOf a_lies a_handX a_handY a_handRight a_handUp a_order a_choice a_has a_atX a_atY a_right a_up a_bestX a_bestY a_grid a_row a_bestRow v_cubes v_faces v_laid v_count v_step v_ended v_nets v_work v_bestWidth v_bestHeight v_bestNet v_shapes v_imageX v_imageY v_leads v_looks v_nextFace (upd v_on r_5.toNatClampNeg r_9) (upd v_onRight r_5.toNatClampNeg r_11) (upd v_onUp r_5.toNatClampNeg r_13) (upd v_queue l5.toNatClampNeg r_5) v_shapeRow v_shapeSize) H := hP
            replace hD : va_D A (wd_X8_isWrapped cI cZ cJ a_this a_imageX a_imageY a_leads a_looks a_nextFace a_on a_onRight a_onUp a_queue a_shapeRow a_shapeSize a_cubeX a_cubeY a_cubeZ a_cubeOf a_lies a_handX a_handY a_handRight a_handUp a_order a_choice a_has a_atX a_atY a_right a_up a_bestX a_bestY a_grid a_row a_bestRow v_cubes v_faces v_laid v_count v_step v_ended v_nets v_work v_bestWidth v_bestHeight v_bestNet v_shapes v_imageX v_imageY v_leads v_looks v_nextFace (upd v_on r_5.toNatClampNeg r_9) (upd v_onRight r_5.toNatClampNeg r_11) (upd v_onUp r_5.toNatClampNeg r_13) (upd v_queue l5.toNatClampNeg r_5) v_shapeRow v_shapeSize) := hD
            refine lv_iinc (v := (l5 + (1 : Int32))) (lv' := [(5, .int (l5 + (1 : Int32))), (12, .int r_13), (11, .int r_11), (10, .int r_9), (9, .int r_5), (0, .ref a_this), (4, .int l4), (6, .int l6), (7, .int l7), (8, .int l8)]) hx hb dX8_isWrapped_351 hl (k := 6) rfl rfl (by decide) rfl (fun ls hl => ?_)
            refine lv_goto (tgt := 395) hx hb dX8_isWrapped_354 (by decide) ?_
            refine lv_iinc (v := (l8 + (1 : Int32))) (lv' := [(8, .int (l8 + (1 : Int32))), (5, .int (l5 + (1 : Int32))), (12, .int r_13), (11, .int r_11), (10, .int r_9), (9, .int r_5), (0, .ref a_this), (4, .int l4), (6, .int l6), (7, .int l7)]) hx hb dX8_isWrapped_395 hl (k := 9) rfl rfl (by decide) rfl (fun ls hl => ?_)
            refine lv_goto (tgt := 166) hx hb dX8_isWrapped_398 (by decide) ?_
            exact ih (l5 + (1 : Int32)) (l8 + (1 : Int32)) (upd v_on r_5.toNatClampNeg r_9) (upd v_onRight r_5.toNatClampNeg r_11) (upd v_onUp r_5.toNatClampNeg r_13) (upd v_queue l5.toNatClampNeg r_5) _ _ _ h hP hD hS (lv_sub hl [6, 7, 1, 8, 9, 0] rfl)
  have L147_ok : ∀ (v_imageX : Nat → Int32) (v_imageY : Nat → Int32) (l4 : Int32) (kx393 : (Nat → Int32) → (Nat → Int32) → (Nat → Int32) → (Nat → Int32) → Prop) (hkx393 : ∀ (v_on : Nat → Int32) (v_onRight : Nat → Int32) (v_onUp : Nat → Int32) (v_queue : Nat → Int32) (H : Heap) (locs : List Loc) (ls : Array Slot), kx393 v_on v_onRight v_onUp v_queue → va_P D vwCl (wd_X8_isWrapped cI cZ cJ a_this a_imageX a_imageY a_leads a_looks a_nextFace a_on a_onRight a_onUp a_queue a_shapeRow a_shapeSize a_cubeX a_cubeY a_cubeZ a_cubeOf a_lies a_handX a_handY a_handRight a_handUp a_order a_choice a_has a_atX a_atY a_right a_up a_bestX a_bestY a_grid a_row a_bestRow v_cubes v_faces v_laid v_count v_step v_ended v_nets v_work v_bestWidth v_bestHeight v_bestNet v_shapes v_imageX v_imageY v_leads v_looks v_nextFace v_on v_onRight v_onUp v_queue v_shapeRow v_shapeSize) H → va_D A (wd_X8_isWrapped cI cZ cJ a_this a_imageX a_imageY a_leads a_looks a_nextFace a_on a_onRight a_onUp a_queue a_shapeRow a_shapeSize a_cubeX a_cubeY a_cubeZ a_cubeOf a_lies a_handX a_handY a_handRight a_handUp a_order a_choice a_has a_atX a_atY a_right a_up a_bestX a_bestY a_grid a_row a_bestRow v_cubes v_faces v_laid v_count v_step v_ended v_nets v_work v_bestWidth v_bestHeight v_bestNet v_shapes v_imageX v_imageY v_leads v_looks v_nextFace v_on v_onRight v_onUp v_queue v_shapeRow v_shapeSize) → va_S A s.heap H locs → lv_has ls 13 [] → W p l e rm_X8_isWrapped s m ([.ref a_this, .int p1, .int p2, .int p3] : List Value).toArray below meth c H locs 0 0 Q (F0 m 393 ls [])) (kx407 : (Nat → Int32) → (Nat → Int32) → (Nat → Int32) → (Nat → Int32) → Prop) (hkx407 : ∀ (v_on : Nat → Int32) (v_onRight : Nat → Int32) (v_onUp : Nat → Int32) (v_queue : Nat → Int32) (H : Heap) (locs : List Loc) (ls : Array Slot), kx407 v_on v_onRight v_onUp v_queue → va_P D vwCl (wd_X8_isWrapped cI cZ cJ a_this a_imageX a_imageY a_leads a_looks a_nextFace a_on a_onRight a_onUp a_queue a_shapeRow a_shapeSize a_cubeX a_cubeY a_cubeZ a_cubeOf a_lies a_handX a_handY a_handRight a_handUp a_order a_choice a_has a_atX a_atY a_right a_up a_bestX a_bestY a_grid a_row a_bestRow v_cubes v_faces v_laid v_count v_step v_ended v_nets v_work v_bestWidth v_bestHeight v_bestNet v_shapes v_imageX v_imageY v_leads v_looks v_nextFace v_on v_onRight v_onUp v_queue v_shapeRow v_shapeSize) H → va_D A (wd_X8_isWrapped cI cZ cJ a_this a_imageX a_imageY a_leads a_looks a_nextFace a_on a_onRight a_onUp a_queue a_shapeRow a_shapeSize a_cubeX a_cubeY a_cubeZ a_cubeOf a_lies a_handX a_handY a_handRight a_handUp a_order a_choice a_has a_atX a_atY a_right a_up a_bestX a_bestY a_grid a_row a_bestRow v_cubes v_faces v_laid v_count v_step v_ended v_nets v_work v_bestWidth v_bestHeight v_bestNet v_shapes v_imageX v_imageY v_leads v_looks v_nextFace v_on v_onRight v_onUp v_queue v_shapeRow v_shapeSize) → va_S A s.heap H locs → lv_has ls 13 [(0, .ref a_this), (4, .int l4)] → W p l e rm_X8_isWrapped s m ([.ref a_this, .int p1, .int p2, .int p3] : List Value).toArray below meth c H locs 0 0 Q (F0 m 407 ls [])) (n : Nat) (l5 : Int32) (l6 : Int32) (v_on : Nat → Int32) (v_onRight : Nat → Int32) (v_onUp : Nat → Int32) (v_queue : Nat → Int32) (H : Heap) (locs : List Loc) (ls : Array Slot), lpN (wl_X8_isWrapped_147 v_imageX v_imageY v_leads v_nextFace l4 kx393 kx407) n (l5, l6, v_on, v_onRight, v_onUp, v_queue) → va_P D vwCl (wd_X8_isWrapped cI cZ cJ a_this a_imageX a_imageY a_leads a_looks a_nextFace a_on a_onRight a_onUp a_queue a_shapeRow a_shapeSize a_cubeX a_cubeY a_cubeZ a_cubeOf a_lies a_handX a_handY a_handRight a_handUp a_order a_choice a_has a_atX a_atY a_right a_up a_bestX a_bestY a_grid a_row a_bestRow v_cubes v_faces v_laid v_count v_step v_ended v_nets v_work v_bestWidth v_bestHeight v_bestNet v_shapes v_imageX v_imageY v_leads v_looks v_nextFace v_on v_onRight v_onUp v_queue v_shapeRow v_shapeSize) H → va_D A (wd_X8_isWrapped cI cZ cJ a_this a_imageX a_imageY a_leads a_looks a_nextFace a_on a_onRight a_onUp a_queue a_shapeRow a_shapeSize a_cubeX a_cubeY a_cubeZ a_cubeOf a_lies a_handX a_handY a_handRight a_handUp a_order a_choice a_has a_atX a_atY a_right a_up a_bestX a_bestY a_grid a_row a_bestRow v_cubes v_faces v_laid v_count v_step v_ended v_nets v_work v_bestWidth v_bestHeight v_bestNet v_shapes v_imageX v_imageY v_leads v_looks v_nextFace v_on v_onRight v_onUp v_queue v_shapeRow v_shapeSize) → va_S A s.heap H locs → lv_has ls 13 [(0, .ref a_this), (4, .int l4), (5, .int l5), (6, .int l6)] → W p l e rm_X8_isWrapped s m ([.ref a_this, .int p1, .int p2, .int p3] : List Value).toArray below meth c H locs 0 0 Q (F0 m 147 ls []) := by
    intro v_imageX v_imageY l4 kx393 hkx393 kx407 hkx407 n
    induction n with
    | zero => intro l5 l6 v_on v_onRight v_onUp v_queue H locs ls h; exact False.elim h
    | succ n ih =>
      intro l5 l6 v_on v_onRight v_onUp v_queue H locs ls h hP hD hS hl
      have h : wb_X8_isWrapped_147 v_imageX v_imageY v_leads v_nextFace l4 kx393 kx407 (fun l5 l6 v_on v_onRight v_onUp v_queue => lpN (wl_X8_isWrapped_147 v_imageX v_imageY v_leads v_nextFace l4 kx393 kx407) n (l5, l6, v_on, v_onRight, v_onUp, v_queue)) l5 l6 v_on v_onRight v_onUp v_queue := h
      unfold wb_X8_isWrapped_147 at h
      refine lv_iload hx hb dX8_isWrapped_147 (lv_at hl 3 rfl) ?_
      refine lv_iload hx hb dX8_isWrapped_149 (lv_at hl 2 rfl) ?_
      refine lv_icmp_ge (tgt := 407) hx hb dX8_isWrapped_151 (by decide) (fun hc => ?_) (fun hc => ?_)
      · replace h := h.1 hc
        exact hkx407 v_on v_onRight v_onUp v_queue _ _ _ h hP hD hS (lv_sub hl [0, 1] rfl)
      · replace h := h.2 hc
        refine lv_aload_n hx hb dX8_isWrapped_154 rfl (lv_at hl 0 rfl) ?_
        refine va_get (D := D) (ci := 8) (v := .ref a_queue) (C := RX8) (T := TX8) (N := 44) hx hb hts iX8 hown hK hP 0 rfl rfl 43 (by decide) f105 (fun _ h9 => h9) rfl dX8_isWrapped_155 ?_
        refine lv_iload hx hb dX8_isWrapped_158 (lv_at hl 3 rfl) ?_
        obtain ⟨hin, h⟩ := h
        refine va_iald hx hb hK hP 9 0 rfl rfl hin dX8_isWrapped_160 ?_
        refine lv_istore (lv' := [(7, .int (v_queue l6.toNatClampNeg)), (0, .ref a_this), (4, .int l4), (5, .int l5), (6, .int l6)]) hx hb dX8_isWrapped_161 hl (by decide) rfl (fun ls hl => ?_)
        refine lv_iconst (v := 0) hx hb dX8_isWrapped_163 (by decide) ?_
        refine lv_istore (lv' := [(8, .int (0 : Int32)), (7, .int (v_queue l6.toNatClampNeg)), (0, .ref a_this), (4, .int l4), (5, .int l5), (6, .int l6)]) hx hb dX8_isWrapped_164 hl (by decide) rfl (fun ls hl => ?_)
        obtain ⟨n, h⟩ := h
        refine L166_ok v_imageX v_imageY l4 l6 (v_queue l6.toNatClampNeg) _ (fun v_on_15 v_onRight_16 v_onUp_17 v_queue_18 H locs ls h hP hD hS hl => ?_) _ (fun l5_19 v_on_20 v_onRight_21 v_onUp_22 v_queue_23 H locs ls h hP hD hS hl => ?_) n l5 (0 : Int32) v_on v_onRight v_onUp v_queue _ _ _ h hP hD hS (lv_sub hl [2, 3, 4, 5, 1, 0] rfl)
        · exact hkx393 v_on_15 v_onRight_16 v_onUp_17 v_queue_18 _ _ _ h hP hD hS (lv_sub hl [] rfl)
        · refine lv_iinc (v := (l6 + (1 : Int32))) (lv' := [(6, .int (l6 + (1 : Int32))), (0, .ref a_this), (4, .int l4), (5, .int l5_19)]) hx hb dX8_isWrapped_401 hl (k := 3) rfl rfl (by decide) rfl (fun ls hl => ?_)
          refine lv_goto (tgt := 147) hx hb dX8_isWrapped_404 (by decide) ?_
          exact ih l5_19 (l6 + (1 : Int32)) v_on_20 v_onRight_21 v_onUp_22 v_queue_23 _ _ _ h hP hD hS (lv_sub hl [1, 2, 3, 0] rfl)
  have L11_ok : ∀ (v_onRight : Nat → Int32) (v_onUp : Nat → Int32) (v_queue : Nat → Int32) (l1 : Int32) (l2 : Int32) (l3 : Int32) (l4 : Int32) (kx97 : (Nat → Int32) → (Nat → Int32) → (Nat → Int32) → Prop) (hkx97 : ∀ (v_imageX : Nat → Int32) (v_imageY : Nat → Int32) (v_on : Nat → Int32) (H : Heap) (locs : List Loc) (ls : Array Slot), kx97 v_imageX v_imageY v_on → va_P D vwCl (wd_X8_isWrapped cI cZ cJ a_this a_imageX a_imageY a_leads a_looks a_nextFace a_on a_onRight a_onUp a_queue a_shapeRow a_shapeSize a_cubeX a_cubeY a_cubeZ a_cubeOf a_lies a_handX a_handY a_handRight a_handUp a_order a_choice a_has a_atX a_atY a_right a_up a_bestX a_bestY a_grid a_row a_bestRow v_cubes v_faces v_laid v_count v_step v_ended v_nets v_work v_bestWidth v_bestHeight v_bestNet v_shapes v_imageX v_imageY v_leads v_looks v_nextFace v_on v_onRight v_onUp v_queue v_shapeRow v_shapeSize) H → va_D A (wd_X8_isWrapped cI cZ cJ a_this a_imageX a_imageY a_leads a_looks a_nextFace a_on a_onRight a_onUp a_queue a_shapeRow a_shapeSize a_cubeX a_cubeY a_cubeZ a_cubeOf a_lies a_handX a_handY a_handRight a_handUp a_order a_choice a_has a_atX a_atY a_right a_up a_bestX a_bestY a_grid a_row a_bestRow v_cubes v_faces v_laid v_count v_step v_ended v_nets v_work v_bestWidth v_bestHeight v_bestNet v_shapes v_imageX v_imageY v_leads v_looks v_nextFace v_on v_onRight v_onUp v_queue v_shapeRow v_shapeSize) → va_S A s.heap H locs → lv_has ls 13 [(0, .ref a_this), (2, .int l2), (4, .int l4)] → W p l e rm_X8_isWrapped s m ([.ref a_this, .int p1, .int p2, .int p3] : List Value).toArray below meth c H locs 0 0 Q (F0 m 97 ls [])) (n : Nat) (l5 : Int32) (v_imageX : Nat → Int32) (v_imageY : Nat → Int32) (v_on : Nat → Int32) (H : Heap) (locs : List Loc) (ls : Array Slot), lpN (wl_X8_isWrapped_11 v_shapeRow l1 l3 l4 kx97) n (l5, v_imageX, v_imageY, v_on) → va_P D vwCl (wd_X8_isWrapped cI cZ cJ a_this a_imageX a_imageY a_leads a_looks a_nextFace a_on a_onRight a_onUp a_queue a_shapeRow a_shapeSize a_cubeX a_cubeY a_cubeZ a_cubeOf a_lies a_handX a_handY a_handRight a_handUp a_order a_choice a_has a_atX a_atY a_right a_up a_bestX a_bestY a_grid a_row a_bestRow v_cubes v_faces v_laid v_count v_step v_ended v_nets v_work v_bestWidth v_bestHeight v_bestNet v_shapes v_imageX v_imageY v_leads v_looks v_nextFace v_on v_onRight v_onUp v_queue v_shapeRow v_shapeSize) H → va_D A (wd_X8_isWrapped cI cZ cJ a_this a_imageX a_imageY a_leads a_looks a_nextFace a_on a_onRight a_onUp a_queue a_shapeRow a_shapeSize a_cubeX a_cubeY a_cubeZ a_cubeOf a_lies a_handX a_handY a_handRight a_handUp a_order a_choice a_has a_atX a_atY a_right a_up a_bestX a_bestY a_grid a_row a_bestRow v_cubes v_faces v_laid v_count v_step v_ended v_nets v_work v_bestWidth v_bestHeight v_bestNet v_shapes v_imageX v_imageY v_leads v_looks v_nextFace v_on v_onRight v_onUp v_queue v_shapeRow v_shapeSize) → va_S A s.heap H locs → lv_has ls 13 [(0, .ref a_this), (1, .int l1), (2, .int l2), (3, .int l3), (4, .int l4), (5, .int l5)] → W p l e rm_X8_isWrapped s m ([.ref a_this, .int p1, .int p2, .int p3] : List Value).toArray below meth c H locs 0 0 Q (F0 m 11 ls []) := by
    intro v_onRight v_onUp v_queue l1 l2 l3 l4 kx97 hkx97 n
    induction n with
    | zero => intro l5 v_imageX v_imageY v_on H locs ls h; exact False.elim h
    | succ n ih =>
      intro l5 v_imageX v_imageY v_on H locs ls h hP hD hS hl
      have h : wb_X8_isWrapped_11 v_shapeRow l1 l3 l4 kx97 (fun l5 v_imageX v_imageY v_on => lpN (wl_X8_isWrapped_11 v_shapeRow l1 l3 l4 kx97) n (l5, v_imageX, v_imageY, v_on)) l5 v_imageX v_imageY v_on := h
      unfold wb_X8_isWrapped_11 at h
      refine lv_iload hx hb dX8_isWrapped_11 (lv_at hl 5 rfl) ?_
      refine lv_iload hx hb dX8_isWrapped_13 (lv_at hl 4 rfl) ?_
      refine lv_icmp_ge (tgt := 97) hx hb dX8_isWrapped_15 (by decide) (fun hc => ?_) (fun hc => ?_)
      · replace h := h.1 hc
        exact hkx97 v_imageX v_imageY v_on _ _ _ h hP hD hS (lv_sub hl [0, 2, 4] rfl)
      · replace h := h.2 hc
        refine lv_aload_n hx hb dX8_isWrapped_18 rfl (lv_at hl 0 rfl) ?_
        refine va_get (D := D) (ci := 8) (v := .ref a_shapeRow) (C := RX8) (T := TX8) (N := 44) hx hb hts iX8 hown hK hP 0 rfl rfl 32 (by decide) f71 (fun _ h9 => h9) rfl dX8_isWrapped_19 ?_
        refine lv_bipush (v := 30) hx hb dX8_isWrapped_22 (by decide) ?_
        refine lv_iload_n hx hb dX8_isWrapped_24 rfl (lv_at hl 1 rfl) ?_
        refine lv_imul hx hb dX8_isWrapped_25 ?_
        refine lv_iload hx hb dX8_isWrapped_26 (lv_at hl 5 rfl) ?_
        refine lv_iadd hx hb dX8_isWrapped_28 ?_
        obtain ⟨hin, h⟩ := h
        refine va_iald hx hb hK hP 10 0 rfl rfl hin dX8_isWrapped_29 ?_
        refine lv_bipush (v := 32) hx hb dX8_isWrapped_30 (by decide) ?_
        refine lv_irem hx hb dX8_isWrapped_32 (by decide) ?_
        refine lv_istore (lv' := [(6, .int ((v_shapeRow (((30 : Int32) * l1) + l5).toNatClampNeg) - (v_shapeRow (((30 : Int32) * l1) + l5).toNatClampNeg) / (32 : Int32) * (32 : Int32))), (0, .ref a_this), (1, .int l1), (2, .int l2), (3, .int l3), (4, .int l4), (5, .int l5)]) hx hb dX8_isWrapped_33 hl (by decide) rfl (fun ls hl => ?_)
        refine lv_aload_n hx hb dX8_isWrapped_35 rfl (lv_at hl 1 rfl) ?_
        refine va_get (D := D) (ci := 8) (v := .ref a_shapeRow) (C := RX8) (T := TX8) (N := 44) hx hb hts iX8 hown hK hP 0 rfl rfl 32 (by decide) f71 (fun _ h9 => h9) rfl dX8_isWrapped_36 ?_
        refine lv_bipush (v := 30) hx hb dX8_isWrapped_39 (by decide) ?_
        refine lv_iload_n hx hb dX8_isWrapped_41 rfl (lv_at hl 2 rfl) ?_
        refine lv_imul hx hb dX8_isWrapped_42 ?_
        refine lv_iload hx hb dX8_isWrapped_43 (lv_at hl 6 rfl) ?_
        refine lv_iadd hx hb dX8_isWrapped_45 ?_
        obtain ⟨hin, h⟩ := h
        refine va_iald hx hb hK hP 10 0 rfl rfl hin dX8_isWrapped_46 ?_
        refine lv_bipush (v := 32) hx hb dX8_isWrapped_47 (by decide) ?_
        refine lv_idiv hx hb dX8_isWrapped_49 (by decide) ?_
        refine lv_istore (lv' := [(7, .int ((v_shapeRow (((30 : Int32) * l1) + l5).toNatClampNeg) / (32 : Int32))), (6, .int ((v_shapeRow (((30 : Int32) * l1) + l5).toNatClampNeg) - (v_shapeRow (((30 : Int32) * l1) + l5).toNatClampNeg) / (32 : Int32) * (32 : Int32))), (0, .ref a_this), (1, .int l1), (2, .int l2), (3, .int l3), (4, .int l4), (5, .int l5)]) hx hb dX8_isWrapped_50 hl (by decide) rfl (fun ls hl => ?_)
        refine lv_aload_n hx hb dX8_isWrapped_52 rfl (lv_at hl 2 rfl) ?_
        refine va_get (D := D) (ci := 8) (v := .ref a_imageX) (C := RX8) (T := TX8) (N := 44) hx hb hts iX8 hown hK hP 0 rfl rfl 36 (by decide) f84 (fun _ h9 => h9) rfl dX8_isWrapped_53 ?_
        refine lv_iload hx hb dX8_isWrapped_56 (lv_at hl 7 rfl) ?_
        refine lv_iload_n hx hb dX8_isWrapped_58 rfl (lv_at hl 5 rfl) ?_
        refine lv_iload hx hb dX8_isWrapped_59 (lv_at hl 1 rfl) ?_
        refine lv_iload hx hb dX8_isWrapped_61 (lv_at hl 0 rfl) ?_
        have hPc := hP.sub (ws' := (wd_X8_imageOfX cI cZ cJ)) [] rfl
        have hDc := hD.sub (ws' := (wd_X8_imageOfX cI cZ cJ)) [] (by decide) rfl
        have hFc := va_free (wc := (wd_X8_imageOfX cI cZ cJ)) hD hS hA [] rfl
        refine va_calli (va_runS (As := [.int l3, .int ((v_shapeRow (((30 : Int32) * l1) + l5).toNatClampNeg) - (v_shapeRow (((30 : Int32) * l1) + l5).toNatClampNeg) / (32 : Int32) * (32 : Int32)), .int ((v_shapeRow (((30 : Int32) * l1) + l5).toNatClampNeg) / (32 : Int32))]) (rest := [.int l5, .ref a_imageX]) C (c_X8_imageOfX l D cI cZ cJ tb H.size l3 ((v_shapeRow (((30 : Int32) * l1) + l5).toNatClampNeg) - (v_shapeRow (((30 : Int32) * l1) + l5).toNatClampNeg) / (32 : Int32) * (32 : Int32)) ((v_shapeRow (((30 : Int32) * l1) + l5).toNatClampNeg) / (32 : Int32)) h) (va_cwS 3 hts gX8_isWrapped_X8_imageOfX rfl rfl rfl (by decide +kernel) ⟨Nat.le_of_ble_eq_true rfl, Nat.le_of_ble_eq_true rfl⟩) ⟨q_pre.blind, fun U hU hW => ⟨rfl, q_pre.of hU hW hPc hK hDc hSt hS hFc hNw⟩⟩ rfl rfl hl.1 rfl (lv_room (Nat.le_of_ble_eq_true rfl)) dX8_isWrapped_63 ⟨Nat.zero_le _, Nat.zero_le _⟩) hS (fun q _ h => hFc q h) hFc (fun r_24 u_25 t H1 locs ht hvm hw hB hz1 hk1 hS => ?_)
        obtain ⟨hP1, hK1, hD1⟩ := hB
        rw [ht] at hP1
        obtain ⟨hP, hD⟩ := va_join (wr := [(a_this, .inr (8, [.int v_cubes, .ref a_cubeX, .ref a_cubeY, .ref a_cubeZ, .int v_faces, .ref a_cubeOf, .ref a_looks, .int v_laid, .ref a_lies, .ref a_handX, .ref a_handY, .ref a_handRight, .ref a_handUp, .int v_count, .ref a_order, .ref a_choice, .ref a_has, .ref a_atX, .ref a_atY, .ref a_right, .ref a_up, .int v_step, .int v_ended, .int v_nets, .int v_work, .int v_bestWidth, .int v_bestHeight, .int v_bestNet, .ref a_bestX, .ref a_bestY, .int v_shapes, .ref a_shapeSize, .ref a_shapeRow, .ref a_nextFace, .ref a_leads, .ref a_grid, .ref a_imageX, .ref a_imageY, .ref a_row, .ref a_bestRow, .ref a_on, .ref a_onRight, .ref a_onUp, .ref a_queue])), (a_imageX, .inl (cI, 30, .inl v_imageX)), (a_imageY, .inl (cI, 30, .inl v_imageY)), (a_leads, .inl (cI, 180, .inl v_leads)), (a_looks, .inl (cI, 30, .inl v_looks)), (a_nextFace, .inl (cI, 180, .inl v_nextFace)), (a_on, .inl (cI, 30, .inl v_on)), (a_onRight, .inl (cI, 30, .inl v_onRight)), (a_onUp, .inl (cI, 30, .inl v_onUp)), (a_queue, .inl (cI, 30, .inl v_queue)), (a_shapeRow, .inl (cI, 1920, .inl v_shapeRow)), (a_shapeSize, .inl (cI, 64, .inl v_shapeSize))]) (w1 := (wd_X8_imageOfX cI cZ cJ)) hP hD [] [0, 1, 2, 3, 4, 5, 6, 7, 8, 9, 10, 11] rfl rfl (by decide) (by decide) hk1 hFc hP1 hD1
        clear hPc hDc hFc hP1 hD1 hK1 hk1 hz1 ht hvm
        replace h := hw
        clear hw
        generalize H1 = H at hP hS ⊢
        replace hP : va_P D vwCl (wd_X8_isWrapped cI cZ cJ a_this a_imageX a_imageY a_leads a_looks a_nextFace a_on a_onRight a_onUp a_queue a_shapeRow a_shapeSize a_cubeX a_cubeY a_cubeZ a_cubeOf a_lies a_handX a_handY a_handRight a_handUp a_order a_choice a_has a_atX a_atY a_right a_up a_bestX a_bestY a_grid a_row a_bestRow v_cubes v_faces v_laid v_count v_step v_ended v_nets v_work v_bestWidth v_bestHeight v_bestNet v_shapes v_imageX v_imageY v_leads v_looks v_nextFace v_on v_onRight v_onUp v_queue v_shapeRow v_shapeSize) H := hP.sub [0, 1, 2, 3, 4, 5, 6, 7, 8, 9, 10, 11] rfl
        replace hD : va_D A (wd_X8_isWrapped cI cZ cJ a_this a_imageX a_imageY a_leads a_looks a_nextFace a_on a_onRight a_onUp a_queue a_shapeRow a_shapeSize a_cubeX a_cubeY a_cubeZ a_cubeOf a_lies a_handX a_handY a_handRight a_handUp a_order a_choice a_has a_atX a_atY a_right a_up a_bestX a_bestY a_grid a_row a_bestRow v_cubes v_faces v_laid v_count v_step v_ended v_nets v_work v_bestWidth v_bestHeight v_bestNet v_shapes v_imageX v_imageY v_leads v_looks v_nextFace v_on v_onRight v_onUp v_queue v_shapeRow v_shapeSize) := hD.sub [0, 1, 2, 3, 4, 5, 6, 7, 8, 9, 10, 11] (by decide) rfl
        obtain ⟨hin, h⟩ := h
        refine va_iast hx hb hK hP hD hS 1 0 rfl rfl hin dX8_isWrapped_66 (fun H locs hP hD hS => ?_)
        replace hP : va_P D vwCl (wd_X8_isWrapped cI cZ cJ a_this a_imageX a_imageY a_leads a_looks a_nextFace a_on a_onRight a_onUp a_queue a_shapeRow a_shapeSize a_cubeX a_cubeY a_cubeZ a_cubeOf a_lies a_handX a_handY a_handRight a_handUp a_order a_choice a_has a_atX a_atY a_right a_up a_bestX a_bestY a_grid a_row a_bestRow v_cubes v_faces v_laid v_count v_step v_ended v_nets v_work v_bestWidth v_bestHeight v_bestNet v_shapes (upd v_imageX l5.toNatClampNeg r_24) v_imageY v_leads v_looks v_nextFace v_on v_onRight v_onUp v_queue v_shapeRow v_shapeSize) H := hP
        replace hD : va_D A (wd_X8_isWrapped cI cZ cJ a_this a_imageX a_imageY a_leads a_looks a_nextFace a_on a_onRight a_onUp a_queue a_shapeRow a_shapeSize a_cubeX a_cubeY a_cubeZ a_cubeOf a_lies a_handX a_handY a_handRight a_handUp a_order a_choice a_has a_atX a_atY a_right a_up a_bestX a_bestY a_grid a_row a_bestRow v_cubes v_faces v_laid v_count v_step v_ended v_nets v_work v_bestWidth v_bestHeight v_bestNet v_shapes (upd v_imageX l5.toNatClampNeg r_24) v_imageY v_leads v_looks v_nextFace v_on v_onRight v_onUp v_queue v_shapeRow v_shapeSize) := hD
        refine lv_aload_n hx hb dX8_isWrapped_67 rfl (lv_at hl 2 rfl) ?_
        refine va_get (D := D) (ci := 8) (v := .ref a_imageY) (C := RX8) (T := TX8) (N := 44) hx hb hts iX8 hown hK hP 0 rfl rfl 37 (by decide) f87 (fun _ h9 => h9) rfl dX8_isWrapped_68 ?_
        refine lv_iload hx hb dX8_isWrapped_71 (lv_at hl 7 rfl) ?_
        refine lv_iload_n hx hb dX8_isWrapped_73 rfl (lv_at hl 5 rfl) ?_
        refine lv_iload hx hb dX8_isWrapped_74 (lv_at hl 1 rfl) ?_
        refine lv_iload hx hb dX8_isWrapped_76 (lv_at hl 0 rfl) ?_
        have hPc := hP.sub (ws' := (wd_X8_imageOfY cI cZ cJ)) [] rfl
        have hDc := hD.sub (ws' := (wd_X8_imageOfY cI cZ cJ)) [] (by decide) rfl
        have hFc := va_free (wc := (wd_X8_imageOfY cI cZ cJ)) hD hS hA [] rfl
        refine va_calli (va_runS (As := [.int l3, .int ((v_shapeRow (((30 : Int32) * l1) + l5).toNatClampNeg) - (v_shapeRow (((30 : Int32) * l1) + l5).toNatClampNeg) / (32 : Int32) * (32 : Int32)), .int ((v_shapeRow (((30 : Int32) * l1) + l5).toNatClampNeg) / (32 : Int32))]) (rest := [.int l5, .ref a_imageY]) C (c_X8_imageOfY l D cI cZ cJ tb H.size l3 ((v_shapeRow (((30 : Int32) * l1) + l5).toNatClampNeg) - (v_shapeRow (((30 : Int32) * l1) + l5).toNatClampNeg) / (32 : Int32) * (32 : Int32)) ((v_shapeRow (((30 : Int32) * l1) + l5).toNatClampNeg) / (32 : Int32)) h) (va_cwS 3 hts gX8_isWrapped_X8_imageOfY rfl rfl rfl (by decide +kernel) ⟨Nat.le_of_ble_eq_true rfl, Nat.le_of_ble_eq_true rfl⟩) ⟨q_pre.blind, fun U hU hW => ⟨rfl, q_pre.of hU hW hPc hK hDc hSt hS hFc hNw⟩⟩ rfl rfl hl.1 rfl (lv_room (Nat.le_of_ble_eq_true rfl)) dX8_isWrapped_78 ⟨Nat.zero_le _, Nat.zero_le _⟩) hS (fun q _ h => hFc q h) hFc (fun r_26 u_27 t H1 locs ht hvm hw hB hz1 hk1 hS => ?_)
        obtain ⟨hP1, hK1, hD1⟩ := hB
        rw [ht] at hP1
        obtain ⟨hP, hD⟩ := va_join (wr := [(a_this, .inr (8, [.int v_cubes, .ref a_cubeX, .ref a_cubeY, .ref a_cubeZ, .int v_faces, .ref a_cubeOf, .ref a_looks, .int v_laid, .ref a_lies, .ref a_handX, .ref a_handY, .ref a_handRight, .ref a_handUp, .int v_count, .ref a_order, .ref a_choice, .ref a_has, .ref a_atX, .ref a_atY, .ref a_right, .ref a_up, .int v_step, .int v_ended, .int v_nets, .int v_work, .int v_bestWidth, .int v_bestHeight, .int v_bestNet, .ref a_bestX, .ref a_bestY, .int v_shapes, .ref a_shapeSize, .ref a_shapeRow, .ref a_nextFace, .ref a_leads, .ref a_grid, .ref a_imageX, .ref a_imageY, .ref a_row, .ref a_bestRow, .ref a_on, .ref a_onRight, .ref a_onUp, .ref a_queue])), (a_imageX, .inl (cI, 30, .inl (upd v_imageX l5.toNatClampNeg r_24))), (a_imageY, .inl (cI, 30, .inl v_imageY)), (a_leads, .inl (cI, 180, .inl v_leads)), (a_looks, .inl (cI, 30, .inl v_looks)), (a_nextFace, .inl (cI, 180, .inl v_nextFace)), (a_on, .inl (cI, 30, .inl v_on)), (a_onRight, .inl (cI, 30, .inl v_onRight)), (a_onUp, .inl (cI, 30, .inl v_onUp)), (a_queue, .inl (cI, 30, .inl v_queue)), (a_shapeRow, .inl (cI, 1920, .inl v_shapeRow)), (a_shapeSize, .inl (cI, 64, .inl v_shapeSize))]) (w1 := (wd_X8_imageOfY cI cZ cJ)) hP hD [] [0, 1, 2, 3, 4, 5, 6, 7, 8, 9, 10, 11] rfl rfl (by decide) (by decide) hk1 hFc hP1 hD1
        clear hPc hDc hFc hP1 hD1 hK1 hk1 hz1 ht hvm
        replace h := hw
        clear hw
        generalize H1 = H at hP hS ⊢
        replace hP : va_P D vwCl (wd_X8_isWrapped cI cZ cJ a_this a_imageX a_imageY a_leads a_looks a_nextFace a_on a_onRight a_onUp a_queue a_shapeRow a_shapeSize a_cubeX a_cubeY a_cubeZ a_cubeOf a_lies a_handX a_handY a_handRight a_handUp a_order a_choice a_has a_atX a_atY a_right a_up a_bestX a_bestY a_grid a_row a_bestRow v_cubes v_faces v_laid v_count v_step v_ended v_nets v_work v_bestWidth v_bestHeight v_bestNet v_shapes (upd v_imageX l5.toNatClampNeg r_24) v_imageY v_leads v_looks v_nextFace v_on v_onRight v_onUp v_queue v_shapeRow v_shapeSize) H := hP.sub [0, 1, 2, 3, 4, 5, 6, 7, 8, 9, 10, 11] rfl
        replace hD : va_D A (wd_X8_isWrapped cI cZ cJ a_this a_imageX a_imageY a_leads a_looks a_nextFace a_on a_onRight a_onUp a_queue a_shapeRow a_shapeSize a_cubeX a_cubeY a_cubeZ a_cubeOf a_lies a_handX a_handY a_handRight a_handUp a_order a_choice a_has a_atX a_atY a_right a_up a_bestX a_bestY a_grid a_row a_bestRow v_cubes v_faces v_laid v_count v_step v_ended v_nets v_work v_bestWidth v_bestHeight v_bestNet v_shapes (upd v_imageX l5.toNatClampNeg r_24) v_imageY v_leads v_looks v_nextFace v_on v_onRight v_onUp v_queue v_shapeRow v_shapeSize) := hD.sub [0, 1, 2, 3, 4, 5, 6, 7, 8, 9, 10, 11] (by decide) rfl
        obtain ⟨hin, h⟩ := h
        refine va_iast hx hb hK hP hD hS 2 0 rfl rfl hin dX8_isWrapped_81 (fun H locs hP hD hS => ?_)
        replace hP : va_P D vwCl (wd_X8_isWrapped cI cZ cJ a_this a_imageX a_imageY a_leads a_looks a_nextFace a_on a_onRight a_onUp a_queue a_shapeRow a_shapeSize a_cubeX a_cubeY a_cubeZ a_cubeOf a_lies a_handX a_handY a_handRight a_handUp a_order a_choice a_has a_atX a_atY a_right a_up a_bestX a_bestY a_grid a_row a_bestRow v_cubes v_faces v_laid v_count v_step v_ended v_nets v_work v_bestWidth v_bestHeight v_bestNet v_shapes (upd v_imageX l5.toNatClampNeg r_24) (upd v_imageY l5.toNatClampNeg r_26) v_leads v_looks v_nextFace v_on v_onRight v_onUp v_queue v_shapeRow v_shapeSize) H := hP
        replace hD : va_D A (wd_X8_isWrapped cI cZ cJ a_this a_imageX a_imageY a_leads a_looks a_nextFace a_on a_onRight a_onUp a_queue a_shapeRow a_shapeSize a_cubeX a_cubeY a_cubeZ a_cubeOf a_lies a_handX a_handY a_handRight a_handUp a_order a_choice a_has a_atX a_atY a_right a_up a_bestX a_bestY a_grid a_row a_bestRow v_cubes v_faces v_laid v_count v_step v_ended v_nets v_work v_bestWidth v_bestHeight v_bestNet v_shapes (upd v_imageX l5.toNatClampNeg r_24) (upd v_imageY l5.toNatClampNeg r_26) v_leads v_looks v_nextFace v_on v_onRight v_onUp v_queue v_shapeRow v_shapeSize) := hD
        refine lv_aload_n hx hb dX8_isWrapped_82 rfl (lv_at hl 2 rfl) ?_
        refine va_get (D := D) (ci := 8) (v := .ref a_on) (C := RX8) (T := TX8) (N := 44) hx hb hts iX8 hown hK hP 0 rfl rfl 40 (by decide) f96 (fun _ h9 => h9) rfl dX8_isWrapped_83 ?_
        refine lv_iload hx hb dX8_isWrapped_86 (lv_at hl 7 rfl) ?_
        refine lv_bipush (v := -9) hx hb dX8_isWrapped_88 (by decide) ?_
        obtain ⟨hin, h⟩ := h
        refine va_iast hx hb hK hP hD hS 6 0 rfl rfl hin dX8_isWrapped_90 (fun H locs hP hD hS => ?_)
        replace hP : va_P D vwCl (wd_X8_isWrapped cI cZ cJ a_this a_imageX a_imageY a_leads a_looks a_nextFace a_on a_onRight a_onUp a_queue a_shapeRow a_shapeSize a_cubeX a_cubeY a_cubeZ a_cubeOf a_lies a_handX a_handY a_handRight a_handUp a_order a_choice a_has a_atX a_atY a_right a_up a_bestX a_bestY a_grid a_row a_bestRow v_cubes v_faces v_laid v_count v_step v_ended v_nets v_work v_bestWidth v_bestHeight v_bestNet v_shapes (upd v_imageX l5.toNatClampNeg r_24) (upd v_imageY l5.toNatClampNeg r_26) v_leads v_looks v_nextFace (upd v_on l5.toNatClampNeg (-9 : Int32)) v_onRight v_onUp v_queue v_shapeRow v_shapeSize) H := hP
        replace hD : va_D A (wd_X8_isWrapped cI cZ cJ a_this a_imageX a_imageY a_leads a_looks a_nextFace a_on a_onRight a_onUp a_queue a_shapeRow a_shapeSize a_cubeX a_cubeY a_cubeZ a_cubeOf a_lies a_handX a_handY a_handRight a_handUp a_order a_choice a_has a_atX a_atY a_right a_up a_bestX a_bestY a_grid a_row a_bestRow v_cubes v_faces v_laid v_count v_step v_ended v_nets v_work v_bestWidth v_bestHeight v_bestNet v_shapes (upd v_imageX l5.toNatClampNeg r_24) (upd v_imageY l5.toNatClampNeg r_26) v_leads v_looks v_nextFace (upd v_on l5.toNatClampNeg (-9 : Int32)) v_onRight v_onUp v_queue v_shapeRow v_shapeSize) := hD
        refine lv_iinc (v := (l5 + (1 : Int32))) (lv' := [(5, .int (l5 + (1 : Int32))), (7, .int ((v_shapeRow (((30 : Int32) * l1) + l5).toNatClampNeg) / (32 : Int32))), (6, .int ((v_shapeRow (((30 : Int32) * l1) + l5).toNatClampNeg) - (v_shapeRow (((30 : Int32) * l1) + l5).toNatClampNeg) / (32 : Int32) * (32 : Int32))), (0, .ref a_this), (1, .int l1), (2, .int l2), (3, .int l3), (4, .int l4)]) hx hb dX8_isWrapped_91 hl (k := 7) rfl rfl (by decide) rfl (fun ls hl => ?_)
        refine lv_goto (tgt := 11) hx hb dX8_isWrapped_94 (by decide) ?_
        exact ih (l5 + (1 : Int32)) (upd v_imageX l5.toNatClampNeg r_24) (upd v_imageY l5.toNatClampNeg r_26) (upd v_on l5.toNatClampNeg (-9 : Int32)) _ _ _ h hP hD hS (lv_sub hl [3, 4, 5, 6, 7, 0] rfl)
  unfold wp_X8_isWrapped at h
  refine lv_aload_n hx hb dX8_isWrapped_0 rfl (lv_at hl 0 rfl) ?_
  refine va_get (D := D) (ci := 8) (v := .ref a_shapeSize) (C := RX8) (T := TX8) (N := 44) hx hb hts iX8 hown hK hP 0 rfl rfl 31 (by decide) f68 (fun _ h9 => h9) rfl dX8_isWrapped_1 ?_
  refine lv_iload_n hx hb dX8_isWrapped_4 rfl (lv_at hl 1 rfl) ?_
  obtain ⟨hin, h⟩ := h
  refine va_iald hx hb hK hP 11 0 rfl rfl hin dX8_isWrapped_5 ?_
  refine lv_istore (lv' := [(4, .int (v_shapeSize p1.toNatClampNeg)), (0, .ref a_this), (1, .int p1), (2, .int p2), (3, .int p3)]) hx hb dX8_isWrapped_6 hl (by decide) rfl (fun ls hl => ?_)
  refine lv_iconst (v := 0) hx hb dX8_isWrapped_8 (by decide) ?_
  refine lv_istore (lv' := [(5, .int (0 : Int32)), (4, .int (v_shapeSize p1.toNatClampNeg)), (0, .ref a_this), (1, .int p1), (2, .int p2), (3, .int p3)]) hx hb dX8_isWrapped_9 hl (by decide) rfl (fun ls hl => ?_)
  obtain ⟨n, h⟩ := h
  refine L11_ok v_onRight v_onUp v_queue p1 p2 p3 (v_shapeSize p1.toNatClampNeg) _ (fun v_imageX_28 v_imageY_29 v_on_30 H locs ls h hP hD hS hl => ?_) n (0 : Int32) v_imageX v_imageY v_on _ _ _ h hP hD hS (lv_sub hl [2, 3, 4, 5, 1, 0] rfl)
  refine lv_aload_n hx hb dX8_isWrapped_97 rfl (lv_at hl 0 rfl) ?_
  refine va_get (D := D) (ci := 8) (v := .ref a_on) (C := RX8) (T := TX8) (N := 44) hx hb hts iX8 hown hK hP 0 rfl rfl 40 (by decide) f96 (fun _ h9 => h9) rfl dX8_isWrapped_98 ?_
  refine lv_iconst (v := 0) hx hb dX8_isWrapped_101 (by decide) ?_
  refine lv_iload_n hx hb dX8_isWrapped_102 rfl (lv_at hl 1 rfl) ?_
  obtain ⟨hin, h⟩ := h
  refine va_iast hx hb hK hP hD hS 6 0 rfl rfl hin dX8_isWrapped_103 (fun H locs hP hD hS => ?_)
  replace hP : va_P D vwCl (wd_X8_isWrapped cI cZ cJ a_this a_imageX a_imageY a_leads a_looks a_nextFace a_on a_onRight a_onUp a_queue a_shapeRow a_shapeSize a_cubeX a_cubeY a_cubeZ a_cubeOf a_lies a_handX a_handY a_handRight a_handUp a_order a_choice a_has a_atX a_atY a_right a_up a_bestX a_bestY a_grid a_row a_bestRow v_cubes v_faces v_laid v_count v_step v_ended v_nets v_work v_bestWidth v_bestHeight v_bestNet v_shapes v_imageX_28 v_imageY_29 v_leads v_looks v_nextFace (upd v_on_30 (0 : Int32).toNatClampNeg p2) v_onRight v_onUp v_queue v_shapeRow v_shapeSize) H := hP
  replace hD : va_D A (wd_X8_isWrapped cI cZ cJ a_this a_imageX a_imageY a_leads a_looks a_nextFace a_on a_onRight a_onUp a_queue a_shapeRow a_shapeSize a_cubeX a_cubeY a_cubeZ a_cubeOf a_lies a_handX a_handY a_handRight a_handUp a_order a_choice a_has a_atX a_atY a_right a_up a_bestX a_bestY a_grid a_row a_bestRow v_cubes v_faces v_laid v_count v_step v_ended v_nets v_work v_bestWidth v_bestHeight v_bestNet v_shapes v_imageX_28 v_imageY_29 v_leads v_looks v_nextFace (upd v_on_30 (0 : Int32).toNatClampNeg p2) v_onRight v_onUp v_queue v_shapeRow v_shapeSize) := hD
  refine lv_aload_n hx hb dX8_isWrapped_104 rfl (lv_at hl 0 rfl) ?_
  refine va_get (D := D) (ci := 8) (v := .ref a_onRight) (C := RX8) (T := TX8) (N := 44) hx hb hts iX8 hown hK hP 0 rfl rfl 41 (by decide) f99 (fun _ h9 => h9) rfl dX8_isWrapped_105 ?_
  refine lv_iconst (v := 0) hx hb dX8_isWrapped_108 (by decide) ?_
  refine lv_aload_n hx hb dX8_isWrapped_109 rfl (lv_at hl 0 rfl) ?_
  refine va_get (D := D) (ci := 8) (v := .ref a_looks) (C := RX8) (T := TX8) (N := 44) hx hb hts iX8 hown hK hP 0 rfl rfl 6 (by decide) f22 (fun _ h9 => h9) rfl dX8_isWrapped_110 ?_
  refine lv_iload_n hx hb dX8_isWrapped_113 rfl (lv_at hl 1 rfl) ?_
  obtain ⟨hin, h⟩ := h
  refine va_iald hx hb hK hP 4 0 rfl rfl hin dX8_isWrapped_114 ?_
  have hPc := hP.sub (ws' := (wd_X8_firstRight cI cZ cJ)) [] rfl
  have hDc := hD.sub (ws' := (wd_X8_firstRight cI cZ cJ)) [] (by decide) rfl
  have hFc := va_free (wc := (wd_X8_firstRight cI cZ cJ)) hD hS hA [] rfl
  refine va_calli (va_runS (As := [.int (v_looks p2.toNatClampNeg)]) (rest := [.int (0 : Int32), .ref a_onRight]) C (c_X8_firstRight l D cI cZ cJ tb H.size (v_looks p2.toNatClampNeg) h) (va_cwS 1 hts gX8_isWrapped_X8_firstRight rfl rfl rfl (by decide +kernel) ⟨Nat.le_of_ble_eq_true rfl, Nat.le_of_ble_eq_true rfl⟩) ⟨q_pre.blind, fun U hU hW => ⟨rfl, q_pre.of hU hW hPc hK hDc hSt hS hFc hNw⟩⟩ rfl rfl hl.1 rfl (lv_room (Nat.le_of_ble_eq_true rfl)) dX8_isWrapped_115 ⟨Nat.zero_le _, Nat.zero_le _⟩) hS (fun q _ h => hFc q h) hFc (fun r_31 u_32 t H1 locs ht hvm hw hB hz1 hk1 hS => ?_)
  obtain ⟨hP1, hK1, hD1⟩ := hB
  rw [ht] at hP1
  obtain ⟨hP, hD⟩ := va_join (wr := [(a_this, .inr (8, [.int v_cubes, .ref a_cubeX, .ref a_cubeY, .ref a_cubeZ, .int v_faces, .ref a_cubeOf, .ref a_looks, .int v_laid, .ref a_lies, .ref a_handX, .ref a_handY, .ref a_handRight, .ref a_handUp, .int v_count, .ref a_order, .ref a_choice, .ref a_has, .ref a_atX, .ref a_atY, .ref a_right, .ref a_up, .int v_step, .int v_ended, .int v_nets, .int v_work, .int v_bestWidth, .int v_bestHeight, .int v_bestNet, .ref a_bestX, .ref a_bestY, .int v_shapes, .ref a_shapeSize, .ref a_shapeRow, .ref a_nextFace, .ref a_leads, .ref a_grid, .ref a_imageX, .ref a_imageY, .ref a_row, .ref a_bestRow, .ref a_on, .ref a_onRight, .ref a_onUp, .ref a_queue])), (a_imageX, .inl (cI, 30, .inl v_imageX_28)), (a_imageY, .inl (cI, 30, .inl v_imageY_29)), (a_leads, .inl (cI, 180, .inl v_leads)), (a_looks, .inl (cI, 30, .inl v_looks)), (a_nextFace, .inl (cI, 180, .inl v_nextFace)), (a_on, .inl (cI, 30, .inl (upd v_on_30 (0 : Int32).toNatClampNeg p2))), (a_onRight, .inl (cI, 30, .inl v_onRight)), (a_onUp, .inl (cI, 30, .inl v_onUp)), (a_queue, .inl (cI, 30, .inl v_queue)), (a_shapeRow, .inl (cI, 1920, .inl v_shapeRow)), (a_shapeSize, .inl (cI, 64, .inl v_shapeSize))]) (w1 := (wd_X8_firstRight cI cZ cJ)) hP hD [] [0, 1, 2, 3, 4, 5, 6, 7, 8, 9, 10, 11] rfl rfl (by decide) (by decide) hk1 hFc hP1 hD1
  clear hPc hDc hFc hP1 hD1 hK1 hk1 hz1 ht hvm
  replace h := hw
  clear hw
  generalize H1 = H at hP hS ⊢
  replace hP : va_P D vwCl (wd_X8_isWrapped cI cZ cJ a_this a_imageX a_imageY a_leads a_looks a_nextFace a_on a_onRight a_onUp a_queue a_shapeRow a_shapeSize a_cubeX a_cubeY a_cubeZ a_cubeOf a_lies a_handX a_handY a_handRight a_handUp a_order a_choice a_has a_atX a_atY a_right a_up a_bestX a_bestY a_grid a_row a_bestRow v_cubes v_faces v_laid v_count v_step v_ended v_nets v_work v_bestWidth v_bestHeight v_bestNet v_shapes v_imageX_28 v_imageY_29 v_leads v_looks v_nextFace (upd v_on_30 (0 : Int32).toNatClampNeg p2) v_onRight v_onUp v_queue v_shapeRow v_shapeSize) H := hP.sub [0, 1, 2, 3, 4, 5, 6, 7, 8, 9, 10, 11] rfl
  replace hD : va_D A (wd_X8_isWrapped cI cZ cJ a_this a_imageX a_imageY a_leads a_looks a_nextFace a_on a_onRight a_onUp a_queue a_shapeRow a_shapeSize a_cubeX a_cubeY a_cubeZ a_cubeOf a_lies a_handX a_handY a_handRight a_handUp a_order a_choice a_has a_atX a_atY a_right a_up a_bestX a_bestY a_grid a_row a_bestRow v_cubes v_faces v_laid v_count v_step v_ended v_nets v_work v_bestWidth v_bestHeight v_bestNet v_shapes v_imageX_28 v_imageY_29 v_leads v_looks v_nextFace (upd v_on_30 (0 : Int32).toNatClampNeg p2) v_onRight v_onUp v_queue v_shapeRow v_shapeSize) := hD.sub [0, 1, 2, 3, 4, 5, 6, 7, 8, 9, 10, 11] (by decide) rfl
  obtain ⟨hin, h⟩ := h
  refine va_iast hx hb hK hP hD hS 7 0 rfl rfl hin dX8_isWrapped_118 (fun H locs hP hD hS => ?_)
  replace hP : va_P D vwCl (wd_X8_isWrapped cI cZ cJ a_this a_imageX a_imageY a_leads a_looks a_nextFace a_on a_onRight a_onUp a_queue a_shapeRow a_shapeSize a_cubeX a_cubeY a_cubeZ a_cubeOf a_lies a_handX a_handY a_handRight a_handUp a_order a_choice a_has a_atX a_atY a_right a_up a_bestX a_bestY a_grid a_row a_bestRow v_cubes v_faces v_laid v_count v_step v_ended v_nets v_work v_bestWidth v_bestHeight v_bestNet v_shapes v_imageX_28 v_imageY_29 v_leads v_looks v_nextFace (upd v_on_30 (0 : Int32).toNatClampNeg p2) (upd v_onRight (0 : Int32).toNatClampNeg r_31) v_onUp v_queue v_shapeRow v_shapeSize) H := hP
  replace hD : va_D A (wd_X8_isWrapped cI cZ cJ a_this a_imageX a_imageY a_leads a_looks a_nextFace a_on a_onRight a_onUp a_queue a_shapeRow a_shapeSize a_cubeX a_cubeY a_cubeZ a_cubeOf a_lies a_handX a_handY a_handRight a_handUp a_order a_choice a_has a_atX a_atY a_right a_up a_bestX a_bestY a_grid a_row a_bestRow v_cubes v_faces v_laid v_count v_step v_ended v_nets v_work v_bestWidth v_bestHeight v_bestNet v_shapes v_imageX_28 v_imageY_29 v_leads v_looks v_nextFace (upd v_on_30 (0 : Int32).toNatClampNeg p2) (upd v_onRight (0 : Int32).toNatClampNeg r_31) v_onUp v_queue v_shapeRow v_shapeSize) := hD
  refine lv_aload_n hx hb dX8_isWrapped_119 rfl (lv_at hl 0 rfl) ?_
  refine va_get (D := D) (ci := 8) (v := .ref a_onUp) (C := RX8) (T := TX8) (N := 44) hx hb hts iX8 hown hK hP 0 rfl rfl 42 (by decide) f102 (fun _ h9 => h9) rfl dX8_isWrapped_120 ?_
  refine lv_iconst (v := 0) hx hb dX8_isWrapped_123 (by decide) ?_
  refine lv_aload_n hx hb dX8_isWrapped_124 rfl (lv_at hl 0 rfl) ?_
  refine va_get (D := D) (ci := 8) (v := .ref a_looks) (C := RX8) (T := TX8) (N := 44) hx hb hts iX8 hown hK hP 0 rfl rfl 6 (by decide) f22 (fun _ h9 => h9) rfl dX8_isWrapped_125 ?_
  refine lv_iload_n hx hb dX8_isWrapped_128 rfl (lv_at hl 1 rfl) ?_
  obtain ⟨hin, h⟩ := h
  refine va_iald hx hb hK hP 4 0 rfl rfl hin dX8_isWrapped_129 ?_
  have hPc := hP.sub (ws' := (wd_X8_firstUp cI cZ cJ)) [] rfl
  have hDc := hD.sub (ws' := (wd_X8_firstUp cI cZ cJ)) [] (by decide) rfl
  have hFc := va_free (wc := (wd_X8_firstUp cI cZ cJ)) hD hS hA [] rfl
  refine va_calli (va_runS (As := [.int (v_looks p2.toNatClampNeg)]) (rest := [.int (0 : Int32), .ref a_onUp]) C (c_X8_firstUp l D cI cZ cJ tb H.size (v_looks p2.toNatClampNeg) h) (va_cwS 1 hts gX8_isWrapped_X8_firstUp rfl rfl rfl (by decide +kernel) ⟨Nat.le_of_ble_eq_true rfl, Nat.le_of_ble_eq_true rfl⟩) ⟨q_pre.blind, fun U hU hW => ⟨rfl, q_pre.of hU hW hPc hK hDc hSt hS hFc hNw⟩⟩ rfl rfl hl.1 rfl (lv_room (Nat.le_of_ble_eq_true rfl)) dX8_isWrapped_130 ⟨Nat.zero_le _, Nat.zero_le _⟩) hS (fun q _ h => hFc q h) hFc (fun r_33 u_34 t H1 locs ht hvm hw hB hz1 hk1 hS => ?_)
  obtain ⟨hP1, hK1, hD1⟩ := hB
  rw [ht] at hP1
  obtain ⟨hP, hD⟩ := va_join (wr := [(a_this, .inr (8, [.int v_cubes, .ref a_cubeX, .ref a_cubeY, .ref a_cubeZ, .int v_faces, .ref a_cubeOf, .ref a_looks, .int v_laid, .ref a_lies, .ref a_handX, .ref a_handY, .ref a_handRight, .ref a_handUp, .int v_count, .ref a_order, .ref a_choice, .ref a_has, .ref a_atX, .ref a_atY, .ref a_right, .ref a_up, .int v_step, .int v_ended, .int v_nets, .int v_work, .int v_bestWidth, .int v_bestHeight, .int v_bestNet, .ref a_bestX, .ref a_bestY, .int v_shapes, .ref a_shapeSize, .ref a_shapeRow, .ref a_nextFace, .ref a_leads, .ref a_grid, .ref a_imageX, .ref a_imageY, .ref a_row, .ref a_bestRow, .ref a_on, .ref a_onRight, .ref a_onUp, .ref a_queue])), (a_imageX, .inl (cI, 30, .inl v_imageX_28)), (a_imageY, .inl (cI, 30, .inl v_imageY_29)), (a_leads, .inl (cI, 180, .inl v_leads)), (a_looks, .inl (cI, 30, .inl v_looks)), (a_nextFace, .inl (cI, 180, .inl v_nextFace)), (a_on, .inl (cI, 30, .inl (upd v_on_30 (0 : Int32).toNatClampNeg p2))), (a_onRight, .inl (cI, 30, .inl (upd v_onRight (0 : Int32).toNatClampNeg r_31))), (a_onUp, .inl (cI, 30, .inl v_onUp)), (a_queue, .inl (cI, 30, .inl v_queue)), (a_shapeRow, .inl (cI, 1920, .inl v_shapeRow)), (a_shapeSize, .inl (cI, 64, .inl v_shapeSize))]) (w1 := (wd_X8_firstUp cI cZ cJ)) hP hD [] [0, 1, 2, 3, 4, 5, 6, 7, 8, 9, 10, 11] rfl rfl (by decide) (by decide) hk1 hFc hP1 hD1
  clear hPc hDc hFc hP1 hD1 hK1 hk1 hz1 ht hvm
  replace h := hw
  clear hw
  generalize H1 = H at hP hS ⊢
  replace hP : va_P D vwCl (wd_X8_isWrapped cI cZ cJ a_this a_imageX a_imageY a_leads a_looks a_nextFace a_on a_onRight a_onUp a_queue a_shapeRow a_shapeSize a_cubeX a_cubeY a_cubeZ a_cubeOf a_lies a_handX a_handY a_handRight a_handUp a_order a_choice a_has a_atX a_atY a_right a_up a_bestX a_bestY a_grid a_row a_bestRow v_cubes v_faces v_laid v_count v_step v_ended v_nets v_work v_bestWidth v_bestHeight v_bestNet v_shapes v_imageX_28 v_imageY_29 v_leads v_looks v_nextFace (upd v_on_30 (0 : Int32).toNatClampNeg p2) (upd v_onRight (0 : Int32).toNatClampNeg r_31) v_onUp v_queue v_shapeRow v_shapeSize) H := hP.sub [0, 1, 2, 3, 4, 5, 6, 7, 8, 9, 10, 11] rfl
  replace hD : va_D A (wd_X8_isWrapped cI cZ cJ a_this a_imageX a_imageY a_leads a_looks a_nextFace a_on a_onRight a_onUp a_queue a_shapeRow a_shapeSize a_cubeX a_cubeY a_cubeZ a_cubeOf a_lies a_handX a_handY a_handRight a_handUp a_order a_choice a_has a_atX a_atY a_right a_up a_bestX a_bestY a_grid a_row a_bestRow v_cubes v_faces v_laid v_count v_step v_ended v_nets v_work v_bestWidth v_bestHeight v_bestNet v_shapes v_imageX_28 v_imageY_29 v_leads v_looks v_nextFace (upd v_on_30 (0 : Int32).toNatClampNeg p2) (upd v_onRight (0 : Int32).toNatClampNeg r_31) v_onUp v_queue v_shapeRow v_shapeSize) := hD.sub [0, 1, 2, 3, 4, 5, 6, 7, 8, 9, 10, 11] (by decide) rfl
  obtain ⟨hin, h⟩ := h
  refine va_iast hx hb hK hP hD hS 8 0 rfl rfl hin dX8_isWrapped_133 (fun H locs hP hD hS => ?_)
  replace hP : va_P D vwCl (wd_X8_isWrapped cI cZ cJ a_this a_imageX a_imageY a_leads a_looks a_nextFace a_on a_onRight a_onUp a_queue a_shapeRow a_shapeSize a_cubeX a_cubeY a_cubeZ a_cubeOf a_lies a_handX a_handY a_handRight a_handUp a_order a_choice a_has a_atX a_atY a_right a_up a_bestX a_bestY a_grid a_row a_bestRow v_cubes v_faces v_laid v_count v_step v_ended v_nets v_work v_bestWidth v_bestHeight v_bestNet v_shapes v_imageX_28 v_imageY_29 v_leads v_looks v_nextFace (upd v_on_30 (0 : Int32).toNatClampNeg p2) (upd v_onRight (0 : Int32).toNatClampNeg r_31) (upd v_onUp (0 : Int32).toNatClampNeg r_33) v_queue v_shapeRow v_shapeSize) H := hP
  replace hD : va_D A (wd_X8_isWrapped cI cZ cJ a_this a_imageX a_imageY a_leads a_looks a_nextFace a_on a_onRight a_onUp a_queue a_shapeRow a_shapeSize a_cubeX a_cubeY a_cubeZ a_cubeOf a_lies a_handX a_handY a_handRight a_handUp a_order a_choice a_has a_atX a_atY a_right a_up a_bestX a_bestY a_grid a_row a_bestRow v_cubes v_faces v_laid v_count v_step v_ended v_nets v_work v_bestWidth v_bestHeight v_bestNet v_shapes v_imageX_28 v_imageY_29 v_leads v_looks v_nextFace (upd v_on_30 (0 : Int32).toNatClampNeg p2) (upd v_onRight (0 : Int32).toNatClampNeg r_31) (upd v_onUp (0 : Int32).toNatClampNeg r_33) v_queue v_shapeRow v_shapeSize) := hD
  refine lv_aload_n hx hb dX8_isWrapped_134 rfl (lv_at hl 0 rfl) ?_
  refine va_get (D := D) (ci := 8) (v := .ref a_queue) (C := RX8) (T := TX8) (N := 44) hx hb hts iX8 hown hK hP 0 rfl rfl 43 (by decide) f105 (fun _ h9 => h9) rfl dX8_isWrapped_135 ?_
  refine lv_iconst (v := 0) hx hb dX8_isWrapped_138 (by decide) ?_
  refine lv_iconst (v := 0) hx hb dX8_isWrapped_139 (by decide) ?_
  obtain ⟨hin, h⟩ := h
  refine va_iast hx hb hK hP hD hS 9 0 rfl rfl hin dX8_isWrapped_140 (fun H locs hP hD hS => ?_)
  replace hP : va_P D vwCl (wd_X8_isWrapped cI cZ cJ a_this a_imageX a_imageY a_leads a_looks a_nextFace a_on a_onRight a_onUp a_queue a_shapeRow a_shapeSize a_cubeX a_cubeY a_cubeZ a_cubeOf a_lies a_handX a_handY a_handRight a_handUp a_order a_choice a_has a_atX a_atY a_right a_up a_bestX a_bestY a_grid a_row a_bestRow v_cubes v_faces v_laid v_count v_step v_ended v_nets v_work v_bestWidth v_bestHeight v_bestNet v_shapes v_imageX_28 v_imageY_29 v_leads v_looks v_nextFace (upd v_on_30 (0 : Int32).toNatClampNeg p2) (upd v_onRight (0 : Int32).toNatClampNeg r_31) (upd v_onUp (0 : Int32).toNatClampNeg r_33) (upd v_queue (0 : Int32).toNatClampNeg (0 : Int32)) v_shapeRow v_shapeSize) H := hP
  replace hD : va_D A (wd_X8_isWrapped cI cZ cJ a_this a_imageX a_imageY a_leads a_looks a_nextFace a_on a_onRight a_onUp a_queue a_shapeRow a_shapeSize a_cubeX a_cubeY a_cubeZ a_cubeOf a_lies a_handX a_handY a_handRight a_handUp a_order a_choice a_has a_atX a_atY a_right a_up a_bestX a_bestY a_grid a_row a_bestRow v_cubes v_faces v_laid v_count v_step v_ended v_nets v_work v_bestWidth v_bestHeight v_bestNet v_shapes v_imageX_28 v_imageY_29 v_leads v_looks v_nextFace (upd v_on_30 (0 : Int32).toNatClampNeg p2) (upd v_onRight (0 : Int32).toNatClampNeg r_31) (upd v_onUp (0 : Int32).toNatClampNeg r_33) (upd v_queue (0 : Int32).toNatClampNeg (0 : Int32)) v_shapeRow v_shapeSize) := hD
  refine lv_iconst (v := 1) hx hb dX8_isWrapped_141 (by decide) ?_
  refine lv_istore (lv' := [(5, .int (1 : Int32)), (0, .ref a_this), (2, .int p2), (4, .int (v_shapeSize p1.toNatClampNeg))]) hx hb dX8_isWrapped_142 hl (by decide) rfl (fun ls hl => ?_)
  refine lv_iconst (v := 0) hx hb dX8_isWrapped_144 (by decide) ?_
  refine lv_istore (lv' := [(6, .int (0 : Int32)), (5, .int (1 : Int32)), (0, .ref a_this), (2, .int p2), (4, .int (v_shapeSize p1.toNatClampNeg))]) hx hb dX8_isWrapped_145 hl (by decide) rfl (fun ls hl => ?_)
  obtain ⟨n, h⟩ := h
  refine L147_ok v_imageX_28 v_imageY_29 (v_shapeSize p1.toNatClampNeg) _ (fun v_on_35 v_onRight_36 v_onUp_37 v_queue_38 H locs ls h hP hD hS hl => ?_) _ (fun v_on_39 v_onRight_40 v_onUp_41 v_queue_42 H locs ls h hP hD hS hl => ?_) n (1 : Int32) (0 : Int32) (upd v_on_30 (0 : Int32).toNatClampNeg p2) (upd v_onRight (0 : Int32).toNatClampNeg r_31) (upd v_onUp (0 : Int32).toNatClampNeg r_33) (upd v_queue (0 : Int32).toNatClampNeg (0 : Int32)) _ _ _ h hP hD hS (lv_sub hl [2, 4, 1, 0] rfl)
  · refine lv_iconst (v := 0) hx hb dX8_isWrapped_393 (by decide) ?_
    exact ret (0 : Int32) (v_imageX_28, v_imageY_29, v_on_35, v_onRight_36, v_onUp_37, v_queue_38) _ _ _ 394 dX8_isWrapped_394 ⟨by decide, h⟩ hP hD hS
  · refine lv_iconst (v := 0) hx hb dX8_isWrapped_407 (by decide) ?_
    refine lv_istore (lv' := [(6, .int (0 : Int32)), (0, .ref a_this), (4, .int (v_shapeSize p1.toNatClampNeg))]) hx hb dX8_isWrapped_408 hl (by decide) rfl (fun ls hl => ?_)
    obtain ⟨n, h⟩ := h
    refine L410_ok v_imageX_28 v_imageY_29 v_on_39 v_onRight_40 v_onUp_41 v_queue_42 (v_shapeSize p1.toNatClampNeg) _ (fun  H locs ls h hP hD hS hl => ?_) _ (fun  H locs ls h hP hD hS hl => ?_) n (0 : Int32) _ _ _ h hP hD hS (lv_sub hl [1, 2, 0] rfl)
    · refine lv_iconst (v := 0) hx hb dX8_isWrapped_444 (by decide) ?_
      exact ret (0 : Int32) (v_imageX_28, v_imageY_29, v_on_39, v_onRight_40, v_onUp_41, v_queue_42) _ _ _ 445 dX8_isWrapped_445 ⟨by decide, h⟩ hP hD hS
    · refine lv_iconst (v := 1) hx hb dX8_isWrapped_458 (by decide) ?_
      exact ret (1 : Int32) (v_imageX_28, v_imageY_29, v_on_39, v_onRight_40, v_onUp_41, v_queue_42) _ _ _ 459 dX8_isWrapped_459 ⟨by decide, h⟩ hP hD hS
