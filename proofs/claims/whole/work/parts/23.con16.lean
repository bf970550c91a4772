def wd_X8_size (cI cZ cJ : ClassId) (a_this a_shapeSize a_cubeX a_cubeY a_cubeZ a_cubeOf a_looks a_lies a_handX a_handY a_handRight a_handUp a_order a_choice a_has a_atX a_atY a_right a_up a_bestX a_bestY a_shapeRow a_nextFace a_leads a_grid a_imageX a_imageY a_row a_bestRow a_on a_onRight a_onUp a_queue : Nat) (v_cubes : Int32) (v_faces : Int32) (v_laid : Int32) (v_count : Int32) (v_step : Int32) (v_ended : Int32) (v_nets : Int32) (v_work : Int32) (v_bestWidth : Int32) (v_bestHeight : Int32) (v_bestNet : Int32) (v_shapes : Int32) (v_shapeSize : Nat → Int32) : va_W := [(a_this, .inr (8, [.int v_cubes, .ref a_cubeX, .ref a_cubeY, .ref a_cubeZ, .int v_faces, .ref a_cubeOf, .ref a_looks, .int v_laid, .ref a_lies, .ref a_handX, .ref a_handY, .ref a_handRight, .ref a_handUp, .int v_count, .ref a_order, .ref a_choice, .ref a_has, .ref a_atX, .ref a_atY, .ref a_right, .ref a_up, .int v_step, .int v_ended, .int v_nets, .int v_work, .int v_bestWidth, .int v_bestHeight, .int v_bestNet, .ref a_bestX, .ref a_bestY, .int v_shapes, .ref a_shapeSize, .ref a_shapeRow, .ref a_nextFace, .ref a_leads, .ref a_grid, .ref a_imageX, .ref a_imageY, .ref a_row, .ref a_bestRow, .ref a_on, .ref a_onRight, .ref a_onUp, .ref a_queue])),
  (a_shapeSize, .inl (cI, 64, .inl v_shapeSize))]
abbrev rm_X8_size : Room := { frames := 1, cells := 0, slots := 0, locals := 21 }
set_option maxHeartbeats 4000000 in
set_option maxRecDepth 100000 in
theorem c_X8_size (l : Launch) (D : va_G) (cI cZ cJ : ClassId) (tb : Nat → Nat) (a_this a_shapeSize a_cubeX a_cubeY a_cubeZ a_cubeOf a_looks a_lies a_handX a_handY a_handRight a_handUp a_order a_choice a_has a_atX a_atY a_right a_up a_bestX a_bestY a_shapeRow a_nextFace a_leads a_grid a_imageX a_imageY a_row a_bestRow a_on a_onRight a_onUp a_queue : Nat) (v_cubes : Int32) (v_faces : Int32) (v_laid : Int32) (v_count : Int32) (v_step : Int32) (v_ended : Int32) (v_nets : Int32) (v_work : Int32) (v_bestWidth : Int32) (v_bestHeight : Int32) (v_bestNet : Int32) (v_shapes : Int32) (v_shapeSize : Nat → Int32) (sz : Nat) (p1 : Int32) {post : Int32 → Prop} (h : wp_X8_size v_shapes v_shapeSize p1 post) : Met l yX8_size wsX8_size rm_X8_size (va_Pc [.ref a_this, .int p1] (q_pre D cI cZ cJ tb (wd_X8_size cI cZ cJ a_this a_shapeSize a_cubeX a_cubeY a_cubeZ a_cubeOf a_looks a_lies a_handX a_handY a_handRight a_handUp a_order a_choice a_has a_atX a_atY a_right a_up a_bestX a_bestY a_shapeRow a_nextFace a_leads a_grid a_imageX a_imageY a_row a_bestRow a_on a_onRight a_onUp a_queue v_cubes v_faces v_laid v_count v_step v_ended v_nets v_work v_bestWidth v_bestHeight v_bestNet v_shapes v_shapeSize) sz)) (va_Qi (fun r (u : Unit) => post r) (fun u => q_post D cI cZ cJ (va_A (wd_X8_size cI cZ cJ a_this a_shapeSize a_cubeX a_cubeY a_cubeZ a_cubeOf a_looks a_lies a_handX a_handY a_handRight a_handUp a_order a_choice a_has a_atX a_atY a_right a_up a_bestX a_bestY a_shapeRow a_nextFace a_leads a_grid a_imageX a_imageY a_row a_bestRow a_on a_onRight a_onUp a_queue v_cubes v_faces v_laid v_count v_step v_ended v_nets v_work v_bestWidth v_bestHeight v_bestNet v_shapes v_shapeSize) sz) (wd_X8_size cI cZ cJ a_this a_shapeSize a_cubeX a_cubeY a_cubeZ a_cubeOf a_looks a_lies a_handX a_handY a_handRight a_handUp a_order a_choice a_has a_atX a_atY a_right a_up a_bestX a_bestY a_shapeRow a_nextFace a_leads a_grid a_imageX a_imageY a_row a_bestRow a_on a_onRight a_onUp a_queue v_cubes v_faces v_laid v_count v_step v_ended v_nets v_work v_bestWidth v_bestHeight v_bestNet v_shapes v_shapeSize)) (va_A (wd_X8_size cI cZ cJ a_this a_shapeSize a_cubeX a_cubeY a_cubeZ a_cubeOf a_looks a_lies a_handX a_handY a_handRight a_handUp a_order a_choice a_has a_atX a_atY a_right a_up a_bestX a_bestY a_shapeRow a_nextFace a_leads a_grid a_imageX a_imageY a_row a_bestRow a_on a_onRight a_onUp a_queue v_cubes v_faces v_laid v_count v_step v_ended v_nets v_work v_bestWidth v_bestHeight v_bestNet v_shapes v_shapeSize) sz)) 0 0 (va_A (wd_X8_size cI cZ cJ a_this a_shapeSize a_cubeX a_cubeY a_cubeZ a_cubeOf a_looks a_lies a_handX a_handY a_handRight a_handUp a_order a_choice a_has a_atX a_atY a_right a_up a_bestX a_bestY a_shapeRow a_nextFace a_leads a_grid a_imageX a_imageY a_row a_bestRow a_on a_onRight a_onUp a_queue v_cubes v_faces v_laid v_count v_step v_ended v_nets v_work v_bestWidth v_bestHeight v_bestNet v_shapes v_shapeSize) sz) := by
  refine q_walki (cc := cX8_size) (maxL := 2) (own := RX8) (wd := fun (u : Unit) => (wd_X8_size cI cZ cJ a_this a_shapeSize a_cubeX a_cubeY a_cubeZ a_cubeOf a_looks a_lies a_handX a_handY a_handRight a_handUp a_order a_choice a_has a_atX a_atY a_right a_up a_bestX a_bestY a_shapeRow a_nextFace a_leads a_grid a_imageX a_imageY a_row a_bestRow a_on a_onRight a_onUp a_queue v_cubes v_faces v_laid v_count v_step v_ended v_nets v_work v_bestWidth v_bestHeight v_bestNet v_shapes v_shapeSize)) (by decide) rfl rfl (Nat.le_of_ble_eq_true rfl) ?_
  intro p e s m below meth c Q A ls C hA ret hP hD hS hK hSt hNw hl
  obtain ⟨hx, hb, hml, hown, hts⟩ := id C
  replace hl : lv_has ls 2 [(0, .ref a_this), (1, .int p1)] := hl
  have f68 := hts (.fieldLink RX8 68 "NetSearchModel" "shapeSize" "[I") (by decide +kernel)
  have iX8 : ∀ w ∈ wsX80, w ∈ wsX8_size := by decide +kernel
  unfold wp_X8_size at h
  refine lv_aload_n hx hb dX8_size_0 rfl (lv_at hl 0 rfl) ?_
  refine lv_iload_n hx hb dX8_size_1 rfl (lv_at hl 1 rfl) ?_
  have hPc := hP.sub (ws' := (wd_X8_isShape cI cZ cJ a_this a_cubeX a_cubeY a_cubeZ a_cubeOf a_looks a_lies a_handX a_handY a_handRight a_handUp a_order a_choice a_has a_atX a_atY a_right a_up a_bestX a_bestY a_shapeSize a_shapeRow a_nextFace a_leads a_grid a_imageX a_imageY a_row a_bestRow a_on a_onRight a_onUp a_queue v_cubes v_faces v_laid v_count v_step v_ended v_nets v_work v_bestWidth v_bestHeight v_bestNet v_shapes)) [0] rfl
  have hDc := hD.sub (ws' := (wd_X8_isShape cI cZ cJ a_this a_cubeX a_cubeY a_cubeZ a_cubeOf a_looks a_lies a_handX a_handY a_handRight a_handUp a_order a_choice a_has a_atX a_atY a_right a_up a_bestX a_bestY a_shapeSize a_shapeRow a_nextFace a_leads a_grid a_imageX a_imageY a_row a_bestRow a_on a_onRight a_onUp a_queue v_cubes v_faces v_laid v_count v_step v_ended v_nets v_work v_bestWidth v_bestHeight v_bestNet v_shapes)) [0] (by decide) rfl
  have hFc := va_free (wc := (wd_X8_isShape cI cZ cJ a_this a_cubeX a_cubeY a_cubeZ a_cubeOf a_looks a_lies a_handX a_handY a_handRight a_handUp a_order a_choice a_has a_atX a_atY a_right a_up a_bestX a_bestY a_shapeSize a_shapeRow a_nextFace a_leads a_grid a_imageX a_imageY a_row a_bestRow a_on a_onRight a_onUp a_queue v_cubes v_faces v_laid v_count v_step v_ended v_nets v_work v_bestWidth v_bestHeight v_bestNet v_shapes)) hD hS hA [0] rfl
  refine va_calli (va_runV (As := [.int p1]) (rest := []) C (c_X8_isShape l D cI cZ cJ tb a_this a_cubeX a_cubeY a_cubeZ a_cubeOf a_looks a_lies a_handX a_handY a_handRight a_handUp a_order a_choice a_has a_atX a_atY a_right a_up a_bestX a_bestY a_shapeSize a_shapeRow a_nextFace a_leads a_grid a_imageX a_imageY a_row a_bestRow a_on a_onRight a_onUp a_queue v_cubes v_faces v_laid v_count v_step v_ended v_nets v_work v_bestWidth v_bestHeight v_bestNet v_shapes s.heap.size p1 h) (cwV 1 hts gX8_size_X8_isShape rfl rfl rfl (by decide +kernel) ⟨Nat.le_of_ble_eq_true rfl, Nat.le_of_ble_eq_true rfl⟩) ⟨q_pre.blind, va_recv hK hP (ci := 8) (q0 := 0) rfl rfl, fun U hU hW => ⟨rfl, q_pre.of hU hW hPc hK hDc hSt hS hFc hNw⟩⟩ rfl rfl hl.1 rfl (lv_room (Nat.le_of_ble_eq_true rfl)) dX8_size_2 ⟨Nat.zero_le _, Nat.zero_le _⟩) hS (fun q _ h => hFc q h) hFc (fun r_1 u_2 t H1 locs ht hvm hw hB hz1 hk1 hS => ?_)
  obtain ⟨hP1, hK1, hD1⟩ := hB
  rw [ht] at hP1
  obtain ⟨hP, hD⟩ := va_join (wr := [(a_shapeSize, .inl (cI, 64, .inl v_shapeSize))]) (w1 := (wd_X8_isShape cI cZ cJ a_this a_cubeX a_cubeY a_cubeZ a_cubeOf a_looks a_lies a_handX a_handY a_handRight a_handUp a_order a_choice a_has a_atX a_atY a_right a_up a_bestX a_bestY a_shapeSize a_shapeRow a_nextFace a_leads a_grid a_imageX a_imageY a_row a_bestRow a_on a_onRight a_onUp a_queue v_cubes v_faces v_laid v_count v_step v_ended v_nets v_work v_bestWidth v_bestHeight v_bestNet v_shapes)) hP hD [0] [1] rfl rfl (by decide) (by decide) hk1 hFc hP1 hD1
  clear hPc hDc hFc hP1 hD1 hK1 hk1 hz1 ht hvm
  replace h := hw
  clear hw
  generalize H1 = H at hP hS ⊢
  replace hP : va_P D vwCl (wd_X8_size cI cZ cJ a_this a_shapeSize a_cubeX a_cubeY a_cubeZ a_cubeOf a_looks a_lies a_handX a_handY a_handRight a_handUp a_order a_choice a_has a_atX a_atY a_right a_up a_bestX a_bestY a_shapeRow a_nextFace a_leads a_grid a_imageX a_imageY a_row a_bestRow a_on a_onRight a_onUp a_queue v_cubes v_faces v_laid v_count v_step v_ended v_nets v_work v_bestWidth v_bestHeight v_bestNet v_shapes v_shapeSize) H := hP.sub [1, 0] rfl
  replace hD : va_D A (wd_X8_size cI cZ cJ a_this a_shapeSize a_cubeX a_cubeY a_cubeZ a_cubeOf a_looks a_lies a_handX a_handY a_handRight a_handUp a_order a_choice a_has a_atX a_atY a_right a_up a_bestX a_bestY a_shapeRow a_nextFace a_leads a_grid a_imageX a_imageY a_row a_bestRow a_on a_onRight a_onUp a_queue v_cubes v_faces v_laid v_count v_step v_ended v_nets v_work v_bestWidth v_bestHeight v_bestNet v_shapes v_shapeSize) := hD.sub [1, 0] (by decide) rfl
  refine lv_if_eq (tgt := 17) hx hb dX8_size_5 (by decide) (fun hc => ?_) (fun hc => ?_)
  · replace h := h.1 hc
    refine lv_iconst (v := -1) hx hb dX8_size_17 (by decide) ?_
    exact ret (-1 : Int32) () _ _ _ 18 dX8_size_18 h hP hD hS
  · replace h := h.2 hc
    refine lv_aload_n hx hb dX8_size_8 rfl (lv_at hl 0 rfl) ?_
    refine va_get (D := D) (ci := 8) (v := .ref a_shapeSize) (C := RX8) (T := TX8) (N := 44) hx hb hts iX8 hown hK hP 0 rfl rfl 31 (by decide) f68 (fun _ h9 => h9) rfl dX8_size_9 ?_
    refine lv_iload_n hx hb dX8_size_12 rfl (lv_at hl 1 rfl) ?_
    obtain ⟨hin, h⟩ := h
    refine va_iald hx hb hK hP 1 0 rfl rfl hin dX8_size_13 ?_
    refine lv_goto (tgt := 18) hx hb dX8_size_14 (by decide) ?_
    exact ret (v_shapeSize p1.toNatClampNeg) () _ _ _ 18 dX8_size_18 h hP hD hS
def wd_X8_told (cI cZ cJ : ClassId) (a_this a_cubeX a_cubeY a_cubeZ a_cubeOf a_looks a_lies a_handX a_handY a_handRight a_handUp a_order a_choice a_has a_atX a_atY a_right a_up a_bestX a_bestY a_shapeSize a_shapeRow a_nextFace a_leads a_grid a_imageX a_imageY a_row a_bestRow a_on a_onRight a_onUp a_queue : Nat) (v_cubes : Int32) (v_faces : Int32) (v_laid : Int32) (v_count : Int32) (v_step : Int32) (v_ended : Int32) (v_nets : Int32) (v_work : Int32) (v_bestWidth : Int32) (v_bestHeight : Int32) (v_bestNet : Int32) (v_shapes : Int32) : va_W := [(a_this, .inr (8, [.int v_cubes, .ref a_cubeX, .ref a_cubeY, .ref a_cubeZ, .int v_faces, .ref a_cubeOf, .ref a_looks, .int v_laid, .ref a_lies, .ref a_handX, .ref a_handY, .ref a_handRight, .ref a_handUp, .int v_count, .ref a_order, .ref a_choice, .ref a_has, .ref a_atX, .ref a_atY, .ref a_right, .ref a_up, .int v_step, .int v_ended, .int v_nets, .int v_work, .int v_bestWidth, .int v_bestHeight, .int v_bestNet, .ref a_bestX, .ref a_bestY, .int v_shapes, .ref a_shapeSize, .ref a_shapeRow, .ref a_nextFace, .ref a_leads, .ref a_grid, .ref a_imageX, .ref a_imageY, .ref a_row, .ref a_bestRow, .ref a_on, .ref a_onRight, .ref a_onUp, .ref a_queue]))]
abbrev rm_X8_told : Room := { frames := 0, cells := 0, slots := 0, locals := 0 }
set_option maxHeartbeats 4000000 in
set_option maxRecDepth 100000 in
theorem c_X8_told (l : Launch) (D : va_G) (cI cZ cJ : ClassId) (tb : Nat → Nat) (a_this a_cubeX a_cubeY a_cubeZ a_cubeOf a_looks a_lies a_handX a_handY a_handRight a_handUp a_order a_choice a_has a_atX a_atY a_right a_up a_bestX a_bestY a_shapeSize a_shapeRow a_nextFace a_leads a_grid a_imageX a_imageY a_row a_bestRow a_on a_onRight a_onUp a_queue : Nat) (v_cubes : Int32) (v_faces : Int32) (v_laid : Int32) (v_count : Int32) (v_step : Int32) (v_ended : Int32) (v_nets : Int32) (v_work : Int32) (v_bestWidth : Int32) (v_bestHeight : Int32) (v_bestNet : Int32) (v_shapes : Int32) (sz : Nat) (p1 : Int32) {post : Int32 → Prop} (h : wp_X8_told v_cubes v_faces v_laid v_ended v_nets v_work v_shapes p1 post) : Met l yX8_told wsX8_told rm_X8_told (va_Pc [.ref a_this, .int p1] (q_pre D cI cZ cJ tb (wd_X8_told cI cZ cJ a_this a_cubeX a_cubeY a_cubeZ a_cubeOf a_looks a_lies a_handX a_handY a_handRight a_handUp a_order a_choice a_has a_atX a_atY a_right a_up a_bestX a_bestY a_shapeSize a_shapeRow a_nextFace a_leads a_grid a_imageX a_imageY a_row a_bestRow a_on a_onRight a_onUp a_queue v_cubes v_faces v_laid v_count v_step v_ended v_nets v_work v_bestWidth v_bestHeight v_bestNet v_shapes) sz)) (va_Qi (fun r (u : Unit) => post r) (fun u => q_post D cI cZ cJ (va_A (wd_X8_told cI cZ cJ a_this a_cubeX a_cubeY a_cubeZ a_cubeOf a_looks a_lies a_handX a_handY a_handRight a_handUp a_order a_choice a_has a_atX a_atY a_right a_up a_bestX a_bestY a_shapeSize a_shapeRow a_nextFace a_leads a_grid a_imageX a_imageY a_row a_bestRow a_on a_onRight a_onUp a_queue v_cubes v_faces v_laid v_count v_step v_ended v_nets v_work v_bestWidth v_bestHeight v_bestNet v_shapes) sz) (wd_X8_told cI cZ cJ a_this a_cubeX a_cubeY a_cubeZ a_cubeOf a_looks a_lies a_handX a_handY a_handRight a_handUp a_order a_choice a_has a_atX a_atY a_right a_up a_bestX a_bestY a_shapeSize a_shapeRow a_nextFace a_leads a_grid a_imageX a_imageY a_row a_bestRow a_on a_onRight a_onUp a_queue v_cubes v_faces v_laid v_count v_step v_ended v_nets v_work v_bestWidth v_bestHeight v_bestNet v_shapes)) (va_A (wd_X8_told cI cZ cJ a_this a_cubeX a_cubeY a_cubeZ a_cubeOf a_looks a_lies a_handX a_handY a_handRight a_handUp a_order a_choice a_has a_atX a_atY a_right a_up a_bestX a_bestY a_shapeSize a_shapeRow a_nextFace a_leads a_grid a_imageX a_imageY a_row a_bestRow a_on a_onRight a_onUp a_queue v_cubes v_faces v_laid v_count v_step v_ended v_nets v_work v_bestWidth v_bestHeight v_bestNet v_shapes) sz)) 0 0 (va_A (wd_X8_told cI cZ cJ a_this a_cubeX a_cubeY a_cubeZ a_cubeOf a_looks a_lies a_handX a_handY a_handRight a_handUp a_order a_choice a_has a_atX a_atY a_right a_up a_bestX a_bestY a_shapeSize a_shapeRow a_nextFace a_leads a_grid a_imageX a_imageY a_row a_bestRow a_on a_onRight a_onUp a_queue v_cubes v_faces v_laid v_count v_step v_ended v_nets v_work v_bestWidth v_bestHeight v_bestNet v_shapes) sz) := by
  refine q_walki (cc := cX8_told) (maxL := 2) (own := RX8) (wd := fun (u : Unit) => (wd_X8_told cI cZ cJ a_this a_cubeX a_cubeY a_cubeZ a_cubeOf a_looks a_lies a_handX a_handY a_handRight a_handUp a_order a_choice a_has a_atX a_atY a_right a_up a_bestX a_bestY a_shapeSize a_shapeRow a_nextFace a_leads a_grid a_imageX a_imageY a_row a_bestRow a_on a_onRight a_onUp a_queue v_cubes v_faces v_laid v_count v_step v_ended v_nets v_work v_bestWidth v_bestHeight v_bestNet v_shapes)) (by decide) rfl rfl (Nat.le_of_ble_eq_true rfl) ?_
  intro p e s m below meth c Q A ls C hA ret hP hD hS hK hSt hNw hl
  obtain ⟨hx, hb, hml, hown, hts⟩ := id C
  replace hl : lv_has ls 2 [(0, .ref a_this), (1, .int p1)] := hl
  have f111 := hts (.fieldLink RX8 111 "NetSearchModel" "laid" "I") (by decide +kernel)
  have iX8 : ∀ w ∈ wsX80, w ∈ wsX8_told := by decide +kernel
  have f134 := hts (.fieldLink RX8 134 "NetSearchModel" "work" "I") (by decide +kernel)
  have f182 := hts (.fieldLink RX8 182 "NetSearchModel" "shapes" "I") (by decide +kernel)
  have f131 := hts (.fieldLink RX8 131 "NetSearchModel" "nets" "I") (by decide +kernel)
  have f115 := hts (.fieldLink RX8 115 "NetSearchModel" "faces" "I") (by decide +kernel)
  have f118 := hts (.fieldLink RX8 118 "NetSearchModel" "cubes" "I") (by decide +kernel)
  have f140 := hts (.fieldLink RX8 140 "NetSearchModel" "ended" "Z") (by decide +kernel)
  unfold wp_X8_told at h
  refine lv_iload_n hx hb dX8_told_0 rfl (lv_at hl 1 rfl) ?_
  refine lv_iconst (v := 5) hx hb dX8_told_1 (by decide) ?_
  refine lv_icmp_ne (tgt := 18) hx hb dX8_told_2 (by decide) (fun hc => ?_) (fun hc => ?_)
  · replace h := h.1 hc
    refine lv_iload_n hx hb dX8_told_18 rfl (lv_at hl 1 rfl) ?_
    refine lv_if_ne (tgt := 29) hx hb dX8_told_19 (by decide) (fun hc => ?_) (fun hc => ?_)
    · replace h := h.1 hc
      refine lv_iload_n hx hb dX8_told_29 rfl (lv_at hl 1 rfl) ?_
      refine lv_iconst (v := 1) hx hb dX8_told_30 (by decide) ?_
      refine lv_icmp_ne (tgt := 41) hx hb dX8_told_31 (by decide) (fun hc => ?_) (fun hc => ?_)
      · replace h := h.1 hc
        refine lv_iload_n hx hb dX8_told_41 rfl (lv_at hl 1 rfl) ?_
        refine lv_iconst (v := 2) hx hb dX8_told_42 (by decide) ?_
        refine lv_icmp_ne (tgt := 53) hx hb dX8_told_43 (by decide) (fun hc => ?_) (fun hc => ?_)
        · replace h := h.1 hc
          refine lv_iload_n hx hb dX8_told_53 rfl (lv_at hl 1 rfl) ?_
          refine lv_iconst (v := 3) hx hb dX8_told_54 (by decide) ?_
          refine lv_icmp_ne (tgt := 65) hx hb dX8_told_55 (by decide) (fun hc => ?_) (fun hc => ?_)
          · replace h := h.1 hc
            refine lv_iload_n hx hb dX8_told_65 rfl (lv_at hl 1 rfl) ?_
            refine lv_iconst (v := 4) hx hb dX8_told_66 (by decide) ?_
            refine lv_icmp_ne (tgt := 77) hx hb dX8_told_67 (by decide) (fun hc => ?_) (fun hc => ?_)
            · replace h := h.1 hc
              refine lv_iload_n hx hb dX8_told_77 rfl (lv_at hl 1 rfl) ?_
              refine lv_bipush (v := 6) hx hb dX8_told_78 (by decide) ?_
              refine lv_icmp_ne (tgt := 90) hx hb dX8_told_80 (by decide) (fun hc => ?_) (fun hc => ?_)
              · replace h := h.1 hc
                refine lv_iconst (v := -1) hx hb dX8_told_90 (by decide) ?_
                exact ret (-1 : Int32) () _ _ _ 91 dX8_told_91 h hP hD hS
              · replace h := h.2 hc
                refine lv_aload_n hx hb dX8_told_83 rfl (lv_at hl 0 rfl) ?_
                refine va_get (D := D) (ci := 8) (v := .int v_laid) (C := RX8) (T := TX8) (N := 44) hx hb hts iX8 hown hK hP 0 rfl rfl 7 (by decide) f111 (fun _ h9 => h9) rfl dX8_told_84 ?_
                refine lv_goto (tgt := 91) hx hb dX8_told_87 (by decide) ?_
                exact ret v_laid () _ _ _ 91 dX8_told_91 h hP hD hS
            · replace h := h.2 hc
              refine lv_aload_n hx hb dX8_told_70 rfl (lv_at hl 0 rfl) ?_
              refine va_get (D := D) (ci := 8) (v := .int v_work) (C := RX8) (T := TX8) (N := 44) hx hb hts iX8 hown hK hP 0 rfl rfl 24 (by decide) f134 (fun _ h9 => h9) rfl dX8_told_71 ?_
              refine lv_goto (tgt := 91) hx hb dX8_told_74 (by decide) ?_
              exact ret v_work () _ _ _ 91 dX8_told_91 h hP hD hS
          · replace h := h.2 hc
            refine lv_aload_n hx hb dX8_told_58 rfl (lv_at hl 0 rfl) ?_
            refine va_get (D := D) (ci := 8) (v := .int v_shapes) (C := RX8) (T := TX8) (N := 44) hx hb hts iX8 hown hK hP 0 rfl rfl 30 (by decide) f182 (fun _ h9 => h9) rfl dX8_told_59 ?_
            refine lv_goto (tgt := 91) hx hb dX8_told_62 (by decide) ?_
            exact ret v_shapes () _ _ _ 91 dX8_told_91 h hP hD hS
        · replace h := h.2 hc
          refine lv_aload_n hx hb dX8_told_46 rfl (lv_at hl 0 rfl) ?_
          refine va_get (D := D) (ci := 8) (v := .int v_nets) (C := RX8) (T := TX8) (N := 44) hx hb hts iX8 hown hK hP 0 rfl rfl 23 (by decide) f131 (fun _ h9 => h9) rfl dX8_told_47 ?_
          refine lv_goto (tgt := 91) hx hb dX8_told_50 (by decide) ?_
          exact ret v_nets () _ _ _ 91 dX8_told_91 h hP hD hS
      · replace h := h.2 hc
        refine lv_aload_n hx hb dX8_told_34 rfl (lv_at hl 0 rfl) ?_
        refine va_get (D := D) (ci := 8) (v := .int v_faces) (C := RX8) (T := TX8) (N := 44) hx hb hts iX8 hown hK hP 0 rfl rfl 4 (by decide) f115 (fun _ h9 => h9) rfl dX8_told_35 ?_
        refine lv_goto (tgt := 91) hx hb dX8_told_38 (by decide) ?_
        exact ret v_faces () _ _ _ 91 dX8_told_91 h hP hD hS
    · replace h := h.2 hc
      refine lv_aload_n hx hb dX8_told_22 rfl (lv_at hl 0 rfl) ?_
      refine va_get (D := D) (ci := 8) (v := .int v_cubes) (C := RX8) (T := TX8) (N := 44) hx hb hts iX8 hown hK hP 0 rfl rfl 0 (by decide) f118 (fun _ h9 => h9) rfl dX8_told_23 ?_
      refine lv_goto (tgt := 91) hx hb dX8_told_26 (by decide) ?_
      exact ret v_cubes () _ _ _ 91 dX8_told_91 h hP hD hS
  · replace h := h.2 hc
    refine lv_aload_n hx hb dX8_told_5 rfl (lv_at hl 0 rfl) ?_
    refine va_get (D := D) (ci := 8) (v := .int v_ended) (C := RX8) (T := TX8) (N := 44) hx hb hts iX8 hown hK hP 0 rfl rfl 22 (by decide) f140 (fun _ h9 => h9) rfl dX8_told_6 ?_
    refine lv_if_eq (tgt := 16) hx hb dX8_told_9 (by decide) (fun hc => ?_) (fun hc => ?_)
    · replace h := h.1 hc
      refine lv_iconst (v := 0) hx hb dX8_told_16 (by decide) ?_
      exact ret (0 : Int32) () _ _ _ 17 dX8_told_17 h hP hD hS
    · replace h := h.2 hc
      refine lv_iconst (v := 1) hx hb dX8_told_12 (by decide) ?_
      refine lv_goto (tgt := 17) hx hb dX8_told_13 (by decide) ?_
      exact ret (1 : Int32) () _ _ _ 17 dX8_told_17 h hP hD hS
def wd_X8_treesBy (cI cZ cJ : ClassId) (a_this a_grid a_looks a_nextFace a_cubeX a_cubeY a_cubeZ a_cubeOf a_lies a_handX a_handY a_handRight a_handUp a_order a_choice a_has a_atX a_atY a_right a_up a_bestX a_bestY a_shapeSize a_shapeRow a_leads a_imageX a_imageY a_row a_bestRow a_on a_onRight a_onUp a_queue : Nat) (v_cubes : Int32) (v_faces : Int32) (v_laid : Int32) (v_count : Int32) (v_step : Int32) (v_ended : Int32) (v_nets : Int32) (v_work : Int32) (v_bestWidth : Int32) (v_bestHeight : Int32) (v_bestNet : Int32) (v_shapes : Int32) (v_grid : Nat → Int64) (v_looks : Nat → Int32) (v_nextFace : Nat → Int32) : va_W := [(a_this, .inr (8, [.int v_cubes, .ref a_cubeX, .ref a_cubeY, .ref a_cubeZ, .int v_faces, .ref a_cubeOf, .ref a_looks, .int v_laid, .ref a_lies, .ref a_handX, .ref a_handY, .ref a_handRight, .ref a_handUp, .int v_count, .ref a_order, .ref a_choice, .ref a_has, .ref a_atX, .ref a_atY, .ref a_right, .ref a_up, .int v_step, .int v_ended, .int v_nets, .int v_work, .int v_bestWidth, .int v_bestHeight, .int v_bestNet, .ref a_bestX, .ref a_bestY, .int v_shapes, .ref a_shapeSize, .ref a_shapeRow, .ref a_nextFace, .ref a_leads, .ref a_grid, .ref a_imageX, .ref a_imageY, .ref a_row, .ref a_bestRow, .ref a_on, .ref a_onRight, .ref a_onUp, .ref a_queue])),
  (a_grid, .inl (cJ, 900, .inr (.inl v_grid))),
  (a_looks, .inl (cI, 30, .inl v_looks)),
  (a_nextFace, .inl (cI, 180, .inl v_nextFace))]
abbrev rm_X8_treesBy : Room := { frames := 1, cells := 0, slots := 0, locals := 31 }
set_option maxHeartbeats 4000000 in
set_option maxRecDepth 100000 in
theorem c_X8_treesBy (l : Launch) (D : va_G) (cI cZ cJ : ClassId) (tb : Nat → Nat) (a_this a_grid a_looks a_nextFace a_cubeX a_cubeY a_cubeZ a_cubeOf a_lies a_handX a_handY a_handRight a_handUp a_order a_choice a_has a_atX a_atY a_right a_up a_bestX a_bestY a_shapeSize a_shapeRow a_leads a_imageX a_imageY a_row a_bestRow a_on a_onRight a_onUp a_queue : Nat) (v_cubes : Int32) (v_faces : Int32) (v_laid : Int32) (v_count : Int32) (v_step : Int32) (v_ended : Int32) (v_nets : Int32) (v_work : Int32) (v_bestWidth : Int32) (v_bestHeight : Int32) (v_bestNet : Int32) (v_shapes : Int32) (v_grid : Nat → Int64) (v_looks : Nat → Int32) (v_nextFace : Nat → Int32) (sz : Nat) (p1 : Int64) {post : Int64 → (Nat → Int64) → Prop} (h : wp_X8_treesBy v_faces v_grid v_looks v_nextFace p1 post) : Met l yX8_treesBy wsX8_treesBy rm_X8_treesBy (va_Pc [.ref a_this, .long p1] (q_pre D cI cZ cJ tb (wd_X8_treesBy cI cZ cJ a_this a_grid a_looks a_nextFace a_cubeX a_cubeY a_cubeZ a_cubeOf a_lies a_handX a_handY a_handRight a_handUp a_order a_choice a_has a_atX a_atY a_right a_up a_bestX a_bestY a_shapeSize a_shapeRow a_leads a_imageX a_imageY a_row a_bestRow a_on a_onRight a_onUp a_queue v_cubes v_faces v_laid v_count v_step v_ended v_nets v_work v_bestWidth v_bestHeight v_bestNet v_shapes v_grid v_looks v_nextFace) sz)) (va_Ql (fun r (u : Nat → Int64) => post r u) (fun u => q_post D cI cZ cJ (va_A (wd_X8_treesBy cI cZ cJ a_this a_grid a_looks a_nextFace a_cubeX a_cubeY a_cubeZ a_cubeOf a_lies a_handX a_handY a_handRight a_handUp a_order a_choice a_has a_atX a_atY a_right a_up a_bestX a_bestY a_shapeSize a_shapeRow a_leads a_imageX a_imageY a_row a_bestRow a_on a_onRight a_onUp a_queue v_cubes v_faces v_laid v_count v_step v_ended v_nets v_work v_bestWidth v_bestHeight v_bestNet v_shapes v_grid v_looks v_nextFace) sz) (wd_X8_treesBy cI cZ cJ a_this a_grid a_looks a_nextFace a_cubeX a_cubeY a_cubeZ a_cubeOf a_lies a_handX a_handY a_handRight a_handUp a_order a_choice a_has a_atX a_atY a_right a_up a_bestX a_bestY a_shapeSize a_shapeRow a_leads a_imageX a_imageY a_row a_bestRow a_on a_onRight a_onUp a_queue v_cubes v_faces v_laid v_count v_step v_ended v_nets v_work v_bestWidth v_bestHeight v_bestNet v_shapes u v_looks v_nextFace)) (va_A (wd_X8_treesBy cI cZ cJ a_this a_grid a_looks a_nextFace a_cubeX a_cubeY a_cubeZ a_cubeOf a_lies a_handX a_handY a_handRight a_handUp a_order a_choice a_has a_atX a_atY a_right a_up a_bestX a_bestY a_shapeSize a_shapeRow a_leads a_imageX a_imageY a_row a_bestRow a_on a_onRight a_onUp a_queue v_cubes v_faces v_laid v_count v_step v_ended v_nets v_work v_bestWidth v_bestHeight v_bestNet v_shapes v_grid v_looks v_nextFace) sz)) 0 0 (va_A (wd_X8_treesBy cI cZ cJ a_this a_grid a_looks a_nextFace a_cubeX a_cubeY a_cubeZ a_cubeOf a_lies a_handX a_handY a_handRight a_handUp a_order a_choice a_has a_atX a_atY a_right a_up a_bestX a_bestY a_shapeSize a_shapeRow a_leads a_imageX a_imageY a_row a_bestRow a_on a_onRight a_onUp a_queue v_cubes v_faces v_laid v_count v_step v_ended v_nets v_work v_bestWidth v_bestHeight v_bestNet v_shapes v_grid v_looks v_nextFace) sz) := by
  refine q_walkl (cc := cX8_treesBy) (maxL := 16) (own := RX8) (wd := fun (u : Nat → Int64) => (wd_X8_treesBy cI cZ cJ a_this a_grid a_looks a_nextFace a_cubeX a_cubeY a_cubeZ a_cubeOf a_lies a_handX a_handY a_handRight a_handUp a_order a_choice a_has a_atX a_atY a_right a_up a_bestX a_bestY a_shapeSize a_shapeRow a_leads a_imageX a_imageY a_row a_bestRow a_on a_onRight a_onUp a_queue v_cubes v_faces v_laid v_count v_step v_ended v_nets v_work v_bestWidth v_bestHeight v_bestNet v_shapes u v_looks v_nextFace)) (by decide) rfl rfl (Nat.le_of_ble_eq_true rfl) ?_
  intro p e s m below meth c Q A ls C hA ret hP hD hS hK hSt hNw hl
  obtain ⟨hx, hb, hml, hown, hts⟩ := id C
  replace hl : lv_has ls 16 [(0, .ref a_this), (1, .long p1)] := hl
  have f80 := hts (.fieldLink RX8 80 "NetSearchModel" "grid" "[J") (by decide +kernel)
  have iX8 : ∀ w ∈ wsX80, w ∈ wsX8_treesBy := by decide +kernel
  have k192 := hts (.constantLong RX8 192 (2)) (by decide +kernel)
  have f22 := hts (.fieldLink RX8 22 "NetSearchModel" "looks" "[I") (by decide +kernel)
  have f115 := hts (.fieldLink RX8 115 "NetSearchModel" "faces" "I") (by decide +kernel)
  have L362_ok : ∀ (l1 : Int64) (l3 : Int32) (l4 : Int64) (l6 : Int32) (l10 : Int64) (l12 : Int32) (l13 : Int64) (kx432 : (Nat → Int64) → Prop) (hkx432 : ∀ (v_grid : Nat → Int64) (H : Heap) (locs : List Loc) (ls : Array Slot), kx432 v_grid → va_P D vwCl (wd_X8_treesBy cI cZ cJ a_this a_grid a_looks a_nextFace a_cubeX a_cubeY a_cubeZ a_cubeOf a_lies a_handX a_handY a_handRight a_handUp a_order a_choice a_has a_atX a_atY a_right a_up a_bestX a_bestY a_shapeSize a_shapeRow a_leads a_imageX a_imageY a_row a_bestRow a_on a_onRight a_onUp a_queue v_cubes v_faces v_laid v_count v_step v_ended v_nets v_work v_bestWidth v_bestHeight v_bestNet v_shapes v_grid v_looks v_nextFace) H → va_D A (wd_X8_treesBy cI cZ cJ a_this a_grid a_looks a_nextFace a_cubeX a_cubeY a_cubeZ a_cubeOf a_lies a_handX a_handY a_handRight a_handUp a_order a_choice a_has a_atX a_atY a_right a_up a_bestX a_bestY a_shapeSize a_shapeRow a_leads a_imageX a_imageY a_row a_bestRow a_on a_onRight a_onUp a_queue v_cubes v_faces v_laid v_count v_step v_ended v_nets v_work v_bestWidth v_bestHeight v_bestNet v_shapes v_grid v_looks v_nextFace) → va_S A s.heap H locs → lv_has ls 16 [(0, .ref a_this), (1, .long l1), (3, .int l3), (4, .long l4), (6, .int l6), (10, .long l10), (12, .int l12)] → W p l e rm_X8_treesBy s m ([.ref a_this, .long p1] : List Value).toArray below meth c H locs 0 0 Q (F0 m 432 ls [])) (n : Nat) (l15 : Int32) (v_grid : Nat → Int64) (H : Heap) (locs : List Loc) (ls : Array Slot), lpN (wl_X8_treesBy_362 l1 l3 l6 l12 l13 kx432) n (l15, v_grid) → va_P D vwCl (wd_X8_treesBy cI cZ cJ a_this a_grid a_looks a_nextFace a_cubeX a_cubeY a_cubeZ a_cubeOf a_lies a_handX a_handY a_handRight a_handUp a_order a_choice a_has a_atX a_atY a_right a_up a_bestX a_bestY a_shapeSize a_shapeRow a_leads a_imageX a_imageY a_row a_bestRow a_on a_onRight a_onUp a_queue v_cubes v_faces v_laid v_count v_step v_ended v_nets v_work v_bestWidth v_bestHeight v_bestNet v_shapes v_grid v_looks v_nextFace) H → va_D A (wd_X8_treesBy cI cZ cJ a_this a_grid a_looks a_nextFace a_cubeX a_cubeY a_cubeZ a_cubeOf a_lies a_handX a_handY a_handRight a_handUp a_order a_choice a_has a_atX a_atY a_right a_up a_bestX a_bestY a_shapeSize a_shapeRow a_leads a_imageX a_imageY a_row a_bestRow a_on a_onRight a_onUp a_queue v_cubes v_faces v_laid v_count v_step v_ended v_nets v_work v_bestWidth v_bestHeight v_bestNet v_shapes v_grid v_looks v_nextFace) → va_S A s.heap H locs → lv_has ls 16 [(0, .ref a_this), (1, .long l1), (3, .int l3), (4, .long l4), (6, .int l6), (10, .long l10), (12, .int l12), (13, .long l13), (15, .int l15)] → W p l e rm_X8_treesBy s m ([.ref a_this, .long p1] : List Value).toArray below meth c H locs 0 0 Q (F0 m 362 ls []) := by
    intro l1 l3 l4 l6 l10 l12 l13 kx432 hkx432 n
    induction n with
    | zero => intro l15 v_grid H locs ls h; exact False.elim h
    | succ n ih =>
      intro l15 v_grid H locs ls h hP hD hS hl
      have h : wb_X8_treesBy_362 l1 l3 l6 l12 l13 kx432 (fun l15 v_grid => lpN (wl_X8_treesBy_362 l1 l3 l6 l12 l13 kx432) n (l15, v_grid)) l15 v_grid := h
      unfold wb_X8_treesBy_362 at h
      refine lv_iload hx hb dX8_treesBy_362 (lv_at hl 8 rfl) ?_
      refine lv_iload_n hx hb dX8_treesBy_364 rfl (lv_at hl 2 rfl) ?_
      refine lv_icmp_ge (tgt := 432) hx hb dX8_treesBy_365 (by decide) (fun hc => ?_) (fun hc => ?_)
      · replace h := h.1 hc
        exact hkx432 v_grid _ _ _ h hP hD hS (lv_sub hl [0, 1, 2, 3, 4, 5, 6] rfl)
      · replace h := h.2 hc
        refine lv_lload hx hb dX8_treesBy_368 (lv_at hl 7 rfl) ?_
        refine lv_lconst (v := 0) hx hb dX8_treesBy_370 (by decide) ?_
        refine W.lcmp hx hb dX8_treesBy_371 ?_
        refine lv_if_eq (tgt := 432) hx hb dX8_treesBy_372 (by decide) (fun hc => ?_) (fun hc => ?_)
        · replace h := h.1 hc
          exact hkx432 v_grid _ _ _ h hP hD hS (lv_sub hl [0, 1, 2, 3, 4, 5, 6] rfl)
        · replace h := h.2 hc
          refine lv_aload_n hx hb dX8_treesBy_375 rfl (lv_at hl 0 rfl) ?_
          refine va_get (D := D) (ci := 8) (v := .ref a_grid) (C := RX8) (T := TX8) (N := 44) hx hb hts iX8 hown hK hP 0 rfl rfl 35 (by decide) f80 (fun _ h9 => h9) rfl dX8_treesBy_376 ?_
          refine lv_bipush (v := 30) hx hb dX8_treesBy_379 (by decide) ?_
          refine lv_iload hx hb dX8_treesBy_381 (lv_at hl 6 rfl) ?_
          refine lv_imul hx hb dX8_treesBy_383 ?_
          refine lv_iload hx hb dX8_treesBy_384 (lv_at hl 8 rfl) ?_
          refine lv_iadd hx hb dX8_treesBy_386 ?_
          refine lv_aload_n hx hb dX8_treesBy_387 rfl (lv_at hl 0 rfl) ?_
          refine va_get (D := D) (ci := 8) (v := .ref a_grid) (C := RX8) (T := TX8) (N := 44) hx hb hts iX8 hown hK hP 0 rfl rfl 35 (by decide) f80 (fun _ h9 => h9) rfl dX8_treesBy_388 ?_
          refine lv_bipush (v := 30) hx hb dX8_treesBy_391 (by decide) ?_
          refine lv_iload hx hb dX8_treesBy_393 (lv_at hl 6 rfl) ?_
          refine lv_imul hx hb dX8_treesBy_395 ?_
          refine lv_iload hx hb dX8_treesBy_396 (lv_at hl 8 rfl) ?_
          refine lv_iadd hx hb dX8_treesBy_398 ?_
          obtain ⟨hin, h⟩ := h
          refine va_lald hx hb hK hP 1 2 rfl rfl hin dX8_treesBy_399 ?_
          refine lv_lload_n hx hb dX8_treesBy_400 rfl (lv_at hl 1 rfl) ?_
          obtain ⟨hne, h⟩ := h
          refine lv_lrem hx hb dX8_treesBy_401 hne ?_
          refine lv_lload_n hx hb dX8_treesBy_402 rfl (lv_at hl 1 rfl) ?_
          refine lv_lload hx hb dX8_treesBy_403 (lv_at hl 7 rfl) ?_
          refine lv_lsub hx hb dX8_treesBy_405 ?_
          refine lv_aload_n hx hb dX8_treesBy_406 rfl (lv_at hl 0 rfl) ?_
          refine va_get (D := D) (ci := 8) (v := .ref a_grid) (C := RX8) (T := TX8) (N := 44) hx hb hts iX8 hown hK hP 0 rfl rfl 35 (by decide) f80 (fun _ h9 => h9) rfl dX8_treesBy_407 ?_
          refine lv_bipush (v := 30) hx hb dX8_treesBy_410 (by decide) ?_
          refine lv_iload hx hb dX8_treesBy_412 (lv_at hl 4 rfl) ?_
          refine lv_imul hx hb dX8_treesBy_414 ?_
          refine lv_iload hx hb dX8_treesBy_415 (lv_at hl 8 rfl) ?_
          refine lv_iadd hx hb dX8_treesBy_417 ?_
          obtain ⟨hin, h⟩ := h
          refine va_lald hx hb hK hP 1 2 rfl rfl hin dX8_treesBy_418 ?_
          refine lv_lload_n hx hb dX8_treesBy_419 rfl (lv_at hl 1 rfl) ?_
          obtain ⟨hne, h⟩ := h
          refine lv_lrem hx hb dX8_treesBy_420 hne ?_
          refine lv_lmul hx hb dX8_treesBy_421 ?_
          refine lv_ladd hx hb dX8_treesBy_422 ?_
          refine lv_lload_n hx hb dX8_treesBy_423 rfl (lv_at hl 1 rfl) ?_
          obtain ⟨hne, h⟩ := h
          refine lv_lrem hx hb dX8_treesBy_424 hne ?_
          obtain ⟨hin, h⟩ := h
          refine va_last hx hb hK hP hD hS 1 2 rfl rfl hin dX8_treesBy_425 (fun H locs hP hD hS => ?_)
          replace hP : va_P D vwCl (wd_X8_treesBy cI cZ cJ a_this a_grid a_looks a_nextFace a_cubeX a_cubeY a_cubeZ a_cubeOf a_lies a_handX a_handY a_handRight a_handUp a_order a_choice a_has a_atX a_atY a_right a_up a_bestX a_bestY a_shapeSize a_shapeRow a_leads a_imageX a_imageY a_row a_bestRow a_on a_onRight a_onUp a_queue v_cubes v_faces v_laid v_count v_step v_ended v_nets v_work v_bestWidth v_bestHeight v_bestNet v_shapes (vp_updL v_grid (((30 : Int32) * l12) + l15).toNatClampNeg ((((v_grid (((30 : Int32) * l12) + l15).toNatClampNeg) - (v_grid (((30 : Int32) * l12) + l15).toNatClampNeg) / l1 * l1) + ((l1 - l13) * ((v_grid (((30 : Int32) * l6) + l15).toNatClampNeg) - (v_grid (((30 : Int32) * l6) + l15).toNatClampNeg) / l1 * l1))) - (((v_grid (((30 : Int32) * l12) + l15).toNatClampNeg) - (v_grid (((30 : Int32) * l12) + l15).toNatClampNeg) / l1 * l1) + ((l1 - l13) * ((v_grid (((30 : Int32) * l6) + l15).toNatClampNeg) - (v_grid (((30 : Int32) * l6) + l15).toNatClampNeg) / l1 * l1))) / l1 * l1)) v_looks v_nextFace) H := hP
          replace hD : va_D A (wd_X8_treesBy cI cZ cJ a_this a_grid a_looks a_nextFace a_cubeX a_cubeY a_cubeZ a_cubeOf a_lies a_handX a_handY a_handRight a_handUp a_order a_choice a_has a_atX a_atY a_right a_up a_bestX a_bestY a_shapeSize a_shapeRow a_leads a_imageX a_imageY a_row a_bestRow a_on a_onRight a_onUp a_queue v_cubes v_faces v_laid v_count v_step v_ended v_nets v_work v_bestWidth v_bestHeight v_bestNet v_shapes (vp_updL v_grid (((30 : Int32) * l12) + l15).toNatClampNeg ((((v_grid (((30 : Int32) * l12) + l15).toNatClampNeg) - (v_grid (((30 : Int32) * l12) + l15).toNatClampNeg) / l1 * l1) + ((l1 - l13) * ((v_grid (((30 : Int32) * l6) + l15).toNatClampNeg) - (v_grid (((30 : Int32) * l6) + l15).toNatClampNeg) / l1 * l1))) - (((v_grid (((30 : Int32) * l12) + l15).toNatClampNeg) - (v_grid (((30 : Int32) * l12) + l15).toNatClampNeg) / l1 * l1) + ((l1 - l13) * ((v_grid (((30 : Int32) * l6) + l15).toNatClampNeg) - (v_grid (((30 : Int32) * l6) + l15).toNatClampNeg) / l1 * l1))) / l1 * l1)) v_looks v_nextFace) := hD
          refine lv_iinc (v := (l15 + (1 : Int32))) (lv' := [(15, .int (l15 + (1 : Int32))), (0, .ref a_this), (1, .long l1), (3, .int l3), (4, .long l4), (6, .int l6), (10, .long l10), (12, .int l12), (13, .long l13)]) hx hb dX8_treesBy_426 hl (k := 8) rfl rfl (by decide) rfl (fun ls hl => ?_)
          refine lv_goto (tgt := 362) hx hb dX8_treesBy_429 (by decide) ?_
          exact ih (l15 + (1 : Int32)) (vp_updL v_grid (((30 : Int32) * l12) + l15).toNatClampNeg ((((v_grid (((30 : Int32) * l12) + l15).toNatClampNeg) - (v_grid (((30 : Int32) * l12) + l15).toNatClampNeg) / l1 * l1) + ((l1 - l13) * ((v_grid (((30 : Int32) * l6) + l15).toNatClampNeg) - (v_grid (((30 : Int32) * l6) + l15).toNatClampNeg) / l1 * l1))) - (((v_grid (((30 : Int32) * l12) + l15).toNatClampNeg) - (v_grid (((30 : Int32) * l12) + l15).toNatClampNeg) / l1 * l1) + ((l1 - l13) * ((v_grid (((30 : Int32) * l6) + l15).toNatClampNeg) - (v_grid (((30 : Int32) * l6) + l15).toNatClampNeg) / l1 * l1))) / l1 * l1)) _ _ _ h hP hD hS (lv_sub hl [1, 2, 3, 4, 5, 6, 7, 8, 0] rfl)
  have L330_ok : ∀ (l1 : Int64) (l3 : Int32) (l4 : Int64) (l6 : Int32) (l10 : Int64) (kx438 : (Nat → Int64) → Prop) (hkx438 : ∀ (v_grid : Nat → Int64) (H : Heap) (locs : List Loc) (ls : Array Slot), kx438 v_grid → va_P D vwCl (wd_X8_treesBy cI cZ cJ a_this a_grid a_looks a_nextFace a_cubeX a_cubeY a_cubeZ a_cubeOf a_lies a_handX a_handY a_handRight a_handUp a_order a_choice a_has a_atX a_atY a_right a_up a_bestX a_bestY a_shapeSize a_shapeRow a_leads a_imageX a_imageY a_row a_bestRow a_on a_onRight a_onUp a_queue v_cubes v_faces v_laid v_count v_step v_ended v_nets v_work v_bestWidth v_bestHeight v_bestNet v_shapes v_grid v_looks v_nextFace) H → va_D A (wd_X8_treesBy cI cZ cJ a_this a_grid a_looks a_nextFace a_cubeX a_cubeY a_cubeZ a_cubeOf a_lies a_handX a_handY a_handRight a_handUp a_order a_choice a_has a_atX a_atY a_right a_up a_bestX a_bestY a_shapeSize a_shapeRow a_leads a_imageX a_imageY a_row a_bestRow a_on a_onRight a_onUp a_queue v_cubes v_faces v_laid v_count v_step v_ended v_nets v_work v_bestWidth v_bestHeight v_bestNet v_shapes v_grid v_looks v_nextFace) → va_S A s.heap H locs → lv_has ls 16 [(0, .ref a_this), (1, .long l1), (3, .int l3), (4, .long l4), (6, .int l6)] → W p l e rm_X8_treesBy s m ([.ref a_this, .long p1] : List Value).toArray below meth c H locs 0 0 Q (F0 m 438 ls [])) (n : Nat) (l12 : Int32) (v_grid : Nat → Int64) (H : Heap) (locs : List Loc) (ls : Array Slot), lpN (wl_X8_treesBy_330 l1 l3 l6 l10 kx438) n (l12, v_grid) → va_P D vwCl (wd_X8_treesBy cI cZ cJ a_this a_grid a_looks a_nextFace a_cubeX a_cubeY a_cubeZ a_cubeOf a_lies a_handX a_handY a_handRight a_handUp a_order a_choice a_has a_atX a_atY a_right a_up a_bestX a_bestY a_shapeSize a_shapeRow a_leads a_imageX a_imageY a_row a_bestRow a_on a_onRight a_onUp a_queue v_cubes v_faces v_laid v_count v_step v_ended v_nets v_work v_bestWidth v_bestHeight v_bestNet v_shapes v_grid v_looks v_nextFace) H → va_D A (wd_X8_treesBy cI cZ cJ a_this a_grid a_looks a_nextFace a_cubeX a_cubeY a_cubeZ a_cubeOf a_lies a_handX a_handY a_handRight a_handUp a_order a_choice a_has a_atX a_atY a_right a_up a_bestX a_bestY a_shapeSize a_shapeRow a_leads a_imageX a_imageY a_row a_bestRow a_on a_onRight a_onUp a_queue v_cubes v_faces v_laid v_count v_step v_ended v_nets v_work v_bestWidth v_bestHeight v_bestNet v_shapes v_grid v_looks v_nextFace) → va_S A s.heap H locs → lv_has ls 16 [(0, .ref a_this), (1, .long l1), (3, .int l3), (4, .long l4), (6, .int l6), (10, .long l10), (12, .int l12)] → W p l e rm_X8_treesBy s m ([.ref a_this, .long p1] : List Value).toArray below meth c H locs 0 0 Q (F0 m 330 ls []) := by
    intro l1 l3 l4 l6 l10 kx438 hkx438 n
    induction n with
    | zero => intro l12 v_grid H locs ls h; exact False.elim h
    | succ n ih =>
      intro l12 v_grid H locs ls h hP hD hS hl
      have h : wb_X8_treesBy_330 l1 l3 l6 l10 kx438 (fun l12 v_grid => lpN (wl_X8_treesBy_330 l1 l3 l6 l10 kx438) n (l12, v_grid)) l12 v_grid := h
      unfold wb_X8_treesBy_330 at h
      refine lv_iload hx hb dX8_treesBy_330 (lv_at hl 6 rfl) ?_
      refine lv_iload_n hx hb dX8_treesBy_332 rfl (lv_at hl 2 rfl) ?_
      refine lv_icmp_ge (tgt := 438) hx hb dX8_treesBy_333 (by decide) (fun hc => ?_) (fun hc => ?_)
      · replace h := h.1 hc
        exact hkx438 v_grid _ _ _ h hP hD hS (lv_sub hl [0, 1, 2, 3, 4] rfl)
      · replace h := h.2 hc
        refine lv_aload_n hx hb dX8_treesBy_336 rfl (lv_at hl 0 rfl) ?_
        refine va_get (D := D) (ci := 8) (v := .ref a_grid) (C := RX8) (T := TX8) (N := 44) hx hb hts iX8 hown hK hP 0 rfl rfl 35 (by decide) f80 (fun _ h9 => h9) rfl dX8_treesBy_337 ?_
        refine lv_bipush (v := 30) hx hb dX8_treesBy_340 (by decide) ?_
        refine lv_iload hx hb dX8_treesBy_342 (lv_at hl 6 rfl) ?_
        refine lv_imul hx hb dX8_treesBy_344 ?_
        refine lv_iload hx hb dX8_treesBy_345 (lv_at hl 4 rfl) ?_
        refine lv_iadd hx hb dX8_treesBy_347 ?_
        obtain ⟨hin, h⟩ := h
        refine va_lald hx hb hK hP 1 2 rfl rfl hin dX8_treesBy_348 ?_
        refine lv_lload_n hx hb dX8_treesBy_349 rfl (lv_at hl 1 rfl) ?_
        obtain ⟨hne, h⟩ := h
        refine lv_lrem hx hb dX8_treesBy_350 hne ?_
        refine lv_lload hx hb dX8_treesBy_351 (lv_at hl 5 rfl) ?_
        refine lv_lmul hx hb dX8_treesBy_353 ?_
        refine lv_lload_n hx hb dX8_treesBy_354 rfl (lv_at hl 1 rfl) ?_
        obtain ⟨hne, h⟩ := h
        refine lv_lrem hx hb dX8_treesBy_355 hne ?_
        refine lv_lstore (lv' := [(13, .long ((((v_grid (((30 : Int32) * l12) + l6).toNatClampNeg) - (v_grid (((30 : Int32) * l12) + l6).toNatClampNeg) / l1 * l1) * l10) - (((v_grid (((30 : Int32) * l12) + l6).toNatClampNeg) - (v_grid (((30 : Int32) * l12) + l6).toNatClampNeg) / l1 * l1) * l10) / l1 * l1)), (0, .ref a_this), (1, .long l1), (3, .int l3), (4, .long l4), (6, .int l6), (10, .long l10), (12, .int l12)]) hx hb dX8_treesBy_356 hl (by decide) rfl (fun ls hl => ?_)
        refine lv_iload hx hb dX8_treesBy_358 (lv_at hl 5 rfl) ?_
        refine lv_istore (lv' := [(15, .int l6), (13, .long ((((v_grid (((30 : Int32) * l12) + l6).toNatClampNeg) - (v_grid (((30 : Int32) * l12) + l6).toNatClampNeg) / l1 * l1) * l10) - (((v_grid (((30 : Int32) * l12) + l6).toNatClampNeg) - (v_grid (((30 : Int32) * l12) + l6).toNatClampNeg) / l1 * l1) * l10) / l1 * l1)), (0, .ref a_this), (1, .long l1), (3, .int l3), (4, .long l4), (6, .int l6), (10, .long l10), (12, .int l12)]) hx hb dX8_treesBy_360 hl (by decide) rfl (fun ls hl => ?_)
        obtain ⟨n, h⟩ := h
        refine L362_ok l1 l3 l4 l6 l10 l12 ((((v_grid (((30 : Int32) * l12) + l6).toNatClampNeg) - (v_grid (((30 : Int32) * l12) + l6).toNatClampNeg) / l1 * l1) * l10) - (((v_grid (((30 : Int32) * l12) + l6).toNatClampNeg) - (v_grid (((30 : Int32) * l12) + l6).toNatClampNeg) / l1 * l1) * l10) / l1 * l1) _ (fun v_grid_1 H locs ls h hP hD hS hl => ?_) n l6 v_grid _ _ _ h hP hD hS (lv_sub hl [2, 3, 4, 5, 6, 7, 8, 1, 0] rfl)
        refine lv_iinc (v := (l12 + (1 : Int32))) (lv' := [(12, .int (l12 + (1 : Int32))), (0, .ref a_this), (1, .long l1), (3, .int l3), (4, .long l4), (6, .int l6), (10, .long l10)]) hx hb dX8_treesBy_432 hl (k := 6) rfl rfl (by decide) rfl (fun ls hl => ?_)
        refine lv_goto (tgt := 330) hx hb dX8_treesBy_435 (by decide) ?_
        exact ih (l12 + (1 : Int32)) v_grid_1 _ _ _ h hP hD hS (lv_sub hl [1, 2, 3, 4, 5, 6, 0] rfl)
  have J283_ok : ∀ (l1 : Int64) (l3 : Int32) (kx185 : (Nat → Int64) → Prop) (hkx185 : ∀ (v_grid : Nat → Int64) (H : Heap) (locs : List Loc) (ls : Array Slot), kx185 v_grid → va_P D vwCl (wd_X8_treesBy cI cZ cJ a_this a_grid a_looks a_nextFace a_cubeX a_cubeY a_cubeZ a_cubeOf a_lies a_handX a_handY a_handRight a_handUp a_order a_choice a_has a_atX a_atY a_right a_up a_bestX a_bestY a_shapeSize a_shapeRow a_leads a_imageX a_imageY a_row a_bestRow a_on a_onRight a_onUp a_queue v_cubes v_faces v_laid v_count v_step v_ended v_nets v_work v_bestWidth v_bestHeight v_bestNet v_shapes v_grid v_looks v_nextFace) H → va_D A (wd_X8_treesBy cI cZ cJ a_this a_grid a_looks a_nextFace a_cubeX a_cubeY a_cubeZ a_cubeOf a_lies a_handX a_handY a_handRight a_handUp a_order a_choice a_has a_atX a_atY a_right a_up a_bestX a_bestY a_shapeSize a_shapeRow a_leads a_imageX a_imageY a_row a_bestRow a_on a_onRight a_onUp a_queue v_cubes v_faces v_laid v_count v_step v_ended v_nets v_work v_bestWidth v_bestHeight v_bestNet v_shapes v_grid v_looks v_nextFace) → va_S A s.heap H locs → lv_has ls 16 [] → W p l e rm_X8_treesBy s m ([.ref a_this, .long p1] : List Value).toArray below meth c H locs 0 0 Q (F0 m 185 ls [])) (kx444 : Int64 → (Nat → Int64) → Prop) (hkx444 : ∀ (l4 : Int64) (v_grid : Nat → Int64) (H : Heap) (locs : List Loc) (ls : Array Slot), kx444 l4 v_grid → va_P D vwCl (wd_X8_treesBy cI cZ cJ a_this a_grid a_looks a_nextFace a_cubeX a_cubeY a_cubeZ a_cubeOf a_lies a_handX a_handY a_handRight a_handUp a_order a_choice a_has a_atX a_atY a_right a_up a_bestX a_bestY a_shapeSize a_shapeRow a_leads a_imageX a_imageY a_row a_bestRow a_on a_onRight a_onUp a_queue v_cubes v_faces v_laid v_count v_step v_ended v_nets v_work v_bestWidth v_bestHeight v_bestNet v_shapes v_grid v_looks v_nextFace) H → va_D A (wd_X8_treesBy cI cZ cJ a_this a_grid a_looks a_nextFace a_cubeX a_cubeY a_cubeZ a_cubeOf a_lies a_handX a_handY a_handRight a_handUp a_order a_choice a_has a_atX a_atY a_right a_up a_bestX a_bestY a_shapeSize a_shapeRow a_leads a_imageX a_imageY a_row a_bestRow a_on a_onRight a_onUp a_queue v_cubes v_faces v_laid v_count v_step v_ended v_nets v_work v_bestWidth v_bestHeight v_bestNet v_shapes v_grid v_looks v_nextFace) → va_S A s.heap H locs → lv_has ls 16 [(4, .long l4)] → W p l e rm_X8_treesBy s m ([.ref a_this, .long p1] : List Value).toArray below meth c H locs 0 0 Q (F0 m 444 ls [])) (kb : Int64 → Int32 → (Nat → Int64) → Prop) (hkb : ∀ (l4 : Int64) (l6 : Int32) (v_grid : Nat → Int64) (H : Heap) (locs : List Loc) (ls : Array Slot), kb l4 l6 v_grid → va_P D vwCl (wd_X8_treesBy cI cZ cJ a_this a_grid a_looks a_nextFace a_cubeX a_cubeY a_cubeZ a_cubeOf a_lies a_handX a_handY a_handRight a_handUp a_order a_choice a_has a_atX a_atY a_right a_up a_bestX a_bestY a_shapeSize a_shapeRow a_leads a_imageX a_imageY a_row a_bestRow a_on a_onRight a_onUp a_queue v_cubes v_faces v_laid v_count v_step v_ended v_nets v_work v_bestWidth v_bestHeight v_bestNet v_shapes v_grid v_looks v_nextFace) H → va_D A (wd_X8_treesBy cI cZ cJ a_this a_grid a_looks a_nextFace a_cubeX a_cubeY a_cubeZ a_cubeOf a_lies a_handX a_handY a_handRight a_handUp a_order a_choice a_has a_atX a_atY a_right a_up a_bestX a_bestY a_shapeSize a_shapeRow a_leads a_imageX a_imageY a_row a_bestRow a_on a_onRight a_onUp a_queue v_cubes v_faces v_laid v_count v_step v_ended v_nets v_work v_bestWidth v_bestHeight v_bestNet v_shapes v_grid v_looks v_nextFace) → va_S A s.heap H locs → lv_has ls 16 [(0, .ref a_this), (1, .long l1), (3, .int l3), (4, .long l4), (6, .int l6)] → W p l e rm_X8_treesBy s m ([.ref a_this, .long p1] : List Value).toArray below meth c H locs 0 0 Q (F0 m 137 ls [])) (l6 : Int32) (v_grid : Nat → Int64) (t0 : Int64) (H : Heap) (locs : List Loc) (ls : Array Slot), wj_X8_treesBy_283 l1 l3 kb l6 v_grid t0 → va_P D vwCl (wd_X8_treesBy cI cZ cJ a_this a_grid a_looks a_nextFace a_cubeX a_cubeY a_cubeZ a_cubeOf a_lies a_handX a_handY a_handRight a_handUp a_order a_choice a_has a_atX a_atY a_right a_up a_bestX a_bestY a_shapeSize a_shapeRow a_leads a_imageX a_imageY a_row a_bestRow a_on a_onRight a_onUp a_queue v_cubes v_faces v_laid v_count v_step v_ended v_nets v_work v_bestWidth v_bestHeight v_bestNet v_shapes v_grid v_looks v_nextFace) H → va_D A (wd_X8_treesBy cI cZ cJ a_this a_grid a_looks a_nextFace a_cubeX a_cubeY a_cubeZ a_cubeOf a_lies a_handX a_handY a_handRight a_handUp a_order a_choice a_has a_atX a_atY a_right a_up a_bestX a_bestY a_shapeSize a_shapeRow a_leads a_imageX a_imageY a_row a_bestRow a_on a_onRight a_onUp a_queue v_cubes v_faces v_laid v_count v_step v_ended v_nets v_work v_bestWidth v_bestHeight v_bestNet v_shapes v_grid v_looks v_nextFace) → va_S A s.heap H locs → lv_has ls 16 [(0, .ref a_this), (1, .long l1), (3, .int l3), (6, .int l6)] → W p l e rm_X8_treesBy s m ([.ref a_this, .long p1] : List Value).toArray below meth c H locs 0 0 Q (F0 m 283 ls [.long t0]) := by
    intro l1 l3 kx185 hkx185 kx444 hkx444 kb hkb l6 v_grid t0 H locs ls h hP hD hS hl
    unfold wj_X8_treesBy_283 at h
    refine lv_lstore (lv' := [(4, .long t0), (0, .ref a_this), (1, .long l1), (3, .int l3), (6, .int l6)]) hx hb dX8_treesBy_283 hl (by decide) rfl (fun ls hl => ?_)
    refine lv_aload_n hx hb dX8_treesBy_285 rfl (lv_at hl 1 rfl) ?_
    refine va_get (D := D) (ci := 8) (v := .ref a_grid) (C := RX8) (T := TX8) (N := 44) hx hb hts iX8 hown hK hP 0 rfl rfl 35 (by decide) f80 (fun _ h9 => h9) rfl dX8_treesBy_286 ?_
    refine lv_bipush (v := 30) hx hb dX8_treesBy_289 (by decide) ?_
    refine lv_iload hx hb dX8_treesBy_291 (lv_at hl 4 rfl) ?_
    refine lv_imul hx hb dX8_treesBy_293 ?_
    refine lv_iload hx hb dX8_treesBy_294 (lv_at hl 4 rfl) ?_
    refine lv_iadd hx hb dX8_treesBy_296 ?_
    obtain ⟨hin, h⟩ := h
    refine va_lald hx hb hK hP 1 2 rfl rfl hin dX8_treesBy_297 ?_
    refine lv_lload_n hx hb dX8_treesBy_298 rfl (lv_at hl 2 rfl) ?_
    obtain ⟨hne, h⟩ := h
    refine lv_lrem hx hb dX8_treesBy_299 hne ?_
    refine lv_lstore (lv' := [(8, .long ((v_grid (((30 : Int32) * l6) + l6).toNatClampNeg) - (v_grid (((30 : Int32) * l6) + l6).toNatClampNeg) / l1 * l1)), (4, .long t0), (0, .ref a_this), (1, .long l1), (3, .int l3), (6, .int l6)]) hx hb dX8_treesBy_300 hl (by decide) rfl (fun ls hl => ?_)
    refine lv_lload hx hb dX8_treesBy_302 (lv_at hl 1 rfl) ?_
    refine lv_lload hx hb dX8_treesBy_304 (lv_at hl 0 rfl) ?_
    refine lv_lmul hx hb dX8_treesBy_306 ?_
    refine lv_lload_n hx hb dX8_treesBy_307 rfl (lv_at hl 3 rfl) ?_
    obtain ⟨hne, h⟩ := h
    refine lv_lrem hx hb dX8_treesBy_308 hne ?_
    refine lv_lstore (lv' := [(4, .long ((t0 * ((v_grid (((30 : Int32) * l6) + l6).toNatClampNeg) - (v_grid (((30 : Int32) * l6) + l6).toNatClampNeg) / l1 * l1)) - (t0 * ((v_grid (((30 : Int32) * l6) + l6).toNatClampNeg) - (v_grid (((30 : Int32) * l6) + l6).toNatClampNeg) / l1 * l1)) / l1 * l1)), (8, .long ((v_grid (((30 : Int32) * l6) + l6).toNatClampNeg) - (v_grid (((30 : Int32) * l6) + l6).toNatClampNeg) / l1 * l1)), (0, .ref a_this), (1, .long l1), (3, .int l3), (6, .int l6)]) hx hb dX8_treesBy_309 hl (by decide) rfl (fun ls hl => ?_)
    refine lv_lload hx hb dX8_treesBy_311 (lv_at hl 1 rfl) ?_
    refine lv_lload_n hx hb dX8_treesBy_313 rfl (lv_at hl 3 rfl) ?_
    refine lv_ldc2 (v := 2) hx hb hown k192 dX8_treesBy_314 ?_
    refine lv_lsub hx hb dX8_treesBy_317 ?_
    refine lv_lload_n hx hb dX8_treesBy_318 rfl (lv_at hl 3 rfl) ?_
    have hPc := hP.sub (ws' := (wd_X8_power cI cZ cJ)) [] rfl
    have hDc := hD.sub (ws' := (wd_X8_power cI cZ cJ)) [] (by decide) rfl
    have hFc := va_free (wc := (wd_X8_power cI cZ cJ)) hD hS hA [] rfl
    refine va_calll (va_runS (As := [.long ((v_grid (((30 : Int32) * l6) + l6).toNatClampNeg) - (v_grid (((30 : Int32) * l6) + l6).toNatClampNeg) / l1 * l1), .long (l1 - (2 : Int64)), .long l1]) (rest := []) C (c_X8_power l D cI cZ cJ tb H.size ((v_grid (((30 : Int32) * l6) + l6).toNatClampNeg) - (v_grid (((30 : Int32) * l6) + l6).toNatClampNeg) / l1 * l1) (l1 - (2 : Int64)) l1 h) (va_cwS 3 hts gX8_treesBy_X8_power rfl rfl rfl (by decide +kernel) ⟨Nat.le_of_ble_eq_true rfl, Nat.le_of_ble_eq_true rfl⟩) ⟨q_pre.blind, fun U hU hW => ⟨rfl, q_pre.of hU hW hPc hK hDc hSt hS hFc hNw⟩⟩ rfl rfl hl.1 rfl (lv_room (Nat.le_of_ble_eq_true rfl)) dX8_treesBy_319 ⟨Nat.zero_le _, Nat.zero_le _⟩) hS (fun q _ h => hFc q h) hFc (fun r_2 u_3 t H1 locs ht hvm hw hB hz1 hk1 hS => ?_)
    obtain ⟨hP1, hK1, hD1⟩ := hB
    rw [ht] at hP1
    obtain ⟨hP, hD⟩ := va_join (wr := [(a_this, .inr (8, [.int v_cubes, .ref a_cubeX, .ref a_cubeY, .ref a_cubeZ, .int v_faces, .ref a_cubeOf, .ref a_looks, .int v_laid, .ref a_lies, .ref a_handX, .ref a_handY, .ref a_handRight, .ref a_handUp, .int v_count, .ref a_order, .ref a_choice, .ref a_has, .ref a_atX, .ref a_atY, .ref a_right, .ref a_up, .int v_step, .int v_ended, .int v_nets, .int v_work, .int v_bestWidth, .int v_bestHeight, .int v_bestNet, .ref a_bestX, .ref a_bestY, .int v_shapes, .ref a_shapeSize, .ref a_shapeRow, .ref a_nextFace, .ref a_leads, .ref a_grid, .ref a_imageX, .ref a_imageY, .ref a_row, .ref a_bestRow, .ref a_on, .ref a_onRight, .ref a_onUp, .ref a_queue])), (a_grid, .inl (cJ, 900, .inr (.inl v_grid))), (a_looks, .inl (cI, 30, .inl v_looks)), (a_nextFace, .inl (cI, 180, .inl v_nextFace))]) (w1 := (wd_X8_power cI cZ cJ)) hP hD [] [0, 1, 2, 3] rfl rfl (by decide) (by decide) hk1 hFc hP1 hD1
    clear hPc hDc hFc hP1 hD1 hK1 hk1 hz1 ht hvm
    replace h := hw
    clear hw
    generalize H1 = H at hP hS ⊢
    replace hP : va_P D vwCl (wd_X8_treesBy cI cZ cJ a_this a_grid a_looks a_nextFace a_cubeX a_cubeY a_cubeZ a_cubeOf a_lies a_handX a_handY a_handRight a_handUp a_order a_choice a_has a_atX a_atY a_right a_up a_bestX a_bestY a_shapeSize a_shapeRow a_leads a_imageX a_imageY a_row a_bestRow a_on a_onRight a_onUp a_queue v_cubes v_faces v_laid v_count v_step v_ended v_nets v_work v_bestWidth v_bestHeight v_bestNet v_shapes v_grid v_looks v_nextFace) H := hP.sub [0, 1, 2, 3] rfl
    replace hD : va_D A (wd_X8_treesBy cI cZ cJ a_this a_grid a_looks a_nextFace a_cubeX a_cubeY a_cubeZ a_cubeOf a_lies a_handX a_handY a_handRight a_handUp a_order a_choice a_has a_atX a_atY a_right a_up a_bestX a_bestY a_shapeSize a_shapeRow a_leads a_imageX a_imageY a_row a_bestRow a_on a_onRight a_onUp a_queue v_cubes v_faces v_laid v_count v_step v_ended v_nets v_work v_bestWidth v_bestHeight v_bestNet v_shapes v_grid v_looks v_nextFace) := hD.sub [0, 1, 2, 3] (by decide) rfl
    refine lv_lstore (lv' := [(10, .long r_2), (4, .long ((t0 * ((v_grid (((30 : Int32) * l6) + l6).toNatClampNeg) - (v_grid (((30 : Int32) * l6) + l6).toNatClampNeg) / l1 * l1)) - (t0 * ((v_grid (((30 : Int32) * l6) + l6).toNatClampNeg) - (v_grid (((30 : Int32) * l6) + l6).toNatClampNeg) / l1 * l1)) / l1 * l1)), (8, .long ((v_grid (((30 : Int32) * l6) + l6).toNatClampNeg) - (v_grid (((30 : Int32) * l6) + l6).toNatClampNeg) / l1 * l1)), (0, .ref a_this), (1, .long l1), (3, .int l3), (6, .int l6)]) hx hb dX8_treesBy_322 hl (by decide) rfl (fun ls hl => ?_)
    refine lv_iload hx hb dX8_treesBy_324 (lv_at hl 6 rfl) ?_
    refine lv_iconst (v := 1) hx hb dX8_treesBy_326 (by decide) ?_
    refine lv_iadd hx hb dX8_treesBy_327 ?_
    refine lv_istore (lv' := [(12, .int (l6 + (1 : Int32))), (10, .long r_2), (4, .long ((t0 * ((v_grid (((30 : Int32) * l6) + l6).toNatClampNeg) - (v_grid (((30 : Int32) * l6) + l6).toNatClampNeg) / l1 * l1)) - (t0 * ((v_grid (((30 : Int32) * l6) + l6).toNatClampNeg) - (v_grid (((30 : Int32) * l6) + l6).toNatClampNeg) / l1 * l1)) / l1 * l1)), (8, .long ((v_grid (((30 : Int32) * l6) + l6).toNatClampNeg) - (v_grid (((30 : Int32) * l6) + l6).toNatClampNeg) / l1 * l1)), (0, .ref a_this), (1, .long l1), (3, .int l3), (6, .int l6)]) hx hb dX8_treesBy_328 hl (by decide) rfl (fun ls hl => ?_)
    obtain ⟨n, h⟩ := h
    refine L330_ok l1 l3 ((t0 * ((v_grid (((30 : Int32) * l6) + l6).toNatClampNeg) - (v_grid (((30 : Int32) * l6) + l6).toNatClampNeg) / l1 * l1)) - (t0 * ((v_grid (((30 : Int32) * l6) + l6).toNatClampNeg) - (v_grid (((30 : Int32) * l6) + l6).toNatClampNeg) / l1 * l1)) / l1 * l1) l6 r_2 _ (fun v_grid_4 H locs ls h hP hD hS hl => ?_) n (l6 + (1 : Int32)) v_grid _ _ _ h hP hD hS (lv_sub hl [4, 5, 6, 2, 7, 1, 0] rfl)
    refine lv_iinc (v := (l6 + (1 : Int32))) (lv' := [(6, .int (l6 + (1 : Int32))), (0, .ref a_this), (1, .long l1), (3, .int l3), (4, .long ((t0 * ((v_grid (((30 : Int32) * l6) + l6).toNatClampNeg) - (v_grid (((30 : Int32) * l6) + l6).toNatClampNeg) / l1 * l1)) - (t0 * ((v_grid (((30 : Int32) * l6) + l6).toNatClampNeg) - (v_grid (((30 : Int32) * l6) + l6).toNatClampNeg) / l1 * l1)) / l1 * l1))]) hx hb dX8_treesBy_438 hl (k := 4) rfl rfl (by decide) rfl (fun ls hl => ?_)
    refine lv_goto (tgt := 137) hx hb dX8_treesBy_441 (by decide) ?_
    exact hkb ((t0 * ((v_grid (((30 : Int32) * l6) + l6).toNatClampNeg) - (v_grid (((30 : Int32) * l6) + l6).toNatClampNeg) / l1 * l1)) - (t0 * ((v_grid (((30 : Int32) * l6) + l6).toNatClampNeg) - (v_grid (((30 : Int32) * l6) + l6).toNatClampNeg) / l1 * l1)) / l1 * l1) (l6 + (1 : Int32)) v_grid_4 _ _ _ h hP hD hS (lv_sub hl [1, 2, 3, 4, 0] rfl)
  have L190_ok : ∀ (l1 : Int64) (l3 : Int32) (l4 : Int64) (l6 : Int32) (l7 : Int32) (kx265 : (Nat → Int64) → Prop) (hkx265 : ∀ (v_grid : Nat → Int64) (H : Heap) (locs : List Loc) (ls : Array Slot), kx265 v_grid → va_P D vwCl (wd_X8_treesBy cI cZ cJ a_this a_grid a_looks a_nextFace a_cubeX a_cubeY a_cubeZ a_cubeOf a_lies a_handX a_handY a_handRight a_handUp a_order a_choice a_has a_atX a_atY a_right a_up a_bestX a_bestY a_shapeSize a_shapeRow a_leads a_imageX a_imageY a_row a_bestRow a_on a_onRight a_onUp a_queue v_cubes v_faces v_laid v_count v_step v_ended v_nets v_work v_bestWidth v_bestHeight v_bestNet v_shapes v_grid v_looks v_nextFace) H → va_D A (wd_X8_treesBy cI cZ cJ a_this a_grid a_looks a_nextFace a_cubeX a_cubeY a_cubeZ a_cubeOf a_lies a_handX a_handY a_handRight a_handUp a_order a_choice a_has a_atX a_atY a_right a_up a_bestX a_bestY a_shapeSize a_shapeRow a_leads a_imageX a_imageY a_row a_bestRow a_on a_onRight a_onUp a_queue v_cubes v_faces v_laid v_count v_step v_ended v_nets v_work v_bestWidth v_bestHeight v_bestNet v_shapes v_grid v_looks v_nextFace) → va_S A s.heap H locs → lv_has ls 16 [(0, .ref a_this), (1, .long l1), (3, .int l3), (4, .long l4), (6, .int l6), (7, .int l7)] → W p l e rm_X8_treesBy s m ([.ref a_this, .long p1] : List Value).toArray below meth c H locs 0 0 Q (F0 m 265 ls [])) (n : Nat) (l8 : Int32) (v_grid : Nat → Int64) (H : Heap) (locs : List Loc) (ls : Array Slot), lpN (wl_X8_treesBy_190 l3 l6 l7 kx265) n (l8, v_grid) → va_P D vwCl (wd_X8_treesBy cI cZ cJ a_this a_grid a_looks a_nextFace a_cubeX a_cubeY a_cubeZ a_cubeOf a_lies a_handX a_handY a_handRight a_handUp a_order a_choice a_has a_atX a_atY a_right a_up a_bestX a_bestY a_shapeSize a_shapeRow a_leads a_imageX a_imageY a_row a_bestRow a_on a_onRight a_onUp a_queue v_cubes v_faces v_laid v_count v_step v_ended v_nets v_work v_bestWidth v_bestHeight v_bestNet v_shapes v_grid v_looks v_nextFace) H → va_D A (wd_X8_treesBy cI cZ cJ a_this a_grid a_looks a_nextFace a_cubeX a_cubeY a_cubeZ a_cubeOf a_lies a_handX a_handY a_handRight a_handUp a_order a_choice a_has a_atX a_atY a_right a_up a_bestX a_bestY a_shapeSize a_shapeRow a_leads a_imageX a_imageY a_row a_bestRow a_on a_onRight a_onUp a_queue v_cubes v_faces v_laid v_count v_step v_ended v_nets v_work v_bestWidth v_bestHeight v_bestNet v_shapes v_grid v_looks v_nextFace) → va_S A s.heap H locs → lv_has ls 16 [(0, .ref a_this), (1, .long l1), (3, .int l3), (4, .long l4), (6, .int l6), (7, .int l7), (8, .int l8)] → W p l e rm_X8_treesBy s m ([.ref a_this, .long p1] : List Value).toArray below meth c H locs 0 0 Q (F0 m 190 ls []) := by
    intro l1 l3 l4 l6 l7 kx265 hkx265 n
    induction n with
    | zero => intro l8 v_grid H locs ls h; exact False.elim h
    | succ n ih =>
      intro l8 v_grid H locs ls h hP hD hS hl
      have h : wb_X8_treesBy_190 l3 l6 l7 kx265 (fun l8 v_grid => lpN (wl_X8_treesBy_190 l3 l6 l7 kx265) n (l8, v_grid)) l8 v_grid := h
      unfold wb_X8_treesBy_190 at h
      refine lv_iload hx hb dX8_treesBy_190 (lv_at hl 6 rfl) ?_
      refine lv_iload_n hx hb dX8_treesBy_192 rfl (lv_at hl 2 rfl) ?_
      refine lv_icmp_ge (tgt := 265) hx hb dX8_treesBy_193 (by decide) (fun hc => ?_) (fun hc => ?_)
      · replace h := h.1 hc
        exact hkx265 v_grid _ _ _ h hP hD hS (lv_sub hl [0, 1, 2, 3, 4, 5] rfl)
      · replace h := h.2 hc
        refine lv_iload hx hb dX8_treesBy_196 (lv_at hl 5 rfl) ?_
        refine lv_iload hx hb dX8_treesBy_198 (lv_at hl 4 rfl) ?_
        refine lv_icmp_eq (tgt := 265) hx hb dX8_treesBy_200 (by decide) (fun hc => ?_) (fun hc => ?_)
        · replace h := h.1 hc
          exact hkx265 v_grid _ _ _ h hP hD hS (lv_sub hl [0, 1, 2, 3, 4, 5] rfl)
        · replace h := h.2 hc
          refine lv_aload_n hx hb dX8_treesBy_203 rfl (lv_at hl 0 rfl) ?_
          refine va_get (D := D) (ci := 8) (v := .ref a_grid) (C := RX8) (T := TX8) (N := 44) hx hb hts iX8 hown hK hP 0 rfl rfl 35 (by decide) f80 (fun _ h9 => h9) rfl dX8_treesBy_204 ?_
          refine lv_bipush (v := 30) hx hb dX8_treesBy_207 (by decide) ?_
          refine lv_iload hx hb dX8_treesBy_209 (lv_at hl 5 rfl) ?_
          refine lv_imul hx hb dX8_treesBy_211 ?_
          refine lv_iload hx hb dX8_treesBy_212 (lv_at hl 6 rfl) ?_
          refine lv_iadd hx hb dX8_treesBy_214 ?_
          obtain ⟨hin, h⟩ := h
          refine va_lald hx hb hK hP 1 2 rfl rfl hin dX8_treesBy_215 ?_
          refine lv_lstore (lv' := [(9, .long (v_grid (((30 : Int32) * l7) + l8).toNatClampNeg)), (0, .ref a_this), (1, .long l1), (3, .int l3), (4, .long l4), (6, .int l6), (7, .int l7), (8, .int l8)]) hx hb dX8_treesBy_216 hl (by decide) rfl (fun ls hl => ?_)
          refine lv_aload_n hx hb dX8_treesBy_218 rfl (lv_at hl 1 rfl) ?_
          refine va_get (D := D) (ci := 8) (v := .ref a_grid) (C := RX8) (T := TX8) (N := 44) hx hb hts iX8 hown hK hP 0 rfl rfl 35 (by decide) f80 (fun _ h9 => h9) rfl dX8_treesBy_219 ?_
          refine lv_bipush (v := 30) hx hb dX8_treesBy_222 (by decide) ?_
          refine lv_iload hx hb dX8_treesBy_224 (lv_at hl 6 rfl) ?_
          refine lv_imul hx hb dX8_treesBy_226 ?_
          refine lv_iload hx hb dX8_treesBy_227 (lv_at hl 7 rfl) ?_
          refine lv_iadd hx hb dX8_treesBy_229 ?_
          refine lv_aload_n hx hb dX8_treesBy_230 rfl (lv_at hl 1 rfl) ?_
          refine va_get (D := D) (ci := 8) (v := .ref a_grid) (C := RX8) (T := TX8) (N := 44) hx hb hts iX8 hown hK hP 0 rfl rfl 35 (by decide) f80 (fun _ h9 => h9) rfl dX8_treesBy_231 ?_
          refine lv_bipush (v := 30) hx hb dX8_treesBy_234 (by decide) ?_
          refine lv_iload hx hb dX8_treesBy_236 (lv_at hl 5 rfl) ?_
          refine lv_imul hx hb dX8_treesBy_238 ?_
          refine lv_iload hx hb dX8_treesBy_239 (lv_at hl 7 rfl) ?_
          refine lv_iadd hx hb dX8_treesBy_241 ?_
          obtain ⟨hin, h⟩ := h
          refine va_lald hx hb hK hP 1 2 rfl rfl hin dX8_treesBy_242 ?_
          obtain ⟨hin, h⟩ := h
          refine va_last hx hb hK hP hD hS 1 2 rfl rfl hin dX8_treesBy_243 (fun H locs hP hD hS => ?_)
          replace hP : va_P D vwCl (wd_X8_treesBy cI cZ cJ a_this a_grid a_looks a_nextFace a_cubeX a_cubeY a_cubeZ a_cubeOf a_lies a_handX a_handY a_handRight a_handUp a_order a_choice a_has a_atX a_atY a_right a_up a_bestX a_bestY a_shapeSize a_shapeRow a_leads a_imageX a_imageY a_row a_bestRow a_on a_onRight a_onUp a_queue v_cubes v_faces v_laid v_count v_step v_ended v_nets v_work v_bestWidth v_bestHeight v_bestNet v_shapes (vp_updL v_grid (((30 : Int32) * l7) + l8).toNatClampNeg (v_grid (((30 : Int32) * l6) + l8).toNatClampNeg)) v_looks v_nextFace) H := hP
          replace hD : va_D A (wd_X8_treesBy cI cZ cJ a_this a_grid a_looks a_nextFace a_cubeX a_cubeY a_cubeZ a_cubeOf a_lies a_handX a_handY a_handRight a_handUp a_order a_choice a_has a_atX a_atY a_right a_up a_bestX a_bestY a_shapeSize a_shapeRow a_leads a_imageX a_imageY a_row a_bestRow a_on a_onRight a_onUp a_queue v_cubes v_faces v_laid v_count v_step v_ended v_nets v_work v_bestWidth v_bestHeight v_bestNet v_shapes (vp_updL v_grid (((30 : Int32) * l7) + l8).toNatClampNeg (v_grid (((30 : Int32) * l6) + l8).toNatClampNeg)) v_looks v_nextFace) := hD
          refine lv_aload_n hx hb dX8_treesBy_244 rfl (lv_at hl 1 rfl) ?_
          refine va_get (D := D) (ci := 8) (v := .ref a_grid) (C := RX8) (T := TX8) (N := 44) hx hb hts iX8 hown hK hP 0 rfl rfl 35 (by decide) f80 (fun _ h9 => h9) rfl dX8_treesBy_245 ?_
          refine lv_bipush (v := 30) hx hb dX8_treesBy_248 (by decide) ?_
          refine lv_iload hx hb dX8_treesBy_250 (lv_at hl 5 rfl) ?_
          refine lv_imul hx hb dX8_treesBy_252 ?_
          refine lv_iload hx hb dX8_treesBy_253 (lv_at hl 7 rfl) ?_
          refine lv_iadd hx hb dX8_treesBy_255 ?_
          refine lv_lload hx hb dX8_treesBy_256 (lv_at hl 0 rfl) ?_
          obtain ⟨hin, h⟩ := h
          refine va_last hx hb hK hP hD hS 1 2 rfl rfl hin dX8_treesBy_258 (fun H locs hP hD hS => ?_)
          replace hP : va_P D vwCl (wd_X8_treesBy cI cZ cJ a_this a_grid a_looks a_nextFace a_cubeX a_cubeY a_cubeZ a_cubeOf a_lies a_handX a_handY a_handRight a_handUp a_order a_choice a_has a_atX a_atY a_right a_up a_bestX a_bestY a_shapeSize a_shapeRow a_leads a_imageX a_imageY a_row a_bestRow a_on a_onRight a_onUp a_queue v_cubes v_faces v_laid v_count v_step v_ended v_nets v_work v_bestWidth v_bestHeight v_bestNet v_shapes (vp_updL (vp_updL v_grid (((30 : Int32) * l7) + l8).toNatClampNeg (v_grid (((30 : Int32) * l6) + l8).toNatClampNeg)) (((30 : Int32) * l6) + l8).toNatClampNeg (v_grid (((30 : Int32) * l7) + l8).toNatClampNeg)) v_looks v_nextFace) H := hP
          replace hD : va_D A (wd_X8_treesBy cI cZ cJ a_this a_grid a_looks a_nextFace a_cubeX a_cubeY a_cubeZ a_cubeOf a_lies a_handX a_handY a_handRight a_handUp a_order a_choice a_has a_atX a_atY a_right a_up a_bestX a_bestY a_shapeSize a_shapeRow a_leads a_imageX a_imageY a_row a_bestRow a_on a_onRight a_onUp a_queue v_cubes v_faces v_laid v_count v_step v_ended v_nets v_work v_bestWidth v_bestHeight v_bestNet v_shapes (vp_updL (vp_updL v_grid (((30 : Int32) * l7) + l8).toNatClampNeg (v_grid (((30 : Int32) * l6) + l8).toNatClampNeg)) (((30 : Int32) * l6) + l8).toNatClampNeg (v_grid (((30 : Int32) * l7) + l8).toNatClampNeg)) v_looks v_nextFace) := hD
          refine lv_iinc (v := (l8 + (1 : Int32))) (lv' := [(8, .int (l8 + (1 : Int32))), (9, .long (v_grid (((30 : Int32) * l7) + l8).toNatClampNeg)), (0, .ref a_this), (1, .long l1), (3, .int l3), (4, .long l4), (6, .int l6), (7, .int l7)]) hx hb dX8_treesBy_259 hl (k := 7) rfl rfl (by decide) rfl (fun ls hl => ?_)
          refine lv_goto (tgt := 190) hx hb dX8_treesBy_262 (by decide) ?_
          exact ih (l8 + (1 : Int32)) (vp_updL (vp_updL v_grid (((30 : Int32) * l7) + l8).toNatClampNeg (v_grid (((30 : Int32) * l6) + l8).toNatClampNeg)) (((30 : Int32) * l6) + l8).toNatClampNeg (v_grid (((30 : Int32) * l7) + l8).toNatClampNeg)) _ _ _ h hP hD hS (lv_sub hl [2, 3, 4, 5, 6, 7, 0] rfl)
  have L147_ok : ∀ (v_grid : Nat → Int64) (l1 : Int64) (l3 : Int32) (l4 : Int64) (l6 : Int32) (kx179 : Int32 → Prop) (hkx179 : ∀ (l7 : Int32) (H : Heap) (locs : List Loc) (ls : Array Slot), kx179 l7 → va_P D vwCl (wd_X8_treesBy cI cZ cJ a_this a_grid a_looks a_nextFace a_cubeX a_cubeY a_cubeZ a_cubeOf a_lies a_handX a_handY a_handRight a_handUp a_order a_choice a_has a_atX a_atY a_right a_up a_bestX a_bestY a_shapeSize a_shapeRow a_leads a_imageX a_imageY a_row a_bestRow a_on a_onRight a_onUp a_queue v_cubes v_faces v_laid v_count v_step v_ended v_nets v_work v_bestWidth v_bestHeight v_bestNet v_shapes v_grid v_looks v_nextFace) H → va_D A (wd_X8_treesBy cI cZ cJ a_this a_grid a_looks a_nextFace a_cubeX a_cubeY a_cubeZ a_cubeOf a_lies a_handX a_handY a_handRight a_handUp a_order a_choice a_has a_atX a_atY a_right a_up a_bestX a_bestY a_shapeSize a_shapeRow a_leads a_imageX a_imageY a_row a_bestRow a_on a_onRight a_onUp a_queue v_cubes v_faces v_laid v_count v_step v_ended v_nets v_work v_bestWidth v_bestHeight v_bestNet v_shapes v_grid v_looks v_nextFace) → va_S A s.heap H locs → lv_has ls 16 [(0, .ref a_this), (1, .long l1), (3, .int l3), (4, .long l4), (6, .int l6), (7, .int l7)] → W p l e rm_X8_treesBy s m ([.ref a_this, .long p1] : List Value).toArray below meth c H locs 0 0 Q (F0 m 179 ls [])) (n : Nat) (l7 : Int32) (H : Heap) (locs : List Loc) (ls : Array Slot), lpN (wl_X8_treesBy_147 v_grid l1 l3 l6 kx179) n l7 → va_P D vwCl (wd_X8_treesBy cI cZ cJ a_this a_grid a_looks a_nextFace a_cubeX a_cubeY a_cubeZ a_cubeOf a_lies a_handX a_handY a_handRight a_handUp a_order a_choice a_has a_atX a_atY a_right a_up a_bestX a_bestY a_shapeSize a_shapeRow a_leads a_imageX a_imageY a_row a_bestRow a_on a_onRight a_onUp a_queue v_cubes v_faces v_laid v_count v_step v_ended v_nets v_work v_bestWidth v_bestHeight v_bestNet v_shapes v_grid v_looks v_nextFace) H → va_D A (wd_X8_treesBy cI cZ cJ a_this a_grid a_looks a_nextFace a_cubeX a_cubeY a_cubeZ a_cubeOf a_lies a_handX a_handY a_handRight a_handUp a_order a_choice a_has a_atX a_atY a_right a_up a_bestX a_bestY a_shapeSize a_shapeRow a_leads a_imageX a_imageY a_row a_bestRow a_on a_onRight a_onUp a_queue v_cubes v_faces v_laid v_count v_step v_ended v_nets v_work v_bestWidth v_bestHeight v_bestNet v_shapes v_grid v_looks v_nextFace) → va_S A s.heap H locs → lv_has ls 16 [(0, .ref a_this), (1, .long l1), (3, .int l3), (4, .long l4), (6, .int l6), (7, .int l7)] → W p l e rm_X8_treesBy s m ([.ref a_this, .long p1] : List Value).toArray below meth c H locs 0 0 Q (F0 m 147 ls []) := by
    intro v_grid l1 l3 l4 l6 kx179 hkx179 n
    induction n with
    | zero => intro l7 H locs ls h; exact False.elim h
    | succ n ih =>
      intro l7 H locs ls h hP hD hS hl
      have h : wb_X8_treesBy_147 v_grid l1 l3 l6 kx179 (fun l7 => lpN (wl_X8_treesBy_147 v_grid l1 l3 l6 kx179) n l7) l7 := h
      unfold wb_X8_treesBy_147 at h
      refine lv_iload hx hb dX8_treesBy_147 (lv_at hl 5 rfl) ?_
      refine lv_iload_n hx hb dX8_treesBy_149 rfl (lv_at hl 2 rfl) ?_
      refine lv_icmp_ge (tgt := 179) hx hb dX8_treesBy_150 (by decide) (fun hc => ?_) (fun hc => ?_)
      · replace h := h.1 hc
        exact hkx179 l7 _ _ _ h hP hD hS (lv_sub hl [0, 1, 2, 3, 4, 5] rfl)
      · replace h := h.2 hc
        refine lv_aload_n hx hb dX8_treesBy_153 rfl (lv_at hl 0 rfl) ?_
        refine va_get (D := D) (ci := 8) (v := .ref a_grid) (C := RX8) (T := TX8) (N := 44) hx hb hts iX8 hown hK hP 0 rfl rfl 35 (by decide) f80 (fun _ h9 => h9) rfl dX8_treesBy_154 ?_
        refine lv_bipush (v := 30) hx hb dX8_treesBy_157 (by decide) ?_
        refine lv_iload hx hb dX8_treesBy_159 (lv_at hl 5 rfl) ?_
        refine lv_imul hx hb dX8_treesBy_161 ?_
        refine lv_iload hx hb dX8_treesBy_162 (lv_at hl 4 rfl) ?_
        refine lv_iadd hx hb dX8_treesBy_164 ?_
        obtain ⟨hin, h⟩ := h
        refine va_lald hx hb hK hP 1 2 rfl rfl hin dX8_treesBy_165 ?_
        refine lv_lload_n hx hb dX8_treesBy_166 rfl (lv_at hl 1 rfl) ?_
        obtain ⟨hne, h⟩ := h
        refine lv_lrem hx hb dX8_treesBy_167 hne ?_
        refine lv_lconst (v := 0) hx hb dX8_treesBy_168 (by decide) ?_
        refine W.lcmp hx hb dX8_treesBy_169 ?_
        refine lv_if_ne (tgt := 179) hx hb dX8_treesBy_170 (by decide) (fun hc => ?_) (fun hc => ?_)
        · replace h := h.1 hc
          exact hkx179 l7 _ _ _ h hP hD hS (lv_sub hl [0, 1, 2, 3, 4, 5] rfl)
        · replace h := h.2 hc
          refine lv_iinc (v := (l7 + (1 : Int32))) (lv' := [(7, .int (l7 + (1 : Int32))), (0, .ref a_this), (1, .long l1), (3, .int l3), (4, .long l4), (6, .int l6)]) hx hb dX8_treesBy_173 hl (k := 5) rfl rfl (by decide) rfl (fun ls hl => ?_)
          refine lv_goto (tgt := 147) hx hb dX8_treesBy_176 (by decide) ?_
          exact ih (l7 + (1 : Int32)) _ _ _ h hP hD hS (lv_sub hl [1, 2, 3, 4, 5, 0] rfl)
  have L137_ok : ∀ (l1 : Int64) (l3 : Int32) (kx185 : (Nat → Int64) → Prop) (hkx185 : ∀ (v_grid : Nat → Int64) (H : Heap) (locs : List Loc) (ls : Array Slot), kx185 v_grid → va_P D vwCl (wd_X8_treesBy cI cZ cJ a_this a_grid a_looks a_nextFace a_cubeX a_cubeY a_cubeZ a_cubeOf a_lies a_handX a_handY a_handRight a_handUp a_order a_choice a_has a_atX a_atY a_right a_up a_bestX a_bestY a_shapeSize a_shapeRow a_leads a_imageX a_imageY a_row a_bestRow a_on a_onRight a_onUp a_queue v_cubes v_faces v_laid v_count v_step v_ended v_nets v_work v_bestWidth v_bestHeight v_bestNet v_shapes v_grid v_looks v_nextFace) H → va_D A (wd_X8_treesBy cI cZ cJ a_this a_grid a_looks a_nextFace a_cubeX a_cubeY a_cubeZ a_cubeOf a_lies a_handX a_handY a_handRight a_handUp a_order a_choice a_has a_atX a_atY a_right a_up a_bestX a_bestY a_shapeSize a_shapeRow a_leads a_imageX a_imageY a_row a_bestRow a_on a_onRight a_onUp a_queue v_cubes v_faces v_laid v_count v_step v_ended v_nets v_work v_bestWidth v_bestHeight v_bestNet v_shapes v_grid v_looks v_nextFace) → va_S A s.heap H locs → lv_has ls 16 [] → W p l e rm_X8_treesBy s m ([.ref a_this, .long p1] : List Value).toArray below meth c H locs 0 0 Q (F0 m 185 ls [])) (kx444 : Int64 → (Nat → Int64) → Prop) (hkx444 : ∀ (l4 : Int64) (v_grid : Nat → Int64) (H : Heap) (locs : List Loc) (ls : Array Slot), kx444 l4 v_grid → va_P D vwCl (wd_X8_treesBy cI cZ cJ a_this a_grid a_looks a_nextFace a_cubeX a_cubeY a_cubeZ a_cubeOf a_lies a_handX a_handY a_handRight a_handUp a_order a_choice a_has a_atX a_atY a_right a_up a_bestX a_bestY a_shapeSize a_shapeRow a_leads a_imageX a_imageY a_row a_bestRow a_on a_onRight a_onUp a_queue v_cubes v_faces v_laid v_count v_step v_ended v_nets v_work v_bestWidth v_bestHeight v_bestNet v_shapes v_grid v_looks v_nextFace) H → va_D A (wd_X8_treesBy cI cZ cJ a_this a_grid a_looks a_nextFace a_cubeX a_cubeY a_cubeZ a_cubeOf a_lies a_handX a_handY a_handRight a_handUp a_order a_choice a_has a_atX a_atY a_right a_up a_bestX a_bestY a_shapeSize a_shapeRow a_leads a_imageX a_imageY a_row a_bestRow a_on a_onRight a_onUp a_queue v_cubes v_faces v_laid v_count v_step v_ended v_nets v_work v_bestWidth v_bestHeight v_bestNet v_shapes v_grid v_looks v_nextFace) → va_S A s.heap H locs → lv_has ls 16 [(4, .long l4)] → W p l e rm_X8_treesBy s m ([.ref a_this, .long p1] : List Value).toArray below meth c H locs 0 0 Q (F0 m 444 ls [])) (n : Nat) (l4 : Int64) (l6 : Int32) (v_grid : Nat → Int64) (H : Heap) (locs : List Loc) (ls : Array Slot), lpN (wl_X8_treesBy_137 l1 l3 kx185 kx444) n (l4, l6, v_grid) → va_P D vwCl (wd_X8_treesBy cI cZ cJ a_this a_grid a_looks a_nextFace a_cubeX a_cubeY a_cubeZ a_cubeOf a_lies a_handX a_handY a_handRight a_handUp a_order a_choice a_has a_atX a_atY a_right a_up a_bestX a_bestY a_shapeSize a_shapeRow a_leads a_imageX a_imageY a_row a_bestRow a_on a_onRight a_onUp a_queue v_cubes v_faces v_laid v_count v_step v_ended v_nets v_work v_bestWidth v_bestHeight v_bestNet v_shapes v_grid v_looks v_nextFace) H → va_D A (wd_X8_treesBy cI cZ cJ a_this a_grid a_looks a_nextFace a_cubeX a_cubeY a_cubeZ a_cubeOf a_lies a_handX a_handY a_handRight a_handUp a_order a_choice a_has a_atX a_atY a_right a_up a_bestX a_bestY a_shapeSize a_shapeRow a_leads a_imageX a_imageY a_row a_bestRow a_on a_onRight a_onUp a_queue v_cubes v_faces v_laid v_count v_step v_ended v_nets v_work v_bestWidth v_bestHeight v_bestNet v_shapes v_grid v_looks v_nextFace) → va_S A s.heap H locs → lv_has ls 16 [(0, .ref a_this), (1, .long l1), (3, .int l3), (4, .long l4), (6, .int l6)] → W p l e rm_X8_treesBy s m ([.ref a_this, .long p1] : List Value).toArray below meth c H locs 0 0 Q (F0 m 137 ls []) := by
    intro l1 l3 kx185 hkx185 kx444 hkx444 n
    induction n with
    | zero => intro l4 l6 v_grid H locs ls h; exact False.elim h
    | succ n ih =>
      intro l4 l6 v_grid H locs ls h hP hD hS hl
      have h : wb_X8_treesBy_137 l1 l3 kx185 kx444 (fun l4 l6 v_grid => lpN (wl_X8_treesBy_137 l1 l3 kx185 kx444) n (l4, l6, v_grid)) l4 l6 v_grid := h
      unfold wb_X8_treesBy_137 at h
      refine lv_iload hx hb dX8_treesBy_137 (lv_at hl 4 rfl) ?_
      refine lv_iload_n hx hb dX8_treesBy_139 rfl (lv_at hl 2 rfl) ?_
      refine lv_icmp_ge (tgt := 444) hx hb dX8_treesBy_140 (by decide) (fun hc => ?_) (fun hc => ?_)
      · replace h := h.1 hc
        exact hkx444 l4 v_grid _ _ _ h hP hD hS (lv_sub hl [3] rfl)
      · replace h := h.2 hc
        refine lv_iload hx hb dX8_treesBy_143 (lv_at hl 4 rfl) ?_
        refine lv_istore (lv' := [(7, .int l6), (0, .ref a_this), (1, .long l1), (3, .int l3), (4, .long l4), (6, .int l6)]) hx hb dX8_treesBy_145 hl (by decide) rfl (fun ls hl => ?_)
        obtain ⟨n, h⟩ := h
        refine L147_ok v_grid l1 l3 l4 l6 _ (fun l7_5 H locs ls h hP hD hS hl => ?_) n l6 _ _ _ h hP hD hS (lv_sub hl [1, 2, 3, 4, 5, 0] rfl)
        refine lv_iload hx hb dX8_treesBy_179 (lv_at hl 5 rfl) ?_
        refine lv_iload_n hx hb dX8_treesBy_181 rfl (lv_at hl 2 rfl) ?_
        refine lv_icmp_ne (tgt := 187) hx hb dX8_treesBy_182 (by decide) (fun hc => ?_) (fun hc => ?_)
        · replace h := h.1 hc
          refine lv_iconst (v := 0) hx hb dX8_treesBy_187 (by decide) ?_
          refine lv_istore (lv' := [(8, .int (0 : Int32)), (0, .ref a_this), (1, .long l1), (3, .int l3), (4, .long l4), (6, .int l6), (7, .int l7_5)]) hx hb dX8_treesBy_188 hl (by decide) rfl (fun ls hl => ?_)
          obtain ⟨n, h⟩ := h
          refine L190_ok l1 l3 l4 l6 l7_5 _ (fun v_grid_6 H locs ls h hP hD hS hl => ?_) n (0 : Int32) v_grid _ _ _ h hP hD hS (lv_sub hl [1, 2, 3, 4, 5, 6, 0] rfl)
          refine lv_iload hx hb dX8_treesBy_265 (lv_at hl 5 rfl) ?_
          refine lv_iload hx hb dX8_treesBy_267 (lv_at hl 4 rfl) ?_
          refine lv_icmp_ne (tgt := 277) hx hb dX8_treesBy_269 (by decide) (fun hc => ?_) (fun hc => ?_)
          · replace h := h.1 hc
            refine lv_lload_n hx hb dX8_treesBy_277 rfl (lv_at hl 1 rfl) ?_
            refine lv_lload hx hb dX8_treesBy_278 (lv_at hl 3 rfl) ?_
            refine lv_lsub hx hb dX8_treesBy_280 ?_
            refine lv_lload_n hx hb dX8_treesBy_281 rfl (lv_at hl 1 rfl) ?_
            obtain ⟨hne, h⟩ := h
            refine lv_lrem hx hb dX8_treesBy_282 hne ?_
            exact J283_ok l1 l3 _ hkx185 _ hkx444 _ ih l6 v_grid_6 ((l1 - l4) - (l1 - l4) / l1 * l1) _ _ _ h hP hD hS (lv_sub hl [0, 1, 2, 4] rfl)
          · replace h := h.2 hc
            refine lv_lload hx hb dX8_treesBy_272 (lv_at hl 3 rfl) ?_
            refine lv_goto (tgt := 283) hx hb dX8_treesBy_274 (by decide) ?_
            exact J283_ok l1 l3 _ hkx185 _ hkx444 _ ih l6 v_grid_6 l4 _ _ _ h hP hD hS (lv_sub hl [0, 1, 2, 4] rfl)
        · replace h := h.2 hc
          exact hkx185 v_grid _ _ _ h hP hD hS (lv_sub hl [] rfl)
  have L44_ok : ∀ (l1 : Int64) (l3 : Int32) (l4 : Int32) (kx125 : (Nat → Int64) → Prop) (hkx125 : ∀ (v_grid : Nat → Int64) (H : Heap) (locs : List Loc) (ls : Array Slot), kx125 v_grid → va_P D vwCl (wd_X8_treesBy cI cZ cJ a_this a_grid a_looks a_nextFace a_cubeX a_cubeY a_cubeZ a_cubeOf a_lies a_handX a_handY a_handRight a_handUp a_order a_choice a_has a_atX a_atY a_right a_up a_bestX a_bestY a_shapeSize a_shapeRow a_leads a_imageX a_imageY a_row a_bestRow a_on a_onRight a_onUp a_queue v_cubes v_faces v_laid v_count v_step v_ended v_nets v_work v_bestWidth v_bestHeight v_bestNet v_shapes v_grid v_looks v_nextFace) H → va_D A (wd_X8_treesBy cI cZ cJ a_this a_grid a_looks a_nextFace a_cubeX a_cubeY a_cubeZ a_cubeOf a_lies a_handX a_handY a_handRight a_handUp a_order a_choice a_has a_atX a_atY a_right a_up a_bestX a_bestY a_shapeSize a_shapeRow a_leads a_imageX a_imageY a_row a_bestRow a_on a_onRight a_onUp a_queue v_cubes v_faces v_laid v_count v_step v_ended v_nets v_work v_bestWidth v_bestHeight v_bestNet v_shapes v_grid v_looks v_nextFace) → va_S A s.heap H locs → lv_has ls 16 [(0, .ref a_this), (1, .long l1), (3, .int l3), (4, .int l4)] → W p l e rm_X8_treesBy s m ([.ref a_this, .long p1] : List Value).toArray below meth c H locs 0 0 Q (F0 m 125 ls [])) (n : Nat) (l5 : Int32) (v_grid : Nat → Int64) (H : Heap) (locs : List Loc) (ls : Array Slot), lpN (wl_X8_treesBy_44 v_looks v_nextFace l1 l3 l4 kx125) n (l5, v_grid) → va_P D vwCl (wd_X8_treesBy cI cZ cJ a_this a_grid a_looks a_nextFace a_cubeX a_cubeY a_cubeZ a_cubeOf a_lies a_handX a_handY a_handRight a_handUp a_order a_choice a_has a_atX a_atY a_right a_up a_bestX a_bestY a_shapeSize a_shapeRow a_leads a_imageX a_imageY a_row a_bestRow a_on a_onRight a_onUp a_queue v_cubes v_faces v_laid v_count v_step v_ended v_nets v_work v_bestWidth v_bestHeight v_bestNet v_shapes v_grid v_looks v_nextFace) H → va_D A (wd_X8_treesBy cI cZ cJ a_this a_grid a_looks a_nextFace a_cubeX a_cubeY a_cubeZ a_cubeOf a_lies a_handX a_handY a_handRight a_handUp a_order a_choice a_has a_atX a_atY a_right a_up a_bestX a_bestY a_shapeSize a_shapeRow a_leads a_imageX a_imageY a_row a_bestRow a_on a_onRight a_onUp a_queue v_cubes v_faces v_laid v_count v_step v_ended v_nets v_work v_bestWidth v_bestHeight v_bestNet v_shapes v_grid v_looks v_nextFace) → va_S A s.heap H locs → lv_has ls 16 [(0, .ref a_this), (1, .long l1), (3, .int l3), (4, .int l4), (5, .int l5)] → W p l e rm_X8_treesBy s m ([.ref a_this, .long p1] : List Value).toArray below meth c H locs 0 0 Q (F0 m 44 ls []) := by
    intro l1 l3 l4 kx125 hkx125 n
    induction n with
    | zero => intro l5 v_grid H locs ls h; exact False.elim h
    | succ n ih =>
      intro l5 v_grid H locs ls h hP hD hS hl
      have h : wb_X8_treesBy_44 v_looks v_nextFace l1 l3 l4 kx125 (fun l5 v_grid => lpN (wl_X8_treesBy_44 v_looks v_nextFace l1 l3 l4 kx125) n (l5, v_grid)) l5 v_grid := h
      unfold wb_X8_treesBy_44 at h
      refine lv_iload hx hb dX8_treesBy_44 (lv_at hl 4 rfl) ?_
      refine lv_bipush (v := 6) hx hb dX8_treesBy_46 (by decide) ?_
      refine lv_icmp_ge (tgt := 125) hx hb dX8_treesBy_48 (by decide) (fun hc => ?_) (fun hc => ?_)
      · replace h := h.1 hc
        exact hkx125 v_grid _ _ _ h hP hD hS (lv_sub hl [0, 1, 2, 3] rfl)
      · replace h := h.2 hc
        refine lv_iload hx hb dX8_treesBy_51 (lv_at hl 4 rfl) ?_
        refine lv_iconst (v := 2) hx hb dX8_treesBy_53 (by decide) ?_
        refine lv_idiv hx hb dX8_treesBy_54 (by decide) ?_
        refine lv_aload_n hx hb dX8_treesBy_55 rfl (lv_at hl 0 rfl) ?_
        refine va_get (D := D) (ci := 8) (v := .ref a_looks) (C := RX8) (T := TX8) (N := 44) hx hb hts iX8 hown hK hP 0 rfl rfl 6 (by decide) f22 (fun _ h9 => h9) rfl dX8_treesBy_56 ?_
        refine lv_iload hx hb dX8_treesBy_59 (lv_at hl 3 rfl) ?_
        obtain ⟨hin, h⟩ := h
        refine va_iald hx hb hK hP 2 0 rfl rfl hin dX8_treesBy_61 ?_
        refine lv_iconst (v := 2) hx hb dX8_treesBy_62 (by decide) ?_
        refine lv_idiv hx hb dX8_treesBy_63 (by decide) ?_
        refine lv_icmp_eq (tgt := 119) hx hb dX8_treesBy_64 (by decide) (fun hc => ?_) (fun hc => ?_)
        · replace h := h.1 hc
          refine lv_iinc (v := (l5 + (1 : Int32))) (lv' := [(5, .int (l5 + (1 : Int32))), (0, .ref a_this), (1, .long l1), (3, .int l3), (4, .int l4)]) hx hb dX8_treesBy_119 hl (k := 4) rfl rfl (by decide) rfl (fun ls hl => ?_)
          refine lv_goto (tgt := 44) hx hb dX8_treesBy_122 (by decide) ?_
          exact ih (l5 + (1 : Int32)) v_grid _ _ _ h hP hD hS (lv_sub hl [1, 2, 3, 4, 0] rfl)
        · replace h := h.2 hc
          refine lv_aload_n hx hb dX8_treesBy_67 rfl (lv_at hl 0 rfl) ?_
          refine lv_iload hx hb dX8_treesBy_68 (lv_at hl 3 rfl) ?_
          refine lv_iload hx hb dX8_treesBy_70 (lv_at hl 4 rfl) ?_
          have hPc := hP.sub (ws' := (wd_X8_beside cI cZ cJ a_this a_nextFace a_cubeX a_cubeY a_cubeZ a_cubeOf a_looks a_lies a_handX a_handY a_handRight a_handUp a_order a_choice a_has a_atX a_atY a_right a_up a_bestX a_bestY a_shapeSize a_shapeRow a_leads a_grid a_imageX a_imageY a_row a_bestRow a_on a_onRight a_onUp a_queue v_cubes v_faces v_laid v_count v_step v_ended v_nets v_work v_bestWidth v_bestHeight v_bestNet v_shapes v_nextFace)) [0, 3] rfl
          have hDc := hD.sub (ws' := (wd_X8_beside cI cZ cJ a_this a_nextFace a_cubeX a_cubeY a_cubeZ a_cubeOf a_looks a_lies a_handX a_handY a_handRight a_handUp a_order a_choice a_has a_atX a_atY a_right a_up a_bestX a_bestY a_shapeSize a_shapeRow a_leads a_grid a_imageX a_imageY a_row a_bestRow a_on a_onRight a_onUp a_queue v_cubes v_faces v_laid v_count v_step v_ended v_nets v_work v_bestWidth v_bestHeight v_bestNet v_shapes v_nextFace)) [0, 3] (by decide) rfl
          have hFc := va_free (wc := (wd_X8_beside cI cZ cJ a_this a_nextFace a_cubeX a_cubeY a_cubeZ a_cubeOf a_looks a_lies a_handX a_handY a_handRight a_handUp a_order a_choice a_has a_atX a_atY a_right a_up a_bestX a_bestY a_shapeSize a_shapeRow a_leads a_grid a_imageX a_imageY a_row a_bestRow a_on a_onRight a_onUp a_queue v_cubes v_faces v_laid v_count v_step v_ended v_nets v_work v_bestWidth v_bestHeight v_bestNet v_shapes v_nextFace)) hD hS hA [0, 3] rfl
          refine va_calli (va_runV (As := [.int l4, .int l5]) (rest := []) C (c_X8_beside l D cI cZ cJ tb a_this a_nextFace a_cubeX a_cubeY a_cubeZ a_cubeOf a_looks a_lies a_handX a_handY a_handRight a_handUp a_order a_choice a_has a_atX a_atY a_right a_up a_bestX a_bestY a_shapeSize a_shapeRow a_leads a_grid a_imageX a_imageY a_row a_bestRow a_on a_onRight a_onUp a_queue v_cubes v_faces v_laid v_count v_step v_ended v_nets v_work v_bestWidth v_bestHeight v_bestNet v_shapes v_nextFace H.size l4 l5 h) (cwV 2 hts gX8_treesBy_X8_beside rfl rfl rfl (by decide +kernel) ⟨Nat.le_of_ble_eq_true rfl, Nat.le_of_ble_eq_true rfl⟩) ⟨q_pre.blind, va_recv hK hP (ci := 8) (q0 := 0) rfl rfl, fun U hU hW => ⟨rfl, q_pre.of hU hW hPc hK hDc hSt hS hFc hNw⟩⟩ rfl rfl hl.1 rfl (lv_room (Nat.le_of_ble_eq_true rfl)) dX8_treesBy_72 ⟨Nat.zero_le _, Nat.zero_le _⟩) hS (fun q _ h => hFc q h) hFc (fun r_7 u_8 t H1 locs ht hvm hw hB hz1 hk1 hS => ?_)
          obtain ⟨hP1, hK1, hD1⟩ := hB
          rw [ht] at hP1
          obtain ⟨hP, hD⟩ := va_join (wr := [(a_grid, .inl (cJ, 900, .inr (.inl v_grid))), (a_looks, .inl (cI, 30, .inl v_looks))]) (w1 := (wd_X8_beside cI cZ cJ a_this a_nextFace a_cubeX a_cubeY a_cubeZ a_cubeOf a_looks a_lies a_handX a_handY a_handRight a_handUp a_order a_choice a_has a_atX a_atY a_right a_up a_bestX a_bestY a_shapeSize a_shapeRow a_leads a_grid a_imageX a_imageY a_row a_bestRow a_on a_onRight a_onUp a_queue v_cubes v_faces v_laid v_count v_step v_ended v_nets v_work v_bestWidth v_bestHeight v_bestNet v_shapes v_nextFace)) hP hD [0, 3] [1, 2] rfl rfl (by decide) (by decide) hk1 hFc hP1 hD1
          clear hPc hDc hFc hP1 hD1 hK1 hk1 hz1 ht hvm
          replace h := hw
          clear hw
          generalize H1 = H at hP hS ⊢
          replace hP : va_P D vwCl (wd_X8_treesBy cI cZ cJ a_this a_grid a_looks a_nextFace a_cubeX a_cubeY a_cubeZ a_cubeOf a_lies a_handX a_handY a_handRight a_handUp a_order a_choice a_has a_atX a_atY a_right a_up a_bestX a_bestY a_shapeSize a_shapeRow a_leads a_imageX a_imageY a_row a_bestRow a_on a_onRight a_onUp a_queue v_cubes v_faces v_laid v_count v_step v_ended v_nets v_work v_bestWidth v_bestHeight v_bestNet v_shapes v_grid v_looks v_nextFace) H := hP.sub [2, 0, 1, 3] rfl
          replace hD : va_D A (wd_X8_treesBy cI cZ cJ a_this a_grid a_looks a_nextFace a_cubeX a_cubeY a_cubeZ a_cubeOf a_lies a_handX a_handY a_handRight a_handUp a_order a_choice a_has a_atX a_atY a_right a_up a_bestX a_bestY a_shapeSize a_shapeRow a_leads a_imageX a_imageY a_row a_bestRow a_on a_onRight a_onUp a_queue v_cubes v_faces v_laid v_count v_step v_ended v_nets v_work v_bestWidth v_bestHeight v_bestNet v_shapes v_grid v_looks v_nextFace) := hD.sub [2, 0, 1, 3] (by decide) rfl
          refine lv_istore (lv' := [(6, .int r_7), (0, .ref a_this), (1, .long l1), (3, .int l3), (4, .int l4), (5, .int l5)]) hx hb dX8_treesBy_75 hl (by decide) rfl (fun ls hl => ?_)
          refine lv_aload_n hx hb dX8_treesBy_77 rfl (lv_at hl 1 rfl) ?_
          refine va_get (D := D) (ci := 8) (v := .ref a_grid) (C := RX8) (T := TX8) (N := 44) hx hb hts iX8 hown hK hP 0 rfl rfl 35 (by decide) f80 (fun _ h9 => h9) rfl dX8_treesBy_78 ?_
          refine lv_bipush (v := 30) hx hb dX8_treesBy_81 (by decide) ?_
          refine lv_iload hx hb dX8_treesBy_83 (lv_at hl 4 rfl) ?_
          refine lv_imul hx hb dX8_treesBy_85 ?_
          refine lv_iload hx hb dX8_treesBy_86 (lv_at hl 4 rfl) ?_
          refine lv_iadd hx hb dX8_treesBy_88 ?_
          refine lv_dup2_11 hx hb dX8_treesBy_89 rfl rfl ?_
          obtain ⟨hin, h⟩ := h
          refine va_lald hx hb hK hP 1 2 rfl rfl hin dX8_treesBy_90 ?_
          refine lv_lconst (v := 1) hx hb dX8_treesBy_91 (by decide) ?_
          refine lv_ladd hx hb dX8_treesBy_92 ?_
          obtain ⟨hin, h⟩ := h
          refine va_last hx hb hK hP hD hS 1 2 rfl rfl hin dX8_treesBy_93 (fun H locs hP hD hS => ?_)
          replace hP : va_P D vwCl (wd_X8_treesBy cI cZ cJ a_this a_grid a_looks a_nextFace a_cubeX a_cubeY a_cubeZ a_cubeOf a_lies a_handX a_handY a_handRight a_handUp a_order a_choice a_has a_atX a_atY a_right a_up a_bestX a_bestY a_shapeSize a_shapeRow a_leads a_imageX a_imageY a_row a_bestRow a_on a_onRight a_onUp a_queue v_cubes v_faces v_laid v_count v_step v_ended v_nets v_work v_bestWidth v_bestHeight v_bestNet v_shapes (vp_updL v_grid (((30 : Int32) * l4) + l4).toNatClampNeg ((v_grid (((30 : Int32) * l4) + l4).toNatClampNeg) + (1 : Int64))) v_looks v_nextFace) H := hP
          replace hD : va_D A (wd_X8_treesBy cI cZ cJ a_this a_grid a_looks a_nextFace a_cubeX a_cubeY a_cubeZ a_cubeOf a_lies a_handX a_handY a_handRight a_handUp a_order a_choice a_has a_atX a_atY a_right a_up a_bestX a_bestY a_shapeSize a_shapeRow a_leads a_imageX a_imageY a_row a_bestRow a_on a_onRight a_onUp a_queue v_cubes v_faces v_laid v_count v_step v_ended v_nets v_work v_bestWidth v_bestHeight v_bestNet v_shapes (vp_updL v_grid (((30 : Int32) * l4) + l4).toNatClampNeg ((v_grid (((30 : Int32) * l4) + l4).toNatClampNeg) + (1 : Int64))) v_looks v_nextFace) := hD
          refine lv_iload hx hb dX8_treesBy_94 (lv_at hl 0 rfl) ?_
          refine lv_iload_n hx hb dX8_treesBy_96 rfl (lv_at hl 3 rfl) ?_
          refine lv_icmp_ge (tgt := 119) hx hb dX8_treesBy_97 (by decide) (fun hc => ?_) (fun hc => ?_)
          · replace h := h.1 hc
            refine lv_iinc (v := (l5 + (1 : Int32))) (lv' := [(5, .int (l5 + (1 : Int32))), (6, .int r_7), (0, .ref a_this), (1, .long l1), (3, .int l3), (4, .int l4)]) hx hb dX8_treesBy_119 hl (k := 5) rfl rfl (by decide) rfl (fun ls hl => ?_)
            refine lv_goto (tgt := 44) hx hb dX8_treesBy_122 (by decide) ?_
            exact ih (l5 + (1 : Int32)) (vp_updL v_grid (((30 : Int32) * l4) + l4).toNatClampNeg ((v_grid (((30 : Int32) * l4) + l4).toNatClampNeg) + (1 : Int64))) _ _ _ h hP hD hS (lv_sub hl [2, 3, 4, 5, 0] rfl)
          · replace h := h.2 hc
            refine lv_aload_n hx hb dX8_treesBy_100 rfl (lv_at hl 1 rfl) ?_
            refine va_get (D := D) (ci := 8) (v := .ref a_grid) (C := RX8) (T := TX8) (N := 44) hx hb hts iX8 hown hK hP 0 rfl rfl 35 (by decide) f80 (fun _ h9 => h9) rfl dX8_treesBy_101 ?_
            refine lv_bipush (v := 30) hx hb dX8_treesBy_104 (by decide) ?_
            refine lv_iload hx hb dX8_treesBy_106 (lv_at hl 4 rfl) ?_
            refine lv_imul hx hb dX8_treesBy_108 ?_
            refine lv_iload hx hb dX8_treesBy_109 (lv_at hl 0 rfl) ?_
            refine lv_iadd hx hb dX8_treesBy_111 ?_
            refine lv_dup2_11 hx hb dX8_treesBy_112 rfl rfl ?_
            obtain ⟨hin, h⟩ := h
            refine va_lald hx hb hK hP 1 2 rfl rfl hin dX8_treesBy_113 ?_
            refine lv_lload_n hx hb dX8_treesBy_114 rfl (lv_at hl 2 rfl) ?_
            refine lv_lconst (v := 1) hx hb dX8_treesBy_115 (by decide) ?_
            refine lv_lsub hx hb dX8_treesBy_116 ?_
            refine lv_ladd hx hb dX8_treesBy_117 ?_
            obtain ⟨hin, h⟩ := h
            refine va_last hx hb hK hP hD hS 1 2 rfl rfl hin dX8_treesBy_118 (fun H locs hP hD hS => ?_)
            replace hP : va_P D vwCl (wd_X8_treesBy cI cZ cJ a_this a_grid a_looks a_nextFace a_cubeX a_cubeY a_cubeZ a_cubeOf a_lies a_handX a_handY a_handRight a_handUp a_order a_choice a_has a_atX a_atY a_right a_up a_bestX a_bestY a_shapeSize a_shapeRow a_leads a_imageX a_imageY a_row a_bestRow a_on a_onRight a_onUp a_queue v_cubes v_faces v_laid v_count v_step v_ended v_nets v_work v_bestWidth v_bestHeight v_bestNet v_shapes (vp_updL (vp_updL v_grid (((30 : Int32) * l4) + l4).toNatClampNeg ((v_grid (((30 : Int32) * l4) + l4).toNatClampNeg) + (1 : Int64))) (((30 : Int32) * l4) + r_7).toNatClampNeg (((vp_updL v_grid (((30 : Int32) * l4) + l4).toNatClampNeg ((v_grid (((30 : Int32) * l4) + l4).toNatClampNeg) + (1 : Int64))) (((30 : Int32) * l4) + r_7).toNatClampNeg) + (l1 - (1 : Int64)))) v_looks v_nextFace) H := hP
            replace hD : va_D A (wd_X8_treesBy cI cZ cJ a_this a_grid a_looks a_nextFace a_cubeX a_cubeY a_cubeZ a_cubeOf a_lies a_handX a_handY a_handRight a_handUp a_order a_choice a_has a_atX a_atY a_right a_up a_bestX a_bestY a_shapeSize a_shapeRow a_leads a_imageX a_imageY a_row a_bestRow a_on a_onRight a_onUp a_queue v_cubes v_faces v_laid v_count v_step v_ended v_nets v_work v_bestWidth v_bestHeight v_bestNet v_shapes (vp_updL (vp_updL v_grid (((30 : Int32) * l4) + l4).toNatClampNeg ((v_grid (((30 : Int32) * l4) + l4).toNatClampNeg) + (1 : Int64))) (((30 : Int32) * l4) + r_7).toNatClampNeg (((vp_updL v_grid (((30 : Int32) * l4) + l4).toNatClampNeg ((v_grid (((30 : Int32) * l4) + l4).toNatClampNeg) + (1 : Int64))) (((30 : Int32) * l4) + r_7).toNatClampNeg) + (l1 - (1 : Int64)))) v_looks v_nextFace) := hD
            refine lv_iinc (v := (l5 + (1 : Int32))) (lv' := [(5, .int (l5 + (1 : Int32))), (6, .int r_7), (0, .ref a_this), (1, .long l1), (3, .int l3), (4, .int l4)]) hx hb dX8_treesBy_119 hl (k := 5) rfl rfl (by decide) rfl (fun ls hl => ?_)
            refine lv_goto (tgt := 44) hx hb dX8_treesBy_122 (by decide) ?_
            exact ih (l5 + (1 : Int32)) (vp_updL (vp_updL v_grid (((30 : Int32) * l4) + l4).toNatClampNeg ((v_grid (((30 : Int32) * l4) + l4).toNatClampNeg) + (1 : Int64))) (((30 : Int32) * l4) + r_7).toNatClampNeg (((vp_updL v_grid (((30 : Int32) * l4) + l4).toNatClampNeg ((v_grid (((30 : Int32) * l4) + l4).toNatClampNeg) + (1 : Int64))) (((30 : Int32) * l4) + r_7).toNatClampNeg) + (l1 - (1 : Int64)))) _ _ _ h hP hD hS (lv_sub hl [2, 3, 4, 5, 0] rfl)
  have L35_ok : ∀ (l1 : Int64) (l3 : Int32) (kx131 : (Nat → Int64) → Prop) (hkx131 : ∀ (v_grid : Nat → Int64) (H : Heap) (locs : List Loc) (ls : Array Slot), kx131 v_grid → va_P D vwCl (wd_X8_treesBy cI cZ cJ a_this a_grid a_looks a_nextFace a_cubeX a_cubeY a_cubeZ a_cubeOf a_lies a_handX a_handY a_handRight a_handUp a_order a_choice a_has a_atX a_atY a_right a_up a_bestX a_bestY a_shapeSize a_shapeRow a_leads a_imageX a_imageY a_row a_bestRow a_on a_onRight a_onUp a_queue v_cubes v_faces v_laid v_count v_step v_ended v_nets v_work v_bestWidth v_bestHeight v_bestNet v_shapes v_grid v_looks v_nextFace) H → va_D A (wd_X8_treesBy cI cZ cJ a_this a_grid a_looks a_nextFace a_cubeX a_cubeY a_cubeZ a_cubeOf a_lies a_handX a_handY a_handRight a_handUp a_order a_choice a_has a_atX a_atY a_right a_up a_bestX a_bestY a_shapeSize a_shapeRow a_leads a_imageX a_imageY a_row a_bestRow a_on a_onRight a_onUp a_queue v_cubes v_faces v_laid v_count v_step v_ended v_nets v_work v_bestWidth v_bestHeight v_bestNet v_shapes v_grid v_looks v_nextFace) → va_S A s.heap H locs → lv_has ls 16 [(0, .ref a_this), (1, .long l1), (3, .int l3)] → W p l e rm_X8_treesBy s m ([.ref a_this, .long p1] : List Value).toArray below meth c H locs 0 0 Q (F0 m 131 ls [])) (n : Nat) (l4 : Int32) (v_grid : Nat → Int64) (H : Heap) (locs : List Loc) (ls : Array Slot), lpN (wl_X8_treesBy_35 v_looks v_nextFace l1 l3 kx131) n (l4, v_grid) → va_P D vwCl (wd_X8_treesBy cI cZ cJ a_this a_grid a_looks a_nextFace a_cubeX a_cubeY a_cubeZ a_cubeOf a_lies a_handX a_handY a_handRight a_handUp a_order a_choice a_has a_atX a_atY a_right a_up a_bestX a_bestY a_shapeSize a_shapeRow a_leads a_imageX a_imageY a_row a_bestRow a_on a_onRight a_onUp a_queue v_cubes v_faces v_laid v_count v_step v_ended v_nets v_work v_bestWidth v_bestHeight v_bestNet v_shapes v_grid v_looks v_nextFace) H → va_D A (wd_X8_treesBy cI cZ cJ a_this a_grid a_looks a_nextFace a_cubeX a_cubeY a_cubeZ a_cubeOf a_lies a_handX a_handY a_handRight a_handUp a_order a_choice a_has a_atX a_atY a_right a_up a_bestX a_bestY a_shapeSize a_shapeRow a_leads a_imageX a_imageY a_row a_bestRow a_on a_onRight a_onUp a_queue v_cubes v_faces v_laid v_count v_step v_ended v_nets v_work v_bestWidth v_bestHeight v_bestNet v_shapes v_grid v_looks v_nextFace) → va_S A s.heap H locs → lv_has ls 16 [(0, .ref a_this), (1, .long l1), (3, .int l3), (4, .int l4)] → W p l e rm_X8_treesBy s m ([.ref a_this, .long p1] : List Value).toArray below meth c H locs 0 0 Q (F0 m 35 ls []) := by
    intro l1 l3 kx131 hkx131 n
    induction n with
    | zero => intro l4 v_grid H locs ls h; exact False.elim h
    | succ n ih =>
      intro l4 v_grid H locs ls h hP hD hS hl
      have h : wb_X8_treesBy_35 v_looks v_nextFace l1 l3 kx131 (fun l4 v_grid => lpN (wl_X8_treesBy_35 v_looks v_nextFace l1 l3 kx131) n (l4, v_grid)) l4 v_grid := h
      unfold wb_X8_treesBy_35 at h
      refine lv_iload hx hb dX8_treesBy_35 (lv_at hl 3 rfl) ?_
      refine lv_iload_n hx hb dX8_treesBy_37 rfl (lv_at hl 2 rfl) ?_
      refine lv_icmp_ge (tgt := 131) hx hb dX8_treesBy_38 (by decide) (fun hc => ?_) (fun hc => ?_)
      · replace h := h.1 hc
        exact hkx131 v_grid _ _ _ h hP hD hS (lv_sub hl [0, 1, 2] rfl)
      · replace h := h.2 hc
        refine lv_iconst (v := 0) hx hb dX8_treesBy_41 (by decide) ?_
        refine lv_istore (lv' := [(5, .int (0 : Int32)), (0, .ref a_this), (1, .long l1), (3, .int l3), (4, .int l4)]) hx hb dX8_treesBy_42 hl (by decide) rfl (fun ls hl => ?_)
        obtain ⟨n, h⟩ := h
        refine L44_ok l1 l3 l4 _ (fun v_grid_9 H locs ls h hP hD hS hl => ?_) n (0 : Int32) v_grid _ _ _ h hP hD hS (lv_sub hl [1, 2, 3, 4, 0] rfl)
        refine lv_iinc (v := (l4 + (1 : Int32))) (lv' := [(4, .int (l4 + (1 : Int32))), (0, .ref a_this), (1, .long l1), (3, .int l3)]) hx hb dX8_treesBy_125 hl (k := 3) rfl rfl (by decide) rfl (fun ls hl => ?_)
        refine lv_goto (tgt := 35) hx hb dX8_treesBy_128 (by decide) ?_
        exact ih (l4 + (1 : Int32)) v_grid_9 _ _ _ h hP hD hS (lv_sub hl [1, 2, 3, 0] rfl)
  have L10_ok : ∀ (l1 : Int64) (l3 : Int32) (kx32 : (Nat → Int64) → Prop) (hkx32 : ∀ (v_grid : Nat → Int64) (H : Heap) (locs : List Loc) (ls : Array Slot), kx32 v_grid → va_P D vwCl (wd_X8_treesBy cI cZ cJ a_this a_grid a_looks a_nextFace a_cubeX a_cubeY a_cubeZ a_cubeOf a_lies a_handX a_handY a_handRight a_handUp a_order a_choice a_has a_atX a_atY a_right a_up a_bestX a_bestY a_shapeSize a_shapeRow a_leads a_imageX a_imageY a_row a_bestRow a_on a_onRight a_onUp a_queue v_cubes v_faces v_laid v_count v_step v_ended v_nets v_work v_bestWidth v_bestHeight v_bestNet v_shapes v_grid v_looks v_nextFace) H → va_D A (wd_X8_treesBy cI cZ cJ a_this a_grid a_looks a_nextFace a_cubeX a_cubeY a_cubeZ a_cubeOf a_lies a_handX a_handY a_handRight a_handUp a_order a_choice a_has a_atX a_atY a_right a_up a_bestX a_bestY a_shapeSize a_shapeRow a_leads a_imageX a_imageY a_row a_bestRow a_on a_onRight a_onUp a_queue v_cubes v_faces v_laid v_count v_step v_ended v_nets v_work v_bestWidth v_bestHeight v_bestNet v_shapes v_grid v_looks v_nextFace) → va_S A s.heap H locs → lv_has ls 16 [(0, .ref a_this), (1, .long l1), (3, .int l3)] → W p l e rm_X8_treesBy s m ([.ref a_this, .long p1] : List Value).toArray below meth c H locs 0 0 Q (F0 m 32 ls [])) (n : Nat) (l4 : Int32) (v_grid : Nat → Int64) (H : Heap) (locs : List Loc) (ls : Array Slot), lpN (wl_X8_treesBy_10 kx32) n (l4, v_grid) → va_P D vwCl (wd_X8_treesBy cI cZ cJ a_this a_grid a_looks a_nextFace a_cubeX a_cubeY a_cubeZ a_cubeOf a_lies a_handX a_handY a_handRight a_handUp a_order a_choice a_has a_atX a_atY a_right a_up a_bestX a_bestY a_shapeSize a_shapeRow a_leads a_imageX a_imageY a_row a_bestRow a_on a_onRight a_onUp a_queue v_cubes v_faces v_laid v_count v_step v_ended v_nets v_work v_bestWidth v_bestHeight v_bestNet v_shapes v_grid v_looks v_nextFace) H → va_D A (wd_X8_treesBy cI cZ cJ a_this a_grid a_looks a_nextFace a_cubeX a_cubeY a_cubeZ a_cubeOf a_lies a_handX a_handY a_handRight a_handUp a_order a_choice a_has a_atX a_atY a_right a_up a_bestX a_bestY a_shapeSize a_shapeRow a_leads a_imageX a_imageY a_row a_bestRow a_on a_onRight a_onUp a_queue v_cubes v_faces v_laid v_count v_step v_ended v_nets v_work v_bestWidth v_bestHeight v_bestNet v_shapes v_grid v_looks v_nextFace) → va_S A s.heap H locs → lv_has ls 16 [(0, .ref a_this), (1, .long l1), (3, .int l3), (4, .int l4)] → W p l e rm_X8_treesBy s m ([.ref a_this, .long p1] : List Value).toArray below meth c H locs 0 0 Q (F0 m 10 ls []) := by
    intro l1 l3 kx32 hkx32 n
    induction n with
    | zero => intro l4 v_grid H locs ls h; exact False.elim h
    | succ n ih =>
      intro l4 v_grid H locs ls h hP hD hS hl
      have h : wb_X8_treesBy_10 kx32 (fun l4 v_grid => lpN (wl_X8_treesBy_10 kx32) n (l4, v_grid)) l4 v_grid := h
      unfold wb_X8_treesBy_10 at h
      refine lv_iload hx hb dX8_treesBy_10 (lv_at hl 3 rfl) ?_
      refine lv_sipush (v := 900) hx hb dX8_treesBy_12 (by decide) ?_
      refine lv_icmp_ge (tgt := 32) hx hb dX8_treesBy_15 (by decide) (fun hc => ?_) (fun hc => ?_)
      · replace h := h.1 hc
        exact hkx32 v_grid _ _ _ h hP hD hS (lv_sub hl [0, 1, 2] rfl)
      · replace h := h.2 hc
        refine lv_aload_n hx hb dX8_treesBy_18 rfl (lv_at hl 0 rfl) ?_
        refine va_get (D := D) (ci := 8) (v := .ref a_grid) (C := RX8) (T := TX8) (N := 44) hx hb hts iX8 hown hK hP 0 rfl rfl 35 (by decide) f80 (fun _ h9 => h9) rfl dX8_treesBy_19 ?_
        refine lv_iload hx hb dX8_treesBy_22 (lv_at hl 3 rfl) ?_
        refine lv_lconst (v := 0) hx hb dX8_treesBy_24 (by decide) ?_
        obtain ⟨hin, h⟩ := h
        refine va_last hx hb hK hP hD hS 1 2 rfl rfl hin dX8_treesBy_25 (fun H locs hP hD hS => ?_)
        replace hP : va_P D vwCl (wd_X8_treesBy cI cZ cJ a_this a_grid a_looks a_nextFace a_cubeX a_cubeY a_cubeZ a_cubeOf a_lies a_handX a_handY a_handRight a_handUp a_order a_choice a_has a_atX a_atY a_right a_up a_bestX a_bestY a_shapeSize a_shapeRow a_leads a_imageX a_imageY a_row a_bestRow a_on a_onRight a_onUp a_queue v_cubes v_faces v_laid v_count v_step v_ended v_nets v_work v_bestWidth v_bestHeight v_bestNet v_shapes (vp_updL v_grid l4.toNatClampNeg (0 : Int64)) v_looks v_nextFace) H := hP
        replace hD : va_D A (wd_X8_treesBy cI cZ cJ a_this a_grid a_looks a_nextFace a_cubeX a_cubeY a_cubeZ a_cubeOf a_lies a_handX a_handY a_handRight a_handUp a_order a_choice a_has a_atX a_atY a_right a_up a_bestX a_bestY a_shapeSize a_shapeRow a_leads a_imageX a_imageY a_row a_bestRow a_on a_onRight a_onUp a_queue v_cubes v_faces v_laid v_count v_step v_ended v_nets v_work v_bestWidth v_bestHeight v_bestNet v_shapes (vp_updL v_grid l4.toNatClampNeg (0 : Int64)) v_looks v_nextFace) := hD
        refine lv_iinc (v := (l4 + (1 : Int32))) (lv' := [(4, .int (l4 + (1 : Int32))), (0, .ref a_this), (1, .long l1), (3, .int l3)]) hx hb dX8_treesBy_26 hl (k := 3) rfl rfl (by decide) rfl (fun ls hl => ?_)
        refine lv_goto (tgt := 10) hx hb dX8_treesBy_29 (by decide) ?_
        exact ih (l4 + (1 : Int32)) (vp_updL v_grid l4.toNatClampNeg (0 : Int64)) _ _ _ h hP hD hS (lv_sub hl [1, 2, 3, 0] rfl)
  unfold wp_X8_treesBy at h
  refine lv_aload_n hx hb dX8_treesBy_0 rfl (lv_at hl 0 rfl) ?_
  refine va_get (D := D) (ci := 8) (v := .int v_faces) (C := RX8) (T := TX8) (N := 44) hx hb hts iX8 hown hK hP 0 rfl rfl 4 (by decide) f115 (fun _ h9 => h9) rfl dX8_treesBy_1 ?_
  refine lv_iconst (v := 1) hx hb dX8_treesBy_4 (by decide) ?_
  refine lv_isub hx hb dX8_treesBy_5 ?_
  refine lv_istore_n (lv' := [(3, .int (v_faces - (1 : Int32))), (0, .ref a_this), (1, .long p1)]) hx hb dX8_treesBy_6 rfl hl (by decide) rfl (fun ls hl => ?_)
  refine lv_iconst (v := 0) hx hb dX8_treesBy_7 (by decide) ?_
  refine lv_istore (lv' := [(4, .int (0 : Int32)), (3, .int (v_faces - (1 : Int32))), (0, .ref a_this), (1, .long p1)]) hx hb dX8_treesBy_8 hl (by decide) rfl (fun ls hl => ?_)
  obtain ⟨n, h⟩ := h
  refine L10_ok p1 (v_faces - (1 : Int32)) _ (fun v_grid_10 H locs ls h hP hD hS hl => ?_) n (0 : Int32) v_grid _ _ _ h hP hD hS (lv_sub hl [2, 3, 1, 0] rfl)
  refine lv_iconst (v := 0) hx hb dX8_treesBy_32 (by decide) ?_
  refine lv_istore (lv' := [(4, .int (0 : Int32)), (0, .ref a_this), (1, .long p1), (3, .int (v_faces - (1 : Int32)))]) hx hb dX8_treesBy_33 hl (by decide) rfl (fun ls hl => ?_)
  obtain ⟨n, h⟩ := h
  refine L35_ok p1 (v_faces - (1 : Int32)) _ (fun v_grid_11 H locs ls h hP hD hS hl => ?_) n (0 : Int32) v_grid_10 _ _ _ h hP hD hS (lv_sub hl [1, 2, 3, 0] rfl)
  refine lv_lconst (v := 1) hx hb dX8_treesBy_131 (by decide) ?_
  refine lv_lstore (lv' := [(4, .long (1 : Int64)), (0, .ref a_this), (1, .long p1), (3, .int (v_faces - (1 : Int32)))]) hx hb dX8_treesBy_132 hl (by decide) rfl (fun ls hl => ?_)
  refine lv_iconst (v := 0) hx hb dX8_treesBy_134 (by decide) ?_
  refine lv_istore (lv' := [(6, .int (0 : Int32)), (4, .long (1 : Int64)), (0, .ref a_this), (1, .long p1), (3, .int (v_faces - (1 : Int32)))]) hx hb dX8_treesBy_135 hl (by decide) rfl (fun ls hl => ?_)
  obtain ⟨n, h⟩ := h
  refine L137_ok p1 (v_faces - (1 : Int32)) _ (fun v_grid_12 H locs ls h hP hD hS hl => ?_) _ (fun l4_13 v_grid_14 H locs ls h hP hD hS hl => ?_) n (1 : Int64) (0 : Int32) v_grid_11 _ _ _ h hP hD hS (lv_sub hl [2, 3, 4, 1, 0] rfl)
  · refine lv_lconst (v := 0) hx hb dX8_treesBy_185 (by decide) ?_
    exact ret (0 : Int64) v_grid_12 _ _ _ 186 dX8_treesBy_186 h hP hD hS
  · refine lv_lload hx hb dX8_treesBy_444 (lv_at hl 0 rfl) ?_
    exact ret l4_13 v_grid_14 _ _ _ 446 dX8_treesBy_446 h hP hD hS
def wd_X8_trees (cI cZ cJ : ClassId) (a_this a_grid a_looks a_nextFace a_cubeX a_cubeY a_cubeZ a_cubeOf a_lies a_handX a_handY a_handRight a_handUp a_order a_choice a_has a_atX a_atY a_right a_up a_bestX a_bestY a_shapeSize a_shapeRow a_leads a_imageX a_imageY a_row a_bestRow a_on a_onRight a_onUp a_queue : Nat) (v_cubes : Int32) (v_faces : Int32) (v_laid : Int32) (v_count : Int32) (v_step : Int32) (v_ended : Int32) (v_nets : Int32) (v_work : Int32) (v_bestWidth : Int32) (v_bestHeight : Int32) (v_bestNet : Int32) (v_shapes : Int32) (v_grid : Nat → Int64) (v_looks : Nat → Int32) (v_nextFace : Nat → Int32) : va_W := [(a_this, .inr (8, [.int v_cubes, .ref a_cubeX, .ref a_cubeY, .ref a_cubeZ, .int v_faces, .ref a_cubeOf, .ref a_looks, .int v_laid, .ref a_lies, .ref a_handX, .ref a_handY, .ref a_handRight, .ref a_handUp, .int v_count, .ref a_order, .ref a_choice, .ref a_has, .ref a_atX, .ref a_atY, .ref a_right, .ref a_up, .int v_step, .int v_ended, .int v_nets, .int v_work, .int v_bestWidth, .int v_bestHeight, .int v_bestNet, .ref a_bestX, .ref a_bestY, .int v_shapes, .ref a_shapeSize, .ref a_shapeRow, .ref a_nextFace, .ref a_leads, .ref a_grid, .ref a_imageX, .ref a_imageY, .ref a_row, .ref a_bestRow, .ref a_on, .ref a_onRight, .ref a_onUp, .ref a_queue])),
  (a_grid, .inl (cJ, 900, .inr (.inl v_grid))),
  (a_looks, .inl (cI, 30, .inl v_looks)),
  (a_nextFace, .inl (cI, 180, .inl v_nextFace))]
abbrev rm_X8_trees : Room := { frames := 2, cells := 0, slots := 0, locals := 66 }
set_option maxHeartbeats 4000000 in
set_option maxRecDepth 100000 in
theorem c_X8_trees (l : Launch) (D : va_G) (cI cZ cJ : ClassId) (tb : Nat → Nat) (a_this a_grid a_looks a_nextFace a_cubeX a_cubeY a_cubeZ a_cubeOf a_lies a_handX a_handY a_handRight a_handUp a_order a_choice a_has a_atX a_atY a_right a_up a_bestX a_bestY a_shapeSize a_shapeRow a_leads a_imageX a_imageY a_row a_bestRow a_on a_onRight a_onUp a_queue : Nat) (v_cubes : Int32) (v_faces : Int32) (v_laid : Int32) (v_count : Int32) (v_step : Int32) (v_ended : Int32) (v_nets : Int32) (v_work : Int32) (v_bestWidth : Int32) (v_bestHeight : Int32) (v_bestNet : Int32) (v_shapes : Int32) (v_grid : Nat → Int64) (v_looks : Nat → Int32) (v_nextFace : Nat → Int32) (sz : Nat) {post : Int64 → (Nat → Int64) → Prop} (h : wp_X8_trees v_cubes v_faces v_grid v_looks v_nextFace post) : Met l yX8_trees wsX8_trees rm_X8_trees (va_Pc [.ref a_this] (q_pre D cI cZ cJ tb (wd_X8_trees cI cZ cJ a_this a_grid a_looks a_nextFace a_cubeX a_cubeY a_cubeZ a_cubeOf a_lies a_handX a_handY a_handRight a_handUp a_order a_choice a_has a_atX a_atY a_right a_up a_bestX a_bestY a_shapeSize a_shapeRow a_leads a_imageX a_imageY a_row a_bestRow a_on a_onRight a_onUp a_queue v_cubes v_faces v_laid v_count v_step v_ended v_nets v_work v_bestWidth v_bestHeight v_bestNet v_shapes v_grid v_looks v_nextFace) sz)) (va_Ql (fun r (u : Nat → Int64) => post r u) (fun u => q_post D cI cZ cJ (va_A (wd_X8_trees cI cZ cJ a_this a_grid a_looks a_nextFace a_cubeX a_cubeY a_cubeZ a_cubeOf a_lies a_handX a_handY a_handRight a_handUp a_order a_choice a_has a_atX a_atY a_right a_up a_bestX a_bestY a_shapeSize a_shapeRow a_leads a_imageX a_imageY a_row a_bestRow a_on a_onRight a_onUp a_queue v_cubes v_faces v_laid v_count v_step v_ended v_nets v_work v_bestWidth v_bestHeight v_bestNet v_shapes v_grid v_looks v_nextFace) sz) (wd_X8_trees cI cZ cJ a_this a_grid a_looks a_nextFace a_cubeX a_cubeY a_cubeZ a_cubeOf a_lies a_handX a_handY a_handRight a_handUp a_order a_choice a_has a_atX a_atY a_right a_up a_bestX a_bestY a_shapeSize a_shapeRow a_leads a_imageX a_imageY a_row a_bestRow a_on a_onRight a_onUp a_queue v_cubes v_faces v_laid v_count v_step v_ended v_nets v_work v_bestWidth v_bestHeight v_bestNet v_shapes u v_looks v_nextFace)) (va_A (wd_X8_trees cI cZ cJ a_this a_grid a_looks a_nextFace a_cubeX a_cubeY a_cubeZ a_cubeOf a_lies a_handX a_handY a_handRight a_handUp a_order a_choice a_has a_atX a_atY a_right a_up a_bestX a_bestY a_shapeSize a_shapeRow a_leads a_imageX a_imageY a_row a_bestRow a_on a_onRight a_onUp a_queue v_cubes v_faces v_laid v_count v_step v_ended v_nets v_work v_bestWidth v_bestHeight v_bestNet v_shapes v_grid v_looks v_nextFace) sz)) 0 0 (va_A (wd_X8_trees cI cZ cJ a_this a_grid a_looks a_nextFace a_cubeX a_cubeY a_cubeZ a_cubeOf a_lies a_handX a_handY a_handRight a_handUp a_order a_choice a_has a_atX a_atY a_right a_up a_bestX a_bestY a_shapeSize a_shapeRow a_leads a_imageX a_imageY a_row a_bestRow a_on a_onRight a_onUp a_queue v_cubes v_faces v_laid v_count v_step v_ended v_nets v_work v_bestWidth v_bestHeight v_bestNet v_shapes v_grid v_looks v_nextFace) sz) := by
  refine q_walkl (cc := cX8_trees) (maxL := 11) (own := RX8) (wd := fun (u : Nat → Int64) => (wd_X8_trees cI cZ cJ a_this a_grid a_looks a_nextFace a_cubeX a_cubeY a_cubeZ a_cubeOf a_lies a_handX a_handY a_handRight a_handUp a_order a_choice a_has a_atX a_atY a_right a_up a_bestX a_bestY a_shapeSize a_shapeRow a_leads a_imageX a_imageY a_row a_bestRow a_on a_onRight a_onUp a_queue v_cubes v_faces v_laid v_count v_step v_ended v_nets v_work v_bestWidth v_bestHeight v_bestNet v_shapes u v_looks v_nextFace)) (by decide) rfl rfl (Nat.le_of_ble_eq_true rfl) ?_
  intro p e s m below meth c Q A ls C hA ret hP hD hS hK hSt hNw hl
  obtain ⟨hx, hb, hml, hown, hts⟩ := id C
  replace hl : lv_has ls 11 [(0, .ref a_this)] := hl
  have f118 := hts (.fieldLink RX8 118 "NetSearchModel" "cubes" "I") (by decide +kernel)
  have iX8 : ∀ w ∈ wsX80, w ∈ wsX8_trees := by decide +kernel
  have k200 := hts (.constantLong RX8 200 (2147483647)) (by decide +kernel)
  have k202 := hts (.constantLong RX8 202 (2147483629)) (by decide +kernel)
  have k192 := hts (.constantLong RX8 192 (2)) (by decide +kernel)
  have k198 := hts (.constantLong RX8 198 (-2)) (by decide +kernel)
  unfold wp_X8_trees at h
  refine lv_aload_n hx hb dX8_trees_0 rfl (lv_at hl 0 rfl) ?_
  refine va_get (D := D) (ci := 8) (v := .int v_cubes) (C := RX8) (T := TX8) (N := 44) hx hb hts iX8 hown hK hP 0 rfl rfl 0 (by decide) f118 (fun _ h9 => h9) rfl dX8_trees_1 ?_
  refine lv_if_ne (tgt := 11) hx hb dX8_trees_4 (by decide) (fun hc => ?_) (fun hc => ?_)
  · replace h := h.1 hc
    refine lv_ldc2 (v := 2147483647) hx hb hown k200 dX8_trees_11 ?_
    refine lv_lstore_n (lv' := [(1, .long (2147483647 : Int64)), (0, .ref a_this)]) hx hb dX8_trees_14 rfl hl (by decide) rfl (fun ls hl => ?_)
    refine lv_ldc2 (v := 2147483629) hx hb hown k202 dX8_trees_15 ?_
    refine lv_lstore_n (lv' := [(3, .long (2147483629 : Int64)), (1, .long (2147483647 : Int64)), (0, .ref a_this)]) hx hb dX8_trees_18 rfl hl (by decide) rfl (fun ls hl => ?_)
    refine lv_aload_n hx hb dX8_trees_19 rfl (lv_at hl 2 rfl) ?_
    refine lv_lload_n hx hb dX8_trees_20 rfl (lv_at hl 1 rfl) ?_
    have hPc := hP.sub (ws' := (wd_X8_treesBy cI cZ cJ a_this a_grid a_looks a_nextFace a_cubeX a_cubeY a_cubeZ a_cubeOf a_lies a_handX a_handY a_handRight a_handUp a_order a_choice a_has a_atX a_atY a_right a_up a_bestX a_bestY a_shapeSize a_shapeRow a_leads a_imageX a_imageY a_row a_bestRow a_on a_onRight a_onUp a_queue v_cubes v_faces v_laid v_count v_step v_ended v_nets v_work v_bestWidth v_bestHeight v_bestNet v_shapes v_grid v_looks v_nextFace)) [0, 1, 2, 3] rfl
    have hDc := hD.sub (ws' := (wd_X8_treesBy cI cZ cJ a_this a_grid a_looks a_nextFace a_cubeX a_cubeY a_cubeZ a_cubeOf a_lies a_handX a_handY a_handRight a_handUp a_order a_choice a_has a_atX a_atY a_right a_up a_bestX a_bestY a_shapeSize a_shapeRow a_leads a_imageX a_imageY a_row a_bestRow a_on a_onRight a_onUp a_queue v_cubes v_faces v_laid v_count v_step v_ended v_nets v_work v_bestWidth v_bestHeight v_bestNet v_shapes v_grid v_looks v_nextFace)) [0, 1, 2, 3] (by decide) rfl
    have hFc := va_free (wc := (wd_X8_treesBy cI cZ cJ a_this a_grid a_looks a_nextFace a_cubeX a_cubeY a_cubeZ a_cubeOf a_lies a_handX a_handY a_handRight a_handUp a_order a_choice a_has a_atX a_atY a_right a_up a_bestX a_bestY a_shapeSize a_shapeRow a_leads a_imageX a_imageY a_row a_bestRow a_on a_onRight a_onUp a_queue v_cubes v_faces v_laid v_count v_step v_ended v_nets v_work v_bestWidth v_bestHeight v_bestNet v_shapes v_grid v_looks v_nextFace)) hD hS hA [0, 1, 2, 3] rfl
    refine va_calll (va_runV (As := [.long (2147483647 : Int64)]) (rest := []) C (c_X8_treesBy l D cI cZ cJ tb a_this a_grid a_looks a_nextFace a_cubeX a_cubeY a_cubeZ a_cubeOf a_lies a_handX a_handY a_handRight a_handUp a_order a_choice a_has a_atX a_atY a_right a_up a_bestX a_bestY a_shapeSize a_shapeRow a_leads a_imageX a_imageY a_row a_bestRow a_on a_onRight a_onUp a_queue v_cubes v_faces v_laid v_count v_step v_ended v_nets v_work v_bestWidth v_bestHeight v_bestNet v_shapes v_grid v_looks v_nextFace s.heap.size (2147483647 : Int64) h) (cwV 1 hts gX8_trees_X8_treesBy rfl rfl rfl (by decide +kernel) ⟨Nat.le_of_ble_eq_true rfl, Nat.le_of_ble_eq_true rfl⟩) ⟨q_pre.blind, va_recv hK hP (ci := 8) (q0 := 0) rfl rfl, fun U hU hW => ⟨rfl, q_pre.of hU hW hPc hK hDc hSt hS hFc hNw⟩⟩ rfl rfl hl.1 rfl (lv_room (Nat.le_of_ble_eq_true rfl)) dX8_trees_21 ⟨Nat.zero_le _, Nat.zero_le _⟩) hS (fun q _ h => hFc q h) hFc (fun r_1 u_2 t H1 locs ht hvm hw hB hz1 hk1 hS => ?_)
    obtain ⟨hP1, hK1, hD1⟩ := hB
    rw [ht] at hP1
    obtain ⟨hP, hD⟩ := va_join (wr := []) (w1 := (wd_X8_treesBy cI cZ cJ a_this a_grid a_looks a_nextFace a_cubeX a_cubeY a_cubeZ a_cubeOf a_lies a_handX a_handY a_handRight a_handUp a_order a_choice a_has a_atX a_atY a_right a_up a_bestX a_bestY a_shapeSize a_shapeRow a_leads a_imageX a_imageY a_row a_bestRow a_on a_onRight a_onUp a_queue v_cubes v_faces v_laid v_count v_step v_ended v_nets v_work v_bestWidth v_bestHeight v_bestNet v_shapes u_2 v_looks v_nextFace)) hP hD [0, 1, 2, 3] [] rfl rfl (by decide) (by decide) hk1 hFc hP1 hD1
    clear hPc hDc hFc hP1 hD1 hK1 hk1 hz1 ht hvm
    replace h := hw
    clear hw
    generalize H1 = H at hP hS ⊢
    replace hP : va_P D vwCl (wd_X8_trees cI cZ cJ a_this a_grid a_looks a_nextFace a_cubeX a_cubeY a_cubeZ a_cubeOf a_lies a_handX a_handY a_handRight a_handUp a_order a_choice a_has a_atX a_atY a_right a_up a_bestX a_bestY a_shapeSize a_shapeRow a_leads a_imageX a_imageY a_row a_bestRow a_on a_onRight a_onUp a_queue v_cubes v_faces v_laid v_count v_step v_ended v_nets v_work v_bestWidth v_bestHeight v_bestNet v_shapes u_2 v_looks v_nextFace) H := hP.sub [0, 1, 2, 3] rfl
    replace hD : va_D A (wd_X8_trees cI cZ cJ a_this a_grid a_looks a_nextFace a_cubeX a_cubeY a_cubeZ a_cubeOf a_lies a_handX a_handY a_handRight a_handUp a_order a_choice a_has a_atX a_atY a_right a_up a_bestX a_bestY a_shapeSize a_shapeRow a_leads a_imageX a_imageY a_row a_bestRow a_on a_onRight a_onUp a_queue v_cubes v_faces v_laid v_count v_step v_ended v_nets v_work v_bestWidth v_bestHeight v_bestNet v_shapes u_2 v_looks v_nextFace) := hD.sub [0, 1, 2, 3] (by decide) rfl
    refine lv_lstore (lv' := [(5, .long r_1), (3, .long (2147483629 : Int64)), (1, .long (2147483647 : Int64)), (0, .ref a_this)]) hx hb dX8_trees_24 hl (by decide) rfl (fun ls hl => ?_)
    refine lv_aload_n hx hb dX8_trees_26 rfl (lv_at hl 3 rfl) ?_
    refine lv_lload_n hx hb dX8_trees_27 rfl (lv_at hl 1 rfl) ?_
    have hPc := hP.sub (ws' := (wd_X8_treesBy cI cZ cJ a_this a_grid a_looks a_nextFace a_cubeX a_cubeY a_cubeZ a_cubeOf a_lies a_handX a_handY a_handRight a_handUp a_order a_choice a_has a_atX a_atY a_right a_up a_bestX a_bestY a_shapeSize a_shapeRow a_leads a_imageX a_imageY a_row a_bestRow a_on a_onRight a_onUp a_queue v_cubes v_faces v_laid v_count v_step v_ended v_nets v_work v_bestWidth v_bestHeight v_bestNet v_shapes u_2 v_looks v_nextFace)) [0, 1, 2, 3] rfl
    have hDc := hD.sub (ws' := (wd_X8_treesBy cI cZ cJ a_this a_grid a_looks a_nextFace a_cubeX a_cubeY a_cubeZ a_cubeOf a_lies a_handX a_handY a_handRight a_handUp a_order a_choice a_has a_atX a_atY a_right a_up a_bestX a_bestY a_shapeSize a_shapeRow a_leads a_imageX a_imageY a_row a_bestRow a_on a_onRight a_onUp a_queue v_cubes v_faces v_laid v_count v_step v_ended v_nets v_work v_bestWidth v_bestHeight v_bestNet v_shapes u_2 v_looks v_nextFace)) [0, 1, 2, 3] (by decide) rfl
    have hFc := va_free (wc := (wd_X8_treesBy cI cZ cJ a_this a_grid a_looks a_nextFace a_cubeX a_cubeY a_cubeZ a_cubeOf a_lies a_handX a_handY a_handRight a_handUp a_order a_choice a_has a_atX a_atY a_right a_up a_bestX a_bestY a_shapeSize a_shapeRow a_leads a_imageX a_imageY a_row a_bestRow a_on a_onRight a_onUp a_queue v_cubes v_faces v_laid v_count v_step v_ended v_nets v_work v_bestWidth v_bestHeight v_bestNet v_shapes u_2 v_looks v_nextFace)) hD hS hA [0, 1, 2, 3] rfl
    refine va_calll (va_runV (As := [.long (2147483629 : Int64)]) (rest := []) C (c_X8_treesBy l D cI cZ cJ tb a_this a_grid a_looks a_nextFace a_cubeX a_cubeY a_cubeZ a_cubeOf a_lies a_handX a_handY a_handRight a_handUp a_order a_choice a_has a_atX a_atY a_right a_up a_bestX a_bestY a_shapeSize a_shapeRow a_leads a_imageX a_imageY a_row a_bestRow a_on a_onRight a_onUp a_queue v_cubes v_faces v_laid v_count v_step v_ended v_nets v_work v_bestWidth v_bestHeight v_bestNet v_shapes u_2 v_looks v_nextFace H.size (2147483629 : Int64) h) (cwV 1 hts gX8_trees_X8_treesBy rfl rfl rfl (by decide +kernel) ⟨Nat.le_of_ble_eq_true rfl, Nat.le_of_ble_eq_true rfl⟩) ⟨q_pre.blind, va_recv hK hP (ci := 8) (q0 := 0) rfl rfl, fun U hU hW => ⟨rfl, q_pre.of hU hW hPc hK hDc hSt hS hFc hNw⟩⟩ rfl rfl hl.1 rfl (lv_room (Nat.le_of_ble_eq_true rfl)) dX8_trees_28 ⟨Nat.zero_le _, Nat.zero_le _⟩) hS (fun q _ h => hFc q h) hFc (fun r_4 u_5 t H1 locs ht hvm hw hB hz1 hk1 hS => ?_)
    obtain ⟨hP1, hK1, hD1⟩ := hB
    rw [ht] at hP1
    obtain ⟨hP, hD⟩ := va_join (wr := []) (w1 := (wd_X8_treesBy cI cZ cJ a_this a_grid a_looks a_nextFace a_cubeX a_cubeY a_cubeZ a_cubeOf a_lies a_handX a_handY a_handRight a_handUp a_order a_choice a_has a_atX a_atY a_right a_up a_bestX a_bestY a_shapeSize a_shapeRow a_leads a_imageX a_imageY a_row a_bestRow a_on a_onRight a_onUp a_queue v_cubes v_faces v_laid v_count v_step v_ended v_nets v_work v_bestWidth v_bestHeight v_bestNet v_shapes u_5 v_looks v_nextFace)) hP hD [0, 1, 2, 3] [] rfl rfl (by decide) (by decide) hk1 hFc hP1 hD1
    clear hPc hDc hFc hP1 hD1 hK1 hk1 hz1 ht hvm
    replace h := hw
    clear hw
    generalize H1 = H at hP hS ⊢
    replace hP : va_P D vwCl (wd_X8_trees cI cZ cJ a_this a_grid a_looks a_nextFace a_cubeX a_cubeY a_cubeZ a_cubeOf a_lies a_handX a_handY a_handRight a_handUp a_order a_choice a_has a_atX a_atY a_right a_up a_bestX a_bestY a_shapeSize a_shapeRow a_leads a_imageX a_imageY a_row a_bestRow a_on a_onRight a_onUp a_queue v_cubes v_faces v_laid v_count v_step v_ended v_nets v_work v_bestWidth v_bestHeight v_bestNet v_shapes u_5 v_looks v_nextFace) H := hP.sub [0, 1, 2, 3] rfl
    replace hD : va_D A (wd_X8_trees cI cZ cJ a_this a_grid a_looks a_nextFace a_cubeX a_cubeY a_cubeZ a_cubeOf a_lies a_handX a_handY a_handRight a_handUp a_order a_choice a_has a_atX a_atY a_right a_up a_bestX a_bestY a_shapeSize a_shapeRow a_leads a_imageX a_imageY a_row a_bestRow a_on a_onRight a_onUp a_queue v_cubes v_faces v_laid v_count v_step v_ended v_nets v_work v_bestWidth v_bestHeight v_bestNet v_shapes u_5 v_looks v_nextFace) := hD.sub [0, 1, 2, 3] (by decide) rfl
    refine lv_lstore (lv' := [(7, .long r_4), (5, .long r_1), (3, .long (2147483629 : Int64)), (1, .long (2147483647 : Int64)), (0, .ref a_this)]) hx hb dX8_trees_31 hl (by decide) rfl (fun ls hl => ?_)
    refine lv_lload hx hb dX8_trees_33 (lv_at hl 0 rfl) ?_
    refine lv_lload hx hb dX8_trees_35 (lv_at hl 1 rfl) ?_
    refine lv_lload_n hx hb dX8_trees_37 rfl (lv_at hl 2 rfl) ?_
    refine lv_lrem hx hb dX8_trees_38 (by decide) ?_
    refine lv_lsub hx hb dX8_trees_39 ?_
    refine lv_lload_n hx hb dX8_trees_40 rfl (lv_at hl 2 rfl) ?_
    refine lv_ladd hx hb dX8_trees_41 ?_
    refine lv_lload_n hx hb dX8_trees_42 rfl (lv_at hl 2 rfl) ?_
    refine lv_lrem hx hb dX8_trees_43 (by decide) ?_
    refine lv_lload_n hx hb dX8_trees_44 rfl (lv_at hl 3 rfl) ?_
    refine lv_lload_n hx hb dX8_trees_45 rfl (lv_at hl 2 rfl) ?_
    refine lv_lrem hx hb dX8_trees_46 (by decide) ?_
    refine lv_lload_n hx hb dX8_trees_47 rfl (lv_at hl 2 rfl) ?_
    refine lv_ldc2 (v := 2) hx hb hown k192 dX8_trees_48 ?_
    refine lv_lsub hx hb dX8_trees_51 ?_
    refine lv_lload_n hx hb dX8_trees_52 rfl (lv_at hl 2 rfl) ?_
    have hPc := hP.sub (ws' := (wd_X8_power cI cZ cJ)) [] rfl
    have hDc := hD.sub (ws' := (wd_X8_power cI cZ cJ)) [] (by decide) rfl
    have hFc := va_free (wc := (wd_X8_power cI cZ cJ)) hD hS hA [] rfl
    refine va_calll (va_runS (As := [.long ((2147483647 : Int64) - (2147483647 : Int64) / (2147483629 : Int64) * (2147483629 : Int64)), .long ((2147483629 : Int64) - (2 : Int64)), .long (2147483629 : Int64)]) (rest := [.long (((r_4 - (r_1 - r_1 / (2147483629 : Int64) * (2147483629 : Int64))) + (2147483629 : Int64)) - ((r_4 - (r_1 - r_1 / (2147483629 : Int64) * (2147483629 : Int64))) + (2147483629 : Int64)) / (2147483629 : Int64) * (2147483629 : Int64))]) C (c_X8_power l D cI cZ cJ tb H.size ((2147483647 : Int64) - (2147483647 : Int64) / (2147483629 : Int64) * (2147483629 : Int64)) ((2147483629 : Int64) - (2 : Int64)) (2147483629 : Int64) h) (va_cwS 3 hts gX8_trees_X8_power rfl rfl rfl (by decide +kernel) ⟨Nat.le_of_ble_eq_true rfl, Nat.le_of_ble_eq_true rfl⟩) ⟨q_pre.blind, fun U hU hW => ⟨rfl, q_pre.of hU hW hPc hK hDc hSt hS hFc hNw⟩⟩ rfl rfl hl.1 rfl (lv_room (Nat.le_of_ble_eq_true rfl)) dX8_trees_53 ⟨Nat.zero_le _, Nat.zero_le _⟩) hS (fun q _ h => hFc q h) hFc (fun r_7 u_8 t H1 locs ht hvm hw hB hz1 hk1 hS => ?_)
    obtain ⟨hP1, hK1, hD1⟩ := hB
    rw [ht] at hP1
    obtain ⟨hP, hD⟩ := va_join (wr := [(a_this, .inr (8, [.int v_cubes, .ref a_cubeX, .ref a_cubeY, .ref a_cubeZ, .int v_faces, .ref a_cubeOf, .ref a_looks, .int v_laid, .ref a_lies, .ref a_handX, .ref a_handY, .ref a_handRight, .ref a_handUp, .int v_count, .ref a_order, .ref a_choice, .ref a_has, .ref a_atX, .ref a_atY, .ref a_right, .ref a_up, .int v_step, .int v_ended, .int v_nets, .int v_work, .int v_bestWidth, .int v_bestHeight, .int v_bestNet, .ref a_bestX, .ref a_bestY, .int v_shapes, .ref a_shapeSize, .ref a_shapeRow, .ref a_nextFace, .ref a_leads, .ref a_grid, .ref a_imageX, .ref a_imageY, .ref a_row, .ref a_bestRow, .ref a_on, .ref a_onRight, .ref a_onUp, .ref a_queue])), (a_grid, .inl (cJ, 900, .inr (.inl u_5))), (a_looks, .inl (cI, 30, .inl v_looks)), (a_nextFace, .inl (cI, 180, .inl v_nextFace))]) (w1 := (wd_X8_power cI cZ cJ)) hP hD [] [0, 1, 2, 3] rfl rfl (by decide) (by decide) hk1 hFc hP1 hD1
    clear hPc hDc hFc hP1 hD1 hK1 hk1 hz1 ht hvm
    replace h := hw
    clear hw
    generalize H1 = H at hP hS ⊢
    replace hP : va_P D vwCl (wd_X8_trees cI cZ cJ a_this a_grid a_looks a_nextFace a_cubeX a_cubeY a_cubeZ a_cubeOf a_lies a_handX a_handY a_handRight a_handUp a_order a_choice a_has a_atX a_atY a_right a_up a_bestX a_bestY a_shapeSize a_shapeRow a_leads a_imageX a_imageY a_row a_bestRow a_on a_onRight a_onUp a_queue v_cubes v_faces v_laid v_count v_step v_ended v_nets v_work v_bestWidth v_bestHeight v_bestNet v_shapes u_5 v_looks v_nextFace) H := hP.sub [0, 1, 2, 3] rfl
    replace hD : va_D A (wd_X8_trees cI cZ cJ a_this a_grid a_looks a_nextFace a_cubeX a_cubeY a_cubeZ a_cubeOf a_lies a_handX a_handY a_handRight a_handUp a_order a_choice a_has a_atX a_atY a_right a_up a_bestX a_bestY a_shapeSize a_shapeRow a_leads a_imageX a_imageY a_row a_bestRow a_on a_onRight a_onUp a_queue v_cubes v_faces v_laid v_count v_step v_ended v_nets v_work v_bestWidth v_bestHeight v_bestNet v_shapes u_5 v_looks v_nextFace) := hD.sub [0, 1, 2, 3] (by decide) rfl
    refine lv_lmul hx hb dX8_trees_56 ?_
    refine lv_lload_n hx hb dX8_trees_57 rfl (lv_at hl 2 rfl) ?_
    refine lv_lrem hx hb dX8_trees_58 (by decide) ?_
    refine lv_lstore (lv' := [(9, .long (((((r_4 - (r_1 - r_1 / (2147483629 : Int64) * (2147483629 : Int64))) + (2147483629 : Int64)) - ((r_4 - (r_1 - r_1 / (2147483629 : Int64) * (2147483629 : Int64))) + (2147483629 : Int64)) / (2147483629 : Int64) * (2147483629 : Int64)) * r_7) - ((((r_4 - (r_1 - r_1 / (2147483629 : Int64) * (2147483629 : Int64))) + (2147483629 : Int64)) - ((r_4 - (r_1 - r_1 / (2147483629 : Int64) * (2147483629 : Int64))) + (2147483629 : Int64)) / (2147483629 : Int64) * (2147483629 : Int64)) * r_7) / (2147483629 : Int64) * (2147483629 : Int64))), (7, .long r_4), (5, .long r_1), (3, .long (2147483629 : Int64)), (1, .long (2147483647 : Int64)), (0, .ref a_this)]) hx hb dX8_trees_59 hl (by decide) rfl (fun ls hl => ?_)
    refine lv_lload hx hb dX8_trees_61 (lv_at hl 2 rfl) ?_
    refine lv_lload_n hx hb dX8_trees_63 rfl (lv_at hl 4 rfl) ?_
    refine lv_lload hx hb dX8_trees_64 (lv_at hl 0 rfl) ?_
    refine lv_lmul hx hb dX8_trees_66 ?_
    refine lv_ladd hx hb dX8_trees_67 ?_
    exact ret (r_1 + ((2147483647 : Int64) * (((((r_4 - (r_1 - r_1 / (2147483629 : Int64) * (2147483629 : Int64))) + (2147483629 : Int64)) - ((r_4 - (r_1 - r_1 / (2147483629 : Int64) * (2147483629 : Int64))) + (2147483629 : Int64)) / (2147483629 : Int64) * (2147483629 : Int64)) * r_7) - ((((r_4 - (r_1 - r_1 / (2147483629 : Int64) * (2147483629 : Int64))) + (2147483629 : Int64)) - ((r_4 - (r_1 - r_1 / (2147483629 : Int64) * (2147483629 : Int64))) + (2147483629 : Int64)) / (2147483629 : Int64) * (2147483629 : Int64)) * r_7) / (2147483629 : Int64) * (2147483629 : Int64)))) u_5 _ _ _ 68 dX8_trees_68 h hP hD hS
  · replace h := h.2 hc
    refine lv_ldc2 (v := -2) hx hb hown k198 dX8_trees_7 ?_
    exact ret (-2 : Int64) v_grid _ _ _ 10 dX8_trees_10 h hP hD hS
