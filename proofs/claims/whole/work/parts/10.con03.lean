def wd_X3_heading (cI cZ cJ : ClassId) (a_this a_headings a_lies a_x a_y a_solid a_taken : Nat) (v_count : Int32) (v_headings : Nat → Int32) : va_W := [(a_this, .inr (3, [.ref a_lies, .ref a_x, .ref a_y, .int v_count, .ref a_solid, .ref a_headings, .ref a_taken])),
  (a_headings, .inl (cI, 88, .inl v_headings))]
abbrev rm_X3_heading : Room := { frames := 0, cells := 0, slots := 0, locals := 0 }
set_option maxHeartbeats 4000000 in
set_option maxRecDepth 100000 in
theorem c_X3_heading (l : Launch) (D : va_G) (cI cZ cJ : ClassId) (tb : Nat → Nat) (a_this a_headings a_lies a_x a_y a_solid a_taken : Nat) (v_count : Int32) (v_headings : Nat → Int32) (sz : Nat) (p1 : Int32) (p2 : Int32) {post : Int32 → Prop} (h : wp_X3_heading v_headings p1 p2 post) : Met l yX3_heading wsX3_heading rm_X3_heading (va_Pc [.ref a_this, .int p1, .int p2] (q_pre D cI cZ cJ tb (wd_X3_heading cI cZ cJ a_this a_headings a_lies a_x a_y a_solid a_taken v_count v_headings) sz)) (va_Qi (fun r (u : Unit) => post r) (fun u => q_post D cI cZ cJ (va_A (wd_X3_heading cI cZ cJ a_this a_headings a_lies a_x a_y a_solid a_taken v_count v_headings) sz) (wd_X3_heading cI cZ cJ a_this a_headings a_lies a_x a_y a_solid a_taken v_count v_headings)) (va_A (wd_X3_heading cI cZ cJ a_this a_headings a_lies a_x a_y a_solid a_taken v_count v_headings) sz)) 0 0 (va_A (wd_X3_heading cI cZ cJ a_this a_headings a_lies a_x a_y a_solid a_taken v_count v_headings) sz) := by
  refine q_walki (cc := cX3_heading) (maxL := 3) (own := RX3) (wd := fun (u : Unit) => (wd_X3_heading cI cZ cJ a_this a_headings a_lies a_x a_y a_solid a_taken v_count v_headings)) (by decide) rfl rfl (Nat.le_of_ble_eq_true rfl) ?_
  intro p e s m below meth c Q A ls C hA ret hP hD hS hK hSt hNw hl
  obtain ⟨hx, hb, hml, hown, hts⟩ := id C
  replace hl : lv_has ls 3 [(0, .ref a_this), (1, .int p1), (2, .int p2)] := hl
  have f22 := hts (.fieldLink RX3 22 "NetSearch$Sheet" "headings" "[I") (by decide +kernel)
  have iX3 : ∀ w ∈ wsX30, w ∈ wsX3_heading := by decide +kernel
  unfold wp_X3_heading at h
  refine lv_aload_n hx hb dX3_heading_0 rfl (lv_at hl 0 rfl) ?_
  refine va_get (D := D) (ci := 3) (v := .ref a_headings) (C := RX3) (T := TX3) (N := 7) hx hb hts iX3 hown hK hP 0 rfl rfl 5 (by decide) f22 (fun _ h9 => h9) rfl dX3_heading_1 ?_
  refine lv_iload_n hx hb dX3_heading_4 rfl (lv_at hl 1 rfl) ?_
  refine lv_iconst (v := 4) hx hb dX3_heading_5 (by decide) ?_
  refine lv_imul hx hb dX3_heading_6 ?_
  refine lv_iload_n hx hb dX3_heading_7 rfl (lv_at hl 2 rfl) ?_
  refine lv_iadd hx hb dX3_heading_8 ?_
  obtain ⟨hin, h⟩ := h
  refine va_iald hx hb hK hP 1 0 rfl rfl hin dX3_heading_9 ?_
  exact ret (v_headings ((p1 * (4 : Int32)) + p2).toNatClampNeg) () _ _ _ 10 dX3_heading_10 h hP hD hS
def wd_X4_beyond (cI cZ cJ : ClassId) (a_this a_beyondEdge a_cubeOf a_lookOf a_x a_y a_z a_faceOf a_onwardEdge : Nat) (v_cubes : Int32) (v_faces : Int32) (v_beyondEdge : Nat → Int32) : va_W := [(a_this, .inr (4, [.int v_cubes, .int v_faces, .ref a_cubeOf, .ref a_lookOf, .ref a_x, .ref a_y, .ref a_z, .ref a_faceOf, .ref a_beyondEdge, .ref a_onwardEdge])),
  (a_beyondEdge, .inl (cI, 132, .inl v_beyondEdge))]
abbrev rm_X4_beyond : Room := { frames := 0, cells := 0, slots := 0, locals := 0 }
set_option maxHeartbeats 4000000 in
set_option maxRecDepth 100000 in
theorem c_X4_beyond (l : Launch) (D : va_G) (cI cZ cJ : ClassId) (tb : Nat → Nat) (a_this a_beyondEdge a_cubeOf a_lookOf a_x a_y a_z a_faceOf a_onwardEdge : Nat) (v_cubes : Int32) (v_faces : Int32) (v_beyondEdge : Nat → Int32) (sz : Nat) (p1 : Int32) (p2 : Int32) {post : Int32 → Prop} (h : wp_X4_beyond v_beyondEdge p1 p2 post) : Met l yX4_beyond wsX4_beyond rm_X4_beyond (va_Pc [.ref a_this, .int p1, .int p2] (q_pre D cI cZ cJ tb (wd_X4_beyond cI cZ cJ a_this a_beyondEdge a_cubeOf a_lookOf a_x a_y a_z a_faceOf a_onwardEdge v_cubes v_faces v_beyondEdge) sz)) (va_Qi (fun r (u : Unit) => post r) (fun u => q_post D cI cZ cJ (va_A (wd_X4_beyond cI cZ cJ a_this a_beyondEdge a_cubeOf a_lookOf a_x a_y a_z a_faceOf a_onwardEdge v_cubes v_faces v_beyondEdge) sz) (wd_X4_beyond cI cZ cJ a_this a_beyondEdge a_cubeOf a_lookOf a_x a_y a_z a_faceOf a_onwardEdge v_cubes v_faces v_beyondEdge)) (va_A (wd_X4_beyond cI cZ cJ a_this a_beyondEdge a_cubeOf a_lookOf a_x a_y a_z a_faceOf a_onwardEdge v_cubes v_faces v_beyondEdge) sz)) 0 0 (va_A (wd_X4_beyond cI cZ cJ a_this a_beyondEdge a_cubeOf a_lookOf a_x a_y a_z a_faceOf a_onwardEdge v_cubes v_faces v_beyondEdge) sz) := by
  refine q_walki (cc := cX4_beyond) (maxL := 3) (own := RX4) (wd := fun (u : Unit) => (wd_X4_beyond cI cZ cJ a_this a_beyondEdge a_cubeOf a_lookOf a_x a_y a_z a_faceOf a_onwardEdge v_cubes v_faces v_beyondEdge)) (by decide) rfl rfl (Nat.le_of_ble_eq_true rfl) ?_
  intro p e s m below meth c Q A ls C hA ret hP hD hS hK hSt hNw hl
  obtain ⟨hx, hb, hml, hown, hts⟩ := id C
  replace hl : lv_has ls 3 [(0, .ref a_this), (1, .int p1), (2, .int p2)] := hl
  have f30 := hts (.fieldLink RX4 30 "NetSearch$Solid" "beyondEdge" "[I") (by decide +kernel)
  have iX4 : ∀ w ∈ wsX40, w ∈ wsX4_beyond := by decide +kernel
  unfold wp_X4_beyond at h
  refine lv_aload_n hx hb dX4_beyond_0 rfl (lv_at hl 0 rfl) ?_
  refine va_get (D := D) (ci := 4) (v := .ref a_beyondEdge) (C := RX4) (T := TX4) (N := 10) hx hb hts iX4 hown hK hP 0 rfl rfl 8 (by decide) f30 (fun _ h9 => h9) rfl dX4_beyond_1 ?_
  refine lv_iload_n hx hb dX4_beyond_4 rfl (lv_at hl 1 rfl) ?_
  refine lv_bipush (v := 6) hx hb dX4_beyond_5 (by decide) ?_
  refine lv_imul hx hb dX4_beyond_7 ?_
  refine lv_iload_n hx hb dX4_beyond_8 rfl (lv_at hl 2 rfl) ?_
  refine lv_iadd hx hb dX4_beyond_9 ?_
  obtain ⟨hin, h⟩ := h
  refine va_iald hx hb hK hP 1 0 rfl rfl hin dX4_beyond_10 ?_
  exact ret (v_beyondEdge ((p1 * (6 : Int32)) + p2).toNatClampNeg) () _ _ _ 11 dX4_beyond_11 h hP hD hS
def wd_X3_neighbour (cI cZ cJ : ClassId) (a_this a_headings a_solid a_solid_beyondEdge a_lies a_x a_y a_taken a_solid_cubeOf a_solid_lookOf a_solid_x a_solid_y a_solid_z a_solid_faceOf a_solid_onwardEdge : Nat) (v_count : Int32) (v_headings : Nat → Int32) (v_solid_cubes : Int32) (v_solid_faces : Int32) (v_solid_beyondEdge : Nat → Int32) : va_W := [(a_this, .inr (3, [.ref a_lies, .ref a_x, .ref a_y, .int v_count, .ref a_solid, .ref a_headings, .ref a_taken])),
  (a_headings, .inl (cI, 88, .inl v_headings)),
  (a_solid, .inr (4, [.int v_solid_cubes, .int v_solid_faces, .ref a_solid_cubeOf, .ref a_solid_lookOf, .ref a_solid_x, .ref a_solid_y, .ref a_solid_z, .ref a_solid_faceOf, .ref a_solid_beyondEdge, .ref a_solid_onwardEdge])),
  (a_solid_beyondEdge, .inl (cI, 132, .inl v_solid_beyondEdge))]
abbrev rm_X3_neighbour : Room := { frames := 1, cells := 0, slots := 0, locals := 22 }
set_option maxHeartbeats 4000000 in
set_option maxRecDepth 100000 in
theorem c_X3_neighbour (l : Launch) (D : va_G) (cI cZ cJ : ClassId) (tb : Nat → Nat) (a_this a_headings a_solid a_solid_beyondEdge a_lies a_x a_y a_taken a_solid_cubeOf a_solid_lookOf a_solid_x a_solid_y a_solid_z a_solid_faceOf a_solid_onwardEdge : Nat) (v_count : Int32) (v_headings : Nat → Int32) (v_solid_cubes : Int32) (v_solid_faces : Int32) (v_solid_beyondEdge : Nat → Int32) (sz : Nat) (p1 : Int32) (p2 : Int32) {post : Int32 → Prop} (h : wp_X3_neighbour v_headings v_solid_beyondEdge p1 p2 post) : Met l yX3_neighbour wsX3_neighbour rm_X3_neighbour (va_Pc [.ref a_this, .int p1, .int p2] (q_pre D cI cZ cJ tb (wd_X3_neighbour cI cZ cJ a_this a_headings a_solid a_solid_beyondEdge a_lies a_x a_y a_taken a_solid_cubeOf a_solid_lookOf a_solid_x a_solid_y a_solid_z a_solid_faceOf a_solid_onwardEdge v_count v_headings v_solid_cubes v_solid_faces v_solid_beyondEdge) sz)) (va_Qi (fun r (u : Unit) => post r) (fun u => q_post D cI cZ cJ (va_A (wd_X3_neighbour cI cZ cJ a_this a_headings a_solid a_solid_beyondEdge a_lies a_x a_y a_taken a_solid_cubeOf a_solid_lookOf a_solid_x a_solid_y a_solid_z a_solid_faceOf a_solid_onwardEdge v_count v_headings v_solid_cubes v_solid_faces v_solid_beyondEdge) sz) (wd_X3_neighbour cI cZ cJ a_this a_headings a_solid a_solid_beyondEdge a_lies a_x a_y a_taken a_solid_cubeOf a_solid_lookOf a_solid_x a_solid_y a_solid_z a_solid_faceOf a_solid_onwardEdge v_count v_headings v_solid_cubes v_solid_faces v_solid_beyondEdge)) (va_A (wd_X3_neighbour cI cZ cJ a_this a_headings a_solid a_solid_beyondEdge a_lies a_x a_y a_taken a_solid_cubeOf a_solid_lookOf a_solid_x a_solid_y a_solid_z a_solid_faceOf a_solid_onwardEdge v_count v_headings v_solid_cubes v_solid_faces v_solid_beyondEdge) sz)) 0 0 (va_A (wd_X3_neighbour cI cZ cJ a_this a_headings a_solid a_solid_beyondEdge a_lies a_x a_y a_taken a_solid_cubeOf a_solid_lookOf a_solid_x a_solid_y a_solid_z a_solid_faceOf a_solid_onwardEdge v_count v_headings v_solid_cubes v_solid_faces v_solid_beyondEdge) sz) := by
  refine q_walki (cc := cX3_neighbour) (maxL := 3) (own := RX3) (wd := fun (u : Unit) => (wd_X3_neighbour cI cZ cJ a_this a_headings a_solid a_solid_beyondEdge a_lies a_x a_y a_taken a_solid_cubeOf a_solid_lookOf a_solid_x a_solid_y a_solid_z a_solid_faceOf a_solid_onwardEdge v_count v_headings v_solid_cubes v_solid_faces v_solid_beyondEdge)) (by decide) rfl rfl (Nat.le_of_ble_eq_true rfl) ?_
  intro p e s m below meth c Q A ls C hA ret hP hD hS hK hSt hNw hl
  obtain ⟨hx, hb, hml, hown, hts⟩ := id C
  replace hl : lv_has ls 3 [(0, .ref a_this), (1, .int p1), (2, .int p2)] := hl
  have f29 := hts (.fieldLink RX3 29 "NetSearch$Sheet" "solid" "LNetSearch$Solid;") (by decide +kernel)
  have iX3 : ∀ w ∈ wsX30, w ∈ wsX3_neighbour := by decide +kernel
  unfold wp_X3_neighbour at h
  refine lv_aload_n hx hb dX3_neighbour_0 rfl (lv_at hl 0 rfl) ?_
  refine va_get (D := D) (ci := 3) (v := .ref a_solid) (C := RX3) (T := TX3) (N := 7) hx hb hts iX3 hown hK hP 0 rfl rfl 4 (by decide) f29 (fun _ h9 => h9) rfl dX3_neighbour_1 ?_
  refine lv_iload_n hx hb dX3_neighbour_4 rfl (lv_at hl 1 rfl) ?_
  refine lv_aload_n hx hb dX3_neighbour_5 rfl (lv_at hl 0 rfl) ?_
  refine lv_iload_n hx hb dX3_neighbour_6 rfl (lv_at hl 1 rfl) ?_
  refine lv_iload_n hx hb dX3_neighbour_7 rfl (lv_at hl 2 rfl) ?_
  have hPc := hP.sub (ws' := (wd_X3_heading cI cZ cJ a_this a_headings a_lies a_x a_y a_solid a_taken v_count v_headings)) [0, 1] rfl
  have hDc := hD.sub (ws' := (wd_X3_heading cI cZ cJ a_this a_headings a_lies a_x a_y a_solid a_taken v_count v_headings)) [0, 1] (by decide) rfl
  have hFc := va_free (wc := (wd_X3_heading cI cZ cJ a_this a_headings a_lies a_x a_y a_solid a_taken v_count v_headings)) hD hS hA [0, 1] rfl
  refine va_calli (va_runV (As := [.int p1, .int p2]) (rest := [.int p1, .ref a_solid]) C (c_X3_heading l D cI cZ cJ tb a_this a_headings a_lies a_x a_y a_solid a_taken v_count v_headings s.heap.size p1 p2 h) (cwV 2 hts gX3_neighbour_X3_heading rfl rfl rfl (by decide +kernel) ⟨Nat.le_of_ble_eq_true rfl, Nat.le_of_ble_eq_true rfl⟩) ⟨q_pre.blind, va_recv hK hP (ci := 3) (q0 := 0) rfl rfl, fun U hU hW => ⟨rfl, q_pre.of hU hW hPc hK hDc hSt hS hFc hNw⟩⟩ rfl rfl hl.1 rfl (lv_room (Nat.le_of_ble_eq_true rfl)) dX3_neighbour_8 ⟨Nat.zero_le _, Nat.zero_le _⟩) hS (fun q _ h => hFc q h) hFc (fun r_1 u_2 t H1 locs ht hvm hw hB hz1 hk1 hS => ?_)
  obtain ⟨hP1, hK1, hD1⟩ := hB
  rw [ht] at hP1
  obtain ⟨hP, hD⟩ := va_join (wr := [(a_solid, .inr (4, [.int v_solid_cubes, .int v_solid_faces, .ref a_solid_cubeOf, .ref a_solid_lookOf, .ref a_solid_x, .ref a_solid_y, .ref a_solid_z, .ref a_solid_faceOf, .ref a_solid_beyondEdge, .ref a_solid_onwardEdge])), (a_solid_beyondEdge, .inl (cI, 132, .inl v_solid_beyondEdge))]) (w1 := (wd_X3_heading cI cZ cJ a_this a_headings a_lies a_x a_y a_solid a_taken v_count v_headings)) hP hD [0, 1] [2, 3] rfl rfl (by decide) (by decide) hk1 hFc hP1 hD1
  clear hPc hDc hFc hP1 hD1 hK1 hk1 hz1 ht hvm
  replace h := hw
  clear hw
  generalize H1 = H at hP hS ⊢
  replace hP : va_P D vwCl (wd_X3_neighbour cI cZ cJ a_this a_headings a_solid a_solid_beyondEdge a_lies a_x a_y a_taken a_solid_cubeOf a_solid_lookOf a_solid_x a_solid_y a_solid_z a_solid_faceOf a_solid_onwardEdge v_count v_headings v_solid_cubes v_solid_faces v_solid_beyondEdge) H := hP.sub [2, 3, 0, 1] rfl
  replace hD : va_D A (wd_X3_neighbour cI cZ cJ a_this a_headings a_solid a_solid_beyondEdge a_lies a_x a_y a_taken a_solid_cubeOf a_solid_lookOf a_solid_x a_solid_y a_solid_z a_solid_faceOf a_solid_onwardEdge v_count v_headings v_solid_cubes v_solid_faces v_solid_beyondEdge) := hD.sub [2, 3, 0, 1] (by decide) rfl
  have hPc := hP.sub (ws' := (wd_X4_beyond cI cZ cJ a_solid a_solid_beyondEdge a_solid_cubeOf a_solid_lookOf a_solid_x a_solid_y a_solid_z a_solid_faceOf a_solid_onwardEdge v_solid_cubes v_solid_faces v_solid_beyondEdge)) [2, 3] rfl
  have hDc := hD.sub (ws' := (wd_X4_beyond cI cZ cJ a_solid a_solid_beyondEdge a_solid_cubeOf a_solid_lookOf a_solid_x a_solid_y a_solid_z a_solid_faceOf a_solid_onwardEdge v_solid_cubes v_solid_faces v_solid_beyondEdge)) [2, 3] (by decide) rfl
  have hFc := va_free (wc := (wd_X4_beyond cI cZ cJ a_solid a_solid_beyondEdge a_solid_cubeOf a_solid_lookOf a_solid_x a_solid_y a_solid_z a_solid_faceOf a_solid_onwardEdge v_solid_cubes v_solid_faces v_solid_beyondEdge)) hD hS hA [2, 3] rfl
  refine va_calli (va_runV (As := [.int p1, .int r_1]) (rest := []) C (c_X4_beyond l D cI cZ cJ tb a_solid a_solid_beyondEdge a_solid_cubeOf a_solid_lookOf a_solid_x a_solid_y a_solid_z a_solid_faceOf a_solid_onwardEdge v_solid_cubes v_solid_faces v_solid_beyondEdge H.size p1 r_1 h) (cwV 2 hts gX3_neighbour_X4_beyond rfl rfl rfl (by decide +kernel) ⟨Nat.le_of_ble_eq_true rfl, Nat.le_of_ble_eq_true rfl⟩) ⟨q_pre.blind, va_recv hK hP (ci := 4) (q0 := 2) rfl rfl, fun U hU hW => ⟨rfl, q_pre.of hU hW hPc hK hDc hSt hS hFc hNw⟩⟩ rfl rfl hl.1 rfl (lv_room (Nat.le_of_ble_eq_true rfl)) dX3_neighbour_11 ⟨Nat.zero_le _, Nat.zero_le _⟩) hS (fun q _ h => hFc q h) hFc (fun r_3 u_4 t H1 locs ht hvm hw hB hz1 hk1 hS => ?_)
  obtain ⟨hP1, hK1, hD1⟩ := hB
  rw [ht] at hP1
  obtain ⟨hP, hD⟩ := va_join (wr := [(a_this, .inr (3, [.ref a_lies, .ref a_x, .ref a_y, .int v_count, .ref a_solid, .ref a_headings, .ref a_taken])), (a_headings, .inl (cI, 88, .inl v_headings))]) (w1 := (wd_X4_beyond cI cZ cJ a_solid a_solid_beyondEdge a_solid_cubeOf a_solid_lookOf a_solid_x a_solid_y a_solid_z a_solid_faceOf a_solid_onwardEdge v_solid_cubes v_solid_faces v_solid_beyondEdge)) hP hD [2, 3] [0, 1] rfl rfl (by decide) (by decide) hk1 hFc hP1 hD1
  clear hPc hDc hFc hP1 hD1 hK1 hk1 hz1 ht hvm
  replace h := hw
  clear hw
  generalize H1 = H at hP hS ⊢
  replace hP : va_P D vwCl (wd_X3_neighbour cI cZ cJ a_this a_headings a_solid a_solid_beyondEdge a_lies a_x a_y a_taken a_solid_cubeOf a_solid_lookOf a_solid_x a_solid_y a_solid_z a_solid_faceOf a_solid_onwardEdge v_count v_headings v_solid_cubes v_solid_faces v_solid_beyondEdge) H := hP.sub [0, 1, 2, 3] rfl
  replace hD : va_D A (wd_X3_neighbour cI cZ cJ a_this a_headings a_solid a_solid_beyondEdge a_lies a_x a_y a_taken a_solid_cubeOf a_solid_lookOf a_solid_x a_solid_y a_solid_z a_solid_faceOf a_solid_onwardEdge v_count v_headings v_solid_cubes v_solid_faces v_solid_beyondEdge) := hD.sub [0, 1, 2, 3] (by decide) rfl
  exact ret r_3 () _ _ _ 14 dX3_neighbour_14 h hP hD hS
def wd_X4_onward (cI cZ cJ : ClassId) (a_this a_onwardEdge a_cubeOf a_lookOf a_x a_y a_z a_faceOf a_beyondEdge : Nat) (v_cubes : Int32) (v_faces : Int32) (v_onwardEdge : Nat → Int32) : va_W := [(a_this, .inr (4, [.int v_cubes, .int v_faces, .ref a_cubeOf, .ref a_lookOf, .ref a_x, .ref a_y, .ref a_z, .ref a_faceOf, .ref a_beyondEdge, .ref a_onwardEdge])),
  (a_onwardEdge, .inl (cI, 132, .inl v_onwardEdge))]
abbrev rm_X4_onward : Room := { frames := 0, cells := 0, slots := 0, locals := 0 }
set_option maxHeartbeats 4000000 in
set_option maxRecDepth 100000 in
theorem c_X4_onward (l : Launch) (D : va_G) (cI cZ cJ : ClassId) (tb : Nat → Nat) (a_this a_onwardEdge a_cubeOf a_lookOf a_x a_y a_z a_faceOf a_beyondEdge : Nat) (v_cubes : Int32) (v_faces : Int32) (v_onwardEdge : Nat → Int32) (sz : Nat) (p1 : Int32) (p2 : Int32) {post : Int32 → Prop} (h : wp_X4_onward v_onwardEdge p1 p2 post) : Met l yX4_onward wsX4_onward rm_X4_onward (va_Pc [.ref a_this, .int p1, .int p2] (q_pre D cI cZ cJ tb (wd_X4_onward cI cZ cJ a_this a_onwardEdge a_cubeOf a_lookOf a_x a_y a_z a_faceOf a_beyondEdge v_cubes v_faces v_onwardEdge) sz)) (va_Qi (fun r (u : Unit) => post r) (fun u => q_post D cI cZ cJ (va_A (wd_X4_onward cI cZ cJ a_this a_onwardEdge a_cubeOf a_lookOf a_x a_y a_z a_faceOf a_beyondEdge v_cubes v_faces v_onwardEdge) sz) (wd_X4_onward cI cZ cJ a_this a_onwardEdge a_cubeOf a_lookOf a_x a_y a_z a_faceOf a_beyondEdge v_cubes v_faces v_onwardEdge)) (va_A (wd_X4_onward cI cZ cJ a_this a_onwardEdge a_cubeOf a_lookOf a_x a_y a_z a_faceOf a_beyondEdge v_cubes v_faces v_onwardEdge) sz)) 0 0 (va_A (wd_X4_onward cI cZ cJ a_this a_onwardEdge a_cubeOf a_lookOf a_x a_y a_z a_faceOf a_beyondEdge v_cubes v_faces v_onwardEdge) sz) := by
  refine q_walki (cc := cX4_onward) (maxL := 3) (own := RX4) (wd := fun (u : Unit) => (wd_X4_onward cI cZ cJ a_this a_onwardEdge a_cubeOf a_lookOf a_x a_y a_z a_faceOf a_beyondEdge v_cubes v_faces v_onwardEdge)) (by decide) rfl rfl (Nat.le_of_ble_eq_true rfl) ?_
  intro p e s m below meth c Q A ls C hA ret hP hD hS hK hSt hNw hl
  obtain ⟨hx, hb, hml, hown, hts⟩ := id C
  replace hl : lv_has ls 3 [(0, .ref a_this), (1, .int p1), (2, .int p2)] := hl
  have f33 := hts (.fieldLink RX4 33 "NetSearch$Solid" "onwardEdge" "[I") (by decide +kernel)
  have iX4 : ∀ w ∈ wsX40, w ∈ wsX4_onward := by decide +kernel
  unfold wp_X4_onward at h
  refine lv_aload_n hx hb dX4_onward_0 rfl (lv_at hl 0 rfl) ?_
  refine va_get (D := D) (ci := 4) (v := .ref a_onwardEdge) (C := RX4) (T := TX4) (N := 10) hx hb hts iX4 hown hK hP 0 rfl rfl 9 (by decide) f33 (fun _ h9 => h9) rfl dX4_onward_1 ?_
  refine lv_iload_n hx hb dX4_onward_4 rfl (lv_at hl 1 rfl) ?_
  refine lv_bipush (v := 6) hx hb dX4_onward_5 (by decide) ?_
  refine lv_imul hx hb dX4_onward_7 ?_
  refine lv_iload_n hx hb dX4_onward_8 rfl (lv_at hl 2 rfl) ?_
  refine lv_iadd hx hb dX4_onward_9 ?_
  obtain ⟨hin, h⟩ := h
  refine va_iald hx hb hK hP 1 0 rfl rfl hin dX4_onward_10 ?_
  exact ret (v_onwardEdge ((p1 * (6 : Int32)) + p2).toNatClampNeg) () _ _ _ 11 dX4_onward_11 h hP hD hS
def wd_X3_onward (cI cZ cJ : ClassId) (a_this a_headings a_solid a_solid_onwardEdge a_lies a_x a_y a_taken a_solid_cubeOf a_solid_lookOf a_solid_x a_solid_y a_solid_z a_solid_faceOf a_solid_beyondEdge : Nat) (v_count : Int32) (v_headings : Nat → Int32) (v_solid_cubes : Int32) (v_solid_faces : Int32) (v_solid_onwardEdge : Nat → Int32) : va_W := [(a_this, .inr (3, [.ref a_lies, .ref a_x, .ref a_y, .int v_count, .ref a_solid, .ref a_headings, .ref a_taken])),
  (a_headings, .inl (cI, 88, .inl v_headings)),
  (a_solid, .inr (4, [.int v_solid_cubes, .int v_solid_faces, .ref a_solid_cubeOf, .ref a_solid_lookOf, .ref a_solid_x, .ref a_solid_y, .ref a_solid_z, .ref a_solid_faceOf, .ref a_solid_beyondEdge, .ref a_solid_onwardEdge])),
  (a_solid_onwardEdge, .inl (cI, 132, .inl v_solid_onwardEdge))]
abbrev rm_X3_onward : Room := { frames := 1, cells := 0, slots := 0, locals := 22 }
set_option maxHeartbeats 4000000 in
set_option maxRecDepth 100000 in
theorem c_X3_onward (l : Launch) (D : va_G) (cI cZ cJ : ClassId) (tb : Nat → Nat) (a_this a_headings a_solid a_solid_onwardEdge a_lies a_x a_y a_taken a_solid_cubeOf a_solid_lookOf a_solid_x a_solid_y a_solid_z a_solid_faceOf a_solid_beyondEdge : Nat) (v_count : Int32) (v_headings : Nat → Int32) (v_solid_cubes : Int32) (v_solid_faces : Int32) (v_solid_onwardEdge : Nat → Int32) (sz : Nat) (p1 : Int32) (p2 : Int32) {post : Int32 → Prop} (h : wp_X3_onward v_headings v_solid_onwardEdge p1 p2 post) : Met l yX3_onward wsX3_onward rm_X3_onward (va_Pc [.ref a_this, .int p1, .int p2] (q_pre D cI cZ cJ tb (wd_X3_onward cI cZ cJ a_this a_headings a_solid a_solid_onwardEdge a_lies a_x a_y a_taken a_solid_cubeOf a_solid_lookOf a_solid_x a_solid_y a_solid_z a_solid_faceOf a_solid_beyondEdge v_count v_headings v_solid_cubes v_solid_faces v_solid_onwardEdge) sz)) (va_Qi (fun r (u : Unit) => post r) (fun u => q_post D cI cZ cJ (va_A (wd_X3_onward cI cZ cJ a_this a_headings a_solid a_solid_onwardEdge a_lies a_x a_y a_taken a_solid_cubeOf a_solid_lookOf a_solid_x a_solid_y a_solid_z a_solid_faceOf a_solid_beyondEdge v_count v_headings v_solid_cubes v_solid_faces v_solid_onwardEdge) sz) (wd_X3_onward cI cZ cJ a_this a_headings a_solid a_solid_onwardEdge a_lies a_x a_y a_taken a_solid_cubeOf a_solid_lookOf a_solid_x a_solid_y a_solid_z a_solid_faceOf a_solid_beyondEdge v_count v_headings v_solid_cubes v_solid_faces v_solid_onwardEdge)) (va_A (wd_X3_onward cI cZ cJ a_this a_headings a_solid a_solid_onwardEdge a_lies a_x a_y a_taken a_solid_cubeOf a_solid_lookOf a_solid_x a_solid_y a_solid_z a_solid_faceOf a_solid_beyondEdge v_count v_headings v_solid_cubes v_solid_faces v_solid_onwardEdge) sz)) 0 0 (va_A (wd_X3_onward cI cZ cJ a_this a_headings a_solid a_solid_onwardEdge a_lies a_x a_y a_taken a_solid_cubeOf a_solid_lookOf a_solid_x a_solid_y a_solid_z a_solid_faceOf a_solid_beyondEdge v_count v_headings v_solid_cubes v_solid_faces v_solid_onwardEdge) sz) := by
  refine q_walki (cc := cX3_onward) (maxL := 3) (own := RX3) (wd := fun (u : Unit) => (wd_X3_onward cI cZ cJ a_this a_headings a_solid a_solid_onwardEdge a_lies a_x a_y a_taken a_solid_cubeOf a_solid_lookOf a_solid_x a_solid_y a_solid_z a_solid_faceOf a_solid_beyondEdge v_count v_headings v_solid_cubes v_solid_faces v_solid_onwardEdge)) (by decide) rfl rfl (Nat.le_of_ble_eq_true rfl) ?_
  intro p e s m below meth c Q A ls C hA ret hP hD hS hK hSt hNw hl
  obtain ⟨hx, hb, hml, hown, hts⟩ := id C
  replace hl : lv_has ls 3 [(0, .ref a_this), (1, .int p1), (2, .int p2)] := hl
  have f29 := hts (.fieldLink RX3 29 "NetSearch$Sheet" "solid" "LNetSearch$Solid;") (by decide +kernel)
  have iX3 : ∀ w ∈ wsX30, w ∈ wsX3_onward := by decide +kernel
  unfold wp_X3_onward at h
  refine lv_aload_n hx hb dX3_onward_0 rfl (lv_at hl 0 rfl) ?_
  refine va_get (D := D) (ci := 3) (v := .ref a_solid) (C := RX3) (T := TX3) (N := 7) hx hb hts iX3 hown hK hP 0 rfl rfl 4 (by decide) f29 (fun _ h9 => h9) rfl dX3_onward_1 ?_
  refine lv_iload_n hx hb dX3_onward_4 rfl (lv_at hl 1 rfl) ?_
  refine lv_aload_n hx hb dX3_onward_5 rfl (lv_at hl 0 rfl) ?_
  refine lv_iload_n hx hb dX3_onward_6 rfl (lv_at hl 1 rfl) ?_
  refine lv_iload_n hx hb dX3_onward_7 rfl (lv_at hl 2 rfl) ?_
  have hPc := hP.sub (ws' := (wd_X3_heading cI cZ cJ a_this a_headings a_lies a_x a_y a_solid a_taken v_count v_headings)) [0, 1] rfl
  have hDc := hD.sub (ws' := (wd_X3_heading cI cZ cJ a_this a_headings a_lies a_x a_y a_solid a_taken v_count v_headings)) [0, 1] (by decide) rfl
  have hFc := va_free (wc := (wd_X3_heading cI cZ cJ a_this a_headings a_lies a_x a_y a_solid a_taken v_count v_headings)) hD hS hA [0, 1] rfl
  refine va_calli (va_runV (As := [.int p1, .int p2]) (rest := [.int p1, .ref a_solid]) C (c_X3_heading l D cI cZ cJ tb a_this a_headings a_lies a_x a_y a_solid a_taken v_count v_headings s.heap.size p1 p2 h) (cwV 2 hts gX3_onward_X3_heading rfl rfl rfl (by decide +kernel) ⟨Nat.le_of_ble_eq_true rfl, Nat.le_of_ble_eq_true rfl⟩) ⟨q_pre.blind, va_recv hK hP (ci := 3) (q0 := 0) rfl rfl, fun U hU hW => ⟨rfl, q_pre.of hU hW hPc hK hDc hSt hS hFc hNw⟩⟩ rfl rfl hl.1 rfl (lv_room (Nat.le_of_ble_eq_true rfl)) dX3_onward_8 ⟨Nat.zero_le _, Nat.zero_le _⟩) hS (fun q _ h => hFc q h) hFc (fun r_1 u_2 t H1 locs ht hvm hw hB hz1 hk1 hS => ?_)
  obtain ⟨hP1, hK1, hD1⟩ := hB
  rw [ht] at hP1
  obtain ⟨hP, hD⟩ := va_join (wr := [(a_solid, .inr (4, [.int v_solid_cubes, .int v_solid_faces, .ref a_solid_cubeOf, .ref a_solid_lookOf, .ref a_solid_x, .ref a_solid_y, .ref a_solid_z, .ref a_solid_faceOf, .ref a_solid_beyondEdge, .ref a_solid_onwardEdge])), (a_solid_onwardEdge, .inl (cI, 132, .inl v_solid_onwardEdge))]) (w1 := (wd_X3_heading cI cZ cJ a_this a_headings a_lies a_x a_y a_solid a_taken v_count v_headings)) hP hD [0, 1] [2, 3] rfl rfl (by decide) (by decide) hk1 hFc hP1 hD1
  clear hPc hDc hFc hP1 hD1 hK1 hk1 hz1 ht hvm
  replace h := hw
  clear hw
  generalize H1 = H at hP hS ⊢
  replace hP : va_P D vwCl (wd_X3_onward cI cZ cJ a_this a_headings a_solid a_solid_onwardEdge a_lies a_x a_y a_taken a_solid_cubeOf a_solid_lookOf a_solid_x a_solid_y a_solid_z a_solid_faceOf a_solid_beyondEdge v_count v_headings v_solid_cubes v_solid_faces v_solid_onwardEdge) H := hP.sub [2, 3, 0, 1] rfl
  replace hD : va_D A (wd_X3_onward cI cZ cJ a_this a_headings a_solid a_solid_onwardEdge a_lies a_x a_y a_taken a_solid_cubeOf a_solid_lookOf a_solid_x a_solid_y a_solid_z a_solid_faceOf a_solid_beyondEdge v_count v_headings v_solid_cubes v_solid_faces v_solid_onwardEdge) := hD.sub [2, 3, 0, 1] (by decide) rfl
  have hPc := hP.sub (ws' := (wd_X4_onward cI cZ cJ a_solid a_solid_onwardEdge a_solid_cubeOf a_solid_lookOf a_solid_x a_solid_y a_solid_z a_solid_faceOf a_solid_beyondEdge v_solid_cubes v_solid_faces v_solid_onwardEdge)) [2, 3] rfl
  have hDc := hD.sub (ws' := (wd_X4_onward cI cZ cJ a_solid a_solid_onwardEdge a_solid_cubeOf a_solid_lookOf a_solid_x a_solid_y a_solid_z a_solid_faceOf a_solid_beyondEdge v_solid_cubes v_solid_faces v_solid_onwardEdge)) [2, 3] (by decide) rfl
  have hFc := va_free (wc := (wd_X4_onward cI cZ cJ a_solid a_solid_onwardEdge a_solid_cubeOf a_solid_lookOf a_solid_x a_solid_y a_solid_z a_solid_faceOf a_solid_beyondEdge v_solid_cubes v_solid_faces v_solid_onwardEdge)) hD hS hA [2, 3] rfl
  refine va_calli (va_runV (As := [.int p1, .int r_1]) (rest := []) C (c_X4_onward l D cI cZ cJ tb a_solid a_solid_onwardEdge a_solid_cubeOf a_solid_lookOf a_solid_x a_solid_y a_solid_z a_solid_faceOf a_solid_beyondEdge v_solid_cubes v_solid_faces v_solid_onwardEdge H.size p1 r_1 h) (cwV 2 hts gX3_onward_X4_onward rfl rfl rfl (by decide +kernel) ⟨Nat.le_of_ble_eq_true rfl, Nat.le_of_ble_eq_true rfl⟩) ⟨q_pre.blind, va_recv hK hP (ci := 4) (q0 := 2) rfl rfl, fun U hU hW => ⟨rfl, q_pre.of hU hW hPc hK hDc hSt hS hFc hNw⟩⟩ rfl rfl hl.1 rfl (lv_room (Nat.le_of_ble_eq_true rfl)) dX3_onward_11 ⟨Nat.zero_le _, Nat.zero_le _⟩) hS (fun q _ h => hFc q h) hFc (fun r_3 u_4 t H1 locs ht hvm hw hB hz1 hk1 hS => ?_)
  obtain ⟨hP1, hK1, hD1⟩ := hB
  rw [ht] at hP1
  obtain ⟨hP, hD⟩ := va_join (wr := [(a_this, .inr (3, [.ref a_lies, .ref a_x, .ref a_y, .int v_count, .ref a_solid, .ref a_headings, .ref a_taken])), (a_headings, .inl (cI, 88, .inl v_headings))]) (w1 := (wd_X4_onward cI cZ cJ a_solid a_solid_onwardEdge a_solid_cubeOf a_solid_lookOf a_solid_x a_solid_y a_solid_z a_solid_faceOf a_solid_beyondEdge v_solid_cubes v_solid_faces v_solid_onwardEdge)) hP hD [2, 3] [0, 1] rfl rfl (by decide) (by decide) hk1 hFc hP1 hD1
  clear hPc hDc hFc hP1 hD1 hK1 hk1 hz1 ht hvm
  replace h := hw
  clear hw
  generalize H1 = H at hP hS ⊢
  replace hP : va_P D vwCl (wd_X3_onward cI cZ cJ a_this a_headings a_solid a_solid_onwardEdge a_lies a_x a_y a_taken a_solid_cubeOf a_solid_lookOf a_solid_x a_solid_y a_solid_z a_solid_faceOf a_solid_beyondEdge v_count v_headings v_solid_cubes v_solid_faces v_solid_onwardEdge) H := hP.sub [0, 1, 2, 3] rfl
  replace hD : va_D A (wd_X3_onward cI cZ cJ a_this a_headings a_solid a_solid_onwardEdge a_lies a_x a_y a_taken a_solid_cubeOf a_solid_lookOf a_solid_x a_solid_y a_solid_z a_solid_faceOf a_solid_beyondEdge v_count v_headings v_solid_cubes v_solid_faces v_solid_onwardEdge) := hD.sub [0, 1, 2, 3] (by decide) rfl
  exact ret r_3 () _ _ _ 14 dX3_onward_14 h hP hD hS
def wd_X7_opposite (cI cZ cJ : ClassId) : va_W := []
abbrev rm_X7_opposite : Room := { frames := 0, cells := 0, slots := 0, locals := 0 }
set_option maxHeartbeats 4000000 in
set_option maxRecDepth 100000 in
theorem c_X7_opposite (l : Launch) (D : va_G) (cI cZ cJ : ClassId) (tb : Nat → Nat) (sz : Nat) (p0 : Int32) {post : Int32 → Prop} (h : wp_X7_opposite p0 post) : Met l yX7_opposite wsX7_opposite rm_X7_opposite (va_Pc [.int p0] (q_pre D cI cZ cJ tb (wd_X7_opposite cI cZ cJ) sz)) (va_Qi (fun r (u : Unit) => post r) (fun u => q_post D cI cZ cJ (va_A (wd_X7_opposite cI cZ cJ) sz) (wd_X7_opposite cI cZ cJ)) (va_A (wd_X7_opposite cI cZ cJ) sz)) 0 0 (va_A (wd_X7_opposite cI cZ cJ) sz) := by
  refine q_walki (cc := cX7_opposite) (maxL := 1) (own := RX7) (wd := fun (u : Unit) => (wd_X7_opposite cI cZ cJ)) (by decide) rfl rfl (Nat.le_of_ble_eq_true rfl) ?_
  intro p e s m below meth c Q A ls C hA ret hP hD hS hK hSt hNw hl
  obtain ⟨hx, hb, hml, hown, hts⟩ := id C
  replace hl : lv_has ls 1 [(0, .int p0)] := hl
  unfold wp_X7_opposite at h
  refine lv_iload_n hx hb dX7_opposite_0 rfl (lv_at hl 0 rfl) ?_
  refine lv_iconst (v := 1) hx hb dX7_opposite_1 (by decide) ?_
  refine lv_ixor hx hb dX7_opposite_2 ?_
  exact ret (p0 ^^^ (1 : Int32)) () _ _ _ 3 dX7_opposite_3 h hP hD hS
def wd_X3_setHeading (cI cZ cJ : ClassId) (a_this a_headings a_lies a_x a_y a_solid a_taken : Nat) (v_count : Int32) (v_headings : Nat → Int32) : va_W := [(a_this, .inr (3, [.ref a_lies, .ref a_x, .ref a_y, .int v_count, .ref a_solid, .ref a_headings, .ref a_taken])),
  (a_headings, .inl (cI, 88, .inl v_headings))]
abbrev rm_X3_setHeading : Room := { frames := 1, cells := 0, slots := 0, locals := 20 }
set_option maxHeartbeats 4000000 in
set_option maxRecDepth 100000 in
theorem c_X3_setHeading (l : Launch) (D : va_G) (cI cZ cJ : ClassId) (tb : Nat → Nat) (a_this a_headings a_lies a_x a_y a_solid a_taken : Nat) (v_count : Int32) (v_headings : Nat → Int32) (sz : Nat) (p1 : Int32) (p2 : Int32) (p3 : Int32) {post : (Nat → Int32) → Prop} (h : wp_X3_setHeading v_headings p1 p2 p3 post) : Met l yX3_setHeading wsX3_setHeading rm_X3_setHeading (va_Pc [.ref a_this, .int p1, .int p2, .int p3] (q_pre D cI cZ cJ tb (wd_X3_setHeading cI cZ cJ a_this a_headings a_lies a_x a_y a_solid a_taken v_count v_headings) sz)) (va_Qv (fun (u : Nat → Int32) => post u) (fun u => q_post D cI cZ cJ (va_A (wd_X3_setHeading cI cZ cJ a_this a_headings a_lies a_x a_y a_solid a_taken v_count v_headings) sz) (wd_X3_setHeading cI cZ cJ a_this a_headings a_lies a_x a_y a_solid a_taken v_count u)) (va_A (wd_X3_setHeading cI cZ cJ a_this a_headings a_lies a_x a_y a_solid a_taken v_count v_headings) sz)) 0 0 (va_A (wd_X3_setHeading cI cZ cJ a_this a_headings a_lies a_x a_y a_solid a_taken v_count v_headings) sz) := by
  refine q_walkv (cc := cX3_setHeading) (maxL := 4) (own := RX3) (wd := fun (u : Nat → Int32) => (wd_X3_setHeading cI cZ cJ a_this a_headings a_lies a_x a_y a_solid a_taken v_count u)) (by decide) rfl rfl (Nat.le_of_ble_eq_true rfl) ?_
  intro p e s m below meth c Q A ls C hA ret hP hD hS hK hSt hNw hl
  obtain ⟨hx, hb, hml, hown, hts⟩ := id C
  replace hl : lv_has ls 4 [(0, .ref a_this), (1, .int p1), (2, .int p2), (3, .int p3)] := hl
  have f22 := hts (.fieldLink RX3 22 "NetSearch$Sheet" "headings" "[I") (by decide +kernel)
  have iX3 : ∀ w ∈ wsX30, w ∈ wsX3_setHeading := by decide +kernel
  have n85 : va_Nw (.methodLinkNest RX3 85 yX7_opposite "NetSearch") s := hNw.2 (RX3, 85, yX7_opposite, "NetSearch") (by decide +kernel)
  have iniX7 := hts (.initialized RX7) (by decide +kernel)
  have sta_X7_opposite := hts (.static yX7_opposite) (by decide +kernel)
  unfold wp_X3_setHeading at h
  refine lv_aload_n hx hb dX3_setHeading_0 rfl (lv_at hl 0 rfl) ?_
  refine va_get (D := D) (ci := 3) (v := .ref a_headings) (C := RX3) (T := TX3) (N := 7) hx hb hts iX3 hown hK hP 0 rfl rfl 5 (by decide) f22 (fun _ h9 => h9) rfl dX3_setHeading_1 ?_
  refine lv_iload_n hx hb dX3_setHeading_4 rfl (lv_at hl 1 rfl) ?_
  refine lv_iconst (v := 4) hx hb dX3_setHeading_5 (by decide) ?_
  refine lv_imul hx hb dX3_setHeading_6 ?_
  refine lv_iload_n hx hb dX3_setHeading_7 rfl (lv_at hl 2 rfl) ?_
  refine lv_iadd hx hb dX3_setHeading_8 ?_
  refine lv_iload_n hx hb dX3_setHeading_9 rfl (lv_at hl 3 rfl) ?_
  obtain ⟨hin, h⟩ := h
  refine va_iast hx hb hK hP hD hS 1 0 rfl rfl hin dX3_setHeading_10 (fun H locs hP hD hS => ?_)
  replace hP : va_P D vwCl (wd_X3_setHeading cI cZ cJ a_this a_headings a_lies a_x a_y a_solid a_taken v_count (upd v_headings ((p1 * (4 : Int32)) + p2).toNatClampNeg p3)) H := hP
  replace hD : va_D A (wd_X3_setHeading cI cZ cJ a_this a_headings a_lies a_x a_y a_solid a_taken v_count (upd v_headings ((p1 * (4 : Int32)) + p2).toNatClampNeg p3)) := hD
  refine lv_aload_n hx hb dX3_setHeading_11 rfl (lv_at hl 0 rfl) ?_
  refine va_get (D := D) (ci := 3) (v := .ref a_headings) (C := RX3) (T := TX3) (N := 7) hx hb hts iX3 hown hK hP 0 rfl rfl 5 (by decide) f22 (fun _ h9 => h9) rfl dX3_setHeading_12 ?_
  refine lv_iload_n hx hb dX3_setHeading_15 rfl (lv_at hl 1 rfl) ?_
  refine lv_iconst (v := 4) hx hb dX3_setHeading_16 (by decide) ?_
  refine lv_imul hx hb dX3_setHeading_17 ?_
  refine lv_iload_n hx hb dX3_setHeading_18 rfl (lv_at hl 2 rfl) ?_
  refine lv_iconst (v := 2) hx hb dX3_setHeading_19 (by decide) ?_
  refine lv_ixor hx hb dX3_setHeading_20 ?_
  refine lv_iadd hx hb dX3_setHeading_21 ?_
  refine lv_iload_n hx hb dX3_setHeading_22 rfl (lv_at hl 3 rfl) ?_
  have hPc := hP.sub (ws' := (wd_X7_opposite cI cZ cJ)) [] rfl
  have hDc := hD.sub (ws' := (wd_X7_opposite cI cZ cJ)) [] (by decide) rfl
  have hFc := va_free (wc := (wd_X7_opposite cI cZ cJ)) hD hS hA [] rfl
  refine va_calli (va_runSN (As := [.int p3]) (rest := [.int ((p1 * (4 : Int32)) + (p2 ^^^ (2 : Int32))), .ref a_headings]) C (c_X7_opposite l D cI cZ cJ tb H.size p3 h) ⟨va_cnB 1 hts gX3_setHeading_X7_opposite_n85 rfl rfl rfl n85 iniX7 (by decide +kernel) ⟨Nat.le_of_ble_eq_true rfl, Nat.le_of_ble_eq_true rfl⟩, sta_X7_opposite, trivial⟩ ⟨q_pre.blind, fun U hU hW => ⟨rfl, q_pre.of hU hW hPc hK hDc hSt hS hFc hNw⟩⟩ rfl rfl hl.1 rfl (lv_room (Nat.le_of_ble_eq_true rfl)) dX3_setHeading_23 ⟨Nat.zero_le _, Nat.zero_le _⟩) hS (fun q _ h => hFc q h) hFc (fun r_1 u_2 t H1 locs ht hvm hw hB hz1 hk1 hS => ?_)
  obtain ⟨hP1, hK1, hD1⟩ := hB
  rw [ht] at hP1
  obtain ⟨hP, hD⟩ := va_join (wr := [(a_this, .inr (3, [.ref a_lies, .ref a_x, .ref a_y, .int v_count, .ref a_solid, .ref a_headings, .ref a_taken])), (a_headings, .inl (cI, 88, .inl (upd v_headings ((p1 * (4 : Int32)) + p2).toNatClampNeg p3)))]) (w1 := (wd_X7_opposite cI cZ cJ)) hP hD [] [0, 1] rfl rfl (by decide) (by decide) hk1 hFc hP1 hD1
  clear hPc hDc hFc hP1 hD1 hK1 hk1 hz1 ht hvm
  replace h := hw
  clear hw
  generalize H1 = H at hP hS ⊢
  replace hP : va_P D vwCl (wd_X3_setHeading cI cZ cJ a_this a_headings a_lies a_x a_y a_solid a_taken v_count (upd v_headings ((p1 * (4 : Int32)) + p2).toNatClampNeg p3)) H := hP.sub [0, 1] rfl
  replace hD : va_D A (wd_X3_setHeading cI cZ cJ a_this a_headings a_lies a_x a_y a_solid a_taken v_count (upd v_headings ((p1 * (4 : Int32)) + p2).toNatClampNeg p3)) := hD.sub [0, 1] (by decide) rfl
  obtain ⟨hin, h⟩ := h
  refine va_iast hx hb hK hP hD hS 1 0 rfl rfl hin dX3_setHeading_26 (fun H locs hP hD hS => ?_)
  replace hP : va_P D vwCl (wd_X3_setHeading cI cZ cJ a_this a_headings a_lies a_x a_y a_solid a_taken v_count (upd (upd v_headings ((p1 * (4 : Int32)) + p2).toNatClampNeg p3) ((p1 * (4 : Int32)) + (p2 ^^^ (2 : Int32))).toNatClampNeg r_1)) H := hP
  replace hD : va_D A (wd_X3_setHeading cI cZ cJ a_this a_headings a_lies a_x a_y a_solid a_taken v_count (upd (upd v_headings ((p1 * (4 : Int32)) + p2).toNatClampNeg p3) ((p1 * (4 : Int32)) + (p2 ^^^ (2 : Int32))).toNatClampNeg r_1)) := hD
  exact ret (upd (upd v_headings ((p1 * (4 : Int32)) + p2).toNatClampNeg p3) ((p1 * (4 : Int32)) + (p2 ^^^ (2 : Int32))).toNatClampNeg r_1) _ _ _ 27 dX3_setHeading_27 h hP hD hS
def wd_X3_placeBit (cI cZ cJ : ClassId) : va_W := []
abbrev rm_X3_placeBit : Room := { frames := 0, cells := 0, slots := 0, locals := 0 }
set_option maxHeartbeats 4000000 in
set_option maxRecDepth 100000 in
theorem c_X3_placeBit (l : Launch) (D : va_G) (cI cZ cJ : ClassId) (tb : Nat → Nat) (sz : Nat) (p0 : Int32) {post : Int64 → Prop} (h : wp_X3_placeBit p0 post) : Met l yX3_placeBit wsX3_placeBit rm_X3_placeBit (va_Pc [.int p0] (q_pre D cI cZ cJ tb (wd_X3_placeBit cI cZ cJ) sz)) (va_Ql (fun r (u : Unit) => post r) (fun u => q_post D cI cZ cJ (va_A (wd_X3_placeBit cI cZ cJ) sz) (wd_X3_placeBit cI cZ cJ)) (va_A (wd_X3_placeBit cI cZ cJ) sz)) 0 0 (va_A (wd_X3_placeBit cI cZ cJ) sz) := by
  refine q_walkl (cc := cX3_placeBit) (maxL := 1) (own := RX3) (wd := fun (u : Unit) => (wd_X3_placeBit cI cZ cJ)) (by decide) rfl rfl (Nat.le_of_ble_eq_true rfl) ?_
  intro p e s m below meth c Q A ls C hA ret hP hD hS hK hSt hNw hl
  obtain ⟨hx, hb, hml, hown, hts⟩ := id C
  replace hl : lv_has ls 1 [(0, .int p0)] := hl
  unfold wp_X3_placeBit at h
  refine lv_lconst (v := 1) hx hb dX3_placeBit_0 (by decide) ?_
  refine lv_bipush (v := 31) hx hb dX3_placeBit_1 (by decide) ?_
  refine lv_iload_n hx hb dX3_placeBit_3 rfl (lv_at hl 0 rfl) ?_
  refine lv_iadd hx hb dX3_placeBit_4 ?_
  refine lv_lshl (v := ((1 : Int64) <<< (((31 : Int32) + p0).toInt64 &&& 63))) hx hb dX3_placeBit_5 rfl ?_
  exact ret ((1 : Int64) <<< (((31 : Int32) + p0).toInt64 &&& 63)) () _ _ _ 6 dX3_placeBit_6 h hP hD hS
def wd_X3_putAt (cI cZ cJ : ClassId) (a_this a_lies a_taken a_x a_y a_solid a_headings : Nat) (v_count : Int32) (v_lies : Nat → Int32) (v_taken : Nat → Int64) (v_x : Nat → Int32) (v_y : Nat → Int32) : va_W := [(a_this, .inr (3, [.ref a_lies, .ref a_x, .ref a_y, .int v_count, .ref a_solid, .ref a_headings, .ref a_taken])),
  (a_lies, .inl (cZ, 22, .inl v_lies)),
  (a_taken, .inl (cJ, 63, .inr (.inl v_taken))),
  (a_x, .inl (cI, 22, .inl v_x)),
  (a_y, .inl (cI, 22, .inl v_y))]
abbrev rm_X3_putAt : Room := { frames := 1, cells := 0, slots := 0, locals := 20 }
set_option maxHeartbeats 4000000 in
set_option maxRecDepth 100000 in
theorem c_X3_putAt (l : Launch) (D : va_G) (cI cZ cJ : ClassId) (tb : Nat → Nat) (a_this a_lies a_taken a_x a_y a_solid a_headings : Nat) (v_count : Int32) (v_lies : Nat → Int32) (v_taken : Nat → Int64) (v_x : Nat → Int32) (v_y : Nat → Int32) (sz : Nat) (p1 : Int32) (p2 : Int32) (p3 : Int32) {post : Int32 → (Nat → Int32) → (Nat → Int64) → (Nat → Int32) → (Nat → Int32) → Prop} (h : wp_X3_putAt v_count v_lies v_taken v_x v_y p1 p2 p3 post) : Met l yX3_putAt wsX3_putAt rm_X3_putAt (va_Pc [.ref a_this, .int p1, .int p2, .int p3] (q_pre D cI cZ cJ tb (wd_X3_putAt cI cZ cJ a_this a_lies a_taken a_x a_y a_solid a_headings v_count v_lies v_taken v_x v_y) sz)) (va_Qv (fun (u : Int32 × (Nat → Int32) × (Nat → Int64) × (Nat → Int32) × (Nat → Int32)) => post u.1 u.2.1 u.2.2.1 u.2.2.2.1 u.2.2.2.2) (fun u => q_post D cI cZ cJ (va_A (wd_X3_putAt cI cZ cJ a_this a_lies a_taken a_x a_y a_solid a_headings v_count v_lies v_taken v_x v_y) sz) (wd_X3_putAt cI cZ cJ a_this a_lies a_taken a_x a_y a_solid a_headings u.1 u.2.1 u.2.2.1 u.2.2.2.1 u.2.2.2.2)) (va_A (wd_X3_putAt cI cZ cJ a_this a_lies a_taken a_x a_y a_solid a_headings v_count v_lies v_taken v_x v_y) sz)) 0 0 (va_A (wd_X3_putAt cI cZ cJ a_this a_lies a_taken a_x a_y a_solid a_headings v_count v_lies v_taken v_x v_y) sz) := by
  refine q_walkv (cc := cX3_putAt) (maxL := 4) (own := RX3) (wd := fun (u : Int32 × (Nat → Int32) × (Nat → Int64) × (Nat → Int32) × (Nat → Int32)) => (wd_X3_putAt cI cZ cJ a_this a_lies a_taken a_x a_y a_solid a_headings u.1 u.2.1 u.2.2.1 u.2.2.2.1 u.2.2.2.2)) (by decide) rfl rfl (Nat.le_of_ble_eq_true rfl) ?_
  intro p e s m below meth c Q A ls C hA ret hP hD hS hK hSt hNw hl
  obtain ⟨hx, hb, hml, hown, hts⟩ := id C
  replace hl : lv_has ls 4 [(0, .ref a_this), (1, .int p1), (2, .int p2), (3, .int p3)] := hl
  have f9 := hts (.fieldLink RX3 9 "NetSearch$Sheet" "lies" "[Z") (by decide +kernel)
  have iX3 : ∀ w ∈ wsX30, w ∈ wsX3_putAt := by decide +kernel
  have f15 := hts (.fieldLink RX3 15 "NetSearch$Sheet" "x" "[I") (by decide +kernel)
  have f19 := hts (.fieldLink RX3 19 "NetSearch$Sheet" "y" "[I") (by decide +kernel)
  have f25 := hts (.fieldLink RX3 25 "NetSearch$Sheet" "taken" "[J") (by decide +kernel)
  have f77 := hts (.fieldLink RX3 77 "NetSearch$Sheet" "count" "I") (by decide +kernel)
  unfold wp_X3_putAt at h
  refine lv_aload_n hx hb dX3_putAt_0 rfl (lv_at hl 0 rfl) ?_
  refine va_get (D := D) (ci := 3) (v := .ref a_lies) (C := RX3) (T := TX3) (N := 7) hx hb hts iX3 hown hK hP 0 rfl rfl 0 (by decide) f9 (fun _ h9 => h9) rfl dX3_putAt_1 ?_
  refine lv_iload_n hx hb dX3_putAt_4 rfl (lv_at hl 1 rfl) ?_
  refine lv_iconst (v := 1) hx hb dX3_putAt_5 (by decide) ?_
  obtain ⟨hin, h⟩ := h
  refine va_zast hx hb hK hP hD hS 1 1 rfl rfl hin dX3_putAt_6 (fun H locs hP hD hS => ?_)
  replace hP : va_P D vwCl (wd_X3_putAt cI cZ cJ a_this a_lies a_taken a_x a_y a_solid a_headings v_count (upd v_lies p1.toNatClampNeg (vp_nar .boolean (1 : Int32))) v_taken v_x v_y) H := hP
  replace hD : va_D A (wd_X3_putAt cI cZ cJ a_this a_lies a_taken a_x a_y a_solid a_headings v_count (upd v_lies p1.toNatClampNeg (vp_nar .boolean (1 : Int32))) v_taken v_x v_y) := hD
  refine lv_aload_n hx hb dX3_putAt_7 rfl (lv_at hl 0 rfl) ?_
  refine va_get (D := D) (ci := 3) (v := .ref a_x) (C := RX3) (T := TX3) (N := 7) hx hb hts iX3 hown hK hP 0 rfl rfl 1 (by decide) f15 (fun _ h9 => h9) rfl dX3_putAt_8 ?_
  refine lv_iload_n hx hb dX3_putAt_11 rfl (lv_at hl 1 rfl) ?_
  refine lv_iload_n hx hb dX3_putAt_12 rfl (lv_at hl 2 rfl) ?_
  obtain ⟨hin, h⟩ := h
  refine va_iast hx hb hK hP hD hS 3 0 rfl rfl hin dX3_putAt_13 (fun H locs hP hD hS => ?_)
  replace hP : va_P D vwCl (wd_X3_putAt cI cZ cJ a_this a_lies a_taken a_x a_y a_solid a_headings v_count (upd v_lies p1.toNatClampNeg (vp_nar .boolean (1 : Int32))) v_taken (upd v_x p1.toNatClampNeg p2) v_y) H := hP
  replace hD : va_D A (wd_X3_putAt cI cZ cJ a_this a_lies a_taken a_x a_y a_solid a_headings v_count (upd v_lies p1.toNatClampNeg (vp_nar .boolean (1 : Int32))) v_taken (upd v_x p1.toNatClampNeg p2) v_y) := hD
  refine lv_aload_n hx hb dX3_putAt_14 rfl (lv_at hl 0 rfl) ?_
  refine va_get (D := D) (ci := 3) (v := .ref a_y) (C := RX3) (T := TX3) (N := 7) hx hb hts iX3 hown hK hP 0 rfl rfl 2 (by decide) f19 (fun _ h9 => h9) rfl dX3_putAt_15 ?_
  refine lv_iload_n hx hb dX3_putAt_18 rfl (lv_at hl 1 rfl) ?_
  refine lv_iload_n hx hb dX3_putAt_19 rfl (lv_at hl 3 rfl) ?_
  obtain ⟨hin, h⟩ := h
  refine va_iast hx hb hK hP hD hS 4 0 rfl rfl hin dX3_putAt_20 (fun H locs hP hD hS => ?_)
  replace hP : va_P D vwCl (wd_X3_putAt cI cZ cJ a_this a_lies a_taken a_x a_y a_solid a_headings v_count (upd v_lies p1.toNatClampNeg (vp_nar .boolean (1 : Int32))) v_taken (upd v_x p1.toNatClampNeg p2) (upd v_y p1.toNatClampNeg p3)) H := hP
  replace hD : va_D A (wd_X3_putAt cI cZ cJ a_this a_lies a_taken a_x a_y a_solid a_headings v_count (upd v_lies p1.toNatClampNeg (vp_nar .boolean (1 : Int32))) v_taken (upd v_x p1.toNatClampNeg p2) (upd v_y p1.toNatClampNeg p3)) := hD
  refine lv_aload_n hx hb dX3_putAt_21 rfl (lv_at hl 0 rfl) ?_
  refine va_get (D := D) (ci := 3) (v := .ref a_taken) (C := RX3) (T := TX3) (N := 7) hx hb hts iX3 hown hK hP 0 rfl rfl 6 (by decide) f25 (fun _ h9 => h9) rfl dX3_putAt_22 ?_
  refine lv_bipush (v := 31) hx hb dX3_putAt_25 (by decide) ?_
  refine lv_iload_n hx hb dX3_putAt_27 rfl (lv_at hl 3 rfl) ?_
  refine lv_iadd hx hb dX3_putAt_28 ?_
  refine lv_dup2_11 hx hb dX3_putAt_29 rfl rfl ?_
  obtain ⟨hin, h⟩ := h
  refine va_lald hx hb hK hP 2 2 rfl rfl hin dX3_putAt_30 ?_
  refine lv_iload_n hx hb dX3_putAt_31 rfl (lv_at hl 2 rfl) ?_
  have hPc := hP.sub (ws' := (wd_X3_placeBit cI cZ cJ)) [] rfl
  have hDc := hD.sub (ws' := (wd_X3_placeBit cI cZ cJ)) [] (by decide) rfl
  have hFc := va_free (wc := (wd_X3_placeBit cI cZ cJ)) hD hS hA [] rfl
  refine va_calll (va_runS (As := [.int p2]) (rest := [.long (v_taken ((31 : Int32) + p3).toNatClampNeg), .int ((31 : Int32) + p3), .ref a_taken]) C (c_X3_placeBit l D cI cZ cJ tb H.size p2 h) (va_cwS 1 hts gX3_putAt_X3_placeBit rfl rfl rfl (by decide +kernel) ⟨Nat.le_of_ble_eq_true rfl, Nat.le_of_ble_eq_true rfl⟩) ⟨q_pre.blind, fun U hU hW => ⟨rfl, q_pre.of hU hW hPc hK hDc hSt hS hFc hNw⟩⟩ rfl rfl hl.1 rfl (lv_room (Nat.le_of_ble_eq_true rfl)) dX3_putAt_32 ⟨Nat.zero_le _, Nat.zero_le _⟩) hS (fun q _ h => hFc q h) hFc (fun r_1 u_2 t H1 locs ht hvm hw hB hz1 hk1 hS => ?_)
  obtain ⟨hP1, hK1, hD1⟩ := hB
  rw [ht] at hP1
  obtain ⟨hP, hD⟩ := va_join (wr := [(a_this, .inr (3, [.ref a_lies, .ref a_x, .ref a_y, .int v_count, .ref a_solid, .ref a_headings, .ref a_taken])), (a_lies, .inl (cZ, 22, .inl (upd v_lies p1.toNatClampNeg (vp_nar .boolean (1 : Int32))))), (a_taken, .inl (cJ, 63, .inr (.inl v_taken))), (a_x, .inl (cI, 22, .inl (upd v_x p1.toNatClampNeg p2))), (a_y, .inl (cI, 22, .inl (upd v_y p1.toNatClampNeg p3)))]) (w1 := (wd_X3_placeBit cI cZ cJ)) hP hD [] [0, 1, 2, 3, 4] rfl rfl (by decide) (by decide) hk1 hFc hP1 hD1
  clear hPc hDc hFc hP1 hD1 hK1 hk1 hz1 ht hvm
  replace h := hw
  clear hw
  generalize H1 = H at hP hS ⊢
  replace hP : va_P D vwCl (wd_X3_putAt cI cZ cJ a_this a_lies a_taken a_x a_y a_solid a_headings v_count (upd v_lies p1.toNatClampNeg (vp_nar .boolean (1 : Int32))) v_taken (upd v_x p1.toNatClampNeg p2) (upd v_y p1.toNatClampNeg p3)) H := hP.sub [0, 1, 2, 3, 4] rfl
  replace hD : va_D A (wd_X3_putAt cI cZ cJ a_this a_lies a_taken a_x a_y a_solid a_headings v_count (upd v_lies p1.toNatClampNeg (vp_nar .boolean (1 : Int32))) v_taken (upd v_x p1.toNatClampNeg p2) (upd v_y p1.toNatClampNeg p3)) := hD.sub [0, 1, 2, 3, 4] (by decide) rfl
  refine lv_lor hx hb dX3_putAt_35 ?_
  obtain ⟨hin, h⟩ := h
  refine va_last hx hb hK hP hD hS 2 2 rfl rfl hin dX3_putAt_36 (fun H locs hP hD hS => ?_)
  replace hP : va_P D vwCl (wd_X3_putAt cI cZ cJ a_this a_lies a_taken a_x a_y a_solid a_headings v_count (upd v_lies p1.toNatClampNeg (vp_nar .boolean (1 : Int32))) (vp_updL v_taken ((31 : Int32) + p3).toNatClampNeg ((v_taken ((31 : Int32) + p3).toNatClampNeg) ||| r_1)) (upd v_x p1.toNatClampNeg p2) (upd v_y p1.toNatClampNeg p3)) H := hP
  replace hD : va_D A (wd_X3_putAt cI cZ cJ a_this a_lies a_taken a_x a_y a_solid a_headings v_count (upd v_lies p1.toNatClampNeg (vp_nar .boolean (1 : Int32))) (vp_updL v_taken ((31 : Int32) + p3).toNatClampNeg ((v_taken ((31 : Int32) + p3).toNatClampNeg) ||| r_1)) (upd v_x p1.toNatClampNeg p2) (upd v_y p1.toNatClampNeg p3)) := hD
  refine lv_aload_n hx hb dX3_putAt_37 rfl (lv_at hl 0 rfl) ?_
  refine lv_dup hx hb dX3_putAt_38 rfl ?_
  refine va_get (D := D) (ci := 3) (v := .int v_count) (C := RX3) (T := TX3) (N := 7) hx hb hts iX3 hown hK hP 0 rfl rfl 3 (by decide) f77 (fun _ h9 => h9) rfl dX3_putAt_39 ?_
  refine lv_iconst (v := 1) hx hb dX3_putAt_42 (by decide) ?_
  refine lv_iadd hx hb dX3_putAt_43 ?_
  refine va_put (D := D) (ci := 3) (v := .int (v_count + (1 : Int32))) (ty := .int) (C := RX3) (T := TX3) (N := 7) hx hb hts iX3 tyX3 tyX3_ok nmX3 hown hK hP hD hS 0 rfl rfl 3 (by decide) f77 (fun _ h9 => h9) rfl (by decide +kernel) rfl rfl (Nat.le_of_ble_eq_true rfl) dX3_putAt_44 (fun H locs hP hD hS => ?_)
  replace hP : va_P D vwCl (wd_X3_putAt cI cZ cJ a_this a_lies a_taken a_x a_y a_solid a_headings (v_count + (1 : Int32)) (upd v_lies p1.toNatClampNeg (vp_nar .boolean (1 : Int32))) (vp_updL v_taken ((31 : Int32) + p3).toNatClampNeg ((v_taken ((31 : Int32) + p3).toNatClampNeg) ||| r_1)) (upd v_x p1.toNatClampNeg p2) (upd v_y p1.toNatClampNeg p3)) H := hP
  replace hD : va_D A (wd_X3_putAt cI cZ cJ a_this a_lies a_taken a_x a_y a_solid a_headings (v_count + (1 : Int32)) (upd v_lies p1.toNatClampNeg (vp_nar .boolean (1 : Int32))) (vp_updL v_taken ((31 : Int32) + p3).toNatClampNeg ((v_taken ((31 : Int32) + p3).toNatClampNeg) ||| r_1)) (upd v_x p1.toNatClampNeg p2) (upd v_y p1.toNatClampNeg p3)) := hD
  exact ret ((v_count + (1 : Int32)), (upd v_lies p1.toNatClampNeg (vp_nar .boolean (1 : Int32))), (vp_updL v_taken ((31 : Int32) + p3).toNatClampNeg ((v_taken ((31 : Int32) + p3).toNatClampNeg) ||| r_1)), (upd v_x p1.toNatClampNeg p2), (upd v_y p1.toNatClampNeg p3)) _ _ _ 47 dX3_putAt_47 h hP hD hS
def wd_X3_putBeside (cI cZ cJ : ClassId) (a_this a_headings a_lies a_solid a_solid_beyondEdge a_solid_onwardEdge a_taken a_x a_y a_solid_cubeOf a_solid_lookOf a_solid_x a_solid_y a_solid_z a_solid_faceOf : Nat) (v_count : Int32) (v_headings : Nat → Int32) (v_lies : Nat → Int32) (v_solid_cubes : Int32) (v_solid_faces : Int32) (v_solid_beyondEdge : Nat → Int32) (v_solid_onwardEdge : Nat → Int32) (v_taken : Nat → Int64) (v_x : Nat → Int32) (v_y : Nat → Int32) : va_W := [(a_this, .inr (3, [.ref a_lies, .ref a_x, .ref a_y, .int v_count, .ref a_solid, .ref a_headings, .ref a_taken])),
  (a_headings, .inl (cI, 88, .inl v_headings)),
  (a_lies, .inl (cZ, 22, .inl v_lies)),
  (a_solid, .inr (4, [.int v_solid_cubes, .int v_solid_faces, .ref a_solid_cubeOf, .ref a_solid_lookOf, .ref a_solid_x, .ref a_solid_y, .ref a_solid_z, .ref a_solid_faceOf, .ref a_solid_beyondEdge, .ref a_solid_onwardEdge])),
  (a_solid_beyondEdge, .inl (cI, 132, .inl v_solid_beyondEdge)),
  (a_solid_onwardEdge, .inl (cI, 132, .inl v_solid_onwardEdge)),
  (a_taken, .inl (cJ, 63, .inr (.inl v_taken))),
  (a_x, .inl (cI, 22, .inl v_x)),
  (a_y, .inl (cI, 22, .inl v_y))]
abbrev rm_X3_putBeside : Room := { frames := 2, cells := 0, slots := 0, locals := 44 }
set_option maxHeartbeats 4000000 in
set_option maxRecDepth 100000 in
theorem c_X3_putBeside (l : Launch) (D : va_G) (cI cZ cJ : ClassId) (tb : Nat → Nat) (a_this a_headings a_lies a_solid a_solid_beyondEdge a_solid_onwardEdge a_taken a_x a_y a_solid_cubeOf a_solid_lookOf a_solid_x a_solid_y a_solid_z a_solid_faceOf : Nat) (v_count : Int32) (v_headings : Nat → Int32) (v_lies : Nat → Int32) (v_solid_cubes : Int32) (v_solid_faces : Int32) (v_solid_beyondEdge : Nat → Int32) (v_solid_onwardEdge : Nat → Int32) (v_taken : Nat → Int64) (v_x : Nat → Int32) (v_y : Nat → Int32) (sz : Nat) (p1 : Int32) (p2 : Int32) {post : Int32 → (Nat → Int32) → (Nat → Int32) → (Nat → Int64) → (Nat → Int32) → (Nat → Int32) → Prop} (h : wp_X3_putBeside v_count v_headings v_lies v_solid_beyondEdge v_solid_onwardEdge v_taken v_x v_y p1 p2 post) : Met l yX3_putBeside wsX3_putBeside rm_X3_putBeside (va_Pc [.ref a_this, .int p1, .int p2] (q_pre D cI cZ cJ tb (wd_X3_putBeside cI cZ cJ a_this a_headings a_lies a_solid a_solid_beyondEdge a_solid_onwardEdge a_taken a_x a_y a_solid_cubeOf a_solid_lookOf a_solid_x a_solid_y a_solid_z a_solid_faceOf v_count v_headings v_lies v_solid_cubes v_solid_faces v_solid_beyondEdge v_solid_onwardEdge v_taken v_x v_y) sz)) (va_Qv (fun (u : Int32 × (Nat → Int32) × (Nat → Int32) × (Nat → Int64) × (Nat → Int32) × (Nat → Int32)) => post u.1 u.2.1 u.2.2.1 u.2.2.2.1 u.2.2.2.2.1 u.2.2.2.2.2) (fun u => q_post D cI cZ cJ (va_A (wd_X3_putBeside cI cZ cJ a_this a_headings a_lies a_solid a_solid_beyondEdge a_solid_onwardEdge a_taken a_x a_y a_solid_cubeOf a_solid_lookOf a_solid_x a_solid_y a_solid_z a_solid_faceOf v_count v_headings v_lies v_solid_cubes v_solid_faces v_solid_beyondEdge v_solid_onwardEdge v_taken v_x v_y) sz) (wd_X3_putBeside cI cZ cJ a_this a_headings a_lies a_solid a_solid_beyondEdge a_solid_onwardEdge a_taken a_x a_y a_solid_cubeOf a_solid_lookOf a_solid_x a_solid_y a_solid_z a_solid_faceOf u.1 u.2.1 u.2.2.1 v_solid_cubes v_solid_faces v_solid_beyondEdge v_solid_onwardEdge u.2.2.2.1 u.2.2.2.2.1 u.2.2.2.2.2)) (va_A (wd_X3_putBeside cI cZ cJ a_this a_headings a_lies a_solid a_solid_beyondEdge a_solid_onwardEdge a_taken a_x a_y a_solid_cubeOf a_solid_lookOf a_solid_x a_solid_y a_solid_z a_solid_faceOf v_count v_headings v_lies v_solid_cubes v_solid_faces v_solid_beyondEdge v_solid_onwardEdge v_taken v_x v_y) sz)) 0 0 (va_A (wd_X3_putBeside cI cZ cJ a_this a_headings a_lies a_solid a_solid_beyondEdge a_solid_onwardEdge a_taken a_x a_y a_solid_cubeOf a_solid_lookOf a_solid_x a_solid_y a_solid_z a_solid_faceOf v_count v_headings v_lies v_solid_cubes v_solid_faces v_solid_beyondEdge v_solid_onwardEdge v_taken v_x v_y) sz) := by
  refine q_walkv (cc := cX3_putBeside) (maxL := 4) (own := RX3) (wd := fun (u : Int32 × (Nat → Int32) × (Nat → Int32) × (Nat → Int64) × (Nat → Int32) × (Nat → Int32)) => (wd_X3_putBeside cI cZ cJ a_this a_headings a_lies a_solid a_solid_beyondEdge a_solid_onwardEdge a_taken a_x a_y a_solid_cubeOf a_solid_lookOf a_solid_x a_solid_y a_solid_z a_solid_faceOf u.1 u.2.1 u.2.2.1 v_solid_cubes v_solid_faces v_solid_beyondEdge v_solid_onwardEdge u.2.2.2.1 u.2.2.2.2.1 u.2.2.2.2.2)) (by decide) rfl rfl (Nat.le_of_ble_eq_true rfl) ?_
  intro p e s m below meth c Q A ls C hA ret hP hD hS hK hSt hNw hl
  obtain ⟨hx, hb, hml, hown, hts⟩ := id C
  replace hl : lv_has ls 4 [(0, .ref a_this), (1, .int p1), (2, .int p2)] := hl
  have f15 := hts (.fieldLink RX3 15 "NetSearch$Sheet" "x" "[I") (by decide +kernel)
  have iX3 : ∀ w ∈ wsX30, w ∈ wsX3_putBeside := by decide +kernel
  have hZ5 : va_Z "NetSearch" "SIDE_X" "[I" (.ref (tb 5)) A s s.heap := (hSt 5 (by decide)).1
  have hT5 : va_T .int (tb 5) 4 (fun j => .int (q_SIDE_X j)) A s s.heap := (hSt 5 (by decide)).2
  have g65 : (Cond.fieldLinkNest RX3 65 "NetSearch" "SIDE_X" "[I" "NetSearch").before ([.ref a_this, .int p1, .int p2] : List Value).toArray s = true := va_Nw.use rfl (hNw.1 (RX3, 65, "NetSearch", "SIDE_X", "[I", "NetSearch") (by decide +kernel))
  have f19 := hts (.fieldLink RX3 19 "NetSearch$Sheet" "y" "[I") (by decide +kernel)
  have hZ6 : va_Z "NetSearch" "SIDE_Y" "[I" (.ref (tb 6)) A s s.heap := (hSt 6 (by decide)).1
  have hT6 : va_T .int (tb 6) 4 (fun j => .int (q_SIDE_Y j)) A s s.heap := (hSt 6 (by decide)).2
  have g68 : (Cond.fieldLinkNest RX3 68 "NetSearch" "SIDE_Y" "[I" "NetSearch").before ([.ref a_this, .int p1, .int p2] : List Value).toArray s = true := va_Nw.use rfl (hNw.1 (RX3, 68, "NetSearch", "SIDE_Y", "[I", "NetSearch") (by decide +kernel))
  unfold wp_X3_putBeside at h
  refine lv_aload_n hx hb dX3_putBeside_0 rfl (lv_at hl 0 rfl) ?_
  refine lv_iload_n hx hb dX3_putBeside_1 rfl (lv_at hl 1 rfl) ?_
  refine lv_iload_n hx hb dX3_putBeside_2 rfl (lv_at hl 2 rfl) ?_
  have hPc := hP.sub (ws' := (wd_X3_neighbour cI cZ cJ a_this a_headings a_solid a_solid_beyondEdge a_lies a_x a_y a_taken a_solid_cubeOf a_solid_lookOf a_solid_x a_solid_y a_solid_z a_solid_faceOf a_solid_onwardEdge v_count v_headings v_solid_cubes v_solid_faces v_solid_beyondEdge)) [0, 1, 3, 4] rfl
  have hDc := hD.sub (ws' := (wd_X3_neighbour cI cZ cJ a_this a_headings a_solid a_solid_beyondEdge a_lies a_x a_y a_taken a_solid_cubeOf a_solid_lookOf a_solid_x a_solid_y a_solid_z a_solid_faceOf a_solid_onwardEdge v_count v_headings v_solid_cubes v_solid_faces v_solid_beyondEdge)) [0, 1, 3, 4] (by decide) rfl
  have hFc := va_free (wc := (wd_X3_neighbour cI cZ cJ a_this a_headings a_solid a_solid_beyondEdge a_lies a_x a_y a_taken a_solid_cubeOf a_solid_lookOf a_solid_x a_solid_y a_solid_z a_solid_faceOf a_solid_onwardEdge v_count v_headings v_solid_cubes v_solid_faces v_solid_beyondEdge)) hD hS hA [0, 1, 3, 4] rfl
  refine va_calli (va_runV (As := [.int p1, .int p2]) (rest := []) C (c_X3_neighbour l D cI cZ cJ tb a_this a_headings a_solid a_solid_beyondEdge a_lies a_x a_y a_taken a_solid_cubeOf a_solid_lookOf a_solid_x a_solid_y a_solid_z a_solid_faceOf a_solid_onwardEdge v_count v_headings v_solid_cubes v_solid_faces v_solid_beyondEdge s.heap.size p1 p2 h) (cwV 2 hts gX3_putBeside_X3_neighbour rfl rfl rfl (by decide +kernel) ⟨Nat.le_of_ble_eq_true rfl, Nat.le_of_ble_eq_true rfl⟩) ⟨q_pre.blind, va_recv hK hP (ci := 3) (q0 := 0) rfl rfl, fun U hU hW => ⟨rfl, q_pre.of hU hW hPc hK hDc hSt hS hFc hNw⟩⟩ rfl rfl hl.1 rfl (lv_room (Nat.le_of_ble_eq_true rfl)) dX3_putBeside_3 ⟨Nat.zero_le _, Nat.zero_le _⟩) hS (fun q _ h => hFc q h) hFc (fun r_1 u_2 t H1 locs ht hvm hw hB hz1 hk1 hS => ?_)
  obtain ⟨hP1, hK1, hD1⟩ := hB
  rw [ht] at hP1
  obtain ⟨hP, hD⟩ := va_join (wr := [(a_lies, .inl (cZ, 22, .inl v_lies)), (a_solid_onwardEdge, .inl (cI, 132, .inl v_solid_onwardEdge)), (a_taken, .inl (cJ, 63, .inr (.inl v_taken))), (a_x, .inl (cI, 22, .inl v_x)), (a_y, .inl (cI, 22, .inl v_y))]) (w1 := (wd_X3_neighbour cI cZ cJ a_this a_headings a_solid a_solid_beyondEdge a_lies a_x a_y a_taken a_solid_cubeOf a_solid_lookOf a_solid_x a_solid_y a_solid_z a_solid_faceOf a_solid_onwardEdge v_count v_headings v_solid_cubes v_solid_faces v_solid_beyondEdge)) hP hD [0, 1, 3, 4] [2, 5, 6, 7, 8] rfl rfl (by decide) (by decide) hk1 hFc hP1 hD1
  clear hPc hDc hFc hP1 hD1 hK1 hk1 hz1 ht hvm
  replace h := hw
  clear hw
  generalize H1 = H at hP hS ⊢
  replace hP : va_P D vwCl (wd_X3_putBeside cI cZ cJ a_this a_headings a_lies a_solid a_solid_beyondEdge a_solid_onwardEdge a_taken a_x a_y a_solid_cubeOf a_solid_lookOf a_solid_x a_solid_y a_solid_z a_solid_faceOf v_count v_headings v_lies v_solid_cubes v_solid_faces v_solid_beyondEdge v_solid_onwardEdge v_taken v_x v_y) H := hP.sub [5, 6, 0, 7, 8, 1, 2, 3, 4] rfl
  replace hD : va_D A (wd_X3_putBeside cI cZ cJ a_this a_headings a_lies a_solid a_solid_beyondEdge a_solid_onwardEdge a_taken a_x a_y a_solid_cubeOf a_solid_lookOf a_solid_x a_solid_y a_solid_z a_solid_faceOf v_count v_headings v_lies v_solid_cubes v_solid_faces v_solid_beyondEdge v_solid_onwardEdge v_taken v_x v_y) := hD.sub [5, 6, 0, 7, 8, 1, 2, 3, 4] (by decide) rfl
  refine lv_istore_n (lv' := [(3, .int r_1), (0, .ref a_this), (1, .int p1), (2, .int p2)]) hx hb dX3_putBeside_6 rfl hl (by decide) rfl (fun ls hl => ?_)
  refine lv_aload_n hx hb dX3_putBeside_7 rfl (lv_at hl 1 rfl) ?_
  refine lv_iload_n hx hb dX3_putBeside_8 rfl (lv_at hl 0 rfl) ?_
  refine lv_iload_n hx hb dX3_putBeside_9 rfl (lv_at hl 3 rfl) ?_
  refine lv_aload_n hx hb dX3_putBeside_10 rfl (lv_at hl 1 rfl) ?_
  refine lv_iload_n hx hb dX3_putBeside_11 rfl (lv_at hl 2 rfl) ?_
  refine lv_iload_n hx hb dX3_putBeside_12 rfl (lv_at hl 3 rfl) ?_
  have hPc := hP.sub (ws' := (wd_X3_onward cI cZ cJ a_this a_headings a_solid a_solid_onwardEdge a_lies a_x a_y a_taken a_solid_cubeOf a_solid_lookOf a_solid_x a_solid_y a_solid_z a_solid_faceOf a_solid_beyondEdge v_count v_headings v_solid_cubes v_solid_faces v_solid_onwardEdge)) [0, 1, 3, 5] rfl
  have hDc := hD.sub (ws' := (wd_X3_onward cI cZ cJ a_this a_headings a_solid a_solid_onwardEdge a_lies a_x a_y a_taken a_solid_cubeOf a_solid_lookOf a_solid_x a_solid_y a_solid_z a_solid_faceOf a_solid_beyondEdge v_count v_headings v_solid_cubes v_solid_faces v_solid_onwardEdge)) [0, 1, 3, 5] (by decide) rfl
  have hFc := va_free (wc := (wd_X3_onward cI cZ cJ a_this a_headings a_solid a_solid_onwardEdge a_lies a_x a_y a_taken a_solid_cubeOf a_solid_lookOf a_solid_x a_solid_y a_solid_z a_solid_faceOf a_solid_beyondEdge v_count v_headings v_solid_cubes v_solid_faces v_solid_onwardEdge)) hD hS hA [0, 1, 3, 5] rfl
  refine va_calli (va_runV (As := [.int p1, .int p2]) (rest := [.int p2, .int r_1, .ref a_this]) C (c_X3_onward l D cI cZ cJ tb a_this a_headings a_solid a_solid_onwardEdge a_lies a_x a_y a_taken a_solid_cubeOf a_solid_lookOf a_solid_x a_solid_y a_solid_z a_solid_faceOf a_solid_beyondEdge v_count v_headings v_solid_cubes v_solid_faces v_solid_onwardEdge H.size p1 p2 h) (cwV 2 hts gX3_putBeside_X3_onward rfl rfl rfl (by decide +kernel) ⟨Nat.le_of_ble_eq_true rfl, Nat.le_of_ble_eq_true rfl⟩) ⟨q_pre.blind, va_recv hK hP (ci := 3) (q0 := 0) rfl rfl, fun U hU hW => ⟨rfl, q_pre.of hU hW hPc hK hDc hSt hS hFc hNw⟩⟩ rfl rfl hl.1 rfl (lv_room (Nat.le_of_ble_eq_true rfl)) dX3_putBeside_13 ⟨Nat.zero_le _, Nat.zero_le _⟩) hS (fun q _ h => hFc q h) hFc (fun r_3 u_4 t H1 locs ht hvm hw hB hz1 hk1 hS => ?_)
  obtain ⟨hP1, hK1, hD1⟩ := hB
  rw [ht] at hP1
  obtain ⟨hP, hD⟩ := va_join (wr := [(a_lies, .inl (cZ, 22, .inl v_lies)), (a_solid_beyondEdge, .inl (cI, 132, .inl v_solid_beyondEdge)), (a_taken, .inl (cJ, 63, .inr (.inl v_taken))), (a_x, .inl (cI, 22, .inl v_x)), (a_y, .inl (cI, 22, .inl v_y))]) (w1 := (wd_X3_onward cI cZ cJ a_this a_headings a_solid a_solid_onwardEdge a_lies a_x a_y a_taken a_solid_cubeOf a_solid_lookOf a_solid_x a_solid_y a_solid_z a_solid_faceOf a_solid_beyondEdge v_count v_headings v_solid_cubes v_solid_faces v_solid_onwardEdge)) hP hD [0, 1, 3, 5] [2, 4, 6, 7, 8] rfl rfl (by decide) (by decide) hk1 hFc hP1 hD1
  clear hPc hDc hFc hP1 hD1 hK1 hk1 hz1 ht hvm
  replace h := hw
  clear hw
  generalize H1 = H at hP hS ⊢
  replace hP : va_P D vwCl (wd_X3_putBeside cI cZ cJ a_this a_headings a_lies a_solid a_solid_beyondEdge a_solid_onwardEdge a_taken a_x a_y a_solid_cubeOf a_solid_lookOf a_solid_x a_solid_y a_solid_z a_solid_faceOf v_count v_headings v_lies v_solid_cubes v_solid_faces v_solid_beyondEdge v_solid_onwardEdge v_taken v_x v_y) H := hP.sub [5, 6, 0, 7, 1, 8, 2, 3, 4] rfl
  replace hD : va_D A (wd_X3_putBeside cI cZ cJ a_this a_headings a_lies a_solid a_solid_beyondEdge a_solid_onwardEdge a_taken a_x a_y a_solid_cubeOf a_solid_lookOf a_solid_x a_solid_y a_solid_z a_solid_faceOf v_count v_headings v_lies v_solid_cubes v_solid_faces v_solid_beyondEdge v_solid_onwardEdge v_taken v_x v_y) := hD.sub [5, 6, 0, 7, 1, 8, 2, 3, 4] (by decide) rfl
  have hPc := hP.sub (ws' := (wd_X3_setHeading cI cZ cJ a_this a_headings a_lies a_x a_y a_solid a_taken v_count v_headings)) [0, 1] rfl
  have hDc := hD.sub (ws' := (wd_X3_setHeading cI cZ cJ a_this a_headings a_lies a_x a_y a_solid a_taken v_count v_headings)) [0, 1] (by decide) rfl
  have hFc := va_free (wc := (wd_X3_setHeading cI cZ cJ a_this a_headings a_lies a_x a_y a_solid a_taken v_count v_headings)) hD hS hA [0, 1] rfl
  refine va_callv (va_runV (As := [.int r_1, .int p2, .int r_3]) (rest := []) C (c_X3_setHeading l D cI cZ cJ tb a_this a_headings a_lies a_x a_y a_solid a_taken v_count v_headings H.size r_1 p2 r_3 h) (cwV 3 hts gX3_putBeside_X3_setHeading rfl rfl rfl (by decide +kernel) ⟨Nat.le_of_ble_eq_true rfl, Nat.le_of_ble_eq_true rfl⟩) ⟨q_pre.blind, va_recv hK hP (ci := 3) (q0 := 0) rfl rfl, fun U hU hW => ⟨rfl, q_pre.of hU hW hPc hK hDc hSt hS hFc hNw⟩⟩ rfl rfl hl.1 rfl (lv_room (Nat.le_of_ble_eq_true rfl)) dX3_putBeside_16 ⟨Nat.zero_le _, Nat.zero_le _⟩) hS (fun q _ h => hFc q h) hFc (fun u_6 t H1 locs ht hvm hw hB hz1 hk1 hS => ?_)
  obtain ⟨hP1, hK1, hD1⟩ := hB
  rw [ht] at hP1
  obtain ⟨hP, hD⟩ := va_join (wr := [(a_lies, .inl (cZ, 22, .inl v_lies)), (a_solid, .inr (4, [.int v_solid_cubes, .int v_solid_faces, .ref a_solid_cubeOf, .ref a_solid_lookOf, .ref a_solid_x, .ref a_solid_y, .ref a_solid_z, .ref a_solid_faceOf, .ref a_solid_beyondEdge, .ref a_solid_onwardEdge])), (a_solid_beyondEdge, .inl (cI, 132, .inl v_solid_beyondEdge)), (a_solid_onwardEdge, .inl (cI, 132, .inl v_solid_onwardEdge)), (a_taken, .inl (cJ, 63, .inr (.inl v_taken))), (a_x, .inl (cI, 22, .inl v_x)), (a_y, .inl (cI, 22, .inl v_y))]) (w1 := (wd_X3_setHeading cI cZ cJ a_this a_headings a_lies a_x a_y a_solid a_taken v_count u_6)) hP hD [0, 1] [2, 3, 4, 5, 6, 7, 8] rfl rfl (by decide) (by decide) hk1 hFc hP1 hD1
  clear hPc hDc hFc hP1 hD1 hK1 hk1 hz1 ht hvm
  replace h := hw
  clear hw
  generalize H1 = H at hP hS ⊢
  replace hP : va_P D vwCl (wd_X3_putBeside cI cZ cJ a_this a_headings a_lies a_solid a_solid_beyondEdge a_solid_onwardEdge a_taken a_x a_y a_solid_cubeOf a_solid_lookOf a_solid_x a_solid_y a_solid_z a_solid_faceOf v_count u_6 v_lies v_solid_cubes v_solid_faces v_solid_beyondEdge v_solid_onwardEdge v_taken v_x v_y) H := hP.sub [7, 8, 0, 1, 2, 3, 4, 5, 6] rfl
  replace hD : va_D A (wd_X3_putBeside cI cZ cJ a_this a_headings a_lies a_solid a_solid_beyondEdge a_solid_onwardEdge a_taken a_x a_y a_solid_cubeOf a_solid_lookOf a_solid_x a_solid_y a_solid_z a_solid_faceOf v_count u_6 v_lies v_solid_cubes v_solid_faces v_solid_beyondEdge v_solid_onwardEdge v_taken v_x v_y) := hD.sub [7, 8, 0, 1, 2, 3, 4, 5, 6] (by decide) rfl
  refine lv_aload_n hx hb dX3_putBeside_19 rfl (lv_at hl 1 rfl) ?_
  refine lv_iload_n hx hb dX3_putBeside_20 rfl (lv_at hl 0 rfl) ?_
  refine lv_iload_n hx hb dX3_putBeside_21 rfl (lv_at hl 3 rfl) ?_
  refine lv_iconst (v := 1) hx hb dX3_putBeside_22 (by decide) ?_
  refine lv_ixor hx hb dX3_putBeside_23 ?_
  refine lv_aload_n hx hb dX3_putBeside_24 rfl (lv_at hl 1 rfl) ?_
  refine lv_iload_n hx hb dX3_putBeside_25 rfl (lv_at hl 2 rfl) ?_
  refine lv_iload_n hx hb dX3_putBeside_26 rfl (lv_at hl 3 rfl) ?_
  refine lv_iconst (v := 1) hx hb dX3_putBeside_27 (by decide) ?_
  refine lv_ixor hx hb dX3_putBeside_28 ?_
  have hPc := hP.sub (ws' := (wd_X3_heading cI cZ cJ a_this a_headings a_lies a_x a_y a_solid a_taken v_count u_6)) [0, 1] rfl
  have hDc := hD.sub (ws' := (wd_X3_heading cI cZ cJ a_this a_headings a_lies a_x a_y a_solid a_taken v_count u_6)) [0, 1] (by decide) rfl
  have hFc := va_free (wc := (wd_X3_heading cI cZ cJ a_this a_headings a_lies a_x a_y a_solid a_taken v_count u_6)) hD hS hA [0, 1] rfl
  refine va_calli (va_runV (As := [.int p1, .int (p2 ^^^ (1 : Int32))]) (rest := [.int (p2 ^^^ (1 : Int32)), .int r_1, .ref a_this]) C (c_X3_heading l D cI cZ cJ tb a_this a_headings a_lies a_x a_y a_solid a_taken v_count u_6 H.size p1 (p2 ^^^ (1 : Int32)) h) (cwV 2 hts gX3_putBeside_X3_heading rfl rfl rfl (by decide +kernel) ⟨Nat.le_of_ble_eq_true rfl, Nat.le_of_ble_eq_true rfl⟩) ⟨q_pre.blind, va_recv hK hP (ci := 3) (q0 := 0) rfl rfl, fun U hU hW => ⟨rfl, q_pre.of hU hW hPc hK hDc hSt hS hFc hNw⟩⟩ rfl rfl hl.1 rfl (lv_room (Nat.le_of_ble_eq_true rfl)) dX3_putBeside_29 ⟨Nat.zero_le _, Nat.zero_le _⟩) hS (fun q _ h => hFc q h) hFc (fun r_8 u_9 t H1 locs ht hvm hw hB hz1 hk1 hS => ?_)
  obtain ⟨hP1, hK1, hD1⟩ := hB
  rw [ht] at hP1
  obtain ⟨hP, hD⟩ := va_join (wr := [(a_lies, .inl (cZ, 22, .inl v_lies)), (a_solid, .inr (4, [.int v_solid_cubes, .int v_solid_faces, .ref a_solid_cubeOf, .ref a_solid_lookOf, .ref a_solid_x, .ref a_solid_y, .ref a_solid_z, .ref a_solid_faceOf, .ref a_solid_beyondEdge, .ref a_solid_onwardEdge])), (a_solid_beyondEdge, .inl (cI, 132, .inl v_solid_beyondEdge)), (a_solid_onwardEdge, .inl (cI, 132, .inl v_solid_onwardEdge)), (a_taken, .inl (cJ, 63, .inr (.inl v_taken))), (a_x, .inl (cI, 22, .inl v_x)), (a_y, .inl (cI, 22, .inl v_y))]) (w1 := (wd_X3_heading cI cZ cJ a_this a_headings a_lies a_x a_y a_solid a_taken v_count u_6)) hP hD [0, 1] [2, 3, 4, 5, 6, 7, 8] rfl rfl (by decide) (by decide) hk1 hFc hP1 hD1
  clear hPc hDc hFc hP1 hD1 hK1 hk1 hz1 ht hvm
  replace h := hw
  clear hw
  generalize H1 = H at hP hS ⊢
  replace hP : va_P D vwCl (wd_X3_putBeside cI cZ cJ a_this a_headings a_lies a_solid a_solid_beyondEdge a_solid_onwardEdge a_taken a_x a_y a_solid_cubeOf a_solid_lookOf a_solid_x a_solid_y a_solid_z a_solid_faceOf v_count u_6 v_lies v_solid_cubes v_solid_faces v_solid_beyondEdge v_solid_onwardEdge v_taken v_x v_y) H := hP.sub [7, 8, 0, 1, 2, 3, 4, 5, 6] rfl
  replace hD : va_D A (wd_X3_putBeside cI cZ cJ a_this a_headings a_lies a_solid a_solid_beyondEdge a_solid_onwardEdge a_taken a_x a_y a_solid_cubeOf a_solid_lookOf a_solid_x a_solid_y a_solid_z a_solid_faceOf v_count u_6 v_lies v_solid_cubes v_solid_faces v_solid_beyondEdge v_solid_onwardEdge v_taken v_x v_y) := hD.sub [7, 8, 0, 1, 2, 3, 4, 5, 6] (by decide) rfl
  have hPc := hP.sub (ws' := (wd_X3_setHeading cI cZ cJ a_this a_headings a_lies a_x a_y a_solid a_taken v_count u_6)) [0, 1] rfl
  have hDc := hD.sub (ws' := (wd_X3_setHeading cI cZ cJ a_this a_headings a_lies a_x a_y a_solid a_taken v_count u_6)) [0, 1] (by decide) rfl
  have hFc := va_free (wc := (wd_X3_setHeading cI cZ cJ a_this a_headings a_lies a_x a_y a_solid a_taken v_count u_6)) hD hS hA [0, 1] rfl
  refine va_callv (va_runV (As := [.int r_1, .int (p2 ^^^ (1 : Int32)), .int r_8]) (rest := []) C (c_X3_setHeading l D cI cZ cJ tb a_this a_headings a_lies a_x a_y a_solid a_taken v_count u_6 H.size r_1 (p2 ^^^ (1 : Int32)) r_8 h) (cwV 3 hts gX3_putBeside_X3_setHeading rfl rfl rfl (by decide +kernel) ⟨Nat.le_of_ble_eq_true rfl, Nat.le_of_ble_eq_true rfl⟩) ⟨q_pre.blind, va_recv hK hP (ci := 3) (q0 := 0) rfl rfl, fun U hU hW => ⟨rfl, q_pre.of hU hW hPc hK hDc hSt hS hFc hNw⟩⟩ rfl rfl hl.1 rfl (lv_room (Nat.le_of_ble_eq_true rfl)) dX3_putBeside_32 ⟨Nat.zero_le _, Nat.zero_le _⟩) hS (fun q _ h => hFc q h) hFc (fun u_11 t H1 locs ht hvm hw hB hz1 hk1 hS => ?_)
  obtain ⟨hP1, hK1, hD1⟩ := hB
  rw [ht] at hP1
  obtain ⟨hP, hD⟩ := va_join (wr := [(a_lies, .inl (cZ, 22, .inl v_lies)), (a_solid, .inr (4, [.int v_solid_cubes, .int v_solid_faces, .ref a_solid_cubeOf, .ref a_solid_lookOf, .ref a_solid_x, .ref a_solid_y, .ref a_solid_z, .ref a_solid_faceOf, .ref a_solid_beyondEdge, .ref a_solid_onwardEdge])), (a_solid_beyondEdge, .inl (cI, 132, .inl v_solid_beyondEdge)), (a_solid_onwardEdge, .inl (cI, 132, .inl v_solid_onwardEdge)), (a_taken, .inl (cJ, 63, .inr (.inl v_taken))), (a_x, .inl (cI, 22, .inl v_x)), (a_y, .inl (cI, 22, .inl v_y))]) (w1 := (wd_X3_setHeading cI cZ cJ a_this a_headings a_lies a_x a_y a_solid a_taken v_count u_11)) hP hD [0, 1] [2, 3, 4, 5, 6, 7, 8] rfl rfl (by decide) (by decide) hk1 hFc hP1 hD1
  clear hPc hDc hFc hP1 hD1 hK1 hk1 hz1 ht hvm
  replace h := hw
  clear hw
  generalize H1 = H at hP hS ⊢
  replace hP : va_P D vwCl (wd_X3_putBeside cI cZ cJ a_this a_headings a_lies a_solid a_solid_beyondEdge a_solid_onwardEdge a_taken a_x a_y a_solid_cubeOf a_solid_lookOf a_solid_x a_solid_y a_solid_z a_solid_faceOf v_count u_11 v_lies v_solid_cubes v_solid_faces v_solid_beyondEdge v_solid_onwardEdge v_taken v_x v_y) H := hP.sub [7, 8, 0, 1, 2, 3, 4, 5, 6] rfl
  replace hD : va_D A (wd_X3_putBeside cI cZ cJ a_this a_headings a_lies a_solid a_solid_beyondEdge a_solid_onwardEdge a_taken a_x a_y a_solid_cubeOf a_solid_lookOf a_solid_x a_solid_y a_solid_z a_solid_faceOf v_count u_11 v_lies v_solid_cubes v_solid_faces v_solid_beyondEdge v_solid_onwardEdge v_taken v_x v_y) := hD.sub [7, 8, 0, 1, 2, 3, 4, 5, 6] (by decide) rfl
  refine lv_aload_n hx hb dX3_putBeside_35 rfl (lv_at hl 1 rfl) ?_
  refine lv_iload_n hx hb dX3_putBeside_36 rfl (lv_at hl 0 rfl) ?_
  refine lv_aload_n hx hb dX3_putBeside_37 rfl (lv_at hl 1 rfl) ?_
  refine va_get (D := D) (ci := 3) (v := .ref a_x) (C := RX3) (T := TX3) (N := 7) hx hb hts iX3 hown hK hP 0 rfl rfl 1 (by decide) f15 (fun _ h9 => h9) rfl dX3_putBeside_38 ?_
  refine lv_iload_n hx hb dX3_putBeside_41 rfl (lv_at hl 2 rfl) ?_
  obtain ⟨hin, h⟩ := h
  refine va_iald hx hb hK hP 7 0 rfl rfl hin dX3_putBeside_42 ?_
  refine va_getsN hx hb hZ5 hS hown g65 (fun _ h9 => h9) dX3_putBeside_43 ?_
  refine lv_iload_n hx hb dX3_putBeside_46 rfl (lv_at hl 3 rfl) ?_
  obtain ⟨hin, h⟩ := h
  refine va_ti (v := .int (q_SIDE_X p2.toNatClampNeg)) hx hb hT5 hS hin rfl dX3_putBeside_47 ?_
  refine lv_iadd hx hb dX3_putBeside_48 ?_
  refine lv_aload_n hx hb dX3_putBeside_49 rfl (lv_at hl 1 rfl) ?_
  refine va_get (D := D) (ci := 3) (v := .ref a_y) (C := RX3) (T := TX3) (N := 7) hx hb hts iX3 hown hK hP 0 rfl rfl 2 (by decide) f19 (fun _ h9 => h9) rfl dX3_putBeside_50 ?_
  refine lv_iload_n hx hb dX3_putBeside_53 rfl (lv_at hl 2 rfl) ?_
  obtain ⟨hin, h⟩ := h
  refine va_iald hx hb hK hP 8 0 rfl rfl hin dX3_putBeside_54 ?_
  refine va_getsN hx hb hZ6 hS hown g68 (fun _ h9 => h9) dX3_putBeside_55 ?_
  refine lv_iload_n hx hb dX3_putBeside_58 rfl (lv_at hl 3 rfl) ?_
  obtain ⟨hin, h⟩ := h
  refine va_ti (v := .int (q_SIDE_Y p2.toNatClampNeg)) hx hb hT6 hS hin rfl dX3_putBeside_59 ?_
  refine lv_iadd hx hb dX3_putBeside_60 ?_
  have hPc := hP.sub (ws' := (wd_X3_putAt cI cZ cJ a_this a_lies a_taken a_x a_y a_solid a_headings v_count v_lies v_taken v_x v_y)) [0, 2, 6, 7, 8] rfl
  have hDc := hD.sub (ws' := (wd_X3_putAt cI cZ cJ a_this a_lies a_taken a_x a_y a_solid a_headings v_count v_lies v_taken v_x v_y)) [0, 2, 6, 7, 8] (by decide) rfl
  have hFc := va_free (wc := (wd_X3_putAt cI cZ cJ a_this a_lies a_taken a_x a_y a_solid a_headings v_count v_lies v_taken v_x v_y)) hD hS hA [0, 2, 6, 7, 8] rfl
  refine va_callv (va_runV (As := [.int r_1, .int ((v_x p1.toNatClampNeg) + (q_SIDE_X p2.toNatClampNeg)), .int ((v_y p1.toNatClampNeg) + (q_SIDE_Y p2.toNatClampNeg))]) (rest := []) C (c_X3_putAt l D cI cZ cJ tb a_this a_lies a_taken a_x a_y a_solid a_headings v_count v_lies v_taken v_x v_y H.size r_1 ((v_x p1.toNatClampNeg) + (q_SIDE_X p2.toNatClampNeg)) ((v_y p1.toNatClampNeg) + (q_SIDE_Y p2.toNatClampNeg)) h) (cwV 3 hts gX3_putBeside_X3_putAt rfl rfl rfl (by decide +kernel) ⟨Nat.le_of_ble_eq_true rfl, Nat.le_of_ble_eq_true rfl⟩) ⟨q_pre.blind, va_recv hK hP (ci := 3) (q0 := 0) rfl rfl, fun U hU hW => ⟨rfl, q_pre.of hU hW hPc hK hDc hSt hS hFc hNw⟩⟩ rfl rfl hl.1 rfl (lv_room (Nat.le_of_ble_eq_true rfl)) dX3_putBeside_61 ⟨Nat.zero_le _, Nat.zero_le _⟩) hS (fun q _ h => hFc q h) hFc (fun u_14 t H1 locs ht hvm hw hB hz1 hk1 hS => ?_)
  obtain ⟨hP1, hK1, hD1⟩ := hB
  rw [ht] at hP1
  obtain ⟨hP, hD⟩ := va_join (wr := [(a_headings, .inl (cI, 88, .inl u_11)), (a_solid, .inr (4, [.int v_solid_cubes, .int v_solid_faces, .ref a_solid_cubeOf, .ref a_solid_lookOf, .ref a_solid_x, .ref a_solid_y, .ref a_solid_z, .ref a_solid_faceOf, .ref a_solid_beyondEdge, .ref a_solid_onwardEdge])), (a_solid_beyondEdge, .inl (cI, 132, .inl v_solid_beyondEdge)), (a_solid_onwardEdge, .inl (cI, 132, .inl v_solid_onwardEdge))]) (w1 := (wd_X3_putAt cI cZ cJ a_this a_lies a_taken a_x a_y a_solid a_headings u_14.1 u_14.2.1 u_14.2.2.1 u_14.2.2.2.1 u_14.2.2.2.2)) hP hD [0, 2, 6, 7, 8] [1, 3, 4, 5] rfl rfl (by decide) (by decide) hk1 hFc hP1 hD1
  clear hPc hDc hFc hP1 hD1 hK1 hk1 hz1 ht hvm
  replace h := hw
  clear hw
  generalize H1 = H at hP hS ⊢
  replace hP : va_P D vwCl (wd_X3_putBeside cI cZ cJ a_this a_headings a_lies a_solid a_solid_beyondEdge a_solid_onwardEdge a_taken a_x a_y a_solid_cubeOf a_solid_lookOf a_solid_x a_solid_y a_solid_z a_solid_faceOf u_14.1 u_11 u_14.2.1 v_solid_cubes v_solid_faces v_solid_beyondEdge v_solid_onwardEdge u_14.2.2.1 u_14.2.2.2.1 u_14.2.2.2.2) H := hP.sub [4, 0, 5, 1, 2, 3, 6, 7, 8] rfl
  replace hD : va_D A (wd_X3_putBeside cI cZ cJ a_this a_headings a_lies a_solid a_solid_beyondEdge a_solid_onwardEdge a_taken a_x a_y a_solid_cubeOf a_solid_lookOf a_solid_x a_solid_y a_solid_z a_solid_faceOf u_14.1 u_11 u_14.2.1 v_solid_cubes v_solid_faces v_solid_beyondEdge v_solid_onwardEdge u_14.2.2.1 u_14.2.2.2.1 u_14.2.2.2.2) := hD.sub [4, 0, 5, 1, 2, 3, 6, 7, 8] (by decide) rfl
  exact ret (u_14.1, u_11, u_14.2.1, u_14.2.2.1, u_14.2.2.2.1, u_14.2.2.2.2) _ _ _ 64 dX3_putBeside_64 h hP hD hS
def wd_X2_choose (cI cZ cJ : ClassId) (a_this a_laid a_laidAtStep a_sheet a_sheet_headings a_sheet_lies a_sheet_taken a_sheet_x a_sheet_y a_solid a_solid_beyondEdge a_solid_onwardEdge a_bestNet a_album a_solid_cubeOf a_solid_lookOf a_solid_x a_solid_y a_solid_z a_solid_faceOf : Nat) (v_nets : Int32) (v_work : Int32) (v_ended : Int32) (v_step : Int32) (v_laid : Nat → Int32) (v_laidAtStep : Nat → Int32) (v_sheet_count : Int32) (v_sheet_headings : Nat → Int32) (v_sheet_lies : Nat → Int32) (v_sheet_taken : Nat → Int64) (v_sheet_x : Nat → Int32) (v_sheet_y : Nat → Int32) (v_solid_cubes : Int32) (v_solid_faces : Int32) (v_solid_beyondEdge : Nat → Int32) (v_solid_onwardEdge : Nat → Int32) : va_W := [(a_this, .inr (2, [.int v_nets, .int v_work, .int v_ended, .ref a_bestNet, .ref a_solid, .ref a_album, .ref a_sheet, .ref a_laid, .ref a_laidAtStep, .int v_step])),
  (a_laid, .inl (cI, 22, .inl v_laid)),
  (a_laidAtStep, .inl (cI, 22, .inl v_laidAtStep)),
  (a_sheet, .inr (3, [.ref a_sheet_lies, .ref a_sheet_x, .ref a_sheet_y, .int v_sheet_count, .ref a_solid, .ref a_sheet_headings, .ref a_sheet_taken])),
  (a_sheet_headings, .inl (cI, 88, .inl v_sheet_headings)),
  (a_sheet_lies, .inl (cZ, 22, .inl v_sheet_lies)),
  (a_sheet_taken, .inl (cJ, 63, .inr (.inl v_sheet_taken))),
  (a_sheet_x, .inl (cI, 22, .inl v_sheet_x)),
  (a_sheet_y, .inl (cI, 22, .inl v_sheet_y)),
  (a_solid, .inr (4, [.int v_solid_cubes, .int v_solid_faces, .ref a_solid_cubeOf, .ref a_solid_lookOf, .ref a_solid_x, .ref a_solid_y, .ref a_solid_z, .ref a_solid_faceOf, .ref a_solid_beyondEdge, .ref a_solid_onwardEdge])),
  (a_solid_beyondEdge, .inl (cI, 132, .inl v_solid_beyondEdge)),
  (a_solid_onwardEdge, .inl (cI, 132, .inl v_solid_onwardEdge))]
abbrev rm_X2_choose : Room := { frames := 3, cells := 0, slots := 0, locals := 67 }
set_option maxHeartbeats 4000000 in
set_option maxRecDepth 100000 in
theorem c_X2_choose (l : Launch) (D : va_G) (cI cZ cJ : ClassId) (tb : Nat → Nat) (a_this a_laid a_laidAtStep a_sheet a_sheet_headings a_sheet_lies a_sheet_taken a_sheet_x a_sheet_y a_solid a_solid_beyondEdge a_solid_onwardEdge a_bestNet a_album a_solid_cubeOf a_solid_lookOf a_solid_x a_solid_y a_solid_z a_solid_faceOf : Nat) (v_nets : Int32) (v_work : Int32) (v_ended : Int32) (v_step : Int32) (v_laid : Nat → Int32) (v_laidAtStep : Nat → Int32) (v_sheet_count : Int32) (v_sheet_headings : Nat → Int32) (v_sheet_lies : Nat → Int32) (v_sheet_taken : Nat → Int64) (v_sheet_x : Nat → Int32) (v_sheet_y : Nat → Int32) (v_solid_cubes : Int32) (v_solid_faces : Int32) (v_solid_beyondEdge : Nat → Int32) (v_solid_onwardEdge : Nat → Int32) (sz : Nat) {post : Int32 → Int32 → (Nat → Int32) → (Nat → Int32) → Int32 → (Nat → Int32) → (Nat → Int32) → (Nat → Int64) → (Nat → Int32) → (Nat → Int32) → Prop} (h : wp_X2_choose v_work v_step v_laid v_laidAtStep v_sheet_count v_sheet_headings v_sheet_lies v_sheet_taken v_sheet_x v_sheet_y v_solid_beyondEdge v_solid_onwardEdge post) : Met l yX2_choose wsX2_choose rm_X2_choose (va_Pc [.ref a_this] (q_pre D cI cZ cJ tb (wd_X2_choose cI cZ cJ a_this a_laid a_laidAtStep a_sheet a_sheet_headings a_sheet_lies a_sheet_taken a_sheet_x a_sheet_y a_solid a_solid_beyondEdge a_solid_onwardEdge a_bestNet a_album a_solid_cubeOf a_solid_lookOf a_solid_x a_solid_y a_solid_z a_solid_faceOf v_nets v_work v_ended v_step v_laid v_laidAtStep v_sheet_count v_sheet_headings v_sheet_lies v_sheet_taken v_sheet_x v_sheet_y v_solid_cubes v_solid_faces v_solid_beyondEdge v_solid_onwardEdge) sz)) (va_Qv (fun (u : Int32 × Int32 × (Nat → Int32) × (Nat → Int32) × Int32 × (Nat → Int32) × (Nat → Int32) × (Nat → Int64) × (Nat → Int32) × (Nat → Int32)) => post u.1 u.2.1 u.2.2.1 u.2.2.2.1 u.2.2.2.2.1 u.2.2.2.2.2.1 u.2.2.2.2.2.2.1 u.2.2.2.2.2.2.2.1 u.2.2.2.2.2.2.2.2.1 u.2.2.2.2.2.2.2.2.2) (fun u => q_post D cI cZ cJ (va_A (wd_X2_choose cI cZ cJ a_this a_laid a_laidAtStep a_sheet a_sheet_headings a_sheet_lies a_sheet_taken a_sheet_x a_sheet_y a_solid a_solid_beyondEdge a_solid_onwardEdge a_bestNet a_album a_solid_cubeOf a_solid_lookOf a_solid_x a_solid_y a_solid_z a_solid_faceOf v_nets v_work v_ended v_step v_laid v_laidAtStep v_sheet_count v_sheet_headings v_sheet_lies v_sheet_taken v_sheet_x v_sheet_y v_solid_cubes v_solid_faces v_solid_beyondEdge v_solid_onwardEdge) sz) (wd_X2_choose cI cZ cJ a_this a_laid a_laidAtStep a_sheet a_sheet_headings a_sheet_lies a_sheet_taken a_sheet_x a_sheet_y a_solid a_solid_beyondEdge a_solid_onwardEdge a_bestNet a_album a_solid_cubeOf a_solid_lookOf a_solid_x a_solid_y a_solid_z a_solid_faceOf v_nets u.1 v_ended u.2.1 u.2.2.1 u.2.2.2.1 u.2.2.2.2.1 u.2.2.2.2.2.1 u.2.2.2.2.2.2.1 u.2.2.2.2.2.2.2.1 u.2.2.2.2.2.2.2.2.1 u.2.2.2.2.2.2.2.2.2 v_solid_cubes v_solid_faces v_solid_beyondEdge v_solid_onwardEdge)) (va_A (wd_X2_choose cI cZ cJ a_this a_laid a_laidAtStep a_sheet a_sheet_headings a_sheet_lies a_sheet_taken a_sheet_x a_sheet_y a_solid a_solid_beyondEdge a_solid_onwardEdge a_bestNet a_album a_solid_cubeOf a_solid_lookOf a_solid_x a_solid_y a_solid_z a_solid_faceOf v_nets v_work v_ended v_step v_laid v_laidAtStep v_sheet_count v_sheet_headings v_sheet_lies v_sheet_taken v_sheet_x v_sheet_y v_solid_cubes v_solid_faces v_solid_beyondEdge v_solid_onwardEdge) sz)) 0 0 (va_A (wd_X2_choose cI cZ cJ a_this a_laid a_laidAtStep a_sheet a_sheet_headings a_sheet_lies a_sheet_taken a_sheet_x a_sheet_y a_solid a_solid_beyondEdge a_solid_onwardEdge a_bestNet a_album a_solid_cubeOf a_solid_lookOf a_solid_x a_solid_y a_solid_z a_solid_faceOf v_nets v_work v_ended v_step v_laid v_laidAtStep v_sheet_count v_sheet_headings v_sheet_lies v_sheet_taken v_sheet_x v_sheet_y v_solid_cubes v_solid_faces v_solid_beyondEdge v_solid_onwardEdge) sz) := by
  refine q_walkv (cc := cX2_choose) (maxL := 3) (own := RX2) (wd := fun (u : Int32 × Int32 × (Nat → Int32) × (Nat → Int32) × Int32 × (Nat → Int32) × (Nat → Int32) × (Nat → Int64) × (Nat → Int32) × (Nat → Int32)) => (wd_X2_choose cI cZ cJ a_this a_laid a_laidAtStep a_sheet a_sheet_headings a_sheet_lies a_sheet_taken a_sheet_x a_sheet_y a_solid a_solid_beyondEdge a_solid_onwardEdge a_bestNet a_album a_solid_cubeOf a_solid_lookOf a_solid_x a_solid_y a_solid_z a_solid_faceOf v_nets u.1 v_ended u.2.1 u.2.2.1 u.2.2.2.1 u.2.2.2.2.1 u.2.2.2.2.2.1 u.2.2.2.2.2.2.1 u.2.2.2.2.2.2.2.1 u.2.2.2.2.2.2.2.2.1 u.2.2.2.2.2.2.2.2.2 v_solid_cubes v_solid_faces v_solid_beyondEdge v_solid_onwardEdge)) (by decide) rfl rfl (Nat.le_of_ble_eq_true rfl) ?_
  intro p e s m below meth c Q A ls C hA ret hP hD hS hK hSt hNw hl
  obtain ⟨hx, hb, hml, hown, hts⟩ := id C
  replace hl : lv_has ls 3 [(0, .ref a_this)] := hl
  have f18 := hts (.fieldLink RX2 18 "NetSearch$Search" "laid" "[I") (by decide +kernel)
  have iX2 : ∀ w ∈ wsX20, w ∈ wsX2_choose := by decide +kernel
  have f53 := hts (.fieldLink RX2 53 "NetSearch$Search" "step" "I") (by decide +kernel)
  have f38 := hts (.fieldLink RX2 38 "NetSearch$Search" "sheet" "LNetSearch$Sheet;") (by decide +kernel)
  have f72 := hts (.fieldLink RX2 72 "NetSearch$Sheet" "count" "I") (by decide +kernel)
  have iX3 : ∀ w ∈ wsX30, w ∈ wsX2_choose := by decide +kernel
  have f22 := hts (.fieldLink RX2 22 "NetSearch$Search" "laidAtStep" "[I") (by decide +kernel)
  have f46 := hts (.fieldLink RX2 46 "NetSearch$Search" "work" "I") (by decide +kernel)
  unfold wp_X2_choose at h
  refine lv_aload_n hx hb dX2_choose_0 rfl (lv_at hl 0 rfl) ?_
  refine va_get (D := D) (ci := 2) (v := .ref a_laid) (C := RX2) (T := TX2) (N := 10) hx hb hts iX2 hown hK hP 0 rfl rfl 7 (by decide) f18 (fun _ h9 => h9) rfl dX2_choose_1 ?_
  refine lv_aload_n hx hb dX2_choose_4 rfl (lv_at hl 0 rfl) ?_
  refine va_get (D := D) (ci := 2) (v := .int v_step) (C := RX2) (T := TX2) (N := 10) hx hb hts iX2 hown hK hP 0 rfl rfl 9 (by decide) f53 (fun _ h9 => h9) rfl dX2_choose_5 ?_
  refine lv_iconst (v := 4) hx hb dX2_choose_8 (by decide) ?_
  refine lv_idiv hx hb dX2_choose_9 (by decide) ?_
  obtain ⟨hin, h⟩ := h
  refine va_iald hx hb hK hP 1 0 rfl rfl hin dX2_choose_10 ?_
  refine lv_istore_n (lv' := [(1, .int (v_laid (v_step / (4 : Int32)).toNatClampNeg)), (0, .ref a_this)]) hx hb dX2_choose_11 rfl hl (by decide) rfl (fun ls hl => ?_)
  refine lv_aload_n hx hb dX2_choose_12 rfl (lv_at hl 1 rfl) ?_
  refine va_get (D := D) (ci := 2) (v := .int v_step) (C := RX2) (T := TX2) (N := 10) hx hb hts iX2 hown hK hP 0 rfl rfl 9 (by decide) f53 (fun _ h9 => h9) rfl dX2_choose_13 ?_
  refine lv_iconst (v := 4) hx hb dX2_choose_16 (by decide) ?_
  refine lv_irem hx hb dX2_choose_17 (by decide) ?_
  refine lv_istore_n (lv' := [(2, .int (v_step - v_step / (4 : Int32) * (4 : Int32))), (1, .int (v_laid (v_step / (4 : Int32)).toNatClampNeg)), (0, .ref a_this)]) hx hb dX2_choose_18 rfl hl (by decide) rfl (fun ls hl => ?_)
  refine lv_aload_n hx hb dX2_choose_19 rfl (lv_at hl 2 rfl) ?_
  refine va_get (D := D) (ci := 2) (v := .ref a_laid) (C := RX2) (T := TX2) (N := 10) hx hb hts iX2 hown hK hP 0 rfl rfl 7 (by decide) f18 (fun _ h9 => h9) rfl dX2_choose_20 ?_
  refine lv_aload_n hx hb dX2_choose_23 rfl (lv_at hl 2 rfl) ?_
  refine va_get (D := D) (ci := 2) (v := .ref a_sheet) (C := RX2) (T := TX2) (N := 10) hx hb hts iX2 hown hK hP 0 rfl rfl 6 (by decide) f38 (fun _ h9 => h9) rfl dX2_choose_24 ?_
  refine va_get (D := D) (ci := 3) (v := .int v_sheet_count) (C := RX3) (T := TX3) (N := 7) hx hb hts iX3 hown hK hP 3 rfl rfl 3 (by decide) f72 (fun _ h9 => h9) rfl dX2_choose_27 ?_
  refine lv_aload_n hx hb dX2_choose_30 rfl (lv_at hl 2 rfl) ?_
  refine va_get (D := D) (ci := 2) (v := .ref a_sheet) (C := RX2) (T := TX2) (N := 10) hx hb hts iX2 hown hK hP 0 rfl rfl 6 (by decide) f38 (fun _ h9 => h9) rfl dX2_choose_31 ?_
  refine lv_iload_n hx hb dX2_choose_34 rfl (lv_at hl 1 rfl) ?_
  refine lv_iload_n hx hb dX2_choose_35 rfl (lv_at hl 0 rfl) ?_
  have hPc := hP.sub (ws' := (wd_X3_neighbour cI cZ cJ a_sheet a_sheet_headings a_solid a_solid_beyondEdge a_sheet_lies a_sheet_x a_sheet_y a_sheet_taken a_solid_cubeOf a_solid_lookOf a_solid_x a_solid_y a_solid_z a_solid_faceOf a_solid_onwardEdge v_sheet_count v_sheet_headings v_solid_cubes v_solid_faces v_solid_beyondEdge)) [3, 4, 9, 10] rfl
  have hDc := hD.sub (ws' := (wd_X3_neighbour cI cZ cJ a_sheet a_sheet_headings a_solid a_solid_beyondEdge a_sheet_lies a_sheet_x a_sheet_y a_sheet_taken a_solid_cubeOf a_solid_lookOf a_solid_x a_solid_y a_solid_z a_solid_faceOf a_solid_onwardEdge v_sheet_count v_sheet_headings v_solid_cubes v_solid_faces v_solid_beyondEdge)) [3, 4, 9, 10] (by decide) rfl
  have hFc := va_free (wc := (wd_X3_neighbour cI cZ cJ a_sheet a_sheet_headings a_solid a_solid_beyondEdge a_sheet_lies a_sheet_x a_sheet_y a_sheet_taken a_solid_cubeOf a_solid_lookOf a_solid_x a_solid_y a_solid_z a_solid_faceOf a_solid_onwardEdge v_sheet_count v_sheet_headings v_solid_cubes v_solid_faces v_solid_beyondEdge)) hD hS hA [3, 4, 9, 10] rfl
  refine va_calli (va_runV (As := [.int (v_laid (v_step / (4 : Int32)).toNatClampNeg), .int (v_step - v_step / (4 : Int32) * (4 : Int32))]) (rest := [.int v_sheet_count, .ref a_laid]) C (c_X3_neighbour l D cI cZ cJ tb a_sheet a_sheet_headings a_solid a_solid_beyondEdge a_sheet_lies a_sheet_x a_sheet_y a_sheet_taken a_solid_cubeOf a_solid_lookOf a_solid_x a_solid_y a_solid_z a_solid_faceOf a_solid_onwardEdge v_sheet_count v_sheet_headings v_solid_cubes v_solid_faces v_solid_beyondEdge s.heap.size (v_laid (v_step / (4 : Int32)).toNatClampNeg) (v_step - v_step / (4 : Int32) * (4 : Int32)) h) (cwV 2 hts gX2_choose_X3_neighbour rfl rfl rfl (by decide +kernel) ⟨Nat.le_of_ble_eq_true rfl, Nat.le_of_ble_eq_true rfl⟩) ⟨q_pre.blind, va_recv hK hP (ci := 3) (q0 := 3) rfl rfl, fun U hU hW => ⟨rfl, q_pre.of hU hW hPc hK hDc hSt hS hFc hNw⟩⟩ rfl rfl hl.1 rfl (lv_room (Nat.le_of_ble_eq_true rfl)) dX2_choose_36 ⟨Nat.zero_le _, Nat.zero_le _⟩) hS (fun q _ h => hFc q h) hFc (fun r_1 u_2 t H1 locs ht hvm hw hB hz1 hk1 hS => ?_)
  obtain ⟨hP1, hK1, hD1⟩ := hB
  rw [ht] at hP1
  obtain ⟨hP, hD⟩ := va_join (wr := [(a_this, .inr (2, [.int v_nets, .int v_work, .int v_ended, .ref a_bestNet, .ref a_solid, .ref a_album, .ref a_sheet, .ref a_laid, .ref a_laidAtStep, .int v_step])), (a_laid, .inl (cI, 22, .inl v_laid)), (a_laidAtStep, .inl (cI, 22, .inl v_laidAtStep)), (a_sheet_lies, .inl (cZ, 22, .inl v_sheet_lies)), (a_sheet_taken, .inl (cJ, 63, .inr (.inl v_sheet_taken))), (a_sheet_x, .inl (cI, 22, .inl v_sheet_x)), (a_sheet_y, .inl (cI, 22, .inl v_sheet_y)), (a_solid_onwardEdge, .inl (cI, 132, .inl v_solid_onwardEdge))]) (w1 := (wd_X3_neighbour cI cZ cJ a_sheet a_sheet_headings a_solid a_solid_beyondEdge a_sheet_lies a_sheet_x a_sheet_y a_sheet_taken a_solid_cubeOf a_solid_lookOf a_solid_x a_solid_y a_solid_z a_solid_faceOf a_solid_onwardEdge v_sheet_count v_sheet_headings v_solid_cubes v_solid_faces v_solid_beyondEdge)) hP hD [3, 4, 9, 10] [0, 1, 2, 5, 6, 7, 8, 11] rfl rfl (by decide) (by decide) hk1 hFc hP1 hD1
  clear hPc hDc hFc hP1 hD1 hK1 hk1 hz1 ht hvm
  replace h := hw
  clear hw
  generalize H1 = H at hP hS ⊢
  replace hP : va_P D vwCl (wd_X2_choose cI cZ cJ a_this a_laid a_laidAtStep a_sheet a_sheet_headings a_sheet_lies a_sheet_taken a_sheet_x a_sheet_y a_solid a_solid_beyondEdge a_solid_onwardEdge a_bestNet a_album a_solid_cubeOf a_solid_lookOf a_solid_x a_solid_y a_solid_z a_solid_faceOf v_nets v_work v_ended v_step v_laid v_laidAtStep v_sheet_count v_sheet_headings v_sheet_lies v_sheet_taken v_sheet_x v_sheet_y v_solid_cubes v_solid_faces v_solid_beyondEdge v_solid_onwardEdge) H := hP.sub [0, 1, 2, 8, 9, 3, 4, 5, 6, 10, 11, 7] rfl
  replace hD : va_D A (wd_X2_choose cI cZ cJ a_this a_laid a_laidAtStep a_sheet a_sheet_headings a_sheet_lies a_sheet_taken a_sheet_x a_sheet_y a_solid a_solid_beyondEdge a_solid_onwardEdge a_bestNet a_album a_solid_cubeOf a_solid_lookOf a_solid_x a_solid_y a_solid_z a_solid_faceOf v_nets v_work v_ended v_step v_laid v_laidAtStep v_sheet_count v_sheet_headings v_sheet_lies v_sheet_taken v_sheet_x v_sheet_y v_solid_cubes v_solid_faces v_solid_beyondEdge v_solid_onwardEdge) := hD.sub [0, 1, 2, 8, 9, 3, 4, 5, 6, 10, 11, 7] (by decide) rfl
  obtain ⟨hin, h⟩ := h
  refine va_iast hx hb hK hP hD hS 1 0 rfl rfl hin dX2_choose_39 (fun H locs hP hD hS => ?_)
  replace hP : va_P D vwCl (wd_X2_choose cI cZ cJ a_this a_laid a_laidAtStep a_sheet a_sheet_headings a_sheet_lies a_sheet_taken a_sheet_x a_sheet_y a_solid a_solid_beyondEdge a_solid_onwardEdge a_bestNet a_album a_solid_cubeOf a_solid_lookOf a_solid_x a_solid_y a_solid_z a_solid_faceOf v_nets v_work v_ended v_step (upd v_laid v_sheet_count.toNatClampNeg r_1) v_laidAtStep v_sheet_count v_sheet_headings v_sheet_lies v_sheet_taken v_sheet_x v_sheet_y v_solid_cubes v_solid_faces v_solid_beyondEdge v_solid_onwardEdge) H := hP
  replace hD : va_D A (wd_X2_choose cI cZ cJ a_this a_laid a_laidAtStep a_sheet a_sheet_headings a_sheet_lies a_sheet_taken a_sheet_x a_sheet_y a_solid a_solid_beyondEdge a_solid_onwardEdge a_bestNet a_album a_solid_cubeOf a_solid_lookOf a_solid_x a_solid_y a_solid_z a_solid_faceOf v_nets v_work v_ended v_step (upd v_laid v_sheet_count.toNatClampNeg r_1) v_laidAtStep v_sheet_count v_sheet_headings v_sheet_lies v_sheet_taken v_sheet_x v_sheet_y v_solid_cubes v_solid_faces v_solid_beyondEdge v_solid_onwardEdge) := hD
  refine lv_aload_n hx hb dX2_choose_40 rfl (lv_at hl 2 rfl) ?_
  refine va_get (D := D) (ci := 2) (v := .ref a_laidAtStep) (C := RX2) (T := TX2) (N := 10) hx hb hts iX2 hown hK hP 0 rfl rfl 8 (by decide) f22 (fun _ h9 => h9) rfl dX2_choose_41 ?_
  refine lv_aload_n hx hb dX2_choose_44 rfl (lv_at hl 2 rfl) ?_
  refine va_get (D := D) (ci := 2) (v := .ref a_sheet) (C := RX2) (T := TX2) (N := 10) hx hb hts iX2 hown hK hP 0 rfl rfl 6 (by decide) f38 (fun _ h9 => h9) rfl dX2_choose_45 ?_
  refine va_get (D := D) (ci := 3) (v := .int v_sheet_count) (C := RX3) (T := TX3) (N := 7) hx hb hts iX3 hown hK hP 3 rfl rfl 3 (by decide) f72 (fun _ h9 => h9) rfl dX2_choose_48 ?_
  refine lv_aload_n hx hb dX2_choose_51 rfl (lv_at hl 2 rfl) ?_
  refine va_get (D := D) (ci := 2) (v := .int v_step) (C := RX2) (T := TX2) (N := 10) hx hb hts iX2 hown hK hP 0 rfl rfl 9 (by decide) f53 (fun _ h9 => h9) rfl dX2_choose_52 ?_
  obtain ⟨hin, h⟩ := h
  refine va_iast hx hb hK hP hD hS 2 0 rfl rfl hin dX2_choose_55 (fun H locs hP hD hS => ?_)
  replace hP : va_P D vwCl (wd_X2_choose cI cZ cJ a_this a_laid a_laidAtStep a_sheet a_sheet_headings a_sheet_lies a_sheet_taken a_sheet_x a_sheet_y a_solid a_solid_beyondEdge a_solid_onwardEdge a_bestNet a_album a_solid_cubeOf a_solid_lookOf a_solid_x a_solid_y a_solid_z a_solid_faceOf v_nets v_work v_ended v_step (upd v_laid v_sheet_count.toNatClampNeg r_1) (upd v_laidAtStep v_sheet_count.toNatClampNeg v_step) v_sheet_count v_sheet_headings v_sheet_lies v_sheet_taken v_sheet_x v_sheet_y v_solid_cubes v_solid_faces v_solid_beyondEdge v_solid_onwardEdge) H := hP
  replace hD : va_D A (wd_X2_choose cI cZ cJ a_this a_laid a_laidAtStep a_sheet a_sheet_headings a_sheet_lies a_sheet_taken a_sheet_x a_sheet_y a_solid a_solid_beyondEdge a_solid_onwardEdge a_bestNet a_album a_solid_cubeOf a_solid_lookOf a_solid_x a_solid_y a_solid_z a_solid_faceOf v_nets v_work v_ended v_step (upd v_laid v_sheet_count.toNatClampNeg r_1) (upd v_laidAtStep v_sheet_count.toNatClampNeg v_step) v_sheet_count v_sheet_headings v_sheet_lies v_sheet_taken v_sheet_x v_sheet_y v_solid_cubes v_solid_faces v_solid_beyondEdge v_solid_onwardEdge) := hD
  refine lv_aload_n hx hb dX2_choose_56 rfl (lv_at hl 2 rfl) ?_
  refine va_get (D := D) (ci := 2) (v := .ref a_sheet) (C := RX2) (T := TX2) (N := 10) hx hb hts iX2 hown hK hP 0 rfl rfl 6 (by decide) f38 (fun _ h9 => h9) rfl dX2_choose_57 ?_
  refine lv_iload_n hx hb dX2_choose_60 rfl (lv_at hl 1 rfl) ?_
  refine lv_iload_n hx hb dX2_choose_61 rfl (lv_at hl 0 rfl) ?_
  have hPc := hP.sub (ws' := (wd_X3_putBeside cI cZ cJ a_sheet a_sheet_headings a_sheet_lies a_solid a_solid_beyondEdge a_solid_onwardEdge a_sheet_taken a_sheet_x a_sheet_y a_solid_cubeOf a_solid_lookOf a_solid_x a_solid_y a_solid_z a_solid_faceOf v_sheet_count v_sheet_headings v_sheet_lies v_solid_cubes v_solid_faces v_solid_beyondEdge v_solid_onwardEdge v_sheet_taken v_sheet_x v_sheet_y)) [3, 4, 5, 9, 10, 11, 6, 7, 8] rfl
  have hDc := hD.sub (ws' := (wd_X3_putBeside cI cZ cJ a_sheet a_sheet_headings a_sheet_lies a_solid a_solid_beyondEdge a_solid_onwardEdge a_sheet_taken a_sheet_x a_sheet_y a_solid_cubeOf a_solid_lookOf a_solid_x a_solid_y a_solid_z a_solid_faceOf v_sheet_count v_sheet_headings v_sheet_lies v_solid_cubes v_solid_faces v_solid_beyondEdge v_solid_onwardEdge v_sheet_taken v_sheet_x v_sheet_y)) [3, 4, 5, 9, 10, 11, 6, 7, 8] (by decide) rfl
  have hFc := va_free (wc := (wd_X3_putBeside cI cZ cJ a_sheet a_sheet_headings a_sheet_lies a_solid a_solid_beyondEdge a_solid_onwardEdge a_sheet_taken a_sheet_x a_sheet_y a_solid_cubeOf a_solid_lookOf a_solid_x a_solid_y a_solid_z a_solid_faceOf v_sheet_count v_sheet_headings v_sheet_lies v_solid_cubes v_solid_faces v_solid_beyondEdge v_solid_onwardEdge v_sheet_taken v_sheet_x v_sheet_y)) hD hS hA [3, 4, 5, 9, 10, 11, 6, 7, 8] rfl
  refine va_callv (va_runV (As := [.int (v_laid (v_step / (4 : Int32)).toNatClampNeg), .int (v_step - v_step / (4 : Int32) * (4 : Int32))]) (rest := []) C (c_X3_putBeside l D cI cZ cJ tb a_sheet a_sheet_headings a_sheet_lies a_solid a_solid_beyondEdge a_solid_onwardEdge a_sheet_taken a_sheet_x a_sheet_y a_solid_cubeOf a_solid_lookOf a_solid_x a_solid_y a_solid_z a_solid_faceOf v_sheet_count v_sheet_headings v_sheet_lies v_solid_cubes v_solid_faces v_solid_beyondEdge v_solid_onwardEdge v_sheet_taken v_sheet_x v_sheet_y H.size (v_laid (v_step / (4 : Int32)).toNatClampNeg) (v_step - v_step / (4 : Int32) * (4 : Int32)) h) (cwV 2 hts gX2_choose_X3_putBeside rfl rfl rfl (by decide +kernel) ⟨Nat.le_of_ble_eq_true rfl, Nat.le_of_ble_eq_true rfl⟩) ⟨q_pre.blind, va_recv hK hP (ci := 3) (q0 := 3) rfl rfl, fun U hU hW => ⟨rfl, q_pre.of hU hW hPc hK hDc hSt hS hFc hNw⟩⟩ rfl rfl hl.1 rfl (lv_room (Nat.le_of_ble_eq_true rfl)) dX2_choose_62 ⟨Nat.zero_le _, Nat.zero_le _⟩) hS (fun q _ h => hFc q h) hFc (fun u_4 t H1 locs ht hvm hw hB hz1 hk1 hS => ?_)
  obtain ⟨hP1, hK1, hD1⟩ := hB
  rw [ht] at hP1
  obtain ⟨hP, hD⟩ := va_join (wr := [(a_this, .inr (2, [.int v_nets, .int v_work, .int v_ended, .ref a_bestNet, .ref a_solid, .ref a_album, .ref a_sheet, .ref a_laid, .ref a_laidAtStep, .int v_step])), (a_laid, .inl (cI, 22, .inl (upd v_laid v_sheet_count.toNatClampNeg r_1))), (a_laidAtStep, .inl (cI, 22, .inl (upd v_laidAtStep v_sheet_count.toNatClampNeg v_step)))]) (w1 := (wd_X3_putBeside cI cZ cJ a_sheet a_sheet_headings a_sheet_lies a_solid a_solid_beyondEdge a_solid_onwardEdge a_sheet_taken a_sheet_x a_sheet_y a_solid_cubeOf a_solid_lookOf a_solid_x a_solid_y a_solid_z a_solid_faceOf u_4.1 u_4.2.1 u_4.2.2.1 v_solid_cubes v_solid_faces v_solid_beyondEdge v_solid_onwardEdge u_4.2.2.2.1 u_4.2.2.2.2.1 u_4.2.2.2.2.2)) hP hD [3, 4, 5, 9, 10, 11, 6, 7, 8] [0, 1, 2] rfl rfl (by decide) (by decide) hk1 hFc hP1 hD1
  clear hPc hDc hFc hP1 hD1 hK1 hk1 hz1 ht hvm
  replace h := hw
  clear hw
  generalize H1 = H at hP hS ⊢
  replace hP : va_P D vwCl (wd_X2_choose cI cZ cJ a_this a_laid a_laidAtStep a_sheet a_sheet_headings a_sheet_lies a_sheet_taken a_sheet_x a_sheet_y a_solid a_solid_beyondEdge a_solid_onwardEdge a_bestNet a_album a_solid_cubeOf a_solid_lookOf a_solid_x a_solid_y a_solid_z a_solid_faceOf v_nets v_work v_ended v_step (upd v_laid v_sheet_count.toNatClampNeg r_1) (upd v_laidAtStep v_sheet_count.toNatClampNeg v_step) u_4.1 u_4.2.1 u_4.2.2.1 u_4.2.2.2.1 u_4.2.2.2.2.1 u_4.2.2.2.2.2 v_solid_cubes v_solid_faces v_solid_beyondEdge v_solid_onwardEdge) H := hP.sub [0, 1, 2, 3, 4, 5, 9, 10, 11, 6, 7, 8] rfl
  replace hD : va_D A (wd_X2_choose cI cZ cJ a_this a_laid a_laidAtStep a_sheet a_sheet_headings a_sheet_lies a_sheet_taken a_sheet_x a_sheet_y a_solid a_solid_beyondEdge a_solid_onwardEdge a_bestNet a_album a_solid_cubeOf a_solid_lookOf a_solid_x a_solid_y a_solid_z a_solid_faceOf v_nets v_work v_ended v_step (upd v_laid v_sheet_count.toNatClampNeg r_1) (upd v_laidAtStep v_sheet_count.toNatClampNeg v_step) u_4.1 u_4.2.1 u_4.2.2.1 u_4.2.2.2.1 u_4.2.2.2.2.1 u_4.2.2.2.2.2 v_solid_cubes v_solid_faces v_solid_beyondEdge v_solid_onwardEdge) := hD.sub [0, 1, 2, 3, 4, 5, 9, 10, 11, 6, 7, 8] (by decide) rfl
  refine lv_aload_n hx hb dX2_choose_65 rfl (lv_at hl 2 rfl) ?_
  refine lv_dup hx hb dX2_choose_66 rfl ?_
  refine va_get (D := D) (ci := 2) (v := .int v_step) (C := RX2) (T := TX2) (N := 10) hx hb hts iX2 hown hK hP 0 rfl rfl 9 (by decide) f53 (fun _ h9 => h9) rfl dX2_choose_67 ?_
  refine lv_iconst (v := 1) hx hb dX2_choose_70 (by decide) ?_
  refine lv_iadd hx hb dX2_choose_71 ?_
  refine va_put (D := D) (ci := 2) (v := .int (v_step + (1 : Int32))) (ty := .int) (C := RX2) (T := TX2) (N := 10) hx hb hts iX2 tyX2 tyX2_ok nmX2 hown hK hP hD hS 0 rfl rfl 9 (by decide) f53 (fun _ h9 => h9) rfl (by decide +kernel) rfl rfl (Nat.le_of_ble_eq_true rfl) dX2_choose_72 (fun H locs hP hD hS => ?_)
  replace hP : va_P D vwCl (wd_X2_choose cI cZ cJ a_this a_laid a_laidAtStep a_sheet a_sheet_headings a_sheet_lies a_sheet_taken a_sheet_x a_sheet_y a_solid a_solid_beyondEdge a_solid_onwardEdge a_bestNet a_album a_solid_cubeOf a_solid_lookOf a_solid_x a_solid_y a_solid_z a_solid_faceOf v_nets v_work v_ended (v_step + (1 : Int32)) (upd v_laid v_sheet_count.toNatClampNeg r_1) (upd v_laidAtStep v_sheet_count.toNatClampNeg v_step) u_4.1 u_4.2.1 u_4.2.2.1 u_4.2.2.2.1 u_4.2.2.2.2.1 u_4.2.2.2.2.2 v_solid_cubes v_solid_faces v_solid_beyondEdge v_solid_onwardEdge) H := hP
  replace hD : va_D A (wd_X2_choose cI cZ cJ a_this a_laid a_laidAtStep a_sheet a_sheet_headings a_sheet_lies a_sheet_taken a_sheet_x a_sheet_y a_solid a_solid_beyondEdge a_solid_onwardEdge a_bestNet a_album a_solid_cubeOf a_solid_lookOf a_solid_x a_solid_y a_solid_z a_solid_faceOf v_nets v_work v_ended (v_step + (1 : Int32)) (upd v_laid v_sheet_count.toNatClampNeg r_1) (upd v_laidAtStep v_sheet_count.toNatClampNeg v_step) u_4.1 u_4.2.1 u_4.2.2.1 u_4.2.2.2.1 u_4.2.2.2.2.1 u_4.2.2.2.2.2 v_solid_cubes v_solid_faces v_solid_beyondEdge v_solid_onwardEdge) := hD
  refine lv_aload_n hx hb dX2_choose_75 rfl (lv_at hl 2 rfl) ?_
  refine lv_dup hx hb dX2_choose_76 rfl ?_
  refine va_get (D := D) (ci := 2) (v := .int v_work) (C := RX2) (T := TX2) (N := 10) hx hb hts iX2 hown hK hP 0 rfl rfl 1 (by decide) f46 (fun _ h9 => h9) rfl dX2_choose_77 ?_
  refine lv_iconst (v := 1) hx hb dX2_choose_80 (by decide) ?_
  refine lv_iadd hx hb dX2_choose_81 ?_
  refine va_put (D := D) (ci := 2) (v := .int (v_work + (1 : Int32))) (ty := .int) (C := RX2) (T := TX2) (N := 10) hx hb hts iX2 tyX2 tyX2_ok nmX2 hown hK hP hD hS 0 rfl rfl 1 (by decide) f46 (fun _ h9 => h9) rfl (by decide +kernel) rfl rfl (Nat.le_of_ble_eq_true rfl) dX2_choose_82 (fun H locs hP hD hS => ?_)
  replace hP : va_P D vwCl (wd_X2_choose cI cZ cJ a_this a_laid a_laidAtStep a_sheet a_sheet_headings a_sheet_lies a_sheet_taken a_sheet_x a_sheet_y a_solid a_solid_beyondEdge a_solid_onwardEdge a_bestNet a_album a_solid_cubeOf a_solid_lookOf a_solid_x a_solid_y a_solid_z a_solid_faceOf v_nets (v_work + (1 : Int32)) v_ended (v_step + (1 : Int32)) (upd v_laid v_sheet_count.toNatClampNeg r_1) (upd v_laidAtStep v_sheet_count.toNatClampNeg v_step) u_4.1 u_4.2.1 u_4.2.2.1 u_4.2.2.2.1 u_4.2.2.2.2.1 u_4.2.2.2.2.2 v_solid_cubes v_solid_faces v_solid_beyondEdge v_solid_onwardEdge) H := hP
  replace hD : va_D A (wd_X2_choose cI cZ cJ a_this a_laid a_laidAtStep a_sheet a_sheet_headings a_sheet_lies a_sheet_taken a_sheet_x a_sheet_y a_solid a_solid_beyondEdge a_solid_onwardEdge a_bestNet a_album a_solid_cubeOf a_solid_lookOf a_solid_x a_solid_y a_solid_z a_solid_faceOf v_nets (v_work + (1 : Int32)) v_ended (v_step + (1 : Int32)) (upd v_laid v_sheet_count.toNatClampNeg r_1) (upd v_laidAtStep v_sheet_count.toNatClampNeg v_step) u_4.1 u_4.2.1 u_4.2.2.1 u_4.2.2.2.1 u_4.2.2.2.2.1 u_4.2.2.2.2.2 v_solid_cubes v_solid_faces v_solid_beyondEdge v_solid_onwardEdge) := hD
  exact ret ((v_work + (1 : Int32)), (v_step + (1 : Int32)), (upd v_laid v_sheet_count.toNatClampNeg r_1), (upd v_laidAtStep v_sheet_count.toNatClampNeg v_step), u_4.1, u_4.2.1, u_4.2.2.1, u_4.2.2.2.1, u_4.2.2.2.2.1, u_4.2.2.2.2.2) _ _ _ 85 dX2_choose_85 h hP hD hS
def wd_X3_takeOff (cI cZ cJ : ClassId) (a_this a_lies a_taken a_x a_y a_solid a_headings : Nat) (v_count : Int32) (v_lies : Nat → Int32) (v_taken : Nat → Int64) (v_x : Nat → Int32) (v_y : Nat → Int32) : va_W := [(a_this, .inr (3, [.ref a_lies, .ref a_x, .ref a_y, .int v_count, .ref a_solid, .ref a_headings, .ref a_taken])),
  (a_lies, .inl (cZ, 22, .inl v_lies)),
  (a_taken, .inl (cJ, 63, .inr (.inl v_taken))),
  (a_x, .inl (cI, 22, .inl v_x)),
  (a_y, .inl (cI, 22, .inl v_y))]
abbrev rm_X3_takeOff : Room := { frames := 1, cells := 0, slots := 0, locals := 20 }
set_option maxHeartbeats 4000000 in
set_option maxRecDepth 100000 in
theorem c_X3_takeOff (l : Launch) (D : va_G) (cI cZ cJ : ClassId) (tb : Nat → Nat) (a_this a_lies a_taken a_x a_y a_solid a_headings : Nat) (v_count : Int32) (v_lies : Nat → Int32) (v_taken : Nat → Int64) (v_x : Nat → Int32) (v_y : Nat → Int32) (sz : Nat) (p1 : Int32) {post : Int32 → (Nat → Int32) → (Nat → Int64) → Prop} (h : wp_X3_takeOff v_count v_lies v_taken v_x v_y p1 post) : Met l yX3_takeOff wsX3_takeOff rm_X3_takeOff (va_Pc [.ref a_this, .int p1] (q_pre D cI cZ cJ tb (wd_X3_takeOff cI cZ cJ a_this a_lies a_taken a_x a_y a_solid a_headings v_count v_lies v_taken v_x v_y) sz)) (va_Qv (fun (u : Int32 × (Nat → Int32) × (Nat → Int64)) => post u.1 u.2.1 u.2.2) (fun u => q_post D cI cZ cJ (va_A (wd_X3_takeOff cI cZ cJ a_this a_lies a_taken a_x a_y a_solid a_headings v_count v_lies v_taken v_x v_y) sz) (wd_X3_takeOff cI cZ cJ a_this a_lies a_taken a_x a_y a_solid a_headings u.1 u.2.1 u.2.2 v_x v_y)) (va_A (wd_X3_takeOff cI cZ cJ a_this a_lies a_taken a_x a_y a_solid a_headings v_count v_lies v_taken v_x v_y) sz)) 0 0 (va_A (wd_X3_takeOff cI cZ cJ a_this a_lies a_taken a_x a_y a_solid a_headings v_count v_lies v_taken v_x v_y) sz) := by
  refine q_walkv (cc := cX3_takeOff) (maxL := 2) (own := RX3) (wd := fun (u : Int32 × (Nat → Int32) × (Nat → Int64)) => (wd_X3_takeOff cI cZ cJ a_this a_lies a_taken a_x a_y a_solid a_headings u.1 u.2.1 u.2.2 v_x v_y)) (by decide) rfl rfl (Nat.le_of_ble_eq_true rfl) ?_
  intro p e s m below meth c Q A ls C hA ret hP hD hS hK hSt hNw hl
  obtain ⟨hx, hb, hml, hown, hts⟩ := id C
  replace hl : lv_has ls 2 [(0, .ref a_this), (1, .int p1)] := hl
  have f9 := hts (.fieldLink RX3 9 "NetSearch$Sheet" "lies" "[Z") (by decide +kernel)
  have iX3 : ∀ w ∈ wsX30, w ∈ wsX3_takeOff := by decide +kernel
  have f25 := hts (.fieldLink RX3 25 "NetSearch$Sheet" "taken" "[J") (by decide +kernel)
  have f19 := hts (.fieldLink RX3 19 "NetSearch$Sheet" "y" "[I") (by decide +kernel)
  have f15 := hts (.fieldLink RX3 15 "NetSearch$Sheet" "x" "[I") (by decide +kernel)
  have k75 := hts (.constantLong RX3 75 (-1)) (by decide +kernel)
  have f77 := hts (.fieldLink RX3 77 "NetSearch$Sheet" "count" "I") (by decide +kernel)
  unfold wp_X3_takeOff at h
  refine lv_aload_n hx hb dX3_takeOff_0 rfl (lv_at hl 0 rfl) ?_
  refine va_get (D := D) (ci := 3) (v := .ref a_lies) (C := RX3) (T := TX3) (N := 7) hx hb hts iX3 hown hK hP 0 rfl rfl 0 (by decide) f9 (fun _ h9 => h9) rfl dX3_takeOff_1 ?_
  refine lv_iload_n hx hb dX3_takeOff_4 rfl (lv_at hl 1 rfl) ?_
  refine lv_iconst (v := 0) hx hb dX3_takeOff_5 (by decide) ?_
  obtain ⟨hin, h⟩ := h
  refine va_zast hx hb hK hP hD hS 1 1 rfl rfl hin dX3_takeOff_6 (fun H locs hP hD hS => ?_)
  replace hP : va_P D vwCl (wd_X3_takeOff cI cZ cJ a_this a_lies a_taken a_x a_y a_solid a_headings v_count (upd v_lies p1.toNatClampNeg (vp_nar .boolean (0 : Int32))) v_taken v_x v_y) H := hP
  replace hD : va_D A (wd_X3_takeOff cI cZ cJ a_this a_lies a_taken a_x a_y a_solid a_headings v_count (upd v_lies p1.toNatClampNeg (vp_nar .boolean (0 : Int32))) v_taken v_x v_y) := hD
  refine lv_aload_n hx hb dX3_takeOff_7 rfl (lv_at hl 0 rfl) ?_
  refine va_get (D := D) (ci := 3) (v := .ref a_taken) (C := RX3) (T := TX3) (N := 7) hx hb hts iX3 hown hK hP 0 rfl rfl 6 (by decide) f25 (fun _ h9 => h9) rfl dX3_takeOff_8 ?_
  refine lv_bipush (v := 31) hx hb dX3_takeOff_11 (by decide) ?_
  refine lv_aload_n hx hb dX3_takeOff_13 rfl (lv_at hl 0 rfl) ?_
  refine va_get (D := D) (ci := 3) (v := .ref a_y) (C := RX3) (T := TX3) (N := 7) hx hb hts iX3 hown hK hP 0 rfl rfl 2 (by decide) f19 (fun _ h9 => h9) rfl dX3_takeOff_14 ?_
  refine lv_iload_n hx hb dX3_takeOff_17 rfl (lv_at hl 1 rfl) ?_
  obtain ⟨hin, h⟩ := h
  refine va_iald hx hb hK hP 4 0 rfl rfl hin dX3_takeOff_18 ?_
  refine lv_iadd hx hb dX3_takeOff_19 ?_
  refine lv_dup2_11 hx hb dX3_takeOff_20 rfl rfl ?_
  obtain ⟨hin, h⟩ := h
  refine va_lald hx hb hK hP 2 2 rfl rfl hin dX3_takeOff_21 ?_
  refine lv_aload_n hx hb dX3_takeOff_22 rfl (lv_at hl 0 rfl) ?_
  refine va_get (D := D) (ci := 3) (v := .ref a_x) (C := RX3) (T := TX3) (N := 7) hx hb hts iX3 hown hK hP 0 rfl rfl 1 (by decide) f15 (fun _ h9 => h9) rfl dX3_takeOff_23 ?_
  refine lv_iload_n hx hb dX3_takeOff_26 rfl (lv_at hl 1 rfl) ?_
  obtain ⟨hin, h⟩ := h
  refine va_iald hx hb hK hP 3 0 rfl rfl hin dX3_takeOff_27 ?_
  have hPc := hP.sub (ws' := (wd_X3_placeBit cI cZ cJ)) [] rfl
  have hDc := hD.sub (ws' := (wd_X3_placeBit cI cZ cJ)) [] (by decide) rfl
  have hFc := va_free (wc := (wd_X3_placeBit cI cZ cJ)) hD hS hA [] rfl
  refine va_calll (va_runS (As := [.int (v_x p1.toNatClampNeg)]) (rest := [.long (v_taken ((31 : Int32) + (v_y p1.toNatClampNeg)).toNatClampNeg), .int ((31 : Int32) + (v_y p1.toNatClampNeg)), .ref a_taken]) C (c_X3_placeBit l D cI cZ cJ tb H.size (v_x p1.toNatClampNeg) h) (va_cwS 1 hts gX3_takeOff_X3_placeBit rfl rfl rfl (by decide +kernel) ⟨Nat.le_of_ble_eq_true rfl, Nat.le_of_ble_eq_true rfl⟩) ⟨q_pre.blind, fun U hU hW => ⟨rfl, q_pre.of hU hW hPc hK hDc hSt hS hFc hNw⟩⟩ rfl rfl hl.1 rfl (lv_room (Nat.le_of_ble_eq_true rfl)) dX3_takeOff_28 ⟨Nat.zero_le _, Nat.zero_le _⟩) hS (fun q _ h => hFc q h) hFc (fun r_1 u_2 t H1 locs ht hvm hw hB hz1 hk1 hS => ?_)
  obtain ⟨hP1, hK1, hD1⟩ := hB
  rw [ht] at hP1
  obtain ⟨hP, hD⟩ := va_join (wr := [(a_this, .inr (3, [.ref a_lies, .ref a_x, .ref a_y, .int v_count, .ref a_solid, .ref a_headings, .ref a_taken])), (a_lies, .inl (cZ, 22, .inl (upd v_lies p1.toNatClampNeg (vp_nar .boolean (0 : Int32))))), (a_taken, .inl (cJ, 63, .inr (.inl v_taken))), (a_x, .inl (cI, 22, .inl v_x)), (a_y, .inl (cI, 22, .inl v_y))]) (w1 := (wd_X3_placeBit cI cZ cJ)) hP hD [] [0, 1, 2, 3, 4] rfl rfl (by decide) (by decide) hk1 hFc hP1 hD1
  clear hPc hDc hFc hP1 hD1 hK1 hk1 hz1 ht hvm
  replace h := hw
  clear hw
  generalize H1 = H at hP hS ⊢
  replace hP : va_P D vwCl (wd_X3_takeOff cI cZ cJ a_this a_lies a_taken a_x a_y a_solid a_headings v_count (upd v_lies p1.toNatClampNeg (vp_nar .boolean (0 : Int32))) v_taken v_x v_y) H := hP.sub [0, 1, 2, 3, 4] rfl
  replace hD : va_D A (wd_X3_takeOff cI cZ cJ a_this a_lies a_taken a_x a_y a_solid a_headings v_count (upd v_lies p1.toNatClampNeg (vp_nar .boolean (0 : Int32))) v_taken v_x v_y) := hD.sub [0, 1, 2, 3, 4] (by decide) rfl
  refine lv_ldc2 (v := -1) hx hb hown k75 dX3_takeOff_31 ?_
  refine lv_lxor hx hb dX3_takeOff_34 ?_
  refine lv_land hx hb dX3_takeOff_35 ?_
  obtain ⟨hin, h⟩ := h
  refine va_last hx hb hK hP hD hS 2 2 rfl rfl hin dX3_takeOff_36 (fun H locs hP hD hS => ?_)
  replace hP : va_P D vwCl (wd_X3_takeOff cI cZ cJ a_this a_lies a_taken a_x a_y a_solid a_headings v_count (upd v_lies p1.toNatClampNeg (vp_nar .boolean (0 : Int32))) (vp_updL v_taken ((31 : Int32) + (v_y p1.toNatClampNeg)).toNatClampNeg ((v_taken ((31 : Int32) + (v_y p1.toNatClampNeg)).toNatClampNeg) &&& (r_1 ^^^ (-1 : Int64)))) v_x v_y) H := hP
  replace hD : va_D A (wd_X3_takeOff cI cZ cJ a_this a_lies a_taken a_x a_y a_solid a_headings v_count (upd v_lies p1.toNatClampNeg (vp_nar .boolean (0 : Int32))) (vp_updL v_taken ((31 : Int32) + (v_y p1.toNatClampNeg)).toNatClampNeg ((v_taken ((31 : Int32) + (v_y p1.toNatClampNeg)).toNatClampNeg) &&& (r_1 ^^^ (-1 : Int64)))) v_x v_y) := hD
  refine lv_aload_n hx hb dX3_takeOff_37 rfl (lv_at hl 0 rfl) ?_
  refine lv_dup hx hb dX3_takeOff_38 rfl ?_
  refine va_get (D := D) (ci := 3) (v := .int v_count) (C := RX3) (T := TX3) (N := 7) hx hb hts iX3 hown hK hP 0 rfl rfl 3 (by decide) f77 (fun _ h9 => h9) rfl dX3_takeOff_39 ?_
  refine lv_iconst (v := 1) hx hb dX3_takeOff_42 (by decide) ?_
  refine lv_isub hx hb dX3_takeOff_43 ?_
  refine va_put (D := D) (ci := 3) (v := .int (v_count - (1 : Int32))) (ty := .int) (C := RX3) (T := TX3) (N := 7) hx hb hts iX3 tyX3 tyX3_ok nmX3 hown hK hP hD hS 0 rfl rfl 3 (by decide) f77 (fun _ h9 => h9) rfl (by decide +kernel) rfl rfl (Nat.le_of_ble_eq_true rfl) dX3_takeOff_44 (fun H locs hP hD hS => ?_)
  replace hP : va_P D vwCl (wd_X3_takeOff cI cZ cJ a_this a_lies a_taken a_x a_y a_solid a_headings (v_count - (1 : Int32)) (upd v_lies p1.toNatClampNeg (vp_nar .boolean (0 : Int32))) (vp_updL v_taken ((31 : Int32) + (v_y p1.toNatClampNeg)).toNatClampNeg ((v_taken ((31 : Int32) + (v_y p1.toNatClampNeg)).toNatClampNeg) &&& (r_1 ^^^ (-1 : Int64)))) v_x v_y) H := hP
  replace hD : va_D A (wd_X3_takeOff cI cZ cJ a_this a_lies a_taken a_x a_y a_solid a_headings (v_count - (1 : Int32)) (upd v_lies p1.toNatClampNeg (vp_nar .boolean (0 : Int32))) (vp_updL v_taken ((31 : Int32) + (v_y p1.toNatClampNeg)).toNatClampNeg ((v_taken ((31 : Int32) + (v_y p1.toNatClampNeg)).toNatClampNeg) &&& (r_1 ^^^ (-1 : Int64)))) v_x v_y) := hD
  exact ret ((v_count - (1 : Int32)), (upd v_lies p1.toNatClampNeg (vp_nar .boolean (0 : Int32))), (vp_updL v_taken ((31 : Int32) + (v_y p1.toNatClampNeg)).toNatClampNeg ((v_taken ((31 : Int32) + (v_y p1.toNatClampNeg)).toNatClampNeg) &&& (r_1 ^^^ (-1 : Int64))))) _ _ _ 47 dX3_takeOff_47 h hP hD hS
def wd_X2_takeBack (cI cZ cJ : ClassId) (a_this a_laid a_laidAtStep a_sheet a_sheet_lies a_sheet_taken a_sheet_x a_sheet_y a_bestNet a_solid a_album a_sheet_headings : Nat) (v_nets : Int32) (v_work : Int32) (v_ended : Int32) (v_step : Int32) (v_laid : Nat → Int32) (v_laidAtStep : Nat → Int32) (v_sheet_count : Int32) (v_sheet_lies : Nat → Int32) (v_sheet_taken : Nat → Int64) (v_sheet_x : Nat → Int32) (v_sheet_y : Nat → Int32) : va_W := [(a_this, .inr (2, [.int v_nets, .int v_work, .int v_ended, .ref a_bestNet, .ref a_solid, .ref a_album, .ref a_sheet, .ref a_laid, .ref a_laidAtStep, .int v_step])),
  (a_laid, .inl (cI, 22, .inl v_laid)),
  (a_laidAtStep, .inl (cI, 22, .inl v_laidAtStep)),
  (a_sheet, .inr (3, [.ref a_sheet_lies, .ref a_sheet_x, .ref a_sheet_y, .int v_sheet_count, .ref a_solid, .ref a_sheet_headings, .ref a_sheet_taken])),
  (a_sheet_lies, .inl (cZ, 22, .inl v_sheet_lies)),
  (a_sheet_taken, .inl (cJ, 63, .inr (.inl v_sheet_taken))),
  (a_sheet_x, .inl (cI, 22, .inl v_sheet_x)),
  (a_sheet_y, .inl (cI, 22, .inl v_sheet_y))]
abbrev rm_X2_takeBack : Room := { frames := 2, cells := 0, slots := 0, locals := 41 }
set_option maxHeartbeats 4000000 in
set_option maxRecDepth 100000 in
theorem c_X2_takeBack (l : Launch) (D : va_G) (cI cZ cJ : ClassId) (tb : Nat → Nat) (a_this a_laid a_laidAtStep a_sheet a_sheet_lies a_sheet_taken a_sheet_x a_sheet_y a_bestNet a_solid a_album a_sheet_headings : Nat) (v_nets : Int32) (v_work : Int32) (v_ended : Int32) (v_step : Int32) (v_laid : Nat → Int32) (v_laidAtStep : Nat → Int32) (v_sheet_count : Int32) (v_sheet_lies : Nat → Int32) (v_sheet_taken : Nat → Int64) (v_sheet_x : Nat → Int32) (v_sheet_y : Nat → Int32) (sz : Nat) {post : Int32 → Int32 → (Nat → Int32) → (Nat → Int64) → Prop} (h : wp_X2_takeBack v_step v_laid v_laidAtStep v_sheet_count v_sheet_lies v_sheet_taken v_sheet_x v_sheet_y post) : Met l yX2_takeBack wsX2_takeBack rm_X2_takeBack (va_Pc [.ref a_this] (q_pre D cI cZ cJ tb (wd_X2_takeBack cI cZ cJ a_this a_laid a_laidAtStep a_sheet a_sheet_lies a_sheet_taken a_sheet_x a_sheet_y a_bestNet a_solid a_album a_sheet_headings v_nets v_work v_ended v_step v_laid v_laidAtStep v_sheet_count v_sheet_lies v_sheet_taken v_sheet_x v_sheet_y) sz)) (va_Qv (fun (u : Int32 × Int32 × (Nat → Int32) × (Nat → Int64)) => post u.1 u.2.1 u.2.2.1 u.2.2.2) (fun u => q_post D cI cZ cJ (va_A (wd_X2_takeBack cI cZ cJ a_this a_laid a_laidAtStep a_sheet a_sheet_lies a_sheet_taken a_sheet_x a_sheet_y a_bestNet a_solid a_album a_sheet_headings v_nets v_work v_ended v_step v_laid v_laidAtStep v_sheet_count v_sheet_lies v_sheet_taken v_sheet_x v_sheet_y) sz) (wd_X2_takeBack cI cZ cJ a_this a_laid a_laidAtStep a_sheet a_sheet_lies a_sheet_taken a_sheet_x a_sheet_y a_bestNet a_solid a_album a_sheet_headings v_nets v_work v_ended u.1 v_laid v_laidAtStep u.2.1 u.2.2.1 u.2.2.2 v_sheet_x v_sheet_y)) (va_A (wd_X2_takeBack cI cZ cJ a_this a_laid a_laidAtStep a_sheet a_sheet_lies a_sheet_taken a_sheet_x a_sheet_y a_bestNet a_solid a_album a_sheet_headings v_nets v_work v_ended v_step v_laid v_laidAtStep v_sheet_count v_sheet_lies v_sheet_taken v_sheet_x v_sheet_y) sz)) 0 0 (va_A (wd_X2_takeBack cI cZ cJ a_this a_laid a_laidAtStep a_sheet a_sheet_lies a_sheet_taken a_sheet_x a_sheet_y a_bestNet a_solid a_album a_sheet_headings v_nets v_work v_ended v_step v_laid v_laidAtStep v_sheet_count v_sheet_lies v_sheet_taken v_sheet_x v_sheet_y) sz) := by
  refine q_walkv (cc := cX2_takeBack) (maxL := 2) (own := RX2) (wd := fun (u : Int32 × Int32 × (Nat → Int32) × (Nat → Int64)) => (wd_X2_takeBack cI cZ cJ a_this a_laid a_laidAtStep a_sheet a_sheet_lies a_sheet_taken a_sheet_x a_sheet_y a_bestNet a_solid a_album a_sheet_headings v_nets v_work v_ended u.1 v_laid v_laidAtStep u.2.1 u.2.2.1 u.2.2.2 v_sheet_x v_sheet_y)) (by decide) rfl rfl (Nat.le_of_ble_eq_true rfl) ?_
  intro p e s m below meth c Q A ls C hA ret hP hD hS hK hSt hNw hl
  obtain ⟨hx, hb, hml, hown, hts⟩ := id C
  replace hl : lv_has ls 2 [(0, .ref a_this)] := hl
  have f38 := hts (.fieldLink RX2 38 "NetSearch$Search" "sheet" "LNetSearch$Sheet;") (by decide +kernel)
  have iX2 : ∀ w ∈ wsX20, w ∈ wsX2_takeBack := by decide +kernel
  have f72 := hts (.fieldLink RX2 72 "NetSearch$Sheet" "count" "I") (by decide +kernel)
  have iX3 : ∀ w ∈ wsX30, w ∈ wsX2_takeBack := by decide +kernel
  have f18 := hts (.fieldLink RX2 18 "NetSearch$Search" "laid" "[I") (by decide +kernel)
  have f22 := hts (.fieldLink RX2 22 "NetSearch$Search" "laidAtStep" "[I") (by decide +kernel)
  have f53 := hts (.fieldLink RX2 53 "NetSearch$Search" "step" "I") (by decide +kernel)
  unfold wp_X2_takeBack at h
  refine lv_aload_n hx hb dX2_takeBack_0 rfl (lv_at hl 0 rfl) ?_
  refine va_get (D := D) (ci := 2) (v := .ref a_sheet) (C := RX2) (T := TX2) (N := 10) hx hb hts iX2 hown hK hP 0 rfl rfl 6 (by decide) f38 (fun _ h9 => h9) rfl dX2_takeBack_1 ?_
  refine va_get (D := D) (ci := 3) (v := .int v_sheet_count) (C := RX3) (T := TX3) (N := 7) hx hb hts iX3 hown hK hP 3 rfl rfl 3 (by decide) f72 (fun _ h9 => h9) rfl dX2_takeBack_4 ?_
  refine lv_iconst (v := 1) hx hb dX2_takeBack_7 (by decide) ?_
  refine lv_isub hx hb dX2_takeBack_8 ?_
  refine lv_istore_n (lv' := [(1, .int (v_sheet_count - (1 : Int32))), (0, .ref a_this)]) hx hb dX2_takeBack_9 rfl hl (by decide) rfl (fun ls hl => ?_)
  refine lv_aload_n hx hb dX2_takeBack_10 rfl (lv_at hl 1 rfl) ?_
  refine va_get (D := D) (ci := 2) (v := .ref a_sheet) (C := RX2) (T := TX2) (N := 10) hx hb hts iX2 hown hK hP 0 rfl rfl 6 (by decide) f38 (fun _ h9 => h9) rfl dX2_takeBack_11 ?_
  refine lv_aload_n hx hb dX2_takeBack_14 rfl (lv_at hl 1 rfl) ?_
  refine va_get (D := D) (ci := 2) (v := .ref a_laid) (C := RX2) (T := TX2) (N := 10) hx hb hts iX2 hown hK hP 0 rfl rfl 7 (by decide) f18 (fun _ h9 => h9) rfl dX2_takeBack_15 ?_
  refine lv_iload_n hx hb dX2_takeBack_18 rfl (lv_at hl 0 rfl) ?_
  obtain ⟨hin, h⟩ := h
  refine va_iald hx hb hK hP 1 0 rfl rfl hin dX2_takeBack_19 ?_
  have hPc := hP.sub (ws' := (wd_X3_takeOff cI cZ cJ a_sheet a_sheet_lies a_sheet_taken a_sheet_x a_sheet_y a_solid a_sheet_headings v_sheet_count v_sheet_lies v_sheet_taken v_sheet_x v_sheet_y)) [3, 4, 5, 6, 7] rfl
  have hDc := hD.sub (ws' := (wd_X3_takeOff cI cZ cJ a_sheet a_sheet_lies a_sheet_taken a_sheet_x a_sheet_y a_solid a_sheet_headings v_sheet_count v_sheet_lies v_sheet_taken v_sheet_x v_sheet_y)) [3, 4, 5, 6, 7] (by decide) rfl
  have hFc := va_free (wc := (wd_X3_takeOff cI cZ cJ a_sheet a_sheet_lies a_sheet_taken a_sheet_x a_sheet_y a_solid a_sheet_headings v_sheet_count v_sheet_lies v_sheet_taken v_sheet_x v_sheet_y)) hD hS hA [3, 4, 5, 6, 7] rfl
  refine va_callv (va_runV (As := [.int (v_laid (v_sheet_count - (1 : Int32)).toNatClampNeg)]) (rest := []) C (c_X3_takeOff l D cI cZ cJ tb a_sheet a_sheet_lies a_sheet_taken a_sheet_x a_sheet_y a_solid a_sheet_headings v_sheet_count v_sheet_lies v_sheet_taken v_sheet_x v_sheet_y s.heap.size (v_laid (v_sheet_count - (1 : Int32)).toNatClampNeg) h) (cwV 1 hts gX2_takeBack_X3_takeOff rfl rfl rfl (by decide +kernel) ⟨Nat.le_of_ble_eq_true rfl, Nat.le_of_ble_eq_true rfl⟩) ⟨q_pre.blind, va_recv hK hP (ci := 3) (q0 := 3) rfl rfl, fun U hU hW => ⟨rfl, q_pre.of hU hW hPc hK hDc hSt hS hFc hNw⟩⟩ rfl rfl hl.1 rfl (lv_room (Nat.le_of_ble_eq_true rfl)) dX2_takeBack_20 ⟨Nat.zero_le _, Nat.zero_le _⟩) hS (fun q _ h => hFc q h) hFc (fun u_2 t H1 locs ht hvm hw hB hz1 hk1 hS => ?_)
  obtain ⟨hP1, hK1, hD1⟩ := hB
  rw [ht] at hP1
  obtain ⟨hP, hD⟩ := va_join (wr := [(a_this, .inr (2, [.int v_nets, .int v_work, .int v_ended, .ref a_bestNet, .ref a_solid, .ref a_album, .ref a_sheet, .ref a_laid, .ref a_laidAtStep, .int v_step])), (a_laid, .inl (cI, 22, .inl v_laid)), (a_laidAtStep, .inl (cI, 22, .inl v_laidAtStep))]) (w1 := (wd_X3_takeOff cI cZ cJ a_sheet a_sheet_lies a_sheet_taken a_sheet_x a_sheet_y a_solid a_sheet_headings u_2.1 u_2.2.1 u_2.2.2 v_sheet_x v_sheet_y)) hP hD [3, 4, 5, 6, 7] [0, 1, 2] rfl rfl (by decide) (by decide) hk1 hFc hP1 hD1
  clear hPc hDc hFc hP1 hD1 hK1 hk1 hz1 ht hvm
  replace h := hw
  clear hw
  generalize H1 = H at hP hS ⊢
  replace hP : va_P D vwCl (wd_X2_takeBack cI cZ cJ a_this a_laid a_laidAtStep a_sheet a_sheet_lies a_sheet_taken a_sheet_x a_sheet_y a_bestNet a_solid a_album a_sheet_headings v_nets v_work v_ended v_step v_laid v_laidAtStep u_2.1 u_2.2.1 u_2.2.2 v_sheet_x v_sheet_y) H := hP.sub [0, 1, 2, 3, 4, 5, 6, 7] rfl
  replace hD : va_D A (wd_X2_takeBack cI cZ cJ a_this a_laid a_laidAtStep a_sheet a_sheet_lies a_sheet_taken a_sheet_x a_sheet_y a_bestNet a_solid a_album a_sheet_headings v_nets v_work v_ended v_step v_laid v_laidAtStep u_2.1 u_2.2.1 u_2.2.2 v_sheet_x v_sheet_y) := hD.sub [0, 1, 2, 3, 4, 5, 6, 7] (by decide) rfl
  refine lv_aload_n hx hb dX2_takeBack_23 rfl (lv_at hl 1 rfl) ?_
  refine lv_aload_n hx hb dX2_takeBack_24 rfl (lv_at hl 1 rfl) ?_
  refine va_get (D := D) (ci := 2) (v := .ref a_laidAtStep) (C := RX2) (T := TX2) (N := 10) hx hb hts iX2 hown hK hP 0 rfl rfl 8 (by decide) f22 (fun _ h9 => h9) rfl dX2_takeBack_25 ?_
  refine lv_iload_n hx hb dX2_takeBack_28 rfl (lv_at hl 0 rfl) ?_
  obtain ⟨hin, h⟩ := h
  refine va_iald hx hb hK hP 2 0 rfl rfl hin dX2_takeBack_29 ?_
  refine lv_iconst (v := 1) hx hb dX2_takeBack_30 (by decide) ?_
  refine lv_iadd hx hb dX2_takeBack_31 ?_
  refine va_put (D := D) (ci := 2) (v := .int ((v_laidAtStep (v_sheet_count - (1 : Int32)).toNatClampNeg) + (1 : Int32))) (ty := .int) (C := RX2) (T := TX2) (N := 10) hx hb hts iX2 tyX2 tyX2_ok nmX2 hown hK hP hD hS 0 rfl rfl 9 (by decide) f53 (fun _ h9 => h9) rfl (by decide +kernel) rfl rfl (Nat.le_of_ble_eq_true rfl) dX2_takeBack_32 (fun H locs hP hD hS => ?_)
  replace hP : va_P D vwCl (wd_X2_takeBack cI cZ cJ a_this a_laid a_laidAtStep a_sheet a_sheet_lies a_sheet_taken a_sheet_x a_sheet_y a_bestNet a_solid a_album a_sheet_headings v_nets v_work v_ended ((v_laidAtStep (v_sheet_count - (1 : Int32)).toNatClampNeg) + (1 : Int32)) v_laid v_laidAtStep u_2.1 u_2.2.1 u_2.2.2 v_sheet_x v_sheet_y) H := hP
  replace hD : va_D A (wd_X2_takeBack cI cZ cJ a_this a_laid a_laidAtStep a_sheet a_sheet_lies a_sheet_taken a_sheet_x a_sheet_y a_bestNet a_solid a_album a_sheet_headings v_nets v_work v_ended ((v_laidAtStep (v_sheet_count - (1 : Int32)).toNatClampNeg) + (1 : Int32)) v_laid v_laidAtStep u_2.1 u_2.2.1 u_2.2.2 v_sheet_x v_sheet_y) := hD
  exact ret (((v_laidAtStep (v_sheet_count - (1 : Int32)).toNatClampNeg) + (1 : Int32)), u_2.1, u_2.2.1, u_2.2.2) _ _ _ 35 dX2_takeBack_35 h hP hD hS
