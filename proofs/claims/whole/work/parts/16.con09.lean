def wd_X7_face (cI cZ cJ : ClassId) (a_this a_solid a_solid_cubeOf a_solid_lookOf a_treeCounter a_hand a_album a_search a_wrapping a_solid_x a_solid_y a_solid_z a_solid_faceOf a_solid_beyondEdge a_solid_onwardEdge : Nat) (v_solid_cubes : Int32) (v_solid_faces : Int32) (v_solid_cubeOf : Nat → Int32) (v_solid_lookOf : Nat → Int32) : va_W := [(a_this, .inr (7, [.ref a_solid, .ref a_treeCounter, .ref a_hand, .ref a_album, .ref a_search, .ref a_wrapping])),
  (a_solid, .inr (4, [.int v_solid_cubes, .int v_solid_faces, .ref a_solid_cubeOf, .ref a_solid_lookOf, .ref a_solid_x, .ref a_solid_y, .ref a_solid_z, .ref a_solid_faceOf, .ref a_solid_beyondEdge, .ref a_solid_onwardEdge])),
  (a_solid_cubeOf, .inl (cI, 22, .inl v_solid_cubeOf)),
  (a_solid_lookOf, .inl (cI, 22, .inl v_solid_lookOf))]
abbrev rm_X7_face : Room := { frames := 1, cells := 0, slots := 0, locals := 21 }
set_option maxHeartbeats 4000000 in
set_option maxRecDepth 100000 in
theorem c_X7_face (l : Launch) (D : va_G) (cI cZ cJ : ClassId) (tb : Nat → Nat) (a_this a_solid a_solid_cubeOf a_solid_lookOf a_treeCounter a_hand a_album a_search a_wrapping a_solid_x a_solid_y a_solid_z a_solid_faceOf a_solid_beyondEdge a_solid_onwardEdge : Nat) (v_solid_cubes : Int32) (v_solid_faces : Int32) (v_solid_cubeOf : Nat → Int32) (v_solid_lookOf : Nat → Int32) (sz : Nat) (p1 : Int32) (p2 : Int32) {post : Int32 → Prop} (h : wp_X7_face v_solid_faces v_solid_cubeOf v_solid_lookOf p1 p2 post) : Met l yX7_face wsX7_face rm_X7_face (va_Pc [.ref a_this, .int p1, .int p2] (q_pre D cI cZ cJ tb (wd_X7_face cI cZ cJ a_this a_solid a_solid_cubeOf a_solid_lookOf a_treeCounter a_hand a_album a_search a_wrapping a_solid_x a_solid_y a_solid_z a_solid_faceOf a_solid_beyondEdge a_solid_onwardEdge v_solid_cubes v_solid_faces v_solid_cubeOf v_solid_lookOf) sz)) (va_Qi (fun r (u : Unit) => post r) (fun u => q_post D cI cZ cJ (va_A (wd_X7_face cI cZ cJ a_this a_solid a_solid_cubeOf a_solid_lookOf a_treeCounter a_hand a_album a_search a_wrapping a_solid_x a_solid_y a_solid_z a_solid_faceOf a_solid_beyondEdge a_solid_onwardEdge v_solid_cubes v_solid_faces v_solid_cubeOf v_solid_lookOf) sz) (wd_X7_face cI cZ cJ a_this a_solid a_solid_cubeOf a_solid_lookOf a_treeCounter a_hand a_album a_search a_wrapping a_solid_x a_solid_y a_solid_z a_solid_faceOf a_solid_beyondEdge a_solid_onwardEdge v_solid_cubes v_solid_faces v_solid_cubeOf v_solid_lookOf)) (va_A (wd_X7_face cI cZ cJ a_this a_solid a_solid_cubeOf a_solid_lookOf a_treeCounter a_hand a_album a_search a_wrapping a_solid_x a_solid_y a_solid_z a_solid_faceOf a_solid_beyondEdge a_solid_onwardEdge v_solid_cubes v_solid_faces v_solid_cubeOf v_solid_lookOf) sz)) 0 0 (va_A (wd_X7_face cI cZ cJ a_this a_solid a_solid_cubeOf a_solid_lookOf a_treeCounter a_hand a_album a_search a_wrapping a_solid_x a_solid_y a_solid_z a_solid_faceOf a_solid_beyondEdge a_solid_onwardEdge v_solid_cubes v_solid_faces v_solid_cubeOf v_solid_lookOf) sz) := by
  refine q_walki (cc := cX7_face) (maxL := 3) (own := RX7) (wd := fun (u : Unit) => (wd_X7_face cI cZ cJ a_this a_solid a_solid_cubeOf a_solid_lookOf a_treeCounter a_hand a_album a_search a_wrapping a_solid_x a_solid_y a_solid_z a_solid_faceOf a_solid_beyondEdge a_solid_onwardEdge v_solid_cubes v_solid_faces v_solid_cubeOf v_solid_lookOf)) (by decide) rfl rfl (Nat.le_of_ble_eq_true rfl) ?_
  intro p e s m below meth c Q A ls C hA ret hP hD hS hK hSt hNw hl
  obtain ⟨hx, hb, hml, hown, hts⟩ := id C
  replace hl : lv_has ls 3 [(0, .ref a_this), (1, .int p1), (2, .int p2)] := hl
  have f13 := hts (.fieldLink RX7 13 "NetSearch" "solid" "LNetSearch$Solid;") (by decide +kernel)
  have iX7 : ∀ w ∈ wsX70, w ∈ wsX7_face := by decide +kernel
  have f90 := hts (.fieldLink RX7 90 "NetSearch$Solid" "cubeOf" "[I") (by decide +kernel)
  have iX4 : ∀ w ∈ wsX40, w ∈ wsX7_face := by decide +kernel
  have f94 := hts (.fieldLink RX7 94 "NetSearch$Solid" "lookOf" "[I") (by decide +kernel)
  unfold wp_X7_face at h
  refine lv_aload_n hx hb dX7_face_0 rfl (lv_at hl 0 rfl) ?_
  refine lv_iload_n hx hb dX7_face_1 rfl (lv_at hl 1 rfl) ?_
  have hPc := hP.sub (ws' := (wd_X7_isFace cI cZ cJ a_this a_solid a_treeCounter a_hand a_album a_search a_wrapping a_solid_cubeOf a_solid_lookOf a_solid_x a_solid_y a_solid_z a_solid_faceOf a_solid_beyondEdge a_solid_onwardEdge v_solid_cubes v_solid_faces)) [0, 1] rfl
  have hDc := hD.sub (ws' := (wd_X7_isFace cI cZ cJ a_this a_solid a_treeCounter a_hand a_album a_search a_wrapping a_solid_cubeOf a_solid_lookOf a_solid_x a_solid_y a_solid_z a_solid_faceOf a_solid_beyondEdge a_solid_onwardEdge v_solid_cubes v_solid_faces)) [0, 1] (by decide) rfl
  have hFc := va_free (wc := (wd_X7_isFace cI cZ cJ a_this a_solid a_treeCounter a_hand a_album a_search a_wrapping a_solid_cubeOf a_solid_lookOf a_solid_x a_solid_y a_solid_z a_solid_faceOf a_solid_beyondEdge a_solid_onwardEdge v_solid_cubes v_solid_faces)) hD hS hA [0, 1] rfl
  refine va_calli (va_runV (As := [.int p1]) (rest := []) C (c_X7_isFace l D cI cZ cJ tb a_this a_solid a_treeCounter a_hand a_album a_search a_wrapping a_solid_cubeOf a_solid_lookOf a_solid_x a_solid_y a_solid_z a_solid_faceOf a_solid_beyondEdge a_solid_onwardEdge v_solid_cubes v_solid_faces s.heap.size p1 h) (cwV 1 hts gX7_face_X7_isFace rfl rfl rfl (by decide +kernel) ⟨Nat.le_of_ble_eq_true rfl, Nat.le_of_ble_eq_true rfl⟩) ⟨q_pre.blind, va_recv hK hP (ci := 7) (q0 := 0) rfl rfl, fun U hU hW => ⟨rfl, q_pre.of hU hW hPc hK hDc hSt hS hFc hNw⟩⟩ rfl rfl hl.1 rfl (lv_room (Nat.le_of_ble_eq_true rfl)) dX7_face_2 ⟨Nat.zero_le _, Nat.zero_le _⟩) hS (fun q _ h => hFc q h) hFc (fun r_1 u_2 t H1 locs ht hvm hw hB hz1 hk1 hS => ?_)
  obtain ⟨hP1, hK1, hD1⟩ := hB
  rw [ht] at hP1
  obtain ⟨hP, hD⟩ := va_join (wr := [(a_solid_cubeOf, .inl (cI, 22, .inl v_solid_cubeOf)), (a_solid_lookOf, .inl (cI, 22, .inl v_solid_lookOf))]) (w1 := (wd_X7_isFace cI cZ cJ a_this a_solid a_treeCounter a_hand a_album a_search a_wrapping a_solid_cubeOf a_solid_lookOf a_solid_x a_solid_y a_solid_z a_solid_faceOf a_solid_beyondEdge a_solid_onwardEdge v_solid_cubes v_solid_faces)) hP hD [0, 1] [2, 3] rfl rfl (by decide) (by decide) hk1 hFc hP1 hD1
  clear hPc hDc hFc hP1 hD1 hK1 hk1 hz1 ht hvm
  replace h := hw
  clear hw
  generalize H1 = H at hP hS ⊢
  replace hP : va_P D vwCl (wd_X7_face cI cZ cJ a_this a_solid a_solid_cubeOf a_solid_lookOf a_treeCounter a_hand a_album a_search a_wrapping a_solid_x a_solid_y a_solid_z a_solid_faceOf a_solid_beyondEdge a_solid_onwardEdge v_solid_cubes v_solid_faces v_solid_cubeOf v_solid_lookOf) H := hP.sub [2, 3, 0, 1] rfl
  replace hD : va_D A (wd_X7_face cI cZ cJ a_this a_solid a_solid_cubeOf a_solid_lookOf a_treeCounter a_hand a_album a_search a_wrapping a_solid_x a_solid_y a_solid_z a_solid_faceOf a_solid_beyondEdge a_solid_onwardEdge v_solid_cubes v_solid_faces v_solid_cubeOf v_solid_lookOf) := hD.sub [2, 3, 0, 1] (by decide) rfl
  refine lv_if_ne (tgt := 10) hx hb dX7_face_5 (by decide) (fun hc => ?_) (fun hc => ?_)
  · replace h := h.1 hc
    refine lv_iload_n hx hb dX7_face_10 rfl (lv_at hl 2 rfl) ?_
    by_cases hc0 : p2 = (0 : Int32)
    · replace h := h.1 hc0
      refine lv_lookup (tgt := 36) (off := 25) hx hb dX7_face_11 (by decide) (by rw [hc0] <;> rfl) (by decide) ?_
      refine lv_aload_n hx hb dX7_face_36 rfl (lv_at hl 0 rfl) ?_
      refine va_get (D := D) (ci := 7) (v := .ref a_solid) (C := RX7) (T := TX7) (N := 6) hx hb hts iX7 hown hK hP 0 rfl rfl 0 (by decide) f13 (fun _ h9 => h9) rfl dX7_face_37 ?_
      refine va_get (D := D) (ci := 4) (v := .ref a_solid_cubeOf) (C := RX4) (T := TX4) (N := 10) hx hb hts iX4 hown hK hP 1 rfl rfl 2 (by decide) f90 (fun _ h9 => h9) rfl dX7_face_40 ?_
      refine lv_iload_n hx hb dX7_face_43 rfl (lv_at hl 1 rfl) ?_
      obtain ⟨hin, h⟩ := h
      refine va_iald hx hb hK hP 2 0 rfl rfl hin dX7_face_44 ?_
      exact ret (v_solid_cubeOf p1.toNatClampNeg) () _ _ _ 45 dX7_face_45 h hP hD hS
    replace h := h.2 hc0
    by_cases hc1 : p2 = (1 : Int32)
    · replace h := h.1 hc1
      refine lv_lookup (tgt := 46) (off := 35) hx hb dX7_face_11 (by decide) (by rw [hc1] <;> rfl) (by decide) ?_
      refine lv_aload_n hx hb dX7_face_46 rfl (lv_at hl 0 rfl) ?_
      refine va_get (D := D) (ci := 7) (v := .ref a_solid) (C := RX7) (T := TX7) (N := 6) hx hb hts iX7 hown hK hP 0 rfl rfl 0 (by decide) f13 (fun _ h9 => h9) rfl dX7_face_47 ?_
      refine va_get (D := D) (ci := 4) (v := .ref a_solid_lookOf) (C := RX4) (T := TX4) (N := 10) hx hb hts iX4 hown hK hP 1 rfl rfl 3 (by decide) f94 (fun _ h9 => h9) rfl dX7_face_50 ?_
      refine lv_iload_n hx hb dX7_face_53 rfl (lv_at hl 1 rfl) ?_
      obtain ⟨hin, h⟩ := h
      refine va_iald hx hb hK hP 3 0 rfl rfl hin dX7_face_54 ?_
      exact ret (v_solid_lookOf p1.toNatClampNeg) () _ _ _ 55 dX7_face_55 h hP hD hS
    replace h := h.2 hc1
    refine lv_lookup (tgt := 56) (off := 45) hx hb dX7_face_11 (by decide) (by rw [lv_osw hc0 (by decide), lv_osw hc1 (by decide)] <;> rfl) (by decide) ?_
    refine lv_iconst (v := -1) hx hb dX7_face_56 (by decide) ?_
    exact ret (-1 : Int32) () _ _ _ 57 dX7_face_57 h hP hD hS
  · replace h := h.2 hc
    refine lv_iconst (v := -1) hx hb dX7_face_8 (by decide) ?_
    exact ret (-1 : Int32) () _ _ _ 9 dX7_face_9 h hP hD hS
def wd_X7_forget (cI cZ cJ : ClassId) (a_this a_album a_solid a_treeCounter a_hand a_search a_wrapping a_album_places a_album_numbers a_album_imageX a_album_imageY a_album_image a_album_leastImage : Nat) (v_album_count : Int32) : va_W := [(a_this, .inr (7, [.ref a_solid, .ref a_treeCounter, .ref a_hand, .ref a_album, .ref a_search, .ref a_wrapping])),
  (a_album, .inr (0, [.int v_album_count, .ref a_album_places, .ref a_album_numbers, .ref a_album_imageX, .ref a_album_imageY, .ref a_album_image, .ref a_album_leastImage]))]
abbrev rm_X7_forget : Room := { frames := 0, cells := 0, slots := 0, locals := 0 }
set_option maxHeartbeats 4000000 in
set_option maxRecDepth 100000 in
theorem c_X7_forget (l : Launch) (D : va_G) (cI cZ cJ : ClassId) (tb : Nat → Nat) (a_this a_album a_solid a_treeCounter a_hand a_search a_wrapping a_album_places a_album_numbers a_album_imageX a_album_imageY a_album_image a_album_leastImage : Nat) (v_album_count : Int32) (sz : Nat) {post : Int32 → Int32 → Prop} (h : wp_X7_forget v_album_count post) : Met l yX7_forget wsX7_forget rm_X7_forget (va_Pc [.ref a_this] (q_pre D cI cZ cJ tb (wd_X7_forget cI cZ cJ a_this a_album a_solid a_treeCounter a_hand a_search a_wrapping a_album_places a_album_numbers a_album_imageX a_album_imageY a_album_image a_album_leastImage v_album_count) sz)) (va_Qi (fun r (u : Int32) => post r u) (fun u => q_post D cI cZ cJ (va_A (wd_X7_forget cI cZ cJ a_this a_album a_solid a_treeCounter a_hand a_search a_wrapping a_album_places a_album_numbers a_album_imageX a_album_imageY a_album_image a_album_leastImage v_album_count) sz) (wd_X7_forget cI cZ cJ a_this a_album a_solid a_treeCounter a_hand a_search a_wrapping a_album_places a_album_numbers a_album_imageX a_album_imageY a_album_image a_album_leastImage u)) (va_A (wd_X7_forget cI cZ cJ a_this a_album a_solid a_treeCounter a_hand a_search a_wrapping a_album_places a_album_numbers a_album_imageX a_album_imageY a_album_image a_album_leastImage v_album_count) sz)) 0 0 (va_A (wd_X7_forget cI cZ cJ a_this a_album a_solid a_treeCounter a_hand a_search a_wrapping a_album_places a_album_numbers a_album_imageX a_album_imageY a_album_image a_album_leastImage v_album_count) sz) := by
  refine q_walki (cc := cX7_forget) (maxL := 2) (own := RX7) (wd := fun (u : Int32) => (wd_X7_forget cI cZ cJ a_this a_album a_solid a_treeCounter a_hand a_search a_wrapping a_album_places a_album_numbers a_album_imageX a_album_imageY a_album_image a_album_leastImage u)) (by decide) rfl rfl (Nat.le_of_ble_eq_true rfl) ?_
  intro p e s m below meth c Q A ls C hA ret hP hD hS hK hSt hNw hl
  obtain ⟨hx, hb, hml, hown, hts⟩ := id C
  replace hl : lv_has ls 2 [(0, .ref a_this)] := hl
  have f35 := hts (.fieldLink RX7 35 "NetSearch" "album" "LNetSearch$Album;") (by decide +kernel)
  have iX7 : ∀ w ∈ wsX70, w ∈ wsX7_forget := by decide +kernel
  have f84 := hts (.fieldLink RX7 84 "NetSearch$Album" "count" "I") (by decide +kernel)
  have iX0 : ∀ w ∈ wsX00, w ∈ wsX7_forget := by decide +kernel
  unfold wp_X7_forget at h
  refine lv_aload_n hx hb dX7_forget_0 rfl (lv_at hl 0 rfl) ?_
  refine va_get (D := D) (ci := 7) (v := .ref a_album) (C := RX7) (T := TX7) (N := 6) hx hb hts iX7 hown hK hP 0 rfl rfl 3 (by decide) f35 (fun _ h9 => h9) rfl dX7_forget_1 ?_
  refine va_get (D := D) (ci := 0) (v := .int v_album_count) (C := RX0) (T := TX0) (N := 7) hx hb hts iX0 hown hK hP 1 rfl rfl 0 (by decide) f84 (fun _ h9 => h9) rfl dX7_forget_4 ?_
  refine lv_istore_n (lv' := [(1, .int v_album_count), (0, .ref a_this)]) hx hb dX7_forget_7 rfl hl (by decide) rfl (fun ls hl => ?_)
  refine lv_aload_n hx hb dX7_forget_8 rfl (lv_at hl 1 rfl) ?_
  refine va_get (D := D) (ci := 7) (v := .ref a_album) (C := RX7) (T := TX7) (N := 6) hx hb hts iX7 hown hK hP 0 rfl rfl 3 (by decide) f35 (fun _ h9 => h9) rfl dX7_forget_9 ?_
  refine lv_iconst (v := 0) hx hb dX7_forget_12 (by decide) ?_
  refine va_put (D := D) (ci := 0) (v := .int (0 : Int32)) (ty := .int) (C := RX0) (T := TX0) (N := 7) hx hb hts iX0 tyX0 tyX0_ok nmX0 hown hK hP hD hS 1 rfl rfl 0 (by decide) f84 (fun _ h9 => h9) rfl (by decide +kernel) rfl rfl (Nat.le_of_ble_eq_true rfl) dX7_forget_13 (fun H locs hP hD hS => ?_)
  replace hP : va_P D vwCl (wd_X7_forget cI cZ cJ a_this a_album a_solid a_treeCounter a_hand a_search a_wrapping a_album_places a_album_numbers a_album_imageX a_album_imageY a_album_image a_album_leastImage (0 : Int32)) H := hP
  replace hD : va_D A (wd_X7_forget cI cZ cJ a_this a_album a_solid a_treeCounter a_hand a_search a_wrapping a_album_places a_album_numbers a_album_imageX a_album_imageY a_album_image a_album_leastImage (0 : Int32)) := hD
  refine lv_iload_n hx hb dX7_forget_16 rfl (lv_at hl 0 rfl) ?_
  exact ret v_album_count (0 : Int32) _ _ _ 17 dX7_forget_17 h hP hD hS
def wd_X7_grow (cI cZ cJ : ClassId) (a_this a_hand a_hand_headings a_hand_lies a_hand_taken a_hand_x a_hand_y a_solid a_solid_beyondEdge a_solid_onwardEdge a_treeCounter a_album a_search a_wrapping a_solid_cubeOf a_solid_lookOf a_solid_x a_solid_y a_solid_z a_solid_faceOf : Nat) (v_hand_count : Int32) (v_hand_headings : Nat → Int32) (v_hand_lies : Nat → Int32) (v_hand_taken : Nat → Int64) (v_hand_x : Nat → Int32) (v_hand_y : Nat → Int32) (v_solid_cubes : Int32) (v_solid_faces : Int32) (v_solid_beyondEdge : Nat → Int32) (v_solid_onwardEdge : Nat → Int32) : va_W := [(a_this, .inr (7, [.ref a_solid, .ref a_treeCounter, .ref a_hand, .ref a_album, .ref a_search, .ref a_wrapping])),
  (a_hand, .inr (3, [.ref a_hand_lies, .ref a_hand_x, .ref a_hand_y, .int v_hand_count, .ref a_solid, .ref a_hand_headings, .ref a_hand_taken])),
  (a_hand_headings, .inl (cI, 88, .inl v_hand_headings)),
  (a_hand_lies, .inl (cZ, 22, .inl v_hand_lies)),
  (a_hand_taken, .inl (cJ, 63, .inr (.inl v_hand_taken))),
  (a_hand_x, .inl (cI, 22, .inl v_hand_x)),
  (a_hand_y, .inl (cI, 22, .inl v_hand_y)),
  (a_solid, .inr (4, [.int v_solid_cubes, .int v_solid_faces, .ref a_solid_cubeOf, .ref a_solid_lookOf, .ref a_solid_x, .ref a_solid_y, .ref a_solid_z, .ref a_solid_faceOf, .ref a_solid_beyondEdge, .ref a_solid_onwardEdge])),
  (a_solid_beyondEdge, .inl (cI, 132, .inl v_solid_beyondEdge)),
  (a_solid_onwardEdge, .inl (cI, 132, .inl v_solid_onwardEdge))]
abbrev rm_X7_grow : Room := { frames := 3, cells := 0, slots := 0, locals := 67 }
set_option maxHeartbeats 4000000 in
set_option maxRecDepth 100000 in
theorem c_X7_grow (l : Launch) (D : va_G) (cI cZ cJ : ClassId) (tb : Nat → Nat) (a_this a_hand a_hand_headings a_hand_lies a_hand_taken a_hand_x a_hand_y a_solid a_solid_beyondEdge a_solid_onwardEdge a_treeCounter a_album a_search a_wrapping a_solid_cubeOf a_solid_lookOf a_solid_x a_solid_y a_solid_z a_solid_faceOf : Nat) (v_hand_count : Int32) (v_hand_headings : Nat → Int32) (v_hand_lies : Nat → Int32) (v_hand_taken : Nat → Int64) (v_hand_x : Nat → Int32) (v_hand_y : Nat → Int32) (v_solid_cubes : Int32) (v_solid_faces : Int32) (v_solid_beyondEdge : Nat → Int32) (v_solid_onwardEdge : Nat → Int32) (sz : Nat) (p1 : Int32) (p2 : Int32) {post : Int32 → Int32 → (Nat → Int32) → (Nat → Int32) → (Nat → Int64) → (Nat → Int32) → (Nat → Int32) → Prop} (h : wp_X7_grow v_hand_count v_hand_headings v_hand_lies v_hand_taken v_hand_x v_hand_y v_solid_faces v_solid_beyondEdge v_solid_onwardEdge p1 p2 post) : Met l yX7_grow wsX7_grow rm_X7_grow (va_Pc [.ref a_this, .int p1, .int p2] (q_pre D cI cZ cJ tb (wd_X7_grow cI cZ cJ a_this a_hand a_hand_headings a_hand_lies a_hand_taken a_hand_x a_hand_y a_solid a_solid_beyondEdge a_solid_onwardEdge a_treeCounter a_album a_search a_wrapping a_solid_cubeOf a_solid_lookOf a_solid_x a_solid_y a_solid_z a_solid_faceOf v_hand_count v_hand_headings v_hand_lies v_hand_taken v_hand_x v_hand_y v_solid_cubes v_solid_faces v_solid_beyondEdge v_solid_onwardEdge) sz)) (va_Qi (fun r (u : Int32 × (Nat → Int32) × (Nat → Int32) × (Nat → Int64) × (Nat → Int32) × (Nat → Int32)) => post r u.1 u.2.1 u.2.2.1 u.2.2.2.1 u.2.2.2.2.1 u.2.2.2.2.2) (fun u => q_post D cI cZ cJ (va_A (wd_X7_grow cI cZ cJ a_this a_hand a_hand_headings a_hand_lies a_hand_taken a_hand_x a_hand_y a_solid a_solid_beyondEdge a_solid_onwardEdge a_treeCounter a_album a_search a_wrapping a_solid_cubeOf a_solid_lookOf a_solid_x a_solid_y a_solid_z a_solid_faceOf v_hand_count v_hand_headings v_hand_lies v_hand_taken v_hand_x v_hand_y v_solid_cubes v_solid_faces v_solid_beyondEdge v_solid_onwardEdge) sz) (wd_X7_grow cI cZ cJ a_this a_hand a_hand_headings a_hand_lies a_hand_taken a_hand_x a_hand_y a_solid a_solid_beyondEdge a_solid_onwardEdge a_treeCounter a_album a_search a_wrapping a_solid_cubeOf a_solid_lookOf a_solid_x a_solid_y a_solid_z a_solid_faceOf u.1 u.2.1 u.2.2.1 u.2.2.2.1 u.2.2.2.2.1 u.2.2.2.2.2 v_solid_cubes v_solid_faces v_solid_beyondEdge v_solid_onwardEdge)) (va_A (wd_X7_grow cI cZ cJ a_this a_hand a_hand_headings a_hand_lies a_hand_taken a_hand_x a_hand_y a_solid a_solid_beyondEdge a_solid_onwardEdge a_treeCounter a_album a_search a_wrapping a_solid_cubeOf a_solid_lookOf a_solid_x a_solid_y a_solid_z a_solid_faceOf v_hand_count v_hand_headings v_hand_lies v_hand_taken v_hand_x v_hand_y v_solid_cubes v_solid_faces v_solid_beyondEdge v_solid_onwardEdge) sz)) 0 0 (va_A (wd_X7_grow cI cZ cJ a_this a_hand a_hand_headings a_hand_lies a_hand_taken a_hand_x a_hand_y a_solid a_solid_beyondEdge a_solid_onwardEdge a_treeCounter a_album a_search a_wrapping a_solid_cubeOf a_solid_lookOf a_solid_x a_solid_y a_solid_z a_solid_faceOf v_hand_count v_hand_headings v_hand_lies v_hand_taken v_hand_x v_hand_y v_solid_cubes v_solid_faces v_solid_beyondEdge v_solid_onwardEdge) sz) := by
  refine q_walki (cc := cX7_grow) (maxL := 5) (own := RX7) (wd := fun (u : Int32 × (Nat → Int32) × (Nat → Int32) × (Nat → Int64) × (Nat → Int32) × (Nat → Int32)) => (wd_X7_grow cI cZ cJ a_this a_hand a_hand_headings a_hand_lies a_hand_taken a_hand_x a_hand_y a_solid a_solid_beyondEdge a_solid_onwardEdge a_treeCounter a_album a_search a_wrapping a_solid_cubeOf a_solid_lookOf a_solid_x a_solid_y a_solid_z a_solid_faceOf u.1 u.2.1 u.2.2.1 u.2.2.2.1 u.2.2.2.2.1 u.2.2.2.2.2 v_solid_cubes v_solid_faces v_solid_beyondEdge v_solid_onwardEdge)) (by decide) rfl rfl (Nat.le_of_ble_eq_true rfl) ?_
  intro p e s m below meth c Q A ls C hA ret hP hD hS hK hSt hNw hl
  obtain ⟨hx, hb, hml, hown, hts⟩ := id C
  replace hl : lv_has ls 5 [(0, .ref a_this), (1, .int p1), (2, .int p2)] := hl
  have f31 := hts (.fieldLink RX7 31 "NetSearch" "hand" "LNetSearch$Sheet;") (by decide +kernel)
  have iX7 : ∀ w ∈ wsX70, w ∈ wsX7_grow := by decide +kernel
  have f117 := hts (.fieldLink RX7 117 "NetSearch$Sheet" "lies" "[Z") (by decide +kernel)
  have iX3 : ∀ w ∈ wsX30, w ∈ wsX7_grow := by decide +kernel
  have f124 := hts (.fieldLink RX7 124 "NetSearch$Sheet" "x" "[I") (by decide +kernel)
  have hZ5 : va_Z "NetSearch" "SIDE_X" "[I" (.ref (tb 5)) A s s.heap := (hSt 5 (by decide)).1
  have hT5 : va_T .int (tb 5) 4 (fun j => .int (q_SIDE_X j)) A s s.heap := (hSt 5 (by decide)).2
  have f127 := hts (.fieldLink RX7 127 "NetSearch" "SIDE_X" "[I") (by decide +kernel)
  have f130 := hts (.fieldLink RX7 130 "NetSearch$Sheet" "y" "[I") (by decide +kernel)
  have hZ6 : va_Z "NetSearch" "SIDE_Y" "[I" (.ref (tb 6)) A s s.heap := (hSt 6 (by decide)).1
  have hT6 : va_T .int (tb 6) 4 (fun j => .int (q_SIDE_Y j)) A s s.heap := (hSt 6 (by decide)).2
  have f133 := hts (.fieldLink RX7 133 "NetSearch" "SIDE_Y" "[I") (by decide +kernel)
  unfold wp_X7_grow at h
  refine lv_aload_n hx hb dX7_grow_0 rfl (lv_at hl 0 rfl) ?_
  refine lv_iload_n hx hb dX7_grow_1 rfl (lv_at hl 1 rfl) ?_
  have hPc := hP.sub (ws' := (wd_X7_isFace cI cZ cJ a_this a_solid a_treeCounter a_hand a_album a_search a_wrapping a_solid_cubeOf a_solid_lookOf a_solid_x a_solid_y a_solid_z a_solid_faceOf a_solid_beyondEdge a_solid_onwardEdge v_solid_cubes v_solid_faces)) [0, 7] rfl
  have hDc := hD.sub (ws' := (wd_X7_isFace cI cZ cJ a_this a_solid a_treeCounter a_hand a_album a_search a_wrapping a_solid_cubeOf a_solid_lookOf a_solid_x a_solid_y a_solid_z a_solid_faceOf a_solid_beyondEdge a_solid_onwardEdge v_solid_cubes v_solid_faces)) [0, 7] (by decide) rfl
  have hFc := va_free (wc := (wd_X7_isFace cI cZ cJ a_this a_solid a_treeCounter a_hand a_album a_search a_wrapping a_solid_cubeOf a_solid_lookOf a_solid_x a_solid_y a_solid_z a_solid_faceOf a_solid_beyondEdge a_solid_onwardEdge v_solid_cubes v_solid_faces)) hD hS hA [0, 7] rfl
  refine va_calli (va_runV (As := [.int p1]) (rest := []) C (c_X7_isFace l D cI cZ cJ tb a_this a_solid a_treeCounter a_hand a_album a_search a_wrapping a_solid_cubeOf a_solid_lookOf a_solid_x a_solid_y a_solid_z a_solid_faceOf a_solid_beyondEdge a_solid_onwardEdge v_solid_cubes v_solid_faces s.heap.size p1 h) (cwV 1 hts gX7_grow_X7_isFace rfl rfl rfl (by decide +kernel) ⟨Nat.le_of_ble_eq_true rfl, Nat.le_of_ble_eq_true rfl⟩) ⟨q_pre.blind, va_recv hK hP (ci := 7) (q0 := 0) rfl rfl, fun U hU hW => ⟨rfl, q_pre.of hU hW hPc hK hDc hSt hS hFc hNw⟩⟩ rfl rfl hl.1 rfl (lv_room (Nat.le_of_ble_eq_true rfl)) dX7_grow_2 ⟨Nat.zero_le _, Nat.zero_le _⟩) hS (fun q _ h => hFc q h) hFc (fun r_1 u_2 t H1 locs ht hvm hw hB hz1 hk1 hS => ?_)
  obtain ⟨hP1, hK1, hD1⟩ := hB
  rw [ht] at hP1
  obtain ⟨hP, hD⟩ := va_join (wr := [(a_hand, .inr (3, [.ref a_hand_lies, .ref a_hand_x, .ref a_hand_y, .int v_hand_count, .ref a_solid, .ref a_hand_headings, .ref a_hand_taken])), (a_hand_headings, .inl (cI, 88, .inl v_hand_headings)), (a_hand_lies, .inl (cZ, 22, .inl v_hand_lies)), (a_hand_taken, .inl (cJ, 63, .inr (.inl v_hand_taken))), (a_hand_x, .inl (cI, 22, .inl v_hand_x)), (a_hand_y, .inl (cI, 22, .inl v_hand_y)), (a_solid_beyondEdge, .inl (cI, 132, .inl v_solid_beyondEdge)), (a_solid_onwardEdge, .inl (cI, 132, .inl v_solid_onwardEdge))]) (w1 := (wd_X7_isFace cI cZ cJ a_this a_solid a_treeCounter a_hand a_album a_search a_wrapping a_solid_cubeOf a_solid_lookOf a_solid_x a_solid_y a_solid_z a_solid_faceOf a_solid_beyondEdge a_solid_onwardEdge v_solid_cubes v_solid_faces)) hP hD [0, 7] [1, 2, 3, 4, 5, 6, 8, 9] rfl rfl (by decide) (by decide) hk1 hFc hP1 hD1
  clear hPc hDc hFc hP1 hD1 hK1 hk1 hz1 ht hvm
  replace h := hw
  clear hw
  generalize H1 = H at hP hS ⊢
  replace hP : va_P D vwCl (wd_X7_grow cI cZ cJ a_this a_hand a_hand_headings a_hand_lies a_hand_taken a_hand_x a_hand_y a_solid a_solid_beyondEdge a_solid_onwardEdge a_treeCounter a_album a_search a_wrapping a_solid_cubeOf a_solid_lookOf a_solid_x a_solid_y a_solid_z a_solid_faceOf v_hand_count v_hand_headings v_hand_lies v_hand_taken v_hand_x v_hand_y v_solid_cubes v_solid_faces v_solid_beyondEdge v_solid_onwardEdge) H := hP.sub [8, 0, 1, 2, 3, 4, 5, 9, 6, 7] rfl
  replace hD : va_D A (wd_X7_grow cI cZ cJ a_this a_hand a_hand_headings a_hand_lies a_hand_taken a_hand_x a_hand_y a_solid a_solid_beyondEdge a_solid_onwardEdge a_treeCounter a_album a_search a_wrapping a_solid_cubeOf a_solid_lookOf a_solid_x a_solid_y a_solid_z a_solid_faceOf v_hand_count v_hand_headings v_hand_lies v_hand_taken v_hand_x v_hand_y v_solid_cubes v_solid_faces v_solid_beyondEdge v_solid_onwardEdge) := hD.sub [8, 0, 1, 2, 3, 4, 5, 9, 6, 7] (by decide) rfl
  refine lv_if_eq (tgt := 17) hx hb dX7_grow_5 (by decide) (fun hc => ?_) (fun hc => ?_)
  · replace h := h.1 hc
    refine lv_iconst (v := -1) hx hb dX7_grow_17 (by decide) ?_
    exact ret (-1 : Int32) (v_hand_count, v_hand_headings, v_hand_lies, v_hand_taken, v_hand_x, v_hand_y) _ _ _ 18 dX7_grow_18 h hP hD hS
  · replace h := h.2 hc
    refine lv_iload_n hx hb dX7_grow_8 rfl (lv_at hl 2 rfl) ?_
    refine lv_if_lt (tgt := 17) hx hb dX7_grow_9 (by decide) (fun hc => ?_) (fun hc => ?_)
    · replace h := h.1 hc
      refine lv_iconst (v := -1) hx hb dX7_grow_17 (by decide) ?_
      exact ret (-1 : Int32) (v_hand_count, v_hand_headings, v_hand_lies, v_hand_taken, v_hand_x, v_hand_y) _ _ _ 18 dX7_grow_18 h hP hD hS
    · replace h := h.2 hc
      refine lv_iload_n hx hb dX7_grow_12 rfl (lv_at hl 2 rfl) ?_
      refine lv_iconst (v := 4) hx hb dX7_grow_13 (by decide) ?_
      refine lv_icmp_lt (tgt := 19) hx hb dX7_grow_14 (by decide) (fun hc => ?_) (fun hc => ?_)
      · replace h := h.1 hc
        refine lv_aload_n hx hb dX7_grow_19 rfl (lv_at hl 0 rfl) ?_
        refine va_get (D := D) (ci := 7) (v := .ref a_hand) (C := RX7) (T := TX7) (N := 6) hx hb hts iX7 hown hK hP 0 rfl rfl 2 (by decide) f31 (fun _ h9 => h9) rfl dX7_grow_20 ?_
        refine va_get (D := D) (ci := 3) (v := .ref a_hand_lies) (C := RX3) (T := TX3) (N := 7) hx hb hts iX3 hown hK hP 1 rfl rfl 0 (by decide) f117 (fun _ h9 => h9) rfl dX7_grow_23 ?_
        refine lv_iload_n hx hb dX7_grow_26 rfl (lv_at hl 1 rfl) ?_
        obtain ⟨hin, h⟩ := h
        refine va_zald hx hb hK hP 3 1 rfl rfl hin dX7_grow_27 ?_
        refine lv_if_ne (tgt := 34) hx hb dX7_grow_28 (by decide) (fun hc => ?_) (fun hc => ?_)
        · replace h := h.1 hc
          refine lv_aload_n hx hb dX7_grow_34 rfl (lv_at hl 0 rfl) ?_
          refine va_get (D := D) (ci := 7) (v := .ref a_hand) (C := RX7) (T := TX7) (N := 6) hx hb hts iX7 hown hK hP 0 rfl rfl 2 (by decide) f31 (fun _ h9 => h9) rfl dX7_grow_35 ?_
          refine lv_iload_n hx hb dX7_grow_38 rfl (lv_at hl 1 rfl) ?_
          refine lv_iload_n hx hb dX7_grow_39 rfl (lv_at hl 2 rfl) ?_
          have hPc := hP.sub (ws' := (wd_X3_neighbour cI cZ cJ a_hand a_hand_headings a_solid a_solid_beyondEdge a_hand_lies a_hand_x a_hand_y a_hand_taken a_solid_cubeOf a_solid_lookOf a_solid_x a_solid_y a_solid_z a_solid_faceOf a_solid_onwardEdge v_hand_count v_hand_headings v_solid_cubes v_solid_faces v_solid_beyondEdge)) [1, 2, 7, 8] rfl
          have hDc := hD.sub (ws' := (wd_X3_neighbour cI cZ cJ a_hand a_hand_headings a_solid a_solid_beyondEdge a_hand_lies a_hand_x a_hand_y a_hand_taken a_solid_cubeOf a_solid_lookOf a_solid_x a_solid_y a_solid_z a_solid_faceOf a_solid_onwardEdge v_hand_count v_hand_headings v_solid_cubes v_solid_faces v_solid_beyondEdge)) [1, 2, 7, 8] (by decide) rfl
          have hFc := va_free (wc := (wd_X3_neighbour cI cZ cJ a_hand a_hand_headings a_solid a_solid_beyondEdge a_hand_lies a_hand_x a_hand_y a_hand_taken a_solid_cubeOf a_solid_lookOf a_solid_x a_solid_y a_solid_z a_solid_faceOf a_solid_onwardEdge v_hand_count v_hand_headings v_solid_cubes v_solid_faces v_solid_beyondEdge)) hD hS hA [1, 2, 7, 8] rfl
          refine va_calli (va_runV (As := [.int p1, .int p2]) (rest := []) C (c_X3_neighbour l D cI cZ cJ tb a_hand a_hand_headings a_solid a_solid_beyondEdge a_hand_lies a_hand_x a_hand_y a_hand_taken a_solid_cubeOf a_solid_lookOf a_solid_x a_solid_y a_solid_z a_solid_faceOf a_solid_onwardEdge v_hand_count v_hand_headings v_solid_cubes v_solid_faces v_solid_beyondEdge H.size p1 p2 h) (cwV 2 hts gX7_grow_X3_neighbour rfl rfl rfl (by decide +kernel) ⟨Nat.le_of_ble_eq_true rfl, Nat.le_of_ble_eq_true rfl⟩) ⟨q_pre.blind, va_recv hK hP (ci := 3) (q0 := 1) rfl rfl, fun U hU hW => ⟨rfl, q_pre.of hU hW hPc hK hDc hSt hS hFc hNw⟩⟩ rfl rfl hl.1 rfl (lv_room (Nat.le_of_ble_eq_true rfl)) dX7_grow_40 ⟨Nat.zero_le _, Nat.zero_le _⟩) hS (fun q _ h => hFc q h) hFc (fun r_3 u_4 t H1 locs ht hvm hw hB hz1 hk1 hS => ?_)
          obtain ⟨hP1, hK1, hD1⟩ := hB
          rw [ht] at hP1
          obtain ⟨hP, hD⟩ := va_join (wr := [(a_this, .inr (7, [.ref a_solid, .ref a_treeCounter, .ref a_hand, .ref a_album, .ref a_search, .ref a_wrapping])), (a_hand_lies, .inl (cZ, 22, .inl v_hand_lies)), (a_hand_taken, .inl (cJ, 63, .inr (.inl v_hand_taken))), (a_hand_x, .inl (cI, 22, .inl v_hand_x)), (a_hand_y, .inl (cI, 22, .inl v_hand_y)), (a_solid_onwardEdge, .inl (cI, 132, .inl v_solid_onwardEdge))]) (w1 := (wd_X3_neighbour cI cZ cJ a_hand a_hand_headings a_solid a_solid_beyondEdge a_hand_lies a_hand_x a_hand_y a_hand_taken a_solid_cubeOf a_solid_lookOf a_solid_x a_solid_y a_solid_z a_solid_faceOf a_solid_onwardEdge v_hand_count v_hand_headings v_solid_cubes v_solid_faces v_solid_beyondEdge)) hP hD [1, 2, 7, 8] [0, 3, 4, 5, 6, 9] rfl rfl (by decide) (by decide) hk1 hFc hP1 hD1
          clear hPc hDc hFc hP1 hD1 hK1 hk1 hz1 ht hvm
          replace h := hw
          clear hw
          generalize H1 = H at hP hS ⊢
          replace hP : va_P D vwCl (wd_X7_grow cI cZ cJ a_this a_hand a_hand_headings a_hand_lies a_hand_taken a_hand_x a_hand_y a_solid a_solid_beyondEdge a_solid_onwardEdge a_treeCounter a_album a_search a_wrapping a_solid_cubeOf a_solid_lookOf a_solid_x a_solid_y a_solid_z a_solid_faceOf v_hand_count v_hand_headings v_hand_lies v_hand_taken v_hand_x v_hand_y v_solid_cubes v_solid_faces v_solid_beyondEdge v_solid_onwardEdge) H := hP.sub [0, 6, 7, 1, 2, 3, 4, 8, 9, 5] rfl
          replace hD : va_D A (wd_X7_grow cI cZ cJ a_this a_hand a_hand_headings a_hand_lies a_hand_taken a_hand_x a_hand_y a_solid a_solid_beyondEdge a_solid_onwardEdge a_treeCounter a_album a_search a_wrapping a_solid_cubeOf a_solid_lookOf a_solid_x a_solid_y a_solid_z a_solid_faceOf v_hand_count v_hand_headings v_hand_lies v_hand_taken v_hand_x v_hand_y v_solid_cubes v_solid_faces v_solid_beyondEdge v_solid_onwardEdge) := hD.sub [0, 6, 7, 1, 2, 3, 4, 8, 9, 5] (by decide) rfl
          refine lv_istore_n (lv' := [(3, .int r_3), (0, .ref a_this), (1, .int p1), (2, .int p2)]) hx hb dX7_grow_43 rfl hl (by decide) rfl (fun ls hl => ?_)
          refine lv_aload_n hx hb dX7_grow_44 rfl (lv_at hl 1 rfl) ?_
          refine va_get (D := D) (ci := 7) (v := .ref a_hand) (C := RX7) (T := TX7) (N := 6) hx hb hts iX7 hown hK hP 0 rfl rfl 2 (by decide) f31 (fun _ h9 => h9) rfl dX7_grow_45 ?_
          refine va_get (D := D) (ci := 3) (v := .ref a_hand_lies) (C := RX3) (T := TX3) (N := 7) hx hb hts iX3 hown hK hP 1 rfl rfl 0 (by decide) f117 (fun _ h9 => h9) rfl dX7_grow_48 ?_
          refine lv_iload_n hx hb dX7_grow_51 rfl (lv_at hl 0 rfl) ?_
          obtain ⟨hin, h⟩ := h
          refine va_zald hx hb hK hP 3 1 rfl rfl hin dX7_grow_52 ?_
          refine lv_if_eq (tgt := 59) hx hb dX7_grow_53 (by decide) (fun hc => ?_) (fun hc => ?_)
          · replace h := h.1 hc
            refine lv_aload_n hx hb dX7_grow_59 rfl (lv_at hl 1 rfl) ?_
            refine va_get (D := D) (ci := 7) (v := .ref a_hand) (C := RX7) (T := TX7) (N := 6) hx hb hts iX7 hown hK hP 0 rfl rfl 2 (by decide) f31 (fun _ h9 => h9) rfl dX7_grow_60 ?_
            refine lv_aload_n hx hb dX7_grow_63 rfl (lv_at hl 1 rfl) ?_
            refine va_get (D := D) (ci := 7) (v := .ref a_hand) (C := RX7) (T := TX7) (N := 6) hx hb hts iX7 hown hK hP 0 rfl rfl 2 (by decide) f31 (fun _ h9 => h9) rfl dX7_grow_64 ?_
            refine va_get (D := D) (ci := 3) (v := .ref a_hand_x) (C := RX3) (T := TX3) (N := 7) hx hb hts iX3 hown hK hP 1 rfl rfl 1 (by decide) f124 (fun _ h9 => h9) rfl dX7_grow_67 ?_
            refine lv_iload_n hx hb dX7_grow_70 rfl (lv_at hl 2 rfl) ?_
            obtain ⟨hin, h⟩ := h
            refine va_iald hx hb hK hP 5 0 rfl rfl hin dX7_grow_71 ?_
            refine va_gets hx hb hZ5 hS hown f127 (fun _ h9 => h9) dX7_grow_72 ?_
            refine lv_iload_n hx hb dX7_grow_75 rfl (lv_at hl 3 rfl) ?_
            obtain ⟨hin, h⟩ := h
            refine va_ti (v := .int (q_SIDE_X p2.toNatClampNeg)) hx hb hT5 hS hin rfl dX7_grow_76 ?_
            refine lv_iadd hx hb dX7_grow_77 ?_
            refine lv_aload_n hx hb dX7_grow_78 rfl (lv_at hl 1 rfl) ?_
            refine va_get (D := D) (ci := 7) (v := .ref a_hand) (C := RX7) (T := TX7) (N := 6) hx hb hts iX7 hown hK hP 0 rfl rfl 2 (by decide) f31 (fun _ h9 => h9) rfl dX7_grow_79 ?_
            refine va_get (D := D) (ci := 3) (v := .ref a_hand_y) (C := RX3) (T := TX3) (N := 7) hx hb hts iX3 hown hK hP 1 rfl rfl 2 (by decide) f130 (fun _ h9 => h9) rfl dX7_grow_82 ?_
            refine lv_iload_n hx hb dX7_grow_85 rfl (lv_at hl 2 rfl) ?_
            obtain ⟨hin, h⟩ := h
            refine va_iald hx hb hK hP 6 0 rfl rfl hin dX7_grow_86 ?_
            refine va_gets hx hb hZ6 hS hown f133 (fun _ h9 => h9) dX7_grow_87 ?_
            refine lv_iload_n hx hb dX7_grow_90 rfl (lv_at hl 3 rfl) ?_
            obtain ⟨hin, h⟩ := h
            refine va_ti (v := .int (q_SIDE_Y p2.toNatClampNeg)) hx hb hT6 hS hin rfl dX7_grow_91 ?_
            refine lv_iadd hx hb dX7_grow_92 ?_
            have hPc := hP.sub (ws' := (wd_X3_faceAt cI cZ cJ a_hand a_hand_lies a_hand_x a_hand_y a_solid a_hand_headings a_hand_taken v_hand_count v_hand_lies v_hand_x v_hand_y)) [1, 3, 5, 6] rfl
            have hDc := hD.sub (ws' := (wd_X3_faceAt cI cZ cJ a_hand a_hand_lies a_hand_x a_hand_y a_solid a_hand_headings a_hand_taken v_hand_count v_hand_lies v_hand_x v_hand_y)) [1, 3, 5, 6] (by decide) rfl
            have hFc := va_free (wc := (wd_X3_faceAt cI cZ cJ a_hand a_hand_lies a_hand_x a_hand_y a_solid a_hand_headings a_hand_taken v_hand_count v_hand_lies v_hand_x v_hand_y)) hD hS hA [1, 3, 5, 6] rfl
            refine va_calli (va_runV (As := [.int ((v_hand_x p1.toNatClampNeg) + (q_SIDE_X p2.toNatClampNeg)), .int ((v_hand_y p1.toNatClampNeg) + (q_SIDE_Y p2.toNatClampNeg))]) (rest := []) C (c_X3_faceAt l D cI cZ cJ tb a_hand a_hand_lies a_hand_x a_hand_y a_solid a_hand_headings a_hand_taken v_hand_count v_hand_lies v_hand_x v_hand_y H.size ((v_hand_x p1.toNatClampNeg) + (q_SIDE_X p2.toNatClampNeg)) ((v_hand_y p1.toNatClampNeg) + (q_SIDE_Y p2.toNatClampNeg)) h) (cwV 2 hts gX7_grow_X3_faceAt rfl rfl rfl (by decide +kernel) ⟨Nat.le_of_ble_eq_true rfl, Nat.le_of_ble_eq_true rfl⟩) ⟨q_pre.blind, va_recv hK hP (ci := 3) (q0 := 1) rfl rfl, fun U hU hW => ⟨rfl, q_pre.of hU hW hPc hK hDc hSt hS hFc hNw⟩⟩ rfl rfl hl.1 rfl (lv_room (Nat.le_of_ble_eq_true rfl)) dX7_grow_93 ⟨Nat.zero_le _, Nat.zero_le _⟩) hS (fun q _ h => hFc q h) hFc (fun r_5 u_6 t H1 locs ht hvm hw hB hz1 hk1 hS => ?_)
            obtain ⟨hP1, hK1, hD1⟩ := hB
            rw [ht] at hP1
            obtain ⟨hP, hD⟩ := va_join (wr := [(a_this, .inr (7, [.ref a_solid, .ref a_treeCounter, .ref a_hand, .ref a_album, .ref a_search, .ref a_wrapping])), (a_hand_headings, .inl (cI, 88, .inl v_hand_headings)), (a_hand_taken, .inl (cJ, 63, .inr (.inl v_hand_taken))), (a_solid, .inr (4, [.int v_solid_cubes, .int v_solid_faces, .ref a_solid_cubeOf, .ref a_solid_lookOf, .ref a_solid_x, .ref a_solid_y, .ref a_solid_z, .ref a_solid_faceOf, .ref a_solid_beyondEdge, .ref a_solid_onwardEdge])), (a_solid_beyondEdge, .inl (cI, 132, .inl v_solid_beyondEdge)), (a_solid_onwardEdge, .inl (cI, 132, .inl v_solid_onwardEdge))]) (w1 := (wd_X3_faceAt cI cZ cJ a_hand a_hand_lies a_hand_x a_hand_y a_solid a_hand_headings a_hand_taken v_hand_count v_hand_lies v_hand_x v_hand_y)) hP hD [1, 3, 5, 6] [0, 2, 4, 7, 8, 9] rfl rfl (by decide) (by decide) hk1 hFc hP1 hD1
            clear hPc hDc hFc hP1 hD1 hK1 hk1 hz1 ht hvm
            replace h := hw
            clear hw
            generalize H1 = H at hP hS ⊢
            replace hP : va_P D vwCl (wd_X7_grow cI cZ cJ a_this a_hand a_hand_headings a_hand_lies a_hand_taken a_hand_x a_hand_y a_solid a_solid_beyondEdge a_solid_onwardEdge a_treeCounter a_album a_search a_wrapping a_solid_cubeOf a_solid_lookOf a_solid_x a_solid_y a_solid_z a_solid_faceOf v_hand_count v_hand_headings v_hand_lies v_hand_taken v_hand_x v_hand_y v_solid_cubes v_solid_faces v_solid_beyondEdge v_solid_onwardEdge) H := hP.sub [0, 6, 1, 7, 2, 8, 9, 3, 4, 5] rfl
            replace hD : va_D A (wd_X7_grow cI cZ cJ a_this a_hand a_hand_headings a_hand_lies a_hand_taken a_hand_x a_hand_y a_solid a_solid_beyondEdge a_solid_onwardEdge a_treeCounter a_album a_search a_wrapping a_solid_cubeOf a_solid_lookOf a_solid_x a_solid_y a_solid_z a_solid_faceOf v_hand_count v_hand_headings v_hand_lies v_hand_taken v_hand_x v_hand_y v_solid_cubes v_solid_faces v_solid_beyondEdge v_solid_onwardEdge) := hD.sub [0, 6, 1, 7, 2, 8, 9, 3, 4, 5] (by decide) rfl
            refine lv_istore (lv' := [(4, .int r_5), (3, .int r_3), (0, .ref a_this), (1, .int p1), (2, .int p2)]) hx hb dX7_grow_96 hl (by decide) rfl (fun ls hl => ?_)
            refine lv_iload hx hb dX7_grow_98 (lv_at hl 0 rfl) ?_
            refine lv_if_lt (tgt := 109) hx hb dX7_grow_100 (by decide) (fun hc => ?_) (fun hc => ?_)
            · replace h := h.1 hc
              refine lv_aload_n hx hb dX7_grow_109 rfl (lv_at hl 2 rfl) ?_
              refine va_get (D := D) (ci := 7) (v := .ref a_hand) (C := RX7) (T := TX7) (N := 6) hx hb hts iX7 hown hK hP 0 rfl rfl 2 (by decide) f31 (fun _ h9 => h9) rfl dX7_grow_110 ?_
              refine lv_iload_n hx hb dX7_grow_113 rfl (lv_at hl 3 rfl) ?_
              refine lv_iload_n hx hb dX7_grow_114 rfl (lv_at hl 4 rfl) ?_
              have hPc := hP.sub (ws' := (wd_X3_putBeside cI cZ cJ a_hand a_hand_headings a_hand_lies a_solid a_solid_beyondEdge a_solid_onwardEdge a_hand_taken a_hand_x a_hand_y a_solid_cubeOf a_solid_lookOf a_solid_x a_solid_y a_solid_z a_solid_faceOf v_hand_count v_hand_headings v_hand_lies v_solid_cubes v_solid_faces v_solid_beyondEdge v_solid_onwardEdge v_hand_taken v_hand_x v_hand_y)) [1, 2, 3, 7, 8, 9, 4, 5, 6] rfl
              have hDc := hD.sub (ws' := (wd_X3_putBeside cI cZ cJ a_hand a_hand_headings a_hand_lies a_solid a_solid_beyondEdge a_solid_onwardEdge a_hand_taken a_hand_x a_hand_y a_solid_cubeOf a_solid_lookOf a_solid_x a_solid_y a_solid_z a_solid_faceOf v_hand_count v_hand_headings v_hand_lies v_solid_cubes v_solid_faces v_solid_beyondEdge v_solid_onwardEdge v_hand_taken v_hand_x v_hand_y)) [1, 2, 3, 7, 8, 9, 4, 5, 6] (by decide) rfl
              have hFc := va_free (wc := (wd_X3_putBeside cI cZ cJ a_hand a_hand_headings a_hand_lies a_solid a_solid_beyondEdge a_solid_onwardEdge a_hand_taken a_hand_x a_hand_y a_solid_cubeOf a_solid_lookOf a_solid_x a_solid_y a_solid_z a_solid_faceOf v_hand_count v_hand_headings v_hand_lies v_solid_cubes v_solid_faces v_solid_beyondEdge v_solid_onwardEdge v_hand_taken v_hand_x v_hand_y)) hD hS hA [1, 2, 3, 7, 8, 9, 4, 5, 6] rfl
              refine va_callv (va_runV (As := [.int p1, .int p2]) (rest := []) C (c_X3_putBeside l D cI cZ cJ tb a_hand a_hand_headings a_hand_lies a_solid a_solid_beyondEdge a_solid_onwardEdge a_hand_taken a_hand_x a_hand_y a_solid_cubeOf a_solid_lookOf a_solid_x a_solid_y a_solid_z a_solid_faceOf v_hand_count v_hand_headings v_hand_lies v_solid_cubes v_solid_faces v_solid_beyondEdge v_solid_onwardEdge v_hand_taken v_hand_x v_hand_y H.size p1 p2 h) (cwV 2 hts gX7_grow_X3_putBeside rfl rfl rfl (by decide +kernel) ⟨Nat.le_of_ble_eq_true rfl, Nat.le_of_ble_eq_true rfl⟩) ⟨q_pre.blind, va_recv hK hP (ci := 3) (q0 := 1) rfl rfl, fun U hU hW => ⟨rfl, q_pre.of hU hW hPc hK hDc hSt hS hFc hNw⟩⟩ rfl rfl hl.1 rfl (lv_room (Nat.le_of_ble_eq_true rfl)) dX7_grow_115 ⟨Nat.zero_le _, Nat.zero_le _⟩) hS (fun q _ h => hFc q h) hFc (fun u_8 t H1 locs ht hvm hw hB hz1 hk1 hS => ?_)
              obtain ⟨hP1, hK1, hD1⟩ := hB
              rw [ht] at hP1
              obtain ⟨hP, hD⟩ := va_join (wr := [(a_this, .inr (7, [.ref a_solid, .ref a_treeCounter, .ref a_hand, .ref a_album, .ref a_search, .ref a_wrapping]))]) (w1 := (wd_X3_putBeside cI cZ cJ a_hand a_hand_headings a_hand_lies a_solid a_solid_beyondEdge a_solid_onwardEdge a_hand_taken a_hand_x a_hand_y a_solid_cubeOf a_solid_lookOf a_solid_x a_solid_y a_solid_z a_solid_faceOf u_8.1 u_8.2.1 u_8.2.2.1 v_solid_cubes v_solid_faces v_solid_beyondEdge v_solid_onwardEdge u_8.2.2.2.1 u_8.2.2.2.2.1 u_8.2.2.2.2.2)) hP hD [1, 2, 3, 7, 8, 9, 4, 5, 6] [0] rfl rfl (by decide) (by decide) hk1 hFc hP1 hD1
              clear hPc hDc hFc hP1 hD1 hK1 hk1 hz1 ht hvm
              replace h := hw
              clear hw
              generalize H1 = H at hP hS ⊢
              replace hP : va_P D vwCl (wd_X7_grow cI cZ cJ a_this a_hand a_hand_headings a_hand_lies a_hand_taken a_hand_x a_hand_y a_solid a_solid_beyondEdge a_solid_onwardEdge a_treeCounter a_album a_search a_wrapping a_solid_cubeOf a_solid_lookOf a_solid_x a_solid_y a_solid_z a_solid_faceOf u_8.1 u_8.2.1 u_8.2.2.1 u_8.2.2.2.1 u_8.2.2.2.2.1 u_8.2.2.2.2.2 v_solid_cubes v_solid_faces v_solid_beyondEdge v_solid_onwardEdge) H := hP.sub [0, 1, 2, 3, 7, 8, 9, 4, 5, 6] rfl
              replace hD : va_D A (wd_X7_grow cI cZ cJ a_this a_hand a_hand_headings a_hand_lies a_hand_taken a_hand_x a_hand_y a_solid a_solid_beyondEdge a_solid_onwardEdge a_treeCounter a_album a_search a_wrapping a_solid_cubeOf a_solid_lookOf a_solid_x a_solid_y a_solid_z a_solid_faceOf u_8.1 u_8.2.1 u_8.2.2.1 u_8.2.2.2.1 u_8.2.2.2.2.1 u_8.2.2.2.2.2 v_solid_cubes v_solid_faces v_solid_beyondEdge v_solid_onwardEdge) := hD.sub [0, 1, 2, 3, 7, 8, 9, 4, 5, 6] (by decide) rfl
              refine lv_iload_n hx hb dX7_grow_118 rfl (lv_at hl 1 rfl) ?_
              exact ret r_3 (u_8.1, u_8.2.1, u_8.2.2.1, u_8.2.2.2.1, u_8.2.2.2.2.1, u_8.2.2.2.2.2) _ _ _ 119 dX7_grow_119 h hP hD hS
            · replace h := h.2 hc
              refine lv_bipush (v := -10) hx hb dX7_grow_103 (by decide) ?_
              refine lv_iload hx hb dX7_grow_105 (lv_at hl 0 rfl) ?_
              refine lv_isub hx hb dX7_grow_107 ?_
              exact ret ((-10 : Int32) - r_5) (v_hand_count, v_hand_headings, v_hand_lies, v_hand_taken, v_hand_x, v_hand_y) _ _ _ 108 dX7_grow_108 h hP hD hS
          · replace h := h.2 hc
            refine lv_bipush (v := -3) hx hb dX7_grow_56 (by decide) ?_
            exact ret (-3 : Int32) (v_hand_count, v_hand_headings, v_hand_lies, v_hand_taken, v_hand_x, v_hand_y) _ _ _ 58 dX7_grow_58 h hP hD hS
        · replace h := h.2 hc
          refine lv_bipush (v := -2) hx hb dX7_grow_31 (by decide) ?_
          exact ret (-2 : Int32) (v_hand_count, v_hand_headings, v_hand_lies, v_hand_taken, v_hand_x, v_hand_y) _ _ _ 33 dX7_grow_33 h hP hD hS
      · replace h := h.2 hc
        refine lv_iconst (v := -1) hx hb dX7_grow_17 (by decide) ?_
        exact ret (-1 : Int32) (v_hand_count, v_hand_headings, v_hand_lies, v_hand_taken, v_hand_x, v_hand_y) _ _ _ 18 dX7_grow_18 h hP hD hS
def wd_X7_isShape (cI cZ cJ : ClassId) (a_this a_album a_solid a_treeCounter a_hand a_search a_wrapping a_album_places a_album_numbers a_album_imageX a_album_imageY a_album_image a_album_leastImage : Nat) (v_album_count : Int32) : va_W := [(a_this, .inr (7, [.ref a_solid, .ref a_treeCounter, .ref a_hand, .ref a_album, .ref a_search, .ref a_wrapping])),
  (a_album, .inr (0, [.int v_album_count, .ref a_album_places, .ref a_album_numbers, .ref a_album_imageX, .ref a_album_imageY, .ref a_album_image, .ref a_album_leastImage]))]
abbrev rm_X7_isShape : Room := { frames := 0, cells := 0, slots := 0, locals := 0 }
set_option maxHeartbeats 4000000 in
set_option maxRecDepth 100000 in
theorem c_X7_isShape (l : Launch) (D : va_G) (cI cZ cJ : ClassId) (tb : Nat → Nat) (a_this a_album a_solid a_treeCounter a_hand a_search a_wrapping a_album_places a_album_numbers a_album_imageX a_album_imageY a_album_image a_album_leastImage : Nat) (v_album_count : Int32) (sz : Nat) (p1 : Int32) {post : Int32 → Prop} (h : wp_X7_isShape v_album_count p1 post) : Met l yX7_isShape wsX7_isShape rm_X7_isShape (va_Pc [.ref a_this, .int p1] (q_pre D cI cZ cJ tb (wd_X7_isShape cI cZ cJ a_this a_album a_solid a_treeCounter a_hand a_search a_wrapping a_album_places a_album_numbers a_album_imageX a_album_imageY a_album_image a_album_leastImage v_album_count) sz)) (va_Qi (fun r (u : Unit) => post r) (fun u => q_post D cI cZ cJ (va_A (wd_X7_isShape cI cZ cJ a_this a_album a_solid a_treeCounter a_hand a_search a_wrapping a_album_places a_album_numbers a_album_imageX a_album_imageY a_album_image a_album_leastImage v_album_count) sz) (wd_X7_isShape cI cZ cJ a_this a_album a_solid a_treeCounter a_hand a_search a_wrapping a_album_places a_album_numbers a_album_imageX a_album_imageY a_album_image a_album_leastImage v_album_count)) (va_A (wd_X7_isShape cI cZ cJ a_this a_album a_solid a_treeCounter a_hand a_search a_wrapping a_album_places a_album_numbers a_album_imageX a_album_imageY a_album_image a_album_leastImage v_album_count) sz)) 0 0 (va_A (wd_X7_isShape cI cZ cJ a_this a_album a_solid a_treeCounter a_hand a_search a_wrapping a_album_places a_album_numbers a_album_imageX a_album_imageY a_album_image a_album_leastImage v_album_count) sz) := by
  refine q_walkz (cc := cX7_isShape) (maxL := 2) (own := RX7) (wd := fun (u : Unit) => (wd_X7_isShape cI cZ cJ a_this a_album a_solid a_treeCounter a_hand a_search a_wrapping a_album_places a_album_numbers a_album_imageX a_album_imageY a_album_image a_album_leastImage v_album_count)) (by decide) rfl rfl (Nat.le_of_ble_eq_true rfl) ?_
  intro p e s m below meth c Q A ls C hA ret hP hD hS hK hSt hNw hl
  obtain ⟨hx, hb, hml, hown, hts⟩ := id C
  replace hl : lv_has ls 2 [(0, .ref a_this), (1, .int p1)] := hl
  have f35 := hts (.fieldLink RX7 35 "NetSearch" "album" "LNetSearch$Album;") (by decide +kernel)
  have iX7 : ∀ w ∈ wsX70, w ∈ wsX7_isShape := by decide +kernel
  have f84 := hts (.fieldLink RX7 84 "NetSearch$Album" "count" "I") (by decide +kernel)
  have iX0 : ∀ w ∈ wsX00, w ∈ wsX7_isShape := by decide +kernel
  unfold wp_X7_isShape at h
  refine lv_iload_n hx hb dX7_isShape_0 rfl (lv_at hl 1 rfl) ?_
  refine lv_if_lt (tgt := 19) hx hb dX7_isShape_1 (by decide) (fun hc => ?_) (fun hc => ?_)
  · replace h := h.1 hc
    refine lv_iconst (v := 0) hx hb dX7_isShape_19 (by decide) ?_
    exact ret (0 : Int32) () _ _ _ 20 dX7_isShape_20 ⟨by decide, h⟩ hP hD hS
  · replace h := h.2 hc
    refine lv_iload_n hx hb dX7_isShape_4 rfl (lv_at hl 1 rfl) ?_
    refine lv_aload_n hx hb dX7_isShape_5 rfl (lv_at hl 0 rfl) ?_
    refine va_get (D := D) (ci := 7) (v := .ref a_album) (C := RX7) (T := TX7) (N := 6) hx hb hts iX7 hown hK hP 0 rfl rfl 3 (by decide) f35 (fun _ h9 => h9) rfl dX7_isShape_6 ?_
    refine va_get (D := D) (ci := 0) (v := .int v_album_count) (C := RX0) (T := TX0) (N := 7) hx hb hts iX0 hown hK hP 1 rfl rfl 0 (by decide) f84 (fun _ h9 => h9) rfl dX7_isShape_9 ?_
    refine lv_icmp_ge (tgt := 19) hx hb dX7_isShape_12 (by decide) (fun hc => ?_) (fun hc => ?_)
    · replace h := h.1 hc
      refine lv_iconst (v := 0) hx hb dX7_isShape_19 (by decide) ?_
      exact ret (0 : Int32) () _ _ _ 20 dX7_isShape_20 ⟨by decide, h⟩ hP hD hS
    · replace h := h.2 hc
      refine lv_iconst (v := 1) hx hb dX7_isShape_15 (by decide) ?_
      refine lv_goto (tgt := 20) hx hb dX7_isShape_16 (by decide) ?_
      exact ret (1 : Int32) () _ _ _ 20 dX7_isShape_20 ⟨by decide, h⟩ hP hD hS
def wd_X7_lay (cI cZ cJ : ClassId) (a_this a_hand a_hand_headings a_hand_lies a_hand_taken a_hand_x a_hand_y a_solid a_solid_lookOf a_treeCounter a_album a_search a_wrapping a_solid_cubeOf a_solid_x a_solid_y a_solid_z a_solid_faceOf a_solid_beyondEdge a_solid_onwardEdge : Nat) (v_hand_count : Int32) (v_hand_headings : Nat → Int32) (v_hand_lies : Nat → Int32) (v_hand_taken : Nat → Int64) (v_hand_x : Nat → Int32) (v_hand_y : Nat → Int32) (v_solid_cubes : Int32) (v_solid_faces : Int32) (v_solid_lookOf : Nat → Int32) : va_W := [(a_this, .inr (7, [.ref a_solid, .ref a_treeCounter, .ref a_hand, .ref a_album, .ref a_search, .ref a_wrapping])),
  (a_hand, .inr (3, [.ref a_hand_lies, .ref a_hand_x, .ref a_hand_y, .int v_hand_count, .ref a_solid, .ref a_hand_headings, .ref a_hand_taken])),
  (a_hand_headings, .inl (cI, 88, .inl v_hand_headings)),
  (a_hand_lies, .inl (cZ, 22, .inl v_hand_lies)),
  (a_hand_taken, .inl (cJ, 63, .inr (.inl v_hand_taken))),
  (a_hand_x, .inl (cI, 22, .inl v_hand_x)),
  (a_hand_y, .inl (cI, 22, .inl v_hand_y)),
  (a_solid, .inr (4, [.int v_solid_cubes, .int v_solid_faces, .ref a_solid_cubeOf, .ref a_solid_lookOf, .ref a_solid_x, .ref a_solid_y, .ref a_solid_z, .ref a_solid_faceOf, .ref a_solid_beyondEdge, .ref a_solid_onwardEdge])),
  (a_solid_lookOf, .inl (cI, 22, .inl v_solid_lookOf))]
abbrev rm_X7_lay : Room := { frames := 3, cells := 0, slots := 0, locals := 64 }
set_option maxHeartbeats 4000000 in
set_option maxRecDepth 100000 in
theorem c_X7_lay (l : Launch) (D : va_G) (cI cZ cJ : ClassId) (tb : Nat → Nat) (a_this a_hand a_hand_headings a_hand_lies a_hand_taken a_hand_x a_hand_y a_solid a_solid_lookOf a_treeCounter a_album a_search a_wrapping a_solid_cubeOf a_solid_x a_solid_y a_solid_z a_solid_faceOf a_solid_beyondEdge a_solid_onwardEdge : Nat) (v_hand_count : Int32) (v_hand_headings : Nat → Int32) (v_hand_lies : Nat → Int32) (v_hand_taken : Nat → Int64) (v_hand_x : Nat → Int32) (v_hand_y : Nat → Int32) (v_solid_cubes : Int32) (v_solid_faces : Int32) (v_solid_lookOf : Nat → Int32) (sz : Nat) (p1 : Int32) {post : Int32 → Int32 → (Nat → Int32) → (Nat → Int32) → (Nat → Int64) → (Nat → Int32) → (Nat → Int32) → Prop} (h : wp_X7_lay v_hand_count v_hand_headings v_hand_lies v_hand_taken v_hand_x v_hand_y v_solid_faces v_solid_lookOf p1 post) : Met l yX7_lay wsX7_lay rm_X7_lay (va_Pc [.ref a_this, .int p1] (q_pre D cI cZ cJ tb (wd_X7_lay cI cZ cJ a_this a_hand a_hand_headings a_hand_lies a_hand_taken a_hand_x a_hand_y a_solid a_solid_lookOf a_treeCounter a_album a_search a_wrapping a_solid_cubeOf a_solid_x a_solid_y a_solid_z a_solid_faceOf a_solid_beyondEdge a_solid_onwardEdge v_hand_count v_hand_headings v_hand_lies v_hand_taken v_hand_x v_hand_y v_solid_cubes v_solid_faces v_solid_lookOf) sz)) (va_Qi (fun r (u : Int32 × (Nat → Int32) × (Nat → Int32) × (Nat → Int64) × (Nat → Int32) × (Nat → Int32)) => post r u.1 u.2.1 u.2.2.1 u.2.2.2.1 u.2.2.2.2.1 u.2.2.2.2.2) (fun u => q_post D cI cZ cJ (va_A (wd_X7_lay cI cZ cJ a_this a_hand a_hand_headings a_hand_lies a_hand_taken a_hand_x a_hand_y a_solid a_solid_lookOf a_treeCounter a_album a_search a_wrapping a_solid_cubeOf a_solid_x a_solid_y a_solid_z a_solid_faceOf a_solid_beyondEdge a_solid_onwardEdge v_hand_count v_hand_headings v_hand_lies v_hand_taken v_hand_x v_hand_y v_solid_cubes v_solid_faces v_solid_lookOf) sz) (wd_X7_lay cI cZ cJ a_this a_hand a_hand_headings a_hand_lies a_hand_taken a_hand_x a_hand_y a_solid a_solid_lookOf a_treeCounter a_album a_search a_wrapping a_solid_cubeOf a_solid_x a_solid_y a_solid_z a_solid_faceOf a_solid_beyondEdge a_solid_onwardEdge u.1 u.2.1 u.2.2.1 u.2.2.2.1 u.2.2.2.2.1 u.2.2.2.2.2 v_solid_cubes v_solid_faces v_solid_lookOf)) (va_A (wd_X7_lay cI cZ cJ a_this a_hand a_hand_headings a_hand_lies a_hand_taken a_hand_x a_hand_y a_solid a_solid_lookOf a_treeCounter a_album a_search a_wrapping a_solid_cubeOf a_solid_x a_solid_y a_solid_z a_solid_faceOf a_solid_beyondEdge a_solid_onwardEdge v_hand_count v_hand_headings v_hand_lies v_hand_taken v_hand_x v_hand_y v_solid_cubes v_solid_faces v_solid_lookOf) sz)) 0 0 (va_A (wd_X7_lay cI cZ cJ a_this a_hand a_hand_headings a_hand_lies a_hand_taken a_hand_x a_hand_y a_solid a_solid_lookOf a_treeCounter a_album a_search a_wrapping a_solid_cubeOf a_solid_x a_solid_y a_solid_z a_solid_faceOf a_solid_beyondEdge a_solid_onwardEdge v_hand_count v_hand_headings v_hand_lies v_hand_taken v_hand_x v_hand_y v_solid_cubes v_solid_faces v_solid_lookOf) sz) := by
  refine q_walki (cc := cX7_lay) (maxL := 2) (own := RX7) (wd := fun (u : Int32 × (Nat → Int32) × (Nat → Int32) × (Nat → Int64) × (Nat → Int32) × (Nat → Int32)) => (wd_X7_lay cI cZ cJ a_this a_hand a_hand_headings a_hand_lies a_hand_taken a_hand_x a_hand_y a_solid a_solid_lookOf a_treeCounter a_album a_search a_wrapping a_solid_cubeOf a_solid_x a_solid_y a_solid_z a_solid_faceOf a_solid_beyondEdge a_solid_onwardEdge u.1 u.2.1 u.2.2.1 u.2.2.2.1 u.2.2.2.2.1 u.2.2.2.2.2 v_solid_cubes v_solid_faces v_solid_lookOf)) (by decide) rfl rfl (Nat.le_of_ble_eq_true rfl) ?_
  intro p e s m below meth c Q A ls C hA ret hP hD hS hK hSt hNw hl
  obtain ⟨hx, hb, hml, hown, hts⟩ := id C
  replace hl : lv_has ls 2 [(0, .ref a_this), (1, .int p1)] := hl
  have f31 := hts (.fieldLink RX7 31 "NetSearch" "hand" "LNetSearch$Sheet;") (by decide +kernel)
  have iX7 : ∀ w ∈ wsX70, w ∈ wsX7_lay := by decide +kernel
  unfold wp_X7_lay at h
  refine lv_aload_n hx hb dX7_lay_0 rfl (lv_at hl 0 rfl) ?_
  refine lv_iload_n hx hb dX7_lay_1 rfl (lv_at hl 1 rfl) ?_
  have hPc := hP.sub (ws' := (wd_X7_isFace cI cZ cJ a_this a_solid a_treeCounter a_hand a_album a_search a_wrapping a_solid_cubeOf a_solid_lookOf a_solid_x a_solid_y a_solid_z a_solid_faceOf a_solid_beyondEdge a_solid_onwardEdge v_solid_cubes v_solid_faces)) [0, 7] rfl
  have hDc := hD.sub (ws' := (wd_X7_isFace cI cZ cJ a_this a_solid a_treeCounter a_hand a_album a_search a_wrapping a_solid_cubeOf a_solid_lookOf a_solid_x a_solid_y a_solid_z a_solid_faceOf a_solid_beyondEdge a_solid_onwardEdge v_solid_cubes v_solid_faces)) [0, 7] (by decide) rfl
  have hFc := va_free (wc := (wd_X7_isFace cI cZ cJ a_this a_solid a_treeCounter a_hand a_album a_search a_wrapping a_solid_cubeOf a_solid_lookOf a_solid_x a_solid_y a_solid_z a_solid_faceOf a_solid_beyondEdge a_solid_onwardEdge v_solid_cubes v_solid_faces)) hD hS hA [0, 7] rfl
  refine va_calli (va_runV (As := [.int p1]) (rest := []) C (c_X7_isFace l D cI cZ cJ tb a_this a_solid a_treeCounter a_hand a_album a_search a_wrapping a_solid_cubeOf a_solid_lookOf a_solid_x a_solid_y a_solid_z a_solid_faceOf a_solid_beyondEdge a_solid_onwardEdge v_solid_cubes v_solid_faces s.heap.size p1 h) (cwV 1 hts gX7_lay_X7_isFace rfl rfl rfl (by decide +kernel) ⟨Nat.le_of_ble_eq_true rfl, Nat.le_of_ble_eq_true rfl⟩) ⟨q_pre.blind, va_recv hK hP (ci := 7) (q0 := 0) rfl rfl, fun U hU hW => ⟨rfl, q_pre.of hU hW hPc hK hDc hSt hS hFc hNw⟩⟩ rfl rfl hl.1 rfl (lv_room (Nat.le_of_ble_eq_true rfl)) dX7_lay_2 ⟨Nat.zero_le _, Nat.zero_le _⟩) hS (fun q _ h => hFc q h) hFc (fun r_1 u_2 t H1 locs ht hvm hw hB hz1 hk1 hS => ?_)
  obtain ⟨hP1, hK1, hD1⟩ := hB
  rw [ht] at hP1
  obtain ⟨hP, hD⟩ := va_join (wr := [(a_hand, .inr (3, [.ref a_hand_lies, .ref a_hand_x, .ref a_hand_y, .int v_hand_count, .ref a_solid, .ref a_hand_headings, .ref a_hand_taken])), (a_hand_headings, .inl (cI, 88, .inl v_hand_headings)), (a_hand_lies, .inl (cZ, 22, .inl v_hand_lies)), (a_hand_taken, .inl (cJ, 63, .inr (.inl v_hand_taken))), (a_hand_x, .inl (cI, 22, .inl v_hand_x)), (a_hand_y, .inl (cI, 22, .inl v_hand_y)), (a_solid_lookOf, .inl (cI, 22, .inl v_solid_lookOf))]) (w1 := (wd_X7_isFace cI cZ cJ a_this a_solid a_treeCounter a_hand a_album a_search a_wrapping a_solid_cubeOf a_solid_lookOf a_solid_x a_solid_y a_solid_z a_solid_faceOf a_solid_beyondEdge a_solid_onwardEdge v_solid_cubes v_solid_faces)) hP hD [0, 7] [1, 2, 3, 4, 5, 6, 8] rfl rfl (by decide) (by decide) hk1 hFc hP1 hD1
  clear hPc hDc hFc hP1 hD1 hK1 hk1 hz1 ht hvm
  replace h := hw
  clear hw
  generalize H1 = H at hP hS ⊢
  replace hP : va_P D vwCl (wd_X7_lay cI cZ cJ a_this a_hand a_hand_headings a_hand_lies a_hand_taken a_hand_x a_hand_y a_solid a_solid_lookOf a_treeCounter a_album a_search a_wrapping a_solid_cubeOf a_solid_x a_solid_y a_solid_z a_solid_faceOf a_solid_beyondEdge a_solid_onwardEdge v_hand_count v_hand_headings v_hand_lies v_hand_taken v_hand_x v_hand_y v_solid_cubes v_solid_faces v_solid_lookOf) H := hP.sub [7, 0, 1, 2, 3, 4, 5, 8, 6] rfl
  replace hD : va_D A (wd_X7_lay cI cZ cJ a_this a_hand a_hand_headings a_hand_lies a_hand_taken a_hand_x a_hand_y a_solid a_solid_lookOf a_treeCounter a_album a_search a_wrapping a_solid_cubeOf a_solid_x a_solid_y a_solid_z a_solid_faceOf a_solid_beyondEdge a_solid_onwardEdge v_hand_count v_hand_headings v_hand_lies v_hand_taken v_hand_x v_hand_y v_solid_cubes v_solid_faces v_solid_lookOf) := hD.sub [7, 0, 1, 2, 3, 4, 5, 8, 6] (by decide) rfl
  refine lv_if_ne (tgt := 10) hx hb dX7_lay_5 (by decide) (fun hc => ?_) (fun hc => ?_)
  · replace h := h.1 hc
    refine lv_aload_n hx hb dX7_lay_10 rfl (lv_at hl 0 rfl) ?_
    refine va_get (D := D) (ci := 7) (v := .ref a_hand) (C := RX7) (T := TX7) (N := 6) hx hb hts iX7 hown hK hP 0 rfl rfl 2 (by decide) f31 (fun _ h9 => h9) rfl dX7_lay_11 ?_
    have hPc := hP.sub (ws' := (wd_X3_wipe cI cZ cJ a_hand a_hand_lies a_hand_taken a_hand_x a_hand_y a_solid a_hand_headings v_hand_count v_hand_lies v_hand_taken v_hand_x v_hand_y)) [1, 3, 4, 5, 6] rfl
    have hDc := hD.sub (ws' := (wd_X3_wipe cI cZ cJ a_hand a_hand_lies a_hand_taken a_hand_x a_hand_y a_solid a_hand_headings v_hand_count v_hand_lies v_hand_taken v_hand_x v_hand_y)) [1, 3, 4, 5, 6] (by decide) rfl
    have hFc := va_free (wc := (wd_X3_wipe cI cZ cJ a_hand a_hand_lies a_hand_taken a_hand_x a_hand_y a_solid a_hand_headings v_hand_count v_hand_lies v_hand_taken v_hand_x v_hand_y)) hD hS hA [1, 3, 4, 5, 6] rfl
    refine va_callv (va_runV (As := []) (rest := []) C (c_X3_wipe l D cI cZ cJ tb a_hand a_hand_lies a_hand_taken a_hand_x a_hand_y a_solid a_hand_headings v_hand_count v_hand_lies v_hand_taken v_hand_x v_hand_y H.size h) (cwV 0 hts gX7_lay_X3_wipe rfl rfl rfl (by decide +kernel) ⟨Nat.le_of_ble_eq_true rfl, Nat.le_of_ble_eq_true rfl⟩) ⟨q_pre.blind, va_recv hK hP (ci := 3) (q0 := 1) rfl rfl, fun U hU hW => ⟨rfl, q_pre.of hU hW hPc hK hDc hSt hS hFc hNw⟩⟩ rfl rfl hl.1 rfl (lv_room (Nat.le_of_ble_eq_true rfl)) dX7_lay_14 ⟨Nat.zero_le _, Nat.zero_le _⟩) hS (fun q _ h => hFc q h) hFc (fun u_4 t H1 locs ht hvm hw hB hz1 hk1 hS => ?_)
    obtain ⟨hP1, hK1, hD1⟩ := hB
    rw [ht] at hP1
    obtain ⟨hP, hD⟩ := va_join (wr := [(a_this, .inr (7, [.ref a_solid, .ref a_treeCounter, .ref a_hand, .ref a_album, .ref a_search, .ref a_wrapping])), (a_hand_headings, .inl (cI, 88, .inl v_hand_headings)), (a_solid, .inr (4, [.int v_solid_cubes, .int v_solid_faces, .ref a_solid_cubeOf, .ref a_solid_lookOf, .ref a_solid_x, .ref a_solid_y, .ref a_solid_z, .ref a_solid_faceOf, .ref a_solid_beyondEdge, .ref a_solid_onwardEdge])), (a_solid_lookOf, .inl (cI, 22, .inl v_solid_lookOf))]) (w1 := (wd_X3_wipe cI cZ cJ a_hand a_hand_lies a_hand_taken a_hand_x a_hand_y a_solid a_hand_headings u_4.1 u_4.2.1 u_4.2.2 v_hand_x v_hand_y)) hP hD [1, 3, 4, 5, 6] [0, 2, 7, 8] rfl rfl (by decide) (by decide) hk1 hFc hP1 hD1
    clear hPc hDc hFc hP1 hD1 hK1 hk1 hz1 ht hvm
    replace h := hw
    clear hw
    generalize H1 = H at hP hS ⊢
    replace hP : va_P D vwCl (wd_X7_lay cI cZ cJ a_this a_hand a_hand_headings a_hand_lies a_hand_taken a_hand_x a_hand_y a_solid a_solid_lookOf a_treeCounter a_album a_search a_wrapping a_solid_cubeOf a_solid_x a_solid_y a_solid_z a_solid_faceOf a_solid_beyondEdge a_solid_onwardEdge u_4.1 v_hand_headings u_4.2.1 u_4.2.2 v_hand_x v_hand_y v_solid_cubes v_solid_faces v_solid_lookOf) H := hP.sub [0, 4, 1, 5, 6, 7, 8, 2, 3] rfl
    replace hD : va_D A (wd_X7_lay cI cZ cJ a_this a_hand a_hand_headings a_hand_lies a_hand_taken a_hand_x a_hand_y a_solid a_solid_lookOf a_treeCounter a_album a_search a_wrapping a_solid_cubeOf a_solid_x a_solid_y a_solid_z a_solid_faceOf a_solid_beyondEdge a_solid_onwardEdge u_4.1 v_hand_headings u_4.2.1 u_4.2.2 v_hand_x v_hand_y v_solid_cubes v_solid_faces v_solid_lookOf) := hD.sub [0, 4, 1, 5, 6, 7, 8, 2, 3] (by decide) rfl
    refine lv_aload_n hx hb dX7_lay_17 rfl (lv_at hl 0 rfl) ?_
    refine va_get (D := D) (ci := 7) (v := .ref a_hand) (C := RX7) (T := TX7) (N := 6) hx hb hts iX7 hown hK hP 0 rfl rfl 2 (by decide) f31 (fun _ h9 => h9) rfl dX7_lay_18 ?_
    refine lv_iload_n hx hb dX7_lay_21 rfl (lv_at hl 1 rfl) ?_
    have hPc := hP.sub (ws' := (wd_X3_putFirst cI cZ cJ a_hand a_hand_headings a_hand_lies a_solid a_solid_lookOf a_hand_taken a_hand_x a_hand_y a_solid_cubeOf a_solid_x a_solid_y a_solid_z a_solid_faceOf a_solid_beyondEdge a_solid_onwardEdge u_4.1 v_hand_headings u_4.2.1 v_solid_cubes v_solid_faces v_solid_lookOf u_4.2.2 v_hand_x v_hand_y)) [1, 2, 3, 7, 8, 4, 5, 6] rfl
    have hDc := hD.sub (ws' := (wd_X3_putFirst cI cZ cJ a_hand a_hand_headings a_hand_lies a_solid a_solid_lookOf a_hand_taken a_hand_x a_hand_y a_solid_cubeOf a_solid_x a_solid_y a_solid_z a_solid_faceOf a_solid_beyondEdge a_solid_onwardEdge u_4.1 v_hand_headings u_4.2.1 v_solid_cubes v_solid_faces v_solid_lookOf u_4.2.2 v_hand_x v_hand_y)) [1, 2, 3, 7, 8, 4, 5, 6] (by decide) rfl
    have hFc := va_free (wc := (wd_X3_putFirst cI cZ cJ a_hand a_hand_headings a_hand_lies a_solid a_solid_lookOf a_hand_taken a_hand_x a_hand_y a_solid_cubeOf a_solid_x a_solid_y a_solid_z a_solid_faceOf a_solid_beyondEdge a_solid_onwardEdge u_4.1 v_hand_headings u_4.2.1 v_solid_cubes v_solid_faces v_solid_lookOf u_4.2.2 v_hand_x v_hand_y)) hD hS hA [1, 2, 3, 7, 8, 4, 5, 6] rfl
    refine va_callv (va_runV (As := [.int p1]) (rest := []) C (c_X3_putFirst l D cI cZ cJ tb a_hand a_hand_headings a_hand_lies a_solid a_solid_lookOf a_hand_taken a_hand_x a_hand_y a_solid_cubeOf a_solid_x a_solid_y a_solid_z a_solid_faceOf a_solid_beyondEdge a_solid_onwardEdge u_4.1 v_hand_headings u_4.2.1 v_solid_cubes v_solid_faces v_solid_lookOf u_4.2.2 v_hand_x v_hand_y H.size p1 h) (cwV 1 hts gX7_lay_X3_putFirst rfl rfl rfl (by decide +kernel) ⟨Nat.le_of_ble_eq_true rfl, Nat.le_of_ble_eq_true rfl⟩) ⟨q_pre.blind, va_recv hK hP (ci := 3) (q0 := 1) rfl rfl, fun U hU hW => ⟨rfl, q_pre.of hU hW hPc hK hDc hSt hS hFc hNw⟩⟩ rfl rfl hl.1 rfl (lv_room (Nat.le_of_ble_eq_true rfl)) dX7_lay_22 ⟨Nat.zero_le _, Nat.zero_le _⟩) hS (fun q _ h => hFc q h) hFc (fun u_9 t H1 locs ht hvm hw hB hz1 hk1 hS => ?_)
    obtain ⟨hP1, hK1, hD1⟩ := hB
    rw [ht] at hP1
    obtain ⟨hP, hD⟩ := va_join (wr := [(a_this, .inr (7, [.ref a_solid, .ref a_treeCounter, .ref a_hand, .ref a_album, .ref a_search, .ref a_wrapping]))]) (w1 := (wd_X3_putFirst cI cZ cJ a_hand a_hand_headings a_hand_lies a_solid a_solid_lookOf a_hand_taken a_hand_x a_hand_y a_solid_cubeOf a_solid_x a_solid_y a_solid_z a_solid_faceOf a_solid_beyondEdge a_solid_onwardEdge u_9.1 u_9.2.1 u_9.2.2.1 v_solid_cubes v_solid_faces v_solid_lookOf u_9.2.2.2.1 u_9.2.2.2.2.1 u_9.2.2.2.2.2)) hP hD [1, 2, 3, 7, 8, 4, 5, 6] [0] rfl rfl (by decide) (by decide) hk1 hFc hP1 hD1
    clear hPc hDc hFc hP1 hD1 hK1 hk1 hz1 ht hvm
    replace h := hw
    clear hw
    generalize H1 = H at hP hS ⊢
    replace hP : va_P D vwCl (wd_X7_lay cI cZ cJ a_this a_hand a_hand_headings a_hand_lies a_hand_taken a_hand_x a_hand_y a_solid a_solid_lookOf a_treeCounter a_album a_search a_wrapping a_solid_cubeOf a_solid_x a_solid_y a_solid_z a_solid_faceOf a_solid_beyondEdge a_solid_onwardEdge u_9.1 u_9.2.1 u_9.2.2.1 u_9.2.2.2.1 u_9.2.2.2.2.1 u_9.2.2.2.2.2 v_solid_cubes v_solid_faces v_solid_lookOf) H := hP.sub [0, 1, 2, 3, 6, 7, 8, 4, 5] rfl
    replace hD : va_D A (wd_X7_lay cI cZ cJ a_this a_hand a_hand_headings a_hand_lies a_hand_taken a_hand_x a_hand_y a_solid a_solid_lookOf a_treeCounter a_album a_search a_wrapping a_solid_cubeOf a_solid_x a_solid_y a_solid_z a_solid_faceOf a_solid_beyondEdge a_solid_onwardEdge u_9.1 u_9.2.1 u_9.2.2.1 u_9.2.2.2.1 u_9.2.2.2.2.1 u_9.2.2.2.2.2 v_solid_cubes v_solid_faces v_solid_lookOf) := hD.sub [0, 1, 2, 3, 6, 7, 8, 4, 5] (by decide) rfl
    refine lv_iconst (v := 0) hx hb dX7_lay_25 (by decide) ?_
    exact ret (0 : Int32) (u_9.1, u_9.2.1, u_9.2.2.1, u_9.2.2.2.1, u_9.2.2.2.2.1, u_9.2.2.2.2.2) _ _ _ 26 dX7_lay_26 h hP hD hS
  · replace h := h.2 hc
    refine lv_iconst (v := -1) hx hb dX7_lay_8 (by decide) ?_
    exact ret (-1 : Int32) (v_hand_count, v_hand_headings, v_hand_lies, v_hand_taken, v_hand_x, v_hand_y) _ _ _ 9 dX7_lay_9 h hP hD hS
def wd_X7_paper (cI cZ cJ : ClassId) (a_this a_hand a_hand_headings a_hand_lies a_hand_x a_hand_y a_solid a_treeCounter a_album a_search a_wrapping a_hand_taken a_solid_cubeOf a_solid_lookOf a_solid_x a_solid_y a_solid_z a_solid_faceOf a_solid_beyondEdge a_solid_onwardEdge : Nat) (v_hand_count : Int32) (v_hand_headings : Nat → Int32) (v_hand_lies : Nat → Int32) (v_hand_x : Nat → Int32) (v_hand_y : Nat → Int32) (v_solid_cubes : Int32) (v_solid_faces : Int32) : va_W := [(a_this, .inr (7, [.ref a_solid, .ref a_treeCounter, .ref a_hand, .ref a_album, .ref a_search, .ref a_wrapping])),
  (a_hand, .inr (3, [.ref a_hand_lies, .ref a_hand_x, .ref a_hand_y, .int v_hand_count, .ref a_solid, .ref a_hand_headings, .ref a_hand_taken])),
  (a_hand_headings, .inl (cI, 88, .inl v_hand_headings)),
  (a_hand_lies, .inl (cZ, 22, .inl v_hand_lies)),
  (a_hand_x, .inl (cI, 22, .inl v_hand_x)),
  (a_hand_y, .inl (cI, 22, .inl v_hand_y)),
  (a_solid, .inr (4, [.int v_solid_cubes, .int v_solid_faces, .ref a_solid_cubeOf, .ref a_solid_lookOf, .ref a_solid_x, .ref a_solid_y, .ref a_solid_z, .ref a_solid_faceOf, .ref a_solid_beyondEdge, .ref a_solid_onwardEdge]))]
abbrev rm_X7_paper : Room := { frames := 1, cells := 0, slots := 0, locals := 22 }
set_option maxHeartbeats 4000000 in
set_option maxRecDepth 100000 in
theorem c_X7_paper (l : Launch) (D : va_G) (cI cZ cJ : ClassId) (tb : Nat → Nat) (a_this a_hand a_hand_headings a_hand_lies a_hand_x a_hand_y a_solid a_treeCounter a_album a_search a_wrapping a_hand_taken a_solid_cubeOf a_solid_lookOf a_solid_x a_solid_y a_solid_z a_solid_faceOf a_solid_beyondEdge a_solid_onwardEdge : Nat) (v_hand_count : Int32) (v_hand_headings : Nat → Int32) (v_hand_lies : Nat → Int32) (v_hand_x : Nat → Int32) (v_hand_y : Nat → Int32) (v_solid_cubes : Int32) (v_solid_faces : Int32) (sz : Nat) (p1 : Int32) (p2 : Int32) {post : Int32 → Prop} (h : wp_X7_paper v_hand_headings v_hand_lies v_hand_x v_hand_y v_solid_faces p1 p2 post) : Met l yX7_paper wsX7_paper rm_X7_paper (va_Pc [.ref a_this, .int p1, .int p2] (q_pre D cI cZ cJ tb (wd_X7_paper cI cZ cJ a_this a_hand a_hand_headings a_hand_lies a_hand_x a_hand_y a_solid a_treeCounter a_album a_search a_wrapping a_hand_taken a_solid_cubeOf a_solid_lookOf a_solid_x a_solid_y a_solid_z a_solid_faceOf a_solid_beyondEdge a_solid_onwardEdge v_hand_count v_hand_headings v_hand_lies v_hand_x v_hand_y v_solid_cubes v_solid_faces) sz)) (va_Qi (fun r (u : Unit) => post r) (fun u => q_post D cI cZ cJ (va_A (wd_X7_paper cI cZ cJ a_this a_hand a_hand_headings a_hand_lies a_hand_x a_hand_y a_solid a_treeCounter a_album a_search a_wrapping a_hand_taken a_solid_cubeOf a_solid_lookOf a_solid_x a_solid_y a_solid_z a_solid_faceOf a_solid_beyondEdge a_solid_onwardEdge v_hand_count v_hand_headings v_hand_lies v_hand_x v_hand_y v_solid_cubes v_solid_faces) sz) (wd_X7_paper cI cZ cJ a_this a_hand a_hand_headings a_hand_lies a_hand_x a_hand_y a_solid a_treeCounter a_album a_search a_wrapping a_hand_taken a_solid_cubeOf a_solid_lookOf a_solid_x a_solid_y a_solid_z a_solid_faceOf a_solid_beyondEdge a_solid_onwardEdge v_hand_count v_hand_headings v_hand_lies v_hand_x v_hand_y v_solid_cubes v_solid_faces)) (va_A (wd_X7_paper cI cZ cJ a_this a_hand a_hand_headings a_hand_lies a_hand_x a_hand_y a_solid a_treeCounter a_album a_search a_wrapping a_hand_taken a_solid_cubeOf a_solid_lookOf a_solid_x a_solid_y a_solid_z a_solid_faceOf a_solid_beyondEdge a_solid_onwardEdge v_hand_count v_hand_headings v_hand_lies v_hand_x v_hand_y v_solid_cubes v_solid_faces) sz)) 0 0 (va_A (wd_X7_paper cI cZ cJ a_this a_hand a_hand_headings a_hand_lies a_hand_x a_hand_y a_solid a_treeCounter a_album a_search a_wrapping a_hand_taken a_solid_cubeOf a_solid_lookOf a_solid_x a_solid_y a_solid_z a_solid_faceOf a_solid_beyondEdge a_solid_onwardEdge v_hand_count v_hand_headings v_hand_lies v_hand_x v_hand_y v_solid_cubes v_solid_faces) sz) := by
  refine q_walki (cc := cX7_paper) (maxL := 3) (own := RX7) (wd := fun (u : Unit) => (wd_X7_paper cI cZ cJ a_this a_hand a_hand_headings a_hand_lies a_hand_x a_hand_y a_solid a_treeCounter a_album a_search a_wrapping a_hand_taken a_solid_cubeOf a_solid_lookOf a_solid_x a_solid_y a_solid_z a_solid_faceOf a_solid_beyondEdge a_solid_onwardEdge v_hand_count v_hand_headings v_hand_lies v_hand_x v_hand_y v_solid_cubes v_solid_faces)) (by decide) rfl rfl (Nat.le_of_ble_eq_true rfl) ?_
  intro p e s m below meth c Q A ls C hA ret hP hD hS hK hSt hNw hl
  obtain ⟨hx, hb, hml, hown, hts⟩ := id C
  replace hl : lv_has ls 3 [(0, .ref a_this), (1, .int p1), (2, .int p2)] := hl
  have f31 := hts (.fieldLink RX7 31 "NetSearch" "hand" "LNetSearch$Sheet;") (by decide +kernel)
  have iX7 : ∀ w ∈ wsX70, w ∈ wsX7_paper := by decide +kernel
  have f117 := hts (.fieldLink RX7 117 "NetSearch$Sheet" "lies" "[Z") (by decide +kernel)
  have iX3 : ∀ w ∈ wsX30, w ∈ wsX7_paper := by decide +kernel
  have f124 := hts (.fieldLink RX7 124 "NetSearch$Sheet" "x" "[I") (by decide +kernel)
  have f130 := hts (.fieldLink RX7 130 "NetSearch$Sheet" "y" "[I") (by decide +kernel)
  unfold wp_X7_paper at h
  refine lv_aload_n hx hb dX7_paper_0 rfl (lv_at hl 0 rfl) ?_
  refine lv_iload_n hx hb dX7_paper_1 rfl (lv_at hl 1 rfl) ?_
  have hPc := hP.sub (ws' := (wd_X7_isFace cI cZ cJ a_this a_solid a_treeCounter a_hand a_album a_search a_wrapping a_solid_cubeOf a_solid_lookOf a_solid_x a_solid_y a_solid_z a_solid_faceOf a_solid_beyondEdge a_solid_onwardEdge v_solid_cubes v_solid_faces)) [0, 6] rfl
  have hDc := hD.sub (ws' := (wd_X7_isFace cI cZ cJ a_this a_solid a_treeCounter a_hand a_album a_search a_wrapping a_solid_cubeOf a_solid_lookOf a_solid_x a_solid_y a_solid_z a_solid_faceOf a_solid_beyondEdge a_solid_onwardEdge v_solid_cubes v_solid_faces)) [0, 6] (by decide) rfl
  have hFc := va_free (wc := (wd_X7_isFace cI cZ cJ a_this a_solid a_treeCounter a_hand a_album a_search a_wrapping a_solid_cubeOf a_solid_lookOf a_solid_x a_solid_y a_solid_z a_solid_faceOf a_solid_beyondEdge a_solid_onwardEdge v_solid_cubes v_solid_faces)) hD hS hA [0, 6] rfl
  refine va_calli (va_runV (As := [.int p1]) (rest := []) C (c_X7_isFace l D cI cZ cJ tb a_this a_solid a_treeCounter a_hand a_album a_search a_wrapping a_solid_cubeOf a_solid_lookOf a_solid_x a_solid_y a_solid_z a_solid_faceOf a_solid_beyondEdge a_solid_onwardEdge v_solid_cubes v_solid_faces s.heap.size p1 h) (cwV 1 hts gX7_paper_X7_isFace rfl rfl rfl (by decide +kernel) ⟨Nat.le_of_ble_eq_true rfl, Nat.le_of_ble_eq_true rfl⟩) ⟨q_pre.blind, va_recv hK hP (ci := 7) (q0 := 0) rfl rfl, fun U hU hW => ⟨rfl, q_pre.of hU hW hPc hK hDc hSt hS hFc hNw⟩⟩ rfl rfl hl.1 rfl (lv_room (Nat.le_of_ble_eq_true rfl)) dX7_paper_2 ⟨Nat.zero_le _, Nat.zero_le _⟩) hS (fun q _ h => hFc q h) hFc (fun r_1 u_2 t H1 locs ht hvm hw hB hz1 hk1 hS => ?_)
  obtain ⟨hP1, hK1, hD1⟩ := hB
  rw [ht] at hP1
  obtain ⟨hP, hD⟩ := va_join (wr := [(a_hand, .inr (3, [.ref a_hand_lies, .ref a_hand_x, .ref a_hand_y, .int v_hand_count, .ref a_solid, .ref a_hand_headings, .ref a_hand_taken])), (a_hand_headings, .inl (cI, 88, .inl v_hand_headings)), (a_hand_lies, .inl (cZ, 22, .inl v_hand_lies)), (a_hand_x, .inl (cI, 22, .inl v_hand_x)), (a_hand_y, .inl (cI, 22, .inl v_hand_y))]) (w1 := (wd_X7_isFace cI cZ cJ a_this a_solid a_treeCounter a_hand a_album a_search a_wrapping a_solid_cubeOf a_solid_lookOf a_solid_x a_solid_y a_solid_z a_solid_faceOf a_solid_beyondEdge a_solid_onwardEdge v_solid_cubes v_solid_faces)) hP hD [0, 6] [1, 2, 3, 4, 5] rfl rfl (by decide) (by decide) hk1 hFc hP1 hD1
  clear hPc hDc hFc hP1 hD1 hK1 hk1 hz1 ht hvm
  replace h := hw
  clear hw
  generalize H1 = H at hP hS ⊢
  replace hP : va_P D vwCl (wd_X7_paper cI cZ cJ a_this a_hand a_hand_headings a_hand_lies a_hand_x a_hand_y a_solid a_treeCounter a_album a_search a_wrapping a_hand_taken a_solid_cubeOf a_solid_lookOf a_solid_x a_solid_y a_solid_z a_solid_faceOf a_solid_beyondEdge a_solid_onwardEdge v_hand_count v_hand_headings v_hand_lies v_hand_x v_hand_y v_solid_cubes v_solid_faces) H := hP.sub [5, 0, 1, 2, 3, 4, 6] rfl
  replace hD : va_D A (wd_X7_paper cI cZ cJ a_this a_hand a_hand_headings a_hand_lies a_hand_x a_hand_y a_solid a_treeCounter a_album a_search a_wrapping a_hand_taken a_solid_cubeOf a_solid_lookOf a_solid_x a_solid_y a_solid_z a_solid_faceOf a_solid_beyondEdge a_solid_onwardEdge v_hand_count v_hand_headings v_hand_lies v_hand_x v_hand_y v_solid_cubes v_solid_faces) := hD.sub [5, 0, 1, 2, 3, 4, 6] (by decide) rfl
  refine lv_if_eq (tgt := 20) hx hb dX7_paper_5 (by decide) (fun hc => ?_) (fun hc => ?_)
  · replace h := h.1 hc
    refine lv_sipush (v := -1000) hx hb dX7_paper_20 (by decide) ?_
    exact ret (-1000 : Int32) () _ _ _ 23 dX7_paper_23 h hP hD hS
  · replace h := h.2 hc
    refine lv_aload_n hx hb dX7_paper_8 rfl (lv_at hl 0 rfl) ?_
    refine va_get (D := D) (ci := 7) (v := .ref a_hand) (C := RX7) (T := TX7) (N := 6) hx hb hts iX7 hown hK hP 0 rfl rfl 2 (by decide) f31 (fun _ h9 => h9) rfl dX7_paper_9 ?_
    refine va_get (D := D) (ci := 3) (v := .ref a_hand_lies) (C := RX3) (T := TX3) (N := 7) hx hb hts iX3 hown hK hP 1 rfl rfl 0 (by decide) f117 (fun _ h9 => h9) rfl dX7_paper_12 ?_
    refine lv_iload_n hx hb dX7_paper_15 rfl (lv_at hl 1 rfl) ?_
    obtain ⟨hin, h⟩ := h
    refine va_zald hx hb hK hP 3 1 rfl rfl hin dX7_paper_16 ?_
    refine lv_if_ne (tgt := 24) hx hb dX7_paper_17 (by decide) (fun hc => ?_) (fun hc => ?_)
    · replace h := h.1 hc
      refine lv_iload_n hx hb dX7_paper_24 rfl (lv_at hl 2 rfl) ?_
      by_cases hc0 : p2 = (0 : Int32)
      · replace h := h.1 hc0
        refine lv_tableIn (tgt := 56) hx hb dX7_paper_25 (by rw [hc0] <;> decide) (by rw [hc0] <;> decide) (by rw [hc0] <;> rfl) (by decide) ?_
        refine lv_aload_n hx hb dX7_paper_56 rfl (lv_at hl 0 rfl) ?_
        refine va_get (D := D) (ci := 7) (v := .ref a_hand) (C := RX7) (T := TX7) (N := 6) hx hb hts iX7 hown hK hP 0 rfl rfl 2 (by decide) f31 (fun _ h9 => h9) rfl dX7_paper_57 ?_
        refine va_get (D := D) (ci := 3) (v := .ref a_hand_x) (C := RX3) (T := TX3) (N := 7) hx hb hts iX3 hown hK hP 1 rfl rfl 1 (by decide) f124 (fun _ h9 => h9) rfl dX7_paper_60 ?_
        refine lv_iload_n hx hb dX7_paper_63 rfl (lv_at hl 1 rfl) ?_
        obtain ⟨hin, h⟩ := h
        refine va_iald hx hb hK hP 4 0 rfl rfl hin dX7_paper_64 ?_
        exact ret (v_hand_x p1.toNatClampNeg) () _ _ _ 65 dX7_paper_65 h hP hD hS
      replace h := h.2 hc0
      by_cases hc1 : p2 = (1 : Int32)
      · replace h := h.1 hc1
        refine lv_tableIn (tgt := 66) hx hb dX7_paper_25 (by rw [hc1] <;> decide) (by rw [hc1] <;> decide) (by rw [hc1] <;> rfl) (by decide) ?_
        refine lv_aload_n hx hb dX7_paper_66 rfl (lv_at hl 0 rfl) ?_
        refine va_get (D := D) (ci := 7) (v := .ref a_hand) (C := RX7) (T := TX7) (N := 6) hx hb hts iX7 hown hK hP 0 rfl rfl 2 (by decide) f31 (fun _ h9 => h9) rfl dX7_paper_67 ?_
        refine va_get (D := D) (ci := 3) (v := .ref a_hand_y) (C := RX3) (T := TX3) (N := 7) hx hb hts iX3 hown hK hP 1 rfl rfl 2 (by decide) f130 (fun _ h9 => h9) rfl dX7_paper_70 ?_
        refine lv_iload_n hx hb dX7_paper_73 rfl (lv_at hl 1 rfl) ?_
        obtain ⟨hin, h⟩ := h
        refine va_iald hx hb hK hP 5 0 rfl rfl hin dX7_paper_74 ?_
        exact ret (v_hand_y p1.toNatClampNeg) () _ _ _ 75 dX7_paper_75 h hP hD hS
      replace h := h.2 hc1
      by_cases hc2 : p2 = (2 : Int32)
      · replace h := h.1 hc2
        refine lv_tableIn (tgt := 76) hx hb dX7_paper_25 (by rw [hc2] <;> decide) (by rw [hc2] <;> decide) (by rw [hc2] <;> rfl) (by decide) ?_
        refine lv_aload_n hx hb dX7_paper_76 rfl (lv_at hl 0 rfl) ?_
        refine va_get (D := D) (ci := 7) (v := .ref a_hand) (C := RX7) (T := TX7) (N := 6) hx hb hts iX7 hown hK hP 0 rfl rfl 2 (by decide) f31 (fun _ h9 => h9) rfl dX7_paper_77 ?_
        refine lv_iload_n hx hb dX7_paper_80 rfl (lv_at hl 1 rfl) ?_
        refine lv_iconst (v := 0) hx hb dX7_paper_81 (by decide) ?_
        have hPc := hP.sub (ws' := (wd_X3_heading cI cZ cJ a_hand a_hand_headings a_hand_lies a_hand_x a_hand_y a_solid a_hand_taken v_hand_count v_hand_headings)) [1, 2] rfl
        have hDc := hD.sub (ws' := (wd_X3_heading cI cZ cJ a_hand a_hand_headings a_hand_lies a_hand_x a_hand_y a_solid a_hand_taken v_hand_count v_hand_headings)) [1, 2] (by decide) rfl
        have hFc := va_free (wc := (wd_X3_heading cI cZ cJ a_hand a_hand_headings a_hand_lies a_hand_x a_hand_y a_solid a_hand_taken v_hand_count v_hand_headings)) hD hS hA [1, 2] rfl
        refine va_calli (va_runV (As := [.int p1, .int (0 : Int32)]) (rest := []) C (c_X3_heading l D cI cZ cJ tb a_hand a_hand_headings a_hand_lies a_hand_x a_hand_y a_solid a_hand_taken v_hand_count v_hand_headings H.size p1 (0 : Int32) h) (cwV 2 hts gX7_paper_X3_heading rfl rfl rfl (by decide +kernel) ⟨Nat.le_of_ble_eq_true rfl, Nat.le_of_ble_eq_true rfl⟩) ⟨q_pre.blind, va_recv hK hP (ci := 3) (q0 := 1) rfl rfl, fun U hU hW => ⟨rfl, q_pre.of hU hW hPc hK hDc hSt hS hFc hNw⟩⟩ rfl rfl hl.1 rfl (lv_room (Nat.le_of_ble_eq_true rfl)) dX7_paper_82 ⟨Nat.zero_le _, Nat.zero_le _⟩) hS (fun q _ h => hFc q h) hFc (fun r_3 u_4 t H1 locs ht hvm hw hB hz1 hk1 hS => ?_)
        obtain ⟨hP1, hK1, hD1⟩ := hB
        rw [ht] at hP1
        obtain ⟨hP, hD⟩ := va_join (wr := [(a_this, .inr (7, [.ref a_solid, .ref a_treeCounter, .ref a_hand, .ref a_album, .ref a_search, .ref a_wrapping])), (a_hand_lies, .inl (cZ, 22, .inl v_hand_lies)), (a_hand_x, .inl (cI, 22, .inl v_hand_x)), (a_hand_y, .inl (cI, 22, .inl v_hand_y)), (a_solid, .inr (4, [.int v_solid_cubes, .int v_solid_faces, .ref a_solid_cubeOf, .ref a_solid_lookOf, .ref a_solid_x, .ref a_solid_y, .ref a_solid_z, .ref a_solid_faceOf, .ref a_solid_beyondEdge, .ref a_solid_onwardEdge]))]) (w1 := (wd_X3_heading cI cZ cJ a_hand a_hand_headings a_hand_lies a_hand_x a_hand_y a_solid a_hand_taken v_hand_count v_hand_headings)) hP hD [1, 2] [0, 3, 4, 5, 6] rfl rfl (by decide) (by decide) hk1 hFc hP1 hD1
        clear hPc hDc hFc hP1 hD1 hK1 hk1 hz1 ht hvm
        replace h := hw
        clear hw
        generalize H1 = H at hP hS ⊢
        replace hP : va_P D vwCl (wd_X7_paper cI cZ cJ a_this a_hand a_hand_headings a_hand_lies a_hand_x a_hand_y a_solid a_treeCounter a_album a_search a_wrapping a_hand_taken a_solid_cubeOf a_solid_lookOf a_solid_x a_solid_y a_solid_z a_solid_faceOf a_solid_beyondEdge a_solid_onwardEdge v_hand_count v_hand_headings v_hand_lies v_hand_x v_hand_y v_solid_cubes v_solid_faces) H := hP.sub [0, 5, 6, 1, 2, 3, 4] rfl
        replace hD : va_D A (wd_X7_paper cI cZ cJ a_this a_hand a_hand_headings a_hand_lies a_hand_x a_hand_y a_solid a_treeCounter a_album a_search a_wrapping a_hand_taken a_solid_cubeOf a_solid_lookOf a_solid_x a_solid_y a_solid_z a_solid_faceOf a_solid_beyondEdge a_solid_onwardEdge v_hand_count v_hand_headings v_hand_lies v_hand_x v_hand_y v_solid_cubes v_solid_faces) := hD.sub [0, 5, 6, 1, 2, 3, 4] (by decide) rfl
        exact ret r_3 () _ _ _ 85 dX7_paper_85 h hP hD hS
      replace h := h.2 hc2
      by_cases hc3 : p2 = (3 : Int32)
      · replace h := h.1 hc3
        refine lv_tableIn (tgt := 86) hx hb dX7_paper_25 (by rw [hc3] <;> decide) (by rw [hc3] <;> decide) (by rw [hc3] <;> rfl) (by decide) ?_
        refine lv_aload_n hx hb dX7_paper_86 rfl (lv_at hl 0 rfl) ?_
        refine va_get (D := D) (ci := 7) (v := .ref a_hand) (C := RX7) (T := TX7) (N := 6) hx hb hts iX7 hown hK hP 0 rfl rfl 2 (by decide) f31 (fun _ h9 => h9) rfl dX7_paper_87 ?_
        refine lv_iload_n hx hb dX7_paper_90 rfl (lv_at hl 1 rfl) ?_
        refine lv_iconst (v := 1) hx hb dX7_paper_91 (by decide) ?_
        have hPc := hP.sub (ws' := (wd_X3_heading cI cZ cJ a_hand a_hand_headings a_hand_lies a_hand_x a_hand_y a_solid a_hand_taken v_hand_count v_hand_headings)) [1, 2] rfl
        have hDc := hD.sub (ws' := (wd_X3_heading cI cZ cJ a_hand a_hand_headings a_hand_lies a_hand_x a_hand_y a_solid a_hand_taken v_hand_count v_hand_headings)) [1, 2] (by decide) rfl
        have hFc := va_free (wc := (wd_X3_heading cI cZ cJ a_hand a_hand_headings a_hand_lies a_hand_x a_hand_y a_solid a_hand_taken v_hand_count v_hand_headings)) hD hS hA [1, 2] rfl
        refine va_calli (va_runV (As := [.int p1, .int (1 : Int32)]) (rest := []) C (c_X3_heading l D cI cZ cJ tb a_hand a_hand_headings a_hand_lies a_hand_x a_hand_y a_solid a_hand_taken v_hand_count v_hand_headings H.size p1 (1 : Int32) h) (cwV 2 hts gX7_paper_X3_heading rfl rfl rfl (by decide +kernel) ⟨Nat.le_of_ble_eq_true rfl, Nat.le_of_ble_eq_true rfl⟩) ⟨q_pre.blind, va_recv hK hP (ci := 3) (q0 := 1) rfl rfl, fun U hU hW => ⟨rfl, q_pre.of hU hW hPc hK hDc hSt hS hFc hNw⟩⟩ rfl rfl hl.1 rfl (lv_room (Nat.le_of_ble_eq_true rfl)) dX7_paper_92 ⟨Nat.zero_le _, Nat.zero_le _⟩) hS (fun q _ h => hFc q h) hFc (fun r_5 u_6 t H1 locs ht hvm hw hB hz1 hk1 hS => ?_)
        obtain ⟨hP1, hK1, hD1⟩ := hB
        rw [ht] at hP1
        obtain ⟨hP, hD⟩ := va_join (wr := [(a_this, .inr (7, [.ref a_solid, .ref a_treeCounter, .ref a_hand, .ref a_album, .ref a_search, .ref a_wrapping])), (a_hand_lies, .inl (cZ, 22, .inl v_hand_lies)), (a_hand_x, .inl (cI, 22, .inl v_hand_x)), (a_hand_y, .inl (cI, 22, .inl v_hand_y)), (a_solid, .inr (4, [.int v_solid_cubes, .int v_solid_faces, .ref a_solid_cubeOf, .ref a_solid_lookOf, .ref a_solid_x, .ref a_solid_y, .ref a_solid_z, .ref a_solid_faceOf, .ref a_solid_beyondEdge, .ref a_solid_onwardEdge]))]) (w1 := (wd_X3_heading cI cZ cJ a_hand a_hand_headings a_hand_lies a_hand_x a_hand_y a_solid a_hand_taken v_hand_count v_hand_headings)) hP hD [1, 2] [0, 3, 4, 5, 6] rfl rfl (by decide) (by decide) hk1 hFc hP1 hD1
        clear hPc hDc hFc hP1 hD1 hK1 hk1 hz1 ht hvm
        replace h := hw
        clear hw
        generalize H1 = H at hP hS ⊢
        replace hP : va_P D vwCl (wd_X7_paper cI cZ cJ a_this a_hand a_hand_headings a_hand_lies a_hand_x a_hand_y a_solid a_treeCounter a_album a_search a_wrapping a_hand_taken a_solid_cubeOf a_solid_lookOf a_solid_x a_solid_y a_solid_z a_solid_faceOf a_solid_beyondEdge a_solid_onwardEdge v_hand_count v_hand_headings v_hand_lies v_hand_x v_hand_y v_solid_cubes v_solid_faces) H := hP.sub [0, 5, 6, 1, 2, 3, 4] rfl
        replace hD : va_D A (wd_X7_paper cI cZ cJ a_this a_hand a_hand_headings a_hand_lies a_hand_x a_hand_y a_solid a_treeCounter a_album a_search a_wrapping a_hand_taken a_solid_cubeOf a_solid_lookOf a_solid_x a_solid_y a_solid_z a_solid_faceOf a_solid_beyondEdge a_solid_onwardEdge v_hand_count v_hand_headings v_hand_lies v_hand_x v_hand_y v_solid_cubes v_solid_faces) := hD.sub [0, 5, 6, 1, 2, 3, 4] (by decide) rfl
        exact ret r_5 () _ _ _ 95 dX7_paper_95 h hP hD hS
      replace h := h.2 hc3
      have hn0 := lv_neT (a := 0) hc0 (by decide)
      have hn1 := lv_neT (a := 1) hc1 (by decide)
      have hn2 := lv_neT (a := 2) hc2 (by decide)
      have hn3 := lv_neT (a := 3) hc3 (by decide)
      refine lv_tableOut (tgt := 96) hx hb dX7_paper_25 (by omega) (by decide) ?_
      refine lv_sipush (v := -1000) hx hb dX7_paper_96 (by decide) ?_
      exact ret (-1000 : Int32) () _ _ _ 99 dX7_paper_99 h hP hD hS
    · replace h := h.2 hc
      refine lv_sipush (v := -1000) hx hb dX7_paper_20 (by decide) ?_
      exact ret (-1000 : Int32) () _ _ _ 23 dX7_paper_23 h hP hD hS
def wd_X7_run (cI cZ cJ : ClassId) (a_this a_album a_album_image a_album_imageX a_album_imageY a_album_leastImage a_album_numbers a_album_places a_search a_search_bestNet a_search_bestNet_x a_search_bestNet_y a_search_laid a_search_laidAtStep a_search_sheet a_search_sheet_headings a_search_sheet_lies a_search_sheet_taken a_search_sheet_x a_search_sheet_y a_solid a_solid_beyondEdge a_solid_onwardEdge a_treeCounter a_hand a_wrapping a_solid_cubeOf a_solid_lookOf a_solid_x a_solid_y a_solid_z a_solid_faceOf : Nat) (v_album_count : Int32) (v_album_image : Nat → Int32) (v_album_imageX : Nat → Int32) (v_album_imageY : Nat → Int32) (v_album_leastImage : Nat → Int32) (v_album_numbers : Nat → Int32) (v_album_places : Nat → Int32) (v_search_nets : Int32) (v_search_work : Int32) (v_search_ended : Int32) (v_search_step : Int32) (v_search_bestNet_found : Int32) (v_search_bestNet_width : Int32) (v_search_bestNet_height : Int32) (v_search_bestNet_number : Int32) (v_search_bestNet_x : Nat → Int32) (v_search_bestNet_y : Nat → Int32) (v_search_laid : Nat → Int32) (v_search_laidAtStep : Nat → Int32) (v_search_sheet_count : Int32) (v_search_sheet_headings : Nat → Int32) (v_search_sheet_lies : Nat → Int32) (v_search_sheet_taken : Nat → Int64) (v_search_sheet_x : Nat → Int32) (v_search_sheet_y : Nat → Int32) (v_solid_cubes : Int32) (v_solid_faces : Int32) (v_solid_beyondEdge : Nat → Int32) (v_solid_onwardEdge : Nat → Int32) : va_W := [(a_this, .inr (7, [.ref a_solid, .ref a_treeCounter, .ref a_hand, .ref a_album, .ref a_search, .ref a_wrapping])),
  (a_album, .inr (0, [.int v_album_count, .ref a_album_places, .ref a_album_numbers, .ref a_album_imageX, .ref a_album_imageY, .ref a_album_image, .ref a_album_leastImage])),
  (a_album_image, .inl (cI, 22, .inl v_album_image)),
  (a_album_imageX, .inl (cI, 22, .inl v_album_imageX)),
  (a_album_imageY, .inl (cI, 22, .inl v_album_imageY)),
  (a_album_leastImage, .inl (cI, 22, .inl v_album_leastImage)),
  (a_album_numbers, .inl (cI, 1408, .inl v_album_numbers)),
  (a_album_places, .inl (cI, 64, .inl v_album_places)),
  (a_search, .inr (2, [.int v_search_nets, .int v_search_work, .int v_search_ended, .ref a_search_bestNet, .ref a_solid, .ref a_album, .ref a_search_sheet, .ref a_search_laid, .ref a_search_laidAtStep, .int v_search_step])),
  (a_search_bestNet, .inr (1, [.int v_search_bestNet_found, .int v_search_bestNet_width, .int v_search_bestNet_height, .int v_search_bestNet_number, .ref a_search_bestNet_x, .ref a_search_bestNet_y])),
  (a_search_bestNet_x, .inl (cI, 22, .inl v_search_bestNet_x)),
  (a_search_bestNet_y, .inl (cI, 22, .inl v_search_bestNet_y)),
  (a_search_laid, .inl (cI, 22, .inl v_search_laid)),
  (a_search_laidAtStep, .inl (cI, 22, .inl v_search_laidAtStep)),
  (a_search_sheet, .inr (3, [.ref a_search_sheet_lies, .ref a_search_sheet_x, .ref a_search_sheet_y, .int v_search_sheet_count, .ref a_solid, .ref a_search_sheet_headings, .ref a_search_sheet_taken])),
  (a_search_sheet_headings, .inl (cI, 88, .inl v_search_sheet_headings)),
  (a_search_sheet_lies, .inl (cZ, 22, .inl v_search_sheet_lies)),
  (a_search_sheet_taken, .inl (cJ, 63, .inr (.inl v_search_sheet_taken))),
  (a_search_sheet_x, .inl (cI, 22, .inl v_search_sheet_x)),
  (a_search_sheet_y, .inl (cI, 22, .inl v_search_sheet_y)),
  (a_solid, .inr (4, [.int v_solid_cubes, .int v_solid_faces, .ref a_solid_cubeOf, .ref a_solid_lookOf, .ref a_solid_x, .ref a_solid_y, .ref a_solid_z, .ref a_solid_faceOf, .ref a_solid_beyondEdge, .ref a_solid_onwardEdge])),
  (a_solid_beyondEdge, .inl (cI, 132, .inl v_solid_beyondEdge)),
  (a_solid_onwardEdge, .inl (cI, 132, .inl v_solid_onwardEdge))]
abbrev rm_X7_run : Room := { frames := 6, cells := 0, slots := 0, locals := 135 }
set_option maxHeartbeats 4000000 in
set_option maxRecDepth 100000 in
theorem c_X7_run (l : Launch) (D : va_G) (cI cZ cJ : ClassId) (tb : Nat → Nat) (a_this a_album a_album_image a_album_imageX a_album_imageY a_album_leastImage a_album_numbers a_album_places a_search a_search_bestNet a_search_bestNet_x a_search_bestNet_y a_search_laid a_search_laidAtStep a_search_sheet a_search_sheet_headings a_search_sheet_lies a_search_sheet_taken a_search_sheet_x a_search_sheet_y a_solid a_solid_beyondEdge a_solid_onwardEdge a_treeCounter a_hand a_wrapping a_solid_cubeOf a_solid_lookOf a_solid_x a_solid_y a_solid_z a_solid_faceOf : Nat) (v_album_count : Int32) (v_album_image : Nat → Int32) (v_album_imageX : Nat → Int32) (v_album_imageY : Nat → Int32) (v_album_leastImage : Nat → Int32) (v_album_numbers : Nat → Int32) (v_album_places : Nat → Int32) (v_search_nets : Int32) (v_search_work : Int32) (v_search_ended : Int32) (v_search_step : Int32) (v_search_bestNet_found : Int32) (v_search_bestNet_width : Int32) (v_search_bestNet_height : Int32) (v_search_bestNet_number : Int32) (v_search_bestNet_x : Nat → Int32) (v_search_bestNet_y : Nat → Int32) (v_search_laid : Nat → Int32) (v_search_laidAtStep : Nat → Int32) (v_search_sheet_count : Int32) (v_search_sheet_headings : Nat → Int32) (v_search_sheet_lies : Nat → Int32) (v_search_sheet_taken : Nat → Int64) (v_search_sheet_x : Nat → Int32) (v_search_sheet_y : Nat → Int32) (v_solid_cubes : Int32) (v_solid_faces : Int32) (v_solid_beyondEdge : Nat → Int32) (v_solid_onwardEdge : Nat → Int32) (sz : Nat) (p1 : Int32) {post : Int32 → Int32 → (Nat → Int32) → (Nat → Int32) → (Nat → Int32) → (Nat → Int32) → (Nat → Int32) → (Nat → Int32) → Int32 → Int32 → Int32 → Int32 → Int32 → Int32 → Int32 → Int32 → (Nat → Int32) → (Nat → Int32) → (Nat → Int32) → (Nat → Int32) → Int32 → (Nat → Int32) → (Nat → Int32) → (Nat → Int64) → (Nat → Int32) → (Nat → Int32) → Prop} (h : wp_X7_run v_album_count v_album_image v_album_imageX v_album_imageY v_album_leastImage v_album_numbers v_album_places v_search_nets v_search_work v_search_ended v_search_step v_search_bestNet_found v_search_bestNet_width v_search_bestNet_height v_search_bestNet_number v_search_bestNet_x v_search_bestNet_y v_search_laid v_search_laidAtStep v_search_sheet_count v_search_sheet_headings v_search_sheet_lies v_search_sheet_taken v_search_sheet_x v_search_sheet_y v_solid_cubes v_solid_faces v_solid_beyondEdge v_solid_onwardEdge p1 post) : Met l yX7_run wsX7_run rm_X7_run (va_Pc [.ref a_this, .int p1] (q_pre D cI cZ cJ tb (wd_X7_run cI cZ cJ a_this a_album a_album_image a_album_imageX a_album_imageY a_album_leastImage a_album_numbers a_album_places a_search a_search_bestNet a_search_bestNet_x a_search_bestNet_y a_search_laid a_search_laidAtStep a_search_sheet a_search_sheet_headings a_search_sheet_lies a_search_sheet_taken a_search_sheet_x a_search_sheet_y a_solid a_solid_beyondEdge a_solid_onwardEdge a_treeCounter a_hand a_wrapping a_solid_cubeOf a_solid_lookOf a_solid_x a_solid_y a_solid_z a_solid_faceOf v_album_count v_album_image v_album_imageX v_album_imageY v_album_leastImage v_album_numbers v_album_places v_search_nets v_search_work v_search_ended v_search_step v_search_bestNet_found v_search_bestNet_width v_search_bestNet_height v_search_bestNet_number v_search_bestNet_x v_search_bestNet_y v_search_laid v_search_laidAtStep v_search_sheet_count v_search_sheet_headings v_search_sheet_lies v_search_sheet_taken v_search_sheet_x v_search_sheet_y v_solid_cubes v_solid_faces v_solid_beyondEdge v_solid_onwardEdge) sz)) (va_Qi (fun r (u : Int32 × (Nat → Int32) × (Nat → Int32) × (Nat → Int32) × (Nat → Int32) × (Nat → Int32) × (Nat → Int32) × Int32 × Int32 × Int32 × Int32 × Int32 × Int32 × Int32 × Int32 × (Nat → Int32) × (Nat → Int32) × (Nat → Int32) × (Nat → Int32) × Int32 × (Nat → Int32) × (Nat → Int32) × (Nat → Int64) × (Nat → Int32) × (Nat → Int32)) => post r u.1 u.2.1 u.2.2.1 u.2.2.2.1 u.2.2.2.2.1 u.2.2.2.2.2.1 u.2.2.2.2.2.2.1 u.2.2.2.2.2.2.2.1 u.2.2.2.2.2.2.2.2.1 u.2.2.2.2.2.2.2.2.2.1 u.2.2.2.2.2.2.2.2.2.2.1 u.2.2.2.2.2.2.2.2.2.2.2.1 u.2.2.2.2.2.2.2.2.2.2.2.2.1 u.2.2.2.2.2.2.2.2.2.2.2.2.2.1 u.2.2.2.2.2.2.2.2.2.2.2.2.2.2.1 u.2.2.2.2.2.2.2.2.2.2.2.2.2.2.2.1 u.2.2.2.2.2.2.2.2.2.2.2.2.2.2.2.2.1 u.2.2.2.2.2.2.2.2.2.2.2.2.2.2.2.2.2.1 u.2.2.2.2.2.2.2.2.2.2.2.2.2.2.2.2.2.2.1 u.2.2.2.2.2.2.2.2.2.2.2.2.2.2.2.2.2.2.2.1 u.2.2.2.2.2.2.2.2.2.2.2.2.2.2.2.2.2.2.2.2.1 u.2.2.2.2.2.2.2.2.2.2.2.2.2.2.2.2.2.2.2.2.2.1 u.2.2.2.2.2.2.2.2.2.2.2.2.2.2.2.2.2.2.2.2.2.2.1 u.2.2.2.2.2.2.2.2.2.2.2.2.2.2.2.2.2.2.2.2.2.2.2.1 u.2.2.2.2.2.2.2.2.2.2.2.2.2.2.2.2.2.2.2.2.2.2.2.2) (fun u => q_post D cI cZ cJ (va_A (wd_X7_run cI cZ cJ a_this a_album a_album_image a_album_imageX a_album_imageY a_album_leastImage a_album_numbers a_album_places a_search a_search_bestNet a_search_bestNet_x a_search_bestNet_y a_search_laid a_search_laidAtStep a_search_sheet a_search_sheet_headings a_search_sheet_lies a_search_sheet_taken a_search_sheet_x a_search_sheet_y a_solid a_solid_beyondEdge a_solid_onwardEdge a_treeCounter a_hand a_wrapping a_solid_cubeOf a_solid_lookOf a_solid_x a_solid_y a_solid_z a_solid_faceOf v_album_count v_album_image v_album_imageX v_album_imageY v_album_leastImage v_album_numbers v_album_places v_search_nets v_search_work v_search_ended v_search_step v_search_bestNet_found v_search_bestNet_width v_search_bestNet_height v_search_bestNet_number v_search_bestNet_x v_search_bestNet_y v_search_laid v_search_laidAtStep v_search_sheet_count v_search_sheet_headings v_search_sheet_lies v_search_sheet_taken v_search_sheet_x v_search_sheet_y v_solid_cubes v_solid_faces v_solid_beyondEdge v_solid_onwardEdge) sz) (wd_X7_run cI cZ cJ a_this a_album a_album_image a_album_imageX a_album_imageY a_album_leastImage a_album_numbers a_album_places a_search a_search_bestNet a_search_bestNet_x a_search_bestNet_y a_search_laid a_search_laidAtStep a_search_sheet a_search_sheet_headings a_search_sheet_lies a_search_sheet_taken a_search_sheet_x a_search_sheet_y a_solid a_solid_beyondEdge a_solid_onwardEdge a_treeCounter a_hand a_wrapping a_solid_cubeOf a_solid_lookOf a_solid_x a_solid_y a_solid_z a_solid_faceOf u.1 u.2.1 u.2.2.1 u.2.2.2.1 u.2.2.2.2.1 u.2.2.2.2.2.1 u.2.2.2.2.2.2.1 u.2.2.2.2.2.2.2.1 u.2.2.2.2.2.2.2.2.1 u.2.2.2.2.2.2.2.2.2.1 u.2.2.2.2.2.2.2.2.2.2.1 u.2.2.2.2.2.2.2.2.2.2.2.1 u.2.2.2.2.2.2.2.2.2.2.2.2.1 u.2.2.2.2.2.2.2.2.2.2.2.2.2.1 u.2.2.2.2.2.2.2.2.2.2.2.2.2.2.1 u.2.2.2.2.2.2.2.2.2.2.2.2.2.2.2.1 u.2.2.2.2.2.2.2.2.2.2.2.2.2.2.2.2.1 u.2.2.2.2.2.2.2.2.2.2.2.2.2.2.2.2.2.1 u.2.2.2.2.2.2.2.2.2.2.2.2.2.2.2.2.2.2.1 u.2.2.2.2.2.2.2.2.2.2.2.2.2.2.2.2.2.2.2.1 u.2.2.2.2.2.2.2.2.2.2.2.2.2.2.2.2.2.2.2.2.1 u.2.2.2.2.2.2.2.2.2.2.2.2.2.2.2.2.2.2.2.2.2.1 u.2.2.2.2.2.2.2.2.2.2.2.2.2.2.2.2.2.2.2.2.2.2.1 u.2.2.2.2.2.2.2.2.2.2.2.2.2.2.2.2.2.2.2.2.2.2.2.1 u.2.2.2.2.2.2.2.2.2.2.2.2.2.2.2.2.2.2.2.2.2.2.2.2 v_solid_cubes v_solid_faces v_solid_beyondEdge v_solid_onwardEdge)) (va_A (wd_X7_run cI cZ cJ a_this a_album a_album_image a_album_imageX a_album_imageY a_album_leastImage a_album_numbers a_album_places a_search a_search_bestNet a_search_bestNet_x a_search_bestNet_y a_search_laid a_search_laidAtStep a_search_sheet a_search_sheet_headings a_search_sheet_lies a_search_sheet_taken a_search_sheet_x a_search_sheet_y a_solid a_solid_beyondEdge a_solid_onwardEdge a_treeCounter a_hand a_wrapping a_solid_cubeOf a_solid_lookOf a_solid_x a_solid_y a_solid_z a_solid_faceOf v_album_count v_album_image v_album_imageX v_album_imageY v_album_leastImage v_album_numbers v_album_places v_search_nets v_search_work v_search_ended v_search_step v_search_bestNet_found v_search_bestNet_width v_search_bestNet_height v_search_bestNet_number v_search_bestNet_x v_search_bestNet_y v_search_laid v_search_laidAtStep v_search_sheet_count v_search_sheet_headings v_search_sheet_lies v_search_sheet_taken v_search_sheet_x v_search_sheet_y v_solid_cubes v_solid_faces v_solid_beyondEdge v_solid_onwardEdge) sz)) 0 0 (va_A (wd_X7_run cI cZ cJ a_this a_album a_album_image a_album_imageX a_album_imageY a_album_leastImage a_album_numbers a_album_places a_search a_search_bestNet a_search_bestNet_x a_search_bestNet_y a_search_laid a_search_laidAtStep a_search_sheet a_search_sheet_headings a_search_sheet_lies a_search_sheet_taken a_search_sheet_x a_search_sheet_y a_solid a_solid_beyondEdge a_solid_onwardEdge a_treeCounter a_hand a_wrapping a_solid_cubeOf a_solid_lookOf a_solid_x a_solid_y a_solid_z a_solid_faceOf v_album_count v_album_image v_album_imageX v_album_imageY v_album_leastImage v_album_numbers v_album_places v_search_nets v_search_work v_search_ended v_search_step v_search_bestNet_found v_search_bestNet_width v_search_bestNet_height v_search_bestNet_number v_search_bestNet_x v_search_bestNet_y v_search_laid v_search_laidAtStep v_search_sheet_count v_search_sheet_headings v_search_sheet_lies v_search_sheet_taken v_search_sheet_x v_search_sheet_y v_solid_cubes v_solid_faces v_solid_beyondEdge v_solid_onwardEdge) sz) := by
  refine q_walki (cc := cX7_run) (maxL := 2) (own := RX7) (wd := fun (u : Int32 × (Nat → Int32) × (Nat → Int32) × (Nat → Int32) × (Nat → Int32) × (Nat → Int32) × (Nat → Int32) × Int32 × Int32 × Int32 × Int32 × Int32 × Int32 × Int32 × Int32 × (Nat → Int32) × (Nat → Int32) × (Nat → Int32) × (Nat → Int32) × Int32 × (Nat → Int32) × (Nat → Int32) × (Nat → Int64) × (Nat → Int32) × (Nat → Int32)) => (wd_X7_run cI cZ cJ a_this a_album a_album_image a_album_imageX a_album_imageY a_album_leastImage a_album_numbers a_album_places a_search a_search_bestNet a_search_bestNet_x a_search_bestNet_y a_search_laid a_search_laidAtStep a_search_sheet a_search_sheet_headings a_search_sheet_lies a_search_sheet_taken a_search_sheet_x a_search_sheet_y a_solid a_solid_beyondEdge a_solid_onwardEdge a_treeCounter a_hand a_wrapping a_solid_cubeOf a_solid_lookOf a_solid_x a_solid_y a_solid_z a_solid_faceOf u.1 u.2.1 u.2.2.1 u.2.2.2.1 u.2.2.2.2.1 u.2.2.2.2.2.1 u.2.2.2.2.2.2.1 u.2.2.2.2.2.2.2.1 u.2.2.2.2.2.2.2.2.1 u.2.2.2.2.2.2.2.2.2.1 u.2.2.2.2.2.2.2.2.2.2.1 u.2.2.2.2.2.2.2.2.2.2.2.1 u.2.2.2.2.2.2.2.2.2.2.2.2.1 u.2.2.2.2.2.2.2.2.2.2.2.2.2.1 u.2.2.2.2.2.2.2.2.2.2.2.2.2.2.1 u.2.2.2.2.2.2.2.2.2.2.2.2.2.2.2.1 u.2.2.2.2.2.2.2.2.2.2.2.2.2.2.2.2.1 u.2.2.2.2.2.2.2.2.2.2.2.2.2.2.2.2.2.1 u.2.2.2.2.2.2.2.2.2.2.2.2.2.2.2.2.2.2.1 u.2.2.2.2.2.2.2.2.2.2.2.2.2.2.2.2.2.2.2.1 u.2.2.2.2.2.2.2.2.2.2.2.2.2.2.2.2.2.2.2.2.1 u.2.2.2.2.2.2.2.2.2.2.2.2.2.2.2.2.2.2.2.2.2.1 u.2.2.2.2.2.2.2.2.2.2.2.2.2.2.2.2.2.2.2.2.2.2.1 u.2.2.2.2.2.2.2.2.2.2.2.2.2.2.2.2.2.2.2.2.2.2.2.1 u.2.2.2.2.2.2.2.2.2.2.2.2.2.2.2.2.2.2.2.2.2.2.2.2 v_solid_cubes v_solid_faces v_solid_beyondEdge v_solid_onwardEdge)) (by decide) rfl rfl (Nat.le_of_ble_eq_true rfl) ?_
  intro p e s m below meth c Q A ls C hA ret hP hD hS hK hSt hNw hl
  obtain ⟨hx, hb, hml, hown, hts⟩ := id C
  replace hl : lv_has ls 2 [(0, .ref a_this), (1, .int p1)] := hl
  have f13 := hts (.fieldLink RX7 13 "NetSearch" "solid" "LNetSearch$Solid;") (by decide +kernel)
  have iX7 : ∀ w ∈ wsX70, w ∈ wsX7_run := by decide +kernel
  have f67 := hts (.fieldLink RX7 67 "NetSearch$Solid" "cubes" "I") (by decide +kernel)
  have iX4 : ∀ w ∈ wsX40, w ∈ wsX7_run := by decide +kernel
  have f44 := hts (.fieldLink RX7 44 "NetSearch" "search" "LNetSearch$Search;") (by decide +kernel)
  have f149 := hts (.fieldLink RX7 149 "NetSearch$Search" "nets" "I") (by decide +kernel)
  have iX2 : ∀ w ∈ wsX20, w ∈ wsX7_run := by decide +kernel
  unfold wp_X7_run at h
  refine lv_iload_n hx hb dX7_run_0 rfl (lv_at hl 1 rfl) ?_
  refine lv_iconst (v := 1) hx hb dX7_run_1 (by decide) ?_
  refine lv_icmp_lt (tgt := 12) hx hb dX7_run_2 (by decide) (fun hc => ?_) (fun hc => ?_)
  · replace h := h.1 hc
    refine lv_iconst (v := -1) hx hb dX7_run_12 (by decide) ?_
    exact ret (-1 : Int32) (v_album_count, v_album_image, v_album_imageX, v_album_imageY, v_album_leastImage, v_album_numbers, v_album_places, v_search_nets, v_search_work, v_search_ended, v_search_step, v_search_bestNet_found, v_search_bestNet_width, v_search_bestNet_height, v_search_bestNet_number, v_search_bestNet_x, v_search_bestNet_y, v_search_laid, v_search_laidAtStep, v_search_sheet_count, v_search_sheet_headings, v_search_sheet_lies, v_search_sheet_taken, v_search_sheet_x, v_search_sheet_y) _ _ _ 13 dX7_run_13 h hP hD hS
  · replace h := h.2 hc
    refine lv_iload_n hx hb dX7_run_5 rfl (lv_at hl 1 rfl) ?_
    refine lv_sipush (v := 500) hx hb dX7_run_6 (by decide) ?_
    refine lv_icmp_le (tgt := 14) hx hb dX7_run_9 (by decide) (fun hc => ?_) (fun hc => ?_)
    · replace h := h.1 hc
      refine lv_aload_n hx hb dX7_run_14 rfl (lv_at hl 0 rfl) ?_
      refine va_get (D := D) (ci := 7) (v := .ref a_solid) (C := RX7) (T := TX7) (N := 6) hx hb hts iX7 hown hK hP 0 rfl rfl 0 (by decide) f13 (fun _ h9 => h9) rfl dX7_run_15 ?_
      refine va_get (D := D) (ci := 4) (v := .int v_solid_cubes) (C := RX4) (T := TX4) (N := 10) hx hb hts iX4 hown hK hP 20 rfl rfl 0 (by decide) f67 (fun _ h9 => h9) rfl dX7_run_18 ?_
      refine lv_if_ne (tgt := 27) hx hb dX7_run_21 (by decide) (fun hc => ?_) (fun hc => ?_)
      · replace h := h.1 hc
        refine lv_aload_n hx hb dX7_run_27 rfl (lv_at hl 0 rfl) ?_
        refine va_get (D := D) (ci := 7) (v := .ref a_search) (C := RX7) (T := TX7) (N := 6) hx hb hts iX7 hown hK hP 0 rfl rfl 4 (by decide) f44 (fun _ h9 => h9) rfl dX7_run_28 ?_
        refine lv_iload_n hx hb dX7_run_31 rfl (lv_at hl 1 rfl) ?_
        have hPc := hP.sub (ws' := (wd_X2_goOn cI cZ cJ a_search a_album a_album_image a_album_imageX a_album_imageY a_album_leastImage a_album_numbers a_album_places a_search_bestNet a_search_bestNet_x a_search_bestNet_y a_search_laid a_search_laidAtStep a_search_sheet a_search_sheet_headings a_search_sheet_lies a_search_sheet_taken a_search_sheet_x a_search_sheet_y a_solid a_solid_beyondEdge a_solid_onwardEdge a_solid_cubeOf a_solid_lookOf a_solid_x a_solid_y a_solid_z a_solid_faceOf v_search_nets v_search_work v_search_ended v_search_step v_album_count v_album_image v_album_imageX v_album_imageY v_album_leastImage v_album_numbers v_album_places v_search_bestNet_found v_search_bestNet_width v_search_bestNet_height v_search_bestNet_number v_search_bestNet_x v_search_bestNet_y v_search_laid v_search_laidAtStep v_search_sheet_count v_search_sheet_headings v_search_sheet_lies v_search_sheet_taken v_search_sheet_x v_search_sheet_y v_solid_cubes v_solid_faces v_solid_beyondEdge v_solid_onwardEdge)) [8, 1, 2, 3, 4, 5, 6, 7, 9, 10, 11, 12, 13, 14, 15, 16, 17, 18, 19, 20, 21, 22] rfl
        have hDc := hD.sub (ws' := (wd_X2_goOn cI cZ cJ a_search a_album a_album_image a_album_imageX a_album_imageY a_album_leastImage a_album_numbers a_album_places a_search_bestNet a_search_bestNet_x a_search_bestNet_y a_search_laid a_search_laidAtStep a_search_sheet a_search_sheet_headings a_search_sheet_lies a_search_sheet_taken a_search_sheet_x a_search_sheet_y a_solid a_solid_beyondEdge a_solid_onwardEdge a_solid_cubeOf a_solid_lookOf a_solid_x a_solid_y a_solid_z a_solid_faceOf v_search_nets v_search_work v_search_ended v_search_step v_album_count v_album_image v_album_imageX v_album_imageY v_album_leastImage v_album_numbers v_album_places v_search_bestNet_found v_search_bestNet_width v_search_bestNet_height v_search_bestNet_number v_search_bestNet_x v_search_bestNet_y v_search_laid v_search_laidAtStep v_search_sheet_count v_search_sheet_headings v_search_sheet_lies v_search_sheet_taken v_search_sheet_x v_search_sheet_y v_solid_cubes v_solid_faces v_solid_beyondEdge v_solid_onwardEdge)) [8, 1, 2, 3, 4, 5, 6, 7, 9, 10, 11, 12, 13, 14, 15, 16, 17, 18, 19, 20, 21, 22] (by decide) rfl
        have hFc := va_free (wc := (wd_X2_goOn cI cZ cJ a_search a_album a_album_image a_album_imageX a_album_imageY a_album_leastImage a_album_numbers a_album_places a_search_bestNet a_search_bestNet_x a_search_bestNet_y a_search_laid a_search_laidAtStep a_search_sheet a_search_sheet_headings a_search_sheet_lies a_search_sheet_taken a_search_sheet_x a_search_sheet_y a_solid a_solid_beyondEdge a_solid_onwardEdge a_solid_cubeOf a_solid_lookOf a_solid_x a_solid_y a_solid_z a_solid_faceOf v_search_nets v_search_work v_search_ended v_search_step v_album_count v_album_image v_album_imageX v_album_imageY v_album_leastImage v_album_numbers v_album_places v_search_bestNet_found v_search_bestNet_width v_search_bestNet_height v_search_bestNet_number v_search_bestNet_x v_search_bestNet_y v_search_laid v_search_laidAtStep v_search_sheet_count v_search_sheet_headings v_search_sheet_lies v_search_sheet_taken v_search_sheet_x v_search_sheet_y v_solid_cubes v_solid_faces v_solid_beyondEdge v_solid_onwardEdge)) hD hS hA [8, 1, 2, 3, 4, 5, 6, 7, 9, 10, 11, 12, 13, 14, 15, 16, 17, 18, 19, 20, 21, 22] rfl
        refine va_callv (va_runV (As := [.int p1]) (rest := []) C (c_X2_goOn l D cI cZ cJ tb a_search a_album a_album_image a_album_imageX a_album_imageY a_album_leastImage a_album_numbers a_album_places a_search_bestNet a_search_bestNet_x a_search_bestNet_y a_search_laid a_search_laidAtStep a_search_sheet a_search_sheet_headings a_search_sheet_lies a_search_sheet_taken a_search_sheet_x a_search_sheet_y a_solid a_solid_beyondEdge a_solid_onwardEdge a_solid_cubeOf a_solid_lookOf a_solid_x a_solid_y a_solid_z a_solid_faceOf v_search_nets v_search_work v_search_ended v_search_step v_album_count v_album_image v_album_imageX v_album_imageY v_album_leastImage v_album_numbers v_album_places v_search_bestNet_found v_search_bestNet_width v_search_bestNet_height v_search_bestNet_number v_search_bestNet_x v_search_bestNet_y v_search_laid v_search_laidAtStep v_search_sheet_count v_search_sheet_headings v_search_sheet_lies v_search_sheet_taken v_search_sheet_x v_search_sheet_y v_solid_cubes v_solid_faces v_solid_beyondEdge v_solid_onwardEdge s.heap.size p1 h) (cwV 1 hts gX7_run_X2_goOn rfl rfl rfl (by decide +kernel) ⟨Nat.le_of_ble_eq_true rfl, Nat.le_of_ble_eq_true rfl⟩) ⟨q_pre.blind, va_recv hK hP (ci := 2) (q0 := 8) rfl rfl, fun U hU hW => ⟨rfl, q_pre.of hU hW hPc hK hDc hSt hS hFc hNw⟩⟩ rfl rfl hl.1 rfl (lv_room (Nat.le_of_ble_eq_true rfl)) dX7_run_32 ⟨Nat.zero_le _, Nat.zero_le _⟩) hS (fun q _ h => hFc q h) hFc (fun u_2 t H1 locs ht hvm hw hB hz1 hk1 hS => ?_)
        obtain ⟨hP1, hK1, hD1⟩ := hB
        rw [ht] at hP1
        obtain ⟨hP, hD⟩ := va_join (wr := [(a_this, .inr (7, [.ref a_solid, .ref a_treeCounter, .ref a_hand, .ref a_album, .ref a_search, .ref a_wrapping]))]) (w1 := (wd_X2_goOn cI cZ cJ a_search a_album a_album_image a_album_imageX a_album_imageY a_album_leastImage a_album_numbers a_album_places a_search_bestNet a_search_bestNet_x a_search_bestNet_y a_search_laid a_search_laidAtStep a_search_sheet a_search_sheet_headings a_search_sheet_lies a_search_sheet_taken a_search_sheet_x a_search_sheet_y a_solid a_solid_beyondEdge a_solid_onwardEdge a_solid_cubeOf a_solid_lookOf a_solid_x a_solid_y a_solid_z a_solid_faceOf u_2.1 u_2.2.1 u_2.2.2.1 u_2.2.2.2.1 u_2.2.2.2.2.1 u_2.2.2.2.2.2.1 u_2.2.2.2.2.2.2.1 u_2.2.2.2.2.2.2.2.1 u_2.2.2.2.2.2.2.2.2.1 u_2.2.2.2.2.2.2.2.2.2.1 u_2.2.2.2.2.2.2.2.2.2.2.1 u_2.2.2.2.2.2.2.2.2.2.2.2.1 u_2.2.2.2.2.2.2.2.2.2.2.2.2.1 u_2.2.2.2.2.2.2.2.2.2.2.2.2.2.1 u_2.2.2.2.2.2.2.2.2.2.2.2.2.2.2.1 u_2.2.2.2.2.2.2.2.2.2.2.2.2.2.2.2.1 u_2.2.2.2.2.2.2.2.2.2.2.2.2.2.2.2.2.1 u_2.2.2.2.2.2.2.2.2.2.2.2.2.2.2.2.2.2.1 u_2.2.2.2.2.2.2.2.2.2.2.2.2.2.2.2.2.2.2.1 u_2.2.2.2.2.2.2.2.2.2.2.2.2.2.2.2.2.2.2.2.1 u_2.2.2.2.2.2.2.2.2.2.2.2.2.2.2.2.2.2.2.2.2.1 u_2.2.2.2.2.2.2.2.2.2.2.2.2.2.2.2.2.2.2.2.2.2.1 u_2.2.2.2.2.2.2.2.2.2.2.2.2.2.2.2.2.2.2.2.2.2.2.1 u_2.2.2.2.2.2.2.2.2.2.2.2.2.2.2.2.2.2.2.2.2.2.2.2.1 u_2.2.2.2.2.2.2.2.2.2.2.2.2.2.2.2.2.2.2.2.2.2.2.2.2 v_solid_cubes v_solid_faces v_solid_beyondEdge v_solid_onwardEdge)) hP hD [8, 1, 2, 3, 4, 5, 6, 7, 9, 10, 11, 12, 13, 14, 15, 16, 17, 18, 19, 20, 21, 22] [0] rfl rfl (by decide) (by decide) hk1 hFc hP1 hD1
        clear hPc hDc hFc hP1 hD1 hK1 hk1 hz1 ht hvm
        replace h := hw
        clear hw
        generalize H1 = H at hP hS ⊢
        replace hP : va_P D vwCl (wd_X7_run cI cZ cJ a_this a_album a_album_image a_album_imageX a_album_imageY a_album_leastImage a_album_numbers a_album_places a_search a_search_bestNet a_search_bestNet_x a_search_bestNet_y a_search_laid a_search_laidAtStep a_search_sheet a_search_sheet_headings a_search_sheet_lies a_search_sheet_taken a_search_sheet_x a_search_sheet_y a_solid a_solid_beyondEdge a_solid_onwardEdge a_treeCounter a_hand a_wrapping a_solid_cubeOf a_solid_lookOf a_solid_x a_solid_y a_solid_z a_solid_faceOf u_2.2.2.2.2.1 u_2.2.2.2.2.2.1 u_2.2.2.2.2.2.2.1 u_2.2.2.2.2.2.2.2.1 u_2.2.2.2.2.2.2.2.2.1 u_2.2.2.2.2.2.2.2.2.2.1 u_2.2.2.2.2.2.2.2.2.2.2.1 u_2.1 u_2.2.1 u_2.2.2.1 u_2.2.2.2.1 u_2.2.2.2.2.2.2.2.2.2.2.2.1 u_2.2.2.2.2.2.2.2.2.2.2.2.2.1 u_2.2.2.2.2.2.2.2.2.2.2.2.2.2.1 u_2.2.2.2.2.2.2.2.2.2.2.2.2.2.2.1 u_2.2.2.2.2.2.2.2.2.2.2.2.2.2.2.2.1 u_2.2.2.2.2.2.2.2.2.2.2.2.2.2.2.2.2.1 u_2.2.2.2.2.2.2.2.2.2.2.2.2.2.2.2.2.2.1 u_2.2.2.2.2.2.2.2.2.2.2.2.2.2.2.2.2.2.2.1 u_2.2.2.2.2.2.2.2.2.2.2.2.2.2.2.2.2.2.2.2.1 u_2.2.2.2.2.2.2.2.2.2.2.2.2.2.2.2.2.2.2.2.2.1 u_2.2.2.2.2.2.2.2.2.2.2.2.2.2.2.2.2.2.2.2.2.2.1 u_2.2.2.2.2.2.2.2.2.2.2.2.2.2.2.2.2.2.2.2.2.2.2.1 u_2.2.2.2.2.2.2.2.2.2.2.2.2.2.2.2.2.2.2.2.2.2.2.2.1 u_2.2.2.2.2.2.2.2.2.2.2.2.2.2.2.2.2.2.2.2.2.2.2.2.2 v_solid_cubes v_solid_faces v_solid_beyondEdge v_solid_onwardEdge) H := hP.sub [0, 2, 3, 4, 5, 6, 7, 8, 1, 9, 10, 11, 12, 13, 14, 15, 16, 17, 18, 19, 20, 21, 22] rfl
        replace hD : va_D A (wd_X7_run cI cZ cJ a_this a_album a_album_image a_album_imageX a_album_imageY a_album_leastImage a_album_numbers a_album_places a_search a_search_bestNet a_search_bestNet_x a_search_bestNet_y a_search_laid a_search_laidAtStep a_search_sheet a_search_sheet_headings a_search_sheet_lies a_search_sheet_taken a_search_sheet_x a_search_sheet_y a_solid a_solid_beyondEdge a_solid_onwardEdge a_treeCounter a_hand a_wrapping a_solid_cubeOf a_solid_lookOf a_solid_x a_solid_y a_solid_z a_solid_faceOf u_2.2.2.2.2.1 u_2.2.2.2.2.2.1 u_2.2.2.2.2.2.2.1 u_2.2.2.2.2.2.2.2.1 u_2.2.2.2.2.2.2.2.2.1 u_2.2.2.2.2.2.2.2.2.2.1 u_2.2.2.2.2.2.2.2.2.2.2.1 u_2.1 u_2.2.1 u_2.2.2.1 u_2.2.2.2.1 u_2.2.2.2.2.2.2.2.2.2.2.2.1 u_2.2.2.2.2.2.2.2.2.2.2.2.2.1 u_2.2.2.2.2.2.2.2.2.2.2.2.2.2.1 u_2.2.2.2.2.2.2.2.2.2.2.2.2.2.2.1 u_2.2.2.2.2.2.2.2.2.2.2.2.2.2.2.2.1 u_2.2.2.2.2.2.2.2.2.2.2.2.2.2.2.2.2.1 u_2.2.2.2.2.2.2.2.2.2.2.2.2.2.2.2.2.2.1 u_2.2.2.2.2.2.2.2.2.2.2.2.2.2.2.2.2.2.2.1 u_2.2.2.2.2.2.2.2.2.2.2.2.2.2.2.2.2.2.2.2.1 u_2.2.2.2.2.2.2.2.2.2.2.2.2.2.2.2.2.2.2.2.2.1 u_2.2.2.2.2.2.2.2.2.2.2.2.2.2.2.2.2.2.2.2.2.2.1 u_2.2.2.2.2.2.2.2.2.2.2.2.2.2.2.2.2.2.2.2.2.2.2.1 u_2.2.2.2.2.2.2.2.2.2.2.2.2.2.2.2.2.2.2.2.2.2.2.2.1 u_2.2.2.2.2.2.2.2.2.2.2.2.2.2.2.2.2.2.2.2.2.2.2.2.2 v_solid_cubes v_solid_faces v_solid_beyondEdge v_solid_onwardEdge) := hD.sub [0, 2, 3, 4, 5, 6, 7, 8, 1, 9, 10, 11, 12, 13, 14, 15, 16, 17, 18, 19, 20, 21, 22] (by decide) rfl
        refine lv_aload_n hx hb dX7_run_35 rfl (lv_at hl 0 rfl) ?_
        refine va_get (D := D) (ci := 7) (v := .ref a_search) (C := RX7) (T := TX7) (N := 6) hx hb hts iX7 hown hK hP 0 rfl rfl 4 (by decide) f44 (fun _ h9 => h9) rfl dX7_run_36 ?_
        refine va_get (D := D) (ci := 2) (v := .int u_2.1) (C := RX2) (T := TX2) (N := 10) hx hb hts iX2 hown hK hP 8 rfl rfl 0 (by decide) f149 (fun _ h9 => h9) rfl dX7_run_39 ?_
        exact ret u_2.1 (u_2.2.2.2.2.1, u_2.2.2.2.2.2.1, u_2.2.2.2.2.2.2.1, u_2.2.2.2.2.2.2.2.1, u_2.2.2.2.2.2.2.2.2.1, u_2.2.2.2.2.2.2.2.2.2.1, u_2.2.2.2.2.2.2.2.2.2.2.1, u_2.1, u_2.2.1, u_2.2.2.1, u_2.2.2.2.1, u_2.2.2.2.2.2.2.2.2.2.2.2.1, u_2.2.2.2.2.2.2.2.2.2.2.2.2.1, u_2.2.2.2.2.2.2.2.2.2.2.2.2.2.1, u_2.2.2.2.2.2.2.2.2.2.2.2.2.2.2.1, u_2.2.2.2.2.2.2.2.2.2.2.2.2.2.2.2.1, u_2.2.2.2.2.2.2.2.2.2.2.2.2.2.2.2.2.1, u_2.2.2.2.2.2.2.2.2.2.2.2.2.2.2.2.2.2.1, u_2.2.2.2.2.2.2.2.2.2.2.2.2.2.2.2.2.2.2.1, u_2.2.2.2.2.2.2.2.2.2.2.2.2.2.2.2.2.2.2.2.1, u_2.2.2.2.2.2.2.2.2.2.2.2.2.2.2.2.2.2.2.2.2.1, u_2.2.2.2.2.2.2.2.2.2.2.2.2.2.2.2.2.2.2.2.2.2.1, u_2.2.2.2.2.2.2.2.2.2.2.2.2.2.2.2.2.2.2.2.2.2.2.1, u_2.2.2.2.2.2.2.2.2.2.2.2.2.2.2.2.2.2.2.2.2.2.2.2.1, u_2.2.2.2.2.2.2.2.2.2.2.2.2.2.2.2.2.2.2.2.2.2.2.2.2) _ _ _ 42 dX7_run_42 h hP hD hS
      · replace h := h.2 hc
        refine lv_bipush (v := -2) hx hb dX7_run_24 (by decide) ?_
        exact ret (-2 : Int32) (v_album_count, v_album_image, v_album_imageX, v_album_imageY, v_album_leastImage, v_album_numbers, v_album_places, v_search_nets, v_search_work, v_search_ended, v_search_step, v_search_bestNet_found, v_search_bestNet_width, v_search_bestNet_height, v_search_bestNet_number, v_search_bestNet_x, v_search_bestNet_y, v_search_laid, v_search_laidAtStep, v_search_sheet_count, v_search_sheet_headings, v_search_sheet_lies, v_search_sheet_taken, v_search_sheet_x, v_search_sheet_y) _ _ _ 26 dX7_run_26 h hP hD hS
    · replace h := h.2 hc
      refine lv_iconst (v := -1) hx hb dX7_run_12 (by decide) ?_
      exact ret (-1 : Int32) (v_album_count, v_album_image, v_album_imageX, v_album_imageY, v_album_leastImage, v_album_numbers, v_album_places, v_search_nets, v_search_work, v_search_ended, v_search_step, v_search_bestNet_found, v_search_bestNet_width, v_search_bestNet_height, v_search_bestNet_number, v_search_bestNet_x, v_search_bestNet_y, v_search_laid, v_search_laidAtStep, v_search_sheet_count, v_search_sheet_headings, v_search_sheet_lies, v_search_sheet_taken, v_search_sheet_x, v_search_sheet_y) _ _ _ 13 dX7_run_13 h hP hD hS
def wd_X7_shape (cI cZ cJ : ClassId) (a_this a_album a_album_numbers a_album_places a_solid a_treeCounter a_hand a_search a_wrapping a_album_imageX a_album_imageY a_album_image a_album_leastImage : Nat) (v_album_count : Int32) (v_album_numbers : Nat → Int32) (v_album_places : Nat → Int32) : va_W := [(a_this, .inr (7, [.ref a_solid, .ref a_treeCounter, .ref a_hand, .ref a_album, .ref a_search, .ref a_wrapping])),
  (a_album, .inr (0, [.int v_album_count, .ref a_album_places, .ref a_album_numbers, .ref a_album_imageX, .ref a_album_imageY, .ref a_album_image, .ref a_album_leastImage])),
  (a_album_numbers, .inl (cI, 1408, .inl v_album_numbers)),
  (a_album_places, .inl (cI, 64, .inl v_album_places))]
abbrev rm_X7_shape : Room := { frames := 1, cells := 0, slots := 0, locals := 22 }
set_option maxHeartbeats 4000000 in
set_option maxRecDepth 100000 in
theorem c_X7_shape (l : Launch) (D : va_G) (cI cZ cJ : ClassId) (tb : Nat → Nat) (a_this a_album a_album_numbers a_album_places a_solid a_treeCounter a_hand a_search a_wrapping a_album_imageX a_album_imageY a_album_image a_album_leastImage : Nat) (v_album_count : Int32) (v_album_numbers : Nat → Int32) (v_album_places : Nat → Int32) (sz : Nat) (p1 : Int32) (p2 : Int32) (p3 : Int32) {post : Int32 → Prop} (h : wp_X7_shape v_album_count v_album_numbers v_album_places p1 p2 p3 post) : Met l yX7_shape wsX7_shape rm_X7_shape (va_Pc [.ref a_this, .int p1, .int p2, .int p3] (q_pre D cI cZ cJ tb (wd_X7_shape cI cZ cJ a_this a_album a_album_numbers a_album_places a_solid a_treeCounter a_hand a_search a_wrapping a_album_imageX a_album_imageY a_album_image a_album_leastImage v_album_count v_album_numbers v_album_places) sz)) (va_Qi (fun r (u : Unit) => post r) (fun u => q_post D cI cZ cJ (va_A (wd_X7_shape cI cZ cJ a_this a_album a_album_numbers a_album_places a_solid a_treeCounter a_hand a_search a_wrapping a_album_imageX a_album_imageY a_album_image a_album_leastImage v_album_count v_album_numbers v_album_places) sz) (wd_X7_shape cI cZ cJ a_this a_album a_album_numbers a_album_places a_solid a_treeCounter a_hand a_search a_wrapping a_album_imageX a_album_imageY a_album_image a_album_leastImage v_album_count v_album_numbers v_album_places)) (va_A (wd_X7_shape cI cZ cJ a_this a_album a_album_numbers a_album_places a_solid a_treeCounter a_hand a_search a_wrapping a_album_imageX a_album_imageY a_album_image a_album_leastImage v_album_count v_album_numbers v_album_places) sz)) 0 0 (va_A (wd_X7_shape cI cZ cJ a_this a_album a_album_numbers a_album_places a_solid a_treeCounter a_hand a_search a_wrapping a_album_imageX a_album_imageY a_album_image a_album_leastImage v_album_count v_album_numbers v_album_places) sz) := by
  refine q_walki (cc := cX7_shape) (maxL := 4) (own := RX7) (wd := fun (u : Unit) => (wd_X7_shape cI cZ cJ a_this a_album a_album_numbers a_album_places a_solid a_treeCounter a_hand a_search a_wrapping a_album_imageX a_album_imageY a_album_image a_album_leastImage v_album_count v_album_numbers v_album_places)) (by decide) rfl rfl (Nat.le_of_ble_eq_true rfl) ?_
  intro p e s m below meth c Q A ls C hA ret hP hD hS hK hSt hNw hl
  obtain ⟨hx, hb, hml, hown, hts⟩ := id C
  replace hl : lv_has ls 4 [(0, .ref a_this), (1, .int p1), (2, .int p2), (3, .int p3)] := hl
  have f35 := hts (.fieldLink RX7 35 "NetSearch" "album" "LNetSearch$Album;") (by decide +kernel)
  have iX7 : ∀ w ∈ wsX70, w ∈ wsX7_shape := by decide +kernel
  have f183 := hts (.fieldLink RX7 183 "NetSearch$Album" "places" "[I") (by decide +kernel)
  have iX0 : ∀ w ∈ wsX00, w ∈ wsX7_shape := by decide +kernel
  unfold wp_X7_shape at h
  refine lv_aload_n hx hb dX7_shape_0 rfl (lv_at hl 0 rfl) ?_
  refine lv_iload_n hx hb dX7_shape_1 rfl (lv_at hl 1 rfl) ?_
  have hPc := hP.sub (ws' := (wd_X7_isShape cI cZ cJ a_this a_album a_solid a_treeCounter a_hand a_search a_wrapping a_album_places a_album_numbers a_album_imageX a_album_imageY a_album_image a_album_leastImage v_album_count)) [0, 1] rfl
  have hDc := hD.sub (ws' := (wd_X7_isShape cI cZ cJ a_this a_album a_solid a_treeCounter a_hand a_search a_wrapping a_album_places a_album_numbers a_album_imageX a_album_imageY a_album_image a_album_leastImage v_album_count)) [0, 1] (by decide) rfl
  have hFc := va_free (wc := (wd_X7_isShape cI cZ cJ a_this a_album a_solid a_treeCounter a_hand a_search a_wrapping a_album_places a_album_numbers a_album_imageX a_album_imageY a_album_image a_album_leastImage v_album_count)) hD hS hA [0, 1] rfl
  refine va_calli (va_runV (As := [.int p1]) (rest := []) C (c_X7_isShape l D cI cZ cJ tb a_this a_album a_solid a_treeCounter a_hand a_search a_wrapping a_album_places a_album_numbers a_album_imageX a_album_imageY a_album_image a_album_leastImage v_album_count s.heap.size p1 h) (cwV 1 hts gX7_shape_X7_isShape rfl rfl rfl (by decide +kernel) ⟨Nat.le_of_ble_eq_true rfl, Nat.le_of_ble_eq_true rfl⟩) ⟨q_pre.blind, va_recv hK hP (ci := 7) (q0 := 0) rfl rfl, fun U hU hW => ⟨rfl, q_pre.of hU hW hPc hK hDc hSt hS hFc hNw⟩⟩ rfl rfl hl.1 rfl (lv_room (Nat.le_of_ble_eq_true rfl)) dX7_shape_2 ⟨Nat.zero_le _, Nat.zero_le _⟩) hS (fun q _ h => hFc q h) hFc (fun r_1 u_2 t H1 locs ht hvm hw hB hz1 hk1 hS => ?_)
  obtain ⟨hP1, hK1, hD1⟩ := hB
  rw [ht] at hP1
  obtain ⟨hP, hD⟩ := va_join (wr := [(a_album_numbers, .inl (cI, 1408, .inl v_album_numbers)), (a_album_places, .inl (cI, 64, .inl v_album_places))]) (w1 := (wd_X7_isShape cI cZ cJ a_this a_album a_solid a_treeCounter a_hand a_search a_wrapping a_album_places a_album_numbers a_album_imageX a_album_imageY a_album_image a_album_leastImage v_album_count)) hP hD [0, 1] [2, 3] rfl rfl (by decide) (by decide) hk1 hFc hP1 hD1
  clear hPc hDc hFc hP1 hD1 hK1 hk1 hz1 ht hvm
  replace h := hw
  clear hw
  generalize H1 = H at hP hS ⊢
  replace hP : va_P D vwCl (wd_X7_shape cI cZ cJ a_this a_album a_album_numbers a_album_places a_solid a_treeCounter a_hand a_search a_wrapping a_album_imageX a_album_imageY a_album_image a_album_leastImage v_album_count v_album_numbers v_album_places) H := hP.sub [2, 3, 0, 1] rfl
  replace hD : va_D A (wd_X7_shape cI cZ cJ a_this a_album a_album_numbers a_album_places a_solid a_treeCounter a_hand a_search a_wrapping a_album_imageX a_album_imageY a_album_image a_album_leastImage v_album_count v_album_numbers v_album_places) := hD.sub [2, 3, 0, 1] (by decide) rfl
  refine lv_if_eq (tgt := 25) hx hb dX7_shape_5 (by decide) (fun hc => ?_) (fun hc => ?_)
  · replace h := h.1 hc
    refine lv_iconst (v := -1) hx hb dX7_shape_25 (by decide) ?_
    exact ret (-1 : Int32) () _ _ _ 26 dX7_shape_26 h hP hD hS
  · replace h := h.2 hc
    refine lv_iload_n hx hb dX7_shape_8 rfl (lv_at hl 2 rfl) ?_
    refine lv_if_lt (tgt := 25) hx hb dX7_shape_9 (by decide) (fun hc => ?_) (fun hc => ?_)
    · replace h := h.1 hc
      refine lv_iconst (v := -1) hx hb dX7_shape_25 (by decide) ?_
      exact ret (-1 : Int32) () _ _ _ 26 dX7_shape_26 h hP hD hS
    · replace h := h.2 hc
      refine lv_iload_n hx hb dX7_shape_12 rfl (lv_at hl 2 rfl) ?_
      refine lv_aload_n hx hb dX7_shape_13 rfl (lv_at hl 0 rfl) ?_
      refine va_get (D := D) (ci := 7) (v := .ref a_album) (C := RX7) (T := TX7) (N := 6) hx hb hts iX7 hown hK hP 0 rfl rfl 3 (by decide) f35 (fun _ h9 => h9) rfl dX7_shape_14 ?_
      refine va_get (D := D) (ci := 0) (v := .ref a_album_places) (C := RX0) (T := TX0) (N := 7) hx hb hts iX0 hown hK hP 1 rfl rfl 1 (by decide) f183 (fun _ h9 => h9) rfl dX7_shape_17 ?_
      refine lv_iload_n hx hb dX7_shape_20 rfl (lv_at hl 1 rfl) ?_
      obtain ⟨hin, h⟩ := h
      refine va_iald hx hb hK hP 3 0 rfl rfl hin dX7_shape_21 ?_
      refine lv_icmp_lt (tgt := 27) hx hb dX7_shape_22 (by decide) (fun hc => ?_) (fun hc => ?_)
      · replace h := h.1 hc
        refine lv_iload_n hx hb dX7_shape_27 rfl (lv_at hl 3 rfl) ?_
        by_cases hc0 : p3 = (0 : Int32)
        · replace h := h.1 hc0
          refine lv_lookup (tgt := 56) (off := 28) hx hb dX7_shape_28 (by decide) (by rw [hc0] <;> rfl) (by decide) ?_
          refine lv_aload_n hx hb dX7_shape_56 rfl (lv_at hl 0 rfl) ?_
          refine va_get (D := D) (ci := 7) (v := .ref a_album) (C := RX7) (T := TX7) (N := 6) hx hb hts iX7 hown hK hP 0 rfl rfl 3 (by decide) f35 (fun _ h9 => h9) rfl dX7_shape_57 ?_
          refine lv_iload_n hx hb dX7_shape_60 rfl (lv_at hl 1 rfl) ?_
          refine lv_iload_n hx hb dX7_shape_61 rfl (lv_at hl 2 rfl) ?_
          have hPc := hP.sub (ws' := (wd_X0_placeX cI cZ cJ a_album a_album_numbers a_album_places a_album_imageX a_album_imageY a_album_image a_album_leastImage v_album_count v_album_numbers)) [1, 2] rfl
          have hDc := hD.sub (ws' := (wd_X0_placeX cI cZ cJ a_album a_album_numbers a_album_places a_album_imageX a_album_imageY a_album_image a_album_leastImage v_album_count v_album_numbers)) [1, 2] (by decide) rfl
          have hFc := va_free (wc := (wd_X0_placeX cI cZ cJ a_album a_album_numbers a_album_places a_album_imageX a_album_imageY a_album_image a_album_leastImage v_album_count v_album_numbers)) hD hS hA [1, 2] rfl
          refine va_calli (va_runV (As := [.int p1, .int p2]) (rest := []) C (c_X0_placeX l D cI cZ cJ tb a_album a_album_numbers a_album_places a_album_imageX a_album_imageY a_album_image a_album_leastImage v_album_count v_album_numbers H.size p1 p2 h) (cwV 2 hts gX7_shape_X0_placeX rfl rfl rfl (by decide +kernel) ⟨Nat.le_of_ble_eq_true rfl, Nat.le_of_ble_eq_true rfl⟩) ⟨q_pre.blind, va_recv hK hP (ci := 0) (q0 := 1) rfl rfl, fun U hU hW => ⟨rfl, q_pre.of hU hW hPc hK hDc hSt hS hFc hNw⟩⟩ rfl rfl hl.1 rfl (lv_room (Nat.le_of_ble_eq_true rfl)) dX7_shape_62 ⟨Nat.zero_le _, Nat.zero_le _⟩) hS (fun q _ h => hFc q h) hFc (fun r_3 u_4 t H1 locs ht hvm hw hB hz1 hk1 hS => ?_)
          obtain ⟨hP1, hK1, hD1⟩ := hB
          rw [ht] at hP1
          obtain ⟨hP, hD⟩ := va_join (wr := [(a_this, .inr (7, [.ref a_solid, .ref a_treeCounter, .ref a_hand, .ref a_album, .ref a_search, .ref a_wrapping])), (a_album_places, .inl (cI, 64, .inl v_album_places))]) (w1 := (wd_X0_placeX cI cZ cJ a_album a_album_numbers a_album_places a_album_imageX a_album_imageY a_album_image a_album_leastImage v_album_count v_album_numbers)) hP hD [1, 2] [0, 3] rfl rfl (by decide) (by decide) hk1 hFc hP1 hD1
          clear hPc hDc hFc hP1 hD1 hK1 hk1 hz1 ht hvm
          replace h := hw
          clear hw
          generalize H1 = H at hP hS ⊢
          replace hP : va_P D vwCl (wd_X7_shape cI cZ cJ a_this a_album a_album_numbers a_album_places a_solid a_treeCounter a_hand a_search a_wrapping a_album_imageX a_album_imageY a_album_image a_album_leastImage v_album_count v_album_numbers v_album_places) H := hP.sub [0, 2, 3, 1] rfl
          replace hD : va_D A (wd_X7_shape cI cZ cJ a_this a_album a_album_numbers a_album_places a_solid a_treeCounter a_hand a_search a_wrapping a_album_imageX a_album_imageY a_album_image a_album_leastImage v_album_count v_album_numbers v_album_places) := hD.sub [0, 2, 3, 1] (by decide) rfl
          exact ret r_3 () _ _ _ 65 dX7_shape_65 h hP hD hS
        replace h := h.2 hc0
        by_cases hc1 : p3 = (1 : Int32)
        · replace h := h.1 hc1
          refine lv_lookup (tgt := 66) (off := 38) hx hb dX7_shape_28 (by decide) (by rw [hc1] <;> rfl) (by decide) ?_
          refine lv_aload_n hx hb dX7_shape_66 rfl (lv_at hl 0 rfl) ?_
          refine va_get (D := D) (ci := 7) (v := .ref a_album) (C := RX7) (T := TX7) (N := 6) hx hb hts iX7 hown hK hP 0 rfl rfl 3 (by decide) f35 (fun _ h9 => h9) rfl dX7_shape_67 ?_
          refine lv_iload_n hx hb dX7_shape_70 rfl (lv_at hl 1 rfl) ?_
          refine lv_iload_n hx hb dX7_shape_71 rfl (lv_at hl 2 rfl) ?_
          have hPc := hP.sub (ws' := (wd_X0_placeY cI cZ cJ a_album a_album_numbers a_album_places a_album_imageX a_album_imageY a_album_image a_album_leastImage v_album_count v_album_numbers)) [1, 2] rfl
          have hDc := hD.sub (ws' := (wd_X0_placeY cI cZ cJ a_album a_album_numbers a_album_places a_album_imageX a_album_imageY a_album_image a_album_leastImage v_album_count v_album_numbers)) [1, 2] (by decide) rfl
          have hFc := va_free (wc := (wd_X0_placeY cI cZ cJ a_album a_album_numbers a_album_places a_album_imageX a_album_imageY a_album_image a_album_leastImage v_album_count v_album_numbers)) hD hS hA [1, 2] rfl
          refine va_calli (va_runV (As := [.int p1, .int p2]) (rest := []) C (c_X0_placeY l D cI cZ cJ tb a_album a_album_numbers a_album_places a_album_imageX a_album_imageY a_album_image a_album_leastImage v_album_count v_album_numbers H.size p1 p2 h) (cwV 2 hts gX7_shape_X0_placeY rfl rfl rfl (by decide +kernel) ⟨Nat.le_of_ble_eq_true rfl, Nat.le_of_ble_eq_true rfl⟩) ⟨q_pre.blind, va_recv hK hP (ci := 0) (q0 := 1) rfl rfl, fun U hU hW => ⟨rfl, q_pre.of hU hW hPc hK hDc hSt hS hFc hNw⟩⟩ rfl rfl hl.1 rfl (lv_room (Nat.le_of_ble_eq_true rfl)) dX7_shape_72 ⟨Nat.zero_le _, Nat.zero_le _⟩) hS (fun q _ h => hFc q h) hFc (fun r_5 u_6 t H1 locs ht hvm hw hB hz1 hk1 hS => ?_)
          obtain ⟨hP1, hK1, hD1⟩ := hB
          rw [ht] at hP1
          obtain ⟨hP, hD⟩ := va_join (wr := [(a_this, .inr (7, [.ref a_solid, .ref a_treeCounter, .ref a_hand, .ref a_album, .ref a_search, .ref a_wrapping])), (a_album_places, .inl (cI, 64, .inl v_album_places))]) (w1 := (wd_X0_placeY cI cZ cJ a_album a_album_numbers a_album_places a_album_imageX a_album_imageY a_album_image a_album_leastImage v_album_count v_album_numbers)) hP hD [1, 2] [0, 3] rfl rfl (by decide) (by decide) hk1 hFc hP1 hD1
          clear hPc hDc hFc hP1 hD1 hK1 hk1 hz1 ht hvm
          replace h := hw
          clear hw
          generalize H1 = H at hP hS ⊢
          replace hP : va_P D vwCl (wd_X7_shape cI cZ cJ a_this a_album a_album_numbers a_album_places a_solid a_treeCounter a_hand a_search a_wrapping a_album_imageX a_album_imageY a_album_image a_album_leastImage v_album_count v_album_numbers v_album_places) H := hP.sub [0, 2, 3, 1] rfl
          replace hD : va_D A (wd_X7_shape cI cZ cJ a_this a_album a_album_numbers a_album_places a_solid a_treeCounter a_hand a_search a_wrapping a_album_imageX a_album_imageY a_album_image a_album_leastImage v_album_count v_album_numbers v_album_places) := hD.sub [0, 2, 3, 1] (by decide) rfl
          exact ret r_5 () _ _ _ 75 dX7_shape_75 h hP hD hS
        replace h := h.2 hc1
        refine lv_lookup (tgt := 76) (off := 48) hx hb dX7_shape_28 (by decide) (by rw [lv_osw hc0 (by decide), lv_osw hc1 (by decide)] <;> rfl) (by decide) ?_
        refine lv_iconst (v := -1) hx hb dX7_shape_76 (by decide) ?_
        exact ret (-1 : Int32) () _ _ _ 77 dX7_shape_77 h hP hD hS
      · replace h := h.2 hc
        refine lv_iconst (v := -1) hx hb dX7_shape_25 (by decide) ?_
        exact ret (-1 : Int32) () _ _ _ 26 dX7_shape_26 h hP hD hS
def wd_X7_size (cI cZ cJ : ClassId) (a_this a_album a_album_places a_solid a_treeCounter a_hand a_search a_wrapping a_album_numbers a_album_imageX a_album_imageY a_album_image a_album_leastImage : Nat) (v_album_count : Int32) (v_album_places : Nat → Int32) : va_W := [(a_this, .inr (7, [.ref a_solid, .ref a_treeCounter, .ref a_hand, .ref a_album, .ref a_search, .ref a_wrapping])),
  (a_album, .inr (0, [.int v_album_count, .ref a_album_places, .ref a_album_numbers, .ref a_album_imageX, .ref a_album_imageY, .ref a_album_image, .ref a_album_leastImage])),
  (a_album_places, .inl (cI, 64, .inl v_album_places))]
abbrev rm_X7_size : Room := { frames := 1, cells := 0, slots := 0, locals := 21 }
set_option maxHeartbeats 4000000 in
set_option maxRecDepth 100000 in
theorem c_X7_size (l : Launch) (D : va_G) (cI cZ cJ : ClassId) (tb : Nat → Nat) (a_this a_album a_album_places a_solid a_treeCounter a_hand a_search a_wrapping a_album_numbers a_album_imageX a_album_imageY a_album_image a_album_leastImage : Nat) (v_album_count : Int32) (v_album_places : Nat → Int32) (sz : Nat) (p1 : Int32) {post : Int32 → Prop} (h : wp_X7_size v_album_count v_album_places p1 post) : Met l yX7_size wsX7_size rm_X7_size (va_Pc [.ref a_this, .int p1] (q_pre D cI cZ cJ tb (wd_X7_size cI cZ cJ a_this a_album a_album_places a_solid a_treeCounter a_hand a_search a_wrapping a_album_numbers a_album_imageX a_album_imageY a_album_image a_album_leastImage v_album_count v_album_places) sz)) (va_Qi (fun r (u : Unit) => post r) (fun u => q_post D cI cZ cJ (va_A (wd_X7_size cI cZ cJ a_this a_album a_album_places a_solid a_treeCounter a_hand a_search a_wrapping a_album_numbers a_album_imageX a_album_imageY a_album_image a_album_leastImage v_album_count v_album_places) sz) (wd_X7_size cI cZ cJ a_this a_album a_album_places a_solid a_treeCounter a_hand a_search a_wrapping a_album_numbers a_album_imageX a_album_imageY a_album_image a_album_leastImage v_album_count v_album_places)) (va_A (wd_X7_size cI cZ cJ a_this a_album a_album_places a_solid a_treeCounter a_hand a_search a_wrapping a_album_numbers a_album_imageX a_album_imageY a_album_image a_album_leastImage v_album_count v_album_places) sz)) 0 0 (va_A (wd_X7_size cI cZ cJ a_this a_album a_album_places a_solid a_treeCounter a_hand a_search a_wrapping a_album_numbers a_album_imageX a_album_imageY a_album_image a_album_leastImage v_album_count v_album_places) sz) := by
  refine q_walki (cc := cX7_size) (maxL := 2) (own := RX7) (wd := fun (u : Unit) => (wd_X7_size cI cZ cJ a_this a_album a_album_places a_solid a_treeCounter a_hand a_search a_wrapping a_album_numbers a_album_imageX a_album_imageY a_album_image a_album_leastImage v_album_count v_album_places)) (by decide) rfl rfl (Nat.le_of_ble_eq_true rfl) ?_
  intro p e s m below meth c Q A ls C hA ret hP hD hS hK hSt hNw hl
  obtain ⟨hx, hb, hml, hown, hts⟩ := id C
  replace hl : lv_has ls 2 [(0, .ref a_this), (1, .int p1)] := hl
  have f35 := hts (.fieldLink RX7 35 "NetSearch" "album" "LNetSearch$Album;") (by decide +kernel)
  have iX7 : ∀ w ∈ wsX70, w ∈ wsX7_size := by decide +kernel
  have f183 := hts (.fieldLink RX7 183 "NetSearch$Album" "places" "[I") (by decide +kernel)
  have iX0 : ∀ w ∈ wsX00, w ∈ wsX7_size := by decide +kernel
  unfold wp_X7_size at h
  refine lv_aload_n hx hb dX7_size_0 rfl (lv_at hl 0 rfl) ?_
  refine lv_iload_n hx hb dX7_size_1 rfl (lv_at hl 1 rfl) ?_
  have hPc := hP.sub (ws' := (wd_X7_isShape cI cZ cJ a_this a_album a_solid a_treeCounter a_hand a_search a_wrapping a_album_places a_album_numbers a_album_imageX a_album_imageY a_album_image a_album_leastImage v_album_count)) [0, 1] rfl
  have hDc := hD.sub (ws' := (wd_X7_isShape cI cZ cJ a_this a_album a_solid a_treeCounter a_hand a_search a_wrapping a_album_places a_album_numbers a_album_imageX a_album_imageY a_album_image a_album_leastImage v_album_count)) [0, 1] (by decide) rfl
  have hFc := va_free (wc := (wd_X7_isShape cI cZ cJ a_this a_album a_solid a_treeCounter a_hand a_search a_wrapping a_album_places a_album_numbers a_album_imageX a_album_imageY a_album_image a_album_leastImage v_album_count)) hD hS hA [0, 1] rfl
  refine va_calli (va_runV (As := [.int p1]) (rest := []) C (c_X7_isShape l D cI cZ cJ tb a_this a_album a_solid a_treeCounter a_hand a_search a_wrapping a_album_places a_album_numbers a_album_imageX a_album_imageY a_album_image a_album_leastImage v_album_count s.heap.size p1 h) (cwV 1 hts gX7_size_X7_isShape rfl rfl rfl (by decide +kernel) ⟨Nat.le_of_ble_eq_true rfl, Nat.le_of_ble_eq_true rfl⟩) ⟨q_pre.blind, va_recv hK hP (ci := 7) (q0 := 0) rfl rfl, fun U hU hW => ⟨rfl, q_pre.of hU hW hPc hK hDc hSt hS hFc hNw⟩⟩ rfl rfl hl.1 rfl (lv_room (Nat.le_of_ble_eq_true rfl)) dX7_size_2 ⟨Nat.zero_le _, Nat.zero_le _⟩) hS (fun q _ h => hFc q h) hFc (fun r_1 u_2 t H1 locs ht hvm hw hB hz1 hk1 hS => ?_)
  obtain ⟨hP1, hK1, hD1⟩ := hB
  rw [ht] at hP1
  obtain ⟨hP, hD⟩ := va_join (wr := [(a_album_places, .inl (cI, 64, .inl v_album_places))]) (w1 := (wd_X7_isShape cI cZ cJ a_this a_album a_solid a_treeCounter a_hand a_search a_wrapping a_album_places a_album_numbers a_album_imageX a_album_imageY a_album_image a_album_leastImage v_album_count)) hP hD [0, 1] [2] rfl rfl (by decide) (by decide) hk1 hFc hP1 hD1
  clear hPc hDc hFc hP1 hD1 hK1 hk1 hz1 ht hvm
  replace h := hw
  clear hw
  generalize H1 = H at hP hS ⊢
  replace hP : va_P D vwCl (wd_X7_size cI cZ cJ a_this a_album a_album_places a_solid a_treeCounter a_hand a_search a_wrapping a_album_numbers a_album_imageX a_album_imageY a_album_image a_album_leastImage v_album_count v_album_places) H := hP.sub [1, 2, 0] rfl
  replace hD : va_D A (wd_X7_size cI cZ cJ a_this a_album a_album_places a_solid a_treeCounter a_hand a_search a_wrapping a_album_numbers a_album_imageX a_album_imageY a_album_image a_album_leastImage v_album_count v_album_places) := hD.sub [1, 2, 0] (by decide) rfl
  refine lv_if_eq (tgt := 20) hx hb dX7_size_5 (by decide) (fun hc => ?_) (fun hc => ?_)
  · replace h := h.1 hc
    refine lv_iconst (v := -1) hx hb dX7_size_20 (by decide) ?_
    exact ret (-1 : Int32) () _ _ _ 21 dX7_size_21 h hP hD hS
  · replace h := h.2 hc
    refine lv_aload_n hx hb dX7_size_8 rfl (lv_at hl 0 rfl) ?_
    refine va_get (D := D) (ci := 7) (v := .ref a_album) (C := RX7) (T := TX7) (N := 6) hx hb hts iX7 hown hK hP 0 rfl rfl 3 (by decide) f35 (fun _ h9 => h9) rfl dX7_size_9 ?_
    refine va_get (D := D) (ci := 0) (v := .ref a_album_places) (C := RX0) (T := TX0) (N := 7) hx hb hts iX0 hown hK hP 1 rfl rfl 1 (by decide) f183 (fun _ h9 => h9) rfl dX7_size_12 ?_
    refine lv_iload_n hx hb dX7_size_15 rfl (lv_at hl 1 rfl) ?_
    obtain ⟨hin, h⟩ := h
    refine va_iald hx hb hK hP 2 0 rfl rfl hin dX7_size_16 ?_
    refine lv_goto (tgt := 21) hx hb dX7_size_17 (by decide) ?_
    exact ret (v_album_places p1.toNatClampNeg) () _ _ _ 21 dX7_size_21 h hP hD hS
