def wd_X7_told (cI cZ cJ : ClassId) (a_this a_album a_hand a_search a_solid a_treeCounter a_wrapping a_album_places a_album_numbers a_album_imageX a_album_imageY a_album_image a_album_leastImage a_hand_lies a_hand_x a_hand_y a_hand_headings a_hand_taken a_search_bestNet a_search_sheet a_search_laid a_search_laidAtStep a_solid_cubeOf a_solid_lookOf a_solid_x a_solid_y a_solid_z a_solid_faceOf a_solid_beyondEdge a_solid_onwardEdge : Nat) (v_album_count : Int32) (v_hand_count : Int32) (v_search_nets : Int32) (v_search_work : Int32) (v_search_ended : Int32) (v_search_step : Int32) (v_solid_cubes : Int32) (v_solid_faces : Int32) : va_W := [(a_this, .inr (7, [.ref a_solid, .ref a_treeCounter, .ref a_hand, .ref a_album, .ref a_search, .ref a_wrapping])),
  (a_album, .inr (0, [.int v_album_count, .ref a_album_places, .ref a_album_numbers, .ref a_album_imageX, .ref a_album_imageY, .ref a_album_image, .ref a_album_leastImage])),
  (a_hand, .inr (3, [.ref a_hand_lies, .ref a_hand_x, .ref a_hand_y, .int v_hand_count, .ref a_solid, .ref a_hand_headings, .ref a_hand_taken])),
  (a_search, .inr (2, [.int v_search_nets, .int v_search_work, .int v_search_ended, .ref a_search_bestNet, .ref a_solid, .ref a_album, .ref a_search_sheet, .ref a_search_laid, .ref a_search_laidAtStep, .int v_search_step])),
  (a_solid, .inr (4, [.int v_solid_cubes, .int v_solid_faces, .ref a_solid_cubeOf, .ref a_solid_lookOf, .ref a_solid_x, .ref a_solid_y, .ref a_solid_z, .ref a_solid_faceOf, .ref a_solid_beyondEdge, .ref a_solid_onwardEdge]))]
abbrev rm_X7_told : Room := { frames := 0, cells := 0, slots := 0, locals := 0 }
set_option maxHeartbeats 4000000 in
set_option maxRecDepth 100000 in
theorem c_X7_told (l : Launch) (D : va_G) (cI cZ cJ : ClassId) (tb : Nat → Nat) (a_this a_album a_hand a_search a_solid a_treeCounter a_wrapping a_album_places a_album_numbers a_album_imageX a_album_imageY a_album_image a_album_leastImage a_hand_lies a_hand_x a_hand_y a_hand_headings a_hand_taken a_search_bestNet a_search_sheet a_search_laid a_search_laidAtStep a_solid_cubeOf a_solid_lookOf a_solid_x a_solid_y a_solid_z a_solid_faceOf a_solid_beyondEdge a_solid_onwardEdge : Nat) (v_album_count : Int32) (v_hand_count : Int32) (v_search_nets : Int32) (v_search_work : Int32) (v_search_ended : Int32) (v_search_step : Int32) (v_solid_cubes : Int32) (v_solid_faces : Int32) (sz : Nat) (p1 : Int32) {post : Int32 → Prop} (h : wp_X7_told v_album_count v_hand_count v_search_nets v_search_work v_search_ended v_solid_cubes v_solid_faces p1 post) : Met l yX7_told wsX7_told rm_X7_told (va_Pc [.ref a_this, .int p1] (q_pre D cI cZ cJ tb (wd_X7_told cI cZ cJ a_this a_album a_hand a_search a_solid a_treeCounter a_wrapping a_album_places a_album_numbers a_album_imageX a_album_imageY a_album_image a_album_leastImage a_hand_lies a_hand_x a_hand_y a_hand_headings a_hand_taken a_search_bestNet a_search_sheet a_search_laid a_search_laidAtStep a_solid_cubeOf a_solid_lookOf a_solid_x a_solid_y a_solid_z a_solid_faceOf a_solid_beyondEdge a_solid_onwardEdge v_album_count v_hand_count v_search_nets v_search_work v_search_ended v_search_step v_solid_cubes v_solid_faces) sz)) (va_Qi (fun r (u : Unit) => post r) (fun u => q_post D cI cZ cJ (va_A (wd_X7_told cI cZ cJ a_this a_album a_hand a_search a_solid a_treeCounter a_wrapping a_album_places a_album_numbers a_album_imageX a_album_imageY a_album_image a_album_leastImage a_hand_lies a_hand_x a_hand_y a_hand_headings a_hand_taken a_search_bestNet a_search_sheet a_search_laid a_search_laidAtStep a_solid_cubeOf a_solid_lookOf a_solid_x a_solid_y a_solid_z a_solid_faceOf a_solid_beyondEdge a_solid_onwardEdge v_album_count v_hand_count v_search_nets v_search_work v_search_ended v_search_step v_solid_cubes v_solid_faces) sz) (wd_X7_told cI cZ cJ a_this a_album a_hand a_search a_solid a_treeCounter a_wrapping a_album_places a_album_numbers a_album_imageX a_album_imageY a_album_image a_album_leastImage a_hand_lies a_hand_x a_hand_y a_hand_headings a_hand_taken a_search_bestNet a_search_sheet a_search_laid a_search_laidAtStep a_solid_cubeOf a_solid_lookOf a_solid_x a_solid_y a_solid_z a_solid_faceOf a_solid_beyondEdge a_solid_onwardEdge v_album_count v_hand_count v_search_nets v_search_work v_search_ended v_search_step v_solid_cubes v_solid_faces)) (va_A (wd_X7_told cI cZ cJ a_this a_album a_hand a_search a_solid a_treeCounter a_wrapping a_album_places a_album_numbers a_album_imageX a_album_imageY a_album_image a_album_leastImage a_hand_lies a_hand_x a_hand_y a_hand_headings a_hand_taken a_search_bestNet a_search_sheet a_search_laid a_search_laidAtStep a_solid_cubeOf a_solid_lookOf a_solid_x a_solid_y a_solid_z a_solid_faceOf a_solid_beyondEdge a_solid_onwardEdge v_album_count v_hand_count v_search_nets v_search_work v_search_ended v_search_step v_solid_cubes v_solid_faces) sz)) 0 0 (va_A (wd_X7_told cI cZ cJ a_this a_album a_hand a_search a_solid a_treeCounter a_wrapping a_album_places a_album_numbers a_album_imageX a_album_imageY a_album_image a_album_leastImage a_hand_lies a_hand_x a_hand_y a_hand_headings a_hand_taken a_search_bestNet a_search_sheet a_search_laid a_search_laidAtStep a_solid_cubeOf a_solid_lookOf a_solid_x a_solid_y a_solid_z a_solid_faceOf a_solid_beyondEdge a_solid_onwardEdge v_album_count v_hand_count v_search_nets v_search_work v_search_ended v_search_step v_solid_cubes v_solid_faces) sz) := by
  refine q_walki (cc := cX7_told) (maxL := 2) (own := RX7) (wd := fun (u : Unit) => (wd_X7_told cI cZ cJ a_this a_album a_hand a_search a_solid a_treeCounter a_wrapping a_album_places a_album_numbers a_album_imageX a_album_imageY a_album_image a_album_leastImage a_hand_lies a_hand_x a_hand_y a_hand_headings a_hand_taken a_search_bestNet a_search_sheet a_search_laid a_search_laidAtStep a_solid_cubeOf a_solid_lookOf a_solid_x a_solid_y a_solid_z a_solid_faceOf a_solid_beyondEdge a_solid_onwardEdge v_album_count v_hand_count v_search_nets v_search_work v_search_ended v_search_step v_solid_cubes v_solid_faces)) (by decide) rfl rfl (Nat.le_of_ble_eq_true rfl) ?_
  intro p e s m below meth c Q A ls C hA ret hP hD hS hK hSt hNw hl
  obtain ⟨hx, hb, hml, hown, hts⟩ := id C
  replace hl : lv_has ls 2 [(0, .ref a_this), (1, .int p1)] := hl
  have f13 := hts (.fieldLink RX7 13 "NetSearch" "solid" "LNetSearch$Solid;") (by decide +kernel)
  have iX7 : ∀ w ∈ wsX70, w ∈ wsX7_told := by decide +kernel
  have f67 := hts (.fieldLink RX7 67 "NetSearch$Solid" "cubes" "I") (by decide +kernel)
  have iX4 : ∀ w ∈ wsX40, w ∈ wsX7_told := by decide +kernel
  have f78 := hts (.fieldLink RX7 78 "NetSearch$Solid" "faces" "I") (by decide +kernel)
  have f44 := hts (.fieldLink RX7 44 "NetSearch" "search" "LNetSearch$Search;") (by decide +kernel)
  have f149 := hts (.fieldLink RX7 149 "NetSearch$Search" "nets" "I") (by decide +kernel)
  have iX2 : ∀ w ∈ wsX20, w ∈ wsX7_told := by decide +kernel
  have f35 := hts (.fieldLink RX7 35 "NetSearch" "album" "LNetSearch$Album;") (by decide +kernel)
  have f84 := hts (.fieldLink RX7 84 "NetSearch$Album" "count" "I") (by decide +kernel)
  have iX0 : ∀ w ∈ wsX00, w ∈ wsX7_told := by decide +kernel
  have f152 := hts (.fieldLink RX7 152 "NetSearch$Search" "work" "I") (by decide +kernel)
  have f155 := hts (.fieldLink RX7 155 "NetSearch$Search" "ended" "Z") (by decide +kernel)
  have f31 := hts (.fieldLink RX7 31 "NetSearch" "hand" "LNetSearch$Sheet;") (by decide +kernel)
  have f159 := hts (.fieldLink RX7 159 "NetSearch$Sheet" "count" "I") (by decide +kernel)
  have iX3 : ∀ w ∈ wsX30, w ∈ wsX7_told := by decide +kernel
  unfold wp_X7_told at h
  refine lv_iload_n hx hb dX7_told_0 rfl (lv_at hl 1 rfl) ?_
  by_cases hc0 : p1 = (0 : Int32)
  · replace h := h.1 hc0
    refine lv_tableIn (tgt := 44) hx hb dX7_told_1 (by rw [hc0] <;> decide) (by rw [hc0] <;> decide) (by rw [hc0] <;> rfl) (by decide) ?_
    refine lv_aload_n hx hb dX7_told_44 rfl (lv_at hl 0 rfl) ?_
    refine va_get (D := D) (ci := 7) (v := .ref a_solid) (C := RX7) (T := TX7) (N := 6) hx hb hts iX7 hown hK hP 0 rfl rfl 0 (by decide) f13 (fun _ h9 => h9) rfl dX7_told_45 ?_
    refine va_get (D := D) (ci := 4) (v := .int v_solid_cubes) (C := RX4) (T := TX4) (N := 10) hx hb hts iX4 hown hK hP 4 rfl rfl 0 (by decide) f67 (fun _ h9 => h9) rfl dX7_told_48 ?_
    exact ret v_solid_cubes () _ _ _ 51 dX7_told_51 h hP hD hS
  replace h := h.2 hc0
  by_cases hc1 : p1 = (1 : Int32)
  · replace h := h.1 hc1
    refine lv_tableIn (tgt := 52) hx hb dX7_told_1 (by rw [hc1] <;> decide) (by rw [hc1] <;> decide) (by rw [hc1] <;> rfl) (by decide) ?_
    refine lv_aload_n hx hb dX7_told_52 rfl (lv_at hl 0 rfl) ?_
    refine va_get (D := D) (ci := 7) (v := .ref a_solid) (C := RX7) (T := TX7) (N := 6) hx hb hts iX7 hown hK hP 0 rfl rfl 0 (by decide) f13 (fun _ h9 => h9) rfl dX7_told_53 ?_
    refine va_get (D := D) (ci := 4) (v := .int v_solid_faces) (C := RX4) (T := TX4) (N := 10) hx hb hts iX4 hown hK hP 4 rfl rfl 1 (by decide) f78 (fun _ h9 => h9) rfl dX7_told_56 ?_
    exact ret v_solid_faces () _ _ _ 59 dX7_told_59 h hP hD hS
  replace h := h.2 hc1
  by_cases hc2 : p1 = (2 : Int32)
  · replace h := h.1 hc2
    refine lv_tableIn (tgt := 60) hx hb dX7_told_1 (by rw [hc2] <;> decide) (by rw [hc2] <;> decide) (by rw [hc2] <;> rfl) (by decide) ?_
    refine lv_aload_n hx hb dX7_told_60 rfl (lv_at hl 0 rfl) ?_
    refine va_get (D := D) (ci := 7) (v := .ref a_search) (C := RX7) (T := TX7) (N := 6) hx hb hts iX7 hown hK hP 0 rfl rfl 4 (by decide) f44 (fun _ h9 => h9) rfl dX7_told_61 ?_
    refine va_get (D := D) (ci := 2) (v := .int v_search_nets) (C := RX2) (T := TX2) (N := 10) hx hb hts iX2 hown hK hP 3 rfl rfl 0 (by decide) f149 (fun _ h9 => h9) rfl dX7_told_64 ?_
    exact ret v_search_nets () _ _ _ 67 dX7_told_67 h hP hD hS
  replace h := h.2 hc2
  by_cases hc3 : p1 = (3 : Int32)
  · replace h := h.1 hc3
    refine lv_tableIn (tgt := 68) hx hb dX7_told_1 (by rw [hc3] <;> decide) (by rw [hc3] <;> decide) (by rw [hc3] <;> rfl) (by decide) ?_
    refine lv_aload_n hx hb dX7_told_68 rfl (lv_at hl 0 rfl) ?_
    refine va_get (D := D) (ci := 7) (v := .ref a_album) (C := RX7) (T := TX7) (N := 6) hx hb hts iX7 hown hK hP 0 rfl rfl 3 (by decide) f35 (fun _ h9 => h9) rfl dX7_told_69 ?_
    refine va_get (D := D) (ci := 0) (v := .int v_album_count) (C := RX0) (T := TX0) (N := 7) hx hb hts iX0 hown hK hP 1 rfl rfl 0 (by decide) f84 (fun _ h9 => h9) rfl dX7_told_72 ?_
    exact ret v_album_count () _ _ _ 75 dX7_told_75 h hP hD hS
  replace h := h.2 hc3
  by_cases hc4 : p1 = (4 : Int32)
  · replace h := h.1 hc4
    refine lv_tableIn (tgt := 76) hx hb dX7_told_1 (by rw [hc4] <;> decide) (by rw [hc4] <;> decide) (by rw [hc4] <;> rfl) (by decide) ?_
    refine lv_aload_n hx hb dX7_told_76 rfl (lv_at hl 0 rfl) ?_
    refine va_get (D := D) (ci := 7) (v := .ref a_search) (C := RX7) (T := TX7) (N := 6) hx hb hts iX7 hown hK hP 0 rfl rfl 4 (by decide) f44 (fun _ h9 => h9) rfl dX7_told_77 ?_
    refine va_get (D := D) (ci := 2) (v := .int v_search_work) (C := RX2) (T := TX2) (N := 10) hx hb hts iX2 hown hK hP 3 rfl rfl 1 (by decide) f152 (fun _ h9 => h9) rfl dX7_told_80 ?_
    exact ret v_search_work () _ _ _ 83 dX7_told_83 h hP hD hS
  replace h := h.2 hc4
  by_cases hc5 : p1 = (5 : Int32)
  · replace h := h.1 hc5
    refine lv_tableIn (tgt := 84) hx hb dX7_told_1 (by rw [hc5] <;> decide) (by rw [hc5] <;> decide) (by rw [hc5] <;> rfl) (by decide) ?_
    refine lv_aload_n hx hb dX7_told_84 rfl (lv_at hl 0 rfl) ?_
    refine va_get (D := D) (ci := 7) (v := .ref a_search) (C := RX7) (T := TX7) (N := 6) hx hb hts iX7 hown hK hP 0 rfl rfl 4 (by decide) f44 (fun _ h9 => h9) rfl dX7_told_85 ?_
    refine va_get (D := D) (ci := 2) (v := .int v_search_ended) (C := RX2) (T := TX2) (N := 10) hx hb hts iX2 hown hK hP 3 rfl rfl 2 (by decide) f155 (fun _ h9 => h9) rfl dX7_told_88 ?_
    refine lv_if_eq (tgt := 98) hx hb dX7_told_91 (by decide) (fun hc => ?_) (fun hc => ?_)
    · replace h := h.1 hc
      refine lv_iconst (v := 0) hx hb dX7_told_98 (by decide) ?_
      exact ret (0 : Int32) () _ _ _ 99 dX7_told_99 h hP hD hS
    · replace h := h.2 hc
      refine lv_iconst (v := 1) hx hb dX7_told_94 (by decide) ?_
      refine lv_goto (tgt := 99) hx hb dX7_told_95 (by decide) ?_
      exact ret (1 : Int32) () _ _ _ 99 dX7_told_99 h hP hD hS
  replace h := h.2 hc5
  by_cases hc6 : p1 = (6 : Int32)
  · replace h := h.1 hc6
    refine lv_tableIn (tgt := 100) hx hb dX7_told_1 (by rw [hc6] <;> decide) (by rw [hc6] <;> decide) (by rw [hc6] <;> rfl) (by decide) ?_
    refine lv_aload_n hx hb dX7_told_100 rfl (lv_at hl 0 rfl) ?_
    refine va_get (D := D) (ci := 7) (v := .ref a_hand) (C := RX7) (T := TX7) (N := 6) hx hb hts iX7 hown hK hP 0 rfl rfl 2 (by decide) f31 (fun _ h9 => h9) rfl dX7_told_101 ?_
    refine va_get (D := D) (ci := 3) (v := .int v_hand_count) (C := RX3) (T := TX3) (N := 7) hx hb hts iX3 hown hK hP 2 rfl rfl 3 (by decide) f159 (fun _ h9 => h9) rfl dX7_told_104 ?_
    exact ret v_hand_count () _ _ _ 107 dX7_told_107 h hP hD hS
  replace h := h.2 hc6
  have hn0 := lv_neT (a := 0) hc0 (by decide)
  have hn1 := lv_neT (a := 1) hc1 (by decide)
  have hn2 := lv_neT (a := 2) hc2 (by decide)
  have hn3 := lv_neT (a := 3) hc3 (by decide)
  have hn4 := lv_neT (a := 4) hc4 (by decide)
  have hn5 := lv_neT (a := 5) hc5 (by decide)
  have hn6 := lv_neT (a := 6) hc6 (by decide)
  refine lv_tableOut (tgt := 108) hx hb dX7_told_1 (by omega) (by decide) ?_
  refine lv_iconst (v := -1) hx hb dX7_told_108 (by decide) ?_
  exact ret (-1 : Int32) () _ _ _ 109 dX7_told_109 h hP hD hS
def wd_X7_trees (cI cZ cJ : ClassId) (a_this a_solid a_solid_beyondEdge a_solid_lookOf a_treeCounter a_treeCounter_matrix a_hand a_album a_search a_wrapping a_solid_cubeOf a_solid_x a_solid_y a_solid_z a_solid_faceOf a_solid_onwardEdge : Nat) (v_solid_cubes : Int32) (v_solid_faces : Int32) (v_solid_beyondEdge : Nat → Int32) (v_solid_lookOf : Nat → Int32) (v_treeCounter_matrix : Nat → Int64) : va_W := [(a_this, .inr (7, [.ref a_solid, .ref a_treeCounter, .ref a_hand, .ref a_album, .ref a_search, .ref a_wrapping])),
  (a_solid, .inr (4, [.int v_solid_cubes, .int v_solid_faces, .ref a_solid_cubeOf, .ref a_solid_lookOf, .ref a_solid_x, .ref a_solid_y, .ref a_solid_z, .ref a_solid_faceOf, .ref a_solid_beyondEdge, .ref a_solid_onwardEdge])),
  (a_solid_beyondEdge, .inl (cI, 132, .inl v_solid_beyondEdge)),
  (a_solid_lookOf, .inl (cI, 22, .inl v_solid_lookOf)),
  (a_treeCounter, .inr (5, [.ref a_solid, .ref a_treeCounter_matrix])),
  (a_treeCounter_matrix, .inl (cJ, 441, .inr (.inl v_treeCounter_matrix)))]
abbrev rm_X7_trees : Room := { frames := 5, cells := 0, slots := 0, locals := 120 }
set_option maxHeartbeats 4000000 in
set_option maxRecDepth 100000 in
theorem c_X7_trees (l : Launch) (D : va_G) (cI cZ cJ : ClassId) (tb : Nat → Nat) (a_this a_solid a_solid_beyondEdge a_solid_lookOf a_treeCounter a_treeCounter_matrix a_hand a_album a_search a_wrapping a_solid_cubeOf a_solid_x a_solid_y a_solid_z a_solid_faceOf a_solid_onwardEdge : Nat) (v_solid_cubes : Int32) (v_solid_faces : Int32) (v_solid_beyondEdge : Nat → Int32) (v_solid_lookOf : Nat → Int32) (v_treeCounter_matrix : Nat → Int64) (sz : Nat) {post : Int64 → (Nat → Int64) → Prop} (h : wp_X7_trees v_solid_cubes v_solid_faces v_solid_beyondEdge v_solid_lookOf v_treeCounter_matrix post) : Met l yX7_trees wsX7_trees rm_X7_trees (va_Pc [.ref a_this] (q_pre D cI cZ cJ tb (wd_X7_trees cI cZ cJ a_this a_solid a_solid_beyondEdge a_solid_lookOf a_treeCounter a_treeCounter_matrix a_hand a_album a_search a_wrapping a_solid_cubeOf a_solid_x a_solid_y a_solid_z a_solid_faceOf a_solid_onwardEdge v_solid_cubes v_solid_faces v_solid_beyondEdge v_solid_lookOf v_treeCounter_matrix) sz)) (va_Ql (fun r (u : Nat → Int64) => post r u) (fun u => q_post D cI cZ cJ (va_A (wd_X7_trees cI cZ cJ a_this a_solid a_solid_beyondEdge a_solid_lookOf a_treeCounter a_treeCounter_matrix a_hand a_album a_search a_wrapping a_solid_cubeOf a_solid_x a_solid_y a_solid_z a_solid_faceOf a_solid_onwardEdge v_solid_cubes v_solid_faces v_solid_beyondEdge v_solid_lookOf v_treeCounter_matrix) sz) (wd_X7_trees cI cZ cJ a_this a_solid a_solid_beyondEdge a_solid_lookOf a_treeCounter a_treeCounter_matrix a_hand a_album a_search a_wrapping a_solid_cubeOf a_solid_x a_solid_y a_solid_z a_solid_faceOf a_solid_onwardEdge v_solid_cubes v_solid_faces v_solid_beyondEdge v_solid_lookOf u)) (va_A (wd_X7_trees cI cZ cJ a_this a_solid a_solid_beyondEdge a_solid_lookOf a_treeCounter a_treeCounter_matrix a_hand a_album a_search a_wrapping a_solid_cubeOf a_solid_x a_solid_y a_solid_z a_solid_faceOf a_solid_onwardEdge v_solid_cubes v_solid_faces v_solid_beyondEdge v_solid_lookOf v_treeCounter_matrix) sz)) 0 0 (va_A (wd_X7_trees cI cZ cJ a_this a_solid a_solid_beyondEdge a_solid_lookOf a_treeCounter a_treeCounter_matrix a_hand a_album a_search a_wrapping a_solid_cubeOf a_solid_x a_solid_y a_solid_z a_solid_faceOf a_solid_onwardEdge v_solid_cubes v_solid_faces v_solid_beyondEdge v_solid_lookOf v_treeCounter_matrix) sz) := by
  refine q_walkl (cc := cX7_trees) (maxL := 1) (own := RX7) (wd := fun (u : Nat → Int64) => (wd_X7_trees cI cZ cJ a_this a_solid a_solid_beyondEdge a_solid_lookOf a_treeCounter a_treeCounter_matrix a_hand a_album a_search a_wrapping a_solid_cubeOf a_solid_x a_solid_y a_solid_z a_solid_faceOf a_solid_onwardEdge v_solid_cubes v_solid_faces v_solid_beyondEdge v_solid_lookOf u)) (by decide) rfl rfl (Nat.le_of_ble_eq_true rfl) ?_
  intro p e s m below meth c Q A ls C hA ret hP hD hS hK hSt hNw hl
  obtain ⟨hx, hb, hml, hown, hts⟩ := id C
  replace hl : lv_has ls 1 [(0, .ref a_this)] := hl
  have f13 := hts (.fieldLink RX7 13 "NetSearch" "solid" "LNetSearch$Solid;") (by decide +kernel)
  have iX7 : ∀ w ∈ wsX70, w ∈ wsX7_trees := by decide +kernel
  have f67 := hts (.fieldLink RX7 67 "NetSearch$Solid" "cubes" "I") (by decide +kernel)
  have iX4 : ∀ w ∈ wsX40, w ∈ wsX7_trees := by decide +kernel
  have f24 := hts (.fieldLink RX7 24 "NetSearch" "treeCounter" "LNetSearch$TreeCounter;") (by decide +kernel)
  have k105 := hts (.constantLong RX7 105 (-2)) (by decide +kernel)
  unfold wp_X7_trees at h
  refine lv_aload_n hx hb dX7_trees_0 rfl (lv_at hl 0 rfl) ?_
  refine va_get (D := D) (ci := 7) (v := .ref a_solid) (C := RX7) (T := TX7) (N := 6) hx hb hts iX7 hown hK hP 0 rfl rfl 0 (by decide) f13 (fun _ h9 => h9) rfl dX7_trees_1 ?_
  refine va_get (D := D) (ci := 4) (v := .int v_solid_cubes) (C := RX4) (T := TX4) (N := 10) hx hb hts iX4 hown hK hP 1 rfl rfl 0 (by decide) f67 (fun _ h9 => h9) rfl dX7_trees_4 ?_
  refine lv_if_ne (tgt := 16) hx hb dX7_trees_7 (by decide) (fun hc => ?_) (fun hc => ?_)
  · replace h := h.1 hc
    refine lv_aload_n hx hb dX7_trees_16 rfl (lv_at hl 0 rfl) ?_
    refine va_get (D := D) (ci := 7) (v := .ref a_treeCounter) (C := RX7) (T := TX7) (N := 6) hx hb hts iX7 hown hK hP 0 rfl rfl 1 (by decide) f24 (fun _ h9 => h9) rfl dX7_trees_17 ?_
    have hPc := hP.sub (ws' := (wd_X5_count cI cZ cJ a_treeCounter a_treeCounter_matrix a_solid a_solid_beyondEdge a_solid_lookOf a_solid_cubeOf a_solid_x a_solid_y a_solid_z a_solid_faceOf a_solid_onwardEdge v_treeCounter_matrix v_solid_cubes v_solid_faces v_solid_beyondEdge v_solid_lookOf)) [4, 5, 1, 2, 3] rfl
    have hDc := hD.sub (ws' := (wd_X5_count cI cZ cJ a_treeCounter a_treeCounter_matrix a_solid a_solid_beyondEdge a_solid_lookOf a_solid_cubeOf a_solid_x a_solid_y a_solid_z a_solid_faceOf a_solid_onwardEdge v_treeCounter_matrix v_solid_cubes v_solid_faces v_solid_beyondEdge v_solid_lookOf)) [4, 5, 1, 2, 3] (by decide) rfl
    have hFc := va_free (wc := (wd_X5_count cI cZ cJ a_treeCounter a_treeCounter_matrix a_solid a_solid_beyondEdge a_solid_lookOf a_solid_cubeOf a_solid_x a_solid_y a_solid_z a_solid_faceOf a_solid_onwardEdge v_treeCounter_matrix v_solid_cubes v_solid_faces v_solid_beyondEdge v_solid_lookOf)) hD hS hA [4, 5, 1, 2, 3] rfl
    refine va_calll (va_runV (As := []) (rest := []) C (c_X5_count l D cI cZ cJ tb a_treeCounter a_treeCounter_matrix a_solid a_solid_beyondEdge a_solid_lookOf a_solid_cubeOf a_solid_x a_solid_y a_solid_z a_solid_faceOf a_solid_onwardEdge v_treeCounter_matrix v_solid_cubes v_solid_faces v_solid_beyondEdge v_solid_lookOf s.heap.size h) (cwV 0 hts gX7_trees_X5_count rfl rfl rfl (by decide +kernel) ⟨Nat.le_of_ble_eq_true rfl, Nat.le_of_ble_eq_true rfl⟩) ⟨q_pre.blind, va_recv hK hP (ci := 5) (q0 := 4) rfl rfl, fun U hU hW => ⟨rfl, q_pre.of hU hW hPc hK hDc hSt hS hFc hNw⟩⟩ rfl rfl hl.1 rfl (lv_room (Nat.le_of_ble_eq_true rfl)) dX7_trees_20 ⟨Nat.zero_le _, Nat.zero_le _⟩) hS (fun q _ h => hFc q h) hFc (fun r_1 u_2 t H1 locs ht hvm hw hB hz1 hk1 hS => ?_)
    obtain ⟨hP1, hK1, hD1⟩ := hB
    rw [ht] at hP1
    obtain ⟨hP, hD⟩ := va_join (wr := [(a_this, .inr (7, [.ref a_solid, .ref a_treeCounter, .ref a_hand, .ref a_album, .ref a_search, .ref a_wrapping]))]) (w1 := (wd_X5_count cI cZ cJ a_treeCounter a_treeCounter_matrix a_solid a_solid_beyondEdge a_solid_lookOf a_solid_cubeOf a_solid_x a_solid_y a_solid_z a_solid_faceOf a_solid_onwardEdge u_2 v_solid_cubes v_solid_faces v_solid_beyondEdge v_solid_lookOf)) hP hD [4, 5, 1, 2, 3] [0] rfl rfl (by decide) (by decide) hk1 hFc hP1 hD1
    clear hPc hDc hFc hP1 hD1 hK1 hk1 hz1 ht hvm
    replace h := hw
    clear hw
    generalize H1 = H at hP hS ⊢
    replace hP : va_P D vwCl (wd_X7_trees cI cZ cJ a_this a_solid a_solid_beyondEdge a_solid_lookOf a_treeCounter a_treeCounter_matrix a_hand a_album a_search a_wrapping a_solid_cubeOf a_solid_x a_solid_y a_solid_z a_solid_faceOf a_solid_onwardEdge v_solid_cubes v_solid_faces v_solid_beyondEdge v_solid_lookOf u_2) H := hP.sub [0, 3, 4, 5, 1, 2] rfl
    replace hD : va_D A (wd_X7_trees cI cZ cJ a_this a_solid a_solid_beyondEdge a_solid_lookOf a_treeCounter a_treeCounter_matrix a_hand a_album a_search a_wrapping a_solid_cubeOf a_solid_x a_solid_y a_solid_z a_solid_faceOf a_solid_onwardEdge v_solid_cubes v_solid_faces v_solid_beyondEdge v_solid_lookOf u_2) := hD.sub [0, 3, 4, 5, 1, 2] (by decide) rfl
    exact ret r_1 u_2 _ _ _ 23 dX7_trees_23 h hP hD hS
  · replace h := h.2 hc
    refine lv_ldc2 (v := -2) hx hb hown k105 dX7_trees_10 ?_
    refine lv_goto (tgt := 23) hx hb dX7_trees_13 (by decide) ?_
    exact ret (-2 : Int64) v_treeCounter_matrix _ _ _ 23 dX7_trees_23 h hP hD hS
def wd_X7_wraps (cI cZ cJ : ClassId) (a_this a_album a_album_numbers a_album_places a_solid a_solid_beyondEdge a_solid_lookOf a_solid_onwardEdge a_wrapping a_wrapping_beside a_wrapping_faceOn a_wrapping_imageSide a_wrapping_reached a_wrapping_sheet a_wrapping_sheet_headings a_wrapping_sheet_lies a_wrapping_sheet_taken a_wrapping_sheet_x a_wrapping_sheet_y a_treeCounter a_hand a_search a_album_imageX a_album_imageY a_album_image a_album_leastImage a_solid_cubeOf a_solid_x a_solid_y a_solid_z a_solid_faceOf : Nat) (v_album_count : Int32) (v_album_numbers : Nat → Int32) (v_album_places : Nat → Int32) (v_solid_cubes : Int32) (v_solid_faces : Int32) (v_solid_beyondEdge : Nat → Int32) (v_solid_lookOf : Nat → Int32) (v_solid_onwardEdge : Nat → Int32) (v_wrapping_reachedCount : Int32) (v_wrapping_beside : Nat → Int32) (v_wrapping_faceOn : Nat → Int32) (v_wrapping_imageSide : Nat → Int32) (v_wrapping_reached : Nat → Int32) (v_wrapping_sheet_count : Int32) (v_wrapping_sheet_headings : Nat → Int32) (v_wrapping_sheet_lies : Nat → Int32) (v_wrapping_sheet_taken : Nat → Int64) (v_wrapping_sheet_x : Nat → Int32) (v_wrapping_sheet_y : Nat → Int32) : va_W := [(a_this, .inr (7, [.ref a_solid, .ref a_treeCounter, .ref a_hand, .ref a_album, .ref a_search, .ref a_wrapping])),
  (a_album, .inr (0, [.int v_album_count, .ref a_album_places, .ref a_album_numbers, .ref a_album_imageX, .ref a_album_imageY, .ref a_album_image, .ref a_album_leastImage])),
  (a_album_numbers, .inl (cI, 1408, .inl v_album_numbers)),
  (a_album_places, .inl (cI, 64, .inl v_album_places)),
  (a_solid, .inr (4, [.int v_solid_cubes, .int v_solid_faces, .ref a_solid_cubeOf, .ref a_solid_lookOf, .ref a_solid_x, .ref a_solid_y, .ref a_solid_z, .ref a_solid_faceOf, .ref a_solid_beyondEdge, .ref a_solid_onwardEdge])),
  (a_solid_beyondEdge, .inl (cI, 132, .inl v_solid_beyondEdge)),
  (a_solid_lookOf, .inl (cI, 22, .inl v_solid_lookOf)),
  (a_solid_onwardEdge, .inl (cI, 132, .inl v_solid_onwardEdge)),
  (a_wrapping, .inr (6, [.ref a_solid, .ref a_album, .ref a_wrapping_sheet, .ref a_wrapping_imageSide, .ref a_wrapping_beside, .ref a_wrapping_reached, .ref a_wrapping_faceOn, .int v_wrapping_reachedCount])),
  (a_wrapping_beside, .inl (cI, 88, .inl v_wrapping_beside)),
  (a_wrapping_faceOn, .inl (cI, 22, .inl v_wrapping_faceOn)),
  (a_wrapping_imageSide, .inl (cI, 32, .inl v_wrapping_imageSide)),
  (a_wrapping_reached, .inl (cI, 22, .inl v_wrapping_reached)),
  (a_wrapping_sheet, .inr (3, [.ref a_wrapping_sheet_lies, .ref a_wrapping_sheet_x, .ref a_wrapping_sheet_y, .int v_wrapping_sheet_count, .ref a_solid, .ref a_wrapping_sheet_headings, .ref a_wrapping_sheet_taken])),
  (a_wrapping_sheet_headings, .inl (cI, 88, .inl v_wrapping_sheet_headings)),
  (a_wrapping_sheet_lies, .inl (cZ, 22, .inl v_wrapping_sheet_lies)),
  (a_wrapping_sheet_taken, .inl (cJ, 63, .inr (.inl v_wrapping_sheet_taken))),
  (a_wrapping_sheet_x, .inl (cI, 22, .inl v_wrapping_sheet_x)),
  (a_wrapping_sheet_y, .inl (cI, 22, .inl v_wrapping_sheet_y))]
abbrev rm_X7_wraps : Room := { frames := 6, cells := 0, slots := 0, locals := 142 }
set_option maxHeartbeats 4000000 in
set_option maxRecDepth 100000 in
theorem c_X7_wraps (l : Launch) (D : va_G) (cI cZ cJ : ClassId) (tb : Nat → Nat) (a_this a_album a_album_numbers a_album_places a_solid a_solid_beyondEdge a_solid_lookOf a_solid_onwardEdge a_wrapping a_wrapping_beside a_wrapping_faceOn a_wrapping_imageSide a_wrapping_reached a_wrapping_sheet a_wrapping_sheet_headings a_wrapping_sheet_lies a_wrapping_sheet_taken a_wrapping_sheet_x a_wrapping_sheet_y a_treeCounter a_hand a_search a_album_imageX a_album_imageY a_album_image a_album_leastImage a_solid_cubeOf a_solid_x a_solid_y a_solid_z a_solid_faceOf : Nat) (v_album_count : Int32) (v_album_numbers : Nat → Int32) (v_album_places : Nat → Int32) (v_solid_cubes : Int32) (v_solid_faces : Int32) (v_solid_beyondEdge : Nat → Int32) (v_solid_lookOf : Nat → Int32) (v_solid_onwardEdge : Nat → Int32) (v_wrapping_reachedCount : Int32) (v_wrapping_beside : Nat → Int32) (v_wrapping_faceOn : Nat → Int32) (v_wrapping_imageSide : Nat → Int32) (v_wrapping_reached : Nat → Int32) (v_wrapping_sheet_count : Int32) (v_wrapping_sheet_headings : Nat → Int32) (v_wrapping_sheet_lies : Nat → Int32) (v_wrapping_sheet_taken : Nat → Int64) (v_wrapping_sheet_x : Nat → Int32) (v_wrapping_sheet_y : Nat → Int32) (sz : Nat) (p1 : Int32) {post : Int32 → Int32 → (Nat → Int32) → (Nat → Int32) → (Nat → Int32) → Int32 → (Nat → Int32) → (Nat → Int32) → (Nat → Int64) → (Nat → Int32) → (Nat → Int32) → Prop} (h : wp_X7_wraps v_album_count v_album_numbers v_album_places v_solid_cubes v_solid_faces v_solid_beyondEdge v_solid_lookOf v_solid_onwardEdge v_wrapping_reachedCount v_wrapping_beside v_wrapping_faceOn v_wrapping_imageSide v_wrapping_reached v_wrapping_sheet_count v_wrapping_sheet_headings v_wrapping_sheet_lies v_wrapping_sheet_taken v_wrapping_sheet_x v_wrapping_sheet_y p1 post) : Met l yX7_wraps wsX7_wraps rm_X7_wraps (va_Pc [.ref a_this, .int p1] (q_pre D cI cZ cJ tb (wd_X7_wraps cI cZ cJ a_this a_album a_album_numbers a_album_places a_solid a_solid_beyondEdge a_solid_lookOf a_solid_onwardEdge a_wrapping a_wrapping_beside a_wrapping_faceOn a_wrapping_imageSide a_wrapping_reached a_wrapping_sheet a_wrapping_sheet_headings a_wrapping_sheet_lies a_wrapping_sheet_taken a_wrapping_sheet_x a_wrapping_sheet_y a_treeCounter a_hand a_search a_album_imageX a_album_imageY a_album_image a_album_leastImage a_solid_cubeOf a_solid_x a_solid_y a_solid_z a_solid_faceOf v_album_count v_album_numbers v_album_places v_solid_cubes v_solid_faces v_solid_beyondEdge v_solid_lookOf v_solid_onwardEdge v_wrapping_reachedCount v_wrapping_beside v_wrapping_faceOn v_wrapping_imageSide v_wrapping_reached v_wrapping_sheet_count v_wrapping_sheet_headings v_wrapping_sheet_lies v_wrapping_sheet_taken v_wrapping_sheet_x v_wrapping_sheet_y) sz)) (va_Qi (fun r (u : Int32 × (Nat → Int32) × (Nat → Int32) × (Nat → Int32) × Int32 × (Nat → Int32) × (Nat → Int32) × (Nat → Int64) × (Nat → Int32) × (Nat → Int32)) => post r u.1 u.2.1 u.2.2.1 u.2.2.2.1 u.2.2.2.2.1 u.2.2.2.2.2.1 u.2.2.2.2.2.2.1 u.2.2.2.2.2.2.2.1 u.2.2.2.2.2.2.2.2.1 u.2.2.2.2.2.2.2.2.2) (fun u => q_post D cI cZ cJ (va_A (wd_X7_wraps cI cZ cJ a_this a_album a_album_numbers a_album_places a_solid a_solid_beyondEdge a_solid_lookOf a_solid_onwardEdge a_wrapping a_wrapping_beside a_wrapping_faceOn a_wrapping_imageSide a_wrapping_reached a_wrapping_sheet a_wrapping_sheet_headings a_wrapping_sheet_lies a_wrapping_sheet_taken a_wrapping_sheet_x a_wrapping_sheet_y a_treeCounter a_hand a_search a_album_imageX a_album_imageY a_album_image a_album_leastImage a_solid_cubeOf a_solid_x a_solid_y a_solid_z a_solid_faceOf v_album_count v_album_numbers v_album_places v_solid_cubes v_solid_faces v_solid_beyondEdge v_solid_lookOf v_solid_onwardEdge v_wrapping_reachedCount v_wrapping_beside v_wrapping_faceOn v_wrapping_imageSide v_wrapping_reached v_wrapping_sheet_count v_wrapping_sheet_headings v_wrapping_sheet_lies v_wrapping_sheet_taken v_wrapping_sheet_x v_wrapping_sheet_y) sz) (wd_X7_wraps cI cZ cJ a_this a_album a_album_numbers a_album_places a_solid a_solid_beyondEdge a_solid_lookOf a_solid_onwardEdge a_wrapping a_wrapping_beside a_wrapping_faceOn a_wrapping_imageSide a_wrapping_reached a_wrapping_sheet a_wrapping_sheet_headings a_wrapping_sheet_lies a_wrapping_sheet_taken a_wrapping_sheet_x a_wrapping_sheet_y a_treeCounter a_hand a_search a_album_imageX a_album_imageY a_album_image a_album_leastImage a_solid_cubeOf a_solid_x a_solid_y a_solid_z a_solid_faceOf v_album_count v_album_numbers v_album_places v_solid_cubes v_solid_faces v_solid_beyondEdge v_solid_lookOf v_solid_onwardEdge u.1 u.2.1 u.2.2.1 v_wrapping_imageSide u.2.2.2.1 u.2.2.2.2.1 u.2.2.2.2.2.1 u.2.2.2.2.2.2.1 u.2.2.2.2.2.2.2.1 u.2.2.2.2.2.2.2.2.1 u.2.2.2.2.2.2.2.2.2)) (va_A (wd_X7_wraps cI cZ cJ a_this a_album a_album_numbers a_album_places a_solid a_solid_beyondEdge a_solid_lookOf a_solid_onwardEdge a_wrapping a_wrapping_beside a_wrapping_faceOn a_wrapping_imageSide a_wrapping_reached a_wrapping_sheet a_wrapping_sheet_headings a_wrapping_sheet_lies a_wrapping_sheet_taken a_wrapping_sheet_x a_wrapping_sheet_y a_treeCounter a_hand a_search a_album_imageX a_album_imageY a_album_image a_album_leastImage a_solid_cubeOf a_solid_x a_solid_y a_solid_z a_solid_faceOf v_album_count v_album_numbers v_album_places v_solid_cubes v_solid_faces v_solid_beyondEdge v_solid_lookOf v_solid_onwardEdge v_wrapping_reachedCount v_wrapping_beside v_wrapping_faceOn v_wrapping_imageSide v_wrapping_reached v_wrapping_sheet_count v_wrapping_sheet_headings v_wrapping_sheet_lies v_wrapping_sheet_taken v_wrapping_sheet_x v_wrapping_sheet_y) sz)) 0 0 (va_A (wd_X7_wraps cI cZ cJ a_this a_album a_album_numbers a_album_places a_solid a_solid_beyondEdge a_solid_lookOf a_solid_onwardEdge a_wrapping a_wrapping_beside a_wrapping_faceOn a_wrapping_imageSide a_wrapping_reached a_wrapping_sheet a_wrapping_sheet_headings a_wrapping_sheet_lies a_wrapping_sheet_taken a_wrapping_sheet_x a_wrapping_sheet_y a_treeCounter a_hand a_search a_album_imageX a_album_imageY a_album_image a_album_leastImage a_solid_cubeOf a_solid_x a_solid_y a_solid_z a_solid_faceOf v_album_count v_album_numbers v_album_places v_solid_cubes v_solid_faces v_solid_beyondEdge v_solid_lookOf v_solid_onwardEdge v_wrapping_reachedCount v_wrapping_beside v_wrapping_faceOn v_wrapping_imageSide v_wrapping_reached v_wrapping_sheet_count v_wrapping_sheet_headings v_wrapping_sheet_lies v_wrapping_sheet_taken v_wrapping_sheet_x v_wrapping_sheet_y) sz) := by
  refine q_walki (cc := cX7_wraps) (maxL := 2) (own := RX7) (wd := fun (u : Int32 × (Nat → Int32) × (Nat → Int32) × (Nat → Int32) × Int32 × (Nat → Int32) × (Nat → Int32) × (Nat → Int64) × (Nat → Int32) × (Nat → Int32)) => (wd_X7_wraps cI cZ cJ a_this a_album a_album_numbers a_album_places a_solid a_solid_beyondEdge a_solid_lookOf a_solid_onwardEdge a_wrapping a_wrapping_beside a_wrapping_faceOn a_wrapping_imageSide a_wrapping_reached a_wrapping_sheet a_wrapping_sheet_headings a_wrapping_sheet_lies a_wrapping_sheet_taken a_wrapping_sheet_x a_wrapping_sheet_y a_treeCounter a_hand a_search a_album_imageX a_album_imageY a_album_image a_album_leastImage a_solid_cubeOf a_solid_x a_solid_y a_solid_z a_solid_faceOf v_album_count v_album_numbers v_album_places v_solid_cubes v_solid_faces v_solid_beyondEdge v_solid_lookOf v_solid_onwardEdge u.1 u.2.1 u.2.2.1 v_wrapping_imageSide u.2.2.2.1 u.2.2.2.2.1 u.2.2.2.2.2.1 u.2.2.2.2.2.2.1 u.2.2.2.2.2.2.2.1 u.2.2.2.2.2.2.2.2.1 u.2.2.2.2.2.2.2.2.2)) (by decide) rfl rfl (Nat.le_of_ble_eq_true rfl) ?_
  intro p e s m below meth c Q A ls C hA ret hP hD hS hK hSt hNw hl
  obtain ⟨hx, hb, hml, hown, hts⟩ := id C
  replace hl : lv_has ls 2 [(0, .ref a_this), (1, .int p1)] := hl
  have f13 := hts (.fieldLink RX7 13 "NetSearch" "solid" "LNetSearch$Solid;") (by decide +kernel)
  have iX7 : ∀ w ∈ wsX70, w ∈ wsX7_wraps := by decide +kernel
  have f67 := hts (.fieldLink RX7 67 "NetSearch$Solid" "cubes" "I") (by decide +kernel)
  have iX4 : ∀ w ∈ wsX40, w ∈ wsX7_wraps := by decide +kernel
  have f51 := hts (.fieldLink RX7 51 "NetSearch" "wrapping" "LNetSearch$Wrapping;") (by decide +kernel)
  unfold wp_X7_wraps at h
  refine lv_aload_n hx hb dX7_wraps_0 rfl (lv_at hl 0 rfl) ?_
  refine lv_iload_n hx hb dX7_wraps_1 rfl (lv_at hl 1 rfl) ?_
  have hPc := hP.sub (ws' := (wd_X7_isShape cI cZ cJ a_this a_album a_solid a_treeCounter a_hand a_search a_wrapping a_album_places a_album_numbers a_album_imageX a_album_imageY a_album_image a_album_leastImage v_album_count)) [0, 1] rfl
  have hDc := hD.sub (ws' := (wd_X7_isShape cI cZ cJ a_this a_album a_solid a_treeCounter a_hand a_search a_wrapping a_album_places a_album_numbers a_album_imageX a_album_imageY a_album_image a_album_leastImage v_album_count)) [0, 1] (by decide) rfl
  have hFc := va_free (wc := (wd_X7_isShape cI cZ cJ a_this a_album a_solid a_treeCounter a_hand a_search a_wrapping a_album_places a_album_numbers a_album_imageX a_album_imageY a_album_image a_album_leastImage v_album_count)) hD hS hA [0, 1] rfl
  refine va_calli (va_runV (As := [.int p1]) (rest := []) C (c_X7_isShape l D cI cZ cJ tb a_this a_album a_solid a_treeCounter a_hand a_search a_wrapping a_album_places a_album_numbers a_album_imageX a_album_imageY a_album_image a_album_leastImage v_album_count s.heap.size p1 h) (cwV 1 hts gX7_wraps_X7_isShape rfl rfl rfl (by decide +kernel) ⟨Nat.le_of_ble_eq_true rfl, Nat.le_of_ble_eq_true rfl⟩) ⟨q_pre.blind, va_recv hK hP (ci := 7) (q0 := 0) rfl rfl, fun U hU hW => ⟨rfl, q_pre.of hU hW hPc hK hDc hSt hS hFc hNw⟩⟩ rfl rfl hl.1 rfl (lv_room (Nat.le_of_ble_eq_true rfl)) dX7_wraps_2 ⟨Nat.zero_le _, Nat.zero_le _⟩) hS (fun q _ h => hFc q h) hFc (fun r_1 u_2 t H1 locs ht hvm hw hB hz1 hk1 hS => ?_)
  obtain ⟨hP1, hK1, hD1⟩ := hB
  rw [ht] at hP1
  obtain ⟨hP, hD⟩ := va_join (wr := [(a_album_numbers, .inl (cI, 1408, .inl v_album_numbers)), (a_album_places, .inl (cI, 64, .inl v_album_places)), (a_solid, .inr (4, [.int v_solid_cubes, .int v_solid_faces, .ref a_solid_cubeOf, .ref a_solid_lookOf, .ref a_solid_x, .ref a_solid_y, .ref a_solid_z, .ref a_solid_faceOf, .ref a_solid_beyondEdge, .ref a_solid_onwardEdge])), (a_solid_beyondEdge, .inl (cI, 132, .inl v_solid_beyondEdge)), (a_solid_lookOf, .inl (cI, 22, .inl v_solid_lookOf)), (a_solid_onwardEdge, .inl (cI, 132, .inl v_solid_onwardEdge)), (a_wrapping, .inr (6, [.ref a_solid, .ref a_album, .ref a_wrapping_sheet, .ref a_wrapping_imageSide, .ref a_wrapping_beside, .ref a_wrapping_reached, .ref a_wrapping_faceOn, .int v_wrapping_reachedCount])), (a_wrapping_beside, .inl (cI, 88, .inl v_wrapping_beside)), (a_wrapping_faceOn, .inl (cI, 22, .inl v_wrapping_faceOn)), (a_wrapping_imageSide, .inl (cI, 32, .inl v_wrapping_imageSide)), (a_wrapping_reached, .inl (cI, 22, .inl v_wrapping_reached)), (a_wrapping_sheet, .inr (3, [.ref a_wrapping_sheet_lies, .ref a_wrapping_sheet_x, .ref a_wrapping_sheet_y, .int v_wrapping_sheet_count, .ref a_solid, .ref a_wrapping_sheet_headings, .ref a_wrapping_sheet_taken])), (a_wrapping_sheet_headings, .inl (cI, 88, .inl v_wrapping_sheet_headings)), (a_wrapping_sheet_lies, .inl (cZ, 22, .inl v_wrapping_sheet_lies)), (a_wrapping_sheet_taken, .inl (cJ, 63, .inr (.inl v_wrapping_sheet_taken))), (a_wrapping_sheet_x, .inl (cI, 22, .inl v_wrapping_sheet_x)), (a_wrapping_sheet_y, .inl (cI, 22, .inl v_wrapping_sheet_y))]) (w1 := (wd_X7_isShape cI cZ cJ a_this a_album a_solid a_treeCounter a_hand a_search a_wrapping a_album_places a_album_numbers a_album_imageX a_album_imageY a_album_image a_album_leastImage v_album_count)) hP hD [0, 1] [2, 3, 4, 5, 6, 7, 8, 9, 10, 11, 12, 13, 14, 15, 16, 17, 18] rfl rfl (by decide) (by decide) hk1 hFc hP1 hD1
  clear hPc hDc hFc hP1 hD1 hK1 hk1 hz1 ht hvm
  replace h := hw
  clear hw
  generalize H1 = H at hP hS ⊢
  replace hP : va_P D vwCl (wd_X7_wraps cI cZ cJ a_this a_album a_album_numbers a_album_places a_solid a_solid_beyondEdge a_solid_lookOf a_solid_onwardEdge a_wrapping a_wrapping_beside a_wrapping_faceOn a_wrapping_imageSide a_wrapping_reached a_wrapping_sheet a_wrapping_sheet_headings a_wrapping_sheet_lies a_wrapping_sheet_taken a_wrapping_sheet_x a_wrapping_sheet_y a_treeCounter a_hand a_search a_album_imageX a_album_imageY a_album_image a_album_leastImage a_solid_cubeOf a_solid_x a_solid_y a_solid_z a_solid_faceOf v_album_count v_album_numbers v_album_places v_solid_cubes v_solid_faces v_solid_beyondEdge v_solid_lookOf v_solid_onwardEdge v_wrapping_reachedCount v_wrapping_beside v_wrapping_faceOn v_wrapping_imageSide v_wrapping_reached v_wrapping_sheet_count v_wrapping_sheet_headings v_wrapping_sheet_lies v_wrapping_sheet_taken v_wrapping_sheet_x v_wrapping_sheet_y) H := hP.sub [17, 18, 0, 1, 2, 3, 4, 5, 6, 7, 8, 9, 10, 11, 12, 13, 14, 15, 16] rfl
  replace hD : va_D A (wd_X7_wraps cI cZ cJ a_this a_album a_album_numbers a_album_places a_solid a_solid_beyondEdge a_solid_lookOf a_solid_onwardEdge a_wrapping a_wrapping_beside a_wrapping_faceOn a_wrapping_imageSide a_wrapping_reached a_wrapping_sheet a_wrapping_sheet_headings a_wrapping_sheet_lies a_wrapping_sheet_taken a_wrapping_sheet_x a_wrapping_sheet_y a_treeCounter a_hand a_search a_album_imageX a_album_imageY a_album_image a_album_leastImage a_solid_cubeOf a_solid_x a_solid_y a_solid_z a_solid_faceOf v_album_count v_album_numbers v_album_places v_solid_cubes v_solid_faces v_solid_beyondEdge v_solid_lookOf v_solid_onwardEdge v_wrapping_reachedCount v_wrapping_beside v_wrapping_faceOn v_wrapping_imageSide v_wrapping_reached v_wrapping_sheet_count v_wrapping_sheet_headings v_wrapping_sheet_lies v_wrapping_sheet_taken v_wrapping_sheet_x v_wrapping_sheet_y) := hD.sub [17, 18, 0, 1, 2, 3, 4, 5, 6, 7, 8, 9, 10, 11, 12, 13, 14, 15, 16] (by decide) rfl
  refine lv_if_ne (tgt := 10) hx hb dX7_wraps_5 (by decide) (fun hc => ?_) (fun hc => ?_)
  · replace h := h.1 hc
    refine lv_aload_n hx hb dX7_wraps_10 rfl (lv_at hl 0 rfl) ?_
    refine va_get (D := D) (ci := 7) (v := .ref a_solid) (C := RX7) (T := TX7) (N := 6) hx hb hts iX7 hown hK hP 0 rfl rfl 0 (by decide) f13 (fun _ h9 => h9) rfl dX7_wraps_11 ?_
    refine va_get (D := D) (ci := 4) (v := .int v_solid_cubes) (C := RX4) (T := TX4) (N := 10) hx hb hts iX4 hown hK hP 4 rfl rfl 0 (by decide) f67 (fun _ h9 => h9) rfl dX7_wraps_14 ?_
    refine lv_if_ne (tgt := 25) hx hb dX7_wraps_17 (by decide) (fun hc => ?_) (fun hc => ?_)
    · replace h := h.1 hc
      refine lv_aload_n hx hb dX7_wraps_25 rfl (lv_at hl 0 rfl) ?_
      refine va_get (D := D) (ci := 7) (v := .ref a_wrapping) (C := RX7) (T := TX7) (N := 6) hx hb hts iX7 hown hK hP 0 rfl rfl 5 (by decide) f51 (fun _ h9 => h9) rfl dX7_wraps_26 ?_
      refine lv_iload_n hx hb dX7_wraps_29 rfl (lv_at hl 1 rfl) ?_
      have hPc := hP.sub (ws' := (wd_X6_countWays cI cZ cJ a_wrapping a_album a_album_numbers a_album_places a_wrapping_beside a_wrapping_faceOn a_wrapping_imageSide a_wrapping_reached a_wrapping_sheet a_wrapping_sheet_headings a_wrapping_sheet_lies a_wrapping_sheet_taken a_wrapping_sheet_x a_wrapping_sheet_y a_solid a_solid_beyondEdge a_solid_lookOf a_solid_onwardEdge a_album_imageX a_album_imageY a_album_image a_album_leastImage a_solid_cubeOf a_solid_x a_solid_y a_solid_z a_solid_faceOf v_wrapping_reachedCount v_album_count v_album_numbers v_album_places v_wrapping_beside v_wrapping_faceOn v_wrapping_imageSide v_wrapping_reached v_wrapping_sheet_count v_wrapping_sheet_headings v_wrapping_sheet_lies v_wrapping_sheet_taken v_wrapping_sheet_x v_wrapping_sheet_y v_solid_cubes v_solid_faces v_solid_beyondEdge v_solid_lookOf v_solid_onwardEdge)) [8, 1, 2, 3, 9, 10, 11, 12, 13, 14, 15, 16, 17, 18, 4, 5, 6, 7] rfl
      have hDc := hD.sub (ws' := (wd_X6_countWays cI cZ cJ a_wrapping a_album a_album_numbers a_album_places a_wrapping_beside a_wrapping_faceOn a_wrapping_imageSide a_wrapping_reached a_wrapping_sheet a_wrapping_sheet_headings a_wrapping_sheet_lies a_wrapping_sheet_taken a_wrapping_sheet_x a_wrapping_sheet_y a_solid a_solid_beyondEdge a_solid_lookOf a_solid_onwardEdge a_album_imageX a_album_imageY a_album_image a_album_leastImage a_solid_cubeOf a_solid_x a_solid_y a_solid_z a_solid_faceOf v_wrapping_reachedCount v_album_count v_album_numbers v_album_places v_wrapping_beside v_wrapping_faceOn v_wrapping_imageSide v_wrapping_reached v_wrapping_sheet_count v_wrapping_sheet_headings v_wrapping_sheet_lies v_wrapping_sheet_taken v_wrapping_sheet_x v_wrapping_sheet_y v_solid_cubes v_solid_faces v_solid_beyondEdge v_solid_lookOf v_solid_onwardEdge)) [8, 1, 2, 3, 9, 10, 11, 12, 13, 14, 15, 16, 17, 18, 4, 5, 6, 7] (by decide) rfl
      have hFc := va_free (wc := (wd_X6_countWays cI cZ cJ a_wrapping a_album a_album_numbers a_album_places a_wrapping_beside a_wrapping_faceOn a_wrapping_imageSide a_wrapping_reached a_wrapping_sheet a_wrapping_sheet_headings a_wrapping_sheet_lies a_wrapping_sheet_taken a_wrapping_sheet_x a_wrapping_sheet_y a_solid a_solid_beyondEdge a_solid_lookOf a_solid_onwardEdge a_album_imageX a_album_imageY a_album_image a_album_leastImage a_solid_cubeOf a_solid_x a_solid_y a_solid_z a_solid_faceOf v_wrapping_reachedCount v_album_count v_album_numbers v_album_places v_wrapping_beside v_wrapping_faceOn v_wrapping_imageSide v_wrapping_reached v_wrapping_sheet_count v_wrapping_sheet_headings v_wrapping_sheet_lies v_wrapping_sheet_taken v_wrapping_sheet_x v_wrapping_sheet_y v_solid_cubes v_solid_faces v_solid_beyondEdge v_solid_lookOf v_solid_onwardEdge)) hD hS hA [8, 1, 2, 3, 9, 10, 11, 12, 13, 14, 15, 16, 17, 18, 4, 5, 6, 7] rfl
      refine va_calli (va_runV (As := [.int p1]) (rest := []) C (c_X6_countWays l D cI cZ cJ tb a_wrapping a_album a_album_numbers a_album_places a_wrapping_beside a_wrapping_faceOn a_wrapping_imageSide a_wrapping_reached a_wrapping_sheet a_wrapping_sheet_headings a_wrapping_sheet_lies a_wrapping_sheet_taken a_wrapping_sheet_x a_wrapping_sheet_y a_solid a_solid_beyondEdge a_solid_lookOf a_solid_onwardEdge a_album_imageX a_album_imageY a_album_image a_album_leastImage a_solid_cubeOf a_solid_x a_solid_y a_solid_z a_solid_faceOf v_wrapping_reachedCount v_album_count v_album_numbers v_album_places v_wrapping_beside v_wrapping_faceOn v_wrapping_imageSide v_wrapping_reached v_wrapping_sheet_count v_wrapping_sheet_headings v_wrapping_sheet_lies v_wrapping_sheet_taken v_wrapping_sheet_x v_wrapping_sheet_y v_solid_cubes v_solid_faces v_solid_beyondEdge v_solid_lookOf v_solid_onwardEdge H.size p1 h) (cwV 1 hts gX7_wraps_X6_countWays rfl rfl rfl (by decide +kernel) ⟨Nat.le_of_ble_eq_true rfl, Nat.le_of_ble_eq_true rfl⟩) ⟨q_pre.blind, va_recv hK hP (ci := 6) (q0 := 8) rfl rfl, fun U hU hW => ⟨rfl, q_pre.of hU hW hPc hK hDc hSt hS hFc hNw⟩⟩ rfl rfl hl.1 rfl (lv_room (Nat.le_of_ble_eq_true rfl)) dX7_wraps_30 ⟨Nat.zero_le _, Nat.zero_le _⟩) hS (fun q _ h => hFc q h) hFc (fun r_3 u_4 t H1 locs ht hvm hw hB hz1 hk1 hS => ?_)
      obtain ⟨hP1, hK1, hD1⟩ := hB
      rw [ht] at hP1
      obtain ⟨hP, hD⟩ := va_join (wr := [(a_this, .inr (7, [.ref a_solid, .ref a_treeCounter, .ref a_hand, .ref a_album, .ref a_search, .ref a_wrapping]))]) (w1 := (wd_X6_countWays cI cZ cJ a_wrapping a_album a_album_numbers a_album_places a_wrapping_beside a_wrapping_faceOn a_wrapping_imageSide a_wrapping_reached a_wrapping_sheet a_wrapping_sheet_headings a_wrapping_sheet_lies a_wrapping_sheet_taken a_wrapping_sheet_x a_wrapping_sheet_y a_solid a_solid_beyondEdge a_solid_lookOf a_solid_onwardEdge a_album_imageX a_album_imageY a_album_image a_album_leastImage a_solid_cubeOf a_solid_x a_solid_y a_solid_z a_solid_faceOf u_4.1 v_album_count v_album_numbers v_album_places u_4.2.1 u_4.2.2.1 v_wrapping_imageSide u_4.2.2.2.1 u_4.2.2.2.2.1 u_4.2.2.2.2.2.1 u_4.2.2.2.2.2.2.1 u_4.2.2.2.2.2.2.2.1 u_4.2.2.2.2.2.2.2.2.1 u_4.2.2.2.2.2.2.2.2.2 v_solid_cubes v_solid_faces v_solid_beyondEdge v_solid_lookOf v_solid_onwardEdge)) hP hD [8, 1, 2, 3, 9, 10, 11, 12, 13, 14, 15, 16, 17, 18, 4, 5, 6, 7] [0] rfl rfl (by decide) (by decide) hk1 hFc hP1 hD1
      clear hPc hDc hFc hP1 hD1 hK1 hk1 hz1 ht hvm
      replace h := hw
      clear hw
      generalize H1 = H at hP hS ⊢
      replace hP : va_P D vwCl (wd_X7_wraps cI cZ cJ a_this a_album a_album_numbers a_album_places a_solid a_solid_beyondEdge a_solid_lookOf a_solid_onwardEdge a_wrapping a_wrapping_beside a_wrapping_faceOn a_wrapping_imageSide a_wrapping_reached a_wrapping_sheet a_wrapping_sheet_headings a_wrapping_sheet_lies a_wrapping_sheet_taken a_wrapping_sheet_x a_wrapping_sheet_y a_treeCounter a_hand a_search a_album_imageX a_album_imageY a_album_image a_album_leastImage a_solid_cubeOf a_solid_x a_solid_y a_solid_z a_solid_faceOf v_album_count v_album_numbers v_album_places v_solid_cubes v_solid_faces v_solid_beyondEdge v_solid_lookOf v_solid_onwardEdge u_4.1 u_4.2.1 u_4.2.2.1 v_wrapping_imageSide u_4.2.2.2.1 u_4.2.2.2.2.1 u_4.2.2.2.2.2.1 u_4.2.2.2.2.2.2.1 u_4.2.2.2.2.2.2.2.1 u_4.2.2.2.2.2.2.2.2.1 u_4.2.2.2.2.2.2.2.2.2) H := hP.sub [0, 2, 3, 4, 15, 16, 17, 18, 1, 5, 6, 7, 8, 9, 10, 11, 12, 13, 14] rfl
      replace hD : va_D A (wd_X7_wraps cI cZ cJ a_this a_album a_album_numbers a_album_places a_solid a_solid_beyondEdge a_solid_lookOf a_solid_onwardEdge a_wrapping a_wrapping_beside a_wrapping_faceOn a_wrapping_imageSide a_wrapping_reached a_wrapping_sheet a_wrapping_sheet_headings a_wrapping_sheet_lies a_wrapping_sheet_taken a_wrapping_sheet_x a_wrapping_sheet_y a_treeCounter a_hand a_search a_album_imageX a_album_imageY a_album_image a_album_leastImage a_solid_cubeOf a_solid_x a_solid_y a_solid_z a_solid_faceOf v_album_count v_album_numbers v_album_places v_solid_cubes v_solid_faces v_solid_beyondEdge v_solid_lookOf v_solid_onwardEdge u_4.1 u_4.2.1 u_4.2.2.1 v_wrapping_imageSide u_4.2.2.2.1 u_4.2.2.2.2.1 u_4.2.2.2.2.2.1 u_4.2.2.2.2.2.2.1 u_4.2.2.2.2.2.2.2.1 u_4.2.2.2.2.2.2.2.2.1 u_4.2.2.2.2.2.2.2.2.2) := hD.sub [0, 2, 3, 4, 15, 16, 17, 18, 1, 5, 6, 7, 8, 9, 10, 11, 12, 13, 14] (by decide) rfl
      exact ret r_3 (u_4.1, u_4.2.1, u_4.2.2.1, u_4.2.2.2.1, u_4.2.2.2.2.1, u_4.2.2.2.2.2.1, u_4.2.2.2.2.2.2.1, u_4.2.2.2.2.2.2.2.1, u_4.2.2.2.2.2.2.2.2.1, u_4.2.2.2.2.2.2.2.2.2) _ _ _ 33 dX7_wraps_33 h hP hD hS
    · replace h := h.2 hc
      refine lv_bipush (v := -2) hx hb dX7_wraps_20 (by decide) ?_
      refine lv_goto (tgt := 33) hx hb dX7_wraps_22 (by decide) ?_
      exact ret (-2 : Int32) (v_wrapping_reachedCount, v_wrapping_beside, v_wrapping_faceOn, v_wrapping_reached, v_wrapping_sheet_count, v_wrapping_sheet_headings, v_wrapping_sheet_lies, v_wrapping_sheet_taken, v_wrapping_sheet_x, v_wrapping_sheet_y) _ _ _ 33 dX7_wraps_33 h hP hD hS
  · replace h := h.2 hc
    refine lv_iconst (v := -1) hx hb dX7_wraps_8 (by decide) ?_
    exact ret (-1 : Int32) (v_wrapping_reachedCount, v_wrapping_beside, v_wrapping_faceOn, v_wrapping_reached, v_wrapping_sheet_count, v_wrapping_sheet_headings, v_wrapping_sheet_lies, v_wrapping_sheet_taken, v_wrapping_sheet_x, v_wrapping_sheet_y) _ _ _ 9 dX7_wraps_9 h hP hD hS
def wd_X8_isFace (cI cZ cJ : ClassId) (a_this a_cubeX a_cubeY a_cubeZ a_cubeOf a_looks a_lies a_handX a_handY a_handRight a_handUp a_order a_choice a_has a_atX a_atY a_right a_up a_bestX a_bestY a_shapeSize a_shapeRow a_nextFace a_leads a_grid a_imageX a_imageY a_row a_bestRow a_on a_onRight a_onUp a_queue : Nat) (v_cubes : Int32) (v_faces : Int32) (v_laid : Int32) (v_count : Int32) (v_step : Int32) (v_ended : Int32) (v_nets : Int32) (v_work : Int32) (v_bestWidth : Int32) (v_bestHeight : Int32) (v_bestNet : Int32) (v_shapes : Int32) : va_W := [(a_this, .inr (8, [.int v_cubes, .ref a_cubeX, .ref a_cubeY, .ref a_cubeZ, .int v_faces, .ref a_cubeOf, .ref a_looks, .int v_laid, .ref a_lies, .ref a_handX, .ref a_handY, .ref a_handRight, .ref a_handUp, .int v_count, .ref a_order, .ref a_choice, .ref a_has, .ref a_atX, .ref a_atY, .ref a_right, .ref a_up, .int v_step, .int v_ended, .int v_nets, .int v_work, .int v_bestWidth, .int v_bestHeight, .int v_bestNet, .ref a_bestX, .ref a_bestY, .int v_shapes, .ref a_shapeSize, .ref a_shapeRow, .ref a_nextFace, .ref a_leads, .ref a_grid, .ref a_imageX, .ref a_imageY, .ref a_row, .ref a_bestRow, .ref a_on, .ref a_onRight, .ref a_onUp, .ref a_queue]))]
abbrev rm_X8_isFace : Room := { frames := 0, cells := 0, slots := 0, locals := 0 }
set_option maxHeartbeats 4000000 in
set_option maxRecDepth 100000 in
theorem c_X8_isFace (l : Launch) (D : va_G) (cI cZ cJ : ClassId) (tb : Nat → Nat) (a_this a_cubeX a_cubeY a_cubeZ a_cubeOf a_looks a_lies a_handX a_handY a_handRight a_handUp a_order a_choice a_has a_atX a_atY a_right a_up a_bestX a_bestY a_shapeSize a_shapeRow a_nextFace a_leads a_grid a_imageX a_imageY a_row a_bestRow a_on a_onRight a_onUp a_queue : Nat) (v_cubes : Int32) (v_faces : Int32) (v_laid : Int32) (v_count : Int32) (v_step : Int32) (v_ended : Int32) (v_nets : Int32) (v_work : Int32) (v_bestWidth : Int32) (v_bestHeight : Int32) (v_bestNet : Int32) (v_shapes : Int32) (sz : Nat) (p1 : Int32) {post : Int32 → Prop} (h : wp_X8_isFace v_faces p1 post) : Met l yX8_isFace wsX8_isFace rm_X8_isFace (va_Pc [.ref a_this, .int p1] (q_pre D cI cZ cJ tb (wd_X8_isFace cI cZ cJ a_this a_cubeX a_cubeY a_cubeZ a_cubeOf a_looks a_lies a_handX a_handY a_handRight a_handUp a_order a_choice a_has a_atX a_atY a_right a_up a_bestX a_bestY a_shapeSize a_shapeRow a_nextFace a_leads a_grid a_imageX a_imageY a_row a_bestRow a_on a_onRight a_onUp a_queue v_cubes v_faces v_laid v_count v_step v_ended v_nets v_work v_bestWidth v_bestHeight v_bestNet v_shapes) sz)) (va_Qi (fun r (u : Unit) => post r) (fun u => q_post D cI cZ cJ (va_A (wd_X8_isFace cI cZ cJ a_this a_cubeX a_cubeY a_cubeZ a_cubeOf a_looks a_lies a_handX a_handY a_handRight a_handUp a_order a_choice a_has a_atX a_atY a_right a_up a_bestX a_bestY a_shapeSize a_shapeRow a_nextFace a_leads a_grid a_imageX a_imageY a_row a_bestRow a_on a_onRight a_onUp a_queue v_cubes v_faces v_laid v_count v_step v_ended v_nets v_work v_bestWidth v_bestHeight v_bestNet v_shapes) sz) (wd_X8_isFace cI cZ cJ a_this a_cubeX a_cubeY a_cubeZ a_cubeOf a_looks a_lies a_handX a_handY a_handRight a_handUp a_order a_choice a_has a_atX a_atY a_right a_up a_bestX a_bestY a_shapeSize a_shapeRow a_nextFace a_leads a_grid a_imageX a_imageY a_row a_bestRow a_on a_onRight a_onUp a_queue v_cubes v_faces v_laid v_count v_step v_ended v_nets v_work v_bestWidth v_bestHeight v_bestNet v_shapes)) (va_A (wd_X8_isFace cI cZ cJ a_this a_cubeX a_cubeY a_cubeZ a_cubeOf a_looks a_lies a_handX a_handY a_handRight a_handUp a_order a_choice a_has a_atX a_atY a_right a_up a_bestX a_bestY a_shapeSize a_shapeRow a_nextFace a_leads a_grid a_imageX a_imageY a_row a_bestRow a_on a_onRight a_onUp a_queue v_cubes v_faces v_laid v_count v_step v_ended v_nets v_work v_bestWidth v_bestHeight v_bestNet v_shapes) sz)) 0 0 (va_A (wd_X8_isFace cI cZ cJ a_this a_cubeX a_cubeY a_cubeZ a_cubeOf a_looks a_lies a_handX a_handY a_handRight a_handUp a_order a_choice a_has a_atX a_atY a_right a_up a_bestX a_bestY a_shapeSize a_shapeRow a_nextFace a_leads a_grid a_imageX a_imageY a_row a_bestRow a_on a_onRight a_onUp a_queue v_cubes v_faces v_laid v_count v_step v_ended v_nets v_work v_bestWidth v_bestHeight v_bestNet v_shapes) sz) := by
  refine q_walkz (cc := cX8_isFace) (maxL := 2) (own := RX8) (wd := fun (u : Unit) => (wd_X8_isFace cI cZ cJ a_this a_cubeX a_cubeY a_cubeZ a_cubeOf a_looks a_lies a_handX a_handY a_handRight a_handUp a_order a_choice a_has a_atX a_atY a_right a_up a_bestX a_bestY a_shapeSize a_shapeRow a_nextFace a_leads a_grid a_imageX a_imageY a_row a_bestRow a_on a_onRight a_onUp a_queue v_cubes v_faces v_laid v_count v_step v_ended v_nets v_work v_bestWidth v_bestHeight v_bestNet v_shapes)) (by decide) rfl rfl (Nat.le_of_ble_eq_true rfl) ?_
  intro p e s m below meth c Q A ls C hA ret hP hD hS hK hSt hNw hl
  obtain ⟨hx, hb, hml, hown, hts⟩ := id C
  replace hl : lv_has ls 2 [(0, .ref a_this), (1, .int p1)] := hl
  have f115 := hts (.fieldLink RX8 115 "NetSearchModel" "faces" "I") (by decide +kernel)
  have iX8 : ∀ w ∈ wsX80, w ∈ wsX8_isFace := by decide +kernel
  unfold wp_X8_isFace at h
  refine lv_iload_n hx hb dX8_isFace_0 rfl (lv_at hl 1 rfl) ?_
  refine lv_if_lt (tgt := 16) hx hb dX8_isFace_1 (by decide) (fun hc => ?_) (fun hc => ?_)
  · replace h := h.1 hc
    refine lv_iconst (v := 0) hx hb dX8_isFace_16 (by decide) ?_
    exact ret (0 : Int32) () _ _ _ 17 dX8_isFace_17 ⟨by decide, h⟩ hP hD hS
  · replace h := h.2 hc
    refine lv_iload_n hx hb dX8_isFace_4 rfl (lv_at hl 1 rfl) ?_
    refine lv_aload_n hx hb dX8_isFace_5 rfl (lv_at hl 0 rfl) ?_
    refine va_get (D := D) (ci := 8) (v := .int v_faces) (C := RX8) (T := TX8) (N := 44) hx hb hts iX8 hown hK hP 0 rfl rfl 4 (by decide) f115 (fun _ h9 => h9) rfl dX8_isFace_6 ?_
    refine lv_icmp_ge (tgt := 16) hx hb dX8_isFace_9 (by decide) (fun hc => ?_) (fun hc => ?_)
    · replace h := h.1 hc
      refine lv_iconst (v := 0) hx hb dX8_isFace_16 (by decide) ?_
      exact ret (0 : Int32) () _ _ _ 17 dX8_isFace_17 ⟨by decide, h⟩ hP hD hS
    · replace h := h.2 hc
      refine lv_iconst (v := 1) hx hb dX8_isFace_12 (by decide) ?_
      refine lv_goto (tgt := 17) hx hb dX8_isFace_13 (by decide) ?_
      exact ret (1 : Int32) () _ _ _ 17 dX8_isFace_17 ⟨by decide, h⟩ hP hD hS
def wd_X8_beside (cI cZ cJ : ClassId) (a_this a_nextFace a_cubeX a_cubeY a_cubeZ a_cubeOf a_looks a_lies a_handX a_handY a_handRight a_handUp a_order a_choice a_has a_atX a_atY a_right a_up a_bestX a_bestY a_shapeSize a_shapeRow a_leads a_grid a_imageX a_imageY a_row a_bestRow a_on a_onRight a_onUp a_queue : Nat) (v_cubes : Int32) (v_faces : Int32) (v_laid : Int32) (v_count : Int32) (v_step : Int32) (v_ended : Int32) (v_nets : Int32) (v_work : Int32) (v_bestWidth : Int32) (v_bestHeight : Int32) (v_bestNet : Int32) (v_shapes : Int32) (v_nextFace : Nat → Int32) : va_W := [(a_this, .inr (8, [.int v_cubes, .ref a_cubeX, .ref a_cubeY, .ref a_cubeZ, .int v_faces, .ref a_cubeOf, .ref a_looks, .int v_laid, .ref a_lies, .ref a_handX, .ref a_handY, .ref a_handRight, .ref a_handUp, .int v_count, .ref a_order, .ref a_choice, .ref a_has, .ref a_atX, .ref a_atY, .ref a_right, .ref a_up, .int v_step, .int v_ended, .int v_nets, .int v_work, .int v_bestWidth, .int v_bestHeight, .int v_bestNet, .ref a_bestX, .ref a_bestY, .int v_shapes, .ref a_shapeSize, .ref a_shapeRow, .ref a_nextFace, .ref a_leads, .ref a_grid, .ref a_imageX, .ref a_imageY, .ref a_row, .ref a_bestRow, .ref a_on, .ref a_onRight, .ref a_onUp, .ref a_queue])),
  (a_nextFace, .inl (cI, 180, .inl v_nextFace))]
abbrev rm_X8_beside : Room := { frames := 0, cells := 0, slots := 0, locals := 0 }
set_option maxHeartbeats 4000000 in
set_option maxRecDepth 100000 in
theorem c_X8_beside (l : Launch) (D : va_G) (cI cZ cJ : ClassId) (tb : Nat → Nat) (a_this a_nextFace a_cubeX a_cubeY a_cubeZ a_cubeOf a_looks a_lies a_handX a_handY a_handRight a_handUp a_order a_choice a_has a_atX a_atY a_right a_up a_bestX a_bestY a_shapeSize a_shapeRow a_leads a_grid a_imageX a_imageY a_row a_bestRow a_on a_onRight a_onUp a_queue : Nat) (v_cubes : Int32) (v_faces : Int32) (v_laid : Int32) (v_count : Int32) (v_step : Int32) (v_ended : Int32) (v_nets : Int32) (v_work : Int32) (v_bestWidth : Int32) (v_bestHeight : Int32) (v_bestNet : Int32) (v_shapes : Int32) (v_nextFace : Nat → Int32) (sz : Nat) (p1 : Int32) (p2 : Int32) {post : Int32 → Prop} (h : wp_X8_beside v_nextFace p1 p2 post) : Met l yX8_beside wsX8_beside rm_X8_beside (va_Pc [.ref a_this, .int p1, .int p2] (q_pre D cI cZ cJ tb (wd_X8_beside cI cZ cJ a_this a_nextFace a_cubeX a_cubeY a_cubeZ a_cubeOf a_looks a_lies a_handX a_handY a_handRight a_handUp a_order a_choice a_has a_atX a_atY a_right a_up a_bestX a_bestY a_shapeSize a_shapeRow a_leads a_grid a_imageX a_imageY a_row a_bestRow a_on a_onRight a_onUp a_queue v_cubes v_faces v_laid v_count v_step v_ended v_nets v_work v_bestWidth v_bestHeight v_bestNet v_shapes v_nextFace) sz)) (va_Qi (fun r (u : Unit) => post r) (fun u => q_post D cI cZ cJ (va_A (wd_X8_beside cI cZ cJ a_this a_nextFace a_cubeX a_cubeY a_cubeZ a_cubeOf a_looks a_lies a_handX a_handY a_handRight a_handUp a_order a_choice a_has a_atX a_atY a_right a_up a_bestX a_bestY a_shapeSize a_shapeRow a_leads a_grid a_imageX a_imageY a_row a_bestRow a_on a_onRight a_onUp a_queue v_cubes v_faces v_laid v_count v_step v_ended v_nets v_work v_bestWidth v_bestHeight v_bestNet v_shapes v_nextFace) sz) (wd_X8_beside cI cZ cJ a_this a_nextFace a_cubeX a_cubeY a_cubeZ a_cubeOf a_looks a_lies a_handX a_handY a_handRight a_handUp a_order a_choice a_has a_atX a_atY a_right a_up a_bestX a_bestY a_shapeSize a_shapeRow a_leads a_grid a_imageX a_imageY a_row a_bestRow a_on a_onRight a_onUp a_queue v_cubes v_faces v_laid v_count v_step v_ended v_nets v_work v_bestWidth v_bestHeight v_bestNet v_shapes v_nextFace)) (va_A (wd_X8_beside cI cZ cJ a_this a_nextFace a_cubeX a_cubeY a_cubeZ a_cubeOf a_looks a_lies a_handX a_handY a_handRight a_handUp a_order a_choice a_has a_atX a_atY a_right a_up a_bestX a_bestY a_shapeSize a_shapeRow a_leads a_grid a_imageX a_imageY a_row a_bestRow a_on a_onRight a_onUp a_queue v_cubes v_faces v_laid v_count v_step v_ended v_nets v_work v_bestWidth v_bestHeight v_bestNet v_shapes v_nextFace) sz)) 0 0 (va_A (wd_X8_beside cI cZ cJ a_this a_nextFace a_cubeX a_cubeY a_cubeZ a_cubeOf a_looks a_lies a_handX a_handY a_handRight a_handUp a_order a_choice a_has a_atX a_atY a_right a_up a_bestX a_bestY a_shapeSize a_shapeRow a_leads a_grid a_imageX a_imageY a_row a_bestRow a_on a_onRight a_onUp a_queue v_cubes v_faces v_laid v_count v_step v_ended v_nets v_work v_bestWidth v_bestHeight v_bestNet v_shapes v_nextFace) sz) := by
  refine q_walki (cc := cX8_beside) (maxL := 3) (own := RX8) (wd := fun (u : Unit) => (wd_X8_beside cI cZ cJ a_this a_nextFace a_cubeX a_cubeY a_cubeZ a_cubeOf a_looks a_lies a_handX a_handY a_handRight a_handUp a_order a_choice a_has a_atX a_atY a_right a_up a_bestX a_bestY a_shapeSize a_shapeRow a_leads a_grid a_imageX a_imageY a_row a_bestRow a_on a_onRight a_onUp a_queue v_cubes v_faces v_laid v_count v_step v_ended v_nets v_work v_bestWidth v_bestHeight v_bestNet v_shapes v_nextFace)) (by decide) rfl rfl (Nat.le_of_ble_eq_true rfl) ?_
  intro p e s m below meth c Q A ls C hA ret hP hD hS hK hSt hNw hl
  obtain ⟨hx, hb, hml, hown, hts⟩ := id C
  replace hl : lv_has ls 3 [(0, .ref a_this), (1, .int p1), (2, .int p2)] := hl
  have f74 := hts (.fieldLink RX8 74 "NetSearchModel" "nextFace" "[I") (by decide +kernel)
  have iX8 : ∀ w ∈ wsX80, w ∈ wsX8_beside := by decide +kernel
  unfold wp_X8_beside at h
  refine lv_aload_n hx hb dX8_beside_0 rfl (lv_at hl 0 rfl) ?_
  refine va_get (D := D) (ci := 8) (v := .ref a_nextFace) (C := RX8) (T := TX8) (N := 44) hx hb hts iX8 hown hK hP 0 rfl rfl 33 (by decide) f74 (fun _ h9 => h9) rfl dX8_beside_1 ?_
  refine lv_bipush (v := 6) hx hb dX8_beside_4 (by decide) ?_
  refine lv_iload_n hx hb dX8_beside_6 rfl (lv_at hl 1 rfl) ?_
  refine lv_imul hx hb dX8_beside_7 ?_
  refine lv_iload_n hx hb dX8_beside_8 rfl (lv_at hl 2 rfl) ?_
  refine lv_iadd hx hb dX8_beside_9 ?_
  obtain ⟨hin, h⟩ := h
  refine va_iald hx hb hK hP 1 0 rfl rfl hin dX8_beside_10 ?_
  exact ret (v_nextFace (((6 : Int32) * p1) + p2).toNatClampNeg) () _ _ _ 11 dX8_beside_11 h hP hD hS
def wd_X8_across (cI cZ cJ : ClassId) (a_this a_looks a_nextFace a_cubeX a_cubeY a_cubeZ a_cubeOf a_lies a_handX a_handY a_handRight a_handUp a_order a_choice a_has a_atX a_atY a_right a_up a_bestX a_bestY a_shapeSize a_shapeRow a_leads a_grid a_imageX a_imageY a_row a_bestRow a_on a_onRight a_onUp a_queue : Nat) (v_cubes : Int32) (v_faces : Int32) (v_laid : Int32) (v_count : Int32) (v_step : Int32) (v_ended : Int32) (v_nets : Int32) (v_work : Int32) (v_bestWidth : Int32) (v_bestHeight : Int32) (v_bestNet : Int32) (v_shapes : Int32) (v_looks : Nat → Int32) (v_nextFace : Nat → Int32) : va_W := [(a_this, .inr (8, [.int v_cubes, .ref a_cubeX, .ref a_cubeY, .ref a_cubeZ, .int v_faces, .ref a_cubeOf, .ref a_looks, .int v_laid, .ref a_lies, .ref a_handX, .ref a_handY, .ref a_handRight, .ref a_handUp, .int v_count, .ref a_order, .ref a_choice, .ref a_has, .ref a_atX, .ref a_atY, .ref a_right, .ref a_up, .int v_step, .int v_ended, .int v_nets, .int v_work, .int v_bestWidth, .int v_bestHeight, .int v_bestNet, .ref a_bestX, .ref a_bestY, .int v_shapes, .ref a_shapeSize, .ref a_shapeRow, .ref a_nextFace, .ref a_leads, .ref a_grid, .ref a_imageX, .ref a_imageY, .ref a_row, .ref a_bestRow, .ref a_on, .ref a_onRight, .ref a_onUp, .ref a_queue])),
  (a_looks, .inl (cI, 30, .inl v_looks)),
  (a_nextFace, .inl (cI, 180, .inl v_nextFace))]
abbrev rm_X8_across : Room := { frames := 1, cells := 0, slots := 0, locals := 22 }
set_option maxHeartbeats 4000000 in
set_option maxRecDepth 100000 in
theorem c_X8_across (l : Launch) (D : va_G) (cI cZ cJ : ClassId) (tb : Nat → Nat) (a_this a_looks a_nextFace a_cubeX a_cubeY a_cubeZ a_cubeOf a_lies a_handX a_handY a_handRight a_handUp a_order a_choice a_has a_atX a_atY a_right a_up a_bestX a_bestY a_shapeSize a_shapeRow a_leads a_grid a_imageX a_imageY a_row a_bestRow a_on a_onRight a_onUp a_queue : Nat) (v_cubes : Int32) (v_faces : Int32) (v_laid : Int32) (v_count : Int32) (v_step : Int32) (v_ended : Int32) (v_nets : Int32) (v_work : Int32) (v_bestWidth : Int32) (v_bestHeight : Int32) (v_bestNet : Int32) (v_shapes : Int32) (v_looks : Nat → Int32) (v_nextFace : Nat → Int32) (sz : Nat) (p1 : Int32) (p2 : Int32) {post : Int32 → Prop} (h : wp_X8_across v_faces v_looks v_nextFace p1 p2 post) : Met l yX8_across wsX8_across rm_X8_across (va_Pc [.ref a_this, .int p1, .int p2] (q_pre D cI cZ cJ tb (wd_X8_across cI cZ cJ a_this a_looks a_nextFace a_cubeX a_cubeY a_cubeZ a_cubeOf a_lies a_handX a_handY a_handRight a_handUp a_order a_choice a_has a_atX a_atY a_right a_up a_bestX a_bestY a_shapeSize a_shapeRow a_leads a_grid a_imageX a_imageY a_row a_bestRow a_on a_onRight a_onUp a_queue v_cubes v_faces v_laid v_count v_step v_ended v_nets v_work v_bestWidth v_bestHeight v_bestNet v_shapes v_looks v_nextFace) sz)) (va_Qi (fun r (u : Unit) => post r) (fun u => q_post D cI cZ cJ (va_A (wd_X8_across cI cZ cJ a_this a_looks a_nextFace a_cubeX a_cubeY a_cubeZ a_cubeOf a_lies a_handX a_handY a_handRight a_handUp a_order a_choice a_has a_atX a_atY a_right a_up a_bestX a_bestY a_shapeSize a_shapeRow a_leads a_grid a_imageX a_imageY a_row a_bestRow a_on a_onRight a_onUp a_queue v_cubes v_faces v_laid v_count v_step v_ended v_nets v_work v_bestWidth v_bestHeight v_bestNet v_shapes v_looks v_nextFace) sz) (wd_X8_across cI cZ cJ a_this a_looks a_nextFace a_cubeX a_cubeY a_cubeZ a_cubeOf a_lies a_handX a_handY a_handRight a_handUp a_order a_choice a_has a_atX a_atY a_right a_up a_bestX a_bestY a_shapeSize a_shapeRow a_leads a_grid a_imageX a_imageY a_row a_bestRow a_on a_onRight a_onUp a_queue v_cubes v_faces v_laid v_count v_step v_ended v_nets v_work v_bestWidth v_bestHeight v_bestNet v_shapes v_looks v_nextFace)) (va_A (wd_X8_across cI cZ cJ a_this a_looks a_nextFace a_cubeX a_cubeY a_cubeZ a_cubeOf a_lies a_handX a_handY a_handRight a_handUp a_order a_choice a_has a_atX a_atY a_right a_up a_bestX a_bestY a_shapeSize a_shapeRow a_leads a_grid a_imageX a_imageY a_row a_bestRow a_on a_onRight a_onUp a_queue v_cubes v_faces v_laid v_count v_step v_ended v_nets v_work v_bestWidth v_bestHeight v_bestNet v_shapes v_looks v_nextFace) sz)) 0 0 (va_A (wd_X8_across cI cZ cJ a_this a_looks a_nextFace a_cubeX a_cubeY a_cubeZ a_cubeOf a_lies a_handX a_handY a_handRight a_handUp a_order a_choice a_has a_atX a_atY a_right a_up a_bestX a_bestY a_shapeSize a_shapeRow a_leads a_grid a_imageX a_imageY a_row a_bestRow a_on a_onRight a_onUp a_queue v_cubes v_faces v_laid v_count v_step v_ended v_nets v_work v_bestWidth v_bestHeight v_bestNet v_shapes v_looks v_nextFace) sz) := by
  refine q_walki (cc := cX8_across) (maxL := 3) (own := RX8) (wd := fun (u : Unit) => (wd_X8_across cI cZ cJ a_this a_looks a_nextFace a_cubeX a_cubeY a_cubeZ a_cubeOf a_lies a_handX a_handY a_handRight a_handUp a_order a_choice a_has a_atX a_atY a_right a_up a_bestX a_bestY a_shapeSize a_shapeRow a_leads a_grid a_imageX a_imageY a_row a_bestRow a_on a_onRight a_onUp a_queue v_cubes v_faces v_laid v_count v_step v_ended v_nets v_work v_bestWidth v_bestHeight v_bestNet v_shapes v_looks v_nextFace)) (by decide) rfl rfl (Nat.le_of_ble_eq_true rfl) ?_
  intro p e s m below meth c Q A ls C hA ret hP hD hS hK hSt hNw hl
  obtain ⟨hx, hb, hml, hown, hts⟩ := id C
  replace hl : lv_has ls 3 [(0, .ref a_this), (1, .int p1), (2, .int p2)] := hl
  have f22 := hts (.fieldLink RX8 22 "NetSearchModel" "looks" "[I") (by decide +kernel)
  have iX8 : ∀ w ∈ wsX80, w ∈ wsX8_across := by decide +kernel
  unfold wp_X8_across at h
  refine lv_aload_n hx hb dX8_across_0 rfl (lv_at hl 0 rfl) ?_
  refine lv_iload_n hx hb dX8_across_1 rfl (lv_at hl 1 rfl) ?_
  have hPc := hP.sub (ws' := (wd_X8_isFace cI cZ cJ a_this a_cubeX a_cubeY a_cubeZ a_cubeOf a_looks a_lies a_handX a_handY a_handRight a_handUp a_order a_choice a_has a_atX a_atY a_right a_up a_bestX a_bestY a_shapeSize a_shapeRow a_nextFace a_leads a_grid a_imageX a_imageY a_row a_bestRow a_on a_onRight a_onUp a_queue v_cubes v_faces v_laid v_count v_step v_ended v_nets v_work v_bestWidth v_bestHeight v_bestNet v_shapes)) [0] rfl
  have hDc := hD.sub (ws' := (wd_X8_isFace cI cZ cJ a_this a_cubeX a_cubeY a_cubeZ a_cubeOf a_looks a_lies a_handX a_handY a_handRight a_handUp a_order a_choice a_has a_atX a_atY a_right a_up a_bestX a_bestY a_shapeSize a_shapeRow a_nextFace a_leads a_grid a_imageX a_imageY a_row a_bestRow a_on a_onRight a_onUp a_queue v_cubes v_faces v_laid v_count v_step v_ended v_nets v_work v_bestWidth v_bestHeight v_bestNet v_shapes)) [0] (by decide) rfl
  have hFc := va_free (wc := (wd_X8_isFace cI cZ cJ a_this a_cubeX a_cubeY a_cubeZ a_cubeOf a_looks a_lies a_handX a_handY a_handRight a_handUp a_order a_choice a_has a_atX a_atY a_right a_up a_bestX a_bestY a_shapeSize a_shapeRow a_nextFace a_leads a_grid a_imageX a_imageY a_row a_bestRow a_on a_onRight a_onUp a_queue v_cubes v_faces v_laid v_count v_step v_ended v_nets v_work v_bestWidth v_bestHeight v_bestNet v_shapes)) hD hS hA [0] rfl
  refine va_calli (va_runV (As := [.int p1]) (rest := []) C (c_X8_isFace l D cI cZ cJ tb a_this a_cubeX a_cubeY a_cubeZ a_cubeOf a_looks a_lies a_handX a_handY a_handRight a_handUp a_order a_choice a_has a_atX a_atY a_right a_up a_bestX a_bestY a_shapeSize a_shapeRow a_nextFace a_leads a_grid a_imageX a_imageY a_row a_bestRow a_on a_onRight a_onUp a_queue v_cubes v_faces v_laid v_count v_step v_ended v_nets v_work v_bestWidth v_bestHeight v_bestNet v_shapes s.heap.size p1 h) (cwV 1 hts gX8_across_X8_isFace rfl rfl rfl (by decide +kernel) ⟨Nat.le_of_ble_eq_true rfl, Nat.le_of_ble_eq_true rfl⟩) ⟨q_pre.blind, va_recv hK hP (ci := 8) (q0 := 0) rfl rfl, fun U hU hW => ⟨rfl, q_pre.of hU hW hPc hK hDc hSt hS hFc hNw⟩⟩ rfl rfl hl.1 rfl (lv_room (Nat.le_of_ble_eq_true rfl)) dX8_across_2 ⟨Nat.zero_le _, Nat.zero_le _⟩) hS (fun q _ h => hFc q h) hFc (fun r_1 u_2 t H1 locs ht hvm hw hB hz1 hk1 hS => ?_)
  obtain ⟨hP1, hK1, hD1⟩ := hB
  rw [ht] at hP1
  obtain ⟨hP, hD⟩ := va_join (wr := [(a_looks, .inl (cI, 30, .inl v_looks)), (a_nextFace, .inl (cI, 180, .inl v_nextFace))]) (w1 := (wd_X8_isFace cI cZ cJ a_this a_cubeX a_cubeY a_cubeZ a_cubeOf a_looks a_lies a_handX a_handY a_handRight a_handUp a_order a_choice a_has a_atX a_atY a_right a_up a_bestX a_bestY a_shapeSize a_shapeRow a_nextFace a_leads a_grid a_imageX a_imageY a_row a_bestRow a_on a_onRight a_onUp a_queue v_cubes v_faces v_laid v_count v_step v_ended v_nets v_work v_bestWidth v_bestHeight v_bestNet v_shapes)) hP hD [0] [1, 2] rfl rfl (by decide) (by decide) hk1 hFc hP1 hD1
  clear hPc hDc hFc hP1 hD1 hK1 hk1 hz1 ht hvm
  replace h := hw
  clear hw
  generalize H1 = H at hP hS ⊢
  replace hP : va_P D vwCl (wd_X8_across cI cZ cJ a_this a_looks a_nextFace a_cubeX a_cubeY a_cubeZ a_cubeOf a_lies a_handX a_handY a_handRight a_handUp a_order a_choice a_has a_atX a_atY a_right a_up a_bestX a_bestY a_shapeSize a_shapeRow a_leads a_grid a_imageX a_imageY a_row a_bestRow a_on a_onRight a_onUp a_queue v_cubes v_faces v_laid v_count v_step v_ended v_nets v_work v_bestWidth v_bestHeight v_bestNet v_shapes v_looks v_nextFace) H := hP.sub [2, 0, 1] rfl
  replace hD : va_D A (wd_X8_across cI cZ cJ a_this a_looks a_nextFace a_cubeX a_cubeY a_cubeZ a_cubeOf a_lies a_handX a_handY a_handRight a_handUp a_order a_choice a_has a_atX a_atY a_right a_up a_bestX a_bestY a_shapeSize a_shapeRow a_leads a_grid a_imageX a_imageY a_row a_bestRow a_on a_onRight a_onUp a_queue v_cubes v_faces v_laid v_count v_step v_ended v_nets v_work v_bestWidth v_bestHeight v_bestNet v_shapes v_looks v_nextFace) := hD.sub [2, 0, 1] (by decide) rfl
  refine lv_if_eq (tgt := 31) hx hb dX8_across_5 (by decide) (fun hc => ?_) (fun hc => ?_)
  · replace h := h.1 hc
    refine lv_iconst (v := -1) hx hb dX8_across_31 (by decide) ?_
    refine lv_goto (tgt := 41) hx hb dX8_across_32 (by decide) ?_
    exact ret (-1 : Int32) () _ _ _ 41 dX8_across_41 h hP hD hS
  · replace h := h.2 hc
    refine lv_iload_n hx hb dX8_across_8 rfl (lv_at hl 2 rfl) ?_
    refine lv_if_lt (tgt := 31) hx hb dX8_across_9 (by decide) (fun hc => ?_) (fun hc => ?_)
    · replace h := h.1 hc
      refine lv_iconst (v := -1) hx hb dX8_across_31 (by decide) ?_
      refine lv_goto (tgt := 41) hx hb dX8_across_32 (by decide) ?_
      exact ret (-1 : Int32) () _ _ _ 41 dX8_across_41 h hP hD hS
    · replace h := h.2 hc
      refine lv_iload_n hx hb dX8_across_12 rfl (lv_at hl 2 rfl) ?_
      refine lv_iconst (v := 5) hx hb dX8_across_13 (by decide) ?_
      refine lv_icmp_gt (tgt := 31) hx hb dX8_across_14 (by decide) (fun hc => ?_) (fun hc => ?_)
      · replace h := h.1 hc
        refine lv_iconst (v := -1) hx hb dX8_across_31 (by decide) ?_
        refine lv_goto (tgt := 41) hx hb dX8_across_32 (by decide) ?_
        exact ret (-1 : Int32) () _ _ _ 41 dX8_across_41 h hP hD hS
      · replace h := h.2 hc
        refine lv_iload_n hx hb dX8_across_17 rfl (lv_at hl 2 rfl) ?_
        refine lv_iconst (v := 2) hx hb dX8_across_18 (by decide) ?_
        refine lv_idiv hx hb dX8_across_19 (by decide) ?_
        refine lv_aload_n hx hb dX8_across_20 rfl (lv_at hl 0 rfl) ?_
        refine va_get (D := D) (ci := 8) (v := .ref a_looks) (C := RX8) (T := TX8) (N := 44) hx hb hts iX8 hown hK hP 0 rfl rfl 6 (by decide) f22 (fun _ h9 => h9) rfl dX8_across_21 ?_
        refine lv_iload_n hx hb dX8_across_24 rfl (lv_at hl 1 rfl) ?_
        obtain ⟨hin, h⟩ := h
        refine va_iald hx hb hK hP 1 0 rfl rfl hin dX8_across_25 ?_
        refine lv_iconst (v := 2) hx hb dX8_across_26 (by decide) ?_
        refine lv_idiv hx hb dX8_across_27 (by decide) ?_
        refine lv_icmp_ne (tgt := 35) hx hb dX8_across_28 (by decide) (fun hc => ?_) (fun hc => ?_)
        · replace h := h.1 hc
          refine lv_aload_n hx hb dX8_across_35 rfl (lv_at hl 0 rfl) ?_
          refine lv_iload_n hx hb dX8_across_36 rfl (lv_at hl 1 rfl) ?_
          refine lv_iload_n hx hb dX8_across_37 rfl (lv_at hl 2 rfl) ?_
          have hPc := hP.sub (ws' := (wd_X8_beside cI cZ cJ a_this a_nextFace a_cubeX a_cubeY a_cubeZ a_cubeOf a_looks a_lies a_handX a_handY a_handRight a_handUp a_order a_choice a_has a_atX a_atY a_right a_up a_bestX a_bestY a_shapeSize a_shapeRow a_leads a_grid a_imageX a_imageY a_row a_bestRow a_on a_onRight a_onUp a_queue v_cubes v_faces v_laid v_count v_step v_ended v_nets v_work v_bestWidth v_bestHeight v_bestNet v_shapes v_nextFace)) [0, 2] rfl
          have hDc := hD.sub (ws' := (wd_X8_beside cI cZ cJ a_this a_nextFace a_cubeX a_cubeY a_cubeZ a_cubeOf a_looks a_lies a_handX a_handY a_handRight a_handUp a_order a_choice a_has a_atX a_atY a_right a_up a_bestX a_bestY a_shapeSize a_shapeRow a_leads a_grid a_imageX a_imageY a_row a_bestRow a_on a_onRight a_onUp a_queue v_cubes v_faces v_laid v_count v_step v_ended v_nets v_work v_bestWidth v_bestHeight v_bestNet v_shapes v_nextFace)) [0, 2] (by decide) rfl
          have hFc := va_free (wc := (wd_X8_beside cI cZ cJ a_this a_nextFace a_cubeX a_cubeY a_cubeZ a_cubeOf a_looks a_lies a_handX a_handY a_handRight a_handUp a_order a_choice a_has a_atX a_atY a_right a_up a_bestX a_bestY a_shapeSize a_shapeRow a_leads a_grid a_imageX a_imageY a_row a_bestRow a_on a_onRight a_onUp a_queue v_cubes v_faces v_laid v_count v_step v_ended v_nets v_work v_bestWidth v_bestHeight v_bestNet v_shapes v_nextFace)) hD hS hA [0, 2] rfl
          refine va_calli (va_runV (As := [.int p1, .int p2]) (rest := []) C (c_X8_beside l D cI cZ cJ tb a_this a_nextFace a_cubeX a_cubeY a_cubeZ a_cubeOf a_looks a_lies a_handX a_handY a_handRight a_handUp a_order a_choice a_has a_atX a_atY a_right a_up a_bestX a_bestY a_shapeSize a_shapeRow a_leads a_grid a_imageX a_imageY a_row a_bestRow a_on a_onRight a_onUp a_queue v_cubes v_faces v_laid v_count v_step v_ended v_nets v_work v_bestWidth v_bestHeight v_bestNet v_shapes v_nextFace H.size p1 p2 h) (cwV 2 hts gX8_across_X8_beside rfl rfl rfl (by decide +kernel) ⟨Nat.le_of_ble_eq_true rfl, Nat.le_of_ble_eq_true rfl⟩) ⟨q_pre.blind, va_recv hK hP (ci := 8) (q0 := 0) rfl rfl, fun U hU hW => ⟨rfl, q_pre.of hU hW hPc hK hDc hSt hS hFc hNw⟩⟩ rfl rfl hl.1 rfl (lv_room (Nat.le_of_ble_eq_true rfl)) dX8_across_38 ⟨Nat.zero_le _, Nat.zero_le _⟩) hS (fun q _ h => hFc q h) hFc (fun r_3 u_4 t H1 locs ht hvm hw hB hz1 hk1 hS => ?_)
          obtain ⟨hP1, hK1, hD1⟩ := hB
          rw [ht] at hP1
          obtain ⟨hP, hD⟩ := va_join (wr := [(a_looks, .inl (cI, 30, .inl v_looks))]) (w1 := (wd_X8_beside cI cZ cJ a_this a_nextFace a_cubeX a_cubeY a_cubeZ a_cubeOf a_looks a_lies a_handX a_handY a_handRight a_handUp a_order a_choice a_has a_atX a_atY a_right a_up a_bestX a_bestY a_shapeSize a_shapeRow a_leads a_grid a_imageX a_imageY a_row a_bestRow a_on a_onRight a_onUp a_queue v_cubes v_faces v_laid v_count v_step v_ended v_nets v_work v_bestWidth v_bestHeight v_bestNet v_shapes v_nextFace)) hP hD [0, 2] [1] rfl rfl (by decide) (by decide) hk1 hFc hP1 hD1
          clear hPc hDc hFc hP1 hD1 hK1 hk1 hz1 ht hvm
          replace h := hw
          clear hw
          generalize H1 = H at hP hS ⊢
          replace hP : va_P D vwCl (wd_X8_across cI cZ cJ a_this a_looks a_nextFace a_cubeX a_cubeY a_cubeZ a_cubeOf a_lies a_handX a_handY a_handRight a_handUp a_order a_choice a_has a_atX a_atY a_right a_up a_bestX a_bestY a_shapeSize a_shapeRow a_leads a_grid a_imageX a_imageY a_row a_bestRow a_on a_onRight a_onUp a_queue v_cubes v_faces v_laid v_count v_step v_ended v_nets v_work v_bestWidth v_bestHeight v_bestNet v_shapes v_looks v_nextFace) H := hP.sub [1, 0, 2] rfl
          replace hD : va_D A (wd_X8_across cI cZ cJ a_this a_looks a_nextFace a_cubeX a_cubeY a_cubeZ a_cubeOf a_lies a_handX a_handY a_handRight a_handUp a_order a_choice a_has a_atX a_atY a_right a_up a_bestX a_bestY a_shapeSize a_shapeRow a_leads a_grid a_imageX a_imageY a_row a_bestRow a_on a_onRight a_onUp a_queue v_cubes v_faces v_laid v_count v_step v_ended v_nets v_work v_bestWidth v_bestHeight v_bestNet v_shapes v_looks v_nextFace) := hD.sub [1, 0, 2] (by decide) rfl
          exact ret r_3 () _ _ _ 41 dX8_across_41 h hP hD hS
        · replace h := h.2 hc
          refine lv_iconst (v := -1) hx hb dX8_across_31 (by decide) ?_
          refine lv_goto (tgt := 41) hx hb dX8_across_32 (by decide) ?_
          exact ret (-1 : Int32) () _ _ _ 41 dX8_across_41 h hP hD hS
def wd_X8_stepX (cI cZ cJ : ClassId) : va_W := []
abbrev rm_X8_stepX : Room := { frames := 0, cells := 0, slots := 0, locals := 0 }
set_option maxHeartbeats 4000000 in
set_option maxRecDepth 100000 in
theorem c_X8_stepX (l : Launch) (D : va_G) (cI cZ cJ : ClassId) (tb : Nat → Nat) (sz : Nat) (p0 : Int32) {post : Int32 → Prop} (h : wp_X8_stepX p0 post) : Met l yX8_stepX wsX8_stepX rm_X8_stepX (va_Pc [.int p0] (q_pre D cI cZ cJ tb (wd_X8_stepX cI cZ cJ) sz)) (va_Qi (fun r (u : Unit) => post r) (fun u => q_post D cI cZ cJ (va_A (wd_X8_stepX cI cZ cJ) sz) (wd_X8_stepX cI cZ cJ)) (va_A (wd_X8_stepX cI cZ cJ) sz)) 0 0 (va_A (wd_X8_stepX cI cZ cJ) sz) := by
  refine q_walki (cc := cX8_stepX) (maxL := 1) (own := RX8) (wd := fun (u : Unit) => (wd_X8_stepX cI cZ cJ)) (by decide) rfl rfl (Nat.le_of_ble_eq_true rfl) ?_
  intro p e s m below meth c Q A ls C hA ret hP hD hS hK hSt hNw hl
  obtain ⟨hx, hb, hml, hown, hts⟩ := id C
  replace hl : lv_has ls 1 [(0, .int p0)] := hl
  unfold wp_X8_stepX at h
  refine lv_iload_n hx hb dX8_stepX_0 rfl (lv_at hl 0 rfl) ?_
  refine lv_if_ne (tgt := 8) hx hb dX8_stepX_1 (by decide) (fun hc => ?_) (fun hc => ?_)
  · replace h := h.1 hc
    refine lv_iload_n hx hb dX8_stepX_8 rfl (lv_at hl 0 rfl) ?_
    refine lv_iconst (v := 1) hx hb dX8_stepX_9 (by decide) ?_
    refine lv_icmp_ne (tgt := 17) hx hb dX8_stepX_10 (by decide) (fun hc => ?_) (fun hc => ?_)
    · replace h := h.1 hc
      refine lv_iconst (v := 0) hx hb dX8_stepX_17 (by decide) ?_
      exact ret (0 : Int32) () _ _ _ 18 dX8_stepX_18 h hP hD hS
    · replace h := h.2 hc
      refine lv_iconst (v := -1) hx hb dX8_stepX_13 (by decide) ?_
      refine lv_goto (tgt := 18) hx hb dX8_stepX_14 (by decide) ?_
      exact ret (-1 : Int32) () _ _ _ 18 dX8_stepX_18 h hP hD hS
  · replace h := h.2 hc
    refine lv_iconst (v := 1) hx hb dX8_stepX_4 (by decide) ?_
    refine lv_goto (tgt := 18) hx hb dX8_stepX_5 (by decide) ?_
    exact ret (1 : Int32) () _ _ _ 18 dX8_stepX_18 h hP hD hS
def wd_X8_stepY (cI cZ cJ : ClassId) : va_W := []
abbrev rm_X8_stepY : Room := { frames := 0, cells := 0, slots := 0, locals := 0 }
set_option maxHeartbeats 4000000 in
set_option maxRecDepth 100000 in
theorem c_X8_stepY (l : Launch) (D : va_G) (cI cZ cJ : ClassId) (tb : Nat → Nat) (sz : Nat) (p0 : Int32) {post : Int32 → Prop} (h : wp_X8_stepY p0 post) : Met l yX8_stepY wsX8_stepY rm_X8_stepY (va_Pc [.int p0] (q_pre D cI cZ cJ tb (wd_X8_stepY cI cZ cJ) sz)) (va_Qi (fun r (u : Unit) => post r) (fun u => q_post D cI cZ cJ (va_A (wd_X8_stepY cI cZ cJ) sz) (wd_X8_stepY cI cZ cJ)) (va_A (wd_X8_stepY cI cZ cJ) sz)) 0 0 (va_A (wd_X8_stepY cI cZ cJ) sz) := by
  refine q_walki (cc := cX8_stepY) (maxL := 1) (own := RX8) (wd := fun (u : Unit) => (wd_X8_stepY cI cZ cJ)) (by decide) rfl rfl (Nat.le_of_ble_eq_true rfl) ?_
  intro p e s m below meth c Q A ls C hA ret hP hD hS hK hSt hNw hl
  obtain ⟨hx, hb, hml, hown, hts⟩ := id C
  replace hl : lv_has ls 1 [(0, .int p0)] := hl
  unfold wp_X8_stepY at h
  refine lv_iload_n hx hb dX8_stepY_0 rfl (lv_at hl 0 rfl) ?_
  refine lv_iconst (v := 2) hx hb dX8_stepY_1 (by decide) ?_
  refine lv_icmp_ne (tgt := 9) hx hb dX8_stepY_2 (by decide) (fun hc => ?_) (fun hc => ?_)
  · replace h := h.1 hc
    refine lv_iload_n hx hb dX8_stepY_9 rfl (lv_at hl 0 rfl) ?_
    refine lv_iconst (v := 3) hx hb dX8_stepY_10 (by decide) ?_
    refine lv_icmp_ne (tgt := 18) hx hb dX8_stepY_11 (by decide) (fun hc => ?_) (fun hc => ?_)
    · replace h := h.1 hc
      refine lv_iconst (v := 0) hx hb dX8_stepY_18 (by decide) ?_
      exact ret (0 : Int32) () _ _ _ 19 dX8_stepY_19 h hP hD hS
    · replace h := h.2 hc
      refine lv_iconst (v := -1) hx hb dX8_stepY_14 (by decide) ?_
      refine lv_goto (tgt := 19) hx hb dX8_stepY_15 (by decide) ?_
      exact ret (-1 : Int32) () _ _ _ 19 dX8_stepY_19 h hP hD hS
  · replace h := h.2 hc
    refine lv_iconst (v := 1) hx hb dX8_stepY_5 (by decide) ?_
    refine lv_goto (tgt := 19) hx hb dX8_stepY_6 (by decide) ?_
    exact ret (1 : Int32) () _ _ _ 19 dX8_stepY_19 h hP hD hS
def wd_X8_stepZ (cI cZ cJ : ClassId) : va_W := []
abbrev rm_X8_stepZ : Room := { frames := 0, cells := 0, slots := 0, locals := 0 }
set_option maxHeartbeats 4000000 in
set_option maxRecDepth 100000 in
theorem c_X8_stepZ (l : Launch) (D : va_G) (cI cZ cJ : ClassId) (tb : Nat → Nat) (sz : Nat) (p0 : Int32) {post : Int32 → Prop} (h : wp_X8_stepZ p0 post) : Met l yX8_stepZ wsX8_stepZ rm_X8_stepZ (va_Pc [.int p0] (q_pre D cI cZ cJ tb (wd_X8_stepZ cI cZ cJ) sz)) (va_Qi (fun r (u : Unit) => post r) (fun u => q_post D cI cZ cJ (va_A (wd_X8_stepZ cI cZ cJ) sz) (wd_X8_stepZ cI cZ cJ)) (va_A (wd_X8_stepZ cI cZ cJ) sz)) 0 0 (va_A (wd_X8_stepZ cI cZ cJ) sz) := by
  refine q_walki (cc := cX8_stepZ) (maxL := 1) (own := RX8) (wd := fun (u : Unit) => (wd_X8_stepZ cI cZ cJ)) (by decide) rfl rfl (Nat.le_of_ble_eq_true rfl) ?_
  intro p e s m below meth c Q A ls C hA ret hP hD hS hK hSt hNw hl
  obtain ⟨hx, hb, hml, hown, hts⟩ := id C
  replace hl : lv_has ls 1 [(0, .int p0)] := hl
  unfold wp_X8_stepZ at h
  refine lv_iload_n hx hb dX8_stepZ_0 rfl (lv_at hl 0 rfl) ?_
  refine lv_iconst (v := 4) hx hb dX8_stepZ_1 (by decide) ?_
  refine lv_icmp_ne (tgt := 9) hx hb dX8_stepZ_2 (by decide) (fun hc => ?_) (fun hc => ?_)
  · replace h := h.1 hc
    refine lv_iload_n hx hb dX8_stepZ_9 rfl (lv_at hl 0 rfl) ?_
    refine lv_iconst (v := 5) hx hb dX8_stepZ_10 (by decide) ?_
    refine lv_icmp_ne (tgt := 18) hx hb dX8_stepZ_11 (by decide) (fun hc => ?_) (fun hc => ?_)
    · replace h := h.1 hc
      refine lv_iconst (v := 0) hx hb dX8_stepZ_18 (by decide) ?_
      exact ret (0 : Int32) () _ _ _ 19 dX8_stepZ_19 h hP hD hS
    · replace h := h.2 hc
      refine lv_iconst (v := -1) hx hb dX8_stepZ_14 (by decide) ?_
      refine lv_goto (tgt := 19) hx hb dX8_stepZ_15 (by decide) ?_
      exact ret (-1 : Int32) () _ _ _ 19 dX8_stepZ_19 h hP hD hS
  · replace h := h.2 hc
    refine lv_iconst (v := 1) hx hb dX8_stepZ_5 (by decide) ?_
    refine lv_goto (tgt := 19) hx hb dX8_stepZ_6 (by decide) ?_
    exact ret (1 : Int32) () _ _ _ 19 dX8_stepZ_19 h hP hD hS
def wd_X8_cubeAt (cI cZ cJ : ClassId) (a_this a_cubeX a_cubeY a_cubeZ a_cubeOf a_looks a_lies a_handX a_handY a_handRight a_handUp a_order a_choice a_has a_atX a_atY a_right a_up a_bestX a_bestY a_shapeSize a_shapeRow a_nextFace a_leads a_grid a_imageX a_imageY a_row a_bestRow a_on a_onRight a_onUp a_queue : Nat) (v_cubes : Int32) (v_faces : Int32) (v_laid : Int32) (v_count : Int32) (v_step : Int32) (v_ended : Int32) (v_nets : Int32) (v_work : Int32) (v_bestWidth : Int32) (v_bestHeight : Int32) (v_bestNet : Int32) (v_shapes : Int32) (v_cubeX : Nat → Int32) (v_cubeY : Nat → Int32) (v_cubeZ : Nat → Int32) : va_W := [(a_this, .inr (8, [.int v_cubes, .ref a_cubeX, .ref a_cubeY, .ref a_cubeZ, .int v_faces, .ref a_cubeOf, .ref a_looks, .int v_laid, .ref a_lies, .ref a_handX, .ref a_handY, .ref a_handRight, .ref a_handUp, .int v_count, .ref a_order, .ref a_choice, .ref a_has, .ref a_atX, .ref a_atY, .ref a_right, .ref a_up, .int v_step, .int v_ended, .int v_nets, .int v_work, .int v_bestWidth, .int v_bestHeight, .int v_bestNet, .ref a_bestX, .ref a_bestY, .int v_shapes, .ref a_shapeSize, .ref a_shapeRow, .ref a_nextFace, .ref a_leads, .ref a_grid, .ref a_imageX, .ref a_imageY, .ref a_row, .ref a_bestRow, .ref a_on, .ref a_onRight, .ref a_onUp, .ref a_queue])),
  (a_cubeX, .inl (cI, 5, .inl v_cubeX)),
  (a_cubeY, .inl (cI, 5, .inl v_cubeY)),
  (a_cubeZ, .inl (cI, 5, .inl v_cubeZ))]
abbrev rm_X8_cubeAt : Room := { frames := 0, cells := 0, slots := 0, locals := 0 }
set_option maxHeartbeats 4000000 in
set_option maxRecDepth 100000 in
theorem c_X8_cubeAt (l : Launch) (D : va_G) (cI cZ cJ : ClassId) (tb : Nat → Nat) (a_this a_cubeX a_cubeY a_cubeZ a_cubeOf a_looks a_lies a_handX a_handY a_handRight a_handUp a_order a_choice a_has a_atX a_atY a_right a_up a_bestX a_bestY a_shapeSize a_shapeRow a_nextFace a_leads a_grid a_imageX a_imageY a_row a_bestRow a_on a_onRight a_onUp a_queue : Nat) (v_cubes : Int32) (v_faces : Int32) (v_laid : Int32) (v_count : Int32) (v_step : Int32) (v_ended : Int32) (v_nets : Int32) (v_work : Int32) (v_bestWidth : Int32) (v_bestHeight : Int32) (v_bestNet : Int32) (v_shapes : Int32) (v_cubeX : Nat → Int32) (v_cubeY : Nat → Int32) (v_cubeZ : Nat → Int32) (sz : Nat) (p1 : Int32) (p2 : Int32) (p3 : Int32) {post : Int32 → Prop} (h : wp_X8_cubeAt v_cubes v_cubeX v_cubeY v_cubeZ p1 p2 p3 post) : Met l yX8_cubeAt wsX8_cubeAt rm_X8_cubeAt (va_Pc [.ref a_this, .int p1, .int p2, .int p3] (q_pre D cI cZ cJ tb (wd_X8_cubeAt cI cZ cJ a_this a_cubeX a_cubeY a_cubeZ a_cubeOf a_looks a_lies a_handX a_handY a_handRight a_handUp a_order a_choice a_has a_atX a_atY a_right a_up a_bestX a_bestY a_shapeSize a_shapeRow a_nextFace a_leads a_grid a_imageX a_imageY a_row a_bestRow a_on a_onRight a_onUp a_queue v_cubes v_faces v_laid v_count v_step v_ended v_nets v_work v_bestWidth v_bestHeight v_bestNet v_shapes v_cubeX v_cubeY v_cubeZ) sz)) (va_Qi (fun r (u : Unit) => post r) (fun u => q_post D cI cZ cJ (va_A (wd_X8_cubeAt cI cZ cJ a_this a_cubeX a_cubeY a_cubeZ a_cubeOf a_looks a_lies a_handX a_handY a_handRight a_handUp a_order a_choice a_has a_atX a_atY a_right a_up a_bestX a_bestY a_shapeSize a_shapeRow a_nextFace a_leads a_grid a_imageX a_imageY a_row a_bestRow a_on a_onRight a_onUp a_queue v_cubes v_faces v_laid v_count v_step v_ended v_nets v_work v_bestWidth v_bestHeight v_bestNet v_shapes v_cubeX v_cubeY v_cubeZ) sz) (wd_X8_cubeAt cI cZ cJ a_this a_cubeX a_cubeY a_cubeZ a_cubeOf a_looks a_lies a_handX a_handY a_handRight a_handUp a_order a_choice a_has a_atX a_atY a_right a_up a_bestX a_bestY a_shapeSize a_shapeRow a_nextFace a_leads a_grid a_imageX a_imageY a_row a_bestRow a_on a_onRight a_onUp a_queue v_cubes v_faces v_laid v_count v_step v_ended v_nets v_work v_bestWidth v_bestHeight v_bestNet v_shapes v_cubeX v_cubeY v_cubeZ)) (va_A (wd_X8_cubeAt cI cZ cJ a_this a_cubeX a_cubeY a_cubeZ a_cubeOf a_looks a_lies a_handX a_handY a_handRight a_handUp a_order a_choice a_has a_atX a_atY a_right a_up a_bestX a_bestY a_shapeSize a_shapeRow a_nextFace a_leads a_grid a_imageX a_imageY a_row a_bestRow a_on a_onRight a_onUp a_queue v_cubes v_faces v_laid v_count v_step v_ended v_nets v_work v_bestWidth v_bestHeight v_bestNet v_shapes v_cubeX v_cubeY v_cubeZ) sz)) 0 0 (va_A (wd_X8_cubeAt cI cZ cJ a_this a_cubeX a_cubeY a_cubeZ a_cubeOf a_looks a_lies a_handX a_handY a_handRight a_handUp a_order a_choice a_has a_atX a_atY a_right a_up a_bestX a_bestY a_shapeSize a_shapeRow a_nextFace a_leads a_grid a_imageX a_imageY a_row a_bestRow a_on a_onRight a_onUp a_queue v_cubes v_faces v_laid v_count v_step v_ended v_nets v_work v_bestWidth v_bestHeight v_bestNet v_shapes v_cubeX v_cubeY v_cubeZ) sz) := by
  refine q_walki (cc := cX8_cubeAt) (maxL := 5) (own := RX8) (wd := fun (u : Unit) => (wd_X8_cubeAt cI cZ cJ a_this a_cubeX a_cubeY a_cubeZ a_cubeOf a_looks a_lies a_handX a_handY a_handRight a_handUp a_order a_choice a_has a_atX a_atY a_right a_up a_bestX a_bestY a_shapeSize a_shapeRow a_nextFace a_leads a_grid a_imageX a_imageY a_row a_bestRow a_on a_onRight a_onUp a_queue v_cubes v_faces v_laid v_count v_step v_ended v_nets v_work v_bestWidth v_bestHeight v_bestNet v_shapes v_cubeX v_cubeY v_cubeZ)) (by decide) rfl rfl (Nat.le_of_ble_eq_true rfl) ?_
  intro p e s m below meth c Q A ls C hA ret hP hD hS hK hSt hNw hl
  obtain ⟨hx, hb, hml, hown, hts⟩ := id C
  replace hl : lv_has ls 5 [(0, .ref a_this), (1, .int p1), (2, .int p2), (3, .int p3)] := hl
  have f118 := hts (.fieldLink RX8 118 "NetSearchModel" "cubes" "I") (by decide +kernel)
  have iX8 : ∀ w ∈ wsX80, w ∈ wsX8_cubeAt := by decide +kernel
  have f7 := hts (.fieldLink RX8 7 "NetSearchModel" "cubeX" "[I") (by decide +kernel)
  have f13 := hts (.fieldLink RX8 13 "NetSearchModel" "cubeY" "[I") (by decide +kernel)
  have f16 := hts (.fieldLink RX8 16 "NetSearchModel" "cubeZ" "[I") (by decide +kernel)
  have L3_ok : ∀ (l1 : Int32) (l2 : Int32) (l3 : Int32) (kx45 : Int32 → Prop) (hkx45 : ∀ (l4 : Int32) (H : Heap) (locs : List Loc) (ls : Array Slot), kx45 l4 → va_P D vwCl (wd_X8_cubeAt cI cZ cJ a_this a_cubeX a_cubeY a_cubeZ a_cubeOf a_looks a_lies a_handX a_handY a_handRight a_handUp a_order a_choice a_has a_atX a_atY a_right a_up a_bestX a_bestY a_shapeSize a_shapeRow a_nextFace a_leads a_grid a_imageX a_imageY a_row a_bestRow a_on a_onRight a_onUp a_queue v_cubes v_faces v_laid v_count v_step v_ended v_nets v_work v_bestWidth v_bestHeight v_bestNet v_shapes v_cubeX v_cubeY v_cubeZ) H → va_D A (wd_X8_cubeAt cI cZ cJ a_this a_cubeX a_cubeY a_cubeZ a_cubeOf a_looks a_lies a_handX a_handY a_handRight a_handUp a_order a_choice a_has a_atX a_atY a_right a_up a_bestX a_bestY a_shapeSize a_shapeRow a_nextFace a_leads a_grid a_imageX a_imageY a_row a_bestRow a_on a_onRight a_onUp a_queue v_cubes v_faces v_laid v_count v_step v_ended v_nets v_work v_bestWidth v_bestHeight v_bestNet v_shapes v_cubeX v_cubeY v_cubeZ) → va_S A s.heap H locs → lv_has ls 5 [(4, .int l4)] → W p l e rm_X8_cubeAt s m ([.ref a_this, .int p1, .int p2, .int p3] : List Value).toArray below meth c H locs 0 0 Q (F0 m 45 ls [])) (kx54 : Prop) (hkx54 : ∀ (H : Heap) (locs : List Loc) (ls : Array Slot), kx54  → va_P D vwCl (wd_X8_cubeAt cI cZ cJ a_this a_cubeX a_cubeY a_cubeZ a_cubeOf a_looks a_lies a_handX a_handY a_handRight a_handUp a_order a_choice a_has a_atX a_atY a_right a_up a_bestX a_bestY a_shapeSize a_shapeRow a_nextFace a_leads a_grid a_imageX a_imageY a_row a_bestRow a_on a_onRight a_onUp a_queue v_cubes v_faces v_laid v_count v_step v_ended v_nets v_work v_bestWidth v_bestHeight v_bestNet v_shapes v_cubeX v_cubeY v_cubeZ) H → va_D A (wd_X8_cubeAt cI cZ cJ a_this a_cubeX a_cubeY a_cubeZ a_cubeOf a_looks a_lies a_handX a_handY a_handRight a_handUp a_order a_choice a_has a_atX a_atY a_right a_up a_bestX a_bestY a_shapeSize a_shapeRow a_nextFace a_leads a_grid a_imageX a_imageY a_row a_bestRow a_on a_onRight a_onUp a_queue v_cubes v_faces v_laid v_count v_step v_ended v_nets v_work v_bestWidth v_bestHeight v_bestNet v_shapes v_cubeX v_cubeY v_cubeZ) → va_S A s.heap H locs → lv_has ls 5 [] → W p l e rm_X8_cubeAt s m ([.ref a_this, .int p1, .int p2, .int p3] : List Value).toArray below meth c H locs 0 0 Q (F0 m 54 ls [])) (n : Nat) (l4 : Int32) (H : Heap) (locs : List Loc) (ls : Array Slot), lpN (wl_X8_cubeAt_3 v_cubes v_cubeX v_cubeY v_cubeZ l1 l2 l3 kx45 kx54) n l4 → va_P D vwCl (wd_X8_cubeAt cI cZ cJ a_this a_cubeX a_cubeY a_cubeZ a_cubeOf a_looks a_lies a_handX a_handY a_handRight a_handUp a_order a_choice a_has a_atX a_atY a_right a_up a_bestX a_bestY a_shapeSize a_shapeRow a_nextFace a_leads a_grid a_imageX a_imageY a_row a_bestRow a_on a_onRight a_onUp a_queue v_cubes v_faces v_laid v_count v_step v_ended v_nets v_work v_bestWidth v_bestHeight v_bestNet v_shapes v_cubeX v_cubeY v_cubeZ) H → va_D A (wd_X8_cubeAt cI cZ cJ a_this a_cubeX a_cubeY a_cubeZ a_cubeOf a_looks a_lies a_handX a_handY a_handRight a_handUp a_order a_choice a_has a_atX a_atY a_right a_up a_bestX a_bestY a_shapeSize a_shapeRow a_nextFace a_leads a_grid a_imageX a_imageY a_row a_bestRow a_on a_onRight a_onUp a_queue v_cubes v_faces v_laid v_count v_step v_ended v_nets v_work v_bestWidth v_bestHeight v_bestNet v_shapes v_cubeX v_cubeY v_cubeZ) → va_S A s.heap H locs → lv_has ls 5 [(0, .ref a_this), (1, .int l1), (2, .int l2), (3, .int l3), (4, .int l4)] → W p l e rm_X8_cubeAt s m ([.ref a_this, .int p1, .int p2, .int p3] : List Value).toArray below meth c H locs 0 0 Q (F0 m 3 ls []) := by
    intro l1 l2 l3 kx45 hkx45 kx54 hkx54 n
    induction n with
    | zero => intro l4 H locs ls h; exact False.elim h
    | succ n ih =>
      intro l4 H locs ls h hP hD hS hl
      have h : wb_X8_cubeAt_3 v_cubes v_cubeX v_cubeY v_cubeZ l1 l2 l3 kx45 kx54 (fun l4 => lpN (wl_X8_cubeAt_3 v_cubes v_cubeX v_cubeY v_cubeZ l1 l2 l3 kx45 kx54) n l4) l4 := h
      unfold wb_X8_cubeAt_3 at h
      refine lv_iload hx hb dX8_cubeAt_3 (lv_at hl 4 rfl) ?_
      refine lv_aload_n hx hb dX8_cubeAt_5 rfl (lv_at hl 0 rfl) ?_
      refine va_get (D := D) (ci := 8) (v := .int v_cubes) (C := RX8) (T := TX8) (N := 44) hx hb hts iX8 hown hK hP 0 rfl rfl 0 (by decide) f118 (fun _ h9 => h9) rfl dX8_cubeAt_6 ?_
      refine lv_icmp_ge (tgt := 54) hx hb dX8_cubeAt_9 (by decide) (fun hc => ?_) (fun hc => ?_)
      · replace h := h.1 hc
        exact hkx54  _ _ _ h hP hD hS (lv_sub hl [] rfl)
      · replace h := h.2 hc
        refine lv_aload_n hx hb dX8_cubeAt_12 rfl (lv_at hl 0 rfl) ?_
        refine va_get (D := D) (ci := 8) (v := .ref a_cubeX) (C := RX8) (T := TX8) (N := 44) hx hb hts iX8 hown hK hP 0 rfl rfl 1 (by decide) f7 (fun _ h9 => h9) rfl dX8_cubeAt_13 ?_
        refine lv_iload hx hb dX8_cubeAt_16 (lv_at hl 4 rfl) ?_
        obtain ⟨hin, h⟩ := h
        refine va_iald hx hb hK hP 1 0 rfl rfl hin dX8_cubeAt_18 ?_
        refine lv_iload_n hx hb dX8_cubeAt_19 rfl (lv_at hl 1 rfl) ?_
        refine lv_icmp_ne (tgt := 48) hx hb dX8_cubeAt_20 (by decide) (fun hc => ?_) (fun hc => ?_)
        · replace h := h.1 hc
          refine lv_iinc (v := (l4 + (1 : Int32))) (lv' := [(4, .int (l4 + (1 : Int32))), (0, .ref a_this), (1, .int l1), (2, .int l2), (3, .int l3)]) hx hb dX8_cubeAt_48 hl (k := 4) rfl rfl (by decide) rfl (fun ls hl => ?_)
          refine lv_goto (tgt := 3) hx hb dX8_cubeAt_51 (by decide) ?_
          exact ih (l4 + (1 : Int32)) _ _ _ h hP hD hS (lv_sub hl [1, 2, 3, 4, 0] rfl)
        · replace h := h.2 hc
          refine lv_aload_n hx hb dX8_cubeAt_23 rfl (lv_at hl 0 rfl) ?_
          refine va_get (D := D) (ci := 8) (v := .ref a_cubeY) (C := RX8) (T := TX8) (N := 44) hx hb hts iX8 hown hK hP 0 rfl rfl 2 (by decide) f13 (fun _ h9 => h9) rfl dX8_cubeAt_24 ?_
          refine lv_iload hx hb dX8_cubeAt_27 (lv_at hl 4 rfl) ?_
          obtain ⟨hin, h⟩ := h
          refine va_iald hx hb hK hP 2 0 rfl rfl hin dX8_cubeAt_29 ?_
          refine lv_iload_n hx hb dX8_cubeAt_30 rfl (lv_at hl 2 rfl) ?_
          refine lv_icmp_ne (tgt := 48) hx hb dX8_cubeAt_31 (by decide) (fun hc => ?_) (fun hc => ?_)
          · replace h := h.1 hc
            refine lv_iinc (v := (l4 + (1 : Int32))) (lv' := [(4, .int (l4 + (1 : Int32))), (0, .ref a_this), (1, .int l1), (2, .int l2), (3, .int l3)]) hx hb dX8_cubeAt_48 hl (k := 4) rfl rfl (by decide) rfl (fun ls hl => ?_)
            refine lv_goto (tgt := 3) hx hb dX8_cubeAt_51 (by decide) ?_
            exact ih (l4 + (1 : Int32)) _ _ _ h hP hD hS (lv_sub hl [1, 2, 3, 4, 0] rfl)
          · replace h := h.2 hc
            refine lv_aload_n hx hb dX8_cubeAt_34 rfl (lv_at hl 0 rfl) ?_
            refine va_get (D := D) (ci := 8) (v := .ref a_cubeZ) (C := RX8) (T := TX8) (N := 44) hx hb hts iX8 hown hK hP 0 rfl rfl 3 (by decide) f16 (fun _ h9 => h9) rfl dX8_cubeAt_35 ?_
            refine lv_iload hx hb dX8_cubeAt_38 (lv_at hl 4 rfl) ?_
            obtain ⟨hin, h⟩ := h
            refine va_iald hx hb hK hP 3 0 rfl rfl hin dX8_cubeAt_40 ?_
            refine lv_iload_n hx hb dX8_cubeAt_41 rfl (lv_at hl 3 rfl) ?_
            refine lv_icmp_ne (tgt := 48) hx hb dX8_cubeAt_42 (by decide) (fun hc => ?_) (fun hc => ?_)
            · replace h := h.1 hc
              refine lv_iinc (v := (l4 + (1 : Int32))) (lv' := [(4, .int (l4 + (1 : Int32))), (0, .ref a_this), (1, .int l1), (2, .int l2), (3, .int l3)]) hx hb dX8_cubeAt_48 hl (k := 4) rfl rfl (by decide) rfl (fun ls hl => ?_)
              refine lv_goto (tgt := 3) hx hb dX8_cubeAt_51 (by decide) ?_
              exact ih (l4 + (1 : Int32)) _ _ _ h hP hD hS (lv_sub hl [1, 2, 3, 4, 0] rfl)
            · replace h := h.2 hc
              exact hkx45 l4 _ _ _ h hP hD hS (lv_sub hl [4] rfl)
  unfold wp_X8_cubeAt at h
  refine lv_iconst (v := 0) hx hb dX8_cubeAt_0 (by decide) ?_
  refine lv_istore (lv' := [(4, .int (0 : Int32)), (0, .ref a_this), (1, .int p1), (2, .int p2), (3, .int p3)]) hx hb dX8_cubeAt_1 hl (by decide) rfl (fun ls hl => ?_)
  obtain ⟨n, h⟩ := h
  refine L3_ok p1 p2 p3 _ (fun l4_1 H locs ls h hP hD hS hl => ?_) _ (fun  H locs ls h hP hD hS hl => ?_) n (0 : Int32) _ _ _ h hP hD hS (lv_sub hl [1, 2, 3, 4, 0] rfl)
  · refine lv_iload hx hb dX8_cubeAt_45 (lv_at hl 0 rfl) ?_
    exact ret l4_1 () _ _ _ 47 dX8_cubeAt_47 h hP hD hS
  · refine lv_bipush (v := -9) hx hb dX8_cubeAt_54 (by decide) ?_
    exact ret (-9 : Int32) () _ _ _ 56 dX8_cubeAt_56 h hP hD hS
def wd_X8_cubeBeside (cI cZ cJ : ClassId) (a_this a_cubeX a_cubeY a_cubeZ a_cubeOf a_looks a_lies a_handX a_handY a_handRight a_handUp a_order a_choice a_has a_atX a_atY a_right a_up a_bestX a_bestY a_shapeSize a_shapeRow a_nextFace a_leads a_grid a_imageX a_imageY a_row a_bestRow a_on a_onRight a_onUp a_queue : Nat) (v_cubes : Int32) (v_faces : Int32) (v_laid : Int32) (v_count : Int32) (v_step : Int32) (v_ended : Int32) (v_nets : Int32) (v_work : Int32) (v_bestWidth : Int32) (v_bestHeight : Int32) (v_bestNet : Int32) (v_shapes : Int32) (v_cubeX : Nat → Int32) (v_cubeY : Nat → Int32) (v_cubeZ : Nat → Int32) : va_W := [(a_this, .inr (8, [.int v_cubes, .ref a_cubeX, .ref a_cubeY, .ref a_cubeZ, .int v_faces, .ref a_cubeOf, .ref a_looks, .int v_laid, .ref a_lies, .ref a_handX, .ref a_handY, .ref a_handRight, .ref a_handUp, .int v_count, .ref a_order, .ref a_choice, .ref a_has, .ref a_atX, .ref a_atY, .ref a_right, .ref a_up, .int v_step, .int v_ended, .int v_nets, .int v_work, .int v_bestWidth, .int v_bestHeight, .int v_bestNet, .ref a_bestX, .ref a_bestY, .int v_shapes, .ref a_shapeSize, .ref a_shapeRow, .ref a_nextFace, .ref a_leads, .ref a_grid, .ref a_imageX, .ref a_imageY, .ref a_row, .ref a_bestRow, .ref a_on, .ref a_onRight, .ref a_onUp, .ref a_queue])),
  (a_cubeX, .inl (cI, 5, .inl v_cubeX)),
  (a_cubeY, .inl (cI, 5, .inl v_cubeY)),
  (a_cubeZ, .inl (cI, 5, .inl v_cubeZ))]
abbrev rm_X8_cubeBeside : Room := { frames := 1, cells := 0, slots := 0, locals := 24 }
set_option maxHeartbeats 4000000 in
set_option maxRecDepth 100000 in
theorem c_X8_cubeBeside (l : Launch) (D : va_G) (cI cZ cJ : ClassId) (tb : Nat → Nat) (a_this a_cubeX a_cubeY a_cubeZ a_cubeOf a_looks a_lies a_handX a_handY a_handRight a_handUp a_order a_choice a_has a_atX a_atY a_right a_up a_bestX a_bestY a_shapeSize a_shapeRow a_nextFace a_leads a_grid a_imageX a_imageY a_row a_bestRow a_on a_onRight a_onUp a_queue : Nat) (v_cubes : Int32) (v_faces : Int32) (v_laid : Int32) (v_count : Int32) (v_step : Int32) (v_ended : Int32) (v_nets : Int32) (v_work : Int32) (v_bestWidth : Int32) (v_bestHeight : Int32) (v_bestNet : Int32) (v_shapes : Int32) (v_cubeX : Nat → Int32) (v_cubeY : Nat → Int32) (v_cubeZ : Nat → Int32) (sz : Nat) (p1 : Int32) (p2 : Int32) {post : Int32 → Prop} (h : wp_X8_cubeBeside v_cubes v_cubeX v_cubeY v_cubeZ p1 p2 post) : Met l yX8_cubeBeside wsX8_cubeBeside rm_X8_cubeBeside (va_Pc [.ref a_this, .int p1, .int p2] (q_pre D cI cZ cJ tb (wd_X8_cubeBeside cI cZ cJ a_this a_cubeX a_cubeY a_cubeZ a_cubeOf a_looks a_lies a_handX a_handY a_handRight a_handUp a_order a_choice a_has a_atX a_atY a_right a_up a_bestX a_bestY a_shapeSize a_shapeRow a_nextFace a_leads a_grid a_imageX a_imageY a_row a_bestRow a_on a_onRight a_onUp a_queue v_cubes v_faces v_laid v_count v_step v_ended v_nets v_work v_bestWidth v_bestHeight v_bestNet v_shapes v_cubeX v_cubeY v_cubeZ) sz)) (va_Qi (fun r (u : Unit) => post r) (fun u => q_post D cI cZ cJ (va_A (wd_X8_cubeBeside cI cZ cJ a_this a_cubeX a_cubeY a_cubeZ a_cubeOf a_looks a_lies a_handX a_handY a_handRight a_handUp a_order a_choice a_has a_atX a_atY a_right a_up a_bestX a_bestY a_shapeSize a_shapeRow a_nextFace a_leads a_grid a_imageX a_imageY a_row a_bestRow a_on a_onRight a_onUp a_queue v_cubes v_faces v_laid v_count v_step v_ended v_nets v_work v_bestWidth v_bestHeight v_bestNet v_shapes v_cubeX v_cubeY v_cubeZ) sz) (wd_X8_cubeBeside cI cZ cJ a_this a_cubeX a_cubeY a_cubeZ a_cubeOf a_looks a_lies a_handX a_handY a_handRight a_handUp a_order a_choice a_has a_atX a_atY a_right a_up a_bestX a_bestY a_shapeSize a_shapeRow a_nextFace a_leads a_grid a_imageX a_imageY a_row a_bestRow a_on a_onRight a_onUp a_queue v_cubes v_faces v_laid v_count v_step v_ended v_nets v_work v_bestWidth v_bestHeight v_bestNet v_shapes v_cubeX v_cubeY v_cubeZ)) (va_A (wd_X8_cubeBeside cI cZ cJ a_this a_cubeX a_cubeY a_cubeZ a_cubeOf a_looks a_lies a_handX a_handY a_handRight a_handUp a_order a_choice a_has a_atX a_atY a_right a_up a_bestX a_bestY a_shapeSize a_shapeRow a_nextFace a_leads a_grid a_imageX a_imageY a_row a_bestRow a_on a_onRight a_onUp a_queue v_cubes v_faces v_laid v_count v_step v_ended v_nets v_work v_bestWidth v_bestHeight v_bestNet v_shapes v_cubeX v_cubeY v_cubeZ) sz)) 0 0 (va_A (wd_X8_cubeBeside cI cZ cJ a_this a_cubeX a_cubeY a_cubeZ a_cubeOf a_looks a_lies a_handX a_handY a_handRight a_handUp a_order a_choice a_has a_atX a_atY a_right a_up a_bestX a_bestY a_shapeSize a_shapeRow a_nextFace a_leads a_grid a_imageX a_imageY a_row a_bestRow a_on a_onRight a_onUp a_queue v_cubes v_faces v_laid v_count v_step v_ended v_nets v_work v_bestWidth v_bestHeight v_bestNet v_shapes v_cubeX v_cubeY v_cubeZ) sz) := by
  refine q_walki (cc := cX8_cubeBeside) (maxL := 3) (own := RX8) (wd := fun (u : Unit) => (wd_X8_cubeBeside cI cZ cJ a_this a_cubeX a_cubeY a_cubeZ a_cubeOf a_looks a_lies a_handX a_handY a_handRight a_handUp a_order a_choice a_has a_atX a_atY a_right a_up a_bestX a_bestY a_shapeSize a_shapeRow a_nextFace a_leads a_grid a_imageX a_imageY a_row a_bestRow a_on a_onRight a_onUp a_queue v_cubes v_faces v_laid v_count v_step v_ended v_nets v_work v_bestWidth v_bestHeight v_bestNet v_shapes v_cubeX v_cubeY v_cubeZ)) (by decide) rfl rfl (Nat.le_of_ble_eq_true rfl) ?_
  intro p e s m below meth c Q A ls C hA ret hP hD hS hK hSt hNw hl
  obtain ⟨hx, hb, hml, hown, hts⟩ := id C
  replace hl : lv_has ls 3 [(0, .ref a_this), (1, .int p1), (2, .int p2)] := hl
  have f7 := hts (.fieldLink RX8 7 "NetSearchModel" "cubeX" "[I") (by decide +kernel)
  have iX8 : ∀ w ∈ wsX80, w ∈ wsX8_cubeBeside := by decide +kernel
  have f13 := hts (.fieldLink RX8 13 "NetSearchModel" "cubeY" "[I") (by decide +kernel)
  have f16 := hts (.fieldLink RX8 16 "NetSearchModel" "cubeZ" "[I") (by decide +kernel)
  unfold wp_X8_cubeBeside at h
  refine lv_aload_n hx hb dX8_cubeBeside_0 rfl (lv_at hl 0 rfl) ?_
  refine lv_aload_n hx hb dX8_cubeBeside_1 rfl (lv_at hl 0 rfl) ?_
  refine va_get (D := D) (ci := 8) (v := .ref a_cubeX) (C := RX8) (T := TX8) (N := 44) hx hb hts iX8 hown hK hP 0 rfl rfl 1 (by decide) f7 (fun _ h9 => h9) rfl dX8_cubeBeside_2 ?_
  refine lv_iload_n hx hb dX8_cubeBeside_5 rfl (lv_at hl 1 rfl) ?_
  obtain ⟨hin, h⟩ := h
  refine va_iald hx hb hK hP 1 0 rfl rfl hin dX8_cubeBeside_6 ?_
  refine lv_iload_n hx hb dX8_cubeBeside_7 rfl (lv_at hl 2 rfl) ?_
  have hPc := hP.sub (ws' := (wd_X8_stepX cI cZ cJ)) [] rfl
  have hDc := hD.sub (ws' := (wd_X8_stepX cI cZ cJ)) [] (by decide) rfl
  have hFc := va_free (wc := (wd_X8_stepX cI cZ cJ)) hD hS hA [] rfl
  refine va_calli (va_runS (As := [.int p2]) (rest := [.int (v_cubeX p1.toNatClampNeg), .ref a_this]) C (c_X8_stepX l D cI cZ cJ tb s.heap.size p2 h) (va_cwS 1 hts gX8_cubeBeside_X8_stepX rfl rfl rfl (by decide +kernel) ⟨Nat.le_of_ble_eq_true rfl, Nat.le_of_ble_eq_true rfl⟩) ⟨q_pre.blind, fun U hU hW => ⟨rfl, q_pre.of hU hW hPc hK hDc hSt hS hFc hNw⟩⟩ rfl rfl hl.1 rfl (lv_room (Nat.le_of_ble_eq_true rfl)) dX8_cubeBeside_8 ⟨Nat.zero_le _, Nat.zero_le _⟩) hS (fun q _ h => hFc q h) hFc (fun r_1 u_2 t H1 locs ht hvm hw hB hz1 hk1 hS => ?_)
  obtain ⟨hP1, hK1, hD1⟩ := hB
  rw [ht] at hP1
  obtain ⟨hP, hD⟩ := va_join (wr := [(a_this, .inr (8, [.int v_cubes, .ref a_cubeX, .ref a_cubeY, .ref a_cubeZ, .int v_faces, .ref a_cubeOf, .ref a_looks, .int v_laid, .ref a_lies, .ref a_handX, .ref a_handY, .ref a_handRight, .ref a_handUp, .int v_count, .ref a_order, .ref a_choice, .ref a_has, .ref a_atX, .ref a_atY, .ref a_right, .ref a_up, .int v_step, .int v_ended, .int v_nets, .int v_work, .int v_bestWidth, .int v_bestHeight, .int v_bestNet, .ref a_bestX, .ref a_bestY, .int v_shapes, .ref a_shapeSize, .ref a_shapeRow, .ref a_nextFace, .ref a_leads, .ref a_grid, .ref a_imageX, .ref a_imageY, .ref a_row, .ref a_bestRow, .ref a_on, .ref a_onRight, .ref a_onUp, .ref a_queue])), (a_cubeX, .inl (cI, 5, .inl v_cubeX)), (a_cubeY, .inl (cI, 5, .inl v_cubeY)), (a_cubeZ, .inl (cI, 5, .inl v_cubeZ))]) (w1 := (wd_X8_stepX cI cZ cJ)) hP hD [] [0, 1, 2, 3] rfl rfl (by decide) (by decide) hk1 hFc hP1 hD1
  clear hPc hDc hFc hP1 hD1 hK1 hk1 hz1 ht hvm
  replace h := hw
  clear hw
  generalize H1 = H at hP hS ⊢
  replace hP : va_P D vwCl (wd_X8_cubeBeside cI cZ cJ a_this a_cubeX a_cubeY a_cubeZ a_cubeOf a_looks a_lies a_handX a_handY a_handRight a_handUp a_order a_choice a_has a_atX a_atY a_right a_up a_bestX a_bestY a_shapeSize a_shapeRow a_nextFace a_leads a_grid a_imageX a_imageY a_row a_bestRow a_on a_onRight a_onUp a_queue v_cubes v_faces v_laid v_count v_step v_ended v_nets v_work v_bestWidth v_bestHeight v_bestNet v_shapes v_cubeX v_cubeY v_cubeZ) H := hP.sub [0, 1, 2, 3] rfl
  replace hD : va_D A (wd_X8_cubeBeside cI cZ cJ a_this a_cubeX a_cubeY a_cubeZ a_cubeOf a_looks a_lies a_handX a_handY a_handRight a_handUp a_order a_choice a_has a_atX a_atY a_right a_up a_bestX a_bestY a_shapeSize a_shapeRow a_nextFace a_leads a_grid a_imageX a_imageY a_row a_bestRow a_on a_onRight a_onUp a_queue v_cubes v_faces v_laid v_count v_step v_ended v_nets v_work v_bestWidth v_bestHeight v_bestNet v_shapes v_cubeX v_cubeY v_cubeZ) := hD.sub [0, 1, 2, 3] (by decide) rfl
  refine lv_iadd hx hb dX8_cubeBeside_11 ?_
  refine lv_aload_n hx hb dX8_cubeBeside_12 rfl (lv_at hl 0 rfl) ?_
  refine va_get (D := D) (ci := 8) (v := .ref a_cubeY) (C := RX8) (T := TX8) (N := 44) hx hb hts iX8 hown hK hP 0 rfl rfl 2 (by decide) f13 (fun _ h9 => h9) rfl dX8_cubeBeside_13 ?_
  refine lv_iload_n hx hb dX8_cubeBeside_16 rfl (lv_at hl 1 rfl) ?_
  obtain ⟨hin, h⟩ := h
  refine va_iald hx hb hK hP 2 0 rfl rfl hin dX8_cubeBeside_17 ?_
  refine lv_iload_n hx hb dX8_cubeBeside_18 rfl (lv_at hl 2 rfl) ?_
  have hPc := hP.sub (ws' := (wd_X8_stepY cI cZ cJ)) [] rfl
  have hDc := hD.sub (ws' := (wd_X8_stepY cI cZ cJ)) [] (by decide) rfl
  have hFc := va_free (wc := (wd_X8_stepY cI cZ cJ)) hD hS hA [] rfl
  refine va_calli (va_runS (As := [.int p2]) (rest := [.int (v_cubeY p1.toNatClampNeg), .int ((v_cubeX p1.toNatClampNeg) + r_1), .ref a_this]) C (c_X8_stepY l D cI cZ cJ tb H.size p2 h) (va_cwS 1 hts gX8_cubeBeside_X8_stepY rfl rfl rfl (by decide +kernel) ⟨Nat.le_of_ble_eq_true rfl, Nat.le_of_ble_eq_true rfl⟩) ⟨q_pre.blind, fun U hU hW => ⟨rfl, q_pre.of hU hW hPc hK hDc hSt hS hFc hNw⟩⟩ rfl rfl hl.1 rfl (lv_room (Nat.le_of_ble_eq_true rfl)) dX8_cubeBeside_19 ⟨Nat.zero_le _, Nat.zero_le _⟩) hS (fun q _ h => hFc q h) hFc (fun r_3 u_4 t H1 locs ht hvm hw hB hz1 hk1 hS => ?_)
  obtain ⟨hP1, hK1, hD1⟩ := hB
  rw [ht] at hP1
  obtain ⟨hP, hD⟩ := va_join (wr := [(a_this, .inr (8, [.int v_cubes, .ref a_cubeX, .ref a_cubeY, .ref a_cubeZ, .int v_faces, .ref a_cubeOf, .ref a_looks, .int v_laid, .ref a_lies, .ref a_handX, .ref a_handY, .ref a_handRight, .ref a_handUp, .int v_count, .ref a_order, .ref a_choice, .ref a_has, .ref a_atX, .ref a_atY, .ref a_right, .ref a_up, .int v_step, .int v_ended, .int v_nets, .int v_work, .int v_bestWidth, .int v_bestHeight, .int v_bestNet, .ref a_bestX, .ref a_bestY, .int v_shapes, .ref a_shapeSize, .ref a_shapeRow, .ref a_nextFace, .ref a_leads, .ref a_grid, .ref a_imageX, .ref a_imageY, .ref a_row, .ref a_bestRow, .ref a_on, .ref a_onRight, .ref a_onUp, .ref a_queue])), (a_cubeX, .inl (cI, 5, .inl v_cubeX)), (a_cubeY, .inl (cI, 5, .inl v_cubeY)), (a_cubeZ, .inl (cI, 5, .inl v_cubeZ))]) (w1 := (wd_X8_stepY cI cZ cJ)) hP hD [] [0, 1, 2, 3] rfl rfl (by decide) (by decide) hk1 hFc hP1 hD1
  clear hPc hDc hFc hP1 hD1 hK1 hk1 hz1 ht hvm
  replace h := hw
  clear hw
  generalize H1 = H at hP hS ⊢
  replace hP : va_P D vwCl (wd_X8_cubeBeside cI cZ cJ a_this a_cubeX a_cubeY a_cubeZ a_cubeOf a_looks a_lies a_handX a_handY a_handRight a_handUp a_order a_choice a_has a_atX a_atY a_right a_up a_bestX a_bestY a_shapeSize a_shapeRow a_nextFace a_leads a_grid a_imageX a_imageY a_row a_bestRow a_on a_onRight a_onUp a_queue v_cubes v_faces v_laid v_count v_step v_ended v_nets v_work v_bestWidth v_bestHeight v_bestNet v_shapes v_cubeX v_cubeY v_cubeZ) H := hP.sub [0, 1, 2, 3] rfl
  replace hD : va_D A (wd_X8_cubeBeside cI cZ cJ a_this a_cubeX a_cubeY a_cubeZ a_cubeOf a_looks a_lies a_handX a_handY a_handRight a_handUp a_order a_choice a_has a_atX a_atY a_right a_up a_bestX a_bestY a_shapeSize a_shapeRow a_nextFace a_leads a_grid a_imageX a_imageY a_row a_bestRow a_on a_onRight a_onUp a_queue v_cubes v_faces v_laid v_count v_step v_ended v_nets v_work v_bestWidth v_bestHeight v_bestNet v_shapes v_cubeX v_cubeY v_cubeZ) := hD.sub [0, 1, 2, 3] (by decide) rfl
  refine lv_iadd hx hb dX8_cubeBeside_22 ?_
  refine lv_aload_n hx hb dX8_cubeBeside_23 rfl (lv_at hl 0 rfl) ?_
  refine va_get (D := D) (ci := 8) (v := .ref a_cubeZ) (C := RX8) (T := TX8) (N := 44) hx hb hts iX8 hown hK hP 0 rfl rfl 3 (by decide) f16 (fun _ h9 => h9) rfl dX8_cubeBeside_24 ?_
  refine lv_iload_n hx hb dX8_cubeBeside_27 rfl (lv_at hl 1 rfl) ?_
  obtain ⟨hin, h⟩ := h
  refine va_iald hx hb hK hP 3 0 rfl rfl hin dX8_cubeBeside_28 ?_
  refine lv_iload_n hx hb dX8_cubeBeside_29 rfl (lv_at hl 2 rfl) ?_
  have hPc := hP.sub (ws' := (wd_X8_stepZ cI cZ cJ)) [] rfl
  have hDc := hD.sub (ws' := (wd_X8_stepZ cI cZ cJ)) [] (by decide) rfl
  have hFc := va_free (wc := (wd_X8_stepZ cI cZ cJ)) hD hS hA [] rfl
  refine va_calli (va_runS (As := [.int p2]) (rest := [.int (v_cubeZ p1.toNatClampNeg), .int ((v_cubeY p1.toNatClampNeg) + r_3), .int ((v_cubeX p1.toNatClampNeg) + r_1), .ref a_this]) C (c_X8_stepZ l D cI cZ cJ tb H.size p2 h) (va_cwS 1 hts gX8_cubeBeside_X8_stepZ rfl rfl rfl (by decide +kernel) ⟨Nat.le_of_ble_eq_true rfl, Nat.le_of_ble_eq_true rfl⟩) ⟨q_pre.blind, fun U hU hW => ⟨rfl, q_pre.of hU hW hPc hK hDc hSt hS hFc hNw⟩⟩ rfl rfl hl.1 rfl (lv_room (Nat.le_of_ble_eq_true rfl)) dX8_cubeBeside_30 ⟨Nat.zero_le _, Nat.zero_le _⟩) hS (fun q _ h => hFc q h) hFc (fun r_5 u_6 t H1 locs ht hvm hw hB hz1 hk1 hS => ?_)
  obtain ⟨hP1, hK1, hD1⟩ := hB
  rw [ht] at hP1
  obtain ⟨hP, hD⟩ := va_join (wr := [(a_this, .inr (8, [.int v_cubes, .ref a_cubeX, .ref a_cubeY, .ref a_cubeZ, .int v_faces, .ref a_cubeOf, .ref a_looks, .int v_laid, .ref a_lies, .ref a_handX, .ref a_handY, .ref a_handRight, .ref a_handUp, .int v_count, .ref a_order, .ref a_choice, .ref a_has, .ref a_atX, .ref a_atY, .ref a_right, .ref a_up, .int v_step, .int v_ended, .int v_nets, .int v_work, .int v_bestWidth, .int v_bestHeight, .int v_bestNet, .ref a_bestX, .ref a_bestY, .int v_shapes, .ref a_shapeSize, .ref a_shapeRow, .ref a_nextFace, .ref a_leads, .ref a_grid, .ref a_imageX, .ref a_imageY, .ref a_row, .ref a_bestRow, .ref a_on, .ref a_onRight, .ref a_onUp, .ref a_queue])), (a_cubeX, .inl (cI, 5, .inl v_cubeX)), (a_cubeY, .inl (cI, 5, .inl v_cubeY)), (a_cubeZ, .inl (cI, 5, .inl v_cubeZ))]) (w1 := (wd_X8_stepZ cI cZ cJ)) hP hD [] [0, 1, 2, 3] rfl rfl (by decide) (by decide) hk1 hFc hP1 hD1
  clear hPc hDc hFc hP1 hD1 hK1 hk1 hz1 ht hvm
  replace h := hw
  clear hw
  generalize H1 = H at hP hS ⊢
  replace hP : va_P D vwCl (wd_X8_cubeBeside cI cZ cJ a_this a_cubeX a_cubeY a_cubeZ a_cubeOf a_looks a_lies a_handX a_handY a_handRight a_handUp a_order a_choice a_has a_atX a_atY a_right a_up a_bestX a_bestY a_shapeSize a_shapeRow a_nextFace a_leads a_grid a_imageX a_imageY a_row a_bestRow a_on a_onRight a_onUp a_queue v_cubes v_faces v_laid v_count v_step v_ended v_nets v_work v_bestWidth v_bestHeight v_bestNet v_shapes v_cubeX v_cubeY v_cubeZ) H := hP.sub [0, 1, 2, 3] rfl
  replace hD : va_D A (wd_X8_cubeBeside cI cZ cJ a_this a_cubeX a_cubeY a_cubeZ a_cubeOf a_looks a_lies a_handX a_handY a_handRight a_handUp a_order a_choice a_has a_atX a_atY a_right a_up a_bestX a_bestY a_shapeSize a_shapeRow a_nextFace a_leads a_grid a_imageX a_imageY a_row a_bestRow a_on a_onRight a_onUp a_queue v_cubes v_faces v_laid v_count v_step v_ended v_nets v_work v_bestWidth v_bestHeight v_bestNet v_shapes v_cubeX v_cubeY v_cubeZ) := hD.sub [0, 1, 2, 3] (by decide) rfl
  refine lv_iadd hx hb dX8_cubeBeside_33 ?_
  have hPc := hP.sub (ws' := (wd_X8_cubeAt cI cZ cJ a_this a_cubeX a_cubeY a_cubeZ a_cubeOf a_looks a_lies a_handX a_handY a_handRight a_handUp a_order a_choice a_has a_atX a_atY a_right a_up a_bestX a_bestY a_shapeSize a_shapeRow a_nextFace a_leads a_grid a_imageX a_imageY a_row a_bestRow a_on a_onRight a_onUp a_queue v_cubes v_faces v_laid v_count v_step v_ended v_nets v_work v_bestWidth v_bestHeight v_bestNet v_shapes v_cubeX v_cubeY v_cubeZ)) [0, 1, 2, 3] rfl
  have hDc := hD.sub (ws' := (wd_X8_cubeAt cI cZ cJ a_this a_cubeX a_cubeY a_cubeZ a_cubeOf a_looks a_lies a_handX a_handY a_handRight a_handUp a_order a_choice a_has a_atX a_atY a_right a_up a_bestX a_bestY a_shapeSize a_shapeRow a_nextFace a_leads a_grid a_imageX a_imageY a_row a_bestRow a_on a_onRight a_onUp a_queue v_cubes v_faces v_laid v_count v_step v_ended v_nets v_work v_bestWidth v_bestHeight v_bestNet v_shapes v_cubeX v_cubeY v_cubeZ)) [0, 1, 2, 3] (by decide) rfl
  have hFc := va_free (wc := (wd_X8_cubeAt cI cZ cJ a_this a_cubeX a_cubeY a_cubeZ a_cubeOf a_looks a_lies a_handX a_handY a_handRight a_handUp a_order a_choice a_has a_atX a_atY a_right a_up a_bestX a_bestY a_shapeSize a_shapeRow a_nextFace a_leads a_grid a_imageX a_imageY a_row a_bestRow a_on a_onRight a_onUp a_queue v_cubes v_faces v_laid v_count v_step v_ended v_nets v_work v_bestWidth v_bestHeight v_bestNet v_shapes v_cubeX v_cubeY v_cubeZ)) hD hS hA [0, 1, 2, 3] rfl
  refine va_calli (va_runV (As := [.int ((v_cubeX p1.toNatClampNeg) + r_1), .int ((v_cubeY p1.toNatClampNeg) + r_3), .int ((v_cubeZ p1.toNatClampNeg) + r_5)]) (rest := []) C (c_X8_cubeAt l D cI cZ cJ tb a_this a_cubeX a_cubeY a_cubeZ a_cubeOf a_looks a_lies a_handX a_handY a_handRight a_handUp a_order a_choice a_has a_atX a_atY a_right a_up a_bestX a_bestY a_shapeSize a_shapeRow a_nextFace a_leads a_grid a_imageX a_imageY a_row a_bestRow a_on a_onRight a_onUp a_queue v_cubes v_faces v_laid v_count v_step v_ended v_nets v_work v_bestWidth v_bestHeight v_bestNet v_shapes v_cubeX v_cubeY v_cubeZ H.size ((v_cubeX p1.toNatClampNeg) + r_1) ((v_cubeY p1.toNatClampNeg) + r_3) ((v_cubeZ p1.toNatClampNeg) + r_5) h) (cwV 3 hts gX8_cubeBeside_X8_cubeAt rfl rfl rfl (by decide +kernel) ⟨Nat.le_of_ble_eq_true rfl, Nat.le_of_ble_eq_true rfl⟩) ⟨q_pre.blind, va_recv hK hP (ci := 8) (q0 := 0) rfl rfl, fun U hU hW => ⟨rfl, q_pre.of hU hW hPc hK hDc hSt hS hFc hNw⟩⟩ rfl rfl hl.1 rfl (lv_room (Nat.le_of_ble_eq_true rfl)) dX8_cubeBeside_34 ⟨Nat.zero_le _, Nat.zero_le _⟩) hS (fun q _ h => hFc q h) hFc (fun r_7 u_8 t H1 locs ht hvm hw hB hz1 hk1 hS => ?_)
  obtain ⟨hP1, hK1, hD1⟩ := hB
  rw [ht] at hP1
  obtain ⟨hP, hD⟩ := va_join (wr := []) (w1 := (wd_X8_cubeAt cI cZ cJ a_this a_cubeX a_cubeY a_cubeZ a_cubeOf a_looks a_lies a_handX a_handY a_handRight a_handUp a_order a_choice a_has a_atX a_atY a_right a_up a_bestX a_bestY a_shapeSize a_shapeRow a_nextFace a_leads a_grid a_imageX a_imageY a_row a_bestRow a_on a_onRight a_onUp a_queue v_cubes v_faces v_laid v_count v_step v_ended v_nets v_work v_bestWidth v_bestHeight v_bestNet v_shapes v_cubeX v_cubeY v_cubeZ)) hP hD [0, 1, 2, 3] [] rfl rfl (by decide) (by decide) hk1 hFc hP1 hD1
  clear hPc hDc hFc hP1 hD1 hK1 hk1 hz1 ht hvm
  replace h := hw
  clear hw
  generalize H1 = H at hP hS ⊢
  replace hP : va_P D vwCl (wd_X8_cubeBeside cI cZ cJ a_this a_cubeX a_cubeY a_cubeZ a_cubeOf a_looks a_lies a_handX a_handY a_handRight a_handUp a_order a_choice a_has a_atX a_atY a_right a_up a_bestX a_bestY a_shapeSize a_shapeRow a_nextFace a_leads a_grid a_imageX a_imageY a_row a_bestRow a_on a_onRight a_onUp a_queue v_cubes v_faces v_laid v_count v_step v_ended v_nets v_work v_bestWidth v_bestHeight v_bestNet v_shapes v_cubeX v_cubeY v_cubeZ) H := hP.sub [0, 1, 2, 3] rfl
  replace hD : va_D A (wd_X8_cubeBeside cI cZ cJ a_this a_cubeX a_cubeY a_cubeZ a_cubeOf a_looks a_lies a_handX a_handY a_handRight a_handUp a_order a_choice a_has a_atX a_atY a_right a_up a_bestX a_bestY a_shapeSize a_shapeRow a_nextFace a_leads a_grid a_imageX a_imageY a_row a_bestRow a_on a_onRight a_onUp a_queue v_cubes v_faces v_laid v_count v_step v_ended v_nets v_work v_bestWidth v_bestHeight v_bestNet v_shapes v_cubeX v_cubeY v_cubeZ) := hD.sub [0, 1, 2, 3] (by decide) rfl
  exact ret r_7 () _ _ _ 37 dX8_cubeBeside_37 h hP hD hS
def wd_X8_edge (cI cZ cJ : ClassId) (a_this a_cubeOf a_cubeX a_cubeY a_cubeZ a_looks a_lies a_handX a_handY a_handRight a_handUp a_order a_choice a_has a_atX a_atY a_right a_up a_bestX a_bestY a_shapeSize a_shapeRow a_nextFace a_leads a_grid a_imageX a_imageY a_row a_bestRow a_on a_onRight a_onUp a_queue : Nat) (v_cubes : Int32) (v_faces : Int32) (v_laid : Int32) (v_count : Int32) (v_step : Int32) (v_ended : Int32) (v_nets : Int32) (v_work : Int32) (v_bestWidth : Int32) (v_bestHeight : Int32) (v_bestNet : Int32) (v_shapes : Int32) (v_cubeOf : Nat → Int32) (v_cubeX : Nat → Int32) (v_cubeY : Nat → Int32) (v_cubeZ : Nat → Int32) (v_looks : Nat → Int32) : va_W := [(a_this, .inr (8, [.int v_cubes, .ref a_cubeX, .ref a_cubeY, .ref a_cubeZ, .int v_faces, .ref a_cubeOf, .ref a_looks, .int v_laid, .ref a_lies, .ref a_handX, .ref a_handY, .ref a_handRight, .ref a_handUp, .int v_count, .ref a_order, .ref a_choice, .ref a_has, .ref a_atX, .ref a_atY, .ref a_right, .ref a_up, .int v_step, .int v_ended, .int v_nets, .int v_work, .int v_bestWidth, .int v_bestHeight, .int v_bestNet, .ref a_bestX, .ref a_bestY, .int v_shapes, .ref a_shapeSize, .ref a_shapeRow, .ref a_nextFace, .ref a_leads, .ref a_grid, .ref a_imageX, .ref a_imageY, .ref a_row, .ref a_bestRow, .ref a_on, .ref a_onRight, .ref a_onUp, .ref a_queue])),
  (a_cubeOf, .inl (cI, 30, .inl v_cubeOf)),
  (a_cubeX, .inl (cI, 5, .inl v_cubeX)),
  (a_cubeY, .inl (cI, 5, .inl v_cubeY)),
  (a_cubeZ, .inl (cI, 5, .inl v_cubeZ)),
  (a_looks, .inl (cI, 30, .inl v_looks))]
abbrev rm_X8_edge : Room := { frames := 2, cells := 0, slots := 0, locals := 46 }
set_option maxHeartbeats 4000000 in
set_option maxRecDepth 100000 in
theorem c_X8_edge (l : Launch) (D : va_G) (cI cZ cJ : ClassId) (tb : Nat → Nat) (a_this a_cubeOf a_cubeX a_cubeY a_cubeZ a_looks a_lies a_handX a_handY a_handRight a_handUp a_order a_choice a_has a_atX a_atY a_right a_up a_bestX a_bestY a_shapeSize a_shapeRow a_nextFace a_leads a_grid a_imageX a_imageY a_row a_bestRow a_on a_onRight a_onUp a_queue : Nat) (v_cubes : Int32) (v_faces : Int32) (v_laid : Int32) (v_count : Int32) (v_step : Int32) (v_ended : Int32) (v_nets : Int32) (v_work : Int32) (v_bestWidth : Int32) (v_bestHeight : Int32) (v_bestNet : Int32) (v_shapes : Int32) (v_cubeOf : Nat → Int32) (v_cubeX : Nat → Int32) (v_cubeY : Nat → Int32) (v_cubeZ : Nat → Int32) (v_looks : Nat → Int32) (sz : Nat) (p1 : Int32) (p2 : Int32) {post : Int32 → Prop} (h : wp_X8_edge v_cubes v_cubeOf v_cubeX v_cubeY v_cubeZ v_looks p1 p2 post) : Met l yX8_edge wsX8_edge rm_X8_edge (va_Pc [.ref a_this, .int p1, .int p2] (q_pre D cI cZ cJ tb (wd_X8_edge cI cZ cJ a_this a_cubeOf a_cubeX a_cubeY a_cubeZ a_looks a_lies a_handX a_handY a_handRight a_handUp a_order a_choice a_has a_atX a_atY a_right a_up a_bestX a_bestY a_shapeSize a_shapeRow a_nextFace a_leads a_grid a_imageX a_imageY a_row a_bestRow a_on a_onRight a_onUp a_queue v_cubes v_faces v_laid v_count v_step v_ended v_nets v_work v_bestWidth v_bestHeight v_bestNet v_shapes v_cubeOf v_cubeX v_cubeY v_cubeZ v_looks) sz)) (va_Qi (fun r (u : Unit) => post r) (fun u => q_post D cI cZ cJ (va_A (wd_X8_edge cI cZ cJ a_this a_cubeOf a_cubeX a_cubeY a_cubeZ a_looks a_lies a_handX a_handY a_handRight a_handUp a_order a_choice a_has a_atX a_atY a_right a_up a_bestX a_bestY a_shapeSize a_shapeRow a_nextFace a_leads a_grid a_imageX a_imageY a_row a_bestRow a_on a_onRight a_onUp a_queue v_cubes v_faces v_laid v_count v_step v_ended v_nets v_work v_bestWidth v_bestHeight v_bestNet v_shapes v_cubeOf v_cubeX v_cubeY v_cubeZ v_looks) sz) (wd_X8_edge cI cZ cJ a_this a_cubeOf a_cubeX a_cubeY a_cubeZ a_looks a_lies a_handX a_handY a_handRight a_handUp a_order a_choice a_has a_atX a_atY a_right a_up a_bestX a_bestY a_shapeSize a_shapeRow a_nextFace a_leads a_grid a_imageX a_imageY a_row a_bestRow a_on a_onRight a_onUp a_queue v_cubes v_faces v_laid v_count v_step v_ended v_nets v_work v_bestWidth v_bestHeight v_bestNet v_shapes v_cubeOf v_cubeX v_cubeY v_cubeZ v_looks)) (va_A (wd_X8_edge cI cZ cJ a_this a_cubeOf a_cubeX a_cubeY a_cubeZ a_looks a_lies a_handX a_handY a_handRight a_handUp a_order a_choice a_has a_atX a_atY a_right a_up a_bestX a_bestY a_shapeSize a_shapeRow a_nextFace a_leads a_grid a_imageX a_imageY a_row a_bestRow a_on a_onRight a_onUp a_queue v_cubes v_faces v_laid v_count v_step v_ended v_nets v_work v_bestWidth v_bestHeight v_bestNet v_shapes v_cubeOf v_cubeX v_cubeY v_cubeZ v_looks) sz)) 0 0 (va_A (wd_X8_edge cI cZ cJ a_this a_cubeOf a_cubeX a_cubeY a_cubeZ a_looks a_lies a_handX a_handY a_handRight a_handUp a_order a_choice a_has a_atX a_atY a_right a_up a_bestX a_bestY a_shapeSize a_shapeRow a_nextFace a_leads a_grid a_imageX a_imageY a_row a_bestRow a_on a_onRight a_onUp a_queue v_cubes v_faces v_laid v_count v_step v_ended v_nets v_work v_bestWidth v_bestHeight v_bestNet v_shapes v_cubeOf v_cubeX v_cubeY v_cubeZ v_looks) sz) := by
  refine q_walki (cc := cX8_edge) (maxL := 5) (own := RX8) (wd := fun (u : Unit) => (wd_X8_edge cI cZ cJ a_this a_cubeOf a_cubeX a_cubeY a_cubeZ a_looks a_lies a_handX a_handY a_handRight a_handUp a_order a_choice a_has a_atX a_atY a_right a_up a_bestX a_bestY a_shapeSize a_shapeRow a_nextFace a_leads a_grid a_imageX a_imageY a_row a_bestRow a_on a_onRight a_onUp a_queue v_cubes v_faces v_laid v_count v_step v_ended v_nets v_work v_bestWidth v_bestHeight v_bestNet v_shapes v_cubeOf v_cubeX v_cubeY v_cubeZ v_looks)) (by decide) rfl rfl (Nat.le_of_ble_eq_true rfl) ?_
  intro p e s m below meth c Q A ls C hA ret hP hD hS hK hSt hNw hl
  obtain ⟨hx, hb, hml, hown, hts⟩ := id C
  replace hl : lv_has ls 5 [(0, .ref a_this), (1, .int p1), (2, .int p2)] := hl
  have f19 := hts (.fieldLink RX8 19 "NetSearchModel" "cubeOf" "[I") (by decide +kernel)
  have iX8 : ∀ w ∈ wsX80, w ∈ wsX8_edge := by decide +kernel
  have f22 := hts (.fieldLink RX8 22 "NetSearchModel" "looks" "[I") (by decide +kernel)
  have f7 := hts (.fieldLink RX8 7 "NetSearchModel" "cubeX" "[I") (by decide +kernel)
  have f13 := hts (.fieldLink RX8 13 "NetSearchModel" "cubeY" "[I") (by decide +kernel)
  have f16 := hts (.fieldLink RX8 16 "NetSearchModel" "cubeZ" "[I") (by decide +kernel)
  unfold wp_X8_edge at h
  refine lv_aload_n hx hb dX8_edge_0 rfl (lv_at hl 0 rfl) ?_
  refine va_get (D := D) (ci := 8) (v := .ref a_cubeOf) (C := RX8) (T := TX8) (N := 44) hx hb hts iX8 hown hK hP 0 rfl rfl 5 (by decide) f19 (fun _ h9 => h9) rfl dX8_edge_1 ?_
  refine lv_iload_n hx hb dX8_edge_4 rfl (lv_at hl 1 rfl) ?_
  obtain ⟨hin, h⟩ := h
  refine va_iald hx hb hK hP 1 0 rfl rfl hin dX8_edge_5 ?_
  refine lv_istore_n (lv' := [(3, .int (v_cubeOf p1.toNatClampNeg)), (0, .ref a_this), (1, .int p1), (2, .int p2)]) hx hb dX8_edge_6 rfl hl (by decide) rfl (fun ls hl => ?_)
  refine lv_aload_n hx hb dX8_edge_7 rfl (lv_at hl 1 rfl) ?_
  refine va_get (D := D) (ci := 8) (v := .ref a_looks) (C := RX8) (T := TX8) (N := 44) hx hb hts iX8 hown hK hP 0 rfl rfl 6 (by decide) f22 (fun _ h9 => h9) rfl dX8_edge_8 ?_
  refine lv_iload_n hx hb dX8_edge_11 rfl (lv_at hl 2 rfl) ?_
  obtain ⟨hin, h⟩ := h
  refine va_iald hx hb hK hP 5 0 rfl rfl hin dX8_edge_12 ?_
  refine lv_istore (lv' := [(4, .int (v_looks p1.toNatClampNeg)), (3, .int (v_cubeOf p1.toNatClampNeg)), (0, .ref a_this), (1, .int p1), (2, .int p2)]) hx hb dX8_edge_13 hl (by decide) rfl (fun ls hl => ?_)
  refine lv_aload_n hx hb dX8_edge_15 rfl (lv_at hl 2 rfl) ?_
  refine lv_aload_n hx hb dX8_edge_16 rfl (lv_at hl 2 rfl) ?_
  refine va_get (D := D) (ci := 8) (v := .ref a_cubeX) (C := RX8) (T := TX8) (N := 44) hx hb hts iX8 hown hK hP 0 rfl rfl 1 (by decide) f7 (fun _ h9 => h9) rfl dX8_edge_17 ?_
  refine lv_iload_n hx hb dX8_edge_20 rfl (lv_at hl 1 rfl) ?_
  obtain ⟨hin, h⟩ := h
  refine va_iald hx hb hK hP 2 0 rfl rfl hin dX8_edge_21 ?_
  refine lv_iload_n hx hb dX8_edge_22 rfl (lv_at hl 4 rfl) ?_
  have hPc := hP.sub (ws' := (wd_X8_stepX cI cZ cJ)) [] rfl
  have hDc := hD.sub (ws' := (wd_X8_stepX cI cZ cJ)) [] (by decide) rfl
  have hFc := va_free (wc := (wd_X8_stepX cI cZ cJ)) hD hS hA [] rfl
  refine va_calli (va_runS (As := [.int p2]) (rest := [.int (v_cubeX (v_cubeOf p1.toNatClampNeg).toNatClampNeg), .ref a_this]) C (c_X8_stepX l D cI cZ cJ tb s.heap.size p2 h) (va_cwS 1 hts gX8_edge_X8_stepX rfl rfl rfl (by decide +kernel) ⟨Nat.le_of_ble_eq_true rfl, Nat.le_of_ble_eq_true rfl⟩) ⟨q_pre.blind, fun U hU hW => ⟨rfl, q_pre.of hU hW hPc hK hDc hSt hS hFc hNw⟩⟩ rfl rfl hl.1 rfl (lv_room (Nat.le_of_ble_eq_true rfl)) dX8_edge_23 ⟨Nat.zero_le _, Nat.zero_le _⟩) hS (fun q _ h => hFc q h) hFc (fun r_1 u_2 t H1 locs ht hvm hw hB hz1 hk1 hS => ?_)
  obtain ⟨hP1, hK1, hD1⟩ := hB
  rw [ht] at hP1
  obtain ⟨hP, hD⟩ := va_join (wr := [(a_this, .inr (8, [.int v_cubes, .ref a_cubeX, .ref a_cubeY, .ref a_cubeZ, .int v_faces, .ref a_cubeOf, .ref a_looks, .int v_laid, .ref a_lies, .ref a_handX, .ref a_handY, .ref a_handRight, .ref a_handUp, .int v_count, .ref a_order, .ref a_choice, .ref a_has, .ref a_atX, .ref a_atY, .ref a_right, .ref a_up, .int v_step, .int v_ended, .int v_nets, .int v_work, .int v_bestWidth, .int v_bestHeight, .int v_bestNet, .ref a_bestX, .ref a_bestY, .int v_shapes, .ref a_shapeSize, .ref a_shapeRow, .ref a_nextFace, .ref a_leads, .ref a_grid, .ref a_imageX, .ref a_imageY, .ref a_row, .ref a_bestRow, .ref a_on, .ref a_onRight, .ref a_onUp, .ref a_queue])), (a_cubeOf, .inl (cI, 30, .inl v_cubeOf)), (a_cubeX, .inl (cI, 5, .inl v_cubeX)), (a_cubeY, .inl (cI, 5, .inl v_cubeY)), (a_cubeZ, .inl (cI, 5, .inl v_cubeZ)), (a_looks, .inl (cI, 30, .inl v_looks))]) (w1 := (wd_X8_stepX cI cZ cJ)) hP hD [] [0, 1, 2, 3, 4, 5] rfl rfl (by decide) (by decide) hk1 hFc hP1 hD1
  clear hPc hDc hFc hP1 hD1 hK1 hk1 hz1 ht hvm
  replace h := hw
  clear hw
  generalize H1 = H at hP hS ⊢
  replace hP : va_P D vwCl (wd_X8_edge cI cZ cJ a_this a_cubeOf a_cubeX a_cubeY a_cubeZ a_looks a_lies a_handX a_handY a_handRight a_handUp a_order a_choice a_has a_atX a_atY a_right a_up a_bestX a_bestY a_shapeSize a_shapeRow a_nextFace a_leads a_grid a_imageX a_imageY a_row a_bestRow a_on a_onRight a_onUp a_queue v_cubes v_faces v_laid v_count v_step v_ended v_nets v_work v_bestWidth v_bestHeight v_bestNet v_shapes v_cubeOf v_cubeX v_cubeY v_cubeZ v_looks) H := hP.sub [0, 1, 2, 3, 4, 5] rfl
  replace hD : va_D A (wd_X8_edge cI cZ cJ a_this a_cubeOf a_cubeX a_cubeY a_cubeZ a_looks a_lies a_handX a_handY a_handRight a_handUp a_order a_choice a_has a_atX a_atY a_right a_up a_bestX a_bestY a_shapeSize a_shapeRow a_nextFace a_leads a_grid a_imageX a_imageY a_row a_bestRow a_on a_onRight a_onUp a_queue v_cubes v_faces v_laid v_count v_step v_ended v_nets v_work v_bestWidth v_bestHeight v_bestNet v_shapes v_cubeOf v_cubeX v_cubeY v_cubeZ v_looks) := hD.sub [0, 1, 2, 3, 4, 5] (by decide) rfl
  refine lv_iadd hx hb dX8_edge_26 ?_
  refine lv_iload hx hb dX8_edge_27 (lv_at hl 0 rfl) ?_
  have hPc := hP.sub (ws' := (wd_X8_stepX cI cZ cJ)) [] rfl
  have hDc := hD.sub (ws' := (wd_X8_stepX cI cZ cJ)) [] (by decide) rfl
  have hFc := va_free (wc := (wd_X8_stepX cI cZ cJ)) hD hS hA [] rfl
  refine va_calli (va_runS (As := [.int (v_looks p1.toNatClampNeg)]) (rest := [.int ((v_cubeX (v_cubeOf p1.toNatClampNeg).toNatClampNeg) + r_1), .ref a_this]) C (c_X8_stepX l D cI cZ cJ tb H.size (v_looks p1.toNatClampNeg) h) (va_cwS 1 hts gX8_edge_X8_stepX rfl rfl rfl (by decide +kernel) ⟨Nat.le_of_ble_eq_true rfl, Nat.le_of_ble_eq_true rfl⟩) ⟨q_pre.blind, fun U hU hW => ⟨rfl, q_pre.of hU hW hPc hK hDc hSt hS hFc hNw⟩⟩ rfl rfl hl.1 rfl (lv_room (Nat.le_of_ble_eq_true rfl)) dX8_edge_29 ⟨Nat.zero_le _, Nat.zero_le _⟩) hS (fun q _ h => hFc q h) hFc (fun r_3 u_4 t H1 locs ht hvm hw hB hz1 hk1 hS => ?_)
  obtain ⟨hP1, hK1, hD1⟩ := hB
  rw [ht] at hP1
  obtain ⟨hP, hD⟩ := va_join (wr := [(a_this, .inr (8, [.int v_cubes, .ref a_cubeX, .ref a_cubeY, .ref a_cubeZ, .int v_faces, .ref a_cubeOf, .ref a_looks, .int v_laid, .ref a_lies, .ref a_handX, .ref a_handY, .ref a_handRight, .ref a_handUp, .int v_count, .ref a_order, .ref a_choice, .ref a_has, .ref a_atX, .ref a_atY, .ref a_right, .ref a_up, .int v_step, .int v_ended, .int v_nets, .int v_work, .int v_bestWidth, .int v_bestHeight, .int v_bestNet, .ref a_bestX, .ref a_bestY, .int v_shapes, .ref a_shapeSize, .ref a_shapeRow, .ref a_nextFace, .ref a_leads, .ref a_grid, .ref a_imageX, .ref a_imageY, .ref a_row, .ref a_bestRow, .ref a_on, .ref a_onRight, .ref a_onUp, .ref a_queue])), (a_cubeOf, .inl (cI, 30, .inl v_cubeOf)), (a_cubeX, .inl (cI, 5, .inl v_cubeX)), (a_cubeY, .inl (cI, 5, .inl v_cubeY)), (a_cubeZ, .inl (cI, 5, .inl v_cubeZ)), (a_looks, .inl (cI, 30, .inl v_looks))]) (w1 := (wd_X8_stepX cI cZ cJ)) hP hD [] [0, 1, 2, 3, 4, 5] rfl rfl (by decide) (by decide) hk1 hFc hP1 hD1
  clear hPc hDc hFc hP1 hD1 hK1 hk1 hz1 ht hvm
  replace h := hw
  clear hw
  generalize H1 = H at hP hS ⊢
  replace hP : va_P D vwCl (wd_X8_edge cI cZ cJ a_this a_cubeOf a_cubeX a_cubeY a_cubeZ a_looks a_lies a_handX a_handY a_handRight a_handUp a_order a_choice a_has a_atX a_atY a_right a_up a_bestX a_bestY a_shapeSize a_shapeRow a_nextFace a_leads a_grid a_imageX a_imageY a_row a_bestRow a_on a_onRight a_onUp a_queue v_cubes v_faces v_laid v_count v_step v_ended v_nets v_work v_bestWidth v_bestHeight v_bestNet v_shapes v_cubeOf v_cubeX v_cubeY v_cubeZ v_looks) H := hP.sub [0, 1, 2, 3, 4, 5] rfl
  replace hD : va_D A (wd_X8_edge cI cZ cJ a_this a_cubeOf a_cubeX a_cubeY a_cubeZ a_looks a_lies a_handX a_handY a_handRight a_handUp a_order a_choice a_has a_atX a_atY a_right a_up a_bestX a_bestY a_shapeSize a_shapeRow a_nextFace a_leads a_grid a_imageX a_imageY a_row a_bestRow a_on a_onRight a_onUp a_queue v_cubes v_faces v_laid v_count v_step v_ended v_nets v_work v_bestWidth v_bestHeight v_bestNet v_shapes v_cubeOf v_cubeX v_cubeY v_cubeZ v_looks) := hD.sub [0, 1, 2, 3, 4, 5] (by decide) rfl
  refine lv_iadd hx hb dX8_edge_32 ?_
  refine lv_aload_n hx hb dX8_edge_33 rfl (lv_at hl 2 rfl) ?_
  refine va_get (D := D) (ci := 8) (v := .ref a_cubeY) (C := RX8) (T := TX8) (N := 44) hx hb hts iX8 hown hK hP 0 rfl rfl 2 (by decide) f13 (fun _ h9 => h9) rfl dX8_edge_34 ?_
  refine lv_iload_n hx hb dX8_edge_37 rfl (lv_at hl 1 rfl) ?_
  obtain ⟨hin, h⟩ := h
  refine va_iald hx hb hK hP 3 0 rfl rfl hin dX8_edge_38 ?_
  refine lv_iload_n hx hb dX8_edge_39 rfl (lv_at hl 4 rfl) ?_
  have hPc := hP.sub (ws' := (wd_X8_stepY cI cZ cJ)) [] rfl
  have hDc := hD.sub (ws' := (wd_X8_stepY cI cZ cJ)) [] (by decide) rfl
  have hFc := va_free (wc := (wd_X8_stepY cI cZ cJ)) hD hS hA [] rfl
  refine va_calli (va_runS (As := [.int p2]) (rest := [.int (v_cubeY (v_cubeOf p1.toNatClampNeg).toNatClampNeg), .int (((v_cubeX (v_cubeOf p1.toNatClampNeg).toNatClampNeg) + r_1) + r_3), .ref a_this]) C (c_X8_stepY l D cI cZ cJ tb H.size p2 h) (va_cwS 1 hts gX8_edge_X8_stepY rfl rfl rfl (by decide +kernel) ⟨Nat.le_of_ble_eq_true rfl, Nat.le_of_ble_eq_true rfl⟩) ⟨q_pre.blind, fun U hU hW => ⟨rfl, q_pre.of hU hW hPc hK hDc hSt hS hFc hNw⟩⟩ rfl rfl hl.1 rfl (lv_room (Nat.le_of_ble_eq_true rfl)) dX8_edge_40 ⟨Nat.zero_le _, Nat.zero_le _⟩) hS (fun q _ h => hFc q h) hFc (fun r_5 u_6 t H1 locs ht hvm hw hB hz1 hk1 hS => ?_)
  obtain ⟨hP1, hK1, hD1⟩ := hB
  rw [ht] at hP1
  obtain ⟨hP, hD⟩ := va_join (wr := [(a_this, .inr (8, [.int v_cubes, .ref a_cubeX, .ref a_cubeY, .ref a_cubeZ, .int v_faces, .ref a_cubeOf, .ref a_looks, .int v_laid, .ref a_lies, .ref a_handX, .ref a_handY, .ref a_handRight, .ref a_handUp, .int v_count, .ref a_order, .ref a_choice, .ref a_has, .ref a_atX, .ref a_atY, .ref a_right, .ref a_up, .int v_step, .int v_ended, .int v_nets, .int v_work, .int v_bestWidth, .int v_bestHeight, .int v_bestNet, .ref a_bestX, .ref a_bestY, .int v_shapes, .ref a_shapeSize, .ref a_shapeRow, .ref a_nextFace, .ref a_leads, .ref a_grid, .ref a_imageX, .ref a_imageY, .ref a_row, .ref a_bestRow, .ref a_on, .ref a_onRight, .ref a_onUp, .ref a_queue])), (a_cubeOf, .inl (cI, 30, .inl v_cubeOf)), (a_cubeX, .inl (cI, 5, .inl v_cubeX)), (a_cubeY, .inl (cI, 5, .inl v_cubeY)), (a_cubeZ, .inl (cI, 5, .inl v_cubeZ)), (a_looks, .inl (cI, 30, .inl v_looks))]) (w1 := (wd_X8_stepY cI cZ cJ)) hP hD [] [0, 1, 2, 3, 4, 5] rfl rfl (by decide) (by decide) hk1 hFc hP1 hD1
  clear hPc hDc hFc hP1 hD1 hK1 hk1 hz1 ht hvm
  replace h := hw
  clear hw
  generalize H1 = H at hP hS ⊢
  replace hP : va_P D vwCl (wd_X8_edge cI cZ cJ a_this a_cubeOf a_cubeX a_cubeY a_cubeZ a_looks a_lies a_handX a_handY a_handRight a_handUp a_order a_choice a_has a_atX a_atY a_right a_up a_bestX a_bestY a_shapeSize a_shapeRow a_nextFace a_leads a_grid a_imageX a_imageY a_row a_bestRow a_on a_onRight a_onUp a_queue v_cubes v_faces v_laid v_count v_step v_ended v_nets v_work v_bestWidth v_bestHeight v_bestNet v_shapes v_cubeOf v_cubeX v_cubeY v_cubeZ v_looks) H := hP.sub [0, 1, 2, 3, 4, 5] rfl
  replace hD : va_D A (wd_X8_edge cI cZ cJ a_this a_cubeOf a_cubeX a_cubeY a_cubeZ a_looks a_lies a_handX a_handY a_handRight a_handUp a_order a_choice a_has a_atX a_atY a_right a_up a_bestX a_bestY a_shapeSize a_shapeRow a_nextFace a_leads a_grid a_imageX a_imageY a_row a_bestRow a_on a_onRight a_onUp a_queue v_cubes v_faces v_laid v_count v_step v_ended v_nets v_work v_bestWidth v_bestHeight v_bestNet v_shapes v_cubeOf v_cubeX v_cubeY v_cubeZ v_looks) := hD.sub [0, 1, 2, 3, 4, 5] (by decide) rfl
  refine lv_iadd hx hb dX8_edge_43 ?_
  refine lv_iload hx hb dX8_edge_44 (lv_at hl 0 rfl) ?_
  have hPc := hP.sub (ws' := (wd_X8_stepY cI cZ cJ)) [] rfl
  have hDc := hD.sub (ws' := (wd_X8_stepY cI cZ cJ)) [] (by decide) rfl
  have hFc := va_free (wc := (wd_X8_stepY cI cZ cJ)) hD hS hA [] rfl
  refine va_calli (va_runS (As := [.int (v_looks p1.toNatClampNeg)]) (rest := [.int ((v_cubeY (v_cubeOf p1.toNatClampNeg).toNatClampNeg) + r_5), .int (((v_cubeX (v_cubeOf p1.toNatClampNeg).toNatClampNeg) + r_1) + r_3), .ref a_this]) C (c_X8_stepY l D cI cZ cJ tb H.size (v_looks p1.toNatClampNeg) h) (va_cwS 1 hts gX8_edge_X8_stepY rfl rfl rfl (by decide +kernel) ⟨Nat.le_of_ble_eq_true rfl, Nat.le_of_ble_eq_true rfl⟩) ⟨q_pre.blind, fun U hU hW => ⟨rfl, q_pre.of hU hW hPc hK hDc hSt hS hFc hNw⟩⟩ rfl rfl hl.1 rfl (lv_room (Nat.le_of_ble_eq_true rfl)) dX8_edge_46 ⟨Nat.zero_le _, Nat.zero_le _⟩) hS (fun q _ h => hFc q h) hFc (fun r_7 u_8 t H1 locs ht hvm hw hB hz1 hk1 hS => ?_)
  obtain ⟨hP1, hK1, hD1⟩ := hB
  rw [ht] at hP1
  obtain ⟨hP, hD⟩ := va_join (wr := [(a_this, .inr (8, [.int v_cubes, .ref a_cubeX, .ref a_cubeY, .ref a_cubeZ, .int v_faces, .ref a_cubeOf, .ref a_looks, .int v_laid, .ref a_lies, .ref a_handX, .ref a_handY, .ref a_handRight, .ref a_handUp, .int v_count, .ref a_order, .ref a_choice, .ref a_has, .ref a_atX, .ref a_atY, .ref a_right, .ref a_up, .int v_step, .int v_ended, .int v_nets, .int v_work, .int v_bestWidth, .int v_bestHeight, .int v_bestNet, .ref a_bestX, .ref a_bestY, .int v_shapes, .ref a_shapeSize, .ref a_shapeRow, .ref a_nextFace, .ref a_leads, .ref a_grid, .ref a_imageX, .ref a_imageY, .ref a_row, .ref a_bestRow, .ref a_on, .ref a_onRight, .ref a_onUp, .ref a_queue])), (a_cubeOf, .inl (cI, 30, .inl v_cubeOf)), (a_cubeX, .inl (cI, 5, .inl v_cubeX)), (a_cubeY, .inl (cI, 5, .inl v_cubeY)), (a_cubeZ, .inl (cI, 5, .inl v_cubeZ)), (a_looks, .inl (cI, 30, .inl v_looks))]) (w1 := (wd_X8_stepY cI cZ cJ)) hP hD [] [0, 1, 2, 3, 4, 5] rfl rfl (by decide) (by decide) hk1 hFc hP1 hD1
  clear hPc hDc hFc hP1 hD1 hK1 hk1 hz1 ht hvm
  replace h := hw
  clear hw
  generalize H1 = H at hP hS ⊢
  replace hP : va_P D vwCl (wd_X8_edge cI cZ cJ a_this a_cubeOf a_cubeX a_cubeY a_cubeZ a_looks a_lies a_handX a_handY a_handRight a_handUp a_order a_choice a_has a_atX a_atY a_right a_up a_bestX a_bestY a_shapeSize a_shapeRow a_nextFace a_leads a_grid a_imageX a_imageY a_row a_bestRow a_on a_onRight a_onUp a_queue v_cubes v_faces v_laid v_count v_step v_ended v_nets v_work v_bestWidth v_bestHeight v_bestNet v_shapes v_cubeOf v_cubeX v_cubeY v_cubeZ v_looks) H := hP.sub [0, 1, 2, 3, 4, 5] rfl
  replace hD : va_D A (wd_X8_edge cI cZ cJ a_this a_cubeOf a_cubeX a_cubeY a_cubeZ a_looks a_lies a_handX a_handY a_handRight a_handUp a_order a_choice a_has a_atX a_atY a_right a_up a_bestX a_bestY a_shapeSize a_shapeRow a_nextFace a_leads a_grid a_imageX a_imageY a_row a_bestRow a_on a_onRight a_onUp a_queue v_cubes v_faces v_laid v_count v_step v_ended v_nets v_work v_bestWidth v_bestHeight v_bestNet v_shapes v_cubeOf v_cubeX v_cubeY v_cubeZ v_looks) := hD.sub [0, 1, 2, 3, 4, 5] (by decide) rfl
  refine lv_iadd hx hb dX8_edge_49 ?_
  refine lv_aload_n hx hb dX8_edge_50 rfl (lv_at hl 2 rfl) ?_
  refine va_get (D := D) (ci := 8) (v := .ref a_cubeZ) (C := RX8) (T := TX8) (N := 44) hx hb hts iX8 hown hK hP 0 rfl rfl 3 (by decide) f16 (fun _ h9 => h9) rfl dX8_edge_51 ?_
  refine lv_iload_n hx hb dX8_edge_54 rfl (lv_at hl 1 rfl) ?_
  obtain ⟨hin, h⟩ := h
  refine va_iald hx hb hK hP 4 0 rfl rfl hin dX8_edge_55 ?_
  refine lv_iload_n hx hb dX8_edge_56 rfl (lv_at hl 4 rfl) ?_
  have hPc := hP.sub (ws' := (wd_X8_stepZ cI cZ cJ)) [] rfl
  have hDc := hD.sub (ws' := (wd_X8_stepZ cI cZ cJ)) [] (by decide) rfl
  have hFc := va_free (wc := (wd_X8_stepZ cI cZ cJ)) hD hS hA [] rfl
  refine va_calli (va_runS (As := [.int p2]) (rest := [.int (v_cubeZ (v_cubeOf p1.toNatClampNeg).toNatClampNeg), .int (((v_cubeY (v_cubeOf p1.toNatClampNeg).toNatClampNeg) + r_5) + r_7), .int (((v_cubeX (v_cubeOf p1.toNatClampNeg).toNatClampNeg) + r_1) + r_3), .ref a_this]) C (c_X8_stepZ l D cI cZ cJ tb H.size p2 h) (va_cwS 1 hts gX8_edge_X8_stepZ rfl rfl rfl (by decide +kernel) ⟨Nat.le_of_ble_eq_true rfl, Nat.le_of_ble_eq_true rfl⟩) ⟨q_pre.blind, fun U hU hW => ⟨rfl, q_pre.of hU hW hPc hK hDc hSt hS hFc hNw⟩⟩ rfl rfl hl.1 rfl (lv_room (Nat.le_of_ble_eq_true rfl)) dX8_edge_57 ⟨Nat.zero_le _, Nat.zero_le _⟩) hS (fun q _ h => hFc q h) hFc (fun r_9 u_10 t H1 locs ht hvm hw hB hz1 hk1 hS => ?_)
  obtain ⟨hP1, hK1, hD1⟩ := hB
  rw [ht] at hP1
  obtain ⟨hP, hD⟩ := va_join (wr := [(a_this, .inr (8, [.int v_cubes, .ref a_cubeX, .ref a_cubeY, .ref a_cubeZ, .int v_faces, .ref a_cubeOf, .ref a_looks, .int v_laid, .ref a_lies, .ref a_handX, .ref a_handY, .ref a_handRight, .ref a_handUp, .int v_count, .ref a_order, .ref a_choice, .ref a_has, .ref a_atX, .ref a_atY, .ref a_right, .ref a_up, .int v_step, .int v_ended, .int v_nets, .int v_work, .int v_bestWidth, .int v_bestHeight, .int v_bestNet, .ref a_bestX, .ref a_bestY, .int v_shapes, .ref a_shapeSize, .ref a_shapeRow, .ref a_nextFace, .ref a_leads, .ref a_grid, .ref a_imageX, .ref a_imageY, .ref a_row, .ref a_bestRow, .ref a_on, .ref a_onRight, .ref a_onUp, .ref a_queue])), (a_cubeOf, .inl (cI, 30, .inl v_cubeOf)), (a_cubeX, .inl (cI, 5, .inl v_cubeX)), (a_cubeY, .inl (cI, 5, .inl v_cubeY)), (a_cubeZ, .inl (cI, 5, .inl v_cubeZ)), (a_looks, .inl (cI, 30, .inl v_looks))]) (w1 := (wd_X8_stepZ cI cZ cJ)) hP hD [] [0, 1, 2, 3, 4, 5] rfl rfl (by decide) (by decide) hk1 hFc hP1 hD1
  clear hPc hDc hFc hP1 hD1 hK1 hk1 hz1 ht hvm
  replace h := hw
  clear hw
  generalize H1 = H at hP hS ⊢
  replace hP : va_P D vwCl (wd_X8_edge cI cZ cJ a_this a_cubeOf a_cubeX a_cubeY a_cubeZ a_looks a_lies a_handX a_handY a_handRight a_handUp a_order a_choice a_has a_atX a_atY a_right a_up a_bestX a_bestY a_shapeSize a_shapeRow a_nextFace a_leads a_grid a_imageX a_imageY a_row a_bestRow a_on a_onRight a_onUp a_queue v_cubes v_faces v_laid v_count v_step v_ended v_nets v_work v_bestWidth v_bestHeight v_bestNet v_shapes v_cubeOf v_cubeX v_cubeY v_cubeZ v_looks) H := hP.sub [0, 1, 2, 3, 4, 5] rfl
  replace hD : va_D A (wd_X8_edge cI cZ cJ a_this a_cubeOf a_cubeX a_cubeY a_cubeZ a_looks a_lies a_handX a_handY a_handRight a_handUp a_order a_choice a_has a_atX a_atY a_right a_up a_bestX a_bestY a_shapeSize a_shapeRow a_nextFace a_leads a_grid a_imageX a_imageY a_row a_bestRow a_on a_onRight a_onUp a_queue v_cubes v_faces v_laid v_count v_step v_ended v_nets v_work v_bestWidth v_bestHeight v_bestNet v_shapes v_cubeOf v_cubeX v_cubeY v_cubeZ v_looks) := hD.sub [0, 1, 2, 3, 4, 5] (by decide) rfl
  refine lv_iadd hx hb dX8_edge_60 ?_
  refine lv_iload hx hb dX8_edge_61 (lv_at hl 0 rfl) ?_
  have hPc := hP.sub (ws' := (wd_X8_stepZ cI cZ cJ)) [] rfl
  have hDc := hD.sub (ws' := (wd_X8_stepZ cI cZ cJ)) [] (by decide) rfl
  have hFc := va_free (wc := (wd_X8_stepZ cI cZ cJ)) hD hS hA [] rfl
  refine va_calli (va_runS (As := [.int (v_looks p1.toNatClampNeg)]) (rest := [.int ((v_cubeZ (v_cubeOf p1.toNatClampNeg).toNatClampNeg) + r_9), .int (((v_cubeY (v_cubeOf p1.toNatClampNeg).toNatClampNeg) + r_5) + r_7), .int (((v_cubeX (v_cubeOf p1.toNatClampNeg).toNatClampNeg) + r_1) + r_3), .ref a_this]) C (c_X8_stepZ l D cI cZ cJ tb H.size (v_looks p1.toNatClampNeg) h) (va_cwS 1 hts gX8_edge_X8_stepZ rfl rfl rfl (by decide +kernel) ⟨Nat.le_of_ble_eq_true rfl, Nat.le_of_ble_eq_true rfl⟩) ⟨q_pre.blind, fun U hU hW => ⟨rfl, q_pre.of hU hW hPc hK hDc hSt hS hFc hNw⟩⟩ rfl rfl hl.1 rfl (lv_room (Nat.le_of_ble_eq_true rfl)) dX8_edge_63 ⟨Nat.zero_le _, Nat.zero_le _⟩) hS (fun q _ h => hFc q h) hFc (fun r_11 u_12 t H1 locs ht hvm hw hB hz1 hk1 hS => ?_)
  obtain ⟨hP1, hK1, hD1⟩ := hB
  rw [ht] at hP1
  obtain ⟨hP, hD⟩ := va_join (wr := [(a_this, .inr (8, [.int v_cubes, .ref a_cubeX, .ref a_cubeY, .ref a_cubeZ, .int v_faces, .ref a_cubeOf, .ref a_looks, .int v_laid, .ref a_lies, .ref a_handX, .ref a_handY, .ref a_handRight, .ref a_handUp, .int v_count, .ref a_order, .ref a_choice, .ref a_has, .ref a_atX, .ref a_atY, .ref a_right, .ref a_up, .int v_step, .int v_ended, .int v_nets, .int v_work, .int v_bestWidth, .int v_bestHeight, .int v_bestNet, .ref a_bestX, .ref a_bestY, .int v_shapes, .ref a_shapeSize, .ref a_shapeRow, .ref a_nextFace, .ref a_leads, .ref a_grid, .ref a_imageX, .ref a_imageY, .ref a_row, .ref a_bestRow, .ref a_on, .ref a_onRight, .ref a_onUp, .ref a_queue])), (a_cubeOf, .inl (cI, 30, .inl v_cubeOf)), (a_cubeX, .inl (cI, 5, .inl v_cubeX)), (a_cubeY, .inl (cI, 5, .inl v_cubeY)), (a_cubeZ, .inl (cI, 5, .inl v_cubeZ)), (a_looks, .inl (cI, 30, .inl v_looks))]) (w1 := (wd_X8_stepZ cI cZ cJ)) hP hD [] [0, 1, 2, 3, 4, 5] rfl rfl (by decide) (by decide) hk1 hFc hP1 hD1
  clear hPc hDc hFc hP1 hD1 hK1 hk1 hz1 ht hvm
  replace h := hw
  clear hw
  generalize H1 = H at hP hS ⊢
  replace hP : va_P D vwCl (wd_X8_edge cI cZ cJ a_this a_cubeOf a_cubeX a_cubeY a_cubeZ a_looks a_lies a_handX a_handY a_handRight a_handUp a_order a_choice a_has a_atX a_atY a_right a_up a_bestX a_bestY a_shapeSize a_shapeRow a_nextFace a_leads a_grid a_imageX a_imageY a_row a_bestRow a_on a_onRight a_onUp a_queue v_cubes v_faces v_laid v_count v_step v_ended v_nets v_work v_bestWidth v_bestHeight v_bestNet v_shapes v_cubeOf v_cubeX v_cubeY v_cubeZ v_looks) H := hP.sub [0, 1, 2, 3, 4, 5] rfl
  replace hD : va_D A (wd_X8_edge cI cZ cJ a_this a_cubeOf a_cubeX a_cubeY a_cubeZ a_looks a_lies a_handX a_handY a_handRight a_handUp a_order a_choice a_has a_atX a_atY a_right a_up a_bestX a_bestY a_shapeSize a_shapeRow a_nextFace a_leads a_grid a_imageX a_imageY a_row a_bestRow a_on a_onRight a_onUp a_queue v_cubes v_faces v_laid v_count v_step v_ended v_nets v_work v_bestWidth v_bestHeight v_bestNet v_shapes v_cubeOf v_cubeX v_cubeY v_cubeZ v_looks) := hD.sub [0, 1, 2, 3, 4, 5] (by decide) rfl
  refine lv_iadd hx hb dX8_edge_66 ?_
  have hPc := hP.sub (ws' := (wd_X8_cubeAt cI cZ cJ a_this a_cubeX a_cubeY a_cubeZ a_cubeOf a_looks a_lies a_handX a_handY a_handRight a_handUp a_order a_choice a_has a_atX a_atY a_right a_up a_bestX a_bestY a_shapeSize a_shapeRow a_nextFace a_leads a_grid a_imageX a_imageY a_row a_bestRow a_on a_onRight a_onUp a_queue v_cubes v_faces v_laid v_count v_step v_ended v_nets v_work v_bestWidth v_bestHeight v_bestNet v_shapes v_cubeX v_cubeY v_cubeZ)) [0, 2, 3, 4] rfl
  have hDc := hD.sub (ws' := (wd_X8_cubeAt cI cZ cJ a_this a_cubeX a_cubeY a_cubeZ a_cubeOf a_looks a_lies a_handX a_handY a_handRight a_handUp a_order a_choice a_has a_atX a_atY a_right a_up a_bestX a_bestY a_shapeSize a_shapeRow a_nextFace a_leads a_grid a_imageX a_imageY a_row a_bestRow a_on a_onRight a_onUp a_queue v_cubes v_faces v_laid v_count v_step v_ended v_nets v_work v_bestWidth v_bestHeight v_bestNet v_shapes v_cubeX v_cubeY v_cubeZ)) [0, 2, 3, 4] (by decide) rfl
  have hFc := va_free (wc := (wd_X8_cubeAt cI cZ cJ a_this a_cubeX a_cubeY a_cubeZ a_cubeOf a_looks a_lies a_handX a_handY a_handRight a_handUp a_order a_choice a_has a_atX a_atY a_right a_up a_bestX a_bestY a_shapeSize a_shapeRow a_nextFace a_leads a_grid a_imageX a_imageY a_row a_bestRow a_on a_onRight a_onUp a_queue v_cubes v_faces v_laid v_count v_step v_ended v_nets v_work v_bestWidth v_bestHeight v_bestNet v_shapes v_cubeX v_cubeY v_cubeZ)) hD hS hA [0, 2, 3, 4] rfl
  refine va_calli (va_runV (As := [.int (((v_cubeX (v_cubeOf p1.toNatClampNeg).toNatClampNeg) + r_1) + r_3), .int (((v_cubeY (v_cubeOf p1.toNatClampNeg).toNatClampNeg) + r_5) + r_7), .int (((v_cubeZ (v_cubeOf p1.toNatClampNeg).toNatClampNeg) + r_9) + r_11)]) (rest := []) C (c_X8_cubeAt l D cI cZ cJ tb a_this a_cubeX a_cubeY a_cubeZ a_cubeOf a_looks a_lies a_handX a_handY a_handRight a_handUp a_order a_choice a_has a_atX a_atY a_right a_up a_bestX a_bestY a_shapeSize a_shapeRow a_nextFace a_leads a_grid a_imageX a_imageY a_row a_bestRow a_on a_onRight a_onUp a_queue v_cubes v_faces v_laid v_count v_step v_ended v_nets v_work v_bestWidth v_bestHeight v_bestNet v_shapes v_cubeX v_cubeY v_cubeZ H.size (((v_cubeX (v_cubeOf p1.toNatClampNeg).toNatClampNeg) + r_1) + r_3) (((v_cubeY (v_cubeOf p1.toNatClampNeg).toNatClampNeg) + r_5) + r_7) (((v_cubeZ (v_cubeOf p1.toNatClampNeg).toNatClampNeg) + r_9) + r_11) h) (cwV 3 hts gX8_edge_X8_cubeAt rfl rfl rfl (by decide +kernel) ⟨Nat.le_of_ble_eq_true rfl, Nat.le_of_ble_eq_true rfl⟩) ⟨q_pre.blind, va_recv hK hP (ci := 8) (q0 := 0) rfl rfl, fun U hU hW => ⟨rfl, q_pre.of hU hW hPc hK hDc hSt hS hFc hNw⟩⟩ rfl rfl hl.1 rfl (lv_room (Nat.le_of_ble_eq_true rfl)) dX8_edge_67 ⟨Nat.zero_le _, Nat.zero_le _⟩) hS (fun q _ h => hFc q h) hFc (fun r_13 u_14 t H1 locs ht hvm hw hB hz1 hk1 hS => ?_)
  obtain ⟨hP1, hK1, hD1⟩ := hB
  rw [ht] at hP1
  obtain ⟨hP, hD⟩ := va_join (wr := [(a_cubeOf, .inl (cI, 30, .inl v_cubeOf)), (a_looks, .inl (cI, 30, .inl v_looks))]) (w1 := (wd_X8_cubeAt cI cZ cJ a_this a_cubeX a_cubeY a_cubeZ a_cubeOf a_looks a_lies a_handX a_handY a_handRight a_handUp a_order a_choice a_has a_atX a_atY a_right a_up a_bestX a_bestY a_shapeSize a_shapeRow a_nextFace a_leads a_grid a_imageX a_imageY a_row a_bestRow a_on a_onRight a_onUp a_queue v_cubes v_faces v_laid v_count v_step v_ended v_nets v_work v_bestWidth v_bestHeight v_bestNet v_shapes v_cubeX v_cubeY v_cubeZ)) hP hD [0, 2, 3, 4] [1, 5] rfl rfl (by decide) (by decide) hk1 hFc hP1 hD1
  clear hPc hDc hFc hP1 hD1 hK1 hk1 hz1 ht hvm
  replace h := hw
  clear hw
  generalize H1 = H at hP hS ⊢
  replace hP : va_P D vwCl (wd_X8_edge cI cZ cJ a_this a_cubeOf a_cubeX a_cubeY a_cubeZ a_looks a_lies a_handX a_handY a_handRight a_handUp a_order a_choice a_has a_atX a_atY a_right a_up a_bestX a_bestY a_shapeSize a_shapeRow a_nextFace a_leads a_grid a_imageX a_imageY a_row a_bestRow a_on a_onRight a_onUp a_queue v_cubes v_faces v_laid v_count v_step v_ended v_nets v_work v_bestWidth v_bestHeight v_bestNet v_shapes v_cubeOf v_cubeX v_cubeY v_cubeZ v_looks) H := hP.sub [2, 0, 3, 4, 5, 1] rfl
  replace hD : va_D A (wd_X8_edge cI cZ cJ a_this a_cubeOf a_cubeX a_cubeY a_cubeZ a_looks a_lies a_handX a_handY a_handRight a_handUp a_order a_choice a_has a_atX a_atY a_right a_up a_bestX a_bestY a_shapeSize a_shapeRow a_nextFace a_leads a_grid a_imageX a_imageY a_row a_bestRow a_on a_onRight a_onUp a_queue v_cubes v_faces v_laid v_count v_step v_ended v_nets v_work v_bestWidth v_bestHeight v_bestNet v_shapes v_cubeOf v_cubeX v_cubeY v_cubeZ v_looks) := hD.sub [2, 0, 3, 4, 5, 1] (by decide) rfl
  refine lv_bipush (v := -9) hx hb dX8_edge_70 (by decide) ?_
  refine lv_icmp_eq (tgt := 77) hx hb dX8_edge_72 (by decide) (fun hc => ?_) (fun hc => ?_)
  · replace h := h.1 hc
    refine lv_aload_n hx hb dX8_edge_77 rfl (lv_at hl 2 rfl) ?_
    refine lv_iload_n hx hb dX8_edge_78 rfl (lv_at hl 1 rfl) ?_
    refine lv_iload_n hx hb dX8_edge_79 rfl (lv_at hl 4 rfl) ?_
    have hPc := hP.sub (ws' := (wd_X8_cubeBeside cI cZ cJ a_this a_cubeX a_cubeY a_cubeZ a_cubeOf a_looks a_lies a_handX a_handY a_handRight a_handUp a_order a_choice a_has a_atX a_atY a_right a_up a_bestX a_bestY a_shapeSize a_shapeRow a_nextFace a_leads a_grid a_imageX a_imageY a_row a_bestRow a_on a_onRight a_onUp a_queue v_cubes v_faces v_laid v_count v_step v_ended v_nets v_work v_bestWidth v_bestHeight v_bestNet v_shapes v_cubeX v_cubeY v_cubeZ)) [0, 2, 3, 4] rfl
    have hDc := hD.sub (ws' := (wd_X8_cubeBeside cI cZ cJ a_this a_cubeX a_cubeY a_cubeZ a_cubeOf a_looks a_lies a_handX a_handY a_handRight a_handUp a_order a_choice a_has a_atX a_atY a_right a_up a_bestX a_bestY a_shapeSize a_shapeRow a_nextFace a_leads a_grid a_imageX a_imageY a_row a_bestRow a_on a_onRight a_onUp a_queue v_cubes v_faces v_laid v_count v_step v_ended v_nets v_work v_bestWidth v_bestHeight v_bestNet v_shapes v_cubeX v_cubeY v_cubeZ)) [0, 2, 3, 4] (by decide) rfl
    have hFc := va_free (wc := (wd_X8_cubeBeside cI cZ cJ a_this a_cubeX a_cubeY a_cubeZ a_cubeOf a_looks a_lies a_handX a_handY a_handRight a_handUp a_order a_choice a_has a_atX a_atY a_right a_up a_bestX a_bestY a_shapeSize a_shapeRow a_nextFace a_leads a_grid a_imageX a_imageY a_row a_bestRow a_on a_onRight a_onUp a_queue v_cubes v_faces v_laid v_count v_step v_ended v_nets v_work v_bestWidth v_bestHeight v_bestNet v_shapes v_cubeX v_cubeY v_cubeZ)) hD hS hA [0, 2, 3, 4] rfl
    refine va_calli (va_runV (As := [.int (v_cubeOf p1.toNatClampNeg), .int p2]) (rest := []) C (c_X8_cubeBeside l D cI cZ cJ tb a_this a_cubeX a_cubeY a_cubeZ a_cubeOf a_looks a_lies a_handX a_handY a_handRight a_handUp a_order a_choice a_has a_atX a_atY a_right a_up a_bestX a_bestY a_shapeSize a_shapeRow a_nextFace a_leads a_grid a_imageX a_imageY a_row a_bestRow a_on a_onRight a_onUp a_queue v_cubes v_faces v_laid v_count v_step v_ended v_nets v_work v_bestWidth v_bestHeight v_bestNet v_shapes v_cubeX v_cubeY v_cubeZ H.size (v_cubeOf p1.toNatClampNeg) p2 h) (cwV 2 hts gX8_edge_X8_cubeBeside rfl rfl rfl (by decide +kernel) ⟨Nat.le_of_ble_eq_true rfl, Nat.le_of_ble_eq_true rfl⟩) ⟨q_pre.blind, va_recv hK hP (ci := 8) (q0 := 0) rfl rfl, fun U hU hW => ⟨rfl, q_pre.of hU hW hPc hK hDc hSt hS hFc hNw⟩⟩ rfl rfl hl.1 rfl (lv_room (Nat.le_of_ble_eq_true rfl)) dX8_edge_80 ⟨Nat.zero_le _, Nat.zero_le _⟩) hS (fun q _ h => hFc q h) hFc (fun r_15 u_16 t H1 locs ht hvm hw hB hz1 hk1 hS => ?_)
    obtain ⟨hP1, hK1, hD1⟩ := hB
    rw [ht] at hP1
    obtain ⟨hP, hD⟩ := va_join (wr := [(a_cubeOf, .inl (cI, 30, .inl v_cubeOf)), (a_looks, .inl (cI, 30, .inl v_looks))]) (w1 := (wd_X8_cubeBeside cI cZ cJ a_this a_cubeX a_cubeY a_cubeZ a_cubeOf a_looks a_lies a_handX a_handY a_handRight a_handUp a_order a_choice a_has a_atX a_atY a_right a_up a_bestX a_bestY a_shapeSize a_shapeRow a_nextFace a_leads a_grid a_imageX a_imageY a_row a_bestRow a_on a_onRight a_onUp a_queue v_cubes v_faces v_laid v_count v_step v_ended v_nets v_work v_bestWidth v_bestHeight v_bestNet v_shapes v_cubeX v_cubeY v_cubeZ)) hP hD [0, 2, 3, 4] [1, 5] rfl rfl (by decide) (by decide) hk1 hFc hP1 hD1
    clear hPc hDc hFc hP1 hD1 hK1 hk1 hz1 ht hvm
    replace h := hw
    clear hw
    generalize H1 = H at hP hS ⊢
    replace hP : va_P D vwCl (wd_X8_edge cI cZ cJ a_this a_cubeOf a_cubeX a_cubeY a_cubeZ a_looks a_lies a_handX a_handY a_handRight a_handUp a_order a_choice a_has a_atX a_atY a_right a_up a_bestX a_bestY a_shapeSize a_shapeRow a_nextFace a_leads a_grid a_imageX a_imageY a_row a_bestRow a_on a_onRight a_onUp a_queue v_cubes v_faces v_laid v_count v_step v_ended v_nets v_work v_bestWidth v_bestHeight v_bestNet v_shapes v_cubeOf v_cubeX v_cubeY v_cubeZ v_looks) H := hP.sub [2, 0, 3, 4, 5, 1] rfl
    replace hD : va_D A (wd_X8_edge cI cZ cJ a_this a_cubeOf a_cubeX a_cubeY a_cubeZ a_looks a_lies a_handX a_handY a_handRight a_handUp a_order a_choice a_has a_atX a_atY a_right a_up a_bestX a_bestY a_shapeSize a_shapeRow a_nextFace a_leads a_grid a_imageX a_imageY a_row a_bestRow a_on a_onRight a_onUp a_queue v_cubes v_faces v_laid v_count v_step v_ended v_nets v_work v_bestWidth v_bestHeight v_bestNet v_shapes v_cubeOf v_cubeX v_cubeY v_cubeZ v_looks) := hD.sub [2, 0, 3, 4, 5, 1] (by decide) rfl
    refine lv_bipush (v := -9) hx hb dX8_edge_83 (by decide) ?_
    refine lv_icmp_eq (tgt := 92) hx hb dX8_edge_85 (by decide) (fun hc => ?_) (fun hc => ?_)
    · replace h := h.1 hc
      refine lv_iconst (v := 0) hx hb dX8_edge_92 (by decide) ?_
      exact ret (0 : Int32) () _ _ _ 93 dX8_edge_93 h hP hD hS
    · replace h := h.2 hc
      refine lv_iconst (v := 1) hx hb dX8_edge_88 (by decide) ?_
      refine lv_goto (tgt := 93) hx hb dX8_edge_89 (by decide) ?_
      exact ret (1 : Int32) () _ _ _ 93 dX8_edge_93 h hP hD hS
  · replace h := h.2 hc
    refine lv_iconst (v := 2) hx hb dX8_edge_75 (by decide) ?_
    exact ret (2 : Int32) () _ _ _ 76 dX8_edge_76 h hP hD hS
