def wd_X3_faceAt (cI cZ cJ : ClassId) (a_this a_lies a_x a_y a_solid a_headings a_taken : Nat) (v_count : Int32) (v_lies : Nat → Int32) (v_x : Nat → Int32) (v_y : Nat → Int32) : va_W := [(a_this, .inr (3, [.ref a_lies, .ref a_x, .ref a_y, .int v_count, .ref a_solid, .ref a_headings, .ref a_taken])),
  (a_lies, .inl (cZ, 22, .inl v_lies)),
  (a_x, .inl (cI, 22, .inl v_x)),
  (a_y, .inl (cI, 22, .inl v_y))]
abbrev rm_X3_faceAt : Room := { frames := 0, cells := 0, slots := 0, locals := 0 }
set_option maxHeartbeats 4000000 in
set_option maxRecDepth 100000 in
theorem c_X3_faceAt (l : Launch) (D : va_G) (cI cZ cJ : ClassId) (tb : Nat → Nat) (a_this a_lies a_x a_y a_solid a_headings a_taken : Nat) (v_count : Int32) (v_lies : Nat → Int32) (v_x : Nat → Int32) (v_y : Nat → Int32) (sz : Nat) (p1 : Int32) (p2 : Int32) {post : Int32 → Prop} (h : wp_X3_faceAt v_lies v_x v_y p1 p2 post) : Met l yX3_faceAt wsX3_faceAt rm_X3_faceAt (va_Pc [.ref a_this, .int p1, .int p2] (q_pre D cI cZ cJ tb (wd_X3_faceAt cI cZ cJ a_this a_lies a_x a_y a_solid a_headings a_taken v_count v_lies v_x v_y) sz)) (va_Qi (fun r (u : Unit) => post r) (fun u => q_post D cI cZ cJ (va_A (wd_X3_faceAt cI cZ cJ a_this a_lies a_x a_y a_solid a_headings a_taken v_count v_lies v_x v_y) sz) (wd_X3_faceAt cI cZ cJ a_this a_lies a_x a_y a_solid a_headings a_taken v_count v_lies v_x v_y)) (va_A (wd_X3_faceAt cI cZ cJ a_this a_lies a_x a_y a_solid a_headings a_taken v_count v_lies v_x v_y) sz)) 0 0 (va_A (wd_X3_faceAt cI cZ cJ a_this a_lies a_x a_y a_solid a_headings a_taken v_count v_lies v_x v_y) sz) := by
  refine q_walki (cc := cX3_faceAt) (maxL := 4) (own := RX3) (wd := fun (u : Unit) => (wd_X3_faceAt cI cZ cJ a_this a_lies a_x a_y a_solid a_headings a_taken v_count v_lies v_x v_y)) (by decide) rfl rfl (Nat.le_of_ble_eq_true rfl) ?_
  intro p e s m below meth c Q A ls C hA ret hP hD hS hK hSt hNw hl
  obtain ⟨hx, hb, hml, hown, hts⟩ := id C
  replace hl : lv_has ls 4 [(0, .ref a_this), (1, .int p1), (2, .int p2)] := hl
  have f9 := hts (.fieldLink RX3 9 "NetSearch$Sheet" "lies" "[Z") (by decide +kernel)
  have iX3 : ∀ w ∈ wsX30, w ∈ wsX3_faceAt := by decide +kernel
  have f15 := hts (.fieldLink RX3 15 "NetSearch$Sheet" "x" "[I") (by decide +kernel)
  have f19 := hts (.fieldLink RX3 19 "NetSearch$Sheet" "y" "[I") (by decide +kernel)
  have L2_ok : ∀ (l1 : Int32) (l2 : Int32) (kx37 : Int32 → Prop) (hkx37 : ∀ (l3 : Int32) (H : Heap) (locs : List Loc) (ls : Array Slot), kx37 l3 → va_P D vwCl (wd_X3_faceAt cI cZ cJ a_this a_lies a_x a_y a_solid a_headings a_taken v_count v_lies v_x v_y) H → va_D A (wd_X3_faceAt cI cZ cJ a_this a_lies a_x a_y a_solid a_headings a_taken v_count v_lies v_x v_y) → va_S A s.heap H locs → lv_has ls 4 [(3, .int l3)] → W p l e rm_X3_faceAt s m ([.ref a_this, .int p1, .int p2] : List Value).toArray below meth c H locs 0 0 Q (F0 m 37 ls [])) (kx45 : Prop) (hkx45 : ∀ (H : Heap) (locs : List Loc) (ls : Array Slot), kx45  → va_P D vwCl (wd_X3_faceAt cI cZ cJ a_this a_lies a_x a_y a_solid a_headings a_taken v_count v_lies v_x v_y) H → va_D A (wd_X3_faceAt cI cZ cJ a_this a_lies a_x a_y a_solid a_headings a_taken v_count v_lies v_x v_y) → va_S A s.heap H locs → lv_has ls 4 [] → W p l e rm_X3_faceAt s m ([.ref a_this, .int p1, .int p2] : List Value).toArray below meth c H locs 0 0 Q (F0 m 45 ls [])) (n : Nat) (l3 : Int32) (H : Heap) (locs : List Loc) (ls : Array Slot), lpN (wl_X3_faceAt_2 v_lies v_x v_y l1 l2 kx37 kx45) n l3 → va_P D vwCl (wd_X3_faceAt cI cZ cJ a_this a_lies a_x a_y a_solid a_headings a_taken v_count v_lies v_x v_y) H → va_D A (wd_X3_faceAt cI cZ cJ a_this a_lies a_x a_y a_solid a_headings a_taken v_count v_lies v_x v_y) → va_S A s.heap H locs → lv_has ls 4 [(0, .ref a_this), (1, .int l1), (2, .int l2), (3, .int l3)] → W p l e rm_X3_faceAt s m ([.ref a_this, .int p1, .int p2] : List Value).toArray below meth c H locs 0 0 Q (F0 m 2 ls []) := by
    intro l1 l2 kx37 hkx37 kx45 hkx45 n
    induction n with
    | zero => intro l3 H locs ls h; exact False.elim h
    | succ n ih =>
      intro l3 H locs ls h hP hD hS hl
      have h : wb_X3_faceAt_2 v_lies v_x v_y l1 l2 kx37 kx45 (fun l3 => lpN (wl_X3_faceAt_2 v_lies v_x v_y l1 l2 kx37 kx45) n l3) l3 := h
      unfold wb_X3_faceAt_2 at h
      refine lv_iload_n hx hb dX3_faceAt_2 rfl (lv_at hl 3 rfl) ?_
      refine lv_bipush (v := 22) hx hb dX3_faceAt_3 (by decide) ?_
      refine lv_icmp_ge (tgt := 45) hx hb dX3_faceAt_5 (by decide) (fun hc => ?_) (fun hc => ?_)
      · replace h := h.1 hc
        exact hkx45  _ _ _ h hP hD hS (lv_sub hl [] rfl)
      · replace h := h.2 hc
        refine lv_aload_n hx hb dX3_faceAt_8 rfl (lv_at hl 0 rfl) ?_
        refine va_get (D := D) (ci := 3) (v := .ref a_lies) (C := RX3) (T := TX3) (N := 7) hx hb hts iX3 hown hK hP 0 rfl rfl 0 (by decide) f9 (fun _ h9 => h9) rfl dX3_faceAt_9 ?_
        refine lv_iload_n hx hb dX3_faceAt_12 rfl (lv_at hl 3 rfl) ?_
        obtain ⟨hin, h⟩ := h
        refine va_zald hx hb hK hP 1 1 rfl rfl hin dX3_faceAt_13 ?_
        refine lv_if_eq (tgt := 39) hx hb dX3_faceAt_14 (by decide) (fun hc => ?_) (fun hc => ?_)
        · replace h := h.1 hc
          refine lv_iinc (v := (l3 + (1 : Int32))) (lv' := [(3, .int (l3 + (1 : Int32))), (0, .ref a_this), (1, .int l1), (2, .int l2)]) hx hb dX3_faceAt_39 hl (k := 3) rfl rfl (by decide) rfl (fun ls hl => ?_)
          refine lv_goto (tgt := 2) hx hb dX3_faceAt_42 (by decide) ?_
          exact ih (l3 + (1 : Int32)) _ _ _ h hP hD hS (lv_sub hl [1, 2, 3, 0] rfl)
        · replace h := h.2 hc
          refine lv_aload_n hx hb dX3_faceAt_17 rfl (lv_at hl 0 rfl) ?_
          refine va_get (D := D) (ci := 3) (v := .ref a_x) (C := RX3) (T := TX3) (N := 7) hx hb hts iX3 hown hK hP 0 rfl rfl 1 (by decide) f15 (fun _ h9 => h9) rfl dX3_faceAt_18 ?_
          refine lv_iload_n hx hb dX3_faceAt_21 rfl (lv_at hl 3 rfl) ?_
          obtain ⟨hin, h⟩ := h
          refine va_iald hx hb hK hP 2 0 rfl rfl hin dX3_faceAt_22 ?_
          refine lv_iload_n hx hb dX3_faceAt_23 rfl (lv_at hl 1 rfl) ?_
          refine lv_icmp_ne (tgt := 39) hx hb dX3_faceAt_24 (by decide) (fun hc => ?_) (fun hc => ?_)
          · replace h := h.1 hc
            refine lv_iinc (v := (l3 + (1 : Int32))) (lv' := [(3, .int (l3 + (1 : Int32))), (0, .ref a_this), (1, .int l1), (2, .int l2)]) hx hb dX3_faceAt_39 hl (k := 3) rfl rfl (by decide) rfl (fun ls hl => ?_)
            refine lv_goto (tgt := 2) hx hb dX3_faceAt_42 (by decide) ?_
            exact ih (l3 + (1 : Int32)) _ _ _ h hP hD hS (lv_sub hl [1, 2, 3, 0] rfl)
          · replace h := h.2 hc
            refine lv_aload_n hx hb dX3_faceAt_27 rfl (lv_at hl 0 rfl) ?_
            refine va_get (D := D) (ci := 3) (v := .ref a_y) (C := RX3) (T := TX3) (N := 7) hx hb hts iX3 hown hK hP 0 rfl rfl 2 (by decide) f19 (fun _ h9 => h9) rfl dX3_faceAt_28 ?_
            refine lv_iload_n hx hb dX3_faceAt_31 rfl (lv_at hl 3 rfl) ?_
            obtain ⟨hin, h⟩ := h
            refine va_iald hx hb hK hP 3 0 rfl rfl hin dX3_faceAt_32 ?_
            refine lv_iload_n hx hb dX3_faceAt_33 rfl (lv_at hl 2 rfl) ?_
            refine lv_icmp_ne (tgt := 39) hx hb dX3_faceAt_34 (by decide) (fun hc => ?_) (fun hc => ?_)
            · replace h := h.1 hc
              refine lv_iinc (v := (l3 + (1 : Int32))) (lv' := [(3, .int (l3 + (1 : Int32))), (0, .ref a_this), (1, .int l1), (2, .int l2)]) hx hb dX3_faceAt_39 hl (k := 3) rfl rfl (by decide) rfl (fun ls hl => ?_)
              refine lv_goto (tgt := 2) hx hb dX3_faceAt_42 (by decide) ?_
              exact ih (l3 + (1 : Int32)) _ _ _ h hP hD hS (lv_sub hl [1, 2, 3, 0] rfl)
            · replace h := h.2 hc
              exact hkx37 l3 _ _ _ h hP hD hS (lv_sub hl [3] rfl)
  unfold wp_X3_faceAt at h
  refine lv_iconst (v := 0) hx hb dX3_faceAt_0 (by decide) ?_
  refine lv_istore_n (lv' := [(3, .int (0 : Int32)), (0, .ref a_this), (1, .int p1), (2, .int p2)]) hx hb dX3_faceAt_1 rfl hl (by decide) rfl (fun ls hl => ?_)
  obtain ⟨n, h⟩ := h
  refine L2_ok p1 p2 _ (fun l3_1 H locs ls h hP hD hS hl => ?_) _ (fun  H locs ls h hP hD hS hl => ?_) n (0 : Int32) _ _ _ h hP hD hS (lv_sub hl [1, 2, 3, 0] rfl)
  · refine lv_iload_n hx hb dX3_faceAt_37 rfl (lv_at hl 0 rfl) ?_
    exact ret l3_1 () _ _ _ 38 dX3_faceAt_38 h hP hD hS
  · refine lv_iconst (v := -1) hx hb dX3_faceAt_45 (by decide) ?_
    exact ret (-1 : Int32) () _ _ _ 46 dX3_faceAt_46 h hP hD hS
def wd_X3_fitsBeside (cI cZ cJ : ClassId) (a_this a_headings a_lies a_solid a_solid_beyondEdge a_solid_onwardEdge a_x a_y a_taken a_solid_cubeOf a_solid_lookOf a_solid_x a_solid_y a_solid_z a_solid_faceOf : Nat) (v_count : Int32) (v_headings : Nat → Int32) (v_lies : Nat → Int32) (v_solid_cubes : Int32) (v_solid_faces : Int32) (v_solid_beyondEdge : Nat → Int32) (v_solid_onwardEdge : Nat → Int32) (v_x : Nat → Int32) (v_y : Nat → Int32) : va_W := [(a_this, .inr (3, [.ref a_lies, .ref a_x, .ref a_y, .int v_count, .ref a_solid, .ref a_headings, .ref a_taken])),
  (a_headings, .inl (cI, 88, .inl v_headings)),
  (a_lies, .inl (cZ, 22, .inl v_lies)),
  (a_solid, .inr (4, [.int v_solid_cubes, .int v_solid_faces, .ref a_solid_cubeOf, .ref a_solid_lookOf, .ref a_solid_x, .ref a_solid_y, .ref a_solid_z, .ref a_solid_faceOf, .ref a_solid_beyondEdge, .ref a_solid_onwardEdge])),
  (a_solid_beyondEdge, .inl (cI, 132, .inl v_solid_beyondEdge)),
  (a_solid_onwardEdge, .inl (cI, 132, .inl v_solid_onwardEdge)),
  (a_x, .inl (cI, 22, .inl v_x)),
  (a_y, .inl (cI, 22, .inl v_y))]
abbrev rm_X3_fitsBeside : Room := { frames := 2, cells := 0, slots := 0, locals := 44 }
set_option maxHeartbeats 4000000 in
set_option maxRecDepth 100000 in
theorem c_X3_fitsBeside (l : Launch) (D : va_G) (cI cZ cJ : ClassId) (tb : Nat → Nat) (a_this a_headings a_lies a_solid a_solid_beyondEdge a_solid_onwardEdge a_x a_y a_taken a_solid_cubeOf a_solid_lookOf a_solid_x a_solid_y a_solid_z a_solid_faceOf : Nat) (v_count : Int32) (v_headings : Nat → Int32) (v_lies : Nat → Int32) (v_solid_cubes : Int32) (v_solid_faces : Int32) (v_solid_beyondEdge : Nat → Int32) (v_solid_onwardEdge : Nat → Int32) (v_x : Nat → Int32) (v_y : Nat → Int32) (sz : Nat) (p1 : Int32) (p2 : Int32) {post : Int32 → Prop} (h : wp_X3_fitsBeside v_headings v_lies v_solid_beyondEdge v_solid_onwardEdge v_x v_y p1 p2 post) : Met l yX3_fitsBeside wsX3_fitsBeside rm_X3_fitsBeside (va_Pc [.ref a_this, .int p1, .int p2] (q_pre D cI cZ cJ tb (wd_X3_fitsBeside cI cZ cJ a_this a_headings a_lies a_solid a_solid_beyondEdge a_solid_onwardEdge a_x a_y a_taken a_solid_cubeOf a_solid_lookOf a_solid_x a_solid_y a_solid_z a_solid_faceOf v_count v_headings v_lies v_solid_cubes v_solid_faces v_solid_beyondEdge v_solid_onwardEdge v_x v_y) sz)) (va_Qi (fun r (u : Unit) => post r) (fun u => q_post D cI cZ cJ (va_A (wd_X3_fitsBeside cI cZ cJ a_this a_headings a_lies a_solid a_solid_beyondEdge a_solid_onwardEdge a_x a_y a_taken a_solid_cubeOf a_solid_lookOf a_solid_x a_solid_y a_solid_z a_solid_faceOf v_count v_headings v_lies v_solid_cubes v_solid_faces v_solid_beyondEdge v_solid_onwardEdge v_x v_y) sz) (wd_X3_fitsBeside cI cZ cJ a_this a_headings a_lies a_solid a_solid_beyondEdge a_solid_onwardEdge a_x a_y a_taken a_solid_cubeOf a_solid_lookOf a_solid_x a_solid_y a_solid_z a_solid_faceOf v_count v_headings v_lies v_solid_cubes v_solid_faces v_solid_beyondEdge v_solid_onwardEdge v_x v_y)) (va_A (wd_X3_fitsBeside cI cZ cJ a_this a_headings a_lies a_solid a_solid_beyondEdge a_solid_onwardEdge a_x a_y a_taken a_solid_cubeOf a_solid_lookOf a_solid_x a_solid_y a_solid_z a_solid_faceOf v_count v_headings v_lies v_solid_cubes v_solid_faces v_solid_beyondEdge v_solid_onwardEdge v_x v_y) sz)) 0 0 (va_A (wd_X3_fitsBeside cI cZ cJ a_this a_headings a_lies a_solid a_solid_beyondEdge a_solid_onwardEdge a_x a_y a_taken a_solid_cubeOf a_solid_lookOf a_solid_x a_solid_y a_solid_z a_solid_faceOf v_count v_headings v_lies v_solid_cubes v_solid_faces v_solid_beyondEdge v_solid_onwardEdge v_x v_y) sz) := by
  refine q_walkz (cc := cX3_fitsBeside) (maxL := 4) (own := RX3) (wd := fun (u : Unit) => (wd_X3_fitsBeside cI cZ cJ a_this a_headings a_lies a_solid a_solid_beyondEdge a_solid_onwardEdge a_x a_y a_taken a_solid_cubeOf a_solid_lookOf a_solid_x a_solid_y a_solid_z a_solid_faceOf v_count v_headings v_lies v_solid_cubes v_solid_faces v_solid_beyondEdge v_solid_onwardEdge v_x v_y)) (by decide) rfl rfl (Nat.le_of_ble_eq_true rfl) ?_
  intro p e s m below meth c Q A ls C hA ret hP hD hS hK hSt hNw hl
  obtain ⟨hx, hb, hml, hown, hts⟩ := id C
  replace hl : lv_has ls 4 [(0, .ref a_this), (1, .int p1), (2, .int p2)] := hl
  have f9 := hts (.fieldLink RX3 9 "NetSearch$Sheet" "lies" "[Z") (by decide +kernel)
  have iX3 : ∀ w ∈ wsX30, w ∈ wsX3_fitsBeside := by decide +kernel
  have f15 := hts (.fieldLink RX3 15 "NetSearch$Sheet" "x" "[I") (by decide +kernel)
  have hZ5 : va_Z "NetSearch" "SIDE_X" "[I" (.ref (tb 5)) A s s.heap := (hSt 5 (by decide)).1
  have hT5 : va_T .int (tb 5) 4 (fun j => .int (q_SIDE_X j)) A s s.heap := (hSt 5 (by decide)).2
  have g65 : (Cond.fieldLinkNest RX3 65 "NetSearch" "SIDE_X" "[I" "NetSearch").before ([.ref a_this, .int p1, .int p2] : List Value).toArray s = true := va_Nw.use rfl (hNw.1 (RX3, 65, "NetSearch", "SIDE_X", "[I", "NetSearch") (by decide +kernel))
  have f19 := hts (.fieldLink RX3 19 "NetSearch$Sheet" "y" "[I") (by decide +kernel)
  have hZ6 : va_Z "NetSearch" "SIDE_Y" "[I" (.ref (tb 6)) A s s.heap := (hSt 6 (by decide)).1
  have hT6 : va_T .int (tb 6) 4 (fun j => .int (q_SIDE_Y j)) A s s.heap := (hSt 6 (by decide)).2
  have g68 : (Cond.fieldLinkNest RX3 68 "NetSearch" "SIDE_Y" "[I" "NetSearch").before ([.ref a_this, .int p1, .int p2] : List Value).toArray s = true := va_Nw.use rfl (hNw.1 (RX3, 68, "NetSearch", "SIDE_Y", "[I", "NetSearch") (by decide +kernel))
  unfold wp_X3_fitsBeside at h
  refine lv_aload_n hx hb dX3_fitsBeside_0 rfl (lv_at hl 0 rfl) ?_
  refine lv_iload_n hx hb dX3_fitsBeside_1 rfl (lv_at hl 1 rfl) ?_
  refine lv_iload_n hx hb dX3_fitsBeside_2 rfl (lv_at hl 2 rfl) ?_
  have hPc := hP.sub (ws' := (wd_X3_neighbour cI cZ cJ a_this a_headings a_solid a_solid_beyondEdge a_lies a_x a_y a_taken a_solid_cubeOf a_solid_lookOf a_solid_x a_solid_y a_solid_z a_solid_faceOf a_solid_onwardEdge v_count v_headings v_solid_cubes v_solid_faces v_solid_beyondEdge)) [0, 1, 3, 4] rfl
  have hDc := hD.sub (ws' := (wd_X3_neighbour cI cZ cJ a_this a_headings a_solid a_solid_beyondEdge a_lies a_x a_y a_taken a_solid_cubeOf a_solid_lookOf a_solid_x a_solid_y a_solid_z a_solid_faceOf a_solid_onwardEdge v_count v_headings v_solid_cubes v_solid_faces v_solid_beyondEdge)) [0, 1, 3, 4] (by decide) rfl
  have hFc := va_free (wc := (wd_X3_neighbour cI cZ cJ a_this a_headings a_solid a_solid_beyondEdge a_lies a_x a_y a_taken a_solid_cubeOf a_solid_lookOf a_solid_x a_solid_y a_solid_z a_solid_faceOf a_solid_onwardEdge v_count v_headings v_solid_cubes v_solid_faces v_solid_beyondEdge)) hD hS hA [0, 1, 3, 4] rfl
  refine va_calli (va_runV (As := [.int p1, .int p2]) (rest := []) C (c_X3_neighbour l D cI cZ cJ tb a_this a_headings a_solid a_solid_beyondEdge a_lies a_x a_y a_taken a_solid_cubeOf a_solid_lookOf a_solid_x a_solid_y a_solid_z a_solid_faceOf a_solid_onwardEdge v_count v_headings v_solid_cubes v_solid_faces v_solid_beyondEdge s.heap.size p1 p2 h) (cwV 2 hts gX3_fitsBeside_X3_neighbour rfl rfl rfl (by decide +kernel) ⟨Nat.le_of_ble_eq_true rfl, Nat.le_of_ble_eq_true rfl⟩) ⟨q_pre.blind, va_recv hK hP (ci := 3) (q0 := 0) rfl rfl, fun U hU hW => ⟨rfl, q_pre.of hU hW hPc hK hDc hSt hS hFc hNw⟩⟩ rfl rfl hl.1 rfl (lv_room (Nat.le_of_ble_eq_true rfl)) dX3_fitsBeside_3 ⟨Nat.zero_le _, Nat.zero_le _⟩) hS (fun q _ h => hFc q h) hFc (fun r_1 u_2 t H1 locs ht hvm hw hB hz1 hk1 hS => ?_)
  obtain ⟨hP1, hK1, hD1⟩ := hB
  rw [ht] at hP1
  obtain ⟨hP, hD⟩ := va_join (wr := [(a_lies, .inl (cZ, 22, .inl v_lies)), (a_solid_onwardEdge, .inl (cI, 132, .inl v_solid_onwardEdge)), (a_x, .inl (cI, 22, .inl v_x)), (a_y, .inl (cI, 22, .inl v_y))]) (w1 := (wd_X3_neighbour cI cZ cJ a_this a_headings a_solid a_solid_beyondEdge a_lies a_x a_y a_taken a_solid_cubeOf a_solid_lookOf a_solid_x a_solid_y a_solid_z a_solid_faceOf a_solid_onwardEdge v_count v_headings v_solid_cubes v_solid_faces v_solid_beyondEdge)) hP hD [0, 1, 3, 4] [2, 5, 6, 7] rfl rfl (by decide) (by decide) hk1 hFc hP1 hD1
  clear hPc hDc hFc hP1 hD1 hK1 hk1 hz1 ht hvm
  replace h := hw
  clear hw
  generalize H1 = H at hP hS ⊢
  replace hP : va_P D vwCl (wd_X3_fitsBeside cI cZ cJ a_this a_headings a_lies a_solid a_solid_beyondEdge a_solid_onwardEdge a_x a_y a_taken a_solid_cubeOf a_solid_lookOf a_solid_x a_solid_y a_solid_z a_solid_faceOf v_count v_headings v_lies v_solid_cubes v_solid_faces v_solid_beyondEdge v_solid_onwardEdge v_x v_y) H := hP.sub [4, 5, 0, 6, 7, 1, 2, 3] rfl
  replace hD : va_D A (wd_X3_fitsBeside cI cZ cJ a_this a_headings a_lies a_solid a_solid_beyondEdge a_solid_onwardEdge a_x a_y a_taken a_solid_cubeOf a_solid_lookOf a_solid_x a_solid_y a_solid_z a_solid_faceOf v_count v_headings v_lies v_solid_cubes v_solid_faces v_solid_beyondEdge v_solid_onwardEdge v_x v_y) := hD.sub [4, 5, 0, 6, 7, 1, 2, 3] (by decide) rfl
  refine lv_istore_n (lv' := [(3, .int r_1), (0, .ref a_this), (1, .int p1), (2, .int p2)]) hx hb dX3_fitsBeside_6 rfl hl (by decide) rfl (fun ls hl => ?_)
  refine lv_aload_n hx hb dX3_fitsBeside_7 rfl (lv_at hl 1 rfl) ?_
  refine va_get (D := D) (ci := 3) (v := .ref a_lies) (C := RX3) (T := TX3) (N := 7) hx hb hts iX3 hown hK hP 0 rfl rfl 0 (by decide) f9 (fun _ h9 => h9) rfl dX3_fitsBeside_8 ?_
  refine lv_iload_n hx hb dX3_fitsBeside_11 rfl (lv_at hl 0 rfl) ?_
  obtain ⟨hin, h⟩ := h
  refine va_zald hx hb hK hP 2 1 rfl rfl hin dX3_fitsBeside_12 ?_
  refine lv_if_eq (tgt := 96) hx hb dX3_fitsBeside_13 (by decide) (fun hc => ?_) (fun hc => ?_)
  · replace h := h.1 hc
    refine lv_iconst (v := 0) hx hb dX3_fitsBeside_96 (by decide) ?_
    exact ret (0 : Int32) () _ _ _ 97 dX3_fitsBeside_97 ⟨by decide, h⟩ hP hD hS
  · replace h := h.2 hc
    refine lv_aload_n hx hb dX3_fitsBeside_16 rfl (lv_at hl 1 rfl) ?_
    refine va_get (D := D) (ci := 3) (v := .ref a_x) (C := RX3) (T := TX3) (N := 7) hx hb hts iX3 hown hK hP 0 rfl rfl 1 (by decide) f15 (fun _ h9 => h9) rfl dX3_fitsBeside_17 ?_
    refine lv_iload_n hx hb dX3_fitsBeside_20 rfl (lv_at hl 0 rfl) ?_
    obtain ⟨hin, h⟩ := h
    refine va_iald hx hb hK hP 6 0 rfl rfl hin dX3_fitsBeside_21 ?_
    refine lv_aload_n hx hb dX3_fitsBeside_22 rfl (lv_at hl 1 rfl) ?_
    refine va_get (D := D) (ci := 3) (v := .ref a_x) (C := RX3) (T := TX3) (N := 7) hx hb hts iX3 hown hK hP 0 rfl rfl 1 (by decide) f15 (fun _ h9 => h9) rfl dX3_fitsBeside_23 ?_
    refine lv_iload_n hx hb dX3_fitsBeside_26 rfl (lv_at hl 2 rfl) ?_
    obtain ⟨hin, h⟩ := h
    refine va_iald hx hb hK hP 6 0 rfl rfl hin dX3_fitsBeside_27 ?_
    refine va_getsN hx hb hZ5 hS hown g65 (fun _ h9 => h9) dX3_fitsBeside_28 ?_
    refine lv_iload_n hx hb dX3_fitsBeside_31 rfl (lv_at hl 3 rfl) ?_
    obtain ⟨hin, h⟩ := h
    refine va_ti (v := .int (q_SIDE_X p2.toNatClampNeg)) hx hb hT5 hS hin rfl dX3_fitsBeside_32 ?_
    refine lv_iadd hx hb dX3_fitsBeside_33 ?_
    refine lv_icmp_ne (tgt := 96) hx hb dX3_fitsBeside_34 (by decide) (fun hc => ?_) (fun hc => ?_)
    · replace h := h.1 hc
      refine lv_iconst (v := 0) hx hb dX3_fitsBeside_96 (by decide) ?_
      exact ret (0 : Int32) () _ _ _ 97 dX3_fitsBeside_97 ⟨by decide, h⟩ hP hD hS
    · replace h := h.2 hc
      refine lv_aload_n hx hb dX3_fitsBeside_37 rfl (lv_at hl 1 rfl) ?_
      refine va_get (D := D) (ci := 3) (v := .ref a_y) (C := RX3) (T := TX3) (N := 7) hx hb hts iX3 hown hK hP 0 rfl rfl 2 (by decide) f19 (fun _ h9 => h9) rfl dX3_fitsBeside_38 ?_
      refine lv_iload_n hx hb dX3_fitsBeside_41 rfl (lv_at hl 0 rfl) ?_
      obtain ⟨hin, h⟩ := h
      refine va_iald hx hb hK hP 7 0 rfl rfl hin dX3_fitsBeside_42 ?_
      refine lv_aload_n hx hb dX3_fitsBeside_43 rfl (lv_at hl 1 rfl) ?_
      refine va_get (D := D) (ci := 3) (v := .ref a_y) (C := RX3) (T := TX3) (N := 7) hx hb hts iX3 hown hK hP 0 rfl rfl 2 (by decide) f19 (fun _ h9 => h9) rfl dX3_fitsBeside_44 ?_
      refine lv_iload_n hx hb dX3_fitsBeside_47 rfl (lv_at hl 2 rfl) ?_
      obtain ⟨hin, h⟩ := h
      refine va_iald hx hb hK hP 7 0 rfl rfl hin dX3_fitsBeside_48 ?_
      refine va_getsN hx hb hZ6 hS hown g68 (fun _ h9 => h9) dX3_fitsBeside_49 ?_
      refine lv_iload_n hx hb dX3_fitsBeside_52 rfl (lv_at hl 3 rfl) ?_
      obtain ⟨hin, h⟩ := h
      refine va_ti (v := .int (q_SIDE_Y p2.toNatClampNeg)) hx hb hT6 hS hin rfl dX3_fitsBeside_53 ?_
      refine lv_iadd hx hb dX3_fitsBeside_54 ?_
      refine lv_icmp_ne (tgt := 96) hx hb dX3_fitsBeside_55 (by decide) (fun hc => ?_) (fun hc => ?_)
      · replace h := h.1 hc
        refine lv_iconst (v := 0) hx hb dX3_fitsBeside_96 (by decide) ?_
        exact ret (0 : Int32) () _ _ _ 97 dX3_fitsBeside_97 ⟨by decide, h⟩ hP hD hS
      · replace h := h.2 hc
        refine lv_aload_n hx hb dX3_fitsBeside_58 rfl (lv_at hl 1 rfl) ?_
        refine lv_iload_n hx hb dX3_fitsBeside_59 rfl (lv_at hl 0 rfl) ?_
        refine lv_iload_n hx hb dX3_fitsBeside_60 rfl (lv_at hl 3 rfl) ?_
        have hPc := hP.sub (ws' := (wd_X3_heading cI cZ cJ a_this a_headings a_lies a_x a_y a_solid a_taken v_count v_headings)) [0, 1] rfl
        have hDc := hD.sub (ws' := (wd_X3_heading cI cZ cJ a_this a_headings a_lies a_x a_y a_solid a_taken v_count v_headings)) [0, 1] (by decide) rfl
        have hFc := va_free (wc := (wd_X3_heading cI cZ cJ a_this a_headings a_lies a_x a_y a_solid a_taken v_count v_headings)) hD hS hA [0, 1] rfl
        refine va_calli (va_runV (As := [.int r_1, .int p2]) (rest := []) C (c_X3_heading l D cI cZ cJ tb a_this a_headings a_lies a_x a_y a_solid a_taken v_count v_headings H.size r_1 p2 h) (cwV 2 hts gX3_fitsBeside_X3_heading rfl rfl rfl (by decide +kernel) ⟨Nat.le_of_ble_eq_true rfl, Nat.le_of_ble_eq_true rfl⟩) ⟨q_pre.blind, va_recv hK hP (ci := 3) (q0 := 0) rfl rfl, fun U hU hW => ⟨rfl, q_pre.of hU hW hPc hK hDc hSt hS hFc hNw⟩⟩ rfl rfl hl.1 rfl (lv_room (Nat.le_of_ble_eq_true rfl)) dX3_fitsBeside_61 ⟨Nat.zero_le _, Nat.zero_le _⟩) hS (fun q _ h => hFc q h) hFc (fun r_3 u_4 t H1 locs ht hvm hw hB hz1 hk1 hS => ?_)
        obtain ⟨hP1, hK1, hD1⟩ := hB
        rw [ht] at hP1
        obtain ⟨hP, hD⟩ := va_join (wr := [(a_lies, .inl (cZ, 22, .inl v_lies)), (a_solid, .inr (4, [.int v_solid_cubes, .int v_solid_faces, .ref a_solid_cubeOf, .ref a_solid_lookOf, .ref a_solid_x, .ref a_solid_y, .ref a_solid_z, .ref a_solid_faceOf, .ref a_solid_beyondEdge, .ref a_solid_onwardEdge])), (a_solid_beyondEdge, .inl (cI, 132, .inl v_solid_beyondEdge)), (a_solid_onwardEdge, .inl (cI, 132, .inl v_solid_onwardEdge)), (a_x, .inl (cI, 22, .inl v_x)), (a_y, .inl (cI, 22, .inl v_y))]) (w1 := (wd_X3_heading cI cZ cJ a_this a_headings a_lies a_x a_y a_solid a_taken v_count v_headings)) hP hD [0, 1] [2, 3, 4, 5, 6, 7] rfl rfl (by decide) (by decide) hk1 hFc hP1 hD1
        clear hPc hDc hFc hP1 hD1 hK1 hk1 hz1 ht hvm
        replace h := hw
        clear hw
        generalize H1 = H at hP hS ⊢
        replace hP : va_P D vwCl (wd_X3_fitsBeside cI cZ cJ a_this a_headings a_lies a_solid a_solid_beyondEdge a_solid_onwardEdge a_x a_y a_taken a_solid_cubeOf a_solid_lookOf a_solid_x a_solid_y a_solid_z a_solid_faceOf v_count v_headings v_lies v_solid_cubes v_solid_faces v_solid_beyondEdge v_solid_onwardEdge v_x v_y) H := hP.sub [6, 7, 0, 1, 2, 3, 4, 5] rfl
        replace hD : va_D A (wd_X3_fitsBeside cI cZ cJ a_this a_headings a_lies a_solid a_solid_beyondEdge a_solid_onwardEdge a_x a_y a_taken a_solid_cubeOf a_solid_lookOf a_solid_x a_solid_y a_solid_z a_solid_faceOf v_count v_headings v_lies v_solid_cubes v_solid_faces v_solid_beyondEdge v_solid_onwardEdge v_x v_y) := hD.sub [6, 7, 0, 1, 2, 3, 4, 5] (by decide) rfl
        refine lv_aload_n hx hb dX3_fitsBeside_64 rfl (lv_at hl 1 rfl) ?_
        refine lv_iload_n hx hb dX3_fitsBeside_65 rfl (lv_at hl 2 rfl) ?_
        refine lv_iload_n hx hb dX3_fitsBeside_66 rfl (lv_at hl 3 rfl) ?_
        have hPc := hP.sub (ws' := (wd_X3_onward cI cZ cJ a_this a_headings a_solid a_solid_onwardEdge a_lies a_x a_y a_taken a_solid_cubeOf a_solid_lookOf a_solid_x a_solid_y a_solid_z a_solid_faceOf a_solid_beyondEdge v_count v_headings v_solid_cubes v_solid_faces v_solid_onwardEdge)) [0, 1, 3, 5] rfl
        have hDc := hD.sub (ws' := (wd_X3_onward cI cZ cJ a_this a_headings a_solid a_solid_onwardEdge a_lies a_x a_y a_taken a_solid_cubeOf a_solid_lookOf a_solid_x a_solid_y a_solid_z a_solid_faceOf a_solid_beyondEdge v_count v_headings v_solid_cubes v_solid_faces v_solid_onwardEdge)) [0, 1, 3, 5] (by decide) rfl
        have hFc := va_free (wc := (wd_X3_onward cI cZ cJ a_this a_headings a_solid a_solid_onwardEdge a_lies a_x a_y a_taken a_solid_cubeOf a_solid_lookOf a_solid_x a_solid_y a_solid_z a_solid_faceOf a_solid_beyondEdge v_count v_headings v_solid_cubes v_solid_faces v_solid_onwardEdge)) hD hS hA [0, 1, 3, 5] rfl
        refine va_calli (va_runV (As := [.int p1, .int p2]) (rest := [.int r_3]) C (c_X3_onward l D cI cZ cJ tb a_this a_headings a_solid a_solid_onwardEdge a_lies a_x a_y a_taken a_solid_cubeOf a_solid_lookOf a_solid_x a_solid_y a_solid_z a_solid_faceOf a_solid_beyondEdge v_count v_headings v_solid_cubes v_solid_faces v_solid_onwardEdge H.size p1 p2 h) (cwV 2 hts gX3_fitsBeside_X3_onward rfl rfl rfl (by decide +kernel) ⟨Nat.le_of_ble_eq_true rfl, Nat.le_of_ble_eq_true rfl⟩) ⟨q_pre.blind, va_recv hK hP (ci := 3) (q0 := 0) rfl rfl, fun U hU hW => ⟨rfl, q_pre.of hU hW hPc hK hDc hSt hS hFc hNw⟩⟩ rfl rfl hl.1 rfl (lv_room (Nat.le_of_ble_eq_true rfl)) dX3_fitsBeside_67 ⟨Nat.zero_le _, Nat.zero_le _⟩) hS (fun q _ h => hFc q h) hFc (fun r_5 u_6 t H1 locs ht hvm hw hB hz1 hk1 hS => ?_)
        obtain ⟨hP1, hK1, hD1⟩ := hB
        rw [ht] at hP1
        obtain ⟨hP, hD⟩ := va_join (wr := [(a_lies, .inl (cZ, 22, .inl v_lies)), (a_solid_beyondEdge, .inl (cI, 132, .inl v_solid_beyondEdge)), (a_x, .inl (cI, 22, .inl v_x)), (a_y, .inl (cI, 22, .inl v_y))]) (w1 := (wd_X3_onward cI cZ cJ a_this a_headings a_solid a_solid_onwardEdge a_lies a_x a_y a_taken a_solid_cubeOf a_solid_lookOf a_solid_x a_solid_y a_solid_z a_solid_faceOf a_solid_beyondEdge v_count v_headings v_solid_cubes v_solid_faces v_solid_onwardEdge)) hP hD [0, 1, 3, 5] [2, 4, 6, 7] rfl rfl (by decide) (by decide) hk1 hFc hP1 hD1
        clear hPc hDc hFc hP1 hD1 hK1 hk1 hz1 ht hvm
        replace h := hw
        clear hw
        generalize H1 = H at hP hS ⊢
        replace hP : va_P D vwCl (wd_X3_fitsBeside cI cZ cJ a_this a_headings a_lies a_solid a_solid_beyondEdge a_solid_onwardEdge a_x a_y a_taken a_solid_cubeOf a_solid_lookOf a_solid_x a_solid_y a_solid_z a_solid_faceOf v_count v_headings v_lies v_solid_cubes v_solid_faces v_solid_beyondEdge v_solid_onwardEdge v_x v_y) H := hP.sub [4, 5, 0, 6, 1, 7, 2, 3] rfl
        replace hD : va_D A (wd_X3_fitsBeside cI cZ cJ a_this a_headings a_lies a_solid a_solid_beyondEdge a_solid_onwardEdge a_x a_y a_taken a_solid_cubeOf a_solid_lookOf a_solid_x a_solid_y a_solid_z a_solid_faceOf v_count v_headings v_lies v_solid_cubes v_solid_faces v_solid_beyondEdge v_solid_onwardEdge v_x v_y) := hD.sub [4, 5, 0, 6, 1, 7, 2, 3] (by decide) rfl
        refine lv_icmp_ne (tgt := 96) hx hb dX3_fitsBeside_70 (by decide) (fun hc => ?_) (fun hc => ?_)
        · replace h := h.1 hc
          refine lv_iconst (v := 0) hx hb dX3_fitsBeside_96 (by decide) ?_
          exact ret (0 : Int32) () _ _ _ 97 dX3_fitsBeside_97 ⟨by decide, h⟩ hP hD hS
        · replace h := h.2 hc
          refine lv_aload_n hx hb dX3_fitsBeside_73 rfl (lv_at hl 1 rfl) ?_
          refine lv_iload_n hx hb dX3_fitsBeside_74 rfl (lv_at hl 0 rfl) ?_
          refine lv_iload_n hx hb dX3_fitsBeside_75 rfl (lv_at hl 3 rfl) ?_
          refine lv_iconst (v := 1) hx hb dX3_fitsBeside_76 (by decide) ?_
          refine lv_ixor hx hb dX3_fitsBeside_77 ?_
          have hPc := hP.sub (ws' := (wd_X3_heading cI cZ cJ a_this a_headings a_lies a_x a_y a_solid a_taken v_count v_headings)) [0, 1] rfl
          have hDc := hD.sub (ws' := (wd_X3_heading cI cZ cJ a_this a_headings a_lies a_x a_y a_solid a_taken v_count v_headings)) [0, 1] (by decide) rfl
          have hFc := va_free (wc := (wd_X3_heading cI cZ cJ a_this a_headings a_lies a_x a_y a_solid a_taken v_count v_headings)) hD hS hA [0, 1] rfl
          refine va_calli (va_runV (As := [.int r_1, .int (p2 ^^^ (1 : Int32))]) (rest := []) C (c_X3_heading l D cI cZ cJ tb a_this a_headings a_lies a_x a_y a_solid a_taken v_count v_headings H.size r_1 (p2 ^^^ (1 : Int32)) h) (cwV 2 hts gX3_fitsBeside_X3_heading rfl rfl rfl (by decide +kernel) ⟨Nat.le_of_ble_eq_true rfl, Nat.le_of_ble_eq_true rfl⟩) ⟨q_pre.blind, va_recv hK hP (ci := 3) (q0 := 0) rfl rfl, fun U hU hW => ⟨rfl, q_pre.of hU hW hPc hK hDc hSt hS hFc hNw⟩⟩ rfl rfl hl.1 rfl (lv_room (Nat.le_of_ble_eq_true rfl)) dX3_fitsBeside_78 ⟨Nat.zero_le _, Nat.zero_le _⟩) hS (fun q _ h => hFc q h) hFc (fun r_7 u_8 t H1 locs ht hvm hw hB hz1 hk1 hS => ?_)
          obtain ⟨hP1, hK1, hD1⟩ := hB
          rw [ht] at hP1
          obtain ⟨hP, hD⟩ := va_join (wr := [(a_lies, .inl (cZ, 22, .inl v_lies)), (a_solid, .inr (4, [.int v_solid_cubes, .int v_solid_faces, .ref a_solid_cubeOf, .ref a_solid_lookOf, .ref a_solid_x, .ref a_solid_y, .ref a_solid_z, .ref a_solid_faceOf, .ref a_solid_beyondEdge, .ref a_solid_onwardEdge])), (a_solid_beyondEdge, .inl (cI, 132, .inl v_solid_beyondEdge)), (a_solid_onwardEdge, .inl (cI, 132, .inl v_solid_onwardEdge)), (a_x, .inl (cI, 22, .inl v_x)), (a_y, .inl (cI, 22, .inl v_y))]) (w1 := (wd_X3_heading cI cZ cJ a_this a_headings a_lies a_x a_y a_solid a_taken v_count v_headings)) hP hD [0, 1] [2, 3, 4, 5, 6, 7] rfl rfl (by decide) (by decide) hk1 hFc hP1 hD1
          clear hPc hDc hFc hP1 hD1 hK1 hk1 hz1 ht hvm
          replace h := hw
          clear hw
          generalize H1 = H at hP hS ⊢
          replace hP : va_P D vwCl (wd_X3_fitsBeside cI cZ cJ a_this a_headings a_lies a_solid a_solid_beyondEdge a_solid_onwardEdge a_x a_y a_taken a_solid_cubeOf a_solid_lookOf a_solid_x a_solid_y a_solid_z a_solid_faceOf v_count v_headings v_lies v_solid_cubes v_solid_faces v_solid_beyondEdge v_solid_onwardEdge v_x v_y) H := hP.sub [6, 7, 0, 1, 2, 3, 4, 5] rfl
          replace hD : va_D A (wd_X3_fitsBeside cI cZ cJ a_this a_headings a_lies a_solid a_solid_beyondEdge a_solid_onwardEdge a_x a_y a_taken a_solid_cubeOf a_solid_lookOf a_solid_x a_solid_y a_solid_z a_solid_faceOf v_count v_headings v_lies v_solid_cubes v_solid_faces v_solid_beyondEdge v_solid_onwardEdge v_x v_y) := hD.sub [6, 7, 0, 1, 2, 3, 4, 5] (by decide) rfl
          refine lv_aload_n hx hb dX3_fitsBeside_81 rfl (lv_at hl 1 rfl) ?_
          refine lv_iload_n hx hb dX3_fitsBeside_82 rfl (lv_at hl 2 rfl) ?_
          refine lv_iload_n hx hb dX3_fitsBeside_83 rfl (lv_at hl 3 rfl) ?_
          refine lv_iconst (v := 1) hx hb dX3_fitsBeside_84 (by decide) ?_
          refine lv_ixor hx hb dX3_fitsBeside_85 ?_
          have hPc := hP.sub (ws' := (wd_X3_heading cI cZ cJ a_this a_headings a_lies a_x a_y a_solid a_taken v_count v_headings)) [0, 1] rfl
          have hDc := hD.sub (ws' := (wd_X3_heading cI cZ cJ a_this a_headings a_lies a_x a_y a_solid a_taken v_count v_headings)) [0, 1] (by decide) rfl
          have hFc := va_free (wc := (wd_X3_heading cI cZ cJ a_this a_headings a_lies a_x a_y a_solid a_taken v_count v_headings)) hD hS hA [0, 1] rfl
          refine va_calli (va_runV (As := [.int p1, .int (p2 ^^^ (1 : Int32))]) (rest := [.int r_7]) C (c_X3_heading l D cI cZ cJ tb a_this a_headings a_lies a_x a_y a_solid a_taken v_count v_headings H.size p1 (p2 ^^^ (1 : Int32)) h) (cwV 2 hts gX3_fitsBeside_X3_heading rfl rfl rfl (by decide +kernel) ⟨Nat.le_of_ble_eq_true rfl, Nat.le_of_ble_eq_true rfl⟩) ⟨q_pre.blind, va_recv hK hP (ci := 3) (q0 := 0) rfl rfl, fun U hU hW => ⟨rfl, q_pre.of hU hW hPc hK hDc hSt hS hFc hNw⟩⟩ rfl rfl hl.1 rfl (lv_room (Nat.le_of_ble_eq_true rfl)) dX3_fitsBeside_86 ⟨Nat.zero_le _, Nat.zero_le _⟩) hS (fun q _ h => hFc q h) hFc (fun r_9 u_10 t H1 locs ht hvm hw hB hz1 hk1 hS => ?_)
          obtain ⟨hP1, hK1, hD1⟩ := hB
          rw [ht] at hP1
          obtain ⟨hP, hD⟩ := va_join (wr := [(a_lies, .inl (cZ, 22, .inl v_lies)), (a_solid, .inr (4, [.int v_solid_cubes, .int v_solid_faces, .ref a_solid_cubeOf, .ref a_solid_lookOf, .ref a_solid_x, .ref a_solid_y, .ref a_solid_z, .ref a_solid_faceOf, .ref a_solid_beyondEdge, .ref a_solid_onwardEdge])), (a_solid_beyondEdge, .inl (cI, 132, .inl v_solid_beyondEdge)), (a_solid_onwardEdge, .inl (cI, 132, .inl v_solid_onwardEdge)), (a_x, .inl (cI, 22, .inl v_x)), (a_y, .inl (cI, 22, .inl v_y))]) (w1 := (wd_X3_heading cI cZ cJ a_this a_headings a_lies a_x a_y a_solid a_taken v_count v_headings)) hP hD [0, 1] [2, 3, 4, 5, 6, 7] rfl rfl (by decide) (by decide) hk1 hFc hP1 hD1
          clear hPc hDc hFc hP1 hD1 hK1 hk1 hz1 ht hvm
          replace h := hw
          clear hw
          generalize H1 = H at hP hS ⊢
          replace hP : va_P D vwCl (wd_X3_fitsBeside cI cZ cJ a_this a_headings a_lies a_solid a_solid_beyondEdge a_solid_onwardEdge a_x a_y a_taken a_solid_cubeOf a_solid_lookOf a_solid_x a_solid_y a_solid_z a_solid_faceOf v_count v_headings v_lies v_solid_cubes v_solid_faces v_solid_beyondEdge v_solid_onwardEdge v_x v_y) H := hP.sub [6, 7, 0, 1, 2, 3, 4, 5] rfl
          replace hD : va_D A (wd_X3_fitsBeside cI cZ cJ a_this a_headings a_lies a_solid a_solid_beyondEdge a_solid_onwardEdge a_x a_y a_taken a_solid_cubeOf a_solid_lookOf a_solid_x a_solid_y a_solid_z a_solid_faceOf v_count v_headings v_lies v_solid_cubes v_solid_faces v_solid_beyondEdge v_solid_onwardEdge v_x v_y) := hD.sub [6, 7, 0, 1, 2, 3, 4, 5] (by decide) rfl
          refine lv_icmp_ne (tgt := 96) hx hb dX3_fitsBeside_89 (by decide) (fun hc => ?_) (fun hc => ?_)
          · replace h := h.1 hc
            refine lv_iconst (v := 0) hx hb dX3_fitsBeside_96 (by decide) ?_
            exact ret (0 : Int32) () _ _ _ 97 dX3_fitsBeside_97 ⟨by decide, h⟩ hP hD hS
          · replace h := h.2 hc
            refine lv_iconst (v := 1) hx hb dX3_fitsBeside_92 (by decide) ?_
            refine lv_goto (tgt := 97) hx hb dX3_fitsBeside_93 (by decide) ?_
            exact ret (1 : Int32) () _ _ _ 97 dX3_fitsBeside_97 ⟨by decide, h⟩ hP hD hS
def wd_X4_cubeAt (cI cZ cJ : ClassId) (a_this a_x a_y a_z a_cubeOf a_lookOf a_faceOf a_beyondEdge a_onwardEdge : Nat) (v_cubes : Int32) (v_faces : Int32) (v_x : Nat → Int32) (v_y : Nat → Int32) (v_z : Nat → Int32) : va_W := [(a_this, .inr (4, [.int v_cubes, .int v_faces, .ref a_cubeOf, .ref a_lookOf, .ref a_x, .ref a_y, .ref a_z, .ref a_faceOf, .ref a_beyondEdge, .ref a_onwardEdge])),
  (a_x, .inl (cI, 5, .inl v_x)),
  (a_y, .inl (cI, 5, .inl v_y)),
  (a_z, .inl (cI, 5, .inl v_z))]
abbrev rm_X4_cubeAt : Room := { frames := 0, cells := 0, slots := 0, locals := 0 }
set_option maxHeartbeats 4000000 in
set_option maxRecDepth 100000 in
theorem c_X4_cubeAt (l : Launch) (D : va_G) (cI cZ cJ : ClassId) (tb : Nat → Nat) (a_this a_x a_y a_z a_cubeOf a_lookOf a_faceOf a_beyondEdge a_onwardEdge : Nat) (v_cubes : Int32) (v_faces : Int32) (v_x : Nat → Int32) (v_y : Nat → Int32) (v_z : Nat → Int32) (sz : Nat) (p1 : Int32) (p2 : Int32) (p3 : Int32) {post : Int32 → Prop} (h : wp_X4_cubeAt v_cubes v_x v_y v_z p1 p2 p3 post) : Met l yX4_cubeAt wsX4_cubeAt rm_X4_cubeAt (va_Pc [.ref a_this, .int p1, .int p2, .int p3] (q_pre D cI cZ cJ tb (wd_X4_cubeAt cI cZ cJ a_this a_x a_y a_z a_cubeOf a_lookOf a_faceOf a_beyondEdge a_onwardEdge v_cubes v_faces v_x v_y v_z) sz)) (va_Qi (fun r (u : Unit) => post r) (fun u => q_post D cI cZ cJ (va_A (wd_X4_cubeAt cI cZ cJ a_this a_x a_y a_z a_cubeOf a_lookOf a_faceOf a_beyondEdge a_onwardEdge v_cubes v_faces v_x v_y v_z) sz) (wd_X4_cubeAt cI cZ cJ a_this a_x a_y a_z a_cubeOf a_lookOf a_faceOf a_beyondEdge a_onwardEdge v_cubes v_faces v_x v_y v_z)) (va_A (wd_X4_cubeAt cI cZ cJ a_this a_x a_y a_z a_cubeOf a_lookOf a_faceOf a_beyondEdge a_onwardEdge v_cubes v_faces v_x v_y v_z) sz)) 0 0 (va_A (wd_X4_cubeAt cI cZ cJ a_this a_x a_y a_z a_cubeOf a_lookOf a_faceOf a_beyondEdge a_onwardEdge v_cubes v_faces v_x v_y v_z) sz) := by
  refine q_walki (cc := cX4_cubeAt) (maxL := 5) (own := RX4) (wd := fun (u : Unit) => (wd_X4_cubeAt cI cZ cJ a_this a_x a_y a_z a_cubeOf a_lookOf a_faceOf a_beyondEdge a_onwardEdge v_cubes v_faces v_x v_y v_z)) (by decide) rfl rfl (Nat.le_of_ble_eq_true rfl) ?_
  intro p e s m below meth c Q A ls C hA ret hP hD hS hK hSt hNw hl
  obtain ⟨hx, hb, hml, hown, hts⟩ := id C
  replace hl : lv_has ls 5 [(0, .ref a_this), (1, .int p1), (2, .int p2), (3, .int p3)] := hl
  have f36 := hts (.fieldLink RX4 36 "NetSearch$Solid" "cubes" "I") (by decide +kernel)
  have iX4 : ∀ w ∈ wsX40, w ∈ wsX4_cubeAt := by decide +kernel
  have f18 := hts (.fieldLink RX4 18 "NetSearch$Solid" "x" "[I") (by decide +kernel)
  have f21 := hts (.fieldLink RX4 21 "NetSearch$Solid" "y" "[I") (by decide +kernel)
  have f24 := hts (.fieldLink RX4 24 "NetSearch$Solid" "z" "[I") (by decide +kernel)
  have L3_ok : ∀ (l1 : Int32) (l2 : Int32) (l3 : Int32) (kx45 : Int32 → Prop) (hkx45 : ∀ (l4 : Int32) (H : Heap) (locs : List Loc) (ls : Array Slot), kx45 l4 → va_P D vwCl (wd_X4_cubeAt cI cZ cJ a_this a_x a_y a_z a_cubeOf a_lookOf a_faceOf a_beyondEdge a_onwardEdge v_cubes v_faces v_x v_y v_z) H → va_D A (wd_X4_cubeAt cI cZ cJ a_this a_x a_y a_z a_cubeOf a_lookOf a_faceOf a_beyondEdge a_onwardEdge v_cubes v_faces v_x v_y v_z) → va_S A s.heap H locs → lv_has ls 5 [(4, .int l4)] → W p l e rm_X4_cubeAt s m ([.ref a_this, .int p1, .int p2, .int p3] : List Value).toArray below meth c H locs 0 0 Q (F0 m 45 ls [])) (kx54 : Prop) (hkx54 : ∀ (H : Heap) (locs : List Loc) (ls : Array Slot), kx54  → va_P D vwCl (wd_X4_cubeAt cI cZ cJ a_this a_x a_y a_z a_cubeOf a_lookOf a_faceOf a_beyondEdge a_onwardEdge v_cubes v_faces v_x v_y v_z) H → va_D A (wd_X4_cubeAt cI cZ cJ a_this a_x a_y a_z a_cubeOf a_lookOf a_faceOf a_beyondEdge a_onwardEdge v_cubes v_faces v_x v_y v_z) → va_S A s.heap H locs → lv_has ls 5 [] → W p l e rm_X4_cubeAt s m ([.ref a_this, .int p1, .int p2, .int p3] : List Value).toArray below meth c H locs 0 0 Q (F0 m 54 ls [])) (n : Nat) (l4 : Int32) (H : Heap) (locs : List Loc) (ls : Array Slot), lpN (wl_X4_cubeAt_3 v_cubes v_x v_y v_z l1 l2 l3 kx45 kx54) n l4 → va_P D vwCl (wd_X4_cubeAt cI cZ cJ a_this a_x a_y a_z a_cubeOf a_lookOf a_faceOf a_beyondEdge a_onwardEdge v_cubes v_faces v_x v_y v_z) H → va_D A (wd_X4_cubeAt cI cZ cJ a_this a_x a_y a_z a_cubeOf a_lookOf a_faceOf a_beyondEdge a_onwardEdge v_cubes v_faces v_x v_y v_z) → va_S A s.heap H locs → lv_has ls 5 [(0, .ref a_this), (1, .int l1), (2, .int l2), (3, .int l3), (4, .int l4)] → W p l e rm_X4_cubeAt s m ([.ref a_this, .int p1, .int p2, .int p3] : List Value).toArray below meth c H locs 0 0 Q (F0 m 3 ls []) := by
    intro l1 l2 l3 kx45 hkx45 kx54 hkx54 n
    induction n with
    | zero => intro l4 H locs ls h; exact False.elim h
    | succ n ih =>
      intro l4 H locs ls h hP hD hS hl
      have h : wb_X4_cubeAt_3 v_cubes v_x v_y v_z l1 l2 l3 kx45 kx54 (fun l4 => lpN (wl_X4_cubeAt_3 v_cubes v_x v_y v_z l1 l2 l3 kx45 kx54) n l4) l4 := h
      unfold wb_X4_cubeAt_3 at h
      refine lv_iload hx hb dX4_cubeAt_3 (lv_at hl 4 rfl) ?_
      refine lv_aload_n hx hb dX4_cubeAt_5 rfl (lv_at hl 0 rfl) ?_
      refine va_get (D := D) (ci := 4) (v := .int v_cubes) (C := RX4) (T := TX4) (N := 10) hx hb hts iX4 hown hK hP 0 rfl rfl 0 (by decide) f36 (fun _ h9 => h9) rfl dX4_cubeAt_6 ?_
      refine lv_icmp_ge (tgt := 54) hx hb dX4_cubeAt_9 (by decide) (fun hc => ?_) (fun hc => ?_)
      · replace h := h.1 hc
        exact hkx54  _ _ _ h hP hD hS (lv_sub hl [] rfl)
      · replace h := h.2 hc
        refine lv_aload_n hx hb dX4_cubeAt_12 rfl (lv_at hl 0 rfl) ?_
        refine va_get (D := D) (ci := 4) (v := .ref a_x) (C := RX4) (T := TX4) (N := 10) hx hb hts iX4 hown hK hP 0 rfl rfl 4 (by decide) f18 (fun _ h9 => h9) rfl dX4_cubeAt_13 ?_
        refine lv_iload hx hb dX4_cubeAt_16 (lv_at hl 4 rfl) ?_
        obtain ⟨hin, h⟩ := h
        refine va_iald hx hb hK hP 1 0 rfl rfl hin dX4_cubeAt_18 ?_
        refine lv_iload_n hx hb dX4_cubeAt_19 rfl (lv_at hl 1 rfl) ?_
        refine lv_icmp_ne (tgt := 48) hx hb dX4_cubeAt_20 (by decide) (fun hc => ?_) (fun hc => ?_)
        · replace h := h.1 hc
          refine lv_iinc (v := (l4 + (1 : Int32))) (lv' := [(4, .int (l4 + (1 : Int32))), (0, .ref a_this), (1, .int l1), (2, .int l2), (3, .int l3)]) hx hb dX4_cubeAt_48 hl (k := 4) rfl rfl (by decide) rfl (fun ls hl => ?_)
          refine lv_goto (tgt := 3) hx hb dX4_cubeAt_51 (by decide) ?_
          exact ih (l4 + (1 : Int32)) _ _ _ h hP hD hS (lv_sub hl [1, 2, 3, 4, 0] rfl)
        · replace h := h.2 hc
          refine lv_aload_n hx hb dX4_cubeAt_23 rfl (lv_at hl 0 rfl) ?_
          refine va_get (D := D) (ci := 4) (v := .ref a_y) (C := RX4) (T := TX4) (N := 10) hx hb hts iX4 hown hK hP 0 rfl rfl 5 (by decide) f21 (fun _ h9 => h9) rfl dX4_cubeAt_24 ?_
          refine lv_iload hx hb dX4_cubeAt_27 (lv_at hl 4 rfl) ?_
          obtain ⟨hin, h⟩ := h
          refine va_iald hx hb hK hP 2 0 rfl rfl hin dX4_cubeAt_29 ?_
          refine lv_iload_n hx hb dX4_cubeAt_30 rfl (lv_at hl 2 rfl) ?_
          refine lv_icmp_ne (tgt := 48) hx hb dX4_cubeAt_31 (by decide) (fun hc => ?_) (fun hc => ?_)
          · replace h := h.1 hc
            refine lv_iinc (v := (l4 + (1 : Int32))) (lv' := [(4, .int (l4 + (1 : Int32))), (0, .ref a_this), (1, .int l1), (2, .int l2), (3, .int l3)]) hx hb dX4_cubeAt_48 hl (k := 4) rfl rfl (by decide) rfl (fun ls hl => ?_)
            refine lv_goto (tgt := 3) hx hb dX4_cubeAt_51 (by decide) ?_
            exact ih (l4 + (1 : Int32)) _ _ _ h hP hD hS (lv_sub hl [1, 2, 3, 4, 0] rfl)
          · replace h := h.2 hc
            refine lv_aload_n hx hb dX4_cubeAt_34 rfl (lv_at hl 0 rfl) ?_
            refine va_get (D := D) (ci := 4) (v := .ref a_z) (C := RX4) (T := TX4) (N := 10) hx hb hts iX4 hown hK hP 0 rfl rfl 6 (by decide) f24 (fun _ h9 => h9) rfl dX4_cubeAt_35 ?_
            refine lv_iload hx hb dX4_cubeAt_38 (lv_at hl 4 rfl) ?_
            obtain ⟨hin, h⟩ := h
            refine va_iald hx hb hK hP 3 0 rfl rfl hin dX4_cubeAt_40 ?_
            refine lv_iload_n hx hb dX4_cubeAt_41 rfl (lv_at hl 3 rfl) ?_
            refine lv_icmp_ne (tgt := 48) hx hb dX4_cubeAt_42 (by decide) (fun hc => ?_) (fun hc => ?_)
            · replace h := h.1 hc
              refine lv_iinc (v := (l4 + (1 : Int32))) (lv' := [(4, .int (l4 + (1 : Int32))), (0, .ref a_this), (1, .int l1), (2, .int l2), (3, .int l3)]) hx hb dX4_cubeAt_48 hl (k := 4) rfl rfl (by decide) rfl (fun ls hl => ?_)
              refine lv_goto (tgt := 3) hx hb dX4_cubeAt_51 (by decide) ?_
              exact ih (l4 + (1 : Int32)) _ _ _ h hP hD hS (lv_sub hl [1, 2, 3, 4, 0] rfl)
            · replace h := h.2 hc
              exact hkx45 l4 _ _ _ h hP hD hS (lv_sub hl [4] rfl)
  unfold wp_X4_cubeAt at h
  refine lv_iconst (v := 0) hx hb dX4_cubeAt_0 (by decide) ?_
  refine lv_istore (lv' := [(4, .int (0 : Int32)), (0, .ref a_this), (1, .int p1), (2, .int p2), (3, .int p3)]) hx hb dX4_cubeAt_1 hl (by decide) rfl (fun ls hl => ?_)
  obtain ⟨n, h⟩ := h
  refine L3_ok p1 p2 p3 _ (fun l4_1 H locs ls h hP hD hS hl => ?_) _ (fun  H locs ls h hP hD hS hl => ?_) n (0 : Int32) _ _ _ h hP hD hS (lv_sub hl [1, 2, 3, 4, 0] rfl)
  · refine lv_iload hx hb dX4_cubeAt_45 (lv_at hl 0 rfl) ?_
    exact ret l4_1 () _ _ _ 47 dX4_cubeAt_47 h hP hD hS
  · refine lv_iconst (v := -1) hx hb dX4_cubeAt_54 (by decide) ?_
    exact ret (-1 : Int32) () _ _ _ 55 dX4_cubeAt_55 h hP hD hS
def wd_X4_cubeFrom (cI cZ cJ : ClassId) (a_this a_x a_y a_z a_cubeOf a_lookOf a_faceOf a_beyondEdge a_onwardEdge : Nat) (v_cubes : Int32) (v_faces : Int32) (v_x : Nat → Int32) (v_y : Nat → Int32) (v_z : Nat → Int32) : va_W := [(a_this, .inr (4, [.int v_cubes, .int v_faces, .ref a_cubeOf, .ref a_lookOf, .ref a_x, .ref a_y, .ref a_z, .ref a_faceOf, .ref a_beyondEdge, .ref a_onwardEdge])),
  (a_x, .inl (cI, 5, .inl v_x)),
  (a_y, .inl (cI, 5, .inl v_y)),
  (a_z, .inl (cI, 5, .inl v_z))]
abbrev rm_X4_cubeFrom : Room := { frames := 1, cells := 0, slots := 0, locals := 24 }
set_option maxHeartbeats 4000000 in
set_option maxRecDepth 100000 in
theorem c_X4_cubeFrom (l : Launch) (D : va_G) (cI cZ cJ : ClassId) (tb : Nat → Nat) (a_this a_x a_y a_z a_cubeOf a_lookOf a_faceOf a_beyondEdge a_onwardEdge : Nat) (v_cubes : Int32) (v_faces : Int32) (v_x : Nat → Int32) (v_y : Nat → Int32) (v_z : Nat → Int32) (sz : Nat) (p1 : Int32) (p2 : Int32) {post : Int32 → Prop} (h : wp_X4_cubeFrom v_cubes v_x v_y v_z p1 p2 post) : Met l yX4_cubeFrom wsX4_cubeFrom rm_X4_cubeFrom (va_Pc [.ref a_this, .int p1, .int p2] (q_pre D cI cZ cJ tb (wd_X4_cubeFrom cI cZ cJ a_this a_x a_y a_z a_cubeOf a_lookOf a_faceOf a_beyondEdge a_onwardEdge v_cubes v_faces v_x v_y v_z) sz)) (va_Qi (fun r (u : Unit) => post r) (fun u => q_post D cI cZ cJ (va_A (wd_X4_cubeFrom cI cZ cJ a_this a_x a_y a_z a_cubeOf a_lookOf a_faceOf a_beyondEdge a_onwardEdge v_cubes v_faces v_x v_y v_z) sz) (wd_X4_cubeFrom cI cZ cJ a_this a_x a_y a_z a_cubeOf a_lookOf a_faceOf a_beyondEdge a_onwardEdge v_cubes v_faces v_x v_y v_z)) (va_A (wd_X4_cubeFrom cI cZ cJ a_this a_x a_y a_z a_cubeOf a_lookOf a_faceOf a_beyondEdge a_onwardEdge v_cubes v_faces v_x v_y v_z) sz)) 0 0 (va_A (wd_X4_cubeFrom cI cZ cJ a_this a_x a_y a_z a_cubeOf a_lookOf a_faceOf a_beyondEdge a_onwardEdge v_cubes v_faces v_x v_y v_z) sz) := by
  refine q_walki (cc := cX4_cubeFrom) (maxL := 3) (own := RX4) (wd := fun (u : Unit) => (wd_X4_cubeFrom cI cZ cJ a_this a_x a_y a_z a_cubeOf a_lookOf a_faceOf a_beyondEdge a_onwardEdge v_cubes v_faces v_x v_y v_z)) (by decide) rfl rfl (Nat.le_of_ble_eq_true rfl) ?_
  intro p e s m below meth c Q A ls C hA ret hP hD hS hK hSt hNw hl
  obtain ⟨hx, hb, hml, hown, hts⟩ := id C
  replace hl : lv_has ls 3 [(0, .ref a_this), (1, .int p1), (2, .int p2)] := hl
  have f18 := hts (.fieldLink RX4 18 "NetSearch$Solid" "x" "[I") (by decide +kernel)
  have iX4 : ∀ w ∈ wsX40, w ∈ wsX4_cubeFrom := by decide +kernel
  have hZ0 : va_Z "NetSearch" "STEP_X" "[I" (.ref (tb 0)) A s s.heap := (hSt 0 (by decide)).1
  have hT0 : va_T .int (tb 0) 6 (fun j => .int (q_STEP_X j)) A s s.heap := (hSt 0 (by decide)).2
  have g40 : (Cond.fieldLinkNest RX4 40 "NetSearch" "STEP_X" "[I" "NetSearch").before ([.ref a_this, .int p1, .int p2] : List Value).toArray s = true := va_Nw.use rfl (hNw.1 (RX4, 40, "NetSearch", "STEP_X", "[I", "NetSearch") (by decide +kernel))
  have f21 := hts (.fieldLink RX4 21 "NetSearch$Solid" "y" "[I") (by decide +kernel)
  have hZ1 : va_Z "NetSearch" "STEP_Y" "[I" (.ref (tb 1)) A s s.heap := (hSt 1 (by decide)).1
  have hT1 : va_T .int (tb 1) 6 (fun j => .int (q_STEP_Y j)) A s s.heap := (hSt 1 (by decide)).2
  have g43 : (Cond.fieldLinkNest RX4 43 "NetSearch" "STEP_Y" "[I" "NetSearch").before ([.ref a_this, .int p1, .int p2] : List Value).toArray s = true := va_Nw.use rfl (hNw.1 (RX4, 43, "NetSearch", "STEP_Y", "[I", "NetSearch") (by decide +kernel))
  have f24 := hts (.fieldLink RX4 24 "NetSearch$Solid" "z" "[I") (by decide +kernel)
  have hZ2 : va_Z "NetSearch" "STEP_Z" "[I" (.ref (tb 2)) A s s.heap := (hSt 2 (by decide)).1
  have hT2 : va_T .int (tb 2) 6 (fun j => .int (q_STEP_Z j)) A s s.heap := (hSt 2 (by decide)).2
  have g46 : (Cond.fieldLinkNest RX4 46 "NetSearch" "STEP_Z" "[I" "NetSearch").before ([.ref a_this, .int p1, .int p2] : List Value).toArray s = true := va_Nw.use rfl (hNw.1 (RX4, 46, "NetSearch", "STEP_Z", "[I", "NetSearch") (by decide +kernel))
  unfold wp_X4_cubeFrom at h
  refine lv_aload_n hx hb dX4_cubeFrom_0 rfl (lv_at hl 0 rfl) ?_
  refine lv_aload_n hx hb dX4_cubeFrom_1 rfl (lv_at hl 0 rfl) ?_
  refine va_get (D := D) (ci := 4) (v := .ref a_x) (C := RX4) (T := TX4) (N := 10) hx hb hts iX4 hown hK hP 0 rfl rfl 4 (by decide) f18 (fun _ h9 => h9) rfl dX4_cubeFrom_2 ?_
  refine lv_iload_n hx hb dX4_cubeFrom_5 rfl (lv_at hl 1 rfl) ?_
  obtain ⟨hin, h⟩ := h
  refine va_iald hx hb hK hP 1 0 rfl rfl hin dX4_cubeFrom_6 ?_
  refine va_getsN hx hb hZ0 hS hown g40 (fun _ h9 => h9) dX4_cubeFrom_7 ?_
  refine lv_iload_n hx hb dX4_cubeFrom_10 rfl (lv_at hl 2 rfl) ?_
  obtain ⟨hin, h⟩ := h
  refine va_ti (v := .int (q_STEP_X p2.toNatClampNeg)) hx hb hT0 hS hin rfl dX4_cubeFrom_11 ?_
  refine lv_iadd hx hb dX4_cubeFrom_12 ?_
  refine lv_aload_n hx hb dX4_cubeFrom_13 rfl (lv_at hl 0 rfl) ?_
  refine va_get (D := D) (ci := 4) (v := .ref a_y) (C := RX4) (T := TX4) (N := 10) hx hb hts iX4 hown hK hP 0 rfl rfl 5 (by decide) f21 (fun _ h9 => h9) rfl dX4_cubeFrom_14 ?_
  refine lv_iload_n hx hb dX4_cubeFrom_17 rfl (lv_at hl 1 rfl) ?_
  obtain ⟨hin, h⟩ := h
  refine va_iald hx hb hK hP 2 0 rfl rfl hin dX4_cubeFrom_18 ?_
  refine va_getsN hx hb hZ1 hS hown g43 (fun _ h9 => h9) dX4_cubeFrom_19 ?_
  refine lv_iload_n hx hb dX4_cubeFrom_22 rfl (lv_at hl 2 rfl) ?_
  obtain ⟨hin, h⟩ := h
  refine va_ti (v := .int (q_STEP_Y p2.toNatClampNeg)) hx hb hT1 hS hin rfl dX4_cubeFrom_23 ?_
  refine lv_iadd hx hb dX4_cubeFrom_24 ?_
  refine lv_aload_n hx hb dX4_cubeFrom_25 rfl (lv_at hl 0 rfl) ?_
  refine va_get (D := D) (ci := 4) (v := .ref a_z) (C := RX4) (T := TX4) (N := 10) hx hb hts iX4 hown hK hP 0 rfl rfl 6 (by decide) f24 (fun _ h9 => h9) rfl dX4_cubeFrom_26 ?_
  refine lv_iload_n hx hb dX4_cubeFrom_29 rfl (lv_at hl 1 rfl) ?_
  obtain ⟨hin, h⟩ := h
  refine va_iald hx hb hK hP 3 0 rfl rfl hin dX4_cubeFrom_30 ?_
  refine va_getsN hx hb hZ2 hS hown g46 (fun _ h9 => h9) dX4_cubeFrom_31 ?_
  refine lv_iload_n hx hb dX4_cubeFrom_34 rfl (lv_at hl 2 rfl) ?_
  obtain ⟨hin, h⟩ := h
  refine va_ti (v := .int (q_STEP_Z p2.toNatClampNeg)) hx hb hT2 hS hin rfl dX4_cubeFrom_35 ?_
  refine lv_iadd hx hb dX4_cubeFrom_36 ?_
  have hPc := hP.sub (ws' := (wd_X4_cubeAt cI cZ cJ a_this a_x a_y a_z a_cubeOf a_lookOf a_faceOf a_beyondEdge a_onwardEdge v_cubes v_faces v_x v_y v_z)) [0, 1, 2, 3] rfl
  have hDc := hD.sub (ws' := (wd_X4_cubeAt cI cZ cJ a_this a_x a_y a_z a_cubeOf a_lookOf a_faceOf a_beyondEdge a_onwardEdge v_cubes v_faces v_x v_y v_z)) [0, 1, 2, 3] (by decide) rfl
  have hFc := va_free (wc := (wd_X4_cubeAt cI cZ cJ a_this a_x a_y a_z a_cubeOf a_lookOf a_faceOf a_beyondEdge a_onwardEdge v_cubes v_faces v_x v_y v_z)) hD hS hA [0, 1, 2, 3] rfl
  refine va_calli (va_runV (As := [.int ((v_x p1.toNatClampNeg) + (q_STEP_X p2.toNatClampNeg)), .int ((v_y p1.toNatClampNeg) + (q_STEP_Y p2.toNatClampNeg)), .int ((v_z p1.toNatClampNeg) + (q_STEP_Z p2.toNatClampNeg))]) (rest := []) C (c_X4_cubeAt l D cI cZ cJ tb a_this a_x a_y a_z a_cubeOf a_lookOf a_faceOf a_beyondEdge a_onwardEdge v_cubes v_faces v_x v_y v_z s.heap.size ((v_x p1.toNatClampNeg) + (q_STEP_X p2.toNatClampNeg)) ((v_y p1.toNatClampNeg) + (q_STEP_Y p2.toNatClampNeg)) ((v_z p1.toNatClampNeg) + (q_STEP_Z p2.toNatClampNeg)) h) (cwV 3 hts gX4_cubeFrom_X4_cubeAt rfl rfl rfl (by decide +kernel) ⟨Nat.le_of_ble_eq_true rfl, Nat.le_of_ble_eq_true rfl⟩) ⟨q_pre.blind, va_recv hK hP (ci := 4) (q0 := 0) rfl rfl, fun U hU hW => ⟨rfl, q_pre.of hU hW hPc hK hDc hSt hS hFc hNw⟩⟩ rfl rfl hl.1 rfl (lv_room (Nat.le_of_ble_eq_true rfl)) dX4_cubeFrom_37 ⟨Nat.zero_le _, Nat.zero_le _⟩) hS (fun q _ h => hFc q h) hFc (fun r_1 u_2 t H1 locs ht hvm hw hB hz1 hk1 hS => ?_)
  obtain ⟨hP1, hK1, hD1⟩ := hB
  rw [ht] at hP1
  obtain ⟨hP, hD⟩ := va_join (wr := []) (w1 := (wd_X4_cubeAt cI cZ cJ a_this a_x a_y a_z a_cubeOf a_lookOf a_faceOf a_beyondEdge a_onwardEdge v_cubes v_faces v_x v_y v_z)) hP hD [0, 1, 2, 3] [] rfl rfl (by decide) (by decide) hk1 hFc hP1 hD1
  clear hPc hDc hFc hP1 hD1 hK1 hk1 hz1 ht hvm
  replace h := hw
  clear hw
  generalize H1 = H at hP hS ⊢
  replace hP : va_P D vwCl (wd_X4_cubeFrom cI cZ cJ a_this a_x a_y a_z a_cubeOf a_lookOf a_faceOf a_beyondEdge a_onwardEdge v_cubes v_faces v_x v_y v_z) H := hP.sub [0, 1, 2, 3] rfl
  replace hD : va_D A (wd_X4_cubeFrom cI cZ cJ a_this a_x a_y a_z a_cubeOf a_lookOf a_faceOf a_beyondEdge a_onwardEdge v_cubes v_faces v_x v_y v_z) := hD.sub [0, 1, 2, 3] (by decide) rfl
  exact ret r_1 () _ _ _ 40 dX4_cubeFrom_40 h hP hD hS
def wd_X4_numberFaces (cI cZ cJ : ClassId) (a_this a_cubeOf a_faceOf a_lookOf a_x a_y a_z a_beyondEdge a_onwardEdge : Nat) (v_cubes : Int32) (v_faces : Int32) (v_cubeOf : Nat → Int32) (v_faceOf : Nat → Int32) (v_lookOf : Nat → Int32) (v_x : Nat → Int32) (v_y : Nat → Int32) (v_z : Nat → Int32) : va_W := [(a_this, .inr (4, [.int v_cubes, .int v_faces, .ref a_cubeOf, .ref a_lookOf, .ref a_x, .ref a_y, .ref a_z, .ref a_faceOf, .ref a_beyondEdge, .ref a_onwardEdge])),
  (a_cubeOf, .inl (cI, 22, .inl v_cubeOf)),
  (a_faceOf, .inl (cI, 30, .inl v_faceOf)),
  (a_lookOf, .inl (cI, 22, .inl v_lookOf)),
  (a_x, .inl (cI, 5, .inl v_x)),
  (a_y, .inl (cI, 5, .inl v_y)),
  (a_z, .inl (cI, 5, .inl v_z))]
abbrev rm_X4_numberFaces : Room := { frames := 2, cells := 0, slots := 0, locals := 46 }
set_option maxHeartbeats 4000000 in
set_option maxRecDepth 100000 in
theorem c_X4_numberFaces (l : Launch) (D : va_G) (cI cZ cJ : ClassId) (tb : Nat → Nat) (a_this a_cubeOf a_faceOf a_lookOf a_x a_y a_z a_beyondEdge a_onwardEdge : Nat) (v_cubes : Int32) (v_faces : Int32) (v_cubeOf : Nat → Int32) (v_faceOf : Nat → Int32) (v_lookOf : Nat → Int32) (v_x : Nat → Int32) (v_y : Nat → Int32) (v_z : Nat → Int32) (sz : Nat) {post : Int32 → (Nat → Int32) → (Nat → Int32) → (Nat → Int32) → Prop} (h : wp_X4_numberFaces v_cubes v_faces v_cubeOf v_faceOf v_lookOf v_x v_y v_z post) : Met l yX4_numberFaces wsX4_numberFaces rm_X4_numberFaces (va_Pc [.ref a_this] (q_pre D cI cZ cJ tb (wd_X4_numberFaces cI cZ cJ a_this a_cubeOf a_faceOf a_lookOf a_x a_y a_z a_beyondEdge a_onwardEdge v_cubes v_faces v_cubeOf v_faceOf v_lookOf v_x v_y v_z) sz)) (va_Qv (fun (u : Int32 × (Nat → Int32) × (Nat → Int32) × (Nat → Int32)) => post u.1 u.2.1 u.2.2.1 u.2.2.2) (fun u => q_post D cI cZ cJ (va_A (wd_X4_numberFaces cI cZ cJ a_this a_cubeOf a_faceOf a_lookOf a_x a_y a_z a_beyondEdge a_onwardEdge v_cubes v_faces v_cubeOf v_faceOf v_lookOf v_x v_y v_z) sz) (wd_X4_numberFaces cI cZ cJ a_this a_cubeOf a_faceOf a_lookOf a_x a_y a_z a_beyondEdge a_onwardEdge v_cubes u.1 u.2.1 u.2.2.1 u.2.2.2 v_x v_y v_z)) (va_A (wd_X4_numberFaces cI cZ cJ a_this a_cubeOf a_faceOf a_lookOf a_x a_y a_z a_beyondEdge a_onwardEdge v_cubes v_faces v_cubeOf v_faceOf v_lookOf v_x v_y v_z) sz)) 0 0 (va_A (wd_X4_numberFaces cI cZ cJ a_this a_cubeOf a_faceOf a_lookOf a_x a_y a_z a_beyondEdge a_onwardEdge v_cubes v_faces v_cubeOf v_faceOf v_lookOf v_x v_y v_z) sz) := by
  refine q_walkv (cc := cX4_numberFaces) (maxL := 3) (own := RX4) (wd := fun (u : Int32 × (Nat → Int32) × (Nat → Int32) × (Nat → Int32)) => (wd_X4_numberFaces cI cZ cJ a_this a_cubeOf a_faceOf a_lookOf a_x a_y a_z a_beyondEdge a_onwardEdge v_cubes u.1 u.2.1 u.2.2.1 u.2.2.2 v_x v_y v_z)) (by decide) rfl rfl (Nat.le_of_ble_eq_true rfl) ?_
  intro p e s m below meth c Q A ls C hA ret hP hD hS hK hSt hNw hl
  obtain ⟨hx, hb, hml, hown, hts⟩ := id C
  replace hl : lv_has ls 3 [(0, .ref a_this)] := hl
  have f27 := hts (.fieldLink RX4 27 "NetSearch$Solid" "faceOf" "[I") (by decide +kernel)
  have iX4 : ∀ w ∈ wsX40, w ∈ wsX4_numberFaces := by decide +kernel
  have f59 := hts (.fieldLink RX4 59 "NetSearch$Solid" "faces" "I") (by decide +kernel)
  have f9 := hts (.fieldLink RX4 9 "NetSearch$Solid" "cubeOf" "[I") (by decide +kernel)
  have f15 := hts (.fieldLink RX4 15 "NetSearch$Solid" "lookOf" "[I") (by decide +kernel)
  have f36 := hts (.fieldLink RX4 36 "NetSearch$Solid" "cubes" "I") (by decide +kernel)
  have L17_ok : ∀ (l1 : Int32) (kx83 : Int32 → (Nat → Int32) → (Nat → Int32) → (Nat → Int32) → Prop) (hkx83 : ∀ (v_faces : Int32) (v_cubeOf : Nat → Int32) (v_faceOf : Nat → Int32) (v_lookOf : Nat → Int32) (H : Heap) (locs : List Loc) (ls : Array Slot), kx83 v_faces v_cubeOf v_faceOf v_lookOf → va_P D vwCl (wd_X4_numberFaces cI cZ cJ a_this a_cubeOf a_faceOf a_lookOf a_x a_y a_z a_beyondEdge a_onwardEdge v_cubes v_faces v_cubeOf v_faceOf v_lookOf v_x v_y v_z) H → va_D A (wd_X4_numberFaces cI cZ cJ a_this a_cubeOf a_faceOf a_lookOf a_x a_y a_z a_beyondEdge a_onwardEdge v_cubes v_faces v_cubeOf v_faceOf v_lookOf v_x v_y v_z) → va_S A s.heap H locs → lv_has ls 3 [(0, .ref a_this), (1, .int l1)] → W p l e rm_X4_numberFaces s m ([.ref a_this] : List Value).toArray below meth c H locs 0 0 Q (F0 m 83 ls [])) (n : Nat) (l2 : Int32) (v_faces : Int32) (v_cubeOf : Nat → Int32) (v_faceOf : Nat → Int32) (v_lookOf : Nat → Int32) (H : Heap) (locs : List Loc) (ls : Array Slot), lpN (wl_X4_numberFaces_17 v_cubes v_x v_y v_z l1 kx83) n (l2, v_faces, v_cubeOf, v_faceOf, v_lookOf) → va_P D vwCl (wd_X4_numberFaces cI cZ cJ a_this a_cubeOf a_faceOf a_lookOf a_x a_y a_z a_beyondEdge a_onwardEdge v_cubes v_faces v_cubeOf v_faceOf v_lookOf v_x v_y v_z) H → va_D A (wd_X4_numberFaces cI cZ cJ a_this a_cubeOf a_faceOf a_lookOf a_x a_y a_z a_beyondEdge a_onwardEdge v_cubes v_faces v_cubeOf v_faceOf v_lookOf v_x v_y v_z) → va_S A s.heap H locs → lv_has ls 3 [(0, .ref a_this), (1, .int l1), (2, .int l2)] → W p l e rm_X4_numberFaces s m ([.ref a_this] : List Value).toArray below meth c H locs 0 0 Q (F0 m 17 ls []) := by
    intro l1 kx83 hkx83 n
    induction n with
    | zero => intro l2 v_faces v_cubeOf v_faceOf v_lookOf H locs ls h; exact False.elim h
    | succ n ih =>
      intro l2 v_faces v_cubeOf v_faceOf v_lookOf H locs ls h hP hD hS hl
      have h : wb_X4_numberFaces_17 v_cubes v_x v_y v_z l1 kx83 (fun l2 v_faces v_cubeOf v_faceOf v_lookOf => lpN (wl_X4_numberFaces_17 v_cubes v_x v_y v_z l1 kx83) n (l2, v_faces, v_cubeOf, v_faceOf, v_lookOf)) l2 v_faces v_cubeOf v_faceOf v_lookOf := h
      unfold wb_X4_numberFaces_17 at h
      refine lv_iload_n hx hb dX4_numberFaces_17 rfl (lv_at hl 2 rfl) ?_
      refine lv_bipush (v := 6) hx hb dX4_numberFaces_18 (by decide) ?_
      refine lv_icmp_ge (tgt := 83) hx hb dX4_numberFaces_20 (by decide) (fun hc => ?_) (fun hc => ?_)
      · replace h := h.1 hc
        exact hkx83 v_faces v_cubeOf v_faceOf v_lookOf _ _ _ h hP hD hS (lv_sub hl [0, 1] rfl)
      · replace h := h.2 hc
        refine lv_aload_n hx hb dX4_numberFaces_23 rfl (lv_at hl 0 rfl) ?_
        refine lv_iload_n hx hb dX4_numberFaces_24 rfl (lv_at hl 1 rfl) ?_
        refine lv_iload_n hx hb dX4_numberFaces_25 rfl (lv_at hl 2 rfl) ?_
        have hPc := hP.sub (ws' := (wd_X4_cubeFrom cI cZ cJ a_this a_x a_y a_z a_cubeOf a_lookOf a_faceOf a_beyondEdge a_onwardEdge v_cubes v_faces v_x v_y v_z)) [0, 4, 5, 6] rfl
        have hDc := hD.sub (ws' := (wd_X4_cubeFrom cI cZ cJ a_this a_x a_y a_z a_cubeOf a_lookOf a_faceOf a_beyondEdge a_onwardEdge v_cubes v_faces v_x v_y v_z)) [0, 4, 5, 6] (by decide) rfl
        have hFc := va_free (wc := (wd_X4_cubeFrom cI cZ cJ a_this a_x a_y a_z a_cubeOf a_lookOf a_faceOf a_beyondEdge a_onwardEdge v_cubes v_faces v_x v_y v_z)) hD hS hA [0, 4, 5, 6] rfl
        refine va_calli (va_runV (As := [.int l1, .int l2]) (rest := []) C (c_X4_cubeFrom l D cI cZ cJ tb a_this a_x a_y a_z a_cubeOf a_lookOf a_faceOf a_beyondEdge a_onwardEdge v_cubes v_faces v_x v_y v_z H.size l1 l2 h) (cwV 2 hts gX4_numberFaces_X4_cubeFrom rfl rfl rfl (by decide +kernel) ⟨Nat.le_of_ble_eq_true rfl, Nat.le_of_ble_eq_true rfl⟩) ⟨q_pre.blind, va_recv hK hP (ci := 4) (q0 := 0) rfl rfl, fun U hU hW => ⟨rfl, q_pre.of hU hW hPc hK hDc hSt hS hFc hNw⟩⟩ rfl rfl hl.1 rfl (lv_room (Nat.le_of_ble_eq_true rfl)) dX4_numberFaces_26 ⟨Nat.zero_le _, Nat.zero_le _⟩) hS (fun q _ h => hFc q h) hFc (fun r_1 u_2 t H1 locs ht hvm hw hB hz1 hk1 hS => ?_)
        obtain ⟨hP1, hK1, hD1⟩ := hB
        rw [ht] at hP1
        obtain ⟨hP, hD⟩ := va_join (wr := [(a_cubeOf, .inl (cI, 22, .inl v_cubeOf)), (a_faceOf, .inl (cI, 30, .inl v_faceOf)), (a_lookOf, .inl (cI, 22, .inl v_lookOf))]) (w1 := (wd_X4_cubeFrom cI cZ cJ a_this a_x a_y a_z a_cubeOf a_lookOf a_faceOf a_beyondEdge a_onwardEdge v_cubes v_faces v_x v_y v_z)) hP hD [0, 4, 5, 6] [1, 2, 3] rfl rfl (by decide) (by decide) hk1 hFc hP1 hD1
        clear hPc hDc hFc hP1 hD1 hK1 hk1 hz1 ht hvm
        replace h := hw
        clear hw
        generalize H1 = H at hP hS ⊢
        replace hP : va_P D vwCl (wd_X4_numberFaces cI cZ cJ a_this a_cubeOf a_faceOf a_lookOf a_x a_y a_z a_beyondEdge a_onwardEdge v_cubes v_faces v_cubeOf v_faceOf v_lookOf v_x v_y v_z) H := hP.sub [3, 0, 1, 2, 4, 5, 6] rfl
        replace hD : va_D A (wd_X4_numberFaces cI cZ cJ a_this a_cubeOf a_faceOf a_lookOf a_x a_y a_z a_beyondEdge a_onwardEdge v_cubes v_faces v_cubeOf v_faceOf v_lookOf v_x v_y v_z) := hD.sub [3, 0, 1, 2, 4, 5, 6] (by decide) rfl
        refine lv_if_ge (tgt := 77) hx hb dX4_numberFaces_29 (by decide) (fun hc => ?_) (fun hc => ?_)
        · replace h := h.1 hc
          refine lv_iinc (v := (l2 + (1 : Int32))) (lv' := [(2, .int (l2 + (1 : Int32))), (0, .ref a_this), (1, .int l1)]) hx hb dX4_numberFaces_77 hl (k := 2) rfl rfl (by decide) rfl (fun ls hl => ?_)
          refine lv_goto (tgt := 17) hx hb dX4_numberFaces_80 (by decide) ?_
          exact ih (l2 + (1 : Int32)) v_faces v_cubeOf v_faceOf v_lookOf _ _ _ h hP hD hS (lv_sub hl [1, 2, 0] rfl)
        · replace h := h.2 hc
          refine lv_aload_n hx hb dX4_numberFaces_32 rfl (lv_at hl 0 rfl) ?_
          refine va_get (D := D) (ci := 4) (v := .ref a_faceOf) (C := RX4) (T := TX4) (N := 10) hx hb hts iX4 hown hK hP 0 rfl rfl 7 (by decide) f27 (fun _ h9 => h9) rfl dX4_numberFaces_33 ?_
          refine lv_iload_n hx hb dX4_numberFaces_36 rfl (lv_at hl 1 rfl) ?_
          refine lv_bipush (v := 6) hx hb dX4_numberFaces_37 (by decide) ?_
          refine lv_imul hx hb dX4_numberFaces_39 ?_
          refine lv_iload_n hx hb dX4_numberFaces_40 rfl (lv_at hl 2 rfl) ?_
          refine lv_iadd hx hb dX4_numberFaces_41 ?_
          refine lv_aload_n hx hb dX4_numberFaces_42 rfl (lv_at hl 0 rfl) ?_
          refine va_get (D := D) (ci := 4) (v := .int v_faces) (C := RX4) (T := TX4) (N := 10) hx hb hts iX4 hown hK hP 0 rfl rfl 1 (by decide) f59 (fun _ h9 => h9) rfl dX4_numberFaces_43 ?_
          obtain ⟨hin, h⟩ := h
          refine va_iast hx hb hK hP hD hS 2 0 rfl rfl hin dX4_numberFaces_46 (fun H locs hP hD hS => ?_)
          replace hP : va_P D vwCl (wd_X4_numberFaces cI cZ cJ a_this a_cubeOf a_faceOf a_lookOf a_x a_y a_z a_beyondEdge a_onwardEdge v_cubes v_faces v_cubeOf (upd v_faceOf ((l1 * (6 : Int32)) + l2).toNatClampNeg v_faces) v_lookOf v_x v_y v_z) H := hP
          replace hD : va_D A (wd_X4_numberFaces cI cZ cJ a_this a_cubeOf a_faceOf a_lookOf a_x a_y a_z a_beyondEdge a_onwardEdge v_cubes v_faces v_cubeOf (upd v_faceOf ((l1 * (6 : Int32)) + l2).toNatClampNeg v_faces) v_lookOf v_x v_y v_z) := hD
          refine lv_aload_n hx hb dX4_numberFaces_47 rfl (lv_at hl 0 rfl) ?_
          refine va_get (D := D) (ci := 4) (v := .ref a_cubeOf) (C := RX4) (T := TX4) (N := 10) hx hb hts iX4 hown hK hP 0 rfl rfl 2 (by decide) f9 (fun _ h9 => h9) rfl dX4_numberFaces_48 ?_
          refine lv_aload_n hx hb dX4_numberFaces_51 rfl (lv_at hl 0 rfl) ?_
          refine va_get (D := D) (ci := 4) (v := .int v_faces) (C := RX4) (T := TX4) (N := 10) hx hb hts iX4 hown hK hP 0 rfl rfl 1 (by decide) f59 (fun _ h9 => h9) rfl dX4_numberFaces_52 ?_
          refine lv_iload_n hx hb dX4_numberFaces_55 rfl (lv_at hl 1 rfl) ?_
          obtain ⟨hin, h⟩ := h
          refine va_iast hx hb hK hP hD hS 1 0 rfl rfl hin dX4_numberFaces_56 (fun H locs hP hD hS => ?_)
          replace hP : va_P D vwCl (wd_X4_numberFaces cI cZ cJ a_this a_cubeOf a_faceOf a_lookOf a_x a_y a_z a_beyondEdge a_onwardEdge v_cubes v_faces (upd v_cubeOf v_faces.toNatClampNeg l1) (upd v_faceOf ((l1 * (6 : Int32)) + l2).toNatClampNeg v_faces) v_lookOf v_x v_y v_z) H := hP
          replace hD : va_D A (wd_X4_numberFaces cI cZ cJ a_this a_cubeOf a_faceOf a_lookOf a_x a_y a_z a_beyondEdge a_onwardEdge v_cubes v_faces (upd v_cubeOf v_faces.toNatClampNeg l1) (upd v_faceOf ((l1 * (6 : Int32)) + l2).toNatClampNeg v_faces) v_lookOf v_x v_y v_z) := hD
          refine lv_aload_n hx hb dX4_numberFaces_57 rfl (lv_at hl 0 rfl) ?_
          refine va_get (D := D) (ci := 4) (v := .ref a_lookOf) (C := RX4) (T := TX4) (N := 10) hx hb hts iX4 hown hK hP 0 rfl rfl 3 (by decide) f15 (fun _ h9 => h9) rfl dX4_numberFaces_58 ?_
          refine lv_aload_n hx hb dX4_numberFaces_61 rfl (lv_at hl 0 rfl) ?_
          refine va_get (D := D) (ci := 4) (v := .int v_faces) (C := RX4) (T := TX4) (N := 10) hx hb hts iX4 hown hK hP 0 rfl rfl 1 (by decide) f59 (fun _ h9 => h9) rfl dX4_numberFaces_62 ?_
          refine lv_iload_n hx hb dX4_numberFaces_65 rfl (lv_at hl 2 rfl) ?_
          obtain ⟨hin, h⟩ := h
          refine va_iast hx hb hK hP hD hS 3 0 rfl rfl hin dX4_numberFaces_66 (fun H locs hP hD hS => ?_)
          replace hP : va_P D vwCl (wd_X4_numberFaces cI cZ cJ a_this a_cubeOf a_faceOf a_lookOf a_x a_y a_z a_beyondEdge a_onwardEdge v_cubes v_faces (upd v_cubeOf v_faces.toNatClampNeg l1) (upd v_faceOf ((l1 * (6 : Int32)) + l2).toNatClampNeg v_faces) (upd v_lookOf v_faces.toNatClampNeg l2) v_x v_y v_z) H := hP
          replace hD : va_D A (wd_X4_numberFaces cI cZ cJ a_this a_cubeOf a_faceOf a_lookOf a_x a_y a_z a_beyondEdge a_onwardEdge v_cubes v_faces (upd v_cubeOf v_faces.toNatClampNeg l1) (upd v_faceOf ((l1 * (6 : Int32)) + l2).toNatClampNeg v_faces) (upd v_lookOf v_faces.toNatClampNeg l2) v_x v_y v_z) := hD
          refine lv_aload_n hx hb dX4_numberFaces_67 rfl (lv_at hl 0 rfl) ?_
          refine lv_dup hx hb dX4_numberFaces_68 rfl ?_
          refine va_get (D := D) (ci := 4) (v := .int v_faces) (C := RX4) (T := TX4) (N := 10) hx hb hts iX4 hown hK hP 0 rfl rfl 1 (by decide) f59 (fun _ h9 => h9) rfl dX4_numberFaces_69 ?_
          refine lv_iconst (v := 1) hx hb dX4_numberFaces_72 (by decide) ?_
          refine lv_iadd hx hb dX4_numberFaces_73 ?_
          refine va_put (D := D) (ci := 4) (v := .int (v_faces + (1 : Int32))) (ty := .int) (C := RX4) (T := TX4) (N := 10) hx hb hts iX4 tyX4 tyX4_ok nmX4 hown hK hP hD hS 0 rfl rfl 1 (by decide) f59 (fun _ h9 => h9) rfl (by decide +kernel) rfl rfl (Nat.le_of_ble_eq_true rfl) dX4_numberFaces_74 (fun H locs hP hD hS => ?_)
          replace hP : va_P D vwCl (wd_X4_numberFaces cI cZ cJ a_this a_cubeOf a_faceOf a_lookOf a_x a_y a_z a_beyondEdge a_onwardEdge v_cubes (v_faces + (1 : Int32)) (upd v_cubeOf v_faces.toNatClampNeg l1) (upd v_faceOf ((l1 * (6 : Int32)) + l2).toNatClampNeg v_faces) (upd v_lookOf v_faces.toNatClampNeg l2) v_x v_y v_z) H := hP
          replace hD : va_D A (wd_X4_numberFaces cI cZ cJ a_this a_cubeOf a_faceOf a_lookOf a_x a_y a_z a_beyondEdge a_onwardEdge v_cubes (v_faces + (1 : Int32)) (upd v_cubeOf v_faces.toNatClampNeg l1) (upd v_faceOf ((l1 * (6 : Int32)) + l2).toNatClampNeg v_faces) (upd v_lookOf v_faces.toNatClampNeg l2) v_x v_y v_z) := hD
          refine lv_iinc (v := (l2 + (1 : Int32))) (lv' := [(2, .int (l2 + (1 : Int32))), (0, .ref a_this), (1, .int l1)]) hx hb dX4_numberFaces_77 hl (k := 2) rfl rfl (by decide) rfl (fun ls hl => ?_)
          refine lv_goto (tgt := 17) hx hb dX4_numberFaces_80 (by decide) ?_
          exact ih (l2 + (1 : Int32)) (v_faces + (1 : Int32)) (upd v_cubeOf v_faces.toNatClampNeg l1) (upd v_faceOf ((l1 * (6 : Int32)) + l2).toNatClampNeg v_faces) (upd v_lookOf v_faces.toNatClampNeg l2) _ _ _ h hP hD hS (lv_sub hl [1, 2, 0] rfl)
  have L7_ok : ∀  (kx89 : Int32 → (Nat → Int32) → (Nat → Int32) → (Nat → Int32) → Prop) (hkx89 : ∀ (v_faces : Int32) (v_cubeOf : Nat → Int32) (v_faceOf : Nat → Int32) (v_lookOf : Nat → Int32) (H : Heap) (locs : List Loc) (ls : Array Slot), kx89 v_faces v_cubeOf v_faceOf v_lookOf → va_P D vwCl (wd_X4_numberFaces cI cZ cJ a_this a_cubeOf a_faceOf a_lookOf a_x a_y a_z a_beyondEdge a_onwardEdge v_cubes v_faces v_cubeOf v_faceOf v_lookOf v_x v_y v_z) H → va_D A (wd_X4_numberFaces cI cZ cJ a_this a_cubeOf a_faceOf a_lookOf a_x a_y a_z a_beyondEdge a_onwardEdge v_cubes v_faces v_cubeOf v_faceOf v_lookOf v_x v_y v_z) → va_S A s.heap H locs → lv_has ls 3 [] → W p l e rm_X4_numberFaces s m ([.ref a_this] : List Value).toArray below meth c H locs 0 0 Q (F0 m 89 ls [])) (n : Nat) (l1 : Int32) (v_faces : Int32) (v_cubeOf : Nat → Int32) (v_faceOf : Nat → Int32) (v_lookOf : Nat → Int32) (H : Heap) (locs : List Loc) (ls : Array Slot), lpN (wl_X4_numberFaces_7 v_cubes v_x v_y v_z kx89) n (l1, v_faces, v_cubeOf, v_faceOf, v_lookOf) → va_P D vwCl (wd_X4_numberFaces cI cZ cJ a_this a_cubeOf a_faceOf a_lookOf a_x a_y a_z a_beyondEdge a_onwardEdge v_cubes v_faces v_cubeOf v_faceOf v_lookOf v_x v_y v_z) H → va_D A (wd_X4_numberFaces cI cZ cJ a_this a_cubeOf a_faceOf a_lookOf a_x a_y a_z a_beyondEdge a_onwardEdge v_cubes v_faces v_cubeOf v_faceOf v_lookOf v_x v_y v_z) → va_S A s.heap H locs → lv_has ls 3 [(0, .ref a_this), (1, .int l1)] → W p l e rm_X4_numberFaces s m ([.ref a_this] : List Value).toArray below meth c H locs 0 0 Q (F0 m 7 ls []) := by
    intro  kx89 hkx89 n
    induction n with
    | zero => intro l1 v_faces v_cubeOf v_faceOf v_lookOf H locs ls h; exact False.elim h
    | succ n ih =>
      intro l1 v_faces v_cubeOf v_faceOf v_lookOf H locs ls h hP hD hS hl
      have h : wb_X4_numberFaces_7 v_cubes v_x v_y v_z kx89 (fun l1 v_faces v_cubeOf v_faceOf v_lookOf => lpN (wl_X4_numberFaces_7 v_cubes v_x v_y v_z kx89) n (l1, v_faces, v_cubeOf, v_faceOf, v_lookOf)) l1 v_faces v_cubeOf v_faceOf v_lookOf := h
      unfold wb_X4_numberFaces_7 at h
      refine lv_iload_n hx hb dX4_numberFaces_7 rfl (lv_at hl 1 rfl) ?_
      refine lv_aload_n hx hb dX4_numberFaces_8 rfl (lv_at hl 0 rfl) ?_
      refine va_get (D := D) (ci := 4) (v := .int v_cubes) (C := RX4) (T := TX4) (N := 10) hx hb hts iX4 hown hK hP 0 rfl rfl 0 (by decide) f36 (fun _ h9 => h9) rfl dX4_numberFaces_9 ?_
      refine lv_icmp_ge (tgt := 89) hx hb dX4_numberFaces_12 (by decide) (fun hc => ?_) (fun hc => ?_)
      · replace h := h.1 hc
        exact hkx89 v_faces v_cubeOf v_faceOf v_lookOf _ _ _ h hP hD hS (lv_sub hl [] rfl)
      · replace h := h.2 hc
        refine lv_iconst (v := 0) hx hb dX4_numberFaces_15 (by decide) ?_
        refine lv_istore_n (lv' := [(2, .int (0 : Int32)), (0, .ref a_this), (1, .int l1)]) hx hb dX4_numberFaces_16 rfl hl (by decide) rfl (fun ls hl => ?_)
        obtain ⟨n, h⟩ := h
        refine L17_ok l1 _ (fun v_faces_3 v_cubeOf_4 v_faceOf_5 v_lookOf_6 H locs ls h hP hD hS hl => ?_) n (0 : Int32) v_faces v_cubeOf v_faceOf v_lookOf _ _ _ h hP hD hS (lv_sub hl [1, 2, 0] rfl)
        refine lv_iinc (v := (l1 + (1 : Int32))) (lv' := [(1, .int (l1 + (1 : Int32))), (0, .ref a_this)]) hx hb dX4_numberFaces_83 hl (k := 1) rfl rfl (by decide) rfl (fun ls hl => ?_)
        refine lv_goto (tgt := 7) hx hb dX4_numberFaces_86 (by decide) ?_
        exact ih (l1 + (1 : Int32)) v_faces_3 v_cubeOf_4 v_faceOf_5 v_lookOf_6 _ _ _ h hP hD hS (lv_sub hl [1, 0] rfl)
  unfold wp_X4_numberFaces at h
  refine lv_aload_n hx hb dX4_numberFaces_0 rfl (lv_at hl 0 rfl) ?_
  refine lv_iconst (v := 0) hx hb dX4_numberFaces_1 (by decide) ?_
  refine va_put (D := D) (ci := 4) (v := .int (0 : Int32)) (ty := .int) (C := RX4) (T := TX4) (N := 10) hx hb hts iX4 tyX4 tyX4_ok nmX4 hown hK hP hD hS 0 rfl rfl 1 (by decide) f59 (fun _ h9 => h9) rfl (by decide +kernel) rfl rfl (Nat.le_of_ble_eq_true rfl) dX4_numberFaces_2 (fun H locs hP hD hS => ?_)
  replace hP : va_P D vwCl (wd_X4_numberFaces cI cZ cJ a_this a_cubeOf a_faceOf a_lookOf a_x a_y a_z a_beyondEdge a_onwardEdge v_cubes (0 : Int32) v_cubeOf v_faceOf v_lookOf v_x v_y v_z) H := hP
  replace hD : va_D A (wd_X4_numberFaces cI cZ cJ a_this a_cubeOf a_faceOf a_lookOf a_x a_y a_z a_beyondEdge a_onwardEdge v_cubes (0 : Int32) v_cubeOf v_faceOf v_lookOf v_x v_y v_z) := hD
  refine lv_iconst (v := 0) hx hb dX4_numberFaces_5 (by decide) ?_
  refine lv_istore_n (lv' := [(1, .int (0 : Int32)), (0, .ref a_this)]) hx hb dX4_numberFaces_6 rfl hl (by decide) rfl (fun ls hl => ?_)
  obtain ⟨n, h⟩ := h
  refine L7_ok  _ (fun v_faces_7 v_cubeOf_8 v_faceOf_9 v_lookOf_10 H locs ls h hP hD hS hl => ?_) n (0 : Int32) (0 : Int32) v_cubeOf v_faceOf v_lookOf _ _ _ h hP hD hS (lv_sub hl [1, 0] rfl)
  exact ret (v_faces_7, v_cubeOf_8, v_faceOf_9, v_lookOf_10) _ _ _ 89 dX4_numberFaces_89 h hP hD hS
def wd_X7_sameAxis (cI cZ cJ : ClassId) : va_W := []
abbrev rm_X7_sameAxis : Room := { frames := 0, cells := 0, slots := 0, locals := 0 }
set_option maxHeartbeats 4000000 in
set_option maxRecDepth 100000 in
theorem c_X7_sameAxis (l : Launch) (D : va_G) (cI cZ cJ : ClassId) (tb : Nat → Nat) (sz : Nat) (p0 : Int32) (p1 : Int32) {post : Int32 → Prop} (h : wp_X7_sameAxis p0 p1 post) : Met l yX7_sameAxis wsX7_sameAxis rm_X7_sameAxis (va_Pc [.int p0, .int p1] (q_pre D cI cZ cJ tb (wd_X7_sameAxis cI cZ cJ) sz)) (va_Qi (fun r (u : Unit) => post r) (fun u => q_post D cI cZ cJ (va_A (wd_X7_sameAxis cI cZ cJ) sz) (wd_X7_sameAxis cI cZ cJ)) (va_A (wd_X7_sameAxis cI cZ cJ) sz)) 0 0 (va_A (wd_X7_sameAxis cI cZ cJ) sz) := by
  refine q_walkz (cc := cX7_sameAxis) (maxL := 2) (own := RX7) (wd := fun (u : Unit) => (wd_X7_sameAxis cI cZ cJ)) (by decide) rfl rfl (Nat.le_of_ble_eq_true rfl) ?_
  intro p e s m below meth c Q A ls C hA ret hP hD hS hK hSt hNw hl
  obtain ⟨hx, hb, hml, hown, hts⟩ := id C
  replace hl : lv_has ls 2 [(0, .int p0), (1, .int p1)] := hl
  unfold wp_X7_sameAxis at h
  refine lv_iload_n hx hb dX7_sameAxis_0 rfl (lv_at hl 0 rfl) ?_
  refine lv_iconst (v := 1) hx hb dX7_sameAxis_1 (by decide) ?_
  refine lv_ishr hx hb dX7_sameAxis_2 ?_
  refine lv_iload_n hx hb dX7_sameAxis_3 rfl (lv_at hl 1 rfl) ?_
  refine lv_iconst (v := 1) hx hb dX7_sameAxis_4 (by decide) ?_
  refine lv_ishr hx hb dX7_sameAxis_5 ?_
  refine lv_icmp_ne (tgt := 13) hx hb dX7_sameAxis_6 (by decide) (fun hc => ?_) (fun hc => ?_)
  · replace h := h.1 hc
    refine lv_iconst (v := 0) hx hb dX7_sameAxis_13 (by decide) ?_
    exact ret (0 : Int32) () _ _ _ 14 dX7_sameAxis_14 ⟨by decide, h⟩ hP hD hS
  · replace h := h.2 hc
    refine lv_iconst (v := 1) hx hb dX7_sameAxis_9 (by decide) ?_
    refine lv_goto (tgt := 14) hx hb dX7_sameAxis_10 (by decide) ?_
    exact ret (1 : Int32) () _ _ _ 14 dX7_sameAxis_14 ⟨by decide, h⟩ hP hD hS
def wd_X4_setEdge (cI cZ cJ : ClassId) (a_this a_beyondEdge a_onwardEdge a_cubeOf a_lookOf a_x a_y a_z a_faceOf : Nat) (v_cubes : Int32) (v_faces : Int32) (v_beyondEdge : Nat → Int32) (v_onwardEdge : Nat → Int32) : va_W := [(a_this, .inr (4, [.int v_cubes, .int v_faces, .ref a_cubeOf, .ref a_lookOf, .ref a_x, .ref a_y, .ref a_z, .ref a_faceOf, .ref a_beyondEdge, .ref a_onwardEdge])),
  (a_beyondEdge, .inl (cI, 132, .inl v_beyondEdge)),
  (a_onwardEdge, .inl (cI, 132, .inl v_onwardEdge))]
abbrev rm_X4_setEdge : Room := { frames := 0, cells := 0, slots := 0, locals := 0 }
set_option maxHeartbeats 4000000 in
set_option maxRecDepth 100000 in
theorem c_X4_setEdge (l : Launch) (D : va_G) (cI cZ cJ : ClassId) (tb : Nat → Nat) (a_this a_beyondEdge a_onwardEdge a_cubeOf a_lookOf a_x a_y a_z a_faceOf : Nat) (v_cubes : Int32) (v_faces : Int32) (v_beyondEdge : Nat → Int32) (v_onwardEdge : Nat → Int32) (sz : Nat) (p1 : Int32) (p2 : Int32) (p3 : Int32) (p4 : Int32) {post : (Nat → Int32) → (Nat → Int32) → Prop} (h : wp_X4_setEdge v_beyondEdge v_onwardEdge p1 p2 p3 p4 post) : Met l yX4_setEdge wsX4_setEdge rm_X4_setEdge (va_Pc [.ref a_this, .int p1, .int p2, .int p3, .int p4] (q_pre D cI cZ cJ tb (wd_X4_setEdge cI cZ cJ a_this a_beyondEdge a_onwardEdge a_cubeOf a_lookOf a_x a_y a_z a_faceOf v_cubes v_faces v_beyondEdge v_onwardEdge) sz)) (va_Qv (fun (u : (Nat → Int32) × (Nat → Int32)) => post u.1 u.2) (fun u => q_post D cI cZ cJ (va_A (wd_X4_setEdge cI cZ cJ a_this a_beyondEdge a_onwardEdge a_cubeOf a_lookOf a_x a_y a_z a_faceOf v_cubes v_faces v_beyondEdge v_onwardEdge) sz) (wd_X4_setEdge cI cZ cJ a_this a_beyondEdge a_onwardEdge a_cubeOf a_lookOf a_x a_y a_z a_faceOf v_cubes v_faces u.1 u.2)) (va_A (wd_X4_setEdge cI cZ cJ a_this a_beyondEdge a_onwardEdge a_cubeOf a_lookOf a_x a_y a_z a_faceOf v_cubes v_faces v_beyondEdge v_onwardEdge) sz)) 0 0 (va_A (wd_X4_setEdge cI cZ cJ a_this a_beyondEdge a_onwardEdge a_cubeOf a_lookOf a_x a_y a_z a_faceOf v_cubes v_faces v_beyondEdge v_onwardEdge) sz) := by
  refine q_walkv (cc := cX4_setEdge) (maxL := 5) (own := RX4) (wd := fun (u : (Nat → Int32) × (Nat → Int32)) => (wd_X4_setEdge cI cZ cJ a_this a_beyondEdge a_onwardEdge a_cubeOf a_lookOf a_x a_y a_z a_faceOf v_cubes v_faces u.1 u.2)) (by decide) rfl rfl (Nat.le_of_ble_eq_true rfl) ?_
  intro p e s m below meth c Q A ls C hA ret hP hD hS hK hSt hNw hl
  obtain ⟨hx, hb, hml, hown, hts⟩ := id C
  replace hl : lv_has ls 5 [(0, .ref a_this), (1, .int p1), (2, .int p2), (3, .int p3), (4, .int p4)] := hl
  have f30 := hts (.fieldLink RX4 30 "NetSearch$Solid" "beyondEdge" "[I") (by decide +kernel)
  have iX4 : ∀ w ∈ wsX40, w ∈ wsX4_setEdge := by decide +kernel
  have f33 := hts (.fieldLink RX4 33 "NetSearch$Solid" "onwardEdge" "[I") (by decide +kernel)
  unfold wp_X4_setEdge at h
  refine lv_aload_n hx hb dX4_setEdge_0 rfl (lv_at hl 0 rfl) ?_
  refine va_get (D := D) (ci := 4) (v := .ref a_beyondEdge) (C := RX4) (T := TX4) (N := 10) hx hb hts iX4 hown hK hP 0 rfl rfl 8 (by decide) f30 (fun _ h9 => h9) rfl dX4_setEdge_1 ?_
  refine lv_iload_n hx hb dX4_setEdge_4 rfl (lv_at hl 1 rfl) ?_
  refine lv_bipush (v := 6) hx hb dX4_setEdge_5 (by decide) ?_
  refine lv_imul hx hb dX4_setEdge_7 ?_
  refine lv_iload_n hx hb dX4_setEdge_8 rfl (lv_at hl 2 rfl) ?_
  refine lv_iadd hx hb dX4_setEdge_9 ?_
  refine lv_iload_n hx hb dX4_setEdge_10 rfl (lv_at hl 3 rfl) ?_
  obtain ⟨hin, h⟩ := h
  refine va_iast hx hb hK hP hD hS 1 0 rfl rfl hin dX4_setEdge_11 (fun H locs hP hD hS => ?_)
  replace hP : va_P D vwCl (wd_X4_setEdge cI cZ cJ a_this a_beyondEdge a_onwardEdge a_cubeOf a_lookOf a_x a_y a_z a_faceOf v_cubes v_faces (upd v_beyondEdge ((p1 * (6 : Int32)) + p2).toNatClampNeg p3) v_onwardEdge) H := hP
  replace hD : va_D A (wd_X4_setEdge cI cZ cJ a_this a_beyondEdge a_onwardEdge a_cubeOf a_lookOf a_x a_y a_z a_faceOf v_cubes v_faces (upd v_beyondEdge ((p1 * (6 : Int32)) + p2).toNatClampNeg p3) v_onwardEdge) := hD
  refine lv_aload_n hx hb dX4_setEdge_12 rfl (lv_at hl 0 rfl) ?_
  refine va_get (D := D) (ci := 4) (v := .ref a_onwardEdge) (C := RX4) (T := TX4) (N := 10) hx hb hts iX4 hown hK hP 0 rfl rfl 9 (by decide) f33 (fun _ h9 => h9) rfl dX4_setEdge_13 ?_
  refine lv_iload_n hx hb dX4_setEdge_16 rfl (lv_at hl 1 rfl) ?_
  refine lv_bipush (v := 6) hx hb dX4_setEdge_17 (by decide) ?_
  refine lv_imul hx hb dX4_setEdge_19 ?_
  refine lv_iload_n hx hb dX4_setEdge_20 rfl (lv_at hl 2 rfl) ?_
  refine lv_iadd hx hb dX4_setEdge_21 ?_
  refine lv_iload hx hb dX4_setEdge_22 (lv_at hl 4 rfl) ?_
  obtain ⟨hin, h⟩ := h
  refine va_iast hx hb hK hP hD hS 2 0 rfl rfl hin dX4_setEdge_24 (fun H locs hP hD hS => ?_)
  replace hP : va_P D vwCl (wd_X4_setEdge cI cZ cJ a_this a_beyondEdge a_onwardEdge a_cubeOf a_lookOf a_x a_y a_z a_faceOf v_cubes v_faces (upd v_beyondEdge ((p1 * (6 : Int32)) + p2).toNatClampNeg p3) (upd v_onwardEdge ((p1 * (6 : Int32)) + p2).toNatClampNeg p4)) H := hP
  replace hD : va_D A (wd_X4_setEdge cI cZ cJ a_this a_beyondEdge a_onwardEdge a_cubeOf a_lookOf a_x a_y a_z a_faceOf v_cubes v_faces (upd v_beyondEdge ((p1 * (6 : Int32)) + p2).toNatClampNeg p3) (upd v_onwardEdge ((p1 * (6 : Int32)) + p2).toNatClampNeg p4)) := hD
  exact ret ((upd v_beyondEdge ((p1 * (6 : Int32)) + p2).toNatClampNeg p3), (upd v_onwardEdge ((p1 * (6 : Int32)) + p2).toNatClampNeg p4)) _ _ _ 25 dX4_setEdge_25 h hP hD hS
def wd_X4_joinAcross (cI cZ cJ : ClassId) (a_this a_beyondEdge a_cubeOf a_faceOf a_lookOf a_onwardEdge a_x a_y a_z : Nat) (v_cubes : Int32) (v_faces : Int32) (v_beyondEdge : Nat → Int32) (v_cubeOf : Nat → Int32) (v_faceOf : Nat → Int32) (v_lookOf : Nat → Int32) (v_onwardEdge : Nat → Int32) (v_x : Nat → Int32) (v_y : Nat → Int32) (v_z : Nat → Int32) : va_W := [(a_this, .inr (4, [.int v_cubes, .int v_faces, .ref a_cubeOf, .ref a_lookOf, .ref a_x, .ref a_y, .ref a_z, .ref a_faceOf, .ref a_beyondEdge, .ref a_onwardEdge])),
  (a_beyondEdge, .inl (cI, 132, .inl v_beyondEdge)),
  (a_cubeOf, .inl (cI, 22, .inl v_cubeOf)),
  (a_faceOf, .inl (cI, 30, .inl v_faceOf)),
  (a_lookOf, .inl (cI, 22, .inl v_lookOf)),
  (a_onwardEdge, .inl (cI, 132, .inl v_onwardEdge)),
  (a_x, .inl (cI, 5, .inl v_x)),
  (a_y, .inl (cI, 5, .inl v_y)),
  (a_z, .inl (cI, 5, .inl v_z))]
abbrev rm_X4_joinAcross : Room := { frames := 2, cells := 0, slots := 0, locals := 46 }
set_option maxHeartbeats 4000000 in
set_option maxRecDepth 100000 in
theorem c_X4_joinAcross (l : Launch) (D : va_G) (cI cZ cJ : ClassId) (tb : Nat → Nat) (a_this a_beyondEdge a_cubeOf a_faceOf a_lookOf a_onwardEdge a_x a_y a_z : Nat) (v_cubes : Int32) (v_faces : Int32) (v_beyondEdge : Nat → Int32) (v_cubeOf : Nat → Int32) (v_faceOf : Nat → Int32) (v_lookOf : Nat → Int32) (v_onwardEdge : Nat → Int32) (v_x : Nat → Int32) (v_y : Nat → Int32) (v_z : Nat → Int32) (sz : Nat) (p1 : Int32) (p2 : Int32) {post : (Nat → Int32) → (Nat → Int32) → Prop} (h : wp_X4_joinAcross v_cubes v_beyondEdge v_cubeOf v_faceOf v_lookOf v_onwardEdge v_x v_y v_z p1 p2 post) : Met l yX4_joinAcross wsX4_joinAcross rm_X4_joinAcross (va_Pc [.ref a_this, .int p1, .int p2] (q_pre D cI cZ cJ tb (wd_X4_joinAcross cI cZ cJ a_this a_beyondEdge a_cubeOf a_faceOf a_lookOf a_onwardEdge a_x a_y a_z v_cubes v_faces v_beyondEdge v_cubeOf v_faceOf v_lookOf v_onwardEdge v_x v_y v_z) sz)) (va_Qv (fun (u : (Nat → Int32) × (Nat → Int32)) => post u.1 u.2) (fun u => q_post D cI cZ cJ (va_A (wd_X4_joinAcross cI cZ cJ a_this a_beyondEdge a_cubeOf a_faceOf a_lookOf a_onwardEdge a_x a_y a_z v_cubes v_faces v_beyondEdge v_cubeOf v_faceOf v_lookOf v_onwardEdge v_x v_y v_z) sz) (wd_X4_joinAcross cI cZ cJ a_this a_beyondEdge a_cubeOf a_faceOf a_lookOf a_onwardEdge a_x a_y a_z v_cubes v_faces u.1 v_cubeOf v_faceOf v_lookOf u.2 v_x v_y v_z)) (va_A (wd_X4_joinAcross cI cZ cJ a_this a_beyondEdge a_cubeOf a_faceOf a_lookOf a_onwardEdge a_x a_y a_z v_cubes v_faces v_beyondEdge v_cubeOf v_faceOf v_lookOf v_onwardEdge v_x v_y v_z) sz)) 0 0 (va_A (wd_X4_joinAcross cI cZ cJ a_this a_beyondEdge a_cubeOf a_faceOf a_lookOf a_onwardEdge a_x a_y a_z v_cubes v_faces v_beyondEdge v_cubeOf v_faceOf v_lookOf v_onwardEdge v_x v_y v_z) sz) := by
  refine q_walkv (cc := cX4_joinAcross) (maxL := 7) (own := RX4) (wd := fun (u : (Nat → Int32) × (Nat → Int32)) => (wd_X4_joinAcross cI cZ cJ a_this a_beyondEdge a_cubeOf a_faceOf a_lookOf a_onwardEdge a_x a_y a_z v_cubes v_faces u.1 v_cubeOf v_faceOf v_lookOf u.2 v_x v_y v_z)) (by decide) rfl rfl (Nat.le_of_ble_eq_true rfl) ?_
  intro p e s m below meth c Q A ls C hA ret hP hD hS hK hSt hNw hl
  obtain ⟨hx, hb, hml, hown, hts⟩ := id C
  replace hl : lv_has ls 7 [(0, .ref a_this), (1, .int p1), (2, .int p2)] := hl
  have f9 := hts (.fieldLink RX4 9 "NetSearch$Solid" "cubeOf" "[I") (by decide +kernel)
  have iX4 : ∀ w ∈ wsX40, w ∈ wsX4_joinAcross := by decide +kernel
  have f15 := hts (.fieldLink RX4 15 "NetSearch$Solid" "lookOf" "[I") (by decide +kernel)
  have f18 := hts (.fieldLink RX4 18 "NetSearch$Solid" "x" "[I") (by decide +kernel)
  have hZ0 : va_Z "NetSearch" "STEP_X" "[I" (.ref (tb 0)) A s s.heap := (hSt 0 (by decide)).1
  have hT0 : va_T .int (tb 0) 6 (fun j => .int (q_STEP_X j)) A s s.heap := (hSt 0 (by decide)).2
  have g40 : (Cond.fieldLinkNest RX4 40 "NetSearch" "STEP_X" "[I" "NetSearch").before ([.ref a_this, .int p1, .int p2] : List Value).toArray s = true := va_Nw.use rfl (hNw.1 (RX4, 40, "NetSearch", "STEP_X", "[I", "NetSearch") (by decide +kernel))
  have f21 := hts (.fieldLink RX4 21 "NetSearch$Solid" "y" "[I") (by decide +kernel)
  have hZ1 : va_Z "NetSearch" "STEP_Y" "[I" (.ref (tb 1)) A s s.heap := (hSt 1 (by decide)).1
  have hT1 : va_T .int (tb 1) 6 (fun j => .int (q_STEP_Y j)) A s s.heap := (hSt 1 (by decide)).2
  have g43 : (Cond.fieldLinkNest RX4 43 "NetSearch" "STEP_Y" "[I" "NetSearch").before ([.ref a_this, .int p1, .int p2] : List Value).toArray s = true := va_Nw.use rfl (hNw.1 (RX4, 43, "NetSearch", "STEP_Y", "[I", "NetSearch") (by decide +kernel))
  have f24 := hts (.fieldLink RX4 24 "NetSearch$Solid" "z" "[I") (by decide +kernel)
  have hZ2 : va_Z "NetSearch" "STEP_Z" "[I" (.ref (tb 2)) A s s.heap := (hSt 2 (by decide)).1
  have hT2 : va_T .int (tb 2) 6 (fun j => .int (q_STEP_Z j)) A s s.heap := (hSt 2 (by decide)).2
  have g46 : (Cond.fieldLinkNest RX4 46 "NetSearch" "STEP_Z" "[I" "NetSearch").before ([.ref a_this, .int p1, .int p2] : List Value).toArray s = true := va_Nw.use rfl (hNw.1 (RX4, 46, "NetSearch", "STEP_Z", "[I", "NetSearch") (by decide +kernel))
  have f27 := hts (.fieldLink RX4 27 "NetSearch$Solid" "faceOf" "[I") (by decide +kernel)
  have n74 : va_Nw (.methodLinkNest RX4 74 yX7_opposite "NetSearch") s := hNw.2 (RX4, 74, yX7_opposite, "NetSearch") (by decide +kernel)
  have iniX7 := hts (.initialized RX7) (by decide +kernel)
  have sta_X7_opposite := hts (.static yX7_opposite) (by decide +kernel)
  unfold wp_X4_joinAcross at h
  refine lv_aload_n hx hb dX4_joinAcross_0 rfl (lv_at hl 0 rfl) ?_
  refine va_get (D := D) (ci := 4) (v := .ref a_cubeOf) (C := RX4) (T := TX4) (N := 10) hx hb hts iX4 hown hK hP 0 rfl rfl 2 (by decide) f9 (fun _ h9 => h9) rfl dX4_joinAcross_1 ?_
  refine lv_iload_n hx hb dX4_joinAcross_4 rfl (lv_at hl 1 rfl) ?_
  obtain ⟨hin, h⟩ := h
  refine va_iald hx hb hK hP 2 0 rfl rfl hin dX4_joinAcross_5 ?_
  refine lv_istore_n (lv' := [(3, .int (v_cubeOf p1.toNatClampNeg)), (0, .ref a_this), (1, .int p1), (2, .int p2)]) hx hb dX4_joinAcross_6 rfl hl (by decide) rfl (fun ls hl => ?_)
  refine lv_aload_n hx hb dX4_joinAcross_7 rfl (lv_at hl 1 rfl) ?_
  refine va_get (D := D) (ci := 4) (v := .ref a_lookOf) (C := RX4) (T := TX4) (N := 10) hx hb hts iX4 hown hK hP 0 rfl rfl 3 (by decide) f15 (fun _ h9 => h9) rfl dX4_joinAcross_8 ?_
  refine lv_iload_n hx hb dX4_joinAcross_11 rfl (lv_at hl 2 rfl) ?_
  obtain ⟨hin, h⟩ := h
  refine va_iald hx hb hK hP 4 0 rfl rfl hin dX4_joinAcross_12 ?_
  refine lv_istore (lv' := [(4, .int (v_lookOf p1.toNatClampNeg)), (3, .int (v_cubeOf p1.toNatClampNeg)), (0, .ref a_this), (1, .int p1), (2, .int p2)]) hx hb dX4_joinAcross_13 hl (by decide) rfl (fun ls hl => ?_)
  refine lv_aload_n hx hb dX4_joinAcross_15 rfl (lv_at hl 2 rfl) ?_
  refine lv_aload_n hx hb dX4_joinAcross_16 rfl (lv_at hl 2 rfl) ?_
  refine va_get (D := D) (ci := 4) (v := .ref a_x) (C := RX4) (T := TX4) (N := 10) hx hb hts iX4 hown hK hP 0 rfl rfl 4 (by decide) f18 (fun _ h9 => h9) rfl dX4_joinAcross_17 ?_
  refine lv_iload_n hx hb dX4_joinAcross_20 rfl (lv_at hl 1 rfl) ?_
  obtain ⟨hin, h⟩ := h
  refine va_iald hx hb hK hP 6 0 rfl rfl hin dX4_joinAcross_21 ?_
  refine va_getsN hx hb hZ0 hS hown g40 (fun _ h9 => h9) dX4_joinAcross_22 ?_
  refine lv_iload_n hx hb dX4_joinAcross_25 rfl (lv_at hl 4 rfl) ?_
  obtain ⟨hin, h⟩ := h
  refine va_ti (v := .int (q_STEP_X p2.toNatClampNeg)) hx hb hT0 hS hin rfl dX4_joinAcross_26 ?_
  refine lv_iadd hx hb dX4_joinAcross_27 ?_
  refine va_getsN hx hb hZ0 hS hown g40 (fun _ h9 => h9) dX4_joinAcross_28 ?_
  refine lv_iload hx hb dX4_joinAcross_31 (lv_at hl 0 rfl) ?_
  obtain ⟨hin, h⟩ := h
  refine va_ti (v := .int (q_STEP_X (v_lookOf p1.toNatClampNeg).toNatClampNeg)) hx hb hT0 hS hin rfl dX4_joinAcross_33 ?_
  refine lv_iadd hx hb dX4_joinAcross_34 ?_
  refine lv_aload_n hx hb dX4_joinAcross_35 rfl (lv_at hl 2 rfl) ?_
  refine va_get (D := D) (ci := 4) (v := .ref a_y) (C := RX4) (T := TX4) (N := 10) hx hb hts iX4 hown hK hP 0 rfl rfl 5 (by decide) f21 (fun _ h9 => h9) rfl dX4_joinAcross_36 ?_
  refine lv_iload_n hx hb dX4_joinAcross_39 rfl (lv_at hl 1 rfl) ?_
  obtain ⟨hin, h⟩ := h
  refine va_iald hx hb hK hP 7 0 rfl rfl hin dX4_joinAcross_40 ?_
  refine va_getsN hx hb hZ1 hS hown g43 (fun _ h9 => h9) dX4_joinAcross_41 ?_
  refine lv_iload_n hx hb dX4_joinAcross_44 rfl (lv_at hl 4 rfl) ?_
  obtain ⟨hin, h⟩ := h
  refine va_ti (v := .int (q_STEP_Y p2.toNatClampNeg)) hx hb hT1 hS hin rfl dX4_joinAcross_45 ?_
  refine lv_iadd hx hb dX4_joinAcross_46 ?_
  refine va_getsN hx hb hZ1 hS hown g43 (fun _ h9 => h9) dX4_joinAcross_47 ?_
  refine lv_iload hx hb dX4_joinAcross_50 (lv_at hl 0 rfl) ?_
  obtain ⟨hin, h⟩ := h
  refine va_ti (v := .int (q_STEP_Y (v_lookOf p1.toNatClampNeg).toNatClampNeg)) hx hb hT1 hS hin rfl dX4_joinAcross_52 ?_
  refine lv_iadd hx hb dX4_joinAcross_53 ?_
  refine lv_aload_n hx hb dX4_joinAcross_54 rfl (lv_at hl 2 rfl) ?_
  refine va_get (D := D) (ci := 4) (v := .ref a_z) (C := RX4) (T := TX4) (N := 10) hx hb hts iX4 hown hK hP 0 rfl rfl 6 (by decide) f24 (fun _ h9 => h9) rfl dX4_joinAcross_55 ?_
  refine lv_iload_n hx hb dX4_joinAcross_58 rfl (lv_at hl 1 rfl) ?_
  obtain ⟨hin, h⟩ := h
  refine va_iald hx hb hK hP 8 0 rfl rfl hin dX4_joinAcross_59 ?_
  refine va_getsN hx hb hZ2 hS hown g46 (fun _ h9 => h9) dX4_joinAcross_60 ?_
  refine lv_iload_n hx hb dX4_joinAcross_63 rfl (lv_at hl 4 rfl) ?_
  obtain ⟨hin, h⟩ := h
  refine va_ti (v := .int (q_STEP_Z p2.toNatClampNeg)) hx hb hT2 hS hin rfl dX4_joinAcross_64 ?_
  refine lv_iadd hx hb dX4_joinAcross_65 ?_
  refine va_getsN hx hb hZ2 hS hown g46 (fun _ h9 => h9) dX4_joinAcross_66 ?_
  refine lv_iload hx hb dX4_joinAcross_69 (lv_at hl 0 rfl) ?_
  obtain ⟨hin, h⟩ := h
  refine va_ti (v := .int (q_STEP_Z (v_lookOf p1.toNatClampNeg).toNatClampNeg)) hx hb hT2 hS hin rfl dX4_joinAcross_71 ?_
  refine lv_iadd hx hb dX4_joinAcross_72 ?_
  have hPc := hP.sub (ws' := (wd_X4_cubeAt cI cZ cJ a_this a_x a_y a_z a_cubeOf a_lookOf a_faceOf a_beyondEdge a_onwardEdge v_cubes v_faces v_x v_y v_z)) [0, 6, 7, 8] rfl
  have hDc := hD.sub (ws' := (wd_X4_cubeAt cI cZ cJ a_this a_x a_y a_z a_cubeOf a_lookOf a_faceOf a_beyondEdge a_onwardEdge v_cubes v_faces v_x v_y v_z)) [0, 6, 7, 8] (by decide) rfl
  have hFc := va_free (wc := (wd_X4_cubeAt cI cZ cJ a_this a_x a_y a_z a_cubeOf a_lookOf a_faceOf a_beyondEdge a_onwardEdge v_cubes v_faces v_x v_y v_z)) hD hS hA [0, 6, 7, 8] rfl
  refine va_calli (va_runV (As := [.int (((v_x (v_cubeOf p1.toNatClampNeg).toNatClampNeg) + (q_STEP_X p2.toNatClampNeg)) + (q_STEP_X (v_lookOf p1.toNatClampNeg).toNatClampNeg)), .int (((v_y (v_cubeOf p1.toNatClampNeg).toNatClampNeg) + (q_STEP_Y p2.toNatClampNeg)) + (q_STEP_Y (v_lookOf p1.toNatClampNeg).toNatClampNeg)), .int (((v_z (v_cubeOf p1.toNatClampNeg).toNatClampNeg) + (q_STEP_Z p2.toNatClampNeg)) + (q_STEP_Z (v_lookOf p1.toNatClampNeg).toNatClampNeg))]) (rest := []) C (c_X4_cubeAt l D cI cZ cJ tb a_this a_x a_y a_z a_cubeOf a_lookOf a_faceOf a_beyondEdge a_onwardEdge v_cubes v_faces v_x v_y v_z s.heap.size (((v_x (v_cubeOf p1.toNatClampNeg).toNatClampNeg) + (q_STEP_X p2.toNatClampNeg)) + (q_STEP_X (v_lookOf p1.toNatClampNeg).toNatClampNeg)) (((v_y (v_cubeOf p1.toNatClampNeg).toNatClampNeg) + (q_STEP_Y p2.toNatClampNeg)) + (q_STEP_Y (v_lookOf p1.toNatClampNeg).toNatClampNeg)) (((v_z (v_cubeOf p1.toNatClampNeg).toNatClampNeg) + (q_STEP_Z p2.toNatClampNeg)) + (q_STEP_Z (v_lookOf p1.toNatClampNeg).toNatClampNeg)) h) (cwV 3 hts gX4_joinAcross_X4_cubeAt rfl rfl rfl (by decide +kernel) ⟨Nat.le_of_ble_eq_true rfl, Nat.le_of_ble_eq_true rfl⟩) ⟨q_pre.blind, va_recv hK hP (ci := 4) (q0 := 0) rfl rfl, fun U hU hW => ⟨rfl, q_pre.of hU hW hPc hK hDc hSt hS hFc hNw⟩⟩ rfl rfl hl.1 rfl (lv_room (Nat.le_of_ble_eq_true rfl)) dX4_joinAcross_73 ⟨Nat.zero_le _, Nat.zero_le _⟩) hS (fun q _ h => hFc q h) hFc (fun r_1 u_2 t H1 locs ht hvm hw hB hz1 hk1 hS => ?_)
  obtain ⟨hP1, hK1, hD1⟩ := hB
  rw [ht] at hP1
  obtain ⟨hP, hD⟩ := va_join (wr := [(a_beyondEdge, .inl (cI, 132, .inl v_beyondEdge)), (a_cubeOf, .inl (cI, 22, .inl v_cubeOf)), (a_faceOf, .inl (cI, 30, .inl v_faceOf)), (a_lookOf, .inl (cI, 22, .inl v_lookOf)), (a_onwardEdge, .inl (cI, 132, .inl v_onwardEdge))]) (w1 := (wd_X4_cubeAt cI cZ cJ a_this a_x a_y a_z a_cubeOf a_lookOf a_faceOf a_beyondEdge a_onwardEdge v_cubes v_faces v_x v_y v_z)) hP hD [0, 6, 7, 8] [1, 2, 3, 4, 5] rfl rfl (by decide) (by decide) hk1 hFc hP1 hD1
  clear hPc hDc hFc hP1 hD1 hK1 hk1 hz1 ht hvm
  replace h := hw
  clear hw
  generalize H1 = H at hP hS ⊢
  replace hP : va_P D vwCl (wd_X4_joinAcross cI cZ cJ a_this a_beyondEdge a_cubeOf a_faceOf a_lookOf a_onwardEdge a_x a_y a_z v_cubes v_faces v_beyondEdge v_cubeOf v_faceOf v_lookOf v_onwardEdge v_x v_y v_z) H := hP.sub [5, 0, 1, 2, 3, 4, 6, 7, 8] rfl
  replace hD : va_D A (wd_X4_joinAcross cI cZ cJ a_this a_beyondEdge a_cubeOf a_faceOf a_lookOf a_onwardEdge a_x a_y a_z v_cubes v_faces v_beyondEdge v_cubeOf v_faceOf v_lookOf v_onwardEdge v_x v_y v_z) := hD.sub [5, 0, 1, 2, 3, 4, 6, 7, 8] (by decide) rfl
  refine lv_istore (lv' := [(5, .int r_1), (4, .int (v_lookOf p1.toNatClampNeg)), (3, .int (v_cubeOf p1.toNatClampNeg)), (0, .ref a_this), (1, .int p1), (2, .int p2)]) hx hb dX4_joinAcross_76 hl (by decide) rfl (fun ls hl => ?_)
  refine lv_aload_n hx hb dX4_joinAcross_78 rfl (lv_at hl 3 rfl) ?_
  refine lv_iload_n hx hb dX4_joinAcross_79 rfl (lv_at hl 2 rfl) ?_
  refine lv_iload_n hx hb dX4_joinAcross_80 rfl (lv_at hl 5 rfl) ?_
  have hPc := hP.sub (ws' := (wd_X4_cubeFrom cI cZ cJ a_this a_x a_y a_z a_cubeOf a_lookOf a_faceOf a_beyondEdge a_onwardEdge v_cubes v_faces v_x v_y v_z)) [0, 6, 7, 8] rfl
  have hDc := hD.sub (ws' := (wd_X4_cubeFrom cI cZ cJ a_this a_x a_y a_z a_cubeOf a_lookOf a_faceOf a_beyondEdge a_onwardEdge v_cubes v_faces v_x v_y v_z)) [0, 6, 7, 8] (by decide) rfl
  have hFc := va_free (wc := (wd_X4_cubeFrom cI cZ cJ a_this a_x a_y a_z a_cubeOf a_lookOf a_faceOf a_beyondEdge a_onwardEdge v_cubes v_faces v_x v_y v_z)) hD hS hA [0, 6, 7, 8] rfl
  refine va_calli (va_runV (As := [.int (v_cubeOf p1.toNatClampNeg), .int p2]) (rest := []) C (c_X4_cubeFrom l D cI cZ cJ tb a_this a_x a_y a_z a_cubeOf a_lookOf a_faceOf a_beyondEdge a_onwardEdge v_cubes v_faces v_x v_y v_z H.size (v_cubeOf p1.toNatClampNeg) p2 h) (cwV 2 hts gX4_joinAcross_X4_cubeFrom rfl rfl rfl (by decide +kernel) ⟨Nat.le_of_ble_eq_true rfl, Nat.le_of_ble_eq_true rfl⟩) ⟨q_pre.blind, va_recv hK hP (ci := 4) (q0 := 0) rfl rfl, fun U hU hW => ⟨rfl, q_pre.of hU hW hPc hK hDc hSt hS hFc hNw⟩⟩ rfl rfl hl.1 rfl (lv_room (Nat.le_of_ble_eq_true rfl)) dX4_joinAcross_81 ⟨Nat.zero_le _, Nat.zero_le _⟩) hS (fun q _ h => hFc q h) hFc (fun r_3 u_4 t H1 locs ht hvm hw hB hz1 hk1 hS => ?_)
  obtain ⟨hP1, hK1, hD1⟩ := hB
  rw [ht] at hP1
  obtain ⟨hP, hD⟩ := va_join (wr := [(a_beyondEdge, .inl (cI, 132, .inl v_beyondEdge)), (a_cubeOf, .inl (cI, 22, .inl v_cubeOf)), (a_faceOf, .inl (cI, 30, .inl v_faceOf)), (a_lookOf, .inl (cI, 22, .inl v_lookOf)), (a_onwardEdge, .inl (cI, 132, .inl v_onwardEdge))]) (w1 := (wd_X4_cubeFrom cI cZ cJ a_this a_x a_y a_z a_cubeOf a_lookOf a_faceOf a_beyondEdge a_onwardEdge v_cubes v_faces v_x v_y v_z)) hP hD [0, 6, 7, 8] [1, 2, 3, 4, 5] rfl rfl (by decide) (by decide) hk1 hFc hP1 hD1
  clear hPc hDc hFc hP1 hD1 hK1 hk1 hz1 ht hvm
  replace h := hw
  clear hw
  generalize H1 = H at hP hS ⊢
  replace hP : va_P D vwCl (wd_X4_joinAcross cI cZ cJ a_this a_beyondEdge a_cubeOf a_faceOf a_lookOf a_onwardEdge a_x a_y a_z v_cubes v_faces v_beyondEdge v_cubeOf v_faceOf v_lookOf v_onwardEdge v_x v_y v_z) H := hP.sub [5, 0, 1, 2, 3, 4, 6, 7, 8] rfl
  replace hD : va_D A (wd_X4_joinAcross cI cZ cJ a_this a_beyondEdge a_cubeOf a_faceOf a_lookOf a_onwardEdge a_x a_y a_z v_cubes v_faces v_beyondEdge v_cubeOf v_faceOf v_lookOf v_onwardEdge v_x v_y v_z) := hD.sub [5, 0, 1, 2, 3, 4, 6, 7, 8] (by decide) rfl
  refine lv_istore (lv' := [(6, .int r_3), (5, .int r_1), (4, .int (v_lookOf p1.toNatClampNeg)), (3, .int (v_cubeOf p1.toNatClampNeg)), (0, .ref a_this), (1, .int p1), (2, .int p2)]) hx hb dX4_joinAcross_84 hl (by decide) rfl (fun ls hl => ?_)
  refine lv_iload hx hb dX4_joinAcross_86 (lv_at hl 1 rfl) ?_
  refine lv_if_lt (tgt := 117) hx hb dX4_joinAcross_88 (by decide) (fun hc => ?_) (fun hc => ?_)
  · replace h := h.1 hc
    refine lv_iload hx hb dX4_joinAcross_117 (lv_at hl 0 rfl) ?_
    refine lv_if_lt (tgt := 145) hx hb dX4_joinAcross_119 (by decide) (fun hc => ?_) (fun hc => ?_)
    · replace h := h.1 hc
      refine lv_aload_n hx hb dX4_joinAcross_145 rfl (lv_at hl 4 rfl) ?_
      refine lv_iload_n hx hb dX4_joinAcross_146 rfl (lv_at hl 5 rfl) ?_
      refine lv_iload_n hx hb dX4_joinAcross_147 rfl (lv_at hl 6 rfl) ?_
      refine lv_aload_n hx hb dX4_joinAcross_148 rfl (lv_at hl 4 rfl) ?_
      refine va_get (D := D) (ci := 4) (v := .ref a_faceOf) (C := RX4) (T := TX4) (N := 10) hx hb hts iX4 hown hK hP 0 rfl rfl 7 (by decide) f27 (fun _ h9 => h9) rfl dX4_joinAcross_149 ?_
      refine lv_iload_n hx hb dX4_joinAcross_152 rfl (lv_at hl 3 rfl) ?_
      refine lv_bipush (v := 6) hx hb dX4_joinAcross_153 (by decide) ?_
      refine lv_imul hx hb dX4_joinAcross_155 ?_
      refine lv_iload_n hx hb dX4_joinAcross_156 rfl (lv_at hl 6 rfl) ?_
      refine lv_iadd hx hb dX4_joinAcross_157 ?_
      obtain ⟨hin, h⟩ := h
      refine va_iald hx hb hK hP 3 0 rfl rfl hin dX4_joinAcross_158 ?_
      refine lv_iload hx hb dX4_joinAcross_159 (lv_at hl 2 rfl) ?_
      have hPc := hP.sub (ws' := (wd_X7_opposite cI cZ cJ)) [] rfl
      have hDc := hD.sub (ws' := (wd_X7_opposite cI cZ cJ)) [] (by decide) rfl
      have hFc := va_free (wc := (wd_X7_opposite cI cZ cJ)) hD hS hA [] rfl
      refine va_calli (va_runSN (As := [.int (v_lookOf p1.toNatClampNeg)]) (rest := [.int (v_faceOf (((v_cubeOf p1.toNatClampNeg) * (6 : Int32)) + p2).toNatClampNeg), .int p2, .int p1, .ref a_this]) C (c_X7_opposite l D cI cZ cJ tb H.size (v_lookOf p1.toNatClampNeg) h) ⟨va_cnB 1 hts gX4_joinAcross_X7_opposite_n74 rfl rfl rfl n74 iniX7 (by decide +kernel) ⟨Nat.le_of_ble_eq_true rfl, Nat.le_of_ble_eq_true rfl⟩, sta_X7_opposite, trivial⟩ ⟨q_pre.blind, fun U hU hW => ⟨rfl, q_pre.of hU hW hPc hK hDc hSt hS hFc hNw⟩⟩ rfl rfl hl.1 rfl (lv_room (Nat.le_of_ble_eq_true rfl)) dX4_joinAcross_161 ⟨Nat.zero_le _, Nat.zero_le _⟩) hS (fun q _ h => hFc q h) hFc (fun r_5 u_6 t H1 locs ht hvm hw hB hz1 hk1 hS => ?_)
      obtain ⟨hP1, hK1, hD1⟩ := hB
      rw [ht] at hP1
      obtain ⟨hP, hD⟩ := va_join (wr := [(a_this, .inr (4, [.int v_cubes, .int v_faces, .ref a_cubeOf, .ref a_lookOf, .ref a_x, .ref a_y, .ref a_z, .ref a_faceOf, .ref a_beyondEdge, .ref a_onwardEdge])), (a_beyondEdge, .inl (cI, 132, .inl v_beyondEdge)), (a_cubeOf, .inl (cI, 22, .inl v_cubeOf)), (a_faceOf, .inl (cI, 30, .inl v_faceOf)), (a_lookOf, .inl (cI, 22, .inl v_lookOf)), (a_onwardEdge, .inl (cI, 132, .inl v_onwardEdge)), (a_x, .inl (cI, 5, .inl v_x)), (a_y, .inl (cI, 5, .inl v_y)), (a_z, .inl (cI, 5, .inl v_z))]) (w1 := (wd_X7_opposite cI cZ cJ)) hP hD [] [0, 1, 2, 3, 4, 5, 6, 7, 8] rfl rfl (by decide) (by decide) hk1 hFc hP1 hD1
      clear hPc hDc hFc hP1 hD1 hK1 hk1 hz1 ht hvm
      replace h := hw
      clear hw
      generalize H1 = H at hP hS ⊢
      replace hP : va_P D vwCl (wd_X4_joinAcross cI cZ cJ a_this a_beyondEdge a_cubeOf a_faceOf a_lookOf a_onwardEdge a_x a_y a_z v_cubes v_faces v_beyondEdge v_cubeOf v_faceOf v_lookOf v_onwardEdge v_x v_y v_z) H := hP.sub [0, 1, 2, 3, 4, 5, 6, 7, 8] rfl
      replace hD : va_D A (wd_X4_joinAcross cI cZ cJ a_this a_beyondEdge a_cubeOf a_faceOf a_lookOf a_onwardEdge a_x a_y a_z v_cubes v_faces v_beyondEdge v_cubeOf v_faceOf v_lookOf v_onwardEdge v_x v_y v_z) := hD.sub [0, 1, 2, 3, 4, 5, 6, 7, 8] (by decide) rfl
      have hPc := hP.sub (ws' := (wd_X4_setEdge cI cZ cJ a_this a_beyondEdge a_onwardEdge a_cubeOf a_lookOf a_x a_y a_z a_faceOf v_cubes v_faces v_beyondEdge v_onwardEdge)) [0, 1, 5] rfl
      have hDc := hD.sub (ws' := (wd_X4_setEdge cI cZ cJ a_this a_beyondEdge a_onwardEdge a_cubeOf a_lookOf a_x a_y a_z a_faceOf v_cubes v_faces v_beyondEdge v_onwardEdge)) [0, 1, 5] (by decide) rfl
      have hFc := va_free (wc := (wd_X4_setEdge cI cZ cJ a_this a_beyondEdge a_onwardEdge a_cubeOf a_lookOf a_x a_y a_z a_faceOf v_cubes v_faces v_beyondEdge v_onwardEdge)) hD hS hA [0, 1, 5] rfl
      refine va_callv (va_runV (As := [.int p1, .int p2, .int (v_faceOf (((v_cubeOf p1.toNatClampNeg) * (6 : Int32)) + p2).toNatClampNeg), .int r_5]) (rest := []) C (c_X4_setEdge l D cI cZ cJ tb a_this a_beyondEdge a_onwardEdge a_cubeOf a_lookOf a_x a_y a_z a_faceOf v_cubes v_faces v_beyondEdge v_onwardEdge H.size p1 p2 (v_faceOf (((v_cubeOf p1.toNatClampNeg) * (6 : Int32)) + p2).toNatClampNeg) r_5 h) (cwV 4 hts gX4_joinAcross_X4_setEdge rfl rfl rfl (by decide +kernel) ⟨Nat.le_of_ble_eq_true rfl, Nat.le_of_ble_eq_true rfl⟩) ⟨q_pre.blind, va_recv hK hP (ci := 4) (q0 := 0) rfl rfl, fun U hU hW => ⟨rfl, q_pre.of hU hW hPc hK hDc hSt hS hFc hNw⟩⟩ rfl rfl hl.1 rfl (lv_room (Nat.le_of_ble_eq_true rfl)) dX4_joinAcross_164 ⟨Nat.zero_le _, Nat.zero_le _⟩) hS (fun q _ h => hFc q h) hFc (fun u_8 t H1 locs ht hvm hw hB hz1 hk1 hS => ?_)
      obtain ⟨hP1, hK1, hD1⟩ := hB
      rw [ht] at hP1
      obtain ⟨hP, hD⟩ := va_join (wr := [(a_cubeOf, .inl (cI, 22, .inl v_cubeOf)), (a_faceOf, .inl (cI, 30, .inl v_faceOf)), (a_lookOf, .inl (cI, 22, .inl v_lookOf)), (a_x, .inl (cI, 5, .inl v_x)), (a_y, .inl (cI, 5, .inl v_y)), (a_z, .inl (cI, 5, .inl v_z))]) (w1 := (wd_X4_setEdge cI cZ cJ a_this a_beyondEdge a_onwardEdge a_cubeOf a_lookOf a_x a_y a_z a_faceOf v_cubes v_faces u_8.1 u_8.2)) hP hD [0, 1, 5] [2, 3, 4, 6, 7, 8] rfl rfl (by decide) (by decide) hk1 hFc hP1 hD1
      clear hPc hDc hFc hP1 hD1 hK1 hk1 hz1 ht hvm
      replace h := hw
      clear hw
      generalize H1 = H at hP hS ⊢
      replace hP : va_P D vwCl (wd_X4_joinAcross cI cZ cJ a_this a_beyondEdge a_cubeOf a_faceOf a_lookOf a_onwardEdge a_x a_y a_z v_cubes v_faces u_8.1 v_cubeOf v_faceOf v_lookOf u_8.2 v_x v_y v_z) H := hP.sub [6, 7, 0, 1, 2, 8, 3, 4, 5] rfl
      replace hD : va_D A (wd_X4_joinAcross cI cZ cJ a_this a_beyondEdge a_cubeOf a_faceOf a_lookOf a_onwardEdge a_x a_y a_z v_cubes v_faces u_8.1 v_cubeOf v_faceOf v_lookOf u_8.2 v_x v_y v_z) := hD.sub [6, 7, 0, 1, 2, 8, 3, 4, 5] (by decide) rfl
      exact ret (u_8.1, u_8.2) _ _ _ 167 dX4_joinAcross_167 h hP hD hS
    · replace h := h.2 hc
      refine lv_aload_n hx hb dX4_joinAcross_122 rfl (lv_at hl 4 rfl) ?_
      refine lv_iload_n hx hb dX4_joinAcross_123 rfl (lv_at hl 5 rfl) ?_
      refine lv_iload_n hx hb dX4_joinAcross_124 rfl (lv_at hl 6 rfl) ?_
      refine lv_aload_n hx hb dX4_joinAcross_125 rfl (lv_at hl 4 rfl) ?_
      refine va_get (D := D) (ci := 4) (v := .ref a_faceOf) (C := RX4) (T := TX4) (N := 10) hx hb hts iX4 hown hK hP 0 rfl rfl 7 (by decide) f27 (fun _ h9 => h9) rfl dX4_joinAcross_126 ?_
      refine lv_iload hx hb dX4_joinAcross_129 (lv_at hl 0 rfl) ?_
      refine lv_bipush (v := 6) hx hb dX4_joinAcross_131 (by decide) ?_
      refine lv_imul hx hb dX4_joinAcross_133 ?_
      refine lv_iload hx hb dX4_joinAcross_134 (lv_at hl 2 rfl) ?_
      refine lv_iadd hx hb dX4_joinAcross_136 ?_
      obtain ⟨hin, h⟩ := h
      refine va_iald hx hb hK hP 3 0 rfl rfl hin dX4_joinAcross_137 ?_
      refine lv_iload_n hx hb dX4_joinAcross_138 rfl (lv_at hl 6 rfl) ?_
      have hPc := hP.sub (ws' := (wd_X4_setEdge cI cZ cJ a_this a_beyondEdge a_onwardEdge a_cubeOf a_lookOf a_x a_y a_z a_faceOf v_cubes v_faces v_beyondEdge v_onwardEdge)) [0, 1, 5] rfl
      have hDc := hD.sub (ws' := (wd_X4_setEdge cI cZ cJ a_this a_beyondEdge a_onwardEdge a_cubeOf a_lookOf a_x a_y a_z a_faceOf v_cubes v_faces v_beyondEdge v_onwardEdge)) [0, 1, 5] (by decide) rfl
      have hFc := va_free (wc := (wd_X4_setEdge cI cZ cJ a_this a_beyondEdge a_onwardEdge a_cubeOf a_lookOf a_x a_y a_z a_faceOf v_cubes v_faces v_beyondEdge v_onwardEdge)) hD hS hA [0, 1, 5] rfl
      refine va_callv (va_runV (As := [.int p1, .int p2, .int (v_faceOf ((r_3 * (6 : Int32)) + (v_lookOf p1.toNatClampNeg)).toNatClampNeg), .int p2]) (rest := []) C (c_X4_setEdge l D cI cZ cJ tb a_this a_beyondEdge a_onwardEdge a_cubeOf a_lookOf a_x a_y a_z a_faceOf v_cubes v_faces v_beyondEdge v_onwardEdge H.size p1 p2 (v_faceOf ((r_3 * (6 : Int32)) + (v_lookOf p1.toNatClampNeg)).toNatClampNeg) p2 h) (cwV 4 hts gX4_joinAcross_X4_setEdge rfl rfl rfl (by decide +kernel) ⟨Nat.le_of_ble_eq_true rfl, Nat.le_of_ble_eq_true rfl⟩) ⟨q_pre.blind, va_recv hK hP (ci := 4) (q0 := 0) rfl rfl, fun U hU hW => ⟨rfl, q_pre.of hU hW hPc hK hDc hSt hS hFc hNw⟩⟩ rfl rfl hl.1 rfl (lv_room (Nat.le_of_ble_eq_true rfl)) dX4_joinAcross_139 ⟨Nat.zero_le _, Nat.zero_le _⟩) hS (fun q _ h => hFc q h) hFc (fun u_12 t H1 locs ht hvm hw hB hz1 hk1 hS => ?_)
      obtain ⟨hP1, hK1, hD1⟩ := hB
      rw [ht] at hP1
      obtain ⟨hP, hD⟩ := va_join (wr := [(a_cubeOf, .inl (cI, 22, .inl v_cubeOf)), (a_faceOf, .inl (cI, 30, .inl v_faceOf)), (a_lookOf, .inl (cI, 22, .inl v_lookOf)), (a_x, .inl (cI, 5, .inl v_x)), (a_y, .inl (cI, 5, .inl v_y)), (a_z, .inl (cI, 5, .inl v_z))]) (w1 := (wd_X4_setEdge cI cZ cJ a_this a_beyondEdge a_onwardEdge a_cubeOf a_lookOf a_x a_y a_z a_faceOf v_cubes v_faces u_12.1 u_12.2)) hP hD [0, 1, 5] [2, 3, 4, 6, 7, 8] rfl rfl (by decide) (by decide) hk1 hFc hP1 hD1
      clear hPc hDc hFc hP1 hD1 hK1 hk1 hz1 ht hvm
      replace h := hw
      clear hw
      generalize H1 = H at hP hS ⊢
      replace hP : va_P D vwCl (wd_X4_joinAcross cI cZ cJ a_this a_beyondEdge a_cubeOf a_faceOf a_lookOf a_onwardEdge a_x a_y a_z v_cubes v_faces u_12.1 v_cubeOf v_faceOf v_lookOf u_12.2 v_x v_y v_z) H := hP.sub [6, 7, 0, 1, 2, 8, 3, 4, 5] rfl
      replace hD : va_D A (wd_X4_joinAcross cI cZ cJ a_this a_beyondEdge a_cubeOf a_faceOf a_lookOf a_onwardEdge a_x a_y a_z v_cubes v_faces u_12.1 v_cubeOf v_faceOf v_lookOf u_12.2 v_x v_y v_z) := hD.sub [6, 7, 0, 1, 2, 8, 3, 4, 5] (by decide) rfl
      refine lv_goto (tgt := 167) hx hb dX4_joinAcross_142 (by decide) ?_
      exact ret (u_12.1, u_12.2) _ _ _ 167 dX4_joinAcross_167 h hP hD hS
  · replace h := h.2 hc
    refine lv_aload_n hx hb dX4_joinAcross_91 rfl (lv_at hl 4 rfl) ?_
    refine lv_iload_n hx hb dX4_joinAcross_92 rfl (lv_at hl 5 rfl) ?_
    refine lv_iload_n hx hb dX4_joinAcross_93 rfl (lv_at hl 6 rfl) ?_
    refine lv_aload_n hx hb dX4_joinAcross_94 rfl (lv_at hl 4 rfl) ?_
    refine va_get (D := D) (ci := 4) (v := .ref a_faceOf) (C := RX4) (T := TX4) (N := 10) hx hb hts iX4 hown hK hP 0 rfl rfl 7 (by decide) f27 (fun _ h9 => h9) rfl dX4_joinAcross_95 ?_
    refine lv_iload hx hb dX4_joinAcross_98 (lv_at hl 1 rfl) ?_
    refine lv_bipush (v := 6) hx hb dX4_joinAcross_100 (by decide) ?_
    refine lv_imul hx hb dX4_joinAcross_102 ?_
    refine lv_iload_n hx hb dX4_joinAcross_103 rfl (lv_at hl 6 rfl) ?_
    have hPc := hP.sub (ws' := (wd_X7_opposite cI cZ cJ)) [] rfl
    have hDc := hD.sub (ws' := (wd_X7_opposite cI cZ cJ)) [] (by decide) rfl
    have hFc := va_free (wc := (wd_X7_opposite cI cZ cJ)) hD hS hA [] rfl
    refine va_calli (va_runSN (As := [.int p2]) (rest := [.int (r_1 * (6 : Int32)), .ref a_faceOf, .int p2, .int p1, .ref a_this]) C (c_X7_opposite l D cI cZ cJ tb H.size p2 h) ⟨va_cnB 1 hts gX4_joinAcross_X7_opposite_n74 rfl rfl rfl n74 iniX7 (by decide +kernel) ⟨Nat.le_of_ble_eq_true rfl, Nat.le_of_ble_eq_true rfl⟩, sta_X7_opposite, trivial⟩ ⟨q_pre.blind, fun U hU hW => ⟨rfl, q_pre.of hU hW hPc hK hDc hSt hS hFc hNw⟩⟩ rfl rfl hl.1 rfl (lv_room (Nat.le_of_ble_eq_true rfl)) dX4_joinAcross_104 ⟨Nat.zero_le _, Nat.zero_le _⟩) hS (fun q _ h => hFc q h) hFc (fun r_15 u_16 t H1 locs ht hvm hw hB hz1 hk1 hS => ?_)
    obtain ⟨hP1, hK1, hD1⟩ := hB
    rw [ht] at hP1
    obtain ⟨hP, hD⟩ := va_join (wr := [(a_this, .inr (4, [.int v_cubes, .int v_faces, .ref a_cubeOf, .ref a_lookOf, .ref a_x, .ref a_y, .ref a_z, .ref a_faceOf, .ref a_beyondEdge, .ref a_onwardEdge])), (a_beyondEdge, .inl (cI, 132, .inl v_beyondEdge)), (a_cubeOf, .inl (cI, 22, .inl v_cubeOf)), (a_faceOf, .inl (cI, 30, .inl v_faceOf)), (a_lookOf, .inl (cI, 22, .inl v_lookOf)), (a_onwardEdge, .inl (cI, 132, .inl v_onwardEdge)), (a_x, .inl (cI, 5, .inl v_x)), (a_y, .inl (cI, 5, .inl v_y)), (a_z, .inl (cI, 5, .inl v_z))]) (w1 := (wd_X7_opposite cI cZ cJ)) hP hD [] [0, 1, 2, 3, 4, 5, 6, 7, 8] rfl rfl (by decide) (by decide) hk1 hFc hP1 hD1
    clear hPc hDc hFc hP1 hD1 hK1 hk1 hz1 ht hvm
    replace h := hw
    clear hw
    generalize H1 = H at hP hS ⊢
    replace hP : va_P D vwCl (wd_X4_joinAcross cI cZ cJ a_this a_beyondEdge a_cubeOf a_faceOf a_lookOf a_onwardEdge a_x a_y a_z v_cubes v_faces v_beyondEdge v_cubeOf v_faceOf v_lookOf v_onwardEdge v_x v_y v_z) H := hP.sub [0, 1, 2, 3, 4, 5, 6, 7, 8] rfl
    replace hD : va_D A (wd_X4_joinAcross cI cZ cJ a_this a_beyondEdge a_cubeOf a_faceOf a_lookOf a_onwardEdge a_x a_y a_z v_cubes v_faces v_beyondEdge v_cubeOf v_faceOf v_lookOf v_onwardEdge v_x v_y v_z) := hD.sub [0, 1, 2, 3, 4, 5, 6, 7, 8] (by decide) rfl
    refine lv_iadd hx hb dX4_joinAcross_107 ?_
    obtain ⟨hin, h⟩ := h
    refine va_iald hx hb hK hP 3 0 rfl rfl hin dX4_joinAcross_108 ?_
    refine lv_iload hx hb dX4_joinAcross_109 (lv_at hl 2 rfl) ?_
    have hPc := hP.sub (ws' := (wd_X4_setEdge cI cZ cJ a_this a_beyondEdge a_onwardEdge a_cubeOf a_lookOf a_x a_y a_z a_faceOf v_cubes v_faces v_beyondEdge v_onwardEdge)) [0, 1, 5] rfl
    have hDc := hD.sub (ws' := (wd_X4_setEdge cI cZ cJ a_this a_beyondEdge a_onwardEdge a_cubeOf a_lookOf a_x a_y a_z a_faceOf v_cubes v_faces v_beyondEdge v_onwardEdge)) [0, 1, 5] (by decide) rfl
    have hFc := va_free (wc := (wd_X4_setEdge cI cZ cJ a_this a_beyondEdge a_onwardEdge a_cubeOf a_lookOf a_x a_y a_z a_faceOf v_cubes v_faces v_beyondEdge v_onwardEdge)) hD hS hA [0, 1, 5] rfl
    refine va_callv (va_runV (As := [.int p1, .int p2, .int (v_faceOf ((r_1 * (6 : Int32)) + r_15).toNatClampNeg), .int (v_lookOf p1.toNatClampNeg)]) (rest := []) C (c_X4_setEdge l D cI cZ cJ tb a_this a_beyondEdge a_onwardEdge a_cubeOf a_lookOf a_x a_y a_z a_faceOf v_cubes v_faces v_beyondEdge v_onwardEdge H.size p1 p2 (v_faceOf ((r_1 * (6 : Int32)) + r_15).toNatClampNeg) (v_lookOf p1.toNatClampNeg) h) (cwV 4 hts gX4_joinAcross_X4_setEdge rfl rfl rfl (by decide +kernel) ⟨Nat.le_of_ble_eq_true rfl, Nat.le_of_ble_eq_true rfl⟩) ⟨q_pre.blind, va_recv hK hP (ci := 4) (q0 := 0) rfl rfl, fun U hU hW => ⟨rfl, q_pre.of hU hW hPc hK hDc hSt hS hFc hNw⟩⟩ rfl rfl hl.1 rfl (lv_room (Nat.le_of_ble_eq_true rfl)) dX4_joinAcross_111 ⟨Nat.zero_le _, Nat.zero_le _⟩) hS (fun q _ h => hFc q h) hFc (fun u_18 t H1 locs ht hvm hw hB hz1 hk1 hS => ?_)
    obtain ⟨hP1, hK1, hD1⟩ := hB
    rw [ht] at hP1
    obtain ⟨hP, hD⟩ := va_join (wr := [(a_cubeOf, .inl (cI, 22, .inl v_cubeOf)), (a_faceOf, .inl (cI, 30, .inl v_faceOf)), (a_lookOf, .inl (cI, 22, .inl v_lookOf)), (a_x, .inl (cI, 5, .inl v_x)), (a_y, .inl (cI, 5, .inl v_y)), (a_z, .inl (cI, 5, .inl v_z))]) (w1 := (wd_X4_setEdge cI cZ cJ a_this a_beyondEdge a_onwardEdge a_cubeOf a_lookOf a_x a_y a_z a_faceOf v_cubes v_faces u_18.1 u_18.2)) hP hD [0, 1, 5] [2, 3, 4, 6, 7, 8] rfl rfl (by decide) (by decide) hk1 hFc hP1 hD1
    clear hPc hDc hFc hP1 hD1 hK1 hk1 hz1 ht hvm
    replace h := hw
    clear hw
    generalize H1 = H at hP hS ⊢
    replace hP : va_P D vwCl (wd_X4_joinAcross cI cZ cJ a_this a_beyondEdge a_cubeOf a_faceOf a_lookOf a_onwardEdge a_x a_y a_z v_cubes v_faces u_18.1 v_cubeOf v_faceOf v_lookOf u_18.2 v_x v_y v_z) H := hP.sub [6, 7, 0, 1, 2, 8, 3, 4, 5] rfl
    replace hD : va_D A (wd_X4_joinAcross cI cZ cJ a_this a_beyondEdge a_cubeOf a_faceOf a_lookOf a_onwardEdge a_x a_y a_z v_cubes v_faces u_18.1 v_cubeOf v_faceOf v_lookOf u_18.2 v_x v_y v_z) := hD.sub [6, 7, 0, 1, 2, 8, 3, 4, 5] (by decide) rfl
    refine lv_goto (tgt := 167) hx hb dX4_joinAcross_114 (by decide) ?_
    exact ret (u_18.1, u_18.2) _ _ _ 167 dX4_joinAcross_167 h hP hD hS
