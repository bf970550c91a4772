def wd_X4_joinFaces (cI cZ cJ : ClassId) (a_this a_beyondEdge a_cubeOf a_faceOf a_lookOf a_onwardEdge a_x a_y a_z : Nat) (v_cubes : Int32) (v_faces : Int32) (v_beyondEdge : Nat → Int32) (v_cubeOf : Nat → Int32) (v_faceOf : Nat → Int32) (v_lookOf : Nat → Int32) (v_onwardEdge : Nat → Int32) (v_x : Nat → Int32) (v_y : Nat → Int32) (v_z : Nat → Int32) : va_W := [(a_this, .inr (4, [.int v_cubes, .int v_faces, .ref a_cubeOf, .ref a_lookOf, .ref a_x, .ref a_y, .ref a_z, .ref a_faceOf, .ref a_beyondEdge, .ref a_onwardEdge])),
  (a_beyondEdge, .inl (cI, 132, .inl v_beyondEdge)),
  (a_cubeOf, .inl (cI, 22, .inl v_cubeOf)),
  (a_faceOf, .inl (cI, 30, .inl v_faceOf)),
  (a_lookOf, .inl (cI, 22, .inl v_lookOf)),
  (a_onwardEdge, .inl (cI, 132, .inl v_onwardEdge)),
  (a_x, .inl (cI, 5, .inl v_x)),
  (a_y, .inl (cI, 5, .inl v_y)),
  (a_z, .inl (cI, 5, .inl v_z))]
abbrev rm_X4_joinFaces : Room := { frames := 3, cells := 0, slots := 0, locals := 72 }
set_option maxHeartbeats 4000000 in
set_option maxRecDepth 100000 in
theorem c_X4_joinFaces (l : Launch) (D : va_G) (cI cZ cJ : ClassId) (tb : Nat → Nat) (a_this a_beyondEdge a_cubeOf a_faceOf a_lookOf a_onwardEdge a_x a_y a_z : Nat) (v_cubes : Int32) (v_faces : Int32) (v_beyondEdge : Nat → Int32) (v_cubeOf : Nat → Int32) (v_faceOf : Nat → Int32) (v_lookOf : Nat → Int32) (v_onwardEdge : Nat → Int32) (v_x : Nat → Int32) (v_y : Nat → Int32) (v_z : Nat → Int32) (sz : Nat) {post : (Nat → Int32) → (Nat → Int32) → Prop} (h : wp_X4_joinFaces v_cubes v_faces v_beyondEdge v_cubeOf v_faceOf v_lookOf v_onwardEdge v_x v_y v_z post) : Met l yX4_joinFaces wsX4_joinFaces rm_X4_joinFaces (va_Pc [.ref a_this] (q_pre D cI cZ cJ tb (wd_X4_joinFaces cI cZ cJ a_this a_beyondEdge a_cubeOf a_faceOf a_lookOf a_onwardEdge a_x a_y a_z v_cubes v_faces v_beyondEdge v_cubeOf v_faceOf v_lookOf v_onwardEdge v_x v_y v_z) sz)) (va_Qv (fun (u : (Nat → Int32) × (Nat → Int32)) => post u.1 u.2) (fun u => q_post D cI cZ cJ (va_A (wd_X4_joinFaces cI cZ cJ a_this a_beyondEdge a_cubeOf a_faceOf a_lookOf a_onwardEdge a_x a_y a_z v_cubes v_faces v_beyondEdge v_cubeOf v_faceOf v_lookOf v_onwardEdge v_x v_y v_z) sz) (wd_X4_joinFaces cI cZ cJ a_this a_beyondEdge a_cubeOf a_faceOf a_lookOf a_onwardEdge a_x a_y a_z v_cubes v_faces u.1 v_cubeOf v_faceOf v_lookOf u.2 v_x v_y v_z)) (va_A (wd_X4_joinFaces cI cZ cJ a_this a_beyondEdge a_cubeOf a_faceOf a_lookOf a_onwardEdge a_x a_y a_z v_cubes v_faces v_beyondEdge v_cubeOf v_faceOf v_lookOf v_onwardEdge v_x v_y v_z) sz)) 0 0 (va_A (wd_X4_joinFaces cI cZ cJ a_this a_beyondEdge a_cubeOf a_faceOf a_lookOf a_onwardEdge a_x a_y a_z v_cubes v_faces v_beyondEdge v_cubeOf v_faceOf v_lookOf v_onwardEdge v_x v_y v_z) sz) := by
  refine q_walkv (cc := cX4_joinFaces) (maxL := 3) (own := RX4) (wd := fun (u : (Nat → Int32) × (Nat → Int32)) => (wd_X4_joinFaces cI cZ cJ a_this a_beyondEdge a_cubeOf a_faceOf a_lookOf a_onwardEdge a_x a_y a_z v_cubes v_faces u.1 v_cubeOf v_faceOf v_lookOf u.2 v_x v_y v_z)) (by decide) rfl rfl (Nat.le_of_ble_eq_true rfl) ?_
  intro p e s m below meth c Q A ls C hA ret hP hD hS hK hSt hNw hl
  obtain ⟨hx, hb, hml, hown, hts⟩ := id C
  replace hl : lv_has ls 3 [(0, .ref a_this)] := hl
  have f15 := hts (.fieldLink RX4 15 "NetSearch$Solid" "lookOf" "[I") (by decide +kernel)
  have iX4 : ∀ w ∈ wsX40, w ∈ wsX4_joinFaces := by decide +kernel
  have n66 : va_Nw (.methodLinkNest RX4 66 yX7_sameAxis "NetSearch") s := hNw.2 (RX4, 66, yX7_sameAxis, "NetSearch") (by decide +kernel)
  have iniX7 := hts (.initialized RX7) (by decide +kernel)
  have sta_X7_sameAxis := hts (.static yX7_sameAxis) (by decide +kernel)
  have f59 := hts (.fieldLink RX4 59 "NetSearch$Solid" "faces" "I") (by decide +kernel)
  have L12_ok : ∀ (l1 : Int32) (kx43 : (Nat → Int32) → (Nat → Int32) → Prop) (hkx43 : ∀ (v_beyondEdge : Nat → Int32) (v_onwardEdge : Nat → Int32) (H : Heap) (locs : List Loc) (ls : Array Slot), kx43 v_beyondEdge v_onwardEdge → va_P D vwCl (wd_X4_joinFaces cI cZ cJ a_this a_beyondEdge a_cubeOf a_faceOf a_lookOf a_onwardEdge a_x a_y a_z v_cubes v_faces v_beyondEdge v_cubeOf v_faceOf v_lookOf v_onwardEdge v_x v_y v_z) H → va_D A (wd_X4_joinFaces cI cZ cJ a_this a_beyondEdge a_cubeOf a_faceOf a_lookOf a_onwardEdge a_x a_y a_z v_cubes v_faces v_beyondEdge v_cubeOf v_faceOf v_lookOf v_onwardEdge v_x v_y v_z) → va_S A s.heap H locs → lv_has ls 3 [(0, .ref a_this), (1, .int l1)] → W p l e rm_X4_joinFaces s m ([.ref a_this] : List Value).toArray below meth c H locs 0 0 Q (F0 m 43 ls [])) (n : Nat) (l2 : Int32) (v_beyondEdge : Nat → Int32) (v_onwardEdge : Nat → Int32) (H : Heap) (locs : List Loc) (ls : Array Slot), lpN (wl_X4_joinFaces_12 v_cubes v_cubeOf v_faceOf v_lookOf v_x v_y v_z l1 kx43) n (l2, v_beyondEdge, v_onwardEdge) → va_P D vwCl (wd_X4_joinFaces cI cZ cJ a_this a_beyondEdge a_cubeOf a_faceOf a_lookOf a_onwardEdge a_x a_y a_z v_cubes v_faces v_beyondEdge v_cubeOf v_faceOf v_lookOf v_onwardEdge v_x v_y v_z) H → va_D A (wd_X4_joinFaces cI cZ cJ a_this a_beyondEdge a_cubeOf a_faceOf a_lookOf a_onwardEdge a_x a_y a_z v_cubes v_faces v_beyondEdge v_cubeOf v_faceOf v_lookOf v_onwardEdge v_x v_y v_z) → va_S A s.heap H locs → lv_has ls 3 [(0, .ref a_this), (1, .int l1), (2, .int l2)] → W p l e rm_X4_joinFaces s m ([.ref a_this] : List Value).toArray below meth c H locs 0 0 Q (F0 m 12 ls []) := by
    intro l1 kx43 hkx43 n
    induction n with
    | zero => intro l2 v_beyondEdge v_onwardEdge H locs ls h; exact False.elim h
    | succ n ih =>
      intro l2 v_beyondEdge v_onwardEdge H locs ls h hP hD hS hl
      have h : wb_X4_joinFaces_12 v_cubes v_cubeOf v_faceOf v_lookOf v_x v_y v_z l1 kx43 (fun l2 v_beyondEdge v_onwardEdge => lpN (wl_X4_joinFaces_12 v_cubes v_cubeOf v_faceOf v_lookOf v_x v_y v_z l1 kx43) n (l2, v_beyondEdge, v_onwardEdge)) l2 v_beyondEdge v_onwardEdge := h
      unfold wb_X4_joinFaces_12 at h
      refine lv_iload_n hx hb dX4_joinFaces_12 rfl (lv_at hl 2 rfl) ?_
      refine lv_bipush (v := 6) hx hb dX4_joinFaces_13 (by decide) ?_
      refine lv_icmp_ge (tgt := 43) hx hb dX4_joinFaces_15 (by decide) (fun hc => ?_) (fun hc => ?_)
      · replace h := h.1 hc
        exact hkx43 v_beyondEdge v_onwardEdge _ _ _ h hP hD hS (lv_sub hl [0, 1] rfl)
      · replace h := h.2 hc
        refine lv_iload_n hx hb dX4_joinFaces_18 rfl (lv_at hl 2 rfl) ?_
        refine lv_aload_n hx hb dX4_joinFaces_19 rfl (lv_at hl 0 rfl) ?_
        refine va_get (D := D) (ci := 4) (v := .ref a_lookOf) (C := RX4) (T := TX4) (N := 10) hx hb hts iX4 hown hK hP 0 rfl rfl 3 (by decide) f15 (fun _ h9 => h9) rfl dX4_joinFaces_20 ?_
        refine lv_iload_n hx hb dX4_joinFaces_23 rfl (lv_at hl 1 rfl) ?_
        obtain ⟨hin, h⟩ := h
        refine va_iald hx hb hK hP 4 0 rfl rfl hin dX4_joinFaces_24 ?_
        have hPc := hP.sub (ws' := (wd_X7_sameAxis cI cZ cJ)) [] rfl
        have hDc := hD.sub (ws' := (wd_X7_sameAxis cI cZ cJ)) [] (by decide) rfl
        have hFc := va_free (wc := (wd_X7_sameAxis cI cZ cJ)) hD hS hA [] rfl
        refine va_calli (va_runSN (As := [.int l2, .int (v_lookOf l1.toNatClampNeg)]) (rest := []) C (c_X7_sameAxis l D cI cZ cJ tb H.size l2 (v_lookOf l1.toNatClampNeg) h) ⟨va_cnB 2 hts gX4_joinFaces_X7_sameAxis_n66 rfl rfl rfl n66 iniX7 (by decide +kernel) ⟨Nat.le_of_ble_eq_true rfl, Nat.le_of_ble_eq_true rfl⟩, sta_X7_sameAxis, trivial⟩ ⟨q_pre.blind, fun U hU hW => ⟨rfl, q_pre.of hU hW hPc hK hDc hSt hS hFc hNw⟩⟩ rfl rfl hl.1 rfl (lv_room (Nat.le_of_ble_eq_true rfl)) dX4_joinFaces_25 ⟨Nat.zero_le _, Nat.zero_le _⟩) hS (fun q _ h => hFc q h) hFc (fun r_1 u_2 t H1 locs ht hvm hw hB hz1 hk1 hS => ?_)
        obtain ⟨hP1, hK1, hD1⟩ := hB
        rw [ht] at hP1
        obtain ⟨hP, hD⟩ := va_join (wr := [(a_this, .inr (4, [.int v_cubes, .int v_faces, .ref a_cubeOf, .ref a_lookOf, .ref a_x, .ref a_y, .ref a_z, .ref a_faceOf, .ref a_beyondEdge, .ref a_onwardEdge])), (a_beyondEdge, .inl (cI, 132, .inl v_beyondEdge)), (a_cubeOf, .inl (cI, 22, .inl v_cubeOf)), (a_faceOf, .inl (cI, 30, .inl v_faceOf)), (a_lookOf, .inl (cI, 22, .inl v_lookOf)), (a_onwardEdge, .inl (cI, 132, .inl v_onwardEdge)), (a_x, .inl (cI, 5, .inl v_x)), (a_y, .inl (cI, 5, .inl v_y)), (a_z, .inl (cI, 5, .inl v_z))]) (w1 := (wd_X7_sameAxis cI cZ cJ)) hP hD [] [0, 1, 2, 3, 4, 5, 6, 7, 8] rfl rfl (by decide) (by decide) hk1 hFc hP1 hD1
        clear hPc hDc hFc hP1 hD1 hK1 hk1 hz1 ht hvm
        replace h := hw
        clear hw
        generalize H1 = H at hP hS ⊢
        replace hP : va_P D vwCl (wd_X4_joinFaces cI cZ cJ a_this a_beyondEdge a_cubeOf a_faceOf a_lookOf a_onwardEdge a_x a_y a_z v_cubes v_faces v_beyondEdge v_cubeOf v_faceOf v_lookOf v_onwardEdge v_x v_y v_z) H := hP.sub [0, 1, 2, 3, 4, 5, 6, 7, 8] rfl
        replace hD : va_D A (wd_X4_joinFaces cI cZ cJ a_this a_beyondEdge a_cubeOf a_faceOf a_lookOf a_onwardEdge a_x a_y a_z v_cubes v_faces v_beyondEdge v_cubeOf v_faceOf v_lookOf v_onwardEdge v_x v_y v_z) := hD.sub [0, 1, 2, 3, 4, 5, 6, 7, 8] (by decide) rfl
        refine lv_if_ne (tgt := 37) hx hb dX4_joinFaces_28 (by decide) (fun hc => ?_) (fun hc => ?_)
        · replace h := h.1 hc
          refine lv_iinc (v := (l2 + (1 : Int32))) (lv' := [(2, .int (l2 + (1 : Int32))), (0, .ref a_this), (1, .int l1)]) hx hb dX4_joinFaces_37 hl (k := 2) rfl rfl (by decide) rfl (fun ls hl => ?_)
          refine lv_goto (tgt := 12) hx hb dX4_joinFaces_40 (by decide) ?_
          exact ih (l2 + (1 : Int32)) v_beyondEdge v_onwardEdge _ _ _ h hP hD hS (lv_sub hl [1, 2, 0] rfl)
        · replace h := h.2 hc
          refine lv_aload_n hx hb dX4_joinFaces_31 rfl (lv_at hl 0 rfl) ?_
          refine lv_iload_n hx hb dX4_joinFaces_32 rfl (lv_at hl 1 rfl) ?_
          refine lv_iload_n hx hb dX4_joinFaces_33 rfl (lv_at hl 2 rfl) ?_
          have hPc := hP.sub (ws' := (wd_X4_joinAcross cI cZ cJ a_this a_beyondEdge a_cubeOf a_faceOf a_lookOf a_onwardEdge a_x a_y a_z v_cubes v_faces v_beyondEdge v_cubeOf v_faceOf v_lookOf v_onwardEdge v_x v_y v_z)) [0, 1, 2, 3, 4, 5, 6, 7, 8] rfl
          have hDc := hD.sub (ws' := (wd_X4_joinAcross cI cZ cJ a_this a_beyondEdge a_cubeOf a_faceOf a_lookOf a_onwardEdge a_x a_y a_z v_cubes v_faces v_beyondEdge v_cubeOf v_faceOf v_lookOf v_onwardEdge v_x v_y v_z)) [0, 1, 2, 3, 4, 5, 6, 7, 8] (by decide) rfl
          have hFc := va_free (wc := (wd_X4_joinAcross cI cZ cJ a_this a_beyondEdge a_cubeOf a_faceOf a_lookOf a_onwardEdge a_x a_y a_z v_cubes v_faces v_beyondEdge v_cubeOf v_faceOf v_lookOf v_onwardEdge v_x v_y v_z)) hD hS hA [0, 1, 2, 3, 4, 5, 6, 7, 8] rfl
          refine va_callv (va_runV (As := [.int l1, .int l2]) (rest := []) C (c_X4_joinAcross l D cI cZ cJ tb a_this a_beyondEdge a_cubeOf a_faceOf a_lookOf a_onwardEdge a_x a_y a_z v_cubes v_faces v_beyondEdge v_cubeOf v_faceOf v_lookOf v_onwardEdge v_x v_y v_z H.size l1 l2 h) (cwV 2 hts gX4_joinFaces_X4_joinAcross rfl rfl rfl (by decide +kernel) ⟨Nat.le_of_ble_eq_true rfl, Nat.le_of_ble_eq_true rfl⟩) ⟨q_pre.blind, va_recv hK hP (ci := 4) (q0 := 0) rfl rfl, fun U hU hW => ⟨rfl, q_pre.of hU hW hPc hK hDc hSt hS hFc hNw⟩⟩ rfl rfl hl.1 rfl (lv_room (Nat.le_of_ble_eq_true rfl)) dX4_joinFaces_34 ⟨Nat.zero_le _, Nat.zero_le _⟩) hS (fun q _ h => hFc q h) hFc (fun u_4 t H1 locs ht hvm hw hB hz1 hk1 hS => ?_)
          obtain ⟨hP1, hK1, hD1⟩ := hB
          rw [ht] at hP1
          obtain ⟨hP, hD⟩ := va_join (wr := []) (w1 := (wd_X4_joinAcross cI cZ cJ a_this a_beyondEdge a_cubeOf a_faceOf a_lookOf a_onwardEdge a_x a_y a_z v_cubes v_faces u_4.1 v_cubeOf v_faceOf v_lookOf u_4.2 v_x v_y v_z)) hP hD [0, 1, 2, 3, 4, 5, 6, 7, 8] [] rfl rfl (by decide) (by decide) hk1 hFc hP1 hD1
          clear hPc hDc hFc hP1 hD1 hK1 hk1 hz1 ht hvm
          replace h := hw
          clear hw
          generalize H1 = H at hP hS ⊢
          replace hP : va_P D vwCl (wd_X4_joinFaces cI cZ cJ a_this a_beyondEdge a_cubeOf a_faceOf a_lookOf a_onwardEdge a_x a_y a_z v_cubes v_faces u_4.1 v_cubeOf v_faceOf v_lookOf u_4.2 v_x v_y v_z) H := hP.sub [0, 1, 2, 3, 4, 5, 6, 7, 8] rfl
          replace hD : va_D A (wd_X4_joinFaces cI cZ cJ a_this a_beyondEdge a_cubeOf a_faceOf a_lookOf a_onwardEdge a_x a_y a_z v_cubes v_faces u_4.1 v_cubeOf v_faceOf v_lookOf u_4.2 v_x v_y v_z) := hD.sub [0, 1, 2, 3, 4, 5, 6, 7, 8] (by decide) rfl
          refine lv_iinc (v := (l2 + (1 : Int32))) (lv' := [(2, .int (l2 + (1 : Int32))), (0, .ref a_this), (1, .int l1)]) hx hb dX4_joinFaces_37 hl (k := 2) rfl rfl (by decide) rfl (fun ls hl => ?_)
          refine lv_goto (tgt := 12) hx hb dX4_joinFaces_40 (by decide) ?_
          exact ih (l2 + (1 : Int32)) u_4.1 u_4.2 _ _ _ h hP hD hS (lv_sub hl [1, 2, 0] rfl)
  have L2_ok : ∀  (kx49 : (Nat → Int32) → (Nat → Int32) → Prop) (hkx49 : ∀ (v_beyondEdge : Nat → Int32) (v_onwardEdge : Nat → Int32) (H : Heap) (locs : List Loc) (ls : Array Slot), kx49 v_beyondEdge v_onwardEdge → va_P D vwCl (wd_X4_joinFaces cI cZ cJ a_this a_beyondEdge a_cubeOf a_faceOf a_lookOf a_onwardEdge a_x a_y a_z v_cubes v_faces v_beyondEdge v_cubeOf v_faceOf v_lookOf v_onwardEdge v_x v_y v_z) H → va_D A (wd_X4_joinFaces cI cZ cJ a_this a_beyondEdge a_cubeOf a_faceOf a_lookOf a_onwardEdge a_x a_y a_z v_cubes v_faces v_beyondEdge v_cubeOf v_faceOf v_lookOf v_onwardEdge v_x v_y v_z) → va_S A s.heap H locs → lv_has ls 3 [] → W p l e rm_X4_joinFaces s m ([.ref a_this] : List Value).toArray below meth c H locs 0 0 Q (F0 m 49 ls [])) (n : Nat) (l1 : Int32) (v_beyondEdge : Nat → Int32) (v_onwardEdge : Nat → Int32) (H : Heap) (locs : List Loc) (ls : Array Slot), lpN (wl_X4_joinFaces_2 v_cubes v_faces v_cubeOf v_faceOf v_lookOf v_x v_y v_z kx49) n (l1, v_beyondEdge, v_onwardEdge) → va_P D vwCl (wd_X4_joinFaces cI cZ cJ a_this a_beyondEdge a_cubeOf a_faceOf a_lookOf a_onwardEdge a_x a_y a_z v_cubes v_faces v_beyondEdge v_cubeOf v_faceOf v_lookOf v_onwardEdge v_x v_y v_z) H → va_D A (wd_X4_joinFaces cI cZ cJ a_this a_beyondEdge a_cubeOf a_faceOf a_lookOf a_onwardEdge a_x a_y a_z v_cubes v_faces v_beyondEdge v_cubeOf v_faceOf v_lookOf v_onwardEdge v_x v_y v_z) → va_S A s.heap H locs → lv_has ls 3 [(0, .ref a_this), (1, .int l1)] → W p l e rm_X4_joinFaces s m ([.ref a_this] : List Value).toArray below meth c H locs 0 0 Q (F0 m 2 ls []) := by
    intro  kx49 hkx49 n
    induction n with
    | zero => intro l1 v_beyondEdge v_onwardEdge H locs ls h; exact False.elim h
    | succ n ih =>
      intro l1 v_beyondEdge v_onwardEdge H locs ls h hP hD hS hl
      have h : wb_X4_joinFaces_2 v_cubes v_faces v_cubeOf v_faceOf v_lookOf v_x v_y v_z kx49 (fun l1 v_beyondEdge v_onwardEdge => lpN (wl_X4_joinFaces_2 v_cubes v_faces v_cubeOf v_faceOf v_lookOf v_x v_y v_z kx49) n (l1, v_beyondEdge, v_onwardEdge)) l1 v_beyondEdge v_onwardEdge := h
      unfold wb_X4_joinFaces_2 at h
      refine lv_iload_n hx hb dX4_joinFaces_2 rfl (lv_at hl 1 rfl) ?_
      refine lv_aload_n hx hb dX4_joinFaces_3 rfl (lv_at hl 0 rfl) ?_
      refine va_get (D := D) (ci := 4) (v := .int v_faces) (C := RX4) (T := TX4) (N := 10) hx hb hts iX4 hown hK hP 0 rfl rfl 1 (by decide) f59 (fun _ h9 => h9) rfl dX4_joinFaces_4 ?_
      refine lv_icmp_ge (tgt := 49) hx hb dX4_joinFaces_7 (by decide) (fun hc => ?_) (fun hc => ?_)
      · replace h := h.1 hc
        exact hkx49 v_beyondEdge v_onwardEdge _ _ _ h hP hD hS (lv_sub hl [] rfl)
      · replace h := h.2 hc
        refine lv_iconst (v := 0) hx hb dX4_joinFaces_10 (by decide) ?_
        refine lv_istore_n (lv' := [(2, .int (0 : Int32)), (0, .ref a_this), (1, .int l1)]) hx hb dX4_joinFaces_11 rfl hl (by decide) rfl (fun ls hl => ?_)
        obtain ⟨n, h⟩ := h
        refine L12_ok l1 _ (fun v_beyondEdge_7 v_onwardEdge_8 H locs ls h hP hD hS hl => ?_) n (0 : Int32) v_beyondEdge v_onwardEdge _ _ _ h hP hD hS (lv_sub hl [1, 2, 0] rfl)
        refine lv_iinc (v := (l1 + (1 : Int32))) (lv' := [(1, .int (l1 + (1 : Int32))), (0, .ref a_this)]) hx hb dX4_joinFaces_43 hl (k := 1) rfl rfl (by decide) rfl (fun ls hl => ?_)
        refine lv_goto (tgt := 2) hx hb dX4_joinFaces_46 (by decide) ?_
        exact ih (l1 + (1 : Int32)) v_beyondEdge_7 v_onwardEdge_8 _ _ _ h hP hD hS (lv_sub hl [1, 0] rfl)
  unfold wp_X4_joinFaces at h
  refine lv_iconst (v := 0) hx hb dX4_joinFaces_0 (by decide) ?_
  refine lv_istore_n (lv' := [(1, .int (0 : Int32)), (0, .ref a_this)]) hx hb dX4_joinFaces_1 rfl hl (by decide) rfl (fun ls hl => ?_)
  obtain ⟨n, h⟩ := h
  refine L2_ok  _ (fun v_beyondEdge_9 v_onwardEdge_10 H locs ls h hP hD hS hl => ?_) n (0 : Int32) v_beyondEdge v_onwardEdge _ _ _ h hP hD hS (lv_sub hl [1, 0] rfl)
  exact ret (v_beyondEdge_9, v_onwardEdge_10) _ _ _ 49 dX4_joinFaces_49 h hP hD hS
def wd_X4_add (cI cZ cJ : ClassId) (a_this a_beyondEdge a_cubeOf a_faceOf a_lookOf a_onwardEdge a_x a_y a_z : Nat) (v_cubes : Int32) (v_faces : Int32) (v_beyondEdge : Nat → Int32) (v_cubeOf : Nat → Int32) (v_faceOf : Nat → Int32) (v_lookOf : Nat → Int32) (v_onwardEdge : Nat → Int32) (v_x : Nat → Int32) (v_y : Nat → Int32) (v_z : Nat → Int32) : va_W := [(a_this, .inr (4, [.int v_cubes, .int v_faces, .ref a_cubeOf, .ref a_lookOf, .ref a_x, .ref a_y, .ref a_z, .ref a_faceOf, .ref a_beyondEdge, .ref a_onwardEdge])),
  (a_beyondEdge, .inl (cI, 132, .inl v_beyondEdge)),
  (a_cubeOf, .inl (cI, 22, .inl v_cubeOf)),
  (a_faceOf, .inl (cI, 30, .inl v_faceOf)),
  (a_lookOf, .inl (cI, 22, .inl v_lookOf)),
  (a_onwardEdge, .inl (cI, 132, .inl v_onwardEdge)),
  (a_x, .inl (cI, 5, .inl v_x)),
  (a_y, .inl (cI, 5, .inl v_y)),
  (a_z, .inl (cI, 5, .inl v_z))]
abbrev rm_X4_add : Room := { frames := 4, cells := 0, slots := 0, locals := 94 }
set_option maxHeartbeats 4000000 in
set_option maxRecDepth 100000 in
theorem c_X4_add (l : Launch) (D : va_G) (cI cZ cJ : ClassId) (tb : Nat → Nat) (a_this a_beyondEdge a_cubeOf a_faceOf a_lookOf a_onwardEdge a_x a_y a_z : Nat) (v_cubes : Int32) (v_faces : Int32) (v_beyondEdge : Nat → Int32) (v_cubeOf : Nat → Int32) (v_faceOf : Nat → Int32) (v_lookOf : Nat → Int32) (v_onwardEdge : Nat → Int32) (v_x : Nat → Int32) (v_y : Nat → Int32) (v_z : Nat → Int32) (sz : Nat) (p1 : Int32) (p2 : Int32) (p3 : Int32) {post : Int32 → Int32 → (Nat → Int32) → (Nat → Int32) → (Nat → Int32) → (Nat → Int32) → (Nat → Int32) → (Nat → Int32) → (Nat → Int32) → (Nat → Int32) → Prop} (h : wp_X4_add v_cubes v_faces v_beyondEdge v_cubeOf v_faceOf v_lookOf v_onwardEdge v_x v_y v_z p1 p2 p3 post) : Met l yX4_add wsX4_add rm_X4_add (va_Pc [.ref a_this, .int p1, .int p2, .int p3] (q_pre D cI cZ cJ tb (wd_X4_add cI cZ cJ a_this a_beyondEdge a_cubeOf a_faceOf a_lookOf a_onwardEdge a_x a_y a_z v_cubes v_faces v_beyondEdge v_cubeOf v_faceOf v_lookOf v_onwardEdge v_x v_y v_z) sz)) (va_Qv (fun (u : Int32 × Int32 × (Nat → Int32) × (Nat → Int32) × (Nat → Int32) × (Nat → Int32) × (Nat → Int32) × (Nat → Int32) × (Nat → Int32) × (Nat → Int32)) => post u.1 u.2.1 u.2.2.1 u.2.2.2.1 u.2.2.2.2.1 u.2.2.2.2.2.1 u.2.2.2.2.2.2.1 u.2.2.2.2.2.2.2.1 u.2.2.2.2.2.2.2.2.1 u.2.2.2.2.2.2.2.2.2) (fun u => q_post D cI cZ cJ (va_A (wd_X4_add cI cZ cJ a_this a_beyondEdge a_cubeOf a_faceOf a_lookOf a_onwardEdge a_x a_y a_z v_cubes v_faces v_beyondEdge v_cubeOf v_faceOf v_lookOf v_onwardEdge v_x v_y v_z) sz) (wd_X4_add cI cZ cJ a_this a_beyondEdge a_cubeOf a_faceOf a_lookOf a_onwardEdge a_x a_y a_z u.1 u.2.1 u.2.2.1 u.2.2.2.1 u.2.2.2.2.1 u.2.2.2.2.2.1 u.2.2.2.2.2.2.1 u.2.2.2.2.2.2.2.1 u.2.2.2.2.2.2.2.2.1 u.2.2.2.2.2.2.2.2.2)) (va_A (wd_X4_add cI cZ cJ a_this a_beyondEdge a_cubeOf a_faceOf a_lookOf a_onwardEdge a_x a_y a_z v_cubes v_faces v_beyondEdge v_cubeOf v_faceOf v_lookOf v_onwardEdge v_x v_y v_z) sz)) 0 0 (va_A (wd_X4_add cI cZ cJ a_this a_beyondEdge a_cubeOf a_faceOf a_lookOf a_onwardEdge a_x a_y a_z v_cubes v_faces v_beyondEdge v_cubeOf v_faceOf v_lookOf v_onwardEdge v_x v_y v_z) sz) := by
  refine q_walkv (cc := cX4_add) (maxL := 4) (own := RX4) (wd := fun (u : Int32 × Int32 × (Nat → Int32) × (Nat → Int32) × (Nat → Int32) × (Nat → Int32) × (Nat → Int32) × (Nat → Int32) × (Nat → Int32) × (Nat → Int32)) => (wd_X4_add cI cZ cJ a_this a_beyondEdge a_cubeOf a_faceOf a_lookOf a_onwardEdge a_x a_y a_z u.1 u.2.1 u.2.2.1 u.2.2.2.1 u.2.2.2.2.1 u.2.2.2.2.2.1 u.2.2.2.2.2.2.1 u.2.2.2.2.2.2.2.1 u.2.2.2.2.2.2.2.2.1 u.2.2.2.2.2.2.2.2.2)) (by decide) rfl rfl (Nat.le_of_ble_eq_true rfl) ?_
  intro p e s m below meth c Q A ls C hA ret hP hD hS hK hSt hNw hl
  obtain ⟨hx, hb, hml, hown, hts⟩ := id C
  replace hl : lv_has ls 4 [(0, .ref a_this), (1, .int p1), (2, .int p2), (3, .int p3)] := hl
  have f18 := hts (.fieldLink RX4 18 "NetSearch$Solid" "x" "[I") (by decide +kernel)
  have iX4 : ∀ w ∈ wsX40, w ∈ wsX4_add := by decide +kernel
  have f36 := hts (.fieldLink RX4 36 "NetSearch$Solid" "cubes" "I") (by decide +kernel)
  have f21 := hts (.fieldLink RX4 21 "NetSearch$Solid" "y" "[I") (by decide +kernel)
  have f24 := hts (.fieldLink RX4 24 "NetSearch$Solid" "z" "[I") (by decide +kernel)
  unfold wp_X4_add at h
  refine lv_aload_n hx hb dX4_add_0 rfl (lv_at hl 0 rfl) ?_
  refine va_get (D := D) (ci := 4) (v := .ref a_x) (C := RX4) (T := TX4) (N := 10) hx hb hts iX4 hown hK hP 0 rfl rfl 4 (by decide) f18 (fun _ h9 => h9) rfl dX4_add_1 ?_
  refine lv_aload_n hx hb dX4_add_4 rfl (lv_at hl 0 rfl) ?_
  refine va_get (D := D) (ci := 4) (v := .int v_cubes) (C := RX4) (T := TX4) (N := 10) hx hb hts iX4 hown hK hP 0 rfl rfl 0 (by decide) f36 (fun _ h9 => h9) rfl dX4_add_5 ?_
  refine lv_iload_n hx hb dX4_add_8 rfl (lv_at hl 1 rfl) ?_
  obtain ⟨hin, h⟩ := h
  refine va_iast hx hb hK hP hD hS 6 0 rfl rfl hin dX4_add_9 (fun H locs hP hD hS => ?_)
  replace hP : va_P D vwCl (wd_X4_add cI cZ cJ a_this a_beyondEdge a_cubeOf a_faceOf a_lookOf a_onwardEdge a_x a_y a_z v_cubes v_faces v_beyondEdge v_cubeOf v_faceOf v_lookOf v_onwardEdge (upd v_x v_cubes.toNatClampNeg p1) v_y v_z) H := hP
  replace hD : va_D A (wd_X4_add cI cZ cJ a_this a_beyondEdge a_cubeOf a_faceOf a_lookOf a_onwardEdge a_x a_y a_z v_cubes v_faces v_beyondEdge v_cubeOf v_faceOf v_lookOf v_onwardEdge (upd v_x v_cubes.toNatClampNeg p1) v_y v_z) := hD
  refine lv_aload_n hx hb dX4_add_10 rfl (lv_at hl 0 rfl) ?_
  refine va_get (D := D) (ci := 4) (v := .ref a_y) (C := RX4) (T := TX4) (N := 10) hx hb hts iX4 hown hK hP 0 rfl rfl 5 (by decide) f21 (fun _ h9 => h9) rfl dX4_add_11 ?_
  refine lv_aload_n hx hb dX4_add_14 rfl (lv_at hl 0 rfl) ?_
  refine va_get (D := D) (ci := 4) (v := .int v_cubes) (C := RX4) (T := TX4) (N := 10) hx hb hts iX4 hown hK hP 0 rfl rfl 0 (by decide) f36 (fun _ h9 => h9) rfl dX4_add_15 ?_
  refine lv_iload_n hx hb dX4_add_18 rfl (lv_at hl 2 rfl) ?_
  obtain ⟨hin, h⟩ := h
  refine va_iast hx hb hK hP hD hS 7 0 rfl rfl hin dX4_add_19 (fun H locs hP hD hS => ?_)
  replace hP : va_P D vwCl (wd_X4_add cI cZ cJ a_this a_beyondEdge a_cubeOf a_faceOf a_lookOf a_onwardEdge a_x a_y a_z v_cubes v_faces v_beyondEdge v_cubeOf v_faceOf v_lookOf v_onwardEdge (upd v_x v_cubes.toNatClampNeg p1) (upd v_y v_cubes.toNatClampNeg p2) v_z) H := hP
  replace hD : va_D A (wd_X4_add cI cZ cJ a_this a_beyondEdge a_cubeOf a_faceOf a_lookOf a_onwardEdge a_x a_y a_z v_cubes v_faces v_beyondEdge v_cubeOf v_faceOf v_lookOf v_onwardEdge (upd v_x v_cubes.toNatClampNeg p1) (upd v_y v_cubes.toNatClampNeg p2) v_z) := hD
  refine lv_aload_n hx hb dX4_add_20 rfl (lv_at hl 0 rfl) ?_
  refine va_get (D := D) (ci := 4) (v := .ref a_z) (C := RX4) (T := TX4) (N := 10) hx hb hts iX4 hown hK hP 0 rfl rfl 6 (by decide) f24 (fun _ h9 => h9) rfl dX4_add_21 ?_
  refine lv_aload_n hx hb dX4_add_24 rfl (lv_at hl 0 rfl) ?_
  refine va_get (D := D) (ci := 4) (v := .int v_cubes) (C := RX4) (T := TX4) (N := 10) hx hb hts iX4 hown hK hP 0 rfl rfl 0 (by decide) f36 (fun _ h9 => h9) rfl dX4_add_25 ?_
  refine lv_iload_n hx hb dX4_add_28 rfl (lv_at hl 3 rfl) ?_
  obtain ⟨hin, h⟩ := h
  refine va_iast hx hb hK hP hD hS 8 0 rfl rfl hin dX4_add_29 (fun H locs hP hD hS => ?_)
  replace hP : va_P D vwCl (wd_X4_add cI cZ cJ a_this a_beyondEdge a_cubeOf a_faceOf a_lookOf a_onwardEdge a_x a_y a_z v_cubes v_faces v_beyondEdge v_cubeOf v_faceOf v_lookOf v_onwardEdge (upd v_x v_cubes.toNatClampNeg p1) (upd v_y v_cubes.toNatClampNeg p2) (upd v_z v_cubes.toNatClampNeg p3)) H := hP
  replace hD : va_D A (wd_X4_add cI cZ cJ a_this a_beyondEdge a_cubeOf a_faceOf a_lookOf a_onwardEdge a_x a_y a_z v_cubes v_faces v_beyondEdge v_cubeOf v_faceOf v_lookOf v_onwardEdge (upd v_x v_cubes.toNatClampNeg p1) (upd v_y v_cubes.toNatClampNeg p2) (upd v_z v_cubes.toNatClampNeg p3)) := hD
  refine lv_aload_n hx hb dX4_add_30 rfl (lv_at hl 0 rfl) ?_
  refine lv_dup hx hb dX4_add_31 rfl ?_
  refine va_get (D := D) (ci := 4) (v := .int v_cubes) (C := RX4) (T := TX4) (N := 10) hx hb hts iX4 hown hK hP 0 rfl rfl 0 (by decide) f36 (fun _ h9 => h9) rfl dX4_add_32 ?_
  refine lv_iconst (v := 1) hx hb dX4_add_35 (by decide) ?_
  refine lv_iadd hx hb dX4_add_36 ?_
  refine va_put (D := D) (ci := 4) (v := .int (v_cubes + (1 : Int32))) (ty := .int) (C := RX4) (T := TX4) (N := 10) hx hb hts iX4 tyX4 tyX4_ok nmX4 hown hK hP hD hS 0 rfl rfl 0 (by decide) f36 (fun _ h9 => h9) rfl (by decide +kernel) rfl rfl (Nat.le_of_ble_eq_true rfl) dX4_add_37 (fun H locs hP hD hS => ?_)
  replace hP : va_P D vwCl (wd_X4_add cI cZ cJ a_this a_beyondEdge a_cubeOf a_faceOf a_lookOf a_onwardEdge a_x a_y a_z (v_cubes + (1 : Int32)) v_faces v_beyondEdge v_cubeOf v_faceOf v_lookOf v_onwardEdge (upd v_x v_cubes.toNatClampNeg p1) (upd v_y v_cubes.toNatClampNeg p2) (upd v_z v_cubes.toNatClampNeg p3)) H := hP
  replace hD : va_D A (wd_X4_add cI cZ cJ a_this a_beyondEdge a_cubeOf a_faceOf a_lookOf a_onwardEdge a_x a_y a_z (v_cubes + (1 : Int32)) v_faces v_beyondEdge v_cubeOf v_faceOf v_lookOf v_onwardEdge (upd v_x v_cubes.toNatClampNeg p1) (upd v_y v_cubes.toNatClampNeg p2) (upd v_z v_cubes.toNatClampNeg p3)) := hD
  refine lv_aload_n hx hb dX4_add_40 rfl (lv_at hl 0 rfl) ?_
  have hPc := hP.sub (ws' := (wd_X4_numberFaces cI cZ cJ a_this a_cubeOf a_faceOf a_lookOf a_x a_y a_z a_beyondEdge a_onwardEdge (v_cubes + (1 : Int32)) v_faces v_cubeOf v_faceOf v_lookOf (upd v_x v_cubes.toNatClampNeg p1) (upd v_y v_cubes.toNatClampNeg p2) (upd v_z v_cubes.toNatClampNeg p3))) [0, 2, 3, 4, 6, 7, 8] rfl
  have hDc := hD.sub (ws' := (wd_X4_numberFaces cI cZ cJ a_this a_cubeOf a_faceOf a_lookOf a_x a_y a_z a_beyondEdge a_onwardEdge (v_cubes + (1 : Int32)) v_faces v_cubeOf v_faceOf v_lookOf (upd v_x v_cubes.toNatClampNeg p1) (upd v_y v_cubes.toNatClampNeg p2) (upd v_z v_cubes.toNatClampNeg p3))) [0, 2, 3, 4, 6, 7, 8] (by decide) rfl
  have hFc := va_free (wc := (wd_X4_numberFaces cI cZ cJ a_this a_cubeOf a_faceOf a_lookOf a_x a_y a_z a_beyondEdge a_onwardEdge (v_cubes + (1 : Int32)) v_faces v_cubeOf v_faceOf v_lookOf (upd v_x v_cubes.toNatClampNeg p1) (upd v_y v_cubes.toNatClampNeg p2) (upd v_z v_cubes.toNatClampNeg p3))) hD hS hA [0, 2, 3, 4, 6, 7, 8] rfl
  refine va_callv (va_runV (As := []) (rest := []) C (c_X4_numberFaces l D cI cZ cJ tb a_this a_cubeOf a_faceOf a_lookOf a_x a_y a_z a_beyondEdge a_onwardEdge (v_cubes + (1 : Int32)) v_faces v_cubeOf v_faceOf v_lookOf (upd v_x v_cubes.toNatClampNeg p1) (upd v_y v_cubes.toNatClampNeg p2) (upd v_z v_cubes.toNatClampNeg p3) H.size h) (cwV 0 hts gX4_add_X4_numberFaces rfl rfl rfl (by decide +kernel) ⟨Nat.le_of_ble_eq_true rfl, Nat.le_of_ble_eq_true rfl⟩) ⟨q_pre.blind, va_recv hK hP (ci := 4) (q0 := 0) rfl rfl, fun U hU hW => ⟨rfl, q_pre.of hU hW hPc hK hDc hSt hS hFc hNw⟩⟩ rfl rfl hl.1 rfl (lv_room (Nat.le_of_ble_eq_true rfl)) dX4_add_41 ⟨Nat.zero_le _, Nat.zero_le _⟩) hS (fun q _ h => hFc q h) hFc (fun u_2 t H1 locs ht hvm hw hB hz1 hk1 hS => ?_)
  obtain ⟨hP1, hK1, hD1⟩ := hB
  rw [ht] at hP1
  obtain ⟨hP, hD⟩ := va_join (wr := [(a_beyondEdge, .inl (cI, 132, .inl v_beyondEdge)), (a_onwardEdge, .inl (cI, 132, .inl v_onwardEdge))]) (w1 := (wd_X4_numberFaces cI cZ cJ a_this a_cubeOf a_faceOf a_lookOf a_x a_y a_z a_beyondEdge a_onwardEdge (v_cubes + (1 : Int32)) u_2.1 u_2.2.1 u_2.2.2.1 u_2.2.2.2 (upd v_x v_cubes.toNatClampNeg p1) (upd v_y v_cubes.toNatClampNeg p2) (upd v_z v_cubes.toNatClampNeg p3))) hP hD [0, 2, 3, 4, 6, 7, 8] [1, 5] rfl rfl (by decide) (by decide) hk1 hFc hP1 hD1
  clear hPc hDc hFc hP1 hD1 hK1 hk1 hz1 ht hvm
  replace h := hw
  clear hw
  generalize H1 = H at hP hS ⊢
  replace hP : va_P D vwCl (wd_X4_add cI cZ cJ a_this a_beyondEdge a_cubeOf a_faceOf a_lookOf a_onwardEdge a_x a_y a_z (v_cubes + (1 : Int32)) u_2.1 v_beyondEdge u_2.2.1 u_2.2.2.1 u_2.2.2.2 v_onwardEdge (upd v_x v_cubes.toNatClampNeg p1) (upd v_y v_cubes.toNatClampNeg p2) (upd v_z v_cubes.toNatClampNeg p3)) H := hP.sub [2, 0, 3, 4, 5, 1, 6, 7, 8] rfl
  replace hD : va_D A (wd_X4_add cI cZ cJ a_this a_beyondEdge a_cubeOf a_faceOf a_lookOf a_onwardEdge a_x a_y a_z (v_cubes + (1 : Int32)) u_2.1 v_beyondEdge u_2.2.1 u_2.2.2.1 u_2.2.2.2 v_onwardEdge (upd v_x v_cubes.toNatClampNeg p1) (upd v_y v_cubes.toNatClampNeg p2) (upd v_z v_cubes.toNatClampNeg p3)) := hD.sub [2, 0, 3, 4, 5, 1, 6, 7, 8] (by decide) rfl
  refine lv_aload_n hx hb dX4_add_44 rfl (lv_at hl 0 rfl) ?_
  have hPc := hP.sub (ws' := (wd_X4_joinFaces cI cZ cJ a_this a_beyondEdge a_cubeOf a_faceOf a_lookOf a_onwardEdge a_x a_y a_z (v_cubes + (1 : Int32)) u_2.1 v_beyondEdge u_2.2.1 u_2.2.2.1 u_2.2.2.2 v_onwardEdge (upd v_x v_cubes.toNatClampNeg p1) (upd v_y v_cubes.toNatClampNeg p2) (upd v_z v_cubes.toNatClampNeg p3))) [0, 1, 2, 3, 4, 5, 6, 7, 8] rfl
  have hDc := hD.sub (ws' := (wd_X4_joinFaces cI cZ cJ a_this a_beyondEdge a_cubeOf a_faceOf a_lookOf a_onwardEdge a_x a_y a_z (v_cubes + (1 : Int32)) u_2.1 v_beyondEdge u_2.2.1 u_2.2.2.1 u_2.2.2.2 v_onwardEdge (upd v_x v_cubes.toNatClampNeg p1) (upd v_y v_cubes.toNatClampNeg p2) (upd v_z v_cubes.toNatClampNeg p3))) [0, 1, 2, 3, 4, 5, 6, 7, 8] (by decide) rfl
  have hFc := va_free (wc := (wd_X4_joinFaces cI cZ cJ a_this a_beyondEdge a_cubeOf a_faceOf a_lookOf a_onwardEdge a_x a_y a_z (v_cubes + (1 : Int32)) u_2.1 v_beyondEdge u_2.2.1 u_2.2.2.1 u_2.2.2.2 v_onwardEdge (upd v_x v_cubes.toNatClampNeg p1) (upd v_y v_cubes.toNatClampNeg p2) (upd v_z v_cubes.toNatClampNeg p3))) hD hS hA [0, 1, 2, 3, 4, 5, 6, 7, 8] rfl
  refine va_callv (va_runV (As := []) (rest := []) C (c_X4_joinFaces l D cI cZ cJ tb a_this a_beyondEdge a_cubeOf a_faceOf a_lookOf a_onwardEdge a_x a_y a_z (v_cubes + (1 : Int32)) u_2.1 v_beyondEdge u_2.2.1 u_2.2.2.1 u_2.2.2.2 v_onwardEdge (upd v_x v_cubes.toNatClampNeg p1) (upd v_y v_cubes.toNatClampNeg p2) (upd v_z v_cubes.toNatClampNeg p3) H.size h) (cwV 0 hts gX4_add_X4_joinFaces rfl rfl rfl (by decide +kernel) ⟨Nat.le_of_ble_eq_true rfl, Nat.le_of_ble_eq_true rfl⟩) ⟨q_pre.blind, va_recv hK hP (ci := 4) (q0 := 0) rfl rfl, fun U hU hW => ⟨rfl, q_pre.of hU hW hPc hK hDc hSt hS hFc hNw⟩⟩ rfl rfl hl.1 rfl (lv_room (Nat.le_of_ble_eq_true rfl)) dX4_add_45 ⟨Nat.zero_le _, Nat.zero_le _⟩) hS (fun q _ h => hFc q h) hFc (fun u_8 t H1 locs ht hvm hw hB hz1 hk1 hS => ?_)
  obtain ⟨hP1, hK1, hD1⟩ := hB
  rw [ht] at hP1
  obtain ⟨hP, hD⟩ := va_join (wr := []) (w1 := (wd_X4_joinFaces cI cZ cJ a_this a_beyondEdge a_cubeOf a_faceOf a_lookOf a_onwardEdge a_x a_y a_z (v_cubes + (1 : Int32)) u_2.1 u_8.1 u_2.2.1 u_2.2.2.1 u_2.2.2.2 u_8.2 (upd v_x v_cubes.toNatClampNeg p1) (upd v_y v_cubes.toNatClampNeg p2) (upd v_z v_cubes.toNatClampNeg p3))) hP hD [0, 1, 2, 3, 4, 5, 6, 7, 8] [] rfl rfl (by decide) (by decide) hk1 hFc hP1 hD1
  clear hPc hDc hFc hP1 hD1 hK1 hk1 hz1 ht hvm
  replace h := hw
  clear hw
  generalize H1 = H at hP hS ⊢
  replace hP : va_P D vwCl (wd_X4_add cI cZ cJ a_this a_beyondEdge a_cubeOf a_faceOf a_lookOf a_onwardEdge a_x a_y a_z (v_cubes + (1 : Int32)) u_2.1 u_8.1 u_2.2.1 u_2.2.2.1 u_2.2.2.2 u_8.2 (upd v_x v_cubes.toNatClampNeg p1) (upd v_y v_cubes.toNatClampNeg p2) (upd v_z v_cubes.toNatClampNeg p3)) H := hP.sub [0, 1, 2, 3, 4, 5, 6, 7, 8] rfl
  replace hD : va_D A (wd_X4_add cI cZ cJ a_this a_beyondEdge a_cubeOf a_faceOf a_lookOf a_onwardEdge a_x a_y a_z (v_cubes + (1 : Int32)) u_2.1 u_8.1 u_2.2.1 u_2.2.2.1 u_2.2.2.2 u_8.2 (upd v_x v_cubes.toNatClampNeg p1) (upd v_y v_cubes.toNatClampNeg p2) (upd v_z v_cubes.toNatClampNeg p3)) := hD.sub [0, 1, 2, 3, 4, 5, 6, 7, 8] (by decide) rfl
  exact ret ((v_cubes + (1 : Int32)), u_2.1, u_8.1, u_2.2.1, u_2.2.2.1, u_2.2.2.2, u_8.2, (upd v_x v_cubes.toNatClampNeg p1), (upd v_y v_cubes.toNatClampNeg p2), (upd v_z v_cubes.toNatClampNeg p3)) _ _ _ 48 dX4_add_48 h hP hD hS
def wd_X4_canJoin (cI cZ cJ : ClassId) (a_this a_x a_y a_z a_cubeOf a_lookOf a_faceOf a_beyondEdge a_onwardEdge : Nat) (v_cubes : Int32) (v_faces : Int32) (v_x : Nat → Int32) (v_y : Nat → Int32) (v_z : Nat → Int32) : va_W := [(a_this, .inr (4, [.int v_cubes, .int v_faces, .ref a_cubeOf, .ref a_lookOf, .ref a_x, .ref a_y, .ref a_z, .ref a_faceOf, .ref a_beyondEdge, .ref a_onwardEdge])),
  (a_x, .inl (cI, 5, .inl v_x)),
  (a_y, .inl (cI, 5, .inl v_y)),
  (a_z, .inl (cI, 5, .inl v_z))]
abbrev rm_X4_canJoin : Room := { frames := 1, cells := 0, slots := 0, locals := 24 }
set_option maxHeartbeats 4000000 in
set_option maxRecDepth 100000 in
theorem c_X4_canJoin (l : Launch) (D : va_G) (cI cZ cJ : ClassId) (tb : Nat → Nat) (a_this a_x a_y a_z a_cubeOf a_lookOf a_faceOf a_beyondEdge a_onwardEdge : Nat) (v_cubes : Int32) (v_faces : Int32) (v_x : Nat → Int32) (v_y : Nat → Int32) (v_z : Nat → Int32) (sz : Nat) (p1 : Int32) (p2 : Int32) (p3 : Int32) {post : Int32 → Prop} (h : wp_X4_canJoin v_cubes v_x v_y v_z p1 p2 p3 post) : Met l yX4_canJoin wsX4_canJoin rm_X4_canJoin (va_Pc [.ref a_this, .int p1, .int p2, .int p3] (q_pre D cI cZ cJ tb (wd_X4_canJoin cI cZ cJ a_this a_x a_y a_z a_cubeOf a_lookOf a_faceOf a_beyondEdge a_onwardEdge v_cubes v_faces v_x v_y v_z) sz)) (va_Qi (fun r (u : Unit) => post r) (fun u => q_post D cI cZ cJ (va_A (wd_X4_canJoin cI cZ cJ a_this a_x a_y a_z a_cubeOf a_lookOf a_faceOf a_beyondEdge a_onwardEdge v_cubes v_faces v_x v_y v_z) sz) (wd_X4_canJoin cI cZ cJ a_this a_x a_y a_z a_cubeOf a_lookOf a_faceOf a_beyondEdge a_onwardEdge v_cubes v_faces v_x v_y v_z)) (va_A (wd_X4_canJoin cI cZ cJ a_this a_x a_y a_z a_cubeOf a_lookOf a_faceOf a_beyondEdge a_onwardEdge v_cubes v_faces v_x v_y v_z) sz)) 0 0 (va_A (wd_X4_canJoin cI cZ cJ a_this a_x a_y a_z a_cubeOf a_lookOf a_faceOf a_beyondEdge a_onwardEdge v_cubes v_faces v_x v_y v_z) sz) := by
  refine q_walkz (cc := cX4_canJoin) (maxL := 6) (own := RX4) (wd := fun (u : Unit) => (wd_X4_canJoin cI cZ cJ a_this a_x a_y a_z a_cubeOf a_lookOf a_faceOf a_beyondEdge a_onwardEdge v_cubes v_faces v_x v_y v_z)) (by decide) rfl rfl (Nat.le_of_ble_eq_true rfl) ?_
  intro p e s m below meth c Q A ls C hA ret hP hD hS hK hSt hNw hl
  obtain ⟨hx, hb, hml, hown, hts⟩ := id C
  replace hl : lv_has ls 6 [(0, .ref a_this), (1, .int p1), (2, .int p2), (3, .int p3)] := hl
  have hZ0 : va_Z "NetSearch" "STEP_X" "[I" (.ref (tb 0)) A s s.heap := (hSt 0 (by decide)).1
  have hT0 : va_T .int (tb 0) 6 (fun j => .int (q_STEP_X j)) A s s.heap := (hSt 0 (by decide)).2
  have g40 : (Cond.fieldLinkNest RX4 40 "NetSearch" "STEP_X" "[I" "NetSearch").before ([.ref a_this, .int p1, .int p2, .int p3] : List Value).toArray s = true := va_Nw.use rfl (hNw.1 (RX4, 40, "NetSearch", "STEP_X", "[I", "NetSearch") (by decide +kernel))
  have hZ1 : va_Z "NetSearch" "STEP_Y" "[I" (.ref (tb 1)) A s s.heap := (hSt 1 (by decide)).1
  have hT1 : va_T .int (tb 1) 6 (fun j => .int (q_STEP_Y j)) A s s.heap := (hSt 1 (by decide)).2
  have g43 : (Cond.fieldLinkNest RX4 43 "NetSearch" "STEP_Y" "[I" "NetSearch").before ([.ref a_this, .int p1, .int p2, .int p3] : List Value).toArray s = true := va_Nw.use rfl (hNw.1 (RX4, 43, "NetSearch", "STEP_Y", "[I", "NetSearch") (by decide +kernel))
  have hZ2 : va_Z "NetSearch" "STEP_Z" "[I" (.ref (tb 2)) A s s.heap := (hSt 2 (by decide)).1
  have hT2 : va_T .int (tb 2) 6 (fun j => .int (q_STEP_Z j)) A s s.heap := (hSt 2 (by decide)).2
  have g46 : (Cond.fieldLinkNest RX4 46 "NetSearch" "STEP_Z" "[I" "NetSearch").before ([.ref a_this, .int p1, .int p2, .int p3] : List Value).toArray s = true := va_Nw.use rfl (hNw.1 (RX4, 46, "NetSearch", "STEP_Z", "[I", "NetSearch") (by decide +kernel))
  have f36 := hts (.fieldLink RX4 36 "NetSearch$Solid" "cubes" "I") (by decide +kernel)
  have iX4 : ∀ w ∈ wsX40, w ∈ wsX4_canJoin := by decide +kernel
  have L17_ok : ∀ (l1 : Int32) (l2 : Int32) (l3 : Int32) (kx73 : Int32 → Prop) (hkx73 : ∀ (l4 : Int32) (H : Heap) (locs : List Loc) (ls : Array Slot), kx73 l4 → va_P D vwCl (wd_X4_canJoin cI cZ cJ a_this a_x a_y a_z a_cubeOf a_lookOf a_faceOf a_beyondEdge a_onwardEdge v_cubes v_faces v_x v_y v_z) H → va_D A (wd_X4_canJoin cI cZ cJ a_this a_x a_y a_z a_cubeOf a_lookOf a_faceOf a_beyondEdge a_onwardEdge v_cubes v_faces v_x v_y v_z) → va_S A s.heap H locs → lv_has ls 6 [(4, .int l4)] → W p l e rm_X4_canJoin s m ([.ref a_this, .int p1, .int p2, .int p3] : List Value).toArray below meth c H locs 0 0 Q (F0 m 73 ls [])) (n : Nat) (l4 : Int32) (l5 : Int32) (H : Heap) (locs : List Loc) (ls : Array Slot), lpN (wl_X4_canJoin_17 v_cubes v_x v_y v_z l1 l2 l3 kx73) n (l4, l5) → va_P D vwCl (wd_X4_canJoin cI cZ cJ a_this a_x a_y a_z a_cubeOf a_lookOf a_faceOf a_beyondEdge a_onwardEdge v_cubes v_faces v_x v_y v_z) H → va_D A (wd_X4_canJoin cI cZ cJ a_this a_x a_y a_z a_cubeOf a_lookOf a_faceOf a_beyondEdge a_onwardEdge v_cubes v_faces v_x v_y v_z) → va_S A s.heap H locs → lv_has ls 6 [(0, .ref a_this), (1, .int l1), (2, .int l2), (3, .int l3), (4, .int l4), (5, .int l5)] → W p l e rm_X4_canJoin s m ([.ref a_this, .int p1, .int p2, .int p3] : List Value).toArray below meth c H locs 0 0 Q (F0 m 17 ls []) := by
    intro l1 l2 l3 kx73 hkx73 n
    induction n with
    | zero => intro l4 l5 H locs ls h; exact False.elim h
    | succ n ih =>
      intro l4 l5 H locs ls h hP hD hS hl
      have h : wb_X4_canJoin_17 v_cubes v_x v_y v_z l1 l2 l3 kx73 (fun l4 l5 => lpN (wl_X4_canJoin_17 v_cubes v_x v_y v_z l1 l2 l3 kx73) n (l4, l5)) l4 l5 := h
      unfold wb_X4_canJoin_17 at h
      refine lv_iload hx hb dX4_canJoin_17 (lv_at hl 5 rfl) ?_
      refine lv_bipush (v := 6) hx hb dX4_canJoin_19 (by decide) ?_
      refine lv_icmp_ge (tgt := 73) hx hb dX4_canJoin_21 (by decide) (fun hc => ?_) (fun hc => ?_)
      · replace h := h.1 hc
        exact hkx73 l4 _ _ _ h hP hD hS (lv_sub hl [4] rfl)
      · replace h := h.2 hc
        refine lv_iload hx hb dX4_canJoin_24 (lv_at hl 4 rfl) ?_
        refine lv_if_ne (tgt := 73) hx hb dX4_canJoin_26 (by decide) (fun hc => ?_) (fun hc => ?_)
        · replace h := h.1 hc
          exact hkx73 l4 _ _ _ h hP hD hS (lv_sub hl [4] rfl)
        · replace h := h.2 hc
          refine lv_aload_n hx hb dX4_canJoin_29 rfl (lv_at hl 0 rfl) ?_
          refine lv_iload_n hx hb dX4_canJoin_30 rfl (lv_at hl 1 rfl) ?_
          refine va_getsN hx hb hZ0 hS hown g40 (fun _ h9 => h9) dX4_canJoin_31 ?_
          refine lv_iload hx hb dX4_canJoin_34 (lv_at hl 5 rfl) ?_
          obtain ⟨hin, h⟩ := h
          refine va_ti (v := .int (q_STEP_X l5.toNatClampNeg)) hx hb hT0 hS hin rfl dX4_canJoin_36 ?_
          refine lv_iadd hx hb dX4_canJoin_37 ?_
          refine lv_iload_n hx hb dX4_canJoin_38 rfl (lv_at hl 2 rfl) ?_
          refine va_getsN hx hb hZ1 hS hown g43 (fun _ h9 => h9) dX4_canJoin_39 ?_
          refine lv_iload hx hb dX4_canJoin_42 (lv_at hl 5 rfl) ?_
          obtain ⟨hin, h⟩ := h
          refine va_ti (v := .int (q_STEP_Y l5.toNatClampNeg)) hx hb hT1 hS hin rfl dX4_canJoin_44 ?_
          refine lv_iadd hx hb dX4_canJoin_45 ?_
          refine lv_iload_n hx hb dX4_canJoin_46 rfl (lv_at hl 3 rfl) ?_
          refine va_getsN hx hb hZ2 hS hown g46 (fun _ h9 => h9) dX4_canJoin_47 ?_
          refine lv_iload hx hb dX4_canJoin_50 (lv_at hl 5 rfl) ?_
          obtain ⟨hin, h⟩ := h
          refine va_ti (v := .int (q_STEP_Z l5.toNatClampNeg)) hx hb hT2 hS hin rfl dX4_canJoin_52 ?_
          refine lv_iadd hx hb dX4_canJoin_53 ?_
          have hPc := hP.sub (ws' := (wd_X4_cubeAt cI cZ cJ a_this a_x a_y a_z a_cubeOf a_lookOf a_faceOf a_beyondEdge a_onwardEdge v_cubes v_faces v_x v_y v_z)) [0, 1, 2, 3] rfl
          have hDc := hD.sub (ws' := (wd_X4_cubeAt cI cZ cJ a_this a_x a_y a_z a_cubeOf a_lookOf a_faceOf a_beyondEdge a_onwardEdge v_cubes v_faces v_x v_y v_z)) [0, 1, 2, 3] (by decide) rfl
          have hFc := va_free (wc := (wd_X4_cubeAt cI cZ cJ a_this a_x a_y a_z a_cubeOf a_lookOf a_faceOf a_beyondEdge a_onwardEdge v_cubes v_faces v_x v_y v_z)) hD hS hA [0, 1, 2, 3] rfl
          refine va_calli (va_runV (As := [.int (l1 + (q_STEP_X l5.toNatClampNeg)), .int (l2 + (q_STEP_Y l5.toNatClampNeg)), .int (l3 + (q_STEP_Z l5.toNatClampNeg))]) (rest := []) C (c_X4_cubeAt l D cI cZ cJ tb a_this a_x a_y a_z a_cubeOf a_lookOf a_faceOf a_beyondEdge a_onwardEdge v_cubes v_faces v_x v_y v_z H.size (l1 + (q_STEP_X l5.toNatClampNeg)) (l2 + (q_STEP_Y l5.toNatClampNeg)) (l3 + (q_STEP_Z l5.toNatClampNeg)) h) (cwV 3 hts gX4_canJoin_X4_cubeAt rfl rfl rfl (by decide +kernel) ⟨Nat.le_of_ble_eq_true rfl, Nat.le_of_ble_eq_true rfl⟩) ⟨q_pre.blind, va_recv hK hP (ci := 4) (q0 := 0) rfl rfl, fun U hU hW => ⟨rfl, q_pre.of hU hW hPc hK hDc hSt hS hFc hNw⟩⟩ rfl rfl hl.1 rfl (lv_room (Nat.le_of_ble_eq_true rfl)) dX4_canJoin_54 ⟨Nat.zero_le _, Nat.zero_le _⟩) hS (fun q _ h => hFc q h) hFc (fun r_1 u_2 t H1 locs ht hvm hw hB hz1 hk1 hS => ?_)
          obtain ⟨hP1, hK1, hD1⟩ := hB
          rw [ht] at hP1
          obtain ⟨hP, hD⟩ := va_join (wr := []) (w1 := (wd_X4_cubeAt cI cZ cJ a_this a_x a_y a_z a_cubeOf a_lookOf a_faceOf a_beyondEdge a_onwardEdge v_cubes v_faces v_x v_y v_z)) hP hD [0, 1, 2, 3] [] rfl rfl (by decide) (by decide) hk1 hFc hP1 hD1
          clear hPc hDc hFc hP1 hD1 hK1 hk1 hz1 ht hvm
          replace h := hw
          clear hw
          generalize H1 = H at hP hS ⊢
          replace hP : va_P D vwCl (wd_X4_canJoin cI cZ cJ a_this a_x a_y a_z a_cubeOf a_lookOf a_faceOf a_beyondEdge a_onwardEdge v_cubes v_faces v_x v_y v_z) H := hP.sub [0, 1, 2, 3] rfl
          replace hD : va_D A (wd_X4_canJoin cI cZ cJ a_this a_x a_y a_z a_cubeOf a_lookOf a_faceOf a_beyondEdge a_onwardEdge v_cubes v_faces v_x v_y v_z) := hD.sub [0, 1, 2, 3] (by decide) rfl
          refine lv_if_lt (tgt := 64) hx hb dX4_canJoin_57 (by decide) (fun hc => ?_) (fun hc => ?_)
          · replace h := h.1 hc
            refine lv_iconst (v := 0) hx hb dX4_canJoin_64 (by decide) ?_
            refine lv_istore (lv' := [(4, .int (0 : Int32)), (0, .ref a_this), (1, .int l1), (2, .int l2), (3, .int l3), (5, .int l5)]) hx hb dX4_canJoin_65 hl (by decide) rfl (fun ls hl => ?_)
            refine lv_iinc (v := (l5 + (1 : Int32))) (lv' := [(5, .int (l5 + (1 : Int32))), (4, .int (0 : Int32)), (0, .ref a_this), (1, .int l1), (2, .int l2), (3, .int l3)]) hx hb dX4_canJoin_67 hl (k := 5) rfl rfl (by decide) rfl (fun ls hl => ?_)
            refine lv_goto (tgt := 17) hx hb dX4_canJoin_70 (by decide) ?_
            exact ih (0 : Int32) (l5 + (1 : Int32)) _ _ _ h hP hD hS (lv_sub hl [2, 3, 4, 5, 1, 0] rfl)
          · replace h := h.2 hc
            refine lv_iconst (v := 1) hx hb dX4_canJoin_60 (by decide) ?_
            refine lv_goto (tgt := 65) hx hb dX4_canJoin_61 (by decide) ?_
            refine lv_istore (lv' := [(4, .int (1 : Int32)), (0, .ref a_this), (1, .int l1), (2, .int l2), (3, .int l3), (5, .int l5)]) hx hb dX4_canJoin_65 hl (by decide) rfl (fun ls hl => ?_)
            refine lv_iinc (v := (l5 + (1 : Int32))) (lv' := [(5, .int (l5 + (1 : Int32))), (4, .int (1 : Int32)), (0, .ref a_this), (1, .int l1), (2, .int l2), (3, .int l3)]) hx hb dX4_canJoin_67 hl (k := 5) rfl rfl (by decide) rfl (fun ls hl => ?_)
            refine lv_goto (tgt := 17) hx hb dX4_canJoin_70 (by decide) ?_
            exact ih (1 : Int32) (l5 + (1 : Int32)) _ _ _ h hP hD hS (lv_sub hl [2, 3, 4, 5, 1, 0] rfl)
  have J12_ok : ∀   (l1 : Int32) (l2 : Int32) (l3 : Int32) (t0 : Int32) (H : Heap) (locs : List Loc) (ls : Array Slot), wj_X4_canJoin_12 v_cubes v_x v_y v_z post l1 l2 l3 t0 → va_P D vwCl (wd_X4_canJoin cI cZ cJ a_this a_x a_y a_z a_cubeOf a_lookOf a_faceOf a_beyondEdge a_onwardEdge v_cubes v_faces v_x v_y v_z) H → va_D A (wd_X4_canJoin cI cZ cJ a_this a_x a_y a_z a_cubeOf a_lookOf a_faceOf a_beyondEdge a_onwardEdge v_cubes v_faces v_x v_y v_z) → va_S A s.heap H locs → lv_has ls 6 [(0, .ref a_this), (1, .int l1), (2, .int l2), (3, .int l3)] → W p l e rm_X4_canJoin s m ([.ref a_this, .int p1, .int p2, .int p3] : List Value).toArray below meth c H locs 0 0 Q (F0 m 12 ls [.int t0]) := by
    intro    l1 l2 l3 t0 H locs ls h hP hD hS hl
    unfold wj_X4_canJoin_12 at h
    refine lv_istore (lv' := [(4, .int t0), (0, .ref a_this), (1, .int l1), (2, .int l2), (3, .int l3)]) hx hb dX4_canJoin_12 hl (by decide) rfl (fun ls hl => ?_)
    refine lv_iconst (v := 0) hx hb dX4_canJoin_14 (by decide) ?_
    refine lv_istore (lv' := [(5, .int (0 : Int32)), (4, .int t0), (0, .ref a_this), (1, .int l1), (2, .int l2), (3, .int l3)]) hx hb dX4_canJoin_15 hl (by decide) rfl (fun ls hl => ?_)
    obtain ⟨n, h⟩ := h
    refine L17_ok l1 l2 l3 _ (fun l4_3 H locs ls h hP hD hS hl => ?_) n t0 (0 : Int32) _ _ _ h hP hD hS (lv_sub hl [2, 3, 4, 5, 1, 0] rfl)
    refine lv_iload hx hb dX4_canJoin_73 (lv_at hl 0 rfl) ?_
    exact ret l4_3 () _ _ _ 75 dX4_canJoin_75 h hP hD hS
  unfold wp_X4_canJoin at h
  refine lv_aload_n hx hb dX4_canJoin_0 rfl (lv_at hl 0 rfl) ?_
  refine va_get (D := D) (ci := 4) (v := .int v_cubes) (C := RX4) (T := TX4) (N := 10) hx hb hts iX4 hown hK hP 0 rfl rfl 0 (by decide) f36 (fun _ h9 => h9) rfl dX4_canJoin_1 ?_
  refine lv_if_ne (tgt := 11) hx hb dX4_canJoin_4 (by decide) (fun hc => ?_) (fun hc => ?_)
  · replace h := h.1 hc
    refine lv_iconst (v := 0) hx hb dX4_canJoin_11 (by decide) ?_
    exact J12_ok   p1 p2 p3 (0 : Int32) _ _ _ h hP hD hS (lv_sub hl [0, 1, 2, 3] rfl)
  · replace h := h.2 hc
    refine lv_iconst (v := 1) hx hb dX4_canJoin_7 (by decide) ?_
    refine lv_goto (tgt := 12) hx hb dX4_canJoin_8 (by decide) ?_
    exact J12_ok   p1 p2 p3 (1 : Int32) _ _ _ h hP hD hS (lv_sub hl [0, 1, 2, 3] rfl)
def wd_X4_removeAll (cI cZ cJ : ClassId) (a_this a_cubeOf a_lookOf a_x a_y a_z a_faceOf a_beyondEdge a_onwardEdge : Nat) (v_cubes : Int32) (v_faces : Int32) : va_W := [(a_this, .inr (4, [.int v_cubes, .int v_faces, .ref a_cubeOf, .ref a_lookOf, .ref a_x, .ref a_y, .ref a_z, .ref a_faceOf, .ref a_beyondEdge, .ref a_onwardEdge]))]
abbrev rm_X4_removeAll : Room := { frames := 0, cells := 0, slots := 0, locals := 0 }
set_option maxHeartbeats 4000000 in
set_option maxRecDepth 100000 in
theorem c_X4_removeAll (l : Launch) (D : va_G) (cI cZ cJ : ClassId) (tb : Nat → Nat) (a_this a_cubeOf a_lookOf a_x a_y a_z a_faceOf a_beyondEdge a_onwardEdge : Nat) (v_cubes : Int32) (v_faces : Int32) (sz : Nat) {post : Int32 → Int32 → Prop} (h : wp_X4_removeAll v_cubes v_faces post) : Met l yX4_removeAll wsX4_removeAll rm_X4_removeAll (va_Pc [.ref a_this] (q_pre D cI cZ cJ tb (wd_X4_removeAll cI cZ cJ a_this a_cubeOf a_lookOf a_x a_y a_z a_faceOf a_beyondEdge a_onwardEdge v_cubes v_faces) sz)) (va_Qv (fun (u : Int32 × Int32) => post u.1 u.2) (fun u => q_post D cI cZ cJ (va_A (wd_X4_removeAll cI cZ cJ a_this a_cubeOf a_lookOf a_x a_y a_z a_faceOf a_beyondEdge a_onwardEdge v_cubes v_faces) sz) (wd_X4_removeAll cI cZ cJ a_this a_cubeOf a_lookOf a_x a_y a_z a_faceOf a_beyondEdge a_onwardEdge u.1 u.2)) (va_A (wd_X4_removeAll cI cZ cJ a_this a_cubeOf a_lookOf a_x a_y a_z a_faceOf a_beyondEdge a_onwardEdge v_cubes v_faces) sz)) 0 0 (va_A (wd_X4_removeAll cI cZ cJ a_this a_cubeOf a_lookOf a_x a_y a_z a_faceOf a_beyondEdge a_onwardEdge v_cubes v_faces) sz) := by
  refine q_walkv (cc := cX4_removeAll) (maxL := 1) (own := RX4) (wd := fun (u : Int32 × Int32) => (wd_X4_removeAll cI cZ cJ a_this a_cubeOf a_lookOf a_x a_y a_z a_faceOf a_beyondEdge a_onwardEdge u.1 u.2)) (by decide) rfl rfl (Nat.le_of_ble_eq_true rfl) ?_
  intro p e s m below meth c Q A ls C hA ret hP hD hS hK hSt hNw hl
  obtain ⟨hx, hb, hml, hown, hts⟩ := id C
  replace hl : lv_has ls 1 [(0, .ref a_this)] := hl
  have f36 := hts (.fieldLink RX4 36 "NetSearch$Solid" "cubes" "I") (by decide +kernel)
  have iX4 : ∀ w ∈ wsX40, w ∈ wsX4_removeAll := by decide +kernel
  have f59 := hts (.fieldLink RX4 59 "NetSearch$Solid" "faces" "I") (by decide +kernel)
  unfold wp_X4_removeAll at h
  refine lv_aload_n hx hb dX4_removeAll_0 rfl (lv_at hl 0 rfl) ?_
  refine lv_iconst (v := 0) hx hb dX4_removeAll_1 (by decide) ?_
  refine va_put (D := D) (ci := 4) (v := .int (0 : Int32)) (ty := .int) (C := RX4) (T := TX4) (N := 10) hx hb hts iX4 tyX4 tyX4_ok nmX4 hown hK hP hD hS 0 rfl rfl 0 (by decide) f36 (fun _ h9 => h9) rfl (by decide +kernel) rfl rfl (Nat.le_of_ble_eq_true rfl) dX4_removeAll_2 (fun H locs hP hD hS => ?_)
  replace hP : va_P D vwCl (wd_X4_removeAll cI cZ cJ a_this a_cubeOf a_lookOf a_x a_y a_z a_faceOf a_beyondEdge a_onwardEdge (0 : Int32) v_faces) H := hP
  replace hD : va_D A (wd_X4_removeAll cI cZ cJ a_this a_cubeOf a_lookOf a_x a_y a_z a_faceOf a_beyondEdge a_onwardEdge (0 : Int32) v_faces) := hD
  refine lv_aload_n hx hb dX4_removeAll_5 rfl (lv_at hl 0 rfl) ?_
  refine lv_iconst (v := 0) hx hb dX4_removeAll_6 (by decide) ?_
  refine va_put (D := D) (ci := 4) (v := .int (0 : Int32)) (ty := .int) (C := RX4) (T := TX4) (N := 10) hx hb hts iX4 tyX4 tyX4_ok nmX4 hown hK hP hD hS 0 rfl rfl 1 (by decide) f59 (fun _ h9 => h9) rfl (by decide +kernel) rfl rfl (Nat.le_of_ble_eq_true rfl) dX4_removeAll_7 (fun H locs hP hD hS => ?_)
  replace hP : va_P D vwCl (wd_X4_removeAll cI cZ cJ a_this a_cubeOf a_lookOf a_x a_y a_z a_faceOf a_beyondEdge a_onwardEdge (0 : Int32) (0 : Int32)) H := hP
  replace hD : va_D A (wd_X4_removeAll cI cZ cJ a_this a_cubeOf a_lookOf a_x a_y a_z a_faceOf a_beyondEdge a_onwardEdge (0 : Int32) (0 : Int32)) := hD
  exact ret ((0 : Int32), (0 : Int32)) _ _ _ 10 dX4_removeAll_10 h hP hD hS
def wd_X5_addEdge (cI cZ cJ : ClassId) (a_this a_matrix a_solid : Nat) (v_matrix : Nat → Int64) : va_W := [(a_this, .inr (5, [.ref a_solid, .ref a_matrix])),
  (a_matrix, .inl (cJ, 441, .inr (.inl v_matrix)))]
abbrev rm_X5_addEdge : Room := { frames := 0, cells := 0, slots := 0, locals := 0 }
set_option maxHeartbeats 4000000 in
set_option maxRecDepth 100000 in
theorem c_X5_addEdge (l : Launch) (D : va_G) (cI cZ cJ : ClassId) (tb : Nat → Nat) (a_this a_matrix a_solid : Nat) (v_matrix : Nat → Int64) (sz : Nat) (p1 : Int32) (p2 : Int32) (p3 : Int32) {post : (Nat → Int64) → Prop} (h : wp_X5_addEdge v_matrix p1 p2 p3 post) : Met l yX5_addEdge wsX5_addEdge rm_X5_addEdge (va_Pc [.ref a_this, .int p1, .int p2, .int p3] (q_pre D cI cZ cJ tb (wd_X5_addEdge cI cZ cJ a_this a_matrix a_solid v_matrix) sz)) (va_Qv (fun (u : Nat → Int64) => post u) (fun u => q_post D cI cZ cJ (va_A (wd_X5_addEdge cI cZ cJ a_this a_matrix a_solid v_matrix) sz) (wd_X5_addEdge cI cZ cJ a_this a_matrix a_solid u)) (va_A (wd_X5_addEdge cI cZ cJ a_this a_matrix a_solid v_matrix) sz)) 0 0 (va_A (wd_X5_addEdge cI cZ cJ a_this a_matrix a_solid v_matrix) sz) := by
  refine q_walkv (cc := cX5_addEdge) (maxL := 4) (own := RX5) (wd := fun (u : Nat → Int64) => (wd_X5_addEdge cI cZ cJ a_this a_matrix a_solid u)) (by decide) rfl rfl (Nat.le_of_ble_eq_true rfl) ?_
  intro p e s m below meth c Q A ls C hA ret hP hD hS hK hSt hNw hl
  obtain ⟨hx, hb, hml, hown, hts⟩ := id C
  replace hl : lv_has ls 4 [(0, .ref a_this), (1, .int p1), (2, .int p2), (3, .int p3)] := hl
  have f11 := hts (.fieldLink RX5 11 "NetSearch$TreeCounter" "matrix" "[J") (by decide +kernel)
  have iX5 : ∀ w ∈ wsX50, w ∈ wsX5_addEdge := by decide +kernel
  unfold wp_X5_addEdge at h
  refine lv_aload_n hx hb dX5_addEdge_0 rfl (lv_at hl 0 rfl) ?_
  refine va_get (D := D) (ci := 5) (v := .ref a_matrix) (C := RX5) (T := TX5) (N := 2) hx hb hts iX5 hown hK hP 0 rfl rfl 1 (by decide) f11 (fun _ h9 => h9) rfl dX5_addEdge_1 ?_
  refine lv_iload_n hx hb dX5_addEdge_4 rfl (lv_at hl 1 rfl) ?_
  refine lv_bipush (v := 21) hx hb dX5_addEdge_5 (by decide) ?_
  refine lv_imul hx hb dX5_addEdge_7 ?_
  refine lv_iload_n hx hb dX5_addEdge_8 rfl (lv_at hl 1 rfl) ?_
  refine lv_iadd hx hb dX5_addEdge_9 ?_
  refine lv_dup2_11 hx hb dX5_addEdge_10 rfl rfl ?_
  obtain ⟨hin, h⟩ := h
  refine va_lald hx hb hK hP 1 2 rfl rfl hin dX5_addEdge_11 ?_
  refine lv_lconst (v := 1) hx hb dX5_addEdge_12 (by decide) ?_
  refine lv_ladd hx hb dX5_addEdge_13 ?_
  obtain ⟨hin, h⟩ := h
  refine va_last hx hb hK hP hD hS 1 2 rfl rfl hin dX5_addEdge_14 (fun H locs hP hD hS => ?_)
  replace hP : va_P D vwCl (wd_X5_addEdge cI cZ cJ a_this a_matrix a_solid (vp_updL v_matrix ((p1 * (21 : Int32)) + p1).toNatClampNeg ((v_matrix ((p1 * (21 : Int32)) + p1).toNatClampNeg) + (1 : Int64)))) H := hP
  replace hD : va_D A (wd_X5_addEdge cI cZ cJ a_this a_matrix a_solid (vp_updL v_matrix ((p1 * (21 : Int32)) + p1).toNatClampNeg ((v_matrix ((p1 * (21 : Int32)) + p1).toNatClampNeg) + (1 : Int64)))) := hD
  refine lv_iload_n hx hb dX5_addEdge_15 rfl (lv_at hl 2 rfl) ?_
  refine lv_iload_n hx hb dX5_addEdge_16 rfl (lv_at hl 3 rfl) ?_
  refine lv_icmp_ge (tgt := 35) hx hb dX5_addEdge_17 (by decide) (fun hc => ?_) (fun hc => ?_)
  · replace h := h.1 hc
    exact ret (vp_updL v_matrix ((p1 * (21 : Int32)) + p1).toNatClampNeg ((v_matrix ((p1 * (21 : Int32)) + p1).toNatClampNeg) + (1 : Int64))) _ _ _ 35 dX5_addEdge_35 h hP hD hS
  · replace h := h.2 hc
    refine lv_aload_n hx hb dX5_addEdge_20 rfl (lv_at hl 0 rfl) ?_
    refine va_get (D := D) (ci := 5) (v := .ref a_matrix) (C := RX5) (T := TX5) (N := 2) hx hb hts iX5 hown hK hP 0 rfl rfl 1 (by decide) f11 (fun _ h9 => h9) rfl dX5_addEdge_21 ?_
    refine lv_iload_n hx hb dX5_addEdge_24 rfl (lv_at hl 1 rfl) ?_
    refine lv_bipush (v := 21) hx hb dX5_addEdge_25 (by decide) ?_
    refine lv_imul hx hb dX5_addEdge_27 ?_
    refine lv_iload_n hx hb dX5_addEdge_28 rfl (lv_at hl 2 rfl) ?_
    refine lv_iadd hx hb dX5_addEdge_29 ?_
    refine lv_dup2_11 hx hb dX5_addEdge_30 rfl rfl ?_
    obtain ⟨hin, h⟩ := h
    refine va_lald hx hb hK hP 1 2 rfl rfl hin dX5_addEdge_31 ?_
    refine lv_lconst (v := 1) hx hb dX5_addEdge_32 (by decide) ?_
    refine lv_lsub hx hb dX5_addEdge_33 ?_
    obtain ⟨hin, h⟩ := h
    refine va_last hx hb hK hP hD hS 1 2 rfl rfl hin dX5_addEdge_34 (fun H locs hP hD hS => ?_)
    replace hP : va_P D vwCl (wd_X5_addEdge cI cZ cJ a_this a_matrix a_solid (vp_updL (vp_updL v_matrix ((p1 * (21 : Int32)) + p1).toNatClampNeg ((v_matrix ((p1 * (21 : Int32)) + p1).toNatClampNeg) + (1 : Int64))) ((p1 * (21 : Int32)) + p2).toNatClampNeg (((vp_updL v_matrix ((p1 * (21 : Int32)) + p1).toNatClampNeg ((v_matrix ((p1 * (21 : Int32)) + p1).toNatClampNeg) + (1 : Int64))) ((p1 * (21 : Int32)) + p2).toNatClampNeg) - (1 : Int64)))) H := hP
    replace hD : va_D A (wd_X5_addEdge cI cZ cJ a_this a_matrix a_solid (vp_updL (vp_updL v_matrix ((p1 * (21 : Int32)) + p1).toNatClampNeg ((v_matrix ((p1 * (21 : Int32)) + p1).toNatClampNeg) + (1 : Int64))) ((p1 * (21 : Int32)) + p2).toNatClampNeg (((vp_updL v_matrix ((p1 * (21 : Int32)) + p1).toNatClampNeg ((v_matrix ((p1 * (21 : Int32)) + p1).toNatClampNeg) + (1 : Int64))) ((p1 * (21 : Int32)) + p2).toNatClampNeg) - (1 : Int64)))) := hD
    exact ret (vp_updL (vp_updL v_matrix ((p1 * (21 : Int32)) + p1).toNatClampNeg ((v_matrix ((p1 * (21 : Int32)) + p1).toNatClampNeg) + (1 : Int64))) ((p1 * (21 : Int32)) + p2).toNatClampNeg (((vp_updL v_matrix ((p1 * (21 : Int32)) + p1).toNatClampNeg ((v_matrix ((p1 * (21 : Int32)) + p1).toNatClampNeg) + (1 : Int64))) ((p1 * (21 : Int32)) + p2).toNatClampNeg) - (1 : Int64))) _ _ _ 35 dX5_addEdge_35 h hP hD hS
def wd_X5_twosIn (cI cZ cJ : ClassId) : va_W := []
abbrev rm_X5_twosIn : Room := { frames := 2, cells := 0, slots := 0, locals := 43 }
set_option maxHeartbeats 4000000 in
set_option maxRecDepth 100000 in
theorem c_X5_twosIn (l : Launch) (D : va_G) (cI cZ cJ : ClassId) (tb : Nat → Nat) (sz : Nat) (p0 : Int64) {post : Int32 → Prop} (h : wp_X5_twosIn p0 post) : Met l yX5_twosIn wsX5_twosIn rm_X5_twosIn (va_Pc [.long p0] (q_pre D cI cZ cJ tb (wd_X5_twosIn cI cZ cJ) sz)) (va_Qi (fun r (u : Unit) => post r) (fun u => q_post D cI cZ cJ (va_A (wd_X5_twosIn cI cZ cJ) sz) (wd_X5_twosIn cI cZ cJ)) (va_A (wd_X5_twosIn cI cZ cJ) sz)) 0 0 (va_A (wd_X5_twosIn cI cZ cJ) sz) := by
  refine q_walki (cc := cX5_twosIn) (maxL := 2) (own := RX5) (wd := fun (u : Unit) => (wd_X5_twosIn cI cZ cJ)) (by decide) rfl rfl (Nat.le_of_ble_eq_true rfl) ?_
  intro p e s m below meth c Q A ls C hA ret hP hD hS hK hSt hNw hl
  obtain ⟨hx, hb, hml, hown, hts⟩ := id C
  replace hl : lv_has ls 2 [(0, .long p0)] := hl
  unfold wp_X5_twosIn at h
  refine lv_lload_n hx hb dX5_twosIn_0 rfl (lv_at hl 0 rfl) ?_
  have hPc := hP.sub (ws' := (wd_J13_numberOfTrailingZeros_95d88 cI cZ cJ)) [] rfl
  have hDc := hD.sub (ws' := (wd_J13_numberOfTrailingZeros_95d88 cI cZ cJ)) [] (by decide) rfl
  have hFc := va_free (wc := (wd_J13_numberOfTrailingZeros_95d88 cI cZ cJ)) hD hS hA [] rfl
  refine va_calli (va_runS (As := [.long p0]) (rest := []) C (c_J13_numberOfTrailingZeros_95d88 l D cI cZ cJ tb s.heap.size p0 h) (va_cwS 1 hts gX5_twosIn_J13_numberOfTrailingZeros_95d88 rfl rfl rfl (by decide +kernel) ⟨Nat.le_of_ble_eq_true rfl, Nat.le_of_ble_eq_true rfl⟩) ⟨q_pre.blind, fun U hU hW => ⟨rfl, q_pre.of hU hW hPc hK hDc hSt hS hFc hNw⟩⟩ rfl rfl hl.1 rfl (lv_room (Nat.le_of_ble_eq_true rfl)) dX5_twosIn_1 ⟨Nat.zero_le _, Nat.zero_le _⟩) hS (fun q _ h => hFc q h) hFc (fun r_1 u_2 t H1 locs ht hvm hw hB hz1 hk1 hS => ?_)
  obtain ⟨hP1, hK1, hD1⟩ := hB
  rw [ht] at hP1
  obtain ⟨hP, hD⟩ := va_join (wr := []) (w1 := (wd_J13_numberOfTrailingZeros_95d88 cI cZ cJ)) hP hD [] [] rfl rfl (by decide) (by decide) hk1 hFc hP1 hD1
  clear hPc hDc hFc hP1 hD1 hK1 hk1 hz1 ht hvm
  replace h := hw
  clear hw
  generalize H1 = H at hP hS ⊢
  replace hP : va_P D vwCl (wd_X5_twosIn cI cZ cJ) H := hP.sub [] rfl
  replace hD : va_D A (wd_X5_twosIn cI cZ cJ) := hD.sub [] (by decide) rfl
  exact ret r_1 () _ _ _ 4 dX5_twosIn_4 h hP hD hS
def wd_X5_inverseOfOdd (cI cZ cJ : ClassId) : va_W := []
abbrev rm_X5_inverseOfOdd : Room := { frames := 0, cells := 0, slots := 0, locals := 0 }
set_option maxHeartbeats 4000000 in
set_option maxRecDepth 100000 in
theorem c_X5_inverseOfOdd (l : Launch) (D : va_G) (cI cZ cJ : ClassId) (tb : Nat → Nat) (sz : Nat) (p0 : Int64) {post : Int64 → Prop} (h : wp_X5_inverseOfOdd p0 post) : Met l yX5_inverseOfOdd wsX5_inverseOfOdd rm_X5_inverseOfOdd (va_Pc [.long p0] (q_pre D cI cZ cJ tb (wd_X5_inverseOfOdd cI cZ cJ) sz)) (va_Ql (fun r (u : Unit) => post r) (fun u => q_post D cI cZ cJ (va_A (wd_X5_inverseOfOdd cI cZ cJ) sz) (wd_X5_inverseOfOdd cI cZ cJ)) (va_A (wd_X5_inverseOfOdd cI cZ cJ) sz)) 0 0 (va_A (wd_X5_inverseOfOdd cI cZ cJ) sz) := by
  refine q_walkl (cc := cX5_inverseOfOdd) (maxL := 5) (own := RX5) (wd := fun (u : Unit) => (wd_X5_inverseOfOdd cI cZ cJ)) (by decide) rfl rfl (Nat.le_of_ble_eq_true rfl) ?_
  intro p e s m below meth c Q A ls C hA ret hP hD hS hK hSt hNw hl
  obtain ⟨hx, hb, hml, hown, hts⟩ := id C
  replace hl : lv_has ls 5 [(0, .long p0)] := hl
  have k74 := hts (.constantLong RX5 74 (2)) (by decide +kernel)
  have L5_ok : ∀ (l0 : Int64) (kx27 : Int64 → Prop) (hkx27 : ∀ (l2 : Int64) (H : Heap) (locs : List Loc) (ls : Array Slot), kx27 l2 → va_P D vwCl (wd_X5_inverseOfOdd cI cZ cJ) H → va_D A (wd_X5_inverseOfOdd cI cZ cJ) → va_S A s.heap H locs → lv_has ls 5 [(2, .long l2)] → W p l e rm_X5_inverseOfOdd s m ([.long p0] : List Value).toArray below meth c H locs 0 0 Q (F0 m 27 ls [])) (n : Nat) (l2 : Int64) (l4 : Int32) (H : Heap) (locs : List Loc) (ls : Array Slot), lpN (wl_X5_inverseOfOdd_5 l0 kx27) n (l2, l4) → va_P D vwCl (wd_X5_inverseOfOdd cI cZ cJ) H → va_D A (wd_X5_inverseOfOdd cI cZ cJ) → va_S A s.heap H locs → lv_has ls 5 [(0, .long l0), (2, .long l2), (4, .int l4)] → W p l e rm_X5_inverseOfOdd s m ([.long p0] : List Value).toArray below meth c H locs 0 0 Q (F0 m 5 ls []) := by
    intro l0 kx27 hkx27 n
    induction n with
    | zero => intro l2 l4 H locs ls h; exact False.elim h
    | succ n ih =>
      intro l2 l4 H locs ls h hP hD hS hl
      have h : wb_X5_inverseOfOdd_5 l0 kx27 (fun l2 l4 => lpN (wl_X5_inverseOfOdd_5 l0 kx27) n (l2, l4)) l2 l4 := h
      unfold wb_X5_inverseOfOdd_5 at h
      refine lv_iload hx hb dX5_inverseOfOdd_5 (lv_at hl 2 rfl) ?_
      refine lv_iconst (v := 5) hx hb dX5_inverseOfOdd_7 (by decide) ?_
      refine lv_icmp_ge (tgt := 27) hx hb dX5_inverseOfOdd_8 (by decide) (fun hc => ?_) (fun hc => ?_)
      · replace h := h.1 hc
        exact hkx27 l2 _ _ _ h hP hD hS (lv_sub hl [1] rfl)
      · replace h := h.2 hc
        refine lv_lload_n hx hb dX5_inverseOfOdd_11 rfl (lv_at hl 1 rfl) ?_
        refine lv_ldc2 (v := 2) hx hb hown k74 dX5_inverseOfOdd_12 ?_
        refine lv_lload_n hx hb dX5_inverseOfOdd_15 rfl (lv_at hl 0 rfl) ?_
        refine lv_lload_n hx hb dX5_inverseOfOdd_16 rfl (lv_at hl 1 rfl) ?_
        refine lv_lmul hx hb dX5_inverseOfOdd_17 ?_
        refine lv_lsub hx hb dX5_inverseOfOdd_18 ?_
        refine lv_lmul hx hb dX5_inverseOfOdd_19 ?_
        refine lv_lstore_n (lv' := [(2, .long (l2 * ((2 : Int64) - (l0 * l2)))), (0, .long l0), (4, .int l4)]) hx hb dX5_inverseOfOdd_20 rfl hl (by decide) rfl (fun ls hl => ?_)
        refine lv_iinc (v := (l4 + (1 : Int32))) (lv' := [(4, .int (l4 + (1 : Int32))), (2, .long (l2 * ((2 : Int64) - (l0 * l2)))), (0, .long l0)]) hx hb dX5_inverseOfOdd_21 hl (k := 2) rfl rfl (by decide) rfl (fun ls hl => ?_)
        refine lv_goto (tgt := 5) hx hb dX5_inverseOfOdd_24 (by decide) ?_
        exact ih (l2 * ((2 : Int64) - (l0 * l2))) (l4 + (1 : Int32)) _ _ _ h hP hD hS (lv_sub hl [2, 1, 0] rfl)
  unfold wp_X5_inverseOfOdd at h
  refine lv_lload_n hx hb dX5_inverseOfOdd_0 rfl (lv_at hl 0 rfl) ?_
  refine lv_lstore_n (lv' := [(2, .long p0), (0, .long p0)]) hx hb dX5_inverseOfOdd_1 rfl hl (by decide) rfl (fun ls hl => ?_)
  refine lv_iconst (v := 0) hx hb dX5_inverseOfOdd_2 (by decide) ?_
  refine lv_istore (lv' := [(4, .int (0 : Int32)), (2, .long p0), (0, .long p0)]) hx hb dX5_inverseOfOdd_3 hl (by decide) rfl (fun ls hl => ?_)
  obtain ⟨n, h⟩ := h
  refine L5_ok p0 _ (fun l2_1 H locs ls h hP hD hS hl => ?_) n p0 (0 : Int32) _ _ _ h hP hD hS (lv_sub hl [2, 1, 0] rfl)
  refine lv_lload_n hx hb dX5_inverseOfOdd_27 rfl (lv_at hl 0 rfl) ?_
  exact ret l2_1 () _ _ _ 28 dX5_inverseOfOdd_28 h hP hD hS
def wd_X5_clearBelow (cI cZ cJ : ClassId) (a_this a_matrix a_solid : Nat) (v_matrix : Nat → Int64) : va_W := [(a_this, .inr (5, [.ref a_solid, .ref a_matrix])),
  (a_matrix, .inl (cJ, 441, .inr (.inl v_matrix)))]
abbrev rm_X5_clearBelow : Room := { frames := 3, cells := 0, slots := 0, locals := 64 }
set_option maxHeartbeats 4000000 in
set_option maxRecDepth 100000 in
theorem c_X5_clearBelow (l : Launch) (D : va_G) (cI cZ cJ : ClassId) (tb : Nat → Nat) (a_this a_matrix a_solid : Nat) (v_matrix : Nat → Int64) (sz : Nat) (p1 : Int32) (p2 : Int32) {post : (Nat → Int64) → Prop} (h : wp_X5_clearBelow v_matrix p1 p2 post) : Met l yX5_clearBelow wsX5_clearBelow rm_X5_clearBelow (va_Pc [.ref a_this, .int p1, .int p2] (q_pre D cI cZ cJ tb (wd_X5_clearBelow cI cZ cJ a_this a_matrix a_solid v_matrix) sz)) (va_Qv (fun (u : Nat → Int64) => post u) (fun u => q_post D cI cZ cJ (va_A (wd_X5_clearBelow cI cZ cJ a_this a_matrix a_solid v_matrix) sz) (wd_X5_clearBelow cI cZ cJ a_this a_matrix a_solid u)) (va_A (wd_X5_clearBelow cI cZ cJ a_this a_matrix a_solid v_matrix) sz)) 0 0 (va_A (wd_X5_clearBelow cI cZ cJ a_this a_matrix a_solid v_matrix) sz) := by
  refine q_walkv (cc := cX5_clearBelow) (maxL := 12) (own := RX5) (wd := fun (u : Nat → Int64) => (wd_X5_clearBelow cI cZ cJ a_this a_matrix a_solid u)) (by decide) rfl rfl (Nat.le_of_ble_eq_true rfl) ?_
  intro p e s m below meth c Q A ls C hA ret hP hD hS hK hSt hNw hl
  obtain ⟨hx, hb, hml, hown, hts⟩ := id C
  replace hl : lv_has ls 12 [(0, .ref a_this), (1, .int p1), (2, .int p2)] := hl
  have f11 := hts (.fieldLink RX5 11 "NetSearch$TreeCounter" "matrix" "[J") (by decide +kernel)
  have iX5 : ∀ w ∈ wsX50, w ∈ wsX5_clearBelow := by decide +kernel
  have L61_ok : ∀ (l1 : Int32) (l2 : Int32) (l5 : Int32) (l6 : Int64) (l8 : Int32) (l9 : Int64) (kx111 : (Nat → Int64) → Prop) (hkx111 : ∀ (v_matrix : Nat → Int64) (H : Heap) (locs : List Loc) (ls : Array Slot), kx111 v_matrix → va_P D vwCl (wd_X5_clearBelow cI cZ cJ a_this a_matrix a_solid v_matrix) H → va_D A (wd_X5_clearBelow cI cZ cJ a_this a_matrix a_solid v_matrix) → va_S A s.heap H locs → lv_has ls 12 [(0, .ref a_this), (1, .int l1), (2, .int l2), (5, .int l5), (6, .long l6), (8, .int l8)] → W p l e rm_X5_clearBelow s m ([.ref a_this, .int p1, .int p2] : List Value).toArray below meth c H locs 0 0 Q (F0 m 111 ls [])) (n : Nat) (l11 : Int32) (v_matrix : Nat → Int64) (H : Heap) (locs : List Loc) (ls : Array Slot), lpN (wl_X5_clearBelow_61 l1 l2 l8 l9 kx111) n (l11, v_matrix) → va_P D vwCl (wd_X5_clearBelow cI cZ cJ a_this a_matrix a_solid v_matrix) H → va_D A (wd_X5_clearBelow cI cZ cJ a_this a_matrix a_solid v_matrix) → va_S A s.heap H locs → lv_has ls 12 [(0, .ref a_this), (1, .int l1), (2, .int l2), (5, .int l5), (6, .long l6), (8, .int l8), (9, .long l9), (11, .int l11)] → W p l e rm_X5_clearBelow s m ([.ref a_this, .int p1, .int p2] : List Value).toArray below meth c H locs 0 0 Q (F0 m 61 ls []) := by
    intro l1 l2 l5 l6 l8 l9 kx111 hkx111 n
    induction n with
    | zero => intro l11 v_matrix H locs ls h; exact False.elim h
    | succ n ih =>
      intro l11 v_matrix H locs ls h hP hD hS hl
      have h : wb_X5_clearBelow_61 l1 l2 l8 l9 kx111 (fun l11 v_matrix => lpN (wl_X5_clearBelow_61 l1 l2 l8 l9 kx111) n (l11, v_matrix)) l11 v_matrix := h
      unfold wb_X5_clearBelow_61 at h
      refine lv_iload hx hb dX5_clearBelow_61 (lv_at hl 7 rfl) ?_
      refine lv_iload_n hx hb dX5_clearBelow_63 rfl (lv_at hl 2 rfl) ?_
      refine lv_icmp_ge (tgt := 111) hx hb dX5_clearBelow_64 (by decide) (fun hc => ?_) (fun hc => ?_)
      · replace h := h.1 hc
        exact hkx111 v_matrix _ _ _ h hP hD hS (lv_sub hl [0, 1, 2, 3, 4, 5] rfl)
      · replace h := h.2 hc
        refine lv_lload hx hb dX5_clearBelow_67 (lv_at hl 6 rfl) ?_
        refine lv_lconst (v := 0) hx hb dX5_clearBelow_69 (by decide) ?_
        refine W.lcmp hx hb dX5_clearBelow_70 ?_
        refine lv_if_eq (tgt := 111) hx hb dX5_clearBelow_71 (by decide) (fun hc => ?_) (fun hc => ?_)
        · replace h := h.1 hc
          exact hkx111 v_matrix _ _ _ h hP hD hS (lv_sub hl [0, 1, 2, 3, 4, 5] rfl)
        · replace h := h.2 hc
          refine lv_aload_n hx hb dX5_clearBelow_74 rfl (lv_at hl 0 rfl) ?_
          refine va_get (D := D) (ci := 5) (v := .ref a_matrix) (C := RX5) (T := TX5) (N := 2) hx hb hts iX5 hown hK hP 0 rfl rfl 1 (by decide) f11 (fun _ h9 => h9) rfl dX5_clearBelow_75 ?_
          refine lv_iload hx hb dX5_clearBelow_78 (lv_at hl 5 rfl) ?_
          refine lv_bipush (v := 21) hx hb dX5_clearBelow_80 (by decide) ?_
          refine lv_imul hx hb dX5_clearBelow_82 ?_
          refine lv_iload hx hb dX5_clearBelow_83 (lv_at hl 7 rfl) ?_
          refine lv_iadd hx hb dX5_clearBelow_85 ?_
          refine lv_dup2_11 hx hb dX5_clearBelow_86 rfl rfl ?_
          obtain ⟨hin, h⟩ := h
          refine va_lald hx hb hK hP 1 2 rfl rfl hin dX5_clearBelow_87 ?_
          refine lv_lload hx hb dX5_clearBelow_88 (lv_at hl 6 rfl) ?_
          refine lv_aload_n hx hb dX5_clearBelow_90 rfl (lv_at hl 0 rfl) ?_
          refine va_get (D := D) (ci := 5) (v := .ref a_matrix) (C := RX5) (T := TX5) (N := 2) hx hb hts iX5 hown hK hP 0 rfl rfl 1 (by decide) f11 (fun _ h9 => h9) rfl dX5_clearBelow_91 ?_
          refine lv_iload_n hx hb dX5_clearBelow_94 rfl (lv_at hl 1 rfl) ?_
          refine lv_bipush (v := 21) hx hb dX5_clearBelow_95 (by decide) ?_
          refine lv_imul hx hb dX5_clearBelow_97 ?_
          refine lv_iload hx hb dX5_clearBelow_98 (lv_at hl 7 rfl) ?_
          refine lv_iadd hx hb dX5_clearBelow_100 ?_
          obtain ⟨hin, h⟩ := h
          refine va_lald hx hb hK hP 1 2 rfl rfl hin dX5_clearBelow_101 ?_
          refine lv_lmul hx hb dX5_clearBelow_102 ?_
          refine lv_lsub hx hb dX5_clearBelow_103 ?_
          obtain ⟨hin, h⟩ := h
          refine va_last hx hb hK hP hD hS 1 2 rfl rfl hin dX5_clearBelow_104 (fun H locs hP hD hS => ?_)
          replace hP : va_P D vwCl (wd_X5_clearBelow cI cZ cJ a_this a_matrix a_solid (vp_updL v_matrix ((l8 * (21 : Int32)) + l11).toNatClampNeg ((v_matrix ((l8 * (21 : Int32)) + l11).toNatClampNeg) - (l9 * (v_matrix ((l1 * (21 : Int32)) + l11).toNatClampNeg))))) H := hP
          replace hD : va_D A (wd_X5_clearBelow cI cZ cJ a_this a_matrix a_solid (vp_updL v_matrix ((l8 * (21 : Int32)) + l11).toNatClampNeg ((v_matrix ((l8 * (21 : Int32)) + l11).toNatClampNeg) - (l9 * (v_matrix ((l1 * (21 : Int32)) + l11).toNatClampNeg))))) := hD
          refine lv_iinc (v := (l11 + (1 : Int32))) (lv' := [(11, .int (l11 + (1 : Int32))), (0, .ref a_this), (1, .int l1), (2, .int l2), (5, .int l5), (6, .long l6), (8, .int l8), (9, .long l9)]) hx hb dX5_clearBelow_105 hl (k := 7) rfl rfl (by decide) rfl (fun ls hl => ?_)
          refine lv_goto (tgt := 61) hx hb dX5_clearBelow_108 (by decide) ?_
          exact ih (l11 + (1 : Int32)) (vp_updL v_matrix ((l8 * (21 : Int32)) + l11).toNatClampNeg ((v_matrix ((l8 * (21 : Int32)) + l11).toNatClampNeg) - (l9 * (v_matrix ((l1 * (21 : Int32)) + l11).toNatClampNeg)))) _ _ _ h hP hD hS (lv_sub hl [1, 2, 3, 4, 5, 6, 7, 0] rfl)
  have L32_ok : ∀ (l1 : Int32) (l2 : Int32) (l5 : Int32) (l6 : Int64) (kx117 : (Nat → Int64) → Prop) (hkx117 : ∀ (v_matrix : Nat → Int64) (H : Heap) (locs : List Loc) (ls : Array Slot), kx117 v_matrix → va_P D vwCl (wd_X5_clearBelow cI cZ cJ a_this a_matrix a_solid v_matrix) H → va_D A (wd_X5_clearBelow cI cZ cJ a_this a_matrix a_solid v_matrix) → va_S A s.heap H locs → lv_has ls 12 [] → W p l e rm_X5_clearBelow s m ([.ref a_this, .int p1, .int p2] : List Value).toArray below meth c H locs 0 0 Q (F0 m 117 ls [])) (n : Nat) (l8 : Int32) (v_matrix : Nat → Int64) (H : Heap) (locs : List Loc) (ls : Array Slot), lpN (wl_X5_clearBelow_32 l1 l2 l5 l6 kx117) n (l8, v_matrix) → va_P D vwCl (wd_X5_clearBelow cI cZ cJ a_this a_matrix a_solid v_matrix) H → va_D A (wd_X5_clearBelow cI cZ cJ a_this a_matrix a_solid v_matrix) → va_S A s.heap H locs → lv_has ls 12 [(0, .ref a_this), (1, .int l1), (2, .int l2), (5, .int l5), (6, .long l6), (8, .int l8)] → W p l e rm_X5_clearBelow s m ([.ref a_this, .int p1, .int p2] : List Value).toArray below meth c H locs 0 0 Q (F0 m 32 ls []) := by
    intro l1 l2 l5 l6 kx117 hkx117 n
    induction n with
    | zero => intro l8 v_matrix H locs ls h; exact False.elim h
    | succ n ih =>
      intro l8 v_matrix H locs ls h hP hD hS hl
      have h : wb_X5_clearBelow_32 l1 l2 l5 l6 kx117 (fun l8 v_matrix => lpN (wl_X5_clearBelow_32 l1 l2 l5 l6 kx117) n (l8, v_matrix)) l8 v_matrix := h
      unfold wb_X5_clearBelow_32 at h
      refine lv_iload hx hb dX5_clearBelow_32 (lv_at hl 5 rfl) ?_
      refine lv_iload_n hx hb dX5_clearBelow_34 rfl (lv_at hl 2 rfl) ?_
      refine lv_icmp_ge (tgt := 117) hx hb dX5_clearBelow_35 (by decide) (fun hc => ?_) (fun hc => ?_)
      · replace h := h.1 hc
        exact hkx117 v_matrix _ _ _ h hP hD hS (lv_sub hl [] rfl)
      · replace h := h.2 hc
        refine lv_aload_n hx hb dX5_clearBelow_38 rfl (lv_at hl 0 rfl) ?_
        refine va_get (D := D) (ci := 5) (v := .ref a_matrix) (C := RX5) (T := TX5) (N := 2) hx hb hts iX5 hown hK hP 0 rfl rfl 1 (by decide) f11 (fun _ h9 => h9) rfl dX5_clearBelow_39 ?_
        refine lv_iload hx hb dX5_clearBelow_42 (lv_at hl 5 rfl) ?_
        refine lv_bipush (v := 21) hx hb dX5_clearBelow_44 (by decide) ?_
        refine lv_imul hx hb dX5_clearBelow_46 ?_
        refine lv_iload_n hx hb dX5_clearBelow_47 rfl (lv_at hl 1 rfl) ?_
        refine lv_iadd hx hb dX5_clearBelow_48 ?_
        obtain ⟨hin, h⟩ := h
        refine va_lald hx hb hK hP 1 2 rfl rfl hin dX5_clearBelow_49 ?_
        refine lv_iload hx hb dX5_clearBelow_50 (lv_at hl 3 rfl) ?_
        refine lv_lshr (v := ((v_matrix ((l8 * (21 : Int32)) + l1).toNatClampNeg) >>> (l5.toInt64 &&& 63))) hx hb dX5_clearBelow_52 rfl ?_
        refine lv_lload hx hb dX5_clearBelow_53 (lv_at hl 4 rfl) ?_
        refine lv_lmul hx hb dX5_clearBelow_55 ?_
        refine lv_lstore (lv' := [(9, .long (((v_matrix ((l8 * (21 : Int32)) + l1).toNatClampNeg) >>> (l5.toInt64 &&& 63)) * l6)), (0, .ref a_this), (1, .int l1), (2, .int l2), (5, .int l5), (6, .long l6), (8, .int l8)]) hx hb dX5_clearBelow_56 hl (by decide) rfl (fun ls hl => ?_)
        refine lv_iload_n hx hb dX5_clearBelow_58 rfl (lv_at hl 2 rfl) ?_
        refine lv_istore (lv' := [(11, .int l1), (9, .long (((v_matrix ((l8 * (21 : Int32)) + l1).toNatClampNeg) >>> (l5.toInt64 &&& 63)) * l6)), (0, .ref a_this), (1, .int l1), (2, .int l2), (5, .int l5), (6, .long l6), (8, .int l8)]) hx hb dX5_clearBelow_59 hl (by decide) rfl (fun ls hl => ?_)
        obtain ⟨n, h⟩ := h
        refine L61_ok l1 l2 l5 l6 l8 (((v_matrix ((l8 * (21 : Int32)) + l1).toNatClampNeg) >>> (l5.toInt64 &&& 63)) * l6) _ (fun v_matrix_1 H locs ls h hP hD hS hl => ?_) n l1 v_matrix _ _ _ h hP hD hS (lv_sub hl [2, 3, 4, 5, 6, 7, 1, 0] rfl)
        refine lv_iinc (v := (l8 + (1 : Int32))) (lv' := [(8, .int (l8 + (1 : Int32))), (0, .ref a_this), (1, .int l1), (2, .int l2), (5, .int l5), (6, .long l6)]) hx hb dX5_clearBelow_111 hl (k := 5) rfl rfl (by decide) rfl (fun ls hl => ?_)
        refine lv_goto (tgt := 32) hx hb dX5_clearBelow_114 (by decide) ?_
        exact ih (l8 + (1 : Int32)) v_matrix_1 _ _ _ h hP hD hS (lv_sub hl [1, 2, 3, 4, 5, 0] rfl)
  unfold wp_X5_clearBelow at h
  refine lv_aload_n hx hb dX5_clearBelow_0 rfl (lv_at hl 0 rfl) ?_
  refine va_get (D := D) (ci := 5) (v := .ref a_matrix) (C := RX5) (T := TX5) (N := 2) hx hb hts iX5 hown hK hP 0 rfl rfl 1 (by decide) f11 (fun _ h9 => h9) rfl dX5_clearBelow_1 ?_
  refine lv_iload_n hx hb dX5_clearBelow_4 rfl (lv_at hl 1 rfl) ?_
  refine lv_bipush (v := 21) hx hb dX5_clearBelow_5 (by decide) ?_
  refine lv_imul hx hb dX5_clearBelow_7 ?_
  refine lv_iload_n hx hb dX5_clearBelow_8 rfl (lv_at hl 1 rfl) ?_
  refine lv_iadd hx hb dX5_clearBelow_9 ?_
  obtain ⟨hin, h⟩ := h
  refine va_lald hx hb hK hP 1 2 rfl rfl hin dX5_clearBelow_10 ?_
  refine lv_lstore_n (lv' := [(3, .long (v_matrix ((p1 * (21 : Int32)) + p1).toNatClampNeg)), (0, .ref a_this), (1, .int p1), (2, .int p2)]) hx hb dX5_clearBelow_11 rfl hl (by decide) rfl (fun ls hl => ?_)
  refine lv_lload_n hx hb dX5_clearBelow_12 rfl (lv_at hl 0 rfl) ?_
  have hPc := hP.sub (ws' := (wd_X5_twosIn cI cZ cJ)) [] rfl
  have hDc := hD.sub (ws' := (wd_X5_twosIn cI cZ cJ)) [] (by decide) rfl
  have hFc := va_free (wc := (wd_X5_twosIn cI cZ cJ)) hD hS hA [] rfl
  refine va_calli (va_runS (As := [.long (v_matrix ((p1 * (21 : Int32)) + p1).toNatClampNeg)]) (rest := []) C (c_X5_twosIn l D cI cZ cJ tb s.heap.size (v_matrix ((p1 * (21 : Int32)) + p1).toNatClampNeg) h) (va_cwS 1 hts gX5_clearBelow_X5_twosIn rfl rfl rfl (by decide +kernel) ⟨Nat.le_of_ble_eq_true rfl, Nat.le_of_ble_eq_true rfl⟩) ⟨q_pre.blind, fun U hU hW => ⟨rfl, q_pre.of hU hW hPc hK hDc hSt hS hFc hNw⟩⟩ rfl rfl hl.1 rfl (lv_room (Nat.le_of_ble_eq_true rfl)) dX5_clearBelow_13 ⟨Nat.zero_le _, Nat.zero_le _⟩) hS (fun q _ h => hFc q h) hFc (fun r_2 u_3 t H1 locs ht hvm hw hB hz1 hk1 hS => ?_)
  obtain ⟨hP1, hK1, hD1⟩ := hB
  rw [ht] at hP1
  obtain ⟨hP, hD⟩ := va_join (wr := [(a_this, .inr (5, [.ref a_solid, .ref a_matrix])), (a_matrix, .inl (cJ, 441, .inr (.inl v_matrix)))]) (w1 := (wd_X5_twosIn cI cZ cJ)) hP hD [] [0, 1] rfl rfl (by decide) (by decide) hk1 hFc hP1 hD1
  clear hPc hDc hFc hP1 hD1 hK1 hk1 hz1 ht hvm
  replace h := hw
  clear hw
  generalize H1 = H at hP hS ⊢
  replace hP : va_P D vwCl (wd_X5_clearBelow cI cZ cJ a_this a_matrix a_solid v_matrix) H := hP.sub [0, 1] rfl
  replace hD : va_D A (wd_X5_clearBelow cI cZ cJ a_this a_matrix a_solid v_matrix) := hD.sub [0, 1] (by decide) rfl
  refine lv_istore (lv' := [(5, .int r_2), (3, .long (v_matrix ((p1 * (21 : Int32)) + p1).toNatClampNeg)), (0, .ref a_this), (1, .int p1), (2, .int p2)]) hx hb dX5_clearBelow_16 hl (by decide) rfl (fun ls hl => ?_)
  refine lv_lload_n hx hb dX5_clearBelow_18 rfl (lv_at hl 1 rfl) ?_
  refine lv_iload hx hb dX5_clearBelow_19 (lv_at hl 0 rfl) ?_
  refine lv_lshr (v := ((v_matrix ((p1 * (21 : Int32)) + p1).toNatClampNeg) >>> (r_2.toInt64 &&& 63))) hx hb dX5_clearBelow_21 rfl ?_
  have hPc := hP.sub (ws' := (wd_X5_inverseOfOdd cI cZ cJ)) [] rfl
  have hDc := hD.sub (ws' := (wd_X5_inverseOfOdd cI cZ cJ)) [] (by decide) rfl
  have hFc := va_free (wc := (wd_X5_inverseOfOdd cI cZ cJ)) hD hS hA [] rfl
  refine va_calll (va_runS (As := [.long ((v_matrix ((p1 * (21 : Int32)) + p1).toNatClampNeg) >>> (r_2.toInt64 &&& 63))]) (rest := []) C (c_X5_inverseOfOdd l D cI cZ cJ tb H.size ((v_matrix ((p1 * (21 : Int32)) + p1).toNatClampNeg) >>> (r_2.toInt64 &&& 63)) h) (va_cwS 1 hts gX5_clearBelow_X5_inverseOfOdd rfl rfl rfl (by decide +kernel) ⟨Nat.le_of_ble_eq_true rfl, Nat.le_of_ble_eq_true rfl⟩) ⟨q_pre.blind, fun U hU hW => ⟨rfl, q_pre.of hU hW hPc hK hDc hSt hS hFc hNw⟩⟩ rfl rfl hl.1 rfl (lv_room (Nat.le_of_ble_eq_true rfl)) dX5_clearBelow_22 ⟨Nat.zero_le _, Nat.zero_le _⟩) hS (fun q _ h => hFc q h) hFc (fun r_4 u_5 t H1 locs ht hvm hw hB hz1 hk1 hS => ?_)
  obtain ⟨hP1, hK1, hD1⟩ := hB
  rw [ht] at hP1
  obtain ⟨hP, hD⟩ := va_join (wr := [(a_this, .inr (5, [.ref a_solid, .ref a_matrix])), (a_matrix, .inl (cJ, 441, .inr (.inl v_matrix)))]) (w1 := (wd_X5_inverseOfOdd cI cZ cJ)) hP hD [] [0, 1] rfl rfl (by decide) (by decide) hk1 hFc hP1 hD1
  clear hPc hDc hFc hP1 hD1 hK1 hk1 hz1 ht hvm
  replace h := hw
  clear hw
  generalize H1 = H at hP hS ⊢
  replace hP : va_P D vwCl (wd_X5_clearBelow cI cZ cJ a_this a_matrix a_solid v_matrix) H := hP.sub [0, 1] rfl
  replace hD : va_D A (wd_X5_clearBelow cI cZ cJ a_this a_matrix a_solid v_matrix) := hD.sub [0, 1] (by decide) rfl
  refine lv_lstore (lv' := [(6, .long r_4), (5, .int r_2), (3, .long (v_matrix ((p1 * (21 : Int32)) + p1).toNatClampNeg)), (0, .ref a_this), (1, .int p1), (2, .int p2)]) hx hb dX5_clearBelow_25 hl (by decide) rfl (fun ls hl => ?_)
  refine lv_iload_n hx hb dX5_clearBelow_27 rfl (lv_at hl 4 rfl) ?_
  refine lv_iconst (v := 1) hx hb dX5_clearBelow_28 (by decide) ?_
  refine lv_iadd hx hb dX5_clearBelow_29 ?_
  refine lv_istore (lv' := [(8, .int (p1 + (1 : Int32))), (6, .long r_4), (5, .int r_2), (3, .long (v_matrix ((p1 * (21 : Int32)) + p1).toNatClampNeg)), (0, .ref a_this), (1, .int p1), (2, .int p2)]) hx hb dX5_clearBelow_30 hl (by decide) rfl (fun ls hl => ?_)
  obtain ⟨n, h⟩ := h
  refine L32_ok p1 p2 r_2 r_4 _ (fun v_matrix_6 H locs ls h hP hD hS hl => ?_) n (p1 + (1 : Int32)) v_matrix _ _ _ h hP hD hS (lv_sub hl [4, 5, 6, 2, 1, 0] rfl)
  exact ret v_matrix_6 _ _ _ 117 dX5_clearBelow_117 h hP hD hS
def wd_X5_fillMatrix (cI cZ cJ : ClassId) (a_this a_matrix a_solid a_solid_beyondEdge a_solid_lookOf a_solid_cubeOf a_solid_x a_solid_y a_solid_z a_solid_faceOf a_solid_onwardEdge : Nat) (v_matrix : Nat → Int64) (v_solid_cubes : Int32) (v_solid_faces : Int32) (v_solid_beyondEdge : Nat → Int32) (v_solid_lookOf : Nat → Int32) : va_W := [(a_this, .inr (5, [.ref a_solid, .ref a_matrix])),
  (a_matrix, .inl (cJ, 441, .inr (.inl v_matrix))),
  (a_solid, .inr (4, [.int v_solid_cubes, .int v_solid_faces, .ref a_solid_cubeOf, .ref a_solid_lookOf, .ref a_solid_x, .ref a_solid_y, .ref a_solid_z, .ref a_solid_faceOf, .ref a_solid_beyondEdge, .ref a_solid_onwardEdge])),
  (a_solid_beyondEdge, .inl (cI, 132, .inl v_solid_beyondEdge)),
  (a_solid_lookOf, .inl (cI, 22, .inl v_solid_lookOf))]
abbrev rm_X5_fillMatrix : Room := { frames := 1, cells := 0, slots := 0, locals := 24 }
set_option maxHeartbeats 4000000 in
set_option maxRecDepth 100000 in
theorem c_X5_fillMatrix (l : Launch) (D : va_G) (cI cZ cJ : ClassId) (tb : Nat → Nat) (a_this a_matrix a_solid a_solid_beyondEdge a_solid_lookOf a_solid_cubeOf a_solid_x a_solid_y a_solid_z a_solid_faceOf a_solid_onwardEdge : Nat) (v_matrix : Nat → Int64) (v_solid_cubes : Int32) (v_solid_faces : Int32) (v_solid_beyondEdge : Nat → Int32) (v_solid_lookOf : Nat → Int32) (sz : Nat) (p1 : Int32) {post : (Nat → Int64) → Prop} (h : wp_X5_fillMatrix v_matrix v_solid_beyondEdge v_solid_lookOf p1 post) : Met l yX5_fillMatrix wsX5_fillMatrix rm_X5_fillMatrix (va_Pc [.ref a_this, .int p1] (q_pre D cI cZ cJ tb (wd_X5_fillMatrix cI cZ cJ a_this a_matrix a_solid a_solid_beyondEdge a_solid_lookOf a_solid_cubeOf a_solid_x a_solid_y a_solid_z a_solid_faceOf a_solid_onwardEdge v_matrix v_solid_cubes v_solid_faces v_solid_beyondEdge v_solid_lookOf) sz)) (va_Qv (fun (u : Nat → Int64) => post u) (fun u => q_post D cI cZ cJ (va_A (wd_X5_fillMatrix cI cZ cJ a_this a_matrix a_solid a_solid_beyondEdge a_solid_lookOf a_solid_cubeOf a_solid_x a_solid_y a_solid_z a_solid_faceOf a_solid_onwardEdge v_matrix v_solid_cubes v_solid_faces v_solid_beyondEdge v_solid_lookOf) sz) (wd_X5_fillMatrix cI cZ cJ a_this a_matrix a_solid a_solid_beyondEdge a_solid_lookOf a_solid_cubeOf a_solid_x a_solid_y a_solid_z a_solid_faceOf a_solid_onwardEdge u v_solid_cubes v_solid_faces v_solid_beyondEdge v_solid_lookOf)) (va_A (wd_X5_fillMatrix cI cZ cJ a_this a_matrix a_solid a_solid_beyondEdge a_solid_lookOf a_solid_cubeOf a_solid_x a_solid_y a_solid_z a_solid_faceOf a_solid_onwardEdge v_matrix v_solid_cubes v_solid_faces v_solid_beyondEdge v_solid_lookOf) sz)) 0 0 (va_A (wd_X5_fillMatrix cI cZ cJ a_this a_matrix a_solid a_solid_beyondEdge a_solid_lookOf a_solid_cubeOf a_solid_x a_solid_y a_solid_z a_solid_faceOf a_solid_onwardEdge v_matrix v_solid_cubes v_solid_faces v_solid_beyondEdge v_solid_lookOf) sz) := by
  refine q_walkv (cc := cX5_fillMatrix) (maxL := 4) (own := RX5) (wd := fun (u : Nat → Int64) => (wd_X5_fillMatrix cI cZ cJ a_this a_matrix a_solid a_solid_beyondEdge a_solid_lookOf a_solid_cubeOf a_solid_x a_solid_y a_solid_z a_solid_faceOf a_solid_onwardEdge u v_solid_cubes v_solid_faces v_solid_beyondEdge v_solid_lookOf)) (by decide) rfl rfl (Nat.le_of_ble_eq_true rfl) ?_
  intro p e s m below meth c Q A ls C hA ret hP hD hS hK hSt hNw hl
  obtain ⟨hx, hb, hml, hown, hts⟩ := id C
  replace hl : lv_has ls 4 [(0, .ref a_this), (1, .int p1)] := hl
  have f15 := hts (.fieldLink RX5 15 "NetSearch$TreeCounter" "solid" "LNetSearch$Solid;") (by decide +kernel)
  have iX5 : ∀ w ∈ wsX50, w ∈ wsX5_fillMatrix := by decide +kernel
  have f47 := hts (.fieldLink RX5 47 "NetSearch$Solid" "lookOf" "[I") (by decide +kernel)
  have iX4 : ∀ w ∈ wsX40, w ∈ wsX5_fillMatrix := by decide +kernel
  have n51 : va_Nw (.methodLinkNest RX5 51 yX7_sameAxis "NetSearch") s := hNw.2 (RX5, 51, yX7_sameAxis, "NetSearch") (by decide +kernel)
  have iniX7 := hts (.initialized RX7) (by decide +kernel)
  have sta_X7_sameAxis := hts (.static yX7_sameAxis) (by decide +kernel)
  have f11 := hts (.fieldLink RX5 11 "NetSearch$TreeCounter" "matrix" "[J") (by decide +kernel)
  have L17_ok : ∀ (l1 : Int32) (l2 : Int32) (kx60 : (Nat → Int64) → Prop) (hkx60 : ∀ (v_matrix : Nat → Int64) (H : Heap) (locs : List Loc) (ls : Array Slot), kx60 v_matrix → va_P D vwCl (wd_X5_fillMatrix cI cZ cJ a_this a_matrix a_solid a_solid_beyondEdge a_solid_lookOf a_solid_cubeOf a_solid_x a_solid_y a_solid_z a_solid_faceOf a_solid_onwardEdge v_matrix v_solid_cubes v_solid_faces v_solid_beyondEdge v_solid_lookOf) H → va_D A (wd_X5_fillMatrix cI cZ cJ a_this a_matrix a_solid a_solid_beyondEdge a_solid_lookOf a_solid_cubeOf a_solid_x a_solid_y a_solid_z a_solid_faceOf a_solid_onwardEdge v_matrix v_solid_cubes v_solid_faces v_solid_beyondEdge v_solid_lookOf) → va_S A s.heap H locs → lv_has ls 4 [(0, .ref a_this), (1, .int l1), (2, .int l2)] → W p l e rm_X5_fillMatrix s m ([.ref a_this, .int p1] : List Value).toArray below meth c H locs 0 0 Q (F0 m 60 ls [])) (n : Nat) (l3 : Int32) (v_matrix : Nat → Int64) (H : Heap) (locs : List Loc) (ls : Array Slot), lpN (wl_X5_fillMatrix_17 v_solid_beyondEdge v_solid_lookOf l1 l2 kx60) n (l3, v_matrix) → va_P D vwCl (wd_X5_fillMatrix cI cZ cJ a_this a_matrix a_solid a_solid_beyondEdge a_solid_lookOf a_solid_cubeOf a_solid_x a_solid_y a_solid_z a_solid_faceOf a_solid_onwardEdge v_matrix v_solid_cubes v_solid_faces v_solid_beyondEdge v_solid_lookOf) H → va_D A (wd_X5_fillMatrix cI cZ cJ a_this a_matrix a_solid a_solid_beyondEdge a_solid_lookOf a_solid_cubeOf a_solid_x a_solid_y a_solid_z a_solid_faceOf a_solid_onwardEdge v_matrix v_solid_cubes v_solid_faces v_solid_beyondEdge v_solid_lookOf) → va_S A s.heap H locs → lv_has ls 4 [(0, .ref a_this), (1, .int l1), (2, .int l2), (3, .int l3)] → W p l e rm_X5_fillMatrix s m ([.ref a_this, .int p1] : List Value).toArray below meth c H locs 0 0 Q (F0 m 17 ls []) := by
    intro l1 l2 kx60 hkx60 n
    induction n with
    | zero => intro l3 v_matrix H locs ls h; exact False.elim h
    | succ n ih =>
      intro l3 v_matrix H locs ls h hP hD hS hl
      have h : wb_X5_fillMatrix_17 v_solid_beyondEdge v_solid_lookOf l1 l2 kx60 (fun l3 v_matrix => lpN (wl_X5_fillMatrix_17 v_solid_beyondEdge v_solid_lookOf l1 l2 kx60) n (l3, v_matrix)) l3 v_matrix := h
      unfold wb_X5_fillMatrix_17 at h
      refine lv_iload_n hx hb dX5_fillMatrix_17 rfl (lv_at hl 3 rfl) ?_
      refine lv_bipush (v := 6) hx hb dX5_fillMatrix_18 (by decide) ?_
      refine lv_icmp_ge (tgt := 60) hx hb dX5_fillMatrix_20 (by decide) (fun hc => ?_) (fun hc => ?_)
      · replace h := h.1 hc
        exact hkx60 v_matrix _ _ _ h hP hD hS (lv_sub hl [0, 1, 2] rfl)
      · replace h := h.2 hc
        refine lv_iload_n hx hb dX5_fillMatrix_23 rfl (lv_at hl 3 rfl) ?_
        refine lv_aload_n hx hb dX5_fillMatrix_24 rfl (lv_at hl 0 rfl) ?_
        refine va_get (D := D) (ci := 5) (v := .ref a_solid) (C := RX5) (T := TX5) (N := 2) hx hb hts iX5 hown hK hP 0 rfl rfl 0 (by decide) f15 (fun _ h9 => h9) rfl dX5_fillMatrix_25 ?_
        refine va_get (D := D) (ci := 4) (v := .ref a_solid_lookOf) (C := RX4) (T := TX4) (N := 10) hx hb hts iX4 hown hK hP 2 rfl rfl 3 (by decide) f47 (fun _ h9 => h9) rfl dX5_fillMatrix_28 ?_
        refine lv_iload_n hx hb dX5_fillMatrix_31 rfl (lv_at hl 2 rfl) ?_
        obtain ⟨hin, h⟩ := h
        refine va_iald hx hb hK hP 4 0 rfl rfl hin dX5_fillMatrix_32 ?_
        have hPc := hP.sub (ws' := (wd_X7_sameAxis cI cZ cJ)) [] rfl
        have hDc := hD.sub (ws' := (wd_X7_sameAxis cI cZ cJ)) [] (by decide) rfl
        have hFc := va_free (wc := (wd_X7_sameAxis cI cZ cJ)) hD hS hA [] rfl
        refine va_calli (va_runSN (As := [.int l3, .int (v_solid_lookOf l2.toNatClampNeg)]) (rest := []) C (c_X7_sameAxis l D cI cZ cJ tb H.size l3 (v_solid_lookOf l2.toNatClampNeg) h) ⟨va_cnB 2 hts gX5_fillMatrix_X7_sameAxis_n51 rfl rfl rfl n51 iniX7 (by decide +kernel) ⟨Nat.le_of_ble_eq_true rfl, Nat.le_of_ble_eq_true rfl⟩, sta_X7_sameAxis, trivial⟩ ⟨q_pre.blind, fun U hU hW => ⟨rfl, q_pre.of hU hW hPc hK hDc hSt hS hFc hNw⟩⟩ rfl rfl hl.1 rfl (lv_room (Nat.le_of_ble_eq_true rfl)) dX5_fillMatrix_33 ⟨Nat.zero_le _, Nat.zero_le _⟩) hS (fun q _ h => hFc q h) hFc (fun r_1 u_2 t H1 locs ht hvm hw hB hz1 hk1 hS => ?_)
        obtain ⟨hP1, hK1, hD1⟩ := hB
        rw [ht] at hP1
        obtain ⟨hP, hD⟩ := va_join (wr := [(a_this, .inr (5, [.ref a_solid, .ref a_matrix])), (a_matrix, .inl (cJ, 441, .inr (.inl v_matrix))), (a_solid, .inr (4, [.int v_solid_cubes, .int v_solid_faces, .ref a_solid_cubeOf, .ref a_solid_lookOf, .ref a_solid_x, .ref a_solid_y, .ref a_solid_z, .ref a_solid_faceOf, .ref a_solid_beyondEdge, .ref a_solid_onwardEdge])), (a_solid_beyondEdge, .inl (cI, 132, .inl v_solid_beyondEdge)), (a_solid_lookOf, .inl (cI, 22, .inl v_solid_lookOf))]) (w1 := (wd_X7_sameAxis cI cZ cJ)) hP hD [] [0, 1, 2, 3, 4] rfl rfl (by decide) (by decide) hk1 hFc hP1 hD1
        clear hPc hDc hFc hP1 hD1 hK1 hk1 hz1 ht hvm
        replace h := hw
        clear hw
        generalize H1 = H at hP hS ⊢
        replace hP : va_P D vwCl (wd_X5_fillMatrix cI cZ cJ a_this a_matrix a_solid a_solid_beyondEdge a_solid_lookOf a_solid_cubeOf a_solid_x a_solid_y a_solid_z a_solid_faceOf a_solid_onwardEdge v_matrix v_solid_cubes v_solid_faces v_solid_beyondEdge v_solid_lookOf) H := hP.sub [0, 1, 2, 3, 4] rfl
        replace hD : va_D A (wd_X5_fillMatrix cI cZ cJ a_this a_matrix a_solid a_solid_beyondEdge a_solid_lookOf a_solid_cubeOf a_solid_x a_solid_y a_solid_z a_solid_faceOf a_solid_onwardEdge v_matrix v_solid_cubes v_solid_faces v_solid_beyondEdge v_solid_lookOf) := hD.sub [0, 1, 2, 3, 4] (by decide) rfl
        refine lv_if_ne (tgt := 54) hx hb dX5_fillMatrix_36 (by decide) (fun hc => ?_) (fun hc => ?_)
        · replace h := h.1 hc
          refine lv_iinc (v := (l3 + (1 : Int32))) (lv' := [(3, .int (l3 + (1 : Int32))), (0, .ref a_this), (1, .int l1), (2, .int l2)]) hx hb dX5_fillMatrix_54 hl (k := 3) rfl rfl (by decide) rfl (fun ls hl => ?_)
          refine lv_goto (tgt := 17) hx hb dX5_fillMatrix_57 (by decide) ?_
          exact ih (l3 + (1 : Int32)) v_matrix _ _ _ h hP hD hS (lv_sub hl [1, 2, 3, 0] rfl)
        · replace h := h.2 hc
          refine lv_aload_n hx hb dX5_fillMatrix_39 rfl (lv_at hl 0 rfl) ?_
          refine lv_iload_n hx hb dX5_fillMatrix_40 rfl (lv_at hl 2 rfl) ?_
          refine lv_aload_n hx hb dX5_fillMatrix_41 rfl (lv_at hl 0 rfl) ?_
          refine va_get (D := D) (ci := 5) (v := .ref a_solid) (C := RX5) (T := TX5) (N := 2) hx hb hts iX5 hown hK hP 0 rfl rfl 0 (by decide) f15 (fun _ h9 => h9) rfl dX5_fillMatrix_42 ?_
          refine lv_iload_n hx hb dX5_fillMatrix_45 rfl (lv_at hl 2 rfl) ?_
          refine lv_iload_n hx hb dX5_fillMatrix_46 rfl (lv_at hl 3 rfl) ?_
          have hPc := hP.sub (ws' := (wd_X4_beyond cI cZ cJ a_solid a_solid_beyondEdge a_solid_cubeOf a_solid_lookOf a_solid_x a_solid_y a_solid_z a_solid_faceOf a_solid_onwardEdge v_solid_cubes v_solid_faces v_solid_beyondEdge)) [2, 3] rfl
          have hDc := hD.sub (ws' := (wd_X4_beyond cI cZ cJ a_solid a_solid_beyondEdge a_solid_cubeOf a_solid_lookOf a_solid_x a_solid_y a_solid_z a_solid_faceOf a_solid_onwardEdge v_solid_cubes v_solid_faces v_solid_beyondEdge)) [2, 3] (by decide) rfl
          have hFc := va_free (wc := (wd_X4_beyond cI cZ cJ a_solid a_solid_beyondEdge a_solid_cubeOf a_solid_lookOf a_solid_x a_solid_y a_solid_z a_solid_faceOf a_solid_onwardEdge v_solid_cubes v_solid_faces v_solid_beyondEdge)) hD hS hA [2, 3] rfl
          refine va_calli (va_runV (As := [.int l2, .int l3]) (rest := [.int l2, .ref a_this]) C (c_X4_beyond l D cI cZ cJ tb a_solid a_solid_beyondEdge a_solid_cubeOf a_solid_lookOf a_solid_x a_solid_y a_solid_z a_solid_faceOf a_solid_onwardEdge v_solid_cubes v_solid_faces v_solid_beyondEdge H.size l2 l3 h) (cwV 2 hts gX5_fillMatrix_X4_beyond rfl rfl rfl (by decide +kernel) ⟨Nat.le_of_ble_eq_true rfl, Nat.le_of_ble_eq_true rfl⟩) ⟨q_pre.blind, va_recv hK hP (ci := 4) (q0 := 2) rfl rfl, fun U hU hW => ⟨rfl, q_pre.of hU hW hPc hK hDc hSt hS hFc hNw⟩⟩ rfl rfl hl.1 rfl (lv_room (Nat.le_of_ble_eq_true rfl)) dX5_fillMatrix_47 ⟨Nat.zero_le _, Nat.zero_le _⟩) hS (fun q _ h => hFc q h) hFc (fun r_3 u_4 t H1 locs ht hvm hw hB hz1 hk1 hS => ?_)
          obtain ⟨hP1, hK1, hD1⟩ := hB
          rw [ht] at hP1
          obtain ⟨hP, hD⟩ := va_join (wr := [(a_this, .inr (5, [.ref a_solid, .ref a_matrix])), (a_matrix, .inl (cJ, 441, .inr (.inl v_matrix))), (a_solid_lookOf, .inl (cI, 22, .inl v_solid_lookOf))]) (w1 := (wd_X4_beyond cI cZ cJ a_solid a_solid_beyondEdge a_solid_cubeOf a_solid_lookOf a_solid_x a_solid_y a_solid_z a_solid_faceOf a_solid_onwardEdge v_solid_cubes v_solid_faces v_solid_beyondEdge)) hP hD [2, 3] [0, 1, 4] rfl rfl (by decide) (by decide) hk1 hFc hP1 hD1
          clear hPc hDc hFc hP1 hD1 hK1 hk1 hz1 ht hvm
          replace h := hw
          clear hw
          generalize H1 = H at hP hS ⊢
          replace hP : va_P D vwCl (wd_X5_fillMatrix cI cZ cJ a_this a_matrix a_solid a_solid_beyondEdge a_solid_lookOf a_solid_cubeOf a_solid_x a_solid_y a_solid_z a_solid_faceOf a_solid_onwardEdge v_matrix v_solid_cubes v_solid_faces v_solid_beyondEdge v_solid_lookOf) H := hP.sub [0, 1, 3, 4, 2] rfl
          replace hD : va_D A (wd_X5_fillMatrix cI cZ cJ a_this a_matrix a_solid a_solid_beyondEdge a_solid_lookOf a_solid_cubeOf a_solid_x a_solid_y a_solid_z a_solid_faceOf a_solid_onwardEdge v_matrix v_solid_cubes v_solid_faces v_solid_beyondEdge v_solid_lookOf) := hD.sub [0, 1, 3, 4, 2] (by decide) rfl
          refine lv_iload_n hx hb dX5_fillMatrix_50 rfl (lv_at hl 1 rfl) ?_
          have hPc := hP.sub (ws' := (wd_X5_addEdge cI cZ cJ a_this a_matrix a_solid v_matrix)) [0, 1] rfl
          have hDc := hD.sub (ws' := (wd_X5_addEdge cI cZ cJ a_this a_matrix a_solid v_matrix)) [0, 1] (by decide) rfl
          have hFc := va_free (wc := (wd_X5_addEdge cI cZ cJ a_this a_matrix a_solid v_matrix)) hD hS hA [0, 1] rfl
          refine va_callv (va_runV (As := [.int l2, .int r_3, .int l1]) (rest := []) C (c_X5_addEdge l D cI cZ cJ tb a_this a_matrix a_solid v_matrix H.size l2 r_3 l1 h) (cwV 3 hts gX5_fillMatrix_X5_addEdge rfl rfl rfl (by decide +kernel) ⟨Nat.le_of_ble_eq_true rfl, Nat.le_of_ble_eq_true rfl⟩) ⟨q_pre.blind, va_recv hK hP (ci := 5) (q0 := 0) rfl rfl, fun U hU hW => ⟨rfl, q_pre.of hU hW hPc hK hDc hSt hS hFc hNw⟩⟩ rfl rfl hl.1 rfl (lv_room (Nat.le_of_ble_eq_true rfl)) dX5_fillMatrix_51 ⟨Nat.zero_le _, Nat.zero_le _⟩) hS (fun q _ h => hFc q h) hFc (fun u_6 t H1 locs ht hvm hw hB hz1 hk1 hS => ?_)
          obtain ⟨hP1, hK1, hD1⟩ := hB
          rw [ht] at hP1
          obtain ⟨hP, hD⟩ := va_join (wr := [(a_solid, .inr (4, [.int v_solid_cubes, .int v_solid_faces, .ref a_solid_cubeOf, .ref a_solid_lookOf, .ref a_solid_x, .ref a_solid_y, .ref a_solid_z, .ref a_solid_faceOf, .ref a_solid_beyondEdge, .ref a_solid_onwardEdge])), (a_solid_beyondEdge, .inl (cI, 132, .inl v_solid_beyondEdge)), (a_solid_lookOf, .inl (cI, 22, .inl v_solid_lookOf))]) (w1 := (wd_X5_addEdge cI cZ cJ a_this a_matrix a_solid u_6)) hP hD [0, 1] [2, 3, 4] rfl rfl (by decide) (by decide) hk1 hFc hP1 hD1
          clear hPc hDc hFc hP1 hD1 hK1 hk1 hz1 ht hvm
          replace h := hw
          clear hw
          generalize H1 = H at hP hS ⊢
          replace hP : va_P D vwCl (wd_X5_fillMatrix cI cZ cJ a_this a_matrix a_solid a_solid_beyondEdge a_solid_lookOf a_solid_cubeOf a_solid_x a_solid_y a_solid_z a_solid_faceOf a_solid_onwardEdge u_6 v_solid_cubes v_solid_faces v_solid_beyondEdge v_solid_lookOf) H := hP.sub [3, 4, 0, 1, 2] rfl
          replace hD : va_D A (wd_X5_fillMatrix cI cZ cJ a_this a_matrix a_solid a_solid_beyondEdge a_solid_lookOf a_solid_cubeOf a_solid_x a_solid_y a_solid_z a_solid_faceOf a_solid_onwardEdge u_6 v_solid_cubes v_solid_faces v_solid_beyondEdge v_solid_lookOf) := hD.sub [3, 4, 0, 1, 2] (by decide) rfl
          refine lv_iinc (v := (l3 + (1 : Int32))) (lv' := [(3, .int (l3 + (1 : Int32))), (0, .ref a_this), (1, .int l1), (2, .int l2)]) hx hb dX5_fillMatrix_54 hl (k := 3) rfl rfl (by decide) rfl (fun ls hl => ?_)
          refine lv_goto (tgt := 17) hx hb dX5_fillMatrix_57 (by decide) ?_
          exact ih (l3 + (1 : Int32)) u_6 _ _ _ h hP hD hS (lv_sub hl [1, 2, 3, 0] rfl)
  have L10_ok : ∀ (l1 : Int32) (kx66 : (Nat → Int64) → Prop) (hkx66 : ∀ (v_matrix : Nat → Int64) (H : Heap) (locs : List Loc) (ls : Array Slot), kx66 v_matrix → va_P D vwCl (wd_X5_fillMatrix cI cZ cJ a_this a_matrix a_solid a_solid_beyondEdge a_solid_lookOf a_solid_cubeOf a_solid_x a_solid_y a_solid_z a_solid_faceOf a_solid_onwardEdge v_matrix v_solid_cubes v_solid_faces v_solid_beyondEdge v_solid_lookOf) H → va_D A (wd_X5_fillMatrix cI cZ cJ a_this a_matrix a_solid a_solid_beyondEdge a_solid_lookOf a_solid_cubeOf a_solid_x a_solid_y a_solid_z a_solid_faceOf a_solid_onwardEdge v_matrix v_solid_cubes v_solid_faces v_solid_beyondEdge v_solid_lookOf) → va_S A s.heap H locs → lv_has ls 4 [] → W p l e rm_X5_fillMatrix s m ([.ref a_this, .int p1] : List Value).toArray below meth c H locs 0 0 Q (F0 m 66 ls [])) (n : Nat) (l2 : Int32) (v_matrix : Nat → Int64) (H : Heap) (locs : List Loc) (ls : Array Slot), lpN (wl_X5_fillMatrix_10 v_solid_beyondEdge v_solid_lookOf l1 kx66) n (l2, v_matrix) → va_P D vwCl (wd_X5_fillMatrix cI cZ cJ a_this a_matrix a_solid a_solid_beyondEdge a_solid_lookOf a_solid_cubeOf a_solid_x a_solid_y a_solid_z a_solid_faceOf a_solid_onwardEdge v_matrix v_solid_cubes v_solid_faces v_solid_beyondEdge v_solid_lookOf) H → va_D A (wd_X5_fillMatrix cI cZ cJ a_this a_matrix a_solid a_solid_beyondEdge a_solid_lookOf a_solid_cubeOf a_solid_x a_solid_y a_solid_z a_solid_faceOf a_solid_onwardEdge v_matrix v_solid_cubes v_solid_faces v_solid_beyondEdge v_solid_lookOf) → va_S A s.heap H locs → lv_has ls 4 [(0, .ref a_this), (1, .int l1), (2, .int l2)] → W p l e rm_X5_fillMatrix s m ([.ref a_this, .int p1] : List Value).toArray below meth c H locs 0 0 Q (F0 m 10 ls []) := by
    intro l1 kx66 hkx66 n
    induction n with
    | zero => intro l2 v_matrix H locs ls h; exact False.elim h
    | succ n ih =>
      intro l2 v_matrix H locs ls h hP hD hS hl
      have h : wb_X5_fillMatrix_10 v_solid_beyondEdge v_solid_lookOf l1 kx66 (fun l2 v_matrix => lpN (wl_X5_fillMatrix_10 v_solid_beyondEdge v_solid_lookOf l1 kx66) n (l2, v_matrix)) l2 v_matrix := h
      unfold wb_X5_fillMatrix_10 at h
      refine lv_iload_n hx hb dX5_fillMatrix_10 rfl (lv_at hl 2 rfl) ?_
      refine lv_iload_n hx hb dX5_fillMatrix_11 rfl (lv_at hl 1 rfl) ?_
      refine lv_icmp_ge (tgt := 66) hx hb dX5_fillMatrix_12 (by decide) (fun hc => ?_) (fun hc => ?_)
      · replace h := h.1 hc
        exact hkx66 v_matrix _ _ _ h hP hD hS (lv_sub hl [] rfl)
      · replace h := h.2 hc
        refine lv_iconst (v := 0) hx hb dX5_fillMatrix_15 (by decide) ?_
        refine lv_istore_n (lv' := [(3, .int (0 : Int32)), (0, .ref a_this), (1, .int l1), (2, .int l2)]) hx hb dX5_fillMatrix_16 rfl hl (by decide) rfl (fun ls hl => ?_)
        obtain ⟨n, h⟩ := h
        refine L17_ok l1 l2 _ (fun v_matrix_8 H locs ls h hP hD hS hl => ?_) n (0 : Int32) v_matrix _ _ _ h hP hD hS (lv_sub hl [1, 2, 3, 0] rfl)
        refine lv_iinc (v := (l2 + (1 : Int32))) (lv' := [(2, .int (l2 + (1 : Int32))), (0, .ref a_this), (1, .int l1)]) hx hb dX5_fillMatrix_60 hl (k := 2) rfl rfl (by decide) rfl (fun ls hl => ?_)
        refine lv_goto (tgt := 10) hx hb dX5_fillMatrix_63 (by decide) ?_
        exact ih (l2 + (1 : Int32)) v_matrix_8 _ _ _ h hP hD hS (lv_sub hl [1, 2, 0] rfl)
  unfold wp_X5_fillMatrix at h
  refine lv_aload_n hx hb dX5_fillMatrix_0 rfl (lv_at hl 0 rfl) ?_
  refine va_get (D := D) (ci := 5) (v := .ref a_matrix) (C := RX5) (T := TX5) (N := 2) hx hb hts iX5 hown hK hP 0 rfl rfl 1 (by decide) f11 (fun _ h9 => h9) rfl dX5_fillMatrix_1 ?_
  refine lv_lconst (v := 0) hx hb dX5_fillMatrix_4 (by decide) ?_
  have hPc := hP.sub (ws' := (wd_J7_fill_d0a16 cI cZ cJ a_matrix 441 v_matrix)) [1] rfl
  have hDc := hD.sub (ws' := (wd_J7_fill_d0a16 cI cZ cJ a_matrix 441 v_matrix)) [1] (by decide) rfl
  have hFc := va_free (wc := (wd_J7_fill_d0a16 cI cZ cJ a_matrix 441 v_matrix)) hD hS hA [1] rfl
  refine va_callv (va_runS (As := [.ref a_matrix, .long (0 : Int64)]) (rest := []) C (c_J7_fill_d0a16 l D cI cZ cJ tb a_matrix 441 v_matrix s.heap.size (0 : Int64) h) (va_cwS 2 hts gX5_fillMatrix_J7_fill_d0a16 rfl rfl rfl (by decide +kernel) ⟨Nat.le_of_ble_eq_true rfl, Nat.le_of_ble_eq_true rfl⟩) ⟨q_pre.blind, fun U hU hW => ⟨rfl, q_pre.of hU hW hPc hK hDc hSt hS hFc hNw⟩⟩ rfl rfl hl.1 rfl (lv_room (Nat.le_of_ble_eq_true rfl)) dX5_fillMatrix_5 ⟨Nat.zero_le _, Nat.zero_le _⟩) hS (fun q _ h => hFc q h) hFc (fun u_10 t H1 locs ht hvm hw hB hz1 hk1 hS => ?_)
  obtain ⟨hP1, hK1, hD1⟩ := hB
  rw [ht] at hP1
  obtain ⟨hP, hD⟩ := va_join (wr := [(a_this, .inr (5, [.ref a_solid, .ref a_matrix])), (a_solid, .inr (4, [.int v_solid_cubes, .int v_solid_faces, .ref a_solid_cubeOf, .ref a_solid_lookOf, .ref a_solid_x, .ref a_solid_y, .ref a_solid_z, .ref a_solid_faceOf, .ref a_solid_beyondEdge, .ref a_solid_onwardEdge])), (a_solid_beyondEdge, .inl (cI, 132, .inl v_solid_beyondEdge)), (a_solid_lookOf, .inl (cI, 22, .inl v_solid_lookOf))]) (w1 := (wd_J7_fill_d0a16 cI cZ cJ a_matrix 441 u_10)) hP hD [1] [0, 2, 3, 4] rfl rfl (by decide) (by decide) hk1 hFc hP1 hD1
  clear hPc hDc hFc hP1 hD1 hK1 hk1 hz1 ht hvm
  replace h := hw
  clear hw
  generalize H1 = H at hP hS ⊢
  replace hP : va_P D vwCl (wd_X5_fillMatrix cI cZ cJ a_this a_matrix a_solid a_solid_beyondEdge a_solid_lookOf a_solid_cubeOf a_solid_x a_solid_y a_solid_z a_solid_faceOf a_solid_onwardEdge u_10 v_solid_cubes v_solid_faces v_solid_beyondEdge v_solid_lookOf) H := hP.sub [0, 4, 1, 2, 3] rfl
  replace hD : va_D A (wd_X5_fillMatrix cI cZ cJ a_this a_matrix a_solid a_solid_beyondEdge a_solid_lookOf a_solid_cubeOf a_solid_x a_solid_y a_solid_z a_solid_faceOf a_solid_onwardEdge u_10 v_solid_cubes v_solid_faces v_solid_beyondEdge v_solid_lookOf) := hD.sub [0, 4, 1, 2, 3] (by decide) rfl
  refine lv_iconst (v := 0) hx hb dX5_fillMatrix_8 (by decide) ?_
  refine lv_istore_n (lv' := [(2, .int (0 : Int32)), (0, .ref a_this), (1, .int p1)]) hx hb dX5_fillMatrix_9 rfl hl (by decide) rfl (fun ls hl => ?_)
  obtain ⟨n, h⟩ := h
  refine L10_ok p1 _ (fun v_matrix_12 H locs ls h hP hD hS hl => ?_) n (0 : Int32) u_10 _ _ _ h hP hD hS (lv_sub hl [1, 2, 0] rfl)
  exact ret v_matrix_12 _ _ _ 66 dX5_fillMatrix_66 h hP hD hS
