def wd_X5_findPivot (cI cZ cJ : ClassId) (a_this a_matrix a_solid : Nat) (v_matrix : Nat → Int64) : va_W := [(a_this, .inr (5, [.ref a_solid, .ref a_matrix])),
  (a_matrix, .inl (cJ, 441, .inr (.inl v_matrix)))]
abbrev rm_X5_findPivot : Room := { frames := 3, cells := 0, slots := 0, locals := 64 }
set_option maxHeartbeats 4000000 in
set_option maxRecDepth 100000 in
theorem c_X5_findPivot (l : Launch) (D : va_G) (cI cZ cJ : ClassId) (tb : Nat → Nat) (a_this a_matrix a_solid : Nat) (v_matrix : Nat → Int64) (sz : Nat) (p1 : Int32) (p2 : Int32) {post : Int32 → Prop} (h : wp_X5_findPivot v_matrix p1 p2 post) : Met l yX5_findPivot wsX5_findPivot rm_X5_findPivot (va_Pc [.ref a_this, .int p1, .int p2] (q_pre D cI cZ cJ tb (wd_X5_findPivot cI cZ cJ a_this a_matrix a_solid v_matrix) sz)) (va_Qi (fun r (u : Unit) => post r) (fun u => q_post D cI cZ cJ (va_A (wd_X5_findPivot cI cZ cJ a_this a_matrix a_solid v_matrix) sz) (wd_X5_findPivot cI cZ cJ a_this a_matrix a_solid v_matrix)) (va_A (wd_X5_findPivot cI cZ cJ a_this a_matrix a_solid v_matrix) sz)) 0 0 (va_A (wd_X5_findPivot cI cZ cJ a_this a_matrix a_solid v_matrix) sz) := by
  refine q_walki (cc := cX5_findPivot) (maxL := 5) (own := RX5) (wd := fun (u : Unit) => (wd_X5_findPivot cI cZ cJ a_this a_matrix a_solid v_matrix)) (by decide) rfl rfl (Nat.le_of_ble_eq_true rfl) ?_
  intro p e s m below meth c Q A ls C hA ret hP hD hS hK hSt hNw hl
  obtain ⟨hx, hb, hml, hown, hts⟩ := id C
  replace hl : lv_has ls 5 [(0, .ref a_this), (1, .int p1), (2, .int p2)] := hl
  have f11 := hts (.fieldLink RX5 11 "NetSearch$TreeCounter" "matrix" "[J") (by decide +kernel)
  have iX5 : ∀ w ∈ wsX50, w ∈ wsX5_findPivot := by decide +kernel
  have L7_ok : ∀ (l1 : Int32) (l2 : Int32) (kx54 : Int32 → Prop) (hkx54 : ∀ (l3 : Int32) (H : Heap) (locs : List Loc) (ls : Array Slot), kx54 l3 → va_P D vwCl (wd_X5_findPivot cI cZ cJ a_this a_matrix a_solid v_matrix) H → va_D A (wd_X5_findPivot cI cZ cJ a_this a_matrix a_solid v_matrix) → va_S A s.heap H locs → lv_has ls 5 [(3, .int l3)] → W p l e rm_X5_findPivot s m ([.ref a_this, .int p1, .int p2] : List Value).toArray below meth c H locs 0 0 Q (F0 m 54 ls [])) (n : Nat) (l3 : Int32) (l4 : Int32) (H : Heap) (locs : List Loc) (ls : Array Slot), lpN (wl_X5_findPivot_7 v_matrix l1 l2 kx54) n (l3, l4) → va_P D vwCl (wd_X5_findPivot cI cZ cJ a_this a_matrix a_solid v_matrix) H → va_D A (wd_X5_findPivot cI cZ cJ a_this a_matrix a_solid v_matrix) → va_S A s.heap H locs → lv_has ls 5 [(0, .ref a_this), (1, .int l1), (2, .int l2), (3, .int l3), (4, .int l4)] → W p l e rm_X5_findPivot s m ([.ref a_this, .int p1, .int p2] : List Value).toArray below meth c H locs 0 0 Q (F0 m 7 ls []) := by
    intro l1 l2 kx54 hkx54 n
    induction n with
    | zero => intro l3 l4 H locs ls h; exact False.elim h
    | succ n ih =>
      intro l3 l4 H locs ls h hP hD hS hl
      have h : wb_X5_findPivot_7 v_matrix l1 l2 kx54 (fun l3 l4 => lpN (wl_X5_findPivot_7 v_matrix l1 l2 kx54) n (l3, l4)) l3 l4 := h
      unfold wb_X5_findPivot_7 at h
      refine lv_iload hx hb dX5_findPivot_7 (lv_at hl 4 rfl) ?_
      refine lv_iload_n hx hb dX5_findPivot_9 rfl (lv_at hl 2 rfl) ?_
      refine lv_icmp_ge (tgt := 54) hx hb dX5_findPivot_10 (by decide) (fun hc => ?_) (fun hc => ?_)
      · replace h := h.1 hc
        exact hkx54 l3 _ _ _ h hP hD hS (lv_sub hl [3] rfl)
      · replace h := h.2 hc
        refine lv_aload_n hx hb dX5_findPivot_13 rfl (lv_at hl 0 rfl) ?_
        refine va_get (D := D) (ci := 5) (v := .ref a_matrix) (C := RX5) (T := TX5) (N := 2) hx hb hts iX5 hown hK hP 0 rfl rfl 1 (by decide) f11 (fun _ h9 => h9) rfl dX5_findPivot_14 ?_
        refine lv_iload hx hb dX5_findPivot_17 (lv_at hl 4 rfl) ?_
        refine lv_bipush (v := 21) hx hb dX5_findPivot_19 (by decide) ?_
        refine lv_imul hx hb dX5_findPivot_21 ?_
        refine lv_iload_n hx hb dX5_findPivot_22 rfl (lv_at hl 1 rfl) ?_
        refine lv_iadd hx hb dX5_findPivot_23 ?_
        obtain ⟨hin, h⟩ := h
        refine va_lald hx hb hK hP 1 2 rfl rfl hin dX5_findPivot_24 ?_
        have hPc := hP.sub (ws' := (wd_X5_twosIn cI cZ cJ)) [] rfl
        have hDc := hD.sub (ws' := (wd_X5_twosIn cI cZ cJ)) [] (by decide) rfl
        have hFc := va_free (wc := (wd_X5_twosIn cI cZ cJ)) hD hS hA [] rfl
        refine va_calli (va_runS (As := [.long (v_matrix ((l4 * (21 : Int32)) + l1).toNatClampNeg)]) (rest := []) C (c_X5_twosIn l D cI cZ cJ tb H.size (v_matrix ((l4 * (21 : Int32)) + l1).toNatClampNeg) h) (va_cwS 1 hts gX5_findPivot_X5_twosIn rfl rfl rfl (by decide +kernel) ⟨Nat.le_of_ble_eq_true rfl, Nat.le_of_ble_eq_true rfl⟩) ⟨q_pre.blind, fun U hU hW => ⟨rfl, q_pre.of hU hW hPc hK hDc hSt hS hFc hNw⟩⟩ rfl rfl hl.1 rfl (lv_room (Nat.le_of_ble_eq_true rfl)) dX5_findPivot_25 ⟨Nat.zero_le _, Nat.zero_le _⟩) hS (fun q _ h => hFc q h) hFc (fun r_1 u_2 t H1 locs ht hvm hw hB hz1 hk1 hS => ?_)
        obtain ⟨hP1, hK1, hD1⟩ := hB
        rw [ht] at hP1
        obtain ⟨hP, hD⟩ := va_join (wr := [(a_this, .inr (5, [.ref a_solid, .ref a_matrix])), (a_matrix, .inl (cJ, 441, .inr (.inl v_matrix)))]) (w1 := (wd_X5_twosIn cI cZ cJ)) hP hD [] [0, 1] rfl rfl (by decide) (by decide) hk1 hFc hP1 hD1
        clear hPc hDc hFc hP1 hD1 hK1 hk1 hz1 ht hvm
        replace h := hw
        clear hw
        generalize H1 = H at hP hS ⊢
        replace hP : va_P D vwCl (wd_X5_findPivot cI cZ cJ a_this a_matrix a_solid v_matrix) H := hP.sub [0, 1] rfl
        replace hD : va_D A (wd_X5_findPivot cI cZ cJ a_this a_matrix a_solid v_matrix) := hD.sub [0, 1] (by decide) rfl
        refine lv_aload_n hx hb dX5_findPivot_28 rfl (lv_at hl 0 rfl) ?_
        refine va_get (D := D) (ci := 5) (v := .ref a_matrix) (C := RX5) (T := TX5) (N := 2) hx hb hts iX5 hown hK hP 0 rfl rfl 1 (by decide) f11 (fun _ h9 => h9) rfl dX5_findPivot_29 ?_
        refine lv_iload_n hx hb dX5_findPivot_32 rfl (lv_at hl 3 rfl) ?_
        refine lv_bipush (v := 21) hx hb dX5_findPivot_33 (by decide) ?_
        refine lv_imul hx hb dX5_findPivot_35 ?_
        refine lv_iload_n hx hb dX5_findPivot_36 rfl (lv_at hl 1 rfl) ?_
        refine lv_iadd hx hb dX5_findPivot_37 ?_
        obtain ⟨hin, h⟩ := h
        refine va_lald hx hb hK hP 1 2 rfl rfl hin dX5_findPivot_38 ?_
        have hPc := hP.sub (ws' := (wd_X5_twosIn cI cZ cJ)) [] rfl
        have hDc := hD.sub (ws' := (wd_X5_twosIn cI cZ cJ)) [] (by decide) rfl
        have hFc := va_free (wc := (wd_X5_twosIn cI cZ cJ)) hD hS hA [] rfl
        refine va_calli (va_runS (As := [.long (v_matrix ((l3 * (21 : Int32)) + l1).toNatClampNeg)]) (rest := [.int r_1]) C (c_X5_twosIn l D cI cZ cJ tb H.size (v_matrix ((l3 * (21 : Int32)) + l1).toNatClampNeg) h) (va_cwS 1 hts gX5_findPivot_X5_twosIn rfl rfl rfl (by decide +kernel) ⟨Nat.le_of_ble_eq_true rfl, Nat.le_of_ble_eq_true rfl⟩) ⟨q_pre.blind, fun U hU hW => ⟨rfl, q_pre.of hU hW hPc hK hDc hSt hS hFc hNw⟩⟩ rfl rfl hl.1 rfl (lv_room (Nat.le_of_ble_eq_true rfl)) dX5_findPivot_39 ⟨Nat.zero_le _, Nat.zero_le _⟩) hS (fun q _ h => hFc q h) hFc (fun r_3 u_4 t H1 locs ht hvm hw hB hz1 hk1 hS => ?_)
        obtain ⟨hP1, hK1, hD1⟩ := hB
        rw [ht] at hP1
        obtain ⟨hP, hD⟩ := va_join (wr := [(a_this, .inr (5, [.ref a_solid, .ref a_matrix])), (a_matrix, .inl (cJ, 441, .inr (.inl v_matrix)))]) (w1 := (wd_X5_twosIn cI cZ cJ)) hP hD [] [0, 1] rfl rfl (by decide) (by decide) hk1 hFc hP1 hD1
        clear hPc hDc hFc hP1 hD1 hK1 hk1 hz1 ht hvm
        replace h := hw
        clear hw
        generalize H1 = H at hP hS ⊢
        replace hP : va_P D vwCl (wd_X5_findPivot cI cZ cJ a_this a_matrix a_solid v_matrix) H := hP.sub [0, 1] rfl
        replace hD : va_D A (wd_X5_findPivot cI cZ cJ a_this a_matrix a_solid v_matrix) := hD.sub [0, 1] (by decide) rfl
        refine lv_icmp_ge (tgt := 48) hx hb dX5_findPivot_42 (by decide) (fun hc => ?_) (fun hc => ?_)
        · replace h := h.1 hc
          refine lv_iinc (v := (l4 + (1 : Int32))) (lv' := [(4, .int (l4 + (1 : Int32))), (0, .ref a_this), (1, .int l1), (2, .int l2), (3, .int l3)]) hx hb dX5_findPivot_48 hl (k := 4) rfl rfl (by decide) rfl (fun ls hl => ?_)
          refine lv_goto (tgt := 7) hx hb dX5_findPivot_51 (by decide) ?_
          exact ih l3 (l4 + (1 : Int32)) _ _ _ h hP hD hS (lv_sub hl [1, 2, 3, 4, 0] rfl)
        · replace h := h.2 hc
          refine lv_iload hx hb dX5_findPivot_45 (lv_at hl 4 rfl) ?_
          refine lv_istore_n (lv' := [(3, .int l4), (0, .ref a_this), (1, .int l1), (2, .int l2), (4, .int l4)]) hx hb dX5_findPivot_47 rfl hl (by decide) rfl (fun ls hl => ?_)
          refine lv_iinc (v := (l4 + (1 : Int32))) (lv' := [(4, .int (l4 + (1 : Int32))), (3, .int l4), (0, .ref a_this), (1, .int l1), (2, .int l2)]) hx hb dX5_findPivot_48 hl (k := 4) rfl rfl (by decide) rfl (fun ls hl => ?_)
          refine lv_goto (tgt := 7) hx hb dX5_findPivot_51 (by decide) ?_
          exact ih l4 (l4 + (1 : Int32)) _ _ _ h hP hD hS (lv_sub hl [2, 3, 4, 1, 0] rfl)
  unfold wp_X5_findPivot at h
  refine lv_iload_n hx hb dX5_findPivot_0 rfl (lv_at hl 1 rfl) ?_
  refine lv_istore_n (lv' := [(3, .int p1), (0, .ref a_this), (1, .int p1), (2, .int p2)]) hx hb dX5_findPivot_1 rfl hl (by decide) rfl (fun ls hl => ?_)
  refine lv_iload_n hx hb dX5_findPivot_2 rfl (lv_at hl 2 rfl) ?_
  refine lv_iconst (v := 1) hx hb dX5_findPivot_3 (by decide) ?_
  refine lv_iadd hx hb dX5_findPivot_4 ?_
  refine lv_istore (lv' := [(4, .int (p1 + (1 : Int32))), (3, .int p1), (0, .ref a_this), (1, .int p1), (2, .int p2)]) hx hb dX5_findPivot_5 hl (by decide) rfl (fun ls hl => ?_)
  obtain ⟨n, h⟩ := h
  refine L7_ok p1 p2 _ (fun l3_5 H locs ls h hP hD hS hl => ?_) n p1 (p1 + (1 : Int32)) _ _ _ h hP hD hS (lv_sub hl [2, 3, 4, 1, 0] rfl)
  refine lv_iload_n hx hb dX5_findPivot_54 rfl (lv_at hl 0 rfl) ?_
  exact ret l3_5 () _ _ _ 55 dX5_findPivot_55 h hP hD hS
def wd_X5_swapRows (cI cZ cJ : ClassId) (a_this a_matrix a_solid : Nat) (v_matrix : Nat → Int64) : va_W := [(a_this, .inr (5, [.ref a_solid, .ref a_matrix])),
  (a_matrix, .inl (cJ, 441, .inr (.inl v_matrix)))]
abbrev rm_X5_swapRows : Room := { frames := 0, cells := 0, slots := 0, locals := 0 }
set_option maxHeartbeats 4000000 in
set_option maxRecDepth 100000 in
theorem c_X5_swapRows (l : Launch) (D : va_G) (cI cZ cJ : ClassId) (tb : Nat → Nat) (a_this a_matrix a_solid : Nat) (v_matrix : Nat → Int64) (sz : Nat) (p1 : Int32) (p2 : Int32) (p3 : Int32) {post : (Nat → Int64) → Prop} (h : wp_X5_swapRows v_matrix p1 p2 p3 post) : Met l yX5_swapRows wsX5_swapRows rm_X5_swapRows (va_Pc [.ref a_this, .int p1, .int p2, .int p3] (q_pre D cI cZ cJ tb (wd_X5_swapRows cI cZ cJ a_this a_matrix a_solid v_matrix) sz)) (va_Qv (fun (u : Nat → Int64) => post u) (fun u => q_post D cI cZ cJ (va_A (wd_X5_swapRows cI cZ cJ a_this a_matrix a_solid v_matrix) sz) (wd_X5_swapRows cI cZ cJ a_this a_matrix a_solid u)) (va_A (wd_X5_swapRows cI cZ cJ a_this a_matrix a_solid v_matrix) sz)) 0 0 (va_A (wd_X5_swapRows cI cZ cJ a_this a_matrix a_solid v_matrix) sz) := by
  refine q_walkv (cc := cX5_swapRows) (maxL := 7) (own := RX5) (wd := fun (u : Nat → Int64) => (wd_X5_swapRows cI cZ cJ a_this a_matrix a_solid u)) (by decide) rfl rfl (Nat.le_of_ble_eq_true rfl) ?_
  intro p e s m below meth c Q A ls C hA ret hP hD hS hK hSt hNw hl
  obtain ⟨hx, hb, hml, hown, hts⟩ := id C
  replace hl : lv_has ls 7 [(0, .ref a_this), (1, .int p1), (2, .int p2), (3, .int p3)] := hl
  have f11 := hts (.fieldLink RX5 11 "NetSearch$TreeCounter" "matrix" "[J") (by decide +kernel)
  have iX5 : ∀ w ∈ wsX50, w ∈ wsX5_swapRows := by decide +kernel
  have L3_ok : ∀ (l1 : Int32) (l2 : Int32) (l3 : Int32) (kx67 : (Nat → Int64) → Prop) (hkx67 : ∀ (v_matrix : Nat → Int64) (H : Heap) (locs : List Loc) (ls : Array Slot), kx67 v_matrix → va_P D vwCl (wd_X5_swapRows cI cZ cJ a_this a_matrix a_solid v_matrix) H → va_D A (wd_X5_swapRows cI cZ cJ a_this a_matrix a_solid v_matrix) → va_S A s.heap H locs → lv_has ls 7 [] → W p l e rm_X5_swapRows s m ([.ref a_this, .int p1, .int p2, .int p3] : List Value).toArray below meth c H locs 0 0 Q (F0 m 67 ls [])) (n : Nat) (l4 : Int32) (v_matrix : Nat → Int64) (H : Heap) (locs : List Loc) (ls : Array Slot), lpN (wl_X5_swapRows_3 l1 l2 l3 kx67) n (l4, v_matrix) → va_P D vwCl (wd_X5_swapRows cI cZ cJ a_this a_matrix a_solid v_matrix) H → va_D A (wd_X5_swapRows cI cZ cJ a_this a_matrix a_solid v_matrix) → va_S A s.heap H locs → lv_has ls 7 [(0, .ref a_this), (1, .int l1), (2, .int l2), (3, .int l3), (4, .int l4)] → W p l e rm_X5_swapRows s m ([.ref a_this, .int p1, .int p2, .int p3] : List Value).toArray below meth c H locs 0 0 Q (F0 m 3 ls []) := by
    intro l1 l2 l3 kx67 hkx67 n
    induction n with
    | zero => intro l4 v_matrix H locs ls h; exact False.elim h
    | succ n ih =>
      intro l4 v_matrix H locs ls h hP hD hS hl
      have h : wb_X5_swapRows_3 l1 l2 l3 kx67 (fun l4 v_matrix => lpN (wl_X5_swapRows_3 l1 l2 l3 kx67) n (l4, v_matrix)) l4 v_matrix := h
      unfold wb_X5_swapRows_3 at h
      refine lv_iload hx hb dX5_swapRows_3 (lv_at hl 4 rfl) ?_
      refine lv_iload_n hx hb dX5_swapRows_5 rfl (lv_at hl 3 rfl) ?_
      refine lv_icmp_ge (tgt := 67) hx hb dX5_swapRows_6 (by decide) (fun hc => ?_) (fun hc => ?_)
      · replace h := h.1 hc
        exact hkx67 v_matrix _ _ _ h hP hD hS (lv_sub hl [] rfl)
      · replace h := h.2 hc
        refine lv_aload_n hx hb dX5_swapRows_9 rfl (lv_at hl 0 rfl) ?_
        refine va_get (D := D) (ci := 5) (v := .ref a_matrix) (C := RX5) (T := TX5) (N := 2) hx hb hts iX5 hown hK hP 0 rfl rfl 1 (by decide) f11 (fun _ h9 => h9) rfl dX5_swapRows_10 ?_
        refine lv_iload_n hx hb dX5_swapRows_13 rfl (lv_at hl 1 rfl) ?_
        refine lv_bipush (v := 21) hx hb dX5_swapRows_14 (by decide) ?_
        refine lv_imul hx hb dX5_swapRows_16 ?_
        refine lv_iload hx hb dX5_swapRows_17 (lv_at hl 4 rfl) ?_
        refine lv_iadd hx hb dX5_swapRows_19 ?_
        obtain ⟨hin, h⟩ := h
        refine va_lald hx hb hK hP 1 2 rfl rfl hin dX5_swapRows_20 ?_
        refine lv_lstore (lv' := [(5, .long (v_matrix ((l1 * (21 : Int32)) + l4).toNatClampNeg)), (0, .ref a_this), (1, .int l1), (2, .int l2), (3, .int l3), (4, .int l4)]) hx hb dX5_swapRows_21 hl (by decide) rfl (fun ls hl => ?_)
        refine lv_aload_n hx hb dX5_swapRows_23 rfl (lv_at hl 1 rfl) ?_
        refine va_get (D := D) (ci := 5) (v := .ref a_matrix) (C := RX5) (T := TX5) (N := 2) hx hb hts iX5 hown hK hP 0 rfl rfl 1 (by decide) f11 (fun _ h9 => h9) rfl dX5_swapRows_24 ?_
        refine lv_iload_n hx hb dX5_swapRows_27 rfl (lv_at hl 2 rfl) ?_
        refine lv_bipush (v := 21) hx hb dX5_swapRows_28 (by decide) ?_
        refine lv_imul hx hb dX5_swapRows_30 ?_
        refine lv_iload hx hb dX5_swapRows_31 (lv_at hl 5 rfl) ?_
        refine lv_iadd hx hb dX5_swapRows_33 ?_
        refine lv_aload_n hx hb dX5_swapRows_34 rfl (lv_at hl 1 rfl) ?_
        refine va_get (D := D) (ci := 5) (v := .ref a_matrix) (C := RX5) (T := TX5) (N := 2) hx hb hts iX5 hown hK hP 0 rfl rfl 1 (by decide) f11 (fun _ h9 => h9) rfl dX5_swapRows_35 ?_
        refine lv_iload_n hx hb dX5_swapRows_38 rfl (lv_at hl 3 rfl) ?_
        refine lv_bipush (v := 21) hx hb dX5_swapRows_39 (by decide) ?_
        refine lv_imul hx hb dX5_swapRows_41 ?_
        refine lv_iload hx hb dX5_swapRows_42 (lv_at hl 5 rfl) ?_
        refine lv_iadd hx hb dX5_swapRows_44 ?_
        obtain ⟨hin, h⟩ := h
        refine va_lald hx hb hK hP 1 2 rfl rfl hin dX5_swapRows_45 ?_
        obtain ⟨hin, h⟩ := h
        refine va_last hx hb hK hP hD hS 1 2 rfl rfl hin dX5_swapRows_46 (fun H locs hP hD hS => ?_)
        replace hP : va_P D vwCl (wd_X5_swapRows cI cZ cJ a_this a_matrix a_solid (vp_updL v_matrix ((l1 * (21 : Int32)) + l4).toNatClampNeg (v_matrix ((l2 * (21 : Int32)) + l4).toNatClampNeg))) H := hP
        replace hD : va_D A (wd_X5_swapRows cI cZ cJ a_this a_matrix a_solid (vp_updL v_matrix ((l1 * (21 : Int32)) + l4).toNatClampNeg (v_matrix ((l2 * (21 : Int32)) + l4).toNatClampNeg))) := hD
        refine lv_aload_n hx hb dX5_swapRows_47 rfl (lv_at hl 1 rfl) ?_
        refine va_get (D := D) (ci := 5) (v := .ref a_matrix) (C := RX5) (T := TX5) (N := 2) hx hb hts iX5 hown hK hP 0 rfl rfl 1 (by decide) f11 (fun _ h9 => h9) rfl dX5_swapRows_48 ?_
        refine lv_iload_n hx hb dX5_swapRows_51 rfl (lv_at hl 3 rfl) ?_
        refine lv_bipush (v := 21) hx hb dX5_swapRows_52 (by decide) ?_
        refine lv_imul hx hb dX5_swapRows_54 ?_
        refine lv_iload hx hb dX5_swapRows_55 (lv_at hl 5 rfl) ?_
        refine lv_iadd hx hb dX5_swapRows_57 ?_
        refine lv_lload hx hb dX5_swapRows_58 (lv_at hl 0 rfl) ?_
        obtain ⟨hin, h⟩ := h
        refine va_last hx hb hK hP hD hS 1 2 rfl rfl hin dX5_swapRows_60 (fun H locs hP hD hS => ?_)
        replace hP : va_P D vwCl (wd_X5_swapRows cI cZ cJ a_this a_matrix a_solid (vp_updL (vp_updL v_matrix ((l1 * (21 : Int32)) + l4).toNatClampNeg (v_matrix ((l2 * (21 : Int32)) + l4).toNatClampNeg)) ((l2 * (21 : Int32)) + l4).toNatClampNeg (v_matrix ((l1 * (21 : Int32)) + l4).toNatClampNeg))) H := hP
        replace hD : va_D A (wd_X5_swapRows cI cZ cJ a_this a_matrix a_solid (vp_updL (vp_updL v_matrix ((l1 * (21 : Int32)) + l4).toNatClampNeg (v_matrix ((l2 * (21 : Int32)) + l4).toNatClampNeg)) ((l2 * (21 : Int32)) + l4).toNatClampNeg (v_matrix ((l1 * (21 : Int32)) + l4).toNatClampNeg))) := hD
        refine lv_iinc (v := (l4 + (1 : Int32))) (lv' := [(4, .int (l4 + (1 : Int32))), (5, .long (v_matrix ((l1 * (21 : Int32)) + l4).toNatClampNeg)), (0, .ref a_this), (1, .int l1), (2, .int l2), (3, .int l3)]) hx hb dX5_swapRows_61 hl (k := 5) rfl rfl (by decide) rfl (fun ls hl => ?_)
        refine lv_goto (tgt := 3) hx hb dX5_swapRows_64 (by decide) ?_
        exact ih (l4 + (1 : Int32)) (vp_updL (vp_updL v_matrix ((l1 * (21 : Int32)) + l4).toNatClampNeg (v_matrix ((l2 * (21 : Int32)) + l4).toNatClampNeg)) ((l2 * (21 : Int32)) + l4).toNatClampNeg (v_matrix ((l1 * (21 : Int32)) + l4).toNatClampNeg)) _ _ _ h hP hD hS (lv_sub hl [2, 3, 4, 5, 0] rfl)
  unfold wp_X5_swapRows at h
  refine lv_iconst (v := 0) hx hb dX5_swapRows_0 (by decide) ?_
  refine lv_istore (lv' := [(4, .int (0 : Int32)), (0, .ref a_this), (1, .int p1), (2, .int p2), (3, .int p3)]) hx hb dX5_swapRows_1 hl (by decide) rfl (fun ls hl => ?_)
  obtain ⟨n, h⟩ := h
  refine L3_ok p1 p2 p3 _ (fun v_matrix_1 H locs ls h hP hD hS hl => ?_) n (0 : Int32) v_matrix _ _ _ h hP hD hS (lv_sub hl [1, 2, 3, 4, 0] rfl)
  exact ret v_matrix_1 _ _ _ 67 dX5_swapRows_67 h hP hD hS
def wd_X5_count (cI cZ cJ : ClassId) (a_this a_matrix a_solid a_solid_beyondEdge a_solid_lookOf a_solid_cubeOf a_solid_x a_solid_y a_solid_z a_solid_faceOf a_solid_onwardEdge : Nat) (v_matrix : Nat → Int64) (v_solid_cubes : Int32) (v_solid_faces : Int32) (v_solid_beyondEdge : Nat → Int32) (v_solid_lookOf : Nat → Int32) : va_W := [(a_this, .inr (5, [.ref a_solid, .ref a_matrix])),
  (a_matrix, .inl (cJ, 441, .inr (.inl v_matrix))),
  (a_solid, .inr (4, [.int v_solid_cubes, .int v_solid_faces, .ref a_solid_cubeOf, .ref a_solid_lookOf, .ref a_solid_x, .ref a_solid_y, .ref a_solid_z, .ref a_solid_faceOf, .ref a_solid_beyondEdge, .ref a_solid_onwardEdge])),
  (a_solid_beyondEdge, .inl (cI, 132, .inl v_solid_beyondEdge)),
  (a_solid_lookOf, .inl (cI, 22, .inl v_solid_lookOf))]
abbrev rm_X5_count : Room := { frames := 4, cells := 0, slots := 0, locals := 95 }
set_option maxHeartbeats 4000000 in
set_option maxRecDepth 100000 in
theorem c_X5_count (l : Launch) (D : va_G) (cI cZ cJ : ClassId) (tb : Nat → Nat) (a_this a_matrix a_solid a_solid_beyondEdge a_solid_lookOf a_solid_cubeOf a_solid_x a_solid_y a_solid_z a_solid_faceOf a_solid_onwardEdge : Nat) (v_matrix : Nat → Int64) (v_solid_cubes : Int32) (v_solid_faces : Int32) (v_solid_beyondEdge : Nat → Int32) (v_solid_lookOf : Nat → Int32) (sz : Nat) {post : Int64 → (Nat → Int64) → Prop} (h : wp_X5_count v_matrix v_solid_faces v_solid_beyondEdge v_solid_lookOf post) : Met l yX5_count wsX5_count rm_X5_count (va_Pc [.ref a_this] (q_pre D cI cZ cJ tb (wd_X5_count cI cZ cJ a_this a_matrix a_solid a_solid_beyondEdge a_solid_lookOf a_solid_cubeOf a_solid_x a_solid_y a_solid_z a_solid_faceOf a_solid_onwardEdge v_matrix v_solid_cubes v_solid_faces v_solid_beyondEdge v_solid_lookOf) sz)) (va_Ql (fun r (u : Nat → Int64) => post r u) (fun u => q_post D cI cZ cJ (va_A (wd_X5_count cI cZ cJ a_this a_matrix a_solid a_solid_beyondEdge a_solid_lookOf a_solid_cubeOf a_solid_x a_solid_y a_solid_z a_solid_faceOf a_solid_onwardEdge v_matrix v_solid_cubes v_solid_faces v_solid_beyondEdge v_solid_lookOf) sz) (wd_X5_count cI cZ cJ a_this a_matrix a_solid a_solid_beyondEdge a_solid_lookOf a_solid_cubeOf a_solid_x a_solid_y a_solid_z a_solid_faceOf a_solid_onwardEdge u v_solid_cubes v_solid_faces v_solid_beyondEdge v_solid_lookOf)) (va_A (wd_X5_count cI cZ cJ a_this a_matrix a_solid a_solid_beyondEdge a_solid_lookOf a_solid_cubeOf a_solid_x a_solid_y a_solid_z a_solid_faceOf a_solid_onwardEdge v_matrix v_solid_cubes v_solid_faces v_solid_beyondEdge v_solid_lookOf) sz)) 0 0 (va_A (wd_X5_count cI cZ cJ a_this a_matrix a_solid a_solid_beyondEdge a_solid_lookOf a_solid_cubeOf a_solid_x a_solid_y a_solid_z a_solid_faceOf a_solid_onwardEdge v_matrix v_solid_cubes v_solid_faces v_solid_beyondEdge v_solid_lookOf) sz) := by
  refine q_walkl (cc := cX5_count) (maxL := 6) (own := RX5) (wd := fun (u : Nat → Int64) => (wd_X5_count cI cZ cJ a_this a_matrix a_solid a_solid_beyondEdge a_solid_lookOf a_solid_cubeOf a_solid_x a_solid_y a_solid_z a_solid_faceOf a_solid_onwardEdge u v_solid_cubes v_solid_faces v_solid_beyondEdge v_solid_lookOf)) (by decide) rfl rfl (Nat.le_of_ble_eq_true rfl) ?_
  intro p e s m below meth c Q A ls C hA ret hP hD hS hK hSt hNw hl
  obtain ⟨hx, hb, hml, hown, hts⟩ := id C
  replace hl : lv_has ls 6 [(0, .ref a_this)] := hl
  have f11 := hts (.fieldLink RX5 11 "NetSearch$TreeCounter" "matrix" "[J") (by decide +kernel)
  have iX5 : ∀ w ∈ wsX50, w ∈ wsX5_count := by decide +kernel
  have f15 := hts (.fieldLink RX5 15 "NetSearch$TreeCounter" "solid" "LNetSearch$Solid;") (by decide +kernel)
  have f19 := hts (.fieldLink RX5 19 "NetSearch$Solid" "faces" "I") (by decide +kernel)
  have iX4 : ∀ w ∈ wsX40, w ∈ wsX5_count := by decide +kernel
  have J54_ok : ∀ (l1 : Int32) (kx83 : Int64 → (Nat → Int64) → Prop) (hkx83 : ∀ (l2 : Int64) (v_matrix : Nat → Int64) (H : Heap) (locs : List Loc) (ls : Array Slot), kx83 l2 v_matrix → va_P D vwCl (wd_X5_count cI cZ cJ a_this a_matrix a_solid a_solid_beyondEdge a_solid_lookOf a_solid_cubeOf a_solid_x a_solid_y a_solid_z a_solid_faceOf a_solid_onwardEdge v_matrix v_solid_cubes v_solid_faces v_solid_beyondEdge v_solid_lookOf) H → va_D A (wd_X5_count cI cZ cJ a_this a_matrix a_solid a_solid_beyondEdge a_solid_lookOf a_solid_cubeOf a_solid_x a_solid_y a_solid_z a_solid_faceOf a_solid_onwardEdge v_matrix v_solid_cubes v_solid_faces v_solid_beyondEdge v_solid_lookOf) → va_S A s.heap H locs → lv_has ls 6 [(2, .long l2)] → W p l e rm_X5_count s m ([.ref a_this] : List Value).toArray below meth c H locs 0 0 Q (F0 m 83 ls [])) (kb : Int64 → Int32 → (Nat → Int64) → Prop) (hkb : ∀ (l2 : Int64) (l4 : Int32) (v_matrix : Nat → Int64) (H : Heap) (locs : List Loc) (ls : Array Slot), kb l2 l4 v_matrix → va_P D vwCl (wd_X5_count cI cZ cJ a_this a_matrix a_solid a_solid_beyondEdge a_solid_lookOf a_solid_cubeOf a_solid_x a_solid_y a_solid_z a_solid_faceOf a_solid_onwardEdge v_matrix v_solid_cubes v_solid_faces v_solid_beyondEdge v_solid_lookOf) H → va_D A (wd_X5_count cI cZ cJ a_this a_matrix a_solid a_solid_beyondEdge a_solid_lookOf a_solid_cubeOf a_solid_x a_solid_y a_solid_z a_solid_faceOf a_solid_onwardEdge v_matrix v_solid_cubes v_solid_faces v_solid_beyondEdge v_solid_lookOf) → va_S A s.heap H locs → lv_has ls 6 [(0, .ref a_this), (1, .int l1), (2, .long l2), (4, .int l4)] → W p l e rm_X5_count s m ([.ref a_this] : List Value).toArray below meth c H locs 0 0 Q (F0 m 20 ls [])) (l2 : Int64) (l4 : Int32) (v_matrix : Nat → Int64) (H : Heap) (locs : List Loc) (ls : Array Slot), wj_X5_count_54 l1 kb l2 l4 v_matrix → va_P D vwCl (wd_X5_count cI cZ cJ a_this a_matrix a_solid a_solid_beyondEdge a_solid_lookOf a_solid_cubeOf a_solid_x a_solid_y a_solid_z a_solid_faceOf a_solid_onwardEdge v_matrix v_solid_cubes v_solid_faces v_solid_beyondEdge v_solid_lookOf) H → va_D A (wd_X5_count cI cZ cJ a_this a_matrix a_solid a_solid_beyondEdge a_solid_lookOf a_solid_cubeOf a_solid_x a_solid_y a_solid_z a_solid_faceOf a_solid_onwardEdge v_matrix v_solid_cubes v_solid_faces v_solid_beyondEdge v_solid_lookOf) → va_S A s.heap H locs → lv_has ls 6 [(0, .ref a_this), (1, .int l1), (2, .long l2), (4, .int l4)] → W p l e rm_X5_count s m ([.ref a_this] : List Value).toArray below meth c H locs 0 0 Q (F0 m 54 ls []) := by
    intro l1 kx83 hkx83 kb hkb l2 l4 v_matrix H locs ls h hP hD hS hl
    unfold wj_X5_count_54 at h
    refine lv_lload_n hx hb dX5_count_54 rfl (lv_at hl 2 rfl) ?_
    refine lv_aload_n hx hb dX5_count_55 rfl (lv_at hl 0 rfl) ?_
    refine va_get (D := D) (ci := 5) (v := .ref a_matrix) (C := RX5) (T := TX5) (N := 2) hx hb hts iX5 hown hK hP 0 rfl rfl 1 (by decide) f11 (fun _ h9 => h9) rfl dX5_count_56 ?_
    refine lv_iload hx hb dX5_count_59 (lv_at hl 3 rfl) ?_
    refine lv_bipush (v := 21) hx hb dX5_count_61 (by decide) ?_
    refine lv_imul hx hb dX5_count_63 ?_
    refine lv_iload hx hb dX5_count_64 (lv_at hl 3 rfl) ?_
    refine lv_iadd hx hb dX5_count_66 ?_
    obtain ⟨hin, h⟩ := h
    refine va_lald hx hb hK hP 1 2 rfl rfl hin dX5_count_67 ?_
    refine lv_lmul hx hb dX5_count_68 ?_
    refine lv_lstore_n (lv' := [(2, .long (l2 * (v_matrix ((l4 * (21 : Int32)) + l4).toNatClampNeg))), (0, .ref a_this), (1, .int l1), (4, .int l4)]) hx hb dX5_count_69 rfl hl (by decide) rfl (fun ls hl => ?_)
    refine lv_aload_n hx hb dX5_count_70 rfl (lv_at hl 1 rfl) ?_
    refine lv_iload hx hb dX5_count_71 (lv_at hl 3 rfl) ?_
    refine lv_iload_n hx hb dX5_count_73 rfl (lv_at hl 2 rfl) ?_
    have hPc := hP.sub (ws' := (wd_X5_clearBelow cI cZ cJ a_this a_matrix a_solid v_matrix)) [0, 1] rfl
    have hDc := hD.sub (ws' := (wd_X5_clearBelow cI cZ cJ a_this a_matrix a_solid v_matrix)) [0, 1] (by decide) rfl
    have hFc := va_free (wc := (wd_X5_clearBelow cI cZ cJ a_this a_matrix a_solid v_matrix)) hD hS hA [0, 1] rfl
    refine va_callv (va_runV (As := [.int l4, .int l1]) (rest := []) C (c_X5_clearBelow l D cI cZ cJ tb a_this a_matrix a_solid v_matrix H.size l4 l1 h) (cwV 2 hts gX5_count_X5_clearBelow rfl rfl rfl (by decide +kernel) ⟨Nat.le_of_ble_eq_true rfl, Nat.le_of_ble_eq_true rfl⟩) ⟨q_pre.blind, va_recv hK hP (ci := 5) (q0 := 0) rfl rfl, fun U hU hW => ⟨rfl, q_pre.of hU hW hPc hK hDc hSt hS hFc hNw⟩⟩ rfl rfl hl.1 rfl (lv_room (Nat.le_of_ble_eq_true rfl)) dX5_count_74 ⟨Nat.zero_le _, Nat.zero_le _⟩) hS (fun q _ h => hFc q h) hFc (fun u_2 t H1 locs ht hvm hw hB hz1 hk1 hS => ?_)
    obtain ⟨hP1, hK1, hD1⟩ := hB
    rw [ht] at hP1
    obtain ⟨hP, hD⟩ := va_join (wr := [(a_solid, .inr (4, [.int v_solid_cubes, .int v_solid_faces, .ref a_solid_cubeOf, .ref a_solid_lookOf, .ref a_solid_x, .ref a_solid_y, .ref a_solid_z, .ref a_solid_faceOf, .ref a_solid_beyondEdge, .ref a_solid_onwardEdge])), (a_solid_beyondEdge, .inl (cI, 132, .inl v_solid_beyondEdge)), (a_solid_lookOf, .inl (cI, 22, .inl v_solid_lookOf))]) (w1 := (wd_X5_clearBelow cI cZ cJ a_this a_matrix a_solid u_2)) hP hD [0, 1] [2, 3, 4] rfl rfl (by decide) (by decide) hk1 hFc hP1 hD1
    clear hPc hDc hFc hP1 hD1 hK1 hk1 hz1 ht hvm
    replace h := hw
    clear hw
    generalize H1 = H at hP hS ⊢
    replace hP : va_P D vwCl (wd_X5_count cI cZ cJ a_this a_matrix a_solid a_solid_beyondEdge a_solid_lookOf a_solid_cubeOf a_solid_x a_solid_y a_solid_z a_solid_faceOf a_solid_onwardEdge u_2 v_solid_cubes v_solid_faces v_solid_beyondEdge v_solid_lookOf) H := hP.sub [3, 4, 0, 1, 2] rfl
    replace hD : va_D A (wd_X5_count cI cZ cJ a_this a_matrix a_solid a_solid_beyondEdge a_solid_lookOf a_solid_cubeOf a_solid_x a_solid_y a_solid_z a_solid_faceOf a_solid_onwardEdge u_2 v_solid_cubes v_solid_faces v_solid_beyondEdge v_solid_lookOf) := hD.sub [3, 4, 0, 1, 2] (by decide) rfl
    refine lv_iinc (v := (l4 + (1 : Int32))) (lv' := [(4, .int (l4 + (1 : Int32))), (2, .long (l2 * (v_matrix ((l4 * (21 : Int32)) + l4).toNatClampNeg))), (0, .ref a_this), (1, .int l1)]) hx hb dX5_count_77 hl (k := 3) rfl rfl (by decide) rfl (fun ls hl => ?_)
    refine lv_goto (tgt := 20) hx hb dX5_count_80 (by decide) ?_
    exact hkb (l2 * (v_matrix ((l4 * (21 : Int32)) + l4).toNatClampNeg)) (l4 + (1 : Int32)) u_2 _ _ _ h hP hD hS (lv_sub hl [2, 3, 1, 0] rfl)
  have L20_ok : ∀ (l1 : Int32) (kx83 : Int64 → (Nat → Int64) → Prop) (hkx83 : ∀ (l2 : Int64) (v_matrix : Nat → Int64) (H : Heap) (locs : List Loc) (ls : Array Slot), kx83 l2 v_matrix → va_P D vwCl (wd_X5_count cI cZ cJ a_this a_matrix a_solid a_solid_beyondEdge a_solid_lookOf a_solid_cubeOf a_solid_x a_solid_y a_solid_z a_solid_faceOf a_solid_onwardEdge v_matrix v_solid_cubes v_solid_faces v_solid_beyondEdge v_solid_lookOf) H → va_D A (wd_X5_count cI cZ cJ a_this a_matrix a_solid a_solid_beyondEdge a_solid_lookOf a_solid_cubeOf a_solid_x a_solid_y a_solid_z a_solid_faceOf a_solid_onwardEdge v_matrix v_solid_cubes v_solid_faces v_solid_beyondEdge v_solid_lookOf) → va_S A s.heap H locs → lv_has ls 6 [(2, .long l2)] → W p l e rm_X5_count s m ([.ref a_this] : List Value).toArray below meth c H locs 0 0 Q (F0 m 83 ls [])) (n : Nat) (l2 : Int64) (l4 : Int32) (v_matrix : Nat → Int64) (H : Heap) (locs : List Loc) (ls : Array Slot), lpN (wl_X5_count_20 l1 kx83) n (l2, l4, v_matrix) → va_P D vwCl (wd_X5_count cI cZ cJ a_this a_matrix a_solid a_solid_beyondEdge a_solid_lookOf a_solid_cubeOf a_solid_x a_solid_y a_solid_z a_solid_faceOf a_solid_onwardEdge v_matrix v_solid_cubes v_solid_faces v_solid_beyondEdge v_solid_lookOf) H → va_D A (wd_X5_count cI cZ cJ a_this a_matrix a_solid a_solid_beyondEdge a_solid_lookOf a_solid_cubeOf a_solid_x a_solid_y a_solid_z a_solid_faceOf a_solid_onwardEdge v_matrix v_solid_cubes v_solid_faces v_solid_beyondEdge v_solid_lookOf) → va_S A s.heap H locs → lv_has ls 6 [(0, .ref a_this), (1, .int l1), (2, .long l2), (4, .int l4)] → W p l e rm_X5_count s m ([.ref a_this] : List Value).toArray below meth c H locs 0 0 Q (F0 m 20 ls []) := by
    intro l1 kx83 hkx83 n
    induction n with
    | zero => intro l2 l4 v_matrix H locs ls h; exact False.elim h
    | succ n ih =>
      intro l2 l4 v_matrix H locs ls h hP hD hS hl
      have h : wb_X5_count_20 l1 kx83 (fun l2 l4 v_matrix => lpN (wl_X5_count_20 l1 kx83) n (l2, l4, v_matrix)) l2 l4 v_matrix := h
      unfold wb_X5_count_20 at h
      refine lv_iload hx hb dX5_count_20 (lv_at hl 3 rfl) ?_
      refine lv_iload_n hx hb dX5_count_22 rfl (lv_at hl 1 rfl) ?_
      refine lv_icmp_ge (tgt := 83) hx hb dX5_count_23 (by decide) (fun hc => ?_) (fun hc => ?_)
      · replace h := h.1 hc
        exact hkx83 l2 v_matrix _ _ _ h hP hD hS (lv_sub hl [2] rfl)
      · replace h := h.2 hc
        refine lv_aload_n hx hb dX5_count_26 rfl (lv_at hl 0 rfl) ?_
        refine lv_iload hx hb dX5_count_27 (lv_at hl 3 rfl) ?_
        refine lv_iload_n hx hb dX5_count_29 rfl (lv_at hl 1 rfl) ?_
        have hPc := hP.sub (ws' := (wd_X5_findPivot cI cZ cJ a_this a_matrix a_solid v_matrix)) [0, 1] rfl
        have hDc := hD.sub (ws' := (wd_X5_findPivot cI cZ cJ a_this a_matrix a_solid v_matrix)) [0, 1] (by decide) rfl
        have hFc := va_free (wc := (wd_X5_findPivot cI cZ cJ a_this a_matrix a_solid v_matrix)) hD hS hA [0, 1] rfl
        refine va_calli (va_runV (As := [.int l4, .int l1]) (rest := []) C (c_X5_findPivot l D cI cZ cJ tb a_this a_matrix a_solid v_matrix H.size l4 l1 h) (cwV 2 hts gX5_count_X5_findPivot rfl rfl rfl (by decide +kernel) ⟨Nat.le_of_ble_eq_true rfl, Nat.le_of_ble_eq_true rfl⟩) ⟨q_pre.blind, va_recv hK hP (ci := 5) (q0 := 0) rfl rfl, fun U hU hW => ⟨rfl, q_pre.of hU hW hPc hK hDc hSt hS hFc hNw⟩⟩ rfl rfl hl.1 rfl (lv_room (Nat.le_of_ble_eq_true rfl)) dX5_count_30 ⟨Nat.zero_le _, Nat.zero_le _⟩) hS (fun q _ h => hFc q h) hFc (fun r_4 u_5 t H1 locs ht hvm hw hB hz1 hk1 hS => ?_)
        obtain ⟨hP1, hK1, hD1⟩ := hB
        rw [ht] at hP1
        obtain ⟨hP, hD⟩ := va_join (wr := [(a_solid, .inr (4, [.int v_solid_cubes, .int v_solid_faces, .ref a_solid_cubeOf, .ref a_solid_lookOf, .ref a_solid_x, .ref a_solid_y, .ref a_solid_z, .ref a_solid_faceOf, .ref a_solid_beyondEdge, .ref a_solid_onwardEdge])), (a_solid_beyondEdge, .inl (cI, 132, .inl v_solid_beyondEdge)), (a_solid_lookOf, .inl (cI, 22, .inl v_solid_lookOf))]) (w1 := (wd_X5_findPivot cI cZ cJ a_this a_matrix a_solid v_matrix)) hP hD [0, 1] [2, 3, 4] rfl rfl (by decide) (by decide) hk1 hFc hP1 hD1
        clear hPc hDc hFc hP1 hD1 hK1 hk1 hz1 ht hvm
        replace h := hw
        clear hw
        generalize H1 = H at hP hS ⊢
        replace hP : va_P D vwCl (wd_X5_count cI cZ cJ a_this a_matrix a_solid a_solid_beyondEdge a_solid_lookOf a_solid_cubeOf a_solid_x a_solid_y a_solid_z a_solid_faceOf a_solid_onwardEdge v_matrix v_solid_cubes v_solid_faces v_solid_beyondEdge v_solid_lookOf) H := hP.sub [3, 4, 0, 1, 2] rfl
        replace hD : va_D A (wd_X5_count cI cZ cJ a_this a_matrix a_solid a_solid_beyondEdge a_solid_lookOf a_solid_cubeOf a_solid_x a_solid_y a_solid_z a_solid_faceOf a_solid_onwardEdge v_matrix v_solid_cubes v_solid_faces v_solid_beyondEdge v_solid_lookOf) := hD.sub [3, 4, 0, 1, 2] (by decide) rfl
        refine lv_istore (lv' := [(5, .int r_4), (0, .ref a_this), (1, .int l1), (2, .long l2), (4, .int l4)]) hx hb dX5_count_33 hl (by decide) rfl (fun ls hl => ?_)
        refine lv_iload hx hb dX5_count_35 (lv_at hl 0 rfl) ?_
        refine lv_iload hx hb dX5_count_37 (lv_at hl 4 rfl) ?_
        refine lv_icmp_eq (tgt := 54) hx hb dX5_count_39 (by decide) (fun hc => ?_) (fun hc => ?_)
        · replace h := h.1 hc
          exact J54_ok l1 _ hkx83 _ ih l2 l4 v_matrix _ _ _ h hP hD hS (lv_sub hl [1, 2, 3, 4] rfl)
        · replace h := h.2 hc
          refine lv_aload_n hx hb dX5_count_42 rfl (lv_at hl 1 rfl) ?_
          refine lv_iload hx hb dX5_count_43 (lv_at hl 0 rfl) ?_
          refine lv_iload hx hb dX5_count_45 (lv_at hl 4 rfl) ?_
          refine lv_iload_n hx hb dX5_count_47 rfl (lv_at hl 2 rfl) ?_
          have hPc := hP.sub (ws' := (wd_X5_swapRows cI cZ cJ a_this a_matrix a_solid v_matrix)) [0, 1] rfl
          have hDc := hD.sub (ws' := (wd_X5_swapRows cI cZ cJ a_this a_matrix a_solid v_matrix)) [0, 1] (by decide) rfl
          have hFc := va_free (wc := (wd_X5_swapRows cI cZ cJ a_this a_matrix a_solid v_matrix)) hD hS hA [0, 1] rfl
          refine va_callv (va_runV (As := [.int r_4, .int l4, .int l1]) (rest := []) C (c_X5_swapRows l D cI cZ cJ tb a_this a_matrix a_solid v_matrix H.size r_4 l4 l1 h) (cwV 3 hts gX5_count_X5_swapRows rfl rfl rfl (by decide +kernel) ⟨Nat.le_of_ble_eq_true rfl, Nat.le_of_ble_eq_true rfl⟩) ⟨q_pre.blind, va_recv hK hP (ci := 5) (q0 := 0) rfl rfl, fun U hU hW => ⟨rfl, q_pre.of hU hW hPc hK hDc hSt hS hFc hNw⟩⟩ rfl rfl hl.1 rfl (lv_room (Nat.le_of_ble_eq_true rfl)) dX5_count_48 ⟨Nat.zero_le _, Nat.zero_le _⟩) hS (fun q _ h => hFc q h) hFc (fun u_7 t H1 locs ht hvm hw hB hz1 hk1 hS => ?_)
          obtain ⟨hP1, hK1, hD1⟩ := hB
          rw [ht] at hP1
          obtain ⟨hP, hD⟩ := va_join (wr := [(a_solid, .inr (4, [.int v_solid_cubes, .int v_solid_faces, .ref a_solid_cubeOf, .ref a_solid_lookOf, .ref a_solid_x, .ref a_solid_y, .ref a_solid_z, .ref a_solid_faceOf, .ref a_solid_beyondEdge, .ref a_solid_onwardEdge])), (a_solid_beyondEdge, .inl (cI, 132, .inl v_solid_beyondEdge)), (a_solid_lookOf, .inl (cI, 22, .inl v_solid_lookOf))]) (w1 := (wd_X5_swapRows cI cZ cJ a_this a_matrix a_solid u_7)) hP hD [0, 1] [2, 3, 4] rfl rfl (by decide) (by decide) hk1 hFc hP1 hD1
          clear hPc hDc hFc hP1 hD1 hK1 hk1 hz1 ht hvm
          replace h := hw
          clear hw
          generalize H1 = H at hP hS ⊢
          replace hP : va_P D vwCl (wd_X5_count cI cZ cJ a_this a_matrix a_solid a_solid_beyondEdge a_solid_lookOf a_solid_cubeOf a_solid_x a_solid_y a_solid_z a_solid_faceOf a_solid_onwardEdge u_7 v_solid_cubes v_solid_faces v_solid_beyondEdge v_solid_lookOf) H := hP.sub [3, 4, 0, 1, 2] rfl
          replace hD : va_D A (wd_X5_count cI cZ cJ a_this a_matrix a_solid a_solid_beyondEdge a_solid_lookOf a_solid_cubeOf a_solid_x a_solid_y a_solid_z a_solid_faceOf a_solid_onwardEdge u_7 v_solid_cubes v_solid_faces v_solid_beyondEdge v_solid_lookOf) := hD.sub [3, 4, 0, 1, 2] (by decide) rfl
          refine lv_lload_n hx hb dX5_count_51 rfl (lv_at hl 3 rfl) ?_
          refine lv_lneg hx hb dX5_count_52 ?_
          refine lv_lstore_n (lv' := [(2, .long (-l2)), (5, .int r_4), (0, .ref a_this), (1, .int l1), (4, .int l4)]) hx hb dX5_count_53 rfl hl (by decide) rfl (fun ls hl => ?_)
          exact J54_ok l1 _ hkx83 _ ih (-l2) l4 u_7 _ _ _ h hP hD hS (lv_sub hl [2, 3, 0, 4] rfl)
  unfold wp_X5_count at h
  refine lv_aload_n hx hb dX5_count_0 rfl (lv_at hl 0 rfl) ?_
  refine va_get (D := D) (ci := 5) (v := .ref a_solid) (C := RX5) (T := TX5) (N := 2) hx hb hts iX5 hown hK hP 0 rfl rfl 0 (by decide) f15 (fun _ h9 => h9) rfl dX5_count_1 ?_
  refine va_get (D := D) (ci := 4) (v := .int v_solid_faces) (C := RX4) (T := TX4) (N := 10) hx hb hts iX4 hown hK hP 2 rfl rfl 1 (by decide) f19 (fun _ h9 => h9) rfl dX5_count_4 ?_
  refine lv_iconst (v := 1) hx hb dX5_count_7 (by decide) ?_
  refine lv_isub hx hb dX5_count_8 ?_
  refine lv_istore_n (lv' := [(1, .int (v_solid_faces - (1 : Int32))), (0, .ref a_this)]) hx hb dX5_count_9 rfl hl (by decide) rfl (fun ls hl => ?_)
  refine lv_aload_n hx hb dX5_count_10 rfl (lv_at hl 1 rfl) ?_
  refine lv_iload_n hx hb dX5_count_11 rfl (lv_at hl 0 rfl) ?_
  have hPc := hP.sub (ws' := (wd_X5_fillMatrix cI cZ cJ a_this a_matrix a_solid a_solid_beyondEdge a_solid_lookOf a_solid_cubeOf a_solid_x a_solid_y a_solid_z a_solid_faceOf a_solid_onwardEdge v_matrix v_solid_cubes v_solid_faces v_solid_beyondEdge v_solid_lookOf)) [0, 1, 2, 3, 4] rfl
  have hDc := hD.sub (ws' := (wd_X5_fillMatrix cI cZ cJ a_this a_matrix a_solid a_solid_beyondEdge a_solid_lookOf a_solid_cubeOf a_solid_x a_solid_y a_solid_z a_solid_faceOf a_solid_onwardEdge v_matrix v_solid_cubes v_solid_faces v_solid_beyondEdge v_solid_lookOf)) [0, 1, 2, 3, 4] (by decide) rfl
  have hFc := va_free (wc := (wd_X5_fillMatrix cI cZ cJ a_this a_matrix a_solid a_solid_beyondEdge a_solid_lookOf a_solid_cubeOf a_solid_x a_solid_y a_solid_z a_solid_faceOf a_solid_onwardEdge v_matrix v_solid_cubes v_solid_faces v_solid_beyondEdge v_solid_lookOf)) hD hS hA [0, 1, 2, 3, 4] rfl
  refine va_callv (va_runV (As := [.int (v_solid_faces - (1 : Int32))]) (rest := []) C (c_X5_fillMatrix l D cI cZ cJ tb a_this a_matrix a_solid a_solid_beyondEdge a_solid_lookOf a_solid_cubeOf a_solid_x a_solid_y a_solid_z a_solid_faceOf a_solid_onwardEdge v_matrix v_solid_cubes v_solid_faces v_solid_beyondEdge v_solid_lookOf s.heap.size (v_solid_faces - (1 : Int32)) h) (cwV 1 hts gX5_count_X5_fillMatrix rfl rfl rfl (by decide +kernel) ⟨Nat.le_of_ble_eq_true rfl, Nat.le_of_ble_eq_true rfl⟩) ⟨q_pre.blind, va_recv hK hP (ci := 5) (q0 := 0) rfl rfl, fun U hU hW => ⟨rfl, q_pre.of hU hW hPc hK hDc hSt hS hFc hNw⟩⟩ rfl rfl hl.1 rfl (lv_room (Nat.le_of_ble_eq_true rfl)) dX5_count_12 ⟨Nat.zero_le _, Nat.zero_le _⟩) hS (fun q _ h => hFc q h) hFc (fun u_10 t H1 locs ht hvm hw hB hz1 hk1 hS => ?_)
  obtain ⟨hP1, hK1, hD1⟩ := hB
  rw [ht] at hP1
  obtain ⟨hP, hD⟩ := va_join (wr := []) (w1 := (wd_X5_fillMatrix cI cZ cJ a_this a_matrix a_solid a_solid_beyondEdge a_solid_lookOf a_solid_cubeOf a_solid_x a_solid_y a_solid_z a_solid_faceOf a_solid_onwardEdge u_10 v_solid_cubes v_solid_faces v_solid_beyondEdge v_solid_lookOf)) hP hD [0, 1, 2, 3, 4] [] rfl rfl (by decide) (by decide) hk1 hFc hP1 hD1
  clear hPc hDc hFc hP1 hD1 hK1 hk1 hz1 ht hvm
  replace h := hw
  clear hw
  generalize H1 = H at hP hS ⊢
  replace hP : va_P D vwCl (wd_X5_count cI cZ cJ a_this a_matrix a_solid a_solid_beyondEdge a_solid_lookOf a_solid_cubeOf a_solid_x a_solid_y a_solid_z a_solid_faceOf a_solid_onwardEdge u_10 v_solid_cubes v_solid_faces v_solid_beyondEdge v_solid_lookOf) H := hP.sub [0, 1, 2, 3, 4] rfl
  replace hD : va_D A (wd_X5_count cI cZ cJ a_this a_matrix a_solid a_solid_beyondEdge a_solid_lookOf a_solid_cubeOf a_solid_x a_solid_y a_solid_z a_solid_faceOf a_solid_onwardEdge u_10 v_solid_cubes v_solid_faces v_solid_beyondEdge v_solid_lookOf) := hD.sub [0, 1, 2, 3, 4] (by decide) rfl
  refine lv_lconst (v := 1) hx hb dX5_count_15 (by decide) ?_
  refine lv_lstore_n (lv' := [(2, .long (1 : Int64)), (1, .int (v_solid_faces - (1 : Int32))), (0, .ref a_this)]) hx hb dX5_count_16 rfl hl (by decide) rfl (fun ls hl => ?_)
  refine lv_iconst (v := 0) hx hb dX5_count_17 (by decide) ?_
  refine lv_istore (lv' := [(4, .int (0 : Int32)), (2, .long (1 : Int64)), (1, .int (v_solid_faces - (1 : Int32))), (0, .ref a_this)]) hx hb dX5_count_18 hl (by decide) rfl (fun ls hl => ?_)
  obtain ⟨n, h⟩ := h
  refine L20_ok (v_solid_faces - (1 : Int32)) _ (fun l2_12 v_matrix_13 H locs ls h hP hD hS hl => ?_) n (1 : Int64) (0 : Int32) u_10 _ _ _ h hP hD hS (lv_sub hl [3, 2, 1, 0] rfl)
  refine lv_lload_n hx hb dX5_count_83 rfl (lv_at hl 0 rfl) ?_
  exact ret l2_12 v_matrix_13 _ _ _ 84 dX5_count_84 h hP hD hS
def wd_X6_beginAt (cI cZ cJ : ClassId) (a_this a_faceOn a_reached a_sheet a_sheet_headings a_sheet_lies a_sheet_taken a_sheet_x a_sheet_y a_solid a_solid_lookOf a_album a_imageSide a_beside a_solid_cubeOf a_solid_x a_solid_y a_solid_z a_solid_faceOf a_solid_beyondEdge a_solid_onwardEdge : Nat) (v_reachedCount : Int32) (v_faceOn : Nat → Int32) (v_reached : Nat → Int32) (v_sheet_count : Int32) (v_sheet_headings : Nat → Int32) (v_sheet_lies : Nat → Int32) (v_sheet_taken : Nat → Int64) (v_sheet_x : Nat → Int32) (v_sheet_y : Nat → Int32) (v_solid_cubes : Int32) (v_solid_faces : Int32) (v_solid_lookOf : Nat → Int32) : va_W := [(a_this, .inr (6, [.ref a_solid, .ref a_album, .ref a_sheet, .ref a_imageSide, .ref a_beside, .ref a_reached, .ref a_faceOn, .int v_reachedCount])),
  (a_faceOn, .inl (cI, 22, .inl v_faceOn)),
  (a_reached, .inl (cI, 22, .inl v_reached)),
  (a_sheet, .inr (3, [.ref a_sheet_lies, .ref a_sheet_x, .ref a_sheet_y, .int v_sheet_count, .ref a_solid, .ref a_sheet_headings, .ref a_sheet_taken])),
  (a_sheet_headings, .inl (cI, 88, .inl v_sheet_headings)),
  (a_sheet_lies, .inl (cZ, 22, .inl v_sheet_lies)),
  (a_sheet_taken, .inl (cJ, 63, .inr (.inl v_sheet_taken))),
  (a_sheet_x, .inl (cI, 22, .inl v_sheet_x)),
  (a_sheet_y, .inl (cI, 22, .inl v_sheet_y)),
  (a_solid, .inr (4, [.int v_solid_cubes, .int v_solid_faces, .ref a_solid_cubeOf, .ref a_solid_lookOf, .ref a_solid_x, .ref a_solid_y, .ref a_solid_z, .ref a_solid_faceOf, .ref a_solid_beyondEdge, .ref a_solid_onwardEdge])),
  (a_solid_lookOf, .inl (cI, 22, .inl v_solid_lookOf))]
abbrev rm_X6_beginAt : Room := { frames := 3, cells := 0, slots := 0, locals := 64 }
set_option maxHeartbeats 4000000 in
set_option maxRecDepth 100000 in
theorem c_X6_beginAt (l : Launch) (D : va_G) (cI cZ cJ : ClassId) (tb : Nat → Nat) (a_this a_faceOn a_reached a_sheet a_sheet_headings a_sheet_lies a_sheet_taken a_sheet_x a_sheet_y a_solid a_solid_lookOf a_album a_imageSide a_beside a_solid_cubeOf a_solid_x a_solid_y a_solid_z a_solid_faceOf a_solid_beyondEdge a_solid_onwardEdge : Nat) (v_reachedCount : Int32) (v_faceOn : Nat → Int32) (v_reached : Nat → Int32) (v_sheet_count : Int32) (v_sheet_headings : Nat → Int32) (v_sheet_lies : Nat → Int32) (v_sheet_taken : Nat → Int64) (v_sheet_x : Nat → Int32) (v_sheet_y : Nat → Int32) (v_solid_cubes : Int32) (v_solid_faces : Int32) (v_solid_lookOf : Nat → Int32) (sz : Nat) (p1 : Int32) {post : Int32 → (Nat → Int32) → (Nat → Int32) → Int32 → (Nat → Int32) → (Nat → Int32) → (Nat → Int64) → (Nat → Int32) → (Nat → Int32) → Prop} (h : wp_X6_beginAt v_reachedCount v_faceOn v_reached v_sheet_count v_sheet_headings v_sheet_lies v_sheet_taken v_sheet_x v_sheet_y v_solid_lookOf p1 post) : Met l yX6_beginAt wsX6_beginAt rm_X6_beginAt (va_Pc [.ref a_this, .int p1] (q_pre D cI cZ cJ tb (wd_X6_beginAt cI cZ cJ a_this a_faceOn a_reached a_sheet a_sheet_headings a_sheet_lies a_sheet_taken a_sheet_x a_sheet_y a_solid a_solid_lookOf a_album a_imageSide a_beside a_solid_cubeOf a_solid_x a_solid_y a_solid_z a_solid_faceOf a_solid_beyondEdge a_solid_onwardEdge v_reachedCount v_faceOn v_reached v_sheet_count v_sheet_headings v_sheet_lies v_sheet_taken v_sheet_x v_sheet_y v_solid_cubes v_solid_faces v_solid_lookOf) sz)) (va_Qv (fun (u : Int32 × (Nat → Int32) × (Nat → Int32) × Int32 × (Nat → Int32) × (Nat → Int32) × (Nat → Int64) × (Nat → Int32) × (Nat → Int32)) => post u.1 u.2.1 u.2.2.1 u.2.2.2.1 u.2.2.2.2.1 u.2.2.2.2.2.1 u.2.2.2.2.2.2.1 u.2.2.2.2.2.2.2.1 u.2.2.2.2.2.2.2.2) (fun u => q_post D cI cZ cJ (va_A (wd_X6_beginAt cI cZ cJ a_this a_faceOn a_reached a_sheet a_sheet_headings a_sheet_lies a_sheet_taken a_sheet_x a_sheet_y a_solid a_solid_lookOf a_album a_imageSide a_beside a_solid_cubeOf a_solid_x a_solid_y a_solid_z a_solid_faceOf a_solid_beyondEdge a_solid_onwardEdge v_reachedCount v_faceOn v_reached v_sheet_count v_sheet_headings v_sheet_lies v_sheet_taken v_sheet_x v_sheet_y v_solid_cubes v_solid_faces v_solid_lookOf) sz) (wd_X6_beginAt cI cZ cJ a_this a_faceOn a_reached a_sheet a_sheet_headings a_sheet_lies a_sheet_taken a_sheet_x a_sheet_y a_solid a_solid_lookOf a_album a_imageSide a_beside a_solid_cubeOf a_solid_x a_solid_y a_solid_z a_solid_faceOf a_solid_beyondEdge a_solid_onwardEdge u.1 u.2.1 u.2.2.1 u.2.2.2.1 u.2.2.2.2.1 u.2.2.2.2.2.1 u.2.2.2.2.2.2.1 u.2.2.2.2.2.2.2.1 u.2.2.2.2.2.2.2.2 v_solid_cubes v_solid_faces v_solid_lookOf)) (va_A (wd_X6_beginAt cI cZ cJ a_this a_faceOn a_reached a_sheet a_sheet_headings a_sheet_lies a_sheet_taken a_sheet_x a_sheet_y a_solid a_solid_lookOf a_album a_imageSide a_beside a_solid_cubeOf a_solid_x a_solid_y a_solid_z a_solid_faceOf a_solid_beyondEdge a_solid_onwardEdge v_reachedCount v_faceOn v_reached v_sheet_count v_sheet_headings v_sheet_lies v_sheet_taken v_sheet_x v_sheet_y v_solid_cubes v_solid_faces v_solid_lookOf) sz)) 0 0 (va_A (wd_X6_beginAt cI cZ cJ a_this a_faceOn a_reached a_sheet a_sheet_headings a_sheet_lies a_sheet_taken a_sheet_x a_sheet_y a_solid a_solid_lookOf a_album a_imageSide a_beside a_solid_cubeOf a_solid_x a_solid_y a_solid_z a_solid_faceOf a_solid_beyondEdge a_solid_onwardEdge v_reachedCount v_faceOn v_reached v_sheet_count v_sheet_headings v_sheet_lies v_sheet_taken v_sheet_x v_sheet_y v_solid_cubes v_solid_faces v_solid_lookOf) sz) := by
  refine q_walkv (cc := cX6_beginAt) (maxL := 2) (own := RX6) (wd := fun (u : Int32 × (Nat → Int32) × (Nat → Int32) × Int32 × (Nat → Int32) × (Nat → Int32) × (Nat → Int64) × (Nat → Int32) × (Nat → Int32)) => (wd_X6_beginAt cI cZ cJ a_this a_faceOn a_reached a_sheet a_sheet_headings a_sheet_lies a_sheet_taken a_sheet_x a_sheet_y a_solid a_solid_lookOf a_album a_imageSide a_beside a_solid_cubeOf a_solid_x a_solid_y a_solid_z a_solid_faceOf a_solid_beyondEdge a_solid_onwardEdge u.1 u.2.1 u.2.2.1 u.2.2.2.1 u.2.2.2.2.1 u.2.2.2.2.2.1 u.2.2.2.2.2.2.1 u.2.2.2.2.2.2.2.1 u.2.2.2.2.2.2.2.2 v_solid_cubes v_solid_faces v_solid_lookOf)) (by decide) rfl rfl (Nat.le_of_ble_eq_true rfl) ?_
  intro p e s m below meth c Q A ls C hA ret hP hD hS hK hSt hNw hl
  obtain ⟨hx, hb, hml, hown, hts⟩ := id C
  replace hl : lv_has ls 2 [(0, .ref a_this), (1, .int p1)] := hl
  have f21 := hts (.fieldLink RX6 21 "NetSearch$Wrapping" "faceOn" "[I") (by decide +kernel)
  have iX6 : ∀ w ∈ wsX60, w ∈ wsX6_beginAt := by decide +kernel
  have f37 := hts (.fieldLink RX6 37 "NetSearch$Wrapping" "sheet" "LNetSearch$Sheet;") (by decide +kernel)
  have f18 := hts (.fieldLink RX6 18 "NetSearch$Wrapping" "reached" "[I") (by decide +kernel)
  have f95 := hts (.fieldLink RX6 95 "NetSearch$Wrapping" "reachedCount" "I") (by decide +kernel)
  unfold wp_X6_beginAt at h
  refine lv_aload_n hx hb dX6_beginAt_0 rfl (lv_at hl 0 rfl) ?_
  refine va_get (D := D) (ci := 6) (v := .ref a_faceOn) (C := RX6) (T := TX6) (N := 8) hx hb hts iX6 hown hK hP 0 rfl rfl 6 (by decide) f21 (fun _ h9 => h9) rfl dX6_beginAt_1 ?_
  refine lv_iconst (v := -1) hx hb dX6_beginAt_4 (by decide) ?_
  have hPc := hP.sub (ws' := (wd_J7_fill_53178 cI cZ cJ a_faceOn 22 v_faceOn)) [1] rfl
  have hDc := hD.sub (ws' := (wd_J7_fill_53178 cI cZ cJ a_faceOn 22 v_faceOn)) [1] (by decide) rfl
  have hFc := va_free (wc := (wd_J7_fill_53178 cI cZ cJ a_faceOn 22 v_faceOn)) hD hS hA [1] rfl
  refine va_callv (va_runS (As := [.ref a_faceOn, .int (-1 : Int32)]) (rest := []) C (c_J7_fill_53178 l D cI cZ cJ tb a_faceOn 22 v_faceOn s.heap.size (-1 : Int32) h) (va_cwS 2 hts gX6_beginAt_J7_fill_53178 rfl rfl rfl (by decide +kernel) ⟨Nat.le_of_ble_eq_true rfl, Nat.le_of_ble_eq_true rfl⟩) ⟨q_pre.blind, fun U hU hW => ⟨rfl, q_pre.of hU hW hPc hK hDc hSt hS hFc hNw⟩⟩ rfl rfl hl.1 rfl (lv_room (Nat.le_of_ble_eq_true rfl)) dX6_beginAt_5 ⟨Nat.zero_le _, Nat.zero_le _⟩) hS (fun q _ h => hFc q h) hFc (fun u_2 t H1 locs ht hvm hw hB hz1 hk1 hS => ?_)
  obtain ⟨hP1, hK1, hD1⟩ := hB
  rw [ht] at hP1
  obtain ⟨hP, hD⟩ := va_join (wr := [(a_this, .inr (6, [.ref a_solid, .ref a_album, .ref a_sheet, .ref a_imageSide, .ref a_beside, .ref a_reached, .ref a_faceOn, .int v_reachedCount])), (a_reached, .inl (cI, 22, .inl v_reached)), (a_sheet, .inr (3, [.ref a_sheet_lies, .ref a_sheet_x, .ref a_sheet_y, .int v_sheet_count, .ref a_solid, .ref a_sheet_headings, .ref a_sheet_taken])), (a_sheet_headings, .inl (cI, 88, .inl v_sheet_headings)), (a_sheet_lies, .inl (cZ, 22, .inl v_sheet_lies)), (a_sheet_taken, .inl (cJ, 63, .inr (.inl v_sheet_taken))), (a_sheet_x, .inl (cI, 22, .inl v_sheet_x)), (a_sheet_y, .inl (cI, 22, .inl v_sheet_y)), (a_solid, .inr (4, [.int v_solid_cubes, .int v_solid_faces, .ref a_solid_cubeOf, .ref a_solid_lookOf, .ref a_solid_x, .ref a_solid_y, .ref a_solid_z, .ref a_solid_faceOf, .ref a_solid_beyondEdge, .ref a_solid_onwardEdge])), (a_solid_lookOf, .inl (cI, 22, .inl v_solid_lookOf))]) (w1 := (wd_J7_fill_53178 cI cZ cJ a_faceOn 22 u_2)) hP hD [1] [0, 2, 3, 4, 5, 6, 7, 8, 9, 10] rfl rfl (by decide) (by decide) hk1 hFc hP1 hD1
  clear hPc hDc hFc hP1 hD1 hK1 hk1 hz1 ht hvm
  replace h := hw
  clear hw
  generalize H1 = H at hP hS ⊢
  replace hP : va_P D vwCl (wd_X6_beginAt cI cZ cJ a_this a_faceOn a_reached a_sheet a_sheet_headings a_sheet_lies a_sheet_taken a_sheet_x a_sheet_y a_solid a_solid_lookOf a_album a_imageSide a_beside a_solid_cubeOf a_solid_x a_solid_y a_solid_z a_solid_faceOf a_solid_beyondEdge a_solid_onwardEdge v_reachedCount u_2 v_reached v_sheet_count v_sheet_headings v_sheet_lies v_sheet_taken v_sheet_x v_sheet_y v_solid_cubes v_solid_faces v_solid_lookOf) H := hP.sub [0, 10, 1, 2, 3, 4, 5, 6, 7, 8, 9] rfl
  replace hD : va_D A (wd_X6_beginAt cI cZ cJ a_this a_faceOn a_reached a_sheet a_sheet_headings a_sheet_lies a_sheet_taken a_sheet_x a_sheet_y a_solid a_solid_lookOf a_album a_imageSide a_beside a_solid_cubeOf a_solid_x a_solid_y a_solid_z a_solid_faceOf a_solid_beyondEdge a_solid_onwardEdge v_reachedCount u_2 v_reached v_sheet_count v_sheet_headings v_sheet_lies v_sheet_taken v_sheet_x v_sheet_y v_solid_cubes v_solid_faces v_solid_lookOf) := hD.sub [0, 10, 1, 2, 3, 4, 5, 6, 7, 8, 9] (by decide) rfl
  refine lv_aload_n hx hb dX6_beginAt_8 rfl (lv_at hl 0 rfl) ?_
  refine va_get (D := D) (ci := 6) (v := .ref a_sheet) (C := RX6) (T := TX6) (N := 8) hx hb hts iX6 hown hK hP 0 rfl rfl 2 (by decide) f37 (fun _ h9 => h9) rfl dX6_beginAt_9 ?_
  have hPc := hP.sub (ws' := (wd_X3_wipe cI cZ cJ a_sheet a_sheet_lies a_sheet_taken a_sheet_x a_sheet_y a_solid a_sheet_headings v_sheet_count v_sheet_lies v_sheet_taken v_sheet_x v_sheet_y)) [3, 5, 6, 7, 8] rfl
  have hDc := hD.sub (ws' := (wd_X3_wipe cI cZ cJ a_sheet a_sheet_lies a_sheet_taken a_sheet_x a_sheet_y a_solid a_sheet_headings v_sheet_count v_sheet_lies v_sheet_taken v_sheet_x v_sheet_y)) [3, 5, 6, 7, 8] (by decide) rfl
  have hFc := va_free (wc := (wd_X3_wipe cI cZ cJ a_sheet a_sheet_lies a_sheet_taken a_sheet_x a_sheet_y a_solid a_sheet_headings v_sheet_count v_sheet_lies v_sheet_taken v_sheet_x v_sheet_y)) hD hS hA [3, 5, 6, 7, 8] rfl
  refine va_callv (va_runV (As := []) (rest := []) C (c_X3_wipe l D cI cZ cJ tb a_sheet a_sheet_lies a_sheet_taken a_sheet_x a_sheet_y a_solid a_sheet_headings v_sheet_count v_sheet_lies v_sheet_taken v_sheet_x v_sheet_y H.size h) (cwV 0 hts gX6_beginAt_X3_wipe rfl rfl rfl (by decide +kernel) ⟨Nat.le_of_ble_eq_true rfl, Nat.le_of_ble_eq_true rfl⟩) ⟨q_pre.blind, va_recv hK hP (ci := 3) (q0 := 3) rfl rfl, fun U hU hW => ⟨rfl, q_pre.of hU hW hPc hK hDc hSt hS hFc hNw⟩⟩ rfl rfl hl.1 rfl (lv_room (Nat.le_of_ble_eq_true rfl)) dX6_beginAt_12 ⟨Nat.zero_le _, Nat.zero_le _⟩) hS (fun q _ h => hFc q h) hFc (fun u_5 t H1 locs ht hvm hw hB hz1 hk1 hS => ?_)
  obtain ⟨hP1, hK1, hD1⟩ := hB
  rw [ht] at hP1
  obtain ⟨hP, hD⟩ := va_join (wr := [(a_this, .inr (6, [.ref a_solid, .ref a_album, .ref a_sheet, .ref a_imageSide, .ref a_beside, .ref a_reached, .ref a_faceOn, .int v_reachedCount])), (a_faceOn, .inl (cI, 22, .inl u_2)), (a_reached, .inl (cI, 22, .inl v_reached)), (a_sheet_headings, .inl (cI, 88, .inl v_sheet_headings)), (a_solid, .inr (4, [.int v_solid_cubes, .int v_solid_faces, .ref a_solid_cubeOf, .ref a_solid_lookOf, .ref a_solid_x, .ref a_solid_y, .ref a_solid_z, .ref a_solid_faceOf, .ref a_solid_beyondEdge, .ref a_solid_onwardEdge])), (a_solid_lookOf, .inl (cI, 22, .inl v_solid_lookOf))]) (w1 := (wd_X3_wipe cI cZ cJ a_sheet a_sheet_lies a_sheet_taken a_sheet_x a_sheet_y a_solid a_sheet_headings u_5.1 u_5.2.1 u_5.2.2 v_sheet_x v_sheet_y)) hP hD [3, 5, 6, 7, 8] [0, 1, 2, 4, 9, 10] rfl rfl (by decide) (by decide) hk1 hFc hP1 hD1
  clear hPc hDc hFc hP1 hD1 hK1 hk1 hz1 ht hvm
  replace h := hw
  clear hw
  generalize H1 = H at hP hS ⊢
  replace hP : va_P D vwCl (wd_X6_beginAt cI cZ cJ a_this a_faceOn a_reached a_sheet a_sheet_headings a_sheet_lies a_sheet_taken a_sheet_x a_sheet_y a_solid a_solid_lookOf a_album a_imageSide a_beside a_solid_cubeOf a_solid_x a_solid_y a_solid_z a_solid_faceOf a_solid_beyondEdge a_solid_onwardEdge v_reachedCount u_2 v_reached u_5.1 v_sheet_headings u_5.2.1 u_5.2.2 v_sheet_x v_sheet_y v_solid_cubes v_solid_faces v_solid_lookOf) H := hP.sub [0, 1, 2, 6, 3, 7, 8, 9, 10, 4, 5] rfl
  replace hD : va_D A (wd_X6_beginAt cI cZ cJ a_this a_faceOn a_reached a_sheet a_sheet_headings a_sheet_lies a_sheet_taken a_sheet_x a_sheet_y a_solid a_solid_lookOf a_album a_imageSide a_beside a_solid_cubeOf a_solid_x a_solid_y a_solid_z a_solid_faceOf a_solid_beyondEdge a_solid_onwardEdge v_reachedCount u_2 v_reached u_5.1 v_sheet_headings u_5.2.1 u_5.2.2 v_sheet_x v_sheet_y v_solid_cubes v_solid_faces v_solid_lookOf) := hD.sub [0, 1, 2, 6, 3, 7, 8, 9, 10, 4, 5] (by decide) rfl
  refine lv_aload_n hx hb dX6_beginAt_15 rfl (lv_at hl 0 rfl) ?_
  refine va_get (D := D) (ci := 6) (v := .ref a_sheet) (C := RX6) (T := TX6) (N := 8) hx hb hts iX6 hown hK hP 0 rfl rfl 2 (by decide) f37 (fun _ h9 => h9) rfl dX6_beginAt_16 ?_
  refine lv_iload_n hx hb dX6_beginAt_19 rfl (lv_at hl 1 rfl) ?_
  have hPc := hP.sub (ws' := (wd_X3_putFirst cI cZ cJ a_sheet a_sheet_headings a_sheet_lies a_solid a_solid_lookOf a_sheet_taken a_sheet_x a_sheet_y a_solid_cubeOf a_solid_x a_solid_y a_solid_z a_solid_faceOf a_solid_beyondEdge a_solid_onwardEdge u_5.1 v_sheet_headings u_5.2.1 v_solid_cubes v_solid_faces v_solid_lookOf u_5.2.2 v_sheet_x v_sheet_y)) [3, 4, 5, 9, 10, 6, 7, 8] rfl
  have hDc := hD.sub (ws' := (wd_X3_putFirst cI cZ cJ a_sheet a_sheet_headings a_sheet_lies a_solid a_solid_lookOf a_sheet_taken a_sheet_x a_sheet_y a_solid_cubeOf a_solid_x a_solid_y a_solid_z a_solid_faceOf a_solid_beyondEdge a_solid_onwardEdge u_5.1 v_sheet_headings u_5.2.1 v_solid_cubes v_solid_faces v_solid_lookOf u_5.2.2 v_sheet_x v_sheet_y)) [3, 4, 5, 9, 10, 6, 7, 8] (by decide) rfl
  have hFc := va_free (wc := (wd_X3_putFirst cI cZ cJ a_sheet a_sheet_headings a_sheet_lies a_solid a_solid_lookOf a_sheet_taken a_sheet_x a_sheet_y a_solid_cubeOf a_solid_x a_solid_y a_solid_z a_solid_faceOf a_solid_beyondEdge a_solid_onwardEdge u_5.1 v_sheet_headings u_5.2.1 v_solid_cubes v_solid_faces v_solid_lookOf u_5.2.2 v_sheet_x v_sheet_y)) hD hS hA [3, 4, 5, 9, 10, 6, 7, 8] rfl
  refine va_callv (va_runV (As := [.int p1]) (rest := []) C (c_X3_putFirst l D cI cZ cJ tb a_sheet a_sheet_headings a_sheet_lies a_solid a_solid_lookOf a_sheet_taken a_sheet_x a_sheet_y a_solid_cubeOf a_solid_x a_solid_y a_solid_z a_solid_faceOf a_solid_beyondEdge a_solid_onwardEdge u_5.1 v_sheet_headings u_5.2.1 v_solid_cubes v_solid_faces v_solid_lookOf u_5.2.2 v_sheet_x v_sheet_y H.size p1 h) (cwV 1 hts gX6_beginAt_X3_putFirst rfl rfl rfl (by decide +kernel) ⟨Nat.le_of_ble_eq_true rfl, Nat.le_of_ble_eq_true rfl⟩) ⟨q_pre.blind, va_recv hK hP (ci := 3) (q0 := 3) rfl rfl, fun U hU hW => ⟨rfl, q_pre.of hU hW hPc hK hDc hSt hS hFc hNw⟩⟩ rfl rfl hl.1 rfl (lv_room (Nat.le_of_ble_eq_true rfl)) dX6_beginAt_20 ⟨Nat.zero_le _, Nat.zero_le _⟩) hS (fun q _ h => hFc q h) hFc (fun u_10 t H1 locs ht hvm hw hB hz1 hk1 hS => ?_)
  obtain ⟨hP1, hK1, hD1⟩ := hB
  rw [ht] at hP1
  obtain ⟨hP, hD⟩ := va_join (wr := [(a_this, .inr (6, [.ref a_solid, .ref a_album, .ref a_sheet, .ref a_imageSide, .ref a_beside, .ref a_reached, .ref a_faceOn, .int v_reachedCount])), (a_faceOn, .inl (cI, 22, .inl u_2)), (a_reached, .inl (cI, 22, .inl v_reached))]) (w1 := (wd_X3_putFirst cI cZ cJ a_sheet a_sheet_headings a_sheet_lies a_solid a_solid_lookOf a_sheet_taken a_sheet_x a_sheet_y a_solid_cubeOf a_solid_x a_solid_y a_solid_z a_solid_faceOf a_solid_beyondEdge a_solid_onwardEdge u_10.1 u_10.2.1 u_10.2.2.1 v_solid_cubes v_solid_faces v_solid_lookOf u_10.2.2.2.1 u_10.2.2.2.2.1 u_10.2.2.2.2.2)) hP hD [3, 4, 5, 9, 10, 6, 7, 8] [0, 1, 2] rfl rfl (by decide) (by decide) hk1 hFc hP1 hD1
  clear hPc hDc hFc hP1 hD1 hK1 hk1 hz1 ht hvm
  replace h := hw
  clear hw
  generalize H1 = H at hP hS ⊢
  replace hP : va_P D vwCl (wd_X6_beginAt cI cZ cJ a_this a_faceOn a_reached a_sheet a_sheet_headings a_sheet_lies a_sheet_taken a_sheet_x a_sheet_y a_solid a_solid_lookOf a_album a_imageSide a_beside a_solid_cubeOf a_solid_x a_solid_y a_solid_z a_solid_faceOf a_solid_beyondEdge a_solid_onwardEdge v_reachedCount u_2 v_reached u_10.1 u_10.2.1 u_10.2.2.1 u_10.2.2.2.1 u_10.2.2.2.2.1 u_10.2.2.2.2.2 v_solid_cubes v_solid_faces v_solid_lookOf) H := hP.sub [0, 1, 2, 3, 4, 5, 8, 9, 10, 6, 7] rfl
  replace hD : va_D A (wd_X6_beginAt cI cZ cJ a_this a_faceOn a_reached a_sheet a_sheet_headings a_sheet_lies a_sheet_taken a_sheet_x a_sheet_y a_solid a_solid_lookOf a_album a_imageSide a_beside a_solid_cubeOf a_solid_x a_solid_y a_solid_z a_solid_faceOf a_solid_beyondEdge a_solid_onwardEdge v_reachedCount u_2 v_reached u_10.1 u_10.2.1 u_10.2.2.1 u_10.2.2.2.1 u_10.2.2.2.2.1 u_10.2.2.2.2.2 v_solid_cubes v_solid_faces v_solid_lookOf) := hD.sub [0, 1, 2, 3, 4, 5, 8, 9, 10, 6, 7] (by decide) rfl
  refine lv_aload_n hx hb dX6_beginAt_23 rfl (lv_at hl 0 rfl) ?_
  refine va_get (D := D) (ci := 6) (v := .ref a_faceOn) (C := RX6) (T := TX6) (N := 8) hx hb hts iX6 hown hK hP 0 rfl rfl 6 (by decide) f21 (fun _ h9 => h9) rfl dX6_beginAt_24 ?_
  refine lv_iconst (v := 0) hx hb dX6_beginAt_27 (by decide) ?_
  refine lv_iload_n hx hb dX6_beginAt_28 rfl (lv_at hl 1 rfl) ?_
  obtain ⟨hin, h⟩ := h
  refine va_iast hx hb hK hP hD hS 1 0 rfl rfl hin dX6_beginAt_29 (fun H locs hP hD hS => ?_)
  replace hP : va_P D vwCl (wd_X6_beginAt cI cZ cJ a_this a_faceOn a_reached a_sheet a_sheet_headings a_sheet_lies a_sheet_taken a_sheet_x a_sheet_y a_solid a_solid_lookOf a_album a_imageSide a_beside a_solid_cubeOf a_solid_x a_solid_y a_solid_z a_solid_faceOf a_solid_beyondEdge a_solid_onwardEdge v_reachedCount (upd u_2 (0 : Int32).toNatClampNeg p1) v_reached u_10.1 u_10.2.1 u_10.2.2.1 u_10.2.2.2.1 u_10.2.2.2.2.1 u_10.2.2.2.2.2 v_solid_cubes v_solid_faces v_solid_lookOf) H := hP
  replace hD : va_D A (wd_X6_beginAt cI cZ cJ a_this a_faceOn a_reached a_sheet a_sheet_headings a_sheet_lies a_sheet_taken a_sheet_x a_sheet_y a_solid a_solid_lookOf a_album a_imageSide a_beside a_solid_cubeOf a_solid_x a_solid_y a_solid_z a_solid_faceOf a_solid_beyondEdge a_solid_onwardEdge v_reachedCount (upd u_2 (0 : Int32).toNatClampNeg p1) v_reached u_10.1 u_10.2.1 u_10.2.2.1 u_10.2.2.2.1 u_10.2.2.2.2.1 u_10.2.2.2.2.2 v_solid_cubes v_solid_faces v_solid_lookOf) := hD
  refine lv_aload_n hx hb dX6_beginAt_30 rfl (lv_at hl 0 rfl) ?_
  refine va_get (D := D) (ci := 6) (v := .ref a_reached) (C := RX6) (T := TX6) (N := 8) hx hb hts iX6 hown hK hP 0 rfl rfl 5 (by decide) f18 (fun _ h9 => h9) rfl dX6_beginAt_31 ?_
  refine lv_iconst (v := 0) hx hb dX6_beginAt_34 (by decide) ?_
  refine lv_iconst (v := 0) hx hb dX6_beginAt_35 (by decide) ?_
  obtain ⟨hin, h⟩ := h
  refine va_iast hx hb hK hP hD hS 2 0 rfl rfl hin dX6_beginAt_36 (fun H locs hP hD hS => ?_)
  replace hP : va_P D vwCl (wd_X6_beginAt cI cZ cJ a_this a_faceOn a_reached a_sheet a_sheet_headings a_sheet_lies a_sheet_taken a_sheet_x a_sheet_y a_solid a_solid_lookOf a_album a_imageSide a_beside a_solid_cubeOf a_solid_x a_solid_y a_solid_z a_solid_faceOf a_solid_beyondEdge a_solid_onwardEdge v_reachedCount (upd u_2 (0 : Int32).toNatClampNeg p1) (upd v_reached (0 : Int32).toNatClampNeg (0 : Int32)) u_10.1 u_10.2.1 u_10.2.2.1 u_10.2.2.2.1 u_10.2.2.2.2.1 u_10.2.2.2.2.2 v_solid_cubes v_solid_faces v_solid_lookOf) H := hP
  replace hD : va_D A (wd_X6_beginAt cI cZ cJ a_this a_faceOn a_reached a_sheet a_sheet_headings a_sheet_lies a_sheet_taken a_sheet_x a_sheet_y a_solid a_solid_lookOf a_album a_imageSide a_beside a_solid_cubeOf a_solid_x a_solid_y a_solid_z a_solid_faceOf a_solid_beyondEdge a_solid_onwardEdge v_reachedCount (upd u_2 (0 : Int32).toNatClampNeg p1) (upd v_reached (0 : Int32).toNatClampNeg (0 : Int32)) u_10.1 u_10.2.1 u_10.2.2.1 u_10.2.2.2.1 u_10.2.2.2.2.1 u_10.2.2.2.2.2 v_solid_cubes v_solid_faces v_solid_lookOf) := hD
  refine lv_aload_n hx hb dX6_beginAt_37 rfl (lv_at hl 0 rfl) ?_
  refine lv_iconst (v := 1) hx hb dX6_beginAt_38 (by decide) ?_
  refine va_put (D := D) (ci := 6) (v := .int (1 : Int32)) (ty := .int) (C := RX6) (T := TX6) (N := 8) hx hb hts iX6 tyX6 tyX6_ok nmX6 hown hK hP hD hS 0 rfl rfl 7 (by decide) f95 (fun _ h9 => h9) rfl (by decide +kernel) rfl rfl (Nat.le_of_ble_eq_true rfl) dX6_beginAt_39 (fun H locs hP hD hS => ?_)
  replace hP : va_P D vwCl (wd_X6_beginAt cI cZ cJ a_this a_faceOn a_reached a_sheet a_sheet_headings a_sheet_lies a_sheet_taken a_sheet_x a_sheet_y a_solid a_solid_lookOf a_album a_imageSide a_beside a_solid_cubeOf a_solid_x a_solid_y a_solid_z a_solid_faceOf a_solid_beyondEdge a_solid_onwardEdge (1 : Int32) (upd u_2 (0 : Int32).toNatClampNeg p1) (upd v_reached (0 : Int32).toNatClampNeg (0 : Int32)) u_10.1 u_10.2.1 u_10.2.2.1 u_10.2.2.2.1 u_10.2.2.2.2.1 u_10.2.2.2.2.2 v_solid_cubes v_solid_faces v_solid_lookOf) H := hP
  replace hD : va_D A (wd_X6_beginAt cI cZ cJ a_this a_faceOn a_reached a_sheet a_sheet_headings a_sheet_lies a_sheet_taken a_sheet_x a_sheet_y a_solid a_solid_lookOf a_album a_imageSide a_beside a_solid_cubeOf a_solid_x a_solid_y a_solid_z a_solid_faceOf a_solid_beyondEdge a_solid_onwardEdge (1 : Int32) (upd u_2 (0 : Int32).toNatClampNeg p1) (upd v_reached (0 : Int32).toNatClampNeg (0 : Int32)) u_10.1 u_10.2.1 u_10.2.2.1 u_10.2.2.2.1 u_10.2.2.2.2.1 u_10.2.2.2.2.2 v_solid_cubes v_solid_faces v_solid_lookOf) := hD
  exact ret ((1 : Int32), (upd u_2 (0 : Int32).toNatClampNeg p1), (upd v_reached (0 : Int32).toNatClampNeg (0 : Int32)), u_10.1, u_10.2.1, u_10.2.2.1, u_10.2.2.2.1, u_10.2.2.2.2.1, u_10.2.2.2.2.2) _ _ _ 42 dX6_beginAt_42 h hP hD hS
def wd_X6_canFoldOver (cI cZ cJ : ClassId) (a_this a_beside a_faceOn a_imageSide a_reached a_sheet a_sheet_headings a_sheet_lies a_sheet_taken a_sheet_x a_sheet_y a_solid a_solid_beyondEdge a_solid_onwardEdge a_album a_solid_cubeOf a_solid_lookOf a_solid_x a_solid_y a_solid_z a_solid_faceOf : Nat) (v_reachedCount : Int32) (v_beside : Nat → Int32) (v_faceOn : Nat → Int32) (v_imageSide : Nat → Int32) (v_reached : Nat → Int32) (v_sheet_count : Int32) (v_sheet_headings : Nat → Int32) (v_sheet_lies : Nat → Int32) (v_sheet_taken : Nat → Int64) (v_sheet_x : Nat → Int32) (v_sheet_y : Nat → Int32) (v_solid_cubes : Int32) (v_solid_faces : Int32) (v_solid_beyondEdge : Nat → Int32) (v_solid_onwardEdge : Nat → Int32) : va_W := [(a_this, .inr (6, [.ref a_solid, .ref a_album, .ref a_sheet, .ref a_imageSide, .ref a_beside, .ref a_reached, .ref a_faceOn, .int v_reachedCount])),
  (a_beside, .inl (cI, 88, .inl v_beside)),
  (a_faceOn, .inl (cI, 22, .inl v_faceOn)),
  (a_imageSide, .inl (cI, 32, .inl v_imageSide)),
  (a_reached, .inl (cI, 22, .inl v_reached)),
  (a_sheet, .inr (3, [.ref a_sheet_lies, .ref a_sheet_x, .ref a_sheet_y, .int v_sheet_count, .ref a_solid, .ref a_sheet_headings, .ref a_sheet_taken])),
  (a_sheet_headings, .inl (cI, 88, .inl v_sheet_headings)),
  (a_sheet_lies, .inl (cZ, 22, .inl v_sheet_lies)),
  (a_sheet_taken, .inl (cJ, 63, .inr (.inl v_sheet_taken))),
  (a_sheet_x, .inl (cI, 22, .inl v_sheet_x)),
  (a_sheet_y, .inl (cI, 22, .inl v_sheet_y)),
  (a_solid, .inr (4, [.int v_solid_cubes, .int v_solid_faces, .ref a_solid_cubeOf, .ref a_solid_lookOf, .ref a_solid_x, .ref a_solid_y, .ref a_solid_z, .ref a_solid_faceOf, .ref a_solid_beyondEdge, .ref a_solid_onwardEdge])),
  (a_solid_beyondEdge, .inl (cI, 132, .inl v_solid_beyondEdge)),
  (a_solid_onwardEdge, .inl (cI, 132, .inl v_solid_onwardEdge))]
abbrev rm_X6_canFoldOver : Room := { frames := 3, cells := 0, slots := 0, locals := 67 }
set_option maxHeartbeats 4000000 in
set_option maxRecDepth 100000 in
theorem c_X6_canFoldOver (l : Launch) (D : va_G) (cI cZ cJ : ClassId) (tb : Nat → Nat) (a_this a_beside a_faceOn a_imageSide a_reached a_sheet a_sheet_headings a_sheet_lies a_sheet_taken a_sheet_x a_sheet_y a_solid a_solid_beyondEdge a_solid_onwardEdge a_album a_solid_cubeOf a_solid_lookOf a_solid_x a_solid_y a_solid_z a_solid_faceOf : Nat) (v_reachedCount : Int32) (v_beside : Nat → Int32) (v_faceOn : Nat → Int32) (v_imageSide : Nat → Int32) (v_reached : Nat → Int32) (v_sheet_count : Int32) (v_sheet_headings : Nat → Int32) (v_sheet_lies : Nat → Int32) (v_sheet_taken : Nat → Int64) (v_sheet_x : Nat → Int32) (v_sheet_y : Nat → Int32) (v_solid_cubes : Int32) (v_solid_faces : Int32) (v_solid_beyondEdge : Nat → Int32) (v_solid_onwardEdge : Nat → Int32) (sz : Nat) (p1 : Int32) (p2 : Int32) (p3 : Int32) {post : Int32 → Int32 → (Nat → Int32) → (Nat → Int32) → Int32 → (Nat → Int32) → (Nat → Int32) → (Nat → Int64) → (Nat → Int32) → (Nat → Int32) → Prop} (h : wp_X6_canFoldOver v_reachedCount v_beside v_faceOn v_imageSide v_reached v_sheet_count v_sheet_headings v_sheet_lies v_sheet_taken v_sheet_x v_sheet_y v_solid_beyondEdge v_solid_onwardEdge p1 p2 p3 post) : Met l yX6_canFoldOver wsX6_canFoldOver rm_X6_canFoldOver (va_Pc [.ref a_this, .int p1, .int p2, .int p3] (q_pre D cI cZ cJ tb (wd_X6_canFoldOver cI cZ cJ a_this a_beside a_faceOn a_imageSide a_reached a_sheet a_sheet_headings a_sheet_lies a_sheet_taken a_sheet_x a_sheet_y a_solid a_solid_beyondEdge a_solid_onwardEdge a_album a_solid_cubeOf a_solid_lookOf a_solid_x a_solid_y a_solid_z a_solid_faceOf v_reachedCount v_beside v_faceOn v_imageSide v_reached v_sheet_count v_sheet_headings v_sheet_lies v_sheet_taken v_sheet_x v_sheet_y v_solid_cubes v_solid_faces v_solid_beyondEdge v_solid_onwardEdge) sz)) (va_Qi (fun r (u : Int32 × (Nat → Int32) × (Nat → Int32) × Int32 × (Nat → Int32) × (Nat → Int32) × (Nat → Int64) × (Nat → Int32) × (Nat → Int32)) => post r u.1 u.2.1 u.2.2.1 u.2.2.2.1 u.2.2.2.2.1 u.2.2.2.2.2.1 u.2.2.2.2.2.2.1 u.2.2.2.2.2.2.2.1 u.2.2.2.2.2.2.2.2) (fun u => q_post D cI cZ cJ (va_A (wd_X6_canFoldOver cI cZ cJ a_this a_beside a_faceOn a_imageSide a_reached a_sheet a_sheet_headings a_sheet_lies a_sheet_taken a_sheet_x a_sheet_y a_solid a_solid_beyondEdge a_solid_onwardEdge a_album a_solid_cubeOf a_solid_lookOf a_solid_x a_solid_y a_solid_z a_solid_faceOf v_reachedCount v_beside v_faceOn v_imageSide v_reached v_sheet_count v_sheet_headings v_sheet_lies v_sheet_taken v_sheet_x v_sheet_y v_solid_cubes v_solid_faces v_solid_beyondEdge v_solid_onwardEdge) sz) (wd_X6_canFoldOver cI cZ cJ a_this a_beside a_faceOn a_imageSide a_reached a_sheet a_sheet_headings a_sheet_lies a_sheet_taken a_sheet_x a_sheet_y a_solid a_solid_beyondEdge a_solid_onwardEdge a_album a_solid_cubeOf a_solid_lookOf a_solid_x a_solid_y a_solid_z a_solid_faceOf u.1 v_beside u.2.1 v_imageSide u.2.2.1 u.2.2.2.1 u.2.2.2.2.1 u.2.2.2.2.2.1 u.2.2.2.2.2.2.1 u.2.2.2.2.2.2.2.1 u.2.2.2.2.2.2.2.2 v_solid_cubes v_solid_faces v_solid_beyondEdge v_solid_onwardEdge)) (va_A (wd_X6_canFoldOver cI cZ cJ a_this a_beside a_faceOn a_imageSide a_reached a_sheet a_sheet_headings a_sheet_lies a_sheet_taken a_sheet_x a_sheet_y a_solid a_solid_beyondEdge a_solid_onwardEdge a_album a_solid_cubeOf a_solid_lookOf a_solid_x a_solid_y a_solid_z a_solid_faceOf v_reachedCount v_beside v_faceOn v_imageSide v_reached v_sheet_count v_sheet_headings v_sheet_lies v_sheet_taken v_sheet_x v_sheet_y v_solid_cubes v_solid_faces v_solid_beyondEdge v_solid_onwardEdge) sz)) 0 0 (va_A (wd_X6_canFoldOver cI cZ cJ a_this a_beside a_faceOn a_imageSide a_reached a_sheet a_sheet_headings a_sheet_lies a_sheet_taken a_sheet_x a_sheet_y a_solid a_solid_beyondEdge a_solid_onwardEdge a_album a_solid_cubeOf a_solid_lookOf a_solid_x a_solid_y a_solid_z a_solid_faceOf v_reachedCount v_beside v_faceOn v_imageSide v_reached v_sheet_count v_sheet_headings v_sheet_lies v_sheet_taken v_sheet_x v_sheet_y v_solid_cubes v_solid_faces v_solid_beyondEdge v_solid_onwardEdge) sz) := by
  refine q_walkz (cc := cX6_canFoldOver) (maxL := 8) (own := RX6) (wd := fun (u : Int32 × (Nat → Int32) × (Nat → Int32) × Int32 × (Nat → Int32) × (Nat → Int32) × (Nat → Int64) × (Nat → Int32) × (Nat → Int32)) => (wd_X6_canFoldOver cI cZ cJ a_this a_beside a_faceOn a_imageSide a_reached a_sheet a_sheet_headings a_sheet_lies a_sheet_taken a_sheet_x a_sheet_y a_solid a_solid_beyondEdge a_solid_onwardEdge a_album a_solid_cubeOf a_solid_lookOf a_solid_x a_solid_y a_solid_z a_solid_faceOf u.1 v_beside u.2.1 v_imageSide u.2.2.1 u.2.2.2.1 u.2.2.2.2.1 u.2.2.2.2.2.1 u.2.2.2.2.2.2.1 u.2.2.2.2.2.2.2.1 u.2.2.2.2.2.2.2.2 v_solid_cubes v_solid_faces v_solid_beyondEdge v_solid_onwardEdge)) (by decide) rfl rfl (Nat.le_of_ble_eq_true rfl) ?_
  intro p e s m below meth c Q A ls C hA ret hP hD hS hK hSt hNw hl
  obtain ⟨hx, hb, hml, hown, hts⟩ := id C
  replace hl : lv_has ls 8 [(0, .ref a_this), (1, .int p1), (2, .int p2), (3, .int p3)] := hl
  have f15 := hts (.fieldLink RX6 15 "NetSearch$Wrapping" "beside" "[I") (by decide +kernel)
  have iX6 : ∀ w ∈ wsX60, w ∈ wsX6_canFoldOver := by decide +kernel
  have f21 := hts (.fieldLink RX6 21 "NetSearch$Wrapping" "faceOn" "[I") (by decide +kernel)
  have f9 := hts (.fieldLink RX6 9 "NetSearch$Wrapping" "imageSide" "[I") (by decide +kernel)
  have f37 := hts (.fieldLink RX6 37 "NetSearch$Wrapping" "sheet" "LNetSearch$Sheet;") (by decide +kernel)
  have f120 := hts (.fieldLink RX6 120 "NetSearch$Sheet" "lies" "[Z") (by decide +kernel)
  have iX3 : ∀ w ∈ wsX30, w ∈ wsX6_canFoldOver := by decide +kernel
  have f18 := hts (.fieldLink RX6 18 "NetSearch$Wrapping" "reached" "[I") (by decide +kernel)
  have f95 := hts (.fieldLink RX6 95 "NetSearch$Wrapping" "reachedCount" "I") (by decide +kernel)
  unfold wp_X6_canFoldOver at h
  refine lv_aload_n hx hb dX6_canFoldOver_0 rfl (lv_at hl 0 rfl) ?_
  refine va_get (D := D) (ci := 6) (v := .ref a_beside) (C := RX6) (T := TX6) (N := 8) hx hb hts iX6 hown hK hP 0 rfl rfl 4 (by decide) f15 (fun _ h9 => h9) rfl dX6_canFoldOver_1 ?_
  refine lv_iload_n hx hb dX6_canFoldOver_4 rfl (lv_at hl 1 rfl) ?_
  refine lv_iconst (v := 4) hx hb dX6_canFoldOver_5 (by decide) ?_
  refine lv_imul hx hb dX6_canFoldOver_6 ?_
  refine lv_iload_n hx hb dX6_canFoldOver_7 rfl (lv_at hl 2 rfl) ?_
  refine lv_iadd hx hb dX6_canFoldOver_8 ?_
  obtain ⟨hin, h⟩ := h
  refine va_iald hx hb hK hP 1 0 rfl rfl hin dX6_canFoldOver_9 ?_
  refine lv_istore (lv' := [(4, .int (v_beside ((p1 * (4 : Int32)) + p2).toNatClampNeg)), (0, .ref a_this), (1, .int p1), (2, .int p2), (3, .int p3)]) hx hb dX6_canFoldOver_10 hl (by decide) rfl (fun ls hl => ?_)
  refine lv_iload hx hb dX6_canFoldOver_12 (lv_at hl 0 rfl) ?_
  refine lv_if_ge (tgt := 19) hx hb dX6_canFoldOver_14 (by decide) (fun hc => ?_) (fun hc => ?_)
  · replace h := h.1 hc
    refine lv_aload_n hx hb dX6_canFoldOver_19 rfl (lv_at hl 1 rfl) ?_
    refine va_get (D := D) (ci := 6) (v := .ref a_faceOn) (C := RX6) (T := TX6) (N := 8) hx hb hts iX6 hown hK hP 0 rfl rfl 6 (by decide) f21 (fun _ h9 => h9) rfl dX6_canFoldOver_20 ?_
    refine lv_iload_n hx hb dX6_canFoldOver_23 rfl (lv_at hl 2 rfl) ?_
    obtain ⟨hin, h⟩ := h
    refine va_iald hx hb hK hP 2 0 rfl rfl hin dX6_canFoldOver_24 ?_
    refine lv_istore (lv' := [(5, .int (v_faceOn p1.toNatClampNeg)), (4, .int (v_beside ((p1 * (4 : Int32)) + p2).toNatClampNeg)), (0, .ref a_this), (1, .int p1), (2, .int p2), (3, .int p3)]) hx hb dX6_canFoldOver_25 hl (by decide) rfl (fun ls hl => ?_)
    refine lv_aload_n hx hb dX6_canFoldOver_27 rfl (lv_at hl 2 rfl) ?_
    refine va_get (D := D) (ci := 6) (v := .ref a_imageSide) (C := RX6) (T := TX6) (N := 8) hx hb hts iX6 hown hK hP 0 rfl rfl 3 (by decide) f9 (fun _ h9 => h9) rfl dX6_canFoldOver_28 ?_
    refine lv_iload_n hx hb dX6_canFoldOver_31 rfl (lv_at hl 5 rfl) ?_
    refine lv_iconst (v := 4) hx hb dX6_canFoldOver_32 (by decide) ?_
    refine lv_imul hx hb dX6_canFoldOver_33 ?_
    refine lv_iload_n hx hb dX6_canFoldOver_34 rfl (lv_at hl 4 rfl) ?_
    refine lv_iadd hx hb dX6_canFoldOver_35 ?_
    obtain ⟨hin, h⟩ := h
    refine va_iald hx hb hK hP 3 0 rfl rfl hin dX6_canFoldOver_36 ?_
    refine lv_istore (lv' := [(6, .int (v_imageSide ((p3 * (4 : Int32)) + p2).toNatClampNeg)), (5, .int (v_faceOn p1.toNatClampNeg)), (4, .int (v_beside ((p1 * (4 : Int32)) + p2).toNatClampNeg)), (0, .ref a_this), (1, .int p1), (2, .int p2), (3, .int p3)]) hx hb dX6_canFoldOver_37 hl (by decide) rfl (fun ls hl => ?_)
    refine lv_aload_n hx hb dX6_canFoldOver_39 rfl (lv_at hl 3 rfl) ?_
    refine va_get (D := D) (ci := 6) (v := .ref a_faceOn) (C := RX6) (T := TX6) (N := 8) hx hb hts iX6 hown hK hP 0 rfl rfl 6 (by decide) f21 (fun _ h9 => h9) rfl dX6_canFoldOver_40 ?_
    refine lv_iload hx hb dX6_canFoldOver_43 (lv_at hl 2 rfl) ?_
    obtain ⟨hin, h⟩ := h
    refine va_iald hx hb hK hP 2 0 rfl rfl hin dX6_canFoldOver_45 ?_
    refine lv_if_lt (tgt := 61) hx hb dX6_canFoldOver_46 (by decide) (fun hc => ?_) (fun hc => ?_)
    · replace h := h.1 hc
      refine lv_aload_n hx hb dX6_canFoldOver_61 rfl (lv_at hl 3 rfl) ?_
      refine va_get (D := D) (ci := 6) (v := .ref a_sheet) (C := RX6) (T := TX6) (N := 8) hx hb hts iX6 hown hK hP 0 rfl rfl 2 (by decide) f37 (fun _ h9 => h9) rfl dX6_canFoldOver_62 ?_
      refine lv_iload hx hb dX6_canFoldOver_65 (lv_at hl 1 rfl) ?_
      refine lv_iload hx hb dX6_canFoldOver_67 (lv_at hl 0 rfl) ?_
      have hPc := hP.sub (ws' := (wd_X3_neighbour cI cZ cJ a_sheet a_sheet_headings a_solid a_solid_beyondEdge a_sheet_lies a_sheet_x a_sheet_y a_sheet_taken a_solid_cubeOf a_solid_lookOf a_solid_x a_solid_y a_solid_z a_solid_faceOf a_solid_onwardEdge v_sheet_count v_sheet_headings v_solid_cubes v_solid_faces v_solid_beyondEdge)) [5, 6, 11, 12] rfl
      have hDc := hD.sub (ws' := (wd_X3_neighbour cI cZ cJ a_sheet a_sheet_headings a_solid a_solid_beyondEdge a_sheet_lies a_sheet_x a_sheet_y a_sheet_taken a_solid_cubeOf a_solid_lookOf a_solid_x a_solid_y a_solid_z a_solid_faceOf a_solid_onwardEdge v_sheet_count v_sheet_headings v_solid_cubes v_solid_faces v_solid_beyondEdge)) [5, 6, 11, 12] (by decide) rfl
      have hFc := va_free (wc := (wd_X3_neighbour cI cZ cJ a_sheet a_sheet_headings a_solid a_solid_beyondEdge a_sheet_lies a_sheet_x a_sheet_y a_sheet_taken a_solid_cubeOf a_solid_lookOf a_solid_x a_solid_y a_solid_z a_solid_faceOf a_solid_onwardEdge v_sheet_count v_sheet_headings v_solid_cubes v_solid_faces v_solid_beyondEdge)) hD hS hA [5, 6, 11, 12] rfl
      refine va_calli (va_runV (As := [.int (v_faceOn p1.toNatClampNeg), .int (v_imageSide ((p3 * (4 : Int32)) + p2).toNatClampNeg)]) (rest := []) C (c_X3_neighbour l D cI cZ cJ tb a_sheet a_sheet_headings a_solid a_solid_beyondEdge a_sheet_lies a_sheet_x a_sheet_y a_sheet_taken a_solid_cubeOf a_solid_lookOf a_solid_x a_solid_y a_solid_z a_solid_faceOf a_solid_onwardEdge v_sheet_count v_sheet_headings v_solid_cubes v_solid_faces v_solid_beyondEdge s.heap.size (v_faceOn p1.toNatClampNeg) (v_imageSide ((p3 * (4 : Int32)) + p2).toNatClampNeg) h) (cwV 2 hts gX6_canFoldOver_X3_neighbour rfl rfl rfl (by decide +kernel) ⟨Nat.le_of_ble_eq_true rfl, Nat.le_of_ble_eq_true rfl⟩) ⟨q_pre.blind, va_recv hK hP (ci := 3) (q0 := 5) rfl rfl, fun U hU hW => ⟨rfl, q_pre.of hU hW hPc hK hDc hSt hS hFc hNw⟩⟩ rfl rfl hl.1 rfl (lv_room (Nat.le_of_ble_eq_true rfl)) dX6_canFoldOver_69 ⟨Nat.zero_le _, Nat.zero_le _⟩) hS (fun q _ h => hFc q h) hFc (fun r_1 u_2 t H1 locs ht hvm hw hB hz1 hk1 hS => ?_)
      obtain ⟨hP1, hK1, hD1⟩ := hB
      rw [ht] at hP1
      obtain ⟨hP, hD⟩ := va_join (wr := [(a_this, .inr (6, [.ref a_solid, .ref a_album, .ref a_sheet, .ref a_imageSide, .ref a_beside, .ref a_reached, .ref a_faceOn, .int v_reachedCount])), (a_beside, .inl (cI, 88, .inl v_beside)), (a_faceOn, .inl (cI, 22, .inl v_faceOn)), (a_imageSide, .inl (cI, 32, .inl v_imageSide)), (a_reached, .inl (cI, 22, .inl v_reached)), (a_sheet_lies, .inl (cZ, 22, .inl v_sheet_lies)), (a_sheet_taken, .inl (cJ, 63, .inr (.inl v_sheet_taken))), (a_sheet_x, .inl (cI, 22, .inl v_sheet_x)), (a_sheet_y, .inl (cI, 22, .inl v_sheet_y)), (a_solid_onwardEdge, .inl (cI, 132, .inl v_solid_onwardEdge))]) (w1 := (wd_X3_neighbour cI cZ cJ a_sheet a_sheet_headings a_solid a_solid_beyondEdge a_sheet_lies a_sheet_x a_sheet_y a_sheet_taken a_solid_cubeOf a_solid_lookOf a_solid_x a_solid_y a_solid_z a_solid_faceOf a_solid_onwardEdge v_sheet_count v_sheet_headings v_solid_cubes v_solid_faces v_solid_beyondEdge)) hP hD [5, 6, 11, 12] [0, 1, 2, 3, 4, 7, 8, 9, 10, 13] rfl rfl (by decide) (by decide) hk1 hFc hP1 hD1
      clear hPc hDc hFc hP1 hD1 hK1 hk1 hz1 ht hvm
      replace h := hw
      clear hw
      generalize H1 = H at hP hS ⊢
      replace hP : va_P D vwCl (wd_X6_canFoldOver cI cZ cJ a_this a_beside a_faceOn a_imageSide a_reached a_sheet a_sheet_headings a_sheet_lies a_sheet_taken a_sheet_x a_sheet_y a_solid a_solid_beyondEdge a_solid_onwardEdge a_album a_solid_cubeOf a_solid_lookOf a_solid_x a_solid_y a_solid_z a_solid_faceOf v_reachedCount v_beside v_faceOn v_imageSide v_reached v_sheet_count v_sheet_headings v_sheet_lies v_sheet_taken v_sheet_x v_sheet_y v_solid_cubes v_solid_faces v_solid_beyondEdge v_solid_onwardEdge) H := hP.sub [0, 1, 2, 3, 4, 10, 11, 5, 6, 7, 8, 12, 13, 9] rfl
      replace hD : va_D A (wd_X6_canFoldOver cI cZ cJ a_this a_beside a_faceOn a_imageSide a_reached a_sheet a_sheet_headings a_sheet_lies a_sheet_taken a_sheet_x a_sheet_y a_solid a_solid_beyondEdge a_solid_onwardEdge a_album a_solid_cubeOf a_solid_lookOf a_solid_x a_solid_y a_solid_z a_solid_faceOf v_reachedCount v_beside v_faceOn v_imageSide v_reached v_sheet_count v_sheet_headings v_sheet_lies v_sheet_taken v_sheet_x v_sheet_y v_solid_cubes v_solid_faces v_solid_beyondEdge v_solid_onwardEdge) := hD.sub [0, 1, 2, 3, 4, 10, 11, 5, 6, 7, 8, 12, 13, 9] (by decide) rfl
      refine lv_istore (lv' := [(7, .int r_1), (6, .int (v_imageSide ((p3 * (4 : Int32)) + p2).toNatClampNeg)), (5, .int (v_faceOn p1.toNatClampNeg)), (4, .int (v_beside ((p1 * (4 : Int32)) + p2).toNatClampNeg)), (0, .ref a_this), (1, .int p1), (2, .int p2), (3, .int p3)]) hx hb dX6_canFoldOver_72 hl (by decide) rfl (fun ls hl => ?_)
      refine lv_aload_n hx hb dX6_canFoldOver_74 rfl (lv_at hl 4 rfl) ?_
      refine va_get (D := D) (ci := 6) (v := .ref a_sheet) (C := RX6) (T := TX6) (N := 8) hx hb hts iX6 hown hK hP 0 rfl rfl 2 (by decide) f37 (fun _ h9 => h9) rfl dX6_canFoldOver_75 ?_
      refine va_get (D := D) (ci := 3) (v := .ref a_sheet_lies) (C := RX3) (T := TX3) (N := 7) hx hb hts iX3 hown hK hP 5 rfl rfl 0 (by decide) f120 (fun _ h9 => h9) rfl dX6_canFoldOver_78 ?_
      refine lv_iload hx hb dX6_canFoldOver_81 (lv_at hl 0 rfl) ?_
      obtain ⟨hin, h⟩ := h
      refine va_zald hx hb hK hP 7 1 rfl rfl hin dX6_canFoldOver_83 ?_
      refine lv_if_eq (tgt := 89) hx hb dX6_canFoldOver_84 (by decide) (fun hc => ?_) (fun hc => ?_)
      · replace h := h.1 hc
        refine lv_aload_n hx hb dX6_canFoldOver_89 rfl (lv_at hl 4 rfl) ?_
        refine va_get (D := D) (ci := 6) (v := .ref a_sheet) (C := RX6) (T := TX6) (N := 8) hx hb hts iX6 hown hK hP 0 rfl rfl 2 (by decide) f37 (fun _ h9 => h9) rfl dX6_canFoldOver_90 ?_
        refine lv_iload hx hb dX6_canFoldOver_93 (lv_at hl 2 rfl) ?_
        refine lv_iload hx hb dX6_canFoldOver_95 (lv_at hl 1 rfl) ?_
        have hPc := hP.sub (ws' := (wd_X3_putBeside cI cZ cJ a_sheet a_sheet_headings a_sheet_lies a_solid a_solid_beyondEdge a_solid_onwardEdge a_sheet_taken a_sheet_x a_sheet_y a_solid_cubeOf a_solid_lookOf a_solid_x a_solid_y a_solid_z a_solid_faceOf v_sheet_count v_sheet_headings v_sheet_lies v_solid_cubes v_solid_faces v_solid_beyondEdge v_solid_onwardEdge v_sheet_taken v_sheet_x v_sheet_y)) [5, 6, 7, 11, 12, 13, 8, 9, 10] rfl
        have hDc := hD.sub (ws' := (wd_X3_putBeside cI cZ cJ a_sheet a_sheet_headings a_sheet_lies a_solid a_solid_beyondEdge a_solid_onwardEdge a_sheet_taken a_sheet_x a_sheet_y a_solid_cubeOf a_solid_lookOf a_solid_x a_solid_y a_solid_z a_solid_faceOf v_sheet_count v_sheet_headings v_sheet_lies v_solid_cubes v_solid_faces v_solid_beyondEdge v_solid_onwardEdge v_sheet_taken v_sheet_x v_sheet_y)) [5, 6, 7, 11, 12, 13, 8, 9, 10] (by decide) rfl
        have hFc := va_free (wc := (wd_X3_putBeside cI cZ cJ a_sheet a_sheet_headings a_sheet_lies a_solid a_solid_beyondEdge a_solid_onwardEdge a_sheet_taken a_sheet_x a_sheet_y a_solid_cubeOf a_solid_lookOf a_solid_x a_solid_y a_solid_z a_solid_faceOf v_sheet_count v_sheet_headings v_sheet_lies v_solid_cubes v_solid_faces v_solid_beyondEdge v_solid_onwardEdge v_sheet_taken v_sheet_x v_sheet_y)) hD hS hA [5, 6, 7, 11, 12, 13, 8, 9, 10] rfl
        refine va_callv (va_runV (As := [.int (v_faceOn p1.toNatClampNeg), .int (v_imageSide ((p3 * (4 : Int32)) + p2).toNatClampNeg)]) (rest := []) C (c_X3_putBeside l D cI cZ cJ tb a_sheet a_sheet_headings a_sheet_lies a_solid a_solid_beyondEdge a_solid_onwardEdge a_sheet_taken a_sheet_x a_sheet_y a_solid_cubeOf a_solid_lookOf a_solid_x a_solid_y a_solid_z a_solid_faceOf v_sheet_count v_sheet_headings v_sheet_lies v_solid_cubes v_solid_faces v_solid_beyondEdge v_solid_onwardEdge v_sheet_taken v_sheet_x v_sheet_y H.size (v_faceOn p1.toNatClampNeg) (v_imageSide ((p3 * (4 : Int32)) + p2).toNatClampNeg) h) (cwV 2 hts gX6_canFoldOver_X3_putBeside rfl rfl rfl (by decide +kernel) ⟨Nat.le_of_ble_eq_true rfl, Nat.le_of_ble_eq_true rfl⟩) ⟨q_pre.blind, va_recv hK hP (ci := 3) (q0 := 5) rfl rfl, fun U hU hW => ⟨rfl, q_pre.of hU hW hPc hK hDc hSt hS hFc hNw⟩⟩ rfl rfl hl.1 rfl (lv_room (Nat.le_of_ble_eq_true rfl)) dX6_canFoldOver_97 ⟨Nat.zero_le _, Nat.zero_le _⟩) hS (fun q _ h => hFc q h) hFc (fun u_4 t H1 locs ht hvm hw hB hz1 hk1 hS => ?_)
        obtain ⟨hP1, hK1, hD1⟩ := hB
        rw [ht] at hP1
        obtain ⟨hP, hD⟩ := va_join (wr := [(a_this, .inr (6, [.ref a_solid, .ref a_album, .ref a_sheet, .ref a_imageSide, .ref a_beside, .ref a_reached, .ref a_faceOn, .int v_reachedCount])), (a_beside, .inl (cI, 88, .inl v_beside)), (a_faceOn, .inl (cI, 22, .inl v_faceOn)), (a_imageSide, .inl (cI, 32, .inl v_imageSide)), (a_reached, .inl (cI, 22, .inl v_reached))]) (w1 := (wd_X3_putBeside cI cZ cJ a_sheet a_sheet_headings a_sheet_lies a_solid a_solid_beyondEdge a_solid_onwardEdge a_sheet_taken a_sheet_x a_sheet_y a_solid_cubeOf a_solid_lookOf a_solid_x a_solid_y a_solid_z a_solid_faceOf u_4.1 u_4.2.1 u_4.2.2.1 v_solid_cubes v_solid_faces v_solid_beyondEdge v_solid_onwardEdge u_4.2.2.2.1 u_4.2.2.2.2.1 u_4.2.2.2.2.2)) hP hD [5, 6, 7, 11, 12, 13, 8, 9, 10] [0, 1, 2, 3, 4] rfl rfl (by decide) (by decide) hk1 hFc hP1 hD1
        clear hPc hDc hFc hP1 hD1 hK1 hk1 hz1 ht hvm
        replace h := hw
        clear hw
        generalize H1 = H at hP hS ⊢
        replace hP : va_P D vwCl (wd_X6_canFoldOver cI cZ cJ a_this a_beside a_faceOn a_imageSide a_reached a_sheet a_sheet_headings a_sheet_lies a_sheet_taken a_sheet_x a_sheet_y a_solid a_solid_beyondEdge a_solid_onwardEdge a_album a_solid_cubeOf a_solid_lookOf a_solid_x a_solid_y a_solid_z a_solid_faceOf v_reachedCount v_beside v_faceOn v_imageSide v_reached u_4.1 u_4.2.1 u_4.2.2.1 u_4.2.2.2.1 u_4.2.2.2.2.1 u_4.2.2.2.2.2 v_solid_cubes v_solid_faces v_solid_beyondEdge v_solid_onwardEdge) H := hP.sub [0, 1, 2, 3, 4, 5, 6, 7, 11, 12, 13, 8, 9, 10] rfl
        replace hD : va_D A (wd_X6_canFoldOver cI cZ cJ a_this a_beside a_faceOn a_imageSide a_reached a_sheet a_sheet_headings a_sheet_lies a_sheet_taken a_sheet_x a_sheet_y a_solid a_solid_beyondEdge a_solid_onwardEdge a_album a_solid_cubeOf a_solid_lookOf a_solid_x a_solid_y a_solid_z a_solid_faceOf v_reachedCount v_beside v_faceOn v_imageSide v_reached u_4.1 u_4.2.1 u_4.2.2.1 u_4.2.2.2.1 u_4.2.2.2.2.1 u_4.2.2.2.2.2 v_solid_cubes v_solid_faces v_solid_beyondEdge v_solid_onwardEdge) := hD.sub [0, 1, 2, 3, 4, 5, 6, 7, 11, 12, 13, 8, 9, 10] (by decide) rfl
        refine lv_aload_n hx hb dX6_canFoldOver_100 rfl (lv_at hl 4 rfl) ?_
        refine va_get (D := D) (ci := 6) (v := .ref a_faceOn) (C := RX6) (T := TX6) (N := 8) hx hb hts iX6 hown hK hP 0 rfl rfl 6 (by decide) f21 (fun _ h9 => h9) rfl dX6_canFoldOver_101 ?_
        refine lv_iload hx hb dX6_canFoldOver_104 (lv_at hl 3 rfl) ?_
        refine lv_iload hx hb dX6_canFoldOver_106 (lv_at hl 0 rfl) ?_
        obtain ⟨hin, h⟩ := h
        refine va_iast hx hb hK hP hD hS 2 0 rfl rfl hin dX6_canFoldOver_108 (fun H locs hP hD hS => ?_)
        replace hP : va_P D vwCl (wd_X6_canFoldOver cI cZ cJ a_this a_beside a_faceOn a_imageSide a_reached a_sheet a_sheet_headings a_sheet_lies a_sheet_taken a_sheet_x a_sheet_y a_solid a_solid_beyondEdge a_solid_onwardEdge a_album a_solid_cubeOf a_solid_lookOf a_solid_x a_solid_y a_solid_z a_solid_faceOf v_reachedCount v_beside (upd v_faceOn (v_beside ((p1 * (4 : Int32)) + p2).toNatClampNeg).toNatClampNeg r_1) v_imageSide v_reached u_4.1 u_4.2.1 u_4.2.2.1 u_4.2.2.2.1 u_4.2.2.2.2.1 u_4.2.2.2.2.2 v_solid_cubes v_solid_faces v_solid_beyondEdge v_solid_onwardEdge) H := hP
        replace hD : va_D A (wd_X6_canFoldOver cI cZ cJ a_this a_beside a_faceOn a_imageSide a_reached a_sheet a_sheet_headings a_sheet_lies a_sheet_taken a_sheet_x a_sheet_y a_solid a_solid_beyondEdge a_solid_onwardEdge a_album a_solid_cubeOf a_solid_lookOf a_solid_x a_solid_y a_solid_z a_solid_faceOf v_reachedCount v_beside (upd v_faceOn (v_beside ((p1 * (4 : Int32)) + p2).toNatClampNeg).toNatClampNeg r_1) v_imageSide v_reached u_4.1 u_4.2.1 u_4.2.2.1 u_4.2.2.2.1 u_4.2.2.2.2.1 u_4.2.2.2.2.2 v_solid_cubes v_solid_faces v_solid_beyondEdge v_solid_onwardEdge) := hD
        refine lv_aload_n hx hb dX6_canFoldOver_109 rfl (lv_at hl 4 rfl) ?_
        refine va_get (D := D) (ci := 6) (v := .ref a_reached) (C := RX6) (T := TX6) (N := 8) hx hb hts iX6 hown hK hP 0 rfl rfl 5 (by decide) f18 (fun _ h9 => h9) rfl dX6_canFoldOver_110 ?_
        refine lv_aload_n hx hb dX6_canFoldOver_113 rfl (lv_at hl 4 rfl) ?_
        refine va_get (D := D) (ci := 6) (v := .int v_reachedCount) (C := RX6) (T := TX6) (N := 8) hx hb hts iX6 hown hK hP 0 rfl rfl 7 (by decide) f95 (fun _ h9 => h9) rfl dX6_canFoldOver_114 ?_
        refine lv_iload hx hb dX6_canFoldOver_117 (lv_at hl 3 rfl) ?_
        obtain ⟨hin, h⟩ := h
        refine va_iast hx hb hK hP hD hS 4 0 rfl rfl hin dX6_canFoldOver_119 (fun H locs hP hD hS => ?_)
        replace hP : va_P D vwCl (wd_X6_canFoldOver cI cZ cJ a_this a_beside a_faceOn a_imageSide a_reached a_sheet a_sheet_headings a_sheet_lies a_sheet_taken a_sheet_x a_sheet_y a_solid a_solid_beyondEdge a_solid_onwardEdge a_album a_solid_cubeOf a_solid_lookOf a_solid_x a_solid_y a_solid_z a_solid_faceOf v_reachedCount v_beside (upd v_faceOn (v_beside ((p1 * (4 : Int32)) + p2).toNatClampNeg).toNatClampNeg r_1) v_imageSide (upd v_reached v_reachedCount.toNatClampNeg (v_beside ((p1 * (4 : Int32)) + p2).toNatClampNeg)) u_4.1 u_4.2.1 u_4.2.2.1 u_4.2.2.2.1 u_4.2.2.2.2.1 u_4.2.2.2.2.2 v_solid_cubes v_solid_faces v_solid_beyondEdge v_solid_onwardEdge) H := hP
        replace hD : va_D A (wd_X6_canFoldOver cI cZ cJ a_this a_beside a_faceOn a_imageSide a_reached a_sheet a_sheet_headings a_sheet_lies a_sheet_taken a_sheet_x a_sheet_y a_solid a_solid_beyondEdge a_solid_onwardEdge a_album a_solid_cubeOf a_solid_lookOf a_solid_x a_solid_y a_solid_z a_solid_faceOf v_reachedCount v_beside (upd v_faceOn (v_beside ((p1 * (4 : Int32)) + p2).toNatClampNeg).toNatClampNeg r_1) v_imageSide (upd v_reached v_reachedCount.toNatClampNeg (v_beside ((p1 * (4 : Int32)) + p2).toNatClampNeg)) u_4.1 u_4.2.1 u_4.2.2.1 u_4.2.2.2.1 u_4.2.2.2.2.1 u_4.2.2.2.2.2 v_solid_cubes v_solid_faces v_solid_beyondEdge v_solid_onwardEdge) := hD
        refine lv_aload_n hx hb dX6_canFoldOver_120 rfl (lv_at hl 4 rfl) ?_
        refine lv_dup hx hb dX6_canFoldOver_121 rfl ?_
        refine va_get (D := D) (ci := 6) (v := .int v_reachedCount) (C := RX6) (T := TX6) (N := 8) hx hb hts iX6 hown hK hP 0 rfl rfl 7 (by decide) f95 (fun _ h9 => h9) rfl dX6_canFoldOver_122 ?_
        refine lv_iconst (v := 1) hx hb dX6_canFoldOver_125 (by decide) ?_
        refine lv_iadd hx hb dX6_canFoldOver_126 ?_
        refine va_put (D := D) (ci := 6) (v := .int (v_reachedCount + (1 : Int32))) (ty := .int) (C := RX6) (T := TX6) (N := 8) hx hb hts iX6 tyX6 tyX6_ok nmX6 hown hK hP hD hS 0 rfl rfl 7 (by decide) f95 (fun _ h9 => h9) rfl (by decide +kernel) rfl rfl (Nat.le_of_ble_eq_true rfl) dX6_canFoldOver_127 (fun H locs hP hD hS => ?_)
        replace hP : va_P D vwCl (wd_X6_canFoldOver cI cZ cJ a_this a_beside a_faceOn a_imageSide a_reached a_sheet a_sheet_headings a_sheet_lies a_sheet_taken a_sheet_x a_sheet_y a_solid a_solid_beyondEdge a_solid_onwardEdge a_album a_solid_cubeOf a_solid_lookOf a_solid_x a_solid_y a_solid_z a_solid_faceOf (v_reachedCount + (1 : Int32)) v_beside (upd v_faceOn (v_beside ((p1 * (4 : Int32)) + p2).toNatClampNeg).toNatClampNeg r_1) v_imageSide (upd v_reached v_reachedCount.toNatClampNeg (v_beside ((p1 * (4 : Int32)) + p2).toNatClampNeg)) u_4.1 u_4.2.1 u_4.2.2.1 u_4.2.2.2.1 u_4.2.2.2.2.1 u_4.2.2.2.2.2 v_solid_cubes v_solid_faces v_solid_beyondEdge v_solid_onwardEdge) H := hP
        replace hD : va_D A (wd_X6_canFoldOver cI cZ cJ a_this a_beside a_faceOn a_imageSide a_reached a_sheet a_sheet_headings a_sheet_lies a_sheet_taken a_sheet_x a_sheet_y a_solid a_solid_beyondEdge a_solid_onwardEdge a_album a_solid_cubeOf a_solid_lookOf a_solid_x a_solid_y a_solid_z a_solid_faceOf (v_reachedCount + (1 : Int32)) v_beside (upd v_faceOn (v_beside ((p1 * (4 : Int32)) + p2).toNatClampNeg).toNatClampNeg r_1) v_imageSide (upd v_reached v_reachedCount.toNatClampNeg (v_beside ((p1 * (4 : Int32)) + p2).toNatClampNeg)) u_4.1 u_4.2.1 u_4.2.2.1 u_4.2.2.2.1 u_4.2.2.2.2.1 u_4.2.2.2.2.2 v_solid_cubes v_solid_faces v_solid_beyondEdge v_solid_onwardEdge) := hD
        refine lv_iconst (v := 1) hx hb dX6_canFoldOver_130 (by decide) ?_
        exact ret (1 : Int32) ((v_reachedCount + (1 : Int32)), (upd v_faceOn (v_beside ((p1 * (4 : Int32)) + p2).toNatClampNeg).toNatClampNeg r_1), (upd v_reached v_reachedCount.toNatClampNeg (v_beside ((p1 * (4 : Int32)) + p2).toNatClampNeg)), u_4.1, u_4.2.1, u_4.2.2.1, u_4.2.2.2.1, u_4.2.2.2.2.1, u_4.2.2.2.2.2) _ _ _ 131 dX6_canFoldOver_131 ⟨by decide, h⟩ hP hD hS
      · replace h := h.2 hc
        refine lv_iconst (v := 0) hx hb dX6_canFoldOver_87 (by decide) ?_
        exact ret (0 : Int32) (v_reachedCount, v_faceOn, v_reached, v_sheet_count, v_sheet_headings, v_sheet_lies, v_sheet_taken, v_sheet_x, v_sheet_y) _ _ _ 88 dX6_canFoldOver_88 ⟨by decide, h⟩ hP hD hS
    · replace h := h.2 hc
      refine lv_aload_n hx hb dX6_canFoldOver_49 rfl (lv_at hl 3 rfl) ?_
      refine va_get (D := D) (ci := 6) (v := .ref a_sheet) (C := RX6) (T := TX6) (N := 8) hx hb hts iX6 hown hK hP 0 rfl rfl 2 (by decide) f37 (fun _ h9 => h9) rfl dX6_canFoldOver_50 ?_
      refine lv_iload hx hb dX6_canFoldOver_53 (lv_at hl 1 rfl) ?_
      refine lv_iload hx hb dX6_canFoldOver_55 (lv_at hl 0 rfl) ?_
      have hPc := hP.sub (ws' := (wd_X3_fitsBeside cI cZ cJ a_sheet a_sheet_headings a_sheet_lies a_solid a_solid_beyondEdge a_solid_onwardEdge a_sheet_x a_sheet_y a_sheet_taken a_solid_cubeOf a_solid_lookOf a_solid_x a_solid_y a_solid_z a_solid_faceOf v_sheet_count v_sheet_headings v_sheet_lies v_solid_cubes v_solid_faces v_solid_beyondEdge v_solid_onwardEdge v_sheet_x v_sheet_y)) [5, 6, 7, 11, 12, 13, 9, 10] rfl
      have hDc := hD.sub (ws' := (wd_X3_fitsBeside cI cZ cJ a_sheet a_sheet_headings a_sheet_lies a_solid a_solid_beyondEdge a_solid_onwardEdge a_sheet_x a_sheet_y a_sheet_taken a_solid_cubeOf a_solid_lookOf a_solid_x a_solid_y a_solid_z a_solid_faceOf v_sheet_count v_sheet_headings v_sheet_lies v_solid_cubes v_solid_faces v_solid_beyondEdge v_solid_onwardEdge v_sheet_x v_sheet_y)) [5, 6, 7, 11, 12, 13, 9, 10] (by decide) rfl
      have hFc := va_free (wc := (wd_X3_fitsBeside cI cZ cJ a_sheet a_sheet_headings a_sheet_lies a_solid a_solid_beyondEdge a_solid_onwardEdge a_sheet_x a_sheet_y a_sheet_taken a_solid_cubeOf a_solid_lookOf a_solid_x a_solid_y a_solid_z a_solid_faceOf v_sheet_count v_sheet_headings v_sheet_lies v_solid_cubes v_solid_faces v_solid_beyondEdge v_solid_onwardEdge v_sheet_x v_sheet_y)) hD hS hA [5, 6, 7, 11, 12, 13, 9, 10] rfl
      refine va_calli (va_runV (As := [.int (v_faceOn p1.toNatClampNeg), .int (v_imageSide ((p3 * (4 : Int32)) + p2).toNatClampNeg)]) (rest := []) C (c_X3_fitsBeside l D cI cZ cJ tb a_sheet a_sheet_headings a_sheet_lies a_solid a_solid_beyondEdge a_solid_onwardEdge a_sheet_x a_sheet_y a_sheet_taken a_solid_cubeOf a_solid_lookOf a_solid_x a_solid_y a_solid_z a_solid_faceOf v_sheet_count v_sheet_headings v_sheet_lies v_solid_cubes v_solid_faces v_solid_beyondEdge v_solid_onwardEdge v_sheet_x v_sheet_y s.heap.size (v_faceOn p1.toNatClampNeg) (v_imageSide ((p3 * (4 : Int32)) + p2).toNatClampNeg) h) (cwV 2 hts gX6_canFoldOver_X3_fitsBeside rfl rfl rfl (by decide +kernel) ⟨Nat.le_of_ble_eq_true rfl, Nat.le_of_ble_eq_true rfl⟩) ⟨q_pre.blind, va_recv hK hP (ci := 3) (q0 := 5) rfl rfl, fun U hU hW => ⟨rfl, q_pre.of hU hW hPc hK hDc hSt hS hFc hNw⟩⟩ rfl rfl hl.1 rfl (lv_room (Nat.le_of_ble_eq_true rfl)) dX6_canFoldOver_57 ⟨Nat.zero_le _, Nat.zero_le _⟩) hS (fun q _ h => hFc q h) hFc (fun r_11 u_12 t H1 locs ht hvm hw hB hz1 hk1 hS => ?_)
      obtain ⟨hP1, hK1, hD1⟩ := hB
      rw [ht] at hP1
      obtain ⟨hP, hD⟩ := va_join (wr := [(a_this, .inr (6, [.ref a_solid, .ref a_album, .ref a_sheet, .ref a_imageSide, .ref a_beside, .ref a_reached, .ref a_faceOn, .int v_reachedCount])), (a_beside, .inl (cI, 88, .inl v_beside)), (a_faceOn, .inl (cI, 22, .inl v_faceOn)), (a_imageSide, .inl (cI, 32, .inl v_imageSide)), (a_reached, .inl (cI, 22, .inl v_reached)), (a_sheet_taken, .inl (cJ, 63, .inr (.inl v_sheet_taken)))]) (w1 := (wd_X3_fitsBeside cI cZ cJ a_sheet a_sheet_headings a_sheet_lies a_solid a_solid_beyondEdge a_solid_onwardEdge a_sheet_x a_sheet_y a_sheet_taken a_solid_cubeOf a_solid_lookOf a_solid_x a_solid_y a_solid_z a_solid_faceOf v_sheet_count v_sheet_headings v_sheet_lies v_solid_cubes v_solid_faces v_solid_beyondEdge v_solid_onwardEdge v_sheet_x v_sheet_y)) hP hD [5, 6, 7, 11, 12, 13, 9, 10] [0, 1, 2, 3, 4, 8] rfl rfl (by decide) (by decide) hk1 hFc hP1 hD1
      clear hPc hDc hFc hP1 hD1 hK1 hk1 hz1 ht hvm
      replace h := hw
      clear hw
      generalize H1 = H at hP hS ⊢
      replace hP : va_P D vwCl (wd_X6_canFoldOver cI cZ cJ a_this a_beside a_faceOn a_imageSide a_reached a_sheet a_sheet_headings a_sheet_lies a_sheet_taken a_sheet_x a_sheet_y a_solid a_solid_beyondEdge a_solid_onwardEdge a_album a_solid_cubeOf a_solid_lookOf a_solid_x a_solid_y a_solid_z a_solid_faceOf v_reachedCount v_beside v_faceOn v_imageSide v_reached v_sheet_count v_sheet_headings v_sheet_lies v_sheet_taken v_sheet_x v_sheet_y v_solid_cubes v_solid_faces v_solid_beyondEdge v_solid_onwardEdge) H := hP.sub [0, 1, 2, 3, 4, 6, 7, 8, 5, 12, 13, 9, 10, 11] rfl
      replace hD : va_D A (wd_X6_canFoldOver cI cZ cJ a_this a_beside a_faceOn a_imageSide a_reached a_sheet a_sheet_headings a_sheet_lies a_sheet_taken a_sheet_x a_sheet_y a_solid a_solid_beyondEdge a_solid_onwardEdge a_album a_solid_cubeOf a_solid_lookOf a_solid_x a_solid_y a_solid_z a_solid_faceOf v_reachedCount v_beside v_faceOn v_imageSide v_reached v_sheet_count v_sheet_headings v_sheet_lies v_sheet_taken v_sheet_x v_sheet_y v_solid_cubes v_solid_faces v_solid_beyondEdge v_solid_onwardEdge) := hD.sub [0, 1, 2, 3, 4, 6, 7, 8, 5, 12, 13, 9, 10, 11] (by decide) rfl
      exact ret r_11 (v_reachedCount, v_faceOn, v_reached, v_sheet_count, v_sheet_headings, v_sheet_lies, v_sheet_taken, v_sheet_x, v_sheet_y) _ _ _ 60 dX6_canFoldOver_60 h hP hD hS
  · replace h := h.2 hc
    refine lv_iconst (v := 1) hx hb dX6_canFoldOver_17 (by decide) ?_
    exact ret (1 : Int32) (v_reachedCount, v_faceOn, v_reached, v_sheet_count, v_sheet_headings, v_sheet_lies, v_sheet_taken, v_sheet_x, v_sheet_y) _ _ _ 18 dX6_canFoldOver_18 ⟨by decide, h⟩ hP hD hS
def wd_X6_canFold (cI cZ cJ : ClassId) (a_this a_beside a_faceOn a_imageSide a_reached a_sheet a_sheet_headings a_sheet_lies a_sheet_taken a_sheet_x a_sheet_y a_solid a_solid_beyondEdge a_solid_lookOf a_solid_onwardEdge a_album a_solid_cubeOf a_solid_x a_solid_y a_solid_z a_solid_faceOf : Nat) (v_reachedCount : Int32) (v_beside : Nat → Int32) (v_faceOn : Nat → Int32) (v_imageSide : Nat → Int32) (v_reached : Nat → Int32) (v_sheet_count : Int32) (v_sheet_headings : Nat → Int32) (v_sheet_lies : Nat → Int32) (v_sheet_taken : Nat → Int64) (v_sheet_x : Nat → Int32) (v_sheet_y : Nat → Int32) (v_solid_cubes : Int32) (v_solid_faces : Int32) (v_solid_beyondEdge : Nat → Int32) (v_solid_lookOf : Nat → Int32) (v_solid_onwardEdge : Nat → Int32) : va_W := [(a_this, .inr (6, [.ref a_solid, .ref a_album, .ref a_sheet, .ref a_imageSide, .ref a_beside, .ref a_reached, .ref a_faceOn, .int v_reachedCount])),
  (a_beside, .inl (cI, 88, .inl v_beside)),
  (a_faceOn, .inl (cI, 22, .inl v_faceOn)),
  (a_imageSide, .inl (cI, 32, .inl v_imageSide)),
  (a_reached, .inl (cI, 22, .inl v_reached)),
  (a_sheet, .inr (3, [.ref a_sheet_lies, .ref a_sheet_x, .ref a_sheet_y, .int v_sheet_count, .ref a_solid, .ref a_sheet_headings, .ref a_sheet_taken])),
  (a_sheet_headings, .inl (cI, 88, .inl v_sheet_headings)),
  (a_sheet_lies, .inl (cZ, 22, .inl v_sheet_lies)),
  (a_sheet_taken, .inl (cJ, 63, .inr (.inl v_sheet_taken))),
  (a_sheet_x, .inl (cI, 22, .inl v_sheet_x)),
  (a_sheet_y, .inl (cI, 22, .inl v_sheet_y)),
  (a_solid, .inr (4, [.int v_solid_cubes, .int v_solid_faces, .ref a_solid_cubeOf, .ref a_solid_lookOf, .ref a_solid_x, .ref a_solid_y, .ref a_solid_z, .ref a_solid_faceOf, .ref a_solid_beyondEdge, .ref a_solid_onwardEdge])),
  (a_solid_beyondEdge, .inl (cI, 132, .inl v_solid_beyondEdge)),
  (a_solid_lookOf, .inl (cI, 22, .inl v_solid_lookOf)),
  (a_solid_onwardEdge, .inl (cI, 132, .inl v_solid_onwardEdge))]
abbrev rm_X6_canFold : Room := { frames := 4, cells := 0, slots := 0, locals := 94 }
set_option maxHeartbeats 4000000 in
set_option maxRecDepth 100000 in
theorem c_X6_canFold (l : Launch) (D : va_G) (cI cZ cJ : ClassId) (tb : Nat → Nat) (a_this a_beside a_faceOn a_imageSide a_reached a_sheet a_sheet_headings a_sheet_lies a_sheet_taken a_sheet_x a_sheet_y a_solid a_solid_beyondEdge a_solid_lookOf a_solid_onwardEdge a_album a_solid_cubeOf a_solid_x a_solid_y a_solid_z a_solid_faceOf : Nat) (v_reachedCount : Int32) (v_beside : Nat → Int32) (v_faceOn : Nat → Int32) (v_imageSide : Nat → Int32) (v_reached : Nat → Int32) (v_sheet_count : Int32) (v_sheet_headings : Nat → Int32) (v_sheet_lies : Nat → Int32) (v_sheet_taken : Nat → Int64) (v_sheet_x : Nat → Int32) (v_sheet_y : Nat → Int32) (v_solid_cubes : Int32) (v_solid_faces : Int32) (v_solid_beyondEdge : Nat → Int32) (v_solid_lookOf : Nat → Int32) (v_solid_onwardEdge : Nat → Int32) (sz : Nat) (p1 : Int32) (p2 : Int32) {post : Int32 → Int32 → (Nat → Int32) → (Nat → Int32) → Int32 → (Nat → Int32) → (Nat → Int32) → (Nat → Int64) → (Nat → Int32) → (Nat → Int32) → Prop} (h : wp_X6_canFold v_reachedCount v_beside v_faceOn v_imageSide v_reached v_sheet_count v_sheet_headings v_sheet_lies v_sheet_taken v_sheet_x v_sheet_y v_solid_faces v_solid_beyondEdge v_solid_lookOf v_solid_onwardEdge p1 p2 post) : Met l yX6_canFold wsX6_canFold rm_X6_canFold (va_Pc [.ref a_this, .int p1, .int p2] (q_pre D cI cZ cJ tb (wd_X6_canFold cI cZ cJ a_this a_beside a_faceOn a_imageSide a_reached a_sheet a_sheet_headings a_sheet_lies a_sheet_taken a_sheet_x a_sheet_y a_solid a_solid_beyondEdge a_solid_lookOf a_solid_onwardEdge a_album a_solid_cubeOf a_solid_x a_solid_y a_solid_z a_solid_faceOf v_reachedCount v_beside v_faceOn v_imageSide v_reached v_sheet_count v_sheet_headings v_sheet_lies v_sheet_taken v_sheet_x v_sheet_y v_solid_cubes v_solid_faces v_solid_beyondEdge v_solid_lookOf v_solid_onwardEdge) sz)) (va_Qi (fun r (u : Int32 × (Nat → Int32) × (Nat → Int32) × Int32 × (Nat → Int32) × (Nat → Int32) × (Nat → Int64) × (Nat → Int32) × (Nat → Int32)) => post r u.1 u.2.1 u.2.2.1 u.2.2.2.1 u.2.2.2.2.1 u.2.2.2.2.2.1 u.2.2.2.2.2.2.1 u.2.2.2.2.2.2.2.1 u.2.2.2.2.2.2.2.2) (fun u => q_post D cI cZ cJ (va_A (wd_X6_canFold cI cZ cJ a_this a_beside a_faceOn a_imageSide a_reached a_sheet a_sheet_headings a_sheet_lies a_sheet_taken a_sheet_x a_sheet_y a_solid a_solid_beyondEdge a_solid_lookOf a_solid_onwardEdge a_album a_solid_cubeOf a_solid_x a_solid_y a_solid_z a_solid_faceOf v_reachedCount v_beside v_faceOn v_imageSide v_reached v_sheet_count v_sheet_headings v_sheet_lies v_sheet_taken v_sheet_x v_sheet_y v_solid_cubes v_solid_faces v_solid_beyondEdge v_solid_lookOf v_solid_onwardEdge) sz) (wd_X6_canFold cI cZ cJ a_this a_beside a_faceOn a_imageSide a_reached a_sheet a_sheet_headings a_sheet_lies a_sheet_taken a_sheet_x a_sheet_y a_solid a_solid_beyondEdge a_solid_lookOf a_solid_onwardEdge a_album a_solid_cubeOf a_solid_x a_solid_y a_solid_z a_solid_faceOf u.1 v_beside u.2.1 v_imageSide u.2.2.1 u.2.2.2.1 u.2.2.2.2.1 u.2.2.2.2.2.1 u.2.2.2.2.2.2.1 u.2.2.2.2.2.2.2.1 u.2.2.2.2.2.2.2.2 v_solid_cubes v_solid_faces v_solid_beyondEdge v_solid_lookOf v_solid_onwardEdge)) (va_A (wd_X6_canFold cI cZ cJ a_this a_beside a_faceOn a_imageSide a_reached a_sheet a_sheet_headings a_sheet_lies a_sheet_taken a_sheet_x a_sheet_y a_solid a_solid_beyondEdge a_solid_lookOf a_solid_onwardEdge a_album a_solid_cubeOf a_solid_x a_solid_y a_solid_z a_solid_faceOf v_reachedCount v_beside v_faceOn v_imageSide v_reached v_sheet_count v_sheet_headings v_sheet_lies v_sheet_taken v_sheet_x v_sheet_y v_solid_cubes v_solid_faces v_solid_beyondEdge v_solid_lookOf v_solid_onwardEdge) sz)) 0 0 (va_A (wd_X6_canFold cI cZ cJ a_this a_beside a_faceOn a_imageSide a_reached a_sheet a_sheet_headings a_sheet_lies a_sheet_taken a_sheet_x a_sheet_y a_solid a_solid_beyondEdge a_solid_lookOf a_solid_onwardEdge a_album a_solid_cubeOf a_solid_x a_solid_y a_solid_z a_solid_faceOf v_reachedCount v_beside v_faceOn v_imageSide v_reached v_sheet_count v_sheet_headings v_sheet_lies v_sheet_taken v_sheet_x v_sheet_y v_solid_cubes v_solid_faces v_solid_beyondEdge v_solid_lookOf v_solid_onwardEdge) sz) := by
  refine q_walkz (cc := cX6_canFold) (maxL := 5) (own := RX6) (wd := fun (u : Int32 × (Nat → Int32) × (Nat → Int32) × Int32 × (Nat → Int32) × (Nat → Int32) × (Nat → Int64) × (Nat → Int32) × (Nat → Int32)) => (wd_X6_canFold cI cZ cJ a_this a_beside a_faceOn a_imageSide a_reached a_sheet a_sheet_headings a_sheet_lies a_sheet_taken a_sheet_x a_sheet_y a_solid a_solid_beyondEdge a_solid_lookOf a_solid_onwardEdge a_album a_solid_cubeOf a_solid_x a_solid_y a_solid_z a_solid_faceOf u.1 v_beside u.2.1 v_imageSide u.2.2.1 u.2.2.2.1 u.2.2.2.2.1 u.2.2.2.2.2.1 u.2.2.2.2.2.2.1 u.2.2.2.2.2.2.2.1 u.2.2.2.2.2.2.2.2 v_solid_cubes v_solid_faces v_solid_beyondEdge v_solid_lookOf v_solid_onwardEdge)) (by decide) rfl rfl (Nat.le_of_ble_eq_true rfl) ?_
  intro p e s m below meth c Q A ls C hA ret hP hD hS hK hSt hNw hl
  obtain ⟨hx, hb, hml, hown, hts⟩ := id C
  replace hl : lv_has ls 5 [(0, .ref a_this), (1, .int p1), (2, .int p2)] := hl
  have f24 := hts (.fieldLink RX6 24 "NetSearch$Wrapping" "solid" "LNetSearch$Solid;") (by decide +kernel)
  have iX6 : ∀ w ∈ wsX60, w ∈ wsX6_canFold := by decide +kernel
  have f50 := hts (.fieldLink RX6 50 "NetSearch$Solid" "faces" "I") (by decide +kernel)
  have iX4 : ∀ w ∈ wsX40, w ∈ wsX6_canFold := by decide +kernel
  have f95 := hts (.fieldLink RX6 95 "NetSearch$Wrapping" "reachedCount" "I") (by decide +kernel)
  have f18 := hts (.fieldLink RX6 18 "NetSearch$Wrapping" "reached" "[I") (by decide +kernel)
  have L7_ok : ∀ (l2 : Int32) (kx52 : Int32 → (Nat → Int32) → (Nat → Int32) → Int32 → (Nat → Int32) → (Nat → Int32) → (Nat → Int64) → (Nat → Int32) → (Nat → Int32) → Prop) (hkx52 : ∀ (v_reachedCount : Int32) (v_faceOn : Nat → Int32) (v_reached : Nat → Int32) (v_sheet_count : Int32) (v_sheet_headings : Nat → Int32) (v_sheet_lies : Nat → Int32) (v_sheet_taken : Nat → Int64) (v_sheet_x : Nat → Int32) (v_sheet_y : Nat → Int32) (H : Heap) (locs : List Loc) (ls : Array Slot), kx52 v_reachedCount v_faceOn v_reached v_sheet_count v_sheet_headings v_sheet_lies v_sheet_taken v_sheet_x v_sheet_y → va_P D vwCl (wd_X6_canFold cI cZ cJ a_this a_beside a_faceOn a_imageSide a_reached a_sheet a_sheet_headings a_sheet_lies a_sheet_taken a_sheet_x a_sheet_y a_solid a_solid_beyondEdge a_solid_lookOf a_solid_onwardEdge a_album a_solid_cubeOf a_solid_x a_solid_y a_solid_z a_solid_faceOf v_reachedCount v_beside v_faceOn v_imageSide v_reached v_sheet_count v_sheet_headings v_sheet_lies v_sheet_taken v_sheet_x v_sheet_y v_solid_cubes v_solid_faces v_solid_beyondEdge v_solid_lookOf v_solid_onwardEdge) H → va_D A (wd_X6_canFold cI cZ cJ a_this a_beside a_faceOn a_imageSide a_reached a_sheet a_sheet_headings a_sheet_lies a_sheet_taken a_sheet_x a_sheet_y a_solid a_solid_beyondEdge a_solid_lookOf a_solid_onwardEdge a_album a_solid_cubeOf a_solid_x a_solid_y a_solid_z a_solid_faceOf v_reachedCount v_beside v_faceOn v_imageSide v_reached v_sheet_count v_sheet_headings v_sheet_lies v_sheet_taken v_sheet_x v_sheet_y v_solid_cubes v_solid_faces v_solid_beyondEdge v_solid_lookOf v_solid_onwardEdge) → va_S A s.heap H locs → lv_has ls 5 [] → W p l e rm_X6_canFold s m ([.ref a_this, .int p1, .int p2] : List Value).toArray below meth c H locs 0 0 Q (F0 m 52 ls [])) (kx60 : Int32 → (Nat → Int32) → (Nat → Int32) → Int32 → (Nat → Int32) → (Nat → Int32) → (Nat → Int64) → (Nat → Int32) → (Nat → Int32) → Prop) (hkx60 : ∀ (v_reachedCount : Int32) (v_faceOn : Nat → Int32) (v_reached : Nat → Int32) (v_sheet_count : Int32) (v_sheet_headings : Nat → Int32) (v_sheet_lies : Nat → Int32) (v_sheet_taken : Nat → Int64) (v_sheet_x : Nat → Int32) (v_sheet_y : Nat → Int32) (H : Heap) (locs : List Loc) (ls : Array Slot), kx60 v_reachedCount v_faceOn v_reached v_sheet_count v_sheet_headings v_sheet_lies v_sheet_taken v_sheet_x v_sheet_y → va_P D vwCl (wd_X6_canFold cI cZ cJ a_this a_beside a_faceOn a_imageSide a_reached a_sheet a_sheet_headings a_sheet_lies a_sheet_taken a_sheet_x a_sheet_y a_solid a_solid_beyondEdge a_solid_lookOf a_solid_onwardEdge a_album a_solid_cubeOf a_solid_x a_solid_y a_solid_z a_solid_faceOf v_reachedCount v_beside v_faceOn v_imageSide v_reached v_sheet_count v_sheet_headings v_sheet_lies v_sheet_taken v_sheet_x v_sheet_y v_solid_cubes v_solid_faces v_solid_beyondEdge v_solid_lookOf v_solid_onwardEdge) H → va_D A (wd_X6_canFold cI cZ cJ a_this a_beside a_faceOn a_imageSide a_reached a_sheet a_sheet_headings a_sheet_lies a_sheet_taken a_sheet_x a_sheet_y a_solid a_solid_beyondEdge a_solid_lookOf a_solid_onwardEdge a_album a_solid_cubeOf a_solid_x a_solid_y a_solid_z a_solid_faceOf v_reachedCount v_beside v_faceOn v_imageSide v_reached v_sheet_count v_sheet_headings v_sheet_lies v_sheet_taken v_sheet_x v_sheet_y v_solid_cubes v_solid_faces v_solid_beyondEdge v_solid_lookOf v_solid_onwardEdge) → va_S A s.heap H locs → lv_has ls 5 [] → W p l e rm_X6_canFold s m ([.ref a_this, .int p1, .int p2] : List Value).toArray below meth c H locs 0 0 Q (F0 m 60 ls [])) (n : Nat) (l3 : Int32) (v_reachedCount : Int32) (v_faceOn : Nat → Int32) (v_reached : Nat → Int32) (v_sheet_count : Int32) (v_sheet_headings : Nat → Int32) (v_sheet_lies : Nat → Int32) (v_sheet_taken : Nat → Int64) (v_sheet_x : Nat → Int32) (v_sheet_y : Nat → Int32) (H : Heap) (locs : List Loc) (ls : Array Slot), lpN (wl_X6_canFold_7 v_beside v_imageSide v_solid_faces v_solid_beyondEdge v_solid_onwardEdge l2 kx52 kx60) n (l3, v_reachedCount, v_faceOn, v_reached, v_sheet_count, v_sheet_headings, v_sheet_lies, v_sheet_taken, v_sheet_x, v_sheet_y) → va_P D vwCl (wd_X6_canFold cI cZ cJ a_this a_beside a_faceOn a_imageSide a_reached a_sheet a_sheet_headings a_sheet_lies a_sheet_taken a_sheet_x a_sheet_y a_solid a_solid_beyondEdge a_solid_lookOf a_solid_onwardEdge a_album a_solid_cubeOf a_solid_x a_solid_y a_solid_z a_solid_faceOf v_reachedCount v_beside v_faceOn v_imageSide v_reached v_sheet_count v_sheet_headings v_sheet_lies v_sheet_taken v_sheet_x v_sheet_y v_solid_cubes v_solid_faces v_solid_beyondEdge v_solid_lookOf v_solid_onwardEdge) H → va_D A (wd_X6_canFold cI cZ cJ a_this a_beside a_faceOn a_imageSide a_reached a_sheet a_sheet_headings a_sheet_lies a_sheet_taken a_sheet_x a_sheet_y a_solid a_solid_beyondEdge a_solid_lookOf a_solid_onwardEdge a_album a_solid_cubeOf a_solid_x a_solid_y a_solid_z a_solid_faceOf v_reachedCount v_beside v_faceOn v_imageSide v_reached v_sheet_count v_sheet_headings v_sheet_lies v_sheet_taken v_sheet_x v_sheet_y v_solid_cubes v_solid_faces v_solid_beyondEdge v_solid_lookOf v_solid_onwardEdge) → va_S A s.heap H locs → lv_has ls 5 [(0, .ref a_this), (2, .int l2), (3, .int l3)] → W p l e rm_X6_canFold s m ([.ref a_this, .int p1, .int p2] : List Value).toArray below meth c H locs 0 0 Q (F0 m 7 ls []) := by
    intro l2 kx52 hkx52 kx60 hkx60 n
    induction n with
    | zero => intro l3 v_reachedCount v_faceOn v_reached v_sheet_count v_sheet_headings v_sheet_lies v_sheet_taken v_sheet_x v_sheet_y H locs ls h; exact False.elim h
    | succ n ih =>
      intro l3 v_reachedCount v_faceOn v_reached v_sheet_count v_sheet_headings v_sheet_lies v_sheet_taken v_sheet_x v_sheet_y H locs ls h hP hD hS hl
      have h : wb_X6_canFold_7 v_beside v_imageSide v_solid_faces v_solid_beyondEdge v_solid_onwardEdge l2 kx52 kx60 (fun l3 v_reachedCount v_faceOn v_reached v_sheet_count v_sheet_headings v_sheet_lies v_sheet_taken v_sheet_x v_sheet_y => lpN (wl_X6_canFold_7 v_beside v_imageSide v_solid_faces v_solid_beyondEdge v_solid_onwardEdge l2 kx52 kx60) n (l3, v_reachedCount, v_faceOn, v_reached, v_sheet_count, v_sheet_headings, v_sheet_lies, v_sheet_taken, v_sheet_x, v_sheet_y)) l3 v_reachedCount v_faceOn v_reached v_sheet_count v_sheet_headings v_sheet_lies v_sheet_taken v_sheet_x v_sheet_y := h
      unfold wb_X6_canFold_7 at h
      refine lv_iload_n hx hb dX6_canFold_7 rfl (lv_at hl 2 rfl) ?_
      refine lv_aload_n hx hb dX6_canFold_8 rfl (lv_at hl 0 rfl) ?_
      refine va_get (D := D) (ci := 6) (v := .ref a_solid) (C := RX6) (T := TX6) (N := 8) hx hb hts iX6 hown hK hP 0 rfl rfl 0 (by decide) f24 (fun _ h9 => h9) rfl dX6_canFold_9 ?_
      refine va_get (D := D) (ci := 4) (v := .int v_solid_faces) (C := RX4) (T := TX4) (N := 10) hx hb hts iX4 hown hK hP 11 rfl rfl 1 (by decide) f50 (fun _ h9 => h9) rfl dX6_canFold_12 ?_
      refine lv_iconst (v := 4) hx hb dX6_canFold_15 (by decide) ?_
      refine lv_imul hx hb dX6_canFold_16 ?_
      refine lv_icmp_ge (tgt := 60) hx hb dX6_canFold_17 (by decide) (fun hc => ?_) (fun hc => ?_)
      · replace h := h.1 hc
        exact hkx60 v_reachedCount v_faceOn v_reached v_sheet_count v_sheet_headings v_sheet_lies v_sheet_taken v_sheet_x v_sheet_y _ _ _ h hP hD hS (lv_sub hl [] rfl)
      · replace h := h.2 hc
        refine lv_iload_n hx hb dX6_canFold_20 rfl (lv_at hl 2 rfl) ?_
        refine lv_iconst (v := 4) hx hb dX6_canFold_21 (by decide) ?_
        refine lv_idiv hx hb dX6_canFold_22 (by decide) ?_
        refine lv_istore (lv' := [(4, .int (l3 / (4 : Int32))), (0, .ref a_this), (2, .int l2), (3, .int l3)]) hx hb dX6_canFold_23 hl (by decide) rfl (fun ls hl => ?_)
        refine lv_iload hx hb dX6_canFold_25 (lv_at hl 0 rfl) ?_
        refine lv_aload_n hx hb dX6_canFold_27 rfl (lv_at hl 1 rfl) ?_
        refine va_get (D := D) (ci := 6) (v := .int v_reachedCount) (C := RX6) (T := TX6) (N := 8) hx hb hts iX6 hown hK hP 0 rfl rfl 7 (by decide) f95 (fun _ h9 => h9) rfl dX6_canFold_28 ?_
        refine lv_icmp_ge (tgt := 52) hx hb dX6_canFold_31 (by decide) (fun hc => ?_) (fun hc => ?_)
        · replace h := h.1 hc
          exact hkx52 v_reachedCount v_faceOn v_reached v_sheet_count v_sheet_headings v_sheet_lies v_sheet_taken v_sheet_x v_sheet_y _ _ _ h hP hD hS (lv_sub hl [] rfl)
        · replace h := h.2 hc
          refine lv_aload_n hx hb dX6_canFold_34 rfl (lv_at hl 1 rfl) ?_
          refine lv_aload_n hx hb dX6_canFold_35 rfl (lv_at hl 1 rfl) ?_
          refine va_get (D := D) (ci := 6) (v := .ref a_reached) (C := RX6) (T := TX6) (N := 8) hx hb hts iX6 hown hK hP 0 rfl rfl 5 (by decide) f18 (fun _ h9 => h9) rfl dX6_canFold_36 ?_
          refine lv_iload hx hb dX6_canFold_39 (lv_at hl 0 rfl) ?_
          obtain ⟨hin, h⟩ := h
          refine va_iald hx hb hK hP 4 0 rfl rfl hin dX6_canFold_41 ?_
          refine lv_iload_n hx hb dX6_canFold_42 rfl (lv_at hl 3 rfl) ?_
          refine lv_iconst (v := 4) hx hb dX6_canFold_43 (by decide) ?_
          refine lv_irem hx hb dX6_canFold_44 (by decide) ?_
          refine lv_iload_n hx hb dX6_canFold_45 rfl (lv_at hl 2 rfl) ?_
          have hPc := hP.sub (ws' := (wd_X6_canFoldOver cI cZ cJ a_this a_beside a_faceOn a_imageSide a_reached a_sheet a_sheet_headings a_sheet_lies a_sheet_taken a_sheet_x a_sheet_y a_solid a_solid_beyondEdge a_solid_onwardEdge a_album a_solid_cubeOf a_solid_lookOf a_solid_x a_solid_y a_solid_z a_solid_faceOf v_reachedCount v_beside v_faceOn v_imageSide v_reached v_sheet_count v_sheet_headings v_sheet_lies v_sheet_taken v_sheet_x v_sheet_y v_solid_cubes v_solid_faces v_solid_beyondEdge v_solid_onwardEdge)) [0, 1, 2, 3, 4, 5, 6, 7, 8, 9, 10, 11, 12, 14] rfl
          have hDc := hD.sub (ws' := (wd_X6_canFoldOver cI cZ cJ a_this a_beside a_faceOn a_imageSide a_reached a_sheet a_sheet_headings a_sheet_lies a_sheet_taken a_sheet_x a_sheet_y a_solid a_solid_beyondEdge a_solid_onwardEdge a_album a_solid_cubeOf a_solid_lookOf a_solid_x a_solid_y a_solid_z a_solid_faceOf v_reachedCount v_beside v_faceOn v_imageSide v_reached v_sheet_count v_sheet_headings v_sheet_lies v_sheet_taken v_sheet_x v_sheet_y v_solid_cubes v_solid_faces v_solid_beyondEdge v_solid_onwardEdge)) [0, 1, 2, 3, 4, 5, 6, 7, 8, 9, 10, 11, 12, 14] (by decide) rfl
          have hFc := va_free (wc := (wd_X6_canFoldOver cI cZ cJ a_this a_beside a_faceOn a_imageSide a_reached a_sheet a_sheet_headings a_sheet_lies a_sheet_taken a_sheet_x a_sheet_y a_solid a_solid_beyondEdge a_solid_onwardEdge a_album a_solid_cubeOf a_solid_lookOf a_solid_x a_solid_y a_solid_z a_solid_faceOf v_reachedCount v_beside v_faceOn v_imageSide v_reached v_sheet_count v_sheet_headings v_sheet_lies v_sheet_taken v_sheet_x v_sheet_y v_solid_cubes v_solid_faces v_solid_beyondEdge v_solid_onwardEdge)) hD hS hA [0, 1, 2, 3, 4, 5, 6, 7, 8, 9, 10, 11, 12, 14] rfl
          refine va_calli (va_runV (As := [.int (v_reached (l3 / (4 : Int32)).toNatClampNeg), .int (l3 - l3 / (4 : Int32) * (4 : Int32)), .int l2]) (rest := []) C (c_X6_canFoldOver l D cI cZ cJ tb a_this a_beside a_faceOn a_imageSide a_reached a_sheet a_sheet_headings a_sheet_lies a_sheet_taken a_sheet_x a_sheet_y a_solid a_solid_beyondEdge a_solid_onwardEdge a_album a_solid_cubeOf a_solid_lookOf a_solid_x a_solid_y a_solid_z a_solid_faceOf v_reachedCount v_beside v_faceOn v_imageSide v_reached v_sheet_count v_sheet_headings v_sheet_lies v_sheet_taken v_sheet_x v_sheet_y v_solid_cubes v_solid_faces v_solid_beyondEdge v_solid_onwardEdge H.size (v_reached (l3 / (4 : Int32)).toNatClampNeg) (l3 - l3 / (4 : Int32) * (4 : Int32)) l2 h) (cwV 3 hts gX6_canFold_X6_canFoldOver rfl rfl rfl (by decide +kernel) ⟨Nat.le_of_ble_eq_true rfl, Nat.le_of_ble_eq_true rfl⟩) ⟨q_pre.blind, va_recv hK hP (ci := 6) (q0 := 0) rfl rfl, fun U hU hW => ⟨rfl, q_pre.of hU hW hPc hK hDc hSt hS hFc hNw⟩⟩ rfl rfl hl.1 rfl (lv_room (Nat.le_of_ble_eq_true rfl)) dX6_canFold_46 ⟨Nat.zero_le _, Nat.zero_le _⟩) hS (fun q _ h => hFc q h) hFc (fun r_1 u_2 t H1 locs ht hvm hw hB hz1 hk1 hS => ?_)
          obtain ⟨hP1, hK1, hD1⟩ := hB
          rw [ht] at hP1
          obtain ⟨hP, hD⟩ := va_join (wr := [(a_solid_lookOf, .inl (cI, 22, .inl v_solid_lookOf))]) (w1 := (wd_X6_canFoldOver cI cZ cJ a_this a_beside a_faceOn a_imageSide a_reached a_sheet a_sheet_headings a_sheet_lies a_sheet_taken a_sheet_x a_sheet_y a_solid a_solid_beyondEdge a_solid_onwardEdge a_album a_solid_cubeOf a_solid_lookOf a_solid_x a_solid_y a_solid_z a_solid_faceOf u_2.1 v_beside u_2.2.1 v_imageSide u_2.2.2.1 u_2.2.2.2.1 u_2.2.2.2.2.1 u_2.2.2.2.2.2.1 u_2.2.2.2.2.2.2.1 u_2.2.2.2.2.2.2.2.1 u_2.2.2.2.2.2.2.2.2 v_solid_cubes v_solid_faces v_solid_beyondEdge v_solid_onwardEdge)) hP hD [0, 1, 2, 3, 4, 5, 6, 7, 8, 9, 10, 11, 12, 14] [13] rfl rfl (by decide) (by decide) hk1 hFc hP1 hD1
          clear hPc hDc hFc hP1 hD1 hK1 hk1 hz1 ht hvm
          replace h := hw
          clear hw
          generalize H1 = H at hP hS ⊢
          replace hP : va_P D vwCl (wd_X6_canFold cI cZ cJ a_this a_beside a_faceOn a_imageSide a_reached a_sheet a_sheet_headings a_sheet_lies a_sheet_taken a_sheet_x a_sheet_y a_solid a_solid_beyondEdge a_solid_lookOf a_solid_onwardEdge a_album a_solid_cubeOf a_solid_x a_solid_y a_solid_z a_solid_faceOf u_2.1 v_beside u_2.2.1 v_imageSide u_2.2.2.1 u_2.2.2.2.1 u_2.2.2.2.2.1 u_2.2.2.2.2.2.1 u_2.2.2.2.2.2.2.1 u_2.2.2.2.2.2.2.2.1 u_2.2.2.2.2.2.2.2.2 v_solid_cubes v_solid_faces v_solid_beyondEdge v_solid_lookOf v_solid_onwardEdge) H := hP.sub [1, 2, 3, 4, 5, 6, 7, 8, 9, 10, 11, 12, 13, 0, 14] rfl
          replace hD : va_D A (wd_X6_canFold cI cZ cJ a_this a_beside a_faceOn a_imageSide a_reached a_sheet a_sheet_headings a_sheet_lies a_sheet_taken a_sheet_x a_sheet_y a_solid a_solid_beyondEdge a_solid_lookOf a_solid_onwardEdge a_album a_solid_cubeOf a_solid_x a_solid_y a_solid_z a_solid_faceOf u_2.1 v_beside u_2.2.1 v_imageSide u_2.2.2.1 u_2.2.2.2.1 u_2.2.2.2.2.1 u_2.2.2.2.2.2.1 u_2.2.2.2.2.2.2.1 u_2.2.2.2.2.2.2.2.1 u_2.2.2.2.2.2.2.2.2 v_solid_cubes v_solid_faces v_solid_beyondEdge v_solid_lookOf v_solid_onwardEdge) := hD.sub [1, 2, 3, 4, 5, 6, 7, 8, 9, 10, 11, 12, 13, 0, 14] (by decide) rfl
          refine lv_if_ne (tgt := 54) hx hb dX6_canFold_49 (by decide) (fun hc => ?_) (fun hc => ?_)
          · replace h := h.1 hc
            refine lv_iinc (v := (l3 + (1 : Int32))) (lv' := [(3, .int (l3 + (1 : Int32))), (4, .int (l3 / (4 : Int32))), (0, .ref a_this), (2, .int l2)]) hx hb dX6_canFold_54 hl (k := 3) rfl rfl (by decide) rfl (fun ls hl => ?_)
            refine lv_goto (tgt := 7) hx hb dX6_canFold_57 (by decide) ?_
            exact ih (l3 + (1 : Int32)) u_2.1 u_2.2.1 u_2.2.2.1 u_2.2.2.2.1 u_2.2.2.2.2.1 u_2.2.2.2.2.2.1 u_2.2.2.2.2.2.2.1 u_2.2.2.2.2.2.2.2.1 u_2.2.2.2.2.2.2.2.2 _ _ _ h hP hD hS (lv_sub hl [2, 3, 0] rfl)
          · replace h := h.2 hc
            exact hkx52 u_2.1 u_2.2.1 u_2.2.2.1 u_2.2.2.2.1 u_2.2.2.2.2.1 u_2.2.2.2.2.2.1 u_2.2.2.2.2.2.2.1 u_2.2.2.2.2.2.2.2.1 u_2.2.2.2.2.2.2.2.2 _ _ _ h hP hD hS (lv_sub hl [] rfl)
  unfold wp_X6_canFold at h
  refine lv_aload_n hx hb dX6_canFold_0 rfl (lv_at hl 0 rfl) ?_
  refine lv_iload_n hx hb dX6_canFold_1 rfl (lv_at hl 1 rfl) ?_
  have hPc := hP.sub (ws' := (wd_X6_beginAt cI cZ cJ a_this a_faceOn a_reached a_sheet a_sheet_headings a_sheet_lies a_sheet_taken a_sheet_x a_sheet_y a_solid a_solid_lookOf a_album a_imageSide a_beside a_solid_cubeOf a_solid_x a_solid_y a_solid_z a_solid_faceOf a_solid_beyondEdge a_solid_onwardEdge v_reachedCount v_faceOn v_reached v_sheet_count v_sheet_headings v_sheet_lies v_sheet_taken v_sheet_x v_sheet_y v_solid_cubes v_solid_faces v_solid_lookOf)) [0, 2, 4, 5, 6, 7, 8, 9, 10, 11, 13] rfl
  have hDc := hD.sub (ws' := (wd_X6_beginAt cI cZ cJ a_this a_faceOn a_reached a_sheet a_sheet_headings a_sheet_lies a_sheet_taken a_sheet_x a_sheet_y a_solid a_solid_lookOf a_album a_imageSide a_beside a_solid_cubeOf a_solid_x a_solid_y a_solid_z a_solid_faceOf a_solid_beyondEdge a_solid_onwardEdge v_reachedCount v_faceOn v_reached v_sheet_count v_sheet_headings v_sheet_lies v_sheet_taken v_sheet_x v_sheet_y v_solid_cubes v_solid_faces v_solid_lookOf)) [0, 2, 4, 5, 6, 7, 8, 9, 10, 11, 13] (by decide) rfl
  have hFc := va_free (wc := (wd_X6_beginAt cI cZ cJ a_this a_faceOn a_reached a_sheet a_sheet_headings a_sheet_lies a_sheet_taken a_sheet_x a_sheet_y a_solid a_solid_lookOf a_album a_imageSide a_beside a_solid_cubeOf a_solid_x a_solid_y a_solid_z a_solid_faceOf a_solid_beyondEdge a_solid_onwardEdge v_reachedCount v_faceOn v_reached v_sheet_count v_sheet_headings v_sheet_lies v_sheet_taken v_sheet_x v_sheet_y v_solid_cubes v_solid_faces v_solid_lookOf)) hD hS hA [0, 2, 4, 5, 6, 7, 8, 9, 10, 11, 13] rfl
  refine va_callv (va_runV (As := [.int p1]) (rest := []) C (c_X6_beginAt l D cI cZ cJ tb a_this a_faceOn a_reached a_sheet a_sheet_headings a_sheet_lies a_sheet_taken a_sheet_x a_sheet_y a_solid a_solid_lookOf a_album a_imageSide a_beside a_solid_cubeOf a_solid_x a_solid_y a_solid_z a_solid_faceOf a_solid_beyondEdge a_solid_onwardEdge v_reachedCount v_faceOn v_reached v_sheet_count v_sheet_headings v_sheet_lies v_sheet_taken v_sheet_x v_sheet_y v_solid_cubes v_solid_faces v_solid_lookOf s.heap.size p1 h) (cwV 1 hts gX6_canFold_X6_beginAt rfl rfl rfl (by decide +kernel) ⟨Nat.le_of_ble_eq_true rfl, Nat.le_of_ble_eq_true rfl⟩) ⟨q_pre.blind, va_recv hK hP (ci := 6) (q0 := 0) rfl rfl, fun U hU hW => ⟨rfl, q_pre.of hU hW hPc hK hDc hSt hS hFc hNw⟩⟩ rfl rfl hl.1 rfl (lv_room (Nat.le_of_ble_eq_true rfl)) dX6_canFold_2 ⟨Nat.zero_le _, Nat.zero_le _⟩) hS (fun q _ h => hFc q h) hFc (fun u_13 t H1 locs ht hvm hw hB hz1 hk1 hS => ?_)
  obtain ⟨hP1, hK1, hD1⟩ := hB
  rw [ht] at hP1
  obtain ⟨hP, hD⟩ := va_join (wr := [(a_beside, .inl (cI, 88, .inl v_beside)), (a_imageSide, .inl (cI, 32, .inl v_imageSide)), (a_solid_beyondEdge, .inl (cI, 132, .inl v_solid_beyondEdge)), (a_solid_onwardEdge, .inl (cI, 132, .inl v_solid_onwardEdge))]) (w1 := (wd_X6_beginAt cI cZ cJ a_this a_faceOn a_reached a_sheet a_sheet_headings a_sheet_lies a_sheet_taken a_sheet_x a_sheet_y a_solid a_solid_lookOf a_album a_imageSide a_beside a_solid_cubeOf a_solid_x a_solid_y a_solid_z a_solid_faceOf a_solid_beyondEdge a_solid_onwardEdge u_13.1 u_13.2.1 u_13.2.2.1 u_13.2.2.2.1 u_13.2.2.2.2.1 u_13.2.2.2.2.2.1 u_13.2.2.2.2.2.2.1 u_13.2.2.2.2.2.2.2.1 u_13.2.2.2.2.2.2.2.2 v_solid_cubes v_solid_faces v_solid_lookOf)) hP hD [0, 2, 4, 5, 6, 7, 8, 9, 10, 11, 13] [1, 3, 12, 14] rfl rfl (by decide) (by decide) hk1 hFc hP1 hD1
  clear hPc hDc hFc hP1 hD1 hK1 hk1 hz1 ht hvm
  replace h := hw
  clear hw
  generalize H1 = H at hP hS ⊢
  replace hP : va_P D vwCl (wd_X6_canFold cI cZ cJ a_this a_beside a_faceOn a_imageSide a_reached a_sheet a_sheet_headings a_sheet_lies a_sheet_taken a_sheet_x a_sheet_y a_solid a_solid_beyondEdge a_solid_lookOf a_solid_onwardEdge a_album a_solid_cubeOf a_solid_x a_solid_y a_solid_z a_solid_faceOf u_13.1 v_beside u_13.2.1 v_imageSide u_13.2.2.1 u_13.2.2.2.1 u_13.2.2.2.2.1 u_13.2.2.2.2.2.1 u_13.2.2.2.2.2.2.1 u_13.2.2.2.2.2.2.2.1 u_13.2.2.2.2.2.2.2.2 v_solid_cubes v_solid_faces v_solid_beyondEdge v_solid_lookOf v_solid_onwardEdge) H := hP.sub [4, 0, 5, 1, 6, 7, 8, 9, 10, 11, 12, 13, 2, 14, 3] rfl
  replace hD : va_D A (wd_X6_canFold cI cZ cJ a_this a_beside a_faceOn a_imageSide a_reached a_sheet a_sheet_headings a_sheet_lies a_sheet_taken a_sheet_x a_sheet_y a_solid a_solid_beyondEdge a_solid_lookOf a_solid_onwardEdge a_album a_solid_cubeOf a_solid_x a_solid_y a_solid_z a_solid_faceOf u_13.1 v_beside u_13.2.1 v_imageSide u_13.2.2.1 u_13.2.2.2.1 u_13.2.2.2.2.1 u_13.2.2.2.2.2.1 u_13.2.2.2.2.2.2.1 u_13.2.2.2.2.2.2.2.1 u_13.2.2.2.2.2.2.2.2 v_solid_cubes v_solid_faces v_solid_beyondEdge v_solid_lookOf v_solid_onwardEdge) := hD.sub [4, 0, 5, 1, 6, 7, 8, 9, 10, 11, 12, 13, 2, 14, 3] (by decide) rfl
  refine lv_iconst (v := 0) hx hb dX6_canFold_5 (by decide) ?_
  refine lv_istore_n (lv' := [(3, .int (0 : Int32)), (0, .ref a_this), (1, .int p1), (2, .int p2)]) hx hb dX6_canFold_6 rfl hl (by decide) rfl (fun ls hl => ?_)
  obtain ⟨n, h⟩ := h
  refine L7_ok p2 _ (fun v_reachedCount_23 v_faceOn_24 v_reached_25 v_sheet_count_26 v_sheet_headings_27 v_sheet_lies_28 v_sheet_taken_29 v_sheet_x_30 v_sheet_y_31 H locs ls h hP hD hS hl => ?_) _ (fun v_reachedCount_32 v_faceOn_33 v_reached_34 v_sheet_count_35 v_sheet_headings_36 v_sheet_lies_37 v_sheet_taken_38 v_sheet_x_39 v_sheet_y_40 H locs ls h hP hD hS hl => ?_) n (0 : Int32) u_13.1 u_13.2.1 u_13.2.2.1 u_13.2.2.2.1 u_13.2.2.2.2.1 u_13.2.2.2.2.2.1 u_13.2.2.2.2.2.2.1 u_13.2.2.2.2.2.2.2.1 u_13.2.2.2.2.2.2.2.2 _ _ _ h hP hD hS (lv_sub hl [1, 3, 0] rfl)
  · refine lv_iconst (v := 0) hx hb dX6_canFold_52 (by decide) ?_
    exact ret (0 : Int32) (v_reachedCount_23, v_faceOn_24, v_reached_25, v_sheet_count_26, v_sheet_headings_27, v_sheet_lies_28, v_sheet_taken_29, v_sheet_x_30, v_sheet_y_31) _ _ _ 53 dX6_canFold_53 ⟨by decide, h⟩ hP hD hS
  · refine lv_iconst (v := 1) hx hb dX6_canFold_60 (by decide) ?_
    exact ret (1 : Int32) (v_reachedCount_32, v_faceOn_33, v_reached_34, v_sheet_count_35, v_sheet_headings_36, v_sheet_lies_37, v_sheet_taken_38, v_sheet_x_39, v_sheet_y_40) _ _ _ 61 dX6_canFold_61 ⟨by decide, h⟩ hP hD hS
def wd_X6_findNeighbours (cI cZ cJ : ClassId) (a_this a_album a_album_numbers a_album_places a_beside a_solid a_sheet a_imageSide a_reached a_faceOn a_album_imageX a_album_imageY a_album_image a_album_leastImage a_solid_cubeOf a_solid_lookOf a_solid_x a_solid_y a_solid_z a_solid_faceOf a_solid_beyondEdge a_solid_onwardEdge : Nat) (v_reachedCount : Int32) (v_album_count : Int32) (v_album_numbers : Nat → Int32) (v_album_places : Nat → Int32) (v_beside : Nat → Int32) (v_solid_cubes : Int32) (v_solid_faces : Int32) : va_W := [(a_this, .inr (6, [.ref a_solid, .ref a_album, .ref a_sheet, .ref a_imageSide, .ref a_beside, .ref a_reached, .ref a_faceOn, .int v_reachedCount])),
  (a_album, .inr (0, [.int v_album_count, .ref a_album_places, .ref a_album_numbers, .ref a_album_imageX, .ref a_album_imageY, .ref a_album_image, .ref a_album_leastImage])),
  (a_album_numbers, .inl (cI, 1408, .inl v_album_numbers)),
  (a_album_places, .inl (cI, 64, .inl v_album_places)),
  (a_beside, .inl (cI, 88, .inl v_beside)),
  (a_solid, .inr (4, [.int v_solid_cubes, .int v_solid_faces, .ref a_solid_cubeOf, .ref a_solid_lookOf, .ref a_solid_x, .ref a_solid_y, .ref a_solid_z, .ref a_solid_faceOf, .ref a_solid_beyondEdge, .ref a_solid_onwardEdge]))]
abbrev rm_X6_findNeighbours : Room := { frames := 2, cells := 0, slots := 0, locals := 46 }
set_option maxHeartbeats 4000000 in
set_option maxRecDepth 100000 in
theorem c_X6_findNeighbours (l : Launch) (D : va_G) (cI cZ cJ : ClassId) (tb : Nat → Nat) (a_this a_album a_album_numbers a_album_places a_beside a_solid a_sheet a_imageSide a_reached a_faceOn a_album_imageX a_album_imageY a_album_image a_album_leastImage a_solid_cubeOf a_solid_lookOf a_solid_x a_solid_y a_solid_z a_solid_faceOf a_solid_beyondEdge a_solid_onwardEdge : Nat) (v_reachedCount : Int32) (v_album_count : Int32) (v_album_numbers : Nat → Int32) (v_album_places : Nat → Int32) (v_beside : Nat → Int32) (v_solid_cubes : Int32) (v_solid_faces : Int32) (sz : Nat) (p1 : Int32) {post : (Nat → Int32) → Prop} (h : wp_X6_findNeighbours v_album_numbers v_album_places v_beside v_solid_faces p1 post) : Met l yX6_findNeighbours wsX6_findNeighbours rm_X6_findNeighbours (va_Pc [.ref a_this, .int p1] (q_pre D cI cZ cJ tb (wd_X6_findNeighbours cI cZ cJ a_this a_album a_album_numbers a_album_places a_beside a_solid a_sheet a_imageSide a_reached a_faceOn a_album_imageX a_album_imageY a_album_image a_album_leastImage a_solid_cubeOf a_solid_lookOf a_solid_x a_solid_y a_solid_z a_solid_faceOf a_solid_beyondEdge a_solid_onwardEdge v_reachedCount v_album_count v_album_numbers v_album_places v_beside v_solid_cubes v_solid_faces) sz)) (va_Qv (fun (u : Nat → Int32) => post u) (fun u => q_post D cI cZ cJ (va_A (wd_X6_findNeighbours cI cZ cJ a_this a_album a_album_numbers a_album_places a_beside a_solid a_sheet a_imageSide a_reached a_faceOn a_album_imageX a_album_imageY a_album_image a_album_leastImage a_solid_cubeOf a_solid_lookOf a_solid_x a_solid_y a_solid_z a_solid_faceOf a_solid_beyondEdge a_solid_onwardEdge v_reachedCount v_album_count v_album_numbers v_album_places v_beside v_solid_cubes v_solid_faces) sz) (wd_X6_findNeighbours cI cZ cJ a_this a_album a_album_numbers a_album_places a_beside a_solid a_sheet a_imageSide a_reached a_faceOn a_album_imageX a_album_imageY a_album_image a_album_leastImage a_solid_cubeOf a_solid_lookOf a_solid_x a_solid_y a_solid_z a_solid_faceOf a_solid_beyondEdge a_solid_onwardEdge v_reachedCount v_album_count v_album_numbers v_album_places u v_solid_cubes v_solid_faces)) (va_A (wd_X6_findNeighbours cI cZ cJ a_this a_album a_album_numbers a_album_places a_beside a_solid a_sheet a_imageSide a_reached a_faceOn a_album_imageX a_album_imageY a_album_image a_album_leastImage a_solid_cubeOf a_solid_lookOf a_solid_x a_solid_y a_solid_z a_solid_faceOf a_solid_beyondEdge a_solid_onwardEdge v_reachedCount v_album_count v_album_numbers v_album_places v_beside v_solid_cubes v_solid_faces) sz)) 0 0 (va_A (wd_X6_findNeighbours cI cZ cJ a_this a_album a_album_numbers a_album_places a_beside a_solid a_sheet a_imageSide a_reached a_faceOn a_album_imageX a_album_imageY a_album_image a_album_leastImage a_solid_cubeOf a_solid_lookOf a_solid_x a_solid_y a_solid_z a_solid_faceOf a_solid_beyondEdge a_solid_onwardEdge v_reachedCount v_album_count v_album_numbers v_album_places v_beside v_solid_cubes v_solid_faces) sz) := by
  refine q_walkv (cc := cX6_findNeighbours) (maxL := 6) (own := RX6) (wd := fun (u : Nat → Int32) => (wd_X6_findNeighbours cI cZ cJ a_this a_album a_album_numbers a_album_places a_beside a_solid a_sheet a_imageSide a_reached a_faceOn a_album_imageX a_album_imageY a_album_image a_album_leastImage a_solid_cubeOf a_solid_lookOf a_solid_x a_solid_y a_solid_z a_solid_faceOf a_solid_beyondEdge a_solid_onwardEdge v_reachedCount v_album_count v_album_numbers v_album_places u v_solid_cubes v_solid_faces)) (by decide) rfl rfl (Nat.le_of_ble_eq_true rfl) ?_
  intro p e s m below meth c Q A ls C hA ret hP hD hS hK hSt hNw hl
  obtain ⟨hx, hb, hml, hown, hts⟩ := id C
  replace hl : lv_has ls 6 [(0, .ref a_this), (1, .int p1)] := hl
  have f15 := hts (.fieldLink RX6 15 "NetSearch$Wrapping" "beside" "[I") (by decide +kernel)
  have iX6 : ∀ w ∈ wsX60, w ∈ wsX6_findNeighbours := by decide +kernel
  have f28 := hts (.fieldLink RX6 28 "NetSearch$Wrapping" "album" "LNetSearch$Album;") (by decide +kernel)
  have hZ5 : va_Z "NetSearch" "SIDE_X" "[I" (.ref (tb 5)) A s s.heap := (hSt 5 (by decide)).1
  have hT5 : va_T .int (tb 5) 4 (fun j => .int (q_SIDE_X j)) A s s.heap := (hSt 5 (by decide)).2
  have g67 : (Cond.fieldLinkNest RX6 67 "NetSearch" "SIDE_X" "[I" "NetSearch").before ([.ref a_this, .int p1] : List Value).toArray s = true := va_Nw.use rfl (hNw.1 (RX6, 67, "NetSearch", "SIDE_X", "[I", "NetSearch") (by decide +kernel))
  have hZ6 : va_Z "NetSearch" "SIDE_Y" "[I" (.ref (tb 6)) A s s.heap := (hSt 6 (by decide)).1
  have hT6 : va_T .int (tb 6) 4 (fun j => .int (q_SIDE_Y j)) A s s.heap := (hSt 6 (by decide)).2
  have g73 : (Cond.fieldLinkNest RX6 73 "NetSearch" "SIDE_Y" "[I" "NetSearch").before ([.ref a_this, .int p1] : List Value).toArray s = true := va_Nw.use rfl (hNw.1 (RX6, 73, "NetSearch", "SIDE_Y", "[I", "NetSearch") (by decide +kernel))
  have f24 := hts (.fieldLink RX6 24 "NetSearch$Wrapping" "solid" "LNetSearch$Solid;") (by decide +kernel)
  have f50 := hts (.fieldLink RX6 50 "NetSearch$Solid" "faces" "I") (by decide +kernel)
  have iX4 : ∀ w ∈ wsX40, w ∈ wsX6_findNeighbours := by decide +kernel
  have L37_ok : ∀ (l1 : Int32) (l2 : Int32) (l3 : Int32) (l4 : Int32) (kx85 : (Nat → Int32) → Prop) (hkx85 : ∀ (v_beside : Nat → Int32) (H : Heap) (locs : List Loc) (ls : Array Slot), kx85 v_beside → va_P D vwCl (wd_X6_findNeighbours cI cZ cJ a_this a_album a_album_numbers a_album_places a_beside a_solid a_sheet a_imageSide a_reached a_faceOn a_album_imageX a_album_imageY a_album_image a_album_leastImage a_solid_cubeOf a_solid_lookOf a_solid_x a_solid_y a_solid_z a_solid_faceOf a_solid_beyondEdge a_solid_onwardEdge v_reachedCount v_album_count v_album_numbers v_album_places v_beside v_solid_cubes v_solid_faces) H → va_D A (wd_X6_findNeighbours cI cZ cJ a_this a_album a_album_numbers a_album_places a_beside a_solid a_sheet a_imageSide a_reached a_faceOn a_album_imageX a_album_imageY a_album_image a_album_leastImage a_solid_cubeOf a_solid_lookOf a_solid_x a_solid_y a_solid_z a_solid_faceOf a_solid_beyondEdge a_solid_onwardEdge v_reachedCount v_album_count v_album_numbers v_album_places v_beside v_solid_cubes v_solid_faces) → va_S A s.heap H locs → lv_has ls 6 [(0, .ref a_this), (1, .int l1), (2, .int l2)] → W p l e rm_X6_findNeighbours s m ([.ref a_this, .int p1] : List Value).toArray below meth c H locs 0 0 Q (F0 m 85 ls [])) (n : Nat) (l5 : Int32) (v_beside : Nat → Int32) (H : Heap) (locs : List Loc) (ls : Array Slot), lpN (wl_X6_findNeighbours_37 v_album_numbers v_album_places l1 l2 l3 l4 kx85) n (l5, v_beside) → va_P D vwCl (wd_X6_findNeighbours cI cZ cJ a_this a_album a_album_numbers a_album_places a_beside a_solid a_sheet a_imageSide a_reached a_faceOn a_album_imageX a_album_imageY a_album_image a_album_leastImage a_solid_cubeOf a_solid_lookOf a_solid_x a_solid_y a_solid_z a_solid_faceOf a_solid_beyondEdge a_solid_onwardEdge v_reachedCount v_album_count v_album_numbers v_album_places v_beside v_solid_cubes v_solid_faces) H → va_D A (wd_X6_findNeighbours cI cZ cJ a_this a_album a_album_numbers a_album_places a_beside a_solid a_sheet a_imageSide a_reached a_faceOn a_album_imageX a_album_imageY a_album_image a_album_leastImage a_solid_cubeOf a_solid_lookOf a_solid_x a_solid_y a_solid_z a_solid_faceOf a_solid_beyondEdge a_solid_onwardEdge v_reachedCount v_album_count v_album_numbers v_album_places v_beside v_solid_cubes v_solid_faces) → va_S A s.heap H locs → lv_has ls 6 [(0, .ref a_this), (1, .int l1), (2, .int l2), (3, .int l3), (4, .int l4), (5, .int l5)] → W p l e rm_X6_findNeighbours s m ([.ref a_this, .int p1] : List Value).toArray below meth c H locs 0 0 Q (F0 m 37 ls []) := by
    intro l1 l2 l3 l4 kx85 hkx85 n
    induction n with
    | zero => intro l5 v_beside H locs ls h; exact False.elim h
    | succ n ih =>
      intro l5 v_beside H locs ls h hP hD hS hl
      have h : wb_X6_findNeighbours_37 v_album_numbers v_album_places l1 l2 l3 l4 kx85 (fun l5 v_beside => lpN (wl_X6_findNeighbours_37 v_album_numbers v_album_places l1 l2 l3 l4 kx85) n (l5, v_beside)) l5 v_beside := h
      unfold wb_X6_findNeighbours_37 at h
      refine lv_iload hx hb dX6_findNeighbours_37 (lv_at hl 5 rfl) ?_
      refine lv_iconst (v := 4) hx hb dX6_findNeighbours_39 (by decide) ?_
      refine lv_icmp_ge (tgt := 85) hx hb dX6_findNeighbours_40 (by decide) (fun hc => ?_) (fun hc => ?_)
      · replace h := h.1 hc
        exact hkx85 v_beside _ _ _ h hP hD hS (lv_sub hl [0, 1, 2] rfl)
      · replace h := h.2 hc
        refine lv_aload_n hx hb dX6_findNeighbours_43 rfl (lv_at hl 0 rfl) ?_
        refine va_get (D := D) (ci := 6) (v := .ref a_beside) (C := RX6) (T := TX6) (N := 8) hx hb hts iX6 hown hK hP 0 rfl rfl 4 (by decide) f15 (fun _ h9 => h9) rfl dX6_findNeighbours_44 ?_
        refine lv_iload_n hx hb dX6_findNeighbours_47 rfl (lv_at hl 2 rfl) ?_
        refine lv_iconst (v := 4) hx hb dX6_findNeighbours_48 (by decide) ?_
        refine lv_imul hx hb dX6_findNeighbours_49 ?_
        refine lv_iload hx hb dX6_findNeighbours_50 (lv_at hl 5 rfl) ?_
        refine lv_iadd hx hb dX6_findNeighbours_52 ?_
        refine lv_aload_n hx hb dX6_findNeighbours_53 rfl (lv_at hl 0 rfl) ?_
        refine va_get (D := D) (ci := 6) (v := .ref a_album) (C := RX6) (T := TX6) (N := 8) hx hb hts iX6 hown hK hP 0 rfl rfl 1 (by decide) f28 (fun _ h9 => h9) rfl dX6_findNeighbours_54 ?_
        refine lv_iload_n hx hb dX6_findNeighbours_57 rfl (lv_at hl 1 rfl) ?_
        refine lv_iload_n hx hb dX6_findNeighbours_58 rfl (lv_at hl 3 rfl) ?_
        refine va_getsN hx hb hZ5 hS hown g67 (fun _ h9 => h9) dX6_findNeighbours_59 ?_
        refine lv_iload hx hb dX6_findNeighbours_62 (lv_at hl 5 rfl) ?_
        obtain ⟨hin, h⟩ := h
        refine va_ti (v := .int (q_SIDE_X l5.toNatClampNeg)) hx hb hT5 hS hin rfl dX6_findNeighbours_64 ?_
        refine lv_iadd hx hb dX6_findNeighbours_65 ?_
        refine lv_iload hx hb dX6_findNeighbours_66 (lv_at hl 4 rfl) ?_
        refine va_getsN hx hb hZ6 hS hown g73 (fun _ h9 => h9) dX6_findNeighbours_68 ?_
        refine lv_iload hx hb dX6_findNeighbours_71 (lv_at hl 5 rfl) ?_
        obtain ⟨hin, h⟩ := h
        refine va_ti (v := .int (q_SIDE_Y l5.toNatClampNeg)) hx hb hT6 hS hin rfl dX6_findNeighbours_73 ?_
        refine lv_iadd hx hb dX6_findNeighbours_74 ?_
        have hPc := hP.sub (ws' := (wd_X0_placeAt cI cZ cJ a_album a_album_numbers a_album_places a_album_imageX a_album_imageY a_album_image a_album_leastImage v_album_count v_album_numbers v_album_places)) [1, 2, 3] rfl
        have hDc := hD.sub (ws' := (wd_X0_placeAt cI cZ cJ a_album a_album_numbers a_album_places a_album_imageX a_album_imageY a_album_image a_album_leastImage v_album_count v_album_numbers v_album_places)) [1, 2, 3] (by decide) rfl
        have hFc := va_free (wc := (wd_X0_placeAt cI cZ cJ a_album a_album_numbers a_album_places a_album_imageX a_album_imageY a_album_image a_album_leastImage v_album_count v_album_numbers v_album_places)) hD hS hA [1, 2, 3] rfl
        refine va_calli (va_runV (As := [.int l1, .int (l3 + (q_SIDE_X l5.toNatClampNeg)), .int (l4 + (q_SIDE_Y l5.toNatClampNeg))]) (rest := [.int ((l2 * (4 : Int32)) + l5), .ref a_beside]) C (c_X0_placeAt l D cI cZ cJ tb a_album a_album_numbers a_album_places a_album_imageX a_album_imageY a_album_image a_album_leastImage v_album_count v_album_numbers v_album_places H.size l1 (l3 + (q_SIDE_X l5.toNatClampNeg)) (l4 + (q_SIDE_Y l5.toNatClampNeg)) h) (cwV 3 hts gX6_findNeighbours_X0_placeAt rfl rfl rfl (by decide +kernel) ⟨Nat.le_of_ble_eq_true rfl, Nat.le_of_ble_eq_true rfl⟩) ⟨q_pre.blind, va_recv hK hP (ci := 0) (q0 := 1) rfl rfl, fun U hU hW => ⟨rfl, q_pre.of hU hW hPc hK hDc hSt hS hFc hNw⟩⟩ rfl rfl hl.1 rfl (lv_room (Nat.le_of_ble_eq_true rfl)) dX6_findNeighbours_75 ⟨Nat.zero_le _, Nat.zero_le _⟩) hS (fun q _ h => hFc q h) hFc (fun r_1 u_2 t H1 locs ht hvm hw hB hz1 hk1 hS => ?_)
        obtain ⟨hP1, hK1, hD1⟩ := hB
        rw [ht] at hP1
        obtain ⟨hP, hD⟩ := va_join (wr := [(a_this, .inr (6, [.ref a_solid, .ref a_album, .ref a_sheet, .ref a_imageSide, .ref a_beside, .ref a_reached, .ref a_faceOn, .int v_reachedCount])), (a_beside, .inl (cI, 88, .inl v_beside)), (a_solid, .inr (4, [.int v_solid_cubes, .int v_solid_faces, .ref a_solid_cubeOf, .ref a_solid_lookOf, .ref a_solid_x, .ref a_solid_y, .ref a_solid_z, .ref a_solid_faceOf, .ref a_solid_beyondEdge, .ref a_solid_onwardEdge]))]) (w1 := (wd_X0_placeAt cI cZ cJ a_album a_album_numbers a_album_places a_album_imageX a_album_imageY a_album_image a_album_leastImage v_album_count v_album_numbers v_album_places)) hP hD [1, 2, 3] [0, 4, 5] rfl rfl (by decide) (by decide) hk1 hFc hP1 hD1
        clear hPc hDc hFc hP1 hD1 hK1 hk1 hz1 ht hvm
        replace h := hw
        clear hw
        generalize H1 = H at hP hS ⊢
        replace hP : va_P D vwCl (wd_X6_findNeighbours cI cZ cJ a_this a_album a_album_numbers a_album_places a_beside a_solid a_sheet a_imageSide a_reached a_faceOn a_album_imageX a_album_imageY a_album_image a_album_leastImage a_solid_cubeOf a_solid_lookOf a_solid_x a_solid_y a_solid_z a_solid_faceOf a_solid_beyondEdge a_solid_onwardEdge v_reachedCount v_album_count v_album_numbers v_album_places v_beside v_solid_cubes v_solid_faces) H := hP.sub [0, 3, 4, 5, 1, 2] rfl
        replace hD : va_D A (wd_X6_findNeighbours cI cZ cJ a_this a_album a_album_numbers a_album_places a_beside a_solid a_sheet a_imageSide a_reached a_faceOn a_album_imageX a_album_imageY a_album_image a_album_leastImage a_solid_cubeOf a_solid_lookOf a_solid_x a_solid_y a_solid_z a_solid_faceOf a_solid_beyondEdge a_solid_onwardEdge v_reachedCount v_album_count v_album_numbers v_album_places v_beside v_solid_cubes v_solid_faces) := hD.sub [0, 3, 4, 5, 1, 2] (by decide) rfl
        obtain ⟨hin, h⟩ := h
        refine va_iast hx hb hK hP hD hS 4 0 rfl rfl hin dX6_findNeighbours_78 (fun H locs hP hD hS => ?_)
        replace hP : va_P D vwCl (wd_X6_findNeighbours cI cZ cJ a_this a_album a_album_numbers a_album_places a_beside a_solid a_sheet a_imageSide a_reached a_faceOn a_album_imageX a_album_imageY a_album_image a_album_leastImage a_solid_cubeOf a_solid_lookOf a_solid_x a_solid_y a_solid_z a_solid_faceOf a_solid_beyondEdge a_solid_onwardEdge v_reachedCount v_album_count v_album_numbers v_album_places (upd v_beside ((l2 * (4 : Int32)) + l5).toNatClampNeg r_1) v_solid_cubes v_solid_faces) H := hP
        replace hD : va_D A (wd_X6_findNeighbours cI cZ cJ a_this a_album a_album_numbers a_album_places a_beside a_solid a_sheet a_imageSide a_reached a_faceOn a_album_imageX a_album_imageY a_album_image a_album_leastImage a_solid_cubeOf a_solid_lookOf a_solid_x a_solid_y a_solid_z a_solid_faceOf a_solid_beyondEdge a_solid_onwardEdge v_reachedCount v_album_count v_album_numbers v_album_places (upd v_beside ((l2 * (4 : Int32)) + l5).toNatClampNeg r_1) v_solid_cubes v_solid_faces) := hD
        refine lv_iinc (v := (l5 + (1 : Int32))) (lv' := [(5, .int (l5 + (1 : Int32))), (0, .ref a_this), (1, .int l1), (2, .int l2), (3, .int l3), (4, .int l4)]) hx hb dX6_findNeighbours_79 hl (k := 5) rfl rfl (by decide) rfl (fun ls hl => ?_)
        refine lv_goto (tgt := 37) hx hb dX6_findNeighbours_82 (by decide) ?_
        exact ih (l5 + (1 : Int32)) (upd v_beside ((l2 * (4 : Int32)) + l5).toNatClampNeg r_1) _ _ _ h hP hD hS (lv_sub hl [1, 2, 3, 4, 5, 0] rfl)
  have L2_ok : ∀ (l1 : Int32) (kx91 : (Nat → Int32) → Prop) (hkx91 : ∀ (v_beside : Nat → Int32) (H : Heap) (locs : List Loc) (ls : Array Slot), kx91 v_beside → va_P D vwCl (wd_X6_findNeighbours cI cZ cJ a_this a_album a_album_numbers a_album_places a_beside a_solid a_sheet a_imageSide a_reached a_faceOn a_album_imageX a_album_imageY a_album_image a_album_leastImage a_solid_cubeOf a_solid_lookOf a_solid_x a_solid_y a_solid_z a_solid_faceOf a_solid_beyondEdge a_solid_onwardEdge v_reachedCount v_album_count v_album_numbers v_album_places v_beside v_solid_cubes v_solid_faces) H → va_D A (wd_X6_findNeighbours cI cZ cJ a_this a_album a_album_numbers a_album_places a_beside a_solid a_sheet a_imageSide a_reached a_faceOn a_album_imageX a_album_imageY a_album_image a_album_leastImage a_solid_cubeOf a_solid_lookOf a_solid_x a_solid_y a_solid_z a_solid_faceOf a_solid_beyondEdge a_solid_onwardEdge v_reachedCount v_album_count v_album_numbers v_album_places v_beside v_solid_cubes v_solid_faces) → va_S A s.heap H locs → lv_has ls 6 [] → W p l e rm_X6_findNeighbours s m ([.ref a_this, .int p1] : List Value).toArray below meth c H locs 0 0 Q (F0 m 91 ls [])) (n : Nat) (l2 : Int32) (v_beside : Nat → Int32) (H : Heap) (locs : List Loc) (ls : Array Slot), lpN (wl_X6_findNeighbours_2 v_album_numbers v_album_places v_solid_faces l1 kx91) n (l2, v_beside) → va_P D vwCl (wd_X6_findNeighbours cI cZ cJ a_this a_album a_album_numbers a_album_places a_beside a_solid a_sheet a_imageSide a_reached a_faceOn a_album_imageX a_album_imageY a_album_image a_album_leastImage a_solid_cubeOf a_solid_lookOf a_solid_x a_solid_y a_solid_z a_solid_faceOf a_solid_beyondEdge a_solid_onwardEdge v_reachedCount v_album_count v_album_numbers v_album_places v_beside v_solid_cubes v_solid_faces) H → va_D A (wd_X6_findNeighbours cI cZ cJ a_this a_album a_album_numbers a_album_places a_beside a_solid a_sheet a_imageSide a_reached a_faceOn a_album_imageX a_album_imageY a_album_image a_album_leastImage a_solid_cubeOf a_solid_lookOf a_solid_x a_solid_y a_solid_z a_solid_faceOf a_solid_beyondEdge a_solid_onwardEdge v_reachedCount v_album_count v_album_numbers v_album_places v_beside v_solid_cubes v_solid_faces) → va_S A s.heap H locs → lv_has ls 6 [(0, .ref a_this), (1, .int l1), (2, .int l2)] → W p l e rm_X6_findNeighbours s m ([.ref a_this, .int p1] : List Value).toArray below meth c H locs 0 0 Q (F0 m 2 ls []) := by
    intro l1 kx91 hkx91 n
    induction n with
    | zero => intro l2 v_beside H locs ls h; exact False.elim h
    | succ n ih =>
      intro l2 v_beside H locs ls h hP hD hS hl
      have h : wb_X6_findNeighbours_2 v_album_numbers v_album_places v_solid_faces l1 kx91 (fun l2 v_beside => lpN (wl_X6_findNeighbours_2 v_album_numbers v_album_places v_solid_faces l1 kx91) n (l2, v_beside)) l2 v_beside := h
      unfold wb_X6_findNeighbours_2 at h
      refine lv_iload_n hx hb dX6_findNeighbours_2 rfl (lv_at hl 2 rfl) ?_
      refine lv_aload_n hx hb dX6_findNeighbours_3 rfl (lv_at hl 0 rfl) ?_
      refine va_get (D := D) (ci := 6) (v := .ref a_solid) (C := RX6) (T := TX6) (N := 8) hx hb hts iX6 hown hK hP 0 rfl rfl 0 (by decide) f24 (fun _ h9 => h9) rfl dX6_findNeighbours_4 ?_
      refine va_get (D := D) (ci := 4) (v := .int v_solid_faces) (C := RX4) (T := TX4) (N := 10) hx hb hts iX4 hown hK hP 5 rfl rfl 1 (by decide) f50 (fun _ h9 => h9) rfl dX6_findNeighbours_7 ?_
      refine lv_icmp_ge (tgt := 91) hx hb dX6_findNeighbours_10 (by decide) (fun hc => ?_) (fun hc => ?_)
      · replace h := h.1 hc
        exact hkx91 v_beside _ _ _ h hP hD hS (lv_sub hl [] rfl)
      · replace h := h.2 hc
        refine lv_aload_n hx hb dX6_findNeighbours_13 rfl (lv_at hl 0 rfl) ?_
        refine va_get (D := D) (ci := 6) (v := .ref a_album) (C := RX6) (T := TX6) (N := 8) hx hb hts iX6 hown hK hP 0 rfl rfl 1 (by decide) f28 (fun _ h9 => h9) rfl dX6_findNeighbours_14 ?_
        refine lv_iload_n hx hb dX6_findNeighbours_17 rfl (lv_at hl 1 rfl) ?_
        refine lv_iload_n hx hb dX6_findNeighbours_18 rfl (lv_at hl 2 rfl) ?_
        have hPc := hP.sub (ws' := (wd_X0_placeX cI cZ cJ a_album a_album_numbers a_album_places a_album_imageX a_album_imageY a_album_image a_album_leastImage v_album_count v_album_numbers)) [1, 2] rfl
        have hDc := hD.sub (ws' := (wd_X0_placeX cI cZ cJ a_album a_album_numbers a_album_places a_album_imageX a_album_imageY a_album_image a_album_leastImage v_album_count v_album_numbers)) [1, 2] (by decide) rfl
        have hFc := va_free (wc := (wd_X0_placeX cI cZ cJ a_album a_album_numbers a_album_places a_album_imageX a_album_imageY a_album_image a_album_leastImage v_album_count v_album_numbers)) hD hS hA [1, 2] rfl
        refine va_calli (va_runV (As := [.int l1, .int l2]) (rest := []) C (c_X0_placeX l D cI cZ cJ tb a_album a_album_numbers a_album_places a_album_imageX a_album_imageY a_album_image a_album_leastImage v_album_count v_album_numbers H.size l1 l2 h) (cwV 2 hts gX6_findNeighbours_X0_placeX rfl rfl rfl (by decide +kernel) ⟨Nat.le_of_ble_eq_true rfl, Nat.le_of_ble_eq_true rfl⟩) ⟨q_pre.blind, va_recv hK hP (ci := 0) (q0 := 1) rfl rfl, fun U hU hW => ⟨rfl, q_pre.of hU hW hPc hK hDc hSt hS hFc hNw⟩⟩ rfl rfl hl.1 rfl (lv_room (Nat.le_of_ble_eq_true rfl)) dX6_findNeighbours_19 ⟨Nat.zero_le _, Nat.zero_le _⟩) hS (fun q _ h => hFc q h) hFc (fun r_3 u_4 t H1 locs ht hvm hw hB hz1 hk1 hS => ?_)
        obtain ⟨hP1, hK1, hD1⟩ := hB
        rw [ht] at hP1
        obtain ⟨hP, hD⟩ := va_join (wr := [(a_this, .inr (6, [.ref a_solid, .ref a_album, .ref a_sheet, .ref a_imageSide, .ref a_beside, .ref a_reached, .ref a_faceOn, .int v_reachedCount])), (a_album_places, .inl (cI, 64, .inl v_album_places)), (a_beside, .inl (cI, 88, .inl v_beside)), (a_solid, .inr (4, [.int v_solid_cubes, .int v_solid_faces, .ref a_solid_cubeOf, .ref a_solid_lookOf, .ref a_solid_x, .ref a_solid_y, .ref a_solid_z, .ref a_solid_faceOf, .ref a_solid_beyondEdge, .ref a_solid_onwardEdge]))]) (w1 := (wd_X0_placeX cI cZ cJ a_album a_album_numbers a_album_places a_album_imageX a_album_imageY a_album_image a_album_leastImage v_album_count v_album_numbers)) hP hD [1, 2] [0, 3, 4, 5] rfl rfl (by decide) (by decide) hk1 hFc hP1 hD1
        clear hPc hDc hFc hP1 hD1 hK1 hk1 hz1 ht hvm
        replace h := hw
        clear hw
        generalize H1 = H at hP hS ⊢
        replace hP : va_P D vwCl (wd_X6_findNeighbours cI cZ cJ a_this a_album a_album_numbers a_album_places a_beside a_solid a_sheet a_imageSide a_reached a_faceOn a_album_imageX a_album_imageY a_album_image a_album_leastImage a_solid_cubeOf a_solid_lookOf a_solid_x a_solid_y a_solid_z a_solid_faceOf a_solid_beyondEdge a_solid_onwardEdge v_reachedCount v_album_count v_album_numbers v_album_places v_beside v_solid_cubes v_solid_faces) H := hP.sub [0, 4, 5, 1, 2, 3] rfl
        replace hD : va_D A (wd_X6_findNeighbours cI cZ cJ a_this a_album a_album_numbers a_album_places a_beside a_solid a_sheet a_imageSide a_reached a_faceOn a_album_imageX a_album_imageY a_album_image a_album_leastImage a_solid_cubeOf a_solid_lookOf a_solid_x a_solid_y a_solid_z a_solid_faceOf a_solid_beyondEdge a_solid_onwardEdge v_reachedCount v_album_count v_album_numbers v_album_places v_beside v_solid_cubes v_solid_faces) := hD.sub [0, 4, 5, 1, 2, 3] (by decide) rfl
        refine lv_istore_n (lv' := [(3, .int r_3), (0, .ref a_this), (1, .int l1), (2, .int l2)]) hx hb dX6_findNeighbours_22 rfl hl (by decide) rfl (fun ls hl => ?_)
        refine lv_aload_n hx hb dX6_findNeighbours_23 rfl (lv_at hl 1 rfl) ?_
        refine va_get (D := D) (ci := 6) (v := .ref a_album) (C := RX6) (T := TX6) (N := 8) hx hb hts iX6 hown hK hP 0 rfl rfl 1 (by decide) f28 (fun _ h9 => h9) rfl dX6_findNeighbours_24 ?_
        refine lv_iload_n hx hb dX6_findNeighbours_27 rfl (lv_at hl 2 rfl) ?_
        refine lv_iload_n hx hb dX6_findNeighbours_28 rfl (lv_at hl 3 rfl) ?_
        have hPc := hP.sub (ws' := (wd_X0_placeY cI cZ cJ a_album a_album_numbers a_album_places a_album_imageX a_album_imageY a_album_image a_album_leastImage v_album_count v_album_numbers)) [1, 2] rfl
        have hDc := hD.sub (ws' := (wd_X0_placeY cI cZ cJ a_album a_album_numbers a_album_places a_album_imageX a_album_imageY a_album_image a_album_leastImage v_album_count v_album_numbers)) [1, 2] (by decide) rfl
        have hFc := va_free (wc := (wd_X0_placeY cI cZ cJ a_album a_album_numbers a_album_places a_album_imageX a_album_imageY a_album_image a_album_leastImage v_album_count v_album_numbers)) hD hS hA [1, 2] rfl
        refine va_calli (va_runV (As := [.int l1, .int l2]) (rest := []) C (c_X0_placeY l D cI cZ cJ tb a_album a_album_numbers a_album_places a_album_imageX a_album_imageY a_album_image a_album_leastImage v_album_count v_album_numbers H.size l1 l2 h) (cwV 2 hts gX6_findNeighbours_X0_placeY rfl rfl rfl (by decide +kernel) ⟨Nat.le_of_ble_eq_true rfl, Nat.le_of_ble_eq_true rfl⟩) ⟨q_pre.blind, va_recv hK hP (ci := 0) (q0 := 1) rfl rfl, fun U hU hW => ⟨rfl, q_pre.of hU hW hPc hK hDc hSt hS hFc hNw⟩⟩ rfl rfl hl.1 rfl (lv_room (Nat.le_of_ble_eq_true rfl)) dX6_findNeighbours_29 ⟨Nat.zero_le _, Nat.zero_le _⟩) hS (fun q _ h => hFc q h) hFc (fun r_5 u_6 t H1 locs ht hvm hw hB hz1 hk1 hS => ?_)
        obtain ⟨hP1, hK1, hD1⟩ := hB
        rw [ht] at hP1
        obtain ⟨hP, hD⟩ := va_join (wr := [(a_this, .inr (6, [.ref a_solid, .ref a_album, .ref a_sheet, .ref a_imageSide, .ref a_beside, .ref a_reached, .ref a_faceOn, .int v_reachedCount])), (a_album_places, .inl (cI, 64, .inl v_album_places)), (a_beside, .inl (cI, 88, .inl v_beside)), (a_solid, .inr (4, [.int v_solid_cubes, .int v_solid_faces, .ref a_solid_cubeOf, .ref a_solid_lookOf, .ref a_solid_x, .ref a_solid_y, .ref a_solid_z, .ref a_solid_faceOf, .ref a_solid_beyondEdge, .ref a_solid_onwardEdge]))]) (w1 := (wd_X0_placeY cI cZ cJ a_album a_album_numbers a_album_places a_album_imageX a_album_imageY a_album_image a_album_leastImage v_album_count v_album_numbers)) hP hD [1, 2] [0, 3, 4, 5] rfl rfl (by decide) (by decide) hk1 hFc hP1 hD1
        clear hPc hDc hFc hP1 hD1 hK1 hk1 hz1 ht hvm
        replace h := hw
        clear hw
        generalize H1 = H at hP hS ⊢
        replace hP : va_P D vwCl (wd_X6_findNeighbours cI cZ cJ a_this a_album a_album_numbers a_album_places a_beside a_solid a_sheet a_imageSide a_reached a_faceOn a_album_imageX a_album_imageY a_album_image a_album_leastImage a_solid_cubeOf a_solid_lookOf a_solid_x a_solid_y a_solid_z a_solid_faceOf a_solid_beyondEdge a_solid_onwardEdge v_reachedCount v_album_count v_album_numbers v_album_places v_beside v_solid_cubes v_solid_faces) H := hP.sub [0, 4, 5, 1, 2, 3] rfl
        replace hD : va_D A (wd_X6_findNeighbours cI cZ cJ a_this a_album a_album_numbers a_album_places a_beside a_solid a_sheet a_imageSide a_reached a_faceOn a_album_imageX a_album_imageY a_album_image a_album_leastImage a_solid_cubeOf a_solid_lookOf a_solid_x a_solid_y a_solid_z a_solid_faceOf a_solid_beyondEdge a_solid_onwardEdge v_reachedCount v_album_count v_album_numbers v_album_places v_beside v_solid_cubes v_solid_faces) := hD.sub [0, 4, 5, 1, 2, 3] (by decide) rfl
        refine lv_istore (lv' := [(4, .int r_5), (3, .int r_3), (0, .ref a_this), (1, .int l1), (2, .int l2)]) hx hb dX6_findNeighbours_32 hl (by decide) rfl (fun ls hl => ?_)
        refine lv_iconst (v := 0) hx hb dX6_findNeighbours_34 (by decide) ?_
        refine lv_istore (lv' := [(5, .int (0 : Int32)), (4, .int r_5), (3, .int r_3), (0, .ref a_this), (1, .int l1), (2, .int l2)]) hx hb dX6_findNeighbours_35 hl (by decide) rfl (fun ls hl => ?_)
        obtain ⟨n, h⟩ := h
        refine L37_ok l1 l2 r_3 r_5 _ (fun v_beside_7 H locs ls h hP hD hS hl => ?_) n (0 : Int32) v_beside _ _ _ h hP hD hS (lv_sub hl [3, 4, 5, 2, 1, 0] rfl)
        refine lv_iinc (v := (l2 + (1 : Int32))) (lv' := [(2, .int (l2 + (1 : Int32))), (0, .ref a_this), (1, .int l1)]) hx hb dX6_findNeighbours_85 hl (k := 2) rfl rfl (by decide) rfl (fun ls hl => ?_)
        refine lv_goto (tgt := 2) hx hb dX6_findNeighbours_88 (by decide) ?_
        exact ih (l2 + (1 : Int32)) v_beside_7 _ _ _ h hP hD hS (lv_sub hl [1, 2, 0] rfl)
  unfold wp_X6_findNeighbours at h
  refine lv_iconst (v := 0) hx hb dX6_findNeighbours_0 (by decide) ?_
  refine lv_istore_n (lv' := [(2, .int (0 : Int32)), (0, .ref a_this), (1, .int p1)]) hx hb dX6_findNeighbours_1 rfl hl (by decide) rfl (fun ls hl => ?_)
  obtain ⟨n, h⟩ := h
  refine L2_ok p1 _ (fun v_beside_8 H locs ls h hP hD hS hl => ?_) n (0 : Int32) v_beside _ _ _ h hP hD hS (lv_sub hl [1, 2, 0] rfl)
  exact ret v_beside_8 _ _ _ 91 dX6_findNeighbours_91 h hP hD hS
