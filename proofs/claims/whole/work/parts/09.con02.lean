def wd_X0_isSame (cI cZ cJ : ClassId) (a_this a_numbers a_places a_imageX a_imageY a_image a_leastImage : Nat) (v_count : Int32) (v_numbers : Nat → Int32) (v_places : Nat → Int32) : va_W := [(a_this, .inr (0, [.int v_count, .ref a_places, .ref a_numbers, .ref a_imageX, .ref a_imageY, .ref a_image, .ref a_leastImage])),
  (a_numbers, .inl (cI, 1408, .inl v_numbers)),
  (a_places, .inl (cI, 64, .inl v_places))]
abbrev rm_X0_isSame : Room := { frames := 0, cells := 0, slots := 0, locals := 0 }
set_option maxHeartbeats 4000000 in
set_option maxRecDepth 100000 in
theorem c_X0_isSame (l : Launch) (D : va_G) (cI cZ cJ : ClassId) (tb : Nat → Nat) (a_this a_numbers a_places a_imageX a_imageY a_image a_leastImage : Nat) (v_count : Int32) (v_numbers : Nat → Int32) (v_places : Nat → Int32) (sz : Nat) (p1 : Int32) (p2 : Int32) {post : Int32 → Prop} (h : wp_X0_isSame v_numbers v_places p1 p2 post) : Met l yX0_isSame wsX0_isSame rm_X0_isSame (va_Pc [.ref a_this, .int p1, .int p2] (q_pre D cI cZ cJ tb (wd_X0_isSame cI cZ cJ a_this a_numbers a_places a_imageX a_imageY a_image a_leastImage v_count v_numbers v_places) sz)) (va_Qi (fun r (u : Unit) => post r) (fun u => q_post D cI cZ cJ (va_A (wd_X0_isSame cI cZ cJ a_this a_numbers a_places a_imageX a_imageY a_image a_leastImage v_count v_numbers v_places) sz) (wd_X0_isSame cI cZ cJ a_this a_numbers a_places a_imageX a_imageY a_image a_leastImage v_count v_numbers v_places)) (va_A (wd_X0_isSame cI cZ cJ a_this a_numbers a_places a_imageX a_imageY a_image a_leastImage v_count v_numbers v_places) sz)) 0 0 (va_A (wd_X0_isSame cI cZ cJ a_this a_numbers a_places a_imageX a_imageY a_image a_leastImage v_count v_numbers v_places) sz) := by
  refine q_walkz (cc := cX0_isSame) (maxL := 4) (own := RX0) (wd := fun (u : Unit) => (wd_X0_isSame cI cZ cJ a_this a_numbers a_places a_imageX a_imageY a_image a_leastImage v_count v_numbers v_places)) (by decide) rfl rfl (Nat.le_of_ble_eq_true rfl) ?_
  intro p e s m below meth c Q A ls C hA ret hP hD hS hK hSt hNw hl
  obtain ⟨hx, hb, hml, hown, hts⟩ := id C
  replace hl : lv_has ls 4 [(0, .ref a_this), (1, .int p1), (2, .int p2)] := hl
  have f9 := hts (.fieldLink RX0 9 "NetSearch$Album" "places" "[I") (by decide +kernel)
  have iX0 : ∀ w ∈ wsX00, w ∈ wsX0_isSame := by decide +kernel
  have f15 := hts (.fieldLink RX0 15 "NetSearch$Album" "numbers" "[I") (by decide +kernel)
  have L19_ok : ∀ (l1 : Int32) (l2 : Int32) (kx54 : Prop) (hkx54 : ∀ (H : Heap) (locs : List Loc) (ls : Array Slot), kx54  → va_P D vwCl (wd_X0_isSame cI cZ cJ a_this a_numbers a_places a_imageX a_imageY a_image a_leastImage v_count v_numbers v_places) H → va_D A (wd_X0_isSame cI cZ cJ a_this a_numbers a_places a_imageX a_imageY a_image a_leastImage v_count v_numbers v_places) → va_S A s.heap H locs → lv_has ls 4 [] → W p l e rm_X0_isSame s m ([.ref a_this, .int p1, .int p2] : List Value).toArray below meth c H locs 0 0 Q (F0 m 54 ls [])) (kx62 : Prop) (hkx62 : ∀ (H : Heap) (locs : List Loc) (ls : Array Slot), kx62  → va_P D vwCl (wd_X0_isSame cI cZ cJ a_this a_numbers a_places a_imageX a_imageY a_image a_leastImage v_count v_numbers v_places) H → va_D A (wd_X0_isSame cI cZ cJ a_this a_numbers a_places a_imageX a_imageY a_image a_leastImage v_count v_numbers v_places) → va_S A s.heap H locs → lv_has ls 4 [] → W p l e rm_X0_isSame s m ([.ref a_this, .int p1, .int p2] : List Value).toArray below meth c H locs 0 0 Q (F0 m 62 ls [])) (n : Nat) (l3 : Int32) (H : Heap) (locs : List Loc) (ls : Array Slot), lpN (wl_X0_isSame_19 v_numbers v_places l1 l2 kx54 kx62) n l3 → va_P D vwCl (wd_X0_isSame cI cZ cJ a_this a_numbers a_places a_imageX a_imageY a_image a_leastImage v_count v_numbers v_places) H → va_D A (wd_X0_isSame cI cZ cJ a_this a_numbers a_places a_imageX a_imageY a_image a_leastImage v_count v_numbers v_places) → va_S A s.heap H locs → lv_has ls 4 [(0, .ref a_this), (1, .int l1), (2, .int l2), (3, .int l3)] → W p l e rm_X0_isSame s m ([.ref a_this, .int p1, .int p2] : List Value).toArray below meth c H locs 0 0 Q (F0 m 19 ls []) := by
    intro l1 l2 kx54 hkx54 kx62 hkx62 n
    induction n with
    | zero => intro l3 H locs ls h; exact False.elim h
    | succ n ih =>
      intro l3 H locs ls h hP hD hS hl
      have h : wb_X0_isSame_19 v_numbers v_places l1 l2 kx54 kx62 (fun l3 => lpN (wl_X0_isSame_19 v_numbers v_places l1 l2 kx54 kx62) n l3) l3 := h
      unfold wb_X0_isSame_19 at h
      refine lv_iload_n hx hb dX0_isSame_19 rfl (lv_at hl 3 rfl) ?_
      refine lv_aload_n hx hb dX0_isSame_20 rfl (lv_at hl 0 rfl) ?_
      refine va_get (D := D) (ci := 0) (v := .ref a_places) (C := RX0) (T := TX0) (N := 7) hx hb hts iX0 hown hK hP 0 rfl rfl 1 (by decide) f9 (fun _ h9 => h9) rfl dX0_isSame_21 ?_
      refine lv_iload_n hx hb dX0_isSame_24 rfl (lv_at hl 1 rfl) ?_
      obtain ⟨hin, h⟩ := h
      refine va_iald hx hb hK hP 2 0 rfl rfl hin dX0_isSame_25 ?_
      refine lv_icmp_ge (tgt := 62) hx hb dX0_isSame_26 (by decide) (fun hc => ?_) (fun hc => ?_)
      · replace h := h.1 hc
        exact hkx62  _ _ _ h hP hD hS (lv_sub hl [] rfl)
      · replace h := h.2 hc
        refine lv_aload_n hx hb dX0_isSame_29 rfl (lv_at hl 0 rfl) ?_
        refine va_get (D := D) (ci := 0) (v := .ref a_numbers) (C := RX0) (T := TX0) (N := 7) hx hb hts iX0 hown hK hP 0 rfl rfl 2 (by decide) f15 (fun _ h9 => h9) rfl dX0_isSame_30 ?_
        refine lv_iload_n hx hb dX0_isSame_33 rfl (lv_at hl 1 rfl) ?_
        refine lv_bipush (v := 22) hx hb dX0_isSame_34 (by decide) ?_
        refine lv_imul hx hb dX0_isSame_36 ?_
        refine lv_iload_n hx hb dX0_isSame_37 rfl (lv_at hl 3 rfl) ?_
        refine lv_iadd hx hb dX0_isSame_38 ?_
        obtain ⟨hin, h⟩ := h
        refine va_iald hx hb hK hP 1 0 rfl rfl hin dX0_isSame_39 ?_
        refine lv_aload_n hx hb dX0_isSame_40 rfl (lv_at hl 0 rfl) ?_
        refine va_get (D := D) (ci := 0) (v := .ref a_numbers) (C := RX0) (T := TX0) (N := 7) hx hb hts iX0 hown hK hP 0 rfl rfl 2 (by decide) f15 (fun _ h9 => h9) rfl dX0_isSame_41 ?_
        refine lv_iload_n hx hb dX0_isSame_44 rfl (lv_at hl 2 rfl) ?_
        refine lv_bipush (v := 22) hx hb dX0_isSame_45 (by decide) ?_
        refine lv_imul hx hb dX0_isSame_47 ?_
        refine lv_iload_n hx hb dX0_isSame_48 rfl (lv_at hl 3 rfl) ?_
        refine lv_iadd hx hb dX0_isSame_49 ?_
        obtain ⟨hin, h⟩ := h
        refine va_iald hx hb hK hP 1 0 rfl rfl hin dX0_isSame_50 ?_
        refine lv_icmp_eq (tgt := 56) hx hb dX0_isSame_51 (by decide) (fun hc => ?_) (fun hc => ?_)
        · replace h := h.1 hc
          refine lv_iinc (v := (l3 + (1 : Int32))) (lv' := [(3, .int (l3 + (1 : Int32))), (0, .ref a_this), (1, .int l1), (2, .int l2)]) hx hb dX0_isSame_56 hl (k := 3) rfl rfl (by decide) rfl (fun ls hl => ?_)
          refine lv_goto (tgt := 19) hx hb dX0_isSame_59 (by decide) ?_
          exact ih (l3 + (1 : Int32)) _ _ _ h hP hD hS (lv_sub hl [1, 2, 3, 0] rfl)
        · replace h := h.2 hc
          exact hkx54  _ _ _ h hP hD hS (lv_sub hl [] rfl)
  unfold wp_X0_isSame at h
  refine lv_aload_n hx hb dX0_isSame_0 rfl (lv_at hl 0 rfl) ?_
  refine va_get (D := D) (ci := 0) (v := .ref a_places) (C := RX0) (T := TX0) (N := 7) hx hb hts iX0 hown hK hP 0 rfl rfl 1 (by decide) f9 (fun _ h9 => h9) rfl dX0_isSame_1 ?_
  refine lv_iload_n hx hb dX0_isSame_4 rfl (lv_at hl 1 rfl) ?_
  obtain ⟨hin, h⟩ := h
  refine va_iald hx hb hK hP 2 0 rfl rfl hin dX0_isSame_5 ?_
  refine lv_aload_n hx hb dX0_isSame_6 rfl (lv_at hl 0 rfl) ?_
  refine va_get (D := D) (ci := 0) (v := .ref a_places) (C := RX0) (T := TX0) (N := 7) hx hb hts iX0 hown hK hP 0 rfl rfl 1 (by decide) f9 (fun _ h9 => h9) rfl dX0_isSame_7 ?_
  refine lv_iload_n hx hb dX0_isSame_10 rfl (lv_at hl 2 rfl) ?_
  obtain ⟨hin, h⟩ := h
  refine va_iald hx hb hK hP 2 0 rfl rfl hin dX0_isSame_11 ?_
  refine lv_icmp_eq (tgt := 17) hx hb dX0_isSame_12 (by decide) (fun hc => ?_) (fun hc => ?_)
  · replace h := h.1 hc
    refine lv_iconst (v := 0) hx hb dX0_isSame_17 (by decide) ?_
    refine lv_istore_n (lv' := [(3, .int (0 : Int32)), (0, .ref a_this), (1, .int p1), (2, .int p2)]) hx hb dX0_isSame_18 rfl hl (by decide) rfl (fun ls hl => ?_)
    obtain ⟨n, h⟩ := h
    refine L19_ok p1 p2 _ (fun  H locs ls h hP hD hS hl => ?_) _ (fun  H locs ls h hP hD hS hl => ?_) n (0 : Int32) _ _ _ h hP hD hS (lv_sub hl [1, 2, 3, 0] rfl)
    · refine lv_iconst (v := 0) hx hb dX0_isSame_54 (by decide) ?_
      exact ret (0 : Int32) () _ _ _ 55 dX0_isSame_55 ⟨by decide, h⟩ hP hD hS
    · refine lv_iconst (v := 1) hx hb dX0_isSame_62 (by decide) ?_
      exact ret (1 : Int32) () _ _ _ 63 dX0_isSame_63 ⟨by decide, h⟩ hP hD hS
  · replace h := h.2 hc
    refine lv_iconst (v := 0) hx hb dX0_isSame_15 (by decide) ?_
    exact ret (0 : Int32) () _ _ _ 16 dX0_isSame_16 ⟨by decide, h⟩ hP hD hS
def wd_X0_isLastNew (cI cZ cJ : ClassId) (a_this a_numbers a_places a_imageX a_imageY a_image a_leastImage : Nat) (v_count : Int32) (v_numbers : Nat → Int32) (v_places : Nat → Int32) : va_W := [(a_this, .inr (0, [.int v_count, .ref a_places, .ref a_numbers, .ref a_imageX, .ref a_imageY, .ref a_image, .ref a_leastImage])),
  (a_numbers, .inl (cI, 1408, .inl v_numbers)),
  (a_places, .inl (cI, 64, .inl v_places))]
abbrev rm_X0_isLastNew : Room := { frames := 1, cells := 0, slots := 0, locals := 23 }
set_option maxHeartbeats 4000000 in
set_option maxRecDepth 100000 in
theorem c_X0_isLastNew (l : Launch) (D : va_G) (cI cZ cJ : ClassId) (tb : Nat → Nat) (a_this a_numbers a_places a_imageX a_imageY a_image a_leastImage : Nat) (v_count : Int32) (v_numbers : Nat → Int32) (v_places : Nat → Int32) (sz : Nat) {post : Int32 → Prop} (h : wp_X0_isLastNew v_count v_numbers v_places post) : Met l yX0_isLastNew wsX0_isLastNew rm_X0_isLastNew (va_Pc [.ref a_this] (q_pre D cI cZ cJ tb (wd_X0_isLastNew cI cZ cJ a_this a_numbers a_places a_imageX a_imageY a_image a_leastImage v_count v_numbers v_places) sz)) (va_Qi (fun r (u : Unit) => post r) (fun u => q_post D cI cZ cJ (va_A (wd_X0_isLastNew cI cZ cJ a_this a_numbers a_places a_imageX a_imageY a_image a_leastImage v_count v_numbers v_places) sz) (wd_X0_isLastNew cI cZ cJ a_this a_numbers a_places a_imageX a_imageY a_image a_leastImage v_count v_numbers v_places)) (va_A (wd_X0_isLastNew cI cZ cJ a_this a_numbers a_places a_imageX a_imageY a_image a_leastImage v_count v_numbers v_places) sz)) 0 0 (va_A (wd_X0_isLastNew cI cZ cJ a_this a_numbers a_places a_imageX a_imageY a_image a_leastImage v_count v_numbers v_places) sz) := by
  refine q_walkz (cc := cX0_isLastNew) (maxL := 2) (own := RX0) (wd := fun (u : Unit) => (wd_X0_isLastNew cI cZ cJ a_this a_numbers a_places a_imageX a_imageY a_image a_leastImage v_count v_numbers v_places)) (by decide) rfl rfl (Nat.le_of_ble_eq_true rfl) ?_
  intro p e s m below meth c Q A ls C hA ret hP hD hS hK hSt hNw hl
  obtain ⟨hx, hb, hml, hown, hts⟩ := id C
  replace hl : lv_has ls 2 [(0, .ref a_this)] := hl
  have f37 := hts (.fieldLink RX0 37 "NetSearch$Album" "count" "I") (by decide +kernel)
  have iX0 : ∀ w ∈ wsX00, w ∈ wsX0_isLastNew := by decide +kernel
  have L2_ok : ∀  (kx22 : Prop) (hkx22 : ∀ (H : Heap) (locs : List Loc) (ls : Array Slot), kx22  → va_P D vwCl (wd_X0_isLastNew cI cZ cJ a_this a_numbers a_places a_imageX a_imageY a_image a_leastImage v_count v_numbers v_places) H → va_D A (wd_X0_isLastNew cI cZ cJ a_this a_numbers a_places a_imageX a_imageY a_image a_leastImage v_count v_numbers v_places) → va_S A s.heap H locs → lv_has ls 2 [] → W p l e rm_X0_isLastNew s m ([.ref a_this] : List Value).toArray below meth c H locs 0 0 Q (F0 m 22 ls [])) (kx30 : Prop) (hkx30 : ∀ (H : Heap) (locs : List Loc) (ls : Array Slot), kx30  → va_P D vwCl (wd_X0_isLastNew cI cZ cJ a_this a_numbers a_places a_imageX a_imageY a_image a_leastImage v_count v_numbers v_places) H → va_D A (wd_X0_isLastNew cI cZ cJ a_this a_numbers a_places a_imageX a_imageY a_image a_leastImage v_count v_numbers v_places) → va_S A s.heap H locs → lv_has ls 2 [] → W p l e rm_X0_isLastNew s m ([.ref a_this] : List Value).toArray below meth c H locs 0 0 Q (F0 m 30 ls [])) (n : Nat) (l1 : Int32) (H : Heap) (locs : List Loc) (ls : Array Slot), lpN (wl_X0_isLastNew_2 v_count v_numbers v_places kx22 kx30) n l1 → va_P D vwCl (wd_X0_isLastNew cI cZ cJ a_this a_numbers a_places a_imageX a_imageY a_image a_leastImage v_count v_numbers v_places) H → va_D A (wd_X0_isLastNew cI cZ cJ a_this a_numbers a_places a_imageX a_imageY a_image a_leastImage v_count v_numbers v_places) → va_S A s.heap H locs → lv_has ls 2 [(0, .ref a_this), (1, .int l1)] → W p l e rm_X0_isLastNew s m ([.ref a_this] : List Value).toArray below meth c H locs 0 0 Q (F0 m 2 ls []) := by
    intro  kx22 hkx22 kx30 hkx30 n
    induction n with
    | zero => intro l1 H locs ls h; exact False.elim h
    | succ n ih =>
      intro l1 H locs ls h hP hD hS hl
      have h : wb_X0_isLastNew_2 v_count v_numbers v_places kx22 kx30 (fun l1 => lpN (wl_X0_isLastNew_2 v_count v_numbers v_places kx22 kx30) n l1) l1 := h
      unfold wb_X0_isLastNew_2 at h
      refine lv_iload_n hx hb dX0_isLastNew_2 rfl (lv_at hl 1 rfl) ?_
      refine lv_aload_n hx hb dX0_isLastNew_3 rfl (lv_at hl 0 rfl) ?_
      refine va_get (D := D) (ci := 0) (v := .int v_count) (C := RX0) (T := TX0) (N := 7) hx hb hts iX0 hown hK hP 0 rfl rfl 0 (by decide) f37 (fun _ h9 => h9) rfl dX0_isLastNew_4 ?_
      refine lv_icmp_ge (tgt := 30) hx hb dX0_isLastNew_7 (by decide) (fun hc => ?_) (fun hc => ?_)
      · replace h := h.1 hc
        exact hkx30  _ _ _ h hP hD hS (lv_sub hl [] rfl)
      · replace h := h.2 hc
        refine lv_aload_n hx hb dX0_isLastNew_10 rfl (lv_at hl 0 rfl) ?_
        refine lv_iload_n hx hb dX0_isLastNew_11 rfl (lv_at hl 1 rfl) ?_
        refine lv_aload_n hx hb dX0_isLastNew_12 rfl (lv_at hl 0 rfl) ?_
        refine va_get (D := D) (ci := 0) (v := .int v_count) (C := RX0) (T := TX0) (N := 7) hx hb hts iX0 hown hK hP 0 rfl rfl 0 (by decide) f37 (fun _ h9 => h9) rfl dX0_isLastNew_13 ?_
        have hPc := hP.sub (ws' := (wd_X0_isSame cI cZ cJ a_this a_numbers a_places a_imageX a_imageY a_image a_leastImage v_count v_numbers v_places)) [0, 1, 2] rfl
        have hDc := hD.sub (ws' := (wd_X0_isSame cI cZ cJ a_this a_numbers a_places a_imageX a_imageY a_image a_leastImage v_count v_numbers v_places)) [0, 1, 2] (by decide) rfl
        have hFc := va_free (wc := (wd_X0_isSame cI cZ cJ a_this a_numbers a_places a_imageX a_imageY a_image a_leastImage v_count v_numbers v_places)) hD hS hA [0, 1, 2] rfl
        refine va_calli (va_runV (As := [.int l1, .int v_count]) (rest := []) C (c_X0_isSame l D cI cZ cJ tb a_this a_numbers a_places a_imageX a_imageY a_image a_leastImage v_count v_numbers v_places H.size l1 v_count h) (cwV 2 hts gX0_isLastNew_X0_isSame rfl rfl rfl (by decide +kernel) ⟨Nat.le_of_ble_eq_true rfl, Nat.le_of_ble_eq_true rfl⟩) ⟨q_pre.blind, va_recv hK hP (ci := 0) (q0 := 0) rfl rfl, fun U hU hW => ⟨rfl, q_pre.of hU hW hPc hK hDc hSt hS hFc hNw⟩⟩ rfl rfl hl.1 rfl (lv_room (Nat.le_of_ble_eq_true rfl)) dX0_isLastNew_16 ⟨Nat.zero_le _, Nat.zero_le _⟩) hS (fun q _ h => hFc q h) hFc (fun r_1 u_2 t H1 locs ht hvm hw hB hz1 hk1 hS => ?_)
        obtain ⟨hP1, hK1, hD1⟩ := hB
        rw [ht] at hP1
        obtain ⟨hP, hD⟩ := va_join (wr := []) (w1 := (wd_X0_isSame cI cZ cJ a_this a_numbers a_places a_imageX a_imageY a_image a_leastImage v_count v_numbers v_places)) hP hD [0, 1, 2] [] rfl rfl (by decide) (by decide) hk1 hFc hP1 hD1
        clear hPc hDc hFc hP1 hD1 hK1 hk1 hz1 ht hvm
        replace h := hw
        clear hw
        generalize H1 = H at hP hS ⊢
        replace hP : va_P D vwCl (wd_X0_isLastNew cI cZ cJ a_this a_numbers a_places a_imageX a_imageY a_image a_leastImage v_count v_numbers v_places) H := hP.sub [0, 1, 2] rfl
        replace hD : va_D A (wd_X0_isLastNew cI cZ cJ a_this a_numbers a_places a_imageX a_imageY a_image a_leastImage v_count v_numbers v_places) := hD.sub [0, 1, 2] (by decide) rfl
        refine lv_if_eq (tgt := 24) hx hb dX0_isLastNew_19 (by decide) (fun hc => ?_) (fun hc => ?_)
        · replace h := h.1 hc
          refine lv_iinc (v := (l1 + (1 : Int32))) (lv' := [(1, .int (l1 + (1 : Int32))), (0, .ref a_this)]) hx hb dX0_isLastNew_24 hl (k := 1) rfl rfl (by decide) rfl (fun ls hl => ?_)
          refine lv_goto (tgt := 2) hx hb dX0_isLastNew_27 (by decide) ?_
          exact ih (l1 + (1 : Int32)) _ _ _ h hP hD hS (lv_sub hl [1, 0] rfl)
        · replace h := h.2 hc
          exact hkx22  _ _ _ h hP hD hS (lv_sub hl [] rfl)
  unfold wp_X0_isLastNew at h
  refine lv_iconst (v := 0) hx hb dX0_isLastNew_0 (by decide) ?_
  refine lv_istore_n (lv' := [(1, .int (0 : Int32)), (0, .ref a_this)]) hx hb dX0_isLastNew_1 rfl hl (by decide) rfl (fun ls hl => ?_)
  obtain ⟨n, h⟩ := h
  refine L2_ok  _ (fun  H locs ls h hP hD hS hl => ?_) _ (fun  H locs ls h hP hD hS hl => ?_) n (0 : Int32) _ _ _ h hP hD hS (lv_sub hl [1, 0] rfl)
  · refine lv_iconst (v := 0) hx hb dX0_isLastNew_22 (by decide) ?_
    exact ret (0 : Int32) () _ _ _ 23 dX0_isLastNew_23 ⟨by decide, h⟩ hP hD hS
  · refine lv_iconst (v := 1) hx hb dX0_isLastNew_30 (by decide) ?_
    exact ret (1 : Int32) () _ _ _ 31 dX0_isLastNew_31 ⟨by decide, h⟩ hP hD hS
def wd_X0_writeNumbers (cI cZ cJ : ClassId) (a_this a_leastImage a_numbers a_places a_imageX a_imageY a_image : Nat) (v_count : Int32) (v_leastImage : Nat → Int32) (v_numbers : Nat → Int32) (v_places : Nat → Int32) : va_W := [(a_this, .inr (0, [.int v_count, .ref a_places, .ref a_numbers, .ref a_imageX, .ref a_imageY, .ref a_image, .ref a_leastImage])),
  (a_leastImage, .inl (cI, 22, .inl v_leastImage)),
  (a_numbers, .inl (cI, 1408, .inl v_numbers)),
  (a_places, .inl (cI, 64, .inl v_places))]
abbrev rm_X0_writeNumbers : Room := { frames := 0, cells := 0, slots := 0, locals := 0 }
set_option maxHeartbeats 4000000 in
set_option maxRecDepth 100000 in
theorem c_X0_writeNumbers (l : Launch) (D : va_G) (cI cZ cJ : ClassId) (tb : Nat → Nat) (a_this a_leastImage a_numbers a_places a_imageX a_imageY a_image : Nat) (v_count : Int32) (v_leastImage : Nat → Int32) (v_numbers : Nat → Int32) (v_places : Nat → Int32) (sz : Nat) (p1 : Int32) {post : (Nat → Int32) → (Nat → Int32) → Prop} (h : wp_X0_writeNumbers v_count v_leastImage v_numbers v_places p1 post) : Met l yX0_writeNumbers wsX0_writeNumbers rm_X0_writeNumbers (va_Pc [.ref a_this, .int p1] (q_pre D cI cZ cJ tb (wd_X0_writeNumbers cI cZ cJ a_this a_leastImage a_numbers a_places a_imageX a_imageY a_image v_count v_leastImage v_numbers v_places) sz)) (va_Qv (fun (u : (Nat → Int32) × (Nat → Int32)) => post u.1 u.2) (fun u => q_post D cI cZ cJ (va_A (wd_X0_writeNumbers cI cZ cJ a_this a_leastImage a_numbers a_places a_imageX a_imageY a_image v_count v_leastImage v_numbers v_places) sz) (wd_X0_writeNumbers cI cZ cJ a_this a_leastImage a_numbers a_places a_imageX a_imageY a_image v_count v_leastImage u.1 u.2)) (va_A (wd_X0_writeNumbers cI cZ cJ a_this a_leastImage a_numbers a_places a_imageX a_imageY a_image v_count v_leastImage v_numbers v_places) sz)) 0 0 (va_A (wd_X0_writeNumbers cI cZ cJ a_this a_leastImage a_numbers a_places a_imageX a_imageY a_image v_count v_leastImage v_numbers v_places) sz) := by
  refine q_walkv (cc := cX0_writeNumbers) (maxL := 5) (own := RX0) (wd := fun (u : (Nat → Int32) × (Nat → Int32)) => (wd_X0_writeNumbers cI cZ cJ a_this a_leastImage a_numbers a_places a_imageX a_imageY a_image v_count v_leastImage u.1 u.2)) (by decide) rfl rfl (Nat.le_of_ble_eq_true rfl) ?_
  intro p e s m below meth c Q A ls C hA ret hP hD hS hK hSt hNw hl
  obtain ⟨hx, hb, hml, hown, hts⟩ := id C
  replace hl : lv_has ls 5 [(0, .ref a_this), (1, .int p1)] := hl
  have f27 := hts (.fieldLink RX0 27 "NetSearch$Album" "leastImage" "[I") (by decide +kernel)
  have iX0 : ∀ w ∈ wsX00, w ∈ wsX0_writeNumbers := by decide +kernel
  have f15 := hts (.fieldLink RX0 15 "NetSearch$Album" "numbers" "[I") (by decide +kernel)
  have f37 := hts (.fieldLink RX0 37 "NetSearch$Album" "count" "I") (by decide +kernel)
  have f9 := hts (.fieldLink RX0 9 "NetSearch$Album" "places" "[I") (by decide +kernel)
  have L12_ok : ∀ (v_places : Nat → Int32) (l1 : Int32) (l3 : Int32) (kx67 : Int32 → (Nat → Int32) → Prop) (hkx67 : ∀ (l2 : Int32) (v_numbers : Nat → Int32) (H : Heap) (locs : List Loc) (ls : Array Slot), kx67 l2 v_numbers → va_P D vwCl (wd_X0_writeNumbers cI cZ cJ a_this a_leastImage a_numbers a_places a_imageX a_imageY a_image v_count v_leastImage v_numbers v_places) H → va_D A (wd_X0_writeNumbers cI cZ cJ a_this a_leastImage a_numbers a_places a_imageX a_imageY a_image v_count v_leastImage v_numbers v_places) → va_S A s.heap H locs → lv_has ls 5 [(0, .ref a_this), (1, .int l1), (2, .int l2), (3, .int l3)] → W p l e rm_X0_writeNumbers s m ([.ref a_this, .int p1] : List Value).toArray below meth c H locs 0 0 Q (F0 m 67 ls [])) (n : Nat) (l2 : Int32) (l4 : Int32) (v_numbers : Nat → Int32) (H : Heap) (locs : List Loc) (ls : Array Slot), lpN (wl_X0_writeNumbers_12 v_count v_leastImage l1 l3 kx67) n (l2, l4, v_numbers) → va_P D vwCl (wd_X0_writeNumbers cI cZ cJ a_this a_leastImage a_numbers a_places a_imageX a_imageY a_image v_count v_leastImage v_numbers v_places) H → va_D A (wd_X0_writeNumbers cI cZ cJ a_this a_leastImage a_numbers a_places a_imageX a_imageY a_image v_count v_leastImage v_numbers v_places) → va_S A s.heap H locs → lv_has ls 5 [(0, .ref a_this), (1, .int l1), (2, .int l2), (3, .int l3), (4, .int l4)] → W p l e rm_X0_writeNumbers s m ([.ref a_this, .int p1] : List Value).toArray below meth c H locs 0 0 Q (F0 m 12 ls []) := by
    intro v_places l1 l3 kx67 hkx67 n
    induction n with
    | zero => intro l2 l4 v_numbers H locs ls h; exact False.elim h
    | succ n ih =>
      intro l2 l4 v_numbers H locs ls h hP hD hS hl
      have h : wb_X0_writeNumbers_12 v_count v_leastImage l1 l3 kx67 (fun l2 l4 v_numbers => lpN (wl_X0_writeNumbers_12 v_count v_leastImage l1 l3 kx67) n (l2, l4, v_numbers)) l2 l4 v_numbers := h
      unfold wb_X0_writeNumbers_12 at h
      refine lv_iload hx hb dX0_writeNumbers_12 (lv_at hl 4 rfl) ?_
      refine lv_iload_n hx hb dX0_writeNumbers_14 rfl (lv_at hl 1 rfl) ?_
      refine lv_icmp_ge (tgt := 67) hx hb dX0_writeNumbers_15 (by decide) (fun hc => ?_) (fun hc => ?_)
      · replace h := h.1 hc
        exact hkx67 l2 v_numbers _ _ _ h hP hD hS (lv_sub hl [0, 1, 2, 3] rfl)
      · replace h := h.2 hc
        refine lv_iload_n hx hb dX0_writeNumbers_18 rfl (lv_at hl 2 rfl) ?_
        refine lv_iload_n hx hb dX0_writeNumbers_19 rfl (lv_at hl 1 rfl) ?_
        refine lv_icmp_ge (tgt := 67) hx hb dX0_writeNumbers_20 (by decide) (fun hc => ?_) (fun hc => ?_)
        · replace h := h.1 hc
          exact hkx67 l2 v_numbers _ _ _ h hP hD hS (lv_sub hl [0, 1, 2, 3] rfl)
        · replace h := h.2 hc
          refine lv_aload_n hx hb dX0_writeNumbers_23 rfl (lv_at hl 0 rfl) ?_
          refine va_get (D := D) (ci := 0) (v := .ref a_leastImage) (C := RX0) (T := TX0) (N := 7) hx hb hts iX0 hown hK hP 0 rfl rfl 6 (by decide) f27 (fun _ h9 => h9) rfl dX0_writeNumbers_24 ?_
          refine lv_iload_n hx hb dX0_writeNumbers_27 rfl (lv_at hl 3 rfl) ?_
          obtain ⟨hin, h⟩ := h
          refine va_iald hx hb hK hP 1 0 rfl rfl hin dX0_writeNumbers_28 ?_
          refine lv_iload hx hb dX0_writeNumbers_29 (lv_at hl 4 rfl) ?_
          refine lv_ishr hx hb dX0_writeNumbers_31 ?_
          refine lv_iconst (v := 1) hx hb dX0_writeNumbers_32 (by decide) ?_
          refine lv_iand hx hb dX0_writeNumbers_33 ?_
          refine lv_if_eq (tgt := 61) hx hb dX0_writeNumbers_34 (by decide) (fun hc => ?_) (fun hc => ?_)
          · replace h := h.1 hc
            refine lv_iinc (v := (l4 + (1 : Int32))) (lv' := [(4, .int (l4 + (1 : Int32))), (0, .ref a_this), (1, .int l1), (2, .int l2), (3, .int l3)]) hx hb dX0_writeNumbers_61 hl (k := 4) rfl rfl (by decide) rfl (fun ls hl => ?_)
            refine lv_goto (tgt := 12) hx hb dX0_writeNumbers_64 (by decide) ?_
            exact ih l2 (l4 + (1 : Int32)) v_numbers _ _ _ h hP hD hS (lv_sub hl [1, 2, 3, 4, 0] rfl)
          · replace h := h.2 hc
            refine lv_aload_n hx hb dX0_writeNumbers_37 rfl (lv_at hl 0 rfl) ?_
            refine va_get (D := D) (ci := 0) (v := .ref a_numbers) (C := RX0) (T := TX0) (N := 7) hx hb hts iX0 hown hK hP 0 rfl rfl 2 (by decide) f15 (fun _ h9 => h9) rfl dX0_writeNumbers_38 ?_
            refine lv_aload_n hx hb dX0_writeNumbers_41 rfl (lv_at hl 0 rfl) ?_
            refine va_get (D := D) (ci := 0) (v := .int v_count) (C := RX0) (T := TX0) (N := 7) hx hb hts iX0 hown hK hP 0 rfl rfl 0 (by decide) f37 (fun _ h9 => h9) rfl dX0_writeNumbers_42 ?_
            refine lv_bipush (v := 22) hx hb dX0_writeNumbers_45 (by decide) ?_
            refine lv_imul hx hb dX0_writeNumbers_47 ?_
            refine lv_iload_n hx hb dX0_writeNumbers_48 rfl (lv_at hl 2 rfl) ?_
            refine lv_iadd hx hb dX0_writeNumbers_49 ?_
            refine lv_bipush (v := 32) hx hb dX0_writeNumbers_50 (by decide) ?_
            refine lv_iload_n hx hb dX0_writeNumbers_52 rfl (lv_at hl 3 rfl) ?_
            refine lv_imul hx hb dX0_writeNumbers_53 ?_
            refine lv_iload hx hb dX0_writeNumbers_54 (lv_at hl 4 rfl) ?_
            refine lv_iadd hx hb dX0_writeNumbers_56 ?_
            obtain ⟨hin, h⟩ := h
            refine va_iast hx hb hK hP hD hS 2 0 rfl rfl hin dX0_writeNumbers_57 (fun H locs hP hD hS => ?_)
            replace hP : va_P D vwCl (wd_X0_writeNumbers cI cZ cJ a_this a_leastImage a_numbers a_places a_imageX a_imageY a_image v_count v_leastImage (upd v_numbers ((v_count * (22 : Int32)) + l2).toNatClampNeg (((32 : Int32) * l3) + l4)) v_places) H := hP
            replace hD : va_D A (wd_X0_writeNumbers cI cZ cJ a_this a_leastImage a_numbers a_places a_imageX a_imageY a_image v_count v_leastImage (upd v_numbers ((v_count * (22 : Int32)) + l2).toNatClampNeg (((32 : Int32) * l3) + l4)) v_places) := hD
            refine lv_iinc (v := (l2 + (1 : Int32))) (lv' := [(2, .int (l2 + (1 : Int32))), (0, .ref a_this), (1, .int l1), (3, .int l3), (4, .int l4)]) hx hb dX0_writeNumbers_58 hl (k := 2) rfl rfl (by decide) rfl (fun ls hl => ?_)
            refine lv_iinc (v := (l4 + (1 : Int32))) (lv' := [(4, .int (l4 + (1 : Int32))), (2, .int (l2 + (1 : Int32))), (0, .ref a_this), (1, .int l1), (3, .int l3)]) hx hb dX0_writeNumbers_61 hl (k := 4) rfl rfl (by decide) rfl (fun ls hl => ?_)
            refine lv_goto (tgt := 12) hx hb dX0_writeNumbers_64 (by decide) ?_
            exact ih (l2 + (1 : Int32)) (l4 + (1 : Int32)) (upd v_numbers ((v_count * (22 : Int32)) + l2).toNatClampNeg (((32 : Int32) * l3) + l4)) _ _ _ h hP hD hS (lv_sub hl [2, 3, 1, 4, 0] rfl)
  have L4_ok : ∀ (v_places : Nat → Int32) (l1 : Int32) (kx73 : Int32 → (Nat → Int32) → Prop) (hkx73 : ∀ (l2 : Int32) (v_numbers : Nat → Int32) (H : Heap) (locs : List Loc) (ls : Array Slot), kx73 l2 v_numbers → va_P D vwCl (wd_X0_writeNumbers cI cZ cJ a_this a_leastImage a_numbers a_places a_imageX a_imageY a_image v_count v_leastImage v_numbers v_places) H → va_D A (wd_X0_writeNumbers cI cZ cJ a_this a_leastImage a_numbers a_places a_imageX a_imageY a_image v_count v_leastImage v_numbers v_places) → va_S A s.heap H locs → lv_has ls 5 [(0, .ref a_this), (2, .int l2)] → W p l e rm_X0_writeNumbers s m ([.ref a_this, .int p1] : List Value).toArray below meth c H locs 0 0 Q (F0 m 73 ls [])) (n : Nat) (l2 : Int32) (l3 : Int32) (v_numbers : Nat → Int32) (H : Heap) (locs : List Loc) (ls : Array Slot), lpN (wl_X0_writeNumbers_4 v_count v_leastImage l1 kx73) n (l2, l3, v_numbers) → va_P D vwCl (wd_X0_writeNumbers cI cZ cJ a_this a_leastImage a_numbers a_places a_imageX a_imageY a_image v_count v_leastImage v_numbers v_places) H → va_D A (wd_X0_writeNumbers cI cZ cJ a_this a_leastImage a_numbers a_places a_imageX a_imageY a_image v_count v_leastImage v_numbers v_places) → va_S A s.heap H locs → lv_has ls 5 [(0, .ref a_this), (1, .int l1), (2, .int l2), (3, .int l3)] → W p l e rm_X0_writeNumbers s m ([.ref a_this, .int p1] : List Value).toArray below meth c H locs 0 0 Q (F0 m 4 ls []) := by
    intro v_places l1 kx73 hkx73 n
    induction n with
    | zero => intro l2 l3 v_numbers H locs ls h; exact False.elim h
    | succ n ih =>
      intro l2 l3 v_numbers H locs ls h hP hD hS hl
      have h : wb_X0_writeNumbers_4 v_count v_leastImage l1 kx73 (fun l2 l3 v_numbers => lpN (wl_X0_writeNumbers_4 v_count v_leastImage l1 kx73) n (l2, l3, v_numbers)) l2 l3 v_numbers := h
      unfold wb_X0_writeNumbers_4 at h
      refine lv_iload_n hx hb dX0_writeNumbers_4 rfl (lv_at hl 3 rfl) ?_
      refine lv_iload_n hx hb dX0_writeNumbers_5 rfl (lv_at hl 1 rfl) ?_
      refine lv_icmp_ge (tgt := 73) hx hb dX0_writeNumbers_6 (by decide) (fun hc => ?_) (fun hc => ?_)
      · replace h := h.1 hc
        exact hkx73 l2 v_numbers _ _ _ h hP hD hS (lv_sub hl [0, 2] rfl)
      · replace h := h.2 hc
        refine lv_iconst (v := 0) hx hb dX0_writeNumbers_9 (by decide) ?_
        refine lv_istore (lv' := [(4, .int (0 : Int32)), (0, .ref a_this), (1, .int l1), (2, .int l2), (3, .int l3)]) hx hb dX0_writeNumbers_10 hl (by decide) rfl (fun ls hl => ?_)
        obtain ⟨n, h⟩ := h
        refine L12_ok v_places l1 l3 _ (fun l2_1 v_numbers_2 H locs ls h hP hD hS hl => ?_) n l2 (0 : Int32) v_numbers _ _ _ h hP hD hS (lv_sub hl [1, 2, 3, 4, 0] rfl)
        refine lv_iinc (v := (l3 + (1 : Int32))) (lv' := [(3, .int (l3 + (1 : Int32))), (0, .ref a_this), (1, .int l1), (2, .int l2_1)]) hx hb dX0_writeNumbers_67 hl (k := 3) rfl rfl (by decide) rfl (fun ls hl => ?_)
        refine lv_goto (tgt := 4) hx hb dX0_writeNumbers_70 (by decide) ?_
        exact ih l2_1 (l3 + (1 : Int32)) v_numbers_2 _ _ _ h hP hD hS (lv_sub hl [1, 2, 3, 0] rfl)
  unfold wp_X0_writeNumbers at h
  refine lv_iconst (v := 0) hx hb dX0_writeNumbers_0 (by decide) ?_
  refine lv_istore_n (lv' := [(2, .int (0 : Int32)), (0, .ref a_this), (1, .int p1)]) hx hb dX0_writeNumbers_1 rfl hl (by decide) rfl (fun ls hl => ?_)
  refine lv_iconst (v := 0) hx hb dX0_writeNumbers_2 (by decide) ?_
  refine lv_istore_n (lv' := [(3, .int (0 : Int32)), (2, .int (0 : Int32)), (0, .ref a_this), (1, .int p1)]) hx hb dX0_writeNumbers_3 rfl hl (by decide) rfl (fun ls hl => ?_)
  obtain ⟨n, h⟩ := h
  refine L4_ok v_places p1 _ (fun l2_3 v_numbers_4 H locs ls h hP hD hS hl => ?_) n (0 : Int32) (0 : Int32) v_numbers _ _ _ h hP hD hS (lv_sub hl [2, 3, 1, 0] rfl)
  refine lv_aload_n hx hb dX0_writeNumbers_73 rfl (lv_at hl 0 rfl) ?_
  refine va_get (D := D) (ci := 0) (v := .ref a_places) (C := RX0) (T := TX0) (N := 7) hx hb hts iX0 hown hK hP 0 rfl rfl 1 (by decide) f9 (fun _ h9 => h9) rfl dX0_writeNumbers_74 ?_
  refine lv_aload_n hx hb dX0_writeNumbers_77 rfl (lv_at hl 0 rfl) ?_
  refine va_get (D := D) (ci := 0) (v := .int v_count) (C := RX0) (T := TX0) (N := 7) hx hb hts iX0 hown hK hP 0 rfl rfl 0 (by decide) f37 (fun _ h9 => h9) rfl dX0_writeNumbers_78 ?_
  refine lv_iload_n hx hb dX0_writeNumbers_81 rfl (lv_at hl 1 rfl) ?_
  obtain ⟨hin, h⟩ := h
  refine va_iast hx hb hK hP hD hS 3 0 rfl rfl hin dX0_writeNumbers_82 (fun H locs hP hD hS => ?_)
  replace hP : va_P D vwCl (wd_X0_writeNumbers cI cZ cJ a_this a_leastImage a_numbers a_places a_imageX a_imageY a_image v_count v_leastImage v_numbers_4 (upd v_places v_count.toNatClampNeg l2_3)) H := hP
  replace hD : va_D A (wd_X0_writeNumbers cI cZ cJ a_this a_leastImage a_numbers a_places a_imageX a_imageY a_image v_count v_leastImage v_numbers_4 (upd v_places v_count.toNatClampNeg l2_3)) := hD
  exact ret (v_numbers_4, (upd v_places v_count.toNatClampNeg l2_3)) _ _ _ 83 dX0_writeNumbers_83 h hP hD hS
def wd_X0_keep (cI cZ cJ : ClassId) (a_this a_image a_imageX a_imageY a_leastImage a_numbers a_places a_r1 a_r1_x a_r1_y a_r1_lies a_r1_solid a_r1_headings a_r1_taken : Nat) (v_count : Int32) (v_image : Nat → Int32) (v_imageX : Nat → Int32) (v_imageY : Nat → Int32) (v_leastImage : Nat → Int32) (v_numbers : Nat → Int32) (v_places : Nat → Int32) (v_r1_count : Int32) (v_r1_x : Nat → Int32) (v_r1_y : Nat → Int32) : va_W := [(a_this, .inr (0, [.int v_count, .ref a_places, .ref a_numbers, .ref a_imageX, .ref a_imageY, .ref a_image, .ref a_leastImage])),
  (a_image, .inl (cI, 22, .inl v_image)),
  (a_imageX, .inl (cI, 22, .inl v_imageX)),
  (a_imageY, .inl (cI, 22, .inl v_imageY)),
  (a_leastImage, .inl (cI, 22, .inl v_leastImage)),
  (a_numbers, .inl (cI, 1408, .inl v_numbers)),
  (a_places, .inl (cI, 64, .inl v_places)),
  (a_r1, .inr (3, [.ref a_r1_lies, .ref a_r1_x, .ref a_r1_y, .int v_r1_count, .ref a_r1_solid, .ref a_r1_headings, .ref a_r1_taken])),
  (a_r1_x, .inl (cI, 22, .inl v_r1_x)),
  (a_r1_y, .inl (cI, 22, .inl v_r1_y))]
abbrev rm_X0_keep : Room := { frames := 3, cells := 0, slots := 0, locals := 71 }
set_option maxHeartbeats 4000000 in
set_option maxRecDepth 100000 in
theorem c_X0_keep (l : Launch) (D : va_G) (cI cZ cJ : ClassId) (tb : Nat → Nat) (a_this a_image a_imageX a_imageY a_leastImage a_numbers a_places a_r1 a_r1_x a_r1_y a_r1_lies a_r1_solid a_r1_headings a_r1_taken : Nat) (v_count : Int32) (v_image : Nat → Int32) (v_imageX : Nat → Int32) (v_imageY : Nat → Int32) (v_leastImage : Nat → Int32) (v_numbers : Nat → Int32) (v_places : Nat → Int32) (v_r1_count : Int32) (v_r1_x : Nat → Int32) (v_r1_y : Nat → Int32) (sz : Nat) {post : Int32 → (Nat → Int32) → (Nat → Int32) → (Nat → Int32) → (Nat → Int32) → (Nat → Int32) → (Nat → Int32) → Prop} (h : wp_X0_keep v_count v_image v_imageX v_imageY v_leastImage v_numbers v_places v_r1_count v_r1_x v_r1_y post) : Met l yX0_keep wsX0_keep rm_X0_keep (va_Pc [.ref a_this, .ref a_r1] (q_pre D cI cZ cJ tb (wd_X0_keep cI cZ cJ a_this a_image a_imageX a_imageY a_leastImage a_numbers a_places a_r1 a_r1_x a_r1_y a_r1_lies a_r1_solid a_r1_headings a_r1_taken v_count v_image v_imageX v_imageY v_leastImage v_numbers v_places v_r1_count v_r1_x v_r1_y) sz)) (va_Qv (fun (u : Int32 × (Nat → Int32) × (Nat → Int32) × (Nat → Int32) × (Nat → Int32) × (Nat → Int32) × (Nat → Int32)) => post u.1 u.2.1 u.2.2.1 u.2.2.2.1 u.2.2.2.2.1 u.2.2.2.2.2.1 u.2.2.2.2.2.2) (fun u => q_post D cI cZ cJ (va_A (wd_X0_keep cI cZ cJ a_this a_image a_imageX a_imageY a_leastImage a_numbers a_places a_r1 a_r1_x a_r1_y a_r1_lies a_r1_solid a_r1_headings a_r1_taken v_count v_image v_imageX v_imageY v_leastImage v_numbers v_places v_r1_count v_r1_x v_r1_y) sz) (wd_X0_keep cI cZ cJ a_this a_image a_imageX a_imageY a_leastImage a_numbers a_places a_r1 a_r1_x a_r1_y a_r1_lies a_r1_solid a_r1_headings a_r1_taken u.1 u.2.1 u.2.2.1 u.2.2.2.1 u.2.2.2.2.1 u.2.2.2.2.2.1 u.2.2.2.2.2.2 v_r1_count v_r1_x v_r1_y)) (va_A (wd_X0_keep cI cZ cJ a_this a_image a_imageX a_imageY a_leastImage a_numbers a_places a_r1 a_r1_x a_r1_y a_r1_lies a_r1_solid a_r1_headings a_r1_taken v_count v_image v_imageX v_imageY v_leastImage v_numbers v_places v_r1_count v_r1_x v_r1_y) sz)) 0 0 (va_A (wd_X0_keep cI cZ cJ a_this a_image a_imageX a_imageY a_leastImage a_numbers a_places a_r1 a_r1_x a_r1_y a_r1_lies a_r1_solid a_r1_headings a_r1_taken v_count v_image v_imageX v_imageY v_leastImage v_numbers v_places v_r1_count v_r1_x v_r1_y) sz) := by
  refine q_walkv (cc := cX0_keep) (maxL := 2) (own := RX0) (wd := fun (u : Int32 × (Nat → Int32) × (Nat → Int32) × (Nat → Int32) × (Nat → Int32) × (Nat → Int32) × (Nat → Int32)) => (wd_X0_keep cI cZ cJ a_this a_image a_imageX a_imageY a_leastImage a_numbers a_places a_r1 a_r1_x a_r1_y a_r1_lies a_r1_solid a_r1_headings a_r1_taken u.1 u.2.1 u.2.2.1 u.2.2.2.1 u.2.2.2.2.1 u.2.2.2.2.2.1 u.2.2.2.2.2.2 v_r1_count v_r1_x v_r1_y)) (by decide) rfl rfl (Nat.le_of_ble_eq_true rfl) ?_
  intro p e s m below meth c Q A ls C hA ret hP hD hS hK hSt hNw hl
  obtain ⟨hx, hb, hml, hown, hts⟩ := id C
  replace hl : lv_has ls 2 [(0, .ref a_this), (1, .ref a_r1)] := hl
  have f37 := hts (.fieldLink RX0 37 "NetSearch$Album" "count" "I") (by decide +kernel)
  have iX0 : ∀ w ∈ wsX00, w ∈ wsX0_keep := by decide +kernel
  have f45 := hts (.fieldLink RX0 45 "NetSearch$Sheet" "count" "I") (by decide +kernel)
  have iX3 : ∀ w ∈ wsX30, w ∈ wsX0_keep := by decide +kernel
  unfold wp_X0_keep at h
  refine lv_aload_n hx hb dX0_keep_0 rfl (lv_at hl 0 rfl) ?_
  refine va_get (D := D) (ci := 0) (v := .int v_count) (C := RX0) (T := TX0) (N := 7) hx hb hts iX0 hown hK hP 0 rfl rfl 0 (by decide) f37 (fun _ h9 => h9) rfl dX0_keep_1 ?_
  refine lv_bipush (v := 64) hx hb dX0_keep_4 (by decide) ?_
  refine lv_icmp_lt (tgt := 10) hx hb dX0_keep_6 (by decide) (fun hc => ?_) (fun hc => ?_)
  · replace h := h.1 hc
    refine lv_aload_n hx hb dX0_keep_10 rfl (lv_at hl 0 rfl) ?_
    refine lv_aload_n hx hb dX0_keep_11 rfl (lv_at hl 1 rfl) ?_
    have hPc := hP.sub (ws' := (wd_X0_findLeastImage cI cZ cJ a_this a_image a_imageX a_imageY a_leastImage a_r1 a_r1_x a_r1_y a_places a_numbers a_r1_lies a_r1_solid a_r1_headings a_r1_taken v_count v_image v_imageX v_imageY v_leastImage v_r1_count v_r1_x v_r1_y)) [0, 1, 2, 3, 4, 7, 8, 9] rfl
    have hDc := hD.sub (ws' := (wd_X0_findLeastImage cI cZ cJ a_this a_image a_imageX a_imageY a_leastImage a_r1 a_r1_x a_r1_y a_places a_numbers a_r1_lies a_r1_solid a_r1_headings a_r1_taken v_count v_image v_imageX v_imageY v_leastImage v_r1_count v_r1_x v_r1_y)) [0, 1, 2, 3, 4, 7, 8, 9] (by decide) rfl
    have hFc := va_free (wc := (wd_X0_findLeastImage cI cZ cJ a_this a_image a_imageX a_imageY a_leastImage a_r1 a_r1_x a_r1_y a_places a_numbers a_r1_lies a_r1_solid a_r1_headings a_r1_taken v_count v_image v_imageX v_imageY v_leastImage v_r1_count v_r1_x v_r1_y)) hD hS hA [0, 1, 2, 3, 4, 7, 8, 9] rfl
    refine va_callv (va_runV (As := [.ref a_r1]) (rest := []) C (c_X0_findLeastImage l D cI cZ cJ tb a_this a_image a_imageX a_imageY a_leastImage a_r1 a_r1_x a_r1_y a_places a_numbers a_r1_lies a_r1_solid a_r1_headings a_r1_taken v_count v_image v_imageX v_imageY v_leastImage v_r1_count v_r1_x v_r1_y s.heap.size h) (cwV 1 hts gX0_keep_X0_findLeastImage rfl rfl rfl (by decide +kernel) ⟨Nat.le_of_ble_eq_true rfl, Nat.le_of_ble_eq_true rfl⟩) ⟨q_pre.blind, va_recv hK hP (ci := 0) (q0 := 0) rfl rfl, fun U hU hW => ⟨rfl, q_pre.of hU hW hPc hK hDc hSt hS hFc hNw⟩⟩ rfl rfl hl.1 rfl (lv_room (Nat.le_of_ble_eq_true rfl)) dX0_keep_12 ⟨Nat.zero_le _, Nat.zero_le _⟩) hS (fun q _ h => hFc q h) hFc (fun u_2 t H1 locs ht hvm hw hB hz1 hk1 hS => ?_)
    obtain ⟨hP1, hK1, hD1⟩ := hB
    rw [ht] at hP1
    obtain ⟨hP, hD⟩ := va_join (wr := [(a_numbers, .inl (cI, 1408, .inl v_numbers)), (a_places, .inl (cI, 64, .inl v_places))]) (w1 := (wd_X0_findLeastImage cI cZ cJ a_this a_image a_imageX a_imageY a_leastImage a_r1 a_r1_x a_r1_y a_places a_numbers a_r1_lies a_r1_solid a_r1_headings a_r1_taken v_count u_2.1 u_2.2.1 u_2.2.2.1 u_2.2.2.2 v_r1_count v_r1_x v_r1_y)) hP hD [0, 1, 2, 3, 4, 7, 8, 9] [5, 6] rfl rfl (by decide) (by decide) hk1 hFc hP1 hD1
    clear hPc hDc hFc hP1 hD1 hK1 hk1 hz1 ht hvm
    replace h := hw
    clear hw
    generalize H1 = H at hP hS ⊢
    replace hP : va_P D vwCl (wd_X0_keep cI cZ cJ a_this a_image a_imageX a_imageY a_leastImage a_numbers a_places a_r1 a_r1_x a_r1_y a_r1_lies a_r1_solid a_r1_headings a_r1_taken v_count u_2.1 u_2.2.1 u_2.2.2.1 u_2.2.2.2 v_numbers v_places v_r1_count v_r1_x v_r1_y) H := hP.sub [2, 3, 4, 5, 6, 0, 1, 7, 8, 9] rfl
    replace hD : va_D A (wd_X0_keep cI cZ cJ a_this a_image a_imageX a_imageY a_leastImage a_numbers a_places a_r1 a_r1_x a_r1_y a_r1_lies a_r1_solid a_r1_headings a_r1_taken v_count u_2.1 u_2.2.1 u_2.2.2.1 u_2.2.2.2 v_numbers v_places v_r1_count v_r1_x v_r1_y) := hD.sub [2, 3, 4, 5, 6, 0, 1, 7, 8, 9] (by decide) rfl
    refine lv_aload_n hx hb dX0_keep_15 rfl (lv_at hl 0 rfl) ?_
    refine lv_aload_n hx hb dX0_keep_16 rfl (lv_at hl 1 rfl) ?_
    refine va_get (D := D) (ci := 3) (v := .int v_r1_count) (C := RX3) (T := TX3) (N := 7) hx hb hts iX3 hown hK hP 7 rfl rfl 3 (by decide) f45 (fun _ h9 => h9) rfl dX0_keep_17 ?_
    have hPc := hP.sub (ws' := (wd_X0_writeNumbers cI cZ cJ a_this a_leastImage a_numbers a_places a_imageX a_imageY a_image v_count u_2.2.2.2 v_numbers v_places)) [0, 4, 5, 6] rfl
    have hDc := hD.sub (ws' := (wd_X0_writeNumbers cI cZ cJ a_this a_leastImage a_numbers a_places a_imageX a_imageY a_image v_count u_2.2.2.2 v_numbers v_places)) [0, 4, 5, 6] (by decide) rfl
    have hFc := va_free (wc := (wd_X0_writeNumbers cI cZ cJ a_this a_leastImage a_numbers a_places a_imageX a_imageY a_image v_count u_2.2.2.2 v_numbers v_places)) hD hS hA [0, 4, 5, 6] rfl
    refine va_callv (va_runV (As := [.int v_r1_count]) (rest := []) C (c_X0_writeNumbers l D cI cZ cJ tb a_this a_leastImage a_numbers a_places a_imageX a_imageY a_image v_count u_2.2.2.2 v_numbers v_places H.size v_r1_count h) (cwV 1 hts gX0_keep_X0_writeNumbers rfl rfl rfl (by decide +kernel) ⟨Nat.le_of_ble_eq_true rfl, Nat.le_of_ble_eq_true rfl⟩) ⟨q_pre.blind, va_recv hK hP (ci := 0) (q0 := 0) rfl rfl, fun U hU hW => ⟨rfl, q_pre.of hU hW hPc hK hDc hSt hS hFc hNw⟩⟩ rfl rfl hl.1 rfl (lv_room (Nat.le_of_ble_eq_true rfl)) dX0_keep_20 ⟨Nat.zero_le _, Nat.zero_le _⟩) hS (fun q _ h => hFc q h) hFc (fun u_8 t H1 locs ht hvm hw hB hz1 hk1 hS => ?_)
    obtain ⟨hP1, hK1, hD1⟩ := hB
    rw [ht] at hP1
    obtain ⟨hP, hD⟩ := va_join (wr := [(a_image, .inl (cI, 22, .inl u_2.1)), (a_imageX, .inl (cI, 22, .inl u_2.2.1)), (a_imageY, .inl (cI, 22, .inl u_2.2.2.1)), (a_r1, .inr (3, [.ref a_r1_lies, .ref a_r1_x, .ref a_r1_y, .int v_r1_count, .ref a_r1_solid, .ref a_r1_headings, .ref a_r1_taken])), (a_r1_x, .inl (cI, 22, .inl v_r1_x)), (a_r1_y, .inl (cI, 22, .inl v_r1_y))]) (w1 := (wd_X0_writeNumbers cI cZ cJ a_this a_leastImage a_numbers a_places a_imageX a_imageY a_image v_count u_2.2.2.2 u_8.1 u_8.2)) hP hD [0, 4, 5, 6] [1, 2, 3, 7, 8, 9] rfl rfl (by decide) (by decide) hk1 hFc hP1 hD1
    clear hPc hDc hFc hP1 hD1 hK1 hk1 hz1 ht hvm
    replace h := hw
    clear hw
    generalize H1 = H at hP hS ⊢
    replace hP : va_P D vwCl (wd_X0_keep cI cZ cJ a_this a_image a_imageX a_imageY a_leastImage a_numbers a_places a_r1 a_r1_x a_r1_y a_r1_lies a_r1_solid a_r1_headings a_r1_taken v_count u_2.1 u_2.2.1 u_2.2.2.1 u_2.2.2.2 u_8.1 u_8.2 v_r1_count v_r1_x v_r1_y) H := hP.sub [6, 0, 1, 2, 7, 8, 9, 3, 4, 5] rfl
    replace hD : va_D A (wd_X0_keep cI cZ cJ a_this a_image a_imageX a_imageY a_leastImage a_numbers a_places a_r1 a_r1_x a_r1_y a_r1_lies a_r1_solid a_r1_headings a_r1_taken v_count u_2.1 u_2.2.1 u_2.2.2.1 u_2.2.2.2 u_8.1 u_8.2 v_r1_count v_r1_x v_r1_y) := hD.sub [6, 0, 1, 2, 7, 8, 9, 3, 4, 5] (by decide) rfl
    refine lv_aload_n hx hb dX0_keep_23 rfl (lv_at hl 0 rfl) ?_
    have hPc := hP.sub (ws' := (wd_X0_isLastNew cI cZ cJ a_this a_numbers a_places a_imageX a_imageY a_image a_leastImage v_count u_8.1 u_8.2)) [0, 5, 6] rfl
    have hDc := hD.sub (ws' := (wd_X0_isLastNew cI cZ cJ a_this a_numbers a_places a_imageX a_imageY a_image a_leastImage v_count u_8.1 u_8.2)) [0, 5, 6] (by decide) rfl
    have hFc := va_free (wc := (wd_X0_isLastNew cI cZ cJ a_this a_numbers a_places a_imageX a_imageY a_image a_leastImage v_count u_8.1 u_8.2)) hD hS hA [0, 5, 6] rfl
    refine va_calli (va_runV (As := []) (rest := []) C (c_X0_isLastNew l D cI cZ cJ tb a_this a_numbers a_places a_imageX a_imageY a_image a_leastImage v_count u_8.1 u_8.2 H.size h) (cwV 0 hts gX0_keep_X0_isLastNew rfl rfl rfl (by decide +kernel) ⟨Nat.le_of_ble_eq_true rfl, Nat.le_of_ble_eq_true rfl⟩) ⟨q_pre.blind, va_recv hK hP (ci := 0) (q0 := 0) rfl rfl, fun U hU hW => ⟨rfl, q_pre.of hU hW hPc hK hDc hSt hS hFc hNw⟩⟩ rfl rfl hl.1 rfl (lv_room (Nat.le_of_ble_eq_true rfl)) dX0_keep_24 ⟨Nat.zero_le _, Nat.zero_le _⟩) hS (fun q _ h => hFc q h) hFc (fun r_11 u_12 t H1 locs ht hvm hw hB hz1 hk1 hS => ?_)
    obtain ⟨hP1, hK1, hD1⟩ := hB
    rw [ht] at hP1
    obtain ⟨hP, hD⟩ := va_join (wr := [(a_image, .inl (cI, 22, .inl u_2.1)), (a_imageX, .inl (cI, 22, .inl u_2.2.1)), (a_imageY, .inl (cI, 22, .inl u_2.2.2.1)), (a_leastImage, .inl (cI, 22, .inl u_2.2.2.2)), (a_r1, .inr (3, [.ref a_r1_lies, .ref a_r1_x, .ref a_r1_y, .int v_r1_count, .ref a_r1_solid, .ref a_r1_headings, .ref a_r1_taken])), (a_r1_x, .inl (cI, 22, .inl v_r1_x)), (a_r1_y, .inl (cI, 22, .inl v_r1_y))]) (w1 := (wd_X0_isLastNew cI cZ cJ a_this a_numbers a_places a_imageX a_imageY a_image a_leastImage v_count u_8.1 u_8.2)) hP hD [0, 5, 6] [1, 2, 3, 4, 7, 8, 9] rfl rfl (by decide) (by decide) hk1 hFc hP1 hD1
    clear hPc hDc hFc hP1 hD1 hK1 hk1 hz1 ht hvm
    replace h := hw
    clear hw
    generalize H1 = H at hP hS ⊢
    replace hP : va_P D vwCl (wd_X0_keep cI cZ cJ a_this a_image a_imageX a_imageY a_leastImage a_numbers a_places a_r1 a_r1_x a_r1_y a_r1_lies a_r1_solid a_r1_headings a_r1_taken v_count u_2.1 u_2.2.1 u_2.2.2.1 u_2.2.2.2 u_8.1 u_8.2 v_r1_count v_r1_x v_r1_y) H := hP.sub [7, 0, 1, 2, 3, 8, 9, 4, 5, 6] rfl
    replace hD : va_D A (wd_X0_keep cI cZ cJ a_this a_image a_imageX a_imageY a_leastImage a_numbers a_places a_r1 a_r1_x a_r1_y a_r1_lies a_r1_solid a_r1_headings a_r1_taken v_count u_2.1 u_2.2.1 u_2.2.2.1 u_2.2.2.2 u_8.1 u_8.2 v_r1_count v_r1_x v_r1_y) := hD.sub [7, 0, 1, 2, 3, 8, 9, 4, 5, 6] (by decide) rfl
    refine lv_if_eq (tgt := 40) hx hb dX0_keep_27 (by decide) (fun hc => ?_) (fun hc => ?_)
    · replace h := h.1 hc
      exact ret (v_count, u_2.1, u_2.2.1, u_2.2.2.1, u_2.2.2.2, u_8.1, u_8.2) _ _ _ 40 dX0_keep_40 h hP hD hS
    · replace h := h.2 hc
      refine lv_aload_n hx hb dX0_keep_30 rfl (lv_at hl 0 rfl) ?_
      refine lv_dup hx hb dX0_keep_31 rfl ?_
      refine va_get (D := D) (ci := 0) (v := .int v_count) (C := RX0) (T := TX0) (N := 7) hx hb hts iX0 hown hK hP 0 rfl rfl 0 (by decide) f37 (fun _ h9 => h9) rfl dX0_keep_32 ?_
      refine lv_iconst (v := 1) hx hb dX0_keep_35 (by decide) ?_
      refine lv_iadd hx hb dX0_keep_36 ?_
      refine va_put (D := D) (ci := 0) (v := .int (v_count + (1 : Int32))) (ty := .int) (C := RX0) (T := TX0) (N := 7) hx hb hts iX0 tyX0 tyX0_ok nmX0 hown hK hP hD hS 0 rfl rfl 0 (by decide) f37 (fun _ h9 => h9) rfl (by decide +kernel) rfl rfl (Nat.le_of_ble_eq_true rfl) dX0_keep_37 (fun H locs hP hD hS => ?_)
      replace hP : va_P D vwCl (wd_X0_keep cI cZ cJ a_this a_image a_imageX a_imageY a_leastImage a_numbers a_places a_r1 a_r1_x a_r1_y a_r1_lies a_r1_solid a_r1_headings a_r1_taken (v_count + (1 : Int32)) u_2.1 u_2.2.1 u_2.2.2.1 u_2.2.2.2 u_8.1 u_8.2 v_r1_count v_r1_x v_r1_y) H := hP
      replace hD : va_D A (wd_X0_keep cI cZ cJ a_this a_image a_imageX a_imageY a_leastImage a_numbers a_places a_r1 a_r1_x a_r1_y a_r1_lies a_r1_solid a_r1_headings a_r1_taken (v_count + (1 : Int32)) u_2.1 u_2.2.1 u_2.2.2.1 u_2.2.2.2 u_8.1 u_8.2 v_r1_count v_r1_x v_r1_y) := hD
      exact ret ((v_count + (1 : Int32)), u_2.1, u_2.2.1, u_2.2.2.1, u_2.2.2.2, u_8.1, u_8.2) _ _ _ 40 dX0_keep_40 h hP hD hS
  · replace h := h.2 hc
    exact ret (v_count, v_image, v_imageX, v_imageY, v_leastImage, v_numbers, v_places) _ _ _ 9 dX0_keep_9 h hP hD hS
def wd_X0_placeX (cI cZ cJ : ClassId) (a_this a_numbers a_places a_imageX a_imageY a_image a_leastImage : Nat) (v_count : Int32) (v_numbers : Nat → Int32) : va_W := [(a_this, .inr (0, [.int v_count, .ref a_places, .ref a_numbers, .ref a_imageX, .ref a_imageY, .ref a_image, .ref a_leastImage])),
  (a_numbers, .inl (cI, 1408, .inl v_numbers))]
abbrev rm_X0_placeX : Room := { frames := 0, cells := 0, slots := 0, locals := 0 }
set_option maxHeartbeats 4000000 in
set_option maxRecDepth 100000 in
theorem c_X0_placeX (l : Launch) (D : va_G) (cI cZ cJ : ClassId) (tb : Nat → Nat) (a_this a_numbers a_places a_imageX a_imageY a_image a_leastImage : Nat) (v_count : Int32) (v_numbers : Nat → Int32) (sz : Nat) (p1 : Int32) (p2 : Int32) {post : Int32 → Prop} (h : wp_X0_placeX v_numbers p1 p2 post) : Met l yX0_placeX wsX0_placeX rm_X0_placeX (va_Pc [.ref a_this, .int p1, .int p2] (q_pre D cI cZ cJ tb (wd_X0_placeX cI cZ cJ a_this a_numbers a_places a_imageX a_imageY a_image a_leastImage v_count v_numbers) sz)) (va_Qi (fun r (u : Unit) => post r) (fun u => q_post D cI cZ cJ (va_A (wd_X0_placeX cI cZ cJ a_this a_numbers a_places a_imageX a_imageY a_image a_leastImage v_count v_numbers) sz) (wd_X0_placeX cI cZ cJ a_this a_numbers a_places a_imageX a_imageY a_image a_leastImage v_count v_numbers)) (va_A (wd_X0_placeX cI cZ cJ a_this a_numbers a_places a_imageX a_imageY a_image a_leastImage v_count v_numbers) sz)) 0 0 (va_A (wd_X0_placeX cI cZ cJ a_this a_numbers a_places a_imageX a_imageY a_image a_leastImage v_count v_numbers) sz) := by
  refine q_walki (cc := cX0_placeX) (maxL := 3) (own := RX0) (wd := fun (u : Unit) => (wd_X0_placeX cI cZ cJ a_this a_numbers a_places a_imageX a_imageY a_image a_leastImage v_count v_numbers)) (by decide) rfl rfl (Nat.le_of_ble_eq_true rfl) ?_
  intro p e s m below meth c Q A ls C hA ret hP hD hS hK hSt hNw hl
  obtain ⟨hx, hb, hml, hown, hts⟩ := id C
  replace hl : lv_has ls 3 [(0, .ref a_this), (1, .int p1), (2, .int p2)] := hl
  have f15 := hts (.fieldLink RX0 15 "NetSearch$Album" "numbers" "[I") (by decide +kernel)
  have iX0 : ∀ w ∈ wsX00, w ∈ wsX0_placeX := by decide +kernel
  unfold wp_X0_placeX at h
  refine lv_aload_n hx hb dX0_placeX_0 rfl (lv_at hl 0 rfl) ?_
  refine va_get (D := D) (ci := 0) (v := .ref a_numbers) (C := RX0) (T := TX0) (N := 7) hx hb hts iX0 hown hK hP 0 rfl rfl 2 (by decide) f15 (fun _ h9 => h9) rfl dX0_placeX_1 ?_
  refine lv_iload_n hx hb dX0_placeX_4 rfl (lv_at hl 1 rfl) ?_
  refine lv_bipush (v := 22) hx hb dX0_placeX_5 (by decide) ?_
  refine lv_imul hx hb dX0_placeX_7 ?_
  refine lv_iload_n hx hb dX0_placeX_8 rfl (lv_at hl 2 rfl) ?_
  refine lv_iadd hx hb dX0_placeX_9 ?_
  obtain ⟨hin, h⟩ := h
  refine va_iald hx hb hK hP 1 0 rfl rfl hin dX0_placeX_10 ?_
  refine lv_bipush (v := 32) hx hb dX0_placeX_11 (by decide) ?_
  refine lv_irem hx hb dX0_placeX_13 (by decide) ?_
  exact ret ((v_numbers ((p1 * (22 : Int32)) + p2).toNatClampNeg) - (v_numbers ((p1 * (22 : Int32)) + p2).toNatClampNeg) / (32 : Int32) * (32 : Int32)) () _ _ _ 14 dX0_placeX_14 h hP hD hS
def wd_X0_placeY (cI cZ cJ : ClassId) (a_this a_numbers a_places a_imageX a_imageY a_image a_leastImage : Nat) (v_count : Int32) (v_numbers : Nat → Int32) : va_W := [(a_this, .inr (0, [.int v_count, .ref a_places, .ref a_numbers, .ref a_imageX, .ref a_imageY, .ref a_image, .ref a_leastImage])),
  (a_numbers, .inl (cI, 1408, .inl v_numbers))]
abbrev rm_X0_placeY : Room := { frames := 0, cells := 0, slots := 0, locals := 0 }
set_option maxHeartbeats 4000000 in
set_option maxRecDepth 100000 in
theorem c_X0_placeY (l : Launch) (D : va_G) (cI cZ cJ : ClassId) (tb : Nat → Nat) (a_this a_numbers a_places a_imageX a_imageY a_image a_leastImage : Nat) (v_count : Int32) (v_numbers : Nat → Int32) (sz : Nat) (p1 : Int32) (p2 : Int32) {post : Int32 → Prop} (h : wp_X0_placeY v_numbers p1 p2 post) : Met l yX0_placeY wsX0_placeY rm_X0_placeY (va_Pc [.ref a_this, .int p1, .int p2] (q_pre D cI cZ cJ tb (wd_X0_placeY cI cZ cJ a_this a_numbers a_places a_imageX a_imageY a_image a_leastImage v_count v_numbers) sz)) (va_Qi (fun r (u : Unit) => post r) (fun u => q_post D cI cZ cJ (va_A (wd_X0_placeY cI cZ cJ a_this a_numbers a_places a_imageX a_imageY a_image a_leastImage v_count v_numbers) sz) (wd_X0_placeY cI cZ cJ a_this a_numbers a_places a_imageX a_imageY a_image a_leastImage v_count v_numbers)) (va_A (wd_X0_placeY cI cZ cJ a_this a_numbers a_places a_imageX a_imageY a_image a_leastImage v_count v_numbers) sz)) 0 0 (va_A (wd_X0_placeY cI cZ cJ a_this a_numbers a_places a_imageX a_imageY a_image a_leastImage v_count v_numbers) sz) := by
  refine q_walki (cc := cX0_placeY) (maxL := 3) (own := RX0) (wd := fun (u : Unit) => (wd_X0_placeY cI cZ cJ a_this a_numbers a_places a_imageX a_imageY a_image a_leastImage v_count v_numbers)) (by decide) rfl rfl (Nat.le_of_ble_eq_true rfl) ?_
  intro p e s m below meth c Q A ls C hA ret hP hD hS hK hSt hNw hl
  obtain ⟨hx, hb, hml, hown, hts⟩ := id C
  replace hl : lv_has ls 3 [(0, .ref a_this), (1, .int p1), (2, .int p2)] := hl
  have f15 := hts (.fieldLink RX0 15 "NetSearch$Album" "numbers" "[I") (by decide +kernel)
  have iX0 : ∀ w ∈ wsX00, w ∈ wsX0_placeY := by decide +kernel
  unfold wp_X0_placeY at h
  refine lv_aload_n hx hb dX0_placeY_0 rfl (lv_at hl 0 rfl) ?_
  refine va_get (D := D) (ci := 0) (v := .ref a_numbers) (C := RX0) (T := TX0) (N := 7) hx hb hts iX0 hown hK hP 0 rfl rfl 2 (by decide) f15 (fun _ h9 => h9) rfl dX0_placeY_1 ?_
  refine lv_iload_n hx hb dX0_placeY_4 rfl (lv_at hl 1 rfl) ?_
  refine lv_bipush (v := 22) hx hb dX0_placeY_5 (by decide) ?_
  refine lv_imul hx hb dX0_placeY_7 ?_
  refine lv_iload_n hx hb dX0_placeY_8 rfl (lv_at hl 2 rfl) ?_
  refine lv_iadd hx hb dX0_placeY_9 ?_
  obtain ⟨hin, h⟩ := h
  refine va_iald hx hb hK hP 1 0 rfl rfl hin dX0_placeY_10 ?_
  refine lv_bipush (v := 32) hx hb dX0_placeY_11 (by decide) ?_
  refine lv_idiv hx hb dX0_placeY_13 (by decide) ?_
  exact ret ((v_numbers ((p1 * (22 : Int32)) + p2).toNatClampNeg) / (32 : Int32)) () _ _ _ 14 dX0_placeY_14 h hP hD hS
def wd_X0_placeAt (cI cZ cJ : ClassId) (a_this a_numbers a_places a_imageX a_imageY a_image a_leastImage : Nat) (v_count : Int32) (v_numbers : Nat → Int32) (v_places : Nat → Int32) : va_W := [(a_this, .inr (0, [.int v_count, .ref a_places, .ref a_numbers, .ref a_imageX, .ref a_imageY, .ref a_image, .ref a_leastImage])),
  (a_numbers, .inl (cI, 1408, .inl v_numbers)),
  (a_places, .inl (cI, 64, .inl v_places))]
abbrev rm_X0_placeAt : Room := { frames := 1, cells := 0, slots := 0, locals := 22 }
set_option maxHeartbeats 4000000 in
set_option maxRecDepth 100000 in
theorem c_X0_placeAt (l : Launch) (D : va_G) (cI cZ cJ : ClassId) (tb : Nat → Nat) (a_this a_numbers a_places a_imageX a_imageY a_image a_leastImage : Nat) (v_count : Int32) (v_numbers : Nat → Int32) (v_places : Nat → Int32) (sz : Nat) (p1 : Int32) (p2 : Int32) (p3 : Int32) {post : Int32 → Prop} (h : wp_X0_placeAt v_numbers v_places p1 p2 p3 post) : Met l yX0_placeAt wsX0_placeAt rm_X0_placeAt (va_Pc [.ref a_this, .int p1, .int p2, .int p3] (q_pre D cI cZ cJ tb (wd_X0_placeAt cI cZ cJ a_this a_numbers a_places a_imageX a_imageY a_image a_leastImage v_count v_numbers v_places) sz)) (va_Qi (fun r (u : Unit) => post r) (fun u => q_post D cI cZ cJ (va_A (wd_X0_placeAt cI cZ cJ a_this a_numbers a_places a_imageX a_imageY a_image a_leastImage v_count v_numbers v_places) sz) (wd_X0_placeAt cI cZ cJ a_this a_numbers a_places a_imageX a_imageY a_image a_leastImage v_count v_numbers v_places)) (va_A (wd_X0_placeAt cI cZ cJ a_this a_numbers a_places a_imageX a_imageY a_image a_leastImage v_count v_numbers v_places) sz)) 0 0 (va_A (wd_X0_placeAt cI cZ cJ a_this a_numbers a_places a_imageX a_imageY a_image a_leastImage v_count v_numbers v_places) sz) := by
  refine q_walki (cc := cX0_placeAt) (maxL := 5) (own := RX0) (wd := fun (u : Unit) => (wd_X0_placeAt cI cZ cJ a_this a_numbers a_places a_imageX a_imageY a_image a_leastImage v_count v_numbers v_places)) (by decide) rfl rfl (Nat.le_of_ble_eq_true rfl) ?_
  intro p e s m below meth c Q A ls C hA ret hP hD hS hK hSt hNw hl
  obtain ⟨hx, hb, hml, hown, hts⟩ := id C
  replace hl : lv_has ls 5 [(0, .ref a_this), (1, .int p1), (2, .int p2), (3, .int p3)] := hl
  have f9 := hts (.fieldLink RX0 9 "NetSearch$Album" "places" "[I") (by decide +kernel)
  have iX0 : ∀ w ∈ wsX00, w ∈ wsX0_placeAt := by decide +kernel
  have L3_ok : ∀ (l1 : Int32) (l2 : Int32) (l3 : Int32) (kx36 : Int32 → Prop) (hkx36 : ∀ (l4 : Int32) (H : Heap) (locs : List Loc) (ls : Array Slot), kx36 l4 → va_P D vwCl (wd_X0_placeAt cI cZ cJ a_this a_numbers a_places a_imageX a_imageY a_image a_leastImage v_count v_numbers v_places) H → va_D A (wd_X0_placeAt cI cZ cJ a_this a_numbers a_places a_imageX a_imageY a_image a_leastImage v_count v_numbers v_places) → va_S A s.heap H locs → lv_has ls 5 [(4, .int l4)] → W p l e rm_X0_placeAt s m ([.ref a_this, .int p1, .int p2, .int p3] : List Value).toArray below meth c H locs 0 0 Q (F0 m 36 ls [])) (kx45 : Prop) (hkx45 : ∀ (H : Heap) (locs : List Loc) (ls : Array Slot), kx45  → va_P D vwCl (wd_X0_placeAt cI cZ cJ a_this a_numbers a_places a_imageX a_imageY a_image a_leastImage v_count v_numbers v_places) H → va_D A (wd_X0_placeAt cI cZ cJ a_this a_numbers a_places a_imageX a_imageY a_image a_leastImage v_count v_numbers v_places) → va_S A s.heap H locs → lv_has ls 5 [] → W p l e rm_X0_placeAt s m ([.ref a_this, .int p1, .int p2, .int p3] : List Value).toArray below meth c H locs 0 0 Q (F0 m 45 ls [])) (n : Nat) (l4 : Int32) (H : Heap) (locs : List Loc) (ls : Array Slot), lpN (wl_X0_placeAt_3 v_numbers v_places l1 l2 l3 kx36 kx45) n l4 → va_P D vwCl (wd_X0_placeAt cI cZ cJ a_this a_numbers a_places a_imageX a_imageY a_image a_leastImage v_count v_numbers v_places) H → va_D A (wd_X0_placeAt cI cZ cJ a_this a_numbers a_places a_imageX a_imageY a_image a_leastImage v_count v_numbers v_places) → va_S A s.heap H locs → lv_has ls 5 [(0, .ref a_this), (1, .int l1), (2, .int l2), (3, .int l3), (4, .int l4)] → W p l e rm_X0_placeAt s m ([.ref a_this, .int p1, .int p2, .int p3] : List Value).toArray below meth c H locs 0 0 Q (F0 m 3 ls []) := by
    intro l1 l2 l3 kx36 hkx36 kx45 hkx45 n
    induction n with
    | zero => intro l4 H locs ls h; exact False.elim h
    | succ n ih =>
      intro l4 H locs ls h hP hD hS hl
      have h : wb_X0_placeAt_3 v_numbers v_places l1 l2 l3 kx36 kx45 (fun l4 => lpN (wl_X0_placeAt_3 v_numbers v_places l1 l2 l3 kx36 kx45) n l4) l4 := h
      unfold wb_X0_placeAt_3 at h
      refine lv_iload hx hb dX0_placeAt_3 (lv_at hl 4 rfl) ?_
      refine lv_aload_n hx hb dX0_placeAt_5 rfl (lv_at hl 0 rfl) ?_
      refine va_get (D := D) (ci := 0) (v := .ref a_places) (C := RX0) (T := TX0) (N := 7) hx hb hts iX0 hown hK hP 0 rfl rfl 1 (by decide) f9 (fun _ h9 => h9) rfl dX0_placeAt_6 ?_
      refine lv_iload_n hx hb dX0_placeAt_9 rfl (lv_at hl 1 rfl) ?_
      obtain ⟨hin, h⟩ := h
      refine va_iald hx hb hK hP 2 0 rfl rfl hin dX0_placeAt_10 ?_
      refine lv_icmp_ge (tgt := 45) hx hb dX0_placeAt_11 (by decide) (fun hc => ?_) (fun hc => ?_)
      · replace h := h.1 hc
        exact hkx45  _ _ _ h hP hD hS (lv_sub hl [] rfl)
      · replace h := h.2 hc
        refine lv_aload_n hx hb dX0_placeAt_14 rfl (lv_at hl 0 rfl) ?_
        refine lv_iload_n hx hb dX0_placeAt_15 rfl (lv_at hl 1 rfl) ?_
        refine lv_iload hx hb dX0_placeAt_16 (lv_at hl 4 rfl) ?_
        have hPc := hP.sub (ws' := (wd_X0_placeX cI cZ cJ a_this a_numbers a_places a_imageX a_imageY a_image a_leastImage v_count v_numbers)) [0, 1] rfl
        have hDc := hD.sub (ws' := (wd_X0_placeX cI cZ cJ a_this a_numbers a_places a_imageX a_imageY a_image a_leastImage v_count v_numbers)) [0, 1] (by decide) rfl
        have hFc := va_free (wc := (wd_X0_placeX cI cZ cJ a_this a_numbers a_places a_imageX a_imageY a_image a_leastImage v_count v_numbers)) hD hS hA [0, 1] rfl
        refine va_calli (va_runV (As := [.int l1, .int l4]) (rest := []) C (c_X0_placeX l D cI cZ cJ tb a_this a_numbers a_places a_imageX a_imageY a_image a_leastImage v_count v_numbers H.size l1 l4 h) (cwV 2 hts gX0_placeAt_X0_placeX rfl rfl rfl (by decide +kernel) ⟨Nat.le_of_ble_eq_true rfl, Nat.le_of_ble_eq_true rfl⟩) ⟨q_pre.blind, va_recv hK hP (ci := 0) (q0 := 0) rfl rfl, fun U hU hW => ⟨rfl, q_pre.of hU hW hPc hK hDc hSt hS hFc hNw⟩⟩ rfl rfl hl.1 rfl (lv_room (Nat.le_of_ble_eq_true rfl)) dX0_placeAt_18 ⟨Nat.zero_le _, Nat.zero_le _⟩) hS (fun q _ h => hFc q h) hFc (fun r_1 u_2 t H1 locs ht hvm hw hB hz1 hk1 hS => ?_)
        obtain ⟨hP1, hK1, hD1⟩ := hB
        rw [ht] at hP1
        obtain ⟨hP, hD⟩ := va_join (wr := [(a_places, .inl (cI, 64, .inl v_places))]) (w1 := (wd_X0_placeX cI cZ cJ a_this a_numbers a_places a_imageX a_imageY a_image a_leastImage v_count v_numbers)) hP hD [0, 1] [2] rfl rfl (by decide) (by decide) hk1 hFc hP1 hD1
        clear hPc hDc hFc hP1 hD1 hK1 hk1 hz1 ht hvm
        replace h := hw
        clear hw
        generalize H1 = H at hP hS ⊢
        replace hP : va_P D vwCl (wd_X0_placeAt cI cZ cJ a_this a_numbers a_places a_imageX a_imageY a_image a_leastImage v_count v_numbers v_places) H := hP.sub [1, 2, 0] rfl
        replace hD : va_D A (wd_X0_placeAt cI cZ cJ a_this a_numbers a_places a_imageX a_imageY a_image a_leastImage v_count v_numbers v_places) := hD.sub [1, 2, 0] (by decide) rfl
        refine lv_iload_n hx hb dX0_placeAt_21 rfl (lv_at hl 2 rfl) ?_
        refine lv_icmp_ne (tgt := 39) hx hb dX0_placeAt_22 (by decide) (fun hc => ?_) (fun hc => ?_)
        · replace h := h.1 hc
          refine lv_iinc (v := (l4 + (1 : Int32))) (lv' := [(4, .int (l4 + (1 : Int32))), (0, .ref a_this), (1, .int l1), (2, .int l2), (3, .int l3)]) hx hb dX0_placeAt_39 hl (k := 4) rfl rfl (by decide) rfl (fun ls hl => ?_)
          refine lv_goto (tgt := 3) hx hb dX0_placeAt_42 (by decide) ?_
          exact ih (l4 + (1 : Int32)) _ _ _ h hP hD hS (lv_sub hl [1, 2, 3, 4, 0] rfl)
        · replace h := h.2 hc
          refine lv_aload_n hx hb dX0_placeAt_25 rfl (lv_at hl 0 rfl) ?_
          refine lv_iload_n hx hb dX0_placeAt_26 rfl (lv_at hl 1 rfl) ?_
          refine lv_iload hx hb dX0_placeAt_27 (lv_at hl 4 rfl) ?_
          have hPc := hP.sub (ws' := (wd_X0_placeY cI cZ cJ a_this a_numbers a_places a_imageX a_imageY a_image a_leastImage v_count v_numbers)) [0, 1] rfl
          have hDc := hD.sub (ws' := (wd_X0_placeY cI cZ cJ a_this a_numbers a_places a_imageX a_imageY a_image a_leastImage v_count v_numbers)) [0, 1] (by decide) rfl
          have hFc := va_free (wc := (wd_X0_placeY cI cZ cJ a_this a_numbers a_places a_imageX a_imageY a_image a_leastImage v_count v_numbers)) hD hS hA [0, 1] rfl
          refine va_calli (va_runV (As := [.int l1, .int l4]) (rest := []) C (c_X0_placeY l D cI cZ cJ tb a_this a_numbers a_places a_imageX a_imageY a_image a_leastImage v_count v_numbers H.size l1 l4 h) (cwV 2 hts gX0_placeAt_X0_placeY rfl rfl rfl (by decide +kernel) ⟨Nat.le_of_ble_eq_true rfl, Nat.le_of_ble_eq_true rfl⟩) ⟨q_pre.blind, va_recv hK hP (ci := 0) (q0 := 0) rfl rfl, fun U hU hW => ⟨rfl, q_pre.of hU hW hPc hK hDc hSt hS hFc hNw⟩⟩ rfl rfl hl.1 rfl (lv_room (Nat.le_of_ble_eq_true rfl)) dX0_placeAt_29 ⟨Nat.zero_le _, Nat.zero_le _⟩) hS (fun q _ h => hFc q h) hFc (fun r_3 u_4 t H1 locs ht hvm hw hB hz1 hk1 hS => ?_)
          obtain ⟨hP1, hK1, hD1⟩ := hB
          rw [ht] at hP1
          obtain ⟨hP, hD⟩ := va_join (wr := [(a_places, .inl (cI, 64, .inl v_places))]) (w1 := (wd_X0_placeY cI cZ cJ a_this a_numbers a_places a_imageX a_imageY a_image a_leastImage v_count v_numbers)) hP hD [0, 1] [2] rfl rfl (by decide) (by decide) hk1 hFc hP1 hD1
          clear hPc hDc hFc hP1 hD1 hK1 hk1 hz1 ht hvm
          replace h := hw
          clear hw
          generalize H1 = H at hP hS ⊢
          replace hP : va_P D vwCl (wd_X0_placeAt cI cZ cJ a_this a_numbers a_places a_imageX a_imageY a_image a_leastImage v_count v_numbers v_places) H := hP.sub [1, 2, 0] rfl
          replace hD : va_D A (wd_X0_placeAt cI cZ cJ a_this a_numbers a_places a_imageX a_imageY a_image a_leastImage v_count v_numbers v_places) := hD.sub [1, 2, 0] (by decide) rfl
          refine lv_iload_n hx hb dX0_placeAt_32 rfl (lv_at hl 3 rfl) ?_
          refine lv_icmp_ne (tgt := 39) hx hb dX0_placeAt_33 (by decide) (fun hc => ?_) (fun hc => ?_)
          · replace h := h.1 hc
            refine lv_iinc (v := (l4 + (1 : Int32))) (lv' := [(4, .int (l4 + (1 : Int32))), (0, .ref a_this), (1, .int l1), (2, .int l2), (3, .int l3)]) hx hb dX0_placeAt_39 hl (k := 4) rfl rfl (by decide) rfl (fun ls hl => ?_)
            refine lv_goto (tgt := 3) hx hb dX0_placeAt_42 (by decide) ?_
            exact ih (l4 + (1 : Int32)) _ _ _ h hP hD hS (lv_sub hl [1, 2, 3, 4, 0] rfl)
          · replace h := h.2 hc
            exact hkx36 l4 _ _ _ h hP hD hS (lv_sub hl [4] rfl)
  unfold wp_X0_placeAt at h
  refine lv_iconst (v := 0) hx hb dX0_placeAt_0 (by decide) ?_
  refine lv_istore (lv' := [(4, .int (0 : Int32)), (0, .ref a_this), (1, .int p1), (2, .int p2), (3, .int p3)]) hx hb dX0_placeAt_1 hl (by decide) rfl (fun ls hl => ?_)
  obtain ⟨n, h⟩ := h
  refine L3_ok p1 p2 p3 _ (fun l4_5 H locs ls h hP hD hS hl => ?_) _ (fun  H locs ls h hP hD hS hl => ?_) n (0 : Int32) _ _ _ h hP hD hS (lv_sub hl [1, 2, 3, 4, 0] rfl)
  · refine lv_iload hx hb dX0_placeAt_36 (lv_at hl 0 rfl) ?_
    exact ret l4_5 () _ _ _ 38 dX0_placeAt_38 h hP hD hS
  · refine lv_iconst (v := -1) hx hb dX0_placeAt_45 (by decide) ?_
    exact ret (-1 : Int32) () _ _ _ 46 dX0_placeAt_46 h hP hD hS
def wd_X7_most (cI cZ cJ : ClassId) (a_r0 : Nat) (n_r0 : Nat) (v_r0 : Nat → Int32) : va_W := [(a_r0, .inl (cI, n_r0, .inl v_r0))]
abbrev rm_X7_most : Room := { frames := 0, cells := 0, slots := 0, locals := 0 }
set_option maxHeartbeats 4000000 in
set_option maxRecDepth 100000 in
theorem c_X7_most (l : Launch) (D : va_G) (cI cZ cJ : ClassId) (tb : Nat → Nat) (a_r0 : Nat) (n_r0 : Nat) (v_r0 : Nat → Int32) (sz : Nat) (p1 : Int32) {post : Int32 → Prop} (h : wp_X7_most n_r0 v_r0 p1 post) : Met l yX7_most wsX7_most rm_X7_most (va_Pc [.ref a_r0, .int p1] (q_pre D cI cZ cJ tb (wd_X7_most cI cZ cJ a_r0 n_r0 v_r0) sz)) (va_Qi (fun r (u : Unit) => post r) (fun u => q_post D cI cZ cJ (va_A (wd_X7_most cI cZ cJ a_r0 n_r0 v_r0) sz) (wd_X7_most cI cZ cJ a_r0 n_r0 v_r0)) (va_A (wd_X7_most cI cZ cJ a_r0 n_r0 v_r0) sz)) 0 0 (va_A (wd_X7_most cI cZ cJ a_r0 n_r0 v_r0) sz) := by
  refine q_walki (cc := cX7_most) (maxL := 4) (own := RX7) (wd := fun (u : Unit) => (wd_X7_most cI cZ cJ a_r0 n_r0 v_r0)) (by decide) rfl rfl (Nat.le_of_ble_eq_true rfl) ?_
  intro p e s m below meth c Q A ls C hA ret hP hD hS hK hSt hNw hl
  obtain ⟨hx, hb, hml, hown, hts⟩ := id C
  replace hl : lv_has ls 4 [(0, .ref a_r0), (1, .int p1)] := hl
  have L6_ok : ∀ (l1 : Int32) (kx28 : Int32 → Prop) (hkx28 : ∀ (l2 : Int32) (H : Heap) (locs : List Loc) (ls : Array Slot), kx28 l2 → va_P D vwCl (wd_X7_most cI cZ cJ a_r0 n_r0 v_r0) H → va_D A (wd_X7_most cI cZ cJ a_r0 n_r0 v_r0) → va_S A s.heap H locs → lv_has ls 4 [(2, .int l2)] → W p l e rm_X7_most s m ([.ref a_r0, .int p1] : List Value).toArray below meth c H locs 0 0 Q (F0 m 28 ls [])) (n : Nat) (l2 : Int32) (l3 : Int32) (H : Heap) (locs : List Loc) (ls : Array Slot), lpN (wl_X7_most_6 n_r0 v_r0 l1 kx28) n (l2, l3) → va_P D vwCl (wd_X7_most cI cZ cJ a_r0 n_r0 v_r0) H → va_D A (wd_X7_most cI cZ cJ a_r0 n_r0 v_r0) → va_S A s.heap H locs → lv_has ls 4 [(0, .ref a_r0), (1, .int l1), (2, .int l2), (3, .int l3)] → W p l e rm_X7_most s m ([.ref a_r0, .int p1] : List Value).toArray below meth c H locs 0 0 Q (F0 m 6 ls []) := by
    intro l1 kx28 hkx28 n
    induction n with
    | zero => intro l2 l3 H locs ls h; exact False.elim h
    | succ n ih =>
      intro l2 l3 H locs ls h hP hD hS hl
      have h : wb_X7_most_6 n_r0 v_r0 l1 kx28 (fun l2 l3 => lpN (wl_X7_most_6 n_r0 v_r0 l1 kx28) n (l2, l3)) l2 l3 := h
      unfold wb_X7_most_6 at h
      refine lv_iload_n hx hb dX7_most_6 rfl (lv_at hl 3 rfl) ?_
      refine lv_iload_n hx hb dX7_most_7 rfl (lv_at hl 1 rfl) ?_
      refine lv_icmp_ge (tgt := 28) hx hb dX7_most_8 (by decide) (fun hc => ?_) (fun hc => ?_)
      · replace h := h.1 hc
        exact hkx28 l2 _ _ _ h hP hD hS (lv_sub hl [2] rfl)
      · replace h := h.2 hc
        refine lv_aload_n hx hb dX7_most_11 rfl (lv_at hl 0 rfl) ?_
        refine lv_iload_n hx hb dX7_most_12 rfl (lv_at hl 3 rfl) ?_
        obtain ⟨hin, h⟩ := h
        refine va_iald hx hb hK hP 0 0 rfl rfl hin dX7_most_13 ?_
        refine lv_iload_n hx hb dX7_most_14 rfl (lv_at hl 2 rfl) ?_
        refine lv_icmp_le (tgt := 22) hx hb dX7_most_15 (by decide) (fun hc => ?_) (fun hc => ?_)
        · replace h := h.1 hc
          refine lv_iinc (v := (l3 + (1 : Int32))) (lv' := [(3, .int (l3 + (1 : Int32))), (0, .ref a_r0), (1, .int l1), (2, .int l2)]) hx hb dX7_most_22 hl (k := 3) rfl rfl (by decide) rfl (fun ls hl => ?_)
          refine lv_goto (tgt := 6) hx hb dX7_most_25 (by decide) ?_
          exact ih l2 (l3 + (1 : Int32)) _ _ _ h hP hD hS (lv_sub hl [1, 2, 3, 0] rfl)
        · replace h := h.2 hc
          refine lv_aload_n hx hb dX7_most_18 rfl (lv_at hl 0 rfl) ?_
          refine lv_iload_n hx hb dX7_most_19 rfl (lv_at hl 3 rfl) ?_
          obtain ⟨hin, h⟩ := h
          refine va_iald hx hb hK hP 0 0 rfl rfl hin dX7_most_20 ?_
          refine lv_istore_n (lv' := [(2, .int (v_r0 l3.toNatClampNeg)), (0, .ref a_r0), (1, .int l1), (3, .int l3)]) hx hb dX7_most_21 rfl hl (by decide) rfl (fun ls hl => ?_)
          refine lv_iinc (v := (l3 + (1 : Int32))) (lv' := [(3, .int (l3 + (1 : Int32))), (2, .int (v_r0 l3.toNatClampNeg)), (0, .ref a_r0), (1, .int l1)]) hx hb dX7_most_22 hl (k := 3) rfl rfl (by decide) rfl (fun ls hl => ?_)
          refine lv_goto (tgt := 6) hx hb dX7_most_25 (by decide) ?_
          exact ih (v_r0 l3.toNatClampNeg) (l3 + (1 : Int32)) _ _ _ h hP hD hS (lv_sub hl [2, 3, 1, 0] rfl)
  unfold wp_X7_most at h
  refine lv_aload_n hx hb dX7_most_0 rfl (lv_at hl 0 rfl) ?_
  refine lv_iconst (v := 0) hx hb dX7_most_1 (by decide) ?_
  obtain ⟨hin, h⟩ := h
  refine va_iald hx hb hK hP 0 0 rfl rfl hin dX7_most_2 ?_
  refine lv_istore_n (lv' := [(2, .int (v_r0 (0 : Int32).toNatClampNeg)), (0, .ref a_r0), (1, .int p1)]) hx hb dX7_most_3 rfl hl (by decide) rfl (fun ls hl => ?_)
  refine lv_iconst (v := 1) hx hb dX7_most_4 (by decide) ?_
  refine lv_istore_n (lv' := [(3, .int (1 : Int32)), (2, .int (v_r0 (0 : Int32).toNatClampNeg)), (0, .ref a_r0), (1, .int p1)]) hx hb dX7_most_5 rfl hl (by decide) rfl (fun ls hl => ?_)
  obtain ⟨n, h⟩ := h
  refine L6_ok p1 _ (fun l2_1 H locs ls h hP hD hS hl => ?_) n (v_r0 (0 : Int32).toNatClampNeg) (1 : Int32) _ _ _ h hP hD hS (lv_sub hl [2, 3, 1, 0] rfl)
  refine lv_iload_n hx hb dX7_most_28 rfl (lv_at hl 0 rfl) ?_
  exact ret l2_1 () _ _ _ 29 dX7_most_29 h hP hD hS
def wd_X1_offer (cI cZ cJ : ClassId) (a_this a_x a_y a_r1 a_r1_x a_r1_y a_r1_lies a_r1_solid a_r1_headings a_r1_taken : Nat) (v_found : Int32) (v_width : Int32) (v_height : Int32) (v_number : Int32) (v_x : Nat → Int32) (v_y : Nat → Int32) (v_r1_count : Int32) (v_r1_x : Nat → Int32) (v_r1_y : Nat → Int32) : va_W := [(a_this, .inr (1, [.int v_found, .int v_width, .int v_height, .int v_number, .ref a_x, .ref a_y])),
  (a_x, .inl (cI, 22, .inl v_x)),
  (a_y, .inl (cI, 22, .inl v_y)),
  (a_r1, .inr (3, [.ref a_r1_lies, .ref a_r1_x, .ref a_r1_y, .int v_r1_count, .ref a_r1_solid, .ref a_r1_headings, .ref a_r1_taken])),
  (a_r1_x, .inl (cI, 22, .inl v_r1_x)),
  (a_r1_y, .inl (cI, 22, .inl v_r1_y))]
abbrev rm_X1_offer : Room := { frames := 1, cells := 0, slots := 0, locals := 26 }
set_option maxHeartbeats 4000000 in
set_option maxRecDepth 100000 in
theorem c_X1_offer (l : Launch) (D : va_G) (cI cZ cJ : ClassId) (tb : Nat → Nat) (a_this a_x a_y a_r1 a_r1_x a_r1_y a_r1_lies a_r1_solid a_r1_headings a_r1_taken : Nat) (v_found : Int32) (v_width : Int32) (v_height : Int32) (v_number : Int32) (v_x : Nat → Int32) (v_y : Nat → Int32) (v_r1_count : Int32) (v_r1_x : Nat → Int32) (v_r1_y : Nat → Int32) (sz : Nat) (p2 : Int32) {post : Int32 → Int32 → Int32 → Int32 → (Nat → Int32) → (Nat → Int32) → Prop} (h : wp_X1_offer v_found v_width v_height v_number v_x v_y v_r1_count v_r1_x v_r1_y p2 post) : Met l yX1_offer wsX1_offer rm_X1_offer (va_Pc [.ref a_this, .ref a_r1, .int p2] (q_pre D cI cZ cJ tb (wd_X1_offer cI cZ cJ a_this a_x a_y a_r1 a_r1_x a_r1_y a_r1_lies a_r1_solid a_r1_headings a_r1_taken v_found v_width v_height v_number v_x v_y v_r1_count v_r1_x v_r1_y) sz)) (va_Qv (fun (u : Int32 × Int32 × Int32 × Int32 × (Nat → Int32) × (Nat → Int32)) => post u.1 u.2.1 u.2.2.1 u.2.2.2.1 u.2.2.2.2.1 u.2.2.2.2.2) (fun u => q_post D cI cZ cJ (va_A (wd_X1_offer cI cZ cJ a_this a_x a_y a_r1 a_r1_x a_r1_y a_r1_lies a_r1_solid a_r1_headings a_r1_taken v_found v_width v_height v_number v_x v_y v_r1_count v_r1_x v_r1_y) sz) (wd_X1_offer cI cZ cJ a_this a_x a_y a_r1 a_r1_x a_r1_y a_r1_lies a_r1_solid a_r1_headings a_r1_taken u.1 u.2.1 u.2.2.1 u.2.2.2.1 u.2.2.2.2.1 u.2.2.2.2.2 v_r1_count v_r1_x v_r1_y)) (va_A (wd_X1_offer cI cZ cJ a_this a_x a_y a_r1 a_r1_x a_r1_y a_r1_lies a_r1_solid a_r1_headings a_r1_taken v_found v_width v_height v_number v_x v_y v_r1_count v_r1_x v_r1_y) sz)) 0 0 (va_A (wd_X1_offer cI cZ cJ a_this a_x a_y a_r1 a_r1_x a_r1_y a_r1_lies a_r1_solid a_r1_headings a_r1_taken v_found v_width v_height v_number v_x v_y v_r1_count v_r1_x v_r1_y) sz) := by
  refine q_walkv (cc := cX1_offer) (maxL := 5) (own := RX1) (wd := fun (u : Int32 × Int32 × Int32 × Int32 × (Nat → Int32) × (Nat → Int32)) => (wd_X1_offer cI cZ cJ a_this a_x a_y a_r1 a_r1_x a_r1_y a_r1_lies a_r1_solid a_r1_headings a_r1_taken u.1 u.2.1 u.2.2.1 u.2.2.2.1 u.2.2.2.2.1 u.2.2.2.2.2 v_r1_count v_r1_x v_r1_y)) (by decide) rfl rfl (Nat.le_of_ble_eq_true rfl) ?_
  intro p e s m below meth c Q A ls C hA ret hP hD hS hK hSt hNw hl
  obtain ⟨hx, hb, hml, hown, hts⟩ := id C
  replace hl : lv_has ls 5 [(0, .ref a_this), (1, .ref a_r1), (2, .int p2)] := hl
  have f33 := hts (.fieldLink RX1 33 "NetSearch$BestNet" "found" "Z") (by decide +kernel)
  have iX1 : ∀ w ∈ wsX10, w ∈ wsX1_offer := by decide +kernel
  have f37 := hts (.fieldLink RX1 37 "NetSearch$BestNet" "width" "I") (by decide +kernel)
  have f40 := hts (.fieldLink RX1 40 "NetSearch$BestNet" "height" "I") (by decide +kernel)
  have f43 := hts (.fieldLink RX1 43 "NetSearch$BestNet" "number" "I") (by decide +kernel)
  have f18 := hts (.fieldLink RX1 18 "NetSearch$Sheet" "x" "[I") (by decide +kernel)
  have iX3 : ∀ w ∈ wsX30, w ∈ wsX1_offer := by decide +kernel
  have f9 := hts (.fieldLink RX1 9 "NetSearch$BestNet" "x" "[I") (by decide +kernel)
  have f21 := hts (.fieldLink RX1 21 "NetSearch$Sheet" "count" "I") (by decide +kernel)
  have m46 := hts (.methodLink RX1 46 arraycopyName) (by decide +kernel)
  have mnat := hts (.native arraycopyName) (by decide +kernel)
  have msta := hts (.static arraycopyName) (by decide +kernel)
  have mini := hts (.initialized "java/lang/System") (by decide +kernel)
  have f32 := hts (.fieldLink RX1 32 "NetSearch$Sheet" "y" "[I") (by decide +kernel)
  have f15 := hts (.fieldLink RX1 15 "NetSearch$BestNet" "y" "[I") (by decide +kernel)
  have n25 : va_Nw (.methodLinkNest RX1 25 yX7_most "NetSearch") s := hNw.2 (RX1, 25, yX7_most, "NetSearch") (by decide +kernel)
  have iniX7 := hts (.initialized RX7) (by decide +kernel)
  have sta_X7_most := hts (.static yX7_most) (by decide +kernel)
  have n29 : va_Nw (.methodLinkNest RX1 29 yX7_least "NetSearch") s := hNw.2 (RX1, 29, yX7_least, "NetSearch") (by decide +kernel)
  have sta_X7_least := hts (.static yX7_least) (by decide +kernel)
  have J76_ok : ∀   (l2 : Int32) (l3 : Int32) (l4 : Int32) (v_found : Int32) (v_width : Int32) (v_height : Int32) (v_number : Int32) (v_x : Nat → Int32) (v_y : Nat → Int32) (H : Heap) (locs : List Loc) (ls : Array Slot), wj_X1_offer_76 v_r1_count v_r1_x v_r1_y post l2 l3 l4 v_x v_y → va_P D vwCl (wd_X1_offer cI cZ cJ a_this a_x a_y a_r1 a_r1_x a_r1_y a_r1_lies a_r1_solid a_r1_headings a_r1_taken v_found v_width v_height v_number v_x v_y v_r1_count v_r1_x v_r1_y) H → va_D A (wd_X1_offer cI cZ cJ a_this a_x a_y a_r1 a_r1_x a_r1_y a_r1_lies a_r1_solid a_r1_headings a_r1_taken v_found v_width v_height v_number v_x v_y v_r1_count v_r1_x v_r1_y) → va_S A s.heap H locs → lv_has ls 5 [(0, .ref a_this), (1, .ref a_r1), (2, .int l2), (3, .int l3), (4, .int l4)] → W p l e rm_X1_offer s m ([.ref a_this, .ref a_r1, .int p2] : List Value).toArray below meth c H locs 0 0 Q (F0 m 76 ls []) := by
    intro    l2 l3 l4 v_found v_width v_height v_number v_x v_y H locs ls h hP hD hS hl
    unfold wj_X1_offer_76 at h
    refine lv_aload_n hx hb dX1_offer_76 rfl (lv_at hl 0 rfl) ?_
    refine lv_iconst (v := 1) hx hb dX1_offer_77 (by decide) ?_
    refine va_put (D := D) (ci := 1) (v := .int (1 : Int32)) (ty := .boolean) (C := RX1) (T := TX1) (N := 6) hx hb hts iX1 tyX1 tyX1_ok nmX1 hown hK hP hD hS 0 rfl rfl 0 (by decide) f33 (fun _ h9 => h9) rfl (by decide +kernel) (by first | rfl | decide) rfl (Nat.le_of_ble_eq_true rfl) dX1_offer_78 (fun H locs hP hD hS => ?_)
    replace hP : va_P D vwCl (wd_X1_offer cI cZ cJ a_this a_x a_y a_r1 a_r1_x a_r1_y a_r1_lies a_r1_solid a_r1_headings a_r1_taken (1 : Int32) v_width v_height v_number v_x v_y v_r1_count v_r1_x v_r1_y) H := hP
    replace hD : va_D A (wd_X1_offer cI cZ cJ a_this a_x a_y a_r1 a_r1_x a_r1_y a_r1_lies a_r1_solid a_r1_headings a_r1_taken (1 : Int32) v_width v_height v_number v_x v_y v_r1_count v_r1_x v_r1_y) := hD
    refine lv_aload_n hx hb dX1_offer_81 rfl (lv_at hl 0 rfl) ?_
    refine lv_iload_n hx hb dX1_offer_82 rfl (lv_at hl 3 rfl) ?_
    refine va_put (D := D) (ci := 1) (v := .int l3) (ty := .int) (C := RX1) (T := TX1) (N := 6) hx hb hts iX1 tyX1 tyX1_ok nmX1 hown hK hP hD hS 0 rfl rfl 1 (by decide) f37 (fun _ h9 => h9) rfl (by decide +kernel) rfl rfl (Nat.le_of_ble_eq_true rfl) dX1_offer_83 (fun H locs hP hD hS => ?_)
    replace hP : va_P D vwCl (wd_X1_offer cI cZ cJ a_this a_x a_y a_r1 a_r1_x a_r1_y a_r1_lies a_r1_solid a_r1_headings a_r1_taken (1 : Int32) l3 v_height v_number v_x v_y v_r1_count v_r1_x v_r1_y) H := hP
    replace hD : va_D A (wd_X1_offer cI cZ cJ a_this a_x a_y a_r1 a_r1_x a_r1_y a_r1_lies a_r1_solid a_r1_headings a_r1_taken (1 : Int32) l3 v_height v_number v_x v_y v_r1_count v_r1_x v_r1_y) := hD
    refine lv_aload_n hx hb dX1_offer_86 rfl (lv_at hl 0 rfl) ?_
    refine lv_iload hx hb dX1_offer_87 (lv_at hl 4 rfl) ?_
    refine va_put (D := D) (ci := 1) (v := .int l4) (ty := .int) (C := RX1) (T := TX1) (N := 6) hx hb hts iX1 tyX1 tyX1_ok nmX1 hown hK hP hD hS 0 rfl rfl 2 (by decide) f40 (fun _ h9 => h9) rfl (by decide +kernel) rfl rfl (Nat.le_of_ble_eq_true rfl) dX1_offer_89 (fun H locs hP hD hS => ?_)
    replace hP : va_P D vwCl (wd_X1_offer cI cZ cJ a_this a_x a_y a_r1 a_r1_x a_r1_y a_r1_lies a_r1_solid a_r1_headings a_r1_taken (1 : Int32) l3 l4 v_number v_x v_y v_r1_count v_r1_x v_r1_y) H := hP
    replace hD : va_D A (wd_X1_offer cI cZ cJ a_this a_x a_y a_r1 a_r1_x a_r1_y a_r1_lies a_r1_solid a_r1_headings a_r1_taken (1 : Int32) l3 l4 v_number v_x v_y v_r1_count v_r1_x v_r1_y) := hD
    refine lv_aload_n hx hb dX1_offer_92 rfl (lv_at hl 0 rfl) ?_
    refine lv_iload_n hx hb dX1_offer_93 rfl (lv_at hl 2 rfl) ?_
    refine va_put (D := D) (ci := 1) (v := .int l2) (ty := .int) (C := RX1) (T := TX1) (N := 6) hx hb hts iX1 tyX1 tyX1_ok nmX1 hown hK hP hD hS 0 rfl rfl 3 (by decide) f43 (fun _ h9 => h9) rfl (by decide +kernel) rfl rfl (Nat.le_of_ble_eq_true rfl) dX1_offer_94 (fun H locs hP hD hS => ?_)
    replace hP : va_P D vwCl (wd_X1_offer cI cZ cJ a_this a_x a_y a_r1 a_r1_x a_r1_y a_r1_lies a_r1_solid a_r1_headings a_r1_taken (1 : Int32) l3 l4 l2 v_x v_y v_r1_count v_r1_x v_r1_y) H := hP
    replace hD : va_D A (wd_X1_offer cI cZ cJ a_this a_x a_y a_r1 a_r1_x a_r1_y a_r1_lies a_r1_solid a_r1_headings a_r1_taken (1 : Int32) l3 l4 l2 v_x v_y v_r1_count v_r1_x v_r1_y) := hD
    refine lv_aload_n hx hb dX1_offer_97 rfl (lv_at hl 1 rfl) ?_
    refine va_get (D := D) (ci := 3) (v := .ref a_r1_x) (C := RX3) (T := TX3) (N := 7) hx hb hts iX3 hown hK hP 3 rfl rfl 1 (by decide) f18 (fun _ h9 => h9) rfl dX1_offer_98 ?_
    refine lv_iconst (v := 0) hx hb dX1_offer_101 (by decide) ?_
    refine lv_aload_n hx hb dX1_offer_102 rfl (lv_at hl 0 rfl) ?_
    refine va_get (D := D) (ci := 1) (v := .ref a_x) (C := RX1) (T := TX1) (N := 6) hx hb hts iX1 hown hK hP 0 rfl rfl 4 (by decide) f9 (fun _ h9 => h9) rfl dX1_offer_103 ?_
    refine lv_iconst (v := 0) hx hb dX1_offer_106 (by decide) ?_
    refine lv_aload_n hx hb dX1_offer_107 rfl (lv_at hl 1 rfl) ?_
    refine va_get (D := D) (ci := 3) (v := .int v_r1_count) (C := RX3) (T := TX3) (N := 7) hx hb hts iX3 hown hK hP 3 rfl rfl 3 (by decide) f21 (fun _ h9 => h9) rfl dX1_offer_108 ?_
    obtain ⟨hc1, hc2, hc3, hc4, hc5, h⟩ := h
    refine va_copyi hx hb (by rw [hml]; exact hl.1.symm) hown m46 mnat msta mini hK hP hD hS 4 1 0 0 (ty := .int) rfl rfl rfl rfl rfl hc1 hc2 hc3 hc4 hc5 (fun _ _ => rfl) (by decide) (by decide) dX1_offer_111 (fun H locs hP hD hS => ?_)
    replace hP : va_P D vwCl (wd_X1_offer cI cZ cJ a_this a_x a_y a_r1 a_r1_x a_r1_y a_r1_lies a_r1_solid a_r1_headings a_r1_taken (1 : Int32) l3 l4 l2 (va_cpy v_r1_x v_x (0 : Int32).toNatClampNeg (0 : Int32).toNatClampNeg v_r1_count.toNatClampNeg) v_y v_r1_count v_r1_x v_r1_y) H := hP
    replace hD : va_D A (wd_X1_offer cI cZ cJ a_this a_x a_y a_r1 a_r1_x a_r1_y a_r1_lies a_r1_solid a_r1_headings a_r1_taken (1 : Int32) l3 l4 l2 (va_cpy v_r1_x v_x (0 : Int32).toNatClampNeg (0 : Int32).toNatClampNeg v_r1_count.toNatClampNeg) v_y v_r1_count v_r1_x v_r1_y) := hD
    refine lv_aload_n hx hb dX1_offer_114 rfl (lv_at hl 1 rfl) ?_
    refine va_get (D := D) (ci := 3) (v := .ref a_r1_y) (C := RX3) (T := TX3) (N := 7) hx hb hts iX3 hown hK hP 3 rfl rfl 2 (by decide) f32 (fun _ h9 => h9) rfl dX1_offer_115 ?_
    refine lv_iconst (v := 0) hx hb dX1_offer_118 (by decide) ?_
    refine lv_aload_n hx hb dX1_offer_119 rfl (lv_at hl 0 rfl) ?_
    refine va_get (D := D) (ci := 1) (v := .ref a_y) (C := RX1) (T := TX1) (N := 6) hx hb hts iX1 hown hK hP 0 rfl rfl 5 (by decide) f15 (fun _ h9 => h9) rfl dX1_offer_120 ?_
    refine lv_iconst (v := 0) hx hb dX1_offer_123 (by decide) ?_
    refine lv_aload_n hx hb dX1_offer_124 rfl (lv_at hl 1 rfl) ?_
    refine va_get (D := D) (ci := 3) (v := .int v_r1_count) (C := RX3) (T := TX3) (N := 7) hx hb hts iX3 hown hK hP 3 rfl rfl 3 (by decide) f21 (fun _ h9 => h9) rfl dX1_offer_125 ?_
    obtain ⟨hc1, hc2, hc3, hc4, hc5, h⟩ := h
    refine va_copyi hx hb (by rw [hml]; exact hl.1.symm) hown m46 mnat msta mini hK hP hD hS 5 2 0 0 (ty := .int) rfl rfl rfl rfl rfl hc1 hc2 hc3 hc4 hc5 (fun _ _ => rfl) (by decide) (by decide) dX1_offer_128 (fun H locs hP hD hS => ?_)
    replace hP : va_P D vwCl (wd_X1_offer cI cZ cJ a_this a_x a_y a_r1 a_r1_x a_r1_y a_r1_lies a_r1_solid a_r1_headings a_r1_taken (1 : Int32) l3 l4 l2 (va_cpy v_r1_x v_x (0 : Int32).toNatClampNeg (0 : Int32).toNatClampNeg v_r1_count.toNatClampNeg) (va_cpy v_r1_y v_y (0 : Int32).toNatClampNeg (0 : Int32).toNatClampNeg v_r1_count.toNatClampNeg) v_r1_count v_r1_x v_r1_y) H := hP
    replace hD : va_D A (wd_X1_offer cI cZ cJ a_this a_x a_y a_r1 a_r1_x a_r1_y a_r1_lies a_r1_solid a_r1_headings a_r1_taken (1 : Int32) l3 l4 l2 (va_cpy v_r1_x v_x (0 : Int32).toNatClampNeg (0 : Int32).toNatClampNeg v_r1_count.toNatClampNeg) (va_cpy v_r1_y v_y (0 : Int32).toNatClampNeg (0 : Int32).toNatClampNeg v_r1_count.toNatClampNeg) v_r1_count v_r1_x v_r1_y) := hD
    exact ret ((1 : Int32), l3, l4, l2, (va_cpy v_r1_x v_x (0 : Int32).toNatClampNeg (0 : Int32).toNatClampNeg v_r1_count.toNatClampNeg), (va_cpy v_r1_y v_y (0 : Int32).toNatClampNeg (0 : Int32).toNatClampNeg v_r1_count.toNatClampNeg)) _ _ _ 131 dX1_offer_131 h hP hD hS
  unfold wp_X1_offer at h
  refine lv_aload_n hx hb dX1_offer_0 rfl (lv_at hl 1 rfl) ?_
  refine va_get (D := D) (ci := 3) (v := .ref a_r1_x) (C := RX3) (T := TX3) (N := 7) hx hb hts iX3 hown hK hP 3 rfl rfl 1 (by decide) f18 (fun _ h9 => h9) rfl dX1_offer_1 ?_
  refine lv_aload_n hx hb dX1_offer_4 rfl (lv_at hl 1 rfl) ?_
  refine va_get (D := D) (ci := 3) (v := .int v_r1_count) (C := RX3) (T := TX3) (N := 7) hx hb hts iX3 hown hK hP 3 rfl rfl 3 (by decide) f21 (fun _ h9 => h9) rfl dX1_offer_5 ?_
  have hPc := hP.sub (ws' := (wd_X7_most cI cZ cJ a_r1_x 22 v_r1_x)) [4] rfl
  have hDc := hD.sub (ws' := (wd_X7_most cI cZ cJ a_r1_x 22 v_r1_x)) [4] (by decide) rfl
  have hFc := va_free (wc := (wd_X7_most cI cZ cJ a_r1_x 22 v_r1_x)) hD hS hA [4] rfl
  refine va_calli (va_runSN (As := [.ref a_r1_x, .int v_r1_count]) (rest := []) C (c_X7_most l D cI cZ cJ tb a_r1_x 22 v_r1_x s.heap.size v_r1_count h) ⟨va_cnB 2 hts gX1_offer_X7_most_n25 rfl rfl rfl n25 iniX7 (by decide +kernel) ⟨Nat.le_of_ble_eq_true rfl, Nat.le_of_ble_eq_true rfl⟩, sta_X7_most, trivial⟩ ⟨q_pre.blind, fun U hU hW => ⟨rfl, q_pre.of hU hW hPc hK hDc hSt hS hFc hNw⟩⟩ rfl rfl hl.1 rfl (lv_room (Nat.le_of_ble_eq_true rfl)) dX1_offer_8 ⟨Nat.zero_le _, Nat.zero_le _⟩) hS (fun q _ h => hFc q h) hFc (fun r_1 u_2 t H1 locs ht hvm hw hB hz1 hk1 hS => ?_)
  obtain ⟨hP1, hK1, hD1⟩ := hB
  rw [ht] at hP1
  obtain ⟨hP, hD⟩ := va_join (wr := [(a_this, .inr (1, [.int v_found, .int v_width, .int v_height, .int v_number, .ref a_x, .ref a_y])), (a_x, .inl (cI, 22, .inl v_x)), (a_y, .inl (cI, 22, .inl v_y)), (a_r1, .inr (3, [.ref a_r1_lies, .ref a_r1_x, .ref a_r1_y, .int v_r1_count, .ref a_r1_solid, .ref a_r1_headings, .ref a_r1_taken])), (a_r1_y, .inl (cI, 22, .inl v_r1_y))]) (w1 := (wd_X7_most cI cZ cJ a_r1_x 22 v_r1_x)) hP hD [4] [0, 1, 2, 3, 5] rfl rfl (by decide) (by decide) hk1 hFc hP1 hD1
  clear hPc hDc hFc hP1 hD1 hK1 hk1 hz1 ht hvm
  replace h := hw
  clear hw
  generalize H1 = H at hP hS ⊢
  replace hP : va_P D vwCl (wd_X1_offer cI cZ cJ a_this a_x a_y a_r1 a_r1_x a_r1_y a_r1_lies a_r1_solid a_r1_headings a_r1_taken v_found v_width v_height v_number v_x v_y v_r1_count v_r1_x v_r1_y) H := hP.sub [0, 1, 2, 3, 5, 4] rfl
  replace hD : va_D A (wd_X1_offer cI cZ cJ a_this a_x a_y a_r1 a_r1_x a_r1_y a_r1_lies a_r1_solid a_r1_headings a_r1_taken v_found v_width v_height v_number v_x v_y v_r1_count v_r1_x v_r1_y) := hD.sub [0, 1, 2, 3, 5, 4] (by decide) rfl
  refine lv_aload_n hx hb dX1_offer_11 rfl (lv_at hl 1 rfl) ?_
  refine va_get (D := D) (ci := 3) (v := .ref a_r1_x) (C := RX3) (T := TX3) (N := 7) hx hb hts iX3 hown hK hP 3 rfl rfl 1 (by decide) f18 (fun _ h9 => h9) rfl dX1_offer_12 ?_
  refine lv_aload_n hx hb dX1_offer_15 rfl (lv_at hl 1 rfl) ?_
  refine va_get (D := D) (ci := 3) (v := .int v_r1_count) (C := RX3) (T := TX3) (N := 7) hx hb hts iX3 hown hK hP 3 rfl rfl 3 (by decide) f21 (fun _ h9 => h9) rfl dX1_offer_16 ?_
  have hPc := hP.sub (ws' := (wd_X7_least cI cZ cJ a_r1_x 22 v_r1_x)) [4] rfl
  have hDc := hD.sub (ws' := (wd_X7_least cI cZ cJ a_r1_x 22 v_r1_x)) [4] (by decide) rfl
  have hFc := va_free (wc := (wd_X7_least cI cZ cJ a_r1_x 22 v_r1_x)) hD hS hA [4] rfl
  refine va_calli (va_runSN (As := [.ref a_r1_x, .int v_r1_count]) (rest := [.int r_1]) C (c_X7_least l D cI cZ cJ tb a_r1_x 22 v_r1_x H.size v_r1_count h) ⟨va_cnB 2 hts gX1_offer_X7_least_n29 rfl rfl rfl n29 iniX7 (by decide +kernel) ⟨Nat.le_of_ble_eq_true rfl, Nat.le_of_ble_eq_true rfl⟩, sta_X7_least, trivial⟩ ⟨q_pre.blind, fun U hU hW => ⟨rfl, q_pre.of hU hW hPc hK hDc hSt hS hFc hNw⟩⟩ rfl rfl hl.1 rfl (lv_room (Nat.le_of_ble_eq_true rfl)) dX1_offer_19 ⟨Nat.zero_le _, Nat.zero_le _⟩) hS (fun q _ h => hFc q h) hFc (fun r_3 u_4 t H1 locs ht hvm hw hB hz1 hk1 hS => ?_)
  obtain ⟨hP1, hK1, hD1⟩ := hB
  rw [ht] at hP1
  obtain ⟨hP, hD⟩ := va_join (wr := [(a_this, .inr (1, [.int v_found, .int v_width, .int v_height, .int v_number, .ref a_x, .ref a_y])), (a_x, .inl (cI, 22, .inl v_x)), (a_y, .inl (cI, 22, .inl v_y)), (a_r1, .inr (3, [.ref a_r1_lies, .ref a_r1_x, .ref a_r1_y, .int v_r1_count, .ref a_r1_solid, .ref a_r1_headings, .ref a_r1_taken])), (a_r1_y, .inl (cI, 22, .inl v_r1_y))]) (w1 := (wd_X7_least cI cZ cJ a_r1_x 22 v_r1_x)) hP hD [4] [0, 1, 2, 3, 5] rfl rfl (by decide) (by decide) hk1 hFc hP1 hD1
  clear hPc hDc hFc hP1 hD1 hK1 hk1 hz1 ht hvm
  replace h := hw
  clear hw
  generalize H1 = H at hP hS ⊢
  replace hP : va_P D vwCl (wd_X1_offer cI cZ cJ a_this a_x a_y a_r1 a_r1_x a_r1_y a_r1_lies a_r1_solid a_r1_headings a_r1_taken v_found v_width v_height v_number v_x v_y v_r1_count v_r1_x v_r1_y) H := hP.sub [0, 1, 2, 3, 5, 4] rfl
  replace hD : va_D A (wd_X1_offer cI cZ cJ a_this a_x a_y a_r1 a_r1_x a_r1_y a_r1_lies a_r1_solid a_r1_headings a_r1_taken v_found v_width v_height v_number v_x v_y v_r1_count v_r1_x v_r1_y) := hD.sub [0, 1, 2, 3, 5, 4] (by decide) rfl
  refine lv_isub hx hb dX1_offer_22 ?_
  refine lv_iconst (v := 1) hx hb dX1_offer_23 (by decide) ?_
  refine lv_iadd hx hb dX1_offer_24 ?_
  refine lv_istore_n (lv' := [(3, .int ((r_1 - r_3) + (1 : Int32))), (0, .ref a_this), (1, .ref a_r1), (2, .int p2)]) hx hb dX1_offer_25 rfl hl (by decide) rfl (fun ls hl => ?_)
  refine lv_aload_n hx hb dX1_offer_26 rfl (lv_at hl 2 rfl) ?_
  refine va_get (D := D) (ci := 3) (v := .ref a_r1_y) (C := RX3) (T := TX3) (N := 7) hx hb hts iX3 hown hK hP 3 rfl rfl 2 (by decide) f32 (fun _ h9 => h9) rfl dX1_offer_27 ?_
  refine lv_aload_n hx hb dX1_offer_30 rfl (lv_at hl 2 rfl) ?_
  refine va_get (D := D) (ci := 3) (v := .int v_r1_count) (C := RX3) (T := TX3) (N := 7) hx hb hts iX3 hown hK hP 3 rfl rfl 3 (by decide) f21 (fun _ h9 => h9) rfl dX1_offer_31 ?_
  have hPc := hP.sub (ws' := (wd_X7_most cI cZ cJ a_r1_y 22 v_r1_y)) [5] rfl
  have hDc := hD.sub (ws' := (wd_X7_most cI cZ cJ a_r1_y 22 v_r1_y)) [5] (by decide) rfl
  have hFc := va_free (wc := (wd_X7_most cI cZ cJ a_r1_y 22 v_r1_y)) hD hS hA [5] rfl
  refine va_calli (va_runSN (As := [.ref a_r1_y, .int v_r1_count]) (rest := []) C (c_X7_most l D cI cZ cJ tb a_r1_y 22 v_r1_y H.size v_r1_count h) ⟨va_cnB 2 hts gX1_offer_X7_most_n25 rfl rfl rfl n25 iniX7 (by decide +kernel) ⟨Nat.le_of_ble_eq_true rfl, Nat.le_of_ble_eq_true rfl⟩, sta_X7_most, trivial⟩ ⟨q_pre.blind, fun U hU hW => ⟨rfl, q_pre.of hU hW hPc hK hDc hSt hS hFc hNw⟩⟩ rfl rfl hl.1 rfl (lv_room (Nat.le_of_ble_eq_true rfl)) dX1_offer_34 ⟨Nat.zero_le _, Nat.zero_le _⟩) hS (fun q _ h => hFc q h) hFc (fun r_5 u_6 t H1 locs ht hvm hw hB hz1 hk1 hS => ?_)
  obtain ⟨hP1, hK1, hD1⟩ := hB
  rw [ht] at hP1
  obtain ⟨hP, hD⟩ := va_join (wr := [(a_this, .inr (1, [.int v_found, .int v_width, .int v_height, .int v_number, .ref a_x, .ref a_y])), (a_x, .inl (cI, 22, .inl v_x)), (a_y, .inl (cI, 22, .inl v_y)), (a_r1, .inr (3, [.ref a_r1_lies, .ref a_r1_x, .ref a_r1_y, .int v_r1_count, .ref a_r1_solid, .ref a_r1_headings, .ref a_r1_taken])), (a_r1_x, .inl (cI, 22, .inl v_r1_x))]) (w1 := (wd_X7_most cI cZ cJ a_r1_y 22 v_r1_y)) hP hD [5] [0, 1, 2, 3, 4] rfl rfl (by decide) (by decide) hk1 hFc hP1 hD1
  clear hPc hDc hFc hP1 hD1 hK1 hk1 hz1 ht hvm
  replace h := hw
  clear hw
  generalize H1 = H at hP hS ⊢
  replace hP : va_P D vwCl (wd_X1_offer cI cZ cJ a_this a_x a_y a_r1 a_r1_x a_r1_y a_r1_lies a_r1_solid a_r1_headings a_r1_taken v_found v_width v_height v_number v_x v_y v_r1_count v_r1_x v_r1_y) H := hP.sub [0, 1, 2, 3, 4, 5] rfl
  replace hD : va_D A (wd_X1_offer cI cZ cJ a_this a_x a_y a_r1 a_r1_x a_r1_y a_r1_lies a_r1_solid a_r1_headings a_r1_taken v_found v_width v_height v_number v_x v_y v_r1_count v_r1_x v_r1_y) := hD.sub [0, 1, 2, 3, 4, 5] (by decide) rfl
  refine lv_aload_n hx hb dX1_offer_37 rfl (lv_at hl 2 rfl) ?_
  refine va_get (D := D) (ci := 3) (v := .ref a_r1_y) (C := RX3) (T := TX3) (N := 7) hx hb hts iX3 hown hK hP 3 rfl rfl 2 (by decide) f32 (fun _ h9 => h9) rfl dX1_offer_38 ?_
  refine lv_aload_n hx hb dX1_offer_41 rfl (lv_at hl 2 rfl) ?_
  refine va_get (D := D) (ci := 3) (v := .int v_r1_count) (C := RX3) (T := TX3) (N := 7) hx hb hts iX3 hown hK hP 3 rfl rfl 3 (by decide) f21 (fun _ h9 => h9) rfl dX1_offer_42 ?_
  have hPc := hP.sub (ws' := (wd_X7_least cI cZ cJ a_r1_y 22 v_r1_y)) [5] rfl
  have hDc := hD.sub (ws' := (wd_X7_least cI cZ cJ a_r1_y 22 v_r1_y)) [5] (by decide) rfl
  have hFc := va_free (wc := (wd_X7_least cI cZ cJ a_r1_y 22 v_r1_y)) hD hS hA [5] rfl
  refine va_calli (va_runSN (As := [.ref a_r1_y, .int v_r1_count]) (rest := [.int r_5]) C (c_X7_least l D cI cZ cJ tb a_r1_y 22 v_r1_y H.size v_r1_count h) ⟨va_cnB 2 hts gX1_offer_X7_least_n29 rfl rfl rfl n29 iniX7 (by decide +kernel) ⟨Nat.le_of_ble_eq_true rfl, Nat.le_of_ble_eq_true rfl⟩, sta_X7_least, trivial⟩ ⟨q_pre.blind, fun U hU hW => ⟨rfl, q_pre.of hU hW hPc hK hDc hSt hS hFc hNw⟩⟩ rfl rfl hl.1 rfl (lv_room (Nat.le_of_ble_eq_true rfl)) dX1_offer_45 ⟨Nat.zero_le _, Nat.zero_le _⟩) hS (fun q _ h => hFc q h) hFc (fun r_7 u_8 t H1 locs ht hvm hw hB hz1 hk1 hS => ?_)
  obtain ⟨hP1, hK1, hD1⟩ := hB
  rw [ht] at hP1
  obtain ⟨hP, hD⟩ := va_join (wr := [(a_this, .inr (1, [.int v_found, .int v_width, .int v_height, .int v_number, .ref a_x, .ref a_y])), (a_x, .inl (cI, 22, .inl v_x)), (a_y, .inl (cI, 22, .inl v_y)), (a_r1, .inr (3, [.ref a_r1_lies, .ref a_r1_x, .ref a_r1_y, .int v_r1_count, .ref a_r1_solid, .ref a_r1_headings, .ref a_r1_taken])), (a_r1_x, .inl (cI, 22, .inl v_r1_x))]) (w1 := (wd_X7_least cI cZ cJ a_r1_y 22 v_r1_y)) hP hD [5] [0, 1, 2, 3, 4] rfl rfl (by decide) (by decide) hk1 hFc hP1 hD1
  clear hPc hDc hFc hP1 hD1 hK1 hk1 hz1 ht hvm
  replace h := hw
  clear hw
  generalize H1 = H at hP hS ⊢
  replace hP : va_P D vwCl (wd_X1_offer cI cZ cJ a_this a_x a_y a_r1 a_r1_x a_r1_y a_r1_lies a_r1_solid a_r1_headings a_r1_taken v_found v_width v_height v_number v_x v_y v_r1_count v_r1_x v_r1_y) H := hP.sub [0, 1, 2, 3, 4, 5] rfl
  replace hD : va_D A (wd_X1_offer cI cZ cJ a_this a_x a_y a_r1 a_r1_x a_r1_y a_r1_lies a_r1_solid a_r1_headings a_r1_taken v_found v_width v_height v_number v_x v_y v_r1_count v_r1_x v_r1_y) := hD.sub [0, 1, 2, 3, 4, 5] (by decide) rfl
  refine lv_isub hx hb dX1_offer_48 ?_
  refine lv_iconst (v := 1) hx hb dX1_offer_49 (by decide) ?_
  refine lv_iadd hx hb dX1_offer_50 ?_
  refine lv_istore (lv' := [(4, .int ((r_5 - r_7) + (1 : Int32))), (3, .int ((r_1 - r_3) + (1 : Int32))), (0, .ref a_this), (1, .ref a_r1), (2, .int p2)]) hx hb dX1_offer_51 hl (by decide) rfl (fun ls hl => ?_)
  refine lv_aload_n hx hb dX1_offer_53 rfl (lv_at hl 2 rfl) ?_
  refine va_get (D := D) (ci := 1) (v := .int v_found) (C := RX1) (T := TX1) (N := 6) hx hb hts iX1 hown hK hP 0 rfl rfl 0 (by decide) f33 (fun _ h9 => h9) rfl dX1_offer_54 ?_
  refine lv_if_eq (tgt := 76) hx hb dX1_offer_57 (by decide) (fun hc => ?_) (fun hc => ?_)
  · replace h := h.1 hc
    exact J76_ok   p2 ((r_1 - r_3) + (1 : Int32)) ((r_5 - r_7) + (1 : Int32)) v_found v_width v_height v_number v_x v_y _ _ _ h hP hD hS (lv_sub hl [2, 3, 4, 1, 0] rfl)
  · replace h := h.2 hc
    refine lv_iload_n hx hb dX1_offer_60 rfl (lv_at hl 1 rfl) ?_
    refine lv_iload hx hb dX1_offer_61 (lv_at hl 0 rfl) ?_
    refine lv_imul hx hb dX1_offer_63 ?_
    refine lv_aload_n hx hb dX1_offer_64 rfl (lv_at hl 2 rfl) ?_
    refine va_get (D := D) (ci := 1) (v := .int v_width) (C := RX1) (T := TX1) (N := 6) hx hb hts iX1 hown hK hP 0 rfl rfl 1 (by decide) f37 (fun _ h9 => h9) rfl dX1_offer_65 ?_
    refine lv_aload_n hx hb dX1_offer_68 rfl (lv_at hl 2 rfl) ?_
    refine va_get (D := D) (ci := 1) (v := .int v_height) (C := RX1) (T := TX1) (N := 6) hx hb hts iX1 hown hK hP 0 rfl rfl 2 (by decide) f40 (fun _ h9 => h9) rfl dX1_offer_69 ?_
    refine lv_imul hx hb dX1_offer_72 ?_
    refine lv_icmp_ge (tgt := 131) hx hb dX1_offer_73 (by decide) (fun hc => ?_) (fun hc => ?_)
    · replace h := h.1 hc
      exact ret (v_found, v_width, v_height, v_number, v_x, v_y) _ _ _ 131 dX1_offer_131 h hP hD hS
    · replace h := h.2 hc
      exact J76_ok   p2 ((r_1 - r_3) + (1 : Int32)) ((r_5 - r_7) + (1 : Int32)) v_found v_width v_height v_number v_x v_y _ _ _ h hP hD hS (lv_sub hl [2, 3, 4, 1, 0] rfl)
