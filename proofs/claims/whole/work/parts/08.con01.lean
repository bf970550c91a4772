def wd_J6_numberOfTrailingZeros_0f7a4 (cI cZ cJ : ClassId) : va_W := []
abbrev rm_J6_numberOfTrailingZeros_0f7a4 : Room := { frames := 0, cells := 0, slots := 0, locals := 0 }
set_option maxHeartbeats 4000000 in
set_option maxRecDepth 100000 in
theorem c_J6_numberOfTrailingZeros_0f7a4 (l : Launch) (D : va_G) (cI cZ cJ : ClassId) (tb : Nat → Nat) (sz : Nat) (p0 : Int32) {post : Int32 → Prop} (h : wp_J6_numberOfTrailingZeros_0f7a4 p0 post) : Met l yJ6_numberOfTrailingZeros_0f7a4 wsJ6_numberOfTrailingZeros_0f7a4 rm_J6_numberOfTrailingZeros_0f7a4 (va_Pc [.int p0] (q_pre D cI cZ cJ tb (wd_J6_numberOfTrailingZeros_0f7a4 cI cZ cJ) sz)) (va_Qi (fun r (u : Unit) => post r) (fun u => q_post D cI cZ cJ (va_A (wd_J6_numberOfTrailingZeros_0f7a4 cI cZ cJ) sz) (wd_J6_numberOfTrailingZeros_0f7a4 cI cZ cJ)) (va_A (wd_J6_numberOfTrailingZeros_0f7a4 cI cZ cJ) sz)) 0 0 (va_A (wd_J6_numberOfTrailingZeros_0f7a4 cI cZ cJ) sz) := by
  refine q_walki (cc := cJ6_numberOfTrailingZeros_0f7a4) (maxL := 2) (own := RJ6) (wd := fun (u : Unit) => (wd_J6_numberOfTrailingZeros_0f7a4 cI cZ cJ)) (by decide) rfl rfl (Nat.le_of_ble_eq_true rfl) ?_
  intro p e s m below meth c Q A ls C hA ret hP hD hS hK hSt hNw hl
  obtain ⟨hx, hb, hml, hown, hts⟩ := id C
  replace hl : lv_has ls 2 [(0, .int p0)] := hl
  have k264 := hts (.constant RJ6 264 (65536)) (by decide +kernel)
  have J62_ok : ∀   (l0 : Int32) (l1 : Int32) (H : Heap) (locs : List Loc) (ls : Array Slot), wj_J6_numberOfTrailingZeros_0f7a4_62 post l0 l1 → va_P D vwCl (wd_J6_numberOfTrailingZeros_0f7a4 cI cZ cJ) H → va_D A (wd_J6_numberOfTrailingZeros_0f7a4 cI cZ cJ) → va_S A s.heap H locs → lv_has ls 2 [(0, .int l0), (1, .int l1)] → W p l e rm_J6_numberOfTrailingZeros_0f7a4 s m ([.int p0] : List Value).toArray below meth c H locs 0 0 Q (F0 m 62 ls []) := by
    intro    l0 l1 H locs ls h hP hD hS hl
    unfold wj_J6_numberOfTrailingZeros_0f7a4_62 at h
    refine lv_iload_n hx hb dJ6_numberOfTrailingZeros_0f7a4_62 rfl (lv_at hl 0 rfl) ?_
    refine lv_iconst (v := 4) hx hb dJ6_numberOfTrailingZeros_0f7a4_63 (by decide) ?_
    refine lv_icmp_le (tgt := 74) hx hb dJ6_numberOfTrailingZeros_0f7a4_64 (by decide) (fun hc => ?_) (fun hc => ?_)
    · replace h := h.1 hc
      refine lv_iload_n hx hb dJ6_numberOfTrailingZeros_0f7a4_74 rfl (lv_at hl 1 rfl) ?_
      refine lv_iload_n hx hb dJ6_numberOfTrailingZeros_0f7a4_75 rfl (lv_at hl 0 rfl) ?_
      refine lv_iconst (v := 1) hx hb dJ6_numberOfTrailingZeros_0f7a4_76 (by decide) ?_
      refine lv_iushr (v := ((l0.toUInt32 >>> ((1 : Int32).toUInt32 &&& Int32.toUInt32 31)).toInt32)) hx hb dJ6_numberOfTrailingZeros_0f7a4_77 rfl ?_
      refine lv_iadd hx hb dJ6_numberOfTrailingZeros_0f7a4_78 ?_
      exact ret (l1 + ((l0.toUInt32 >>> ((1 : Int32).toUInt32 &&& Int32.toUInt32 31)).toInt32)) () _ _ _ 79 dJ6_numberOfTrailingZeros_0f7a4_79 h hP hD hS
    · replace h := h.2 hc
      refine lv_iinc (v := (l1 + (2 : Int32))) (lv' := [(1, .int (l1 + (2 : Int32))), (0, .int l0)]) hx hb dJ6_numberOfTrailingZeros_0f7a4_67 hl (k := 1) rfl rfl (by decide) rfl (fun ls hl => ?_)
      refine lv_iload_n hx hb dJ6_numberOfTrailingZeros_0f7a4_70 rfl (lv_at hl 1 rfl) ?_
      refine lv_iconst (v := 2) hx hb dJ6_numberOfTrailingZeros_0f7a4_71 (by decide) ?_
      refine lv_iushr (v := ((l0.toUInt32 >>> ((2 : Int32).toUInt32 &&& Int32.toUInt32 31)).toInt32)) hx hb dJ6_numberOfTrailingZeros_0f7a4_72 rfl ?_
      refine lv_istore_n (lv' := [(0, .int ((l0.toUInt32 >>> ((2 : Int32).toUInt32 &&& Int32.toUInt32 31)).toInt32)), (1, .int (l1 + (2 : Int32)))]) hx hb dJ6_numberOfTrailingZeros_0f7a4_73 rfl hl (by decide) rfl (fun ls hl => ?_)
      refine lv_iload_n hx hb dJ6_numberOfTrailingZeros_0f7a4_74 rfl (lv_at hl 1 rfl) ?_
      refine lv_iload_n hx hb dJ6_numberOfTrailingZeros_0f7a4_75 rfl (lv_at hl 0 rfl) ?_
      refine lv_iconst (v := 1) hx hb dJ6_numberOfTrailingZeros_0f7a4_76 (by decide) ?_
      refine lv_iushr (v := ((((l0.toUInt32 >>> ((2 : Int32).toUInt32 &&& Int32.toUInt32 31)).toInt32).toUInt32 >>> ((1 : Int32).toUInt32 &&& Int32.toUInt32 31)).toInt32)) hx hb dJ6_numberOfTrailingZeros_0f7a4_77 rfl ?_
      refine lv_iadd hx hb dJ6_numberOfTrailingZeros_0f7a4_78 ?_
      exact ret ((l1 + (2 : Int32)) + ((((l0.toUInt32 >>> ((2 : Int32).toUInt32 &&& Int32.toUInt32 31)).toInt32).toUInt32 >>> ((1 : Int32).toUInt32 &&& Int32.toUInt32 31)).toInt32)) () _ _ _ 79 dJ6_numberOfTrailingZeros_0f7a4_79 h hP hD hS
  have J49_ok : ∀   (l0 : Int32) (l1 : Int32) (H : Heap) (locs : List Loc) (ls : Array Slot), wj_J6_numberOfTrailingZeros_0f7a4_49 post l0 l1 → va_P D vwCl (wd_J6_numberOfTrailingZeros_0f7a4 cI cZ cJ) H → va_D A (wd_J6_numberOfTrailingZeros_0f7a4 cI cZ cJ) → va_S A s.heap H locs → lv_has ls 2 [(0, .int l0), (1, .int l1)] → W p l e rm_J6_numberOfTrailingZeros_0f7a4 s m ([.int p0] : List Value).toArray below meth c H locs 0 0 Q (F0 m 49 ls []) := by
    intro    l0 l1 H locs ls h hP hD hS hl
    unfold wj_J6_numberOfTrailingZeros_0f7a4_49 at h
    refine lv_iload_n hx hb dJ6_numberOfTrailingZeros_0f7a4_49 rfl (lv_at hl 0 rfl) ?_
    refine lv_bipush (v := 16) hx hb dJ6_numberOfTrailingZeros_0f7a4_50 (by decide) ?_
    refine lv_icmp_le (tgt := 62) hx hb dJ6_numberOfTrailingZeros_0f7a4_52 (by decide) (fun hc => ?_) (fun hc => ?_)
    · replace h := h.1 hc
      exact J62_ok   l0 l1 _ _ _ h hP hD hS (lv_sub hl [0, 1] rfl)
    · replace h := h.2 hc
      refine lv_iinc (v := (l1 + (4 : Int32))) (lv' := [(1, .int (l1 + (4 : Int32))), (0, .int l0)]) hx hb dJ6_numberOfTrailingZeros_0f7a4_55 hl (k := 1) rfl rfl (by decide) rfl (fun ls hl => ?_)
      refine lv_iload_n hx hb dJ6_numberOfTrailingZeros_0f7a4_58 rfl (lv_at hl 1 rfl) ?_
      refine lv_iconst (v := 4) hx hb dJ6_numberOfTrailingZeros_0f7a4_59 (by decide) ?_
      refine lv_iushr (v := ((l0.toUInt32 >>> ((4 : Int32).toUInt32 &&& Int32.toUInt32 31)).toInt32)) hx hb dJ6_numberOfTrailingZeros_0f7a4_60 rfl ?_
      refine lv_istore_n (lv' := [(0, .int ((l0.toUInt32 >>> ((4 : Int32).toUInt32 &&& Int32.toUInt32 31)).toInt32)), (1, .int (l1 + (4 : Int32)))]) hx hb dJ6_numberOfTrailingZeros_0f7a4_61 rfl hl (by decide) rfl (fun ls hl => ?_)
      exact J62_ok   ((l0.toUInt32 >>> ((4 : Int32).toUInt32 &&& Int32.toUInt32 31)).toInt32) (l1 + (4 : Int32)) _ _ _ h hP hD hS (lv_sub hl [0, 1] rfl)
  have J34_ok : ∀   (l0 : Int32) (l1 : Int32) (H : Heap) (locs : List Loc) (ls : Array Slot), wj_J6_numberOfTrailingZeros_0f7a4_34 post l0 l1 → va_P D vwCl (wd_J6_numberOfTrailingZeros_0f7a4 cI cZ cJ) H → va_D A (wd_J6_numberOfTrailingZeros_0f7a4 cI cZ cJ) → va_S A s.heap H locs → lv_has ls 2 [(0, .int l0), (1, .int l1)] → W p l e rm_J6_numberOfTrailingZeros_0f7a4 s m ([.int p0] : List Value).toArray below meth c H locs 0 0 Q (F0 m 34 ls []) := by
    intro    l0 l1 H locs ls h hP hD hS hl
    unfold wj_J6_numberOfTrailingZeros_0f7a4_34 at h
    refine lv_iload_n hx hb dJ6_numberOfTrailingZeros_0f7a4_34 rfl (lv_at hl 0 rfl) ?_
    refine lv_sipush (v := 256) hx hb dJ6_numberOfTrailingZeros_0f7a4_35 (by decide) ?_
    refine lv_icmp_le (tgt := 49) hx hb dJ6_numberOfTrailingZeros_0f7a4_38 (by decide) (fun hc => ?_) (fun hc => ?_)
    · replace h := h.1 hc
      exact J49_ok   l0 l1 _ _ _ h hP hD hS (lv_sub hl [0, 1] rfl)
    · replace h := h.2 hc
      refine lv_iinc (v := (l1 + (8 : Int32))) (lv' := [(1, .int (l1 + (8 : Int32))), (0, .int l0)]) hx hb dJ6_numberOfTrailingZeros_0f7a4_41 hl (k := 1) rfl rfl (by decide) rfl (fun ls hl => ?_)
      refine lv_iload_n hx hb dJ6_numberOfTrailingZeros_0f7a4_44 rfl (lv_at hl 1 rfl) ?_
      refine lv_bipush (v := 8) hx hb dJ6_numberOfTrailingZeros_0f7a4_45 (by decide) ?_
      refine lv_iushr (v := ((l0.toUInt32 >>> ((8 : Int32).toUInt32 &&& Int32.toUInt32 31)).toInt32)) hx hb dJ6_numberOfTrailingZeros_0f7a4_47 rfl ?_
      refine lv_istore_n (lv' := [(0, .int ((l0.toUInt32 >>> ((8 : Int32).toUInt32 &&& Int32.toUInt32 31)).toInt32)), (1, .int (l1 + (8 : Int32)))]) hx hb dJ6_numberOfTrailingZeros_0f7a4_48 rfl hl (by decide) rfl (fun ls hl => ?_)
      exact J49_ok   ((l0.toUInt32 >>> ((8 : Int32).toUInt32 &&& Int32.toUInt32 31)).toInt32) (l1 + (8 : Int32)) _ _ _ h hP hD hS (lv_sub hl [0, 1] rfl)
  unfold wp_J6_numberOfTrailingZeros_0f7a4 at h
  refine lv_iload_n hx hb dJ6_numberOfTrailingZeros_0f7a4_0 rfl (lv_at hl 0 rfl) ?_
  refine lv_iconst (v := -1) hx hb dJ6_numberOfTrailingZeros_0f7a4_1 (by decide) ?_
  refine lv_ixor hx hb dJ6_numberOfTrailingZeros_0f7a4_2 ?_
  refine lv_iload_n hx hb dJ6_numberOfTrailingZeros_0f7a4_3 rfl (lv_at hl 0 rfl) ?_
  refine lv_iconst (v := 1) hx hb dJ6_numberOfTrailingZeros_0f7a4_4 (by decide) ?_
  refine lv_isub hx hb dJ6_numberOfTrailingZeros_0f7a4_5 ?_
  refine lv_iand hx hb dJ6_numberOfTrailingZeros_0f7a4_6 ?_
  refine lv_istore_n (lv' := [(0, .int ((p0 ^^^ (-1 : Int32)) &&& (p0 - (1 : Int32))))]) hx hb dJ6_numberOfTrailingZeros_0f7a4_7 rfl hl (by decide) rfl (fun ls hl => ?_)
  refine lv_iload_n hx hb dJ6_numberOfTrailingZeros_0f7a4_8 rfl (lv_at hl 0 rfl) ?_
  refine lv_if_gt (tgt := 17) hx hb dJ6_numberOfTrailingZeros_0f7a4_9 (by decide) (fun hc => ?_) (fun hc => ?_)
  · replace h := h.1 hc
    refine lv_iconst (v := 1) hx hb dJ6_numberOfTrailingZeros_0f7a4_17 (by decide) ?_
    refine lv_istore_n (lv' := [(1, .int (1 : Int32)), (0, .int ((p0 ^^^ (-1 : Int32)) &&& (p0 - (1 : Int32))))]) hx hb dJ6_numberOfTrailingZeros_0f7a4_18 rfl hl (by decide) rfl (fun ls hl => ?_)
    refine lv_iload_n hx hb dJ6_numberOfTrailingZeros_0f7a4_19 rfl (lv_at hl 1 rfl) ?_
    refine lv_ldcw (v := 65536) hx hb hown k264 dJ6_numberOfTrailingZeros_0f7a4_20 ?_
    refine lv_icmp_le (tgt := 34) hx hb dJ6_numberOfTrailingZeros_0f7a4_23 (by decide) (fun hc => ?_) (fun hc => ?_)
    · replace h := h.1 hc
      exact J34_ok   ((p0 ^^^ (-1 : Int32)) &&& (p0 - (1 : Int32))) (1 : Int32) _ _ _ h hP hD hS (lv_sub hl [1, 0] rfl)
    · replace h := h.2 hc
      refine lv_iinc (v := ((1 : Int32) + (16 : Int32))) (lv' := [(1, .int ((1 : Int32) + (16 : Int32))), (0, .int ((p0 ^^^ (-1 : Int32)) &&& (p0 - (1 : Int32))))]) hx hb dJ6_numberOfTrailingZeros_0f7a4_26 hl (k := 0) rfl rfl (by decide) rfl (fun ls hl => ?_)
      refine lv_iload_n hx hb dJ6_numberOfTrailingZeros_0f7a4_29 rfl (lv_at hl 1 rfl) ?_
      refine lv_bipush (v := 16) hx hb dJ6_numberOfTrailingZeros_0f7a4_30 (by decide) ?_
      refine lv_iushr (v := ((((p0 ^^^ (-1 : Int32)) &&& (p0 - (1 : Int32))).toUInt32 >>> ((16 : Int32).toUInt32 &&& Int32.toUInt32 31)).toInt32)) hx hb dJ6_numberOfTrailingZeros_0f7a4_32 rfl ?_
      refine lv_istore_n (lv' := [(0, .int ((((p0 ^^^ (-1 : Int32)) &&& (p0 - (1 : Int32))).toUInt32 >>> ((16 : Int32).toUInt32 &&& Int32.toUInt32 31)).toInt32)), (1, .int ((1 : Int32) + (16 : Int32)))]) hx hb dJ6_numberOfTrailingZeros_0f7a4_33 rfl hl (by decide) rfl (fun ls hl => ?_)
      exact J34_ok   ((((p0 ^^^ (-1 : Int32)) &&& (p0 - (1 : Int32))).toUInt32 >>> ((16 : Int32).toUInt32 &&& Int32.toUInt32 31)).toInt32) ((1 : Int32) + (16 : Int32)) _ _ _ h hP hD hS (lv_sub hl [0, 1] rfl)
  · replace h := h.2 hc
    refine lv_iload_n hx hb dJ6_numberOfTrailingZeros_0f7a4_12 rfl (lv_at hl 0 rfl) ?_
    refine lv_bipush (v := 32) hx hb dJ6_numberOfTrailingZeros_0f7a4_13 (by decide) ?_
    refine lv_iand hx hb dJ6_numberOfTrailingZeros_0f7a4_15 ?_
    exact ret (((p0 ^^^ (-1 : Int32)) &&& (p0 - (1 : Int32))) &&& (32 : Int32)) () _ _ _ 16 dJ6_numberOfTrailingZeros_0f7a4_16 h hP hD hS
def wd_J13_numberOfTrailingZeros_95d88 (cI cZ cJ : ClassId) : va_W := []
abbrev rm_J13_numberOfTrailingZeros_95d88 : Room := { frames := 1, cells := 0, slots := 0, locals := 21 }
set_option maxHeartbeats 4000000 in
set_option maxRecDepth 100000 in
theorem c_J13_numberOfTrailingZeros_95d88 (l : Launch) (D : va_G) (cI cZ cJ : ClassId) (tb : Nat → Nat) (sz : Nat) (p0 : Int64) {post : Int32 → Prop} (h : wp_J13_numberOfTrailingZeros_95d88 p0 post) : Met l yJ13_numberOfTrailingZeros_95d88 wsJ13_numberOfTrailingZeros_95d88 rm_J13_numberOfTrailingZeros_95d88 (va_Pc [.long p0] (q_pre D cI cZ cJ tb (wd_J13_numberOfTrailingZeros_95d88 cI cZ cJ) sz)) (va_Qi (fun r (u : Unit) => post r) (fun u => q_post D cI cZ cJ (va_A (wd_J13_numberOfTrailingZeros_95d88 cI cZ cJ) sz) (wd_J13_numberOfTrailingZeros_95d88 cI cZ cJ)) (va_A (wd_J13_numberOfTrailingZeros_95d88 cI cZ cJ) sz)) 0 0 (va_A (wd_J13_numberOfTrailingZeros_95d88 cI cZ cJ) sz) := by
  refine q_walki (cc := cJ13_numberOfTrailingZeros_95d88) (maxL := 3) (own := RJ13) (wd := fun (u : Unit) => (wd_J13_numberOfTrailingZeros_95d88 cI cZ cJ)) (by decide) rfl rfl (Nat.le_of_ble_eq_true rfl) ?_
  intro p e s m below meth c Q A ls C hA ret hP hD hS hK hSt hNw hl
  obtain ⟨hx, hb, hml, hown, hts⟩ := id C
  replace hl : lv_has ls 3 [(0, .long p0)] := hl
  unfold wp_J13_numberOfTrailingZeros_95d88 at h
  refine lv_lload_n hx hb dJ13_numberOfTrailingZeros_95d88_0 rfl (lv_at hl 0 rfl) ?_
  refine lv_l2i (v := (p0.toInt32)) hx hb dJ13_numberOfTrailingZeros_95d88_1 rfl ?_
  refine lv_istore_n (lv' := [(2, .int (p0.toInt32)), (0, .long p0)]) hx hb dJ13_numberOfTrailingZeros_95d88_2 rfl hl (by decide) rfl (fun ls hl => ?_)
  refine lv_iload_n hx hb dJ13_numberOfTrailingZeros_95d88_3 rfl (lv_at hl 0 rfl) ?_
  refine lv_if_ne (tgt := 21) hx hb dJ13_numberOfTrailingZeros_95d88_4 (by decide) (fun hc => ?_) (fun hc => ?_)
  · replace h := h.1 hc
    refine lv_iload_n hx hb dJ13_numberOfTrailingZeros_95d88_21 rfl (lv_at hl 0 rfl) ?_
    have hPc := hP.sub (ws' := (wd_J6_numberOfTrailingZeros_0f7a4 cI cZ cJ)) [] rfl
    have hDc := hD.sub (ws' := (wd_J6_numberOfTrailingZeros_0f7a4 cI cZ cJ)) [] (by decide) rfl
    have hFc := va_free (wc := (wd_J6_numberOfTrailingZeros_0f7a4 cI cZ cJ)) hD hS hA [] rfl
    refine va_calli (va_runS (As := [.int (p0.toInt32)]) (rest := []) C (c_J6_numberOfTrailingZeros_0f7a4 l D cI cZ cJ tb s.heap.size (p0.toInt32) h) (va_cwS 1 hts gJ13_numberOfTrailingZeros_95d88_J6_numberOfTrailingZeros_0f7a4 rfl rfl rfl (by decide +kernel) ⟨Nat.le_of_ble_eq_true rfl, Nat.le_of_ble_eq_true rfl⟩) ⟨q_pre.blind, fun U hU hW => ⟨rfl, q_pre.of hU hW hPc hK hDc hSt hS hFc hNw⟩⟩ rfl rfl hl.1 rfl (lv_room (Nat.le_of_ble_eq_true rfl)) dJ13_numberOfTrailingZeros_95d88_22 ⟨Nat.zero_le _, Nat.zero_le _⟩) hS (fun q _ h => hFc q h) hFc (fun r_1 u_2 t H1 locs ht hvm hw hB hz1 hk1 hS => ?_)
    obtain ⟨hP1, hK1, hD1⟩ := hB
    rw [ht] at hP1
    obtain ⟨hP, hD⟩ := va_join (wr := []) (w1 := (wd_J6_numberOfTrailingZeros_0f7a4 cI cZ cJ)) hP hD [] [] rfl rfl (by decide) (by decide) hk1 hFc hP1 hD1
    clear hPc hDc hFc hP1 hD1 hK1 hk1 hz1 ht hvm
    replace h := hw
    clear hw
    generalize H1 = H at hP hS ⊢
    replace hP : va_P D vwCl (wd_J13_numberOfTrailingZeros_95d88 cI cZ cJ) H := hP.sub [] rfl
    replace hD : va_D A (wd_J13_numberOfTrailingZeros_95d88 cI cZ cJ) := hD.sub [] (by decide) rfl
    exact ret r_1 () _ _ _ 25 dJ13_numberOfTrailingZeros_95d88_25 h hP hD hS
  · replace h := h.2 hc
    refine lv_bipush (v := 32) hx hb dJ13_numberOfTrailingZeros_95d88_7 (by decide) ?_
    refine lv_lload_n hx hb dJ13_numberOfTrailingZeros_95d88_9 rfl (lv_at hl 1 rfl) ?_
    refine lv_bipush (v := 32) hx hb dJ13_numberOfTrailingZeros_95d88_10 (by decide) ?_
    refine lv_lushr (v := ((p0.toUInt64 >>> ((32 : Int32).toInt64.toUInt64 &&& Int64.toUInt64 63)).toInt64)) hx hb dJ13_numberOfTrailingZeros_95d88_12 rfl ?_
    refine lv_l2i (v := (((p0.toUInt64 >>> ((32 : Int32).toInt64.toUInt64 &&& Int64.toUInt64 63)).toInt64).toInt32)) hx hb dJ13_numberOfTrailingZeros_95d88_13 rfl ?_
    have hPc := hP.sub (ws' := (wd_J6_numberOfTrailingZeros_0f7a4 cI cZ cJ)) [] rfl
    have hDc := hD.sub (ws' := (wd_J6_numberOfTrailingZeros_0f7a4 cI cZ cJ)) [] (by decide) rfl
    have hFc := va_free (wc := (wd_J6_numberOfTrailingZeros_0f7a4 cI cZ cJ)) hD hS hA [] rfl
    refine va_calli (va_runS (As := [.int (((p0.toUInt64 >>> ((32 : Int32).toInt64.toUInt64 &&& Int64.toUInt64 63)).toInt64).toInt32)]) (rest := [.int (32 : Int32)]) C (c_J6_numberOfTrailingZeros_0f7a4 l D cI cZ cJ tb s.heap.size (((p0.toUInt64 >>> ((32 : Int32).toInt64.toUInt64 &&& Int64.toUInt64 63)).toInt64).toInt32) h) (va_cwS 1 hts gJ13_numberOfTrailingZeros_95d88_J6_numberOfTrailingZeros_0f7a4 rfl rfl rfl (by decide +kernel) ⟨Nat.le_of_ble_eq_true rfl, Nat.le_of_ble_eq_true rfl⟩) ⟨q_pre.blind, fun U hU hW => ⟨rfl, q_pre.of hU hW hPc hK hDc hSt hS hFc hNw⟩⟩ rfl rfl hl.1 rfl (lv_room (Nat.le_of_ble_eq_true rfl)) dJ13_numberOfTrailingZeros_95d88_14 ⟨Nat.zero_le _, Nat.zero_le _⟩) hS (fun q _ h => hFc q h) hFc (fun r_3 u_4 t H1 locs ht hvm hw hB hz1 hk1 hS => ?_)
    obtain ⟨hP1, hK1, hD1⟩ := hB
    rw [ht] at hP1
    obtain ⟨hP, hD⟩ := va_join (wr := []) (w1 := (wd_J6_numberOfTrailingZeros_0f7a4 cI cZ cJ)) hP hD [] [] rfl rfl (by decide) (by decide) hk1 hFc hP1 hD1
    clear hPc hDc hFc hP1 hD1 hK1 hk1 hz1 ht hvm
    replace h := hw
    clear hw
    generalize H1 = H at hP hS ⊢
    replace hP : va_P D vwCl (wd_J13_numberOfTrailingZeros_95d88 cI cZ cJ) H := hP.sub [] rfl
    replace hD : va_D A (wd_J13_numberOfTrailingZeros_95d88 cI cZ cJ) := hD.sub [] (by decide) rfl
    refine lv_iadd hx hb dJ13_numberOfTrailingZeros_95d88_17 ?_
    refine lv_goto (tgt := 25) hx hb dJ13_numberOfTrailingZeros_95d88_18 (by decide) ?_
    exact ret ((32 : Int32) + r_3) () _ _ _ 25 dJ13_numberOfTrailingZeros_95d88_25 h hP hD hS
def wd_J6_lowestOneBit_0f7a4 (cI cZ cJ : ClassId) : va_W := []
abbrev rm_J6_lowestOneBit_0f7a4 : Room := { frames := 0, cells := 0, slots := 0, locals := 0 }
set_option maxHeartbeats 4000000 in
set_option maxRecDepth 100000 in
theorem c_J6_lowestOneBit_0f7a4 (l : Launch) (D : va_G) (cI cZ cJ : ClassId) (tb : Nat → Nat) (sz : Nat) (p0 : Int32) {post : Int32 → Prop} (h : wp_J6_lowestOneBit_0f7a4 p0 post) : Met l yJ6_lowestOneBit_0f7a4 wsJ6_lowestOneBit_0f7a4 rm_J6_lowestOneBit_0f7a4 (va_Pc [.int p0] (q_pre D cI cZ cJ tb (wd_J6_lowestOneBit_0f7a4 cI cZ cJ) sz)) (va_Qi (fun r (u : Unit) => post r) (fun u => q_post D cI cZ cJ (va_A (wd_J6_lowestOneBit_0f7a4 cI cZ cJ) sz) (wd_J6_lowestOneBit_0f7a4 cI cZ cJ)) (va_A (wd_J6_lowestOneBit_0f7a4 cI cZ cJ) sz)) 0 0 (va_A (wd_J6_lowestOneBit_0f7a4 cI cZ cJ) sz) := by
  refine q_walki (cc := cJ6_lowestOneBit_0f7a4) (maxL := 1) (own := RJ6) (wd := fun (u : Unit) => (wd_J6_lowestOneBit_0f7a4 cI cZ cJ)) (by decide) rfl rfl (Nat.le_of_ble_eq_true rfl) ?_
  intro p e s m below meth c Q A ls C hA ret hP hD hS hK hSt hNw hl
  obtain ⟨hx, hb, hml, hown, hts⟩ := id C
  replace hl : lv_has ls 1 [(0, .int p0)] := hl
  unfold wp_J6_lowestOneBit_0f7a4 at h
  refine lv_iload_n hx hb dJ6_lowestOneBit_0f7a4_0 rfl (lv_at hl 0 rfl) ?_
  refine lv_iload_n hx hb dJ6_lowestOneBit_0f7a4_1 rfl (lv_at hl 0 rfl) ?_
  refine lv_ineg hx hb dJ6_lowestOneBit_0f7a4_2 ?_
  refine lv_iand hx hb dJ6_lowestOneBit_0f7a4_3 ?_
  exact ret (p0 &&& (-p0)) () _ _ _ 4 dJ6_lowestOneBit_0f7a4_4 h hP hD hS
def wd_J7_fill_53178 (cI cZ cJ : ClassId) (a_r0 : Nat) (n_r0 : Nat) (v_r0 : Nat → Int32) : va_W := [(a_r0, .inl (cI, n_r0, .inl v_r0))]
abbrev rm_J7_fill_53178 : Room := { frames := 0, cells := 0, slots := 0, locals := 0 }
set_option maxHeartbeats 4000000 in
set_option maxRecDepth 100000 in
theorem c_J7_fill_53178 (l : Launch) (D : va_G) (cI cZ cJ : ClassId) (tb : Nat → Nat) (a_r0 : Nat) (n_r0 : Nat) (v_r0 : Nat → Int32) (sz : Nat) (p1 : Int32) {post : (Nat → Int32) → Prop} (h : wp_J7_fill_53178 n_r0 v_r0 p1 post) : Met l yJ7_fill_53178 wsJ7_fill_53178 rm_J7_fill_53178 (va_Pc [.ref a_r0, .int p1] (q_pre D cI cZ cJ tb (wd_J7_fill_53178 cI cZ cJ a_r0 n_r0 v_r0) sz)) (va_Qv (fun (u : Nat → Int32) => post u) (fun u => q_post D cI cZ cJ (va_A (wd_J7_fill_53178 cI cZ cJ a_r0 n_r0 v_r0) sz) (wd_J7_fill_53178 cI cZ cJ a_r0 n_r0 u)) (va_A (wd_J7_fill_53178 cI cZ cJ a_r0 n_r0 v_r0) sz)) 0 0 (va_A (wd_J7_fill_53178 cI cZ cJ a_r0 n_r0 v_r0) sz) := by
  refine q_walkv (cc := cJ7_fill_53178) (maxL := 4) (own := RJ7) (wd := fun (u : Nat → Int32) => (wd_J7_fill_53178 cI cZ cJ a_r0 n_r0 u)) (by decide) rfl rfl (Nat.le_of_ble_eq_true rfl) ?_
  intro p e s m below meth c Q A ls C hA ret hP hD hS hK hSt hNw hl
  obtain ⟨hx, hb, hml, hown, hts⟩ := id C
  replace hl : lv_has ls 4 [(0, .ref a_r0), (1, .int p1)] := hl
  have L5_ok : ∀ (l1 : Int32) (l3 : Int32) (kx20 : (Nat → Int32) → Prop) (hkx20 : ∀ (v_r0 : Nat → Int32) (H : Heap) (locs : List Loc) (ls : Array Slot), kx20 v_r0 → va_P D vwCl (wd_J7_fill_53178 cI cZ cJ a_r0 n_r0 v_r0) H → va_D A (wd_J7_fill_53178 cI cZ cJ a_r0 n_r0 v_r0) → va_S A s.heap H locs → lv_has ls 4 [] → W p l e rm_J7_fill_53178 s m ([.ref a_r0, .int p1] : List Value).toArray below meth c H locs 0 0 Q (F0 m 20 ls [])) (n : Nat) (l2 : Int32) (v_r0 : Nat → Int32) (H : Heap) (locs : List Loc) (ls : Array Slot), lpN (wl_J7_fill_53178_5 n_r0 l1 l3 kx20) n (l2, v_r0) → va_P D vwCl (wd_J7_fill_53178 cI cZ cJ a_r0 n_r0 v_r0) H → va_D A (wd_J7_fill_53178 cI cZ cJ a_r0 n_r0 v_r0) → va_S A s.heap H locs → lv_has ls 4 [(0, .ref a_r0), (1, .int l1), (2, .int l2), (3, .int l3)] → W p l e rm_J7_fill_53178 s m ([.ref a_r0, .int p1] : List Value).toArray below meth c H locs 0 0 Q (F0 m 5 ls []) := by
    intro l1 l3 kx20 hkx20 n
    induction n with
    | zero => intro l2 v_r0 H locs ls h; exact False.elim h
    | succ n ih =>
      intro l2 v_r0 H locs ls h hP hD hS hl
      have h : wb_J7_fill_53178_5 n_r0 l1 l3 kx20 (fun l2 v_r0 => lpN (wl_J7_fill_53178_5 n_r0 l1 l3 kx20) n (l2, v_r0)) l2 v_r0 := h
      unfold wb_J7_fill_53178_5 at h
      refine lv_iload_n hx hb dJ7_fill_53178_5 rfl (lv_at hl 2 rfl) ?_
      refine lv_iload_n hx hb dJ7_fill_53178_6 rfl (lv_at hl 3 rfl) ?_
      refine lv_icmp_ge (tgt := 20) hx hb dJ7_fill_53178_7 (by decide) (fun hc => ?_) (fun hc => ?_)
      · replace h := h.1 hc
        exact hkx20 v_r0 _ _ _ h hP hD hS (lv_sub hl [] rfl)
      · replace h := h.2 hc
        refine lv_aload_n hx hb dJ7_fill_53178_10 rfl (lv_at hl 0 rfl) ?_
        refine lv_iload_n hx hb dJ7_fill_53178_11 rfl (lv_at hl 2 rfl) ?_
        refine lv_iload_n hx hb dJ7_fill_53178_12 rfl (lv_at hl 1 rfl) ?_
        obtain ⟨hin, h⟩ := h
        refine va_iast hx hb hK hP hD hS 0 0 rfl rfl hin dJ7_fill_53178_13 (fun H locs hP hD hS => ?_)
        replace hP : va_P D vwCl (wd_J7_fill_53178 cI cZ cJ a_r0 n_r0 (upd v_r0 l2.toNatClampNeg l1)) H := hP
        replace hD : va_D A (wd_J7_fill_53178 cI cZ cJ a_r0 n_r0 (upd v_r0 l2.toNatClampNeg l1)) := hD
        refine lv_iinc (v := (l2 + (1 : Int32))) (lv' := [(2, .int (l2 + (1 : Int32))), (0, .ref a_r0), (1, .int l1), (3, .int l3)]) hx hb dJ7_fill_53178_14 hl (k := 2) rfl rfl (by decide) rfl (fun ls hl => ?_)
        refine lv_goto (tgt := 5) hx hb dJ7_fill_53178_17 (by decide) ?_
        exact ih (l2 + (1 : Int32)) (upd v_r0 l2.toNatClampNeg l1) _ _ _ h hP hD hS (lv_sub hl [1, 2, 0, 3] rfl)
  unfold wp_J7_fill_53178 at h
  refine lv_iconst (v := 0) hx hb dJ7_fill_53178_0 (by decide) ?_
  refine lv_istore_n (lv' := [(2, .int (0 : Int32)), (0, .ref a_r0), (1, .int p1)]) hx hb dJ7_fill_53178_1 rfl hl (by decide) rfl (fun ls hl => ?_)
  refine lv_aload_n hx hb dJ7_fill_53178_2 rfl (lv_at hl 1 rfl) ?_
  refine va_alen (v := (Int32.ofNat n_r0)) hx hb hK hP 0 0 rfl rfl rfl dJ7_fill_53178_3 ?_
  refine lv_istore_n (lv' := [(3, .int (Int32.ofNat n_r0)), (2, .int (0 : Int32)), (0, .ref a_r0), (1, .int p1)]) hx hb dJ7_fill_53178_4 rfl hl (by decide) rfl (fun ls hl => ?_)
  obtain ⟨n, h⟩ := h
  refine L5_ok p1 (Int32.ofNat n_r0) _ (fun v_r0_1 H locs ls h hP hD hS hl => ?_) n (0 : Int32) v_r0 _ _ _ h hP hD hS (lv_sub hl [2, 3, 1, 0] rfl)
  exact ret v_r0_1 _ _ _ 20 dJ7_fill_53178_20 h hP hD hS
def wd_J7_fill_d0a16 (cI cZ cJ : ClassId) (a_r0 : Nat) (n_r0 : Nat) (v_r0 : Nat → Int64) : va_W := [(a_r0, .inl (cJ, n_r0, .inr (.inl v_r0)))]
abbrev rm_J7_fill_d0a16 : Room := { frames := 0, cells := 0, slots := 0, locals := 0 }
set_option maxHeartbeats 4000000 in
set_option maxRecDepth 100000 in
theorem c_J7_fill_d0a16 (l : Launch) (D : va_G) (cI cZ cJ : ClassId) (tb : Nat → Nat) (a_r0 : Nat) (n_r0 : Nat) (v_r0 : Nat → Int64) (sz : Nat) (p1 : Int64) {post : (Nat → Int64) → Prop} (h : wp_J7_fill_d0a16 n_r0 v_r0 p1 post) : Met l yJ7_fill_d0a16 wsJ7_fill_d0a16 rm_J7_fill_d0a16 (va_Pc [.ref a_r0, .long p1] (q_pre D cI cZ cJ tb (wd_J7_fill_d0a16 cI cZ cJ a_r0 n_r0 v_r0) sz)) (va_Qv (fun (u : Nat → Int64) => post u) (fun u => q_post D cI cZ cJ (va_A (wd_J7_fill_d0a16 cI cZ cJ a_r0 n_r0 v_r0) sz) (wd_J7_fill_d0a16 cI cZ cJ a_r0 n_r0 u)) (va_A (wd_J7_fill_d0a16 cI cZ cJ a_r0 n_r0 v_r0) sz)) 0 0 (va_A (wd_J7_fill_d0a16 cI cZ cJ a_r0 n_r0 v_r0) sz) := by
  refine q_walkv (cc := cJ7_fill_d0a16) (maxL := 5) (own := RJ7) (wd := fun (u : Nat → Int64) => (wd_J7_fill_d0a16 cI cZ cJ a_r0 n_r0 u)) (by decide) rfl rfl (Nat.le_of_ble_eq_true rfl) ?_
  intro p e s m below meth c Q A ls C hA ret hP hD hS hK hSt hNw hl
  obtain ⟨hx, hb, hml, hown, hts⟩ := id C
  replace hl : lv_has ls 5 [(0, .ref a_r0), (1, .long p1)] := hl
  have L6_ok : ∀ (l1 : Int64) (l4 : Int32) (kx22 : (Nat → Int64) → Prop) (hkx22 : ∀ (v_r0 : Nat → Int64) (H : Heap) (locs : List Loc) (ls : Array Slot), kx22 v_r0 → va_P D vwCl (wd_J7_fill_d0a16 cI cZ cJ a_r0 n_r0 v_r0) H → va_D A (wd_J7_fill_d0a16 cI cZ cJ a_r0 n_r0 v_r0) → va_S A s.heap H locs → lv_has ls 5 [] → W p l e rm_J7_fill_d0a16 s m ([.ref a_r0, .long p1] : List Value).toArray below meth c H locs 0 0 Q (F0 m 22 ls [])) (n : Nat) (l3 : Int32) (v_r0 : Nat → Int64) (H : Heap) (locs : List Loc) (ls : Array Slot), lpN (wl_J7_fill_d0a16_6 n_r0 l1 l4 kx22) n (l3, v_r0) → va_P D vwCl (wd_J7_fill_d0a16 cI cZ cJ a_r0 n_r0 v_r0) H → va_D A (wd_J7_fill_d0a16 cI cZ cJ a_r0 n_r0 v_r0) → va_S A s.heap H locs → lv_has ls 5 [(0, .ref a_r0), (1, .long l1), (3, .int l3), (4, .int l4)] → W p l e rm_J7_fill_d0a16 s m ([.ref a_r0, .long p1] : List Value).toArray below meth c H locs 0 0 Q (F0 m 6 ls []) := by
    intro l1 l4 kx22 hkx22 n
    induction n with
    | zero => intro l3 v_r0 H locs ls h; exact False.elim h
    | succ n ih =>
      intro l3 v_r0 H locs ls h hP hD hS hl
      have h : wb_J7_fill_d0a16_6 n_r0 l1 l4 kx22 (fun l3 v_r0 => lpN (wl_J7_fill_d0a16_6 n_r0 l1 l4 kx22) n (l3, v_r0)) l3 v_r0 := h
      unfold wb_J7_fill_d0a16_6 at h
      refine lv_iload_n hx hb dJ7_fill_d0a16_6 rfl (lv_at hl 2 rfl) ?_
      refine lv_iload hx hb dJ7_fill_d0a16_7 (lv_at hl 3 rfl) ?_
      refine lv_icmp_ge (tgt := 22) hx hb dJ7_fill_d0a16_9 (by decide) (fun hc => ?_) (fun hc => ?_)
      · replace h := h.1 hc
        exact hkx22 v_r0 _ _ _ h hP hD hS (lv_sub hl [] rfl)
      · replace h := h.2 hc
        refine lv_aload_n hx hb dJ7_fill_d0a16_12 rfl (lv_at hl 0 rfl) ?_
        refine lv_iload_n hx hb dJ7_fill_d0a16_13 rfl (lv_at hl 2 rfl) ?_
        refine lv_lload_n hx hb dJ7_fill_d0a16_14 rfl (lv_at hl 1 rfl) ?_
        obtain ⟨hin, h⟩ := h
        refine va_last hx hb hK hP hD hS 0 2 rfl rfl hin dJ7_fill_d0a16_15 (fun H locs hP hD hS => ?_)
        replace hP : va_P D vwCl (wd_J7_fill_d0a16 cI cZ cJ a_r0 n_r0 (vp_updL v_r0 l3.toNatClampNeg l1)) H := hP
        replace hD : va_D A (wd_J7_fill_d0a16 cI cZ cJ a_r0 n_r0 (vp_updL v_r0 l3.toNatClampNeg l1)) := hD
        refine lv_iinc (v := (l3 + (1 : Int32))) (lv' := [(3, .int (l3 + (1 : Int32))), (0, .ref a_r0), (1, .long l1), (4, .int l4)]) hx hb dJ7_fill_d0a16_16 hl (k := 2) rfl rfl (by decide) rfl (fun ls hl => ?_)
        refine lv_goto (tgt := 6) hx hb dJ7_fill_d0a16_19 (by decide) ?_
        exact ih (l3 + (1 : Int32)) (vp_updL v_r0 l3.toNatClampNeg l1) _ _ _ h hP hD hS (lv_sub hl [1, 2, 0, 3] rfl)
  unfold wp_J7_fill_d0a16 at h
  refine lv_iconst (v := 0) hx hb dJ7_fill_d0a16_0 (by decide) ?_
  refine lv_istore_n (lv' := [(3, .int (0 : Int32)), (0, .ref a_r0), (1, .long p1)]) hx hb dJ7_fill_d0a16_1 rfl hl (by decide) rfl (fun ls hl => ?_)
  refine lv_aload_n hx hb dJ7_fill_d0a16_2 rfl (lv_at hl 1 rfl) ?_
  refine va_alen (v := (Int32.ofNat n_r0)) hx hb hK hP 0 2 rfl rfl rfl dJ7_fill_d0a16_3 ?_
  refine lv_istore (lv' := [(4, .int (Int32.ofNat n_r0)), (3, .int (0 : Int32)), (0, .ref a_r0), (1, .long p1)]) hx hb dJ7_fill_d0a16_4 hl (by decide) rfl (fun ls hl => ?_)
  obtain ⟨n, h⟩ := h
  refine L6_ok p1 (Int32.ofNat n_r0) _ (fun v_r0_1 H locs ls h hP hD hS hl => ?_) n (0 : Int32) v_r0 _ _ _ h hP hD hS (lv_sub hl [2, 3, 1, 0] rfl)
  exact ret v_r0_1 _ _ _ 22 dJ7_fill_d0a16_22 h hP hD hS
def wd_X7_least (cI cZ cJ : ClassId) (a_r0 : Nat) (n_r0 : Nat) (v_r0 : Nat → Int32) : va_W := [(a_r0, .inl (cI, n_r0, .inl v_r0))]
abbrev rm_X7_least : Room := { frames := 0, cells := 0, slots := 0, locals := 0 }
set_option maxHeartbeats 4000000 in
set_option maxRecDepth 100000 in
theorem c_X7_least (l : Launch) (D : va_G) (cI cZ cJ : ClassId) (tb : Nat → Nat) (a_r0 : Nat) (n_r0 : Nat) (v_r0 : Nat → Int32) (sz : Nat) (p1 : Int32) {post : Int32 → Prop} (h : wp_X7_least n_r0 v_r0 p1 post) : Met l yX7_least wsX7_least rm_X7_least (va_Pc [.ref a_r0, .int p1] (q_pre D cI cZ cJ tb (wd_X7_least cI cZ cJ a_r0 n_r0 v_r0) sz)) (va_Qi (fun r (u : Unit) => post r) (fun u => q_post D cI cZ cJ (va_A (wd_X7_least cI cZ cJ a_r0 n_r0 v_r0) sz) (wd_X7_least cI cZ cJ a_r0 n_r0 v_r0)) (va_A (wd_X7_least cI cZ cJ a_r0 n_r0 v_r0) sz)) 0 0 (va_A (wd_X7_least cI cZ cJ a_r0 n_r0 v_r0) sz) := by
  refine q_walki (cc := cX7_least) (maxL := 4) (own := RX7) (wd := fun (u : Unit) => (wd_X7_least cI cZ cJ a_r0 n_r0 v_r0)) (by decide) rfl rfl (Nat.le_of_ble_eq_true rfl) ?_
  intro p e s m below meth c Q A ls C hA ret hP hD hS hK hSt hNw hl
  obtain ⟨hx, hb, hml, hown, hts⟩ := id C
  replace hl : lv_has ls 4 [(0, .ref a_r0), (1, .int p1)] := hl
  have L6_ok : ∀ (l1 : Int32) (kx28 : Int32 → Prop) (hkx28 : ∀ (l2 : Int32) (H : Heap) (locs : List Loc) (ls : Array Slot), kx28 l2 → va_P D vwCl (wd_X7_least cI cZ cJ a_r0 n_r0 v_r0) H → va_D A (wd_X7_least cI cZ cJ a_r0 n_r0 v_r0) → va_S A s.heap H locs → lv_has ls 4 [(2, .int l2)] → W p l e rm_X7_least s m ([.ref a_r0, .int p1] : List Value).toArray below meth c H locs 0 0 Q (F0 m 28 ls [])) (n : Nat) (l2 : Int32) (l3 : Int32) (H : Heap) (locs : List Loc) (ls : Array Slot), lpN (wl_X7_least_6 n_r0 v_r0 l1 kx28) n (l2, l3) → va_P D vwCl (wd_X7_least cI cZ cJ a_r0 n_r0 v_r0) H → va_D A (wd_X7_least cI cZ cJ a_r0 n_r0 v_r0) → va_S A s.heap H locs → lv_has ls 4 [(0, .ref a_r0), (1, .int l1), (2, .int l2), (3, .int l3)] → W p l e rm_X7_least s m ([.ref a_r0, .int p1] : List Value).toArray below meth c H locs 0 0 Q (F0 m 6 ls []) := by
    intro l1 kx28 hkx28 n
    induction n with
    | zero => intro l2 l3 H locs ls h; exact False.elim h
    | succ n ih =>
      intro l2 l3 H locs ls h hP hD hS hl
      have h : wb_X7_least_6 n_r0 v_r0 l1 kx28 (fun l2 l3 => lpN (wl_X7_least_6 n_r0 v_r0 l1 kx28) n (l2, l3)) l2 l3 := h
      unfold wb_X7_least_6 at h
      refine lv_iload_n hx hb dX7_least_6 rfl (lv_at hl 3 rfl) ?_
      refine lv_iload_n hx hb dX7_least_7 rfl (lv_at hl 1 rfl) ?_
      refine lv_icmp_ge (tgt := 28) hx hb dX7_least_8 (by decide) (fun hc => ?_) (fun hc => ?_)
      · replace h := h.1 hc
        exact hkx28 l2 _ _ _ h hP hD hS (lv_sub hl [2] rfl)
      · replace h := h.2 hc
        refine lv_aload_n hx hb dX7_least_11 rfl (lv_at hl 0 rfl) ?_
        refine lv_iload_n hx hb dX7_least_12 rfl (lv_at hl 3 rfl) ?_
        obtain ⟨hin, h⟩ := h
        refine va_iald hx hb hK hP 0 0 rfl rfl hin dX7_least_13 ?_
        refine lv_iload_n hx hb dX7_least_14 rfl (lv_at hl 2 rfl) ?_
        refine lv_icmp_ge (tgt := 22) hx hb dX7_least_15 (by decide) (fun hc => ?_) (fun hc => ?_)
        · replace h := h.1 hc
          refine lv_iinc (v := (l3 + (1 : Int32))) (lv' := [(3, .int (l3 + (1 : Int32))), (0, .ref a_r0), (1, .int l1), (2, .int l2)]) hx hb dX7_least_22 hl (k := 3) rfl rfl (by decide) rfl (fun ls hl => ?_)
          refine lv_goto (tgt := 6) hx hb dX7_least_25 (by decide) ?_
          exact ih l2 (l3 + (1 : Int32)) _ _ _ h hP hD hS (lv_sub hl [1, 2, 3, 0] rfl)
        · replace h := h.2 hc
          refine lv_aload_n hx hb dX7_least_18 rfl (lv_at hl 0 rfl) ?_
          refine lv_iload_n hx hb dX7_least_19 rfl (lv_at hl 3 rfl) ?_
          obtain ⟨hin, h⟩ := h
          refine va_iald hx hb hK hP 0 0 rfl rfl hin dX7_least_20 ?_
          refine lv_istore_n (lv' := [(2, .int (v_r0 l3.toNatClampNeg)), (0, .ref a_r0), (1, .int l1), (3, .int l3)]) hx hb dX7_least_21 rfl hl (by decide) rfl (fun ls hl => ?_)
          refine lv_iinc (v := (l3 + (1 : Int32))) (lv' := [(3, .int (l3 + (1 : Int32))), (2, .int (v_r0 l3.toNatClampNeg)), (0, .ref a_r0), (1, .int l1)]) hx hb dX7_least_22 hl (k := 3) rfl rfl (by decide) rfl (fun ls hl => ?_)
          refine lv_goto (tgt := 6) hx hb dX7_least_25 (by decide) ?_
          exact ih (v_r0 l3.toNatClampNeg) (l3 + (1 : Int32)) _ _ _ h hP hD hS (lv_sub hl [2, 3, 1, 0] rfl)
  unfold wp_X7_least at h
  refine lv_aload_n hx hb dX7_least_0 rfl (lv_at hl 0 rfl) ?_
  refine lv_iconst (v := 0) hx hb dX7_least_1 (by decide) ?_
  obtain ⟨hin, h⟩ := h
  refine va_iald hx hb hK hP 0 0 rfl rfl hin dX7_least_2 ?_
  refine lv_istore_n (lv' := [(2, .int (v_r0 (0 : Int32).toNatClampNeg)), (0, .ref a_r0), (1, .int p1)]) hx hb dX7_least_3 rfl hl (by decide) rfl (fun ls hl => ?_)
  refine lv_iconst (v := 1) hx hb dX7_least_4 (by decide) ?_
  refine lv_istore_n (lv' := [(3, .int (1 : Int32)), (2, .int (v_r0 (0 : Int32).toNatClampNeg)), (0, .ref a_r0), (1, .int p1)]) hx hb dX7_least_5 rfl hl (by decide) rfl (fun ls hl => ?_)
  obtain ⟨n, h⟩ := h
  refine L6_ok p1 _ (fun l2_1 H locs ls h hP hD hS hl => ?_) n (v_r0 (0 : Int32).toNatClampNeg) (1 : Int32) _ _ _ h hP hD hS (lv_sub hl [2, 3, 1, 0] rfl)
  refine lv_iload_n hx hb dX7_least_28 rfl (lv_at hl 0 rfl) ?_
  exact ret l2_1 () _ _ _ 29 dX7_least_29 h hP hD hS
def wd_X0_drawImage (cI cZ cJ : ClassId) (a_this a_image a_imageX a_imageY a_r1 a_r1_x a_r1_y a_places a_numbers a_leastImage a_r1_lies a_r1_solid a_r1_headings a_r1_taken : Nat) (v_count : Int32) (v_image : Nat → Int32) (v_imageX : Nat → Int32) (v_imageY : Nat → Int32) (v_r1_count : Int32) (v_r1_x : Nat → Int32) (v_r1_y : Nat → Int32) : va_W := [(a_this, .inr (0, [.int v_count, .ref a_places, .ref a_numbers, .ref a_imageX, .ref a_imageY, .ref a_image, .ref a_leastImage])),
  (a_image, .inl (cI, 22, .inl v_image)),
  (a_imageX, .inl (cI, 22, .inl v_imageX)),
  (a_imageY, .inl (cI, 22, .inl v_imageY)),
  (a_r1, .inr (3, [.ref a_r1_lies, .ref a_r1_x, .ref a_r1_y, .int v_r1_count, .ref a_r1_solid, .ref a_r1_headings, .ref a_r1_taken])),
  (a_r1_x, .inl (cI, 22, .inl v_r1_x)),
  (a_r1_y, .inl (cI, 22, .inl v_r1_y))]
abbrev rm_X0_drawImage : Room := { frames := 1, cells := 0, slots := 0, locals := 23 }
set_option maxHeartbeats 4000000 in
set_option maxRecDepth 100000 in
theorem c_X0_drawImage (l : Launch) (D : va_G) (cI cZ cJ : ClassId) (tb : Nat → Nat) (a_this a_image a_imageX a_imageY a_r1 a_r1_x a_r1_y a_places a_numbers a_leastImage a_r1_lies a_r1_solid a_r1_headings a_r1_taken : Nat) (v_count : Int32) (v_image : Nat → Int32) (v_imageX : Nat → Int32) (v_imageY : Nat → Int32) (v_r1_count : Int32) (v_r1_x : Nat → Int32) (v_r1_y : Nat → Int32) (sz : Nat) (p2 : Int32) {post : (Nat → Int32) → (Nat → Int32) → (Nat → Int32) → Prop} (h : wp_X0_drawImage v_image v_imageX v_imageY v_r1_count v_r1_x v_r1_y p2 post) : Met l yX0_drawImage wsX0_drawImage rm_X0_drawImage (va_Pc [.ref a_this, .ref a_r1, .int p2] (q_pre D cI cZ cJ tb (wd_X0_drawImage cI cZ cJ a_this a_image a_imageX a_imageY a_r1 a_r1_x a_r1_y a_places a_numbers a_leastImage a_r1_lies a_r1_solid a_r1_headings a_r1_taken v_count v_image v_imageX v_imageY v_r1_count v_r1_x v_r1_y) sz)) (va_Qv (fun (u : (Nat → Int32) × (Nat → Int32) × (Nat → Int32)) => post u.1 u.2.1 u.2.2) (fun u => q_post D cI cZ cJ (va_A (wd_X0_drawImage cI cZ cJ a_this a_image a_imageX a_imageY a_r1 a_r1_x a_r1_y a_places a_numbers a_leastImage a_r1_lies a_r1_solid a_r1_headings a_r1_taken v_count v_image v_imageX v_imageY v_r1_count v_r1_x v_r1_y) sz) (wd_X0_drawImage cI cZ cJ a_this a_image a_imageX a_imageY a_r1 a_r1_x a_r1_y a_places a_numbers a_leastImage a_r1_lies a_r1_solid a_r1_headings a_r1_taken v_count u.1 u.2.1 u.2.2 v_r1_count v_r1_x v_r1_y)) (va_A (wd_X0_drawImage cI cZ cJ a_this a_image a_imageX a_imageY a_r1 a_r1_x a_r1_y a_places a_numbers a_leastImage a_r1_lies a_r1_solid a_r1_headings a_r1_taken v_count v_image v_imageX v_imageY v_r1_count v_r1_x v_r1_y) sz)) 0 0 (va_A (wd_X0_drawImage cI cZ cJ a_this a_image a_imageX a_imageY a_r1 a_r1_x a_r1_y a_places a_numbers a_leastImage a_r1_lies a_r1_solid a_r1_headings a_r1_taken v_count v_image v_imageX v_imageY v_r1_count v_r1_x v_r1_y) sz) := by
  refine q_walkv (cc := cX0_drawImage) (maxL := 7) (own := RX0) (wd := fun (u : (Nat → Int32) × (Nat → Int32) × (Nat → Int32)) => (wd_X0_drawImage cI cZ cJ a_this a_image a_imageX a_imageY a_r1 a_r1_x a_r1_y a_places a_numbers a_leastImage a_r1_lies a_r1_solid a_r1_headings a_r1_taken v_count u.1 u.2.1 u.2.2 v_r1_count v_r1_x v_r1_y)) (by decide) rfl rfl (Nat.le_of_ble_eq_true rfl) ?_
  intro p e s m below meth c Q A ls C hA ret hP hD hS hK hSt hNw hl
  obtain ⟨hx, hb, hml, hown, hts⟩ := id C
  replace hl : lv_has ls 7 [(0, .ref a_this), (1, .ref a_r1), (2, .int p2)] := hl
  have f24 := hts (.fieldLink RX0 24 "NetSearch$Album" "image" "[I") (by decide +kernel)
  have iX0 : ∀ w ∈ wsX00, w ∈ wsX0_drawImage := by decide +kernel
  have f21 := hts (.fieldLink RX0 21 "NetSearch$Album" "imageY" "[I") (by decide +kernel)
  have f18 := hts (.fieldLink RX0 18 "NetSearch$Album" "imageX" "[I") (by decide +kernel)
  have hZ7 : va_Z "NetSearch" "X_OF_X" "[I" (.ref (tb 7)) A s s.heap := (hSt 7 (by decide)).1
  have hT7 : va_T .int (tb 7) 8 (fun j => .int (q_X_OF_X j)) A s s.heap := (hSt 7 (by decide)).2
  have g69 : (Cond.fieldLinkNest RX0 69 "NetSearch" "X_OF_X" "[I" "NetSearch").before ([.ref a_this, .ref a_r1, .int p2] : List Value).toArray s = true := va_Nw.use rfl (hNw.1 (RX0, 69, "NetSearch", "X_OF_X", "[I", "NetSearch") (by decide +kernel))
  have f72 := hts (.fieldLink RX0 72 "NetSearch$Sheet" "x" "[I") (by decide +kernel)
  have iX3 : ∀ w ∈ wsX30, w ∈ wsX0_drawImage := by decide +kernel
  have hZ8 : va_Z "NetSearch" "X_OF_Y" "[I" (.ref (tb 8)) A s s.heap := (hSt 8 (by decide)).1
  have hT8 : va_T .int (tb 8) 8 (fun j => .int (q_X_OF_Y j)) A s s.heap := (hSt 8 (by decide)).2
  have g75 : (Cond.fieldLinkNest RX0 75 "NetSearch" "X_OF_Y" "[I" "NetSearch").before ([.ref a_this, .ref a_r1, .int p2] : List Value).toArray s = true := va_Nw.use rfl (hNw.1 (RX0, 75, "NetSearch", "X_OF_Y", "[I", "NetSearch") (by decide +kernel))
  have f78 := hts (.fieldLink RX0 78 "NetSearch$Sheet" "y" "[I") (by decide +kernel)
  have hZ9 : va_Z "NetSearch" "Y_OF_X" "[I" (.ref (tb 9)) A s s.heap := (hSt 9 (by decide)).1
  have hT9 : va_T .int (tb 9) 8 (fun j => .int (q_Y_OF_X j)) A s s.heap := (hSt 9 (by decide)).2
  have g81 : (Cond.fieldLinkNest RX0 81 "NetSearch" "Y_OF_X" "[I" "NetSearch").before ([.ref a_this, .ref a_r1, .int p2] : List Value).toArray s = true := va_Nw.use rfl (hNw.1 (RX0, 81, "NetSearch", "Y_OF_X", "[I", "NetSearch") (by decide +kernel))
  have hZ10 : va_Z "NetSearch" "Y_OF_Y" "[I" (.ref (tb 10)) A s s.heap := (hSt 10 (by decide)).1
  have hT10 : va_T .int (tb 10) 8 (fun j => .int (q_Y_OF_Y j)) A s s.heap := (hSt 10 (by decide)).2
  have g84 : (Cond.fieldLinkNest RX0 84 "NetSearch" "Y_OF_Y" "[I" "NetSearch").before ([.ref a_this, .ref a_r1, .int p2] : List Value).toArray s = true := va_Nw.use rfl (hNw.1 (RX0, 84, "NetSearch", "Y_OF_Y", "[I", "NetSearch") (by decide +kernel))
  have f45 := hts (.fieldLink RX0 45 "NetSearch$Sheet" "count" "I") (by decide +kernel)
  have n93 : va_Nw (.methodLinkNest RX0 93 yX7_least "NetSearch") s := hNw.2 (RX0, 93, yX7_least, "NetSearch") (by decide +kernel)
  have iniX7 := hts (.initialized RX7) (by decide +kernel)
  have sta_X7_least := hts (.static yX7_least) (by decide +kernel)
  have L119_ok : ∀ (v_imageX : Nat → Int32) (v_imageY : Nat → Int32) (l3 : Int32) (l4 : Int32) (l5 : Int32) (kx161 : (Nat → Int32) → Prop) (hkx161 : ∀ (v_image : Nat → Int32) (H : Heap) (locs : List Loc) (ls : Array Slot), kx161 v_image → va_P D vwCl (wd_X0_drawImage cI cZ cJ a_this a_image a_imageX a_imageY a_r1 a_r1_x a_r1_y a_places a_numbers a_leastImage a_r1_lies a_r1_solid a_r1_headings a_r1_taken v_count v_image v_imageX v_imageY v_r1_count v_r1_x v_r1_y) H → va_D A (wd_X0_drawImage cI cZ cJ a_this a_image a_imageX a_imageY a_r1 a_r1_x a_r1_y a_places a_numbers a_leastImage a_r1_lies a_r1_solid a_r1_headings a_r1_taken v_count v_image v_imageX v_imageY v_r1_count v_r1_x v_r1_y) → va_S A s.heap H locs → lv_has ls 7 [] → W p l e rm_X0_drawImage s m ([.ref a_this, .ref a_r1, .int p2] : List Value).toArray below meth c H locs 0 0 Q (F0 m 161 ls [])) (n : Nat) (l6 : Int32) (v_image : Nat → Int32) (H : Heap) (locs : List Loc) (ls : Array Slot), lpN (wl_X0_drawImage_119 v_imageX v_imageY l3 l4 l5 kx161) n (l6, v_image) → va_P D vwCl (wd_X0_drawImage cI cZ cJ a_this a_image a_imageX a_imageY a_r1 a_r1_x a_r1_y a_places a_numbers a_leastImage a_r1_lies a_r1_solid a_r1_headings a_r1_taken v_count v_image v_imageX v_imageY v_r1_count v_r1_x v_r1_y) H → va_D A (wd_X0_drawImage cI cZ cJ a_this a_image a_imageX a_imageY a_r1 a_r1_x a_r1_y a_places a_numbers a_leastImage a_r1_lies a_r1_solid a_r1_headings a_r1_taken v_count v_image v_imageX v_imageY v_r1_count v_r1_x v_r1_y) → va_S A s.heap H locs → lv_has ls 7 [(0, .ref a_this), (3, .int l3), (4, .int l4), (5, .int l5), (6, .int l6)] → W p l e rm_X0_drawImage s m ([.ref a_this, .ref a_r1, .int p2] : List Value).toArray below meth c H locs 0 0 Q (F0 m 119 ls []) := by
    intro v_imageX v_imageY l3 l4 l5 kx161 hkx161 n
    induction n with
    | zero => intro l6 v_image H locs ls h; exact False.elim h
    | succ n ih =>
      intro l6 v_image H locs ls h hP hD hS hl
      have h : wb_X0_drawImage_119 v_imageX v_imageY l3 l4 l5 kx161 (fun l6 v_image => lpN (wl_X0_drawImage_119 v_imageX v_imageY l3 l4 l5 kx161) n (l6, v_image)) l6 v_image := h
      unfold wb_X0_drawImage_119 at h
      refine lv_iload hx hb dX0_drawImage_119 (lv_at hl 4 rfl) ?_
      refine lv_iload_n hx hb dX0_drawImage_121 rfl (lv_at hl 1 rfl) ?_
      refine lv_icmp_ge (tgt := 161) hx hb dX0_drawImage_122 (by decide) (fun hc => ?_) (fun hc => ?_)
      · replace h := h.1 hc
        exact hkx161 v_image _ _ _ h hP hD hS (lv_sub hl [] rfl)
      · replace h := h.2 hc
        refine lv_aload_n hx hb dX0_drawImage_125 rfl (lv_at hl 0 rfl) ?_
        refine va_get (D := D) (ci := 0) (v := .ref a_image) (C := RX0) (T := TX0) (N := 7) hx hb hts iX0 hown hK hP 0 rfl rfl 5 (by decide) f24 (fun _ h9 => h9) rfl dX0_drawImage_126 ?_
        refine lv_aload_n hx hb dX0_drawImage_129 rfl (lv_at hl 0 rfl) ?_
        refine va_get (D := D) (ci := 0) (v := .ref a_imageY) (C := RX0) (T := TX0) (N := 7) hx hb hts iX0 hown hK hP 0 rfl rfl 4 (by decide) f21 (fun _ h9 => h9) rfl dX0_drawImage_130 ?_
        refine lv_iload hx hb dX0_drawImage_133 (lv_at hl 4 rfl) ?_
        obtain ⟨hin, h⟩ := h
        refine va_iald hx hb hK hP 3 0 rfl rfl hin dX0_drawImage_135 ?_
        refine lv_iload hx hb dX0_drawImage_136 (lv_at hl 3 rfl) ?_
        refine lv_isub hx hb dX0_drawImage_138 ?_
        refine lv_dup2_11 hx hb dX0_drawImage_139 rfl rfl ?_
        obtain ⟨hin, h⟩ := h
        refine va_iald hx hb hK hP 1 0 rfl rfl hin dX0_drawImage_140 ?_
        refine lv_iconst (v := 1) hx hb dX0_drawImage_141 (by decide) ?_
        refine lv_aload_n hx hb dX0_drawImage_142 rfl (lv_at hl 0 rfl) ?_
        refine va_get (D := D) (ci := 0) (v := .ref a_imageX) (C := RX0) (T := TX0) (N := 7) hx hb hts iX0 hown hK hP 0 rfl rfl 3 (by decide) f18 (fun _ h9 => h9) rfl dX0_drawImage_143 ?_
        refine lv_iload hx hb dX0_drawImage_146 (lv_at hl 4 rfl) ?_
        obtain ⟨hin, h⟩ := h
        refine va_iald hx hb hK hP 2 0 rfl rfl hin dX0_drawImage_148 ?_
        refine lv_iload hx hb dX0_drawImage_149 (lv_at hl 2 rfl) ?_
        refine lv_isub hx hb dX0_drawImage_151 ?_
        refine lv_ishl hx hb dX0_drawImage_152 ?_
        refine lv_ior hx hb dX0_drawImage_153 ?_
        obtain ⟨hin, h⟩ := h
        refine va_iast hx hb hK hP hD hS 1 0 rfl rfl hin dX0_drawImage_154 (fun H locs hP hD hS => ?_)
        replace hP : va_P D vwCl (wd_X0_drawImage cI cZ cJ a_this a_image a_imageX a_imageY a_r1 a_r1_x a_r1_y a_places a_numbers a_leastImage a_r1_lies a_r1_solid a_r1_headings a_r1_taken v_count (upd v_image ((v_imageY l6.toNatClampNeg) - l5).toNatClampNeg ((v_image ((v_imageY l6.toNatClampNeg) - l5).toNatClampNeg) ||| ((1 : Int32) <<< (((v_imageX l6.toNatClampNeg) - l4) &&& 31)))) v_imageX v_imageY v_r1_count v_r1_x v_r1_y) H := hP
        replace hD : va_D A (wd_X0_drawImage cI cZ cJ a_this a_image a_imageX a_imageY a_r1 a_r1_x a_r1_y a_places a_numbers a_leastImage a_r1_lies a_r1_solid a_r1_headings a_r1_taken v_count (upd v_image ((v_imageY l6.toNatClampNeg) - l5).toNatClampNeg ((v_image ((v_imageY l6.toNatClampNeg) - l5).toNatClampNeg) ||| ((1 : Int32) <<< (((v_imageX l6.toNatClampNeg) - l4) &&& 31)))) v_imageX v_imageY v_r1_count v_r1_x v_r1_y) := hD
        refine lv_iinc (v := (l6 + (1 : Int32))) (lv' := [(6, .int (l6 + (1 : Int32))), (0, .ref a_this), (3, .int l3), (4, .int l4), (5, .int l5)]) hx hb dX0_drawImage_155 hl (k := 4) rfl rfl (by decide) rfl (fun ls hl => ?_)
        refine lv_goto (tgt := 119) hx hb dX0_drawImage_158 (by decide) ?_
        exact ih (l6 + (1 : Int32)) (upd v_image ((v_imageY l6.toNatClampNeg) - l5).toNatClampNeg ((v_image ((v_imageY l6.toNatClampNeg) - l5).toNatClampNeg) ||| ((1 : Int32) <<< (((v_imageX l6.toNatClampNeg) - l4) &&& 31)))) _ _ _ h hP hD hS (lv_sub hl [1, 2, 3, 4, 0] rfl)
  have L8_ok : ∀ (v_image : Nat → Int32) (l2 : Int32) (l3 : Int32) (kx88 : (Nat → Int32) → (Nat → Int32) → Prop) (hkx88 : ∀ (v_imageX : Nat → Int32) (v_imageY : Nat → Int32) (H : Heap) (locs : List Loc) (ls : Array Slot), kx88 v_imageX v_imageY → va_P D vwCl (wd_X0_drawImage cI cZ cJ a_this a_image a_imageX a_imageY a_r1 a_r1_x a_r1_y a_places a_numbers a_leastImage a_r1_lies a_r1_solid a_r1_headings a_r1_taken v_count v_image v_imageX v_imageY v_r1_count v_r1_x v_r1_y) H → va_D A (wd_X0_drawImage cI cZ cJ a_this a_image a_imageX a_imageY a_r1 a_r1_x a_r1_y a_places a_numbers a_leastImage a_r1_lies a_r1_solid a_r1_headings a_r1_taken v_count v_image v_imageX v_imageY v_r1_count v_r1_x v_r1_y) → va_S A s.heap H locs → lv_has ls 7 [(0, .ref a_this), (3, .int l3)] → W p l e rm_X0_drawImage s m ([.ref a_this, .ref a_r1, .int p2] : List Value).toArray below meth c H locs 0 0 Q (F0 m 88 ls [])) (n : Nat) (l4 : Int32) (v_imageX : Nat → Int32) (v_imageY : Nat → Int32) (H : Heap) (locs : List Loc) (ls : Array Slot), lpN (wl_X0_drawImage_8 v_r1_x v_r1_y l2 l3 kx88) n (l4, v_imageX, v_imageY) → va_P D vwCl (wd_X0_drawImage cI cZ cJ a_this a_image a_imageX a_imageY a_r1 a_r1_x a_r1_y a_places a_numbers a_leastImage a_r1_lies a_r1_solid a_r1_headings a_r1_taken v_count v_image v_imageX v_imageY v_r1_count v_r1_x v_r1_y) H → va_D A (wd_X0_drawImage cI cZ cJ a_this a_image a_imageX a_imageY a_r1 a_r1_x a_r1_y a_places a_numbers a_leastImage a_r1_lies a_r1_solid a_r1_headings a_r1_taken v_count v_image v_imageX v_imageY v_r1_count v_r1_x v_r1_y) → va_S A s.heap H locs → lv_has ls 7 [(0, .ref a_this), (1, .ref a_r1), (2, .int l2), (3, .int l3), (4, .int l4)] → W p l e rm_X0_drawImage s m ([.ref a_this, .ref a_r1, .int p2] : List Value).toArray below meth c H locs 0 0 Q (F0 m 8 ls []) := by
    intro v_image l2 l3 kx88 hkx88 n
    induction n with
    | zero => intro l4 v_imageX v_imageY H locs ls h; exact False.elim h
    | succ n ih =>
      intro l4 v_imageX v_imageY H locs ls h hP hD hS hl
      have h : wb_X0_drawImage_8 v_r1_x v_r1_y l2 l3 kx88 (fun l4 v_imageX v_imageY => lpN (wl_X0_drawImage_8 v_r1_x v_r1_y l2 l3 kx88) n (l4, v_imageX, v_imageY)) l4 v_imageX v_imageY := h
      unfold wb_X0_drawImage_8 at h
      refine lv_iload hx hb dX0_drawImage_8 (lv_at hl 4 rfl) ?_
      refine lv_iload_n hx hb dX0_drawImage_10 rfl (lv_at hl 3 rfl) ?_
      refine lv_icmp_ge (tgt := 88) hx hb dX0_drawImage_11 (by decide) (fun hc => ?_) (fun hc => ?_)
      · replace h := h.1 hc
        exact hkx88 v_imageX v_imageY _ _ _ h hP hD hS (lv_sub hl [0, 3] rfl)
      · replace h := h.2 hc
        refine lv_aload_n hx hb dX0_drawImage_14 rfl (lv_at hl 0 rfl) ?_
        refine va_get (D := D) (ci := 0) (v := .ref a_imageX) (C := RX0) (T := TX0) (N := 7) hx hb hts iX0 hown hK hP 0 rfl rfl 3 (by decide) f18 (fun _ h9 => h9) rfl dX0_drawImage_15 ?_
        refine lv_iload hx hb dX0_drawImage_18 (lv_at hl 4 rfl) ?_
        refine va_getsN hx hb hZ7 hS hown g69 (fun _ h9 => h9) dX0_drawImage_20 ?_
        refine lv_iload_n hx hb dX0_drawImage_23 rfl (lv_at hl 2 rfl) ?_
        obtain ⟨hin, h⟩ := h
        refine va_ti (v := .int (q_X_OF_X l2.toNatClampNeg)) hx hb hT7 hS hin rfl dX0_drawImage_24 ?_
        refine lv_aload_n hx hb dX0_drawImage_25 rfl (lv_at hl 1 rfl) ?_
        refine va_get (D := D) (ci := 3) (v := .ref a_r1_x) (C := RX3) (T := TX3) (N := 7) hx hb hts iX3 hown hK hP 4 rfl rfl 1 (by decide) f72 (fun _ h9 => h9) rfl dX0_drawImage_26 ?_
        refine lv_iload hx hb dX0_drawImage_29 (lv_at hl 4 rfl) ?_
        obtain ⟨hin, h⟩ := h
        refine va_iald hx hb hK hP 5 0 rfl rfl hin dX0_drawImage_31 ?_
        refine lv_imul hx hb dX0_drawImage_32 ?_
        refine va_getsN hx hb hZ8 hS hown g75 (fun _ h9 => h9) dX0_drawImage_33 ?_
        refine lv_iload_n hx hb dX0_drawImage_36 rfl (lv_at hl 2 rfl) ?_
        obtain ⟨hin, h⟩ := h
        refine va_ti (v := .int (q_X_OF_Y l2.toNatClampNeg)) hx hb hT8 hS hin rfl dX0_drawImage_37 ?_
        refine lv_aload_n hx hb dX0_drawImage_38 rfl (lv_at hl 1 rfl) ?_
        refine va_get (D := D) (ci := 3) (v := .ref a_r1_y) (C := RX3) (T := TX3) (N := 7) hx hb hts iX3 hown hK hP 4 rfl rfl 2 (by decide) f78 (fun _ h9 => h9) rfl dX0_drawImage_39 ?_
        refine lv_iload hx hb dX0_drawImage_42 (lv_at hl 4 rfl) ?_
        obtain ⟨hin, h⟩ := h
        refine va_iald hx hb hK hP 6 0 rfl rfl hin dX0_drawImage_44 ?_
        refine lv_imul hx hb dX0_drawImage_45 ?_
        refine lv_iadd hx hb dX0_drawImage_46 ?_
        obtain ⟨hin, h⟩ := h
        refine va_iast hx hb hK hP hD hS 2 0 rfl rfl hin dX0_drawImage_47 (fun H locs hP hD hS => ?_)
        replace hP : va_P D vwCl (wd_X0_drawImage cI cZ cJ a_this a_image a_imageX a_imageY a_r1 a_r1_x a_r1_y a_places a_numbers a_leastImage a_r1_lies a_r1_solid a_r1_headings a_r1_taken v_count v_image (upd v_imageX l4.toNatClampNeg (((q_X_OF_X l2.toNatClampNeg) * (v_r1_x l4.toNatClampNeg)) + ((q_X_OF_Y l2.toNatClampNeg) * (v_r1_y l4.toNatClampNeg)))) v_imageY v_r1_count v_r1_x v_r1_y) H := hP
        replace hD : va_D A (wd_X0_drawImage cI cZ cJ a_this a_image a_imageX a_imageY a_r1 a_r1_x a_r1_y a_places a_numbers a_leastImage a_r1_lies a_r1_solid a_r1_headings a_r1_taken v_count v_image (upd v_imageX l4.toNatClampNeg (((q_X_OF_X l2.toNatClampNeg) * (v_r1_x l4.toNatClampNeg)) + ((q_X_OF_Y l2.toNatClampNeg) * (v_r1_y l4.toNatClampNeg)))) v_imageY v_r1_count v_r1_x v_r1_y) := hD
        refine lv_aload_n hx hb dX0_drawImage_48 rfl (lv_at hl 0 rfl) ?_
        refine va_get (D := D) (ci := 0) (v := .ref a_imageY) (C := RX0) (T := TX0) (N := 7) hx hb hts iX0 hown hK hP 0 rfl rfl 4 (by decide) f21 (fun _ h9 => h9) rfl dX0_drawImage_49 ?_
        refine lv_iload hx hb dX0_drawImage_52 (lv_at hl 4 rfl) ?_
        refine va_getsN hx hb hZ9 hS hown g81 (fun _ h9 => h9) dX0_drawImage_54 ?_
        refine lv_iload_n hx hb dX0_drawImage_57 rfl (lv_at hl 2 rfl) ?_
        obtain ⟨hin, h⟩ := h
        refine va_ti (v := .int (q_Y_OF_X l2.toNatClampNeg)) hx hb hT9 hS hin rfl dX0_drawImage_58 ?_
        refine lv_aload_n hx hb dX0_drawImage_59 rfl (lv_at hl 1 rfl) ?_
        refine va_get (D := D) (ci := 3) (v := .ref a_r1_x) (C := RX3) (T := TX3) (N := 7) hx hb hts iX3 hown hK hP 4 rfl rfl 1 (by decide) f72 (fun _ h9 => h9) rfl dX0_drawImage_60 ?_
        refine lv_iload hx hb dX0_drawImage_63 (lv_at hl 4 rfl) ?_
        obtain ⟨hin, h⟩ := h
        refine va_iald hx hb hK hP 5 0 rfl rfl hin dX0_drawImage_65 ?_
        refine lv_imul hx hb dX0_drawImage_66 ?_
        refine va_getsN hx hb hZ10 hS hown g84 (fun _ h9 => h9) dX0_drawImage_67 ?_
        refine lv_iload_n hx hb dX0_drawImage_70 rfl (lv_at hl 2 rfl) ?_
        obtain ⟨hin, h⟩ := h
        refine va_ti (v := .int (q_Y_OF_Y l2.toNatClampNeg)) hx hb hT10 hS hin rfl dX0_drawImage_71 ?_
        refine lv_aload_n hx hb dX0_drawImage_72 rfl (lv_at hl 1 rfl) ?_
        refine va_get (D := D) (ci := 3) (v := .ref a_r1_y) (C := RX3) (T := TX3) (N := 7) hx hb hts iX3 hown hK hP 4 rfl rfl 2 (by decide) f78 (fun _ h9 => h9) rfl dX0_drawImage_73 ?_
        refine lv_iload hx hb dX0_drawImage_76 (lv_at hl 4 rfl) ?_
        obtain ⟨hin, h⟩ := h
        refine va_iald hx hb hK hP 6 0 rfl rfl hin dX0_drawImage_78 ?_
        refine lv_imul hx hb dX0_drawImage_79 ?_
        refine lv_iadd hx hb dX0_drawImage_80 ?_
        obtain ⟨hin, h⟩ := h
        refine va_iast hx hb hK hP hD hS 3 0 rfl rfl hin dX0_drawImage_81 (fun H locs hP hD hS => ?_)
        replace hP : va_P D vwCl (wd_X0_drawImage cI cZ cJ a_this a_image a_imageX a_imageY a_r1 a_r1_x a_r1_y a_places a_numbers a_leastImage a_r1_lies a_r1_solid a_r1_headings a_r1_taken v_count v_image (upd v_imageX l4.toNatClampNeg (((q_X_OF_X l2.toNatClampNeg) * (v_r1_x l4.toNatClampNeg)) + ((q_X_OF_Y l2.toNatClampNeg) * (v_r1_y l4.toNatClampNeg)))) (upd v_imageY l4.toNatClampNeg (((q_Y_OF_X l2.toNatClampNeg) * (v_r1_x l4.toNatClampNeg)) + ((q_Y_OF_Y l2.toNatClampNeg) * (v_r1_y l4.toNatClampNeg)))) v_r1_count v_r1_x v_r1_y) H := hP
        replace hD : va_D A (wd_X0_drawImage cI cZ cJ a_this a_image a_imageX a_imageY a_r1 a_r1_x a_r1_y a_places a_numbers a_leastImage a_r1_lies a_r1_solid a_r1_headings a_r1_taken v_count v_image (upd v_imageX l4.toNatClampNeg (((q_X_OF_X l2.toNatClampNeg) * (v_r1_x l4.toNatClampNeg)) + ((q_X_OF_Y l2.toNatClampNeg) * (v_r1_y l4.toNatClampNeg)))) (upd v_imageY l4.toNatClampNeg (((q_Y_OF_X l2.toNatClampNeg) * (v_r1_x l4.toNatClampNeg)) + ((q_Y_OF_Y l2.toNatClampNeg) * (v_r1_y l4.toNatClampNeg)))) v_r1_count v_r1_x v_r1_y) := hD
        refine lv_iinc (v := (l4 + (1 : Int32))) (lv' := [(4, .int (l4 + (1 : Int32))), (0, .ref a_this), (1, .ref a_r1), (2, .int l2), (3, .int l3)]) hx hb dX0_drawImage_82 hl (k := 4) rfl rfl (by decide) rfl (fun ls hl => ?_)
        refine lv_goto (tgt := 8) hx hb dX0_drawImage_85 (by decide) ?_
        exact ih (l4 + (1 : Int32)) (upd v_imageX l4.toNatClampNeg (((q_X_OF_X l2.toNatClampNeg) * (v_r1_x l4.toNatClampNeg)) + ((q_X_OF_Y l2.toNatClampNeg) * (v_r1_y l4.toNatClampNeg)))) (upd v_imageY l4.toNatClampNeg (((q_Y_OF_X l2.toNatClampNeg) * (v_r1_x l4.toNatClampNeg)) + ((q_Y_OF_Y l2.toNatClampNeg) * (v_r1_y l4.toNatClampNeg)))) _ _ _ h hP hD hS (lv_sub hl [1, 2, 3, 4, 0] rfl)
  unfold wp_X0_drawImage at h
  refine lv_aload_n hx hb dX0_drawImage_0 rfl (lv_at hl 1 rfl) ?_
  refine va_get (D := D) (ci := 3) (v := .int v_r1_count) (C := RX3) (T := TX3) (N := 7) hx hb hts iX3 hown hK hP 4 rfl rfl 3 (by decide) f45 (fun _ h9 => h9) rfl dX0_drawImage_1 ?_
  refine lv_istore_n (lv' := [(3, .int v_r1_count), (0, .ref a_this), (1, .ref a_r1), (2, .int p2)]) hx hb dX0_drawImage_4 rfl hl (by decide) rfl (fun ls hl => ?_)
  refine lv_iconst (v := 0) hx hb dX0_drawImage_5 (by decide) ?_
  refine lv_istore (lv' := [(4, .int (0 : Int32)), (3, .int v_r1_count), (0, .ref a_this), (1, .ref a_r1), (2, .int p2)]) hx hb dX0_drawImage_6 hl (by decide) rfl (fun ls hl => ?_)
  obtain ⟨n, h⟩ := h
  refine L8_ok v_image p2 v_r1_count _ (fun v_imageX_1 v_imageY_2 H locs ls h hP hD hS hl => ?_) n (0 : Int32) v_imageX v_imageY _ _ _ h hP hD hS (lv_sub hl [2, 3, 4, 1, 0] rfl)
  refine lv_aload_n hx hb dX0_drawImage_88 rfl (lv_at hl 0 rfl) ?_
  refine va_get (D := D) (ci := 0) (v := .ref a_image) (C := RX0) (T := TX0) (N := 7) hx hb hts iX0 hown hK hP 0 rfl rfl 5 (by decide) f24 (fun _ h9 => h9) rfl dX0_drawImage_89 ?_
  refine lv_iconst (v := 0) hx hb dX0_drawImage_92 (by decide) ?_
  have hPc := hP.sub (ws' := (wd_J7_fill_53178 cI cZ cJ a_image 22 v_image)) [1] rfl
  have hDc := hD.sub (ws' := (wd_J7_fill_53178 cI cZ cJ a_image 22 v_image)) [1] (by decide) rfl
  have hFc := va_free (wc := (wd_J7_fill_53178 cI cZ cJ a_image 22 v_image)) hD hS hA [1] rfl
  refine va_callv (va_runS (As := [.ref a_image, .int (0 : Int32)]) (rest := []) C (c_J7_fill_53178 l D cI cZ cJ tb a_image 22 v_image H.size (0 : Int32) h) (va_cwS 2 hts gX0_drawImage_J7_fill_53178 rfl rfl rfl (by decide +kernel) ⟨Nat.le_of_ble_eq_true rfl, Nat.le_of_ble_eq_true rfl⟩) ⟨q_pre.blind, fun U hU hW => ⟨rfl, q_pre.of hU hW hPc hK hDc hSt hS hFc hNw⟩⟩ rfl rfl hl.1 rfl (lv_room (Nat.le_of_ble_eq_true rfl)) dX0_drawImage_93 ⟨Nat.zero_le _, Nat.zero_le _⟩) hS (fun q _ h => hFc q h) hFc (fun u_4 t H1 locs ht hvm hw hB hz1 hk1 hS => ?_)
  obtain ⟨hP1, hK1, hD1⟩ := hB
  rw [ht] at hP1
  obtain ⟨hP, hD⟩ := va_join (wr := [(a_this, .inr (0, [.int v_count, .ref a_places, .ref a_numbers, .ref a_imageX, .ref a_imageY, .ref a_image, .ref a_leastImage])), (a_imageX, .inl (cI, 22, .inl v_imageX_1)), (a_imageY, .inl (cI, 22, .inl v_imageY_2)), (a_r1, .inr (3, [.ref a_r1_lies, .ref a_r1_x, .ref a_r1_y, .int v_r1_count, .ref a_r1_solid, .ref a_r1_headings, .ref a_r1_taken])), (a_r1_x, .inl (cI, 22, .inl v_r1_x)), (a_r1_y, .inl (cI, 22, .inl v_r1_y))]) (w1 := (wd_J7_fill_53178 cI cZ cJ a_image 22 u_4)) hP hD [1] [0, 2, 3, 4, 5, 6] rfl rfl (by decide) (by decide) hk1 hFc hP1 hD1
  clear hPc hDc hFc hP1 hD1 hK1 hk1 hz1 ht hvm
  replace h := hw
  clear hw
  generalize H1 = H at hP hS ⊢
  replace hP : va_P D vwCl (wd_X0_drawImage cI cZ cJ a_this a_image a_imageX a_imageY a_r1 a_r1_x a_r1_y a_places a_numbers a_leastImage a_r1_lies a_r1_solid a_r1_headings a_r1_taken v_count u_4 v_imageX_1 v_imageY_2 v_r1_count v_r1_x v_r1_y) H := hP.sub [0, 6, 1, 2, 3, 4, 5] rfl
  replace hD : va_D A (wd_X0_drawImage cI cZ cJ a_this a_image a_imageX a_imageY a_r1 a_r1_x a_r1_y a_places a_numbers a_leastImage a_r1_lies a_r1_solid a_r1_headings a_r1_taken v_count u_4 v_imageX_1 v_imageY_2 v_r1_count v_r1_x v_r1_y) := hD.sub [0, 6, 1, 2, 3, 4, 5] (by decide) rfl
  refine lv_aload_n hx hb dX0_drawImage_96 rfl (lv_at hl 0 rfl) ?_
  refine va_get (D := D) (ci := 0) (v := .ref a_imageX) (C := RX0) (T := TX0) (N := 7) hx hb hts iX0 hown hK hP 0 rfl rfl 3 (by decide) f18 (fun _ h9 => h9) rfl dX0_drawImage_97 ?_
  refine lv_iload_n hx hb dX0_drawImage_100 rfl (lv_at hl 1 rfl) ?_
  have hPc := hP.sub (ws' := (wd_X7_least cI cZ cJ a_imageX 22 v_imageX_1)) [2] rfl
  have hDc := hD.sub (ws' := (wd_X7_least cI cZ cJ a_imageX 22 v_imageX_1)) [2] (by decide) rfl
  have hFc := va_free (wc := (wd_X7_least cI cZ cJ a_imageX 22 v_imageX_1)) hD hS hA [2] rfl
  refine va_calli (va_runSN (As := [.ref a_imageX, .int v_r1_count]) (rest := []) C (c_X7_least l D cI cZ cJ tb a_imageX 22 v_imageX_1 H.size v_r1_count h) ⟨va_cnB 2 hts gX0_drawImage_X7_least_n93 rfl rfl rfl n93 iniX7 (by decide +kernel) ⟨Nat.le_of_ble_eq_true rfl, Nat.le_of_ble_eq_true rfl⟩, sta_X7_least, trivial⟩ ⟨q_pre.blind, fun U hU hW => ⟨rfl, q_pre.of hU hW hPc hK hDc hSt hS hFc hNw⟩⟩ rfl rfl hl.1 rfl (lv_room (Nat.le_of_ble_eq_true rfl)) dX0_drawImage_101 ⟨Nat.zero_le _, Nat.zero_le _⟩) hS (fun q _ h => hFc q h) hFc (fun r_6 u_7 t H1 locs ht hvm hw hB hz1 hk1 hS => ?_)
  obtain ⟨hP1, hK1, hD1⟩ := hB
  rw [ht] at hP1
  obtain ⟨hP, hD⟩ := va_join (wr := [(a_this, .inr (0, [.int v_count, .ref a_places, .ref a_numbers, .ref a_imageX, .ref a_imageY, .ref a_image, .ref a_leastImage])), (a_image, .inl (cI, 22, .inl u_4)), (a_imageY, .inl (cI, 22, .inl v_imageY_2)), (a_r1, .inr (3, [.ref a_r1_lies, .ref a_r1_x, .ref a_r1_y, .int v_r1_count, .ref a_r1_solid, .ref a_r1_headings, .ref a_r1_taken])), (a_r1_x, .inl (cI, 22, .inl v_r1_x)), (a_r1_y, .inl (cI, 22, .inl v_r1_y))]) (w1 := (wd_X7_least cI cZ cJ a_imageX 22 v_imageX_1)) hP hD [2] [0, 1, 3, 4, 5, 6] rfl rfl (by decide) (by decide) hk1 hFc hP1 hD1
  clear hPc hDc hFc hP1 hD1 hK1 hk1 hz1 ht hvm
  replace h := hw
  clear hw
  generalize H1 = H at hP hS ⊢
  replace hP : va_P D vwCl (wd_X0_drawImage cI cZ cJ a_this a_image a_imageX a_imageY a_r1 a_r1_x a_r1_y a_places a_numbers a_leastImage a_r1_lies a_r1_solid a_r1_headings a_r1_taken v_count u_4 v_imageX_1 v_imageY_2 v_r1_count v_r1_x v_r1_y) H := hP.sub [0, 1, 6, 2, 3, 4, 5] rfl
  replace hD : va_D A (wd_X0_drawImage cI cZ cJ a_this a_image a_imageX a_imageY a_r1 a_r1_x a_r1_y a_places a_numbers a_leastImage a_r1_lies a_r1_solid a_r1_headings a_r1_taken v_count u_4 v_imageX_1 v_imageY_2 v_r1_count v_r1_x v_r1_y) := hD.sub [0, 1, 6, 2, 3, 4, 5] (by decide) rfl
  refine lv_istore (lv' := [(4, .int r_6), (0, .ref a_this), (3, .int v_r1_count)]) hx hb dX0_drawImage_104 hl (by decide) rfl (fun ls hl => ?_)
  refine lv_aload_n hx hb dX0_drawImage_106 rfl (lv_at hl 1 rfl) ?_
  refine va_get (D := D) (ci := 0) (v := .ref a_imageY) (C := RX0) (T := TX0) (N := 7) hx hb hts iX0 hown hK hP 0 rfl rfl 4 (by decide) f21 (fun _ h9 => h9) rfl dX0_drawImage_107 ?_
  refine lv_iload_n hx hb dX0_drawImage_110 rfl (lv_at hl 2 rfl) ?_
  have hPc := hP.sub (ws' := (wd_X7_least cI cZ cJ a_imageY 22 v_imageY_2)) [3] rfl
  have hDc := hD.sub (ws' := (wd_X7_least cI cZ cJ a_imageY 22 v_imageY_2)) [3] (by decide) rfl
  have hFc := va_free (wc := (wd_X7_least cI cZ cJ a_imageY 22 v_imageY_2)) hD hS hA [3] rfl
  refine va_calli (va_runSN (As := [.ref a_imageY, .int v_r1_count]) (rest := []) C (c_X7_least l D cI cZ cJ tb a_imageY 22 v_imageY_2 H.size v_r1_count h) ⟨va_cnB 2 hts gX0_drawImage_X7_least_n93 rfl rfl rfl n93 iniX7 (by decide +kernel) ⟨Nat.le_of_ble_eq_true rfl, Nat.le_of_ble_eq_true rfl⟩, sta_X7_least, trivial⟩ ⟨q_pre.blind, fun U hU hW => ⟨rfl, q_pre.of hU hW hPc hK hDc hSt hS hFc hNw⟩⟩ rfl rfl hl.1 rfl (lv_room (Nat.le_of_ble_eq_true rfl)) dX0_drawImage_111 ⟨Nat.zero_le _, Nat.zero_le _⟩) hS (fun q _ h => hFc q h) hFc (fun r_8 u_9 t H1 locs ht hvm hw hB hz1 hk1 hS => ?_)
  obtain ⟨hP1, hK1, hD1⟩ := hB
  rw [ht] at hP1
  obtain ⟨hP, hD⟩ := va_join (wr := [(a_this, .inr (0, [.int v_count, .ref a_places, .ref a_numbers, .ref a_imageX, .ref a_imageY, .ref a_image, .ref a_leastImage])), (a_image, .inl (cI, 22, .inl u_4)), (a_imageX, .inl (cI, 22, .inl v_imageX_1)), (a_r1, .inr (3, [.ref a_r1_lies, .ref a_r1_x, .ref a_r1_y, .int v_r1_count, .ref a_r1_solid, .ref a_r1_headings, .ref a_r1_taken])), (a_r1_x, .inl (cI, 22, .inl v_r1_x)), (a_r1_y, .inl (cI, 22, .inl v_r1_y))]) (w1 := (wd_X7_least cI cZ cJ a_imageY 22 v_imageY_2)) hP hD [3] [0, 1, 2, 4, 5, 6] rfl rfl (by decide) (by decide) hk1 hFc hP1 hD1
  clear hPc hDc hFc hP1 hD1 hK1 hk1 hz1 ht hvm
  replace h := hw
  clear hw
  generalize H1 = H at hP hS ⊢
  replace hP : va_P D vwCl (wd_X0_drawImage cI cZ cJ a_this a_image a_imageX a_imageY a_r1 a_r1_x a_r1_y a_places a_numbers a_leastImage a_r1_lies a_r1_solid a_r1_headings a_r1_taken v_count u_4 v_imageX_1 v_imageY_2 v_r1_count v_r1_x v_r1_y) H := hP.sub [0, 1, 2, 6, 3, 4, 5] rfl
  replace hD : va_D A (wd_X0_drawImage cI cZ cJ a_this a_image a_imageX a_imageY a_r1 a_r1_x a_r1_y a_places a_numbers a_leastImage a_r1_lies a_r1_solid a_r1_headings a_r1_taken v_count u_4 v_imageX_1 v_imageY_2 v_r1_count v_r1_x v_r1_y) := hD.sub [0, 1, 2, 6, 3, 4, 5] (by decide) rfl
  refine lv_istore (lv' := [(5, .int r_8), (4, .int r_6), (0, .ref a_this), (3, .int v_r1_count)]) hx hb dX0_drawImage_114 hl (by decide) rfl (fun ls hl => ?_)
  refine lv_iconst (v := 0) hx hb dX0_drawImage_116 (by decide) ?_
  refine lv_istore (lv' := [(6, .int (0 : Int32)), (5, .int r_8), (4, .int r_6), (0, .ref a_this), (3, .int v_r1_count)]) hx hb dX0_drawImage_117 hl (by decide) rfl (fun ls hl => ?_)
  obtain ⟨n, h⟩ := h
  refine L119_ok v_imageX_1 v_imageY_2 v_r1_count r_6 r_8 _ (fun v_image_10 H locs ls h hP hD hS hl => ?_) n (0 : Int32) u_4 _ _ _ h hP hD hS (lv_sub hl [3, 4, 2, 1, 0] rfl)
  exact ret (v_image_10, v_imageX_1, v_imageY_2) _ _ _ 161 dX0_drawImage_161 h hP hD hS
def wd_X0_isImageLess (cI cZ cJ : ClassId) (a_this a_image a_leastImage a_places a_numbers a_imageX a_imageY : Nat) (v_count : Int32) (v_image : Nat → Int32) (v_leastImage : Nat → Int32) : va_W := [(a_this, .inr (0, [.int v_count, .ref a_places, .ref a_numbers, .ref a_imageX, .ref a_imageY, .ref a_image, .ref a_leastImage])),
  (a_image, .inl (cI, 22, .inl v_image)),
  (a_leastImage, .inl (cI, 22, .inl v_leastImage))]
abbrev rm_X0_isImageLess : Room := { frames := 1, cells := 0, slots := 0, locals := 20 }
set_option maxHeartbeats 4000000 in
set_option maxRecDepth 100000 in
theorem c_X0_isImageLess (l : Launch) (D : va_G) (cI cZ cJ : ClassId) (tb : Nat → Nat) (a_this a_image a_leastImage a_places a_numbers a_imageX a_imageY : Nat) (v_count : Int32) (v_image : Nat → Int32) (v_leastImage : Nat → Int32) (sz : Nat) {post : Int32 → Prop} (h : wp_X0_isImageLess v_image v_leastImage post) : Met l yX0_isImageLess wsX0_isImageLess rm_X0_isImageLess (va_Pc [.ref a_this] (q_pre D cI cZ cJ tb (wd_X0_isImageLess cI cZ cJ a_this a_image a_leastImage a_places a_numbers a_imageX a_imageY v_count v_image v_leastImage) sz)) (va_Qi (fun r (u : Unit) => post r) (fun u => q_post D cI cZ cJ (va_A (wd_X0_isImageLess cI cZ cJ a_this a_image a_leastImage a_places a_numbers a_imageX a_imageY v_count v_image v_leastImage) sz) (wd_X0_isImageLess cI cZ cJ a_this a_image a_leastImage a_places a_numbers a_imageX a_imageY v_count v_image v_leastImage)) (va_A (wd_X0_isImageLess cI cZ cJ a_this a_image a_leastImage a_places a_numbers a_imageX a_imageY v_count v_image v_leastImage) sz)) 0 0 (va_A (wd_X0_isImageLess cI cZ cJ a_this a_image a_leastImage a_places a_numbers a_imageX a_imageY v_count v_image v_leastImage) sz) := by
  refine q_walkz (cc := cX0_isImageLess) (maxL := 3) (own := RX0) (wd := fun (u : Unit) => (wd_X0_isImageLess cI cZ cJ a_this a_image a_leastImage a_places a_numbers a_imageX a_imageY v_count v_image v_leastImage)) (by decide) rfl rfl (Nat.le_of_ble_eq_true rfl) ?_
  intro p e s m below meth c Q A ls C hA ret hP hD hS hK hSt hNw hl
  obtain ⟨hx, hb, hml, hown, hts⟩ := id C
  replace hl : lv_has ls 3 [(0, .ref a_this)] := hl
  have f24 := hts (.fieldLink RX0 24 "NetSearch$Album" "image" "[I") (by decide +kernel)
  have iX0 : ∀ w ∈ wsX00, w ∈ wsX0_isImageLess := by decide +kernel
  have f27 := hts (.fieldLink RX0 27 "NetSearch$Album" "leastImage" "[I") (by decide +kernel)
  have L2_ok : ∀  (kx26 : Int32 → Int32 → Prop) (hkx26 : ∀ (l1 : Int32) (l2 : Int32) (H : Heap) (locs : List Loc) (ls : Array Slot), kx26 l1 l2 → va_P D vwCl (wd_X0_isImageLess cI cZ cJ a_this a_image a_leastImage a_places a_numbers a_imageX a_imageY v_count v_image v_leastImage) H → va_D A (wd_X0_isImageLess cI cZ cJ a_this a_image a_leastImage a_places a_numbers a_imageX a_imageY v_count v_image v_leastImage) → va_S A s.heap H locs → lv_has ls 3 [(0, .ref a_this), (1, .int l1), (2, .int l2)] → W p l e rm_X0_isImageLess s m ([.ref a_this] : List Value).toArray below meth c H locs 0 0 Q (F0 m 26 ls [])) (kx52 : Prop) (hkx52 : ∀ (H : Heap) (locs : List Loc) (ls : Array Slot), kx52  → va_P D vwCl (wd_X0_isImageLess cI cZ cJ a_this a_image a_leastImage a_places a_numbers a_imageX a_imageY v_count v_image v_leastImage) H → va_D A (wd_X0_isImageLess cI cZ cJ a_this a_image a_leastImage a_places a_numbers a_imageX a_imageY v_count v_image v_leastImage) → va_S A s.heap H locs → lv_has ls 3 [] → W p l e rm_X0_isImageLess s m ([.ref a_this] : List Value).toArray below meth c H locs 0 0 Q (F0 m 52 ls [])) (n : Nat) (l1 : Int32) (H : Heap) (locs : List Loc) (ls : Array Slot), lpN (wl_X0_isImageLess_2 v_image v_leastImage kx26 kx52) n l1 → va_P D vwCl (wd_X0_isImageLess cI cZ cJ a_this a_image a_leastImage a_places a_numbers a_imageX a_imageY v_count v_image v_leastImage) H → va_D A (wd_X0_isImageLess cI cZ cJ a_this a_image a_leastImage a_places a_numbers a_imageX a_imageY v_count v_image v_leastImage) → va_S A s.heap H locs → lv_has ls 3 [(0, .ref a_this), (1, .int l1)] → W p l e rm_X0_isImageLess s m ([.ref a_this] : List Value).toArray below meth c H locs 0 0 Q (F0 m 2 ls []) := by
    intro  kx26 hkx26 kx52 hkx52 n
    induction n with
    | zero => intro l1 H locs ls h; exact False.elim h
    | succ n ih =>
      intro l1 H locs ls h hP hD hS hl
      have h : wb_X0_isImageLess_2 v_image v_leastImage kx26 kx52 (fun l1 => lpN (wl_X0_isImageLess_2 v_image v_leastImage kx26 kx52) n l1) l1 := h
      unfold wb_X0_isImageLess_2 at h
      refine lv_iload_n hx hb dX0_isImageLess_2 rfl (lv_at hl 1 rfl) ?_
      refine lv_bipush (v := 22) hx hb dX0_isImageLess_3 (by decide) ?_
      refine lv_icmp_ge (tgt := 52) hx hb dX0_isImageLess_5 (by decide) (fun hc => ?_) (fun hc => ?_)
      · replace h := h.1 hc
        exact hkx52  _ _ _ h hP hD hS (lv_sub hl [] rfl)
      · replace h := h.2 hc
        refine lv_aload_n hx hb dX0_isImageLess_8 rfl (lv_at hl 0 rfl) ?_
        refine va_get (D := D) (ci := 0) (v := .ref a_image) (C := RX0) (T := TX0) (N := 7) hx hb hts iX0 hown hK hP 0 rfl rfl 5 (by decide) f24 (fun _ h9 => h9) rfl dX0_isImageLess_9 ?_
        refine lv_iload_n hx hb dX0_isImageLess_12 rfl (lv_at hl 1 rfl) ?_
        obtain ⟨hin, h⟩ := h
        refine va_iald hx hb hK hP 1 0 rfl rfl hin dX0_isImageLess_13 ?_
        refine lv_aload_n hx hb dX0_isImageLess_14 rfl (lv_at hl 0 rfl) ?_
        refine va_get (D := D) (ci := 0) (v := .ref a_leastImage) (C := RX0) (T := TX0) (N := 7) hx hb hts iX0 hown hK hP 0 rfl rfl 6 (by decide) f27 (fun _ h9 => h9) rfl dX0_isImageLess_15 ?_
        refine lv_iload_n hx hb dX0_isImageLess_18 rfl (lv_at hl 1 rfl) ?_
        obtain ⟨hin, h⟩ := h
        refine va_iald hx hb hK hP 2 0 rfl rfl hin dX0_isImageLess_19 ?_
        refine lv_ixor hx hb dX0_isImageLess_20 ?_
        refine lv_istore_n (lv' := [(2, .int ((v_image l1.toNatClampNeg) ^^^ (v_leastImage l1.toNatClampNeg))), (0, .ref a_this), (1, .int l1)]) hx hb dX0_isImageLess_21 rfl hl (by decide) rfl (fun ls hl => ?_)
        refine lv_iload_n hx hb dX0_isImageLess_22 rfl (lv_at hl 0 rfl) ?_
        refine lv_if_eq (tgt := 46) hx hb dX0_isImageLess_23 (by decide) (fun hc => ?_) (fun hc => ?_)
        · replace h := h.1 hc
          refine lv_iinc (v := (l1 + (1 : Int32))) (lv' := [(1, .int (l1 + (1 : Int32))), (2, .int ((v_image l1.toNatClampNeg) ^^^ (v_leastImage l1.toNatClampNeg))), (0, .ref a_this)]) hx hb dX0_isImageLess_46 hl (k := 2) rfl rfl (by decide) rfl (fun ls hl => ?_)
          refine lv_goto (tgt := 2) hx hb dX0_isImageLess_49 (by decide) ?_
          exact ih (l1 + (1 : Int32)) _ _ _ h hP hD hS (lv_sub hl [2, 0] rfl)
        · replace h := h.2 hc
          exact hkx26 l1 ((v_image l1.toNatClampNeg) ^^^ (v_leastImage l1.toNatClampNeg)) _ _ _ h hP hD hS (lv_sub hl [1, 2, 0] rfl)
  unfold wp_X0_isImageLess at h
  refine lv_iconst (v := 0) hx hb dX0_isImageLess_0 (by decide) ?_
  refine lv_istore_n (lv' := [(1, .int (0 : Int32)), (0, .ref a_this)]) hx hb dX0_isImageLess_1 rfl hl (by decide) rfl (fun ls hl => ?_)
  obtain ⟨n, h⟩ := h
  refine L2_ok  _ (fun l1_1 l2_2 H locs ls h hP hD hS hl => ?_) _ (fun  H locs ls h hP hD hS hl => ?_) n (0 : Int32) _ _ _ h hP hD hS (lv_sub hl [1, 0] rfl)
  · refine lv_iload_n hx hb dX0_isImageLess_26 rfl (lv_at hl 2 rfl) ?_
    have hPc := hP.sub (ws' := (wd_J6_lowestOneBit_0f7a4 cI cZ cJ)) [] rfl
    have hDc := hD.sub (ws' := (wd_J6_lowestOneBit_0f7a4 cI cZ cJ)) [] (by decide) rfl
    have hFc := va_free (wc := (wd_J6_lowestOneBit_0f7a4 cI cZ cJ)) hD hS hA [] rfl
    refine va_calli (va_runS (As := [.int l2_2]) (rest := []) C (c_J6_lowestOneBit_0f7a4 l D cI cZ cJ tb H.size l2_2 h) (va_cwS 1 hts gX0_isImageLess_J6_lowestOneBit_0f7a4 rfl rfl rfl (by decide +kernel) ⟨Nat.le_of_ble_eq_true rfl, Nat.le_of_ble_eq_true rfl⟩) ⟨q_pre.blind, fun U hU hW => ⟨rfl, q_pre.of hU hW hPc hK hDc hSt hS hFc hNw⟩⟩ rfl rfl hl.1 rfl (lv_room (Nat.le_of_ble_eq_true rfl)) dX0_isImageLess_27 ⟨Nat.zero_le _, Nat.zero_le _⟩) hS (fun q _ h => hFc q h) hFc (fun r_3 u_4 t H1 locs ht hvm hw hB hz1 hk1 hS => ?_)
    obtain ⟨hP1, hK1, hD1⟩ := hB
    rw [ht] at hP1
    obtain ⟨hP, hD⟩ := va_join (wr := [(a_this, .inr (0, [.int v_count, .ref a_places, .ref a_numbers, .ref a_imageX, .ref a_imageY, .ref a_image, .ref a_leastImage])), (a_image, .inl (cI, 22, .inl v_image)), (a_leastImage, .inl (cI, 22, .inl v_leastImage))]) (w1 := (wd_J6_lowestOneBit_0f7a4 cI cZ cJ)) hP hD [] [0, 1, 2] rfl rfl (by decide) (by decide) hk1 hFc hP1 hD1
    clear hPc hDc hFc hP1 hD1 hK1 hk1 hz1 ht hvm
    replace h := hw
    clear hw
    generalize H1 = H at hP hS ⊢
    replace hP : va_P D vwCl (wd_X0_isImageLess cI cZ cJ a_this a_image a_leastImage a_places a_numbers a_imageX a_imageY v_count v_image v_leastImage) H := hP.sub [0, 1, 2] rfl
    replace hD : va_D A (wd_X0_isImageLess cI cZ cJ a_this a_image a_leastImage a_places a_numbers a_imageX a_imageY v_count v_image v_leastImage) := hD.sub [0, 1, 2] (by decide) rfl
    refine lv_aload_n hx hb dX0_isImageLess_30 rfl (lv_at hl 0 rfl) ?_
    refine va_get (D := D) (ci := 0) (v := .ref a_image) (C := RX0) (T := TX0) (N := 7) hx hb hts iX0 hown hK hP 0 rfl rfl 5 (by decide) f24 (fun _ h9 => h9) rfl dX0_isImageLess_31 ?_
    refine lv_iload_n hx hb dX0_isImageLess_34 rfl (lv_at hl 1 rfl) ?_
    obtain ⟨hin, h⟩ := h
    refine va_iald hx hb hK hP 1 0 rfl rfl hin dX0_isImageLess_35 ?_
    refine lv_iand hx hb dX0_isImageLess_36 ?_
    refine lv_if_eq (tgt := 44) hx hb dX0_isImageLess_37 (by decide) (fun hc => ?_) (fun hc => ?_)
    · replace h := h.1 hc
      refine lv_iconst (v := 0) hx hb dX0_isImageLess_44 (by decide) ?_
      exact ret (0 : Int32) () _ _ _ 45 dX0_isImageLess_45 ⟨by decide, h⟩ hP hD hS
    · replace h := h.2 hc
      refine lv_iconst (v := 1) hx hb dX0_isImageLess_40 (by decide) ?_
      refine lv_goto (tgt := 45) hx hb dX0_isImageLess_41 (by decide) ?_
      exact ret (1 : Int32) () _ _ _ 45 dX0_isImageLess_45 ⟨by decide, h⟩ hP hD hS
  · refine lv_iconst (v := 0) hx hb dX0_isImageLess_52 (by decide) ?_
    exact ret (0 : Int32) () _ _ _ 53 dX0_isImageLess_53 ⟨by decide, h⟩ hP hD hS
def wd_X0_findLeastImage (cI cZ cJ : ClassId) (a_this a_image a_imageX a_imageY a_leastImage a_r1 a_r1_x a_r1_y a_places a_numbers a_r1_lies a_r1_solid a_r1_headings a_r1_taken : Nat) (v_count : Int32) (v_image : Nat → Int32) (v_imageX : Nat → Int32) (v_imageY : Nat → Int32) (v_leastImage : Nat → Int32) (v_r1_count : Int32) (v_r1_x : Nat → Int32) (v_r1_y : Nat → Int32) : va_W := [(a_this, .inr (0, [.int v_count, .ref a_places, .ref a_numbers, .ref a_imageX, .ref a_imageY, .ref a_image, .ref a_leastImage])),
  (a_image, .inl (cI, 22, .inl v_image)),
  (a_imageX, .inl (cI, 22, .inl v_imageX)),
  (a_imageY, .inl (cI, 22, .inl v_imageY)),
  (a_leastImage, .inl (cI, 22, .inl v_leastImage)),
  (a_r1, .inr (3, [.ref a_r1_lies, .ref a_r1_x, .ref a_r1_y, .int v_r1_count, .ref a_r1_solid, .ref a_r1_headings, .ref a_r1_taken])),
  (a_r1_x, .inl (cI, 22, .inl v_r1_x)),
  (a_r1_y, .inl (cI, 22, .inl v_r1_y))]
abbrev rm_X0_findLeastImage : Room := { frames := 2, cells := 0, slots := 0, locals := 49 }
set_option maxHeartbeats 4000000 in
set_option maxRecDepth 100000 in
theorem c_X0_findLeastImage (l : Launch) (D : va_G) (cI cZ cJ : ClassId) (tb : Nat → Nat) (a_this a_image a_imageX a_imageY a_leastImage a_r1 a_r1_x a_r1_y a_places a_numbers a_r1_lies a_r1_solid a_r1_headings a_r1_taken : Nat) (v_count : Int32) (v_image : Nat → Int32) (v_imageX : Nat → Int32) (v_imageY : Nat → Int32) (v_leastImage : Nat → Int32) (v_r1_count : Int32) (v_r1_x : Nat → Int32) (v_r1_y : Nat → Int32) (sz : Nat) {post : (Nat → Int32) → (Nat → Int32) → (Nat → Int32) → (Nat → Int32) → Prop} (h : wp_X0_findLeastImage v_image v_imageX v_imageY v_leastImage v_r1_count v_r1_x v_r1_y post) : Met l yX0_findLeastImage wsX0_findLeastImage rm_X0_findLeastImage (va_Pc [.ref a_this, .ref a_r1] (q_pre D cI cZ cJ tb (wd_X0_findLeastImage cI cZ cJ a_this a_image a_imageX a_imageY a_leastImage a_r1 a_r1_x a_r1_y a_places a_numbers a_r1_lies a_r1_solid a_r1_headings a_r1_taken v_count v_image v_imageX v_imageY v_leastImage v_r1_count v_r1_x v_r1_y) sz)) (va_Qv (fun (u : (Nat → Int32) × (Nat → Int32) × (Nat → Int32) × (Nat → Int32)) => post u.1 u.2.1 u.2.2.1 u.2.2.2) (fun u => q_post D cI cZ cJ (va_A (wd_X0_findLeastImage cI cZ cJ a_this a_image a_imageX a_imageY a_leastImage a_r1 a_r1_x a_r1_y a_places a_numbers a_r1_lies a_r1_solid a_r1_headings a_r1_taken v_count v_image v_imageX v_imageY v_leastImage v_r1_count v_r1_x v_r1_y) sz) (wd_X0_findLeastImage cI cZ cJ a_this a_image a_imageX a_imageY a_leastImage a_r1 a_r1_x a_r1_y a_places a_numbers a_r1_lies a_r1_solid a_r1_headings a_r1_taken v_count u.1 u.2.1 u.2.2.1 u.2.2.2 v_r1_count v_r1_x v_r1_y)) (va_A (wd_X0_findLeastImage cI cZ cJ a_this a_image a_imageX a_imageY a_leastImage a_r1 a_r1_x a_r1_y a_places a_numbers a_r1_lies a_r1_solid a_r1_headings a_r1_taken v_count v_image v_imageX v_imageY v_leastImage v_r1_count v_r1_x v_r1_y) sz)) 0 0 (va_A (wd_X0_findLeastImage cI cZ cJ a_this a_image a_imageX a_imageY a_leastImage a_r1 a_r1_x a_r1_y a_places a_numbers a_r1_lies a_r1_solid a_r1_headings a_r1_taken v_count v_image v_imageX v_imageY v_leastImage v_r1_count v_r1_x v_r1_y) sz) := by
  refine q_walkv (cc := cX0_findLeastImage) (maxL := 3) (own := RX0) (wd := fun (u : (Nat → Int32) × (Nat → Int32) × (Nat → Int32) × (Nat → Int32)) => (wd_X0_findLeastImage cI cZ cJ a_this a_image a_imageX a_imageY a_leastImage a_r1 a_r1_x a_r1_y a_places a_numbers a_r1_lies a_r1_solid a_r1_headings a_r1_taken v_count u.1 u.2.1 u.2.2.1 u.2.2.2 v_r1_count v_r1_x v_r1_y)) (by decide) rfl rfl (Nat.le_of_ble_eq_true rfl) ?_
  intro p e s m below meth c Q A ls C hA ret hP hD hS hK hSt hNw hl
  obtain ⟨hx, hb, hml, hown, hts⟩ := id C
  replace hl : lv_has ls 3 [(0, .ref a_this), (1, .ref a_r1)] := hl
  have f24 := hts (.fieldLink RX0 24 "NetSearch$Album" "image" "[I") (by decide +kernel)
  have iX0 : ∀ w ∈ wsX00, w ∈ wsX0_findLeastImage := by decide +kernel
  have f27 := hts (.fieldLink RX0 27 "NetSearch$Album" "leastImage" "[I") (by decide +kernel)
  have m63 := hts (.methodLink RX0 63 arraycopyName) (by decide +kernel)
  have mnat := hts (.native arraycopyName) (by decide +kernel)
  have msta := hts (.static arraycopyName) (by decide +kernel)
  have mini := hts (.initialized "java/lang/System") (by decide +kernel)
  have J25_ok : ∀  (kx46 : (Nat → Int32) → (Nat → Int32) → (Nat → Int32) → (Nat → Int32) → Prop) (hkx46 : ∀ (v_image : Nat → Int32) (v_imageX : Nat → Int32) (v_imageY : Nat → Int32) (v_leastImage : Nat → Int32) (H : Heap) (locs : List Loc) (ls : Array Slot), kx46 v_image v_imageX v_imageY v_leastImage → va_P D vwCl (wd_X0_findLeastImage cI cZ cJ a_this a_image a_imageX a_imageY a_leastImage a_r1 a_r1_x a_r1_y a_places a_numbers a_r1_lies a_r1_solid a_r1_headings a_r1_taken v_count v_image v_imageX v_imageY v_leastImage v_r1_count v_r1_x v_r1_y) H → va_D A (wd_X0_findLeastImage cI cZ cJ a_this a_image a_imageX a_imageY a_leastImage a_r1 a_r1_x a_r1_y a_places a_numbers a_r1_lies a_r1_solid a_r1_headings a_r1_taken v_count v_image v_imageX v_imageY v_leastImage v_r1_count v_r1_x v_r1_y) → va_S A s.heap H locs → lv_has ls 3 [] → W p l e rm_X0_findLeastImage s m ([.ref a_this, .ref a_r1] : List Value).toArray below meth c H locs 0 0 Q (F0 m 46 ls [])) (kb : Int32 → (Nat → Int32) → (Nat → Int32) → (Nat → Int32) → (Nat → Int32) → Prop) (hkb : ∀ (l2 : Int32) (v_image : Nat → Int32) (v_imageX : Nat → Int32) (v_imageY : Nat → Int32) (v_leastImage : Nat → Int32) (H : Heap) (locs : List Loc) (ls : Array Slot), kb l2 v_image v_imageX v_imageY v_leastImage → va_P D vwCl (wd_X0_findLeastImage cI cZ cJ a_this a_image a_imageX a_imageY a_leastImage a_r1 a_r1_x a_r1_y a_places a_numbers a_r1_lies a_r1_solid a_r1_headings a_r1_taken v_count v_image v_imageX v_imageY v_leastImage v_r1_count v_r1_x v_r1_y) H → va_D A (wd_X0_findLeastImage cI cZ cJ a_this a_image a_imageX a_imageY a_leastImage a_r1 a_r1_x a_r1_y a_places a_numbers a_r1_lies a_r1_solid a_r1_headings a_r1_taken v_count v_image v_imageX v_imageY v_leastImage v_r1_count v_r1_x v_r1_y) → va_S A s.heap H locs → lv_has ls 3 [(0, .ref a_this), (1, .ref a_r1), (2, .int l2)] → W p l e rm_X0_findLeastImage s m ([.ref a_this, .ref a_r1] : List Value).toArray below meth c H locs 0 0 Q (F0 m 2 ls [])) (l2 : Int32) (v_image : Nat → Int32) (v_imageX : Nat → Int32) (v_imageY : Nat → Int32) (v_leastImage : Nat → Int32) (H : Heap) (locs : List Loc) (ls : Array Slot), wj_X0_findLeastImage_25 kb l2 v_image v_imageX v_imageY v_leastImage → va_P D vwCl (wd_X0_findLeastImage cI cZ cJ a_this a_image a_imageX a_imageY a_leastImage a_r1 a_r1_x a_r1_y a_places a_numbers a_r1_lies a_r1_solid a_r1_headings a_r1_taken v_count v_image v_imageX v_imageY v_leastImage v_r1_count v_r1_x v_r1_y) H → va_D A (wd_X0_findLeastImage cI cZ cJ a_this a_image a_imageX a_imageY a_leastImage a_r1 a_r1_x a_r1_y a_places a_numbers a_r1_lies a_r1_solid a_r1_headings a_r1_taken v_count v_image v_imageX v_imageY v_leastImage v_r1_count v_r1_x v_r1_y) → va_S A s.heap H locs → lv_has ls 3 [(0, .ref a_this), (1, .ref a_r1), (2, .int l2)] → W p l e rm_X0_findLeastImage s m ([.ref a_this, .ref a_r1] : List Value).toArray below meth c H locs 0 0 Q (F0 m 25 ls []) := by
    intro  kx46 hkx46 kb hkb l2 v_image v_imageX v_imageY v_leastImage H locs ls h hP hD hS hl
    unfold wj_X0_findLeastImage_25 at h
    refine lv_aload_n hx hb dX0_findLeastImage_25 rfl (lv_at hl 0 rfl) ?_
    refine va_get (D := D) (ci := 0) (v := .ref a_image) (C := RX0) (T := TX0) (N := 7) hx hb hts iX0 hown hK hP 0 rfl rfl 5 (by decide) f24 (fun _ h9 => h9) rfl dX0_findLeastImage_26 ?_
    refine lv_iconst (v := 0) hx hb dX0_findLeastImage_29 (by decide) ?_
    refine lv_aload_n hx hb dX0_findLeastImage_30 rfl (lv_at hl 0 rfl) ?_
    refine va_get (D := D) (ci := 0) (v := .ref a_leastImage) (C := RX0) (T := TX0) (N := 7) hx hb hts iX0 hown hK hP 0 rfl rfl 6 (by decide) f27 (fun _ h9 => h9) rfl dX0_findLeastImage_31 ?_
    refine lv_iconst (v := 0) hx hb dX0_findLeastImage_34 (by decide) ?_
    refine lv_bipush (v := 22) hx hb dX0_findLeastImage_35 (by decide) ?_
    obtain ⟨hc1, hc2, hc3, hc4, hc5, h⟩ := h
    refine va_copyi hx hb (by rw [hml]; exact hl.1.symm) hown m63 mnat msta mini hK hP hD hS 1 4 0 0 (ty := .int) rfl rfl rfl rfl rfl hc1 hc2 hc3 hc4 hc5 (fun _ _ => rfl) (by decide) (by decide) dX0_findLeastImage_37 (fun H locs hP hD hS => ?_)
    replace hP : va_P D vwCl (wd_X0_findLeastImage cI cZ cJ a_this a_image a_imageX a_imageY a_leastImage a_r1 a_r1_x a_r1_y a_places a_numbers a_r1_lies a_r1_solid a_r1_headings a_r1_taken v_count v_image v_imageX v_imageY (va_cpy v_image v_leastImage (0 : Int32).toNatClampNeg (0 : Int32).toNatClampNeg (22 : Int32).toNatClampNeg) v_r1_count v_r1_x v_r1_y) H := hP
    replace hD : va_D A (wd_X0_findLeastImage cI cZ cJ a_this a_image a_imageX a_imageY a_leastImage a_r1 a_r1_x a_r1_y a_places a_numbers a_r1_lies a_r1_solid a_r1_headings a_r1_taken v_count v_image v_imageX v_imageY (va_cpy v_image v_leastImage (0 : Int32).toNatClampNeg (0 : Int32).toNatClampNeg (22 : Int32).toNatClampNeg) v_r1_count v_r1_x v_r1_y) := hD
    refine lv_iinc (v := (l2 + (1 : Int32))) (lv' := [(2, .int (l2 + (1 : Int32))), (0, .ref a_this), (1, .ref a_r1)]) hx hb dX0_findLeastImage_40 hl (k := 2) rfl rfl (by decide) rfl (fun ls hl => ?_)
    refine lv_goto (tgt := 2) hx hb dX0_findLeastImage_43 (by decide) ?_
    exact hkb (l2 + (1 : Int32)) v_image v_imageX v_imageY (va_cpy v_image v_leastImage (0 : Int32).toNatClampNeg (0 : Int32).toNatClampNeg (22 : Int32).toNatClampNeg) _ _ _ h hP hD hS (lv_sub hl [1, 2, 0] rfl)
  have L2_ok : ∀  (kx46 : (Nat → Int32) → (Nat → Int32) → (Nat → Int32) → (Nat → Int32) → Prop) (hkx46 : ∀ (v_image : Nat → Int32) (v_imageX : Nat → Int32) (v_imageY : Nat → Int32) (v_leastImage : Nat → Int32) (H : Heap) (locs : List Loc) (ls : Array Slot), kx46 v_image v_imageX v_imageY v_leastImage → va_P D vwCl (wd_X0_findLeastImage cI cZ cJ a_this a_image a_imageX a_imageY a_leastImage a_r1 a_r1_x a_r1_y a_places a_numbers a_r1_lies a_r1_solid a_r1_headings a_r1_taken v_count v_image v_imageX v_imageY v_leastImage v_r1_count v_r1_x v_r1_y) H → va_D A (wd_X0_findLeastImage cI cZ cJ a_this a_image a_imageX a_imageY a_leastImage a_r1 a_r1_x a_r1_y a_places a_numbers a_r1_lies a_r1_solid a_r1_headings a_r1_taken v_count v_image v_imageX v_imageY v_leastImage v_r1_count v_r1_x v_r1_y) → va_S A s.heap H locs → lv_has ls 3 [] → W p l e rm_X0_findLeastImage s m ([.ref a_this, .ref a_r1] : List Value).toArray below meth c H locs 0 0 Q (F0 m 46 ls [])) (n : Nat) (l2 : Int32) (v_image : Nat → Int32) (v_imageX : Nat → Int32) (v_imageY : Nat → Int32) (v_leastImage : Nat → Int32) (H : Heap) (locs : List Loc) (ls : Array Slot), lpN (wl_X0_findLeastImage_2 v_r1_count v_r1_x v_r1_y kx46) n (l2, v_image, v_imageX, v_imageY, v_leastImage) → va_P D vwCl (wd_X0_findLeastImage cI cZ cJ a_this a_image a_imageX a_imageY a_leastImage a_r1 a_r1_x a_r1_y a_places a_numbers a_r1_lies a_r1_solid a_r1_headings a_r1_taken v_count v_image v_imageX v_imageY v_leastImage v_r1_count v_r1_x v_r1_y) H → va_D A (wd_X0_findLeastImage cI cZ cJ a_this a_image a_imageX a_imageY a_leastImage a_r1 a_r1_x a_r1_y a_places a_numbers a_r1_lies a_r1_solid a_r1_headings a_r1_taken v_count v_image v_imageX v_imageY v_leastImage v_r1_count v_r1_x v_r1_y) → va_S A s.heap H locs → lv_has ls 3 [(0, .ref a_this), (1, .ref a_r1), (2, .int l2)] → W p l e rm_X0_findLeastImage s m ([.ref a_this, .ref a_r1] : List Value).toArray below meth c H locs 0 0 Q (F0 m 2 ls []) := by
    intro  kx46 hkx46 n
    induction n with
    | zero => intro l2 v_image v_imageX v_imageY v_leastImage H locs ls h; exact False.elim h
    | succ n ih =>
      intro l2 v_image v_imageX v_imageY v_leastImage H locs ls h hP hD hS hl
      have h : wb_X0_findLeastImage_2 v_r1_count v_r1_x v_r1_y kx46 (fun l2 v_image v_imageX v_imageY v_leastImage => lpN (wl_X0_findLeastImage_2 v_r1_count v_r1_x v_r1_y kx46) n (l2, v_image, v_imageX, v_imageY, v_leastImage)) l2 v_image v_imageX v_imageY v_leastImage := h
      unfold wb_X0_findLeastImage_2 at h
      refine lv_iload_n hx hb dX0_findLeastImage_2 rfl (lv_at hl 2 rfl) ?_
      refine lv_bipush (v := 8) hx hb dX0_findLeastImage_3 (by decide) ?_
      refine lv_icmp_ge (tgt := 46) hx hb dX0_findLeastImage_5 (by decide) (fun hc => ?_) (fun hc => ?_)
      · replace h := h.1 hc
        exact hkx46 v_image v_imageX v_imageY v_leastImage _ _ _ h hP hD hS (lv_sub hl [] rfl)
      · replace h := h.2 hc
        refine lv_aload_n hx hb dX0_findLeastImage_8 rfl (lv_at hl 0 rfl) ?_
        refine lv_aload_n hx hb dX0_findLeastImage_9 rfl (lv_at hl 1 rfl) ?_
        refine lv_iload_n hx hb dX0_findLeastImage_10 rfl (lv_at hl 2 rfl) ?_
        have hPc := hP.sub (ws' := (wd_X0_drawImage cI cZ cJ a_this a_image a_imageX a_imageY a_r1 a_r1_x a_r1_y a_places a_numbers a_leastImage a_r1_lies a_r1_solid a_r1_headings a_r1_taken v_count v_image v_imageX v_imageY v_r1_count v_r1_x v_r1_y)) [0, 1, 2, 3, 5, 6, 7] rfl
        have hDc := hD.sub (ws' := (wd_X0_drawImage cI cZ cJ a_this a_image a_imageX a_imageY a_r1 a_r1_x a_r1_y a_places a_numbers a_leastImage a_r1_lies a_r1_solid a_r1_headings a_r1_taken v_count v_image v_imageX v_imageY v_r1_count v_r1_x v_r1_y)) [0, 1, 2, 3, 5, 6, 7] (by decide) rfl
        have hFc := va_free (wc := (wd_X0_drawImage cI cZ cJ a_this a_image a_imageX a_imageY a_r1 a_r1_x a_r1_y a_places a_numbers a_leastImage a_r1_lies a_r1_solid a_r1_headings a_r1_taken v_count v_image v_imageX v_imageY v_r1_count v_r1_x v_r1_y)) hD hS hA [0, 1, 2, 3, 5, 6, 7] rfl
        refine va_callv (va_runV (As := [.ref a_r1, .int l2]) (rest := []) C (c_X0_drawImage l D cI cZ cJ tb a_this a_image a_imageX a_imageY a_r1 a_r1_x a_r1_y a_places a_numbers a_leastImage a_r1_lies a_r1_solid a_r1_headings a_r1_taken v_count v_image v_imageX v_imageY v_r1_count v_r1_x v_r1_y H.size l2 h) (cwV 2 hts gX0_findLeastImage_X0_drawImage rfl rfl rfl (by decide +kernel) ⟨Nat.le_of_ble_eq_true rfl, Nat.le_of_ble_eq_true rfl⟩) ⟨q_pre.blind, va_recv hK hP (ci := 0) (q0 := 0) rfl rfl, fun U hU hW => ⟨rfl, q_pre.of hU hW hPc hK hDc hSt hS hFc hNw⟩⟩ rfl rfl hl.1 rfl (lv_room (Nat.le_of_ble_eq_true rfl)) dX0_findLeastImage_11 ⟨Nat.zero_le _, Nat.zero_le _⟩) hS (fun q _ h => hFc q h) hFc (fun u_2 t H1 locs ht hvm hw hB hz1 hk1 hS => ?_)
        obtain ⟨hP1, hK1, hD1⟩ := hB
        rw [ht] at hP1
        obtain ⟨hP, hD⟩ := va_join (wr := [(a_leastImage, .inl (cI, 22, .inl v_leastImage))]) (w1 := (wd_X0_drawImage cI cZ cJ a_this a_image a_imageX a_imageY a_r1 a_r1_x a_r1_y a_places a_numbers a_leastImage a_r1_lies a_r1_solid a_r1_headings a_r1_taken v_count u_2.1 u_2.2.1 u_2.2.2 v_r1_count v_r1_x v_r1_y)) hP hD [0, 1, 2, 3, 5, 6, 7] [4] rfl rfl (by decide) (by decide) hk1 hFc hP1 hD1
        clear hPc hDc hFc hP1 hD1 hK1 hk1 hz1 ht hvm
        replace h := hw
        clear hw
        generalize H1 = H at hP hS ⊢
        replace hP : va_P D vwCl (wd_X0_findLeastImage cI cZ cJ a_this a_image a_imageX a_imageY a_leastImage a_r1 a_r1_x a_r1_y a_places a_numbers a_r1_lies a_r1_solid a_r1_headings a_r1_taken v_count u_2.1 u_2.2.1 u_2.2.2 v_leastImage v_r1_count v_r1_x v_r1_y) H := hP.sub [1, 2, 3, 4, 0, 5, 6, 7] rfl
        replace hD : va_D A (wd_X0_findLeastImage cI cZ cJ a_this a_image a_imageX a_imageY a_leastImage a_r1 a_r1_x a_r1_y a_places a_numbers a_r1_lies a_r1_solid a_r1_headings a_r1_taken v_count u_2.1 u_2.2.1 u_2.2.2 v_leastImage v_r1_count v_r1_x v_r1_y) := hD.sub [1, 2, 3, 4, 0, 5, 6, 7] (by decide) rfl
        refine lv_iload_n hx hb dX0_findLeastImage_14 rfl (lv_at hl 2 rfl) ?_
        refine lv_if_eq (tgt := 25) hx hb dX0_findLeastImage_15 (by decide) (fun hc => ?_) (fun hc => ?_)
        · replace h := h.1 hc
          exact J25_ok  _ hkx46 _ ih l2 u_2.1 u_2.2.1 u_2.2.2 v_leastImage _ _ _ h hP hD hS (lv_sub hl [0, 1, 2] rfl)
        · replace h := h.2 hc
          refine lv_aload_n hx hb dX0_findLeastImage_18 rfl (lv_at hl 0 rfl) ?_
          have hPc := hP.sub (ws' := (wd_X0_isImageLess cI cZ cJ a_this a_image a_leastImage a_places a_numbers a_imageX a_imageY v_count u_2.1 v_leastImage)) [0, 1, 4] rfl
          have hDc := hD.sub (ws' := (wd_X0_isImageLess cI cZ cJ a_this a_image a_leastImage a_places a_numbers a_imageX a_imageY v_count u_2.1 v_leastImage)) [0, 1, 4] (by decide) rfl
          have hFc := va_free (wc := (wd_X0_isImageLess cI cZ cJ a_this a_image a_leastImage a_places a_numbers a_imageX a_imageY v_count u_2.1 v_leastImage)) hD hS hA [0, 1, 4] rfl
          refine va_calli (va_runV (As := []) (rest := []) C (c_X0_isImageLess l D cI cZ cJ tb a_this a_image a_leastImage a_places a_numbers a_imageX a_imageY v_count u_2.1 v_leastImage H.size h) (cwV 0 hts gX0_findLeastImage_X0_isImageLess rfl rfl rfl (by decide +kernel) ⟨Nat.le_of_ble_eq_true rfl, Nat.le_of_ble_eq_true rfl⟩) ⟨q_pre.blind, va_recv hK hP (ci := 0) (q0 := 0) rfl rfl, fun U hU hW => ⟨rfl, q_pre.of hU hW hPc hK hDc hSt hS hFc hNw⟩⟩ rfl rfl hl.1 rfl (lv_room (Nat.le_of_ble_eq_true rfl)) dX0_findLeastImage_19 ⟨Nat.zero_le _, Nat.zero_le _⟩) hS (fun q _ h => hFc q h) hFc (fun r_6 u_7 t H1 locs ht hvm hw hB hz1 hk1 hS => ?_)
          obtain ⟨hP1, hK1, hD1⟩ := hB
          rw [ht] at hP1
          obtain ⟨hP, hD⟩ := va_join (wr := [(a_imageX, .inl (cI, 22, .inl u_2.2.1)), (a_imageY, .inl (cI, 22, .inl u_2.2.2)), (a_r1, .inr (3, [.ref a_r1_lies, .ref a_r1_x, .ref a_r1_y, .int v_r1_count, .ref a_r1_solid, .ref a_r1_headings, .ref a_r1_taken])), (a_r1_x, .inl (cI, 22, .inl v_r1_x)), (a_r1_y, .inl (cI, 22, .inl v_r1_y))]) (w1 := (wd_X0_isImageLess cI cZ cJ a_this a_image a_leastImage a_places a_numbers a_imageX a_imageY v_count u_2.1 v_leastImage)) hP hD [0, 1, 4] [2, 3, 5, 6, 7] rfl rfl (by decide) (by decide) hk1 hFc hP1 hD1
          clear hPc hDc hFc hP1 hD1 hK1 hk1 hz1 ht hvm
          replace h := hw
          clear hw
          generalize H1 = H at hP hS ⊢
          replace hP : va_P D vwCl (wd_X0_findLeastImage cI cZ cJ a_this a_image a_imageX a_imageY a_leastImage a_r1 a_r1_x a_r1_y a_places a_numbers a_r1_lies a_r1_solid a_r1_headings a_r1_taken v_count u_2.1 u_2.2.1 u_2.2.2 v_leastImage v_r1_count v_r1_x v_r1_y) H := hP.sub [5, 6, 0, 1, 7, 2, 3, 4] rfl
          replace hD : va_D A (wd_X0_findLeastImage cI cZ cJ a_this a_image a_imageX a_imageY a_leastImage a_r1 a_r1_x a_r1_y a_places a_numbers a_r1_lies a_r1_solid a_r1_headings a_r1_taken v_count u_2.1 u_2.2.1 u_2.2.2 v_leastImage v_r1_count v_r1_x v_r1_y) := hD.sub [5, 6, 0, 1, 7, 2, 3, 4] (by decide) rfl
          refine lv_if_eq (tgt := 40) hx hb dX0_findLeastImage_22 (by decide) (fun hc => ?_) (fun hc => ?_)
          · replace h := h.1 hc
            refine lv_iinc (v := (l2 + (1 : Int32))) (lv' := [(2, .int (l2 + (1 : Int32))), (0, .ref a_this), (1, .ref a_r1)]) hx hb dX0_findLeastImage_40 hl (k := 2) rfl rfl (by decide) rfl (fun ls hl => ?_)
            refine lv_goto (tgt := 2) hx hb dX0_findLeastImage_43 (by decide) ?_
            exact ih (l2 + (1 : Int32)) u_2.1 u_2.2.1 u_2.2.2 v_leastImage _ _ _ h hP hD hS (lv_sub hl [1, 2, 0] rfl)
          · replace h := h.2 hc
            exact J25_ok  _ hkx46 _ ih l2 u_2.1 u_2.2.1 u_2.2.2 v_leastImage _ _ _ h hP hD hS (lv_sub hl [0, 1, 2] rfl)
  unfold wp_X0_findLeastImage at h
  refine lv_iconst (v := 0) hx hb dX0_findLeastImage_0 (by decide) ?_
  refine lv_istore_n (lv' := [(2, .int (0 : Int32)), (0, .ref a_this), (1, .ref a_r1)]) hx hb dX0_findLeastImage_1 rfl hl (by decide) rfl (fun ls hl => ?_)
  obtain ⟨n, h⟩ := h
  refine L2_ok  _ (fun v_image_8 v_imageX_9 v_imageY_10 v_leastImage_11 H locs ls h hP hD hS hl => ?_) n (0 : Int32) v_image v_imageX v_imageY v_leastImage _ _ _ h hP hD hS (lv_sub hl [1, 2, 0] rfl)
  exact ret (v_image_8, v_imageX_9, v_imageY_10, v_leastImage_11) _ _ _ 46 dX0_findLeastImage_46 h hP hD hS
