-- PURE 39: the beginning; all of it
theorem CS_zero {hd x y : Ar} : CS 0 (fun _ => none) 0 hd (fun _ => 0) x y := ⟨fun f _ _ => rfl, fun f p hp => (by cases hp), (by rw [pN_none]; rfl)⟩
theorem SrI_start {look : Nat → Nat} {im ix iy lm nu pl : Ar} {wi he no : I3} {bx bY laid las : Ar} {hd x y : Ar} {mco mst bw bh : I3} {step : I3} {atX atY mbx mbY ch has od ri sr ss up : Ar} : SrI 0 look 0 0 im ix iy lm nu pl 0 0 0 step 0 wi he no bx bY laid las 0 hd (fun _ => 0) (fun _ => 0) x y mco mst 0 0 0 bw bh (-9) 0 atX atY mbx mbY ch has od ri sr ss up := by
  refine ⟨(0, (false, 0, 0, 0, (fun _ => 0), (fun _ => 0)), (0, (fun _ _ => False), (fun _ => 0))), ⟨rfl, ⟨Nat.zero_le _, fun i hi => absurd hi (Nat.not_lt_zero _)⟩, ⟨rfl, fun i hi => absurd hi (Nat.not_lt_zero _)⟩, rfl, fun q => (by cases q)⟩, ⟨rfl, ⟨Nat.zero_le _, fun i hi => absurd hi (Nat.not_lt_zero _)⟩, ⟨rfl, fun i hi => absurd hi (Nat.not_lt_zero _)⟩, fun q => (by cases q), fun _ => ⟨fun q => (by cases q), fun _ => rfl⟩⟩, fun i hi => absurd hi (Nat.not_lt_zero _), Nat.zero_le _, rfl, Or.inl ⟨rfl, rfl, rfl, CS_30 CS_zero, TK_0 (fun _ _ => rfl)⟩⟩
set_option maxHeartbeats 8000000 in
set_option maxRecDepth 8000 in
theorem pureL : PUREL := by
  intro L xs hL
  refine X6_init_ok (fun is hI => ?_)
  unfold wp_X8_init
  refine X8_anew_ok (n := 0) (by omega) (fun _ mcf has mle mli mlo mnx hFT hET hhas hli => ?_) (fun k hk => by omega)
  refine law_ok hL hI ⟨0, ⟨by omega, rfl, rfl, rfl, fun c hc => by omega, fun q => by omega, ⟨fun f hf => absurd hf (Nat.not_lt_zero _), fun f e hf => absurd hf (Nat.not_lt_zero _)⟩, ⟨fun f hf => absurd hf (Nat.not_lt_zero _), fun f e hf => absurd hf (Nat.not_lt_zero _)⟩, fun f hf => absurd hf (Nat.not_lt_zero _)⟩, rfl, rfl, rfl, rfl, handI_none CS_zero hli, SrI_start, ⟨fun _ => none, 0, by omega, CS_zero⟩⟩
