-- PURE 37: trees
theorem SoI_pos {n : Nat} {cx cy cz : Ar} {cu fa : I3} {be co lo ow : Ar} {mfa : I3} {mcf mlo mle mnx : Ar} (h : SoI n cx cy cz cu fa be co lo ow mfa mcf mlo mle mnx) (hc : ¬ cu = 0) : 1 ≤ fN n cx cy cz (n * 6) := by
  obtain ⟨h1, e, -, -, hx, -⟩ := h
  refine fN_pos ?_ (fun c hc => hx c hc)
  apply Classical.byContradiction
  intro q
  have : n = 0 := by omega
  subst this
  exact hc e
theorem op_trees {n : Nat} {cu fa mfa : I3} {cx cy cz be co lo ow mcf mlo mle mnx : Ar} {tM mG : Aw} {post : Int64 → Aw → Int64 → Aw → Prop} (hSo : SoI n cx cy cz cu fa be co lo ow mfa mcf mlo mle mnx) (h : ∀ r M G, post r M r G) : wp_X7_trees cu fa be lo tM (fun r M => wp_X8_trees cu mfa mG mlo mnx (fun r' G => post r M r' G)) := by
  have h22 := SoI_22 hSo
  have hpos := SoI_pos hSo
  obtain ⟨h5, -, rfl, rfl, -, -, hT1, hT2, hco⟩ := hSo
  have hG := GS_ok (n := n) (x := cx) (y := cy) (z := cz)
  unfold wp_X7_trees
  refine ⟨fun q => ?_, fun q => ⟨fun z => absurd q z, fun _ => h _ _ _⟩⟩
  have hp := hpos q
  generalize fN n cx cy cz (n * 6) = F at *
  obtain ⟨m, rfl⟩ : ∃ m, F = m + 1 := ⟨F - 1, by omega⟩
  exact X5_count_ok hT1 hG h22 (fun M => X8_trees_ok q hT2 hG h22 (fun G => h _ _ _))
