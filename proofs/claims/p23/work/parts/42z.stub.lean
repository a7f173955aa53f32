/-! stubs -/
theorem gh_130_0_ok {X : aX} : zCk X (gP []) gG 130 gh_130_0 := by
  sorry
