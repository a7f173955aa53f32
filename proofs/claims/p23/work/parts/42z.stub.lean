/-! stubs -/
theorem gh_105_0_ok {X : aX} : zCk X (gP []) gG 105 gh_105_0 := by
  sorry
theorem gh_130_0_ok {X : aX} : zCk X (gP []) gG 130 gh_130_0 := by
  sorry
