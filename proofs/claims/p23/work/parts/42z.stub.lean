/-! stubs -/
theorem gh_65_0_ok {X : aX} : zCk X (gP []) gG 65 gh_65_0 := by
  sorry
theorem gh_77_0_ok {X : aX} : zCk X (gP []) gG 77 gh_77_0 := by
  sorry
theorem gh_78_0_ok {X : aX} : zCk X (gP []) gG 78 gh_78_0 := by
  sorry
theorem gh_80_0_ok {X : aX} : zCk X (gP []) gG 80 gh_80_0 := by
  sorry
theorem gh_85_0_ok {X : aX} : zCk X (gP []) gG 85 gh_85_0 := by
  sorry
theorem gh_105_0_ok {X : aX} : zCk X (gP []) gG 105 gh_105_0 := by
  sorry
theorem gh_130_0_ok {X : aX} : zCk X (gP []) gG 130 gh_130_0 := by
  sorry
theorem gh_133_0_ok {X : aX} : zCk X (gP []) gG 133 gh_133_0 := by
  sorry
theorem gh_133_1_ok {X : aX} : zCk X (gP []) gG 133 gh_133_1 := by
  sorry
