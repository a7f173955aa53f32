/-! the words of every method: printed by wip/tools/gen_ok.py -/
theorem aOkW_0 : ∀ z, z < 25 → aCkW (0 + z) = true := by decide +kernel
theorem aOkW_25 : ∀ z, z < 25 → aCkW (25 + z) = true := by decide +kernel
theorem aOkW_50 : ∀ z, z < 25 → aCkW (50 + z) = true := by decide +kernel
theorem aOkW_75 : ∀ z, z < 25 → aCkW (75 + z) = true := by decide +kernel
theorem aOkW_100 : ∀ z, z < 25 → aCkW (100 + z) = true := by decide +kernel
theorem aOkW_125 : ∀ z, z < 25 → aCkW (125 + z) = true := by decide +kernel
theorem aOkW_150 : ∀ z, z < 25 → aCkW (150 + z) = true := by decide +kernel
theorem aOkW_175 : ∀ z, z < 25 → aCkW (175 + z) = true := by decide +kernel
theorem aOkW_200 : ∀ z, z < 25 → aCkW (200 + z) = true := by decide +kernel
theorem aOkW_225 : ∀ z, z < 21 → aCkW (225 + z) = true := by decide +kernel
theorem aOkW : ∀ y, y + 1 < aIs.length → aCkW y = true := by
  intro y hy
  have e : aIs.length = 247 := by decide +kernel
  rw [e] at hy
  by_cases h0 : y < 25
  · have := aOkW_0 (y - 0) (by omega)
    rwa [show 0 + (y - 0) = y by omega] at this
  by_cases h25 : y < 50
  · have := aOkW_25 (y - 25) (by omega)
    rwa [show 25 + (y - 25) = y by omega] at this
  by_cases h50 : y < 75
  · have := aOkW_50 (y - 50) (by omega)
    rwa [show 50 + (y - 50) = y by omega] at this
  by_cases h75 : y < 100
  · have := aOkW_75 (y - 75) (by omega)
    rwa [show 75 + (y - 75) = y by omega] at this
  by_cases h100 : y < 125
  · have := aOkW_100 (y - 100) (by omega)
    rwa [show 100 + (y - 100) = y by omega] at this
  by_cases h125 : y < 150
  · have := aOkW_125 (y - 125) (by omega)
    rwa [show 125 + (y - 125) = y by omega] at this
  by_cases h150 : y < 175
  · have := aOkW_150 (y - 150) (by omega)
    rwa [show 150 + (y - 150) = y by omega] at this
  by_cases h175 : y < 200
  · have := aOkW_175 (y - 175) (by omega)
    rwa [show 175 + (y - 175) = y by omega] at this
  by_cases h200 : y < 225
  · have := aOkW_200 (y - 200) (by omega)
    rwa [show 200 + (y - 200) = y by omega] at this
  by_cases h225 : y < 246
  · have := aOkW_225 (y - 225) (by omega)
    rwa [show 225 + (y - 225) = y by omega] at this
  omega
