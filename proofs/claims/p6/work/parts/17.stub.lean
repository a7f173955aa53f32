/-! stands in for 17.ok and 18.okw (wip/p6/later) while the parts behind are written -/
theorem aOkM : ∀ y, y < 242 → aCkM y = true := sorry
theorem aOkW : ∀ y, y + 1 < aIs.length → aCkWP y := sorry
