/-! what is kept, beans: both sides say the same -/
theorem op_kept_v {p1 p2 v u : Int32} {M M1 M2 : pMem} (h : rF M) (h1 : D_14 p1 p2 M v M1) (h2 : D_123 p1 p2 M1 u M2) : v = u := by
  obtain ⟨_, ⟨⟨_, _, d0, d60⟩, ⟨hW, _⟩, hke, _⟩, _⟩ := h
  have e4 : M 19 4 = M 188 3 := hW.2.2.2.2.1.1
  have hke : ∀ k, k < 480 → M 26 k = M 201 k := hke
  obtain ⟨Ma, ea, h2⟩ := h2
  have m1 : M1 = M := by
    rcases h1 with ⟨_, _, e⟩ | ⟨_, h1⟩
    · exact e
    · rcases h1 with ⟨_, _, e⟩ | ⟨_, h1⟩
      · exact e
      · rcases h1 with ⟨_, _, e⟩ | ⟨_, h1⟩
        · exact e
        · rcases h1 with ⟨_, _, e⟩ | ⟨_, h1⟩
          · exact e
          · rcases h1 with ⟨_, _, e⟩ | ⟨_, _, _, e⟩
            · exact e
            · exact e
  rw [m1] at ea
  have a3 : Ma 188 3 = M 188 3 := by rw [ea, aPut_at (by decide)]
  have r : ∀ k, Ma 201 k = M 201 k := fun k => by rw [ea, aPut_cell (by decide)]
  have q1 : ¬ f_42 p1 (kI 1) (Ma 188 3) = 0 ↔ 1 ≤ p1.toInt ∧ p1.toInt ≤ (M 188 3).toInt := by rw [f_42_iff, i_le, i_le, kI1, a3]
  have q2 : ¬ f_42 p2 (kI 0) (kI 7) = 0 ↔ 0 ≤ p2.toInt ∧ p2.toInt ≤ 7 := by rw [f_42_iff, i_le, i_le, kI0, kI_toInt (by decide) (by decide)]
  by_cases c1 : 1 ≤ p1.toInt ∧ p1.toInt ≤ (M 188 3).toInt
  · have h1 := tIf_n (by rw [i_lt, kI1]; omega) h1
    have h1 := tIf_n (by rw [i_lt, e4]; omega) h1
    have h1 := tIf_n (by rw [i_lt, kI_toInt (by decide) (by decide)]; omega) h1
    have h2 := tIf_n (q1.mpr c1) h2
    by_cases c2 : 0 ≤ p2.toInt ∧ p2.toInt ≤ 7
    · have h1 := tIf_n (by rw [i_lt, i_0]; omega) h1
      have h1 := tIf_n (by rw [i_le, kI_toInt (by decide) (by decide)]; omega) h1
      have h2 := tIf_n (q2.mpr c2) h2
      obtain ⟨g1, hv, _⟩ := h1
      obtain ⟨g2, hu, _⟩ := h2
      have s : (p1 - kI 1).toInt = p1.toInt - 1 := by rw [i_sub (by rw [kI1]; omega) (by rw [kI1]; omega), kI1]
      have ia : ix ((p1 - kI 1) * kI 8 + p2) = (8 * (p1.toInt - 1) + p2.toInt).toNat := by
        show ((p1 - kI 1) * kI 8 + p2).toInt.toNat = _
        have m : ((p1 - kI 1) * kI 8).toInt = 8 * (p1.toInt - 1) := by rw [i_mul (by rw [s, kI_toInt (by decide) (by decide)]; omega) (by rw [s, kI_toInt (by decide) (by decide)]; omega), s, kI_toInt (by decide) (by decide)]; omega
        rw [i_add (by rw [m]; omega) (by rw [m]; omega), m]
      have ib : ix (kI 8 * (p1 - kI 1) + p2) = (8 * (p1.toInt - 1) + p2.toInt).toNat := by
        show (kI 8 * (p1 - kI 1) + p2).toInt.toNat = _
        have m : (kI 8 * (p1 - kI 1)).toInt = 8 * (p1.toInt - 1) := by rw [i_mul (by rw [s, kI_toInt (by decide) (by decide)]; omega) (by rw [s, kI_toInt (by decide) (by decide)]; omega), s, kI_toInt (by decide) (by decide)]
        rw [i_add (by rw [m]; omega) (by rw [m]; omega), m]
      rw [hv, hu, ia, ib, r]
      exact hke _ (by omega)
    · have hu := (tIf_p (Classical.byContradiction fun q => c2 (q2.mp q)) h2).1
      rw [hu]
      rcases h1 with ⟨_, hv, _⟩ | ⟨g1, h1⟩
      · exact hv
      · exact (tIf_p (by rw [i_lt, i_0] at g1; rw [i_le, kI_toInt (by decide) (by decide)]; omega) h1).1
  · have hu := (tIf_p (Classical.byContradiction fun q => c1 (q1.mp q)) h2).1
    rw [hu]
    rcases h1 with ⟨_, hv, _⟩ | ⟨g1, h1⟩
    · exact hv
    · rw [i_lt, kI1] at g1
      exact (tIf_p (by rw [i_lt, e4]; omega) h1).1
