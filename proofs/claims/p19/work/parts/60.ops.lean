/-! the calls, one by one, over what both sides have in common -/
theorem f_46_eq (x : Int32) : f_46 x = f_32 x := rfl
theorem op_boy {p1 p2 v u : Int32} {M M1 M2 : pMem} (h : rA M) (h1 : D_1 p1 p2 M v M1) (h2 : D_47 p1 p2 M1 u M2) : v = u ∧ rA M2 := by
  obtain ⟨ht, hn, hr⟩ := h
  obtain ⟨n1, n2, n3, n4, n5⟩ := hn
  have f1 := F_1 h1
  have f2 := F_47 h2
  have k1 : (kTape l_1 && (kImg l_1 && (kTk l_1 && (kPn l_1 && kPi l_1)))) = true := by decide +kernel
  have k2 : (kTape l_47 && (kImg l_47 && (kTk l_47 && (kPn l_47 && kPi l_47)))) = true := by decide +kernel
  simp only [Bool.and_eq_true] at k1 k2
  have e2 : M1 188 2 = M 188 2 := f1 188 2 (by decide) rfl rfl
  have e3 : M1 188 3 = M 188 3 := f1 188 3 (by decide) rfl rfl
  have e1 : M1 188 1 = M 188 1 := f1 188 1 (by decide) rfl rfl
  have g19 : ∀ j, M2 19 j = M1 19 j := fun j => f2 19 j (by decide) rfl rfl
  have g1 : M2 188 1 = M1 188 1 := f2 188 1 (by decide) rfl rfl
  have g3 : M2 188 3 = M1 188 3 := f2 188 3 (by decide) rfl rfl
  have d4 : M1 19 4 = M 19 4 := f1 19 4 (by decide) rfl rfl
  have d5 : M1 19 5 = M 19 5 := f1 19 5 (by decide) rfl rfl
  -- what the two sides answer, and how many boys there are
  have key : v = u ∧ M2 19 0 = M2 188 2 ∧ 0 ≤ (M2 19 0).toInt ∧ (M2 19 0).toInt ≤ 24 := by
    obtain ⟨Ma, ea, h2⟩ := h2
    have a2 : Ma 188 2 = M 188 2 := by rw [ea, aPut_at (by decide)]; exact e2
    have a3 : Ma 188 3 = M 188 3 := by rw [ea, aPut_at (by decide)]; exact e3
    have a19 : ∀ j, Ma 19 j = M1 19 j := fun j => by rw [ea]; exact aPut_cell (by decide)
    -- refused by both
    have no : v = kI (-1) → M1 = M → (tRet (kI (-1)) Ma) u M2 → v = u ∧ M2 19 0 = M2 188 2 ∧ 0 ≤ (M2 19 0).toInt ∧ (M2 19 0).toInt ≤ 24 := by
      rintro rfl rfl ⟨rfl, rfl⟩
      rw [a19, a2]
      exact ⟨rfl, n1, n4⟩
    rcases h1 with ⟨c1, hv, hM⟩ | ⟨c1, h1⟩
    · rcases h2 with ⟨b1, h2⟩ | ⟨b1, h2⟩
      · exact no hv hM h2
      · exact absurd c1 b1
    · have h2 := tIf_n (show ¬ f_46 p1 = 0 from c1) h2
      rcases h1 with ⟨c2, hv, hM⟩ | ⟨c2, h1⟩
      · rcases h2 with ⟨b2, h2⟩ | ⟨b2, h2⟩
        · exact no hv hM h2
        · have := f_42_iff.mp b2
          rw [i_lt, i_0] at c2
          rw [i_le, i_le, kI_toInt (by decide) (by decide), kI_toInt (by decide) (by decide)] at this
          omega
      · rcases h1 with ⟨c3, hv, hM⟩ | ⟨c3, h1⟩
        · rcases h2 with ⟨b2, h2⟩ | ⟨b2, h2⟩
          · exact no hv hM h2
          · have := f_42_iff.mp b2
            rw [i_lt, kI_toInt (by decide) (by decide)] at c3
            rw [i_le, i_le, kI_toInt (by decide) (by decide), kI_toInt (by decide) (by decide)] at this
            omega
        · have h2 := tIf_n (f_42_iff.mpr (by rw [i_lt, i_0] at c2; rw [i_lt, kI_toInt (by decide) (by decide)] at c3; rw [i_le, i_le, kI_toInt (by decide) (by decide), kI_toInt (by decide) (by decide)]; omega)) h2
          rcases h1 with ⟨c4, hv, hM⟩ | ⟨c4, h1⟩
          · rw [i_le, kI_toInt (by decide) (by decide)] at c4
            rcases h2 with ⟨b4, h2⟩ | ⟨b4, h2⟩
            · exact no hv hM h2
            · rw [a2, ← n1, yk (by decide) (by decide)] at b4
              omega
          · rw [i_le, kI_toInt (by decide) (by decide)] at c4
            have h2 := tIf_n (by rw [a2, ← n1, yk (by decide) (by decide)]; omega) h2
            rcases h1 with ⟨c5, va, Mb, h221, hv, hM⟩ | ⟨c5, hv, hM⟩
            · have h2 := tIf_p (by rw [a3, ← n2]; exact c5) h2
              obtain ⟨_, M3, e3', _, M4, e4, _, M5, e5, _, M6, e6, M7, e7, hu, hN⟩ := h2
              have h221 := tIf_n (by rw [i_lt, i_0]; omega) h221
              have h221 := tIf_p (by rw [i_lt, kI_toInt (by decide) (by decide)]; omega) h221
              obtain ⟨Mc, ec, _, Md, ed, Me, ee, Mf, ef, Mg, eg, hva, hMb⟩ := h221
              have b6 : M6 188 2 = M 188 2 := by rw [e6, aPut_cell (by decide), e5, aPut_cell (by decide), e4, aPut_cell (by decide), e3', aPut_cell (by decide)]; exact a2
              have w0 : M1 19 0 = M 19 0 + kI 1 := by
                rw [hM, hMb, eg, aPut_at (by decide), ef, aPut_at (by decide), ee, aPut_at (by decide), ed, aPut_cell (by decide), ec, aPut_same]
              have r188 : M2 188 2 = M 188 2 + kI 1 := by rw [hN, e7, aPut_same, b6]
              have r19 : M2 19 0 = M 19 0 + kI 1 := by rw [g19]; exact w0
              have t1 : (M 19 0 + kI 1).toInt = (M 19 0).toInt + 1 := i_add1 (by omega)
              refine ⟨?_, by rw [r19, r188, n1], by rw [r19, t1]; omega⟩
              rw [hv, hva, hu, e7, aPut_same, b6, ← n1, i_eq, i_sub (by rw [t1, kI1]; omega) (by rw [t1, kI1]; omega), t1, kI1]
              omega
            · have h2 := tIf_n (by rw [a3, ← n2]; exact c5) h2
              exact no hv hM h2
  refine ⟨key.1, ?_⟩
  have hn2 : rNow M2 := by
    refine ⟨key.2.1, ?_, ?_, key.2.2, ?_⟩
    · rw [g19, d4, g3, e3]
      exact n2
    · rw [g19, d5, g1, e1]
      exact n3
    · rw [g19, d4]
      exact n5
  exact ⟨rTape_fr f2 k2.1 (rTape_fr f1 k1.1 ht), hn2, rImg_fr f2 k2.2.1 (rImg_fr f1 k1.2.1 hr.1), rTk_fr f2 k2.2.2.1 (rTk_fr f1 k1.2.2.1 hr.2.1), rPn_fr f2 k2.2.2.2.1 (rPn_fr f1 k1.2.2.2.1 hr.2.2.1), rPi_fr f2 k2.2.2.2.2 (rPi_fr f1 k1.2.2.2.2 hr.2.2.2)⟩
theorem op_state {p1 v u : Int32} {M M1 M2 : pMem} (h : rA M) (h1 : D_4 p1 M v M1) (h2 : D_50 p1 M1 u M2) : v = u ∧ rA M2 := by
  obtain ⟨ht, hn, hr⟩ := h
  obtain ⟨n1, n2, n3, n4, n5⟩ := hn
  have f1 := F_4 h1
  have f2 := F_50 h2
  obtain ⟨Ma, ea, hv, hM⟩ := h1
  obtain ⟨Mb, eb, Mc, ec, hu, hN⟩ := h2
  have k1 : (kTape l_4 && (kImg l_4 && (kTk l_4 && (kPn l_4 && kPi l_4)))) = true := by decide +kernel
  have k2 : (kTape l_50 && (kImg l_50 && (kTk l_50 && (kPn l_50 && kPi l_50)))) = true := by decide +kernel
  simp only [Bool.and_eq_true] at k1 k2
  refine ⟨?_, rTape_fr f2 k2.1 (rTape_fr f1 k1.1 ht), ?_, rImg_fr f2 k2.2.1 (rImg_fr f1 k1.2.1 hr.1), rTk_fr f2 k2.2.2.1 (rTk_fr f1 k1.2.2.1 hr.2.1), rPn_fr f2 k2.2.2.2.1 (rPn_fr f1 k1.2.2.2.1 hr.2.2.1), rPi_fr f2 k2.2.2.2.2 (rPi_fr f1 k1.2.2.2.2 hr.2.2.2)⟩
  · rw [hv, hu, eb, aPut_at (by decide), hM, ea, aPut_cell (by decide)]
    exact n3
  · have a : ∀ j, j ≠ 5 → M2 19 j = M 19 j := fun j hj => by rw [hN, ec, aPut_cell (by decide), eb, aPut_cell (by decide), hM, ea, aPut_at hj]
    have b : ∀ j, j ≠ 1 → j ≠ 0 → M2 188 j = M 188 j := fun j hj h0 => by rw [hN, ec, aPut_at hj, eb, aPut_at h0, hM, ea, aPut_cell (by decide)]
    refine ⟨by rw [a 0 (by decide), b 2 (by decide) (by decide)]; exact n1, by rw [a 4 (by decide), b 3 (by decide) (by decide)]; exact n2, ?_, by rw [a 0 (by decide)]; exact n4, by rw [a 4 (by decide)]; exact n5⟩
    rw [hN, ec, aPut_cell (by decide), eb, aPut_cell (by decide), hM, ea, aPut_same, aPut_same]
