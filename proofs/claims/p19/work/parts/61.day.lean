/-! days: how many, and what they do to the state -/
theorem pScrW {w : Nat} (h : pK 10 w = true) (j : Nat) : w < 230 ∧ pScr w j = false ∧ w ≠ 188 := by
  obtain ⟨h1, h2⟩ := pKi h
  have c : ∀ a, a < 230 → (pC a).1 = 10 → pScrA a = false ∧ a ≠ 188 := by decide +kernel
  obtain ⟨c1, c2⟩ := c w h1 h2
  refine ⟨h1, ?_, c2⟩
  unfold pScr
  rw [c1, show Nat.beq w 188 = false from Bool.eq_false_iff.mpr fun q => c2 (Nat.eq_of_beq_eq_true q)]
  rfl
def xDraw (x : Int32) : Int32 := kI 1664525 * x + kI 1013904223
theorem D_234_w {w : Nat} {M : pMem} {v : Int32} {N : pMem} (h : D_234 w M v N) : N w 5 = xDraw (M w 5) := by
  obtain ⟨M1, e1, _, _, hN⟩ := h
  rw [hN, e1, aPut_same]
  rfl
theorem D_233_w {w : Nat} (hw : pK 10 w = true) {p1 : Int32} {M : pMem} {v : Int32} {N : pMem} (h : D_233 w p1 M v N) : N w 5 = xDraw (M w 5) := by
  obtain ⟨v1, M1, h231, _, v2, M2, h234, hL⟩ := h
  have f1 := F_231 hw h231
  obtain ⟨w1, w2, _⟩ := pScrW hw 5
  have e : N = M2 := hL (fun x2 x3 x4 M v N => N = M) (fun x2 x3 x4 M v N hs => by
    rcases hs with ⟨_, _, hN⟩ | ⟨_, hs⟩
    · exact hN
    · rcases hs with ⟨_, hs⟩ | ⟨_, _, hs⟩
      · exact hs
      · exact hs)
  rw [e, D_234_w h234, f1 w 5 w1 w2 (by simp only [l_231, pOut_cons, pOut_nil, true_or, and_true])]
theorem D_140_w {w : Nat} (hw : pK 10 w = true) {M : pMem} {v : Unit} {N : pMem} (h : D_140 w M v N) : N w 5 = xDraw (xDraw (M w 5)) := by
  obtain ⟨v1, M1, ha, v2, M2, hb, h⟩ := h
  obtain ⟨w1, w2, _⟩ := pScrW hw 5
  have e2 : M2 w 5 = xDraw (xDraw (M w 5)) := by rw [D_233_w hw hb, D_233_w hw ha]
  rcases h with ⟨_, _, hN⟩ | ⟨_, h⟩
  · rw [hN]
    exact e2
  · rcases h with ⟨_, M3, e3, _, M4, h235, _, hN⟩ | ⟨_, M3, e3, _, M4, h235, _, hN⟩
    · have f := F_235 hw h235
      rw [hN, f w 5 w1 w2 (by simp only [l_235, pOut_cons, pOut_nil, true_or, and_true]; omega), e3, aPut_at (by decide)]
      exact e2
    · have f := F_235 hw h235
      rw [hN, f w 5 w1 w2 (by simp only [l_235, pOut_cons, pOut_nil, true_or, and_true]; omega), e3, aPut_at (by decide)]
      exact e2
/-- boys, days, state of a wood behind a day -/
def wDay (w : Nat) (k : Int32) (M N : pMem) : Prop := N w 0 = M w 0 ∧ N w 4 = M w 4 + kI 1 ∧ N w 5 = if k = kI 1 then xDraw (xDraw (M w 5)) else M w 5
theorem D_138_w {w l : Nat} (hw : pK 10 w = true) (hl : pK 2 l = true) {p3 p4 p5 : Int32} {M : pMem} {v : Int32} {N : pMem} (h : D_138 w l p3 p4 p5 M v N) : wDay w p3 M N := by
  obtain ⟨w1, _, _⟩ := pScrW hw 5
  have ws : ∀ j, pScr w j = false := fun j => (pScrW hw j).2.1
  obtain ⟨_, M1, h139, h⟩ := h
  have e0 : ∀ j, j = 0 ∨ j = 4 ∨ j = 5 → M1 w j = M w j := fun j hj => F_139 hw h139 w j w1 (ws j) (by simp only [l_139, pOut_cons, pOut_nil, true_or, and_true]; omega)
  have tail : ∀ (k : Nat) (M2 : pMem), (tCall (D_141 w l M2) fun _ M3 => tCall (D_143 w l (kI 0) M3) fun _ M4 => tCall (D_143 w l (kI 1) M4) fun _ M5 => tCall (D_144 w l M5) fun _ M6 => tCall (D_145 w l (kI 0) M6) fun _ M7 => tCall (D_145 w l (kI 1) M7) fun _ M8 => tPut (aPut M8 w 4 ((M8 w 4) + (kI 1))) fun M9 => tRet (f_239 (M9 w 11)) M9) v N →
      N w 0 = M2 w 0 ∧ N w 4 = M2 w 4 + kI 1 ∧ N w 5 = M2 w 5 := by
    rintro _ M2 ⟨_, M3, h141, _, M4, h143, _, M5, h143b, _, M6, h144, _, M7, h145, _, M8, h145b, M9, e9, _, hN⟩
    have e : ∀ j, j = 0 ∨ j = 4 ∨ j = 5 → M8 w j = M2 w j := fun j hj => by
      rw [F_145 hw hl h145b w j w1 (ws j) (by simp only [l_145, pOut_cons, pOut_nil, true_or, and_true]; omega), F_145 hw hl h145 w j w1 (ws j) (by simp only [l_145, pOut_cons, pOut_nil, true_or, and_true]; omega),
        F_144 hw hl h144 w j w1 (ws j) (by simp only [l_144, pOut_cons, pOut_nil, true_or, and_true]; omega), F_143 hw hl h143b w j w1 (ws j) (by simp only [l_143, pOut_cons, pOut_nil, true_or, and_true]; omega),
        F_143 hw hl h143 w j w1 (ws j) (by simp only [l_143, pOut_cons, pOut_nil, true_or, and_true]; omega), F_141 hw hl h141 w j w1 (ws j) (by simp only [l_141, pOut_cons, pOut_nil, true_or, and_true]; omega)]
    rw [hN, e9]
    exact ⟨(aPut_at (by decide)).trans (e 0 (by omega)), by rw [aPut_same, e 4 (by omega)], (aPut_at (by decide)).trans (e 5 (by omega))⟩
  rcases h with ⟨g, h⟩ | ⟨g, _, M2, h140, h⟩
  · obtain ⟨t1, t2, t3⟩ := tail 0 M1 h
    unfold wDay
    rw [if_neg g, t1, t2, t3, e0 0 (by omega), e0 4 (by omega), e0 5 (by omega)]
    exact ⟨rfl, rfl, rfl⟩
  · have g := Classical.not_not.mp g
    obtain ⟨t1, t2, t3⟩ := tail 0 M2 h
    have f := F_140 hw h140
    unfold wDay
    rw [if_pos g, t1, t2, t3, D_140_w hw h140, f w 0 w1 (ws 0) (by simp only [l_140, pOut_cons, pOut_nil, true_or, and_true]; omega), f w 4 w1 (ws 4) (by simp only [l_140, pOut_cons, pOut_nil, true_or, and_true]; omega), e0 0 (by omega), e0 4 (by omega), e0 5 (by omega)]
    exact ⟨rfl, rfl, rfl⟩
theorem D_30_w {p1 p2 p3 : Int32} {M : pMem} {v : Int32} {N : pMem} (h : D_30 p1 p2 p3 M v N) : wDay 19 p1 M N := by
  obtain ⟨v1, M1, h217, v2, M2, h138, _, M3, h190, _, M4, h218, _, hN⟩ := h
  have hl := D_217_k h217
  have hw : pK 10 19 = true := by decide +kernel
  obtain ⟨_, _, rfl⟩ := h217
  have w := D_138_w hw hl h138
  have f3 := F_190 hw hl h190
  have f4 := F_218 h218
  subst hN
  have e : ∀ j, j = 0 ∨ j = 4 ∨ j = 5 → N 19 j = M2 19 j := fun j hj => by
    rw [f4 19 j (by decide) rfl (by simp only [l_218, pOut_cons, pOut_nil, true_or, and_true]; omega), f3 19 j (by decide) rfl (by simp only [l_190, pOut_cons, pOut_nil, true_or, and_true]; omega)]
  unfold wDay
  rw [e 0 (by omega), e 4 (by omega), e 5 (by omega)]
  exact w
/-! the reference -/
theorem D_51_w {p1 : Int32} {M : pMem} {v : Int32} {N : pMem} (h : D_51 p1 M v N) : N 188 1 = xDraw (M 188 1) := by
  obtain ⟨M1, e1, _, _, hN⟩ := h
  rw [hN, e1, aPut_same]
  rfl
theorem D_90_w {p1 : Int32} {M : pMem} {v : Int32} {N : pMem} (h : D_90 p1 M v N) : N 188 1 = xDraw (M 188 1) :=
  h (fun x2 x3 M v N => N 188 1 = xDraw (M 188 1)) (fun x2 x3 M v N hs => by
    rcases hs with ⟨_, v1, M1, h54, v2, M2, h51, _, hN⟩ | ⟨_, _, hs⟩
    · rw [hN, D_51_w h51, F_54 h54 188 1 (by decide) rfl rfl]
    · rcases hs with ⟨_, hs⟩ | ⟨_, _, hs⟩
      · exact hs
      · rcases hs with ⟨_, hs⟩ | ⟨_, _, hs⟩
        · exact hs
        · exact hs)
theorem D_91_w {M : pMem} {v : Unit} {N : pMem} (h : D_91 M v N) : N 188 1 = xDraw (xDraw (M 188 1)) := by
  obtain ⟨v1, M1, ha, v2, M2, hb, h⟩ := h
  have e2 : M2 188 1 = xDraw (xDraw (M 188 1)) := by rw [D_90_w hb, D_90_w ha]
  have t : ∀ x, (tPut (aPut M2 188 20 x) fun M3 => tIf ((M3 188 20) = (kI (-1))) (tRet () M3) (tGd (pIn (M3 188 20) 2) <| tGd (pIn (M3 188 20) 2) <| tPut (aPut M3 199 (ix (M3 188 20)) ((M3 199 (ix (M3 188 20))) + (kI 1))) fun M4 => tRet () M4)) v N → N 188 1 = xDraw (xDraw (M 188 1)) := by
    rintro x ⟨M3, e3, h⟩
    rcases h with ⟨_, _, hN⟩ | ⟨_, _, _, M4, e4, _, hN⟩
    · rw [hN, e3, aPut_at (by decide)]
      exact e2
    · rw [hN, e4, aPut_cell (by decide), e3, aPut_at (by decide)]
      exact e2
  rcases h with ⟨_, h⟩ | ⟨_, h⟩
  · rcases h with ⟨_, h⟩ | ⟨_, h⟩
    · exact t _ h
    · exact t _ h
  · exact t _ h
def mDay (k : Int32) (M N : pMem) : Prop := N 188 2 = M 188 2 ∧ N 188 3 = M 188 3 + kI 1 ∧ N 188 1 = if k = kI 1 then xDraw (xDraw (M 188 1)) else M 188 1
theorem D_101_w {p1 p2 p3 : Int32} {M : pMem} {v : Unit} {N : pMem} (h : D_101 p1 p2 p3 M v N) : mDay p1 M N := by
  obtain ⟨M1, e1, M2, e2, M3, e3, M4, e4, M5, e5, h⟩ := h
  have e0 : ∀ j, j = 1 ∨ j = 2 ∨ j = 3 → M5 188 j = M 188 j := fun j hj => by
    rw [e5, aPut_at (by omega), e4, aPut_at (by omega), e3, aPut_at (by omega), e2, aPut_at (by omega), e1, aPut_at (by omega)]
  have tail : ∀ (M6 : pMem), (tCall (D_92 M6) fun _ M7 => tCall (D_93 M7) fun _ M8 => tCall (D_94 M8) fun _ M9 => tCall (D_95 M9) fun _ M10 => tCall (D_99 M10) fun _ M11 => tCall (D_100 M11) fun _ M12 => tPut (aPut M12 188 3 ((M12 188 3) + (kI 1))) fun M13 => tRet () M13) v N →
      N 188 2 = M6 188 2 ∧ N 188 3 = M6 188 3 + kI 1 ∧ N 188 1 = M6 188 1 := by
    rintro M6 ⟨_, M7, h92, _, M8, h93, _, M9, h94, _, M10, h95, _, M11, h99, _, M12, h100, M13, e13, _, hN⟩
    have e : ∀ j, j = 1 ∨ j = 2 ∨ j = 3 → M12 188 j = M6 188 j := fun j hj => by
      have s : pScr 188 j = false := by rcases hj with rfl | rfl | rfl <;> rfl
      rw [F_100 h100 188 j (by decide) s (by simp only [l_100, pOut_cons, pOut_nil, true_or, and_true]; omega), F_99 h99 188 j (by decide) s (by simp only [l_99, pOut_cons, pOut_nil, true_or, and_true]; omega),
        F_95 h95 188 j (by decide) s (by simp only [l_95, pOut_cons, pOut_nil, true_or, and_true]; omega), F_94 h94 188 j (by decide) s (by simp only [l_94, pOut_cons, pOut_nil, true_or, and_true]; omega),
        F_93 h93 188 j (by decide) s (by simp only [l_93, pOut_cons, pOut_nil, true_or, and_true]; omega), F_92 h92 188 j (by decide) s (by simp only [l_92, pOut_cons, pOut_nil, true_or, and_true]; omega)]
    rw [hN, e13]
    exact ⟨(aPut_at (by decide)).trans (e 2 (by omega)), by rw [aPut_same, e 3 (by omega)], (aPut_at (by decide)).trans (e 1 (by omega))⟩
  have both : ∀ (M6 : pMem), (∀ j, j = 1 ∨ j = 2 ∨ j = 3 → M6 188 j = M 188 j) → (tIf (¬ p1 = (kI 1)) (tCall (D_92 M6) fun _ M7 => tCall (D_93 M7) fun _ M8 => tCall (D_94 M8) fun _ M9 => tCall (D_95 M9) fun _ M10 => tCall (D_99 M10) fun _ M11 => tCall (D_100 M11) fun _ M12 => tPut (aPut M12 188 3 ((M12 188 3) + (kI 1))) fun M13 => tRet () M13)
      (tCall (D_91 M6) fun _ M6 => tCall (D_92 M6) fun _ M7 => tCall (D_93 M7) fun _ M8 => tCall (D_94 M8) fun _ M9 => tCall (D_95 M9) fun _ M10 => tCall (D_99 M10) fun _ M11 => tCall (D_100 M11) fun _ M12 => tPut (aPut M12 188 3 ((M12 188 3) + (kI 1))) fun M13 => tRet () M13)) v N → mDay p1 M N := by
    intro M6 e6 h
    unfold mDay
    rcases h with ⟨g, h⟩ | ⟨g, _, M7, h91, h⟩
    · obtain ⟨t1, t2, t3⟩ := tail M6 h
      rw [if_neg g, t1, t2, t3, e6 2 (by omega), e6 3 (by omega), e6 1 (by omega)]
      exact ⟨rfl, rfl, rfl⟩
    · have g := Classical.not_not.mp g
      obtain ⟨t1, t2, t3⟩ := tail M7 h
      have f := F_91 h91
      rw [if_pos g, t1, t2, t3, D_91_w h91, f 188 2 (by decide) rfl rfl, f 188 3 (by decide) rfl rfl, e6 2 (by omega), e6 3 (by omega), e6 1 (by omega)]
      exact ⟨rfl, rfl, rfl⟩
  rcases h with ⟨_, h⟩ | ⟨_, _, _, M6, e6, h⟩
  · exact both M5 e0 h
  · exact both M6 (fun j hj => by rw [e6, aPut_cell (by decide)]; exact e0 j hj) h
