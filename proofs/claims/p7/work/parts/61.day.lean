/-! days: how many, and what they do to the state -/
theorem pOut_nil {a j : Nat} : (pOut [] a j = true) = True := eq_true rfl
theorem pOut_cons {b f a j : Nat} {L : List (Nat × Nat)} : (pOut ((b, f) :: L) a j = true) = (¬ (b = a ∧ (f = 999 ∨ f = j)) ∧ pOut L a j = true) := by sorry










theorem pScrW {w : Nat} (h : pK 10 w = true) (j : Nat) : w < 230 ∧ pScr w j = false ∧ w ≠ 188 := by
  obtain ⟨h1, h2⟩ := pKi h
  have c : ∀ a, a < 230 → (pC a).1 = 10 → pScrA a = false ∧ a ≠ 188 := by decide +kernel
  obtain ⟨c1, c2⟩ := c w h1 h2
  refine ⟨h1, ?_, c2⟩
  unfold pScr
  rw [c1, show Nat.beq w 188 = false from Bool.eq_false_iff.mpr fun q => c2 (Nat.eq_of_beq_eq_true q)]
  rfl
def xDraw (x : Int32) : Int32 := kI 1664525 * x + kI 1013904223
theorem D_234_w {w : Nat} {M : pMem} {v : Int32} {N : pMem} (h : D_234 w M v N) : N w 5 = xDraw (M w 5) := by
  obtain ⟨M1, e1, _, _, hN⟩ := h
  rw [hN, e1, aPut_same]
  rfl
theorem D_233_w {w : Nat} (hw : pK 10 w = true) {p1 : Int32} {M : pMem} {v : Int32} {N : pMem} (h : D_233 w p1 M v N) : N w 5 = xDraw (M w 5) := by
  obtain ⟨v1, M1, h231, _, v2, M2, h234, hL⟩ := h
  have f1 := F_231 hw h231
  obtain ⟨w1, w2, _⟩ := pScrW hw 5
  have e : N = M2 := hL (fun x2 x3 x4 M v N => N = M) (fun x2 x3 x4 M v N hs => by
    rcases hs with ⟨_, _, hN⟩ | ⟨_, hs⟩
    · exact hN
    · rcases hs with ⟨_, hs⟩ | ⟨_, _, hs⟩
      · exact hs
      · exact hs)
  rw [e, D_234_w h234, f1 w 5 w1 w2 (by simp only [l_231, pOut_cons, pOut_nil])]
theorem D_140_w {w : Nat} (hw : pK 10 w = true) {M : pMem} {v : Unit} {N : pMem} (h : D_140 w M v N) : N w 5 = xDraw (xDraw (M w 5)) := by sorry














def wDay (w : Nat) (k : Int32) (M N : pMem) : Prop := N w 0 = M w 0 ∧ N w 4 = M w 4 + kI 1 ∧ N w 5 = if k = kI 1 then xDraw (xDraw (M w 5)) else M w 5
theorem D_138_w {w l : Nat} (hw : pK 10 w = true) (hl : pK 2 l = true) {p3 p4 p5 : Int32} {M : pMem} {v : Int32} {N : pMem} (h : D_138 w l p3 p4 p5 M v N) : wDay w p3 M N := by sorry
























theorem D_30_w {p1 p2 p3 : Int32} {M : pMem} {v : Int32} {N : pMem} (h : D_30 p1 p2 p3 M v N) : wDay 19 p1 M N := by sorry













/-! the reference -/
theorem D_51_w {p1 : Int32} {M : pMem} {v : Int32} {N : pMem} (h : D_51 p1 M v N) : N 188 1 = xDraw (M 188 1) := by
  obtain ⟨M1, e1, _, _, hN⟩ := h
  rw [hN, e1, aPut_same]
  rfl
theorem D_90_w {p1 : Int32} {M : pMem} {v : Int32} {N : pMem} (h : D_90 p1 M v N) : N 188 1 = xDraw (M 188 1) :=
  h (fun x2 x3 M v N => N 188 1 = xDraw (M 188 1)) (fun x2 x3 M v N hs => by
    rcases hs with ⟨_, v1, M1, h54, v2, M2, h51, _, hN⟩ | ⟨_, _, hs⟩
    · rw [hN, D_51_w h51, F_54 h54 188 1 (by decide) rfl rfl]
    · rcases hs with ⟨_, hs⟩ | ⟨_, _, hs⟩
      · exact hs
      · rcases hs with ⟨_, hs⟩ | ⟨_, _, hs⟩
        · exact hs
        · exact hs)
theorem D_91_w {M : pMem} {v : Unit} {N : pMem} (h : D_91 M v N) : N 188 1 = xDraw (xDraw (M 188 1)) := by
  obtain ⟨v1, M1, ha, v2, M2, hb, h⟩ := h
  have e2 : M2 188 1 = xDraw (xDraw (M 188 1)) := by rw [D_90_w hb, D_90_w ha]
  have t : ∀ x, (tPut (aPut M2 188 20 x) fun M3 => tIf ((M3 188 20) = (kI (-1))) (tRet () M3) (tGd (pIn (M3 188 20) 2) <| tGd (pIn (M3 188 20) 2) <| tPut (aPut M3 199 (ix (M3 188 20)) ((M3 199 (ix (M3 188 20))) + (kI 1))) fun M4 => tRet () M4)) v N → N 188 1 = xDraw (xDraw (M 188 1)) := by
    rintro x ⟨M3, e3, h⟩
    rcases h with ⟨_, _, hN⟩ | ⟨_, _, _, M4, e4, _, hN⟩
    · rw [hN, e3, aPut_at (by decide)]
      exact e2
    · rw [hN, e4, aPut_cell (by decide), e3, aPut_at (by decide)]
      exact e2
  rcases h with ⟨_, h⟩ | ⟨_, h⟩
  · rcases h with ⟨_, h⟩ | ⟨_, h⟩
    · exact t _ h
    · exact t _ h
  · exact t _ h
def mDay (k : Int32) (M N : pMem) : Prop := N 188 2 = M 188 2 ∧ N 188 3 = M 188 3 + kI 1 ∧ N 188 1 = if k = kI 1 then xDraw (xDraw (M 188 1)) else M 188 1
theorem D_101_w {p1 p2 p3 : Int32} {M : pMem} {v : Unit} {N : pMem} (h : D_101 p1 p2 p3 M v N) : mDay p1 M N := by sorry





























