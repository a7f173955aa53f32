/-! a text that isn't one leaves the class's laws as they are -/
def frU (M N : pMem) : Prop := ∀ a j, a < 230 → pScr a j = false → 18 ≤ a → N a j = M a j
theorem frU_t {M N K : pMem} (h : frU M N) (g : frU N K) : frU M K := fun a j h1 h2 h3 => (g a j h1 h2 h3).trans (h a j h1 h2 h3)
def q174f (B : Nat → Int32) (n c : Nat) (x2 : Int32) (M : pMem) (v : Int32) (N : pMem) : Prop := ∀ (m k : Nat) (o : List Cd) (L : List Ln), x2.toInt = L.length → m + L.length = 16 → cL M B n c k o → k ≤ 500 → clL M o L → v = kI (-1) → frU M N
theorem S_174_1f {B : Nat → Int32} {n c l : Nat} (hl : 30 ≤ l) {P1 : Int32 → pMem → pT Int32} (hP : ∀ x2 M v N, P1 x2 M v N → q174f B n c x2 M v N) {x2 : Int32} {M : pMem} {v : Int32} {N : pMem} (hs : S_174_1 l P1 x2 M v N) : q174f B n c x2 M v N := by
  intro m k o L hx hm h hk hL hv1
  obtain ⟨ht, _, _⟩ := zR_t h.1
  have hs := tIf_n (show ¬ kI 16 < x2 by rw [i_lt, hx, kI_toInt (by decide) (by decide)]; omega) hs
  rw [ht] at hs
  rcases hs with ⟨g, u, M1, h153, hv, hN⟩ | ⟨g, v1, M1, h175, hs⟩
  · obtain ⟨a1, a2, a3, a4⟩ := D_153_w (by omega) h153
    have e : v.toInt = L.length := by rw [hv, a4 7 (by omega)]; exact hL.1
    rw [hv1, kI_toInt (by decide) (by decide)] at e
    omega
  · have f : frU M M1 := fun a j h1 h2 h3 => F_175 h175 a j h1 h2 (by simp only [l_175, pOut_cons, pOut_nil, true_or, and_true]; omega)
    obtain ⟨w1, w2⟩ := D_175_w h hk hL hx g h175
    rcases hs with ⟨g2, hs⟩ | ⟨g2, _, hN⟩
    · by_cases wd : 14 ≤ (yT B n k).toInt ∧ (yT B n k).toInt ≤ 19
      · obtain ⟨w3, w4⟩ := w2 wd
        cases m with
        | zero => exact absurd (w3 (by omega)).1 g2
        | succ m =>
          obtain ⟨q, l1, l2, l3⟩ := w4 (by omega)
          by_cases q0 : q.1 = 0
          · obtain ⟨z1, z2, z3, z4, z5, z6, z7, z8, z9⟩ := l2 q0
            exact frU_t f (hP _ _ _ _ hs m q.2.1 q.2.2.1 (L ++ q.2.2.2) (by rw [i_add1 (by omega), hx, List.length_append, z9]; omega) (by rw [List.length_append, z9]; omega) ⟨z4, z5, by have := h.2.2; omega⟩ z7 z8 hv1)
          · exact absurd (l3 q0).1 g2
      · exact absurd (w1 wd).1 g2
    · rw [hN]; exact f
theorem D_174_f {M : pMem} {B : Nat → Int32} {n c l : Nat} (hl : 30 ≤ l) (h : rdR M B n c 0) {v : Int32} {N : pMem} (hD : D_174 l M v N) (hv : v = kI (-1)) : frU M N := by
  obtain ⟨_, M1, ⟨Ma, ea, Mb, eb, _, hM⟩, hD⟩ := hD
  have q : q174f B n c (kI 0) M1 v N := hD (q174f B n c) (fun _ _ _ _ hs => S_174_1f hl (fun _ _ _ _ h => h) hs)
  have f : pFr [(7, 0), (7, 1)] M M1 := fun a j _ _ q => by
    simp only [pOut_cons, pOut_nil, true_or, and_true] at q
    rw [hM, eb, ea]
    by_cases e7 : a = 7
    · subst e7
      rw [aPut_at (by omega), aPut_at (by omega)]
    · rw [aPut_cell e7, aPut_cell e7]
  have z0 : M1 7 0 = kI 0 := by rw [hM, eb, aPut_at (by decide), ea, aPut_same]
  have z1 : M1 7 1 = kI 0 := by rw [hM, eb, aPut_same]
  have s6 : M1 6 3 = M 6 3 := f 6 3 (by decide) rfl (by simp only [pOut_cons, pOut_nil, true_or, and_true]; omega)
  exact frU_t (fun a j h1 h2 h3 => f a j h1 h2 (by simp only [pOut_cons, pOut_nil, true_or, and_true]; omega)) (q 16 0 [] [] rfl rfl ⟨zR_fr h f (fun j => rfl) (by rw [s6]; exact h.2.2.2.2.1), ⟨by rw [z1]; rfl, by decide, fun i x hi => by cases hi⟩, by decide⟩ (by decide) ⟨by rw [z0]; rfl, by decide, fun i x hi => by cases hi⟩ hv)
/-- the class, whatever the text: places of Told but the plan's, the law's -/
theorem D_7_f {M : pMem} {n : Nat} {p1 p2 : Int32} (hn : n ≤ 500) (hM : (M 1 0).toInt = n) {v : Int32} {N : pMem} (h : D_7 p1 p2 M v N) :
    ∀ a j, a < 230 → pScr a j = false → 18 ≤ a → (p1 = kI 0 → ix p2 < 4 → v = kI (-1) ∨ ¬ (30 + 11 * ix p2 ≤ a ∧ a ≤ 35 + 11 * ix p2)) → (p1 = kI 1 → ix p2 < 4 → ¬ (37 + 11 * ix p2 ≤ a ∧ a ≤ 40 + 11 * ix p2)) → N a j = M a j := by
  obtain ⟨_, M1, h170, h⟩ := h
  obtain ⟨c, z1, z2, z3⟩ := D_170_w hn hM h170
  have f1 : frU M M1 := fun a j q1 q2 q3 => F_170 h170 a j q1 q2 (by simp only [l_170, pOut_cons, pOut_nil, true_or, and_true]; omega)
  have no : ∀ {M2 : pMem}, M2 = aPut M1 1 0 (kI 0) → N = M2 → frU M N := by
    intro M2 e hN a j q1 q2 q3
    rw [hN, e, aPut_cell (by omega)]
    exact f1 a j q1 q2 q3
  have plan : p1 = kI 1 → (tGd (pIn p2 4) <| tCall (D_181 (37 + 11 * ix p2) M1) fun v2 M2 => tPut (aPut M2 1 0 (kI 0)) fun M3 => tRet v2 M3) v N → ∀ a j, a < 230 → pScr a j = false → 18 ≤ a → (p1 = kI 1 → ix p2 < 4 → ¬ (37 + 11 * ix p2 ≤ a ∧ a ≤ 40 + 11 * ix p2)) → N a j = M a j := by
    rintro e ⟨g, v2, M2, h181, M3, e3, _, hN⟩ a j q1 q2 q3 q4
    have g' := (ix_in g).2
    have q4 := q4 e g'
    have w : pK 3 (37 + 11 * ix p2) = true := pArK (show pAr 25 4 37 11 3 = true by decide +kernel) (by decide) g
    rw [hN, e3, aPut_cell (by omega), F_181 w h181 a j q1 q2 (by simp only [l_181, pOut_cons, pOut_nil, true_or, and_true]; omega)]
    exact f1 a j q1 q2 q3
  rcases h with ⟨g, h⟩ | ⟨g, h⟩
  · rcases h with ⟨g2, M2, e2, _, hN⟩ | ⟨g2, h⟩
    · exact fun a j q1 q2 q3 _ _ => no e2 hN a j q1 q2 q3
    · rcases h with ⟨g3, M2, e2, _, hN⟩ | ⟨g3, h⟩
      · exact fun a j q1 q2 q3 _ _ => no e2 hN a j q1 q2 q3
      · exact fun a j q1 q2 q3 _ q5 => plan (Classical.not_not.mp g2) h a j q1 q2 q3 q5
  · have p0 : p1 = kI 0 := Classical.not_not.mp g
    rcases h with ⟨g3, h⟩ | ⟨g3, g4, v2, M2, h174, M3, e3, hv, hN⟩
    · obtain ⟨M2, e2, _, hN⟩ := tIf_p (show ¬ p1 = kI 1 by rw [p0]; decide) h
      exact fun a j q1 q2 q3 _ _ => no e2 hN a j q1 q2 q3
    · have g4' := (ix_in g4).2
      intro a j q1 q2 q3 q4 _
      rw [hN, e3, aPut_cell (by omega)]
      rcases q4 p0 g4' with q | q
      · rw [D_174_f (by omega) z1 h174 (by rw [← hv]; exact q) a j q1 q2 q3]
        exact f1 a j q1 q2 q3
      · have w : pK 2 (30 + 11 * ix p2) = true := pArK (show pAr 24 4 30 11 2 = true by decide +kernel) (by decide) g4
        rw [F_174 w h174 a j q1 q2 (by simp only [l_174, pOut_cons, pOut_nil, true_or, and_true]; omega)]
        exact f1 a j q1 q2 q3
