/-! what is led in thought: the reference's things come back -/
def hold (M X : pMem) : Prop := ∀ i, i < 1122 → X 222 i = M (asP i).1 (asP i).2
def rS (M N : pMem) : Prop := ∀ i, i < 1122 → N (asP i).1 (asP i).2 = M (asP i).1 (asP i).2
theorem rS_13 {M N : pMem} (h : rS M N) : N 188 1 = M 188 1 ∧ N 188 3 = M 188 3 := ⟨h 0 (by decide), h 1 (by decide)⟩
theorem hold_put {M N : pMem} {u : Unit} (h : D_108 (kI 1) M u N) : hold M N := fun i hi => (D_108_put h (by decide)).1 i hi
theorem hold_fr {M X Y : pMem} {L : List (Nat × Nat)} (h : hold M X) (f : pFr L X Y) (k : pNo L 222 = true) : hold M Y := fun i hi => by
  rw [f 222 i (by decide) rfl (pNo_out k i)]
  exact h i hi
theorem hold_at {M X : pMem} {j : Nat} {x : Int32} (h : hold M X) : hold M (aPut X 188 j x) := fun i hi => by
  rw [aPut_cell (by decide)]
  exact h i hi
theorem hold_0 {M X : pMem} {x : Int32} (h : rS (aPut M 188 0 x) X) : rS M X := fun i hi => by
  rw [h i hi]
  have q := imN_as hi
  by_cases e : (asP i).1 = 188
  · rw [e]
    exact aPut_at (fun e2 => q.2.2 ⟨e, Or.inl e2⟩)
  · exact aPut_cell e
theorem hold_get {M X N : pMem} {u : Unit} (h : hold M X) (hD : D_108 (kI 0) X u N) : rS M N := fun i hi => by
  rw [(D_108_get hD rfl).1 i hi]
  exact h i hi
theorem rS_rfl {M : pMem} : rS M M := fun _ _ => rfl
theorem D_110_s {p1 p2 p3 p4 v : Int32} {M N : pMem} (h : D_110 p1 p2 p3 p4 M v N) : rS M N := by
  obtain ⟨M1, e1, h⟩ := h
  subst e1
  refine hold_0 (x := kI 0) ?_
  rcases h with ⟨_, _, hN⟩ | ⟨_, h⟩
  · rw [hN]; exact rS_rfl
  · rcases h with ⟨_, _, hN⟩ | ⟨_, h⟩
    · rw [hN]; exact rS_rfl
    · rcases h with ⟨_, h⟩ | ⟨_, _, hN⟩
      · obtain ⟨_, M2, h1, M3, e3, _, M4, h2, v3, M5, h3, _, M6, h4, h⟩ := h
        have r : rS (aPut M 188 0 (kI 0)) M6 := hold_get (hold_fr (hold_fr (by rw [e3]; exact hold_at (hold_put h1)) (F_105 h2) (by decide +kernel)) (F_55 h3) (by decide +kernel)) h4
        have eN : N = M6 := by
          rcases h with ⟨_, h⟩ | ⟨_, _, hN⟩
          · rcases h with ⟨_, h⟩ | ⟨_, _, hN⟩
            · rcases h with ⟨_, h⟩ | ⟨_, _, hN⟩
              · rcases h with ⟨_, h⟩ | ⟨_, _, hN⟩
                · rcases h with ⟨_, h⟩ | ⟨_, _, hN⟩
                  · rcases h with ⟨_, _, hN⟩ | ⟨_, _, hN⟩
                    · exact hN
                    · exact hN
                  · exact hN
                · exact hN
              · exact hN
            · exact hN
          · exact hN
        rw [eN]
        exact r
      · rw [hN]; exact rS_rfl
theorem D_111_s {p1 p2 v : Int32} {M N : pMem} (h : D_111 p1 p2 M v N) : rS M N := by
  obtain ⟨M1, e1, h⟩ := h
  subst e1
  refine hold_0 (x := kI 0) ?_
  rcases h with ⟨_, _, hN⟩ | ⟨_, h⟩
  · rw [hN]; exact rS_rfl
  · rcases h with ⟨_, h⟩ | ⟨_, _, hN⟩
    · obtain ⟨_, M2, h1, M3, e3, h⟩ := h
      refine h (fun x M' v N => hold (aPut M 188 0 (kI 0)) M' → rS (aPut M 188 0 (kI 0)) N, fun x y M' v N => hold (aPut M 188 0 (kI 0)) M' → rS (aPut M 188 0 (kI 0)) N) ⟨?_, ?_⟩ (by rw [e3]; exact hold_at (hold_put h1))
      · intro x M' v N hs hh
        rcases hs with ⟨_, hs⟩ | ⟨_, _, M1, h101, hs⟩
        · exact hs hh
        · exact hs (hold_fr hh (F_101 h101) (by decide +kernel))
      · intro x y M' v N hs hh
        rcases hs with ⟨_, _, M1, h108, _, hN⟩ | ⟨_, hs⟩
        · rw [hN]; exact hold_get hh h108
        · rcases hs with ⟨_, _, M1, h108, _, hN⟩ | ⟨_, _, M1, h101, hs⟩
          · rw [hN]; exact hold_get hh h108
          · have hh1 := hold_fr hh (F_101 h101) (by decide +kernel)
            rcases hs with ⟨_, hs⟩ | ⟨_, hs⟩
            · exact hs hh1
            · exact hs hh1
    · rw [hN]; exact rS_rfl
theorem D_112_s {p1 v : Int32} {M N : pMem} (h : D_112 p1 M v N) : rS M N := by
  obtain ⟨M1, e1, h⟩ := h
  subst e1
  refine hold_0 (x := kI 0) ?_
  rcases h with ⟨_, h⟩ | ⟨_, _, hN⟩
  · obtain ⟨_, M2, h1, M3, e3, h⟩ := h
    refine h (fun x M' v N => hold (aPut M 188 0 (kI 0)) M' → rS (aPut M 188 0 (kI 0)) N) ?_ (by rw [e3]; exact hold_at (hold_put h1))
    intro x M' v N hs hh
    rcases hs with ⟨_, v1, M1, h55, hs⟩ | ⟨_, v1, M1, h55, hs⟩
    · have hh1 := hold_fr hh (F_55 h55) (by decide +kernel)
      rcases hs with ⟨_, _, M2, h108, _, hN⟩ | ⟨_, _, M2, h108, _, hN⟩
      · rw [hN]; exact hold_get hh1 h108
      · rw [hN]; exact hold_get hh1 h108
    · have hh1 := hold_fr hh (F_55 h55) (by decide +kernel)
      rcases hs with ⟨_, v2, M2, h55b, hs⟩ | ⟨_, _, M2, h101, hs⟩
      · have hh2 := hold_fr hh1 (F_55 h55b) (by decide +kernel)
        rcases hs with ⟨_, _, M3, h108, _, hN⟩ | ⟨_, _, M3, h108, _, hN⟩
        · rw [hN]; exact hold_get hh2 h108
        · rw [hN]; exact hold_get hh2 h108
      · exact hs (hold_fr hh1 (F_101 h101) (by decide +kernel))
  · rw [hN]; exact rS_rfl
theorem rS_trans {M X N : pMem} (h : rS M X) (g : rS X N) : rS M N := fun i hi => (g i hi).trans (h i hi)
theorem D_114_s {p1 v : Int32} {M N : pMem} (h : D_114 p1 M v N) : rS M N := by
  obtain ⟨_, M1, h1, M2, e2, h⟩ := h
  refine h (fun x M' v N => hold M M' → rS M N) ?_ (by rw [e2]; exact hold_at (hold_put h1))
  intro x M' v N hs hh
  rcases hs with ⟨_, v1, M1, h55, _, M2, h108, _, hN⟩ | ⟨_, _, _, _, _, hs⟩
  · rw [hN]; exact hold_get (hold_fr hh (F_55 h55) (by decide +kernel)) h108
  · rcases hs with ⟨_, _, M1, h101, hs⟩ | ⟨_, _, M1, h101, hs⟩
    · exact hs (hold_fr hh (F_101 h101) (by decide +kernel))
    · exact hs (hold_fr hh (F_101 h101) (by decide +kernel))
/-- rows of orders are no places of theirs -/
theorem rS_row {M X : pMem} {a j : Nat} {x : Int32} (h : rS M X) (ha : a = 224 ∨ a = 225) : rS M (aPut X a j x) := fun i hi => by
  rw [aPut_cell]
  · exact h i hi
  · intro e
    have ck : (List.range 1122).all (fun i => !Nat.ble 224 (asP i).1) = true := by decide +kernel
    have q := List.all_eq_true.mp ck i (List.mem_range.mpr hi)
    rw [show Nat.ble 224 (asP i).1 = true from Nat.ble_eq.mpr (by omega)] at q
    cases q
theorem D_115_s {v : Int32} {M N : pMem} (h : D_115 M v N) : rS M N := fun i hi => by
  have ck : (List.range 1122).all (fun i => Nat.blt (asP i).1 202 && !pScrA (asP i).1) = true := by decide +kernel
  have q := List.all_eq_true.mp ck i (List.mem_range.mpr hi)
  simp only [Bool.and_eq_true, Bool.not_eq_true'] at q
  have q1 := Nat.blt_eq.mp q.1
  refine F_115 h _ _ (by omega) ?_ (by simp only [l_115, pOut_cons, pOut_nil, true_or, and_true]; omega)
  by_cases e : (asP i).1 = 188
  · have n := imN_as hi
    have ck2 : (List.range 1122).all (fun i => !(Nat.beq (asP i).1 188 && pScr 188 (asP i).2)) = true := by decide +kernel
    have q3 := List.all_eq_true.mp ck2 i (List.mem_range.mpr hi)
    rw [e] at q3 ⊢
    simpa using q3
  · exact pScr_of q.2 e _
theorem D_116_s {p1 p2 p3 v : Int32} {M N : pMem} (h : D_116 p1 p2 p3 M v N) : rS M N := by
  obtain ⟨M1, e1, h⟩ := h
  subst e1
  refine hold_0 (x := kI 0) ?_
  rcases h with ⟨_, _, hN⟩ | ⟨_, h⟩
  · rw [hN]; exact rS_rfl
  · rcases h with ⟨_, _, hN⟩ | ⟨_, h⟩
    · rw [hN]; exact rS_rfl
    · rcases h with ⟨_, h⟩ | ⟨_, _, hN⟩
      · refine h (fun x M' v N => rS (aPut M 188 0 (kI 0)) M' → rS (aPut M 188 0 (kI 0)) N, fun x y M' v N => rS (aPut M 188 0 (kI 0)) M' → rS (aPut M 188 0 (kI 0)) N, fun x y M' v N => rS (aPut M 188 0 (kI 0)) M' → rS (aPut M 188 0 (kI 0)) N) ⟨?_, ?_, ?_⟩ rS_rfl
        · intro x M' v N hs hh
          rcases hs with ⟨_, hs⟩ | ⟨_, _, M1, e1, hs⟩
          · exact hs hh
          · exact hs (by rw [e1]; exact rS_row hh (Or.inl rfl))
        · intro x y M' v N hs hh
          rcases hs with ⟨_, hs⟩ | ⟨_, v1, M1, h1, v2, M2, h2, hs⟩
          · rcases hs with ⟨_, _, _, hN⟩ | ⟨_, _, hN⟩
            · rw [hN]; exact hh
            · rw [hN]; exact hh
          · have hh2 := rS_trans (rS_trans hh (D_114_s h1)) (D_114_s h2)
            rcases hs with ⟨_, v3, M3, h3, hs⟩ | ⟨_, hs⟩
            · exact hs (rS_trans hh2 (D_115_s h3))
            · exact hs hh2
        · intro x y M' v N hs hh
          rcases hs with ⟨_, v3, M3, h3, hs⟩ | ⟨_, _, _, M1, e1, hs⟩
          · exact hs (rS_trans hh (D_115_s h3))
          · exact hs (by rw [e1]; exact rS_row hh (Or.inr rfl))
      · rw [hN]; exact rS_rfl
theorem D_118_s {p1 p2 v : Int32} {M N : pMem} (h : D_118 p1 p2 M v N) : rS M N := by
  obtain ⟨_, M1, h1, M2, e2, _, M3, h3, _, M4, h4, _, hN⟩ := h
  rw [hN]
  exact hold_get (hold_fr (by rw [e2]; exact hold_at (hold_put h1)) (F_105 h3) (by decide +kernel)) h4
theorem D_119_s {p1 p2 v : Int32} {M N : pMem} (h : D_119 p1 p2 M v N) : rS M N := by
  obtain ⟨M1, e1, h⟩ := h
  subst e1
  refine hold_0 (x := kI 0) ?_
  rcases h with ⟨_, _, hN⟩ | ⟨_, h⟩
  · rw [hN]; exact rS_rfl
  · rcases h with ⟨_, _, hN⟩ | ⟨_, v1, M2, h1, _, hN⟩
    · rw [hN]; exact rS_rfl
    · rw [hN]; exact D_118_s h1
theorem D_120_s {p1 v : Int32} {M N : pMem} (h : D_120 p1 M v N) : rS M N := by
  obtain ⟨M1, e1, h⟩ := h
  subst e1
  refine hold_0 (x := kI 0) ?_
  rcases h with ⟨_, v1, M2, h1, h⟩ | ⟨_, _, hN⟩
  · refine h (fun x y z M' v N => rS (aPut M 188 0 (kI 0)) M' → rS (aPut M 188 0 (kI 0)) N) ?_ (D_118_s h1)
    intro x y z M' v N hs hh
    rcases hs with ⟨_, _, hN⟩ | ⟨_, v2, M1, h2, hs⟩
    · rw [hN]; exact hh
    · have hh2 := rS_trans hh (D_118_s h2)
      rcases hs with ⟨_, hs⟩ | ⟨_, hs⟩
      · exact hs hh2
      · exact hs hh2
  · rw [hN]; exact rS_rfl
