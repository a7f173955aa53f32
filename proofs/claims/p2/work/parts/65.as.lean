/-! what is led in thought: the reference's things come back -/
def hold (M X : pMem) : Prop := ∀ i, i < 1122 → X 222 i = M (asP i).1 (asP i).2
def rS (M N : pMem) : Prop := ∀ i, i < 1122 → N (asP i).1 (asP i).2 = M (asP i).1 (asP i).2
theorem rS_13 {M N : pMem} (h : rS M N) : N 188 1 = M 188 1 ∧ N 188 3 = M 188 3 := ⟨h 0 (by decide), h 1 (by decide)⟩
theorem hold_put {M N : pMem} {u : Unit} (h : D_108 (kI 1) M u N) : hold M N := fun i hi => (D_108_put h (by decide)).1 i hi
theorem hold_fr {M X Y : pMem} {L : List (Nat × Nat)} (h : hold M X) (f : pFr L X Y) (k : pNo L 222 = true) : hold M Y := fun i hi => by
  rw [f 222 i (by decide) rfl (pNo_out k i)]
  exact h i hi
theorem hold_at {M X : pMem} {j : Nat} {x : Int32} (h : hold M X) : hold M (aPut X 188 j x) := fun i hi => by
  rw [aPut_cell (by decide)]
  exact h i hi
theorem hold_0 {M X : pMem} {x : Int32} (h : rS (aPut M 188 0 x) X) : rS M X := fun i hi => by
  rw [h i hi]
  have q := imN_as hi
  by_cases e : (asP i).1 = 188
  · rw [e]
    exact aPut_at (fun e2 => q.2.2 ⟨e, Or.inl e2⟩)
  · exact aPut_cell e
theorem hold_get {M X N : pMem} {u : Unit} (h : hold M X) (hD : D_108 (kI 0) X u N) : rS M N := fun i hi => by
  rw [(D_108_get hD rfl).1 i hi]
  exact h i hi
theorem rS_rfl {M : pMem} : rS M M := fun _ _ => rfl
theorem D_110_s {p1 p2 p3 p4 v : Int32} {M N : pMem} (h : D_110 p1 p2 p3 p4 M v N) : rS M N  := by sorry



























theorem D_111_s {p1 p2 v : Int32} {M N : pMem} (h : D_111 p1 p2 M v N) : rS M N  := by sorry






















theorem D_112_s {p1 v : Int32} {M N : pMem} (h : D_112 p1 M v N) : rS M N  := by sorry




















theorem rS_trans {M X N : pMem} (h : rS M X) (g : rS X N) : rS M N := fun i hi => (g i hi).trans (h i hi)
theorem D_114_s {p1 v : Int32} {M N : pMem} (h : D_114 p1 M v N) : rS M N := by
  obtain ⟨_, M1, h1, M2, e2, h⟩ := h
  refine h (fun x M' v N => hold M M' → rS M N) ?_ (by rw [e2]; exact hold_at (hold_put h1))
  intro x M' v N hs hh
  rcases hs with ⟨_, v1, M1, h55, _, M2, h108, _, hN⟩ | ⟨_, _, _, _, _, hs⟩
  · rw [hN]; exact hold_get (hold_fr hh (F_55 h55) (by decide +kernel)) h108
  · rcases hs with ⟨_, _, M1, h101, hs⟩ | ⟨_, _, M1, h101, hs⟩
    · exact hs (hold_fr hh (F_101 h101) (by decide +kernel))
    · exact hs (hold_fr hh (F_101 h101) (by decide +kernel))
/-- rows of orders are no places of theirs -/
theorem rS_row {M X : pMem} {a j : Nat} {x : Int32} (h : rS M X) (ha : a = 224 ∨ a = 225) : rS M (aPut X a j x) := fun i hi => by
  rw [aPut_cell]
  · exact h i hi
  · intro e
    have ck : (List.range 1122).all (fun i => !Nat.ble 224 (asP i).1) = true := by decide +kernel
    have q := List.all_eq_true.mp ck i (List.mem_range.mpr hi)
    rw [show Nat.ble 224 (asP i).1 = true from Nat.ble_eq.mpr (by omega)] at q
    cases q
theorem D_115_s {v : Int32} {M N : pMem} (h : D_115 M v N) : rS M N := fun i hi => by
  have ck : (List.range 1122).all (fun i => Nat.blt (asP i).1 202 && !pScrA (asP i).1) = true := by decide +kernel
  have q := List.all_eq_true.mp ck i (List.mem_range.mpr hi)
  simp only [Bool.and_eq_true, Bool.not_eq_true'] at q
  have q1 := Nat.blt_eq.mp q.1
  refine F_115 h _ _ (by omega) ?_ (by simp only [l_115, pOut_cons, pOut_nil, true_or, and_true]; omega)
  by_cases e : (asP i).1 = 188
  · have n := imN_as hi
    have ck2 : (List.range 1122).all (fun i => !(Nat.beq (asP i).1 188 && pScr 188 (asP i).2)) = true := by decide +kernel
    have q3 := List.all_eq_true.mp ck2 i (List.mem_range.mpr hi)
    rw [e] at q3 ⊢
    simpa using q3
  · exact pScr_of q.2 e _
theorem D_116_s {p1 p2 p3 v : Int32} {M N : pMem} (h : D_116 p1 p2 p3 M v N) : rS M N  := by sorry



























theorem D_118_s {p1 p2 v : Int32} {M N : pMem} (h : D_118 p1 p2 M v N) : rS M N := by
  obtain ⟨_, M1, h1, M2, e2, _, M3, h3, _, M4, h4, _, hN⟩ := h
  rw [hN]
  exact hold_get (hold_fr (by rw [e2]; exact hold_at (hold_put h1)) (F_105 h3) (by decide +kernel)) h4
theorem D_119_s {p1 p2 v : Int32} {M N : pMem} (h : D_119 p1 p2 M v N) : rS M N  := by sorry








theorem D_120_s {p1 v : Int32} {M N : pMem} (h : D_120 p1 M v N) : rS M N  := by sorry













