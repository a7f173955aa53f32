/-! what a day counts: fights, their heat -/
theorem fg_1 {o : List Cd} {L : List Ln} {l : Nat} {V : pMem} : ∃ (b : Bool) (y : Int32), (b = false → y = 0) ∧ (∀ q, fgV o L l V 197 q = V 197 q + (if q = l ∧ b = true then kI 1 else 0)) ∧ (∀ q, fgV o L l V 198 q = V 198 q + (if q = l then y else 0)) ∧ fgV o L l V 188 55 = V 188 55 + y ∧ fgV o L l V 188 54 = (if b = true then V 188 54 ||| kI 1 <<< (kI (l : Nat) &&& 31) else V 188 54) := by
  unfold fgV
  by_cases c : 0 < tl (FlV V (kI (l : Nat))) o (kI 15) L
  · refine ⟨true, h999 (tl (FlV V (kI (l : Nat))) o (kI 15) L), fun e => (by cases e), fun q => ?_, fun q => ?_, ?_, ?_⟩
    · rw [if_pos c, aPut_cell (by decide), aPut_cell (by decide), aPut_row, aPut_cell (by decide)]
      by_cases e : q = l
      · rw [if_pos e, if_pos ⟨e, rfl⟩, e]
      · rw [if_neg e, if_neg (fun r => e r.1)]
        exact (Int32.add_zero _).symm
    · rw [if_pos c, aPut_cell (by decide), aPut_row, aPut_cell (by decide), aPut_cell (by decide)]
      by_cases e : q = l
      · rw [if_pos e, if_pos e, e]
      · rw [if_neg e, if_neg e]
        exact (Int32.add_zero _).symm
    · rw [if_pos c, aPut_same]
    · rw [if_pos c, if_pos rfl, aPut_at (by decide), aPut_cell (by decide), aPut_cell (by decide), aPut_same]
  · refine ⟨false, 0, fun _ => rfl, fun q => ?_, fun q => ?_, ?_, ?_⟩
    · rw [if_neg c, if_neg (fun r => (by cases r.2))]
      exact (Int32.add_zero _).symm
    · rw [if_neg c]
      by_cases e : q = l
      · rw [if_pos e]; exact (Int32.add_zero _).symm
      · rw [if_neg e]; exact (Int32.add_zero _).symm
    · rw [if_neg c]; exact (Int32.add_zero _).symm
    · rw [if_neg c]; rfl
