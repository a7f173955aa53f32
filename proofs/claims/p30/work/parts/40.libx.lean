/-! the String constants at the start -/
def aTm (i : Nat) : Term := Term.string "TwoCamps$Tape" (76 + 2 * i)
def aTv (i : Nat) : Term := Term.field (aTm i) "java/lang/String" "value" "[B"
def aNr : List Cond := flatC (Cond.and given_1 narrow_1)
def aSeg (i : Nat) : List Cond := [Cond.exactly (aTm i) "java/lang/String", Cond.eq (.field (aTm i) "java/lang/String" "coder" "B") (.int 0), Cond.arrayOf (aTv i) .byte, Cond.eq (.length (aTv i)) (.int (Int32.ofNat (aStr.getD i "").length))] ++ (List.range (aStr.getD i "").length).map (fun j => Cond.eq (.elem (aTv i) (.int (Int32.ofNat j))) (.int (aChr (aStr.getD i "") j)))
theorem aNr_seg : aNr.drop 48 = (List.range aStr.length).flatMap aSeg := by decide +kernel
theorem aSeg_in {i : Nat} (hi : i < aStr.length) {w : Cond} (h : w ∈ aSeg i) : w ∈ aNr := List.mem_of_mem_drop (i := 48) (by rw [aNr_seg]; exact List.mem_flatMap.mpr ⟨i, List.mem_range.mpr hi, h⟩)
theorem aNr_s : ∀ i, i < aStr.length → (Cond.exactly (aTm i) "java/lang/String" ∈ aNr ∧ Cond.eq (.field (aTm i) "java/lang/String" "coder" "B") (.int 0) ∈ aNr ∧ Cond.arrayOf (aTv i) .byte ∈ aNr ∧ Cond.eq (.length (aTv i)) (.int (Int32.ofNat (aStr.getD i "").length)) ∈ aNr ∧ ∀ j, j < (aStr.getD i "").length → Cond.eq (.elem (aTv i) (.int (Int32.ofNat j))) (.int (aChr (aStr.getD i "") j)) ∈ aNr) := by
  intro i hi
  refine ⟨aSeg_in hi (List.mem_append_left _ ?_), aSeg_in hi (List.mem_append_left _ ?_), aSeg_in hi (List.mem_append_left _ ?_), aSeg_in hi (List.mem_append_left _ ?_), fun j hj => aSeg_in hi (List.mem_append_right _ (List.mem_map.mpr ⟨j, List.mem_range.mpr hj, rfl⟩))⟩ <;> simp
theorem aNr_z : Cond.eq (.static "java/lang/String" "COMPACT_STRINGS" "Z") (.int 1) ∈ aNr ∧ Cond.isRef (.static "jdk/internal/util/Preconditions" "SIOOBE_FORMATTER" "Ljava/util/function/BiFunction;") ∈ aNr := by decide +kernel
theorem aNr_t : Cond.laysStatic "java/lang/String" "COMPACT_STRINGS" "Z" ∈ lw_tbl ∧ Cond.laysStatic "jdk/internal/util/Preconditions" "SIOOBE_FORMATTER" "Ljava/util/function/BiFunction;" ∈ lw_tbl ∧ Cond.initialized "java/lang/String" ∈ lw_tbl ∧ Cond.initialized "jdk/internal/util/Preconditions" ∈ lw_tbl ∧ Cond.arrayOver (.array .int) ∈ lw_tbl := by decide +kernel
def aSrB (w : Cond) : Bool := match w with
  | .stringRef o j t => decide (o = "TwoCamps$Tape") && (List.range aStr.length).all (fun i => ! decide (aStr.getD i "" = t) || decide (j = 76 + 2 * i))
  | _ => true
theorem aSr_all : lw_tbl.all aSrB = true := by decide +kernel
theorem aSr_at {own : String} {idx i : Nat} (hi : i < aStr.length) (h : Cond.stringRef own idx (aStr.getD i "") ∈ lw_tbl) : own = "TwoCamps$Tape" ∧ idx = 76 + 2 * i := by
  have h1 := List.all_eq_true.mp aSr_all _ h
  unfold aSrB at h1
  simp only [Bool.and_eq_true, decide_eq_true_eq] at h1
  refine ⟨h1.1, ?_⟩
  have h2 := List.all_eq_true.mp h1.2 i (List.mem_range.mpr hi)
  simpa using h2
theorem aLib_of {s : State} {args : Array Value} (hts : ∀ w ∈ lw_tbl, w.before args s = true) (hgv : (Cond.and given_1 narrow_1).before args s = true) : ∃ ad : Nat → Nat, aLib s.heap.size ad s s.heap := by
  have hs : ∀ w ∈ aNr, w.before args s = true := flat_of_before _ hgv
  have hA : ∀ a : Nat, a < s.heap.size → ¬ (fun q : Nat => s.heap.size ≤ q) a := fun a h9 => Nat.not_le.mpr h9
  have h0 : ∀ i : Nat, ∃ a : Nat, i < aStr.length → (aTm i).eval args s none [] s = some (.ref a) ∧ aStr1 a (aStr.getD i "") (fun q => s.heap.size ≤ q) s s.heap := by
    intro i
    by_cases hi : i < aStr.length
    · obtain ⟨n1, n2, n3, n4, n5⟩ := aNr_s i hi
      obtain ⟨a, c, cA, kA, q1, q2, q3, q4, q5, q6, -⟩ := Cond.exactly_spec (args := args) (first := s) (o := none) (s := s) (idx := []) (t := aTm i) (cls := "java/lang/String") (hs _ n1)
      obtain ⟨t, ht, hT⟩ := va_Tof (f := fun j => .int (aChr (aStr.getD i "") j)) (A := fun q => s.heap.size ≤ q) (Nat.lt_trans (aStr_ok i hi).1 (by decide)) (hs _ n3) (va_eqt (hs _ n4)) (fun j hj => va_eqt (hs _ (n5 j hj))) hA
      exact ⟨a, fun _ => ⟨q1, ⟨cA, q3, q5, by rw [q6]; exact q2, hA a (Array.getElem?_eq_some_iff.mp q3).1⟩, vk_OFof q1 (va_eqt (hs _ n2)) hA, t, vk_OFof q1 ht hA, hT⟩⟩
    · exact ⟨0, fun h => absurd h hi⟩
  obtain ⟨f, hf⟩ := Classical.axiomOfChoice h0
  refine ⟨fun k => f (k - 90001), fun i hi => ?_, fun own idx i hi hm => ?_, ⟨va_Zof (hts _ aNr_t.1) (hts _ aNr_t.2.2.1) (va_eqi (hs _ aNr_z.1)) hA, va_Zqof (hts _ aNr_t.2.1) (hts _ aNr_t.2.2.2.1) (hs _ aNr_z.2) hA⟩, hts _ aNr_t.2.2.2.2⟩
  · dsimp only
    rw [Nat.add_sub_cancel_left]
    exact (hf i hi).2
  · obtain ⟨rfl, rfl⟩ := aSr_at hi hm
    dsimp only
    rw [Nat.add_sub_cancel_left]
    exact vk_R.of (A := args) (hts _ hm) (hf i hi).1
