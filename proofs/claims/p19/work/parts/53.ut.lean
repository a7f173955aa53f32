/-! numbers, places: what the trees are read with -/
theorem kI_toInt {n : Int} (h1 : -2147483648 ≤ n) (h2 : n ≤ 2147483647) : (kI n).toInt = n := Int32.toInt_ofInt_of_le h1 (by omega)
theorem kI_inj {x : Int32} {n : Int} (h : x.toInt = n) : x = kI n := by
  rw [← h]
  exact (Int32.ofInt_toInt x).symm
theorem i_rg (x : Int32) : -2147483648 ≤ x.toInt ∧ x.toInt ≤ 2147483647 := ⟨Int32.le_toInt x, by have := Int32.toInt_lt x; omega⟩
theorem i_eq {x y : Int32} : x = y ↔ x.toInt = y.toInt := Int32.toInt_inj.symm
theorem i_lt {x y : Int32} : x < y ↔ x.toInt < y.toInt := Int32.lt_iff_toInt_lt
theorem i_le {x y : Int32} : x ≤ y ↔ x.toInt ≤ y.toInt := Int32.le_iff_toInt_le
theorem i_add {x y : Int32} (h1 : -2147483648 ≤ x.toInt + y.toInt) (h2 : x.toInt + y.toInt ≤ 2147483647) : (x + y).toInt = x.toInt + y.toInt := by
  have e : x + y = kI (x.toInt + y.toInt) := by
    show x + y = Int32.ofInt (x.toInt + y.toInt)
    rw [Int32.ofInt_add, Int32.ofInt_toInt, Int32.ofInt_toInt]
  rw [e, kI_toInt h1 h2]
theorem i_sub {x y : Int32} (h1 : -2147483648 ≤ x.toInt - y.toInt) (h2 : x.toInt - y.toInt ≤ 2147483647) : (x - y).toInt = x.toInt - y.toInt := by
  have e : x - y = kI (x.toInt - y.toInt) := by
    show x - y = Int32.ofInt (x.toInt - y.toInt)
    rw [Int32.ofInt_sub, Int32.ofInt_toInt, Int32.ofInt_toInt]
  rw [e, kI_toInt h1 h2]
theorem i_mul {x y : Int32} (h1 : -2147483648 ≤ x.toInt * y.toInt) (h2 : x.toInt * y.toInt ≤ 2147483647) : (x * y).toInt = x.toInt * y.toInt := by
  have e : x * y = kI (x.toInt * y.toInt) := by
    show x * y = Int32.ofInt (x.toInt * y.toInt)
    rw [Int32.ofInt_mul, Int32.ofInt_toInt, Int32.ofInt_toInt]
  rw [e, kI_toInt h1 h2]
theorem ix_of {x : Int32} {n : Nat} (h : x.toInt = n) : ix x = n := by
  show x.toInt.toNat = n
  omega
theorem ix_in {x : Int32} {n : Nat} (h : pIn x n) : x.toInt = (ix x : Int) ∧ ix x < n := by
  obtain ⟨h1, h2⟩ := h
  have : ix x = x.toInt.toNat := rfl
  omega
theorem kI0 : (kI 0).toInt = 0 := rfl
theorem kI1 : (kI 1).toInt = 1 := rfl
theorem kIz : kI 0 = 0 := rfl
theorem i_0 : (0 : Int32).toInt = 0 := rfl
theorem i_add1 {x : Int32} (h : x.toInt ≤ 2147483646) : (x + kI 1).toInt = x.toInt + 1 := by
  have := i_rg x
  rw [i_add (by rw [kI1]; omega) (by rw [kI1]; omega), kI1]
/-! memories -/
theorem aPut_same {M : pMem} {a j : Nat} {x : Int32} : aPut M a j x a j = x := by
  unfold aPut
  rw [if_pos rfl, if_pos rfl]
theorem aPut_cell {M : pMem} {a b j i : Nat} {x : Int32} (h : b ≠ a) : aPut M a j x b i = M b i := by
  unfold aPut
  rw [if_neg h]
theorem aPut_at {M : pMem} {a b j i : Nat} {x : Int32} (h : i ≠ j) : aPut M a j x b i = M b i := by
  unfold aPut
  by_cases e : b = a
  · rw [if_pos e, if_neg h]
  · rw [if_neg e]
theorem aPut_row {M : pMem} {a j i : Nat} {x : Int32} : aPut M a j x a i = if i = j then x else M a i := by
  unfold aPut
  rw [if_pos rfl]
theorem aRow_same' {M : pMem} {a : Nat} {g : Nat → Int32} : aRow M a g a = g := by
  unfold aRow
  rw [if_pos rfl]
theorem aRow_cell {M : pMem} {a b : Nat} {g : Nat → Int32} (h : b ≠ a) : aRow M a g b = M b := by
  unfold aRow
  rw [if_neg h]
/-- plain functions of yes and no -/
theorem f_42_iff {v a b : Int32} : ¬ f_42 v a b = 0 ↔ a ≤ v ∧ v ≤ b := by
  unfold f_42
  simp only [i_le, i_lt]
  by_cases h1 : v.toInt < a.toInt
  · simp only [if_pos h1]
    exact ⟨fun h => absurd rfl h, fun h => by omega⟩
  · by_cases h2 : b.toInt < v.toInt
    · simp only [if_neg h1, if_pos h2]
      exact ⟨fun h => absurd rfl h, fun h => by omega⟩
    · simp only [if_neg h1, if_neg h2]
      exact ⟨fun _ => by omega, fun _ => by decide⟩
theorem tIf_p {α : Type} {c : Prop} {A B : pT α} {v : α} {N : pMem} (g : c) (h : tIf c A B v N) : A v N := h.elim (fun q => q.2) (fun q => absurd g q.1)
theorem tIf_n {α : Type} {c : Prop} {A B : pT α} {v : α} {N : pMem} (g : ¬ c) (h : tIf c A B v N) : B v N := h.elim (fun q => absurd q.1 g) (fun q => q.2)
theorem nn {p : Prop} (h : p) : ¬ ¬ p := fun q => q h
theorem pOut_nil {a j : Nat} : (pOut [] a j = true) = True := eq_true rfl
theorem pOut_cons {b f a j : Nat} {L : List (Nat × Nat)} : (pOut ((b, f) :: L) a j = true) = (¬ (b = a ∧ (f = 999 ∨ f = j)) ∧ pOut L a j = true) := by
  have e : pOut ((b, f) :: L) a j = (!(Nat.beq b a && (Nat.beq f 999 || Nat.beq f j)) && pOut L a j) := rfl
  rw [e, Bool.and_eq_true, Bool.not_eq_true', Bool.and_eq_false_iff, Bool.or_eq_false_iff]
  apply propext
  have q : ∀ x y : Nat, (Nat.beq x y = false) = (¬ x = y) := fun x y => propext ⟨fun h e => (by rw [e, Nat.beq_refl] at h; cases h), fun h => Bool.eq_false_iff.mpr fun k => h (Nat.eq_of_beq_eq_true k)⟩
  rw [q, q, q]
  constructor
  · rintro ⟨h1, h2⟩
    exact ⟨by omega, h2⟩
  · rintro ⟨h1, h2⟩
    exact ⟨by omega, h2⟩
theorem pScr_of {a : Nat} (h1 : pScrA a = false) (h2 : a ≠ 188) (j : Nat) : pScr a j = false := by
  unfold pScr
  rw [h1, show Nat.beq a 188 = false from Bool.eq_false_iff.mpr fun q => h2 (Nat.eq_of_beq_eq_true q)]
  rfl
theorem pl_scrA : ∀ k, k < 4 → ∀ o, o < 4 → pScrA (37 + 11 * k + o) = false ∧ pScrA (93 + 11 * k + o) = false := by decide +kernel
theorem pl_scr {k o j : Nat} (hk : k < 4) (ho : o < 4) : pScr (37 + 11 * k + o) j = false := pScr_of (pl_scrA k hk o ho).1 (by omega) j
theorem pi_scr {k o j : Nat} (hk : k < 4) (ho : o < 4) : pScr (93 + 11 * k + o) j = false := pScr_of (pl_scrA k hk o ho).2 (by omega) j
/-- yes or no -/
def bo (x : Int32) : Prop := x = kI 0 ∨ x = kI 1
