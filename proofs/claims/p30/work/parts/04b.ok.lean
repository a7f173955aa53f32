/-! the blocks of every method stand in its bytes: printed by wip/tools/gen_ok.py -/
def aCkP (own : String) (ini : Bool) (cc : ByteArray) (spc : List Nat) (b : Nat) : Nat → List aI → Option Nat
  | pc, [] => some pc
  | pc, i :: r => match decode cc pc with
    | .ok (real, len) => if aOk own ini spc b pc real len i && decide (aKd i ≠ 4) then aCkP own ini cc spc b (pc + len) r else none
    | .error _ => none
theorem aCkP_app {own : String} {ini : Bool} {cc : ByteArray} {spc : List Nat} {b : Nat} : ∀ {r1 : List aI} {r2 : List aI} {pc q : Nat}, aCkP own ini cc spc b pc r1 = some q → aCk own ini cc spc b q r2 = true → aCk own ini cc spc b pc (r1 ++ r2) = true := by
  intro r1
  induction r1 with
  | nil =>
    intro r2 pc q h1 h2
    cases h1
    exact h2
  | cons i r ih =>
    intro r2 pc q h1 h2
    unfold aCkP at h1
    rw [List.cons_append]
    unfold aCk
    split at h1
    · rename_i real len hd
      rw [hd]
      dsimp only
      split at h1
      · rename_i hc
        simp only [Bool.and_eq_true, decide_eq_true_eq] at hc
        rw [hc.1, if_neg hc.2, Bool.true_and]
        exact ih h1 h2
      · cases h1
    · cases h1
theorem aCkP_drop {own : String} {ini : Bool} {cc : ByteArray} {spc : List Nat} {b a n : Nat} {r : List aI} {pc q : Nat} (h1 : aCkP own ini cc spc b pc ((r.drop a).take n) = some q) (h2 : aCk own ini cc spc b q (r.drop (a + n)) = true) : aCk own ini cc spc b pc (r.drop a) = true := by
  rw [← List.take_append_drop n (r.drop a), List.drop_drop]
  exact aCkP_app h1 h2
theorem aCkL_app {own : String} {ini : Bool} {cc : ByteArray} {spc : List Nat} : ∀ {C1 C2 : List (List aI)} {b0 : Nat}, aCkL own ini cc spc b0 C1 = true → aCkL own ini cc spc (b0 + C1.length) C2 = true → aCkL own ini cc spc b0 (C1 ++ C2) = true := by
  intro C1
  induction C1 with
  | nil => intro C2 b0 _ h2; exact h2
  | cons a r ih =>
    intro C2 b0 h1 h2
    rw [List.cons_append]
    unfold aCkL at h1 ⊢
    rw [Bool.and_eq_true] at h1 ⊢
    exact ⟨h1.1, ih h1.2 (by rw [show b0 + 1 + r.length = b0 + (a :: r).length by rw [List.length_cons]; omega]; exact h2)⟩
theorem aCkL_drop {own : String} {ini : Bool} {cc : ByteArray} {spc : List Nat} {b n : Nat} {C : List (List aI)} (hn : b + n ≤ C.length) (h1 : aCkL own ini cc spc b ((C.drop b).take n) = true) (h2 : aCkL own ini cc spc (b + n) (C.drop (b + n)) = true) : aCkL own ini cc spc b (C.drop b) = true := by
  rw [← List.take_append_drop n (C.drop b), List.drop_drop]
  refine aCkL_app h1 ?_
  rw [List.length_take, List.length_drop, Nat.min_eq_left (by omega)]
  exact h2
def aCkB (y b n : Nat) : Bool := aCkL (aIn y).1.cls (decide ((aIn y).1.name = "<init>")) (aIn y).2.1 (aSp y) b (((aMC y).drop b).take n)
def aCkQ (y b pc a n : Nat) : Option Nat := aCkP (aIn y).1.cls (decide ((aIn y).1.name = "<init>")) (aIn y).2.1 (aSp y) b pc ((((aMC y).getD b []).drop a).take n)
noncomputable def aCkMF (y : Nat) : Bool := aCkLF (aIn y).1.cls (decide ((aIn y).1.name = "<init>")) (aIn y).2.1 (aSp y) 0 (aMC y) && decide ((aSp y)[0]? = some 0)
theorem aCkMF_s {y : Nat} (h : aCkMF y = true) : aCkM y = true := by
  unfold aCkMF at h
  unfold aCkM
  rw [Bool.and_eq_true] at h ⊢
  exact ⟨aCkLF_s h.1, h.2⟩
noncomputable def aCkBF (y b n : Nat) : Bool := aCkLF (aIn y).1.cls (decide ((aIn y).1.name = "<init>")) (aIn y).2.1 (aSp y) b (((aMC y).drop b).take n)
theorem aCkBF_s {y b n : Nat} (h : aCkBF y b n = true) : aCkB y b n = true := aCkLF_s h
noncomputable def aCkPF (own : String) (ini : Bool) (cc : ByteArray) (spc : List Nat) (b : Nat) : Nat → List UInt8 → List aI → Option Nat
  | pc, _, [] => some pc
  | pc, w, i :: r => match dDec cc pc w with
    | .ok (real, len) => if aOk own ini spc b pc real len i && decide (aKd i ≠ 4) then aCkPF own ini cc spc b (pc + len) (w.drop len) r else none
    | .error _ => none
theorem aCkPF_s {own : String} {ini : Bool} {cc : ByteArray} {spc : List Nat} {b : Nat} : ∀ {r : List aI} {pc q : Nat} {w : List UInt8}, cc.data.toList.drop pc = w → aCkPF own ini cc spc b pc w r = some q → aCkP own ini cc spc b pc r = some q := by
  intro r
  induction r with
  | nil => intro pc q w _ h; exact h
  | cons i r ih =>
    intro pc q w hw h
    unfold aCkPF at h
    unfold aCkP
    cases hd : dDec cc pc w with
    | error e =>
      rw [hd] at h
      cases h
    | ok z =>
      rw [dDec_s hw hd]
      rw [hd] at h
      obtain ⟨real, len⟩ := z
      dsimp only at h ⊢
      by_cases c : (aOk own ini spc b pc real len i && decide (aKd i ≠ 4)) = true
      · rw [if_pos c] at h ⊢
        exact ih (by rw [← hw, List.drop_drop]) h
      · rw [if_neg c] at h
        cases h
noncomputable def aCkQF (y b pc a n : Nat) : Option Nat := aCkPF (aIn y).1.cls (decide ((aIn y).1.name = "<init>")) (aIn y).2.1 (aSp y) b pc ((aIn y).2.1.data.toList.drop pc) ((((aMC y).getD b []).drop a).take n)
theorem aCkQF_s {y b pc a n q : Nat} (h : aCkQF y b pc a n = some q) : aCkQ y b pc a n = some q := aCkPF_s rfl h

theorem aOkG_0 : ∀ y ∈ [0, 1, 2, 3, 4, 5, 6, 7, 8, 9, 10, 11, 12, 13, 14, 15], aCkMF y = true := by decide +kernel
theorem aOkG_1 : ∀ y ∈ [16, 17, 18, 19, 20, 21, 22, 23, 24, 25, 26, 27, 28, 29, 30, 31, 32, 33, 34, 35, 36, 37, 38, 39, 40, 42, 43], aCkMF y = true := by decide +kernel
theorem aOkG_2 : ∀ y ∈ [44, 45, 46, 47, 48, 49, 50, 51, 52, 53, 54, 55, 56, 57, 58, 59, 60, 61, 62, 63, 64], aCkMF y = true := by decide +kernel
theorem aOkG_3 : ∀ y ∈ [65, 66, 67, 68, 69, 70, 71, 72, 73, 74], aCkMF y = true := by decide +kernel
theorem aOkG_4 : ∀ y ∈ [75, 76, 77], aCkMF y = true := by decide +kernel
theorem aOkG_5 : ∀ y ∈ [78, 79, 80, 81, 82], aCkMF y = true := by decide +kernel
theorem aOkG_6 : ∀ y ∈ [83, 84, 85, 86, 87, 88], aCkMF y = true := by decide +kernel
theorem aOkG_7 : ∀ y ∈ [89, 90, 91, 92, 93, 94, 95], aCkMF y = true := by decide +kernel
theorem aOkG_8 : ∀ y ∈ [96, 97, 98, 99, 100, 101, 102, 103, 104], aCkMF y = true := by decide +kernel
theorem aOkG_9 : ∀ y ∈ [105, 106, 107], aCkMF y = true := by decide +kernel
theorem aOkG_10 : ∀ y ∈ [108, 109], aCkMF y = true := by decide +kernel
theorem aOkG_11 : ∀ y ∈ [110, 111, 112, 113, 114, 115, 116], aCkMF y = true := by decide +kernel
theorem aOkG_12 : ∀ y ∈ [117, 118, 119, 120, 121, 122, 123, 124, 125, 126], aCkMF y = true := by decide +kernel
theorem aOkG_13 : ∀ y ∈ [127, 128, 129, 130, 131, 132], aCkMF y = true := by decide +kernel
theorem aOkG_14 : ∀ y ∈ [133, 134], aCkMF y = true := by decide +kernel
theorem aOkG_15 : ∀ y ∈ [135, 136, 137, 138, 139, 140, 141, 142, 143, 144, 145, 146, 147, 148, 149, 150, 151, 152], aCkMF y = true := by decide +kernel
theorem aOkG_16 : ∀ y ∈ [153, 154, 155, 156, 157, 158, 159, 160, 161, 162, 163, 164, 165], aCkMF y = true := by decide +kernel
theorem aOkG_17 : ∀ y ∈ [166, 167, 168, 169, 170, 171, 172, 173, 174, 175, 176, 177, 178], aCkMF y = true := by decide +kernel
theorem aOkG_18 : ∀ y ∈ [179, 180, 181, 182, 183, 184, 185, 186, 187, 188, 189, 190, 191, 192, 193, 194, 195], aCkMF y = true := by decide +kernel
theorem aOkG_19 : ∀ y ∈ [196, 197, 198, 199, 200, 201, 202, 203, 204, 205, 206, 207, 208, 209, 210, 211, 212], aCkMF y = true := by decide +kernel
theorem aOkG_20 : ∀ y ∈ [213, 214, 215, 216, 217, 218, 219], aCkMF y = true := by decide +kernel
theorem aOkG_21 : ∀ y ∈ [220, 221, 222, 223, 224, 225, 226, 227, 228, 229, 230, 231, 232, 233, 234, 235, 236, 237, 238, 239, 240], aCkMF y = true := by decide +kernel
-- block 0 of 41 in 22 pieces
theorem aOkQ_41_0_0 : aCkQ 41 0 0 0 37 = some 73 := aCkQF_s (by decide +kernel)
theorem aOkQ_41_0_37 : aCkQ 41 0 73 37 37 = some 140 := aCkQF_s (by decide +kernel)
theorem aOkQ_41_0_74 : aCkQ 41 0 140 74 37 = some 191 := aCkQF_s (by decide +kernel)
theorem aOkQ_41_0_111 : aCkQ 41 0 191 111 37 = some 246 := aCkQF_s (by decide +kernel)
theorem aOkQ_41_0_148 : aCkQ 41 0 246 148 37 = some 302 := aCkQF_s (by decide +kernel)
theorem aOkQ_41_0_185 : aCkQ 41 0 302 185 37 = some 358 := aCkQF_s (by decide +kernel)
theorem aOkQ_41_0_222 : aCkQ 41 0 358 222 37 = some 413 := aCkQF_s (by decide +kernel)
theorem aOkQ_41_0_259 : aCkQ 41 0 413 259 37 = some 468 := aCkQF_s (by decide +kernel)
theorem aOkQ_41_0_296 : aCkQ 41 0 468 296 37 = some 524 := aCkQF_s (by decide +kernel)
theorem aOkQ_41_0_333 : aCkQ 41 0 524 333 37 = some 580 := aCkQF_s (by decide +kernel)
theorem aOkQ_41_0_370 : aCkQ 41 0 580 370 37 = some 635 := aCkQF_s (by decide +kernel)
theorem aOkQ_41_0_407 : aCkQ 41 0 635 407 37 = some 690 := aCkQF_s (by decide +kernel)
theorem aOkQ_41_0_444 : aCkQ 41 0 690 444 37 = some 746 := aCkQF_s (by decide +kernel)
theorem aOkQ_41_0_481 : aCkQ 41 0 746 481 37 = some 802 := aCkQF_s (by decide +kernel)
theorem aOkQ_41_0_518 : aCkQ 41 0 802 518 37 = some 857 := aCkQF_s (by decide +kernel)
theorem aOkQ_41_0_555 : aCkQ 41 0 857 555 37 = some 915 := aCkQF_s (by decide +kernel)
theorem aOkQ_41_0_592 : aCkQ 41 0 915 592 37 = some 981 := aCkQF_s (by decide +kernel)
theorem aOkQ_41_0_629 : aCkQ 41 0 981 629 37 = some 1046 := aCkQF_s (by decide +kernel)
theorem aOkQ_41_0_666 : aCkQ 41 0 1046 666 37 = some 1112 := aCkQF_s (by decide +kernel)
theorem aOkQ_41_0_703 : aCkQ 41 0 1112 703 37 = some 1185 := aCkQF_s (by decide +kernel)
theorem aOkQ_41_0_740 : aCkQ 41 0 1185 740 37 = some 1259 := aCkQF_s (by decide +kernel)
theorem aOkZ_41_0 : aCk (aIn 41).1.cls (decide ((aIn 41).1.name = "<init>")) (aIn 41).2.1 (aSp 41) 0 1259 (((aMC 41).getD 0 []).drop 777) = true := aCkF_s rfl (by decide +kernel)
theorem aOkY_41_0 : aCk (aIn 41).1.cls (decide ((aIn 41).1.name = "<init>")) (aIn 41).2.1 (aSp 41) 0 0 (((aMC 41).getD 0 []).drop 0) = true := (aCkP_drop aOkQ_41_0_0 (aCkP_drop aOkQ_41_0_37 (aCkP_drop aOkQ_41_0_74 (aCkP_drop aOkQ_41_0_111 (aCkP_drop aOkQ_41_0_148 (aCkP_drop aOkQ_41_0_185 (aCkP_drop aOkQ_41_0_222 (aCkP_drop aOkQ_41_0_259 (aCkP_drop aOkQ_41_0_296 (aCkP_drop aOkQ_41_0_333 (aCkP_drop aOkQ_41_0_370 (aCkP_drop aOkQ_41_0_407 (aCkP_drop aOkQ_41_0_444 (aCkP_drop aOkQ_41_0_481 (aCkP_drop aOkQ_41_0_518 (aCkP_drop aOkQ_41_0_555 (aCkP_drop aOkQ_41_0_592 (aCkP_drop aOkQ_41_0_629 (aCkP_drop aOkQ_41_0_666 (aCkP_drop aOkQ_41_0_703 (aCkP_drop aOkQ_41_0_740 aOkZ_41_0)))))))))))))))))))))
theorem aOkB_41_0 : aCkB 41 0 1 = true := by
  show ((match (aSp 41)[0]? with | some pc => aCk (aIn 41).1.cls (decide ((aIn 41).1.name = "<init>")) (aIn 41).2.1 (aSp 41) 0 pc ((aMC 41).getD 0 []) | none => false) && true) = true
  rw [Bool.and_true]
  exact aOkY_41_0
theorem aOkM_41 : aCkM 41 = true := by
  unfold aCkM
  rw [Bool.and_eq_true]
  exact ⟨(aCkL_drop (b := 0) (n := 1) (C := aMC 41) (by decide +kernel) aOkB_41_0 (show aCkL (aIn 41).1.cls (decide ((aIn 41).1.name = "<init>")) (aIn 41).2.1 (aSp 41) 1 ((aMC 41).drop 1) = true from rfl)), by decide +kernel⟩
theorem aOkB_241_0 : aCkB 241 0 4 = true := aCkBF_s (by decide +kernel)
theorem aOkB_241_4 : aCkB 241 4 1 = true := aCkBF_s (by decide +kernel)
theorem aOkB_241_5 : aCkB 241 5 7 = true := aCkBF_s (by decide +kernel)
theorem aOkB_241_12 : aCkB 241 12 1 = true := aCkBF_s (by decide +kernel)
theorem aOkB_241_13 : aCkB 241 13 1 = true := aCkBF_s (by decide +kernel)
theorem aOkB_241_14 : aCkB 241 14 2 = true := aCkBF_s (by decide +kernel)
theorem aOkB_241_16 : aCkB 241 16 2 = true := aCkBF_s (by decide +kernel)
theorem aOkB_241_18 : aCkB 241 18 1 = true := aCkBF_s (by decide +kernel)
theorem aOkB_241_19 : aCkB 241 19 2 = true := aCkBF_s (by decide +kernel)
theorem aOkB_241_21 : aCkB 241 21 1 = true := aCkBF_s (by decide +kernel)
theorem aOkB_241_22 : aCkB 241 22 1 = true := aCkBF_s (by decide +kernel)
theorem aOkB_241_23 : aCkB 241 23 1 = true := aCkBF_s (by decide +kernel)
theorem aOkB_241_24 : aCkB 241 24 4 = true := aCkBF_s (by decide +kernel)
theorem aOkB_241_28 : aCkB 241 28 4 = true := aCkBF_s (by decide +kernel)
theorem aOkB_241_32 : aCkB 241 32 2 = true := aCkBF_s (by decide +kernel)
theorem aOkB_241_34 : aCkB 241 34 1 = true := aCkBF_s (by decide +kernel)
theorem aOkB_241_35 : aCkB 241 35 1 = true := aCkBF_s (by decide +kernel)
theorem aOkB_241_36 : aCkB 241 36 1 = true := aCkBF_s (by decide +kernel)
theorem aOkB_241_37 : aCkB 241 37 2 = true := aCkBF_s (by decide +kernel)
theorem aOkB_241_39 : aCkB 241 39 2 = true := aCkBF_s (by decide +kernel)
theorem aOkB_241_41 : aCkB 241 41 7 = true := aCkBF_s (by decide +kernel)
theorem aOkB_241_48 : aCkB 241 48 5 = true := aCkBF_s (by decide +kernel)
theorem aOkM_241 : aCkM 241 = true := by
  unfold aCkM
  rw [Bool.and_eq_true]
  exact ⟨(aCkL_drop (b := 0) (n := 4) (C := aMC 241) (by decide +kernel) aOkB_241_0 (aCkL_drop (b := 4) (n := 1) (C := aMC 241) (by decide +kernel) aOkB_241_4 (aCkL_drop (b := 5) (n := 7) (C := aMC 241) (by decide +kernel) aOkB_241_5 (aCkL_drop (b := 12) (n := 1) (C := aMC 241) (by decide +kernel) aOkB_241_12 (aCkL_drop (b := 13) (n := 1) (C := aMC 241) (by decide +kernel) aOkB_241_13 (aCkL_drop (b := 14) (n := 2) (C := aMC 241) (by decide +kernel) aOkB_241_14 (aCkL_drop (b := 16) (n := 2) (C := aMC 241) (by decide +kernel) aOkB_241_16 (aCkL_drop (b := 18) (n := 1) (C := aMC 241) (by decide +kernel) aOkB_241_18 (aCkL_drop (b := 19) (n := 2) (C := aMC 241) (by decide +kernel) aOkB_241_19 (aCkL_drop (b := 21) (n := 1) (C := aMC 241) (by decide +kernel) aOkB_241_21 (aCkL_drop (b := 22) (n := 1) (C := aMC 241) (by decide +kernel) aOkB_241_22 (aCkL_drop (b := 23) (n := 1) (C := aMC 241) (by decide +kernel) aOkB_241_23 (aCkL_drop (b := 24) (n := 4) (C := aMC 241) (by decide +kernel) aOkB_241_24 (aCkL_drop (b := 28) (n := 4) (C := aMC 241) (by decide +kernel) aOkB_241_28 (aCkL_drop (b := 32) (n := 2) (C := aMC 241) (by decide +kernel) aOkB_241_32 (aCkL_drop (b := 34) (n := 1) (C := aMC 241) (by decide +kernel) aOkB_241_34 (aCkL_drop (b := 35) (n := 1) (C := aMC 241) (by decide +kernel) aOkB_241_35 (aCkL_drop (b := 36) (n := 1) (C := aMC 241) (by decide +kernel) aOkB_241_36 (aCkL_drop (b := 37) (n := 2) (C := aMC 241) (by decide +kernel) aOkB_241_37 (aCkL_drop (b := 39) (n := 2) (C := aMC 241) (by decide +kernel) aOkB_241_39 (aCkL_drop (b := 41) (n := 7) (C := aMC 241) (by decide +kernel) aOkB_241_41 (aCkL_drop (b := 48) (n := 5) (C := aMC 241) (by decide +kernel) aOkB_241_48 (show aCkL (aIn 241).1.cls (decide ((aIn 241).1.name = "<init>")) (aIn 241).2.1 (aSp 241) 53 ((aMC 241).drop 53) = true from rfl))))))))))))))))))))))), by decide +kernel⟩
theorem aOkT_0 : ∀ z, z < 10 → aCkM (0 + z) = true := by
  intro z hz
  match z, hz with
  | 0, _ => exact aCkMF_s (aOkG_0 0 (by decide))
  | 1, _ => exact aCkMF_s (aOkG_0 1 (by decide))
  | 2, _ => exact aCkMF_s (aOkG_0 2 (by decide))
  | 3, _ => exact aCkMF_s (aOkG_0 3 (by decide))
  | 4, _ => exact aCkMF_s (aOkG_0 4 (by decide))
  | 5, _ => exact aCkMF_s (aOkG_0 5 (by decide))
  | 6, _ => exact aCkMF_s (aOkG_0 6 (by decide))
  | 7, _ => exact aCkMF_s (aOkG_0 7 (by decide))
  | 8, _ => exact aCkMF_s (aOkG_0 8 (by decide))
  | 9, _ => exact aCkMF_s (aOkG_0 9 (by decide))
  | z + 10, hz => exact absurd hz (by omega)
theorem aOkT_1 : ∀ z, z < 10 → aCkM (10 + z) = true := by
  intro z hz
  match z, hz with
  | 0, _ => exact aCkMF_s (aOkG_0 10 (by decide))
  | 1, _ => exact aCkMF_s (aOkG_0 11 (by decide))
  | 2, _ => exact aCkMF_s (aOkG_0 12 (by decide))
  | 3, _ => exact aCkMF_s (aOkG_0 13 (by decide))
  | 4, _ => exact aCkMF_s (aOkG_0 14 (by decide))
  | 5, _ => exact aCkMF_s (aOkG_0 15 (by decide))
  | 6, _ => exact aCkMF_s (aOkG_1 16 (by decide))
  | 7, _ => exact aCkMF_s (aOkG_1 17 (by decide))
  | 8, _ => exact aCkMF_s (aOkG_1 18 (by decide))
  | 9, _ => exact aCkMF_s (aOkG_1 19 (by decide))
  | z + 10, hz => exact absurd hz (by omega)
theorem aOkT_2 : ∀ z, z < 10 → aCkM (20 + z) = true := by
  intro z hz
  match z, hz with
  | 0, _ => exact aCkMF_s (aOkG_1 20 (by decide))
  | 1, _ => exact aCkMF_s (aOkG_1 21 (by decide))
  | 2, _ => exact aCkMF_s (aOkG_1 22 (by decide))
  | 3, _ => exact aCkMF_s (aOkG_1 23 (by decide))
  | 4, _ => exact aCkMF_s (aOkG_1 24 (by decide))
  | 5, _ => exact aCkMF_s (aOkG_1 25 (by decide))
  | 6, _ => exact aCkMF_s (aOkG_1 26 (by decide))
  | 7, _ => exact aCkMF_s (aOkG_1 27 (by decide))
  | 8, _ => exact aCkMF_s (aOkG_1 28 (by decide))
  | 9, _ => exact aCkMF_s (aOkG_1 29 (by decide))
  | z + 10, hz => exact absurd hz (by omega)
theorem aOkT_3 : ∀ z, z < 10 → aCkM (30 + z) = true := by
  intro z hz
  match z, hz with
  | 0, _ => exact aCkMF_s (aOkG_1 30 (by decide))
  | 1, _ => exact aCkMF_s (aOkG_1 31 (by decide))
  | 2, _ => exact aCkMF_s (aOkG_1 32 (by decide))
  | 3, _ => exact aCkMF_s (aOkG_1 33 (by decide))
  | 4, _ => exact aCkMF_s (aOkG_1 34 (by decide))
  | 5, _ => exact aCkMF_s (aOkG_1 35 (by decide))
  | 6, _ => exact aCkMF_s (aOkG_1 36 (by decide))
  | 7, _ => exact aCkMF_s (aOkG_1 37 (by decide))
  | 8, _ => exact aCkMF_s (aOkG_1 38 (by decide))
  | 9, _ => exact aCkMF_s (aOkG_1 39 (by decide))
  | z + 10, hz => exact absurd hz (by omega)
theorem aOkT_4 : ∀ z, z < 10 → aCkM (40 + z) = true := by
  intro z hz
  match z, hz with
  | 0, _ => exact aCkMF_s (aOkG_1 40 (by decide))
  | 1, _ => exact aOkM_41
  | 2, _ => exact aCkMF_s (aOkG_1 42 (by decide))
  | 3, _ => exact aCkMF_s (aOkG_1 43 (by decide))
  | 4, _ => exact aCkMF_s (aOkG_2 44 (by decide))
  | 5, _ => exact aCkMF_s (aOkG_2 45 (by decide))
  | 6, _ => exact aCkMF_s (aOkG_2 46 (by decide))
  | 7, _ => exact aCkMF_s (aOkG_2 47 (by decide))
  | 8, _ => exact aCkMF_s (aOkG_2 48 (by decide))
  | 9, _ => exact aCkMF_s (aOkG_2 49 (by decide))
  | z + 10, hz => exact absurd hz (by omega)
theorem aOkT_5 : ∀ z, z < 10 → aCkM (50 + z) = true := by
  intro z hz
  match z, hz with
  | 0, _ => exact aCkMF_s (aOkG_2 50 (by decide))
  | 1, _ => exact aCkMF_s (aOkG_2 51 (by decide))
  | 2, _ => exact aCkMF_s (aOkG_2 52 (by decide))
  | 3, _ => exact aCkMF_s (aOkG_2 53 (by decide))
  | 4, _ => exact aCkMF_s (aOkG_2 54 (by decide))
  | 5, _ => exact aCkMF_s (aOkG_2 55 (by decide))
  | 6, _ => exact aCkMF_s (aOkG_2 56 (by decide))
  | 7, _ => exact aCkMF_s (aOkG_2 57 (by decide))
  | 8, _ => exact aCkMF_s (aOkG_2 58 (by decide))
  | 9, _ => exact aCkMF_s (aOkG_2 59 (by decide))
  | z + 10, hz => exact absurd hz (by omega)
theorem aOkT_6 : ∀ z, z < 10 → aCkM (60 + z) = true := by
  intro z hz
  match z, hz with
  | 0, _ => exact aCkMF_s (aOkG_2 60 (by decide))
  | 1, _ => exact aCkMF_s (aOkG_2 61 (by decide))
  | 2, _ => exact aCkMF_s (aOkG_2 62 (by decide))
  | 3, _ => exact aCkMF_s (aOkG_2 63 (by decide))
  | 4, _ => exact aCkMF_s (aOkG_2 64 (by decide))
  | 5, _ => exact aCkMF_s (aOkG_3 65 (by decide))
  | 6, _ => exact aCkMF_s (aOkG_3 66 (by decide))
  | 7, _ => exact aCkMF_s (aOkG_3 67 (by decide))
  | 8, _ => exact aCkMF_s (aOkG_3 68 (by decide))
  | 9, _ => exact aCkMF_s (aOkG_3 69 (by decide))
  | z + 10, hz => exact absurd hz (by omega)
theorem aOkT_7 : ∀ z, z < 10 → aCkM (70 + z) = true := by
  intro z hz
  match z, hz with
  | 0, _ => exact aCkMF_s (aOkG_3 70 (by decide))
  | 1, _ => exact aCkMF_s (aOkG_3 71 (by decide))
  | 2, _ => exact aCkMF_s (aOkG_3 72 (by decide))
  | 3, _ => exact aCkMF_s (aOkG_3 73 (by decide))
  | 4, _ => exact aCkMF_s (aOkG_3 74 (by decide))
  | 5, _ => exact aCkMF_s (aOkG_4 75 (by decide))
  | 6, _ => exact aCkMF_s (aOkG_4 76 (by decide))
  | 7, _ => exact aCkMF_s (aOkG_4 77 (by decide))
  | 8, _ => exact aCkMF_s (aOkG_5 78 (by decide))
  | 9, _ => exact aCkMF_s (aOkG_5 79 (by decide))
  | z + 10, hz => exact absurd hz (by omega)
theorem aOkT_8 : ∀ z, z < 10 → aCkM (80 + z) = true := by
  intro z hz
  match z, hz with
  | 0, _ => exact aCkMF_s (aOkG_5 80 (by decide))
  | 1, _ => exact aCkMF_s (aOkG_5 81 (by decide))
  | 2, _ => exact aCkMF_s (aOkG_5 82 (by decide))
  | 3, _ => exact aCkMF_s (aOkG_6 83 (by decide))
  | 4, _ => exact aCkMF_s (aOkG_6 84 (by decide))
  | 5, _ => exact aCkMF_s (aOkG_6 85 (by decide))
  | 6, _ => exact aCkMF_s (aOkG_6 86 (by decide))
  | 7, _ => exact aCkMF_s (aOkG_6 87 (by decide))
  | 8, _ => exact aCkMF_s (aOkG_6 88 (by decide))
  | 9, _ => exact aCkMF_s (aOkG_7 89 (by decide))
  | z + 10, hz => exact absurd hz (by omega)
theorem aOkT_9 : ∀ z, z < 10 → aCkM (90 + z) = true := by
  intro z hz
  match z, hz with
  | 0, _ => exact aCkMF_s (aOkG_7 90 (by decide))
  | 1, _ => exact aCkMF_s (aOkG_7 91 (by decide))
  | 2, _ => exact aCkMF_s (aOkG_7 92 (by decide))
  | 3, _ => exact aCkMF_s (aOkG_7 93 (by decide))
  | 4, _ => exact aCkMF_s (aOkG_7 94 (by decide))
  | 5, _ => exact aCkMF_s (aOkG_7 95 (by decide))
  | 6, _ => exact aCkMF_s (aOkG_8 96 (by decide))
  | 7, _ => exact aCkMF_s (aOkG_8 97 (by decide))
  | 8, _ => exact aCkMF_s (aOkG_8 98 (by decide))
  | 9, _ => exact aCkMF_s (aOkG_8 99 (by decide))
  | z + 10, hz => exact absurd hz (by omega)
theorem aOkT_10 : ∀ z, z < 10 → aCkM (100 + z) = true := by
  intro z hz
  match z, hz with
  | 0, _ => exact aCkMF_s (aOkG_8 100 (by decide))
  | 1, _ => exact aCkMF_s (aOkG_8 101 (by decide))
  | 2, _ => exact aCkMF_s (aOkG_8 102 (by decide))
  | 3, _ => exact aCkMF_s (aOkG_8 103 (by decide))
  | 4, _ => exact aCkMF_s (aOkG_8 104 (by decide))
  | 5, _ => exact aCkMF_s (aOkG_9 105 (by decide))
  | 6, _ => exact aCkMF_s (aOkG_9 106 (by decide))
  | 7, _ => exact aCkMF_s (aOkG_9 107 (by decide))
  | 8, _ => exact aCkMF_s (aOkG_10 108 (by decide))
  | 9, _ => exact aCkMF_s (aOkG_10 109 (by decide))
  | z + 10, hz => exact absurd hz (by omega)
theorem aOkT_11 : ∀ z, z < 10 → aCkM (110 + z) = true := by
  intro z hz
  match z, hz with
  | 0, _ => exact aCkMF_s (aOkG_11 110 (by decide))
  | 1, _ => exact aCkMF_s (aOkG_11 111 (by decide))
  | 2, _ => exact aCkMF_s (aOkG_11 112 (by decide))
  | 3, _ => exact aCkMF_s (aOkG_11 113 (by decide))
  | 4, _ => exact aCkMF_s (aOkG_11 114 (by decide))
  | 5, _ => exact aCkMF_s (aOkG_11 115 (by decide))
  | 6, _ => exact aCkMF_s (aOkG_11 116 (by decide))
  | 7, _ => exact aCkMF_s (aOkG_12 117 (by decide))
  | 8, _ => exact aCkMF_s (aOkG_12 118 (by decide))
  | 9, _ => exact aCkMF_s (aOkG_12 119 (by decide))
  | z + 10, hz => exact absurd hz (by omega)
theorem aOkT_12 : ∀ z, z < 10 → aCkM (120 + z) = true := by
  intro z hz
  match z, hz with
  | 0, _ => exact aCkMF_s (aOkG_12 120 (by decide))
  | 1, _ => exact aCkMF_s (aOkG_12 121 (by decide))
  | 2, _ => exact aCkMF_s (aOkG_12 122 (by decide))
  | 3, _ => exact aCkMF_s (aOkG_12 123 (by decide))
  | 4, _ => exact aCkMF_s (aOkG_12 124 (by decide))
  | 5, _ => exact aCkMF_s (aOkG_12 125 (by decide))
  | 6, _ => exact aCkMF_s (aOkG_12 126 (by decide))
  | 7, _ => exact aCkMF_s (aOkG_13 127 (by decide))
  | 8, _ => exact aCkMF_s (aOkG_13 128 (by decide))
  | 9, _ => exact aCkMF_s (aOkG_13 129 (by decide))
  | z + 10, hz => exact absurd hz (by omega)
theorem aOkT_13 : ∀ z, z < 10 → aCkM (130 + z) = true := by
  intro z hz
  match z, hz with
  | 0, _ => exact aCkMF_s (aOkG_13 130 (by decide))
  | 1, _ => exact aCkMF_s (aOkG_13 131 (by decide))
  | 2, _ => exact aCkMF_s (aOkG_13 132 (by decide))
  | 3, _ => exact aCkMF_s (aOkG_14 133 (by decide))
  | 4, _ => exact aCkMF_s (aOkG_14 134 (by decide))
  | 5, _ => exact aCkMF_s (aOkG_15 135 (by decide))
  | 6, _ => exact aCkMF_s (aOkG_15 136 (by decide))
  | 7, _ => exact aCkMF_s (aOkG_15 137 (by decide))
  | 8, _ => exact aCkMF_s (aOkG_15 138 (by decide))
  | 9, _ => exact aCkMF_s (aOkG_15 139 (by decide))
  | z + 10, hz => exact absurd hz (by omega)
theorem aOkT_14 : ∀ z, z < 10 → aCkM (140 + z) = true := by
  intro z hz
  match z, hz with
  | 0, _ => exact aCkMF_s (aOkG_15 140 (by decide))
  | 1, _ => exact aCkMF_s (aOkG_15 141 (by decide))
  | 2, _ => exact aCkMF_s (aOkG_15 142 (by decide))
  | 3, _ => exact aCkMF_s (aOkG_15 143 (by decide))
  | 4, _ => exact aCkMF_s (aOkG_15 144 (by decide))
  | 5, _ => exact aCkMF_s (aOkG_15 145 (by decide))
  | 6, _ => exact aCkMF_s (aOkG_15 146 (by decide))
  | 7, _ => exact aCkMF_s (aOkG_15 147 (by decide))
  | 8, _ => exact aCkMF_s (aOkG_15 148 (by decide))
  | 9, _ => exact aCkMF_s (aOkG_15 149 (by decide))
  | z + 10, hz => exact absurd hz (by omega)
theorem aOkT_15 : ∀ z, z < 10 → aCkM (150 + z) = true := by
  intro z hz
  match z, hz with
  | 0, _ => exact aCkMF_s (aOkG_15 150 (by decide))
  | 1, _ => exact aCkMF_s (aOkG_15 151 (by decide))
  | 2, _ => exact aCkMF_s (aOkG_15 152 (by decide))
  | 3, _ => exact aCkMF_s (aOkG_16 153 (by decide))
  | 4, _ => exact aCkMF_s (aOkG_16 154 (by decide))
  | 5, _ => exact aCkMF_s (aOkG_16 155 (by decide))
  | 6, _ => exact aCkMF_s (aOkG_16 156 (by decide))
  | 7, _ => exact aCkMF_s (aOkG_16 157 (by decide))
  | 8, _ => exact aCkMF_s (aOkG_16 158 (by decide))
  | 9, _ => exact aCkMF_s (aOkG_16 159 (by decide))
  | z + 10, hz => exact absurd hz (by omega)
theorem aOkT_16 : ∀ z, z < 10 → aCkM (160 + z) = true := by
  intro z hz
  match z, hz with
  | 0, _ => exact aCkMF_s (aOkG_16 160 (by decide))
  | 1, _ => exact aCkMF_s (aOkG_16 161 (by decide))
  | 2, _ => exact aCkMF_s (aOkG_16 162 (by decide))
  | 3, _ => exact aCkMF_s (aOkG_16 163 (by decide))
  | 4, _ => exact aCkMF_s (aOkG_16 164 (by decide))
  | 5, _ => exact aCkMF_s (aOkG_16 165 (by decide))
  | 6, _ => exact aCkMF_s (aOkG_17 166 (by decide))
  | 7, _ => exact aCkMF_s (aOkG_17 167 (by decide))
  | 8, _ => exact aCkMF_s (aOkG_17 168 (by decide))
  | 9, _ => exact aCkMF_s (aOkG_17 169 (by decide))
  | z + 10, hz => exact absurd hz (by omega)
theorem aOkT_17 : ∀ z, z < 10 → aCkM (170 + z) = true := by
  intro z hz
  match z, hz with
  | 0, _ => exact aCkMF_s (aOkG_17 170 (by decide))
  | 1, _ => exact aCkMF_s (aOkG_17 171 (by decide))
  | 2, _ => exact aCkMF_s (aOkG_17 172 (by decide))
  | 3, _ => exact aCkMF_s (aOkG_17 173 (by decide))
  | 4, _ => exact aCkMF_s (aOkG_17 174 (by decide))
  | 5, _ => exact aCkMF_s (aOkG_17 175 (by decide))
  | 6, _ => exact aCkMF_s (aOkG_17 176 (by decide))
  | 7, _ => exact aCkMF_s (aOkG_17 177 (by decide))
  | 8, _ => exact aCkMF_s (aOkG_17 178 (by decide))
  | 9, _ => exact aCkMF_s (aOkG_18 179 (by decide))
  | z + 10, hz => exact absurd hz (by omega)
theorem aOkT_18 : ∀ z, z < 10 → aCkM (180 + z) = true := by
  intro z hz
  match z, hz with
  | 0, _ => exact aCkMF_s (aOkG_18 180 (by decide))
  | 1, _ => exact aCkMF_s (aOkG_18 181 (by decide))
  | 2, _ => exact aCkMF_s (aOkG_18 182 (by decide))
  | 3, _ => exact aCkMF_s (aOkG_18 183 (by decide))
  | 4, _ => exact aCkMF_s (aOkG_18 184 (by decide))
  | 5, _ => exact aCkMF_s (aOkG_18 185 (by decide))
  | 6, _ => exact aCkMF_s (aOkG_18 186 (by decide))
  | 7, _ => exact aCkMF_s (aOkG_18 187 (by decide))
  | 8, _ => exact aCkMF_s (aOkG_18 188 (by decide))
  | 9, _ => exact aCkMF_s (aOkG_18 189 (by decide))
  | z + 10, hz => exact absurd hz (by omega)
theorem aOkT_19 : ∀ z, z < 10 → aCkM (190 + z) = true := by
  intro z hz
  match z, hz with
  | 0, _ => exact aCkMF_s (aOkG_18 190 (by decide))
  | 1, _ => exact aCkMF_s (aOkG_18 191 (by decide))
  | 2, _ => exact aCkMF_s (aOkG_18 192 (by decide))
  | 3, _ => exact aCkMF_s (aOkG_18 193 (by decide))
  | 4, _ => exact aCkMF_s (aOkG_18 194 (by decide))
  | 5, _ => exact aCkMF_s (aOkG_18 195 (by decide))
  | 6, _ => exact aCkMF_s (aOkG_19 196 (by decide))
  | 7, _ => exact aCkMF_s (aOkG_19 197 (by decide))
  | 8, _ => exact aCkMF_s (aOkG_19 198 (by decide))
  | 9, _ => exact aCkMF_s (aOkG_19 199 (by decide))
  | z + 10, hz => exact absurd hz (by omega)
theorem aOkT_20 : ∀ z, z < 10 → aCkM (200 + z) = true := by
  intro z hz
  match z, hz with
  | 0, _ => exact aCkMF_s (aOkG_19 200 (by decide))
  | 1, _ => exact aCkMF_s (aOkG_19 201 (by decide))
  | 2, _ => exact aCkMF_s (aOkG_19 202 (by decide))
  | 3, _ => exact aCkMF_s (aOkG_19 203 (by decide))
  | 4, _ => exact aCkMF_s (aOkG_19 204 (by decide))
  | 5, _ => exact aCkMF_s (aOkG_19 205 (by decide))
  | 6, _ => exact aCkMF_s (aOkG_19 206 (by decide))
  | 7, _ => exact aCkMF_s (aOkG_19 207 (by decide))
  | 8, _ => exact aCkMF_s (aOkG_19 208 (by decide))
  | 9, _ => exact aCkMF_s (aOkG_19 209 (by decide))
  | z + 10, hz => exact absurd hz (by omega)
theorem aOkT_21 : ∀ z, z < 10 → aCkM (210 + z) = true := by
  intro z hz
  match z, hz with
  | 0, _ => exact aCkMF_s (aOkG_19 210 (by decide))
  | 1, _ => exact aCkMF_s (aOkG_19 211 (by decide))
  | 2, _ => exact aCkMF_s (aOkG_19 212 (by decide))
  | 3, _ => exact aCkMF_s (aOkG_20 213 (by decide))
  | 4, _ => exact aCkMF_s (aOkG_20 214 (by decide))
  | 5, _ => exact aCkMF_s (aOkG_20 215 (by decide))
  | 6, _ => exact aCkMF_s (aOkG_20 216 (by decide))
  | 7, _ => exact aCkMF_s (aOkG_20 217 (by decide))
  | 8, _ => exact aCkMF_s (aOkG_20 218 (by decide))
  | 9, _ => exact aCkMF_s (aOkG_20 219 (by decide))
  | z + 10, hz => exact absurd hz (by omega)
theorem aOkT_22 : ∀ z, z < 10 → aCkM (220 + z) = true := by
  intro z hz
  match z, hz with
  | 0, _ => exact aCkMF_s (aOkG_21 220 (by decide))
  | 1, _ => exact aCkMF_s (aOkG_21 221 (by decide))
  | 2, _ => exact aCkMF_s (aOkG_21 222 (by decide))
  | 3, _ => exact aCkMF_s (aOkG_21 223 (by decide))
  | 4, _ => exact aCkMF_s (aOkG_21 224 (by decide))
  | 5, _ => exact aCkMF_s (aOkG_21 225 (by decide))
  | 6, _ => exact aCkMF_s (aOkG_21 226 (by decide))
  | 7, _ => exact aCkMF_s (aOkG_21 227 (by decide))
  | 8, _ => exact aCkMF_s (aOkG_21 228 (by decide))
  | 9, _ => exact aCkMF_s (aOkG_21 229 (by decide))
  | z + 10, hz => exact absurd hz (by omega)
theorem aOkT_23 : ∀ z, z < 10 → aCkM (230 + z) = true := by
  intro z hz
  match z, hz with
  | 0, _ => exact aCkMF_s (aOkG_21 230 (by decide))
  | 1, _ => exact aCkMF_s (aOkG_21 231 (by decide))
  | 2, _ => exact aCkMF_s (aOkG_21 232 (by decide))
  | 3, _ => exact aCkMF_s (aOkG_21 233 (by decide))
  | 4, _ => exact aCkMF_s (aOkG_21 234 (by decide))
  | 5, _ => exact aCkMF_s (aOkG_21 235 (by decide))
  | 6, _ => exact aCkMF_s (aOkG_21 236 (by decide))
  | 7, _ => exact aCkMF_s (aOkG_21 237 (by decide))
  | 8, _ => exact aCkMF_s (aOkG_21 238 (by decide))
  | 9, _ => exact aCkMF_s (aOkG_21 239 (by decide))
  | z + 10, hz => exact absurd hz (by omega)
theorem aOkT_24 : ∀ z, z < 2 → aCkM (240 + z) = true := by
  intro z hz
  match z, hz with
  | 0, _ => exact aCkMF_s (aOkG_21 240 (by decide))
  | 1, _ => exact aOkM_241
  | z + 2, hz => exact absurd hz (by omega)
theorem aOkM : ∀ y, y < 242 → aCkM y = true := by
  intro y hy
  have h : ∀ k, k = y / 10 → aCkM (10 * k + y % 10) = true := by
    intro k hk
    match k, hk with
    | 0, hk => exact aOkT_0 (y % 10) (by omega)
    | 1, hk => exact aOkT_1 (y % 10) (by omega)
    | 2, hk => exact aOkT_2 (y % 10) (by omega)
    | 3, hk => exact aOkT_3 (y % 10) (by omega)
    | 4, hk => exact aOkT_4 (y % 10) (by omega)
    | 5, hk => exact aOkT_5 (y % 10) (by omega)
    | 6, hk => exact aOkT_6 (y % 10) (by omega)
    | 7, hk => exact aOkT_7 (y % 10) (by omega)
    | 8, hk => exact aOkT_8 (y % 10) (by omega)
    | 9, hk => exact aOkT_9 (y % 10) (by omega)
    | 10, hk => exact aOkT_10 (y % 10) (by omega)
    | 11, hk => exact aOkT_11 (y % 10) (by omega)
    | 12, hk => exact aOkT_12 (y % 10) (by omega)
    | 13, hk => exact aOkT_13 (y % 10) (by omega)
    | 14, hk => exact aOkT_14 (y % 10) (by omega)
    | 15, hk => exact aOkT_15 (y % 10) (by omega)
    | 16, hk => exact aOkT_16 (y % 10) (by omega)
    | 17, hk => exact aOkT_17 (y % 10) (by omega)
    | 18, hk => exact aOkT_18 (y % 10) (by omega)
    | 19, hk => exact aOkT_19 (y % 10) (by omega)
    | 20, hk => exact aOkT_20 (y % 10) (by omega)
    | 21, hk => exact aOkT_21 (y % 10) (by omega)
    | 22, hk => exact aOkT_22 (y % 10) (by omega)
    | 23, hk => exact aOkT_23 (y % 10) (by omega)
    | 24, hk => exact aOkT_24 (y % 10) (by omega)
    | k + 25, hk => omega
  have h2 := h _ rfl
  rwa [Nat.div_add_mod] at h2
