/-! p1: the law's loop and end, by hand -/
def tKc (_ : Nat) (_ : zS) (K : zK) (E : List zE) (_ : List zV) : Bool := Nat.beq K.1 230 && (Nat.beq K.2.1 108808 && ((List.range 230).all (fun a => decide (zLk K.2.2 a (999, 0, [], 0) = tK a)) && tFa.all (fun e => decide (e.1 < 89600 ∧ e.2.2.2.1 = 0 ∧ e.2.2.2.2.2.1 = 0) && E.any (fun d => decide (d.1 = e.1 ∧ d.2.1 ≤ e.2.1 ∧ e.2.2.1 ≤ d.2.2.1 ∧ d.2.2.2 = e.2.2.2)))))
def tPA : zP := (zBk, fun _ => (999, 0, [], 0), tF, fun _ => [], fun _ => [], [(1, [], [], [(4, z0, z0, 90000), (4, z0, z0, 0), (4, z0, z0, 188), (0, z0, z0, 0)], [], [])], true, tAll, tAll, 0, [], fun _ _ _ _ _ => false, tKc)
theorem tR_c : zGoX tPA 10000000 0 [] (0, 0, []) [] ([], 60, 241, 0) ((zBk 241).getD 0 []) [(4, z0, z0, 90000), (6, z0, z0, 0), (6, z0, z0, 0), (6, z0, z0, 0)] [] = true := by decide +kernel
theorem tAll_in : ∀ p, zBit tAll p = true → zBit tAll p = true := fun _ h => h
theorem tVal : zVal tPL := ⟨tBk, fun s b f _ _ hb => (by cases hb), ⟨Int.le_refl _, Int.le_refl _⟩, tAll_in, fun al => (by cases al), fun s b hb => (by cases hb)⟩
theorem tValA : zVal tPA := ⟨tBk, fun s b f _ _ hb => (by cases hb), ⟨Int.le_refl _, Int.le_refl _⟩, tAll_in, fun _ => ⟨fun _ => rfl, fun _ => ⟨Int.le_refl _, Int.le_refl _⟩⟩, fun s b hb => (by cases hb)⟩
theorem tGI {P : zP} (hP : P.zI = tF) (h : aH) : zGI P h := fun p i _ _ => by
  rw [hP]
  exact zI32_rg _
def tQ (rv : Option Value) (h' : aH) : Prop := rv = some (.int 1) ∧ h'.1 ≤ 600000 ∧ h'.2.1 ≤ 7302250
/-- what the constructors leave -/
def tFr (h : aH) : Prop := zGK tPL (230, 108808, []) h ∧ ∀ (X : aX) (ρ : Nat → Int) (n : Nat), ∀ e ∈ tFa, zGe X ρ n h e
theorem tB1 : (aMC 241)[1]? = some [.iload 3, .aload 0, .arraylength, .bipush 6, .isub, .if_icmp .gt 80] := by decide +kernel
theorem tB80 : (aMC 241)[80]? = some [.bipush 1, .ireturn] := by decide +kernel
theorem tB2 : (aMC 241)[2]? = some [.aload 0, .iload 3, .iaload, .bipush 31, .iand, .tableswitch 79 0 28 #[3, 5, 7, 15, 17, 19, 21, 23, 25, 27, 29, 31, 33, 35, 37, 39, 41, 49, 51, 53, 55, 57, 59, 61, 63, 65, 67, 69, 77]] := by decide +kernel
theorem tRT : aRT 241 = 2 := by decide +kernel
/-- the end: true -/
theorem tEnd {X : aX} {ls : List Value} {h : aH} (hq : tQ (some (.int 1)) h) : zW X 60 241 80 [.bipush 1, .ireturn] ls [] h tQ := by
  refine zW_step (ls' := ls) (st' := [.int 1]) (h' := h) (by decide) (fun cal => rfl) ?_
  refine zW_ret (rv := some (.int 1)) (by decide) ?_ hq
  rw [tRT]
  rfl
/-- the loop's head, when no call is left -/
theorem tOut {xs : Nat → Int32} {L : Nat} {i : Int32} {u1 u2 : Value} {h : aH} (hi : aCd .gt i (Int32.ofNat L - 6) = true) (hq : tQ (some (.int 1)) h) : zW (L, xs) 60 241 1 [.iload 3, .aload 0, .arraylength, .bipush 6, .isub, .if_icmp .gt 80] [.ref 90000, u1, u2, .int i] [] h tQ := by
  refine zW_step (ls' := [.ref 90000, u1, u2, .int i]) (st' := [.int i]) (h' := h) (by decide) (fun cal => rfl) ?_
  refine zW_step (ls' := [.ref 90000, u1, u2, .int i]) (st' := [.ref 90000, .int i]) (h' := h) (by decide) (fun cal => rfl) ?_
  refine zW_step (ls' := [.ref 90000, u1, u2, .int i]) (st' := [.int (Int32.ofNat L), .int i]) (h' := h) (by decide) (fun cal => rfl) ?_
  refine zW_step (ls' := [.ref 90000, u1, u2, .int i]) (st' := [.int 6, .int (Int32.ofNat L), .int i]) (h' := h) (by decide) (fun cal => rfl) ?_
  refine zW_step (ls' := [.ref 90000, u1, u2, .int i]) (st' := [.int (Int32.ofNat L - 6), .int i]) (h' := h) (by decide) (fun cal => rfl) ?_
  refine zW_jump (b' := 80) (t := []) (by decide) ?_ tB80 (tEnd hq)
  show some (Sum.inl ((if aCd .gt i (Int32.ofNat L - 6) then (80 : Int).toNat else 1 + 1), _, _, _)) = _
  rw [if_pos hi]
  rfl
