/-! the reference's reader: what its parts keep, what the codes come to -/
/-- what reading a token wants -/
def gPre (M : Nat → Nat → Int32) : Prop := 0 ≤ (M 188 24).toInt ∧ (M 188 24).toInt ≤ 500 ∧ 0 ≤ (M 188 25).toInt ∧ (M 188 25).toInt ≤ (M 188 24).toInt ∧ gWords (M 203)
/-- a token has been read -/
def gTs (M : Nat → Nat → Int32) : Prop := gPre M ∧ 0 ≤ (M 188 26).toInt ∧ (M 188 26).toInt ≤ (M 188 25).toInt ∧ 0 ≤ (M 188 27).toInt ∧ (M 188 27).toInt ≤ 4 ∧ ((M 188 27).toInt ≠ 0 → (M 188 26).toInt < (M 188 25).toInt) ∧ ((M 188 27).toInt = 2 → 0 ≤ (M 188 28).toInt ∧ (M 188 28).toInt ≤ 28) ∧ ((M 188 27).toInt = 3 → 0 ≤ (M 188 28).toInt)
/-- what changes nothing but tokens, codes of the draft, faults -/
def gFr (M M' : Nat → Nat → Int32) : Prop := (∀ a, a ≠ 188 → a ≠ 210 → a ≠ 211 → M' a = M a) ∧ (∀ i, i < 2000 → M' 210 i = M 210 i ∧ M' 211 i = M 211 i) ∧ (∀ f, f ≠ 25 → f ≠ 26 → f ≠ 27 → f ≠ 28 → f ≠ 38 → f ≠ 42 → f ≠ 43 → M' 188 f = M 188 f)
theorem gFr.refl {M : Nat → Nat → Int32} : gFr M M := ⟨fun _ _ _ _ => rfl, fun _ _ => ⟨rfl, rfl⟩, fun _ _ _ _ _ _ _ _ => rfl⟩
theorem gFr.trans {M M1 M2 : Nat → Nat → Int32} (h : gFr M M1) (h' : gFr M1 M2) : gFr M M2 :=
  ⟨fun a a1 a2 a3 => (h'.1 a a1 a2 a3).trans (h.1 a a1 a2 a3), fun i hi => ⟨(h'.2.1 i hi).1.trans (h.2.1 i hi).1, (h'.2.1 i hi).2.trans (h.2.1 i hi).2⟩, fun f f1 f2 f3 f4 f5 f6 f7 => (h'.2.2 f f1 f2 f3 f4 f5 f6 f7).trans (h.2.2 f f1 f2 f3 f4 f5 f6 f7)⟩
theorem gPre_put {M : Nat → Nat → Int32} {a j : Nat} {x : Int32} (h : gPre M) (h1 : a ≠ 203) (h2 : a = 188 → j ≠ 24 ∧ j ≠ 25) : gPre (aPut M a j x) := by
  have e24 : aPut M a j x 188 24 = M 188 24 := by
    by_cases q : a = 188
    · subst q; exact aPut_f (fun z => (h2 rfl).1 z.symm)
    · exact aPut_o (fun z => q z.symm)
  have e25 : aPut M a j x 188 25 = M 188 25 := by
    by_cases q : a = 188
    · subst q; exact aPut_f (fun z => (h2 rfl).2 z.symm)
    · exact aPut_o (fun z => q z.symm)
  unfold gPre
  rw [e24, e25, aPut_r (fun z => h1 z.symm)]
  exact h
theorem gTs_put {M : Nat → Nat → Int32} {a j : Nat} {x : Int32} (h : gTs M) (h1 : a ≠ 203) (h2 : a = 188 → j ≠ 24 ∧ j ≠ 25 ∧ j ≠ 26 ∧ j ≠ 27 ∧ j ≠ 28) : gTs (aPut M a j x) := by
  have e : ∀ f, f = 26 ∨ f = 27 ∨ f = 28 ∨ f = 25 → aPut M a j x 188 f = M 188 f := fun f hf => by
    by_cases q : a = 188
    · subst q; exact aPut_f (fun z => by have := h2 rfl; omega)
    · exact aPut_o (fun z => q z.symm)
  unfold gTs
  rw [e 26 (by omega), e 27 (by omega), e 28 (by omega), e 25 (by omega)]
  exact ⟨gPre_put h.1 h1 (fun q => by have := h2 q; omega), h.2⟩
/-- a token more -/
theorem gRd_s {M M' : Nat → Nat → Int32} (h : gRd M M') (hp : gPre M) : gTs M' ∧ gFr M M' ∧ (M' 188 38 = M 188 38) ∧ M' 210 = M 210 ∧ M' 211 = M 211 ∧ (M 188 25).toInt ≤ (M' 188 26).toInt := by
  obtain ⟨r1, r2, r3, r4, r5, r6, r7, r8, r9, r10⟩ := h
  obtain ⟨p1, p2, p3, p4, p5⟩ := hp
  have e24 := r2 24 (by decide) (by decide) (by decide) (by decide)
  refine ⟨⟨⟨by rw [e24]; exact p1, by rw [e24]; exact p2, by omega, by rw [e24]; exact r5, by rw [r1 203 (by decide)]; exact p5⟩, by omega, r4, r6, r7, r8, r9, r10⟩, ⟨fun a a1 _ _ => r1 a a1, fun i _ => by rw [r1 210 (by decide), r1 211 (by decide)]; exact ⟨rfl, rfl⟩, fun f f1 f2 f3 f4 _ _ _ => r2 f f1 f2 f3 f4⟩, r2 38 (by decide) (by decide) (by decide) (by decide), r1 210 (by decide), r1 211 (by decide), r3⟩
/-- how many codes -/
def gMn (M : Nat → Nat → Int32) : Nat := (M 188 38).toInt.toNat
/-- a code more -/
def gEm (M : Nat → Nat → Int32) (w v : Int) : Nat → Nat → Int32 := aPut (aPut (aPut M 210 ((2000 + (M 188 38).toInt)).toNat (Int32.ofInt w)) 211 ((2000 + (M 188 38).toInt)).toNat (Int32.ofInt v)) 188 38 (Int32.ofInt ((M 188 38).toInt + 1))
/-- a fault -/
def gFa (M : Nat → Nat → Int32) (c : Int) : Nat → Nat → Int32 := aPut (aPut M 188 42 (Int32.ofInt c)) 188 43 (Int32.ofInt (M 188 26).toInt)
theorem gFa_s {M : Nat → Nat → Int32} {c : Int} (h : gTs M) : gTs (gFa M c) ∧ gFr M (gFa M c) ∧ gFa M c 188 38 = M 188 38 ∧ gFa M c 210 = M 210 ∧ gFa M c 211 = M 211 := by
  unfold gFa
  refine ⟨gTs_put (gTs_put h (by decide) (fun _ => by decide)) (by decide) (fun _ => by decide), ⟨fun a a1 _ _ => by rw [aPut_r a1, aPut_r a1], fun i _ => by rw [aPut_r (by decide), aPut_r (by decide), aPut_r (by decide), aPut_r (by decide)]; exact ⟨rfl, rfl⟩, fun f _ _ _ _ _ f6 f7 => by rw [aPut_f f7, aPut_f f6]⟩, by rw [aPut_f (by decide), aPut_f (by decide)], by rw [aPut_r (by decide), aPut_r (by decide)], by rw [aPut_r (by decide), aPut_r (by decide)]⟩
/-- what codes do: of p numbers on the stack at least, so many more -/
def gEff (M M' : Nat → Nat → Int32) (p : Nat) (e : Int) : Prop := gMn M ≤ gMn M' ∧ (∀ i, i < 2000 + gMn M → M' 210 i = M 210 i ∧ M' 211 i = M 211 i) ∧ ∀ S D, S ≤ gMn M → p ≤ D → gDep (M 210) (M 211) (2000 + S) (gMn M - S) = some D → ∃ D', gDep (M' 210) (M' 211) (2000 + S) (gMn M' - S) = some D' ∧ (D' : Int) = D + e
theorem gEff.trans {M M1 M2 : Nat → Nat → Int32} {p1 p2 : Nat} {e1 e2 : Int} (h : gEff M M1 p1 e1) (h' : gEff M1 M2 p2 e2) (hp : (p2 : Int) ≤ p1 + e1) : gEff M M2 p1 (e1 + e2) := by
  obtain ⟨a1, a2, a3⟩ := h
  obtain ⟨b1, b2, b3⟩ := h'
  refine ⟨by omega, fun i hi => ⟨(b2 i (by omega)).1.trans (a2 i hi).1, (b2 i (by omega)).2.trans (a2 i hi).2⟩, fun S D hS hD h => ?_⟩
  obtain ⟨D1, d1, d2⟩ := a3 S D hS hD h
  obtain ⟨D2, d3, d4⟩ := b3 S D1 (by omega) (by omega) d1
  exact ⟨D2, d3, by omega⟩
theorem gEff.refl {M : Nat → Nat → Int32} : gEff M M 0 0 := ⟨Nat.le_refl _, fun _ _ => ⟨rfl, rfl⟩, fun S D _ _ h => ⟨D, h, by omega⟩⟩
theorem gEff.of_eq {M M' : Nat → Nat → Int32} (h1 : M' 188 38 = M 188 38) (h2 : M' 210 = M 210) (h3 : M' 211 = M 211) : gEff M M' 0 0 := by
  have e : gMn M' = gMn M := by unfold gMn; rw [h1]
  refine ⟨by omega, fun _ _ => by rw [h2, h3]; exact ⟨rfl, rfl⟩, fun S D _ _ h => ⟨D, by rw [h2, h3, e]; exact h, by omega⟩⟩
theorem gEm_f {M : Nat → Nat → Int32} {w v : Int} {f : Nat} (hf : f ≠ 38) : gEm M w v 188 f = M 188 f := by
  unfold gEm
  rw [aPut_f hf, aPut_o (by decide), aPut_o (by decide)]
theorem gEm_m {M : Nat → Nat → Int32} {w v : Int} (hm : 0 ≤ (M 188 38).toInt ∧ (M 188 38).toInt < 500) : (gEm M w v 188 38).toInt = (M 188 38).toInt + 1 := by
  unfold gEm
  rw [aPut_e, iR (by omega) (by omega)]
theorem gEm_o {M : Nat → Nat → Int32} {w v : Int} : gEm M w v 210 (2000 + gMn M) = Int32.ofInt w ∨ (M 188 38).toInt < 0 := by
  by_cases q : (M 188 38).toInt < 0
  · exact Or.inr q
  · refine Or.inl ?_
    unfold gEm gMn
    rw [aPut_o (by decide), aPut_o (by decide), show (2000 + (M 188 38).toInt).toNat = 2000 + (M 188 38).toInt.toNat by omega, aPut_e]
theorem gEm_a {M : Nat → Nat → Int32} {w v : Int} : gEm M w v 211 (2000 + gMn M) = Int32.ofInt v ∨ (M 188 38).toInt < 0 := by
  by_cases q : (M 188 38).toInt < 0
  · exact Or.inr q
  · refine Or.inl ?_
    unfold gEm gMn
    rw [aPut_o (by decide), show (2000 + (M 188 38).toInt).toNat = 2000 + (M 188 38).toInt.toNat by omega, aPut_e]
theorem gEm_p {M : Nat → Nat → Int32} {w v : Int} (hm : 0 ≤ (M 188 38).toInt) {i : Nat} (hi : i ≠ 2000 + gMn M) : gEm M w v 210 i = M 210 i ∧ gEm M w v 211 i = M 211 i := by
  unfold gMn at hi
  unfold gEm
  rw [aPut_o (by decide), aPut_o (by decide), aPut_f (by omega), aPut_o (by decide), aPut_f (by omega), aPut_o (by decide)]
  exact ⟨rfl, rfl⟩
theorem gEm_c {M : Nat → Nat → Int32} {w v : Int} {a : Nat} (h1 : a ≠ 188) (h2 : a ≠ 210) (h3 : a ≠ 211) : gEm M w v a = M a := by
  unfold gEm
  rw [aPut_r h1, aPut_r h3, aPut_r h2]
theorem gEm_fr {M : Nat → Nat → Int32} {w v : Int} (hm : 0 ≤ (M 188 38).toInt) : gFr M (gEm M w v) :=
  ⟨fun a a1 a2 a3 => gEm_c a1 a2 a3, fun i hi => gEm_p hm (by omega), fun f _ _ _ _ f5 _ _ => gEm_f f5⟩
theorem gEm_ts {M : Nat → Nat → Int32} {w v : Int} (h : gTs M) : gTs (gEm M w v) := by
  unfold gEm
  exact gTs_put (gTs_put (gTs_put h (by decide) (fun q => absurd q (by decide))) (by decide) (fun q => absurd q (by decide))) (by decide) (fun _ => by decide)
theorem gEm_n {M : Nat → Nat → Int32} {w v : Int} (hm : 0 ≤ (M 188 38).toInt ∧ (M 188 38).toInt < 500) : gMn (gEm M w v) = gMn M + 1 := by
  unfold gMn
  rw [gEm_m hm]
  omega
/-- one code -/
theorem gEm_e {M : Nat → Nat → Int32} {w v : Int} {p : Nat} {e : Int} (hm : 0 ≤ (M 188 38).toInt ∧ (M 188 38).toInt < 500)
    (h : ∀ (O A : Nat → Int32) (s n D : Nat), p ≤ D → D ≤ n → s + n = 2000 + gMn M → gDep O A s n = some D → O (s + n) = Int32.ofInt w → A (s + n) = Int32.ofInt v → (∀ i, i < 2000 + gMn M → O i = M 210 i ∧ A i = M 211 i) → ∃ D', gDep O A s (n + 1) = some D' ∧ (D' : Int) = D + e) : gEff M (gEm M w v) p e := by
  have n1 := gEm_n (w := w) (v := v) hm
  refine ⟨by omega, fun i hi => gEm_p hm.1 (by omega), fun S D hS hD hd => ?_⟩
  have e1 : gDep (gEm M w v 210) (gEm M w v 211) (2000 + S) (gMn M - S) = some D := by
    rw [gDep_eq (gMn M - S) (fun i h1 h2 => gEm_p hm.1 (by omega))]
    exact hd
  have o : gEm M w v 210 (2000 + gMn M) = Int32.ofInt w := by rcases gEm_o (M := M) (w := w) (v := v) with q | q; · exact q
                                                              · omega
  have a : gEm M w v 211 (2000 + gMn M) = Int32.ofInt v := by rcases gEm_a (M := M) (w := w) (v := v) with q | q; · exact q
                                                              · omega
  have hs : 2000 + S + (gMn M - S) = 2000 + gMn M := by omega
  have := h _ _ (2000 + S) (gMn M - S) D hD (gDep_le hd) hs e1 (by rw [hs]; exact o) (by rw [hs]; exact a) (fun i hi => gEm_p hm.1 (by omega))
  rw [n1, show gMn M + 1 - S = gMn M - S + 1 by omega]
  exact this
theorem gDep_up {O A : Nat → Int32} {s n D : Nat} (h : gDep O A s n = some D) : gDep O A s (n + 1) = if O (s + n) = 0 then some (D + 1) else if O (s + n) = 1 then (if 0 ≤ (A (s + n)).toInt ∧ (A (s + n)).toInt < 14 then some (D + 1) else none)
      else if O (s + n) = 9 then (if 1 ≤ D then some D else none) else if 2 ≤ D ∧ (O (s + n) = 5 → 1 ≤ n ∧ O (s + n - 1) = 0 ∧ A (s + n - 1) ≠ 0) then some (D - 1) else none := by
  conv => lhs; unfold gDep
  rw [h]
/-- a number or what is asked -/
theorem gEm_unit {M : Nat → Nat → Int32} {w v : Int} (hm : 0 ≤ (M 188 38).toInt ∧ (M 188 38).toInt < 500) (hw : w = 0 ∨ w = 1 ∧ 0 ≤ v ∧ v < 14) : gEff M (gEm M w v) 0 1 := by
  refine gEm_e hm (fun O A s n D _ _ _ hd ho ha _ => ⟨D + 1, ?_, by omega⟩)
  rw [gDep_up hd, ho, ha]
  rcases hw with rfl | ⟨rfl, h1, h2⟩
  · rw [if_pos (show Int32.ofInt 0 = 0 from by decide)]
  · rw [if_neg (by decide), if_pos (show Int32.ofInt 1 = 1 from by decide), if_pos (by rw [iR (by omega) (by omega)]; exact ⟨h1, h2⟩)]
/-- a not -/
theorem gEm_not {M : Nat → Nat → Int32} {v : Int} (hm : 0 ≤ (M 188 38).toInt ∧ (M 188 38).toInt < 500) : gEff M (gEm M 9 v) 1 0 := by
  refine gEm_e hm (fun O A s n D h1 _ _ hd ho ha _ => ⟨D, ?_, by omega⟩)
  rw [gDep_up hd, ho, if_neg (by decide), if_neg (by decide), if_pos (by decide), if_pos h1]
/-- what joins two -/
theorem gEm_bin {M : Nat → Nat → Int32} {w v : Int} (hm : 0 ≤ (M 188 38).toInt ∧ (M 188 38).toInt < 500) (hw : w = 2 ∨ w = 3 ∨ w = 4 ∨ w = 6 ∨ w = 7 ∨ w = 8 ∨ w = 10 ∨ w = 11 ∨ w = 5 ∧ M 210 (2000 + gMn M - 1) = 0 ∧ M 211 (2000 + gMn M - 1) ≠ 0) : gEff M (gEm M w v) 2 (-1) := by
  refine gEm_e hm (fun O A s n D h2 hn hs hd ho ha hp => ⟨D - 1, ?_, by omega⟩)
  have h5 : O (s + n) = 5 → 1 ≤ n ∧ O (s + n - 1) = 0 ∧ A (s + n - 1) ≠ 0 := by
    intro q
    obtain ⟨p1, p2⟩ := hp (s + n - 1) (by omega)
    rw [p1, p2, hs]
    refine ⟨by omega, ?_⟩
    rw [ho] at q
    rcases hw with rfl | rfl | rfl | rfl | rfl | rfl | rfl | rfl | ⟨rfl, q1, q2⟩
    · exact absurd q (by decide)
    · exact absurd q (by decide)
    · exact absurd q (by decide)
    · exact absurd q (by decide)
    · exact absurd q (by decide)
    · exact absurd q (by decide)
    · exact absurd q (by decide)
    · exact absurd q (by decide)
    · exact ⟨q1, q2⟩
  rw [gDep_up hd, if_neg ?_, if_neg ?_, if_neg ?_, if_pos ⟨h2, h5⟩]
  all_goals
    rw [ho]
    rcases hw with rfl | rfl | rfl | rfl | rfl | rfl | rfl | rfl | ⟨rfl, _⟩ <;> decide
/-- what a part of a text comes to: c codes are still to come when it is done -/
def gDn (M M' : Nat → Nat → Int32) (c e : Int) : Prop := gTs M' ∧ gFr M M' ∧ 0 ≤ (M' 188 38).toInt ∧ (M' 188 38).toInt ≤ 500 ∧ (M 188 26).toInt ≤ (M' 188 26).toInt ∧ (e = -1 ∨ e = 0 ∧ (M' 188 38).toInt + c ≤ (M' 188 26).toInt ∧ (M 188 26).toInt < (M' 188 26).toInt ∧ gEff M M' 0 1)
theorem h65p {X : aX} {d : Nat} {k : Nat → aK} (hk : gKs k) {M : Nat → Nat → Int32} (hp : gPre M) : zRn X (d + 1 + 1 + 1 + 1) 65 [.ref 188] (gH k M) (fun rv h' => ∃ M', rv = none ∧ h' = gH k M' ∧ gRd M M') :=
  h65 hk ⟨hp.1, hp.2.1⟩ hp.2.2.1 hp.2.2.2.2 hp.2.2.2.1
