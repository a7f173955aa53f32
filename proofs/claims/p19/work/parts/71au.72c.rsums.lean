/-! the reference's sums -/
def thV (V : pMem) (i : Nat) : Bool := !decide (V 191 i = 0)
def inL (V : pMem) (p : Int32) (i : Nat) : Bool := thV V i && decide (V 189 i = p)
def lkV (V : pMem) (i j : Nat) : Int32 := V 194 (24 * i + j)
def sgl (b i : Nat) : Bool := decide (i = b)
/-- so many boys; those that are none are nowhere -/
def rNb (V : pMem) (n : Nat) : Prop := n ≤ 24 ∧ (V 188 2).toInt = n ∧ ∀ i, n ≤ i → i < 24 → V 191 i = 0
theorem thV_0 {V : pMem} {n i : Nat} (h : rNb V n) (h1 : n ≤ i) (h2 : i < 24) : thV V i = false := by
  unfold thV
  rw [decide_eq_true (h.2.2 i h1 h2)]
  rfl
theorem inL_0 {V : pMem} {n i : Nat} {p : Int32} (h : rNb V n) (h1 : n ≤ i) (h2 : i < 24) : inL V p i = false := by
  unfold inL
  rw [thV_0 h h1 h2]
  rfl
theorem cS_0 {A B : Nat → Bool} {n : Nat} (hA : ∀ i, n ≤ i → i < 24 → A i = false) (hB : ∀ i, n ≤ i → i < 24 → B i = false) : ∀ i j, i < 24 → j < 24 → (n ≤ i ∨ n ≤ j) → cS A B i j = false := by
  intro i j hi hj h
  unfold cS
  rcases h with h | h
  · rw [hA i h hi]
    rfl
  · rw [hB j h hj, Bool.false_and, Bool.and_false]
/-- what a couple adds -/
def tR (c : Nat → Nat → Bool) (g : Nat → Nat → Int32) (i j : Nat) : Int32 := if c i j = true then g i j else 0
theorem tR_n {c : Nat → Nat → Bool} {g : Nat → Nat → Int32} {i j : Nat} (h : c i j = false) : tR c g i j = 0 := by
  unfold tR
  rw [h]
  rfl
theorem tR_y {c : Nat → Nat → Bool} {g : Nat → Nat → Int32} {i j : Nat} (h : c i j = true) : tR c g i j = g i j := by
  unfold tR
  rw [if_pos h]
def u1 (_ _ : Nat) : Int32 := kI 1
def r54 (c : Nat → Nat → Bool) (M : pMem) (n : Nat) (v : Int32) (N : pMem) : Prop := v = f_43 (s2 c (lkV M) n) (s2 c u1 n) ∧ N = M
theorem r54_24 {c : Nat → Nat → Bool} {M : pMem} {n : Nat} {v : Int32} {N : pMem} (n24 : n ≤ 24) (hc : ∀ i j, i < 24 → j < 24 → (n ≤ i ∨ n ≤ j) → c i j = false) (h : r54 c M n v N) : v = f_43 (s2 c (lkV M) 24) (s2 c (fun _ _ => kI 1) 24) ∧ N = M := by
  refine ⟨?_, h.2⟩
  rw [h.1, s2_ext (g := lkV M) n24 hc, s2_ext (g := fun _ _ => kI 1) n24 hc]
  rfl
/-- heads of such loops -/
def q54 (c : Nat → Nat → Bool) (M : pMem) (n : Nat) (x3 x4 x5 : Int32) (M' : pMem) (v : Int32) (N : pMem) : Prop := ∀ i : Nat, x5.toInt = i → i ≤ n → M' = M → x3 = sm (fun i => sm (tR c (lkV M) i) n) i → x4 = sm (fun i => sm (tR c u1 i) n) i → r54 c M n v N
def q54i (c : Nat → Nat → Bool) (M : pMem) (n : Nat) (x3 x4 x5 x6 : Int32) (M' : pMem) (v : Int32) (N : pMem) : Prop := ∀ i j : Nat, x5.toInt = i → x6.toInt = j → i < n → j ≤ n → M' = M → x3 = sm (fun i => sm (tR c (lkV M) i) n) i + sm (tR c (lkV M) i) j → x4 = sm (fun i => sm (tR c u1 i) n) i + sm (tR c u1 i) j → r54 c M n v N
section Q54
variable {c : Nat → Nat → Bool} {M : pMem} {n : Nat} {x3 x4 x5 x6 : Int32} {v : Int32} {N : pMem} {i j : Nat}
theorem q54_end (hi : x5.toInt = i) (h3 : x3 = sm (fun i => sm (tR c (lkV M) i) n) i) (h4 : x4 = sm (fun i => sm (tR c u1 i) n) i) (e : i = n) : r54 c M n (f_43 x3 x4) M := by
  rw [e] at h3 h4
  exact ⟨by rw [h3, h4]; rfl, rfl⟩
theorem q54_in (hi : x5.toInt = i) (hin : i < n) (h3 : x3 = sm (fun i => sm (tR c (lkV M) i) n) i) (h4 : x4 = sm (fun i => sm (tR c u1 i) n) i) (hs : q54i c M n x3 x4 x5 (kI 0) M v N) : r54 c M n v N :=
  hs i 0 hi rfl hin (Nat.zero_le _) rfl (by rw [h3]; exact (Int32.add_zero _).symm) (by rw [h4]; exact (Int32.add_zero _).symm)
theorem q54_out (n24 : n ≤ 24) (hi : x5.toInt = i) (hin : i < n) (h3 : x3 = sm (fun i => sm (tR c (lkV M) i) n) i + sm (tR c (lkV M) i) j) (h4 : x4 = sm (fun i => sm (tR c u1 i) n) i + sm (tR c u1 i) j) (e : j = n) (hs : q54 c M n x3 x4 (x5 + kI 1) M v N) : r54 c M n v N := by
  rw [e] at h3 h4
  exact hs (i + 1) (n_add1 hi (by omega)) (by omega) rfl (by rw [h3]; rfl) (by rw [h4]; rfl)
theorem q54_no (n24 : n ≤ 24) (hi : x5.toInt = i) (hj : x6.toInt = j) (hin : i < n) (hjn : j < n) (h3 : x3 = sm (fun i => sm (tR c (lkV M) i) n) i + sm (tR c (lkV M) i) j) (h4 : x4 = sm (fun i => sm (tR c u1 i) n) i + sm (tR c u1 i) j) (e : c i j = false) (hs : q54i c M n x3 x4 x5 (x6 + kI 1) M v N) : r54 c M n v N :=
  hs i (j + 1) hi (n_add1 hj (by omega)) hin (by omega) rfl (by rw [h3, sm_s, tR_n e, Int32.add_zero]) (by rw [h4, sm_s, tR_n e, Int32.add_zero])
theorem q54_yes (n24 : n ≤ 24) (hi : x5.toInt = i) (hj : x6.toInt = j) (hin : i < n) (hjn : j < n) (h3 : x3 = sm (fun i => sm (tR c (lkV M) i) n) i + sm (tR c (lkV M) i) j) (h4 : x4 = sm (fun i => sm (tR c u1 i) n) i + sm (tR c u1 i) j) (e : c i j = true) (hs : q54i c M n (x3 + M 194 (ix ((kI 24) * x5 + x6))) (x4 + kI 1) x5 (x6 + kI 1) M v N) : r54 c M n v N := by
  rw [(ix24 hi hj (by omega) (by omega)).2] at hs
  refine hs i (j + 1) hi (n_add1 hj (by omega)) hin (by omega) rfl ?_ ?_
  · rw [h3, sm_s, tR_y e, Int32.add_assoc]
    rfl
  · rw [h4, sm_s, tR_y e, Int32.add_assoc]
    rfl
end Q54
theorem cS_inL {M : pMem} {p1 p2 : Int32} {i j : Nat} : cS (inL M p1) (inL M p2) i j = true ↔ (¬ i = j ∧ ¬ M 191 i = 0 ∧ ¬ M 191 j = 0 ∧ M 189 i = p1 ∧ M 189 j = p2) := by
  have e : cS (inL M p1) (inL M p2) i j = (!decide (M 191 i = 0) && decide (M 189 i = p1) && ((!decide (M 191 j = 0) && decide (M 189 j = p2)) && !decide (i = j))) := rfl
  rw [e]
  simp only [Bool.and_eq_true, Bool.not_eq_true', decide_eq_false_iff_not, decide_eq_true_iff]
  exact ⟨fun e => ⟨e.2.2, e.1.1, e.2.1.1, e.1.2, e.2.1.2⟩, fun e => ⟨⟨e.2.1, e.2.2.2.1⟩, ⟨e.2.2.1, e.2.2.2.2⟩, e.1⟩⟩
theorem D_54_w {p1 p2 : Int32} {n : Nat} {M v N} (hn : rNb M n) (h : D_54 p1 p2 M v N) : v = mnS (inL M p1) (inL M p2) (lkV M) ∧ N = M := by
  obtain ⟨n24, hn2, hn3⟩ := id hn
  have hc := cS_0 (A := inL M p1) (B := inL M p2) (n := n) (fun i h1 h2 => inL_0 hn h1 h2) (fun i h1 h2 => inL_0 hn h1 h2)
  have q : q54 (cS (inL M p1) (inL M p2)) M n (kI 0) (kI 0) (kI 0) M v N := h (q54 (cS (inL M p1) (inL M p2)) M n, q54i (cS (inL M p1) (inL M p2)) M n) ⟨?_, ?_⟩
  · exact r54_24 n24 hc (q 0 rfl (Nat.zero_le _) rfl rfl rfl)
  · intro x3 x4 x5 M' v N hs i hi hin hM h3 h4
    rw [hM] at hs
    rcases hs with ⟨g1, hv, hN⟩ | ⟨g1, hs⟩
    · rw [i_le, hi, hn2] at g1
      rw [hv, hN]
      exact q54_end hi h3 h4 (by omega)
    · rw [i_le, hi, hn2] at g1
      exact q54_in hi (by omega) h3 h4 hs
  · intro x3 x4 x5 x6 M' v N hs i j hi hj hin hjn hM h3 h4
    rw [hM] at hs
    rcases hs with ⟨g1, hs⟩ | ⟨g1, hs⟩
    · rw [i_le, hj, hn2] at g1
      exact q54_out n24 hi hin h3 h4 (by omega) hs
    · rw [i_le, hj, hn2] at g1
      have no : ¬ (¬ i = j ∧ ¬ M 191 i = 0 ∧ ¬ M 191 j = 0 ∧ M 189 i = p1 ∧ M 189 j = p2) → q54i (cS (inL M p1) (inL M p2)) M n x3 x4 x5 (x6 + kI 1) M v N → r54 (cS (inL M p1) (inL M p2)) M n v N := fun q hs =>
        q54_no n24 hi hj hin (by omega) h3 h4 (Bool.eq_false_iff.mpr fun e => q (cS_inL.mp e)) hs
      rcases hs with ⟨g2, hs⟩ | ⟨g2, _, hs⟩
      · exact no (fun q => q.1 (by rw [i_eq, hi, hj] at g2; omega)) hs
      · rw [ix_of hi, ix_of hj] at hs
        rcases hs with ⟨g3, hs⟩ | ⟨g3, _, hs⟩
        · exact no (fun q => q.2.1 g3) hs
        · rcases hs with ⟨g4, hs⟩ | ⟨g4, _, hs⟩
          · exact no (fun q => q.2.2.1 g4) hs
          · rcases hs with ⟨g5, hs⟩ | ⟨g5, _, hs⟩
            · exact no (fun q => g5 q.2.2.2.1) hs
            · rcases hs with ⟨g6, _, hs⟩ | ⟨g6, hs⟩
              · exact q54_yes n24 hi hj hin (by omega) h3 h4 (cS_inL.mpr ⟨fun e => g2 (by rw [i_eq, hi, hj, e]), g3, g4, Classical.not_not.mp g5, g6⟩) hs
              · exact no (fun q => g6 q.2.2.2.2) hs
theorem D_53_w {p1 : Int32} {n : Nat} {M v N} (hn : rNb M n) (hb : ∀ i, i < 24 → bo (M 191 i)) (h : D_53 p1 M v N) : v = kI (cN (inL M p1) 24 : Nat) ∧ N = M := by
  obtain ⟨n24, hn2, hn3⟩ := id hn
  have q := h (fun x2 x3 M' v N => ∀ i : Nat, x3.toInt = i → i ≤ n → M' = M → x2 = kI (cN (inL M p1) i : Nat) → v = kI (cN (inL M p1) n : Nat) ∧ N = M) ?_
  · obtain ⟨q1, q2⟩ := q 0 rfl (Nat.zero_le _) rfl rfl
    refine ⟨?_, q2⟩
    rw [q1, cN_ext n24 (fun i h1 h2 => inL_0 hn h1 h2)]
  · intro x2 x3 M' v N hs i hi hin hM h2
    rcases hs with ⟨g1, hv, hN⟩ | ⟨g1, _, hs⟩
    · rw [hM, i_le, hi, hn2] at g1
      have e : i = n := by omega
      rw [e] at h2
      exact ⟨by rw [hv, h2], by rw [hN, hM]⟩
    · rw [hM, i_le, hi, hn2] at g1
      rw [hM, ix_of hi] at hs
      have no : inL M p1 i = false → x2 = kI (cN (inL M p1) (i + 1) : Nat) := fun e => by
        rw [h2]
        show _ = kI ((cN (inL M p1) i + (if inL M p1 i = true then 1 else 0) : Nat) : Int)
        rw [e]
        rfl
      rcases hs with ⟨g2, hs⟩ | ⟨g2, _, hs⟩
      · refine hs (i + 1) (n_add1 hi (by omega)) (by omega) rfl (no ?_)
        have e : M 191 i = 0 := (hb i (by omega)).resolve_right g2
        unfold inL thV
        rw [decide_eq_true e]
        rfl
      · rcases hs with ⟨g3, hs⟩ | ⟨g3, hs⟩
        · refine hs (i + 1) (n_add1 hi (by omega)) (by omega) rfl (no ?_)
          unfold inL
          rw [decide_eq_false g3, Bool.and_false]
        · refine hs (i + 1) (n_add1 hi (by omega)) (by omega) rfl ?_
          have e : inL M p1 i = true := by
            unfold inL thV
            rw [decide_eq_true (Classical.not_not.mp g3), Classical.not_not.mp g2]
            decide
          rw [h2]
          show _ = kI ((cN (inL M p1) i + (if inL M p1 i = true then 1 else 0) : Nat) : Int)
          rw [if_pos e, kI_n1]
          rfl
/-- all couples across -/
def cX2 (V : pMem) (i j : Nat) : Bool := thV V i && (thV V j && !decide (V 189 i = V 189 j))
theorem cX2_or {V : pMem} (hl : ∀ i, i < 24 → bo (V 189 i)) {i j : Nat} (hi : i < 24) (hj : j < 24) : cX2 V i j = (cS (inL V (kI 0)) (inL V (kI 1)) i j || cS (inL V (kI 1)) (inL V (kI 0)) i j) := by
  unfold cX2 cS inL
  rcases hl i hi with e | e <;> rcases hl j hj with e2 | e2
  · rw [e, e2]
    cases thV V i <;> cases thV V j <;> rfl
  · have ne : ¬ i = j := fun q => by rw [q, e2] at e; exact absurd e (by decide)
    rw [e, e2, decide_eq_false ne]
    cases thV V i <;> cases thV V j <;> rfl
  · have ne : ¬ i = j := fun q => by rw [q, e2] at e; exact absurd e (by decide)
    rw [e, e2, decide_eq_false ne]
    cases thV V i <;> cases thV V j <;> rfl
  · rw [e, e2]
    cases thV V i <;> cases thV V j <;> rfl
theorem cX2_s {V : pMem} (hl : ∀ i, i < 24 → bo (V 189 i)) {g : Nat → Nat → Int32} : s2 (cX2 V) g 24 = s2 (cS (inL V (kI 0)) (inL V (kI 1))) g 24 + s2 (cS (inL V (kI 1)) (inL V (kI 0))) g 24 := by
  rw [← s2_or]
  · exact s2_cg (fun i j hi hj => cX2_or hl hi hj) (fun _ _ _ _ _ => rfl)
  · rintro i j hi hj ⟨a, b⟩
    unfold cS inL at a b
    simp only [Bool.and_eq_true, decide_eq_true_iff] at a b
    rw [a.1.2] at b
    exact absurd b.1.2 (by decide)
theorem cX2_cr {V : pMem} (hl : ∀ i, i < 24 → bo (V 189 i)) : f_43 (s2 (cX2 V) (lkV V) 24) (s2 (cX2 V) (fun _ _ => kI 1) 24) = crS (inL V (kI 0)) (inL V (kI 1)) (lkV V) := by
  have e0 : cN (fun i => inL V (kI 0) i && inL V (kI 1) i) 24 = 0 := by
    rw [cN_ext (n := 0) (by decide)]
    · rfl
    · intro i _ _
      unfold inL
      by_cases e : V 189 i = kI 0
      · rw [e]
        cases thV V i <;> rfl
      · rw [decide_eq_false e, Bool.and_false, Bool.false_and]
  have e1 : cN (fun i => inL V (kI 1) i && inL V (kI 0) i) 24 = 0 := by
    rw [cN_cg (q := fun i => inL V (kI 0) i && inL V (kI 1) i) (fun i _ => Bool.and_comm _ _)]
    exact e0
  unfold crS
  rw [cX2_s hl, cX2_s hl, cS_count, cS_count, e0, e1]
  congr 1
  show kI _ * kI _ - 0 + (kI _ * kI _ - 0) = _
  rw [Int32.sub_zero, Int32.sub_zero, Int32.mul_comm (kI (cN (inL V (kI 1)) 24 : Nat)), ← Int32.two_mul, Int32.mul_assoc]
  rfl
theorem cX2_iff {M : pMem} {i j : Nat} : cX2 M i j = true ↔ (¬ M 191 i = 0 ∧ ¬ M 191 j = 0 ∧ ¬ M 189 i = M 189 j) := by
  have e : cX2 M i j = (!decide (M 191 i = 0) && (!decide (M 191 j = 0) && !decide (M 189 i = M 189 j))) := rfl
  rw [e]
  simp only [Bool.and_eq_true, Bool.not_eq_true', decide_eq_false_iff_not]
theorem D_55_w {n : Nat} {M v N} (hn : rNb M n) (hl : ∀ i, i < 24 → bo (M 189 i)) (h : D_55 M v N) : v = crS (inL M (kI 0)) (inL M (kI 1)) (lkV M) ∧ N = M := by
  obtain ⟨n24, hn2, hn3⟩ := id hn
  have hc : ∀ i j, i < 24 → j < 24 → (n ≤ i ∨ n ≤ j) → cX2 M i j = false := by
    intro i j hi hj h
    unfold cX2
    rcases h with h | h
    · rw [thV_0 hn h hi]
      rfl
    · rw [thV_0 hn h hj, Bool.false_and, Bool.and_false]
  have q : q54 (cX2 M) M n (kI 0) (kI 0) (kI 0) M v N := h (q54 (cX2 M) M n, q54i (cX2 M) M n) ⟨?_, ?_⟩
  · rw [← cX2_cr hl]
    exact r54_24 n24 hc (q 0 rfl (Nat.zero_le _) rfl rfl rfl)
  · intro x3 x4 x5 M' v N hs i hi hin hM h3 h4
    rw [hM] at hs
    rcases hs with ⟨g1, hv, hN⟩ | ⟨g1, hs⟩
    · rw [i_le, hi, hn2] at g1
      rw [hv, hN]
      exact q54_end hi h3 h4 (by omega)
    · rw [i_le, hi, hn2] at g1
      exact q54_in hi (by omega) h3 h4 hs
  · intro x3 x4 x5 x6 M' v N hs i j hi hj hin hjn hM h3 h4
    rw [hM] at hs
    rcases hs with ⟨g1, hs⟩ | ⟨g1, _, hs⟩
    · rw [i_le, hj, hn2] at g1
      exact q54_out n24 hi hin h3 h4 (by omega) hs
    · rw [i_le, hj, hn2] at g1
      have no : ¬ (¬ M 191 i = 0 ∧ ¬ M 191 j = 0 ∧ ¬ M 189 i = M 189 j) → q54i (cX2 M) M n x3 x4 x5 (x6 + kI 1) M v N → r54 (cX2 M) M n v N := fun q hs =>
        q54_no n24 hi hj hin (by omega) h3 h4 (Bool.eq_false_iff.mpr fun e => q (cX2_iff.mp e)) hs
      rw [ix_of hi, ix_of hj] at hs
      rcases hs with ⟨g3, hs⟩ | ⟨g3, _, hs⟩
      · exact no (fun q => q.1 g3) hs
      · rcases hs with ⟨g4, hs⟩ | ⟨g4, _, _, hs⟩
        · exact no (fun q => q.2.1 g4) hs
        · rcases hs with ⟨g6, _, hs⟩ | ⟨g6, hs⟩
          · exact q54_yes n24 hi hj hin (by omega) h3 h4 (cX2_iff.mpr ⟨g3, g4, g6⟩) hs
          · exact no (fun q => g6 q.2.2) hs
/-! for one boy -/
theorem s2_col {A : Nat → Bool} {g : Nat → Nat → Int32} {b n : Nat} (hb : b < n) : s2 (cS A (sgl b)) g n = sm (fun i => if (A i && !decide (i = b)) = true then g i b else 0) n := by
  refine sm_cg fun i hi => ?_
  have e : sm (fun j => if cS A (sgl b) i j = true then g i j else 0) n = sm (fun j => if j = b then (if (A i && !decide (i = b)) = true then g i b else 0) else 0) n := by
    refine sm_cg fun j _ => ?_
    unfold cS sgl
    by_cases h : j = b
    · subst h
      rw [if_pos rfl, decide_eq_true rfl, Bool.true_and]
    · rw [if_neg h, decide_eq_false h, Bool.false_and, Bool.and_false]
      rfl
  rw [e, sm_one, if_pos hb]
theorem s2_row {B : Nat → Bool} {g : Nat → Nat → Int32} {b n : Nat} (hb : b < n) : s2 (cS (sgl b) B) g n = sm (fun j => if (B j && !decide (j = b)) = true then g b j else 0) n := by
  have e : s2 (cS (sgl b) B) g n = sm (fun i => if i = b then sm (fun j => if (B j && !decide (j = b)) = true then g b j else 0) n else 0) n := by
    refine sm_cg fun i _ => ?_
    by_cases h : i = b
    · subst h
      rw [if_pos rfl]
      refine sm_cg fun j _ => ?_
      unfold cS sgl
      rw [decide_eq_true rfl, Bool.true_and]
      by_cases q : i = j
      · rw [decide_eq_true q, decide_eq_true q.symm]
      · rw [decide_eq_false q, decide_eq_false (fun r => q r.symm)]
    · rw [if_neg h]
      refine sm_0 fun j _ => ?_
      unfold cS sgl
      rw [decide_eq_false h]
      rfl
  rw [e, sm_one, if_pos hb]
/-- of whom the others are asked, and what -/
def fr56 (V : pMem) (b : Nat) (p2 : Int32) (j : Nat) : Bool := (!decide (V 191 j = 0) && (if p2 = kI 1 then !decide (V 189 j = V 189 b) else decide (V 189 j = V 189 b))) && !decide (j = b)
def lk56 (V : pMem) (b : Nat) (p2 : Int32) (j : Nat) : Int32 := if p2 = kI 2 then lkV V b j else lkV V j b
def t56 (V : pMem) (b : Nat) (p2 : Int32) (g : Nat → Int32) (j : Nat) : Int32 := if fr56 V b p2 j = true then g j else 0
def mf56 (V : pMem) (b : Nat) (p2 : Int32) : Int32 := f_43 (sm (t56 V b p2 (lk56 V b p2)) 24) (sm (t56 V b p2 (fun _ => kI 1)) 24)
theorem t56_n {V : pMem} {b : Nat} {p2 : Int32} {g : Nat → Int32} {j : Nat} (h : fr56 V b p2 j = false) : t56 V b p2 g j = 0 := by
  unfold t56
  rw [h]
  rfl
theorem D_56_w {p1 p2 : Int32} {n b : Nat} {M v N} (hn : rNb M n) (hb : p1.toInt = b) (hbn : b < n) (h : D_56 p1 p2 M v N) : v = mf56 M b p2 ∧ N = M := by
  obtain ⟨n24, hn2, hn3⟩ := id hn
  have ext : ∀ g, sm (t56 M b p2 g) 24 = sm (t56 M b p2 g) n := fun g => sm_ext n24 fun i h1 h2 => t56_n (by
    unfold fr56
    rw [decide_eq_true (hn3 i h1 h2)]
    rfl)
  have q := h (fun x3 x4 x5 M' v N => ∀ i : Nat, x5.toInt = i → i ≤ n → M' = M → x3 = sm (t56 M b p2 (lk56 M b p2)) i → x4 = sm (t56 M b p2 (fun _ => kI 1)) i → v = f_43 (sm (t56 M b p2 (lk56 M b p2)) n) (sm (t56 M b p2 (fun _ => kI 1)) n) ∧ N = M) ?_
  · obtain ⟨q1, q2⟩ := q 0 rfl (Nat.zero_le _) rfl rfl rfl
    refine ⟨?_, q2⟩
    unfold mf56
    rw [q1, ext, ext]
  · intro x3 x4 x5 M' v N hs i hi hin hM h3 h4
    rw [hM] at hs
    rcases hs with ⟨g1, hv, hN⟩ | ⟨g1, hs⟩
    · rw [i_le, hi, hn2] at g1
      have e : i = n := by omega
      rw [e] at h3 h4
      exact ⟨by rw [hv, h3, h4], hN⟩
    · rw [i_le, hi, hn2] at g1
      have no : ∀ {P : Prop}, fr56 M b p2 i = false → ((∀ i' : Nat, (x5 + kI 1).toInt = i' → i' ≤ n → M = M → x3 = sm (t56 M b p2 (lk56 M b p2)) i' → x4 = sm (t56 M b p2 (fun _ => kI 1)) i' → P) → P) := fun e hs =>
        hs (i + 1) (n_add1 hi (by omega)) (by omega) rfl (by rw [h3, sm_s, t56_n e, Int32.add_zero]) (by rw [h4, sm_s, t56_n e, Int32.add_zero])
      have yes : ∀ {P : Prop} {y : Int32}, fr56 M b p2 i = true → y = lk56 M b p2 i → ((∀ i' : Nat, (x5 + kI 1).toInt = i' → i' ≤ n → M = M → x3 + y = sm (t56 M b p2 (lk56 M b p2)) i' → x4 + kI 1 = sm (t56 M b p2 (fun _ => kI 1)) i' → P) → P) := fun e ey hs =>
        hs (i + 1) (n_add1 hi (by omega)) (by omega) rfl (by rw [h3, sm_s, ey]; unfold t56; rw [if_pos e]) (by rw [h4, sm_s]; show _ = _ + t56 M b p2 (fun _ => kI 1) i; unfold t56; rw [if_pos e])
      rcases hs with ⟨g2, hs⟩ | ⟨g2, _, hs⟩
      · exact no (by unfold fr56; rw [decide_eq_true (show i = b by rw [i_eq, hi, hb] at g2; omega), Bool.not_true, Bool.and_false]) hs
      · have ne : ¬ i = b := fun e => g2 (by rw [i_eq, hi, hb, e])
        rw [ix_of hi, ix_of hb, (ix24 hi hb (by omega) (by omega)).2, (ix24 hb hi (by omega) (by omega)).2] at hs
        rcases hs with ⟨g3, hs⟩ | ⟨g3, _, _, hs⟩
        · exact no (by unfold fr56; rw [decide_eq_true g3]; rfl) hs
        · rcases hs with ⟨g4, hs⟩ | ⟨g4, hs⟩
          · rcases hs with ⟨g5, hs⟩ | ⟨g5, hs⟩
            · have ok : fr56 M b p2 i = true := by
                unfold fr56
                rw [decide_eq_false g3, decide_eq_false ne, if_pos g5, decide_eq_false g4]
                rfl
              rcases hs with ⟨g6, _, hs⟩ | ⟨g6, _, hs⟩
              · exact yes ok (by unfold lk56; rw [if_neg g6]; rfl) hs
              · exact yes ok (by unfold lk56; rw [if_pos (Classical.not_not.mp g6)]; rfl) hs
            · exact no (by unfold fr56; rw [if_neg g5, decide_eq_false g4, Bool.and_false]; rfl) hs
          · have g4 := Classical.not_not.mp g4
            rcases hs with ⟨g5, hs⟩ | ⟨g5, hs⟩
            · exact no (by unfold fr56; rw [if_pos g5, decide_eq_true g4, Bool.not_true, Bool.and_false]; rfl) hs
            · have ok : fr56 M b p2 i = true := by
                unfold fr56
                rw [decide_eq_false g3, decide_eq_false ne, if_neg g5, decide_eq_true g4]
                rfl
              rcases hs with ⟨g6, _, hs⟩ | ⟨g6, _, hs⟩
              · exact yes ok (by unfold lk56; rw [if_neg g6]; rfl) hs
              · exact yes ok (by unfold lk56; rw [if_pos (Classical.not_not.mp g6)]; rfl) hs
/-- as the class has it -/
theorem mf56_0 {V : pMem} {b : Nat} (hb : b < 24) : mf56 V b (kI 0) = mnS (inL V (V 189 b)) (sgl b) (lkV V) := by
  unfold mf56 mnS
  rw [s2_col hb, s2_col hb]
  rfl
theorem mf56_1 {V : pMem} {b : Nat} (hb : b < 24) (hl : ∀ i, i < 24 → bo (V 189 i)) : mf56 V b (kI 1) = mnS (inL V (kI 1 - V 189 b)) (sgl b) (lkV V) := by
  unfold mf56 mnS
  rw [s2_col hb, s2_col hb]
  have e : ∀ i, i < 24 → fr56 V b (kI 1) i = (inL V (kI 1 - V 189 b) i && !decide (i = b)) := fun i hi => by
    unfold fr56 inL thV
    rw [if_pos rfl]
    congr 2
    rcases hl i hi with q | q <;> rcases hl b hb with r | r <;> rw [q, r] <;> decide
  have e2 : ∀ g : Nat → Int32, sm (t56 V b (kI 1) g) 24 = sm (fun i => if (inL V (kI 1 - V 189 b) i && !decide (i = b)) = true then g i else 0) 24 := fun g => sm_cg fun i hi => by
    unfold t56
    rw [e i hi]
  rw [e2, e2]
  rfl
theorem mf56_2 {V : pMem} {b : Nat} (hb : b < 24) : mf56 V b (kI 2) = mnS (sgl b) (inL V (V 189 b)) (lkV V) := by
  unfold mf56 mnS
  rw [s2_row hb, s2_row hb]
  rfl
/-! draws, scores -/
def drV (x : Int32) : Int32 := pRem (pUsr (xDraw x) (kI 8)) (kI 10)
theorem D_234_v {w : Nat} {M v N} (h : D_234 w M v N) : v = drV (M w 5) ∧ N = aPut M w 5 (xDraw (M w 5)) := by
  obtain ⟨M1, e1, _, hv, hN⟩ := h
  rw [hv, hN, e1, aPut_same]
  exact ⟨rfl, rfl⟩
theorem D_51_v {M v N} (h : D_51 (kI 10) M v N) : v = drV (M 188 1) ∧ N = aPut M 188 1 (xDraw (M 188 1)) := by
  obtain ⟨M1, e1, _, hv, hN⟩ := h
  rw [hv, hN, e1, aPut_same]
  exact ⟨rfl, rfl⟩
/-- the strengths of a set -/
def stS (A : Nat → Bool) (s : Nat → Int32) (n : Nat) : Int32 := sm (fun i => if A i = true then s i else 0) n
theorem stS_cg {A B : Nat → Bool} {s t : Nat → Int32} {n : Nat} (hA : ∀ i, i < n → A i = B i) (hs : ∀ i, i < n → s i = t i) : stS A s n = stS B t n := sm_cg fun i hi => by rw [hA i hi, hs i hi]
theorem stS_s {A : Nat → Bool} {s : Nat → Int32} {n : Nat} : stS A s (n + 1) = stS A s n + (if A n = true then s n else 0) := rfl
theorem D_233_v {w : Nat} (hw : pK 10 w = true) {p1 : Int32} {M v N} (h1 : nb (f_226 w p1 M)) (h : D_233 w p1 M v N) : v = f_43 (mnS (bt (f_226 w p1 M)) (bt (f_226 w p1 M)) (lkW M w)) (kI 5) + drV (M w 5) + stS (bt (f_226 w p1 M)) (M (w + 1)) 24 ∧ N = aPut M w 5 (xDraw (M w 5)) := by
  obtain ⟨v1, M1, h231, _, v2, M2, h234, hL⟩ := h
  obtain ⟨a1, a2⟩ := D_231_w h1 h1 h231
  rw [a2] at h234
  obtain ⟨b1, b2⟩ := D_234_v h234
  have q := hL (fun x2 x3 x4 M' v N => ∀ i : Nat, x4.toInt = i → i ≤ 24 → x2 = f_226 w p1 M → M' = M2 → x3 = pFd v1 (kI 5) + v2 + stS (bt (f_226 w p1 M)) (M (w + 1)) i → v = pFd v1 (kI 5) + v2 + stS (bt (f_226 w p1 M)) (M (w + 1)) 24 ∧ N = M2) ?_
  · obtain ⟨q1, q2⟩ := q 0 rfl (Nat.zero_le _) rfl rfl (Int32.add_zero _).symm
    refine ⟨?_, q2.trans b2⟩
    rw [q1, a1, b1, fd_43 (by decide)]
  · intro x2 x3 x4 M' v N hs i hi hi24 h2 hM h3
    rw [hM, h2] at hs
    rcases hs with ⟨g, hv, hN⟩ | ⟨g, hs⟩
    · rw [i_le, hi, kI_toInt (by decide) (by decide)] at g
      have e : i = 24 := by omega
      rw [e] at h3
      exact ⟨by rw [hv, h3], hN⟩
    · rw [i_le, hi, kI_toInt (by decide) (by decide)] at g
      rcases hs with ⟨g2, hs⟩ | ⟨g2, _, hs⟩
      · have g2 := (f37_n hi (by omega)).mp g2
        refine hs (i + 1) (n_add1 hi (by omega)) (by omega) rfl rfl ?_
        rw [h3, stS_s, g2]
        rw [if_neg (by decide), Int32.add_zero]
      · have g2 := (f37_y hi (by omega)).mp g2
        refine hs (i + 1) (n_add1 hi (by omega)) (by omega) rfl rfl ?_
        rw [h3, stS_s, if_pos g2, ix_of hi, Int32.add_assoc, b2, aPut_cell (by omega)]
theorem D_90_v {p1 : Int32} {n : Nat} {M v N} (hn : rNb M n) (hb : ∀ i, i < 24 → bo (M 191 i)) (h : D_90 p1 M v N) : v = f_43 (mnS (inL M p1) (inL M p1) (lkV M)) (kI 5) + drV (M 188 1) + stS (inL M p1) (M 190) 24 ∧ N = aPut M 188 1 (xDraw (M 188 1)) := by
  obtain ⟨n24, hn2, hn3⟩ := id hn
  have q := h (fun x2 x3 M' v N => ∀ i : Nat, x3.toInt = i → i ≤ n → M' = M → x2 = stS (inL M p1) (M 190) i → v = stS (inL M p1) (M 190) n + f_43 (mnS (inL M p1) (inL M p1) (lkV M)) (kI 5) + drV (M 188 1) ∧ N = aPut M 188 1 (xDraw (M 188 1))) ?_
  · obtain ⟨q1, q2⟩ := q 0 rfl (Nat.zero_le _) rfl rfl
    refine ⟨?_, q2⟩
    have e : stS (inL M p1) (M 190) 24 = stS (inL M p1) (M 190) n := sm_ext n24 (fun i h1 h2 => by rw [inL_0 hn h1 h2]; rfl)
    rw [q1, e, Int32.add_assoc, Int32.add_comm]
  · intro x2 x3 M' v N hs i hi hin hM h2
    rw [hM] at hs
    rcases hs with ⟨g1, v1, M1, h54, v2, M2, h51, hv, hN⟩ | ⟨g1, _, hs⟩
    · rw [i_le, hi, hn2] at g1
      have e : i = n := by omega
      obtain ⟨a1, a2⟩ := D_54_w hn h54
      rw [a2] at h51
      obtain ⟨b1, b2⟩ := D_51_v h51
      rw [hv, hN, h2, a1, b1, b2, e]
      exact ⟨rfl, rfl⟩
    · rw [i_le, hi, hn2] at g1
      rw [ix_of hi] at hs
      have no : inL M p1 i = false → x2 = stS (inL M p1) (M 190) (i + 1) := fun e => by
        rw [h2, stS_s, e, if_neg (by decide), Int32.add_zero]
      rcases hs with ⟨g2, hs⟩ | ⟨g2, _, hs⟩
      · refine hs (i + 1) (n_add1 hi (by omega)) (by omega) rfl (no ?_)
        have e : M 191 i = 0 := (hb i (by omega)).resolve_right g2
        unfold inL thV
        rw [decide_eq_true e]
        rfl
      · rcases hs with ⟨g3, hs⟩ | ⟨g3, _, hs⟩
        · refine hs (i + 1) (n_add1 hi (by omega)) (by omega) rfl (no ?_)
          unfold inL
          rw [decide_eq_false g3, Bool.and_false]
        · refine hs (i + 1) (n_add1 hi (by omega)) (by omega) rfl ?_
          have e : inL M p1 i = true := by
            unfold inL thV
            rw [decide_eq_true (Classical.not_not.mp g3), Classical.not_not.mp g2]
            decide
          rw [h2, stS_s, if_pos e]
