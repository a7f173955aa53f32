/-! woods on both sides -/
/-- the reference's boys, as they may be -/
def rV (V : pMem) : Prop := (∃ n, rNb V n) ∧ (∀ i, i < 24 → bo (V 189 i) ∧ bo (V 191 i)) ∧ (∀ k, k < 576 → bo (V 195 k)) ∧ ∀ l, l < 2 → 0 ≤ (V 196 l).toInt
/-- the class's wood w holds what V says -/
def rW (w : Nat) (M V : pMem) : Prop := M w 0 = V 188 2 ∧ (nb (M w 1) ∧ nb (M w 2)) ∧
  (∀ i, i < 24 → bt (M w 1) i = decide (V 189 i = kI 1) ∧ bt (M w 2) i = decide (V 191 i = kI 1) ∧ M (w + 1) i = V 190 i) ∧
  (∀ i j, i < 24 → j < 24 → bt (M (w + 2) i) j = decide (V 195 (24 * i + j) = kI 1) ∧ M (w + 3) (24 * i + j) = V 194 (24 * i + j)) ∧
  (M w 4 = V 188 3 ∧ M w 5 = V 188 1 ∧ M w 6 = V 188 17 ∧ M w 7 = V 188 18 ∧ M w 8 = V 188 19 ∧ M w 9 = V 188 20 ∧ M w 10 = V 188 21) ∧
  ∀ l, l < 2 → M (w + 4) (6 + l) = V 196 l ∧ M (w + 4) (8 + l) = V 197 l ∧ M (w + 4) (10 + l) = V 198 l ∧ M (w + 4) (12 + l) = V 199 l ∧ M (w + 4) (16 + l) = V 200 l
theorem rW_eq {w : Nat} {M N V : pMem} (h : rW w M V) (e : ∀ j, j < 5 → N (w + j) = M (w + j)) : rW w N V := by
  unfold rW
  have e0 : N w = M w := e 0 (by decide)
  rw [e0, e 1 (by decide), e 2 (by decide), e 3 (by decide), e 4 (by decide)]
  exact h
/-- where both say the same of a wood -/
def agV (V U : pMem) : Prop := (U 188 1 = V 188 1 ∧ U 188 2 = V 188 2 ∧ U 188 3 = V 188 3 ∧ U 188 17 = V 188 17 ∧ U 188 18 = V 188 18 ∧ U 188 19 = V 188 19 ∧ U 188 20 = V 188 20 ∧ U 188 21 = V 188 21) ∧
  (∀ i, i < 24 → U 189 i = V 189 i ∧ U 190 i = V 190 i ∧ U 191 i = V 191 i) ∧ (∀ k, k < 576 → U 194 k = V 194 k ∧ U 195 k = V 195 k) ∧
  ∀ l, l < 2 → U 196 l = V 196 l ∧ U 197 l = V 197 l ∧ U 198 l = V 198 l ∧ U 199 l = V 199 l ∧ U 200 l = V 200 l
theorem rV_cg {V U : pMem} (h : rV V) (a : agV V U) : rV U := by
  obtain ⟨⟨n, n1, n2, n3⟩, h2, h3, h4⟩ := h
  obtain ⟨⟨_, b2, _⟩, c, d, e⟩ := a
  refine ⟨⟨n, n1, by rw [b2]; exact n2, fun i h1 h2 => by rw [(c i h2).2.2]; exact n3 i h1 h2⟩, fun i hi => by rw [(c i hi).1, (c i hi).2.2]; exact h2 i hi, fun k hk => by rw [(d k hk).2]; exact h3 k hk, fun l hl => by rw [(e l hl).1]; exact h4 l hl⟩
theorem rW_cg {w : Nat} {M V U : pMem} (h : rW w M V) (a : agV V U) : rW w M U := by
  obtain ⟨h1, h2, h3, h4, h5, h6⟩ := h
  obtain ⟨⟨b1, b2, b3, b4, b5, b6, b7, b8⟩, c, d, e⟩ := a
  refine ⟨by rw [b2]; exact h1, h2, fun i hi => by rw [(c i hi).1, (c i hi).2.1, (c i hi).2.2]; exact h3 i hi, fun i j hi hj => by rw [(d _ (by omega)).1, (d _ (by omega)).2]; exact h4 i j hi hj, by rw [b1, b3, b4, b5, b6, b7, b8]; exact h5, fun l hl => by rw [(e l hl).1, (e l hl).2.1, (e l hl).2.2.1, (e l hl).2.2.2.1, (e l hl).2.2.2.2]; exact h6 l hl⟩
theorem wCell {w : Nat} (h : pK 10 w = true) : ∀ j, j < 5 → w + j < 132 ∨ (137 < w + j ∧ w + j < 188) := by
  obtain ⟨h1, h2⟩ := pKi h
  have c : ∀ a, a < 230 → (pC a).1 = 10 → ∀ j, j < 5 → a + j < 132 ∨ (137 < a + j ∧ a + j < 188) := by decide +kernel
  exact c w h1 h2
theorem thV_y {V : pMem} (h : rV V) {i : Nat} (hi : i < 24) : thV V i = decide (V 191 i = kI 1) := by
  unfold thV
  rcases (h.2.1 i hi).2 with e | e <;> rw [e] <;> decide
/-- the members of a lot -/
theorem mem_w {w : Nat} {M V : pMem} (hV : rV V) (h : rW w M V) {p : Int32} (hp : bo p) : (∀ i, i < 24 → bt (f_226 w p M) i = inL V p i) ∧ nb (f_226 w p M) := by
  obtain ⟨_, ⟨n1, n2⟩, h3, _⟩ := h
  have e : f_226 w p M = if ¬ p = 0 then ((M w 2) &&& (M w 1)) else ((M w 2) &&& ((M w 1) ^^^ (kI (-1)))) := rfl
  rcases hp with rfl | rfl
  · have e0 : f_226 w (kI 0) M = (M w 2) &&& ((M w 1) ^^^ (kI (-1))) := rfl
    refine ⟨fun i hi => ?_, fun i hi => by rw [e0, bt_and, n2 i hi, Bool.false_and]⟩
    rw [e0, bt_and, bt_not (by omega), (h3 i hi).1, (h3 i hi).2.1]
    unfold inL
    rw [thV_y hV hi]
    congr 1
    rcases (hV.2.1 i hi).1 with q | q <;> rw [q] <;> decide
  · have e0 : f_226 w (kI 1) M = (M w 2) &&& (M w 1) := rfl
    refine ⟨fun i hi => ?_, fun i hi => by rw [e0, bt_and, n2 i hi, Bool.false_and]⟩
    rw [e0, bt_and, (h3 i hi).1, (h3 i hi).2.1]
    unfold inL
    rw [thV_y hV hi]
theorem f225_V {w : Nat} {M V : pMem} (hV : rV V) (h : rW w M V) {p : Int32} {i : Nat} (hp : p.toInt = i) (hi : i < 24) : f_225 w p M = V 189 i := by
  have e : f_225 w p M = (pUsr (M w 1) p) &&& kI 1 := rfl
  rw [e, usr1 hp (by omega), (h.2.2.1 i hi).1]
  rcases (hV.2.1 i hi).1 with q | q <;> rw [q] <;> decide
theorem f37_th {w : Nat} {M V : pMem} (hV : rV V) (h : rW w M V) {p : Int32} {i : Nat} (hp : p.toInt = i) (hi : i < 24) : (f_37 (M w 2) p = 0 ↔ thV V i = false) ∧ (¬ f_37 (M w 2) p = 0 ↔ thV V i = true) := by
  rw [f37_n hp (by omega), (h.2.2.1 i hi).2.1, ← thV_y hV hi]
  exact ⟨Iff.rfl, by cases thV V i <;> simp⟩
theorem lkW_V {w : Nat} {M V : pMem} (h : rW w M V) {i j : Nat} (hi : i < 24) (hj : j < 24) : lkW M w i j = lkV V i j := (h.2.2.2.1 i j hi hj).2
/-- a put either way -/
theorem tB {α : Type} {c : Prop} [Decidable c] {g g' : Prop} {M : pMem} {a j : Nat} {K : pMem → pT α} {v : α} {N : pMem} (h : tIf (¬ c) (tGd g (tPut (aPut M a j (kI 0)) K)) (tGd g' (tPut (aPut M a j (kI 1)) K)) v N) : tPut (aPut M a j (if c then kI 1 else kI 0)) K v N := by
  rcases h with ⟨q, _, h⟩ | ⟨q, _, h⟩
  · rw [if_neg q]; exact h
  · rw [if_pos (Classical.not_not.mp q)]; exact h
theorem tB0 {α : Type} {c : Prop} [Decidable c] {g g' : Prop} {M : pMem} {a j : Nat} {K : pMem → pT α} {v : α} {N : pMem} (h : tIf c (tGd g (tPut (aPut M a j (kI 0)) K)) (tGd g' (tPut (aPut M a j (kI 1)) K)) v N) : tPut (aPut M a j (if c then kI 0 else kI 1)) K v N := by
  rcases h with ⟨q, _, h⟩ | ⟨q, _, h⟩
  · rw [if_pos q]; exact h
  · rw [if_neg q]; exact h
/-! what a law may ask, out of what V says -/
def FdV (V : pMem) (lot : Int32) (k : Nat) : Int32 := if k = 7 then (if V 188 21 = lot then kI 1 else kI 0) else if k = 6 then (if V 188 20 = kI 1 - lot then kI 1 else kI 0) else if k = 5 then (if V 188 20 = lot then kI 1 else kI 0) else if k = 2 then V 188 19 else if k = 1 then V 188 18 else if k = 0 then V 188 17 else kI 0
def FcV (V : pMem) (i j k : Nat) : Int32 := if k = 10 then V 190 j else if k = 9 then lkV V j i else if k = 8 then lkV V i j else if k = 4 then V 195 (24 * i + j) else if k = 3 then (if V 189 i = V 189 j then kI 1 else kI 0) else FdV V (V 189 i) k
def FlV (V : pMem) (lot : Int32) (k : Nat) : Int32 := if k = 13 then kI (cN (inL V lot) 24 : Nat) else if k = 12 then mnS (inL V lot) (inL V (kI 1 - lot)) (lkV V) else if k = 11 then mnS (inL V lot) (inL V lot) (lkV V) else FdV V lot k
def FbV (V : pMem) (b k : Nat) : Int32 := if k = 13 then kI (cN (inL V (V 189 b)) 24 : Nat) else if k = 10 then V 190 b else if k = 8 then mnS (sgl b) (inL V (V 189 b)) (lkV V) else if k = 12 then mnS (inL V (kI 1 - V 189 b)) (sgl b) (lkV V) else if k = 11 then mnS (inL V (V 189 b)) (sgl b) (lkV V) else FdV V (V 189 b) k
/-- the lot of the others -/
theorem bo_o {p : Int32} (h : bo p) : bo (kI 1 - p) := by
  rcases h with rfl | rfl
  · exact Or.inr (by decide)
  · exact Or.inl (by decide)
/-- a mean that the class takes of two sets -/
theorem mn_w {w : Nat} {M V : pMem} (h : rW w M V) {x y : Int32} {A B : Nat → Bool} (hx : ∀ i, i < 24 → bt x i = A i) (hy : ∀ i, i < 24 → bt y i = B i) : mnS (bt x) (bt y) (lkW M w) = mnS A B (lkV V) := mnS_cg hx hy fun _ _ hi hj => lkW_V h hi hj
theorem sgl_w {p : Int32} {b : Nat} (hp : p.toInt = b) (hb : b < 24) : (∀ i, i < 24 → bt (kI 1 <<< (p &&& 31)) i = sgl b i) ∧ nb (kI 1 <<< (p &&& 31)) := by
  refine ⟨fun i _ => bt_sh hp (by omega), fun i hi => ?_⟩
  rw [bt_sh hp (by omega), decide_eq_false (by omega)]


/-! the class's facts (row 132) -/
theorem filc_w {p1 : Int32} {M v N} (h : D_240_132 p1 M v N) : (∀ k, k < 14 → N 132 k = p1) ∧ ∀ b, b ≠ 132 → N b = M b := by
  have q := h (fun x2 x3 M' v N => ∀ i : Nat, x2.toInt = i → i ≤ 14 → x3 = Int32.ofNat 14 → (∀ k, k < i → M' 132 k = p1) → (∀ b, b ≠ 132 → M' b = M b) → (∀ k, k < 14 → N 132 k = p1) ∧ ∀ b, b ≠ 132 → N b = M b) ?_
  · exact q 0 rfl (Nat.zero_le _) rfl (fun k hk => absurd hk (Nat.not_lt_zero k)) (fun _ _ => rfl)
  · intro x2 x3 M' v N hs i hi hi14 h3 hk hb
    have k14 : (Int32.ofNat 14).toInt = 14 := rfl
    rcases hs with ⟨g, _, hN⟩ | ⟨g, _, M1, e1, hs⟩
    · rw [h3, i_le, hi, k14] at g
      rw [hN]
      exact ⟨fun k hk2 => hk k (by omega), hb⟩
    · rw [h3, i_le, hi, k14] at g
      rw [ix_of hi] at e1
      refine hs (i + 1) (n_add1 hi (by omega)) (by omega) h3 (fun k hk2 => ?_) (fun b hb2 => ?_)
      · rw [e1, aPut_row]
        by_cases e : k = i
        · rw [if_pos e]
        · rw [if_neg e]
          exact hk k (by omega)
      · rw [← hb b hb2, e1]
        funext j
        exact aPut_cell hb2
theorem D_165c_w {w : Nat} (hw : pK 10 w = true) {M V : pMem} (h : rW w M V) {p2 : Int32} {v N} (hD : D_165c w p2 M v N) : (∀ k, k < 14 → N 132 k = FdV V p2 k) ∧ ∀ b, b ≠ 132 → N b = M b := by
  obtain ⟨_, M1, hf, hD⟩ := hD
  obtain ⟨f1, f2⟩ := filc_w hf
  obtain ⟨_, M2, e2, _, M3, e3, _, M4, e4, hD⟩ := hD
  have hD := tB hD
  obtain ⟨M5, e5, hD⟩ := hD
  have hD := tB hD
  obtain ⟨M6, e6, hD⟩ := hD
  have hD := tB hD
  obtain ⟨M7, e7, _, hN⟩ := hD
  have c := wCell hw 0 (by decide)
  have w0 : w ≠ 132 := by omega
  have q1 : M1 w = M w := f2 w w0
  have c2 : ∀ b, b ≠ 132 → M2 b = M1 b := fun b hb => by rw [e2]; funext j; exact aPut_cell hb
  have c3 : ∀ b, b ≠ 132 → M3 b = M1 b := fun b hb => by rw [← c2 b hb, e3]; funext j; exact aPut_cell hb
  have c4 : ∀ b, b ≠ 132 → M4 b = M1 b := fun b hb => by rw [← c3 b hb, e4]; funext j; exact aPut_cell hb
  have c5 : ∀ b, b ≠ 132 → M5 b = M1 b := fun b hb => by rw [← c4 b hb, e5]; funext j; exact aPut_cell hb
  have c6 : ∀ b, b ≠ 132 → M6 b = M1 b := fun b hb => by rw [← c5 b hb, e6]; funext j; exact aPut_cell hb
  have c7 : ∀ b, b ≠ 132 → M7 b = M1 b := fun b hb => by rw [← c6 b hb, e7]; funext j; exact aPut_cell hb
  obtain ⟨_, _, _, _, ⟨_, _, t6, t7, t8, t9, t10⟩, _⟩ := h
  rw [q1, t6] at e2
  rw [c2 w w0, q1, t7] at e3
  rw [c3 w w0, q1, t8] at e4
  rw [c4 w w0, q1, t9] at e5
  rw [c5 w w0, q1, t9] at e6
  rw [c6 w w0, q1, t10] at e7
  rw [hN]
  refine ⟨fun k hk => ?_, fun b hb => by rw [c7 b hb, f2 b hb]⟩
  rw [e7, aPut_row, e6, aPut_row, e5, aPut_row, e4, aPut_row, e3, aPut_row, e2, aPut_row, f1 k hk]
  rfl
theorem D_166c_w {w : Nat} (hw : pK 10 w = true) {M V : pMem} (hV : rV V) (h : rW w M V) {p2 p3 : Int32} {i j : Nat} (hi : p2.toInt = i) (hj : p3.toInt = j) (hi24 : i < 24) (hj24 : j < 24) {v N} (hD : D_166c w p2 p3 M v N) : (∀ k, k < 14 → N 132 k = FcV V i j k) ∧ ∀ b, b ≠ 132 → N b = M b := by
  obtain ⟨_, M1, h165, hD⟩ := hD
  rw [f225_V hV h hi hi24] at h165
  obtain ⟨f1, f2⟩ := D_165c_w hw h h165
  have nw : ∀ j, j < 5 → w + j ≠ 132 := fun j hj => by have := wCell hw j hj; omega
  have r1 : rW w M1 V := rW_eq h fun j hj => f2 _ (nw j hj)
  have hD := tB hD
  obtain ⟨M2, e2, _, hD⟩ := hD
  have hD := tB0 hD
  obtain ⟨M3, e3, _, _, M4, e4, _, _, M5, e5, _, _, M6, e6, _, hN⟩ := hD
  have c2 : ∀ b, b ≠ 132 → M2 b = M1 b := fun b hb => by rw [e2]; funext j; exact aPut_cell hb
  have c3 : ∀ b, b ≠ 132 → M3 b = M1 b := fun b hb => by rw [← c2 b hb, e3]; funext j; exact aPut_cell hb
  have c4 : ∀ b, b ≠ 132 → M4 b = M1 b := fun b hb => by rw [← c3 b hb, e4]; funext j; exact aPut_cell hb
  have c5 : ∀ b, b ≠ 132 → M5 b = M1 b := fun b hb => by rw [← c4 b hb, e5]; funext j; exact aPut_cell hb
  have c6 : ∀ b, b ≠ 132 → M6 b = M1 b := fun b hb => by rw [← c5 b hb, e6]; funext j; exact aPut_cell hb
  rw [f225_V hV r1 hi hi24, f225_V hV r1 hj hj24] at e2
  have kn : (if f_37 (M1 (w + 2) i) p3 = 0 then kI 0 else kI 1) = V 195 (24 * i + j) := by
    have a := (r1.2.2.2.1 i j hi24 hj24).1
    have b := hV.2.2.1 (24 * i + j) (by omega)
    by_cases c : f_37 (M1 (w + 2) i) p3 = 0
    · rw [if_pos c]
      rw [f37_n hj (by omega), a, decide_eq_false_iff_not] at c
      exact (b.resolve_right c).symm
    · rw [if_neg c]
      rw [f37_y hj (by omega), a, decide_eq_true_iff] at c
      exact c.symm
  rw [c2 _ (nw 2 (by decide)), ix_of hi, kn] at e3
  have l1 : M1 (w + 3) (24 * i + j) = lkV V i j := (r1.2.2.2.1 i j hi24 hj24).2
  have l2 : M1 (w + 3) (24 * j + i) = lkV V j i := (r1.2.2.2.1 j i hj24 hi24).2
  have l3 : M1 (w + 1) j = V 190 j := (r1.2.2.1 j hj24).2.2
  rw [c3 _ (nw 3 (by decide)), (ix24 hi hj hi24 hj24).1, l1] at e4
  rw [c4 _ (nw 3 (by decide)), (ix24 hj hi hj24 hi24).1, l2] at e5
  rw [c5 _ (nw 1 (by decide)), ix_of hj, l3] at e6
  rw [hN]
  refine ⟨fun k hk => ?_, fun b hb => by rw [c6 b hb, f2 b hb]⟩
  rw [e6, aPut_row, e5, aPut_row, e4, aPut_row, e3, aPut_row, e2, aPut_row, f1 k hk]
  rfl


/-! the class's facts (row 135) -/
theorem fils_w {p1 : Int32} {M v N} (h : D_240_135 p1 M v N) : (∀ k, k < 14 → N 135 k = p1) ∧ ∀ b, b ≠ 135 → N b = M b := by
  have q := h (fun x2 x3 M' v N => ∀ i : Nat, x2.toInt = i → i ≤ 14 → x3 = Int32.ofNat 14 → (∀ k, k < i → M' 135 k = p1) → (∀ b, b ≠ 135 → M' b = M b) → (∀ k, k < 14 → N 135 k = p1) ∧ ∀ b, b ≠ 135 → N b = M b) ?_
  · exact q 0 rfl (Nat.zero_le _) rfl (fun k hk => absurd hk (Nat.not_lt_zero k)) (fun _ _ => rfl)
  · intro x2 x3 M' v N hs i hi hi14 h3 hk hb
    have k14 : (Int32.ofNat 14).toInt = 14 := rfl
    rcases hs with ⟨g, _, hN⟩ | ⟨g, _, M1, e1, hs⟩
    · rw [h3, i_le, hi, k14] at g
      rw [hN]
      exact ⟨fun k hk2 => hk k (by omega), hb⟩
    · rw [h3, i_le, hi, k14] at g
      rw [ix_of hi] at e1
      refine hs (i + 1) (n_add1 hi (by omega)) (by omega) h3 (fun k hk2 => ?_) (fun b hb2 => ?_)
      · rw [e1, aPut_row]
        by_cases e : k = i
        · rw [if_pos e]
        · rw [if_neg e]
          exact hk k (by omega)
      · rw [← hb b hb2, e1]
        funext j
        exact aPut_cell hb2
theorem D_165s_w {w : Nat} (hw : pK 10 w = true) {M V : pMem} (h : rW w M V) {p2 : Int32} {v N} (hD : D_165s w p2 M v N) : (∀ k, k < 14 → N 135 k = FdV V p2 k) ∧ ∀ b, b ≠ 135 → N b = M b := by
  obtain ⟨_, M1, hf, hD⟩ := hD
  obtain ⟨f1, f2⟩ := fils_w hf
  obtain ⟨_, M2, e2, _, M3, e3, _, M4, e4, hD⟩ := hD
  have hD := tB hD
  obtain ⟨M5, e5, hD⟩ := hD
  have hD := tB hD
  obtain ⟨M6, e6, hD⟩ := hD
  have hD := tB hD
  obtain ⟨M7, e7, _, hN⟩ := hD
  have c := wCell hw 0 (by decide)
  have w0 : w ≠ 135 := by omega
  have q1 : M1 w = M w := f2 w w0
  have c2 : ∀ b, b ≠ 135 → M2 b = M1 b := fun b hb => by rw [e2]; funext j; exact aPut_cell hb
  have c3 : ∀ b, b ≠ 135 → M3 b = M1 b := fun b hb => by rw [← c2 b hb, e3]; funext j; exact aPut_cell hb
  have c4 : ∀ b, b ≠ 135 → M4 b = M1 b := fun b hb => by rw [← c3 b hb, e4]; funext j; exact aPut_cell hb
  have c5 : ∀ b, b ≠ 135 → M5 b = M1 b := fun b hb => by rw [← c4 b hb, e5]; funext j; exact aPut_cell hb
  have c6 : ∀ b, b ≠ 135 → M6 b = M1 b := fun b hb => by rw [← c5 b hb, e6]; funext j; exact aPut_cell hb
  have c7 : ∀ b, b ≠ 135 → M7 b = M1 b := fun b hb => by rw [← c6 b hb, e7]; funext j; exact aPut_cell hb
  obtain ⟨_, _, _, _, ⟨_, _, t6, t7, t8, t9, t10⟩, _⟩ := h
  rw [q1, t6] at e2
  rw [c2 w w0, q1, t7] at e3
  rw [c3 w w0, q1, t8] at e4
  rw [c4 w w0, q1, t9] at e5
  rw [c5 w w0, q1, t9] at e6
  rw [c6 w w0, q1, t10] at e7
  rw [hN]
  refine ⟨fun k hk => ?_, fun b hb => by rw [c7 b hb, f2 b hb]⟩
  rw [e7, aPut_row, e6, aPut_row, e5, aPut_row, e4, aPut_row, e3, aPut_row, e2, aPut_row, f1 k hk]
  rfl
theorem D_166s_w {w : Nat} (hw : pK 10 w = true) {M V : pMem} (hV : rV V) (h : rW w M V) {p2 p3 : Int32} {i j : Nat} (hi : p2.toInt = i) (hj : p3.toInt = j) (hi24 : i < 24) (hj24 : j < 24) {v N} (hD : D_166s w p2 p3 M v N) : (∀ k, k < 14 → N 135 k = FcV V i j k) ∧ ∀ b, b ≠ 135 → N b = M b := by
  obtain ⟨_, M1, h165, hD⟩ := hD
  rw [f225_V hV h hi hi24] at h165
  obtain ⟨f1, f2⟩ := D_165s_w hw h h165
  have nw : ∀ j, j < 5 → w + j ≠ 135 := fun j hj => by have := wCell hw j hj; omega
  have r1 : rW w M1 V := rW_eq h fun j hj => f2 _ (nw j hj)
  have hD := tB hD
  obtain ⟨M2, e2, _, hD⟩ := hD
  have hD := tB0 hD
  obtain ⟨M3, e3, _, _, M4, e4, _, _, M5, e5, _, _, M6, e6, _, hN⟩ := hD
  have c2 : ∀ b, b ≠ 135 → M2 b = M1 b := fun b hb => by rw [e2]; funext j; exact aPut_cell hb
  have c3 : ∀ b, b ≠ 135 → M3 b = M1 b := fun b hb => by rw [← c2 b hb, e3]; funext j; exact aPut_cell hb
  have c4 : ∀ b, b ≠ 135 → M4 b = M1 b := fun b hb => by rw [← c3 b hb, e4]; funext j; exact aPut_cell hb
  have c5 : ∀ b, b ≠ 135 → M5 b = M1 b := fun b hb => by rw [← c4 b hb, e5]; funext j; exact aPut_cell hb
  have c6 : ∀ b, b ≠ 135 → M6 b = M1 b := fun b hb => by rw [← c5 b hb, e6]; funext j; exact aPut_cell hb
  rw [f225_V hV r1 hi hi24, f225_V hV r1 hj hj24] at e2
  have kn : (if f_37 (M1 (w + 2) i) p3 = 0 then kI 0 else kI 1) = V 195 (24 * i + j) := by
    have a := (r1.2.2.2.1 i j hi24 hj24).1
    have b := hV.2.2.1 (24 * i + j) (by omega)
    by_cases c : f_37 (M1 (w + 2) i) p3 = 0
    · rw [if_pos c]
      rw [f37_n hj (by omega), a, decide_eq_false_iff_not] at c
      exact (b.resolve_right c).symm
    · rw [if_neg c]
      rw [f37_y hj (by omega), a, decide_eq_true_iff] at c
      exact c.symm
  rw [c2 _ (nw 2 (by decide)), ix_of hi, kn] at e3
  have l1 : M1 (w + 3) (24 * i + j) = lkV V i j := (r1.2.2.2.1 i j hi24 hj24).2
  have l2 : M1 (w + 3) (24 * j + i) = lkV V j i := (r1.2.2.2.1 j i hj24 hi24).2
  have l3 : M1 (w + 1) j = V 190 j := (r1.2.2.1 j hj24).2.2
  rw [c3 _ (nw 3 (by decide)), (ix24 hi hj hi24 hj24).1, l1] at e4
  rw [c4 _ (nw 3 (by decide)), (ix24 hj hi hj24 hi24).1, l2] at e5
  rw [c5 _ (nw 1 (by decide)), ix_of hj, l3] at e6
  rw [hN]
  refine ⟨fun k hk => ?_, fun b hb => by rw [c6 b hb, f2 b hb]⟩
  rw [e6, aPut_row, e5, aPut_row, e4, aPut_row, e3, aPut_row, e2, aPut_row, f1 k hk]
  rfl


theorem D_167c_w {w : Nat} (hw : pK 10 w = true) {M V : pMem} (hV : rV V) (h : rW w M V) {p2 : Int32} (hp : bo p2) {v N} (hD : D_167c w p2 M v N) : (∀ k, k < 14 → N 132 k = FlV V p2 k) ∧ ∀ b, b ≠ 132 → N b = M b := by
  obtain ⟨_, M1, h165, v2, M2, h231, _, M3, e3, v3, M4, h231b, _, M5, e5, _, M6, e6, _, hN⟩ := hD
  obtain ⟨f1, f2⟩ := D_165c_w hw h h165
  have nw : ∀ j, j < 5 → w + j ≠ 132 := fun j hj => by have := wCell hw j hj; omega
  have r1 : rW w M1 V := rW_eq h fun j hj => f2 _ (nw j hj)
  obtain ⟨m1, m2⟩ := mem_w hV h hp
  obtain ⟨a1, a2⟩ := D_231_w m2 m2 h231
  rw [mn_w r1 m1 m1] at a1
  rw [a2, a1] at e3
  have c3 : ∀ b, b ≠ 132 → M3 b = M1 b := fun b hb => by rw [e3]; funext j; exact aPut_cell hb
  have r3 : rW w M3 V := rW_eq r1 fun j hj => c3 _ (nw j hj)
  obtain ⟨o1, o2⟩ := mem_w hV r3 (bo_o hp)
  obtain ⟨b1, b2⟩ := D_231_w m2 o2 h231b
  rw [mn_w r3 m1 o1] at b1
  rw [b2, b1] at e5
  have c5 : ∀ b, b ≠ 132 → M5 b = M1 b := fun b hb => by rw [← c3 b hb, e5]; funext j; exact aPut_cell hb
  rw [f239_24 m2, cN_cg m1] at e6
  have c6 : ∀ b, b ≠ 132 → M6 b = M1 b := fun b hb => by rw [← c5 b hb, e6]; funext j; exact aPut_cell hb
  rw [hN]
  refine ⟨fun k hk => ?_, fun b hb => by rw [c6 b hb, f2 b hb]⟩
  rw [e6, aPut_row, e5, aPut_row, e3, aPut_row, f1 k hk]
  rfl
theorem D_168c_w {w : Nat} (hw : pK 10 w = true) {M V : pMem} (hV : rV V) (h : rW w M V) {p2 : Int32} {b : Nat} (hb : p2.toInt = b) (hb24 : b < 24) {v N} (hD : D_168c w p2 M v N) : (∀ k, k < 14 → N 132 k = FbV V b k) ∧ ∀ b, b ≠ 132 → N b = M b := by
  obtain ⟨_, M1, h165, v2, M2, h231, _, M3, e3, v3, M4, h231b, _, M5, e5, v4, M6, h231c, _, M7, e7, _, _, M8, e8, _, M9, e9, _, hN⟩ := hD
  have l0 := f225_V hV h hb hb24
  rw [l0] at h165 h231 h231b h231c e9
  have bl := (hV.2.1 b hb24).1
  obtain ⟨f1, f2⟩ := D_165c_w hw h h165
  have nw : ∀ j, j < 5 → w + j ≠ 132 := fun j hj => by have := wCell hw j hj; omega
  have r1 : rW w M1 V := rW_eq h fun j hj => f2 _ (nw j hj)
  obtain ⟨m1, m2⟩ := mem_w hV h bl
  obtain ⟨s1, s2⟩ := sgl_w hb hb24
  obtain ⟨a1, a2⟩ := D_231_w m2 s2 h231
  rw [mn_w r1 m1 s1] at a1
  rw [a2, a1] at e3
  have c3 : ∀ b, b ≠ 132 → M3 b = M1 b := fun b hb => by rw [e3]; funext j; exact aPut_cell hb
  have r3 : rW w M3 V := rW_eq r1 fun j hj => c3 _ (nw j hj)
  obtain ⟨o1, o2⟩ := mem_w hV r3 (bo_o bl)
  obtain ⟨b1, b2⟩ := D_231_w o2 s2 h231b
  rw [mn_w r3 o1 s1] at b1
  rw [b2, b1] at e5
  have c5 : ∀ b, b ≠ 132 → M5 b = M1 b := fun b hb => by rw [← c3 b hb, e5]; funext j; exact aPut_cell hb
  have r5 : rW w M5 V := rW_eq r1 fun j hj => c5 _ (nw j hj)
  obtain ⟨d1, d2⟩ := D_231_w s2 m2 h231c
  rw [mn_w r5 s1 m1] at d1
  rw [d2, d1] at e7
  have c7 : ∀ b, b ≠ 132 → M7 b = M1 b := fun b hb => by rw [← c5 b hb, e7]; funext j; exact aPut_cell hb
  have l3 : M1 (w + 1) b = V 190 b := (r1.2.2.1 b hb24).2.2
  rw [c7 _ (nw 1 (by decide)), ix_of hb, l3] at e8
  have c8 : ∀ b, b ≠ 132 → M8 b = M1 b := fun b hb => by rw [← c7 b hb, e8]; funext j; exact aPut_cell hb
  rw [f239_24 m2, cN_cg m1] at e9
  have c9 : ∀ b, b ≠ 132 → M9 b = M1 b := fun b hb => by rw [← c8 b hb, e9]; funext j; exact aPut_cell hb
  rw [hN]
  refine ⟨fun k hk => ?_, fun b hb => by rw [c9 b hb, f2 b hb]⟩
  rw [e9, aPut_row, e8, aPut_row, e7, aPut_row, e5, aPut_row, e3, aPut_row, f1 k hk]
  rfl
